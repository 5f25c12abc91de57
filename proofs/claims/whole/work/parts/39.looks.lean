/-! WHAT A LAW LOOKS AT; what wears, mends, asks. -/
def mk (r : Nat → Int32) (h : Int32) : Nat → Nat
  | 0 => 0
  | n + 1 => if r (4 + n) = h then mk r h n ||| 2 ^ n else mk r h n
theorem mk_lt {r : Nat → Int32} {h : Int32} : ∀ n, mk r h n < 2 ^ n
  | 0 => by show 0 < 1; decide
  | n + 1 => by
    have := mk_lt (r := r) (h := h) n
    have h2 : 2 ^ n < 2 ^ (n + 1) := Nat.pow_lt_pow_right (by decide) (by omega)
    unfold mk
    split
    · exact Nat.or_lt_two_pow (Nat.lt_trans this h2) h2
    · exact Nat.lt_trans this h2
theorem mk_end {T : Txt} {r : Nat → Int32} {h : Int32} (hw : WFG T r) (h0 : h ≠ 0) : ∀ n, n ≤ 4 → T.1 3 ≤ n → mk r h n = mk r h (T.1 3)
  | 0, _, h2 => by rw [show T.1 3 = 0 by omega]
  | n + 1, h1, h2 => by
    by_cases e : T.1 3 = n + 1
    · rw [e]
    · have := mk_end hw h0 n (by omega) (by omega)
      rw [← this]
      show (if r (4 + n) = h then mk r h n ||| 2 ^ n else mk r h n) = mk r h n
      rw [if_neg (by rw [(hw.2.1 n (by omega)).2 (by omega)]; exact fun q => h0 q.symm)]
def pc (s : Nat) : Nat := ((List.range 8).filter (fun k => s.testBit k)).length
theorem pc_le {s : Nat} : pc s ≤ 8 := by
  unfold pc
  exact Nat.le_trans (List.length_filter_le _ _) (by simp)
set_option maxRecDepth 100000 in
theorem pc_all : ∀ s, s < 256 → fX11_bits (nI s) = some (nI (pc s)) ∧ fJ6_bitCount_0f7a4 (nI s) = some (nI (pc s)) := by decide +kernel
theorem xBridges {t g : Nat} {T : Txt} {r : Nat → Int32} {G : Hp} {h : Int32} (hx : LX t G) (hg : isG g) (hG : XG T g r G) : fX1_bridgesOf SHX G g h = some (nI (mk r h 4)) := by
  unfold fX1_bridgesOf
  obtain ⟨o, ho, rfl⟩ := iter_go (f := fun s : Int32 × Int32 => fX1_bridgesOf_S4 SHX g h G s.1 s.2) (P := fun i s => s = (nI (mk r h i), nI i)) (Q := fun o => o = nI (mk r h 4)) 4 ((0, 0) : Int32 × Int32) (by decide) rfl (by
    rintro i s hi rfl
    left
    dsimp only
    unfold fX1_bridgesOf_S4
    rw [if_neg (show ¬ (4 : Int32) ≤ nI i from nI_ge (b := 4) hi (by decide)), xg_1 hg hx]
    simp only [Option.bind_some]
    rw [aI_n (by rw [xgn_1 hg]; exact hi) (by omega), hG.2.1 i hi]
    simp only [Option.bind_some]
    by_cases e : r (4 + i) = h
    · rw [if_pos e, shl1 (by omega), nI_or, nI_1]
      exact ⟨_, rfl, by rw [show mk r h (i + 1) = if r (4 + i) = h then mk r h i ||| 2 ^ i else mk r h i from rfl, if_pos e]⟩
    · rw [if_neg e, nI_1]
      exact ⟨_, rfl, by rw [show mk r h (i + 1) = if r (4 + i) = h then mk r h i ||| 2 ^ i else mk r h i from rfl, if_neg e]⟩) (by
    rintro s rfl
    dsimp only
    unfold fX1_bridgesOf_S4
    rw [if_pos (show (4 : Int32) ≤ nI 4 by decide)]
    exact ⟨_, rfl, rfl⟩)
  rw [ho]; rfl
theorem mBridges {l : Nat} {T : Txt} {r : Nat → Int32} {G : Hp} {h : Int32} (hM : ML0 l T G) (hR : MR r G) (hw : WFG T r) (h0 : h ≠ 0) : fX11_bridgesSo SHM G 0 h = some (nI (mk r h 4)) := by
  have hb := hM.2.2.2.2.1
  rw [mk_end hw h0 4 (by decide) hb.2.2.2.1]
  unfold fX11_bridgesSo
  obtain ⟨o, ho, rfl⟩ := iter_go (f := fun s : Int32 × Int32 => fX11_bridgesSo_S4 SHM 0 h G s.1 s.2) (P := fun i s => s = (nI (mk r h i), nI i)) (Q := fun o => o = nI (mk r h (T.1 3))) (T.1 3) ((0, 0) : Int32 × Int32) (by omega) rfl (by
    rintro i s hi rfl
    left
    dsimp only
    unfold fX11_bridgesSo_S4
    rw [ml_31 hM.1, ml_59 hM.1]
    simp only [Option.bind_some]
    rw [aI_l (n := 0) hM mn_18, hM.2.2.2.1.1.2.2.2.1]
    simp only [Option.bind_some]
    rw [if_neg (nI_ge hi (by omega)), show (4 : Int32) + nI i = nI (4 + i) from nI_add 4 i, m40 (by omega), hR _ (by omega)]
    simp only [Option.bind_some]
    by_cases e : r (4 + i) = h
    · rw [if_pos e, shl1 (by omega), nI_or, nI_1]
      exact ⟨_, rfl, by rw [show mk r h (i + 1) = if r (4 + i) = h then mk r h i ||| 2 ^ i else mk r h i from rfl, if_pos e]⟩
    · rw [if_neg e, nI_1]
      exact ⟨_, rfl, by rw [show mk r h (i + 1) = if r (4 + i) = h then mk r h i ||| 2 ^ i else mk r h i from rfl, if_neg e]⟩) (by
    rintro s rfl
    dsimp only
    unfold fX11_bridgesSo_S4
    rw [ml_31 hM.1]
    simp only [Option.bind_some]
    rw [aI_l (n := 0) hM mn_18, hM.2.2.2.1.1.2.2.2.1]
    simp only [Option.bind_some]
    rw [if_pos (nI_le (Nat.le_refl _) (by omega))]
    exact ⟨_, rfl, rfl⟩)
  rw [ho]; rfl
def opn (r : Nat → Int32) : Int32 := nI (pc (mk r 1 4))
theorem xOpen {t g : Nat} {T : Txt} {r : Nat → Int32} {G : Hp} (hx : LX t G) (hg : isG g) (hG : XG T g r G) : fX1_countOpen SHX G g = some (opn r) := by
  unfold fX1_countOpen
  rw [xBridges hx hg hG]
  simp only [Option.bind_some]
  rw [(pc_all _ (Nat.lt_trans (mk_lt 4) (by decide))).2]
  rfl
theorem mOpen {l : Nat} {T : Txt} {r : Nat → Int32} {G : Hp} {β : Type} {f : Int32 → Option β} (hM : ML0 l T G) (hR : MR r G) (hw : WFG T r) : ((fX11_bridgesSo SHM G 0 1).bind fun r24 => (fX11_bits r24).bind f) = f (opn r) := by
  rw [mBridges hM hR hw (by decide)]
  simp only [Option.bind_some]
  rw [(pc_all _ (Nat.lt_trans (mk_lt 4) (by decide))).1]
  rfl
def vr (T : Txt) (r : Nat → Int32) (b : Nat) (lo ma : Int32) : Nat → Int32
  | 0 => r b
  | 1 => nI (T.2.1 6 b)
  | 2 => r 23
  | 3 => r (8 + b)
  | 4 => nI b
  | 5 => lo
  | 6 => ma
  | 7 => opn r
  | _ => r 21
theorem nine {i : Nat} (h : i < 9) : i = 0 ∨ i = 1 ∨ i = 2 ∨ i = 3 ∨ i = 4 ∨ i = 5 ∨ i = 6 ∨ i = 7 ∨ i = 8 := by omega
theorem s59 {G : Hp} {j : Nat} {x : Int32} (hj : j < 9) : asI SHX G 59 (nI j) x = some (sI G 59 j x) := asI_n (by rw [xnn_59]; exact hj) (by omega)
theorem n59 {G : Hp} {q j k : Nat} {x : Int32} (h : q ≠ 59) : (sI G 59 j x).1 q k = G.1 q k := sI_ne (Or.inl h)
theorem s37 {G : Hp} {j : Nat} {x : Int32} (hj : j < 9) : asI SHM G 37 (nI j) x = some (sI G 37 j x) := asI_n (by rw [mn_37]; exact hj) (by omega)
theorem n37 {G : Hp} {q j k : Nat} {x : Int32} (h : q ≠ 37) : (sI G 37 j x).1 q k = G.1 q k := sI_ne (Or.inl h)
def lk (c : Nat) (T : Txt) (r : Nat → Int32) (b : Nat) (G : Hp) : Hp := sI (sI (sI (sI (sI (sI (sI (sI (sI G c 0 (r b)) c 1 (nI (T.2.1 6 b))) c 2 (r 23)) c 3 (r (8 + b))) c 4 (nI b)) c 5 0) c 6 0) c 7 (opn r)) c 8 (r 21)
theorem lk_E {c : Nat} {T : Txt} {r : Nat → Int32} {b : Nat} {G : Hp} : E1 c G (lk c T r b G) := by
  unfold lk
  exact E1.s.tr (E1.s.tr (E1.s.tr (E1.s.tr (E1.s.tr (E1.s.tr (E1.s.tr (E1.s.tr E1.s)))))))
theorem lk_v {c : Nat} {T : Txt} {r : Nat → Int32} {b : Nat} {G : Hp} {i : Nat} (h : i < 9) : (lk c T r b G).1 c i = vr T r b 0 0 i := by
  unfold lk
  rcases nine h with rfl | rfl | rfl | rfl | rfl | rfl | rfl | rfl | rfl
  · rw [sI_ne (by omega), sI_ne (by omega), sI_ne (by omega), sI_ne (by omega), sI_ne (by omega), sI_ne (by omega), sI_ne (by omega), sI_ne (by omega), sI_same]; rfl
  · rw [sI_ne (by omega), sI_ne (by omega), sI_ne (by omega), sI_ne (by omega), sI_ne (by omega), sI_ne (by omega), sI_ne (by omega), sI_same]; rfl
  · rw [sI_ne (by omega), sI_ne (by omega), sI_ne (by omega), sI_ne (by omega), sI_ne (by omega), sI_ne (by omega), sI_same]; rfl
  · rw [sI_ne (by omega), sI_ne (by omega), sI_ne (by omega), sI_ne (by omega), sI_ne (by omega), sI_same]; rfl
  · rw [sI_ne (by omega), sI_ne (by omega), sI_ne (by omega), sI_ne (by omega), sI_same]; rfl
  · rw [sI_ne (by omega), sI_ne (by omega), sI_ne (by omega), sI_same]; rfl
  · rw [sI_ne (by omega), sI_ne (by omega), sI_same]; rfl
  · rw [sI_ne (by omega), sI_same]; rfl
  · rw [sI_same]; rfl
theorem isG_r {g : Nat} (h : isG g) : 53 ≤ g ∧ (g + 4 < 59 ∨ 61 ≤ g) := by
  rcases h with rfl | rfl | rfl | rfl | rfl | rfl | ⟨i, hi, rfl⟩ <;> omega
theorem xLook {t g b : Nat} {T : Txt} {r : Nat → Int32} {G : Hp} (hx : LX t G) (hT : XT t T G) (hW : WFT T) (hg : isG g) (hG : XG T g r G) (hb : b < T.1 3) : fX3_lookAt SHX G 58 t g (nI b) = some (lk 59 T r b G) := by
  have ht := hx.1
  have hw := hW.1
  have hgr := isG_r hg
  have hb4 : b < 4 := by omega
  obtain ⟨e1, e3⟩ := hG.1 b hb
  have e7 := (hT.2.2.2.1 b hb).2.1
  have R : ∀ {G j x}, LX t G → LX t (sI G 59 j x) := fun h => h
  unfold fX3_lookAt
  rw [xl_58_0 hx, xg_0 hg hx]
  simp only [Option.bind_some]
  rw [aI_n (by rw [xgn_0 hg]; exact hb4) (by omega), e1]
  simp only [Option.bind_some]
  rw [show (0 : Int32) = nI 0 from rfl, s59 (by decide)]
  simp only [Option.bind_some]
  have x1 := R (j := 0) (x := r b) hx
  rw [xl_58_0 x1, xt_12 ht x1]
  simp only [Option.bind_some]
  rw [aI_n (by rw [xn_12 ht]; exact hb4) (by omega), n59 (by rcases ht with rfl | rfl <;> decide), e7]
  simp only [Option.bind_some]
  rw [show (1 : Int32) = nI 1 from rfl, s59 (by decide)]
  simp only [Option.bind_some]
  have x2 := R (j := 1) (x := nI (T.2.1 6 b)) x1
  rw [xl_58_0 x2]
  simp only [Option.bind_some]
  rw [n59 (by omega), n59 (by omega), hG.2.2.2.2.2.2.2, show (2 : Int32) = nI 2 from rfl, s59 (by decide)]
  simp only [Option.bind_some]
  have x3 := R (j := 2) (x := r 23) x2
  rw [xl_58_0 x3, xg_2 hg x3]
  simp only [Option.bind_some]
  rw [aI_n (by rw [xgn_2 hg]; exact hb4) (by omega), n59 (by omega), n59 (by omega), n59 (by omega), e3]
  simp only [Option.bind_some]
  rw [show (3 : Int32) = nI 3 from rfl, s59 (by decide)]
  simp only [Option.bind_some]
  have x4 := R (j := 3) (x := r (8 + b)) x3
  rw [xl_58_0 x4]
  simp only [Option.bind_some]
  rw [show (4 : Int32) = nI 4 from rfl, s59 (by decide)]
  simp only [Option.bind_some]
  have x5 := R (j := 4) (x := nI b) x4
  rw [xl_58_0 x5]
  simp only [Option.bind_some]
  rw [show (5 : Int32) = nI 5 from rfl, s59 (by decide)]
  simp only [Option.bind_some]
  have x6 := R (j := 5) (x := nI 0) x5
  rw [xl_58_0 x6]
  simp only [Option.bind_some]
  rw [show (6 : Int32) = nI 6 from rfl, s59 (by decide)]
  simp only [Option.bind_some]
  have x7 := R (j := 6) (x := nI 0) x6
  rw [xl_58_0 x7]
  simp only [Option.bind_some]
  rw [xOpen (T := T) (r := r) x7 hg (XG_fr hG (fun q k a b => by rw [n59 (by omega), n59 (by omega), n59 (by omega), n59 (by omega), n59 (by omega), n59 (by omega), n59 (by omega)]))]
  simp only [Option.bind_some]
  rw [show (7 : Int32) = nI 7 from rfl, s59 (by decide)]
  simp only [Option.bind_some]
  have x8 := R (j := 7) (x := opn r) x7
  rw [xl_58_0 x8]
  simp only [Option.bind_some]
  rw [n59 (by omega), n59 (by omega), n59 (by omega), n59 (by omega), n59 (by omega), n59 (by omega), n59 (by omega), n59 (by omega), hG.2.2.2.1, show (8 : Int32) = nI 8 from rfl, s59 (by decide)]
  rfl
theorem mLooks {l b : Nat} {T : Txt} {r : Nat → Int32} {G : Hp} (hM : ML0 l T G) (hR : MR r G) (hw : WFG T r) (hb : b < T.1 3) : fX11_looks SHM G 0 (nI b) = some (lk 37 T r b G) := by
  have hW := hM.2.2.2.2.1
  have hb4 : b < 4 := by omega
  have e6 := (hM.2.2.2.1.2.2.2.1 b hb).2.1
  have R : ∀ {G j x}, LM G → LM (sI G 37 j x) := fun h => h
  have RM : ∀ {G j x}, ML0 l T G → ML0 l T (sI G 37 j x) := fun {G j x} h => EssM.M (EssM.sI (by unfold scrM; omega)) h
  have RR : ∀ {G j x}, MR r G → MR r (sI G 37 j x) := fun {G j x} h => h.E (fun k hk => n37 (by decide))
  unfold fX11_looks
  have m0 := hM.1
  rw [ml_55 m0, ml_59 m0]
  simp only [Option.bind_some]
  rw [m40 (by omega), hR _ (by omega)]
  simp only [Option.bind_some]
  rw [show (0 : Int32) = nI 0 from rfl, s37 (by decide)]
  simp only [Option.bind_some]
  have M1 := RM (j := 0) (x := r b) hM
  have R1 := RR (j := 0) (x := r b) hR
  rw [ml_55 M1.1, ml_33 M1.1]
  simp only [Option.bind_some]
  rw [aI_4 M1 mn_20 hb4, n37 (by decide), e6]
  simp only [Option.bind_some]
  rw [show (1 : Int32) = nI 1 from rfl, s37 (by decide)]
  simp only [Option.bind_some]
  have M2 := RM (j := 1) (x := nI (T.2.1 6 b)) M1
  have R2 := RR (j := 1) (x := nI (T.2.1 6 b)) R1
  rw [ml_55 M2.1, ml_59 M2.1]
  simp only [Option.bind_some]
  rw [show (23 : Int32) = nI 23 from rfl, m40 (by omega), R2 _ (by omega)]
  simp only [Option.bind_some]
  rw [show (2 : Int32) = nI 2 from rfl, s37 (by decide)]
  simp only [Option.bind_some]
  have M3 := RM (j := 2) (x := r 23) M2
  have R3 := RR (j := 2) (x := r 23) R2
  rw [ml_55 M3.1, ml_59 M3.1]
  simp only [Option.bind_some]
  rw [show (8 : Int32) + nI b = nI (8 + b) from nI_add 8 b, m40 (by omega), R3 _ (by omega)]
  simp only [Option.bind_some]
  rw [show (3 : Int32) = nI 3 from rfl, s37 (by decide)]
  simp only [Option.bind_some]
  have M4 := RM (j := 3) (x := r (8 + b)) M3
  have R4 := RR (j := 3) (x := r (8 + b)) R3
  rw [ml_55 M4.1]
  simp only [Option.bind_some]
  rw [show (4 : Int32) = nI 4 from rfl, s37 (by decide)]
  simp only [Option.bind_some]
  have M5 := RM (j := 4) (x := nI b) M4
  have R5 := RR (j := 4) (x := nI b) R4
  rw [ml_55 M5.1]
  simp only [Option.bind_some]
  rw [show (5 : Int32) = nI 5 from rfl, s37 (by decide)]
  simp only [Option.bind_some]
  have M6 := RM (j := 5) (x := nI 0) M5
  have R6 := RR (j := 5) (x := nI 0) R5
  rw [ml_55 M6.1]
  simp only [Option.bind_some]
  rw [show (6 : Int32) = nI 6 from rfl, s37 (by decide)]
  simp only [Option.bind_some]
  have M7 := RM (j := 6) (x := nI 0) M6
  have R7 := RR (j := 6) (x := nI 0) R6
  rw [ml_55 M7.1]
  simp only [Option.bind_some]
  rw [show nI 1 = 1 from rfl, mOpen M7 R7 hw, show (7 : Int32) = nI 7 from rfl, s37 (by decide)]
  simp only [Option.bind_some]
  have M8 := RM (j := 7) (x := opn r) M7
  have R8 := RR (j := 7) (x := opn r) R7
  rw [ml_55 M8.1, ml_59 M8.1]
  simp only [Option.bind_some]
  rw [show (21 : Int32) = nI 21 from rfl, m40 (by omega), R8 _ (by omega)]
  simp only [Option.bind_some]
  rw [show (8 : Int32) = nI 8 from rfl, s37 (by decide)]
  rfl
def hld (m : Nat) (v : Int32) : Nat := if v < 0 then 0 else min m v.toNatClampNeg
theorem hld_le {m : Nat} {v : Int32} : hld m v ≤ m := by unfold hld; split <;> omega
theorem xHeld {m : Nat} {v : Int32} (hm : 0 < m) (hm2 : m < 1000) : fX3_heldTo (nI m) v = some (nI (hld m v)) := by
  unfold fX3_heldTo hld imax imin
  by_cases h : v < 0
  · rw [if_pos h, if_pos (fa_trans h (nI_pos' (by omega))), if_neg (fun q => (fa_of_lt h).2.2.1 q)]; rfl
  · obtain ⟨j, hj, rfl⟩ := nI_of h
    rw [if_neg h, nI_clamp hj]
    by_cases h2 : j < m
    · rw [if_pos (nI_lt h2 (by omega)), Nat.min_eq_right (by omega)]
      by_cases h3 : j = 0
      · subst h3; rfl
      · rw [if_pos (show 0 < nI j from nI_lt (a := 0) (by omega) hj)]
    · rw [if_neg (nI_nlt (by omega) hj), Nat.min_eq_left (by omega), if_pos (show 0 < nI m from nI_lt (a := 0) hm (by omega))]
theorem mHeld {m : Nat} {v : Int32} (hm2 : m < 1000) : fX11_held v 0 (nI m) = some (nI (hld m v)) := by
  unfold fX11_held hld
  by_cases h : v < 0
  · rw [if_pos h, if_neg (Int32.not_le.mpr h)]; rfl
  · rw [if_pos (Int32.not_lt.mp h), if_neg h]
    obtain ⟨j, hj, rfl⟩ := nI_of h
    rw [nI_clamp hj]
    by_cases h2 : j ≤ m
    · rw [if_pos (nI_le h2 (by omega)), Nat.min_eq_right h2]
    · rw [if_neg (nI_ge (by omega) hj), Nat.min_eq_left (by omega)]
/-- what only the keeper of the class's laws uses -/
def EK (t : Nat) (G G2 : Hp) : Prop := G2.2 = G.2 ∧ ∀ q k, q ≠ 59 → q ≠ t + 12 → q ≠ t + 16 → q ≠ t + 20 → G2.1 q k = G.1 q k
theorem EK.tr {t : Nat} {G G2 G3 : Hp} (h : EK t G G2) (h2 : EK t G2 G3) : EK t G G3 := ⟨h2.1.trans h.1, fun q k a b c d => (h2.2 q k a b c d).trans (h.2 q k a b c d)⟩
theorem EK.rf {t : Nat} {G : Hp} : EK t G G := ⟨rfl, fun _ _ _ _ _ _ => rfl⟩
theorem EK.v {t : Nat} {G G2 : Hp} (h : E1 59 G G2) : EK t G G2 := ⟨h.1, fun q k a _ _ _ => h.2 q k a⟩
theorem EK.w {t k : Nat} {G G2 : Hp} (hk : k < 3) (h : E1 (t + 9 + 4 * k + 3) G G2) : EK t G G2 := ⟨h.1, fun q j a b c d => h.2 q j (by rcases (by omega : k = 0 ∨ k = 1 ∨ k = 2) with rfl | rfl | rfl <;> omega)⟩
theorem EK.X {t : Nat} {G G2 : Hp} (ht : t = 11 ∨ t = 32) (h : EK t G G2) : EssX G G2 := ⟨h.1, fun q k hn => by
  unfold scrX at hn
  exact h.2 q k (by omega) (by omega) (by omega) (by omega)⟩
theorem EK.T {t : Nat} {T : Txt} {G G2 : Hp} (ht : t = 11 ∨ t = 32) (h : EK t G G2) (hT : XT t T G) : XT t T G2 := XT_fr hT (fun q k a b c d => h.2 q k (by omega) (by omega) (by omega) (by omega)) (by rw [h.1])
theorem EK.G {t g : Nat} {T : Txt} {r : Nat → Int32} {G G2 : Hp} (ht : t = 11 ∨ t = 32) (hg : isG g) (h : EK t G G2) (hG : XG T g r G) : XG T g r G2 := by
  have := isG_r hg
  exact XG_fr hG (fun q k a b => h.2 q k (by omega) (by omega) (by omega) (by omega))
theorem EK.L {t : Nat} {G G2 : Hp} (h : EK t G G2) (hx : LX t G) : LX t G2 := hx.same (by rw [h.1])
theorem isL_t {t k : Nat} (ht : t = 11 ∨ t = 32) (hk : k < 3) : isL (t + 9 + 4 * k) := by
  unfold isL
  rcases (by omega : k = 0 ∨ k = 1 ∨ k = 2) with rfl | rfl | rfl <;> omega
theorem XT.law {t k : Nat} {T : Txt} {G : Hp} (hT : XT t T G) (hk : k < 3) : XL (t + 9 + 4 * k) (T.2.2.2 k) G := by
  rcases (by omega : k = 0 ∨ k = 1 ∨ k = 2) with rfl | rfl | rfl
  · exact hT.2.2.2.2.1
  · exact hT.2.2.2.2.2.1
  · exact hT.2.2.2.2.2.2
/-- what a law tells -/
def law (T : Txt) (k : Nat) (r : Nat → Int32) (b : Nat) (lo ma : Int32) : Int32 := evL (vr T r b lo ma) (T.2.2.2 k)
theorem xWears {t g b : Nat} {T : Txt} {r : Nat → Int32} {G : Hp} (hx : LX t G) (hT : XT t T G) (hW : WFT T) (hg : isG g) (hG : XG T g r G) (hb : b < T.1 3) : ∃ G2, fX3_wearsOf SHX G 58 t g (nI b) = some (nI (hld 9 (law T 0 r b 0 0)), G2) ∧ EK t G G2 := by
  have ht := hx.1
  have hE : EK t G (lk 59 T r b G) := EK.v lk_E
  have x2 := hE.L hx
  obtain ⟨G2, a1, a2⟩ := xValue (v := vr T r b 0 0) x2 (isL_t (k := 0) ht (by decide)) (fun i hi => lk_v hi) ((hE.T ht hT).law (by decide)) (hW.2.2.2.2 0 (by decide))
  unfold fX3_wearsOf
  rw [xLook hx hT hW hg hG hb]
  simp only [Option.bind_some]
  rw [xt_14 ht x2, xl_58_0 x2]
  simp only [Option.bind_some]
  rw [show t + 9 = t + 9 + 4 * 0 from rfl, a1]
  simp only [bp, Option.bind_some]
  rw [show (9 : Int32) = nI 9 from rfl, xHeld (by decide) (by decide)]
  exact ⟨G2, rfl, hE.tr (EK.w (k := 0) (by decide) a2)⟩
theorem xMends {t g b : Nat} {T : Txt} {r : Nat → Int32} {G : Hp} (hx : LX t G) (hT : XT t T G) (hW : WFT T) (hg : isG g) (hG : XG T g r G) (hb : b < T.1 3) : ∃ G2, fX3_mendsOf SHX G 58 t g (nI b) = some (nI (hld 99 (law T 1 r b 0 0)), G2) ∧ EK t G G2 := by
  have ht := hx.1
  have hE : EK t G (lk 59 T r b G) := EK.v lk_E
  have x2 := hE.L hx
  obtain ⟨G2, a1, a2⟩ := xValue (v := vr T r b 0 0) x2 (isL_t (k := 1) ht (by decide)) (fun i hi => lk_v hi) ((hE.T ht hT).law (by decide)) (hW.2.2.2.2 1 (by decide))
  unfold fX3_mendsOf
  rw [xLook hx hT hW hg hG hb]
  simp only [Option.bind_some]
  rw [xt_15 ht x2, xl_58_0 x2]
  simp only [Option.bind_some]
  rw [show t + 13 = t + 9 + 4 * 1 from rfl, a1]
  simp only [bp, Option.bind_some]
  rw [show (99 : Int32) = nI 99 from rfl, xHeld (by decide) (by decide)]
  exact ⟨G2, rfl, hE.tr (EK.w (k := 1) (by decide) a2)⟩
/-- what only the reference's laws use -/
def EL (G G2 : Hp) : Prop := G2.2 = G.2 ∧ ∀ q k, q ≠ 37 → q ≠ 38 → ¬ (q = 0 ∧ k = 57) → G2.1 q k = G.1 q k
theorem EL.tr {G G2 G3 : Hp} (h : EL G G2) (h2 : EL G2 G3) : EL G G3 := ⟨h2.1.trans h.1, fun q k a b c => (h2.2 q k a b c).trans (h.2 q k a b c)⟩
theorem EL.rf {G : Hp} : EL G G := ⟨rfl, fun _ _ _ _ _ => rfl⟩
theorem EL.v {G G2 : Hp} (h : E1 37 G G2) : EL G G2 := ⟨h.1, fun q k a _ _ => h.2 q k a⟩
theorem EL.w {G G2 : Hp} (h : E38 G G2) : EL G G2 := ⟨h.1, fun q k _ a b => h.2 q k a b⟩
theorem EL.M {G G2 : Hp} (h : EL G G2) : EssM G G2 := ⟨h.1, fun q k hn => h.2 q k (fun e => hn (by unfold scrM; omega)) (fun e => hn (by unfold scrM; omega)) (fun e => hn (by unfold scrM; omega))⟩
theorem EL.R {r : Nat → Int32} {G G2 : Hp} (h : EL G G2) (hR : MR r G) : MR r G2 := hR.E (fun k _ => h.2 40 k (by decide) (by decide) (by omega))
theorem mWears {l b : Nat} {T : Txt} {r : Nat → Int32} {G : Hp} (hM : ML0 l T G) (hR : MR r G) (hw : WFG T r) (hb : b < T.1 3) : ∃ G2, fX11_wearsNow SHM G 0 (nI b) = some (nI (hld 9 (law T 0 r b 0 0)), G2) ∧ EL G G2 := by
  have hE : EL G (lk 37 T r b G) := EL.v lk_E
  have M2 := hE.M.M hM
  obtain ⟨G2, a1, a2⟩ := mLaw (v := vr T r b 0 0) (k := 0) (d := 1) M2 (by decide) (fun i hi => lk_v hi) (M2.2.2.2.1.2.2.2.2 0 (by decide)) (hM.2.2.2.2.2.2.2.2 0 (by decide)) rfl
  unfold fX11_wearsNow
  rw [mLooks hM hR hw hb]
  simp only [Option.bind_some]
  rw [show (fX11_lawTells SHM (lk 37 T r b G) 0 0 1) = some (evL (vr T r b 0 0) (T.2.2.2 0), G2) from a1]
  simp only [bp, Option.bind_some]
  rw [show (9 : Int32) = nI 9 from rfl, mHeld (by decide)]
  exact ⟨G2, rfl, hE.tr (EL.w a2)⟩
theorem mMends {l b : Nat} {T : Txt} {r : Nat → Int32} {G : Hp} (hM : ML0 l T G) (hR : MR r G) (hw : WFG T r) (hb : b < T.1 3) : ∃ G2, fX11_mendsNow SHM G 0 (nI b) = some (nI (hld 99 (law T 1 r b 0 0)), G2) ∧ EL G G2 := by
  have hE : EL G (lk 37 T r b G) := EL.v lk_E
  have M2 := hE.M.M hM
  obtain ⟨G2, a1, a2⟩ := mLaw (v := vr T r b 0 0) (k := 1) (d := 1) M2 (by decide) (fun i hi => lk_v hi) (M2.2.2.2.1.2.2.2.2 1 (by decide)) (hM.2.2.2.2.2.2.2.2 1 (by decide)) rfl
  unfold fX11_mendsNow
  rw [mLooks hM hR hw hb]
  simp only [Option.bind_some]
  rw [show (fX11_lawTells SHM (lk 37 T r b G) 0 1 1) = some (evL (vr T r b 0 0) (T.2.2.2 1), G2) from a1]
  simp only [bp, Option.bind_some]
  rw [show (99 : Int32) = nI 99 from rfl, mHeld (by decide)]
  exact ⟨G2, rfl, hE.tr (EL.w a2)⟩
