/-! send. -/
theorem m_there {m a : Nat} (hm : m < 256) (ha : a < 8) : nI m &&& ((1 : Int32) <<< (nI a &&& 31) ^^^ (-1)) = nI (m &&& (255 ^^^ 2 ^ a)) := by rw [shl1 (by omega), nI_andn hm]
theorem odd_bit (s : Nat) : (nI s &&& 1 = 0) ↔ s.testBit 0 = false := by
  rw [and1, bt_nI (by decide)]
  cases s.testBit 0 <;> decide
theorem mSoul {s : Nat} : fX11_hasSoul (nI s) = some (b2 (s.testBit 0)) := by
  unfold fX11_hasSoul
  rw [and1, bt_nI (by decide)]
  cases s.testBit 0 <;> rfl
/-- the row behind a send that is taken -/
def rSent (r : Nat → Int32) (b a s : Nat) (loss : Int32) : Nat → Int32 := if s.testBit 0 then rOver r b a loss else rCheat (rOver r b a loss) b (nI s)
theorem pow_le {a b : Nat} (h : a ≤ b) : 2 ^ a ≤ 2 ^ b := Nat.pow_le_pow_right (by decide) h
theorem WFG_lost {T : Txt} {r : Nat → Int32} {v : Int32} (h : WFG T r) (hW : WFT T) : WFG T (upd r 22 v) := by
  obtain ⟨h1, h2, ⟨c, c1, c2, c3⟩, m, m1, m2⟩ := h
  have hw := hW.1
  refine ⟨fun b hb => ?_, fun b hb => ?_, ⟨c, c1, by rw [upn (by omega)]; exact c2, fun k hk => by rw [upn (by omega)]; exact c3 k hk⟩, m, m1, by rw [upn (by omega)]; exact m2⟩
  · rw [upn (by omega), upn (by omega)]; exact h1 b hb
  · rw [upn (by omega)]; exact h2 b hb
theorem WFG_over {T : Txt} {r : Nat → Int32} {b a : Nat} {loss : Int32} (h : WFG T r) (hW : WFT T) (hb : b < T.1 3) (ha : a < T.1 1) (h0 : r (4 + b) = 0) : WFG T (rOver r b a loss) := by
  obtain ⟨h1, h2, ⟨c, c1, c2, c3⟩, m, m1, m2⟩ := h
  have hw := hW.1
  have hm : m < 256 := Nat.lt_of_lt_of_le m1 (Nat.le_trans (pow_le hw.2.1) (by decide))
  unfold rOver
  refine ⟨fun d hd => ?_, fun d hd => ?_, ⟨c, c1, by rw [upn (by omega), upn (by omega), upn (by omega)]; exact c2, fun k hk => by rw [upn (by omega), upn (by omega), upn (by omega)]; exact c3 k hk⟩, m &&& (255 ^^^ 2 ^ a), Nat.lt_of_le_of_lt Nat.and_le_left m1, ?_⟩
  · obtain ⟨s, s1, s2, s3⟩ := h1 d hd
    refine ⟨s, s1, by rw [upn (by omega), upn (by omega), upn (by omega)]; exact s2, fun hp => ?_⟩
    by_cases e : d = b
    · subst e; exact s3 (by rw [h0]; decide)
    · rw [upn (by omega), upn (by omega), upn (by omega)] at hp; exact s3 hp
  · by_cases e : d = b
    · subst e; rw [ups]; exact ⟨Or.inr (Or.inl rfl), fun q => by omega⟩
    · rw [upn (by omega), upn (by omega), upn (by omega)]; exact h2 d hd
  · rw [upn (by omega), ups, m2, m_there hm (by omega)]
theorem WFG_learn {T : Txt} {r : Nat → Int32} {s : Nat} (h : WFG T r) (hW : WFT T) (hs : s < 256) : WFG T (rLearn r (nI s)) := by
  obtain ⟨h1, h2, ⟨c, c1, c2, c3⟩, m, m1, m2⟩ := h
  have hw := hW.1
  unfold rLearn
  rw [c2]
  by_cases e9 : c = 9
  · subst e9; rw [if_pos (show nI 9 = 9 from rfl)]; exact ⟨h1, h2, ⟨9, by omega, c2, c3⟩, m, m1, m2⟩
  · rw [if_neg (show ¬ nI c = 9 from fun q => e9 ((nI_eq (b := 9) (by omega) (by decide)).mp q)), nI_clamp (by omega), nI_1]
    refine ⟨fun b hb => ?_, fun b hb => ?_, ⟨c + 1, by omega, ups, fun k hk => ?_⟩, m, m1, by rw [upn (by omega), upn (by omega)]; exact m2⟩
    · rw [upn (by omega), upn (by omega), upn (by omega), upn (by omega)]; exact h1 b hb
    · rw [upn (by omega), upn (by omega)]; exact h2 b hb
    · rw [upn (by omega)]
      by_cases e : k = c
      · subst e; rw [ups]; exact ⟨s, hs, rfl⟩
      · rw [upn (by omega)]; exact c3 k (by omega)
theorem WFG_lose {T : Txt} {r : Nat → Int32} {b : Nat} (h : WFG T r) (hW : WFT T) (hb : b < T.1 3) (hp : r (4 + b) ≠ 2) : WFG T (rLose r b) := by
  obtain ⟨h1, h2, ⟨c, c1, c2, c3⟩, m, m1, m2⟩ := h
  have hw := hW.1
  obtain ⟨s, s1, s2, s3⟩ := h1 b hb
  obtain ⟨k, rfl⟩ : ∃ k, s = k + 1 := ⟨s - 1, by have := s3 hp; omega⟩
  unfold rLose
  rw [s2, nI_pred]
  by_cases e0 : k = 0
  · subst e0
    rw [if_pos (show nI 0 = 0 from rfl)]
    refine ⟨fun d hd => ?_, fun d hd => ?_, ⟨c, c1, by rw [upn (by omega), upn (by omega)]; exact c2, fun j hj => by rw [upn (by omega), upn (by omega)]; exact c3 j hj⟩, m, m1, by rw [upn (by omega), upn (by omega)]; exact m2⟩
    · by_cases e : d = b
      · subst e; rw [upn (by omega), ups, ups]; exact ⟨0, by omega, rfl, fun q => absurd rfl q⟩
      · rw [upn (by omega), upn (by omega), upn (by omega), upn (by omega)]; exact h1 d hd
    · by_cases e : d = b
      · subst e; rw [ups]; exact ⟨Or.inr (Or.inr rfl), fun q => by omega⟩
      · rw [upn (by omega), upn (by omega)]; exact h2 d hd
  · rw [if_neg (nI_ne0 (by omega) (by omega))]
    refine ⟨fun d hd => ?_, fun d hd => ?_, ⟨c, c1, by rw [upn (by omega)]; exact c2, fun j hj => by rw [upn (by omega)]; exact c3 j hj⟩, m, m1, by rw [upn (by omega)]; exact m2⟩
    · by_cases e : d = b
      · subst e; rw [ups]; exact ⟨k, by omega, rfl, fun _ => by omega⟩
      · rw [upn (by omega), upn (by omega)]; exact h1 d hd
    · rw [upn (by omega)]; exact h2 d hd
theorem WFG_tc {T : Txt} {r : Nat → Int32} {v : Int32} (h : WFG T r) (hW : WFT T) : WFG T (upd r 24 v) := by
  obtain ⟨h1, h2, ⟨c, c1, c2, c3⟩, m, m1, m2⟩ := h
  have hw := hW.1
  refine ⟨fun b hb => ?_, fun b hb => ?_, ⟨c, c1, by rw [upn (by omega)]; exact c2, fun k hk => by rw [upn (by omega)]; exact c3 k hk⟩, m, m1, by rw [upn (by omega)]; exact m2⟩
  · rw [upn (by omega), upn (by omega)]; exact h1 b hb
  · rw [upn (by omega)]; exact h2 b hb
/-- nothing but now has changed in the class -/
def E53 (G G2 : Hp) : Prop := G2.2 = G.2 ∧ ∀ q k, ¬ (53 ≤ q ∧ q ≤ 57) → G2.1 q k = G.1 q k
theorem E53.tr {G G2 G3 : Hp} (h : E53 G G2) (h2 : E53 G2 G3) : E53 G G3 := ⟨h2.1.trans h.1, fun q k hn => (h2.2 q k hn).trans (h.2 q k hn)⟩
theorem e53_s {G : Hp} {q k : Nat} {v : Int32} (h : 53 ≤ q ∧ q ≤ 57) : E53 G (sI G q k v) := ⟨rfl, fun q2 k2 hn => sI_ne (by omega)⟩
theorem E53.rf {G : Hp} : E53 G G := ⟨rfl, fun _ _ _ => rfl⟩
theorem xLose {t b : Nat} {T : Txt} {r : Nat → Int32} {G : Hp} (hx : LX t G) (hW : WFT T) (h : XG T 53 r G) (hw : WFG T r) (hb : b < T.1 3) (hp : r (4 + b) ≠ 2) : ∃ G2, fX1_loseStones SHX G 53 (nI b) 1 = some G2 ∧ E53 G G2 ∧ XG T 53 (rLose r b) G2 := by
  have hw1 := hW.1
  obtain ⟨s, s1, s2, s3⟩ := hw.1 b hb
  obtain ⟨k, rfl⟩ : ∃ k, s = k + 1 := ⟨s - 1, by have := s3 hp; omega⟩
  have hg : isG 53 := Or.inl rfl
  unfold fX1_loseStones rLose
  rw [xg_0 hg hx]
  simp only [Option.bind_some]
  rw [aI_n (by rw [xgn_0 hg]; omega) (by omega), (h.1 b hb).1, s2, nI_pred]
  simp only [Option.bind_some]
  have e : imax 0 (nI k) = nI k := by
    unfold imax
    split
    · rfl
    · rename_i q
      cases k with
      | zero => rfl
      | succ k => exact absurd (nI_lt (a := 0) (by omega) (by omega)) q
  rw [nI_pred, e, asI_n (by rw [xgn_0 hg]; omega) (by omega)]
  simp only [Option.bind_some]
  have hx2 : LX t (sI G (53 + 1) b (nI k)) := hx
  rw [xg_0 hg hx2, xg_1 hg hx2]
  simp only [Option.bind_some]
  rw [aI_n (by rw [xgn_0 hg]; omega) (by omega), sI_same]
  simp only [Option.bind_some]
  by_cases e0 : nI k = 0
  · rw [if_pos e0, if_pos e0, asI_n (by rw [xgn_1 hg]; omega) (by omega)]
    exact ⟨_, rfl, (e53_s (by omega)).tr (e53_s (by omega)), (h.st (by omega) (by omega)).ph (by omega) (by omega)⟩
  · rw [if_neg e0, if_neg e0]
    exact ⟨_, rfl, e53_s (by omega), h.st (by omega) (by omega)⟩
theorem rLose_21 {r : Nat → Int32} {b : Nat} (hb : b < 4) : rLose r b 21 = r 21 := by
  unfold rLose
  split
  · rw [upn (by omega), upn (by omega)]
  · rw [upn (by omega)]

theorem rLL {r : Nat → Int32} {b c : Nat} {s : Int32} (hb : b < 4) (hc : c ≤ 9) (h21 : r 21 = nI c) : rLose (rLearn r s) b = rLearn (rLose r b) s := by
  have q21 := rLose_21 (r := r) hb
  unfold rLearn
  rw [q21, h21]
  by_cases e9 : nI c = 9
  · rw [if_pos e9, if_pos e9]
  · rw [if_neg e9, if_neg e9, nI_clamp (by omega)]
    have e1 : upd (upd r (12 + c) s) 21 (nI c + 1) b = r b := by rw [upn (by omega), upn (by omega)]
    unfold rLose
    rw [e1]
    by_cases v0 : r b - 1 = 0
    · rw [if_pos v0, if_pos v0, fa_upd_swap _ (show 21 ≠ b by omega), fa_upd_swap r (show 12 + c ≠ b by omega), fa_upd_swap _ (show 21 ≠ 4 + b by omega), fa_upd_swap _ (show 12 + c ≠ 4 + b by omega)]
    · rw [if_neg v0, if_neg v0, fa_upd_swap _ (show 21 ≠ b by omega), fa_upd_swap r (show 12 + c ≠ b by omega)]
theorem xLearn {t c : Nat} {T : Txt} {r : Nat → Int32} {G : Hp} {s : Int32} (hx : LX t G) (hW : WFT T) (h : XG T 53 r G) (hc : c ≤ 9) (h21 : r 21 = nI c) : ∃ G2, fX1_learn SHX G 53 s = some G2 ∧ E53 G G2 ∧ XG T 53 (rLearn r s) G2 := by
  have hw1 := hW.1
  have hg : isG 53 := Or.inl rfl
  unfold fX1_learn rLearn
  rw [xg_3 hg hx]
  simp only [Option.bind_some]
  rw [xgn_3 hg, h.2.2.2.1, h21]
  by_cases e9 : c = 9
  · subst e9; rw [if_pos (show nI 9 ≤ nI 9 by decide), if_pos (show nI 9 = 9 from rfl)]
    exact ⟨G, rfl, E53.rf, h⟩
  · rw [if_neg (nI_ge (b := 9) (by omega) (by decide)), if_neg (show ¬ nI c = 9 from fun q => e9 ((nI_eq (b := 9) (by omega) (by decide)).mp q)), asI_n (by rw [xgn_3 hg]; omega) (by omega), nI_clamp (by omega)]
    simp only [Option.bind_some, bd]
    rw [show (sI G (53 + 4) c s).1 53 4 = nI c by rw [sI_ne (by omega), h.2.2.2.1, h21], nI_1]
    exact ⟨_, rfl, (e53_s (by omega)).tr (e53_s (by omega)), h.lr (by omega) (by omega) h21⟩
theorem xCheat {t b s : Nat} {T : Txt} {r : Nat → Int32} {G : Hp} (hx : LX t G) (hW : WFT T) (h : XG T 53 r G) (hw : WFG T r) (hb : b < T.1 3) (hp : r (4 + b) ≠ 2) (hs : s < 256) : ∃ G2, fX1_cheat SHX G 53 (nI b) (nI s) = some G2 ∧ E53 G G2 ∧ XG T 53 (rCheat r b (nI s)) G2 := by
  have hw1 := hW.1
  unfold fX1_cheat
  simp only [bd]
  rw [h.2.2.2.2.1]
  have h1 : XG T 53 (upd r 24 (r 24 + 1)) (sI G 53 5 (r 24 + 1)) := h.f5 (by omega)
  have w1 : WFG T (upd r 24 (r 24 + 1)) := WFG_tc hw hW
  have hx1 : LX t (sI G 53 5 (r 24 + 1)) := hx
  obtain ⟨c, hc, h21, -⟩ := w1.2.2.1
  obtain ⟨G2, l1, l2, l3⟩ := xLearn (s := nI s) hx1 hW h1 hc h21
  rw [l1]
  simp only [Option.bind_some]
  have hx2 : LX t G2 := hx1.same (by rw [l2.1])
  have hp2 : rLearn (upd r 24 (r 24 + 1)) (nI s) (4 + b) ≠ 2 := by
    unfold rLearn
    rw [h21]
    split
    · rw [upn (by omega)]; exact hp
    · rw [nI_clamp (by omega), upn (by omega), upn (by omega), upn (by omega)]; exact hp
  obtain ⟨G3, p1, p2, p3⟩ := xLose hx2 hW l3 (WFG_learn w1 hW hs) hb hp2
  rw [p1]
  refine ⟨G3, rfl, (e53_s (by omega)).tr (l2.tr p2), ?_⟩
  rw [rLL (by omega) hc h21] at p3
  exact p3
theorem xOver {t b a : Nat} {T : Txt} {r : Nat → Int32} {G : Hp} {loss : Int32} (hx : LX t G) (hW : WFT T) (h : XG T 53 r G) (hb : b < T.1 3) : ∃ G2, fX1_goOver SHX (sI G 53 7 (G.1 53 7 + loss)) 53 (nI b) (nI a) = some G2 ∧ E53 G G2 ∧ XG T 53 (rOver r b a loss) G2 := by
  have hw1 := hW.1
  have hg : isG 53 := Or.inl rfl
  have hx1 : LX t (sI G 53 7 (G.1 53 7 + loss)) := hx
  unfold fX1_goOver
  rw [xg_1 hg hx1]
  simp only [Option.bind_some]
  rw [asI_n (by rw [xgn_1 hg]; omega) (by omega)]
  simp only [Option.bind_some, bd]
  have e6 : (sI (sI G 53 7 (G.1 53 7 + loss)) (53 + 2) b 1).1 53 6 = r 25 := by rw [sI_ne (by omega), sI_ne (by omega)]; exact h.2.2.2.2.2.1
  rw [e6]
  refine ⟨_, rfl, (e53_s (by omega)).tr ((e53_s (by omega)).tr (e53_s (by omega))), ?_⟩
  have h7 : XG T 53 (upd r 22 (r 22 + loss)) (sI G 53 7 (G.1 53 7 + loss)) := by
    have := h.f7 (v := r 22 + loss) (by omega)
    rw [h.2.2.2.2.2.2.1]; exact this
  have h2 := (h7.ph (v := 1) (b := b) (by omega) (by omega)).f6 (v := r 25 &&& ((1 : Int32) <<< (nI a &&& 31) ^^^ (-1))) (by omega)
  unfold rOver
  rw [fa_upd_swap _ (show 25 ≠ 4 + b by omega)]
  exact h2
theorem mOver {l b a s : Nat} {T : Txt} {r : Nat → Int32} {G : Hp} (hM : ML0 l T G) (hR : MR r G) (hw : WFG T r) (hb : b < T.1 3) (ha : a < T.1 1) (h0 : r (4 + b) = 0) (hs : s < 256) : ∃ G2, fX11_goesOver SHM G 0 (nI b) (nI a) (nI s) = some (if s.testBit 0 then 1 else 2, G2) ∧ EssM G G2 ∧ MR (rSent r b a s (nI (T.2.1 0 a))) G2 ∧ (∀ q k, q ≠ 40 → G2.1 q k = G.1 q k) := by
  have hW := hM.2.2.2.2
  have hw1 := hW.1
  have hL := hM.1
  unfold fX11_goesOver
  rw [ml_59 hL, ml_25 hL]
  simp only [Option.bind_some]
  rw [show (22 : Int32) = nI 22 from rfl, m40 (by decide), hR 22 (by decide), aI_7 hM mn_12 (by omega), (hM.2.2.2.1.2.1 a ha).1]
  simp only [Option.bind_some]
  rw [ms40 (by decide)]
  simp only [Option.bind_some]
  have R5 := hR.s (k := 22) (v := r 22 + nI (T.2.1 0 a))
  generalize hG5 : sI G 40 22 (r 22 + nI (T.2.1 0 a)) = G5 at R5
  have L5 : LM G5 := by rw [← hG5]; exact hL
  have e5 : EssM G G5 := by rw [← hG5]; exact essM_s40
  have d5 : ∀ q k, q ≠ 40 → G5.1 q k = G.1 q k := fun q k hq => by rw [← hG5]; exact sI_ne (Or.inl hq)
  rw [ml_59 L5]
  simp only [Option.bind_some]
  rw [show (25 : Int32) = nI 25 from rfl, m40 (by decide), R5 25 (by decide), upn (by decide)]
  simp only [Option.bind_some]
  rw [ms40 (by decide)]
  simp only [Option.bind_some]
  have R8 := R5.s (k := 25) (v := r 25 &&& ((1 : Int32) <<< (nI a &&& 31) ^^^ (-1)))
  generalize hG8 : sI G5 40 25 (r 25 &&& ((1 : Int32) <<< (nI a &&& 31) ^^^ (-1))) = G8 at R8
  have L8 : LM G8 := by rw [← hG8]; exact L5
  have e8 : EssM G G8 := by rw [← hG8]; exact e5.tr essM_s40
  have d8 : ∀ q k, q ≠ 40 → G8.1 q k = G.1 q k := fun q k hq => by rw [← hG8, sI_ne (Or.inl hq)]; exact d5 q k hq
  rw [ml_59 L8]
  simp only [Option.bind_some]
  rw [show (4 : Int32) + nI b = nI (4 + b) from nI_add 4 b, ms40 (by omega)]
  simp only [Option.bind_some]
  have R10 := R8.s (k := 4 + b) (v := 1)
  generalize hG10 : sI G8 40 (4 + b) 1 = G10 at R10
  have L10 : LM G10 := by rw [← hG10]; exact L8
  have e10 : EssM G G10 := by rw [← hG10]; exact e8.tr essM_s40
  have d10 : ∀ q k, q ≠ 40 → G10.1 q k = G.1 q k := fun q k hq => by rw [← hG10, sI_ne (Or.inl hq)]; exact d8 q k hq
  have R10' : MR (rOver r b a (nI (T.2.1 0 a))) G10 := R10
  rw [mSoul]
  simp only [Option.bind_some]
  unfold rSent
  cases hsb : s.testBit 0 with
  | true =>
    rw [if_neg (show ¬ b2 true = 0 by decide)]
    exact ⟨G10, rfl, e10, R10', d10⟩
  | false =>
    rw [if_pos (show b2 false = 0 from rfl), ml_59 L10]
    simp only [Option.bind_some]
    have wO := WFG_over (loss := nI (T.2.1 0 a)) hw hW hb ha h0
    generalize rOver r b a (nI (T.2.1 0 a)) = ro at R10' wO
    have hp1 : ro (4 + b) = 1 := by
      have := R10' (4 + b) (by omega)
      rw [← this, ← hG10]; exact sI_same
    rw [show (24 : Int32) = nI 24 from rfl, m40 (by decide), R10' 24 (by decide)]
    simp only [Option.bind_some]
    rw [ms40 (by decide)]
    simp only [Option.bind_some]
    have R15 := R10'.s (k := 24) (v := ro 24 + 1)
    have w15 := WFG_tc (v := ro 24 + 1) wO hW
    generalize hG15 : sI G10 40 24 (ro 24 + 1) = G15 at R15
    have L15 : LM G15 := by rw [← hG15]; exact L10
    have e15 : EssM G G15 := by rw [← hG15]; exact e10.tr essM_s40
    have d15 : ∀ q k, q ≠ 40 → G15.1 q k = G.1 q k := fun q k hq => by rw [← hG15, sI_ne (Or.inl hq)]; exact d10 q k hq
    have hp2 : upd ro 24 (ro 24 + 1) (4 + b) ≠ 2 := by rw [upn (by omega), hp1]; decide
    unfold rCheat
    generalize upd ro 24 (ro 24 + 1) = rc at R15 w15 hp2
    rw [ml_59 L15]
    simp only [Option.bind_some]
    rw [m40 (by omega), R15 b (by omega)]
    simp only [Option.bind_some]
    rw [ms40 (by omega)]
    simp only [Option.bind_some]
    have R18 := R15.s (k := b) (v := rc b - 1)
    generalize hG18 : sI G15 40 b (rc b - 1) = G18 at R18
    have L18 : LM G18 := by rw [← hG18]; exact L15
    have e18 : EssM G G18 := by rw [← hG18]; exact e15.tr essM_s40
    have d18 : ∀ q k, q ≠ 40 → G18.1 q k = G.1 q k := fun q k hq => by rw [← hG18, sI_ne (Or.inl hq)]; exact d15 q k hq
    rw [ml_59 L18]
    simp only [Option.bind_some]
    rw [m40 (by omega), R18 b (by omega), ups]
    simp only [Option.bind_some]
    obtain ⟨c, hc, h21, -⟩ := w15.2.2.1
    by_cases v0 : rc b - 1 = 0
    · rw [if_pos v0, ms40 (by omega)]
      simp only [Option.bind_some]
      have R25 := R18.s (k := 4 + b) (v := 2)
      have el : rLose rc b = upd (upd rc b (rc b - 1)) (4 + b) 2 := by unfold rLose; rw [if_pos v0]
      rw [← el] at R25
      obtain ⟨G2, l1, l2, l3, l4⟩ := mLearns (s := nI s) (show LM (sI G18 40 (4 + b) 2) from L18) R25 hc (by rw [rLose_21 (by omega)]; exact h21)
      rw [l1]
      exact ⟨G2, rfl, (e18.tr essM_s40).tr l2, l3, fun q k hq => by rw [l4 q k hq, sI_ne (Or.inl hq)]; exact d18 q k hq⟩
    · rw [if_neg v0]
      have el : rLose rc b = upd rc b (rc b - 1) := by unfold rLose; rw [if_neg v0]
      rw [← el] at R18
      obtain ⟨G2, l1, l2, l3, l4⟩ := mLearns (s := nI s) L18 R18 hc (by rw [rLose_21 (by omega)]; exact h21)
      rw [l1]
      exact ⟨G2, rfl, e18.tr l2, l3, fun q k hq => by rw [l4 q k hq]; exact d18 q k hq⟩
