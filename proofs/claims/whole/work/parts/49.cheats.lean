/-! CHEATS: cheats, bar. -/
theorem xThereB {g a : Nat} {T : Txt} {r : Nat → Int32} {G : Hp} (hG : XG T g r G) (ha : a < 32) : fX1_isThere SHX G g (nI a) = some (b2 (bt (r 25) a)) := by
  unfold fX1_isThere
  rw [hG.2.2.2.2.2.1, ush_bit _ ha]
  cases bt (r 25) a <;> rfl
theorem mThereB {a : Nat} {r : Nat → Int32} {G : Hp} (hL : LM G) (hR : MR r G) (ha : a < 32) : fX11_isThere SHM G 0 (nI a) = some (b2 (bt (r 25) a)) := by
  unfold fX11_isThere
  rw [ml_59 hL]
  simp only [ob]
  rw [show (25 : Int32) = nI 25 from rfl, m40 (by decide), hR _ (by decide)]
  simp only [ob]
  rw [shr_bit _ ha]
  cases bt (r 25) a <;> rfl
/-- whether a being that goes a way is a cheat -/
def cq (T : Txt) (r : Nat → Int32) (b a i : Nat) : Bool := bt (r 25) a && (!(aSet T a i).testBit 0 && tkn T r b (aSet T a i))
def clI (T : Txt) (r : Nat → Int32) (b a : Nat) : Nat → List Nat
  | 0 => []
  | i + 1 => if cq T r b a i then clI T r b a i ++ [aSet T a i] else clI T r b a i
def clA (T : Txt) (r : Nat → Int32) (b : Nat) : Nat → List Nat
  | 0 => []
  | a + 1 => clA T r b a ++ clI T r b a (T.1 2 + 1)
theorem clI_len {T : Txt} {r : Nat → Int32} {b a : Nat} : ∀ i, (clI T r b a i).length ≤ i
  | 0 => Nat.le_refl _
  | i + 1 => by
    have := clI_len (T := T) (r := r) (b := b) (a := a) i
    show (if cq T r b a i then clI T r b a i ++ [aSet T a i] else clI T r b a i).length ≤ i + 1
    split
    · simp; exact this
    · omega
theorem clA_len {T : Txt} {r : Nat → Int32} {b : Nat} (hW : WFT T) : ∀ a, (clA T r b a).length ≤ 5 * a
  | 0 => Nat.le_refl _
  | a + 1 => by
    have h1 := clA_len (T := T) (r := r) (b := b) hW a
    have h2 := clI_len (T := T) (r := r) (b := b) (a := a) (T.1 2 + 1)
    have := hW.1
    show (clA T r b a ++ clI T r b a (T.1 2 + 1)).length ≤ 5 * (a + 1)
    rw [List.length_append]; omega
theorem clI_no {T : Txt} {r : Nat → Int32} {b a : Nat} (h : bt (r 25) a = false) : ∀ i, clI T r b a i = []
  | 0 => rfl
  | i + 1 => by
    show (if cq T r b a i then clI T r b a i ++ [aSet T a i] else clI T r b a i) = []
    rw [show cq T r b a i = false by unfold cq; rw [h]; rfl]
    exact clI_no h i
theorem clI_s {T : Txt} {r : Nat → Int32} {b a i : Nat} (h : cq T r b a i = true) : clI T r b a (i + 1) = clI T r b a i ++ [aSet T a i] := if_pos h
theorem clI_n {T : Txt} {r : Nat → Int32} {b a i : Nat} (h : cq T r b a i = false) : clI T r b a (i + 1) = clI T r b a i := if_neg (by rw [h]; decide)
theorem clI_256 {T : Txt} {r : Nat → Int32} {b a : Nat} (hW : WFT T) (ha : a < T.1 1) : ∀ i, i ≤ T.1 2 + 1 → ∀ s ∈ clI T r b a i, s < 2 ^ T.1 0
  | 0, _, s, hs => by cases hs
  | i + 1, hi, s, hs => by
    have ih := clI_256 (r := r) (b := b) hW ha i (by omega)
    cases hc : cq T r b a i with
    | true =>
      rw [clI_s hc, List.mem_append] at hs
      rcases hs with hs | hs
      · exact ih s hs
      · rw [List.mem_singleton] at hs; rw [hs]; exact aSet_lt hW ha (by omega)
    | false => rw [clI_n hc] at hs; exact ih s hs
theorem clA_256 {T : Txt} {r : Nat → Int32} {b : Nat} (hW : WFT T) : ∀ a, a ≤ T.1 1 → ∀ s ∈ clA T r b a, s < 2 ^ T.1 0
  | 0, _, s, hs => by cases hs
  | a + 1, ha, s, hs => by
    change s ∈ clA T r b a ++ clI T r b a (T.1 2 + 1) at hs
    rw [List.mem_append] at hs
    rcases hs with hs | hs
    · exact clA_256 hW a (by omega) s hs
    · exact clI_256 hW (by omega) _ (Nat.le_refl _) s hs
def CLx (L : List Nat) (G : Hp) : Prop := G.1 300 0 = nI L.length ∧ ∀ j, j < L.length → G.1 301 j = nI (L.getD j 0)
def CLm (L : List Nat) (G : Hp) : Prop := G.1 0 67 = nI L.length ∧ ∀ j, j < L.length → G.1 44 j = nI (L.getD j 0)
theorem getD_app {L : List Nat} {x j : Nat} (hj : j < L.length) : (L ++ [x]).getD j 0 = L.getD j 0 := by
  simp [List.getD_eq_getElem?_getD, List.getElem?_append_left hj]
theorem getD_end {L : List Nat} {x : Nat} : (L ++ [x]).getD L.length 0 = x := by
  simp [List.getD_eq_getElem?_getD]
theorem CLx.put {L : List Nat} {G : Hp} {s : Nat} (h : CLx L G) : CLx (L ++ [s]) (sI (sI G 301 L.length (nI s)) 300 0 (nI (L.length + 1))) := by
  refine ⟨by rw [sI_same, List.length_append]; rfl, fun j hj => ?_⟩
  rw [List.length_append, List.length_singleton] at hj
  rw [sI_ne (Or.inl (by decide))]
  by_cases e : j = L.length
  · subst e; rw [sI_same, getD_end]
  · rw [sI_ne (Or.inr e), getD_app (by omega)]; exact h.2 j (by omega)
theorem CLm.put {L : List Nat} {G : Hp} {s : Nat} (h : CLm L G) : CLm (L ++ [s]) (sI (sI G 44 L.length (nI s)) 0 67 (nI (L.length + 1))) := by
  refine ⟨by rw [sI_same, List.length_append]; rfl, fun j hj => ?_⟩
  rw [List.length_append, List.length_singleton] at hj
  rw [sI_ne (Or.inl (by decide))]
  by_cases e : j = L.length
  · subst e; rw [sI_same, getD_end]
  · rw [sI_ne (Or.inr e), getD_app (by omega)]; exact h.2 j (by omega)
/-- nothing but the class's cheats has changed -/
def E299 (G G2 : Hp) : Prop := G2.2 = G.2 ∧ ∀ q k, q ≠ 300 → q ≠ 301 → G2.1 q k = G.1 q k
theorem E299.rf {G : Hp} : E299 G G := ⟨rfl, fun _ _ _ _ => rfl⟩
theorem E299.tr {G G2 G3 : Hp} (h : E299 G G2) (h2 : E299 G2 G3) : E299 G G3 := ⟨h2.1.trans h.1, fun q k a b => (h2.2 q k a b).trans (h.2 q k a b)⟩
theorem E299.s {q k : Nat} {G : Hp} {v : Int32} (hq : q = 300 ∨ q = 301) : E299 G (sI G q k v) := ⟨rfl, fun q2 k2 a b => sI_ne (by omega)⟩
theorem E299.X {G G2 : Hp} (h : E299 G G2) : EssX G G2 := ⟨h.1, fun q k hn => by
  unfold scrX at hn
  exact h.2 q k (by omega) (by omega)⟩
theorem xGather {t b : Nat} {T : Txt} {r : Nat → Int32} {G : Hp} (hx : LX t G) (hT : XT t T G) (hW : WFT T) (hG : XG T 53 r G) (hr : WFG T r) (hb : b < T.1 3) : ∃ G2, fX0_gather SHX G 300 t 53 (nI b) = some G2 ∧ E299 G G2 ∧ CLx (clA T r b (T.1 1)) G2 := by
  have ht := hx.1
  have hw := hW.1
  unfold fX0_gather
  simp only [obd]
  have e0 : E299 G (sI G 300 0 0) := E299.s (Or.inl rfl)
  have c0 : CLx [] (sI G 300 0 0) := ⟨sI_same, fun j hj => absurd hj (Nat.not_lt_zero _)⟩
  generalize sI G 300 0 0 = G0 at e0 c0
  obtain ⟨o, b1, b2', b3⟩ := iter_go (f := fun s : Hp × Int32 => fX0_gather_S8 SHX 300 t 53 (nI b) s.1 s.2) (P := fun a s => s.2 = nI a ∧ E299 G s.1 ∧ CLx (clA T r b a) s.1) (Q := fun o => E299 G o ∧ CLx (clA T r b (T.1 1)) o) (T.1 1) (G0, 0) (by omega) ⟨rfl, e0, c0⟩ (by
    rintro a ⟨G1, x⟩ ha ⟨rfl, hE, hC⟩
    left
    dsimp only at hE hC ⊢
    have hT1 := hE.X.T ht hT
    unfold fX0_gather_S8
    rw [hT1.1 1 (by decide), if_neg (nI_ge ha (by omega))]
    have inner : ∃ G3, iter (fun s : Hp × Int32 => fX0_gather_S20 SHX 300 t 53 (nI b) (nI a) s.1 s.2) fuel ((G1, (-1)) : Hp × Int32) = some G3 ∧ E299 G G3 ∧ CLx (clA T r b (a + 1)) G3 := by
      cases hth : bt (r 25) a with
      | false =>
        refine ⟨G1, ?_, hE, ?_⟩
        · obtain ⟨f, hf⟩ := fuel_is 1 (by decide)
          rw [hf]
          refine iter_out ?_
          dsimp only
          unfold fX0_gather_S20
          rw [hT1.1 2 (by decide), if_neg (show ¬ nI (T.1 2) ≤ -1 from wv_ge (i := 0) (by omega) (by omega)), xThereB (hE.X.G hG) (by omega), hth]
          rfl
        · show CLx (clA T r b a ++ clI T r b a (T.1 2 + 1)) G1
          rw [clI_no hth, List.append_nil]; exact hC
      | true =>
        refine iter_go (f := fun s : Hp × Int32 => fX0_gather_S20 SHX 300 t 53 (nI b) (nI a) s.1 s.2) (P := fun i s => s.2 = wv i ∧ E299 G s.1 ∧ CLx (clA T r b a ++ clI T r b a i) s.1) (Q := fun o => E299 G o ∧ CLx (clA T r b (a + 1)) o) (T.1 2 + 1) (G1, (-1)) (by omega) ⟨rfl, hE, by show CLx (clA T r b a ++ []) G1; rw [List.append_nil]; exact hC⟩ ?_ ?_
        · rintro i ⟨G2, x⟩ hi ⟨rfl, hE2, hC2⟩
          left
          dsimp only at hE2 hC2 ⊢
          have hx2 := hE2.X.L hx
          have hT2 := hE2.X.T ht hT
          have hG2 := hE2.X.G hG
          have hs := aSet_256 hW ha (show i ≤ T.1 2 by omega)
          have hl1 := clA_len (r := r) (b := b) hW a
          have hl2 := clI_len (T := T) (r := r) (b := b) (a := a) i
          have hlen : (clA T r b a ++ clI T r b a i).length < 35 := by rw [List.length_append]; omega
          unfold fX0_gather_S20
          rw [hT2.1 2 (by decide), if_neg (wv_ge (by omega) (by omega)), xThereB hG2 (by omega), hth]
          simp only [ob]
          rw [if_neg (show ¬ b2 true = 0 by decide), xSet ⟨t, hx2⟩ ht hT2 hW ha (by omega), xl_300_1 hx2]
          simp only [ob]
          rw [xnn_301, hC2.1]
          by_cases hod : nI (aSet T a i) &&& 1 = 0
          · have hsb := (odd_bit _).mp hod
            rw [if_pos hod, if_neg (nI_ge hlen (by omega)), xTakes hx2 ht hT2 hW isG_53 hG2 hr hb hs]
            simp only [ob]
            cases htk : tkn T r b (aSet T a i) with
            | false =>
              have hc : cq T r b a i = false := by unfold cq; rw [htk, Bool.and_false, Bool.and_false]
              rw [if_pos (show b2 false = 0 from rfl)]
              simp only [obd]
              refine ⟨_, rfl, wv_inc i, hE2, ?_⟩
              rw [clI_n hc]; exact hC2
            | true =>
              have hc : cq T r b a i = true := by unfold cq; rw [htk, hth, hsb]; rfl
              rw [if_neg (show ¬ b2 true = 0 by decide), asI_n (by rw [xnn_301]; omega) (by omega)]
              simp only [ob, obd]
              rw [show (sI G2 301 (clA T r b a ++ clI T r b a i).length (nI (aSet T a i))).1 300 0 = nI (clA T r b a ++ clI T r b a i).length by rw [sI_ne (Or.inl (by decide))]; exact hC2.1, nI_1]
              refine ⟨_, rfl, wv_inc i, hE2.tr ((E299.s (Or.inr rfl)).tr (E299.s (Or.inl rfl))), ?_⟩
              rw [clI_s hc, ← List.append_assoc]
              exact hC2.put
          · have hsb : (aSet T a i).testBit 0 = true := by
              cases q : (aSet T a i).testBit 0
              · exact absurd ((odd_bit _).mpr q) hod
              · rfl
            have hc : cq T r b a i = false := by unfold cq; rw [hsb]; simp
            rw [if_neg hod]
            simp only [obd]
            refine ⟨_, rfl, wv_inc i, hE2, ?_⟩
            rw [clI_n hc]; exact hC2
        · rintro ⟨G2, x⟩ ⟨rfl, hE2, hC2⟩
          dsimp only at hE2 hC2 ⊢
          have hT2 := hE2.X.T ht hT
          unfold fX0_gather_S20
          rw [hT2.1 2 (by decide), if_pos (wv_end (by omega))]
          exact ⟨_, rfl, hE2, hC2⟩
    obtain ⟨G3, i1, i2, i3⟩ := inner
    rw [i1]
    simp only [ob, obd]
    exact ⟨_, rfl, nI_1 a, i2, i3⟩) (by
    rintro ⟨G1, x⟩ ⟨rfl, hE, hC⟩
    dsimp only at hE hC ⊢
    have hT1 := hE.X.T ht hT
    unfold fX0_gather_S8
    rw [hT1.1 1 (by decide), if_pos (nI_le (Nat.le_refl _) (by omega))]
    exact ⟨_, rfl, hE, hC⟩)
  rw [b1]
  simp only [ob, obd]
  exact ⟨_, rfl, b2', b3⟩
/-- nothing but the reference's cheats and pile has changed -/
def EC (G G2 : Hp) : Prop := G2.2 = G.2 ∧ ∀ q k, q ≠ 41 → q ≠ 44 → ¬ (q = 0 ∧ k = 67) → G2.1 q k = G.1 q k
theorem EC.rf {G : Hp} : EC G G := ⟨rfl, fun _ _ _ _ _ => rfl⟩
theorem EC.tr {G G2 G3 : Hp} (h : EC G G2) (h2 : EC G2 G3) : EC G G3 := ⟨h2.1.trans h.1, fun q k a b c => (h2.2 q k a b c).trans (h.2 q k a b c)⟩
theorem EC.of {G G2 : Hp} (h : E41 G G2) : EC G G2 := ⟨h.1, fun q k a _ _ => h.2 q k a⟩
theorem EC.s {k : Nat} {G : Hp} {v : Int32} : EC G (sI G 44 k v) := ⟨rfl, fun q2 k2 _ b _ => sI_ne (Or.inl b)⟩
theorem EC.n {G : Hp} {v : Int32} : EC G (sI G 0 67 v) := ⟨rfl, fun q2 k2 _ _ c => sI_ne (by omega)⟩
theorem EC.M {G G2 : Hp} (h : EC G G2) : EssM G G2 := ⟨h.1, fun q k hn => by
  unfold scrM at hn
  exact h.2 q k (by omega) (by omega) (by omega)⟩
theorem EC.R {r : Nat → Int32} {G G2 : Hp} (h : EC G G2) (hR : MR r G) : MR r G2 := hR.E (fun k _ => h.2 40 k (by decide) (by decide) (by omega))
theorem CLm.E {L : List Nat} {G G2 : Hp} (h : CLm L G) (e : E41 G G2) : CLm L G2 := ⟨(e.2 _ _ (by decide)).trans h.1, fun j hj => (e.2 _ _ (by decide)).trans (h.2 j hj)⟩
theorem mFills {l b : Nat} {T : Txt} {r : Nat → Int32} {G : Hp} (hM : ML0 l T G) (h39 : ∀ k, k < 26 → G.1 39 k = r k) (hr : WFG T r) (hb : b < T.1 3) : ∃ G2, fX11_fillsCheats SHM G 0 (nI b) = some G2 ∧ EssM G G2 ∧ CLm (clA T r b (T.1 1)) G2 := by
  have hW := hM.2.2.2.2
  have hw := hW.1
  obtain ⟨Gc, c1, c2', c3, -, -⟩ := mCopies hM
  have R3 : MR r Gc := fun j hj => (c3 j hj).trans (h39 j hj)
  have Mc := c2'.M hM
  unfold fX11_fillsCheats
  rw [c1]
  simp only [ob, obd]
  have e0 : EC Gc (sI Gc 0 67 0) := EC.n
  have c0 : CLm [] (sI Gc 0 67 0) := ⟨sI_same, fun j hj => absurd hj (Nat.not_lt_zero _)⟩
  generalize sI Gc 0 67 0 = G0 at e0 c0
  obtain ⟨o, b1, b2', b3⟩ := iter_go (f := fun s : Hp × Int32 => fX11_fillsCheats_S11 SHM 0 (nI b) s.1 s.2) (P := fun a s => s.2 = nI a ∧ EC Gc s.1 ∧ CLm (clA T r b a) s.1) (Q := fun o => EC Gc o ∧ CLm (clA T r b (T.1 1)) o) (T.1 1) (G0, 0) (by omega) ⟨rfl, e0, c0⟩ (by
    rintro a ⟨G1, x⟩ ha ⟨rfl, hE, hC⟩
    left
    dsimp only at hE hC ⊢
    have hM1 := hE.M.M Mc
    unfold fX11_fillsCheats_S11
    rw [ml_24 hM1.1]
    simp only [ob]
    rw [aI_l (n := 0) hM1 mn_11, hM1.2.2.2.1.1.2.1]
    simp only [ob]
    rw [if_neg (nI_ge ha (by omega))]
    obtain ⟨G3, i1, i2, i3⟩ := iter_go (f := fun s : Hp × Int32 => fX11_fillsCheats_S26 SHM 0 (nI b) (nI a) s.1 s.2) (P := fun i s => s.2 = wv i ∧ EC Gc s.1 ∧ CLm (clA T r b a ++ clI T r b a i) s.1) (Q := fun o => EC Gc o ∧ CLm (clA T r b (a + 1)) o) (T.1 2 + 1) (G1, (-1)) (by omega) ⟨rfl, hE, by show CLm (clA T r b a ++ []) G1; rw [List.append_nil]; exact hC⟩ (by
      rintro i ⟨G2, x⟩ hi ⟨rfl, hE2, hC2⟩
      left
      dsimp only at hE2 hC2 ⊢
      have hM2 := hE2.M.M Mc
      have hR2 := hE2.R R3
      have hl1 := clA_len (r := r) (b := b) hW a
      have hl2 := clI_len (T := T) (r := r) (b := b) (a := a) i
      have hlen : (clA T r b a ++ clI T r b a i).length < 35 := by rw [List.length_append]; omega
      unfold fX11_fillsCheats_S26
      rw [ml_27 hM2.1]
      simp only [ob]
      rw [aI_l (n := 0) hM2 mn_14, hM2.2.2.2.1.1.2.2.1]
      simp only [ob]
      rw [if_neg (wv_ge (by omega) (by omega)), mSet hM2 ha (by omega), mThereB hM2.1 hR2 (by omega)]
      simp only [ob]
      cases hth : bt (r 25) a with
      | false =>
        have hc : cq T r b a i = false := by unfold cq; rw [hth]; rfl
        rw [if_pos (show b2 false = 0 from rfl)]
        simp only [obd]
        refine ⟨_, rfl, wv_inc i, hE2, ?_⟩
        rw [clI_n hc]; exact hC2
      | true =>
        rw [if_neg (show ¬ b2 true = 0 by decide), mSoul]
        simp only [ob]
        cases hsb : (aSet T a i).testBit 0 with
        | true =>
          have hc : cq T r b a i = false := by unfold cq; rw [hsb]; simp
          rw [if_neg (show ¬ b2 true = 0 by decide)]
          simp only [obd]
          refine ⟨_, rfl, wv_inc i, hE2, ?_⟩
          rw [clI_n hc]; exact hC2
        | false =>
          rw [if_pos (show b2 false = 0 from rfl)]
          obtain ⟨G12, t1, t2⟩ := mTakes (s := aSet T a i) hM2 hR2 hr hb
          rw [t1]
          simp only [obp]
          have hC12 := hC2.E t2
          have hM12 := t2.toM.M hM2
          cases htk : tkn T r b (aSet T a i) with
          | false =>
            have hc : cq T r b a i = false := by unfold cq; rw [htk, Bool.and_false, Bool.and_false]
            rw [if_pos (show b2 false = 0 from rfl)]
            simp only [obd]
            refine ⟨_, rfl, wv_inc i, hE2.tr (EC.of t2), ?_⟩
            rw [clI_n hc]; exact hC12
          | true =>
            have hc : cq T r b a i = true := by unfold cq; rw [htk, hth, hsb]; rfl
            rw [if_neg (show ¬ b2 true = 0 by decide), ml_66 hM12.1]
            simp only [ob]
            rw [hC12.1, asI_n (by rw [mn_44]; omega) (by omega)]
            simp only [ob, obd]
            rw [show (sI G12 44 (clA T r b a ++ clI T r b a i).length (nI (aSet T a i))).1 0 67 = nI (clA T r b a ++ clI T r b a i).length by rw [sI_ne (Or.inl (by decide))]; exact hC12.1, nI_1]
            refine ⟨_, rfl, wv_inc i, (hE2.tr (EC.of t2)).tr (EC.s.tr EC.n), ?_⟩
            rw [clI_s hc, ← List.append_assoc]
            exact hC12.put) (by
      rintro ⟨G2, x⟩ ⟨rfl, hE2, hC2⟩
      dsimp only at hE2 hC2 ⊢
      have hM2 := hE2.M.M Mc
      unfold fX11_fillsCheats_S26
      rw [ml_27 hM2.1]
      simp only [ob]
      rw [aI_l (n := 0) hM2 mn_14, hM2.2.2.2.1.1.2.2.1]
      simp only [ob]
      rw [if_pos (wv_end (by omega))]
      exact ⟨_, rfl, hE2, hC2⟩)
    rw [i1]
    simp only [ob, obd]
    exact ⟨_, rfl, nI_1 a, i2, i3⟩) (by
    rintro ⟨G1, x⟩ ⟨rfl, hE, hC⟩
    dsimp only at hE hC ⊢
    have hM1 := hE.M.M Mc
    unfold fX11_fillsCheats_S11
    rw [ml_24 hM1.1]
    simp only [ob]
    rw [aI_l (n := 0) hM1 mn_11, hM1.2.2.2.1.1.2.1]
    simp only [ob]
    rw [if_pos (nI_le (Nat.le_refl _) (by omega))]
    exact ⟨_, rfl, hE, hC⟩)
  rw [b1]
  simp only [ob, obd]
  exact ⟨_, rfl, c2'.tr b2'.M, b3⟩
theorem step16 {Gx Gm : Hp} (hI : Inv Gx Gm) (b : Int32) : Step16 SHX SHM Inv Gx Gm b := by
  have hI0 := hI
  obtain ⟨T, t, l, r, n, u, nx, hi, hb, sl, m, h⟩ := hI
  have hM := h.M
  have hx := h.1
  have hW := h.2.2.2.2.1
  have hT := h.2.2.2.2.2.1
  have hr := h.2.2.2.2.2.2.2.1
  have hG := h.2.2.2.2.2.2.2.2.1
  have h39 := h.2.2.2.2.2.2.2.2.2.1
  unfold Step16 fX10_cheats fX11_cheats
  rw [xl_text hx]
  simp only [ob]
  by_cases hb : rng b (T.1 3)
  · obtain ⟨b, hb, rfl⟩ := hb
    obtain ⟨G2, x1, x2, x3⟩ := xGather hx hT hW hG hr hb
    obtain ⟨G3, y1, y2, y3⟩ := mFills hM h39 hr hb
    rw [xBridge_y hT hW hb, mBridge_y hM hb, xl_0_10 hx, xl_0_3 hx]
    simp only [ob, if_neg one_ne]
    rw [x1, y1]
    simp only [ob]
    rw [xl_0_10 (x2.X.L hx)]
    simp only [ob]
    rw [x3.1, y3.1]
    exact ⟨_, _, _, rfl, rfl, x2.X.I y2 h⟩
  · rw [xBridge_n hT hW hb, mBridge_n hM hb]
    exact ⟨_, _, _, rfl, rfl, hI0⟩
/-- how many of the cheats are shut out by some traits -/
def shN (L : List Nat) (s : Nat) : Nat := fa_cnt (fun j => decide (L.getD j 0 &&& s ≠ 0)) L.length
theorem shN_le {L : List Nat} {s : Nat} : shN L s ≤ L.length := fa_cnt_le _ _
theorem and0 {x s : Nat} (hx : x < 256) : (nI x &&& nI s = 0) ↔ x &&& s = 0 := by
  rw [nI_and]
  exact nI_eq8 (b := 0) (Nat.lt_of_le_of_lt Nat.and_le_left hx) (by decide)
theorem xShut {t s : Nat} {L : List Nat} {G : Hp} (hx : LX t G) (hL : L.length ≤ 35) (h2 : ∀ x ∈ L, x < 256) (hC : CLx L G) : fX0_shutOutBy SHX G 300 (nI s) = some (nI (shN L s)) := by
  unfold fX0_shutOutBy
  obtain ⟨o, b1, rfl⟩ := iter_go (f := fun p : Int32 × Int32 => fX0_shutOutBy_S4 SHX 300 (nI s) G p.1 p.2) (P := fun i p => p = (nI (fa_cnt (fun j => decide (L.getD j 0 &&& s ≠ 0)) i), nI i)) (Q := fun o => o = nI (shN L s)) L.length ((0, 0) : Int32 × Int32) (by omega) rfl (by
    rintro i p hi rfl
    left
    dsimp only
    have hm : L.getD i 0 < 256 := by
      rw [List.getD_eq_getElem?_getD, List.getElem?_eq_getElem hi]
      exact h2 _ (List.getElem_mem hi)
    unfold fX0_shutOutBy_S4
    rw [hC.1, if_neg (nI_ge hi (by omega)), xl_300_1 hx]
    simp only [ob]
    rw [aI_n (by rw [xnn_301]; omega) (by omega), hC.2 i hi]
    simp only [ob]
    by_cases e : L.getD i 0 &&& s = 0
    · rw [if_pos ((and0 hm).mpr e)]
      simp only [obd]
      exact ⟨_, rfl, by rw [fa_cnt_no (show decide (L.getD i 0 &&& s ≠ 0) = false from decide_eq_false (fun q => q e)), nI_1]⟩
    · rw [if_neg (fun q => e ((and0 hm).mp q))]
      simp only [obd]
      exact ⟨_, rfl, by rw [fa_cnt_yes (show decide (L.getD i 0 &&& s ≠ 0) = true from decide_eq_true e), nI_1, nI_1]⟩) (by
    rintro p rfl
    dsimp only
    unfold fX0_shutOutBy_S4
    rw [hC.1, if_pos (nI_le (Nat.le_refl _) (by omega))]
    exact ⟨_, rfl, rfl⟩)
  rw [b1]; rfl
theorem mShut {s : Nat} {L : List Nat} {G : Hp} (hM : LM G) (hL : L.length ≤ 35) (h2 : ∀ x ∈ L, x < 256) (hC : CLm L G) : fX11_shutBy SHM G 0 (nI s) = some (nI (shN L s)) := by
  unfold fX11_shutBy
  obtain ⟨o, b1, rfl⟩ := iter_go (f := fun p : Int32 × Int32 => fX11_shutBy_S4 SHM 0 (nI s) G p.1 p.2) (P := fun i p => p = (nI (fa_cnt (fun j => decide (L.getD j 0 &&& s ≠ 0)) i), nI i)) (Q := fun o => o = nI (shN L s)) L.length ((0, 0) : Int32 × Int32) (by omega) rfl (by
    rintro i p hi rfl
    left
    dsimp only
    have hm : L.getD i 0 < 256 := by
      rw [List.getD_eq_getElem?_getD, List.getElem?_eq_getElem hi]
      exact h2 _ (List.getElem_mem hi)
    unfold fX11_shutBy_S4
    rw [hC.1, if_neg (nI_ge hi (by omega)), ml_66 hM]
    simp only [ob]
    rw [aI_n (by rw [mn_44]; omega) (by omega), hC.2 i hi]
    simp only [ob]
    by_cases e : L.getD i 0 &&& s = 0
    · rw [if_pos ((and0 hm).mpr e)]
      simp only [obd]
      exact ⟨_, rfl, by rw [fa_cnt_no (show decide (L.getD i 0 &&& s ≠ 0) = false from decide_eq_false (fun q => q e)), nI_1]⟩
    · rw [if_neg (fun q => e ((and0 hm).mp q))]
      simp only [obd]
      exact ⟨_, rfl, by rw [fa_cnt_yes (show decide (L.getD i 0 &&& s ≠ 0) = true from decide_eq_true e), nI_1, nI_1]⟩) (by
    rintro p rfl
    dsimp only
    unfold fX11_shutBy_S4
    rw [hC.1, if_pos (nI_le (Nat.le_refl _) (by omega))]
    exact ⟨_, rfl, rfl⟩)
  rw [b1]; rfl
/-! bar -/
def br (w : Nat → Nat) : Nat → Nat
  | 0 => 0
  | n + 1 => if w (br w n) < w n then n else br w n
theorem br_le {w : Nat → Nat} : ∀ n, br w n ≤ n
  | 0 => Nat.le_refl _
  | n + 1 => by
    have := br_le (w := w) n
    show (if w (br w n) < w n then n else br w n) ≤ n + 1
    split <;> omega
theorem br_1 {w : Nat → Nat} : br w 1 = 0 := by
  show (if w (br w 0) < w 0 then 0 else br w 0) = 0
  split <;> rfl
theorem xBar {t n : Nat} {L : List Nat} {G : Hp} (hx : LX t G) (hL : L.length ≤ 35) (h2 : ∀ x ∈ L, x < 256) (hC : CLx L G) (hn : n + 1 ≤ 8) : fX0_traitToBar SHX G 300 (nI (n + 1)) = some (nI (br (fun k => shN L (2 ^ k)) (n + 1))) := by
  unfold fX0_traitToBar
  obtain ⟨o, b1, rfl⟩ := iter_go (f := fun p : Int32 × Int32 => fX0_traitToBar_S4 SHX 300 (nI (n + 1)) G p.1 p.2) (P := fun i p => p = (nI (br (fun k => shN L (2 ^ k)) (i + 1)), nI (i + 1))) (Q := fun o => o = nI (br (fun k => shN L (2 ^ k)) (n + 1))) n ((0, 1) : Int32 × Int32) (by omega) (by rw [br_1]; rfl) (by
    rintro i p hi rfl
    left
    dsimp only
    have hb := br_le (w := fun k => shN L (2 ^ k)) (i + 1)
    unfold fX0_traitToBar_S4
    rw [if_neg (nI_ge (by omega) (by omega)), shl1 (by omega), shl1 (by omega), xShut hx hL h2 hC, xShut hx hL h2 hC]
    simp only [ob]
    have hl := shN_le (L := L) (s := 2 ^ (br (fun k => shN L (2 ^ k)) (i + 1)))
    have hl2 := shN_le (L := L) (s := 2 ^ (i + 1))
    have eb : br (fun k => shN L (2 ^ k)) (i + 1 + 1) = if shN L (2 ^ (br (fun k => shN L (2 ^ k)) (i + 1))) < shN L (2 ^ (i + 1)) then i + 1 else br (fun k => shN L (2 ^ k)) (i + 1) := rfl
    by_cases hc : shN L (2 ^ (br (fun k => shN L (2 ^ k)) (i + 1))) < shN L (2 ^ (i + 1))
    · rw [if_pos hc] at eb
      rw [if_neg (nI_ge hc (by omega)), eb]
      exact ⟨_, rfl, by rw [nI_1]⟩
    · rw [if_neg hc] at eb
      rw [if_pos (nI_le (by omega) (by omega)), eb]
      exact ⟨_, rfl, by rw [nI_1]⟩) (by
    rintro p rfl
    dsimp only
    unfold fX0_traitToBar_S4
    rw [if_pos (nI_le (Nat.le_refl _) (by omega))]
    exact ⟨_, rfl, rfl⟩)
  rw [b1]; rfl
theorem mBar {l : Nat} {T : Txt} {L : List Nat} {G : Hp} {w : Int32} (hM : ML0 l T G) (hL : L.length ≤ 35) (h2 : ∀ x ∈ L, x < 256) (hC : CLm L G) : iter (fun s : Int32 × Int32 × Int32 => fX11_bar_S34 SHM 0 w G s.1 s.2.1 s.2.2) fuel (((-2), (-2), 0) : Int32 × Int32 × Int32) = some (if T.1 0 = 0 then (-2, -2) else (nI (br (fun k => shN L (2 ^ k)) (T.1 0)), nI (shN L (2 ^ br (fun k => shN L (2 ^ k)) (T.1 0))))) := by
  have hw := hM.2.2.2.2.1
  obtain ⟨o, b1, rfl⟩ := iter_go (f := fun s : Int32 × Int32 × Int32 => fX11_bar_S34 SHM 0 w G s.1 s.2.1 s.2.2) (P := fun i p => p = if i = 0 then ((-2), (-2), 0) else (nI (br (fun k => shN L (2 ^ k)) i), nI (shN L (2 ^ br (fun k => shN L (2 ^ k)) i)), nI i)) (Q := fun o => o = if T.1 0 = 0 then (-2, -2) else (nI (br (fun k => shN L (2 ^ k)) (T.1 0)), nI (shN L (2 ^ br (fun k => shN L (2 ^ k)) (T.1 0))))) (T.1 0) (((-2), (-2), 0) : Int32 × Int32 × Int32) (by omega) rfl (by
    rintro i p hi rfl
    left
    have hb := br_le (w := fun k => shN L (2 ^ k)) i
    have hl := shN_le (L := L) (s := 2 ^ (br (fun k => shN L (2 ^ k)) i))
    have hl2 := shN_le (L := L) (s := 2 ^ i)
    have eb : br (fun k => shN L (2 ^ k)) (i + 1) = if shN L (2 ^ (br (fun k => shN L (2 ^ k)) i)) < shN L (2 ^ i) then i else br (fun k => shN L (2 ^ k)) i := rfl
    rw [if_neg (Nat.succ_ne_zero i)]
    by_cases i0 : i = 0
    · subst i0
      rw [if_pos rfl]
      dsimp only
      unfold fX11_bar_S34
      rw [ml_23 hM.1]
      simp only [ob]
      rw [aI_l (n := 0) hM mn_10, hM.2.2.2.1.1.1]
      simp only [ob]
      rw [if_neg (nI_nle hi (by omega)), show (1 : Int32) <<< ((0 : Int32) &&& 31) = nI (2 ^ 0) from shl1 (n := 0) (by decide), mShut hM.1 hL h2 hC]
      simp only [ob]
      rw [if_pos (show (-2 : Int32) < nI (shN L (2 ^ 0)) from Int32.lt_trans (by decide) (m1_lt (by omega)))]
      simp only [obd]
      refine ⟨_, rfl, ?_⟩
      rw [br_1]; rfl
    · rw [if_neg i0]
      dsimp only
      unfold fX11_bar_S34
      rw [ml_23 hM.1]
      simp only [ob]
      rw [aI_l (n := 0) hM mn_10, hM.2.2.2.1.1.1]
      simp only [ob]
      rw [if_neg (nI_ge hi (by omega)), shl1 (by omega), mShut hM.1 hL h2 hC]
      simp only [ob]
      by_cases hc : shN L (2 ^ (br (fun k => shN L (2 ^ k)) i)) < shN L (2 ^ i)
      · rw [if_pos hc] at eb
        rw [if_pos (nI_lt hc (by omega)), eb]
        exact ⟨_, rfl, by rw [nI_1]⟩
      · rw [if_neg hc] at eb
        rw [if_neg (nI_nlt (by omega) (by omega)), eb]
        exact ⟨_, rfl, by rw [nI_1]⟩) (by
    rintro p rfl
    by_cases i0 : T.1 0 = 0
    · rw [if_pos i0, if_pos i0]
      dsimp only
      unfold fX11_bar_S34
      rw [ml_23 hM.1]
      simp only [ob]
      rw [aI_l (n := 0) hM mn_10, hM.2.2.2.1.1.1]
      simp only [ob]
      rw [i0, if_pos (show nI 0 ≤ 0 by decide)]
      exact ⟨_, rfl, rfl⟩
    · rw [if_neg i0, if_neg i0]
      dsimp only
      unfold fX11_bar_S34
      rw [ml_23 hM.1]
      simp only [ob]
      rw [aI_l (n := 0) hM mn_10, hM.2.2.2.1.1.1]
      simp only [ob]
      rw [if_pos (nI_le (Nat.le_refl _) (by omega))]
      exact ⟨_, rfl, rfl⟩)
  exact b1
theorem cl_ok {T : Txt} {r : Nat → Int32} {b : Nat} (hW : WFT T) : (clA T r b (T.1 1)).length ≤ 35 ∧ ∀ x ∈ clA T r b (T.1 1), x < 256 := by
  have hw := hW.1
  have := clA_len (r := r) (b := b) hW (T.1 1)
  refine ⟨by omega, fun x hx => ?_⟩
  exact Nat.lt_of_lt_of_le (clA_256 hW _ (Nat.le_refl _) x hx) (Nat.le_trans (pow_le hw.1) (by decide))
theorem step18 {Gx Gm : Hp} (hI : Inv Gx Gm) (b w : Int32) : Step18 SHX SHM Inv Gx Gm b w := by
  have hI0 := hI
  obtain ⟨T, t, l, r, n, u, nx, hi, hb, sl, m, h⟩ := hI
  have hM := h.M
  have hx := h.1
  have ht := hx.1
  have hW := h.2.2.2.2.1
  have hT := h.2.2.2.2.2.1
  have hr := h.2.2.2.2.2.2.2.1
  have hG := h.2.2.2.2.2.2.2.2.1
  have h39 := h.2.2.2.2.2.2.2.2.2.1
  have hw := hW.1
  unfold Step18 fX10_bar fX11_bar
  rw [xl_text hx]
  simp only [ob]
  by_cases hb : rng b (T.1 3)
  · obtain ⟨b, hb, rfl⟩ := hb
    rw [xBridge_y hT hW hb, mBridge_y hM hb]
    simp only [ob, if_neg one_ne]
    by_cases ha : rng w 2
    · obtain ⟨k, hk, rfl⟩ := ha
      obtain ⟨G2, x1, x2, x3⟩ := xGather hx hT hW hG hr hb
      obtain ⟨G3, y1, y2, y3⟩ := mFills hM h39 hr hb
      obtain ⟨k1, k2⟩ := cl_ok (r := r) (b := b) hW
      rw [in2_y hk, if_neg (nI_pos (by omega)), if_pos (show nI k ≤ 1 from nI_le (b := 1) (by omega) (by decide)), y1]
      simp only [ob, if_neg one_ne]
      rw [mBar (y2.M hM) k1 k2 y3, hT.1 0 (by decide)]
      simp only [ob, obd]
      by_cases z : T.1 0 = 0
      · rw [if_pos z, z, if_pos (show nI 0 = 0 from rfl), ite_self]
        exact ⟨_, _, _, rfl, rfl, EssX.rf.I y2 h⟩
      · rw [if_neg z, if_neg (nI_ne0 (by omega) (by omega)), xl_0_10 hx, xl_0_3 hx]
        simp only [ob]
        rw [x1]
        simp only [ob]
        have hx2 := x2.X.L hx
        have hT2 := x2.X.T ht hT
        rw [xl_0_10 hx2, xl_text hx2]
        simp only [ob]
        obtain ⟨n', hn'⟩ : ∃ n', T.1 0 = n' + 1 := ⟨T.1 0 - 1, by omega⟩
        rw [hT2.1 0 (by decide)]
        have xb := xBar (n := n') hx2 k1 k2 x3 (by omega)
        rw [← hn'] at xb
        rw [xb]
        simp only [ob]
        have hbl := br_le (w := fun k => shN (clA T r b (T.1 1)) (2 ^ k)) (T.1 0)
        rw [shl1 (by omega), xShut hx2 k1 k2 x3]
        by_cases k0 : nI k = 0
        · rw [if_pos k0, if_pos k0]; exact ⟨_, _, _, rfl, rfl, x2.X.I y2 h⟩
        · rw [if_neg k0, if_neg k0]; exact ⟨_, _, _, rfl, rfl, x2.X.I y2 h⟩
    · rw [in2_n ha]
      rcases rng2 ha with h0 | ⟨h0, h1⟩
      · rw [if_pos h0]; exact ⟨_, _, _, rfl, rfl, hI0⟩
      · rw [if_neg h0, if_neg h1]; exact ⟨_, _, _, rfl, rfl, hI0⟩
  · rw [xBridge_n hT hW hb, mBridge_n hM hb]
    exact ⟨_, _, _, rfl, rfl, hI0⟩
