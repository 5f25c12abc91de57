/-! ALL: the class's lower bounds. -/
theorem isG_290 : isG 290 := Or.inr (Or.inr (Or.inr (Or.inr (Or.inr (Or.inl rfl)))))
/-- nothing but prices and lower bounds has changed -/
def E297 (G G2 : Hp) : Prop := G2.2 = G.2 ∧ ∀ q k, q ≠ 298 → q ≠ 299 → G2.1 q k = G.1 q k
theorem E297.rf {G : Hp} : E297 G G := ⟨rfl, fun _ _ _ _ => rfl⟩
theorem E297.tr {G G2 G3 : Hp} (h : E297 G G2) (h2 : E297 G2 G3) : E297 G G3 := ⟨h2.1.trans h.1, fun q k a b => (h2.2 q k a b).trans (h.2 q k a b)⟩
theorem E297.s {q k : Nat} {G : Hp} {v : Int32} (hq : q = 298 ∨ q = 299) : E297 G (sI G q k v) := ⟨rfl, fun q2 k2 a b => sI_ne (by omega)⟩
theorem E297.L {t : Nat} {G G2 : Hp} (h : E297 G G2) (hx : LX t G) : LX t G2 := hx.same (by rw [h.1])
theorem E297.T {t : Nat} {T : Txt} {G G2 : Hp} (ht : t = 11 ∨ t = 32) (h : E297 G G2) (hT : XT t T G) : XT t T G2 := XT_fr hT (fun q k a b c d => h.2 q k (by omega) (by omega)) (by rw [h.1])
theorem E297.G {T : Txt} {r : Nat → Int32} {G G2 : Hp} (h : E297 G G2) (hG : XG T 290 r G) : XG T 290 r G2 := XG_fr hG (fun q k a b => h.2 q k (by omega) (by omega))
theorem E297.X {G G2 : Hp} (h : E297 G G2) : E287 G G2 := ⟨h.1, fun q k hq => h.2 q k (by omega) (by omega)⟩
/-- prices: each at most what the being costs by a way by which it is taken -/
def PR (T : Txt) (r : Nat → Int32) (b : Nat) (z : Nat → Nat) (G : Hp) : Prop := ∀ a, a < T.1 1 → G.1 298 a = nI (z a) ∧ z a ≤ 1000000 ∧ ∀ i, i ≤ T.1 2 → tkn T r b (aSet T a i) = true → z a ≤ T.2.1 0 a + aCost T i
theorem cw_none {T : Txt} {tk : Nat → Bool} : ∀ i, cw T tk i = none → ∀ j, j < i → tk j = false := by
  intro i
  induction i with
  | zero => intro _ j hj; omega
  | succ i ih =>
    intro h j hj
    rw [cw_s] at h
    cases ht : tk i with
    | true =>
      rw [ht, if_pos rfl] at h
      cases hc : cw T tk i with
      | none => rw [hc] at h; cases h
      | some x => rw [hc] at h; dsimp only at h; split at h <;> cases h
    | false =>
      rw [ht] at h
      by_cases e : j = i
      · rw [e]; exact ht
      · exact ih h j (by omega)
theorem cw_min {T : Txt} {tk : Nat → Bool} : ∀ i x, cw T tk i = some x → ∀ j, j < i → tk j = true → aCost T x ≤ aCost T j := by
  intro i
  induction i with
  | zero => intro x h; cases h
  | succ i ih =>
    intro x h j hj htj
    rw [cw_s] at h
    cases ht : tk i with
    | false =>
      rw [ht] at h
      by_cases e : j = i
      · rw [e, ht] at htj; cases htj
      · exact ih x h j (by omega) htj
    | true =>
      rw [ht, if_pos rfl] at h
      cases hc : cw T tk i with
      | none =>
        rw [hc] at h
        simp only [Option.some.injEq] at h
        subst h
        by_cases e : j = i
        · rw [e]; exact Nat.le_refl _
        · rw [cw_none i hc j (by omega)] at htj; cases htj
      | some y =>
        rw [hc] at h
        dsimp only at h
        split at h
        · simp only [Option.some.injEq] at h
          subst h
          by_cases e : j = i
          · rw [e]; exact Nat.le_refl _
          · have := ih y hc j (by omega) htj; omega
        · simp only [Option.some.injEq] at h
          subst h
          by_cases e : j = i
          · rw [e]; omega
          · exact ih y hc j (by omega) htj
theorem xPrices {t b : Nat} {T : Txt} {r : Nat → Int32} {G : Hp} (hx : LX t G) (hT : XT t T G) (hW : WFT T) (hG : XG T 290 r G) (hr : WFG T r) (hb : b < T.1 3) : ∃ G2 z, fX5_lookUpPrices SHX G 287 t (nI b) = some G2 ∧ E297 G G2 ∧ (∀ k, G2.1 299 k = G.1 299 k) ∧ PR T r b z G2 := by
  have ht := hx.1
  have hw := hW.1
  unfold fX5_lookUpPrices
  rw [xl_287_10 hx]
  simp only [ob]
  obtain ⟨G3, f1, f2, f3, f4⟩ := xFillAll (G := G) (q := 298) (v := 1000000) (by rw [xnn_298]; decide)
  rw [f1]
  simp only [ob]
  have e3 : E297 G G3 := ⟨f2, fun q k a _ => f3 q k a⟩
  rw [xnn_298] at f4
  obtain ⟨o, b1, b2', b3, z, b4⟩ := iter_go (f := fun s : Hp × Int32 => fX5_lookUpPrices_S11 SHX 287 t (nI b) s.1 s.2) (P := fun a s => s.2 = nI a ∧ E297 G s.1 ∧ (∀ k, s.1.1 299 k = G.1 299 k) ∧ ∃ z : Nat → Nat, ∀ a2, a2 < T.1 1 → (s.1.1 298 a2 = nI (z a2) ∧ z a2 ≤ 1000000) ∧ (a2 < a → ∀ i, i ≤ T.1 2 → tkn T r b (aSet T a2 i) = true → z a2 ≤ T.2.1 0 a2 + aCost T i)) (Q := fun o => E297 G o ∧ (∀ k, o.1 299 k = G.1 299 k) ∧ ∃ z, PR T r b z o) (T.1 1) (G3, 0) (by omega) ⟨rfl, e3, fun k => f3 299 k (by decide), fun _ => 1000000, fun a2 ha2 => ⟨⟨f4 a2 (by omega), Nat.le_refl _⟩, fun q => by omega⟩⟩ (by
    rintro a ⟨G1, x⟩ ha ⟨rfl, hE, h298, z, hz⟩
    left
    dsimp only at hE h298 hz ⊢
    have hx1 := hE.L hx
    have hT1 := hE.T ht hT
    have hG1 := hE.G hG
    have hl := (hW.2.1 a ha).1
    unfold fX5_lookUpPrices_S11
    rw [hT1.1 1 (by decide), if_neg (nI_ge ha (by omega)), xl_287_6 hx1]
    simp only [ob]
    rw [xCheapWay hx1 hT1 hW isG_290 hG1 hr hb ha]
    simp only [ob]
    cases hc : cw T (fun i => tkn T r b (aSet T a i)) (T.1 2 + 1) with
    | none =>
      rw [if_pos (show cwe none = -2 from rfl)]
      simp only [obd]
      refine ⟨_, rfl, nI_1 a, hE, h298, z, fun a2 ha2 => ⟨(hz a2 ha2).1, fun hlt i hi htk => ?_⟩⟩
      by_cases e : a2 = a
      · subst e
        have := cw_none _ hc i (by omega)
        rw [show tkn T r b (aSet T a2 i) = false from this] at htk; cases htk
      · exact (hz a2 ha2).2 (by omega) i hi htk
    | some j =>
      have hj := (cw_ok _ j hc).1
      have hcj := cost_99 hW (show j ≤ T.1 2 by omega)
      rw [show cwe (some j) = wv j from rfl, if_neg (wv_m2 (by omega)), xl_287_10 hx1, xt_6 ht hx1]
      simp only [ob]
      rw [aI_n (by rw [xn_6 ht]; omega) (by omega), (hT1.2.1 a ha).1, xCost ⟨t, hx1⟩ ht hT1 hW (by omega)]
      simp only [ob]
      rw [nI_add, asI_n (by rw [xnn_298]; omega) (by omega)]
      simp only [ob, obd]
      refine ⟨_, rfl, nI_1 a, hE.tr (E297.s (Or.inl rfl)), fun k => by show (sI G1 298 a _).1 299 k = _; rw [sI_ne (Or.inl (by decide))]; exact h298 k, fun a2 => if a2 = a then T.2.1 0 a + aCost T j else z a2, fun a2 ha2 => ?_⟩
      show ((sI G1 298 a (nI (T.2.1 0 a + aCost T j))).1 298 a2 = nI (if a2 = a then T.2.1 0 a + aCost T j else z a2) ∧ (if a2 = a then T.2.1 0 a + aCost T j else z a2) ≤ 1000000) ∧ _
      by_cases e : a2 = a
      · subst e
        rw [sI_same]
        simp only [if_true]
        refine ⟨⟨trivial, by omega⟩, fun _ i hi htk => ?_⟩
        have := cw_min _ j hc i (by omega) htk
        omega
      · rw [sI_ne (Or.inr e)]
        simp only [if_neg e]
        exact ⟨(hz a2 ha2).1, fun hlt => (hz a2 ha2).2 (by omega)⟩) (by
    rintro ⟨G1, x⟩ ⟨rfl, hE, h298, z, hz⟩
    dsimp only at hE h298 hz ⊢
    have hT1 := hE.T ht hT
    unfold fX5_lookUpPrices_S11
    rw [hT1.1 1 (by decide), if_pos (nI_le (Nat.le_refl _) (by omega))]
    exact ⟨_, rfl, hE, h298, z, fun a ha => ⟨(hz a ha).1.1, (hz a ha).1.2, (hz a ha).2 ha⟩⟩)
  rw [b1]
  simp only [ob, obd]
  exact ⟨_, z, rfl, b2', b3, b4⟩
/-- the lower bounds from bridge b on -/
def AL (T : Txt) (r : Nat → Int32) (b : Nat) (G : Hp) : Prop := ∀ left, left < 2 ^ T.1 1 → ∃ x, x ≤ 1000000 ∧ G.1 299 (b * 128 + left) = nI x ∧ LB T r (clo r b (T.1 3 - b)) left x
theorem imin_n {a b : Nat} (ha : a < 100000000) (hb : b < 100000000) : imin (nI a) (nI b) = nI (min a b) := by
  unfold imin
  by_cases h : b < a
  · rw [if_pos (nI_lt h (by omega)), Nat.min_eq_right (by omega)]
  · rw [if_neg (nI_nlt (by omega) (by omega)), Nat.min_eq_left (by omega)]
theorem xLeast {t b left : Nat} {T : Txt} {r : Nat → Int32} {z : Nat → Nat} {G : Hp} (hx : LX t G) (hW : WFT T) (hb : b < T.1 3) (hl : left < 2 ^ T.1 1) (hP : PR T r b z G) (hA : AL T r (b + 1) G) (h0 : r (4 + b) = 0) : ∃ x, fX5_leastFrom SHX G 287 (nI b) (nI left) = some (nI x) ∧ x ≤ 1000000 ∧ LB T r (clo r b (T.1 3 - b)) left x := by
  have hw := hW.1
  have h128 : 2 ^ T.1 1 ≤ 128 := Nat.le_trans (pow_le hw.2.1) (by decide)
  unfold fX5_leastFrom
  have main : ∃ o, iter (fun s : Int32 × Int32 => fX5_leastFrom_S6 SHX 287 (nI b) (nI left) G s.1 s.2) fuel ((1000000, 0) : Int32 × Int32) = some o ∧ ∃ x, o = nI x ∧ x ≤ 1000000 ∧ ∀ a, a < T.1 1 → left.testBit a = true → ∃ y, LB T r (clo r (b + 1) (T.1 3 - (b + 1))) (left &&& (255 ^^^ 2 ^ a)) y ∧ x ≤ z a + y := by
    refine iter_go (f := fun s : Int32 × Int32 => fX5_leastFrom_S6 SHX 287 (nI b) (nI left) G s.1 s.2) (P := fun i s => s.2 = nI i ∧ ∃ x, s.1 = nI x ∧ x ≤ 1000000 ∧ ∀ a, a < T.1 1 → a < i → left.testBit a = true → ∃ y, LB T r (clo r (b + 1) (T.1 3 - (b + 1))) (left &&& (255 ^^^ 2 ^ a)) y ∧ x ≤ z a + y) (Q := fun o => ∃ x, o = nI x ∧ x ≤ 1000000 ∧ ∀ a, a < T.1 1 → left.testBit a = true → ∃ y, LB T r (clo r (b + 1) (T.1 3 - (b + 1))) (left &&& (255 ^^^ 2 ^ a)) y ∧ x ≤ z a + y) 7 ((1000000, 0) : Int32 × Int32) (by decide) ⟨rfl, 1000000, rfl, Nat.le_refl _, fun a _ h => by omega⟩ ?_ ?_
    · rintro i ⟨s1, s2⟩ hi ⟨rfl, x, rfl, hx1, hx2⟩
      left
      dsimp only
      unfold fX5_leastFrom_S6
      rw [if_neg (show ¬ (7 : Int32) ≤ nI i from nI_ge (b := 7) hi (by decide)), ush_bit _ (by omega), bt_nI (by omega)]
      cases hbit : left.testBit i with
      | false =>
        simp only [Bool.false_eq_true, if_false, if_true, obd]
        refine ⟨_, rfl, nI_1 i, x, rfl, hx1, fun a ha hai hab => hx2 a ha ?_ hab⟩
        by_cases e : a = i
        · rw [e, hbit] at hab; cases hab
        · omega
      | true =>
        have hiA : i < T.1 1 := by
          rcases Nat.lt_or_ge i (T.1 1) with q | q
          · exact q
          · rw [tb_lt hl q] at hbit; cases hbit
        have hl2 : left &&& (255 ^^^ 2 ^ i) < 2 ^ T.1 1 := Nat.lt_of_le_of_lt Nat.and_le_left hl
        obtain ⟨y, y1, y2, y3⟩ := hA _ hl2
        obtain ⟨p1, p2, p3⟩ := hP i hiA
        simp only [if_true, if_neg one_ne]
        rw [xl_287_11 hx, xl_287_10 hx]
        simp only [ob]
        rw [m_there (by omega) (by omega), nI_1, show nI (b + 1) * 128 = nI ((b + 1) * 128) from pk_mul (b + 1) 128, nI_add, aI_n (by rw [xnn_299]; omega) (by omega), y2]
        simp only [ob]
        rw [aI_n (by rw [xnn_298]; omega) (by omega), p1]
        simp only [ob, obd]
        rw [nI_add, imin_n (by omega) (by omega)]
        refine ⟨_, rfl, nI_1 i, min x (z i + y), rfl, by omega, fun a ha hai hab => ?_⟩
        by_cases e : a = i
        · subst e; exact ⟨y, y3, by omega⟩
        · obtain ⟨y4, q1, q2⟩ := hx2 a ha (by omega) hab
          exact ⟨y4, q1, by omega⟩
    · rintro ⟨s1, s2⟩ ⟨rfl, x, rfl, hx1, hx2⟩
      dsimp only
      unfold fX5_leastFrom_S6
      rw [if_pos (show (7 : Int32) ≤ nI 7 by decide)]
      exact ⟨_, rfl, x, rfl, hx1, fun a ha => hx2 a ha (by omega)⟩
  obtain ⟨o, b1, x, rfl, x1, x2⟩ := main
  rw [b1]
  refine ⟨x, rfl, x1, ?_⟩
  rw [show T.1 3 - b = (T.1 3 - (b + 1)) + 1 by omega, clo_y h0]
  refine LB_c hW (by omega) (fun a ha hab => ?_)
  obtain ⟨y, q1, q2⟩ := x2 a ha hab
  exact ⟨z a, y, (hP a ha).2.2, q1, q2⟩
