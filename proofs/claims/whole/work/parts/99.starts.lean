/-! READING: all begins anew. -/
def rw0 (T : Txt) (k : Nat) : Int32 := if k < T.1 3 then nI (T.2.1 5 k) else if k = 25 then nI (2 ^ T.1 1 - 1) else 0
theorem rw0_0 {T : Txt} {k : Nat} (h : T.1 3 ≤ k) (h2 : k ≠ 25) : rw0 T k = 0 := by unfold rw0; rw [if_neg (by omega), if_neg h2]
theorem rw0_b {T : Txt} {k : Nat} (h : k < T.1 3) : rw0 T k = nI (T.2.1 5 k) := if_pos h
theorem WFG_rw0 {T : Txt} (h : WFT T) : WFG T (rw0 T) := by
  have hw := h.1
  refine ⟨fun b hb => ⟨T.2.1 5 b, (h.2.2.2.1 b hb).1.2, rw0_b hb, fun _ => (h.2.2.2.1 b hb).1.1⟩, fun b hb => ⟨Or.inl (rw0_0 (by omega) (by omega)), fun _ => rw0_0 (by omega) (by omega)⟩, ⟨0, by decide, rw0_0 (by omega) (by decide), fun k hk => absurd hk (Nat.not_lt_zero k)⟩, 2 ^ T.1 1 - 1, ?_, ?_⟩
  · have := Nat.two_pow_pos (T.1 1); omega
  · unfold rw0; rw [if_neg (by omega), if_pos rfl]
theorem xStartFrom {t u : Nat} {T : Txt} {G : Hp} (hx : LX t G) (hu : u = 11 ∨ u = 32) (hT : XT u T G) (hW : WFT T) : ∃ G2, fX1_startFrom SHX G 53 u = some G2 ∧ G2.2 = G.2 ∧ (∀ q k, ¬ (53 ≤ q ∧ q ≤ 56) → G2.1 q k = G.1 q k) ∧ XG T 53 (rw0 T) G2 := by
  have hw := hW.1
  have hg : isG 53 := Or.inl rfl
  unfold fX1_startFrom
  rw [xt_11 hu hx]
  simp only [ob]
  rw [xg_0 hg hx]
  simp only [ob]
  rw [cp4 (by rw [xn_11 hu]; decide) (by rw [show (53 : Nat) + 1 = 53 + 1 from rfl, xgn_0 hg]; decide)]
  simp only [ob]
  generalize hG3 : rI G (53 + 1) (fun k => if k < 4 then G.1 (u + 6) k else G.1 (53 + 1) k) = G3
  have e3 : G3.2 = G.2 := by rw [← hG3]; rfl
  have f3 : ∀ q k, q ≠ 54 → G3.1 q k = G.1 q k := fun q k hq => by rw [← hG3, rI_ne hq]
  have v3 : ∀ b, b < 4 → G3.1 54 b = G.1 (u + 6) b := fun b hb => by rw [← hG3, rI_same, if_pos hb]
  have hx3 : LX t G3 := hx.same (by rw [e3])
  rw [xg_1 hg hx3]
  simp only [ob]
  obtain ⟨G6, a1, a2, a3, a4⟩ := xFillAll (G := G3) (q := 53 + 2) (v := 0) (by rw [xgn_1 hg]; decide)
  rw [xgn_1 hg] at a4
  rw [a1]
  simp only [ob]
  have hx6 : LX t G6 := hx3.same (by rw [a2])
  rw [xg_2 hg hx6]
  simp only [ob]
  obtain ⟨G9, b1, b2', b3, b4⟩ := xFillAll (G := G6) (q := 53 + 3) (v := 0) (by rw [xgn_2 hg]; decide)
  rw [xgn_2 hg] at b4
  rw [b1]
  simp only [ob, obd]
  have c1 : (sI (sI G9 53 4 0) 53 5 0).1 u 1 = nI (T.1 1) := by
    rw [sI_ne (by omega), sI_ne (by omega), b3 _ _ (by omega), a3 _ _ (by omega), f3 _ _ (by omega)]; exact hT.1 1 (by decide)
  rw [c1, shl1 (by omega)]
  have c2 : nI (2 ^ T.1 1) - 1 = nI (2 ^ T.1 1 - 1) := by
    have : T.1 1 = 0 ∨ T.1 1 = 1 ∨ T.1 1 = 2 ∨ T.1 1 = 3 ∨ T.1 1 = 4 ∨ T.1 1 = 5 ∨ T.1 1 = 6 ∨ T.1 1 = 7 := by omega
    rcases this with z | z | z | z | z | z | z | z <;> (rw [z]; decide)
  rw [c2]
  generalize hV : nI (2 ^ T.1 1 - 1) = V
  have f : ∀ q k, q ≠ 53 → (sI (sI (sI (sI (sI G9 53 4 0) 53 5 0) 53 6 V) 53 7 0) 53 8 0).1 q k = G9.1 q k := fun q k hq => by
    rw [sI_ne (Or.inl hq), sI_ne (Or.inl hq), sI_ne (Or.inl hq), sI_ne (Or.inl hq), sI_ne (Or.inl hq)]
  refine ⟨_, rfl, by show G9.2 = _; rw [b2', a2, e3], fun q k hq => ?_, fun b hb => ⟨?_, ?_⟩, fun b hb => ?_, fun k hk _ => ?_, ?_, ?_, ?_, ?_, ?_⟩
  · rw [f q k (by omega), b3 q k (by omega), a3 q k (by omega)]; exact f3 q k (by omega)
  · rw [f _ _ (by decide), b3 _ _ (by decide), a3 _ _ (by decide), v3 b (by omega), rw0_b hb]; exact (hT.2.2.2.1 b hb).1
  · rw [f _ _ (by decide), b4 b (by omega), rw0_0 (by omega) (by omega)]
  · rw [f _ _ (by decide), b3 _ _ (by decide), a4 b hb, rw0_0 (by omega) (by omega)]
  · rw [rw0_0 (by omega) (by decide)] at hk
    exact absurd hk (nI_pos (by omega))
  · rw [rw0_0 (by omega) (by decide)]
    exact (sI_ne (by omega)).trans ((sI_ne (by omega)).trans ((sI_ne (by omega)).trans ((sI_ne (by omega)).trans sI_same)))
  · rw [rw0_0 (by omega) (by decide)]
    exact (sI_ne (by omega)).trans ((sI_ne (by omega)).trans ((sI_ne (by omega)).trans sI_same))
  · rw [show rw0 T 25 = V by unfold rw0; rw [if_neg (by omega), if_pos rfl]; exact hV]
    exact (sI_ne (by omega)).trans ((sI_ne (by omega)).trans sI_same)
  · rw [rw0_0 (by omega) (by decide)]
    exact (sI_ne (by omega)).trans sI_same
  · rw [rw0_0 (by omega) (by decide)]
    exact sI_same
