/-! fillings of rows, and what else of ALL is used elsewhere -/
theorem xFill {G : Hp} {q lo hi : Nat} {v : Int32} (h1 : lo ≤ hi) (h2 : hi ≤ ln SHX q) (h3 : ln SHX q < 100000) : ∃ G2, fJ7_fill_fda19 SHX G q (nI lo) (nI hi) v = some G2 ∧ G2.2 = G.2 ∧ (∀ q2 k, ¬ (q2 = q ∧ lo ≤ k ∧ k < hi) → G2.1 q2 k = G.1 q2 k) ∧ ∀ k, lo ≤ k → k < hi → G2.1 q k = v := by
  unfold fJ7_fill_fda19 fJ7_rangeCheck_23922
  rw [if_pos (nI_le h1 (by omega)), if_pos (nI_pos' (by omega)), if_pos (nI_le h2 (by omega))]
  simp only [ob]
  obtain ⟨o, b1, b2', b3, b4⟩ := iter_go (f := fun s : Hp × Int32 => fJ7_fill_fda19_S10 SHX q (nI hi) v s.1 s.2) (P := fun i s => s.2 = nI (lo + i) ∧ s.1.2 = G.2 ∧ (∀ q2 k, ¬ (q2 = q ∧ lo ≤ k ∧ k < hi) → s.1.1 q2 k = G.1 q2 k) ∧ ∀ k, lo ≤ k → k < lo + i → s.1.1 q k = v) (Q := fun o => o.2 = G.2 ∧ (∀ q2 k, ¬ (q2 = q ∧ lo ≤ k ∧ k < hi) → o.1 q2 k = G.1 q2 k) ∧ ∀ k, lo ≤ k → k < hi → o.1 q k = v) (hi - lo) (G, nI lo) (by omega) ⟨rfl, rfl, fun _ _ _ => rfl, fun k a b => by omega⟩ (by
    rintro i ⟨G1, x⟩ hi2 ⟨rfl, e1, e2, e3⟩
    left
    dsimp only at e1 e2 e3 ⊢
    unfold fJ7_fill_fda19_S10
    rw [if_neg (nI_ge (by omega) (by omega)), asI_n (by omega) (by omega)]
    simp only [ob, obd]
    refine ⟨_, rfl, by rw [nI_1]; rfl, e1, fun q2 k hk => ?_, fun k k1 k2 => ?_⟩
    · show (sI G1 q (lo + i) v).1 q2 k = _
      rw [sI_ne (by omega)]; exact e2 q2 k hk
    · show (sI G1 q (lo + i) v).1 q k = _
      by_cases e : k = lo + i
      · rw [e, sI_same]
      · rw [sI_ne (Or.inr e)]; exact e3 k k1 (by omega)) (by
    rintro ⟨G1, x⟩ ⟨rfl, e1, e2, e3⟩
    dsimp only at e1 e2 e3 ⊢
    unfold fJ7_fill_fda19_S10
    rw [if_pos (nI_le (by omega) (by omega))]
    exact ⟨_, rfl, e1, e2, fun k k1 k2 => e3 k k1 (by omega)⟩)
  rw [b1]
  simp only [ob, obd]
  exact ⟨_, rfl, b2', b3, b4⟩
theorem xFillAll {G : Hp} {q : Nat} {v : Int32} (h3 : ln SHX q < 100000) : ∃ G2, fJ7_fill_53178 SHX G q v = some G2 ∧ G2.2 = G.2 ∧ (∀ q2 k, q2 ≠ q → G2.1 q2 k = G.1 q2 k) ∧ ∀ k, k < ln SHX q → G2.1 q k = v := by
  unfold fJ7_fill_53178
  simp only [obd]
  obtain ⟨o, b1, b2', b3, b4⟩ := iter_go (f := fun s : Hp × Int32 => fJ7_fill_53178_S5 SHX q v (nI (ln SHX q)) s.1 s.2) (P := fun i s => s.2 = nI i ∧ s.1.2 = G.2 ∧ (∀ q2 k, q2 ≠ q → s.1.1 q2 k = G.1 q2 k) ∧ ∀ k, k < i → s.1.1 q k = v) (Q := fun o => o.2 = G.2 ∧ (∀ q2 k, q2 ≠ q → o.1 q2 k = G.1 q2 k) ∧ ∀ k, k < ln SHX q → o.1 q k = v) (ln SHX q) (G, 0) (by omega) ⟨rfl, rfl, fun _ _ _ => rfl, fun k b => by omega⟩ (by
    rintro i ⟨G1, x⟩ hi2 ⟨rfl, e1, e2, e3⟩
    left
    dsimp only at e1 e2 e3 ⊢
    unfold fJ7_fill_53178_S5
    rw [if_neg (nI_ge (by omega) (by omega)), asI_n (by omega) (by omega)]
    simp only [ob, obd]
    refine ⟨_, rfl, nI_1 i, e1, fun q2 k hk => ?_, fun k k2 => ?_⟩
    · show (sI G1 q i v).1 q2 k = _
      rw [sI_ne (Or.inl hk)]; exact e2 q2 k hk
    · show (sI G1 q i v).1 q k = _
      by_cases e : k = i
      · rw [e, sI_same]
      · rw [sI_ne (Or.inr e)]; exact e3 k (by omega)) (by
    rintro ⟨G1, x⟩ ⟨rfl, e1, e2, e3⟩
    dsimp only at e1 e2 e3 ⊢
    unfold fJ7_fill_53178_S5
    rw [if_pos (nI_le (Nat.le_refl _) (by omega))]
    exact ⟨_, rfl, e1, e2, e3⟩)
  rw [b1]
  simp only [ob, obd]
  exact ⟨_, rfl, b2', b3, b4⟩
theorem wv_dec (b : Nat) : nI b + (-1) = wv b := by
  unfold wv; rw [Int32.sub_eq_add_neg]
theorem getD_pre {ps : List Nat} {x j : Nat} (h : j < ps.length) : (ps ++ [x]).getD j 0 = ps.getD j 0 := by
  rw [List.getD_eq_getElem?_getD, List.getD_eq_getElem?_getD, List.getElem?_append_left h]
theorem getD_snoc {ps : List Nat} {x : Nat} : (ps ++ [x]).getD ps.length 0 = x := by
  rw [List.getD_eq_getElem?_getD, List.getElem?_append_right (Nat.le_refl _), Nat.sub_self]; rfl
