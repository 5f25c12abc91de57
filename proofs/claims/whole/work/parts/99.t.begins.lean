/-! READING: the reference begins anew. -/
theorem mBegins {l : Nat} {T : Txt} {G : Hp} (hL : LM G) (hl : l ≤ 1) (h18 : G.1 0 18 = nI l) (hT : G.1 18 l = nI (T.1 3) ∧ G.1 11 l = nI (T.1 1) ∧ ∀ b, b < T.1 3 → G.1 19 (4 * l + b) = nI (T.2.1 5 b)) (hW : T.1 3 ≤ 4 ∧ T.1 1 ≤ 7) : ∃ G2, fX11_begins SHM G 0 = some G2 ∧ G2.2 = G.2 ∧ (∀ q k, q ≠ 40 → ¬ (q = 0 ∧ (k = 60 ∨ k = 61)) → G2.1 q k = G.1 q k) ∧ ∀ k, k < 26 → G2.1 40 k = rw0 T k := by
  unfold fX11_begins
  obtain ⟨G2, a1, a2, a3, a4⟩ := iter_go (f := fun s : Hp × Int32 => fX11_begins_S2 SHM 0 s.1 s.2) (P := fun i (s : Hp × Int32) => s.2 = nI i ∧ s.1.2 = G.2 ∧ (∀ q k, q ≠ 40 → s.1.1 q k = G.1 q k) ∧ ∀ k, k < i → s.1.1 40 k = 0) (Q := fun o => o.2 = G.2 ∧ (∀ q k, q ≠ 40 → o.1 q k = G.1 q k) ∧ ∀ k, k < 26 → o.1 40 k = 0) 26 (G, 0) (by decide) ⟨rfl, rfl, fun _ _ _ => rfl, fun k hk => absurd hk (Nat.not_lt_zero k)⟩ (fun i s hi hP => by
    obtain ⟨M, c⟩ := s
    obtain ⟨h1, h2, h3, h5⟩ := hP
    have h1' : c = nI i := h1
    subst h1'
    have h2' : M.2 = G.2 := h2
    have hLm : LM M := hL.same (by rw [h2'])
    left
    refine ⟨(sI M 40 i 0, nI (i + 1)), ?_, rfl, h2', fun q k hq => (sI_ne (Or.inl hq)).trans (h3 q k hq), fun k hk => ?_⟩
    · show fX11_begins_S2 SHM 0 M (nI i) = _
      unfold fX11_begins_S2
      rw [if_neg (show ¬ (26 : Int32) ≤ nI i from nI_ge (b := 26) hi (by decide)), ml_59 hLm]
      simp only [ob]
      rw [asI_n (by rw [mn_40]; omega) (by omega)]
      simp only [ob, obd]
      rw [nI_1]
    · show (sI M 40 i 0).1 40 k = 0
      by_cases e : k = i
      · rw [e, sI_same]
      · rw [sI_ne (Or.inr e)]; exact h5 k (by omega)) (fun s hP => by
    obtain ⟨M, c⟩ := s
    obtain ⟨h1, h2, h3, h5⟩ := hP
    have h1' : c = nI 26 := h1
    subst h1'
    refine ⟨M, ?_, h2, h3, h5⟩
    show fX11_begins_S2 SHM 0 M (nI 26) = _
    unfold fX11_begins_S2
    rw [if_pos (by decide)])
  rw [a1]
  simp only [ob, obd]
  have hL2 : LM G2 := hL.same (by rw [a2])
  obtain ⟨G4, b1, b2', b3, b4⟩ := iter_go (f := fun s : Hp × Int32 => fX11_begins_S23 SHM 0 s.1 s.2) (P := fun i (s : Hp × Int32) => s.2 = nI i ∧ s.1.2 = G.2 ∧ (∀ q k, q ≠ 40 → s.1.1 q k = G.1 q k) ∧ ∀ k, k < 26 → s.1.1 40 k = if k < i then nI (T.2.1 5 k) else 0) (Q := fun o => o.2 = G.2 ∧ (∀ q k, q ≠ 40 → o.1 q k = G.1 q k) ∧ ∀ k, k < 26 → o.1 40 k = if k < T.1 3 then nI (T.2.1 5 k) else 0) (T.1 3) (G2, 0) (by omega) ⟨rfl, a2, a3, fun k hk => by rw [if_neg (Nat.not_lt_zero k)]; exact a4 k hk⟩ (fun i s hi hP => by
    obtain ⟨M, c⟩ := s
    obtain ⟨h1, h2, h3, h5⟩ := hP
    have h1' : c = nI i := h1
    subst h1'
    have h2' : M.2 = G.2 := h2
    have h3' : ∀ q k, q ≠ 40 → M.1 q k = G.1 q k := h3
    have hLm : LM M := hL.same (by rw [h2'])
    left
    refine ⟨(sI M 40 i (nI (T.2.1 5 i)), nI (i + 1)), ?_, rfl, h2', fun q k hq => (sI_ne (Or.inl hq)).trans (h3' q k hq), fun k hk => ?_⟩
    · show fX11_begins_S23 SHM 0 M (nI i) = _
      unfold fX11_begins_S23
      rw [ml_31 hLm]
      simp only [ob]
      rw [h3' 0 18 (by decide), h18, aI_n (by rw [mn_18]; omega) (by omega), h3' 18 l (by decide), hT.1]
      simp only [ob]
      rw [if_neg (nI_ge hi (by omega)), ml_59 hLm]
      simp only [ob]
      rw [ml_32 hLm]
      simp only [ob]
      have e4 : (4 : Int32) * nI l + nI i = nI (4 * l + i) := by
        rcases Nat.le_one_iff_eq_zero_or_eq_one.mp hl with rfl | rfl
        · rw [← nI_add]; rfl
        · rw [← nI_add]; rfl
      rw [e4, aI_n (by rw [mn_19]; omega) (by omega), h3' 19 _ (by decide), hT.2.2 i hi]
      simp only [ob]
      rw [asI_n (by rw [mn_40]; omega) (by omega)]
      simp only [ob, obd]
      rw [nI_1]
    · show (sI M 40 i (nI (T.2.1 5 i))).1 40 k = _
      by_cases e : k = i
      · rw [e, sI_same, if_pos (by omega)]
      · rw [sI_ne (Or.inr e)]
        have h5' := h5 k hk
        rw [show M.1 40 k = _ from h5']
        by_cases e2 : k < i
        · rw [if_pos e2, if_pos (by omega)]
        · rw [if_neg e2, if_neg (by omega)]) (fun s hP => by
    obtain ⟨M, c⟩ := s
    obtain ⟨h1, h2, h3, h5⟩ := hP
    have h1' : c = nI (T.1 3) := h1
    subst h1'
    have h2' : M.2 = G.2 := h2
    have h3' : ∀ q k, q ≠ 40 → M.1 q k = G.1 q k := h3
    have hLm : LM M := hL.same (by rw [h2'])
    refine ⟨M, ?_, h2, h3, h5⟩
    show fX11_begins_S23 SHM 0 M (nI (T.1 3)) = _
    unfold fX11_begins_S23
    rw [ml_31 hLm]
    simp only [ob]
    rw [h3' 0 18 (by decide), h18, aI_n (by rw [mn_18]; omega) (by omega), h3' 18 l (by decide), hT.1]
    simp only [ob]
    rw [if_pos (Int32.le_refl _)])
  rw [b1]
  simp only [ob, obd]
  have hL4 : LM G4 := hL.same (by rw [b2'])
  rw [ml_59 hL4]
  simp only [ob]
  rw [ml_24 hL4]
  simp only [ob]
  rw [b3 0 18 (by decide), h18, aI_n (by rw [mn_11]; omega) (by omega), b3 11 l (by decide), hT.2.1]
  simp only [ob]
  rw [shl1 (by omega)]
  have c2 : nI (2 ^ T.1 1) - 1 = nI (2 ^ T.1 1 - 1) := by
    have : T.1 1 = 0 ∨ T.1 1 = 1 ∨ T.1 1 = 2 ∨ T.1 1 = 3 ∨ T.1 1 = 4 ∨ T.1 1 = 5 ∨ T.1 1 = 6 ∨ T.1 1 = 7 := by omega
    rcases this with z | z | z | z | z | z | z | z <;> (rw [z]; decide)
  rw [c2, show asI SHM G4 40 25 (nI (2 ^ T.1 1 - 1)) = some (sI G4 40 25 (nI (2 ^ T.1 1 - 1))) from asI_n (j := 25) (by rw [mn_40]; decide) (by decide)]
  simp only [ob]
  have hL8 : LM (sI G4 40 25 (nI (2 ^ T.1 1 - 1))) := hL4
  rw [ml_39 hL8]
  simp only [ob]
  rw [show (sI G4 40 25 (nI (2 ^ T.1 1 - 1))).1 0 18 = nI l from (sI_ne (by omega)).trans ((b3 0 18 (by decide)).trans h18), aI_n (by rw [mn_25]; omega) (by omega)]
  simp only [ob]
  refine ⟨_, rfl, b2', fun q k hq h0 => ?_, fun k hk => ?_⟩
  · rw [sI_ne (by omega), sI_ne (by omega), sI_ne (by omega)]; exact b3 q k hq
  · rw [sI_ne (by omega), sI_ne (by omega)]
    by_cases e : k = 25
    · rw [e, sI_same]
      unfold rw0
      rw [if_neg (by omega), if_pos rfl]
    · rw [sI_ne (Or.inr e), b4 k hk]
      unfold rw0
      by_cases e2 : k < T.1 3
      · rw [if_pos e2, if_pos e2]
      · rw [if_neg e2, if_neg e2, if_neg e]
