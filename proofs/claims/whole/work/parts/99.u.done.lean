/-! READING: the reference's end where no fault was found. -/
theorem mEmpty {G : Hp} (hL : LM G) : ∃ G2, iter (fun s : Hp × Int32 => fX11_read_S231 SHM 0 s.1 s.2) fuel ((G, 0) : Hp × Int32) = some G2 ∧ G2.2 = G.2 ∧ (∀ q k, q ≠ 51 → G2.1 q k = G.1 q k) ∧ ∀ k, k < 3 → G2.1 51 k = 0 := by
  refine iter_go (P := fun i (s : Hp × Int32) => s.2 = nI i ∧ s.1.2 = G.2 ∧ (∀ q k, q ≠ 51 → s.1.1 q k = G.1 q k) ∧ ∀ k, k < i → s.1.1 51 k = 0) 3 (G, 0) (by decide) ⟨rfl, rfl, fun _ _ _ => rfl, fun k hk => absurd hk (Nat.not_lt_zero k)⟩ (fun i s hi hP => ?_) (fun s hP => ?_)
  · obtain ⟨M, c⟩ := s
    obtain ⟨h1, h2, h3, h5⟩ := hP
    have h1' : c = nI i := h1
    subst h1'
    have h2' : M.2 = G.2 := h2
    have hLm : LM M := hL.same (by rw [h2'])
    left
    refine ⟨(sI M 51 i 0, nI (i + 1)), ?_, rfl, h2', fun q k hq => (sI_ne (Or.inl hq)).trans (h3 q k hq), fun k hk => ?_⟩
    · show fX11_read_S231 SHM 0 M (nI i) = _
      unfold fX11_read_S231
      rw [if_neg (show ¬ (3 : Int32) ≤ nI i from nI_ge (b := 3) hi (by decide)), ml_77 hLm]
      simp only [ob]
      rw [show zb 0 = (0 : Int32) from by decide, asI_n (by rw [mn_51]; omega) (by omega)]
      simp only [ob, obd]
      rw [nI_1]
    · show (sI M 51 i 0).1 51 k = 0
      by_cases e : k = i
      · rw [e, sI_same]
      · rw [sI_ne (Or.inr e)]; exact h5 k (by omega)
  · obtain ⟨M, c⟩ := s
    obtain ⟨h1, h2, h3, h5⟩ := hP
    have h1' : c = nI 3 := h1
    subst h1'
    refine ⟨M, ?_, h2, h3, h5⟩
    show fX11_read_S231 SHM 0 M (nI 3) = _
    unfold fX11_read_S231
    rw [if_pos (by decide)]
theorem mDone {l : Nat} {T : Txt} {G : Hp} (hL : LM G) (hl : l ≤ 1) (h13 : G.1 0 13 = 0) (h15 : G.1 0 15 = 0) (h19 : G.1 0 19 = nI l) (hT : G.1 18 l = nI (T.1 3) ∧ G.1 11 l = nI (T.1 1) ∧ ∀ b, b < T.1 3 → G.1 19 (4 * l + b) = nI (T.2.1 5 b)) (hW : T.1 3 ≤ 4 ∧ T.1 1 ≤ 7) : ∃ G2, fX11_read_J146 SHM G 0 = some (0, G2) ∧ G2.2 = G.2 ∧ (∀ q k, q ≠ 39 → q ≠ 40 → q ≠ 51 → ¬ (q = 0 ∧ (k = 17 ∨ k = 18 ∨ k = 60 ∨ k = 61 ∨ k = 64 ∨ k = 74)) → G2.1 q k = G.1 q k) ∧ (G2.1 0 17 = -1 ∧ G2.1 0 18 = nI l ∧ G2.1 0 64 = 0 ∧ G2.1 0 74 = 0) ∧ (∀ k, k < 26 → G2.1 39 k = rw0 T k) ∧ ∀ k, k < 3 → G2.1 51 k = 0 := by
  unfold fX11_read_J146
  rw [h13, if_pos (by decide), h15, if_pos (by decide)]
  unfold fX11_read_J176
  simp only [obd]
  rw [show (sI G 0 17 (-1)).1 0 13 = 0 from (sI_ne (by omega)).trans h13, if_pos (by decide), show (sI G 0 17 (-1)).1 0 15 = 0 from (sI_ne (by omega)).trans h15, if_pos (by decide), show (sI G 0 17 (-1)).1 0 19 = nI l from (sI_ne (by omega)).trans h19]
  have hL4 : LM (sI (sI G 0 17 (-1)) 0 18 (nI l)) := hL
  have f4 : ∀ q k, ¬ (q = 0 ∧ (k = 17 ∨ k = 18)) → (sI (sI G 0 17 (-1)) 0 18 (nI l)).1 q k = G.1 q k := fun q k h => (sI_ne (by omega)).trans (sI_ne (by omega))
  obtain ⟨G6, a1, a2, a3, a4⟩ := mBegins (l := l) (T := T) hL4 hl sI_same ⟨(f4 _ _ (by omega)).trans hT.1, (f4 _ _ (by omega)).trans hT.2.1, fun b hb => (f4 _ _ (by omega)).trans (hT.2.2 b hb)⟩ hW
  rw [a1]
  simp only [ob]
  have hL6 : LM G6 := hL.same (by rw [a2]; rfl)
  obtain ⟨G8, b1, ⟨b2', b3⟩, b4⟩ := mKeepsRow (r := rw0 T) hL6 a4
  rw [b1]
  simp only [ob]
  have hL10 : LM (sI (sI G8 0 64 0) 0 74 0) := hL6.same (by show G8.2.2 = _; rw [b2'])
  obtain ⟨G12, c1, c2', c3, c4⟩ := mEmpty hL10
  rw [c1]
  simp only [ob]
  have f8 : ∀ q k, q ≠ 39 → q ≠ 40 → ¬ (q = 0 ∧ (k = 60 ∨ k = 61)) → G8.1 q k = (sI (sI G 0 17 (-1)) 0 18 (nI l)).1 q k := fun q k h1 h2 h3 => (b3 q k (by omega)).trans (a3 q k h2 h3)
  have f10 : ∀ q k, q ≠ 51 → ¬ (q = 0 ∧ (k = 64 ∨ k = 74)) → G12.1 q k = G8.1 q k := fun q k h1 h2 => by rw [c3 q k h1, sI_ne (by omega), sI_ne (by omega)]
  refine ⟨G12, rfl, by rw [c2']; show G8.2 = _; rw [b2', a2]; rfl, fun q k h1 h2 h3 h4 => ?_, ⟨?_, ?_, ?_, ?_⟩, fun k hk => ?_, c4⟩
  · rw [f10 q k h3 (by omega), f8 q k h1 h2 (by omega)]; exact f4 q k (by omega)
  · rw [f10 0 17 (by decide) (by omega), f8 0 17 (by decide) (by decide) (by omega), sI_ne (by omega), sI_same]
  · rw [f10 0 18 (by decide) (by omega), f8 0 18 (by decide) (by decide) (by omega), sI_same]
  · rw [c3 0 64 (by decide), sI_ne (by omega), sI_same]
  · rw [c3 0 74 (by decide), sI_same]
  · rw [f10 39 k (by decide) (by omega)]; exact b4 k hk
