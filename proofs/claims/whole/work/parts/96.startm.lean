/-! READING: the reference before its first tell. -/
theorem i8_sb : ∀ y, y < 256 → Int8.toInt32 (Int32.toInt8 (sb y)) = sb y := by decide +kernel
theorem mBytes {n : Nat} {y : Nat → Nat} {G : Hp} (hL : LM G) (hn : n ≤ 2000) (h4 : G.1 0 4 = nI n) (hb : ∀ j, j < n → y j < 256 ∧ G.1 1 j = sb (y j)) : ∃ G2, iter (fun s : Hp × Int32 => fX11_read_S10 SHM 0 s.1 s.2) fuel ((G, 0) : Hp × Int32) = some G2 ∧ G2.2 = G.2 ∧ (∀ q k, q ≠ 2 → G2.1 q k = G.1 q k) ∧ ∀ j, j < n → G2.1 2 j = sb (y j) := by
  refine iter_go (P := fun i (s : Hp × Int32) => s.2 = nI i ∧ s.1.2 = G.2 ∧ (∀ q k, q ≠ 2 → s.1.1 q k = G.1 q k) ∧ ∀ j, j < i → s.1.1 2 j = sb (y j)) n (G, 0) (by omega) ⟨rfl, rfl, fun _ _ _ => rfl, fun j hj => absurd hj (Nat.not_lt_zero j)⟩ (fun i s hi hP => ?_) (fun s hP => ?_)
  · obtain ⟨M, c⟩ := s
    obtain ⟨h1, h2, h3, h5⟩ := hP
    have h1' : c = nI i := h1
    subst h1'
    have h2' : M.2 = G.2 := h2
    have h3' : ∀ q k, q ≠ 2 → M.1 q k = G.1 q k := h3
    have hLm : LM M := hL.same (by rw [h2'])
    left
    refine ⟨(sI M 2 i (sb (y i)), nI (i + 1)), ?_, rfl, h2', fun q k hq => (sI_ne (Or.inl hq)).trans (h3' q k hq), fun j hj => ?_⟩
    · show fX11_read_S10 SHM 0 M (nI i) = _
      unfold fX11_read_S10
      rw [h3' 0 4 (by decide), h4, if_neg (nI_ge hi (by omega)), ml_3 hLm]
      simp only [ob]
      rw [ml_1 hLm]
      simp only [ob]
      rw [aI_n (by rw [mn_1]; omega) (by omega), h3' 1 i (by decide), (hb i hi).2]
      simp only [ob]
      rw [i8_sb _ (hb i hi).1, asI_n (by rw [mn_2]; omega) (by omega)]
      simp only [ob, obd]
      rw [nI_1]
    · show (sI M 2 i (sb (y i))).1 2 j = _
      by_cases e : j = i
      · rw [e, sI_same]
      · rw [sI_ne (Or.inr e)]; exact h5 j (by omega)
  · obtain ⟨M, c⟩ := s
    obtain ⟨h1, h2, h3, h5⟩ := hP
    have h1' : c = nI n := h1
    subst h1'
    have h3' : ∀ q k, q ≠ 2 → M.1 q k = G.1 q k := h3
    refine ⟨M, ?_, h2, h3, h5⟩
    show fX11_read_S10 SHM 0 M (nI n) = _
    unfold fX11_read_S10
    rw [h3' 0 4 (by decide), h4, if_pos (Int32.le_refl _)]
theorem side3 {s k : Nat} (hs : s ≤ 1) : (3 : Int32) * nI s + nI k = nI (3 * s + k) := by
  rcases Nat.le_one_iff_eq_zero_or_eq_one.mp hs with rfl | rfl
  · rw [← nI_add]; rfl
  · rw [← nI_add]; rfl
theorem mPlain {s : Nat} {G : Hp} (hL : LM G) (hs : s ≤ 1) : ∃ G2, fX11_plain SHM G 0 (nI s) = some G2 ∧ G2.2 = G.2 ∧ (∀ q j, ¬ ((q = 10 ∨ q = 11 ∨ q = 14 ∨ q = 18 ∨ q = 24 ∨ q = 25) ∧ j = s) → ¬ ((q = 26 ∨ q = 27) ∧ 3 * s ≤ j ∧ j < 3 * s + 3) → G2.1 q j = G.1 q j) ∧ (∀ q, q = 10 ∨ q = 11 ∨ q = 14 ∨ q = 18 ∨ q = 24 ∨ q = 25 → G2.1 q s = 0) ∧ ∀ k, k < 3 → G2.1 26 (3 * s + k) = 0 ∧ G2.1 27 (3 * s + k) = 0 := by
  unfold fX11_plain
  rw [ml_23 hL]
  simp only [ob]
  rw [asI_n (by rw [mn_10]; omega) (by omega)]
  simp only [ob]
  rw [ml_24 (show LM (sI G 10 s 0) from hL)]
  simp only [ob]
  rw [asI_n (by rw [mn_11]; omega) (by omega)]
  simp only [ob]
  rw [ml_27 (show LM (sI (sI G 10 s 0) 11 s 0) from hL)]
  simp only [ob]
  rw [asI_n (by rw [mn_14]; omega) (by omega)]
  simp only [ob]
  rw [ml_31 (show LM (sI (sI (sI G 10 s 0) 11 s 0) 14 s 0) from hL)]
  simp only [ob]
  rw [asI_n (by rw [mn_18]; omega) (by omega)]
  simp only [ob]
  rw [ml_38 (show LM (sI (sI (sI (sI G 10 s 0) 11 s 0) 14 s 0) 18 s 0) from hL)]
  simp only [ob]
  rw [asI_n (by rw [mn_24]; omega) (by omega)]
  simp only [ob]
  rw [ml_39 (show LM (sI (sI (sI (sI (sI G 10 s 0) 11 s 0) 14 s 0) 18 s 0) 24 s 0) from hL)]
  simp only [ob]
  rw [asI_n (by rw [mn_25]; omega) (by omega)]
  simp only [ob]
  generalize hG : sI (sI (sI (sI (sI (sI G 10 s 0) 11 s 0) 14 s 0) 18 s 0) 24 s 0) 25 s 0 = G12
  have e12 : G12.2 = G.2 := by rw [← hG]; rfl
  have f12 : ∀ q j, ¬ ((q = 10 ∨ q = 11 ∨ q = 14 ∨ q = 18 ∨ q = 24 ∨ q = 25) ∧ j = s) → G12.1 q j = G.1 q j := fun q j h => by
    rw [← hG, sI_ne (by omega), sI_ne (by omega), sI_ne (by omega), sI_ne (by omega), sI_ne (by omega), sI_ne (by omega)]
  have z12 : ∀ q, q = 10 ∨ q = 11 ∨ q = 14 ∨ q = 18 ∨ q = 24 ∨ q = 25 → G12.1 q s = 0 := fun q h => by
    rw [← hG]
    rcases h with rfl | rfl | rfl | rfl | rfl | rfl
    · exact (sI_ne (by omega)).trans ((sI_ne (by omega)).trans ((sI_ne (by omega)).trans ((sI_ne (by omega)).trans ((sI_ne (by omega)).trans sI_same))))
    · exact (sI_ne (by omega)).trans ((sI_ne (by omega)).trans ((sI_ne (by omega)).trans ((sI_ne (by omega)).trans sI_same)))
    · exact (sI_ne (by omega)).trans ((sI_ne (by omega)).trans ((sI_ne (by omega)).trans sI_same))
    · exact (sI_ne (by omega)).trans ((sI_ne (by omega)).trans sI_same)
    · exact (sI_ne (by omega)).trans sI_same
    · exact sI_same
  obtain ⟨o, b1, b2', b3, b4⟩ := iter_go (f := fun s2 : Hp × Int32 => fX11_plain_S44 SHM 0 (nI s) s2.1 s2.2) (P := fun i (s2 : Hp × Int32) => s2.2 = nI i ∧ s2.1.2 = G.2 ∧ (∀ q j, ¬ ((q = 26 ∨ q = 27) ∧ 3 * s ≤ j ∧ j < 3 * s + 3) → s2.1.1 q j = G12.1 q j) ∧ ∀ k, k < i → s2.1.1 26 (3 * s + k) = 0 ∧ s2.1.1 27 (3 * s + k) = 0) (Q := fun o => o.2 = G.2 ∧ (∀ q j, ¬ ((q = 26 ∨ q = 27) ∧ 3 * s ≤ j ∧ j < 3 * s + 3) → o.1 q j = G12.1 q j) ∧ ∀ k, k < 3 → o.1 26 (3 * s + k) = 0 ∧ o.1 27 (3 * s + k) = 0) 3 (G12, 0) (by decide) ⟨rfl, e12, fun _ _ _ => rfl, fun k hk => absurd hk (Nat.not_lt_zero k)⟩ (fun i s2 hi hP => by
    obtain ⟨M, c⟩ := s2
    obtain ⟨h1, h2, h3, h5⟩ := hP
    have h1' : c = nI i := h1
    subst h1'
    have h2' : M.2 = G.2 := h2
    have hLm : LM M := hL.same (by rw [h2'])
    left
    refine ⟨(sI (sI M 26 (3 * s + i) 0) 27 (3 * s + i) 0, nI (i + 1)), ?_, rfl, h2', fun q j hq => ?_, fun k hk => ?_⟩
    · show fX11_plain_S44 SHM 0 (nI s) M (nI i) = _
      unfold fX11_plain_S44
      rw [if_neg (show ¬ (3 : Int32) ≤ nI i from nI_ge (b := 3) hi (by decide)), side3 hs, ml_40 hLm]
      simp only [ob]
      rw [asI_n (by rw [mn_26]; omega) (by omega)]
      simp only [ob]
      rw [ml_41 (show LM (sI M 26 (3 * s + i) 0) from hLm)]
      simp only [ob]
      rw [asI_n (by rw [mn_27]; omega) (by omega)]
      simp only [ob, obd]
      rw [nI_1]
    · show (sI (sI M 26 (3 * s + i) 0) 27 (3 * s + i) 0).1 q j = _
      rw [sI_ne (by omega), sI_ne (by omega)]; exact h3 q j hq
    · show (sI (sI M 26 (3 * s + i) 0) 27 (3 * s + i) 0).1 26 _ = 0 ∧ (sI (sI M 26 (3 * s + i) 0) 27 (3 * s + i) 0).1 27 _ = 0
      by_cases e : k = i
      · rw [e, sI_same, sI_ne (by omega), sI_same]; exact ⟨rfl, rfl⟩
      · rw [sI_ne (by omega), sI_ne (by omega), sI_ne (by omega), sI_ne (by omega)]; exact h5 k (by omega)) (fun s2 hP => by
    obtain ⟨M, c⟩ := s2
    obtain ⟨h1, h2, h3, h5⟩ := hP
    have h1' : c = nI 3 := h1
    subst h1'
    refine ⟨M, ?_, h2, h3, h5⟩
    show fX11_plain_S44 SHM 0 (nI s) M (nI 3) = _
    unfold fX11_plain_S44
    rw [if_pos (by decide)])
  rw [b1]
  simp only [ob, obd]
  exact ⟨o, rfl, b2', fun q j h1 h2 => (b3 q j h2).trans (f12 q j h1), fun q hq => (b3 q s (by omega)).trans (z12 q hq), b4⟩
