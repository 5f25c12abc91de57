/-! being, set, way. -/
theorem one_ne : ¬ (1 : Int32) = 0 := by decide
theorem bt_1 : ∀ i, i < 32 → bt 1 i = decide (i = 0) := by decide +kernel
theorem and1 (x : Int32) : x &&& 1 = if bt x 0 then 1 else 0 := bt_ext fun i hi => by
  rw [b_and, bt_1 i hi]
  by_cases h : i = 0
  · subst h
    cases hb : bt x 0
    · simp [b_0]
    · simp [bt_1 0 (by decide)]
  · cases hb : bt x 0
    · simp [h, b_0]
    · simp [h, bt_1 i hi]
theorem ush_bit (x : Int32) {a : Nat} (ha : a < 32) : ush x (nI a) &&& 1 = if bt x a then 1 else 0 := by
  rw [and1]; unfold ush; rw [b_ushr a ha]; rfl
theorem shr_bit (x : Int32) {a : Nat} (ha : a < 32) : (x >>> (nI a &&& 31)) &&& 1 = if bt x a then 1 else 0 := by
  rw [and1, b_sshr a ha _ (by decide), if_pos (show a + 0 < 32 by omega)]; rfl
theorem Inv0.M {T : Txt} {t l : Nat} {r : Nat → Int32} {n u nx : Nat} {hi : Nat → Nat → Int32} {hb : Nat} {sl : Nat → Nat → Int32} {m : Nat} {Gx Gm : Hp} (h : Inv0 T t l r n u nx hi hb sl m Gx Gm) : ML0 l T Gm := ⟨h.2.1, h.2.2.1, h.2.2.2.1, h.2.2.2.2.2.2.1, h.2.2.2.2.1⟩
theorem m39_25 {G : Hp} : aI SHM G 39 25 = some (G.1 39 25) := aI_n (j := 25) (by decide +kernel) (by decide)
theorem step4 {Gx Gm : Hp} (hI : Inv Gx Gm) (a b : Int32) : Step4 SHX SHM Inv Gx Gm a b := by
  have hI0 := hI
  obtain ⟨T, t, l, r, n, u, nx, hi, hb, sl, m, h⟩ := hI
  have hM := h.M
  have hx := h.1
  have ht := hx.1
  have hW := h.2.2.2.2.1
  have hT := h.2.2.2.2.2.1
  have hw := hW.1
  unfold Step4 fX10_being fX11_being
  rw [xl_text hx]
  simp only [Option.bind_some]
  by_cases ha : rng a (T.1 1)
  · obtain ⟨a, ha, rfl⟩ := ha
    rw [xBeing_y hT hW ha, mBeing_y hM ha]
    simp only [Option.bind_some, if_neg one_ne]
    by_cases h0 : b = 0
    · rw [if_pos h0, if_pos h0, xt_6 ht hx, ml_25 h.2.1]
      simp only [Option.bind_some]
      rw [aI_n (by rw [xn_6 ht]; omega) (by omega), aI_7 hM mn_12 (by omega), (hT.2.1 a ha).1, (hM.2.2.2.1.2.1 a ha).1]
      exact ⟨_, rfl, rfl, hI0⟩
    · rw [if_neg h0, if_neg h0]
      by_cases h1 : b = 1
      · rw [if_pos h1, if_pos h1, xt_7 ht hx, ml_26 h.2.1]
        simp only [Option.bind_some]
        rw [aI_n (by rw [xn_7 ht]; omega) (by omega), aI_7 hM mn_13 (by omega), (hT.2.1 a ha).2, (hM.2.2.2.1.2.1 a ha).2]
        exact ⟨_, rfl, rfl, hI0⟩
      · rw [if_neg h1, if_neg h1]
        by_cases h2 : b = 2
        · rw [if_pos h2, if_pos h2, xl_0_3 hx, ml_58 h.2.1]
          simp only [Option.bind_some]
          rw [m39_25]
          simp only [Option.bind_some]
          rw [ush_bit _ (by omega), shr_bit _ (by omega), h.2.2.2.2.2.2.2.2.1.2.2.2.2.2.1, h.2.2.2.2.2.2.2.2.2.1 25 (by omega)]
          exact ⟨_, rfl, rfl, hI0⟩
        · rw [if_neg h2, if_neg h2]
          exact ⟨_, rfl, rfl, hI0⟩
  · rw [xBeing_n hT hW ha, mBeing_n hM ha]
    exact ⟨_, rfl, rfl, hI0⟩
theorem step5 {Gx Gm : Hp} (hI : Inv Gx Gm) (a b : Int32) : Step5 SHX SHM Inv Gx Gm a b := by
  have hI0 := hI
  obtain ⟨T, t, l, r, n, u, nx, hi, hb, sl, m, h⟩ := hI
  have hM := h.M
  have hx := h.1
  have ht := hx.1
  have hW := h.2.2.2.2.1
  have hT := h.2.2.2.2.2.1
  unfold Step5 fX10_set fX11_set
  rw [xl_text hx]
  simp only [Option.bind_some]
  by_cases ha : rng a (T.1 1)
  · obtain ⟨a, ha, rfl⟩ := ha
    rw [xBeing_y hT hW ha, mBeing_y hM ha]
    simp only [Option.bind_some, if_neg one_ne]
    by_cases hb : wrng b (T.1 2)
    · obtain ⟨i, hi, rfl⟩ := hb
      rw [xWay_y hT hW hi, mSome_y hM hi]
      simp only [Option.bind_some, if_neg one_ne]
      rw [xSet ⟨t, hx⟩ ht hT hW ha hi, mSet hM ha hi]
      exact ⟨_, rfl, rfl, hI0⟩
    · rw [xWay_n hT hW hb, mSome_n hM hb]
      exact ⟨_, rfl, rfl, hI0⟩
  · rw [xBeing_n hT hW ha, mBeing_n hM ha]
    exact ⟨_, rfl, rfl, hI0⟩
theorem step6 {Gx Gm : Hp} (hI : Inv Gx Gm) (a b : Int32) : Step6 SHX SHM Inv Gx Gm a b := by
  have hI0 := hI
  obtain ⟨T, t, l, r, n, u, nx, hi, hb, sl, m, h⟩ := hI
  have hM := h.M
  have hx := h.1
  have ht := hx.1
  have hW := h.2.2.2.2.1
  have hT := h.2.2.2.2.2.1
  have hw := hW.1
  unfold Step6 fX10_way fX11_way
  rw [xl_text hx]
  simp only [Option.bind_some]
  by_cases ha : rng a (T.1 2)
  · obtain ⟨a, ha, rfl⟩ := ha
    rw [if_neg (nI_pos (by omega)), ← wv_s, xWay_y hT hW ha, wv_s, mWay_y hM ha]
    simp only [Option.bind_some, if_neg one_ne]
    have e1 := hT.2.2.1 a ha
    have e2 := hM.2.2.2.1.2.2.1 a ha
    by_cases h0 : b = 0
    · rw [if_pos h0, if_pos h0, xt_8 ht hx, ml_28 h.2.1]
      simp only [Option.bind_some]
      rw [aI_n (by rw [xn_8 ht]; omega) (by omega), aI_4 hM mn_15 (by omega), e1.1, e2.1]
      exact ⟨_, rfl, rfl, hI0⟩
    · rw [if_neg h0, if_neg h0]
      by_cases h1 : b = 1
      · rw [if_pos h1, if_pos h1, xt_9 ht hx, ml_29 h.2.1]
        simp only [Option.bind_some]
        rw [aI_n (by rw [xn_9 ht]; omega) (by omega), aI_4 hM mn_16 (by omega), e1.2.1, e2.2.1]
        exact ⟨_, rfl, rfl, hI0⟩
      · rw [if_neg h1, if_neg h1]
        by_cases h2 : b = 2
        · rw [if_pos h2, if_pos h2, xt_10 ht hx, ml_30 h.2.1]
          simp only [Option.bind_some]
          rw [aI_n (by rw [xn_10 ht]; omega) (by omega), aI_4 hM mn_17 (by omega), e1.2.2, e2.2.2]
          exact ⟨_, rfl, rfl, hI0⟩
        · rw [if_neg h2, if_neg h2]
          exact ⟨_, rfl, rfl, hI0⟩
  · rw [mWay_n hM ha]
    simp only [Option.bind_some]
    by_cases h0 : a < 0
    · rw [if_pos h0]; exact ⟨_, rfl, rfl, hI0⟩
    · rw [if_neg h0, xWay_n hT hW (fun ⟨i, h1, h2⟩ => by
        cases i with
        | zero => rw [h2] at h0; exact h0 (by decide)
        | succ i => rw [wv_s] at h2; exact ha ⟨i, h1, h2⟩)]
      exact ⟨_, rfl, rfl, hI0⟩
