/-! READING: step 2. -/
theorem step2 {Gx Gm : Hp} (hI : Inv Gx Gm) : Step2 SHX SHM Inv Gx Gm := by
  obtain ⟨T, t, l, r, n, u, nx, hi, hb, sl, m, h⟩ := hI
  have hx := h.1
  have hm := h.2.1
  have hl := h.2.2.1
  have h18 := h.2.2.2.1
  have ht := hx.1
  obtain ⟨r1, r2, r3, r4⟩ := h.2.2.2.2.2.2.2.2.2.2.1
  have h15 := h.2.2.2.2.2.2.2.2.2.2.2.2.2.2.1
  have hD : TKo (tkd1 (fun j => yb (Gx.1 7 j)) n) := tkd1_ok r1
  obtain ⟨X3, s1, s2, s3⟩ := xStart (y := fun j => yb (Gx.1 7 j)) r1 hx r2 (fun j hj => yb_ok (r4 j hj).2.1 (r4 j hj).2.2) (fun j hj => (h15 j hj).1)
  obtain ⟨M17, m1, m2, m3, m4⟩ := mStart (y := fun j => yb (Gx.1 7 j)) r1 hm hl h18 r3 (fun j hj => ⟨(yb_ok (r4 j hj).2.1 (r4 j hj).2.2).1, (r4 j hj).1.symm.trans (yb_ok (r4 j hj).2.1 (r4 j hj).2.2).2⟩) (fun j hj => (h15 j hj).2)
  have hJ : BJ l 0 (0, 0) T00 [] (420 * (1 - l)) (130 * (1 - l)) (420 * (1 - l)) := ⟨hl, ⟨by decide, fun z => absurd rfl z⟩, by decide, by omega, fun _ => T00_wf⟩
  obtain ⟨⟨X, v⟩, t1, M2, t2, t3, t4, hh⟩ := jTells hD s2 m2 hJ
  have t3' : EXl t X3 X := t3
  unfold Step2 fX10_read
  rw [xl_0_0 hx]
  simp only [ob]
  rw [s1]
  simp only [ob]
  rw [xl_0_0 s2.1.1]
  simp only [ob]
  unfold fX6_readTells
  rw [t1, m1, t2]
  simp only [ob, obd]
  -- frames
  have fx : ∀ q k, ¬ (1 ≤ q ∧ q ≤ 4) → ¬ (43 - t ≤ q ∧ q ≤ 43 - t + 20) → X.1 q k = Gx.1 q k := fun q k a b => (t3'.2.2 q k (by omega) b).trans (s3.2.2 q k (by omega) (by omega) (by omega) (by omega) b)
  have fj : ∀ q, q = 6 ∨ q = t + 8 → X.2.1 q = Gx.2.1 q := fun q hq => (t3'.2.1 q (by omega) (by omega) (by omega) (by omega)).trans (s3.2.1 q (by omega))
  have fm : ∀ q j, ¬ (q = 0 ∧ (j = 2 ∨ j = 4 ∨ (10 ≤ j ∧ j ≤ 16) ∨ j = 19 ∨ j = 20 ∨ j = 36 ∨ j = 42 ∨ j = 48 ∨ j = 52 ∨ j = 54)) → ¬ (2 ≤ q ∧ q ≤ 5) → q ≠ 9 → q ≠ 35 → q ≠ 36 → ¬ sdM l q j → M2.1 q j = Gm.1 q j := fun q j a b c d e f => (t4.2.2 q j (by omega) c d e f).trans (m3.2.2 q j (by omega) b f)
  have fm2 : M2.1 0 2 = 0 := (t4.2.2 0 2 (by omega) (by omega) (by omega) (by omega) (by unfold sdM; omega)).trans m4
  have fm7 : M2.2.1 7 = Gm.2.1 7 := (t4.2.1 7 (by decide)).trans (m3.2.1 7 (by decide))
  -- a fault
  have bad : ∀ (X6 : Hp) (f j : Nat), LX t X6 → X6.1 1 1 = nI j → (∀ q k, q ≠ 1 → X6.1 q k = X.1 q k) → X6.2 = X.2 → 1 ≤ f → f ≤ 5 → LM M2 → fX11_read_J146 SHM M2 0 = some (nI f, sI M2 0 17 (nI j)) → ∃ (r : Int32) (gx gm : Hp), ((ldO SHX X6 0 0 6).bind fun a7 => (ldO SHX X6 a7 0 7).bind fun a8 => if nI f = 0 then fX10_read_J42 SHX (sI X6 a8 0 0) 0 (nI f) (-1) 0 else (ldO SHX (sI X6 a8 0 0) 0 0 6).bind fun a11 => fX10_read_J42 SHX (sI X6 a8 0 0) 0 (nI f) ((sI X6 a8 0 0).1 a11 1) 0) = some (r, gx) ∧ fX11_read_J146 SHM M2 0 = some (r, gm) ∧ Inv gx gm := fun X6 f j g1 g2 g3 g4 g5 g6 g7 g8 => by
    have hf : ¬ nI f = 0 := fun z => by have := (nI_eq (b := 0) (by omega) (by decide)).mp z; omega
    rw [xl_0_0 g1]
    simp only [ob]
    rw [xl_1_0 g1]
    simp only [ob]
    rw [if_neg hf, xl_0_0 (show LX t (sI X6 2 0 0) from g1)]
    simp only [ob]
    unfold fX10_read_J42
    simp only [obd]
    rw [if_neg hf, show (sI X6 2 0 0).1 1 1 = nI j from (sI_ne (by omega)).trans g2]
    refine ⟨_, _, _, rfl, g8, T, t, l, r, 0, u, nx, hi, hb, sl, m, Inv0_read h g1 g7 (fun q k a b c => ?_) ?_ ?_ ?_ (fun q k a b c d e f => ?_) fm7 ?_ ?_⟩
    · rw [sI_ne (by omega), sI_ne (by omega), g3 q k (by omega)]; exact fx q k a b
    · show X6.2.1 6 = _
      rw [g4]; exact fj 6 (Or.inl rfl)
    · show X6.2.1 (t + 8) = _
      rw [g4]; exact fj _ (Or.inr rfl)
    · exact (sI_ne (by omega)).trans sI_same
    · rw [sI_ne (by omega)]; exact fm q k (by omega) b c d e f
    · exact (sI_ne (by omega)).trans fm2
    · rw [sI_same, sI_same]
  rcases hh with ⟨f, j, hv, hf, hmf⟩ | ⟨p2, N2, T2, NM2, cl2, br2, co2, hv, hX, hM, hJ2⟩
  · have hv' : v = 0 := hv
    subst hv'
    have hf' : XF t (tkd1 (fun j => yb (Gx.1 7 j)) n) f j X := hf
    unfold fX6_readTells_J181
    rw [if_pos rfl]
    unfold fX6_readTells_J193
    rw [if_pos rfl, xl_1_0 hf'.1]
    simp only [ob]
    rw [xl_2_2 hf'.1]
    simp only [ob]
    rw [hf'.2.2.2.1, aI_n (by rw [xnn_4]; have := hf'.2.2.1; omega) (by have := hf'.2.2.1; omega), hf'.2.2.2.2]
    simp only [ob, obd]
    rw [(sI_ne (Or.inr (by decide)) : (sI X 1 1 (nI ((tkd1 (fun j => yb (Gx.1 7 j)) n).2.1 j))).1 1 2 = X.1 1 2), hf'.2.1]
    simp only [obp]
    refine bad (sI X 1 1 (nI ((tkd1 (fun j => yb (Gx.1 7 j)) n).2.1 j))) f _ hf'.1 sI_same (fun _ _ hq => sI_ne (Or.inl hq)) rfl (by have := hmf.2.2.1; omega) (by have := hmf.2.2.1; omega) hmf.1 ?_
    unfold fX11_read_J146 fX11_read_J176
    simp only [obd]
    rw [if_neg hmf.pos.1, if_neg (by rw [sI_ne (by omega)]; exact hmf.pos.1), hmf.2.2.2.1, sI_ne (by omega), hmf.2.1]
  · have hv' : v = 1 := hv
    subst hv'
    have hX' : BXs t (tkd1 (fun j => yb (Gx.1 7 j)) n) p2 N2 T2 NM2 X := hX
    unfold fX6_readTells_J181
    rw [if_neg one_ne]
    simp only [obd]
    unfold fX6_readTells_J193
    rw [if_neg one_ne]
    simp only [obd, obp]
    have hN5 := hX'.1.2.2.1.2.2
    have c3 : (sI X 1 2 (X.1 1 3)).1 1 4 = X.1 1 4 := sI_ne (by omega)
    have c2 : (sI (sI X 1 2 (X.1 1 3)) 1 1 ((sI X 1 2 (X.1 1 3)).1 1 4)).1 1 2 = nI N2.1 := (sI_ne (by omega)).trans (sI_same.trans hX'.1.2.2.2.2.2.1)
    rw [c2]
    by_cases e : N2.1 = 0
    · rw [e]
      have hX6 : LX t (sI (sI X 1 2 (X.1 1 3)) 1 1 ((sI X 1 2 (X.1 1 3)).1 1 4)) := hX'.1.1
      have hX9 : LX t (sI (sI (sI X 1 2 (X.1 1 3)) 1 1 ((sI X 1 2 (X.1 1 3)).1 1 4)) 2 0 0) := hX'.1.1
      rw [xl_0_0 hX6]
      simp only [ob]
      rw [xl_1_0 hX6]
      simp only [ob]
      rw [if_pos (show nI 0 = 0 from rfl)]
      have f9 : ∀ q k, q ≠ 1 → q ≠ 2 → (sI (sI (sI X 1 2 (X.1 1 3)) 1 1 ((sI X 1 2 (X.1 1 3)).1 1 4)) 2 0 0).1 q k = X.1 q k := fun q k a b => by rw [sI_ne (Or.inl b), sI_ne (Or.inl a), sI_ne (Or.inl a)]
      have hW2 := hJ2.2.2.2.2 e
      have hXT9 : XT (43 - t) T2 (sI (sI (sI X 1 2 (X.1 1 3)) 1 1 ((sI X 1 2 (X.1 1 3)).1 1 4)) 2 0 0) := XT_fr (hX'.2.2.2.2 e) (fun q k _ _ _ _ => f9 q k (by omega) (by omega)) rfl
      obtain ⟨X2, d1, d2, d3, d4, ⟨d5, d6, d7, d8⟩, d9⟩ := xDone hX9 hXT9 hW2
      have hMT := hM.2.2.2.2.2 e
      have hp4 := hM.1.2.2.1.2.1
      have hbd := hJ2.2.2.2.1
      obtain ⟨M3, e1, e2, e3, ⟨e4, e5, e6, e7⟩, e8, e9⟩ := mDone (l := 1 - l) (T := T2) hM.1.1 (by omega) hM.1.2.2.2.2.1 (by rw [hM.1.2.2.2.2.2.1, e]; rfl) hM.1.2.2.2.2.2.2.2.2 ⟨hMT.1.2.2.2.1, hMT.1.2.1, fun b hb2 => (hMT.2.2.2.1 b hb2).1⟩ ⟨hW2.1.2.2.2.1, hW2.1.2.1⟩
      have h12 := h.2.2.2.2.2.2.2.2.2.2.2.1
      have g3 : ∀ q k, q ≠ 0 → ¬ (37 ≤ q) → M3.1 q k = M2.1 q k := fun q k a b => e3 q k (by omega) (by omega) (by omega) (by omega)
      refine ⟨0, X2, M3, d1, e1, T2, 43 - t, 1 - l, rw0 T2, 0, 0, nx, hi, 0, sl, 0, d2, hM.1.1.same (by rw [e2]), by omega, e5, hW2, XT_fr hXT9 (fun q k _ _ _ _ => d4 q k (by omega) (by omega) (by omega)) (by rw [d3]), ?_, WFG_rw0 hW2, d9, e8, ⟨by omega, ?_, ?_, fun j hj => absurd hj (Nat.not_lt_zero j)⟩, ⟨by omega, h12.2.1, d7, ?_, e6, fun j hj => absurd hj (Nat.not_lt_zero j)⟩, ⟨by decide, d6, fun i hi2 => ⟨?_, fun z => ?_⟩⟩, ⟨by omega, d8, e7, fun j hj => absurd hj (Nat.not_lt_zero j)⟩, fun i hi2 => ?_, d5.trans e4.symm⟩
      · exact MTc_fr hMT (by omega) (by omega) (by omega) (fun q hq => g3 q _ (by omega) (by omega)) (fun q j hq _ _ => g3 q j (by omega) (by omega)) (fun q j _ _ _ _ => g3 q j (by omega) (by omega)) (fun q j _ _ _ _ => g3 q j (by omega) (by omega)) (fun j _ _ => g3 23 j (by omega) (by omega)) (fun q j hq _ _ => g3 q j (by omega) (by omega)) (fun q j _ _ _ _ => g3 q j (by omega) (by omega)) (fun q j hq _ _ => g3 q j (by omega) (by omega))
      · rw [d4 2 0 (by omega) (by omega) (by omega)]; exact sI_same
      · rw [e3 0 2 (by decide) (by decide) (by decide) (by omega)]; exact fm2
      · rw [d4 66 1 (by omega) (by omega) (by omega), f9 66 1 (by decide) (by decide), fx 66 1 (by omega) (by omega)]; exact h12.2.2.2.1
      · rw [e9 i hi2, Nat.zero_testBit]; rfl
      · rw [Nat.zero_testBit] at z; cases z
      · rw [d3, e2]
        show X.2.1 6 i = _ ∧ _
        rw [fj 6 (Or.inl rfl), fm7]; exact h15 i hi2
    · refine bad _ N2.1 _ hX'.1.1 (sI_same.trans (c3.trans (hX'.1.2.2.2.2.2.2 e))) (fun q k hq => (sI_ne (Or.inl hq)).trans (sI_ne (Or.inl hq))) rfl (by omega) (by omega) hM.1.1 ?_
      unfold fX11_read_J146 fX11_read_J176
      simp only [obd]
      have p15 : ¬ nI N2.1 ≤ 0 := show ¬ nI N2.1 ≤ nI 0 from nI_ge (by omega) (by omega)
      rw [hM.1.2.2.2.2.1, if_pos (by decide), hM.1.2.2.2.2.2.1, if_neg p15, if_pos (by rw [sI_ne (by omega), hM.1.2.2.2.2.1]; decide), sI_ne (by omega), hM.1.2.2.2.2.2.1, if_neg p15, hM.1.2.2.2.2.2.2.1 e]
