theorem all_mem {α : Type} {l : List α} {p : α → Bool} (h : l.all p = true) {x : α} (hx : x ∈ l) : p x = true := List.all_eq_true.mp h x hx
theorem fresh : ∃ GX GM, fX10_init [(0, 10)] GZ 0 = some (SHX, GX) ∧ fX11_init [(0, 11)] GZ 0 = some (SHM, GM) ∧ Inv GX GM := by
  have hx := fresh_x
  have hm := fresh_m
  cases hfx : fX10_init [(0, 10)] GZ 0 with
  | none => rw [hfx] at hx; cases hx
  | some rx =>
    cases hfm : fX11_init [(0, 11)] GZ 0 with
    | none => rw [hfm] at hm; cases hm
    | some rm =>
      obtain ⟨shx, GX⟩ := rx
      obtain ⟨shm, GM⟩ := rm
      rw [hfx] at hx
      rw [hfm] at hm
      have hx' : (decide (shx = SHX) && ckHX GX) = true := hx
      have hm' : (decide (shm = SHM) && ckHM GM) = true := hm
      rw [Bool.and_eq_true, decide_eq_true_iff] at hx' hm'
      obtain ⟨rfl, hx2⟩ := hx'
      obtain ⟨rfl, hm2⟩ := hm'
      refine ⟨GX, GM, rfl, rfl, ?_⟩
      unfold ckHX at hx2
      unfold ckHM at hm2
      simp only [Bool.and_eq_true, decide_eq_true_iff] at hx2 hm2
      obtain ⟨⟨⟨⟨⟨a1, a2⟩, a3⟩, a4⟩, a5⟩, a6⟩ := hx2
      obtain ⟨⟨⟨⟨b1, b2'⟩, b3⟩, b4⟩, b5⟩ := hm2
      have cx : ∀ q k v, (q, k, v) ∈ ([(41, 3, 1), (43, 0, 1), (42, 0, 1), (45, 3, 1), (47, 0, 1), (46, 0, 1), (49, 3, 1), (51, 0, 1), (50, 0, -6), (53, 4, 0), (53, 5, 0), (53, 6, 0), (53, 7, 0), (53, 8, 0), (55, 0, 0), (55, 1, 0), (55, 2, 0), (55, 3, 0), (2, 0, 0), (66, 0, 0), (66, 1, 0), (0, 7, 0), (284, 0, 0), (0, 1, -1)] : List (Nat × Nat × Int32)) → GX.1 q k = v := fun q k v h => of_decide_eq_true (all_mem a5 h)
      have cm : ∀ q k v, (q, k, v) ∈ ([(0, 18, 0), (10, 0, 0), (11, 0, 0), (14, 0, 0), (18, 0, 0), (24, 0, 0), (25, 0, 0), (0, 2, 0), (0, 64, 0), (51, 0, 0), (51, 1, 0), (51, 2, 0), (0, 74, 0), (0, 17, -1)] : List (Nat × Nat × Int32)) → GM.1 q k = v := fun q k v h => of_decide_eq_true (all_mem b2' h)
      have z : ∀ k, rw0 T00 k = 0 := fun k => by
        unfold rw0
        rw [if_neg (show ¬ k < T00.1 3 from Nat.not_lt_zero k)]
        by_cases e : k = 25
        · rw [if_pos e]; rfl
        · rw [if_neg e]
      have law : ∀ (w : Nat) (v : Int32), GX.1 w 3 = 1 → GX.1 (w + 2) 0 = 1 → GX.1 (w + 1) 0 = v → XL w [[v]] GX := fun w v h1 h2 h3 => ⟨h1, fun j hj => by
        have hj0 : j = 0 := by have : j < 1 := hj; omega
        subst hj0; exact h2, fun j hj => by
        have hj0 : j = 0 := by have : j < 1 := hj; omega
        subst hj0; exact h3⟩
      refine ⟨T00, 32, 0, rw0 T00, 0, 0, 0, fun _ _ => 0, 0, fun _ _ => 0, 0, ⟨Or.inr rfl, a1, a2, fun e he => of_decide_eq_true (all_mem a3 he)⟩, fun e he => of_decide_eq_true (all_mem b1 he), by decide, cm _ _ _ (by decide), T00_wf, ⟨fun i hi => of_decide_eq_true (all_mem a4 (List.mem_range.mpr hi)), fun a ha => absurd ha (Nat.not_lt_zero a), fun a ha => absurd ha (Nat.not_lt_zero a), fun a ha => absurd ha (Nat.not_lt_zero a), law 41 1 (cx _ _ _ (by decide)) (cx _ _ _ (by decide)) (cx _ _ _ (by decide)), law 45 1 (cx _ _ _ (by decide)) (cx _ _ _ (by decide)) (cx _ _ _ (by decide)), law 49 (-6) (cx _ _ _ (by decide)) (cx _ _ _ (by decide)) (cx _ _ _ (by decide))⟩, ?_, WFG_rw0 T00_wf, ?_, fun k hk => ?_, ⟨by decide, cx _ _ _ (by decide), cm _ _ _ (by decide), fun j hj => absurd hj (Nat.not_lt_zero j)⟩, ⟨by decide, by decide, cx _ _ _ (by decide), cx _ _ _ (by decide), cm _ _ _ (by decide), fun j hj => absurd hj (Nat.not_lt_zero j)⟩, ⟨by decide, cx _ _ _ (by decide), fun i hi => ⟨?_, fun h => ?_⟩⟩, ⟨by decide, cx _ _ _ (by decide), cm _ _ _ (by decide), fun j hj => absurd hj (Nat.not_lt_zero j)⟩, fun i hi => ⟨of_decide_eq_true (all_mem a6 (List.mem_range.mpr hi)), of_decide_eq_true (all_mem b5 (List.mem_range.mpr hi))⟩, ?_⟩
      · refine ⟨⟨cm _ _ _ (by decide), cm _ _ _ (by decide), cm _ _ _ (by decide), cm _ _ _ (by decide), cm _ _ _ (by decide), cm _ _ _ (by decide)⟩, fun a ha => absurd ha (Nat.not_lt_zero a), fun a ha => absurd ha (Nat.not_lt_zero a), fun a ha => absurd ha (Nat.not_lt_zero a), fun k hk => Or.inl ⟨rfl, ?_⟩⟩
        rw [show 3 * 0 + k = k by omega]
        exact of_decide_eq_true (all_mem b3 (List.mem_range.mpr hk))
      · refine ⟨fun a ha => absurd ha (Nat.not_lt_zero a), fun b hb => ?_, fun k hk _ => ?_, ?_, ?_, ?_, ?_, ?_⟩
        · rw [z]
          have : b = 0 ∨ b = 1 ∨ b = 2 ∨ b = 3 := by omega
          rcases this with rfl | rfl | rfl | rfl <;> exact cx _ _ _ (by decide)
        · rw [z] at hk
          exact absurd hk (nI_pos (by omega))
        · rw [z]; exact cx _ _ _ (by decide)
        · rw [z]; exact cx _ _ _ (by decide)
        · rw [z]; exact cx _ _ _ (by decide)
        · rw [z]; exact cx _ _ _ (by decide)
        · rw [z]; exact cx _ _ _ (by decide)
      · rw [z]; exact of_decide_eq_true (all_mem b4 (List.mem_range.mpr hk))
      · rw [Nat.zero_testBit]
        have : i = 0 ∨ i = 1 ∨ i = 2 := by omega
        rcases this with rfl | rfl | rfl <;> exact cm _ _ _ (by decide)
      · rw [Nat.zero_testBit] at h; cases h
      · rw [cx 0 1 (-1) (by decide), cm 0 17 (-1) (by decide)]
