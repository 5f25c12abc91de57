/-! READING: the class begins. -/
def T00 : Txt := (fun _ => 0, fun _ _ => 0, fun _ => [], dfl)
theorem T00_wf : WFT T00 := by
  refine ⟨by decide, fun a ha => absurd ha (Nat.not_lt_zero a), fun a ha => absurd ha (Nat.not_lt_zero a), fun a ha => absurd ha (Nat.not_lt_zero a), fun k hk => ?_⟩
  have : k = 0 ∨ k = 1 ∨ k = 2 := by omega
  rcases this with rfl | rfl | rfl
  · exact ⟨⟨0, by decide, rfl⟩, by decide, fun p hp => by rw [List.mem_singleton.mp hp]; unfold okP; rw [if_pos (by decide)]; exact ⟨by decide, rfl⟩⟩
  · exact ⟨⟨0, by decide, rfl⟩, by decide, fun p hp => by rw [List.mem_singleton.mp hp]; unfold okP; rw [if_pos (by decide)]; exact ⟨by decide, rfl⟩⟩
  · exact ⟨⟨0, by decide, rfl⟩, by decide, fun p hp => by rw [List.mem_singleton.mp hp]; unfold okP; rw [if_neg (by decide), if_pos (by decide)]; exact ⟨by decide, by decide, rfl⟩⟩
theorem asI_0 {sh : Sh} {G : Hp} {q : Nat} {x : Int32} (h : 0 < ln sh q) : asI sh G q 0 x = some (sI G q 0 x) := asI_n (j := 0) h (by decide)
theorem xSetTo {t w : Nat} {v : Int32} {G : Hp} (hx : LX t G) (hw : isL w) : ∃ G2, fX4_setTo SHX G w v = some G2 ∧ G2.2 = G.2 ∧ (∀ q j, ¬ (q = w ∨ q = w + 1 ∨ q = w + 2) → G2.1 q j = G.1 q j) ∧ XL w [[v]] G2 := by
  unfold fX4_setTo fX4_clear
  simp only [obd, ob]
  have hx2 : LX t (sI (sI G w 1 0) w 3 0) := hx
  unfold fX4_addStep
  rw [xw_0 hw hx2]
  simp only [ob]
  rw [xwn_0 hw, show (sI (sI G w 1 0) w 3 0).1 w 1 = 0 from (sI_ne (by omega)).trans sI_same, if_neg (show ¬ nI 400 ≤ 0 by decide), asI_0 (by rw [xwn_0 hw]; decide)]
  simp only [ob, obd]
  rw [show (sI (sI (sI G w 1 0) w 3 0) (w + 1) 0 v).1 w 1 = 0 from (sI_ne (by omega)).trans ((sI_ne (by omega)).trans sI_same)]
  have hx3 : LX t (sI (sI (sI (sI G w 1 0) w 3 0) (w + 1) 0 v) w 1 (0 + 1)) := hx
  unfold fX4_endPart
  rw [xw_2 hw hx3]
  simp only [ob]
  rw [xwn_2 hw, show (sI (sI (sI (sI G w 1 0) w 3 0) (w + 1) 0 v) w 1 (0 + 1)).1 w 3 = 0 from (sI_ne (by omega)).trans ((sI_ne (by omega)).trans sI_same), if_neg (show ¬ nI 13 ≤ 0 by decide), asI_0 (by rw [xwn_2 hw]; decide), sI_same]
  simp only [ob, obd]
  rw [show (sI (sI (sI (sI (sI G w 1 0) w 3 0) (w + 1) 0 v) w 1 (0 + 1)) (w + 2) 0 (0 + 1)).1 w 3 = 0 from (sI_ne (by omega)).trans ((sI_ne (by omega)).trans ((sI_ne (by omega)).trans sI_same))]
  refine ⟨_, rfl, rfl, fun q j hq => ?_, sI_same, fun j hj => ?_, fun i hi => ?_⟩
  · rw [sI_ne (by omega), sI_ne (by omega), sI_ne (by omega), sI_ne (by omega), sI_ne (by omega), sI_ne (by omega)]
  · have hj0 : j = 0 := by have : j < 1 := hj; omega
    subst hj0
    rw [sI_ne (by omega), sI_same]; rfl
  · have hi0 : i = 0 := by have : i < 1 := hi; omega
    subst hi0
    rw [sI_ne (by omega), sI_ne (by omega), sI_ne (by omega), sI_same]; rfl
/-- what the class's beginning changes -/
def EBg (t : Nat) (G G2 : Hp) : Prop := G2.2.2 = G.2.2 ∧ (∀ q, q ≠ 5 → G2.2.1 q = G.2.1 q) ∧ ∀ q k, q ≠ 1 → q ≠ 3 → q ≠ 4 → ¬ (q = 2 ∧ k = 6) → ¬ (43 - t ≤ q ∧ q ≤ 43 - t + 20) → G2.1 q k = G.1 q k
theorem xClear {t : Nat} {G : Hp} (hx : LX t G) : ∃ G2, fX8_clear SHX G (43 - t) = some G2 ∧ G2.2 = G.2 ∧ (∀ q k, ¬ (43 - t ≤ q ∧ q ≤ 43 - t + 20) → G2.1 q k = G.1 q k) ∧ XT (43 - t) T00 G2 := by
  have ht := hx.1
  have hu : 43 - t = 11 ∨ 43 - t = 32 := by omega
  unfold fX8_clear
  simp only [obd]
  generalize hG6 : sI (sI (sI (sI (sI (sI G (43 - t) 0 0) (43 - t) 1 0) (43 - t) 2 0) (43 - t) 3 0) (43 - t) 4 0) (43 - t) 5 0 = G6
  have e6 : G6.2 = G.2 := by rw [← hG6]; rfl
  have f6 : ∀ q k, q ≠ 43 - t → G6.1 q k = G.1 q k := fun q k hq => by
    rw [← hG6, sI_ne (Or.inl hq), sI_ne (Or.inl hq), sI_ne (Or.inl hq), sI_ne (Or.inl hq), sI_ne (Or.inl hq), sI_ne (Or.inl hq)]
  have z6 : ∀ i, i < 6 → G6.1 (43 - t) i = 0 := fun i hi => by
    rw [← hG6]
    have : i = 0 ∨ i = 1 ∨ i = 2 ∨ i = 3 ∨ i = 4 ∨ i = 5 := by omega
    rcases this with rfl | rfl | rfl | rfl | rfl | rfl
    · exact (sI_ne (by omega)).trans ((sI_ne (by omega)).trans ((sI_ne (by omega)).trans ((sI_ne (by omega)).trans ((sI_ne (by omega)).trans sI_same))))
    · exact (sI_ne (by omega)).trans ((sI_ne (by omega)).trans ((sI_ne (by omega)).trans ((sI_ne (by omega)).trans sI_same)))
    · exact (sI_ne (by omega)).trans ((sI_ne (by omega)).trans ((sI_ne (by omega)).trans sI_same))
    · exact (sI_ne (by omega)).trans ((sI_ne (by omega)).trans sI_same)
    · exact (sI_ne (by omega)).trans sI_same
    · exact sI_same
  have hx6 : LX t G6 := hx.same (by rw [e6])
  have w9 : isL (43 - t + 9) := by unfold isL; omega
  have w13 : isL (43 - t + 13) := by unfold isL; omega
  have w17 : isL (43 - t + 17) := by unfold isL; omega
  rw [xt_14 hu hx6]
  simp only [ob]
  obtain ⟨G9, a1, a2, a3, a4⟩ := xSetTo (v := 1) hx6 w9
  have hx9 : LX t G9 := hx6.same (by rw [a2])
  rw [a1]
  simp only [ob]
  rw [xt_15 hu hx9]
  simp only [ob]
  obtain ⟨G12, b1, b2', b3, b4⟩ := xSetTo (v := 1) hx9 w13
  have hx12 : LX t G12 := hx9.same (by rw [b2'])
  rw [b1]
  simp only [ob]
  rw [xt_16 hu hx12]
  simp only [ob]
  obtain ⟨G15, c1, c2', c3, c4⟩ := xSetTo (v := -6) hx12 w17
  rw [c1]
  simp only [ob]
  refine ⟨G15, rfl, by rw [c2', b2', a2, e6], fun q k hq => ?_, fun i hi => ?_, fun a ha => absurd ha (Nat.not_lt_zero a), fun a ha => absurd ha (Nat.not_lt_zero a), fun a ha => absurd ha (Nat.not_lt_zero a), ?_, ?_, c4⟩
  · rw [c3 q k (by omega), b3 q k (by omega), a3 q k (by omega)]; exact f6 q k (by omega)
  · rw [c3 _ _ (by omega), b3 _ _ (by omega), a3 _ _ (by omega)]; exact z6 i hi
  · exact XL_fr (XL_fr a4 (fun q k hq => b3 q k (by omega))) (fun q k hq => c3 q k (by omega))
  · exact XL_fr b4 (fun q k hq => c3 q k (by omega))
