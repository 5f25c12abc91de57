theorem xDone {t : Nat} {T : Txt} {G : Hp} (hx : LX t G) (hT : XT (43 - t) T G) (hW : WFT T) : ∃ G2, fX10_read_J42 SHX G 0 0 (-1) 0 = some (0, G2) ∧ LX (43 - t) G2 ∧ G2.2.1 = G.2.1 ∧ (∀ q k, ¬ (53 ≤ q ∧ q ≤ 56) → ¬ (q = 0 ∧ (k = 1 ∨ k = 7)) → ¬ ((q = 66 ∨ q = 284) ∧ k = 0) → G2.1 q k = G.1 q k) ∧ (G2.1 0 1 = -1 ∧ G2.1 0 7 = 0 ∧ G2.1 66 0 = 0 ∧ G2.1 284 0 = 0) ∧ XG T 53 (rw0 T) G2 := by
  have ht := hx.1
  have hu : 43 - t = 11 ∨ 43 - t = 32 := by omega
  unfold fX10_read_J42
  simp only [obd]
  rw [if_pos trivial]
  have hx1 : LX t (sI G 0 1 (-1)) := hx
  rw [xl_0_0 hx1]
  simp only [ob]
  rw [xl_text hx1]
  simp only [ob]
  unfold fX6_swapText
  rw [xl_rtext hx1]
  simp only [ob, obd, obp]
  rw [show ckO SHX (43 - t) 8 = some () from by rcases hu with h | h <;> (rw [h]; decide +kernel)]
  simp only [ob]
  have hx8 := LX_swap hx1
  rw [xl_0_3 hx8]
  simp only [ob]
  rw [xl_text hx8]
  simp only [ob]
  have hT8 : XT (43 - t) T (sR (sR (sI G 0 1 (-1)) 1 9 (some t)) 0 2 (some (43 - t))) := XT_fr hT (fun q k a b _ _ => by show (sI G 0 1 (-1)).1 q k = _; exact sI_ne (by omega)) rfl
  obtain ⟨G12, a1, a2, a3, a4⟩ := xStartFrom hx8 hu hT8 hW
  rw [a1]
  simp only [ob]
  have hx12 : LX (43 - t) G12 := hx8.same (by rw [a2])
  rw [xl_0_5 hx12]
  simp only [ob]
  have hx14 : LX (43 - t) (sI G12 66 0 0) := hx12
  rw [xl_0_8 hx14]
  simp only [ob]
  refine ⟨_, rfl, hx12, by show G12.2.1 = _; rw [a2]; rfl, fun q k h1 h2 h3 => ?_, ⟨?_, sI_same, ?_, ?_⟩, XG_fr a4 (fun q k a b => ?_)⟩
  · rw [sI_ne (by omega), sI_ne (by omega), sI_ne (by omega), a3 q k h1]
    show (sI G 0 1 (-1)).1 q k = _
    exact sI_ne (by omega)
  · rw [sI_ne (by omega), sI_ne (by omega), sI_ne (by omega), a3 0 1 (by omega)]
    show (sI G 0 1 (-1)).1 0 1 = _
    exact sI_same
  · rw [sI_ne (by omega), sI_ne (by omega), sI_same]
  · rw [sI_ne (by omega), sI_same]
  · rw [sI_ne (by omega), sI_ne (by omega), sI_ne (by omega)]
