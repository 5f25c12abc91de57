/-! READING: the reference before its first tell, whole. -/
def EBm (l : Nat) (G G2 : Hp) : Prop := G2.2.2 = G.2.2 ∧ (∀ q, q ≠ 6 → G2.2.1 q = G.2.1 q) ∧ ∀ q j, ¬ (q = 0 ∧ (j = 2 ∨ j = 4 ∨ (10 ≤ j ∧ j ≤ 13) ∨ j = 15 ∨ j = 19 ∨ j = 20 ∨ j = 36 ∨ j = 42 ∨ j = 48)) → ¬ (2 ≤ q ∧ q ≤ 5) → ¬ sdM l q j → G2.1 q j = G.1 q j
theorem side130 {l : Nat} (hl : l ≤ 1) : (130 : Int32) * nI (1 - l) = nI (130 * (1 - l)) ∧ (420 : Int32) * nI (1 - l) = nI (420 * (1 - l)) ∧ (1 : Int32) - nI l = nI (1 - l) := by
  rcases Nat.le_one_iff_eq_zero_or_eq_one.mp hl with rfl | rfl <;> decide
theorem mStart {l n : Nat} {y : Nat → Nat} {G : Hp} (hn : n ≤ 2000) (hL : LM G) (hl : l ≤ 1) (h18 : G.1 0 18 = nI l) (h2 : G.1 0 2 = nI n) (hb : ∀ j, j < n → y j < 256 ∧ G.1 1 j = sb (y j)) (hw : ∀ j, j < 26 → G.2.1 7 j = wcode (lN 27) (WORD.getD (mword j) [])) : ∃ G17, fX11_read SHM G 0 = (iter (fun s : Hp => fX11_read_S124 SHM 0 s) fuel G17).bind (fun u20 => bd u20 fun G19 => fX11_read_J146 SHM G19 0) ∧ BMs l (tkd1 y n) 0 (0, 0) T00 [] (420 * (1 - l)) (130 * (1 - l)) (420 * (1 - l)) G17 ∧ EBm l G G17 ∧ G17.1 0 2 = 0 := by
  obtain ⟨s130, s420, s1⟩ := side130 hl
  unfold fX11_read
  simp only [obd]
  rw [h2]
  obtain ⟨G3, a1, a2, a3, a4⟩ := mBytes (G := sI G 0 4 (nI n)) hL hn sI_same (fun j hj => ⟨(hb j hj).1, (sI_ne (by omega)).trans (hb j hj).2⟩)
  rw [a1]
  simp only [ob]
  have hL3 : LM G3 := hL.same (by rw [a2]; rfl)
  have hb4 : MBt n y (sI G3 0 2 0) := ⟨hL3, (sI_ne (by omega)).trans ((a3 0 4 (by decide)).trans sI_same), fun j hj => ⟨(hb j hj).1, (sI_ne (by omega)).trans (a4 j hj)⟩, fun j hj => by
    show G3.2.1 7 j = _
    rw [a2]; exact hw j hj⟩
  obtain ⟨G6, b1, ⟨b2', b3, b4⟩, b5⟩ := mCut hn hb4
  rw [b1]
  simp only [ob]
  have f6 : ∀ q j, q ≠ 2 → q ≠ 3 → q ≠ 4 → q ≠ 5 → ¬ (q = 0 ∧ (j = 2 ∨ j = 4 ∨ j = 10)) → G6.1 q j = G.1 q j := fun q j h1 h2 h3 h4 h5 => by
    rw [b4 q j h2 h3 h4 (by omega), sI_ne (by omega), a3 q j h1, sI_ne (by omega)]
  have hL6 : LM G6 := hL3.same b2'
  have c18 : (sI (sI (sI (sI G6 0 11 0) 0 12 0) 0 13 0) 0 15 0).1 0 18 = nI l := (sI_ne (by omega)).trans ((sI_ne (by omega)).trans ((sI_ne (by omega)).trans ((sI_ne (by omega)).trans ((f6 0 18 (by decide) (by decide) (by decide) (by decide) (by omega)).trans h18))))
  rw [c18, s1]
  generalize hG : sI (sI (sI (sI (sI (sI G6 0 11 0) 0 12 0) 0 13 0) 0 15 0) 0 19 (nI (1 - l))) 0 20 0 = G12
  have e12 : G12.2 = G6.2 := by rw [← hG]; rfl
  have f12 : ∀ q j, ¬ (q = 0 ∧ (j = 11 ∨ j = 12 ∨ j = 13 ∨ j = 15 ∨ j = 19 ∨ j = 20)) → G12.1 q j = G6.1 q j := fun q j h => by
    rw [← hG, sI_ne (by omega), sI_ne (by omega), sI_ne (by omega), sI_ne (by omega), sI_ne (by omega), sI_ne (by omega)]
  have z20 : G12.1 0 20 = 0 := by rw [← hG]; exact sI_same
  have z19 : G12.1 0 19 = nI (1 - l) := by rw [← hG]; exact (sI_ne (by omega)).trans sI_same
  have z15 : G12.1 0 15 = 0 := by rw [← hG]; exact (sI_ne (by omega)).trans ((sI_ne (by omega)).trans sI_same)
  have z13 : G12.1 0 13 = 0 := by rw [← hG]; exact (sI_ne (by omega)).trans ((sI_ne (by omega)).trans ((sI_ne (by omega)).trans sI_same))
  have z12 : G12.1 0 12 = 0 := by rw [← hG]; exact (sI_ne (by omega)).trans ((sI_ne (by omega)).trans ((sI_ne (by omega)).trans ((sI_ne (by omega)).trans sI_same)))
  have z11 : G12.1 0 11 = 0 := by rw [← hG]; exact (sI_ne (by omega)).trans ((sI_ne (by omega)).trans ((sI_ne (by omega)).trans ((sI_ne (by omega)).trans ((sI_ne (by omega)).trans sI_same))))
  have hL12 : LM G12 := hL6.same (by rw [e12])
  obtain ⟨G14, d1, d2, d3, d4, d5⟩ := mPlain (s := 1 - l) hL12 (by omega)
  rw [z19, d1]
  simp only [ob]
  have e0 : ∀ j, G14.1 0 j = G12.1 0 j := fun j => d3 0 j (by omega) (by omega)
  rw [e0 19, z19, s130]
  have e15 : (sI G14 0 42 (nI (130 * (1 - l)))).1 0 19 = nI (1 - l) := (sI_ne (by omega)).trans ((e0 19).trans z19)
  rw [e15, s420]
  have e16 : (sI (sI G14 0 42 (nI (130 * (1 - l)))) 0 48 (nI (420 * (1 - l)))).1 0 19 = nI (1 - l) := (sI_ne (by omega)).trans e15
  rw [e16, s420]
  generalize hH : sI (sI (sI G14 0 42 (nI (130 * (1 - l)))) 0 48 (nI (420 * (1 - l)))) 0 36 (nI (420 * (1 - l))) = G17
  have e17 : G17.2 = G14.2 := by rw [← hH]; rfl
  have f17 : ∀ q j, ¬ (q = 0 ∧ (j = 36 ∨ j = 42 ∨ j = 48)) → G17.1 q j = G14.1 q j := fun q j h => by
    rw [← hH, sI_ne (by omega), sI_ne (by omega), sI_ne (by omega)]
  have y36 : G17.1 0 36 = nI (420 * (1 - l)) := by rw [← hH]; exact sI_same
  have y48 : G17.1 0 48 = nI (420 * (1 - l)) := by rw [← hH]; exact (sI_ne (by omega)).trans sI_same
  have y42 : G17.1 0 42 = nI (130 * (1 - l)) := by rw [← hH]; exact (sI_ne (by omega)).trans ((sI_ne (by omega)).trans sI_same)
  have g0 : ∀ j, j ≠ 36 → j ≠ 42 → j ≠ 48 → G17.1 0 j = G12.1 0 j := fun j _ _ _ => (f17 0 j (by omega)).trans (e0 j)
  have gq : ∀ q, q = 10 ∨ q = 11 ∨ q = 14 ∨ q = 18 ∨ q = 24 ∨ q = 25 → G17.1 q (1 - l) = 0 := fun q hq => (f17 q _ (by omega)).trans (d4 q hq)
  have hLs : LM G17 := hL12.same (by rw [e17, d2])
  refine ⟨G17, rfl, ⟨⟨hLs, b5.E (fun q k hq => ?_) (by rw [e17, d2, e12]), ⟨by omega, by omega, by decide⟩, (g0 11 (by decide) (by decide) (by decide)).trans z11, (g0 13 (by decide) (by decide) (by decide)).trans z13, (g0 15 (by decide) (by decide) (by decide)).trans z15, fun z => absurd rfl z, ?_, (g0 19 (by decide) (by decide) (by decide)).trans z19⟩, (g0 12 (by decide) (by decide) (by decide)).trans z12, ⟨(g0 20 (by decide) (by decide) (by decide)).trans z20, by decide, fun x hx => (by cases hx), fun j hj => (by cases hj)⟩, ⟨gq 10 (by omega), gq 11 (by omega), gq 14 (by omega), gq 18 (by omega)⟩, ⟨y36, y42, y48⟩, fun _ => ?_⟩, ⟨?_, fun q hq => ?_, fun q j h1 h3 h4 => ?_⟩, ?_⟩
  · rw [f17 q k (by omega), d3 q k (by omega) (by omega), f12 q k (by omega)]
  · rw [g0 18 (by decide) (by decide) (by decide), f12 0 18 (by omega), f6 0 18 (by decide) (by decide) (by decide) (by decide) (by omega)]; exact h18
  · refine ⟨⟨gq 10 (by omega), gq 11 (by omega), gq 14 (by omega), gq 18 (by omega), gq 24 (by omega), gq 25 (by omega)⟩, fun a ha => absurd ha (Nat.not_lt_zero a), fun a ha => absurd ha (Nat.not_lt_zero a), fun a ha => absurd ha (Nat.not_lt_zero a), fun k hk => Or.inl ⟨rfl, ?_⟩⟩
    rw [f17 26 _ (by omega), f17 27 _ (by omega), (d5 k hk).1, (d5 k hk).2]
  · rw [e17, d2, e12, b2']; show G3.2.2 = _; rw [a2]; rfl
  · rw [e17, d2, e12, b3 q hq]; show G3.2.1 q = _; rw [a2]; rfl
  · unfold sdM at h4
    rw [f17 q j (by omega), d3 q j (by omega) (by omega), f12 q j (by omega)]; exact f6 q j (by omega) (by omega) (by omega) (by omega) (by omega)
  · rw [g0 2 (by decide) (by decide) (by decide), f12 0 2 (by omega), b4 0 2 (by decide) (by decide) (by decide) (by omega)]; exact sI_same
