/-! READING: the class before its first tell. -/
theorem xStart {t n : Nat} {y : Nat → Nat} {G : Hp} (hn : n ≤ 2000) (hx : LX t G) (h0 : G.1 2 0 = nI n) (hb : ∀ j, j < n → y j < 256 ∧ G.1 7 j = sb (y j)) (hw : ∀ j, j < 26 → G.2.1 6 j = wcode (lN 32) (WORD.getD j [])) : ∃ G2, fX6_start SHX G 1 = some G2 ∧ BXs t (tkd1 y n) 0 (0, 0) T00 [] G2 ∧ EBg t G G2 := by
  have ht := hx.1
  have hD : TKo (tkd1 y n) := tkd1_ok hn
  unfold fX6_start
  rw [xl_rtext hx]
  simp only [ob]
  obtain ⟨G3, a1, a2, a3, a4⟩ := xClear hx
  have hx3 : LX t G3 := hx.same (by rw [a2])
  rw [a1]
  simp only [ob]
  rw [xl_1_0 hx3]
  simp only [ob]
  obtain ⟨G6, b1, ⟨b2', b3, b4⟩, b5⟩ := xCut (t := t) (y := y) hn hx3 ((a3 2 0 (by omega)).trans h0) (fun j hj => ⟨(hb j hj).1, (a3 7 j (by omega)).trans (hb j hj).2⟩) (fun j hj => by rw [a2]; exact hw j hj)
  rw [b1]
  simp only [ob, obd]
  have hx10 : LX t (sI (sI (sI (sI G6 1 2 0) 1 3 0) 1 12 0) 1 6 0) := hx3.same b2'
  rw [xl_1_0 hx10]
  simp only [ob]
  rw [xl_2_1 hx10]
  simp only [ob]
  have e3 : (sI (sI (sI (sI G6 1 2 0) 1 3 0) 1 12 0) 1 6 0).1 3 0 = ck ((tkd1 y n).1 0) := (b5 0 (by omega) (by omega)).1
  rw [show aI SHX (sI (sI (sI (sI G6 1 2 0) 1 3 0) 1 12 0) 1 6 0) 3 0 = some (ck ((tkd1 y n).1 0)) from (aI_n (j := 0) (by rw [xnn_3]; decide) (by decide)).trans (by rw [e3])]
  simp only [ob]
  have f : ∀ q k, q ≠ 1 → (sI (sI (sI (sI (sI G6 1 2 0) 1 3 0) 1 12 0) 1 6 0) 1 5 (ck ((tkd1 y n).1 0))).1 q k = G6.1 q k := fun q k hq => by
    rw [sI_ne (Or.inl hq), sI_ne (Or.inl hq), sI_ne (Or.inl hq), sI_ne (Or.inl hq), sI_ne (Or.inl hq)]
  have hxt : XT (43 - t) T00 (sI (sI (sI (sI (sI G6 1 2 0) 1 3 0) 1 12 0) 1 6 0) 1 5 (ck ((tkd1 y n).1 0))) := XT_fr a4 (fun q k h1 h2 _ _ => (f q k (by omega)).trans (b4 q k (by omega) (by omega) (by omega))) (b3 _ (by omega))
  refine ⟨_, rfl, ⟨⟨hx10, b5.E (fun q k hq => f q k (by omega)) rfl, ⟨by omega, by omega, by decide⟩, ?_, sI_same, ?_, fun z => absurd rfl z⟩, ⟨?_, by decide, fun x hx => (by cases hx), fun j hj => (by cases hj)⟩, ⟨by decide, fun x hx => (by cases hx), fun j hj => (by cases hj)⟩, fun i hi => ?_, fun _ => hxt⟩, ?_, fun q hq => ?_, fun q k h1 h2 h3 h4 h5 => ?_⟩
  · exact (sI_ne (by omega)).trans sI_same
  · exact (sI_ne (by omega)).trans ((sI_ne (by omega)).trans ((sI_ne (by omega)).trans sI_same))
  · exact (sI_ne (by omega)).trans ((sI_ne (by omega)).trans sI_same)
  · exact hxt.1 i (by omega)
  · show G6.2.2 = G.2.2
    rw [b2', a2]
  · show G6.2.1 q = G.2.1 q
    rw [b3 q hq, a2]
  · rw [f q k h1, b4 q k h2 h3 h4]; exact a3 q k h5
