/-! READING: the reference's tokens passed, faults told, faults noted. -/
def MPs (l : Nat) (D : TKd) (p : Nat) (N : Nat × Nat) (G : Hp) : Prop := LM G ∧ TMs D G ∧ (p ≤ D.2.2.2.2 ∧ p ≤ 400 ∧ N.1 ≤ 5) ∧ G.1 0 11 = nI p ∧ G.1 0 13 = 0 ∧ G.1 0 15 = nI N.1 ∧ (N.1 ≠ 0 → G.1 0 16 = nI (D.2.1 N.2)) ∧ G.1 0 18 = nI l ∧ G.1 0 19 = nI (1 - l)
def MF (l : Nat) (D : TKd) (f i : Nat) (G : Hp) : Prop := LM G ∧ G.1 0 13 = nI f ∧ (f = 1 ∨ f = 2) ∧ G.1 0 14 = nI (D.2.1 i) ∧ (∃ p, p ≤ 400 ∧ G.1 0 11 = nI p) ∧ G.1 0 18 = nI l ∧ G.1 0 19 = nI (1 - l)
def Er0 (G G2 : Hp) : Prop := G2.2 = G.2 ∧ ∀ q k, ¬ (q = 0 ∧ (k = 11 ∨ k = 13 ∨ k = 14 ∨ k = 15 ∨ k = 16)) → G2.1 q k = G.1 q k
theorem Er0.rf {G : Hp} : Er0 G G := ⟨rfl, fun _ _ _ => rfl⟩
theorem Er0.tr {G G2 G3 : Hp} (h : Er0 G G2) (h2 : Er0 G2 G3) : Er0 G G3 := ⟨h2.1.trans h.1, fun q k a => (h2.2 q k a).trans (h.2 q k a)⟩
theorem Er0.s {k : Nat} {G : Hp} {v : Int32} (h : k = 11 ∨ k = 13 ∨ k = 14 ∨ k = 15 ∨ k = 16) : Er0 G (sI G 0 k v) := ⟨rfl, fun q2 k2 a => sI_ne (by omega)⟩
theorem TMs.E {D : TKd} {G G2 : Hp} (h : TMs D G) (e1 : ∀ q k, q = 3 ∨ q = 4 ∨ q = 5 → G2.1 q k = G.1 q k) (e2 : G2.2.1 6 = G.2.1 6) : TMs D G2 := fun i h1 h2 => by
  obtain ⟨a, b, c, d⟩ := h i h1 h2
  refine ⟨(e1 3 i (Or.inl rfl)).trans a, (e1 4 i (Or.inr (Or.inl rfl))).trans b, fun z => (e1 5 i (Or.inr (Or.inr rfl))).trans (c z), fun z => ?_⟩
  rw [e2]; exact d z
/-- a change that the reading does not see -/
theorem MPs.E {l p : Nat} {D : TKd} {N : Nat × Nat} {G G2 : Hp} (h : MPs l D p N G) (e : G2.2.2 = G.2.2) (e6 : G2.2.1 6 = G.2.1 6) (e1 : ∀ q k, q = 3 ∨ q = 4 ∨ q = 5 → G2.1 q k = G.1 q k) (e0 : ∀ k, k = 11 ∨ k = 13 ∨ k = 15 ∨ k = 16 ∨ k = 18 ∨ k = 19 → G2.1 0 k = G.1 0 k) : MPs l D p N G2 := by
  obtain ⟨h1, h2, h3, h4, h5, h6, h7, h8, h9⟩ := h
  exact ⟨h1.same e, h2.E e1 e6, h3, (e0 11 (by omega)).trans h4, (e0 13 (by omega)).trans h5, (e0 15 (by omega)).trans h6, fun z => (e0 16 (by omega)).trans (h7 z), (e0 18 (by omega)).trans h8, (e0 19 (by omega)).trans h9⟩
theorem MF.E {l f i : Nat} {D : TKd} {G G2 : Hp} (h : MF l D f i G) (e : G2.2.2 = G.2.2) (e0 : ∀ k, k = 11 ∨ k = 13 ∨ k = 14 ∨ k = 18 ∨ k = 19 → G2.1 0 k = G.1 0 k) : MF l D f i G2 := by
  obtain ⟨h1, h2, h3, h4, ⟨p, h5, h6⟩, h8, h9⟩ := h
  exact ⟨h1.same e, (e0 13 (by omega)).trans h2, h3, (e0 14 (by omega)).trans h4, ⟨p, h5, (e0 11 (by omega)).trans h6⟩, (e0 18 (by omega)).trans h8, (e0 19 (by omega)).trans h9⟩
section PM
variable {l p : Nat} {D : TKd} {N : Nat × Nat} {G : Hp}
theorem MF.pos {f i : Nat} (h : MF l D f i G) : ¬ G.1 0 13 ≤ 0 ∧ ¬ G.1 0 13 = 0 ∧ 0 < G.1 0 13 := by
  rw [h.2.1]
  rcases h.2.2.1 with rfl | rfl <;> decide
theorem okK_lt (hD : TKo D) (i : Nat) : D.1 i < 46 := okK_46 (hD.2.1 i)
theorem mKd (h : MPs l D p N G) : aI SHM G 3 (G.1 0 11) = some (nI (D.1 p)) := by
  have h3 := h.2.2.1
  rw [h.2.2.2.1, aI_n (by rw [mn_3]; omega) (by omega), (h.2.1 p h3.1 h3.2.1).1]
theorem mIs {k : Nat} {w : Int32} (hD : TKo D) (h : MPs l D p N G) (hw : w = nI k) (hk : k < 100) : fX11_is SHM G 0 w = some (b2 (decide (D.1 p = k))) := by
  have := okK_lt hD p
  unfold fX11_is
  rw [h.2.2.2.2.1, if_pos rfl, ml_5 h.1]
  simp only [ob]
  rw [mKd h]
  simp only [ob]
  rw [hw]
  by_cases e : D.1 p = k
  · rw [if_pos (by rw [e]), decide_eq_true e]; rfl
  · rw [if_neg (fun z => e ((nI_eq (by omega) (by omega)).mp z)), decide_eq_false e]; rfl
theorem mIs_f {f i : Nat} {w : Int32} (h : MF l D f i G) : fX11_is SHM G 0 w = some 0 := by
  unfold fX11_is; rw [if_neg h.pos.2.1]
theorem mFail {f : Nat} (hf : f = 1 ∨ f = 2) (h : MPs l D p N G) : ∃ G2, fX11_fail SHM G 0 (nI f) = some G2 ∧ Er0 G G2 ∧ MF l D f p G2 := by
  obtain ⟨h1, h2, h3, h4, h5, h6, h7, h8, h9⟩ := h
  unfold fX11_fail
  rw [h5, if_pos (by decide)]
  simp only [obd]
  have hL : LM (sI G 0 13 (nI f)) := h1
  rw [ml_6 hL, sI_ne (Or.inr (by decide)), h4]
  simp only [ob]
  rw [aI_n (by rw [mn_4]; omega) (by omega), sI_ne (Or.inl (by decide)), (h2 p h3.1 h3.2.1).2.1]
  simp only [ob]
  refine ⟨_, rfl, (Er0.s (by omega)).tr (Er0.s (by omega)), h1, ?_, hf, sI_same, ⟨p, h3.2.1, ?_⟩, ?_, ?_⟩
  · rw [sI_ne (Or.inr (by decide)), sI_same]
  · rw [sI_ne (Or.inr (by decide)), sI_ne (Or.inr (by decide))]; exact h4
  · rw [sI_ne (Or.inr (by decide)), sI_ne (Or.inr (by decide))]; exact h8
  · rw [sI_ne (Or.inr (by decide)), sI_ne (Or.inr (by decide))]; exact h9
theorem mFail_f {f i : Nat} {x : Int32} (h : MF l D f i G) : fX11_fail SHM G 0 x = some G := by
  unfold fX11_fail; rw [if_neg h.pos.1]
theorem mGoes_y (hD : TKo D) (h : MPs l D p N G) (hk : D.1 p ≠ 0) (hp : p < 400) : ∃ G2, fX11_goesOn SHM G 0 = some G2 ∧ Er0 G G2 ∧ MPs l D (p + 1) N G2 ∧ G2 = sI G 0 11 (nI (p + 1)) := by
  obtain ⟨h1, h2, h3, h4, h5, h6, h7, h8, h9⟩ := h
  have hlt := tk_lt hD h3.1 h3.2.1 hk
  unfold fX11_goesOn
  rw [h4, if_neg (show ¬ nI p = 400 from fun z => by have := (nI_eq (b := 400) (by omega) (by decide)).mp z; omega), nI_1]
  simp only [obd]
  refine ⟨_, rfl, Er0.s (by omega), ⟨h1, h2, ⟨by omega, by omega, h3.2.2⟩, sI_same, ?_, ?_, fun z => ?_, ?_, ?_⟩, rfl⟩
  · rw [sI_ne (Or.inr (by decide))]; exact h5
  · rw [sI_ne (Or.inr (by decide))]; exact h6
  · rw [sI_ne (Or.inr (by decide))]; exact h7 z
  · rw [sI_ne (Or.inr (by decide))]; exact h8
  · rw [sI_ne (Or.inr (by decide))]; exact h9
theorem mGoes_n (h : MPs l D p N G) (hp : ¬ p < 400) : ∃ G2, fX11_goesOn SHM G 0 = some G2 ∧ Er0 G G2 ∧ MF l D 2 p G2 := by
  have h3 := h.2.2.1
  obtain ⟨G2, a1, a2, a3⟩ := mFail (f := 2) (Or.inr rfl) h
  unfold fX11_goesOn
  rw [h.2.2.2.1, if_pos (by rw [show p = 400 by omega]; rfl), show (2 : Int32) = nI 2 from rfl, a1]
  exact ⟨G2, rfl, a2, a3⟩
theorem mGoes_f {f i : Nat} (h : MF l D f i G) : ∃ G2, fX11_goesOn SHM G 0 = some G2 ∧ Er0 G G2 ∧ MF l D f i G2 := by
  have h0 := h
  obtain ⟨h1, h2, h3, h4, ⟨p, h5, h6⟩, h8, h9⟩ := h
  unfold fX11_goesOn
  rw [h6]
  by_cases e : p = 400
  · rw [if_pos (by rw [e]; rfl), mFail_f h0]
    exact ⟨G, rfl, Er0.rf, h0⟩
  · rw [if_neg (show ¬ nI p = 400 from fun z => e ((nI_eq (b := 400) (by omega) (by decide)).mp z)), nI_1]
    simp only [obd]
    refine ⟨_, rfl, Er0.s (by omega), h1, ?_, h3, ?_, ⟨p + 1, by omega, sI_same⟩, ?_, ?_⟩
    · rw [sI_ne (Or.inr (by decide))]; exact h2
    · rw [sI_ne (Or.inr (by decide))]; exact h4
    · rw [sI_ne (Or.inr (by decide))]; exact h8
    · rw [sI_ne (Or.inr (by decide))]; exact h9
theorem mMust_y {k : Nat} {w : Int32} (hD : TKo D) (h : MPs l D p N G) (hw : w = nI k) (hk : D.1 p = k) (hk0 : k ≠ 0) (hp : p < 400) : ∃ G2, fX11_must SHM G 0 w = some G2 ∧ Er0 G G2 ∧ MPs l D (p + 1) N G2 := by
  have := okK_lt hD p
  unfold fX11_must
  rw [mIs hD h hw (by omega), decide_eq_true hk]
  simp only [ob]
  rw [if_neg (show ¬ b2 true = 0 by decide)]
  obtain ⟨G2, a1, a2, a3, -⟩ := mGoes_y hD h (by rw [hk]; exact hk0) hp
  rw [a1]
  exact ⟨G2, rfl, a2, a3⟩
theorem mMust_n {k : Nat} {w : Int32} (hD : TKo D) (h : MPs l D p N G) (hw : w = nI k) (hk1 : k < 100) (hn : ¬ (D.1 p = k ∧ p < 400)) : ∃ G2, fX11_must SHM G 0 w = some G2 ∧ Er0 G G2 ∧ MF l D (if D.1 p = k then 2 else 1) p G2 := by
  unfold fX11_must
  rw [mIs hD h hw hk1]
  simp only [ob]
  by_cases e : D.1 p = k
  · rw [decide_eq_true e, if_neg (show ¬ b2 true = 0 by decide), if_pos e]
    obtain ⟨G2, a1, a2, a3⟩ := mGoes_n h (fun z => hn ⟨e, z⟩)
    rw [a1]
    exact ⟨G2, rfl, a2, a3⟩
  · rw [decide_eq_false e, if_pos (show b2 false = 0 from rfl), if_neg e]
    obtain ⟨G2, a1, a2, a3⟩ := mFail (f := 1) (Or.inl rfl) h
    rw [show (1 : Int32) = nI 1 from rfl, a1]
    exact ⟨G2, rfl, a2, a3⟩
theorem mMust_f {f i : Nat} {w : Int32} (h : MF l D f i G) : fX11_must SHM G 0 w = some G := by
  unfold fX11_must
  rw [mIs_f h]
  simp only [ob]
  rw [if_pos trivial, mFail_f h]
  rfl
theorem mWrong {f i : Nat} (hD : TKo D) (hf : f ≤ 5) (hi : i ≤ D.2.2.2.2 ∧ i ≤ 400) (h : MPs l D p N G) (ho : N.1 ≠ 0 → N.2 < i ∨ (N.2 = i ∧ N.1 ≤ f)) : ∃ G2, fX11_wrong SHM G 0 (nI f) (nI i) = some G2 ∧ Er0 G G2 ∧ MPs l D p (ntp true f i N) G2 := by
  have h0 := h
  obtain ⟨h1, h2, h3, h4, h5, h6, h7, h8, h9⟩ := h
  unfold fX11_wrong ntp
  rw [ml_6 h1]
  simp only [ob]
  rw [aI_n (by rw [mn_4]; omega) (by omega), (h2 i hi.1 hi.2).2.1, h5]
  simp only [ob]
  rw [if_neg (show ¬ (0 : Int32) < 0 by decide), h6]
  by_cases e : N.1 = 0
  · rw [if_pos (by rw [e]; rfl), if_pos ⟨trivial, e⟩]
    simp only [obd]
    have e1 : Er0 G (sI (sI G 0 15 (nI f)) 0 16 (nI (D.2.1 i))) := (Er0.s (by omega)).tr (Er0.s (by omega))
    refine ⟨_, rfl, e1, h1, h2, ⟨h3.1, h3.2.1, hf⟩, ?_, ?_, ?_, fun _ => sI_same, ?_, ?_⟩
    · rw [sI_ne (Or.inr (by decide)), sI_ne (Or.inr (by decide))]; exact h4
    · rw [sI_ne (Or.inr (by decide)), sI_ne (Or.inr (by decide))]; exact h5
    · rw [sI_ne (Or.inr (by decide)), sI_same]
    · rw [sI_ne (Or.inr (by decide)), sI_ne (Or.inr (by decide))]; exact h8
    · rw [sI_ne (Or.inr (by decide)), sI_ne (Or.inr (by decide))]; exact h9
  · rw [if_neg (show ¬ nI N.1 = 0 from fun z => e ((nI_eq (b := 0) (by omega) (by decide)).mp z)), if_neg (show ¬ (True ∧ N.1 = 0) from fun z => e z.2), h7 e]
    have hpl := hD.2.2.2.2.2.1
    rcases ho e with q | ⟨q1, q2⟩
    · have hm := hD.2.2.2.2.1 N.2 i q hi.1
      rw [if_pos (nI_lt hm (by have := hpl i; omega))]
      exact ⟨G, rfl, Er0.rf, h0⟩
    · have := hpl i
      rw [q1, if_neg (nI_nlt (Nat.le_refl _) (by omega)), if_pos rfl, if_neg (nI_nlt q2 (by omega))]
      exact ⟨G, rfl, Er0.rf, h0⟩
theorem mNumb_y {a b : Nat} {la lb : Int32} (hD : TKo D) (h : MPs l D p N G) (hN : okN p N) (hla : la = nI a) (hlb : lb = nI b) (hab : a < 20000 ∧ b < 20000) (hk : D.1 p = 2) (hp : p < 400) : ∃ G2, fX11_bounded SHM G 0 la lb = some (nI (D.2.2.1 p), G2) ∧ Er0 G G2 ∧ MPs l D (p + 1) (ntp (badV D a b p) 5 p N) G2 := by
  have hv := hD.2.2.2.2.2.2.1 p hk
  have h3 := h.2.2.1
  unfold fX11_bounded
  rw [h.2.2.2.2.1, if_neg (show ¬ (0 : Int32) < 0 by decide), mIs (k := 2) (w := 2) hD h rfl (by decide), decide_eq_true hk]
  simp only [ob]
  rw [if_neg (show ¬ b2 true = 0 by decide), ml_7 h.1, h.2.2.2.1]
  simp only [ob]
  rw [aI_n (by rw [mn_5]; omega) (by omega), (h.2.1 p h3.1 h3.2.1).2.2.1 hk]
  simp only [ob]
  obtain ⟨G9, n1, n2, n3⟩ := mWrong (f := 5) (i := p) hD (by decide) ⟨h3.1, h3.2.1⟩ h (fun z => Or.inl (hN.2 z))
  have fin : ∀ (N2 : Nat × Nat) (G3 : Hp), Er0 G G3 → MPs l D p N2 G3 → ∃ G2, ((fX11_goesOn SHM G3 0).bind fun G12 => some (nI (D.2.2.1 p), G12)) = some (nI (D.2.2.1 p), G2) ∧ Er0 G G2 ∧ MPs l D (p + 1) N2 G2 := by
    intro N2 G3 e3 h3
    obtain ⟨G4, a1, a2, a3, -⟩ := mGoes_y hD h3 (by rw [hk]; decide) hp
    rw [a1]
    exact ⟨G4, rfl, e3.tr a2, a3⟩
  rw [hla, hlb, show (5 : Int32) = nI 5 from rfl, n1]
  simp only [ob]
  unfold badV
  by_cases c1 : D.2.2.1 p < a
  · rw [if_pos (nI_lt c1 (by omega)), decide_eq_false (show ¬ a ≤ D.2.2.1 p by omega)]
    exact fin _ G9 n2 n3
  · rw [if_neg (nI_nlt (by omega) (by omega)), decide_eq_true (show a ≤ D.2.2.1 p by omega)]
    by_cases c2 : D.2.2.1 p ≤ b
    · rw [if_pos (nI_le c2 (by omega)), decide_eq_true c2]
      show ∃ G4, _ ∧ _ ∧ MPs l D (p + 1) (ntp false 5 p N) G4
      rw [ntp_n]
      exact fin N G Er0.rf h
    · rw [if_neg (nI_ge (by omega) (by omega)), decide_eq_false c2]
      exact fin _ G9 n2 n3
theorem mNumb_n {la lb : Int32} (hD : TKo D) (h : MPs l D p N G) (hN : okN p N) (hn : ¬ (D.1 p = 2 ∧ p < 400)) : ∃ v G2, fX11_bounded SHM G 0 la lb = some (v, G2) ∧ Er0 G G2 ∧ MF l D (if D.1 p = 2 then 2 else 1) p G2 := by
  have h3 := h.2.2.1
  unfold fX11_bounded
  rw [h.2.2.2.2.1, if_neg (show ¬ (0 : Int32) < 0 by decide), mIs (k := 2) (w := 2) hD h rfl (by decide)]
  simp only [ob]
  by_cases e : D.1 p = 2
  · rw [decide_eq_true e, if_neg (show ¬ b2 true = 0 by decide), ml_7 h.1, h.2.2.2.1, if_pos e]
    simp only [ob]
    rw [aI_n (by rw [mn_5]; omega) (by omega)]
    simp only [ob]
    obtain ⟨G9, n1, n2, n3⟩ := mWrong (f := 5) (i := p) hD (by decide) ⟨h3.1, h3.2.1⟩ h (fun z => Or.inl (hN.2 z))
    rw [show (5 : Int32) = nI 5 from rfl, n1]
    simp only [ob]
    have fin : ∀ (N2 : Nat × Nat) (G3 : Hp), Er0 G G3 → MPs l D p N2 G3 → ∀ v, ∃ v2 G2, ((fX11_goesOn SHM G3 0).bind fun G12 => some ((v : Int32), G12)) = some (v2, G2) ∧ Er0 G G2 ∧ MF l D 2 p G2 := by
      intro N2 G3 e3 h3 v
      obtain ⟨G4, a1, a2, a3⟩ := mGoes_n h3 (fun z => hn ⟨e, z⟩)
      rw [a1]
      exact ⟨v, G4, rfl, e3.tr a2, a3⟩
    split
    · exact fin _ G9 n2 n3 _
    · split
      · exact fin N G Er0.rf h _
      · exact fin _ G9 n2 n3 _
  · rw [decide_eq_false e, if_pos (show b2 false = 0 from rfl), if_neg e]
    obtain ⟨G2, a1, a2, a3⟩ := mFail (f := 1) (Or.inl rfl) h
    rw [show (1 : Int32) = nI 1 from rfl, a1]
    exact ⟨la, G2, rfl, a2, a3⟩
theorem mNumb_f {f i : Nat} {la lb : Int32} (h : MF l D f i G) : fX11_bounded SHM G 0 la lb = some (la, G) := by
  unfold fX11_bounded
  rw [if_pos h.pos.2.2, mFail_f h]
  rfl
end PM
