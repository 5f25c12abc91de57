/-! EXPRESSIONS: behind an operand. -/
theorem splitS : ∀ (S : List Nat), (∀ x ∈ S, x = 6 ∨ isOp x) → ∃ X S2, S = X ++ S2 ∧ (∀ x ∈ X, popS false x) ∧ stays false S2
  | [], _ => ⟨[], [], rfl, fun x hx => (by cases hx), trivial⟩
  | x :: S, h => by
    rcases h x (List.mem_cons_self ..) with e | e
    · exact ⟨[], x :: S, rfl, fun z hz => (by cases hz), Or.inl e⟩
    · obtain ⟨X, S2, e1, e2, e3⟩ := splitS S (fun z hz => h z (List.mem_cons_of_mem _ hz))
      refine ⟨x :: X, S2, by rw [e1]; rfl, fun z hz => ?_, e3⟩
      rcases List.mem_cons.mp hz with q | q
      · rw [q]; exact ⟨e, fun w => by cases w⟩
      · exact e2 z q
section XB
variable {l p c0 k : Nat} {D : TKd} {N : Nat × Nat} {S X : List Nat} {C : List Int32} {G : Hp}
theorem EC2.mf {f i : Nat} {G2 : Hp} (h : EC2 c0 G G2) (hm : MF l D f i G) : MF l D f i G2 := hm.E (by rw [h.1]) (fun j hj => h.2 0 j (by omega) (by omega))
theorem EC2.mp {G2 : Hp} (h : EC2 c0 G G2) (hm : MPs l D p N G) : MPs l D p N G2 := hm.E (by rw [h.1]) (by rw [h.1]) (fun q j hq => h.2 q j (by omega) (by omega)) (fun j hj => h.2 0 j (by omega) (by omega))
theorem xfin_f {f i : Nat} (h : MF l D f i G) (hs : SC c0 S C G) (hw : ∀ x ∈ S, x = 6 ∨ isOp x) (hl : S.length ≤ 60) (hc : c0 < 840 ∧ c0 + C.length + S.length ≤ 420 * (c0 / 420 + 1)) : ∃ r, xfin (.inr (.inr G)) = some r ∧ EE c0 G r ∧ MF l D f i r := by
  obtain ⟨X, S2, rfl, e2, e3⟩ := splitS S hw
  rw [List.length_append] at hc
  obtain ⟨r, a1, a2, a3⟩ := mCome (s := false) h.1 hs e2 e3 (by omega) (by omega)
  refine ⟨r, ?_, a2.e, a2.mf h⟩
  unfold xfin
  simp only [Sum.elim_inr, obd]
  rw [show (0 : Int32) = b2 false from rfl, mFail_f h]
  simp only [ob]
  rw [a1]
  simp only [ob]
  split <;> rfl
theorem xJ145_f {f i : Nat} (h : MF l D f i G) : fX11_expression_J145L12 SHM G 0 0 = some (.inr (.inr (.inr G))) := by
  unfold fX11_expression_J145L12 fX11_expression_J186L12
  rw [mIs_f h, mIs_f h, mIs_f h, mIs_f h]
  simp only [ob]
  rw [if_pos trivial, if_pos trivial, if_pos trivial, if_pos trivial, if_pos trivial]
theorem xS96_no (hD : TKo D) (h : CE l D p N c0 k S C G) (hn : ¬ (D.1 p = 7 ∧ 0 < k)) (hk : k ≤ 7) : xS96 G = some (.inr G) := by
  show fX11_expression_S96 SHM 0 0 G = _
  unfold fX11_expression_S96
  rw [mIs (k := 7) (w := 7) hD h.1 rfl (by decide)]
  simp only [ob]
  by_cases e : D.1 p = 7
  · rw [decide_eq_true e, if_neg (show ¬ b2 true = 0 by decide), h.2.1, if_pos (by rw [show k = 0 by omega]; decide)]
  · rw [decide_eq_false e, if_pos (show b2 false = 0 from rfl)]
/-- ) takes its ( off -/
theorem xS96_y (hD : TKo D) (h : CE l D p N c0 (k + 1) (X ++ 6 :: S) C G) (hX : ∀ x ∈ X, isOp x) (hk : D.1 p = 7) (hk6 : k ≤ 7) (hl : l ≤ 1) : ∃ G7, xS96 G = (fX11_goesOn SHM G7 0).bind (fun G9 => some (.inl G9)) ∧ EE c0 G G7 ∧ MPs l D p N G7 ∧ G7.1 0 12 = nI k ∧ SC c0 S (C ++ X.map oc) G7 := by
  obtain ⟨h1, h2, h3, h4, h5, h6⟩ := h
  have hb := h1.2.2.1
  rw [List.length_append, List.length_cons] at h4 h6
  obtain ⟨G5, a1, a2, a3⟩ := mCome (s := false) h1.1 h3 (fun x hx => ⟨hX x hx, fun w => by cases w⟩) (show stays false (6 :: S) from Or.inl rfl) (by omega) (by rw [List.length_append, List.length_cons]; omega)
  have m5 := a2.mp h1
  refine ⟨sI (sI G5 0 54 (nI S.length)) 0 12 (nI k), ?_, a2.e.tr ((EE.s (by omega)).tr (EE.s (by omega))), m5.E rfl rfl (fun q j hq => by rw [sI_ne (by omega), sI_ne (by omega)]) (fun j hj => by rw [sI_ne (by omega), sI_ne (by omega)]), sI_same, ?_⟩
  · show fX11_expression_S96 SHM 0 0 G = _
    unfold fX11_expression_S96
    rw [mIs (k := 7) (w := 7) hD h1 rfl (by decide), decide_eq_true hk]
    simp only [ob]
    rw [if_neg (show ¬ b2 true = 0 by decide), h2, if_neg (show ¬ nI (k + 1) ≤ 0 from nI_ge (a := 0) (by omega) (by omega)), show (0 : Int32) = b2 false from rfl, a1]
    simp only [ob, obd]
    rw [a3.1, List.length_cons, nI_pred, sI_ne (Or.inr (by decide)), a2.2 0 12 (by omega) (by omega), h2, nI_pred]
  · obtain ⟨s1, s2, s3, s4⟩ := a3
    refine ⟨?_, SK_fr S s2.2 (fun j _ => ?_), ?_, MP_fr s4 (fun q j hq => ?_)⟩
    · rw [sI_ne (Or.inr (by decide)), sI_same]
    · rw [sI_ne (Or.inl (by decide)), sI_ne (Or.inl (by decide))]
    · rw [sI_ne (Or.inr (by decide)), sI_ne (Or.inr (by decide))]; exact s3
    · rw [sI_ne (by omega), sI_ne (by omega)]
theorem RB_close (hD : TKo D) (h : CE l D p N c0 (k + 1) (X ++ 6 :: S) C G) (hX : ∀ x ∈ X, isOp x) (hk : D.1 p = 7) (hk6 : k ≤ 7) (hl : l ≤ 1) (hp : p < 400) : ∃ G2, EE c0 G G2 ∧ CE l D (p + 1) N c0 k S (C ++ X.map oc) G2 ∧ ∀ r, RB (p + 1) G2 r → RB p G r := by
  obtain ⟨G7, b1, b2', b3, b4, b5⟩ := xS96_y hD h hX hk hk6 hl
  obtain ⟨G2, a1, a2, a3, a4⟩ := mGoes_y hD b3 (by rw [hk]; decide) hp
  rw [a1] at b1
  simp only [ob] at b1
  obtain ⟨-, -, -, h4, h5, h6⟩ := h
  rw [List.length_append, List.length_cons] at h4 h6
  refine ⟨G2, b2'.tr (by rw [a4]; exact EE.s (by omega)), ⟨a3, (a2.2 0 12 (by omega)).trans b4, b5.E (a2.2 0 54 (by omega)) (a2.2 0 48 (by omega)) (fun q j hq => a2.2 q j (by omega)), ?_, fun x hx => h5 x (List.mem_append_right _ (List.mem_cons_of_mem _ hx)), by omega⟩, ?_⟩
  · rw [List.length_append, List.length_map]; omega
  · rintro r ⟨n, o, r1, r2, r3⟩
    refine ⟨n + 1, o, by omega, ?_, xfn_mono r3 (by omega)⟩
    unfold xB2
    rw [iter_in b1]
    exact r2
theorem RB_close_f (hD : TKo D) (h : CE l D p N c0 (k + 1) (X ++ 6 :: S) C G) (hX : ∀ x ∈ X, isOp x) (hk : D.1 p = 7) (hk6 : k ≤ 7) (hl : l ≤ 1) (hp : ¬ p < 400) : ∃ r, EE c0 G r ∧ MF l D 2 p r ∧ RB p G r := by
  have hb := h.1.2.2.1
  obtain ⟨G7, b1, b2', b3, b4, b5⟩ := xS96_y hD h hX hk hk6 hl
  obtain ⟨G2, a1, a2, a3⟩ := mGoesE_n b3 hp
  rw [a1] at b1
  simp only [ob] at b1
  obtain ⟨-, -, -, h4, h5, h6⟩ := h
  rw [List.length_append, List.length_cons] at h4 h6
  have s2 : SC c0 S (C ++ X.map oc) G2 := b5.E (a2.2 0 54 (by omega)) (a2.2 0 48 (by omega)) (fun q j hq => a2.2 q j (by omega))
  obtain ⟨r, r1, r2, r3⟩ := xfin_f a3 s2 (fun x hx => h5 x (List.mem_append_right _ (List.mem_cons_of_mem _ hx))) (by omega) (by rw [List.length_append, List.length_map]; omega)
  refine ⟨r, b2'.tr (EE.tr (G := G7) (G2 := G2) ⟨a2.1, fun q j x y z => a2.2 q j (by omega)⟩ r2), r3, 2, .inr (.inr (.inr G2)), by omega, ?_, r1⟩
  have hb2 : xS96 G2 = some (.inr G2) := by
    show fX11_expression_S96 SHM 0 0 G2 = _
    unfold fX11_expression_S96
    rw [mIs_f a3]
    simp only [ob]
    rw [if_pos trivial]
  unfold xB2
  rw [iter_in b1, iter_out hb2]
  exact xJ145_f a3
/-- an operator takes those off that come ahead of it, and waits -/
theorem xOp (hD : TKo D) {s : Bool} (h : CE l D p N c0 k (X ++ S) C G) (hX : ∀ x ∈ X, popS s x) (hS : stays s S) (ho : isOp (D.1 p)) (hs : s = true ↔ D.1 p = 10 ∨ D.1 p = 15) (hS2 : S.length ≤ 59) (hl : l ≤ 1) : ∃ G7, fX11_expression_J145L12 SHM G 0 0 = (fX11_goesOn SHM G7 0).bind (fun G9 => some (.inl (G9, 1))) ∧ EE c0 G G7 ∧ MPs l D p N G7 ∧ G7.1 0 12 = nI k ∧ SC c0 (D.1 p :: S) (C ++ X.map oc) G7 := by
  obtain ⟨h1, h2, h3, h4, h5, h6⟩ := h
  have hb := h1.2.2.1
  have h46 := okK_lt hD p
  rw [List.length_append] at h4 h6
  obtain ⟨G2, a1, a2, a3⟩ := mCome (s := s) h1.1 h3 hX hS (by omega) (by rw [List.length_append]; omega)
  have m2 := a2.mp h1
  have hJ : fX11_expression_J234L12 SHM G 0 0 1 (b2 s) 0 = (fX11_goesOn SHM (sI (sI G2 36 S.length (nI (D.1 p))) 0 54 (nI (S.length + 1))) 0).bind (fun G9 => some (.inl (G9, 1))) := by
    unfold fX11_expression_J234L12
    rw [a1]
    simp only [ob]
    rw [ml_53 m2.1, ml_5 m2.1]
    simp only [ob]
    rw [mKd m2, a3.1]
    simp only [ob]
    rw [asI_n (by rw [mn_36]; omega) (by omega)]
    simp only [ob, obd]
    rw [sI_ne (Or.inl (by decide)), a3.1, nI_1]
  refine ⟨sI (sI G2 36 S.length (nI (D.1 p))) 0 54 (nI (S.length + 1)), ?_, a2.e.tr ((EE.s (by omega)).tr (EE.s (by omega))), m2.E rfl rfl (fun q j hq => by rw [sI_ne (by omega), sI_ne (by omega)]) (fun j hj => by rw [sI_ne (by omega), sI_ne (by omega)]), ?_, a3.push⟩
  · rw [← hJ]
    have J186 : fX11_expression_J186L12 SHM G 0 0 1 = fX11_expression_J234L12 SHM G 0 0 1 (b2 s) 0 := by
      unfold fX11_expression_J186L12 fX11_expression_J229L12
      rw [if_neg one_ne, mIs (k := 10) (w := 10) hD h1 rfl (by decide), mIs (k := 15) (w := 15) hD h1 rfl (by decide)]
      simp only [ob]
      cases s with
      | true =>
        rcases hs.mp rfl with e | e
        · rw [decide_eq_true e, if_neg (show ¬ b2 true = 0 by decide)]; rfl
        · rw [decide_eq_false (show ¬ D.1 p = 10 by omega), if_pos (show b2 false = 0 from rfl), decide_eq_true e, if_neg (show ¬ b2 true = 0 by decide)]; rfl
      | false =>
        have hne : ¬ (D.1 p = 10 ∨ D.1 p = 15) := fun z => by have := hs.mpr z; cases this
        rw [decide_eq_false (show ¬ D.1 p = 10 by omega), if_pos (show b2 false = 0 from rfl), decide_eq_false (show ¬ D.1 p = 15 by omega), if_pos (show b2 false = 0 from rfl)]; rfl
    unfold fX11_expression_J145L12 fX11_expression_J181L12
    rw [J186, mIs (k := 8) (w := 8) hD h1 rfl (by decide), mIs (k := 9) (w := 9) hD h1 rfl (by decide), mIs (k := 10) (w := 10) hD h1 rfl (by decide), mIs (k := 15) (w := 15) hD h1 rfl (by decide)]
    simp only [ob]
    by_cases c1 : D.1 p = 8
    · rw [decide_eq_true c1, if_neg (show ¬ b2 true = 0 by decide)]
    · rw [decide_eq_false c1, if_pos (show b2 false = 0 from rfl)]
      by_cases c2 : D.1 p = 9
      · rw [decide_eq_true c2, if_neg (show ¬ b2 true = 0 by decide)]
      · rw [decide_eq_false c2, if_pos (show b2 false = 0 from rfl)]
        by_cases c3 : D.1 p = 10
        · rw [decide_eq_true c3, if_neg (show ¬ b2 true = 0 by decide)]
        · rw [decide_eq_false c3, if_pos (show b2 false = 0 from rfl)]
          have c4 : D.1 p = 15 := by rcases ho with q | q | q | q <;> first | exact q | exact absurd q (by assumption)
          rw [decide_eq_true c4, if_neg (show ¬ b2 true = 0 by decide)]
  · rw [sI_ne (Or.inr (by decide)), sI_ne (Or.inl (by decide)), a2.2 0 12 (by omega) (by omega)]; exact h2
theorem RB_op (hD : TKo D) {s : Bool} (h : CE l D p N c0 k (X ++ S) C G) (hX : ∀ x ∈ X, popS s x) (hS : stays s S) (ho : isOp (D.1 p)) (hs : s = true ↔ D.1 p = 10 ∨ D.1 p = 15) (hS2 : S.length ≤ 59) (hk7 : k ≤ 7) (hl : l ≤ 1) (hp : p < 400) : ∃ G2, EE c0 G G2 ∧ CE l D (p + 1) N c0 k (D.1 p :: S) (C ++ X.map oc) G2 ∧ ∀ r, RA (p + 1) G2 r → RB p G r := by
  obtain ⟨G7, b1, b2', b3, b4, b5⟩ := xOp hD h hX hS ho hs hS2 hl
  have hk0 : D.1 p ≠ 0 ∧ D.1 p ≠ 7 := by rcases ho with q | q | q | q <;> omega
  obtain ⟨G2, a1, a2, a3, a4⟩ := mGoes_y hD b3 hk0.1 hp
  rw [a1] at b1
  simp only [ob] at b1
  have h0 := xS96_no hD h (fun z => hk0.2 z.1) hk7
  obtain ⟨-, -, -, h4, h5, h6⟩ := h
  rw [List.length_append] at h4 h6
  refine ⟨G2, b2'.tr (by rw [a4]; exact EE.s (by omega)), ⟨a3, (a2.2 0 12 (by omega)).trans b4, b5.E (a2.2 0 54 (by omega)) (a2.2 0 48 (by omega)) (fun q j hq => a2.2 q j (by omega)), ?_, fun x hx => ?_, by rw [List.length_cons]; omega⟩, ?_⟩
  · rw [List.length_append, List.length_map, List.length_cons]; omega
  · rcases List.mem_cons.mp hx with q | q
    · rw [q]; exact Or.inr ho
    · exact h5 x (List.mem_append_right _ q)
  · rintro r ⟨n, o, r1, r2, r3⟩
    refine ⟨1, .inl (G2, 1), by omega, ?_, ?_⟩
    · unfold xB2
      rw [iter_out h0]
      exact b1
    · have hb : xF12 (G2, 1) = some o := by
        rw [xF12_1 a3.2.2.2.2.1]
        exact xA2_mono r2 (by unfold fuel; omega)
      show ∃ o2, iter xF12 (402 - p) (G2, 1) = some o2 ∧ xfin o2 = some r
      rw [show 402 - p = (402 - (p + 1)) + 1 by omega]
      cases o with
      | inl s2 =>
        obtain ⟨o2, k1, k2⟩ : ∃ o2, iter xF12 (402 - (p + 1)) s2 = some o2 ∧ xfin o2 = some r := r3
        exact ⟨o2, by rw [iter_in hb]; exact k1, k2⟩
      | inr o2 => exact ⟨o2, iter_out hb, r3⟩
theorem RB_op_f (hD : TKo D) {s : Bool} (h : CE l D p N c0 k (X ++ S) C G) (hX : ∀ x ∈ X, popS s x) (hS : stays s S) (ho : isOp (D.1 p)) (hs : s = true ↔ D.1 p = 10 ∨ D.1 p = 15) (hS2 : S.length ≤ 59) (hk7 : k ≤ 7) (hl : l ≤ 1) (hp : ¬ p < 400) : ∃ r, EE c0 G r ∧ MF l D 2 p r ∧ RB p G r := by
  have hb3 := h.1.2.2.1
  obtain ⟨G7, b1, b2', b3, b4, b5⟩ := xOp hD h hX hS ho hs hS2 hl
  have hk0 : D.1 p ≠ 0 ∧ D.1 p ≠ 7 := by rcases ho with q | q | q | q <;> omega
  obtain ⟨G2, a1, a2, a3⟩ := mGoesE_n b3 hp
  rw [a1] at b1
  simp only [ob] at b1
  have h0 := xS96_no hD h (fun z => hk0.2 z.1) hk7
  refine ⟨G2, b2'.tr ⟨a2.1, fun q j x y z => a2.2 q j (by omega)⟩, a3, 1, .inl (G2, 1), by omega, ?_, ?_⟩
  · unfold xB2
    rw [iter_out h0]
    exact b1
  · have hb : xF12 (G2, 1) = some (.inr (.inl G2)) := by
      show fX11_expression_S12 SHM 0 0 G2 1 = _
      unfold fX11_expression_S12
      rw [if_neg one_ne, if_neg a3.pos.2.1]
    show ∃ o2, iter xF12 (402 - p) (G2, 1) = some o2 ∧ xfin o2 = some G2
    rw [show 402 - p = (401 - p) + 1 by omega]
    exact ⟨_, iter_out hb, rfl⟩
theorem xJ145_no (hD : TKo D) (h : MPs l D p N G) (ho : ¬ isOp (D.1 p)) : fX11_expression_J145L12 SHM G 0 0 = some (.inr (.inr (.inr G))) := by
  unfold fX11_expression_J145L12 fX11_expression_J186L12
  rw [mIs (k := 8) (w := 8) hD h rfl (by decide), mIs (k := 9) (w := 9) hD h rfl (by decide), mIs (k := 10) (w := 10) hD h rfl (by decide), mIs (k := 15) (w := 15) hD h rfl (by decide)]
  simp only [ob]
  rw [decide_eq_false (fun z => ho (Or.inl z)), decide_eq_false (fun z => ho (Or.inr (Or.inl z))), decide_eq_false (fun z => ho (Or.inr (Or.inr (Or.inl z)))), decide_eq_false (fun z => ho (Or.inr (Or.inr (Or.inr z)))), if_pos (show b2 false = 0 from rfl), if_pos (show b2 false = 0 from rfl), if_pos (show b2 false = 0 from rfl), if_pos (show b2 false = 0 from rfl), if_pos trivial]
theorem RB_end0 (hD : TKo D) (h : CE l D p N c0 0 X C G) (hX : ∀ x ∈ X, isOp x) (ho : ¬ isOp (D.1 p)) (hl : l ≤ 1) : ∃ r, EE c0 G r ∧ CE l D p N c0 0 [] (C ++ X.map oc) r ∧ RB p G r := by
  have h0 := xS96_no hD h (fun z => by have := z.2; omega) (by omega)
  obtain ⟨h1, h2, h3, h4, h5, h6⟩ := h
  have hb := h1.2.2.1
  obtain ⟨r, a1, a2, a3⟩ := mCome (s := false) (S := []) h1.1 (by rw [List.append_nil]; exact h3) (fun x hx => ⟨hX x hx, fun w => by cases w⟩) trivial (by omega) (by rw [List.append_nil]; omega)
  refine ⟨r, a2.e, ⟨a2.mp h1, (a2.2 0 12 (by omega) (by omega)).trans h2, a3, by rw [List.length_append, List.length_map]; show 420 * (1 - l) ≤ c0 ∧ c0 + (C.length + X.length) + 0 ≤ _; omega, fun x hx => (by cases hx), by decide⟩, 1, .inr (.inr (.inr G)), by omega, ?_, ?_⟩
  · unfold xB2
    rw [iter_out h0]
    exact xJ145_no hD h1 ho
  · show xfin (.inr (.inr G)) = some r
    unfold xfin
    simp only [Sum.elim_inr, obd]
    rw [h2, if_pos (show nI 0 ≤ 0 by decide), show (0 : Int32) = b2 false from rfl, a1]
    rfl
theorem RB_end1 (hD : TKo D) (h : CE l D p N c0 (k + 1) S C G) (ho : ¬ isOp (D.1 p)) (h7 : D.1 p ≠ 7) (hk : k ≤ 6) (hl : l ≤ 1) : ∃ r, EE c0 G r ∧ MF l D 1 p r ∧ RB p G r := by
  have h0 := xS96_no hD h (fun z => h7 z.1) (by omega)
  obtain ⟨h1, h2, h3, h4, h5, h6⟩ := h
  have hb := h1.2.2.1
  obtain ⟨G13, a1, a2, a3⟩ := mFailE (f := 1) (Or.inl rfl) h1
  have s2 : SC c0 S C G13 := h3.E (a2.2 0 54 (by omega)) (a2.2 0 48 (by omega)) (fun q j hq => a2.2 q j (by omega))
  obtain ⟨X, S2, e1, e2, e3⟩ := splitS S h5
  subst e1
  rw [List.length_append] at h4
  obtain ⟨r, b1, b2', b3⟩ := mCome (s := false) a3.1 s2 e2 e3 (by omega) (by omega)
  refine ⟨r, EE.tr (G := G) (G2 := G13) ⟨a2.1, fun q j x y z => a2.2 q j (by omega)⟩ b2'.e, b2'.mf a3, 1, .inr (.inr (.inr G)), by omega, ?_, ?_⟩
  · unfold xB2
    rw [iter_out h0]
    exact xJ145_no hD h1 ho
  · show xfin (.inr (.inr G)) = some r
    unfold xfin
    simp only [Sum.elim_inr, obd]
    rw [h2, if_neg (show ¬ nI (k + 1) ≤ 0 from nI_ge (a := 0) (by omega) (by omega)), show (1 : Int32) = nI 1 from rfl, a1, show (0 : Int32) = b2 false from rfl]
    simp only [ob]
    rw [b1]
    rfl
end XB
