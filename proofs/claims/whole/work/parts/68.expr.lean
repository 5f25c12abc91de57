/-! EXPRESSIONS: the reference's course. -/
theorem iter_mono {σ ρ : Type} {f : σ → Option (σ ⊕ ρ)} : ∀ n m s (r : ρ), iter f n s = some r → n ≤ m → iter f m s = some r
  | 0, _, _, _, h, _ => by cases h
  | n + 1, 0, _, _, _, h => by omega
  | n + 1, m + 1, s, r, h, hm => by
    obtain ⟨o, h1, h2⟩ := bn h
    cases o with
    | inl s2 => rw [iter_in h1]; exact iter_mono n m s2 r h2 (by omega)
    | inr o => rw [iter_out h1]; exact h2
def xfin (o : Hp ⊕ Hp ⊕ Hp) : Option Hp := Sum.elim (fun u5 => bd u5 fun G4 => some G4) (Sum.elim (fun u7 => bd u7 fun G6 => some G6) (fun u16 => bd u16 fun G8 => if (G8.1 0 12) ≤ 0 then (fX11_comesOut SHM G8 0 0).bind fun G11 => some G11 else (fX11_fail SHM G8 0 1).bind fun G13 => (fX11_comesOut SHM G13 0 0).bind fun G15 => some G15)) o
def xF12 : Hp × Int32 → Option ((Hp × Int32) ⊕ (Hp ⊕ Hp ⊕ Hp)) := fun s => fX11_expression_S12 SHM 0 0 s.1 s.2
def xS23 : Hp → Option (Hp ⊕ Hp) := fun s => fX11_expression_S23 SHM 0 0 s
def xS96 : Hp → Option (Hp ⊕ Hp) := fun s => fX11_expression_S96 SHM 0 0 s
def xB2 (n : Nat) (G : Hp) : Option ((Hp × Int32) ⊕ (Hp ⊕ Hp ⊕ Hp)) := (iter xS96 n G).bind fun u => bd u fun G9 => fX11_expression_J145L12 SHM G9 0 0
def xA2 (n : Nat) (G : Hp) : Option ((Hp × Int32) ⊕ (Hp ⊕ Hp ⊕ Hp)) := (iter xS23 n G).bind fun u => bd u fun G4 => (fX11_unit SHM G4 0).bind fun G6 => if (G6.1 0 13) ≤ 0 then xB2 fuel G6 else some (.inr (.inr (.inl G6)))
def xfn (m : Nat) (o : (Hp × Int32) ⊕ (Hp ⊕ Hp ⊕ Hp)) (r : Hp) : Prop := match o with
  | .inl s => ∃ o2, iter xF12 m s = some o2 ∧ xfin o2 = some r
  | .inr o2 => xfin o2 = some r
theorem xfn_mono {n m : Nat} {o : (Hp × Int32) ⊕ (Hp ⊕ Hp ⊕ Hp)} {r : Hp} (h : xfn n o r) (hm : n ≤ m) : xfn m o r := by
  cases o with
  | inl s =>
    obtain ⟨o2, h1, h2⟩ : ∃ o2, iter xF12 n s = some o2 ∧ xfin o2 = some r := h
    exact ⟨o2, iter_mono n m s o2 h1 hm, h2⟩
  | inr o2 => exact h
def RA (t : Nat) (G r : Hp) : Prop := ∃ n o, n ≤ 402 - t ∧ xA2 n G = some o ∧ xfn (402 - t) o r
def RB (t : Nat) (G r : Hp) : Prop := ∃ n o, n ≤ 402 - t ∧ xB2 n G = some o ∧ xfn (402 - t) o r
theorem xB2_mono {n m : Nat} {G : Hp} {o : (Hp × Int32) ⊕ (Hp ⊕ Hp ⊕ Hp)} (h : xB2 n G = some o) (hm : n ≤ m) : xB2 m G = some o := by
  obtain ⟨u, h1, h2⟩ := bn h
  unfold xB2
  rw [iter_mono n m G u h1 hm]
  exact h2
theorem xA2_mono {n m : Nat} {G : Hp} {o : (Hp × Int32) ⊕ (Hp ⊕ Hp ⊕ Hp)} (h : xA2 n G = some o) (hm : n ≤ m) : xA2 m G = some o := by
  obtain ⟨u, h1, h2⟩ := bn h
  unfold xA2
  rw [iter_mono n m G u h1 hm]
  exact h2
theorem xF12_1 {G : Hp} (h : G.1 0 13 = 0) : xF12 (G, 1) = xA2 fuel G := by
  show fX11_expression_S12 SHM 0 0 G 1 = _
  unfold fX11_expression_S12
  rw [if_neg one_ne, if_pos h]
  rfl
theorem expr_done {t : Nat} {G r : Hp} (h12 : G.1 0 12 = 0) (h13 : G.1 0 13 = 0) (h : RA t (sI G 0 54 0) r) : fX11_expression SHM G 0 = some r := by
  obtain ⟨n, o, h1, h2, h3⟩ := h
  unfold fX11_expression
  simp only [obd]
  rw [sI_ne (Or.inr (by decide)), h12]
  have hb : xF12 (sI G 0 54 0, 1) = some o := by
    rw [xF12_1 (by rw [sI_ne (Or.inr (by decide))]; exact h13)]
    exact xA2_mono h2 (by unfold fuel; omega)
  have key : ∃ o2, iter xF12 fuel (sI G 0 54 0, 1) = some o2 ∧ xfin o2 = some r := by
    obtain ⟨f, hf⟩ := fuel_is 1 (by decide)
    rw [hf]
    cases o with
    | inl s =>
      obtain ⟨o2, k1, k2⟩ : ∃ o2, iter xF12 (402 - t) s = some o2 ∧ xfin o2 = some r := h3
      refine ⟨o2, ?_, k2⟩
      rw [iter_in hb]
      exact iter_mono _ _ _ _ k1 (by unfold fuel at hf; omega)
    | inr o2 => exact ⟨o2, iter_out hb, h3⟩
  obtain ⟨o2, k1, k2⟩ := key
  show (iter xF12 fuel (sI G 0 54 0, 1)).bind _ = _
  rw [k1]
  simp only [ob]
  exact k2
/-- how far an expression is: open (, waiting ones, codes -/
def CE (l : Nat) (D : TKd) (p : Nat) (N : Nat × Nat) (c0 k : Nat) (S : List Nat) (C : List Int32) (G : Hp) : Prop := MPs l D p N G ∧ G.1 0 12 = nI k ∧ SC c0 S C G ∧ (420 * (1 - l) ≤ c0 ∧ c0 + C.length + S.length ≤ 420 * (1 - l) + p) ∧ (∀ x ∈ S, x = 6 ∨ isOp x) ∧ S.length ≤ 60
theorem SC.E {c0 : Nat} {S : List Nat} {C : List Int32} {G G2 : Hp} (h : SC c0 S C G) (e54 : G2.1 0 54 = G.1 0 54) (e48 : G2.1 0 48 = G.1 0 48) (e : ∀ q j, q = 36 ∨ q = 33 ∨ q = 34 → G2.1 q j = G.1 q j) : SC c0 S C G2 := by
  obtain ⟨h1, h2, h3, h4⟩ := h
  exact ⟨e54.trans h1, SK_fr S h2 (fun j _ => e 36 j (Or.inl rfl)), e48.trans h3, MP_fr h4 (fun q j hq => e q j (Or.inr hq))⟩
theorem SC.push {c0 x : Nat} {S : List Nat} {C : List Int32} {G : Hp} (h : SC c0 S C G) : SC c0 (x :: S) C (sI (sI G 36 S.length (nI x)) 0 54 (nI (S.length + 1))) := by
  obtain ⟨h1, h2, h3, h4⟩ := h
  refine ⟨by rw [sI_same]; rfl, ⟨?_, SK_fr S h2 (fun j hj => ?_)⟩, ?_, MP_fr h4 (fun q j hq => ?_)⟩
  · rw [sI_ne (Or.inl (by decide)), sI_same]
  · rw [sI_ne (Or.inl (by decide)), sI_ne (Or.inr (by omega))]
  · rw [sI_ne (Or.inr (by decide)), sI_ne (Or.inl (by decide))]; exact h3
  · rw [sI_ne (by omega), sI_ne (by omega)]
section XR
variable {l p c0 k : Nat} {D : TKd} {N : Nat × Nat} {S : List Nat} {C : List Int32} {G : Hp}
theorem Er0.ee {b : Nat} {G2 : Hp} (h : Er0 G G2) (h15 : G2.1 0 15 = G.1 0 15) (h16 : G2.1 0 16 = G.1 0 16) : EE b G G2 := ⟨h.1, fun q j x y z => by
  by_cases e : q = 0 ∧ (j = 15 ∨ j = 16)
  · obtain ⟨rfl, rfl | rfl⟩ := e
    · exact h15
    · exact h16
  · exact h.2 q j (by omega)⟩
/-- a failed step leaves what was noted -/
theorem mFailE {f : Nat} (hf : f = 1 ∨ f = 2) (h : MPs l D p N G) : ∃ G2, fX11_fail SHM G 0 (nI f) = some G2 ∧ (G2.2 = G.2 ∧ ∀ q j, ¬ (q = 0 ∧ (j = 13 ∨ j = 14)) → G2.1 q j = G.1 q j) ∧ MF l D f p G2 := by
  obtain ⟨G2, a1, a2, a3⟩ := mFail hf h
  refine ⟨G2, a1, ⟨a2.1, fun q j hq => ?_⟩, a3⟩
  unfold fX11_fail at a1
  rw [h.2.2.2.2.1, if_pos (by decide)] at a1
  simp only [obd] at a1
  have hL : LM (sI G 0 13 (nI f)) := h.1
  have h3 := h.2.2.1
  rw [ml_6 hL, sI_ne (Or.inr (by decide)), h.2.2.2.1] at a1
  simp only [ob] at a1
  rw [aI_n (by rw [mn_4]; omega) (by omega)] at a1
  simp only [ob, Option.some.injEq] at a1
  subst a1
  rw [sI_ne (by omega), sI_ne (by omega)]
theorem mGoesE_n (h : MPs l D p N G) (hp : ¬ p < 400) : ∃ G2, fX11_goesOn SHM G 0 = some G2 ∧ (G2.2 = G.2 ∧ ∀ q j, ¬ (q = 0 ∧ (j = 11 ∨ j = 13 ∨ j = 14)) → G2.1 q j = G.1 q j) ∧ MF l D 2 p G2 := by
  have h3 := h.2.2.1
  obtain ⟨G2, a1, a2, a3⟩ := mFailE (f := 2) (Or.inr rfl) h
  unfold fX11_goesOn
  rw [h.2.2.2.1, if_pos (by rw [show p = 400 by omega]; rfl), show (2 : Int32) = nI 2 from rfl, a1]
  exact ⟨G2, rfl, ⟨a2.1, fun q j hq => a2.2 q j (by omega)⟩, a3⟩
theorem mGoesE_f {f i : Nat} (h : MF l D f i G) : ∃ G2, fX11_goesOn SHM G 0 = some G2 ∧ (G2.2 = G.2 ∧ ∀ q j, ¬ (q = 0 ∧ (j = 11 ∨ j = 13 ∨ j = 14)) → G2.1 q j = G.1 q j) ∧ MF l D f i G2 := by
  have h0 := h
  obtain ⟨h1, h2, h3, h4, ⟨p, h5, h6⟩, h8, h9⟩ := h
  unfold fX11_goesOn
  rw [h6]
  by_cases e : p = 400
  · rw [if_pos (by rw [e]; rfl), mFail_f h0]
    exact ⟨G, rfl, ⟨rfl, fun _ _ _ => rfl⟩, h0⟩
  · rw [if_neg (show ¬ nI p = 400 from fun z => e ((nI_eq (b := 400) (by omega) (by decide)).mp z)), nI_1]
    simp only [obd]
    refine ⟨_, rfl, ⟨rfl, fun q j hq => sI_ne (by omega)⟩, h1, ?_, h3, ?_, ⟨p + 1, by omega, sI_same⟩, ?_, ?_⟩
    · rw [sI_ne (Or.inr (by decide))]; exact h2
    · rw [sI_ne (Or.inr (by decide))]; exact h4
    · rw [sI_ne (Or.inr (by decide))]; exact h8
    · rw [sI_ne (Or.inr (by decide))]; exact h9
/-- ( is put on the list -/
theorem xJ46_y (hD : TKo D) (h : CE l D p N c0 k S C G) (hS : S.length ≤ 59) (hk : D.1 p = 6) (hp : p < 400) : ∃ G2, fX11_expression_J46L23 SHM G 0 0 = some (.inl G2) ∧ EE c0 G G2 ∧ CE l D (p + 1) N c0 (k + 1) (6 :: S) C G2 := by
  obtain ⟨h1, h2, h3, h4, h5, h6⟩ := h
  unfold fX11_expression_J46L23
  rw [h2, nI_1]
  simp only [obd]
  have m1 : MPs l D p N (sI G 0 12 (nI (k + 1))) := h1.E rfl rfl (fun q k hq => sI_ne (by omega)) (fun k hk => sI_ne (by omega))
  have s1 : SC c0 S C (sI G 0 12 (nI (k + 1))) := h3.E (sI_ne (by omega)) (sI_ne (by omega)) (fun q j hq => sI_ne (by omega))
  have e1 : EE c0 G (sI G 0 12 (nI (k + 1))) := EE.s (by omega)
  have v1 : (sI G 0 12 (nI (k + 1))).1 0 12 = nI (k + 1) := sI_same
  generalize sI G 0 12 (nI (k + 1)) = G1 at m1 s1 e1 v1
  obtain ⟨G3, a1, a2, a3, a4⟩ := mGoes_y hD m1 (by rw [hk]; decide) hp
  rw [a1]
  simp only [ob]
  have e3 : EE c0 G1 G3 := by rw [a4]; exact EE.s (by omega)
  have s3 : SC c0 S C G3 := s1.E (a2.2 0 54 (by omega)) (a2.2 0 48 (by omega)) (fun q j hq => a2.2 q j (by omega))
  have v3 : G3.1 0 12 = nI (k + 1) := (a2.2 0 12 (by omega)).trans v1
  rw [ml_53 a3.1, s3.1]
  simp only [ob]
  rw [asI_n (by rw [mn_36]; omega) (by omega)]
  simp only [ob]
  rw [sI_ne (Or.inl (by decide)), s3.1, nI_1]
  refine ⟨_, rfl, e1.tr (e3.tr ((EE.s (by omega)).tr (EE.s (by omega)))), a3.E rfl rfl (fun q k hq => by rw [sI_ne (by omega), sI_ne (by omega)]) (fun k hk => by rw [sI_ne (by omega), sI_ne (by omega)]), ?_, s3.push, by rw [List.length_cons]; omega, fun x hx => ?_, by rw [List.length_cons]; omega⟩
  · rw [sI_ne (by omega), sI_ne (by omega)]; exact v3
  · rcases List.mem_cons.mp hx with q | q
    · exact Or.inl q
    · exact h5 x q
/-- the step of a ( behind a fault -/
theorem xJ46_f {f i : Nat} (h : MF l D f i G) (h54 : G.1 0 54 = nI S.length) (hS : S.length ≤ 60) : ∃ G2, fX11_expression_J46L23 SHM G 0 0 = some (.inl G2) ∧ EE c0 G G2 ∧ MF l D f i G2 := by
  unfold fX11_expression_J46L23
  simp only [obd]
  have m1 : MF l D f i (sI G 0 12 (G.1 0 12 + 1)) := h.E rfl (fun k hk => sI_ne (by omega))
  have e1 : EE c0 G (sI G 0 12 (G.1 0 12 + 1)) := EE.s (by omega)
  have v1 : (sI G 0 12 (G.1 0 12 + 1)).1 0 54 = nI S.length := (sI_ne (by omega)).trans h54
  generalize sI G 0 12 (G.1 0 12 + 1) = G1 at m1 e1 v1
  obtain ⟨G3, a1, a2, a3⟩ := mGoesE_f m1
  rw [a1]
  simp only [ob]
  rw [ml_53 a3.1, a2.2 0 54 (by omega), v1]
  simp only [ob]
  rw [asI_n (by rw [mn_36]; omega) (by omega)]
  simp only [ob]
  exact ⟨_, rfl, e1.tr (EE.tr (G := G1) (G2 := G3) ⟨a2.1, fun q j x y z => a2.2 q j (by omega)⟩ ((EE.s (by omega)).tr (EE.s (by omega)))), a3.E rfl (fun k hk => by rw [sI_ne (by omega), sI_ne (by omega)])⟩
theorem xJ46_n (h : CE l D p N c0 k S C G) (hp : ¬ p < 400) : ∃ G2, fX11_expression_J46L23 SHM G 0 0 = some (.inl G2) ∧ EE c0 G G2 ∧ MF l D 2 p G2 := by
  obtain ⟨h1, h2, h3, h4, h5, h6⟩ := h
  unfold fX11_expression_J46L23
  simp only [obd]
  have m1 : MPs l D p N (sI G 0 12 (G.1 0 12 + 1)) := h1.E rfl rfl (fun q k hq => sI_ne (by omega)) (fun k hk => sI_ne (by omega))
  have e1 : EE c0 G (sI G 0 12 (G.1 0 12 + 1)) := EE.s (by omega)
  have v1 : (sI G 0 12 (G.1 0 12 + 1)).1 0 54 = nI S.length := (sI_ne (by omega)).trans h3.1
  generalize sI G 0 12 (G.1 0 12 + 1) = G1 at m1 e1 v1
  obtain ⟨G3, a1, a2, a3⟩ := mGoesE_n m1 hp
  rw [a1]
  simp only [ob]
  rw [ml_53 a3.1, a2.2 0 54 (by omega), v1]
  simp only [ob]
  rw [asI_n (by rw [mn_36]; omega) (by omega)]
  simp only [ob]
  exact ⟨_, rfl, e1.tr (EE.tr (G := G1) (G2 := G3) ⟨a2.1, fun q j x y z => a2.2 q j (by omega)⟩ ((EE.s (by omega)).tr (EE.s (by omega)))), a3.E rfl (fun k hk => by rw [sI_ne (by omega), sI_ne (by omega)])⟩
theorem RA_open (hD : TKo D) (h : CE l D p N c0 k S C G) (hS : S.length ≤ 59) (hk : D.1 p = 6) (hp : p < 400) (hk6 : k < 6) : ∃ G2, EE c0 G G2 ∧ CE l D (p + 1) N c0 (k + 1) (6 :: S) C G2 ∧ ∀ r, RA (p + 1) G2 r → RA p G r := by
  obtain ⟨G2, a1, a2, a3⟩ := xJ46_y hD h hS hk hp
  refine ⟨G2, a2, a3, ?_⟩
  rintro r ⟨n, o, r1, r2, r3⟩
  have hb : xS23 G = some (.inl G2) := by
    show fX11_expression_S23 SHM 0 0 G = _
    unfold fX11_expression_S23
    rw [mIs (k := 6) (w := 6) hD h.1 rfl (by decide), decide_eq_true hk]
    simp only [ob]
    rw [if_neg (show ¬ b2 true = 0 by decide), h.2.1, if_neg (show ¬ nI k = 6 from fun z => by have := (nI_eq (b := 6) (by omega) (by decide)).mp z; omega)]
    exact a1
  refine ⟨n + 1, o, by omega, ?_, xfn_mono r3 (by omega)⟩
  unfold xA2
  rw [iter_in hb]
  exact r2
/-- behind a fault: the course ends -/
theorem RA_fault {f i : Nat} {G2 : Hp} (hb : xS23 G = some (.inl G2)) (h : MF l D f i G2) (hp : p ≤ 400) : RA p G G2 := by
  refine ⟨2, .inr (.inr (.inl G2)), by omega, ?_, rfl⟩
  have hb2 : xS23 G2 = some (.inr G2) := by
    show fX11_expression_S23 SHM 0 0 G2 = _
    unfold fX11_expression_S23
    rw [mIs_f h]
    simp only [ob]
    rw [if_pos trivial]
  unfold xA2
  rw [iter_in hb, iter_out hb2]
  simp only [ob, obd]
  unfold fX11_unit
  rw [mIs_f h]
  simp only [ob]
  rw [if_pos trivial, if_neg h.pos.2.1, mFail_f h]
  simp only [ob]
  rw [if_neg h.pos.1]
theorem RA_open_f (hD : TKo D) (h : CE l D p N c0 k S C G) (hS : S.length ≤ 59) (hk : D.1 p = 6) (hk6 : k ≤ 6) (hn : ¬ (p < 400 ∧ k < 6)) : ∃ r, EE c0 G r ∧ MF l D 2 p r ∧ RA p G r := by
  have h3 := h.1.2.2.1
  have hb : xS23 G = if k = 6 then (fX11_fail SHM G 0 2).bind fun G5 => fX11_expression_J46L23 SHM G5 0 0 else fX11_expression_J46L23 SHM G 0 0 := by
    show fX11_expression_S23 SHM 0 0 G = _
    unfold fX11_expression_S23
    rw [mIs (k := 6) (w := 6) hD h.1 rfl (by decide), decide_eq_true hk]
    simp only [ob]
    rw [if_neg (show ¬ b2 true = 0 by decide), h.2.1]
    by_cases e : k = 6
    · rw [if_pos e, if_pos (by rw [e]; rfl)]
    · rw [if_neg e, if_neg (show ¬ nI k = 6 from fun z => e ((nI_eq (b := 6) (by omega) (by decide)).mp z))]
  by_cases e : k = 6
  · obtain ⟨G5, a1, a2, a3⟩ := mFailE (f := 2) (Or.inr rfl) h.1
    obtain ⟨G2, b1, b2', b3⟩ := xJ46_f (c0 := c0) (S := S) a3 ((a2.2 0 54 (by omega)).trans h.2.2.1.1) (by omega)
    rw [if_pos e, show (2 : Int32) = nI 2 from rfl, a1] at hb
    simp only [ob] at hb
    rw [b1] at hb
    exact ⟨G2, EE.tr (G := G) (G2 := G5) ⟨a2.1, fun q j x y z => a2.2 q j (by omega)⟩ b2', b3, RA_fault hb b3 h3.2.1⟩
  · obtain ⟨G2, b1, b2', b3⟩ := xJ46_n h (fun z => hn ⟨z, by omega⟩)
    rw [if_neg e, b1] at hb
    exact ⟨G2, b2', b3, RA_fault hb b3 h3.2.1⟩
def unitK (D : TKd) (p : Nat) : Prop := D.1 p = 2 ∨ (37 ≤ D.1 p ∧ D.1 p ≤ 45)
def ucode (D : TKd) (p : Nat) : Int32 := if D.1 p = 2 then nI (D.2.2.1 p) else (-1) - nI (D.1 p - 37)
theorem ucode_v : ∀ j, j < 9 → mcode ((-1) - nI j) = 1 ∧ mint ((-1) - nI j) = nI j := by decide +kernel
theorem ucode_m (hD : TKo D) (h : unitK D p) : ∃ a v, (a = if D.1 p = 2 then (0 : Int32) else 1) ∧ (v = if D.1 p = 2 then nI (D.2.2.1 p) else nI (D.1 p - 37)) ∧ a = mcode (ucode D p) ∧ (mcode (ucode D p) < 2 → v = mint (ucode D p)) := by
  refine ⟨_, _, rfl, rfl, ?_, fun _ => ?_⟩
  · unfold ucode
    by_cases e : D.1 p = 2
    · have hv := hD.2.2.2.2.2.2.1 p e
      rw [if_pos e, if_pos e]
      unfold mcode
      rw [if_pos (nI_pos' (by omega))]
    · rcases h with h | h
      · exact absurd h e
      · rw [if_neg e, if_neg e, (ucode_v _ (by omega)).1]
  · unfold ucode
    by_cases e : D.1 p = 2
    · have hv := hD.2.2.2.2.2.2.1 p e
      rw [if_pos e, if_pos e]
      unfold mint
      rw [if_pos (nI_pos' (by omega))]
    · rcases h with h | h
      · exact absurd h e
      · rw [if_neg e, if_neg e, (ucode_v _ (by omega)).2]
theorem mUnit (hD : TKo D) (h : CE l D p N c0 k S C G) (hu : unitK D p) (hl : l ≤ 1) : ∃ G19, fX11_unit SHM G 0 = (fX11_goesOn SHM G19 0).bind (fun G27 => some G27) ∧ EE c0 G G19 ∧ MPs l D p N G19 ∧ G19.1 0 12 = nI k ∧ SC c0 S (C ++ [ucode D p]) G19 := by
  obtain ⟨h1, h2, h3, h4, h5, h6⟩ := h
  have hb := h1.2.2.1
  obtain ⟨a, v, ha, hv, hm1, hm2⟩ := ucode_m hD hu
  obtain ⟨G19, e1, e2, e3, e4, e5, e6⟩ := mEmit (a := a) (v := v) h1.1 h3.2.2.1 (by omega)
  have hun : fX11_unit SHM G 0 = (fX11_goesOn SHM G19 0).bind (fun G27 => some G27) := by
    unfold fX11_unit
    rw [mIs (k := 2) (w := 2) hD h1 rfl (by decide)]
    simp only [ob]
    by_cases e : D.1 p = 2
    · rw [decide_eq_true e, if_neg (show ¬ b2 true = 0 by decide), ml_7 h1.1, h1.2.2.2.1]
      simp only [ob]
      rw [aI_n (by rw [mn_5]; omega) (by omega), (h1.2.1 p hb.1 hb.2.1).2.2.1 e]
      simp only [ob]
      rw [if_pos e] at ha hv
      rw [← ha, ← hv, e1]
      rfl
    · rw [decide_eq_false e, if_pos (show b2 false = 0 from rfl), h1.2.2.2.2.1, if_pos rfl, ml_5 h1.1]
      simp only [ob]
      rw [mKd h1]
      simp only [ob]
      rcases hu with q | q
      · exact absurd q e
      · rw [if_neg (show ¬ nI (D.1 p) < 37 from nI_nlt (b := 37) q.1 (by omega)), if_neg (show ¬ (45 : Int32) < nI (D.1 p) from nI_nlt (a := 45) q.2 (by decide))]
        rw [if_neg e] at ha hv
        have hs : nI (D.1 p) - 37 = nI (D.1 p - 37) := by
          have : nI (D.1 p) = nI (D.1 p - 37) + 37 := by
            rw [show (37 : Int32) = nI 37 from rfl, nI_add]; congr 1; omega
          rw [this, Int32.add_sub_cancel]
        rw [hs, ← ha, ← hv, e1]
        rfl
  refine ⟨G19, hun, ⟨e2, fun q j x y z => e6 q j (by omega) (by omega)⟩, h1.E (by rw [e2]) (by rw [e2]) (fun q j hq => e6 q j (by omega) (by omega)) (fun j hj => e6 0 j (by omega) (by omega)), (e6 0 12 (by omega) (by omega)).trans h2, ?_, ?_, ?_, ?_⟩
  · rw [e6 0 54 (by omega) (by omega)]; exact h3.1
  · exact SK_fr S h3.2.1 (fun j _ => e6 36 j (by omega) (by omega))
  · rw [e3, List.length_append]; rfl
  · exact MP_snoc h3.2.2.2 (fun q j hq hj => e6 q j (by omega) (by omega)) (by rw [e4]; exact hm1) (fun z => by rw [e5]; exact hm2 z)
theorem RA_unit (hD : TKo D) (h : CE l D p N c0 k S C G) (hu : unitK D p) (hp : p < 400) (hl : l ≤ 1) : ∃ G2, EE c0 G G2 ∧ CE l D (p + 1) N c0 k S (C ++ [ucode D p]) G2 ∧ ∀ r, RB (p + 1) G2 r → RA p G r := by
  obtain ⟨G19, b1, b2', b3, b4, b5⟩ := mUnit hD h hu hl
  have hk0 : D.1 p ≠ 0 ∧ D.1 p ≠ 6 := by rcases hu with q | q <;> omega
  obtain ⟨G2, a1, a2, a3, a4⟩ := mGoes_y hD b3 hk0.1 hp
  have e2 : EE c0 G19 G2 := by rw [a4]; exact EE.s (by omega)
  refine ⟨G2, b2'.tr e2, ⟨a3, (a2.2 0 12 (by omega)).trans b4, b5.E (a2.2 0 54 (by omega)) (a2.2 0 48 (by omega)) (fun q j hq => a2.2 q j (by omega)), ?_, h.2.2.2.2⟩, ?_⟩
  · have := h.2.2.2.1
    rw [List.length_append]
    show 420 * (1 - l) ≤ c0 ∧ c0 + (C.length + 1) + S.length ≤ _
    omega
  · rintro r ⟨n, o, r1, r2, r3⟩
    have hb : xS23 G = some (.inr G) := by
      show fX11_expression_S23 SHM 0 0 G = _
      unfold fX11_expression_S23
      rw [mIs (k := 6) (w := 6) hD h.1 rfl (by decide), decide_eq_false hk0.2]
      simp only [ob]
      rw [if_pos (show b2 false = 0 from rfl)]
    refine ⟨1, o, by omega, ?_, xfn_mono r3 (by omega)⟩
    unfold xA2
    rw [iter_out hb]
    simp only [ob, obd]
    rw [b1, a1]
    simp only [ob]
    rw [a3.2.2.2.2.1, if_pos (by decide)]
    exact xB2_mono r2 (by unfold fuel; omega)
theorem RA_unit_f (hD : TKo D) (h : CE l D p N c0 k S C G) (hk6 : D.1 p ≠ 6) (hl : l ≤ 1) (hn : ¬ (unitK D p ∧ p < 400)) : ∃ r f, EE c0 G r ∧ MF l D f p r ∧ RA p G r ∧ ((f = 2 ∧ unitK D p) ∨ (f = 1 ∧ ¬ unitK D p)) := by
  have h3 := h.1.2.2.1
  have hb : xS23 G = some (.inr G) := by
    show fX11_expression_S23 SHM 0 0 G = _
    unfold fX11_expression_S23
    rw [mIs (k := 6) (w := 6) hD h.1 rfl (by decide), decide_eq_false hk6]
    simp only [ob]
    rw [if_pos (show b2 false = 0 from rfl)]
  have fin : ∀ G2 f, fX11_unit SHM G 0 = some G2 → MF l D f p G2 → RA p G G2 := by
    intro G2 f hu hm
    refine ⟨1, .inr (.inr (.inl G2)), by omega, ?_, rfl⟩
    unfold xA2
    rw [iter_out hb]
    simp only [ob, obd]
    rw [hu]
    simp only [ob]
    rw [if_neg hm.pos.1]
  by_cases hu : unitK D p
  · obtain ⟨G19, b1, b2', b3, b4, b5⟩ := mUnit hD h hu hl
    obtain ⟨G2, a1, a2, a3⟩ := mGoesE_n b3 (fun z => hn ⟨hu, z⟩)
    rw [a1] at b1
    exact ⟨G2, 2, b2'.tr ⟨a2.1, fun q j x y z => a2.2 q j (by omega)⟩, a3, fin G2 2 b1 a3, Or.inl ⟨rfl, hu⟩⟩
  · obtain ⟨G2, a1, a2, a3⟩ := mFailE (f := 1) (Or.inl rfl) h.1
    have h46 := okK_lt hD p
    refine ⟨G2, 1, ⟨a2.1, fun q j x y z => a2.2 q j (by omega)⟩, a3, fin G2 1 ?_ a3, Or.inr ⟨rfl, hu⟩⟩
    unfold fX11_unit
    rw [mIs (k := 2) (w := 2) hD h.1 rfl (by decide), decide_eq_false (fun z => hu (Or.inl z))]
    simp only [ob]
    rw [if_pos (show b2 false = 0 from rfl), h.1.2.2.2.2.1, if_pos rfl, ml_5 h.1.1]
    simp only [ob]
    rw [mKd h.1]
    simp only [ob]
    rw [show (1 : Int32) = nI 1 from rfl, a1]
    by_cases c1 : D.1 p < 37
    · rw [if_pos (show nI (D.1 p) < 37 from nI_lt (b := 37) c1 (by decide))]
      rfl
    · exact absurd (Or.inr ⟨by omega, by omega⟩) hu
end XR
