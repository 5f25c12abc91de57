/-! READING: all tells. -/
section ALT
variable {t l p cl br co : Nat} {D : TKd} {N : Nat × Nat} {T : Txt} {NM : List (List Nat × Bool)} {Gx Gm : Hp}
theorem k46 : ∀ k, k < 46 → (nI k - 29 < 0 ∨ ¬ nI k ≤ 31 ∨ (29 ≤ k ∧ k ≤ 31)) := by decide
theorem jOther (hD : TKo D) (hX : BXs t D p N T NM Gx) (hM : BMs l D p N T NM cl br co Gm) (hk : ¬ (20 ≤ D.1 p ∧ D.1 p ≤ 23) ∧ ¬ (29 ≤ D.1 p ∧ D.1 p ≤ 33)) : TOK t l D p Gx Gm (fX6_refuse SHX Gx 1 1) (fX11_tellOne SHM Gm 0) := by
  have h46 := okK_lt hD p
  have hne : ∀ j, j < 100 → D.1 p ≠ j → ¬ nI (D.1 p) = nI j := fun j hj h z => h ((nI_eq (by omega) (by omega)).mp z)
  obtain ⟨X2, x1, x2, x3⟩ := xRefuse (f := 1) hX.1
  obtain ⟨M2, m1, m2, m3⟩ := mFail (f := 1) (Or.inl rfl) hM.1
  have m1' : fX11_fail SHM Gm 0 1 = some M2 := m1
  have e316 : ∀ x, fX11_tellOne_J316 SHM Gm 0 x = some M2 := fun x => by
    unfold fX11_tellOne_J316
    rw [m1']
    simp only [ob]
    rw [if_neg m3.pos.1]
  have e285 : fX11_tellOne_J285 SHM Gm 0 = some M2 := by
    unfold fX11_tellOne_J285
    rw [ml_5 hM.1.1]
    simp only [ob]
    rw [mKd hM.1]
    simp only [ob, obd]
    rcases k46 (D.1 p) h46 with h | h | h
    · rw [if_pos h]; exact e316 _
    · by_cases h2 : nI (D.1 p) - 29 < 0
      · rw [if_pos h2]; exact e316 _
      · rw [if_neg h2, if_neg h]; exact e316 _
    · omega
  left
  refine ⟨X2, 1, p, M2, x1, x3, x2.xl, ?_, m3, m2.yl⟩
  unfold fX11_tellOne
  rw [ml_5 hM.1.1]
  simp only [ob]
  rw [mKd hM.1]
  simp only [ob]
  rw [if_neg (show ¬ nI (D.1 p) = 20 from hne 20 (by decide) (by omega)), if_neg (show ¬ nI (D.1 p) = 21 from hne 21 (by decide) (by omega)), if_neg (show ¬ nI (D.1 p) = 22 from hne 22 (by decide) (by omega)), if_neg (show ¬ nI (D.1 p) = 23 from hne 23 (by decide) (by omega)), if_neg (show ¬ nI (D.1 p) = 32 from hne 32 (by decide) (by omega)), if_neg (show ¬ nI (D.1 p) = 33 from hne 33 (by decide) (by omega)), ite_self, ite_self, ite_self, ite_self, ite_self, ite_self, ite_self, ite_self]
  exact e285
theorem jStorm (hD : TKo D) (hX : BXs t D p N T NM Gx) (hM : BMs l D p N T NM cl br co Gm) (hJ : BJ l p N T NM cl br co) (hk : D.1 p = 32) : TOK t l D p Gx Gm (fX6_readStorm SHX Gx 1) (fX11_tellOne SHM Gm 0) := by
  refine jNumT (i := 4) (q := 24) (b := 100) (kk := 32) (w := 263) (lb := 100) hD hX hM hJ hk rfl (by decide) rfl (Or.inl ⟨rfl, rfl, rfl⟩) ?_
  unfold fX11_tellOne
  rw [ml_5 hM.1.1]
  simp only [ob]
  rw [mKd hM.1, hk]
  simp only [ob]
  rw [if_neg (by decide), if_neg (by decide), if_neg (by decide), if_neg (by decide), if_neg (by decide), if_neg (by decide), if_neg (by decide), if_neg (by decide), if_neg (by decide), if_neg (by decide), if_neg (by decide), if_neg (by decide), if_pos (by decide)]
  by_cases hp : p < 400
  · obtain ⟨M2, m1, -, m3, -⟩ := mGoes_y hD hM.1 (by rw [hk]; decide) hp
    rw [m1]
    simp only [ob]
    rw [ml_38 m3.1]
    rfl
  · obtain ⟨M2, m1, -, m3⟩ := mGoes_n hM.1 hp
    rw [m1]
    simp only [ob]
    rw [ml_38 m3.1]
    rfl
theorem jSeed (hD : TKo D) (hX : BXs t D p N T NM Gx) (hM : BMs l D p N T NM cl br co Gm) (hJ : BJ l p N T NM cl br co) (hk : D.1 p = 33) : TOK t l D p Gx Gm (fX6_readSeed SHX Gx 1) (fX11_tellOne SHM Gm 0) := by
  refine jNumT (i := 5) (q := 25) (b := 9999) (kk := 33) (w := 264) (lb := 9999) hD hX hM hJ hk rfl (by decide) rfl (Or.inr ⟨rfl, rfl, rfl⟩) ?_
  unfold fX11_tellOne
  rw [ml_5 hM.1.1]
  simp only [ob]
  rw [mKd hM.1, hk]
  simp only [ob]
  rw [if_neg (by decide), if_neg (by decide), if_neg (by decide), if_neg (by decide), if_neg (by decide), if_neg (by decide), if_neg (by decide), if_neg (by decide), if_neg (by decide), if_neg (by decide), if_neg (by decide), if_neg (by decide), if_neg (by decide), if_pos (by decide)]
  by_cases hp : p < 400
  · obtain ⟨M2, m1, -, m3, -⟩ := mGoes_y hD hM.1 (by rw [hk]; decide) hp
    rw [m1]
    simp only [ob]
    rw [ml_39 m3.1]
    rfl
  · obtain ⟨M2, m1, -, m3⟩ := mGoes_n hM.1 hp
    rw [m1]
    simp only [ob]
    rw [ml_39 m3.1]
    rfl
/-- one tell, whichever -/
theorem jTell {i : Nat} (hD : TKo D) (hX : BXs t D p N T NM Gx) (hM : BMs l D p N T NM cl br co Gm) (hJ : BJ l p N T NM cl br co) (hk : D.1 p ≠ 0) (hi : i ≤ 400) : ∃ ox, fX6_readTells_S4 SHX 1 Gx 1 (nI i) = (bp ox fun r G => some (.inl (G, r, nI i + 1))) ∧ TOK t l D p Gx Gm ox (fX11_tellOne SHM Gm 0) := by
  have ht := hX.1.1.1
  have hu : 43 - t = 11 ∨ 43 - t = 32 := by omega
  have hck : ∀ j, okK j = true → D.1 p ≠ j → ¬ ck (D.1 p) = ck j := fun j hj h z => h ((ck_eq (hD.2.1 _) hj).mp z)
  unfold fX6_readTells_S4
  rw [if_neg (show ¬ (400 : Int32) < nI i from nI_nlt (a := 400) hi (by omega)), if_neg one_ne, hX.1.2.2.2.2.1, if_neg (show ¬ ck (D.1 p) = 0 from hck 0 rfl hk)]
  simp only [obd]
  by_cases h20 : D.1 p = 20
  · rw [if_pos (show ck (D.1 p) = 256 by rw [h20]; rfl)]
    exact ⟨_, rfl, jTrait hD hX hM hJ h20⟩
  rw [if_neg (show ¬ ck (D.1 p) = 256 from hck 20 rfl h20)]
  by_cases h21 : D.1 p = 21
  · rw [if_pos (show ck (D.1 p) = 257 by rw [h21]; rfl)]
    exact ⟨_, rfl, jBeing hD hX hM hJ h21⟩
  rw [if_neg (show ¬ ck (D.1 p) = 257 from hck 21 rfl h21)]
  by_cases h22 : D.1 p = 22
  · rw [if_pos (show ck (D.1 p) = 258 by rw [h22]; rfl)]
    exact ⟨_, rfl, jWay hD hX hM hJ h22⟩
  rw [if_neg (show ¬ ck (D.1 p) = 258 from hck 22 rfl h22)]
  by_cases h23 : D.1 p = 23
  · rw [if_pos (show ck (D.1 p) = 259 by rw [h23]; rfl)]
    exact ⟨_, rfl, jBridge hD hX hM hJ h23⟩
  rw [if_neg (show ¬ ck (D.1 p) = 259 from hck 23 rfl h23)]
  by_cases h29 : D.1 p = 29
  · rw [if_pos (show ck (D.1 p) = 260 by rw [h29]; rfl), xl_rtext hX.1.1]
    simp only [ob]
    rw [xt_14 hu hX.1.1]
    exact ⟨_, rfl, jLaw (k := 0) hD hX hM hJ (by decide) h29 rfl⟩
  rw [if_neg (show ¬ ck (D.1 p) = 260 from hck 29 rfl h29)]
  by_cases h30 : D.1 p = 30
  · rw [if_pos (show ck (D.1 p) = 261 by rw [h30]; rfl), xl_rtext hX.1.1]
    simp only [ob]
    rw [xt_15 hu hX.1.1]
    exact ⟨_, rfl, jLaw (k := 1) hD hX hM hJ (by decide) h30 rfl⟩
  rw [if_neg (show ¬ ck (D.1 p) = 261 from hck 30 rfl h30)]
  by_cases h31 : D.1 p = 31
  · rw [if_pos (show ck (D.1 p) = 262 by rw [h31]; rfl), xl_rtext hX.1.1]
    simp only [ob]
    rw [xt_16 hu hX.1.1]
    exact ⟨_, rfl, jLaw (k := 2) hD hX hM hJ (by decide) h31 rfl⟩
  rw [if_neg (show ¬ ck (D.1 p) = 262 from hck 31 rfl h31)]
  by_cases h32 : D.1 p = 32
  · rw [if_pos (show ck (D.1 p) = 263 by rw [h32]; rfl)]
    exact ⟨_, rfl, jStorm hD hX hM hJ h32⟩
  rw [if_neg (show ¬ ck (D.1 p) = 263 from hck 32 rfl h32)]
  by_cases h33 : D.1 p = 33
  · rw [if_pos (show ck (D.1 p) = 264 by rw [h33]; rfl)]
    exact ⟨_, rfl, jSeed hD hX hM hJ h33⟩
  rw [if_neg (show ¬ ck (D.1 p) = 264 from hck 33 rfl h33)]
  exact ⟨_, rfl, jOther hD hX hM (by omega)⟩
/-- all tells: a fault at the same place on both sides, or both at the end -/
theorem jTells (hD : TKo D) (hX : BXs t D p N T NM Gx) (hM : BMs l D p N T NM cl br co Gm) (hJ : BJ l p N T NM cl br co) :
    ∃ o, iter (fun s : Hp × Int32 × Int32 => fX6_readTells_S4 SHX 1 s.1 s.2.1 s.2.2) fuel ((Gx, 1, 0) : Hp × Int32 × Int32) = some o ∧ ∃ M2, iter (fun s : Hp => fX11_read_S124 SHM 0 s) fuel Gm = some M2 ∧ EXl t Gx o.1 ∧ EYl l Gm M2 ∧ ((∃ f i, o.2 = 0 ∧ XF t D f i o.1 ∧ MF l D f i M2) ∨ ∃ p2 N2 T2 NM2 cl2 br2 co2, o.2 = 1 ∧ BXs t D p2 N2 T2 NM2 o.1 ∧ BMs l D p2 N2 T2 NM2 cl2 br2 co2 M2 ∧ BJ l p2 N2 T2 NM2 cl2 br2 co2) := by
  refine iter_go (P := fun i (s : Hp × Int32 × Int32) => s.2.2 = nI i ∧ EXl t Gx s.1 ∧ ∃ Mi, EYl l Gm Mi ∧ (∀ fu r, iter (fun s : Hp => fX11_read_S124 SHM 0 s) fu Mi = some r → iter (fun s : Hp => fX11_read_S124 SHM 0 s) (fu + i) Gm = some r) ∧ ((∃ f j, s.2.1 = 0 ∧ XF t D f j s.1 ∧ MF l D f j Mi) ∨ ∃ p2 N2 T2 NM2 cl2 br2 co2, i ≤ p2 ∧ s.2.1 = 1 ∧ BXs t D p2 N2 T2 NM2 s.1 ∧ BMs l D p2 N2 T2 NM2 cl2 br2 co2 Mi ∧ BJ l p2 N2 T2 NM2 cl2 br2 co2)) 402 (Gx, 1, 0) (by decide) ⟨rfl, EXl.rf, Gm, EYl.rf, fun fu r z => z, Or.inr ⟨p, N, T, NM, cl, br, co, Nat.zero_le _, rfl, hX, hM, hJ⟩⟩ (fun i s hi hP => ?_) (fun s hP => ?_)
  all_goals
    obtain ⟨X, v, c⟩ := s
    obtain ⟨h1, h2, Mi, h3, h4, h5⟩ := hP
    rcases h5 with ⟨f, j, h6, h7, h8⟩ | ⟨p2, N2, T2, NM2, cl2, br2, co2, h6, h7, h8, h9, h10⟩
  · right
    have h6' : v = 0 := h6
    subst h6'
    have eO : (fun s : Hp => fX11_read_S124 SHM 0 s) Mi = some (.inr Mi) := by
      show fX11_read_S124 SHM 0 Mi = _
      unfold fX11_read_S124
      rw [if_neg h8.pos.2.1]
    refine ⟨(X, 0), ?_, Mi, iter_mono _ _ _ _ (h4 1 _ (iter_out eO)) (by unfold fuel; omega), h2, h3, Or.inl ⟨f, j, rfl, h7, h8⟩⟩
    show fX6_readTells_S4 SHX 1 X 0 c = _
    unfold fX6_readTells_S4
    rw [if_pos (show (0 : Int32) = 0 from rfl), ite_self]
  · have h7' : v = 1 := h7
    have h1' : c = nI i := h1
    subst h7' h1'
    have h8' : BXs t D p2 N2 T2 NM2 X := h8
    have hp2 := h8'.1.2.2.1.2.1
    have eI : fX11_read_S124 SHM 0 Mi = if D.1 p2 = 0 then some (.inr Mi) else (fX11_tellOne SHM Mi 0).bind fun G5 => some (.inl G5) := by
      unfold fX11_read_S124
      rw [h9.1.2.2.2.2.1, if_pos rfl, mIs (k := 0) (w := 0) hD h9.1 rfl (by decide)]
      simp only [ob]
      by_cases e : D.1 p2 = 0
      · rw [if_pos e, if_neg (by rw [b2_0, decide_eq_false_iff_not]; exact fun z => z e)]
      · rw [if_neg e, if_pos (by rw [b2_0, decide_eq_false_iff_not]; exact e)]
    by_cases e : D.1 p2 = 0
    · right
      rw [if_pos e] at eI
      have eO : (fun s : Hp => fX11_read_S124 SHM 0 s) Mi = some (.inr Mi) := eI
      refine ⟨(X, 1), ?_, Mi, iter_mono _ _ _ _ (h4 1 _ (iter_out eO)) (by unfold fuel; omega), h2, h3, Or.inr ⟨p2, N2, T2, NM2, cl2, br2, co2, rfl, h8', h9, h10⟩⟩
      show fX6_readTells_S4 SHX 1 X 1 (nI i) = _
      unfold fX6_readTells_S4
      rw [if_neg (show ¬ (400 : Int32) < nI i from nI_nlt (a := 400) (by omega) (by omega)), if_neg one_ne, h8'.1.2.2.2.2.1, e, if_pos (show ck 0 = 0 from rfl)]
    · left
      rw [if_neg e] at eI
      obtain ⟨ox, g1, g2⟩ := jTell (i := i) hD h8' h9 h10 e (by omega)
      show ∃ s2, fX6_readTells_S4 SHX 1 X 1 (nI i) = some (.inl s2) ∧ _
      rw [g1]
      rcases g2 with ⟨X2, f, j, M2, o1, o2, o3, o4, o5, o6⟩ | ⟨X2, M2, p3, N3, T3, NM3, cl3, br3, co3, o1, o2, o3, o4, o5, o6, o7, o8⟩
      · rw [o1]
        rw [o4] at eI
        have eO : (fun s : Hp => fX11_read_S124 SHM 0 s) Mi = some (.inl M2) := eI
        simp only [obp]
        refine ⟨_, rfl, nI_1 i, h2.tr o3, M2, h3.tr o6, fun fu r z => ?_, Or.inl ⟨f, j, rfl, o2, o5⟩⟩
        have := h4 (fu + 1) r ((iter_in eO).trans z)
        rw [show fu + (i + 1) = fu + 1 + i from by omega]; exact this
      · rw [o1]
        rw [o2] at eI
        have eO : (fun s : Hp => fX11_read_S124 SHM 0 s) Mi = some (.inl M2) := eI
        simp only [obp]
        refine ⟨_, rfl, nI_1 i, h2.tr o5, M2, h3.tr o7, fun fu r z => ?_, Or.inr ⟨p3, N3, T3, NM3, cl3, br3, co3, by omega, rfl, o4, o6, o8⟩⟩
        have := h4 (fu + 1) r ((iter_in eO).trans z)
        rw [show fu + (i + 1) = fu + 1 + i from by omega]; exact this
  · have h6' : v = 0 := h6
    subst h6'
    have eO : (fun s : Hp => fX11_read_S124 SHM 0 s) Mi = some (.inr Mi) := by
      show fX11_read_S124 SHM 0 Mi = _
      unfold fX11_read_S124
      rw [if_neg h8.pos.2.1]
    refine ⟨(X, 0), ?_, Mi, iter_mono _ _ _ _ (h4 1 _ (iter_out eO)) (by unfold fuel; omega), h2, h3, Or.inl ⟨f, j, rfl, h7, h8⟩⟩
    show fX6_readTells_S4 SHX 1 X 0 c = _
    unfold fX6_readTells_S4
    rw [if_pos (show (0 : Int32) = 0 from rfl), ite_self]
  · have := h8.1.2.2.1.2.1
    omega
end ALT
