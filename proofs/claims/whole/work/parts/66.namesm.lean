/-! READING: names of the reference. -/
section NMM
variable {l p : Nat} {D : TKd} {N : Nat × Nat} {G : Hp} {NM : List (List Nat × Bool)}
theorem mem_w {L : List (List Nat × Bool)} {w : List Nat} : w ∈ L.map (·.1) ↔ ∃ j, j < L.length ∧ (L.getD j ([], false)).1 = w := by
  rw [List.mem_map]
  constructor
  · rintro ⟨x, hx, rfl⟩
    obtain ⟨j, j1, j2⟩ := List.getElem_of_mem hx
    exact ⟨j, j1, by rw [List.getD_eq_getElem?_getD, List.getElem?_eq_getElem j1, Option.getD_some, j2]⟩
  · rintro ⟨j, j1, rfl⟩
    exact ⟨_, getDm_mem j1, rfl⟩
theorem MNm.E {G2 : Hp} (h : MNm NM G) (e : Er0 G G2) : MNm NM G2 := by
  obtain ⟨h1, h2, h3, h4⟩ := h
  refine ⟨(e.2 0 20 (by omega)).trans h1, h2, h3, fun j hj => ?_⟩
  rw [e.1, e.2 9 j (by omega)]; exact h4 j hj
theorem mNamed_y (hD : TKo D) (h : MPs l D p N G) (hN : okN p N) (hM : MNm NM G) (hk : D.1 p = 1) (hp : p < 400) : ∃ G2, fX11_named SHM G 0 = some (nI p, G2) ∧ Er0 G G2 ∧ MPs l D (p + 1) (ntp (decide (D.2.2.2.1 p ∈ NM.map (·.1))) 3 p N) G2 := by
  have hw := hD.2.2.2.2.2.2.2 p hk
  have h3 := h.2.2.1
  have e6 : G.2.1 6 p = wcode (lN 27) (D.2.2.2.1 p) := (h.2.1 p h3.1 h3.2.1).2.2.2 hk
  unfold fX11_named
  simp only [obd]
  rw [h.2.2.2.1]
  obtain ⟨G3, a1, a2, a3⟩ := mMust_y (k := 1) (w := 1) hD h rfl hk (by decide) hp
  rw [a1]
  simp only [ob]
  have h23 := hM.2.1
  obtain ⟨o, k1, k2, k3⟩ := iter_go (f := fun s : Hp × Int32 => fX11_named_S12 SHM 0 (nI p) s.1 s.2) (P := fun i s => s.2 = nI i ∧ Er0 G s.1 ∧ ∃ b : Bool, (b = true ↔ ∃ j, j < i ∧ (NM.getD j ([], false)).1 = D.2.2.2.1 p) ∧ MPs l D (p + 1) (ntp b 3 p N) s.1) (Q := fun o => Er0 G o ∧ MPs l D (p + 1) (ntp (decide (D.2.2.2.1 p ∈ NM.map (·.1))) 3 p N) o) NM.length (G3, 0) (by omega) ⟨rfl, a2, false, ⟨fun z => (by cases z), fun ⟨j, j1, _⟩ => (by omega)⟩, by rw [ntp_n]; exact a3⟩ (by
    rintro i ⟨G1, x⟩ hi ⟨rfl, hE, b, hb, hX⟩
    left
    dsimp only at hE hX ⊢
    have hM1 := hM.E hE
    unfold fX11_named_S12
    rw [hM1.1, if_neg (nI_ge hi (by omega)), hX.2.2.2.2.1, if_pos rfl, ml_21 hX.1]
    simp only [ob]
    rw [aJ_n (by rw [mn_8]; omega) (by omega), ml_8 hX.1, (hM1.2.2.2 i hi).1]
    simp only [ob]
    rw [aJ_n (by rw [mn_6]; omega) (by omega), hE.1, e6]
    simp only [ob]
    by_cases e : (NM.getD i ([], false)).1 = D.2.2.2.1 p
    · rw [if_pos ((lg_cmp_eq _ _).mpr (by rw [e]))]
      obtain ⟨G7, n1, n2, n3⟩ := mWrong (f := 3) (i := p) hD (by decide) ⟨h3.1, h3.2.1⟩ hX (fun z => by
        unfold ntp at z ⊢
        split at z
        · rename_i q
          rw [if_pos q]
          exact Or.inr ⟨rfl, Nat.le_refl _⟩
        · rename_i q
          rw [if_neg q]
          exact Or.inl (hN.2 z))
      rw [show (3 : Int32) = nI 3 from rfl, n1]
      simp only [ob, obd]
      rw [ntp2 (by decide)] at n3
      exact ⟨_, rfl, nI_1 i, hE.tr n2, true, ⟨fun _ => ⟨i, by omega, e⟩, fun _ => rfl⟩, n3⟩
    · rw [if_neg (fun q => e ((wcode_inj (by decide) (by decide) (hM.2.2.1 _ (getDm_mem hi)) hw).mp ((lg_cmp_eq _ _).mp q)))]
      simp only [obd]
      refine ⟨_, rfl, nI_1 i, hE, b, ?_, hX⟩
      rw [hb]
      constructor
      · rintro ⟨j, j1, j2⟩; exact ⟨j, by omega, j2⟩
      · rintro ⟨j, j1, j2⟩
        by_cases ej : j = i
        · rw [ej] at j2; exact absurd j2 e
        · exact ⟨j, by omega, j2⟩) (by
    rintro ⟨G1, x⟩ ⟨rfl, hE, b, hb, hX⟩
    dsimp only at hE hX ⊢
    have hM1 := hM.E hE
    unfold fX11_named_S12
    rw [hM1.1, if_pos (nI_le (Nat.le_refl _) (by omega))]
    refine ⟨_, rfl, hE, ?_⟩
    have : b = decide (D.2.2.2.1 p ∈ NM.map (·.1)) := by
      rw [Bool.eq_iff_iff, hb, decide_eq_true_iff, mem_w]
    rw [← this]
    exact hX)
  rw [k1]
  simp only [ob]
  exact ⟨o, rfl, k2, k3⟩
theorem mNamed_n (hD : TKo D) (h : MPs l D p N G) (hM : MNm NM G) (hn : ¬ (D.1 p = 1 ∧ p < 400)) : ∃ G2, fX11_named SHM G 0 = some (nI p, G2) ∧ Er0 G G2 ∧ MF l D (if D.1 p = 1 then 2 else 1) p G2 := by
  unfold fX11_named
  simp only [obd]
  rw [h.2.2.2.1]
  obtain ⟨G3, a1, a2, a3⟩ := mMust_n (k := 1) (w := 1) hD h rfl (by decide) hn
  rw [a1]
  simp only [ob]
  obtain ⟨f, hf⟩ := fuel_is 1 (by decide)
  have hb : (fun s : Hp × Int32 => fX11_named_S12 SHM 0 (nI p) s.1 s.2) (G3, 0) = some (.inr G3) := by
    dsimp only
    unfold fX11_named_S12
    rw [if_neg a3.pos.2.1]
    split <;> rfl
  rw [hf, iter_out hb]
  exact ⟨G3, rfl, a2, a3⟩
/-- a trait's bit -/
def trB (o : Option Nat) : Int32 := match o with
  | none => 0
  | some i => (1 : Int32) <<< (nI i &&& 31)
theorem mKnown_y (hD : TKo D) (h : MPs l D p N G) (hN : okN p N) (hM : MNm NM G) (hk : D.1 p = 1) (hp : p < 400) : ∃ G2, fX11_knownTrait SHM G 0 = some (trB (fi (trs NM) (D.2.2.2.1 p)), G2) ∧ Er0 G G2 ∧ MPs l D (p + 1) (ntp (fi (trs NM) (D.2.2.2.1 p)).isNone 4 p N) G2 := by
  have hw := hD.2.2.2.2.2.2.2 p hk
  have h3 := h.2.2.1
  have e6 : G.2.1 6 p = wcode (lN 27) (D.2.2.2.1 p) := (h.2.1 p h3.1 h3.2.1).2.2.2 hk
  unfold fX11_knownTrait
  simp only [obd]
  rw [h.2.2.2.1]
  obtain ⟨G3, a1, a2, a3⟩ := mMust_y (k := 1) (w := 1) hD h rfl hk (by decide) hp
  rw [a1]
  simp only [ob]
  rw [a3.2.2.2.2.1, if_pos (by decide)]
  have hM1 := hM.E a2
  have h23 := hM.2.1
  obtain ⟨o, k1, k2⟩ := iter_go (f := fun s : Int32 => fX11_knownTrait_S21 SHM 0 (nI p) G3 s) (P := fun i s => s = nI i ∧ ∀ j, j < i → ¬ ((NM.getD j ([], false)).1 = D.2.2.2.1 p ∧ (NM.getD j ([], false)).2 = true)) (Q := fun o => Sum.elim (fun _ => ∀ j, j < NM.length → ¬ ((NM.getD j ([], false)).1 = D.2.2.2.1 p ∧ (NM.getD j ([], false)).2 = true)) (fun z => ∃ i, i < NM.length ∧ z = nI i ∧ (NM.getD i ([], false)).1 = D.2.2.2.1 p ∧ (NM.getD i ([], false)).2 = true ∧ ∀ j, j < i → ¬ ((NM.getD j ([], false)).1 = D.2.2.2.1 p ∧ (NM.getD j ([], false)).2 = true)) o) NM.length (0 : Int32) (by omega) ⟨rfl, fun j hj => by omega⟩ (by
    rintro i s hi ⟨rfl, hj⟩
    have hnx : ¬ ((NM.getD i ([], false)).1 = D.2.2.2.1 p ∧ (NM.getD i ([], false)).2 = true) → ∀ j, j < i + 1 → ¬ ((NM.getD j ([], false)).1 = D.2.2.2.1 p ∧ (NM.getD j ([], false)).2 = true) := fun q j hj2 => by
      by_cases ej : j = i
      · rw [ej]; exact q
      · exact hj j (by omega)
    unfold fX11_knownTrait_S21
    rw [hM1.1, if_neg (nI_ge hi (by omega)), ml_21 a3.1]
    simp only [ob]
    rw [aJ_n (by rw [mn_8]; omega) (by omega), ml_8 a3.1, (hM1.2.2.2 i hi).1]
    simp only [ob]
    rw [aJ_n (by rw [mn_6]; omega) (by omega), a2.1, e6]
    simp only [ob]
    by_cases e : (NM.getD i ([], false)).1 = D.2.2.2.1 p
    · rw [if_pos ((lg_cmp_eq _ _).mpr (by rw [e])), ml_22 a3.1]
      simp only [ob]
      rw [aI_n (by rw [mn_9]; omega) (by omega), (hM1.2.2.2 i hi).2]
      simp only [ob]
      cases hb : (NM.getD i ([], false)).2 with
      | true =>
        have htl := trs_le (NM.take i)
        rw [List.length_take] at htl
        rw [if_pos rfl, if_neg (nI_pos (by omega))]
        exact Or.inr ⟨_, rfl, i, hi, rfl, e, hb, hj⟩
      | false =>
        rw [if_pos (show (if false = true then nI (trs (List.take i NM)).length else (-1 : Int32)) < 0 by rw [if_neg (by decide)]; decide)]
        simp only [obd]
        exact Or.inl ⟨_, rfl, nI_1 i, hnx (fun q => by rw [hb] at q; cases q.2)⟩
    · rw [if_neg (fun q => e ((wcode_inj (by decide) (by decide) (hM.2.2.1 _ (getDm_mem hi)) hw).mp ((lg_cmp_eq _ _).mp q)))]
      simp only [obd]
      exact Or.inl ⟨_, rfl, nI_1 i, hnx (fun q => e q.1)⟩) (by
    rintro s ⟨rfl, hj⟩
    unfold fX11_knownTrait_S21
    rw [hM1.1, if_pos (nI_le (Nat.le_refl _) (by omega))]
    exact ⟨_, rfl, hj⟩)
  rw [k1]
  simp only [ob]
  cases o with
  | inl z =>
    have k2' : ∀ j, j < NM.length → ¬ ((NM.getD j ([], false)).1 = D.2.2.2.1 p ∧ (NM.getD j ([], false)).2 = true) := k2
    rw [fi_trs0 k2']
    simp only [Sum.elim_inl]
    obtain ⟨G7, n1, n2, n3⟩ := mWrong (f := 4) (i := p) hD (by decide) ⟨h3.1, h3.2.1⟩ a3 (fun z => Or.inl (hN.2 z))
    rw [show (4 : Int32) = nI 4 from rfl, n1]
    exact ⟨G7, rfl, a2.tr n2, n3⟩
  | inr z =>
    obtain ⟨i, i1, rfl, i2, i3, i4⟩ : ∃ i, i < NM.length ∧ z = nI i ∧ (NM.getD i ([], false)).1 = D.2.2.2.1 p ∧ (NM.getD i ([], false)).2 = true ∧ ∀ j, j < i → ¬ ((NM.getD j ([], false)).1 = D.2.2.2.1 p ∧ (NM.getD j ([], false)).2 = true) := k2
    rw [fi_trs i1 i2 i3 i4]
    simp only [Sum.elim_inr, obd]
    rw [ml_22 a3.1]
    simp only [ob]
    rw [aI_n (by rw [mn_9]; omega) (by omega), (hM1.2.2.2 i i1).2, i3, if_pos rfl]
    show ∃ G2, _ ∧ _ ∧ MPs l D (p + 1) (ntp false 4 p N) G2
    rw [ntp_n]
    exact ⟨G3, rfl, a2, a3⟩
theorem mKnown_f {f i : Nat} (h : MF l D f i G) : fX11_knownTrait SHM G 0 = some (0, G) := by
  unfold fX11_knownTrait
  simp only [obd]
  rw [mMust_f h]
  simp only [ob]
  rw [if_neg h.pos.1]
theorem mKnown_n (hD : TKo D) (h : MPs l D p N G) (hn : ¬ (D.1 p = 1 ∧ p < 400)) : ∃ G2, fX11_knownTrait SHM G 0 = some (0, G2) ∧ Er0 G G2 ∧ MF l D (if D.1 p = 1 then 2 else 1) p G2 := by
  unfold fX11_knownTrait
  simp only [obd]
  obtain ⟨G3, a1, a2, a3⟩ := mMust_n (k := 1) (w := 1) hD h rfl (by decide) hn
  rw [a1]
  simp only [ob]
  rw [if_neg a3.pos.1]
  exact ⟨G3, rfl, a2, a3⟩
/-- what an added name changes in the reference -/
def Er9 (G G2 : Hp) : Prop := G2.2.2 = G.2.2 ∧ (∀ q, q ≠ 8 → G2.2.1 q = G.2.1 q) ∧ ∀ q k, q ≠ 9 → ¬ (q = 0 ∧ ((11 ≤ k ∧ k ≤ 16 ∧ k ≠ 12) ∨ k = 20)) → G2.1 q k = G.1 q k
theorem Er0.r9 {G2 : Hp} (h : Er0 G G2) : Er9 G G2 := ⟨by rw [h.1], fun q _ => by rw [h.1], fun q k _ b => h.2 q k (by omega)⟩
theorem mEnds_y {i : Nat} {b : Bool} {at' : Int32} (hD : TKo D) (h : MPs l D p N G) (hM : MNm NM G) (hl : NM.length < 23) (hi : i < p) (hki : D.1 i = 1) (hat : at' = if b then nI (trs NM).length else -1) (hk : D.1 p = 4) (hp : p < 400) : ∃ G2, fX11_ends SHM G 0 (nI i) at' = some G2 ∧ Er9 G G2 ∧ MPs l D (p + 1) N G2 ∧ MNm (NM ++ [(D.2.2.2.1 i, b)]) G2 := by
  have hw := hD.2.2.2.2.2.2.2 i hki
  have h3 := h.2.2.1
  unfold fX11_ends
  obtain ⟨G2, a1, a2, a3⟩ := mMust_y (k := 4) (w := 4) hD h rfl hk (by decide) hp
  rw [a1]
  simp only [ob]
  have hM1 := hM.E a2
  rw [a3.2.2.2.2.1, if_pos (by decide), ml_21 a3.1, ml_8 a3.1]
  simp only [ob]
  rw [aJ_n (by rw [mn_6]; omega) (by omega), (a3.2.1 i (by omega) (by omega)).2.2.2 hki, hM1.1]
  simp only [ob]
  rw [asJ_n (by rw [mn_8]; omega) (by omega)]
  simp only [ob]
  have hL7 : LM (sJ G2 8 NM.length (wcode (lN 27) (D.2.2.2.1 i))) := a3.1
  rw [ml_22 hL7]
  simp only [ob]
  rw [show (sJ G2 8 NM.length (wcode (lN 27) (D.2.2.2.1 i))).1 0 20 = nI NM.length from hM1.1, asI_n (by rw [mn_9]; omega) (by omega)]
  simp only [ob, obd]
  have e20 : (sI (sJ G2 8 NM.length (wcode (lN 27) (D.2.2.2.1 i))) 9 NM.length at').1 0 20 = nI NM.length := by rw [sI_ne (Or.inl (by decide))]; exact hM1.1
  rw [e20, nI_1]
  have f : Er9 G2 (sI (sI (sJ G2 8 NM.length (wcode (lN 27) (D.2.2.2.1 i))) 9 NM.length at') 0 20 (nI (NM.length + 1))) := ⟨rfl, fun q hq => sJ_row hq, fun q k h9 h0 => by
    rw [sI_ne (by omega), sI_ne (Or.inl h9)]; rfl⟩
  refine ⟨_, rfl, ⟨f.1.trans a2.r9.1, fun q hq => (f.2.1 q hq).trans (a2.r9.2.1 q hq), fun q k x y => (f.2.2 q k x y).trans (a2.r9.2.2 q k x y)⟩, a3.E f.1 (f.2.1 6 (by decide)) (fun q k hq => f.2.2 q k (by omega) (by omega)) (fun k hk => by rw [sI_ne (by omega), sI_ne (Or.inl (by decide))]; rfl), ?_, ?_, fun x hx => ?_, fun j hj => ?_⟩
  · rw [sI_same, List.length_append]; rfl
  · rw [List.length_append]; show NM.length + 1 ≤ 23; omega
  · rcases List.mem_append.mp hx with q | q
    · exact hM.2.2.1 x q
    · rw [List.mem_singleton.mp q]; exact hw
  · rw [List.length_append] at hj
    have hj2 : j < NM.length + 1 := hj
    by_cases ej : j = NM.length
    · rw [ej, getDm_snoc, List.take_append_of_le_length (Nat.le_refl _), List.take_length]
      refine ⟨sJ_same, ?_⟩
      rw [sI_ne (Or.inl (by decide)), sI_same]; exact hat
    · rw [getDm_pre (by omega), List.take_append_of_le_length (by omega)]
      refine ⟨(sJ_ne (Or.inr ej)).trans (hM1.2.2.2 j (by omega)).1, ?_⟩
      rw [sI_ne (Or.inl (by decide)), sI_ne (Or.inr ej)]
      exact (hM1.2.2.2 j (by omega)).2
theorem mEnds_n {i at' : Int32} (hD : TKo D) (h : MPs l D p N G) (hn : ¬ (D.1 p = 4 ∧ p < 400)) : ∃ G2, fX11_ends SHM G 0 i at' = some G2 ∧ Er0 G G2 ∧ MF l D (if D.1 p = 4 then 2 else 1) p G2 := by
  unfold fX11_ends
  obtain ⟨G3, a1, a2, a3⟩ := mMust_n (k := 4) (w := 4) hD h rfl (by decide) hn
  rw [a1]
  simp only [ob]
  rw [if_neg a3.pos.1]
  exact ⟨G3, rfl, a2, a3⟩
theorem mEnds_f {f i : Nat} {x at' : Int32} (h : MF l D f i G) : fX11_ends SHM G 0 x at' = some G := by
  unfold fX11_ends
  rw [mMust_f h]
  simp only [ob]
  rw [if_neg h.pos.1]
end NMM
