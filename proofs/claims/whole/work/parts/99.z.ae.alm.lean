/-! ALL: the reference's search. -/
def MQr (r q : Nat → Int32) (G : Hp) : Prop := (∀ j, j < 12 → G.1 40 j = r j) ∧ G.1 40 25 = r 25 ∧ ∀ j, j < 9 → nI j < q 21 → G.1 40 (12 + j) = q (12 + j)
theorem MQr.E {r q : Nat → Int32} {G G2 : Hp} (h : MQr r q G) (e : ∀ k, k < 26 → k ≠ 21 → G2.1 40 k = G.1 40 k) : MQr r q G2 := ⟨fun j hj => (e _ (by omega) (by omega)).trans (h.1 j hj), (e _ (by decide) (by decide)).trans h.2.1, fun j hj hl => (e _ (by omega) (by omega)).trans (h.2.2 j hj hl)⟩
theorem MQr.W {T : Txt} {r q : Nat → Int32} {G : Hp} (h : MQr r q G) (h21 : G.1 40 21 = q 21) (hr : WFG T r) (hq : WFG T q) (hW : WFT T) : WFG T (G.1 40) := by
  have hw := hW.1
  obtain ⟨r1, r2, -, m, m1, m2⟩ := hr
  obtain ⟨-, -, ⟨c, c1, c2', c3⟩, -⟩ := hq
  refine ⟨fun b hb => ?_, fun b hb => ?_, ⟨c, c1, h21.trans c2', fun k hk => ?_⟩, m, m1, h.2.1.trans m2⟩
  · rw [h.1 b (by omega), h.1 (4 + b) (by omega)]; exact r1 b hb
  · rw [h.1 (4 + b) (by omega)]; exact r2 b hb
  · rw [h.2.2 k (by omega) (by rw [c2']; exact nI_lt hk (by omega))]; exact c3 k hk
theorem MQr.l {r q : Nat → Int32} {G : Hp} {s : Int32} (h : MQr r q G) (h21 : G.1 40 21 = q 21) : lrn (G.1 40) s = lrn q s := lrn_ext h21 (fun k hk hl => h.2.2 k hk hl)
theorem MQr.t {T : Txt} {r q : Nat → Int32} {G : Hp} {b s : Nat} (h : MQr r q G) (h21 : G.1 40 21 = q 21) : tkn T (G.1 40) b s = tkn T q b s := by unfold tkn; rw [h.l h21]
def BM (n : Nat) (o : OB) (G : Hp) : Prop := match o with
  | none => G.1 0 73 = -1
  | some p => p.1 < 1000000 ∧ G.1 0 73 = nI p.1 ∧ p.2.length = n ∧ ∀ j, j < n → G.1 48 j = nI (p.2.getD j 0)
theorem BM_fr {n : Nat} {o : OB} {G G2 : Hp} (h : BM n o G) (e0 : G2.1 0 73 = G.1 0 73) (e : ∀ k, G2.1 48 k = G.1 48 k) : BM n o G2 := by
  cases o with
  | none => exact e0.trans h
  | some p => exact ⟨h.1, e0.trans h.2.1, h.2.2.1, fun j hj => (e j).trans (h.2.2.2 j hj)⟩
theorem pk35 : ∀ p, p < 35 → nI p / 5 = nI (p / 5) ∧ (nI p - nI p / 5 * 5) - 1 = wv (p % 5) := by decide +kernel
/-- the picks so far -/
def PSm (T : Txt) (k : Nat) (ps : List Nat) (G : Hp) : Prop := ps.length = k ∧ ∀ j, j < k → ps.getD j 0 < 35 ∧ ps.getD j 0 / 5 < T.1 1 ∧ ps.getD j 0 % 5 ≤ T.1 2 ∧ G.1 46 j = nI (ps.getD j 0)
theorem sum_take {f : Nat → Nat} {ps : List Nat} {j : Nat} (h : j < ps.length) : ((ps.take (j + 1)).map f).sum = ((ps.take j).map f).sum + f (ps.getD j 0) := by
  rw [List.take_add_one, List.map_append, List.sum_append, List.getElem?_eq_getElem h, List.getD_eq_getElem?_getD, List.getElem?_eq_getElem h]
  rfl
theorem mPick {l p : Nat} {T : Txt} {G : Hp} (hM : ML0 l T G) (hp : p < 35) (ha : p / 5 < T.1 1) (hi : p % 5 ≤ T.1 2) : fX11_pickCost SHM G 0 (nI p) = some (nI (vP T p)) := by
  have hw := hM.2.2.2.2.1
  unfold fX11_pickCost
  rw [ml_25 hM.1]
  simp only [ob]
  rw [(pk35 p hp).2, (pk35 p hp).1, aI_7 hM mn_12 (by omega), (hM.2.2.2.1.2.1 _ ha).1, mCost hM hi]
  simp only [ob]
  rw [nI_add]
  rfl
theorem sum_le {T : Txt} {ps : List Nat} (hW : WFT T) (h : ∀ j, j < ps.length → ps.getD j 0 / 5 < T.1 1 ∧ ps.getD j 0 % 5 ≤ T.1 2) : ∀ i, i ≤ ps.length → ((ps.take i).map (vP T)).sum ≤ 198 * i
  | 0, _ => by simp
  | i + 1, hi => by
    rw [sum_take (by omega)]
    have h1 := sum_le hW h i (by omega)
    have h2 := vP_198 hW (h i (by omega)).1 (h i (by omega)).2
    omega
theorem mSum {l k : Nat} {T : Txt} {ps : List Nat} {G : Hp} (hM : ML0 l T G) (hk : k ≤ 4) (hP : PSm T k ps G) : fX11_sumOf SHM G 0 (nI k) = some (nI (ps.map (vP T)).sum) := by
  unfold fX11_sumOf
  obtain ⟨o, h1, h2⟩ := iter_go (f := fun s : Int32 × Int32 => fX11_sumOf_S4 SHM 0 (nI k) G s.1 s.2) (P := fun i s => s = (nI ((ps.take i).map (vP T)).sum, nI i)) (Q := fun o => o = nI (ps.map (vP T)).sum) k ((0, 0) : Int32 × Int32) (by omega) rfl (by
    rintro i s hi rfl
    left
    dsimp only
    obtain ⟨a1, a2, a3, a4⟩ := hP.2 i hi
    unfold fX11_sumOf_S4
    rw [if_neg (nI_ge hi (by omega)), ml_70 hM.1]
    simp only [ob]
    rw [aI_n (by rw [mn_46]; omega) (by omega), a4]
    simp only [ob]
    rw [mPick hM a1 a2 a3]
    simp only [ob, obd]
    refine ⟨_, rfl, ?_⟩
    rw [sum_take (by rw [hP.1]; exact hi), nI_1, nI_add]) (by
    rintro s rfl
    dsimp only
    unfold fX11_sumOf_S4
    rw [if_pos (nI_le (Nat.le_refl _) (by omega))]
    refine ⟨_, rfl, ?_⟩
    rw [← hP.1, List.take_length])
  rw [h1, h2]
  rfl
theorem mUsed {l k a : Nat} {T : Txt} {ps : List Nat} {G : Hp} (hM : ML0 l T G) (hk : k ≤ 4) (hP : PSm T k ps G) (ha : a < 7) : ∃ v : Bool, fX11_isUsed SHM G 0 (nI a) (nI k) = some (b2 v) ∧ (v = false ↔ ∀ j, j < k → ps.getD j 0 / 5 ≠ a) := by
  unfold fX11_isUsed
  obtain ⟨o, h1, h2⟩ := iter_go (f := fun s : Int32 => fX11_isUsed_S2 SHM 0 (nI a) (nI k) G s) (P := fun i s => s = nI i ∧ ∀ j, j < i → ps.getD j 0 / 5 ≠ a) (Q := fun o => Sum.elim (fun _ => ∀ j, j < k → ps.getD j 0 / 5 ≠ a) (fun _ => ∃ j, j < k ∧ ps.getD j 0 / 5 = a) o) k (0 : Int32) (by omega) ⟨rfl, fun j hj => by omega⟩ (by
    rintro i s hi ⟨rfl, hj⟩
    obtain ⟨a1, a2, a3, a4⟩ := hP.2 i hi
    unfold fX11_isUsed_S2
    rw [if_neg (nI_ge hi (by omega)), ml_70 hM.1]
    simp only [ob]
    rw [aI_n (by rw [mn_46]; omega) (by omega), a4]
    simp only [ob]
    rw [(pk35 _ a1).1]
    by_cases e : ps.getD i 0 / 5 = a
    · rw [if_pos (by rw [e])]; exact Or.inr ⟨_, rfl, i, hi, e⟩
    · rw [if_neg (fun z => e ((nI_eq (by omega) (by omega)).mp z))]
      left
      simp only [obd]
      exact ⟨_, rfl, nI_1 i, fun j hj2 => by
        by_cases ej : j = i
        · rw [ej]; exact e
        · exact hj j (by omega)⟩) (by
    rintro s ⟨rfl, hj⟩
    unfold fX11_isUsed_S2
    rw [if_pos (nI_le (Nat.le_refl _) (by omega))]
    exact ⟨_, rfl, hj⟩)
  rw [h1]
  cases o with
  | inl z => exact ⟨false, rfl, ⟨fun _ => h2, fun _ => rfl⟩⟩
  | inr z =>
    obtain ⟨j, j1, j2⟩ : ∃ j, j < k ∧ ps.getD j 0 / 5 = a := h2
    exact ⟨true, rfl, ⟨fun q => (by cases q), fun q => absurd j2 (q j j1)⟩⟩
def cpk (T : Txt) (q : Nat → Int32) (b lost : Nat) (o : OB) (p : Nat) : Bool := vld T q b p && decide (lost + vP T p < cst o)
theorem cpk_skip {T : Txt} {q : Nat → Int32} {b lost p : Nat} {bs ps : List Nat} {o : OB} (h : cpk T q b lost o p = false) : fP T b bs q lost ps p o = o := by
  unfold fP
  cases hv : vld T q b p with
  | false => rfl
  | true =>
    unfold cpk at h
    rw [hv, Bool.true_and, decide_eq_false_iff_not] at h
    rw [if_pos rfl]
    exact srch_hi _ _ _ _ _ (by omega)
theorem cpk_y {T : Txt} {q : Nat → Int32} {b lost p : Nat} {o : OB} (h : cpk T q b lost o p = true) : vld T q b p = true ∧ lost + vP T p < cst o := by
  unfold cpk at h
  rw [Bool.and_eq_true, decide_eq_true_iff] at h
  exact h
theorem cpk_n {T : Txt} {q : Nat → Int32} {b lost p : Nat} {o : OB} (h : vld T q b p = false) : cpk T q b lost o p = false := by
  unfold cpk; rw [h]; rfl
theorem mCan {l n k b lost p : Nat} {T : Txt} {r q : Nat → Int32} {ps : List Nat} {o : OB} {G : Hp} (hM : ML0 l T G) (hr : WFG T r) (hq : WFG T q) (hQ : MQr r q G) (h21 : G.1 40 21 = q 21) (hk : k < 4) (h45 : G.1 45 k = nI b) (hb : b < T.1 3) (hP : PSm T k ps G) (hus : ∀ a, a < 7 → (bt (q 25) a = true ↔ bt (r 25) a = true ∧ ∀ j, j < k → ps.getD j 0 / 5 ≠ a)) (hlo : (ps.map (vP T)).sum = lost) (hB : BM n o G) (hp : p < 35) : ∃ G2, fX11_canPick SHM G 0 (nI k) (nI p) = some (b2 (cpk T q b lost o p), G2) ∧ E41 G G2 := by
  have hW := hM.2.2.2.2
  have hw := hW.1
  have hls : lost ≤ 792 := by
    have := sum_le (ps := ps) hW (fun j hj => by have := hP.2 j (by rw [← hP.1]; exact hj); exact ⟨this.2.1, this.2.2.1⟩) k (by rw [hP.1]; exact Nat.le_refl _)
    rw [← hP.1, List.take_length, hlo, hP.1] at this
    omega
  unfold fX11_canPick
  simp only [obd]
  rw [(pk35 p hp).2, (pk35 p hp).1, ml_24 hM.1, ml_27 hM.1]
  simp only [ob]
  rw [aI_l (n := 0) hM mn_11, hM.2.2.2.1.1.2.1, aI_l (n := 0) hM mn_14, hM.2.2.2.1.1.2.2.1]
  simp only [ob]
  by_cases ha : p / 5 < T.1 1
  · rw [if_neg (nI_ge ha (by omega))]
    by_cases hi : p % 5 ≤ T.1 2
    · rw [if_neg (wv_ge hi (by omega))]
      have hRow : MR (G.1 40) G := fun _ _ => rfl
      have hRw := hQ.W h21 hr hq hW
      rw [mThereB hM.1 hRow (by omega), hQ.2.1]
      simp only [ob]
      cases hth : bt (r 25) (p / 5) with
      | false =>
        rw [if_pos (show b2 false = 0 from rfl), cpk_n (vld_n1 (fun h => by
          have := ((hus (p / 5) (by omega)).mp h.2.2.1).1
          rw [hth] at this; cases this))]
        exact ⟨G, rfl, E41.rf⟩
      | true =>
        rw [if_neg (show ¬ b2 true = 0 by decide)]
        obtain ⟨v, v1, v2⟩ := mUsed hM (by omega) hP (show p / 5 < 7 by omega)
        rw [v1]
        simp only [ob]
        cases hv : v with
        | true =>
          rw [if_neg (show ¬ b2 true = 0 by decide), cpk_n (vld_n1 (fun h => by
            have := v2.mpr ((hus (p / 5) (by omega)).mp h.2.2.1).2
            rw [hv] at this; cases this))]
          exact ⟨G, rfl, E41.rf⟩
        | false =>
          rw [if_pos (show b2 false = 0 from rfl)]
          have hbt : bt (q 25) (p / 5) = true := (hus (p / 5) (by omega)).mpr ⟨hth, v2.mp hv⟩
          obtain ⟨G5, t1, t2⟩ := mTakes (s := aSet T (p / 5) (p % 5)) hM hRow hRw hb
          rw [hQ.t h21] at t1
          have J : fX11_canPick_J84 SHM G 0 (nI k) (nI (p / 5)) (wv (p % 5)) = some (b2 (tkn T q b (aSet T (p / 5) (p % 5))), G5) := by
            unfold fX11_canPick_J84
            rw [ml_68 hM.1]
            simp only [ob]
            rw [aI_n (by rw [mn_45]; omega) (by omega), h45]
            simp only [ob]
            rw [mSet hM ha hi]
            simp only [ob]
            rw [t1]
            simp only [obp]
            rw [if_neg (fun z => z (by unfold b2; split; exact Or.inr rfl; exact Or.inl rfl))]
          have hvl : vld T q b p = tkn T q b (aSet T (p / 5) (p % 5)) := by
            unfold vld
            rw [decide_eq_true ha, decide_eq_true hi, hbt]
            rfl
          cases o with
          | none =>
            rw [if_pos (show G.1 0 73 < 0 by rw [show G.1 0 73 = -1 from hB]; decide), J]
            refine ⟨G5, ?_, t2⟩
            unfold cpk
            rw [hvl, decide_eq_true (show lost + vP T p < cst none by have := vP_198 hW ha hi; show _ < 1000000; omega), Bool.and_true]
          | some z =>
            have hz := hB.1
            rw [show G.1 0 73 = nI z.1 from hB.2.1, if_neg (nI_pos (by omega)), mSum hM (by omega) hP, mPick hM hp ha hi]
            simp only [ob]
            rw [hlo, nI_add]
            have hvp := vP_198 hW ha hi
            by_cases hlt : lost + vP T p < z.1
            · rw [if_pos (nI_lt hlt (by omega)), J]
              refine ⟨G5, ?_, t2⟩
              unfold cpk
              rw [hvl, decide_eq_true (show lost + vP T p < cst (some z) from hlt), Bool.and_true]
            · rw [if_neg (nI_nlt (by omega) (by omega))]
              refine ⟨G, ?_, E41.rf⟩
              unfold cpk
              rw [decide_eq_false (show ¬ lost + vP T p < cst (some z) from hlt), Bool.and_false]
              rfl
    · rw [if_pos (by
        obtain ⟨i, hi2⟩ : ∃ i, p % 5 = i + 1 := ⟨p % 5 - 1, by omega⟩
        rw [hi2, wv_s]; exact nI_le (by omega) (by omega)), cpk_n (vld_n1 (fun h => hi h.2.1))]
      exact ⟨G, rfl, E41.rf⟩
  · rw [if_pos (nI_le (by omega) (by omega)), cpk_n (vld_n1 (fun h => ha h.1))]
    exact ⟨G, rfl, E41.rf⟩
/-- what picksNext changes at level k -/
def EN (k : Nat) (G G2 : Hp) : Prop := G2.2 = G.2 ∧ ∀ q j, q ≠ 40 → q ≠ 41 → ¬ (q = 46 ∧ j = k) → G2.1 q j = G.1 q j
theorem EN.M {k : Nat} {G G2 : Hp} (h : EN k G G2) : EssM G G2 := ⟨h.1, fun q j hn => h.2 q j (fun e => hn (by unfold scrM; omega)) (fun e => hn (by unfold scrM; omega)) (fun e => hn (by unfold scrM; omega))⟩
theorem PSm_fr {T : Txt} {k : Nat} {ps : List Nat} {G G2 : Hp} (h : PSm T k ps G) (e : ∀ j, j < k → G2.1 46 j = G.1 46 j) : PSm T k ps G2 := ⟨h.1, fun j hj => ⟨(h.2 j hj).1, (h.2 j hj).2.1, (h.2 j hj).2.2.1, (e j hj).trans (h.2 j hj).2.2.2⟩⟩
theorem mNext {l n k b lost p : Nat} {T : Txt} {r q : Nat → Int32} {ps : List Nat} {o : OB} {G : Hp} (hM : ML0 l T G) (hr : WFG T r) (hq : WFG T q) (hQ : MQr r q G) (hk : k < 4) (h45 : G.1 45 k = nI b) (hb : b < T.1 3) (hP : PSm T k ps G) (hus : ∀ a, a < 7 → (bt (q 25) a = true ↔ bt (r 25) a = true ∧ ∀ j, j < k → ps.getD j 0 / 5 ≠ a)) (hlo : (ps.map (vP T)).sum = lost) (hB : BM n o G) (h47 : G.1 47 k = q 21) (h46 : G.1 46 k = wv p) (hp : p ≤ 35) :
    ∃ p2 G2, p ≤ p2 ∧ p2 ≤ 35 ∧ (∀ x, p ≤ x → x < p2 → cpk T q b lost o x = false) ∧ fX11_picksNext SHM G 0 (nI k) = some (if p2 = 35 then 0 else 1, G2) ∧ EN k G G2 ∧ G2.1 46 k = nI p2 ∧ (p2 = 35 → MQr r q G2) ∧ (p2 < 35 → cpk T q b lost o p2 = true ∧ MQr r (nq T q p2) G2 ∧ G2.1 40 21 = nq T q p2 21) := by
  have hW := hM.2.2.2.2
  have hw := hW.1
  obtain ⟨-, -, ⟨c, c1, c2', c3⟩, -⟩ := id hq
  unfold fX11_picksNext
  rw [ml_59 hM.1, ml_71 hM.1]
  simp only [ob]
  rw [aI_n (by rw [mn_47]; omega) (by omega), h47]
  simp only [ob]
  rw [show (21 : Int32) = nI 21 from rfl, ms40 (by decide)]
  simp only [ob]
  have hL4 : LM (sI G 40 21 (q 21)) := hM.1
  rw [ml_70 hL4]
  simp only [ob]
  rw [aI_n (by rw [mn_46]; omega) (by omega), sI_ne (Or.inl (by decide)), h46]
  simp only [ob]
  rw [wv_inc, wv_s, asI_n (by rw [mn_46]; omega) (by omega)]
  simp only [ob]
  have e7 : EN k G (sI (sI G 40 21 (q 21)) 46 k (nI p)) := ⟨rfl, fun q2 j u1 u2 u3 => by rw [sI_ne (by omega), sI_ne (Or.inl u1)]⟩
  have r7 : (sI (sI G 40 21 (q 21)) 46 k (nI p)).1 40 21 = q 21 := by rw [sI_ne (Or.inl (by decide)), sI_same]
  have s7 : ∀ j, j ≠ 21 → (sI (sI G 40 21 (q 21)) 46 k (nI p)).1 40 j = G.1 40 j := fun j hj => by rw [sI_ne (Or.inl (by decide)), sI_ne (Or.inr hj)]
  have k7 : (sI (sI G 40 21 (q 21)) 46 k (nI p)).1 46 k = nI p := sI_same
  generalize sI (sI G 40 21 (q 21)) 46 k (nI p) = G7 at e7 r7 s7 k7
  have hQ7 : MQr r q G7 := hQ.E (fun j _ hj => s7 j hj)
  have main : ∃ o2, iter (fun s : Hp => fX11_picksNext_S23 SHM 0 (nI k) s ) fuel (G7 : Hp) = some o2 ∧ ∃ p2, p ≤ p2 ∧ p2 ≤ 35 ∧ (∀ x, p ≤ x → x < p2 → cpk T q b lost o x = false) ∧ (o2.2 = G7.2 ∧ ∀ q2 j, q2 ≠ 41 → ¬ (q2 = 46 ∧ j = k) → o2.1 q2 j = G7.1 q2 j) ∧ o2.1 46 k = nI p2 ∧ (p2 < 35 → cpk T q b lost o p2 = true) := by
    refine iter_go (f := fun s : Hp => fX11_picksNext_S23 SHM 0 (nI k) s) (P := fun i s => (s.2 = G7.2 ∧ ∀ q2 j, q2 ≠ 41 → ¬ (q2 = 46 ∧ j = k) → s.1 q2 j = G7.1 q2 j) ∧ s.1 46 k = nI (p + i) ∧ ∀ x, p ≤ x → x < p + i → cpk T q b lost o x = false) (Q := fun o2 => ∃ p2, p ≤ p2 ∧ p2 ≤ 35 ∧ (∀ x, p ≤ x → x < p2 → cpk T q b lost o x = false) ∧ (o2.2 = G7.2 ∧ ∀ q2 j, q2 ≠ 41 → ¬ (q2 = 46 ∧ j = k) → o2.1 q2 j = G7.1 q2 j) ∧ o2.1 46 k = nI p2 ∧ (p2 < 35 → cpk T q b lost o p2 = true)) (35 - p) G7 (by omega) ⟨⟨rfl, fun _ _ _ _ => rfl⟩, k7, fun x x1 x2 => by omega⟩ ?_ ?_
    · rintro i G1 hi ⟨⟨f1, f2⟩, h46', hsk⟩
      have e1 : EN k G G1 := ⟨f1.trans e7.1, fun q2 j u1 u2 u3 => (f2 q2 j u2 u3).trans (e7.2 q2 j u1 u2 u3)⟩
      have hM1 := e1.M.M hM
      obtain ⟨G2, y1, y2⟩ := mCan (p := p + i) hM1 hr hq (hQ7.E (fun j _ _ => f2 40 j (by decide) (by omega))) ((f2 40 21 (by decide) (by omega)).trans r7) hk ((e1.2 45 k (by decide) (by decide) (by omega)).trans h45) hb (PSm_fr hP (fun j hj => e1.2 46 j (by decide) (by decide) (by omega))) hus hlo (BM_fr hB (e1.2 0 73 (by decide) (by decide) (by omega)) (fun j => e1.2 48 j (by decide) (by decide) (by omega))) (by omega)
      unfold fX11_picksNext_S23
      rw [ml_70 hM1.1]
      simp only [ob]
      rw [aI_n (by rw [mn_46]; omega) (by omega), h46']
      simp only [ob]
      rw [if_neg (show ¬ (35 : Int32) ≤ nI (p + i) from nI_ge (b := 35) (by omega) (by decide)), y1]
      simp only [obp]
      cases hc : cpk T q b lost o (p + i) with
      | true =>
        rw [if_neg (show ¬ b2 true = 0 by decide)]
        right
        exact ⟨_, rfl, p + i, by omega, by omega, hsk, ⟨y2.1.trans f1, fun q2 j u1 u2 => (y2.2 q2 j u1).trans (f2 q2 j u1 u2)⟩, (y2.2 46 k (by decide)).trans h46', fun _ => hc⟩
      | false =>
        rw [if_pos (show b2 false = 0 from rfl), ml_70 (y2.toM.L hM1.1)]
        simp only [ob]
        rw [aI_n (by rw [mn_46]; omega) (by omega), y2.2 46 k (by decide), h46']
        simp only [ob]
        rw [nI_1, asI_n (by rw [mn_46]; omega) (by omega)]
        simp only [ob]
        left
        refine ⟨_, rfl, ⟨y2.1.trans f1, fun q2 j u1 u2 => ?_⟩, sI_same, fun x x1 x2 => ?_⟩
        · rw [sI_ne (by omega)]; exact (y2.2 q2 j u1).trans (f2 q2 j u1 u2)
        · by_cases ex : x = p + i
          · rw [ex]; exact hc
          · exact hsk x x1 (by omega)
    · rintro G1 ⟨⟨f1, f2⟩, h46', hsk⟩
      have e1 : EN k G G1 := ⟨f1.trans e7.1, fun q2 j u1 u2 u3 => (f2 q2 j u2 u3).trans (e7.2 q2 j u1 u2 u3)⟩
      have hM1 := e1.M.M hM
      unfold fX11_picksNext_S23
      rw [ml_70 hM1.1]
      simp only [ob]
      rw [aI_n (by rw [mn_46]; omega) (by omega), h46']
      simp only [ob]
      rw [show p + (35 - p) = 35 by omega] at h46' hsk ⊢
      rw [if_pos (show (35 : Int32) ≤ nI 35 by decide)]
      exact ⟨_, rfl, 35, hp, Nat.le_refl _, hsk, ⟨f1, f2⟩, h46', fun h => by omega⟩
  obtain ⟨G9, b1, p2, p2a, p2b, hsk, ⟨f1, f2⟩, h46', hy⟩ := main
  rw [b1]
  simp only [ob, obd]
  have e1 : EN k G G9 := ⟨f1.trans e7.1, fun q2 j u1 u2 u3 => (f2 q2 j u2 u3).trans (e7.2 q2 j u1 u2 u3)⟩
  have hM1 := e1.M.M hM
  have hQ9 : MQr r q G9 := hQ7.E (fun j _ _ => f2 40 j (by decide) (by omega))
  have h21 : G9.1 40 21 = q 21 := (f2 40 21 (by decide) (by omega)).trans r7
  unfold fX11_picksNext_J61
  rw [ml_70 hM1.1]
  simp only [ob]
  rw [aI_n (by rw [mn_46]; omega) (by omega), h46']
  simp only [ob]
  by_cases e35 : p2 = 35
  · rw [if_pos (by rw [e35]; rfl)]
    refine ⟨p2, G9, p2a, p2b, hsk, ?_, e1, h46', fun _ => hQ9, fun h => by omega⟩
    rw [if_pos e35]
  · rw [if_neg (show ¬ nI p2 = 35 from fun z => e35 ((nI_eq (b := 35) (by omega) (by decide)).mp z))]
    have hy2 := hy (by omega)
    have hv := (cpk_y hy2).1
    have hva : p2 / 5 < T.1 1 ∧ p2 % 5 ≤ T.1 2 := by
      unfold vld at hv
      rw [Bool.and_eq_true, Bool.and_eq_true, Bool.and_eq_true, decide_eq_true_iff, decide_eq_true_iff] at hv
      exact ⟨hv.1, hv.2.1⟩
    rw [(pk35 p2 (by omega)).2, (pk35 p2 (by omega)).1, mSet hM1 hva.1 hva.2]
    simp only [ob]
    rw [mSoul]
    simp only [ob]
    cases hs : (aSet T (p2 / 5) (p2 % 5)).testBit 0 with
    | true =>
      rw [if_neg (show ¬ b2 true = 0 by decide)]
      have en : nq T q p2 = off q (p2 / 5) := by unfold nq; rw [hs, if_pos rfl]
      refine ⟨p2, G9, p2a, p2b, hsk, by rw [if_neg e35], e1, h46', fun h => absurd h e35, fun _ => ⟨hy2, ?_, ?_⟩⟩
      · rw [en]
        exact ⟨hQ9.1, hQ9.2.1, fun j hj hl => by rw [off_21] at hl; rw [off_l (by omega)]; exact hQ9.2.2 j hj hl⟩
      · rw [en, off_21]; exact h21
    | false =>
      rw [if_pos (show b2 false = 0 from rfl)]
      have en : nq T q p2 = rLearn (off q (p2 / 5)) (nI (aSet T (p2 / 5) (p2 % 5))) := by unfold nq; rw [hs]; rfl
      obtain ⟨G12, z1, z2, z3, z4⟩ := mLearns (s := nI (aSet T (p2 / 5) (p2 % 5))) hM1.1 (show MR (G9.1 40) G9 from fun _ _ => rfl) c1 (h21.trans c2')
      rw [z1]
      simp only [ob]
      refine ⟨p2, G12, p2a, p2b, hsk, by rw [if_neg e35], ⟨z2.1.trans e1.1, fun q2 j u1 u2 u3 => (z4 q2 j u1).trans (e1.2 q2 j u1 u2 u3)⟩, (z4 46 k (by decide)).trans h46', fun h => absurd h e35, fun _ => ⟨hy2, ?_, ?_⟩⟩
      · rw [en]
        refine ⟨fun j hj => ?_, ?_, fun j hj hl => ?_⟩
        · rw [z3 j (by omega), rl_ph c1 (h21.trans c2') hj]; exact hQ9.1 j hj
        · rw [z3 25 (by decide), rl_25 c1 (h21.trans c2')]; exact hQ9.2.1
        · rw [z3 (12 + j) (by omega)]
          unfold rLearn at hl ⊢
          rw [off_21, c2'] at hl ⊢
          rw [h21, c2']
          by_cases e9 : c = 9
          · subst e9
            rw [if_pos (show nI 9 = 9 from rfl)] at hl ⊢
            rw [if_pos (show nI 9 = 9 from rfl)]
            rw [off_21] at hl
            rw [off_l (by omega)]
            exact hQ9.2.2 j hj hl
          · have hne : ¬ nI c = 9 := fun z => e9 ((nI_eq (b := 9) (by omega) (by decide)).mp z)
            rw [if_neg hne] at hl ⊢
            rw [if_neg hne]
            rw [ups, nI_1] at hl
            have hjc := (nI_ltI (by omega) (by omega)).mp hl
            rw [nI_clamp (by omega), upn (k := 21) (by omega), upn (k := 21) (by omega)]
            by_cases ej : j = c
            · rw [ej, ups, ups]
            · rw [upn (by omega), upn (by omega), off_l (by omega)]
              exact hQ9.2.2 j hj (by rw [c2']; exact nI_lt (by omega) (by omega))
      · rw [en, z3 21 (by decide)]
        unfold rLearn
        rw [off_21, h21, c2']
        by_cases e9 : c = 9
        · subst e9
          rw [if_pos (show nI 9 = 9 from rfl), if_pos (show nI 9 = 9 from rfl), off_21, h21]
        · have hne : ¬ nI c = 9 := fun z => e9 ((nI_eq (b := 9) (by omega) (by decide)).mp z)
          rw [if_neg hne, if_neg hne, ups, ups]
