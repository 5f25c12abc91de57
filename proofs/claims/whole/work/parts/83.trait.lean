/-! TELLS: 'trait'. -/
section TT
variable {t l p cl br co : Nat} {D : TKd} {N : Nat × Nat} {T : Txt} {NM : List (List Nat × Bool)} {Gx Gm : Hp}
theorem mRoom_y {c most : Nat} {a b : Int32} (hD : TKo D) (h : MPs l D p N Gm) (ha : a = nI c) (hb : b = nI most) (hc : c < most) (hm : most < 100) (hk : D.1 p ≠ 0) (hp : p < 400) : ∃ G2, fX11_roomFor SHM Gm 0 a b = some G2 ∧ Er0 Gm G2 ∧ MPs l D (p + 1) N G2 := by
  obtain ⟨G2, a1, a2, a3, -⟩ := mGoes_y hD h hk hp
  unfold fX11_roomFor
  rw [ha, hb, if_neg (fun z => by have := (nI_eq (by omega) (by omega)).mp z; omega), h.2.2.2.2.1, if_pos rfl, a1]
  exact ⟨G2, rfl, a2, a3⟩
theorem mRoom_n {c most : Nat} {a b : Int32} (h : MPs l D p N Gm) (ha : a = nI c) (hb : b = nI most) (hc : c ≤ most) (hm : most < 100) (hn : ¬ (c < most ∧ p < 400)) : ∃ G2, fX11_roomFor SHM Gm 0 a b = some G2 ∧ Er0 Gm G2 ∧ MF l D 2 p G2 := by
  unfold fX11_roomFor
  rw [ha, hb]
  by_cases e : c = most
  · obtain ⟨G2, a1, a2, a3⟩ := mFail (f := 2) (Or.inr rfl) h
    rw [if_pos (by rw [e]), show (2 : Int32) = nI 2 from rfl, a1]
    simp only [ob]
    rw [if_neg a3.pos.2.1]
    exact ⟨G2, rfl, a2, a3⟩
  · obtain ⟨G2, a1, a2, a3⟩ := mGoes_n h (fun z => hn ⟨by omega, z⟩)
    rw [if_neg (fun z => e ((nI_eq (by omega) (by omega)).mp z)), h.2.2.2.2.1, if_pos rfl, a1]
    exact ⟨G2, rfl, a2, a3⟩
theorem trs_snoc {w : List Nat} {b : Bool} : trs (NM ++ [(w, b)]) = if b then trs NM ++ [w] else trs NM := by
  rw [trs_app]
  cases b with
  | true => rfl
  | false => exact List.append_nil _
theorem XTn_snoc {TR : List (List Nat)} {w : List Nat} {G G2 : Hp} (h : XTn TR G) (hl : TR.length < 8) (hw : okW w) (e : ∀ j, j ≠ TR.length → G2.2.1 9 j = G.2.1 9 j) (hv : G2.2.1 9 TR.length = wcode (lN 32) w) : XTn (TR ++ [w]) G2 := by
  refine ⟨by rw [List.length_append]; show TR.length + 1 ≤ 8; omega, fun x hx => ?_, fun j hj => ?_⟩
  · rcases List.mem_append.mp hx with q | q
    · exact h.2.1 x q
    · rw [List.mem_singleton.mp q]; exact hw
  · rw [List.length_append] at hj
    have hj2 : j < TR.length + 1 := hj
    by_cases ej : j = TR.length
    · rw [ej, hv, getDw_snoc]
    · rw [e j ej, getDw_pre (by omega)]; exact h.2.2 j (by omega)
theorem jTrait (hD : TKo D) (hX : BXs t D p N T NM Gx) (hM : BMs l D p N T NM cl br co Gm) (hJ : BJ l p N T NM cl br co) (hk : D.1 p = 20) : TOK t l D p Gx Gm (fX6_readTrait SHX Gx 1) (fX11_tellOne SHM Gm 0) := by
  have ht := hX.1.1.1
  have hl := hJ.1
  have hcn := hJ.2.2.1
  have eM : fX11_tellOne SHM Gm 0 = (fX11_roomFor SHM Gm 0 (nI (T.1 0)) 8).bind fun G7 => if (G7.1 0 13) ≤ 0 then bp (fX11_named SHM G7 0) fun r9 G10 => (ldA SHM G10 0 23 1).bind fun a11 => (aI SHM G10 a11 (G10.1 0 19)).bind fun v12 => (fX11_ends SHM G10 0 r9 v12).bind fun G14 => if (G14.1 0 13) = 0 then (ldA SHM G14 0 23 1).bind fun a16 => bd ((G14.1 0 19) : Int32) fun x17 => (aI SHM G14 a16 x17).bind fun v18 => (asI SHM G14 a16 x17 (v18 + 1)).bind fun G19 => some G19 else some G14 else some G7 := by
    unfold fX11_tellOne
    rw [ml_5 hM.1.1]
    simp only [ob]
    rw [mKd hM.1, hk]
    simp only [ob]
    rw [if_pos (show nI 20 = 20 from rfl), ml_23 hM.1.1]
    simp only [ob]
    rw [hM.1.2.2.2.2.2.2.2.2, aI_n (by rw [mn_10]; omega) (by omega), hM.2.2.2.1.1]
    rfl
  rw [eM]
  unfold fX6_readTrait
  rw [xl_rtext hX.1.1]
  simp only [ob]
  rw [hX.2.2.2.1 0 (by decide)]
  by_cases h8 : T.1 0 < 8
  · rw [if_pos (show nI (T.1 0) < 8 from nI_lt (b := 8) h8 (by decide))]
    by_cases hp : p < 400
    · obtain ⟨X4, x1, x2, x3⟩ := xPass_y (k := 20) (w := 256) hD hX.1 rfl hk (by decide) hp
      obtain ⟨M7, m1, m2, m3⟩ := mRoom_y (c := T.1 0) (most := 8) (b := 8) hD hM.1 rfl rfl h8 (by decide) (by rw [hk]; decide) hp
      rw [x1, m1]
      simp only [obp, ob]
      rw [if_neg one_ne, xVal x3, m3.2.2.2.2.1, if_pos (by decide)]
      simp only [ob]
      have hBX4 := hX.E x2 (by decide) x3 (fun z => z)
      have hBM7 := hM.E m2 m3 (fun z => z)
      have hJ2 := hJ.s (show p ≤ p + 1 by omega)
      have hNl : (NM.map (·.1)).length < 23 := by rw [List.length_map]; omega
      by_cases e1 : D.1 (p + 1) = 1 ∧ p + 1 < 400
      · have hw := hD.2.2.2.2.2.2.2 (p + 1) e1.1
        have e5 : X4.2.1 5 (p + 1) = wcode (lN 32) (D.2.2.2.1 (p + 1)) := (x3.2.1 (p + 1) x3.2.2.1.1 x3.2.2.1.2.1).2.2.2 e1.1
        obtain ⟨X8, y1, y2, y3, y4⟩ := xNew_y hD x3 hBX4.2.1 hNl e1.1 e1.2
        obtain ⟨M10, n1, n2, n3⟩ := mNamed_y hD m3 hJ2.2.1 hBM7.2.2.1 e1.1 e1.2
        rw [y1, n1]
        simp only [obp]
        have hBM10 := hBM7.E n2 n3 (fun z => (ntp_0 (by decide) z).1)
        rw [if_neg one_ne, xl_1_13 y3.1, xl_rtext y3.1, ml_23 n3.1]
        simp only [ob]
        have c8 : X8.1 (43 - t) 0 = nI (T.1 0) := (y2.2.2 _ 0 (by omega)).trans (hBX4.2.2.2.1 0 (by decide))
        rw [c8, asJ_n (by rw [xnn_9]; omega) (by omega), n3.2.2.2.2.2.2.2.2, aI_n (by rw [mn_10]; omega) (by omega), hBM10.2.2.2.1.1]
        simp only [ob]
        have hx12 : LX t (sJ X8 9 (T.1 0) (X4.2.1 5 (p + 1))) := y3.1
        rw [xl_rtext hx12]
        simp only [ob, obd]
        rw [show (sJ X8 9 (T.1 0) (X4.2.1 5 (p + 1))).1 (43 - t) 0 = nI (T.1 0) from c8, nI_1]
        have hX14 : XP t D (p + 2) (ntp (decide (D.2.2.2.1 (p + 1) ∈ NM.map (·.1))) 3 (p + 1) N) (sI (sJ X8 9 (T.1 0) (X4.2.1 5 (p + 1))) (43 - t) 0 (nI (T.1 0 + 1))) := by
          obtain ⟨q1, q2, q3, q4, q5, q6, q7⟩ := y3
          exact ⟨q1, q2.E (fun q k hq => sI_ne (by omega)) (sJ_row (by decide)), q3, (sI_ne (by omega)).trans q4, (sI_ne (by omega)).trans q5, (sI_ne (by omega)).trans q6, fun z => (sI_ne (by omega)).trans (q7 z)⟩
        have fX14 : EXl t Gx (sI (sJ X8 9 (T.1 0) (X4.2.1 5 (p + 1))) (43 - t) 0 (nI (T.1 0 + 1))) := x2.xl.tr (y2.xl.tr (EXl.j.tr (EXl.s (by omega))))
        by_cases e4 : D.1 (p + 2) = 4 ∧ p + 2 < 400
        · right
          obtain ⟨X16, u1, u2, u3⟩ := xPass_y (k := 4) (w := 59) hD hX14 rfl e4.1 (by decide) e4.2
          obtain ⟨M14, v1, v2, v3, v4⟩ := mEnds_y (b := true) (at' := nI (T.1 0)) hD n3 hBM10.2.2.1 (by omega) (show p + 1 < p + 2 by omega) e1.1 (by rw [if_pos rfl, hcn.1]) e4.1 e4.2
          rw [q01 u1 (Or.inr rfl), v1]
          simp only [ob]
          have f14 : ∀ q j, q ≠ 9 → q ≠ 0 → M14.1 q j = M10.1 q j := fun q j a b => v2.2.2 q j a (by omega)
          rw [v3.2.2.2.2.1, if_pos rfl, ml_23 v3.1]
          simp only [ob]
          rw [mCount v3.2.2.2.2.2.2.2.2 hl mn_10 ((f14 10 _ (by decide) (by decide)).trans hBM10.2.2.2.1.1)]
          have hbx : BXs t D (p + 3) (ntp (decide (D.2.2.2.1 (p + 1) ∈ NM.map (·.1))) 3 (p + 1) N) (tN T.1 0 (T.1 0 + 1), T.2) (NM ++ [(D.2.2.2.1 (p + 1), true)]) X16 := by
            refine ⟨u3, ?_, ?_, fun i hi => ?_, fun z => ?_⟩
            · rw [List.map_append]
              exact y4.E ((u2.2 1 12 (by omega)).trans (sI_ne (by omega))) (by rw [u2.1]; exact sJ_row (by decide))
            · rw [trs_snoc, if_pos rfl]
              refine XTn_snoc (G := Gx) hX.2.2.1 (by omega) hw (fun j hj => ?_) ?_
              · rw [u2.1]
                show (sJ X8 9 (T.1 0) _).2.1 9 j = _
                rw [sJ_ne (Or.inr (by omega)), y2.2.1 9 (by decide), x2.1]
              · rw [u2.1, ← hcn.1]
                show (sJ X8 9 (T.1 0) _).2.1 9 (T.1 0) = _
                rw [sJ_same, e5]
            · rw [u2.2 _ _ (by omega)]
              show _ = nI (tN T.1 0 (T.1 0 + 1) i)
              by_cases ei : i = 0
              · rw [ei, sI_same, tN_s]
              · rw [sI_ne (Or.inr ei), tN_n ei]
                show X8.1 _ i = _
                rw [y2.2.2 _ i (by omega)]; exact hBX4.2.2.2.1 i hi
            · have hxt := hBX4.2.2.2.2 (ntp_0 (by decide) z).1
              have hxt8 : XT (43 - t) T (sJ X8 9 (T.1 0) (X4.2.1 5 (p + 1))) := XT_fr hxt (fun q k _ _ _ _ => y2.2.2 q k (by omega)) (by show (sJ X8 9 _ _).2.1 (43 - t + 8) = _; rw [sJ_row (by omega), y2.2.1 _ (by omega)])
              exact XT_fr (XT_n (v := T.1 0 + 1) (by omega) hxt8 (Or.inl rfl)) (fun q k _ _ _ _ => u2.2 q k (by omega)) (by rw [u2.1])
          have hms : MPs l D (p + 3) (ntp (decide (D.2.2.2.1 (p + 1) ∈ NM.map (·.1))) 3 (p + 1) N) (sI M14 10 (1 - l) (nI (T.1 0 + 1))) := v3.E rfl rfl (fun q k hq => sI_ne (by omega)) (fun k hk => sI_ne (by omega))
          have f0 : ∀ j, j ≠ 11 → j ≠ 20 → ¬ (13 ≤ j ∧ j ≤ 16) → M14.1 0 j = M10.1 0 j := fun j a b c => v2.2.2 0 j (by decide) (by omega)
          have hbm : BMs l D (p + 3) (ntp (decide (D.2.2.2.1 (p + 1) ∈ NM.map (·.1))) 3 (p + 1) N) (tN T.1 0 (T.1 0 + 1), T.2) (NM ++ [(D.2.2.2.1 (p + 1), true)]) cl br co (sI M14 10 (1 - l) (nI (T.1 0 + 1))) := by
            obtain ⟨-, a2, a3, ⟨b1, b2', b3, b4⟩, ⟨c1, c2', c3⟩, a6⟩ := hBM10
            refine ⟨hms, ?_, ?_, ⟨sI_same, ?_, ?_, ?_⟩, ⟨?_, ?_, ?_⟩, fun z => ?_⟩
            · rw [sI_ne (by omega), f0 12 (by decide) (by decide) (by decide)]; exact a2
            · obtain ⟨w1, w2, w3, w4⟩ := v4
              exact ⟨(sI_ne (by omega)).trans w1, w2, w3, fun j hj => ⟨(w4 j hj).1, (sI_ne (by omega)).trans (w4 j hj).2⟩⟩
            · show _ = nI (tN T.1 0 (T.1 0 + 1) 1); rw [sI_ne (by omega), f14 11 _ (by decide) (by decide), tN_n (by decide)]; exact b2'
            · show _ = nI (tN T.1 0 (T.1 0 + 1) 2); rw [sI_ne (by omega), f14 14 _ (by decide) (by decide), tN_n (by decide)]; exact b3
            · show _ = nI (tN T.1 0 (T.1 0 + 1) 3); rw [sI_ne (by omega), f14 18 _ (by decide) (by decide), tN_n (by decide)]; exact b4
            · rw [sI_ne (by omega), f0 36 (by decide) (by decide) (by decide)]; exact c1
            · rw [sI_ne (by omega), f0 42 (by decide) (by decide) (by decide)]; exact c2'
            · rw [sI_ne (by omega), f0 48 (by decide) (by decide) (by decide)]; exact c3
            · exact MTc_n (MTc_fr (a6 z) (Nat.le_refl _) (Nat.le_refl _) (Nat.le_refl _) (fun q hq => f14 q _ (by omega) (by omega)) (fun q j hq _ _ => f14 q j (by omega) (by omega)) (fun q j _ _ _ _ => f14 q j (by omega) (by omega)) (fun q j _ _ _ _ => f14 q j (by omega) (by omega)) (fun j _ _ => f14 23 j (by omega) (by omega)) (fun q j hq _ _ => f14 q j (by omega) (by omega)) (fun q j _ _ _ _ => f14 q j (by omega) (by omega)) (fun q j hq _ _ => f14 q j (by omega) (by omega))) (Or.inl ⟨rfl, rfl⟩)
          refine ⟨X16, _, p + 3, _, _, _, cl, br, co, rfl, rfl, by omega, hbx, fX14.tr u2.xl, hbm, m2.yl.tr (n2.yl.tr (v2.yl.tr (EYl.s (by unfold sdM; omega)))), hl, (hJ2.2.1.n (by decide)).s (by omega), ?_, by have := hJ.2.2.2.1; omega, fun z => ?_⟩
          · show T.1 0 + 1 = (trs (NM ++ [(D.2.2.2.1 (p + 1), true)])).length ∧ T.1 0 + 1 ≤ 8 ∧ T.1 1 ≤ 7 ∧ T.1 2 ≤ 4 ∧ T.1 3 ≤ 4 ∧ (NM ++ [(D.2.2.2.1 (p + 1), true)]).length = T.1 0 + 1 + T.1 1 + T.1 2 + T.1 3
            rw [trs_snoc, if_pos rfl, List.length_append, List.length_append]
            show T.1 0 + 1 = (trs NM).length + 1 ∧ T.1 0 + 1 ≤ 8 ∧ T.1 1 ≤ 7 ∧ T.1 2 ≤ 4 ∧ T.1 3 ≤ 4 ∧ NM.length + 1 = T.1 0 + 1 + T.1 1 + T.1 2 + T.1 3
            omega
          · obtain ⟨⟨w1, w2, w3, w4, w5, w6⟩, w7, w8, w9, w10⟩ := hJ.2.2.2.2 (ntp_0 (by decide) z).1
            have hpw : 2 ^ T.1 0 ≤ 2 ^ (T.1 0 + 1) := Nat.pow_le_pow_right (by decide) (by omega)
            exact ⟨⟨h8, w2, w3, w4, w5, w6⟩, fun a ha => ⟨(w7 a ha).1, Nat.lt_of_lt_of_le (w7 a ha).2 hpw⟩, fun w hw2 => ⟨(w8 w hw2).1, Nat.lt_of_lt_of_le (w8 w hw2).2.1 hpw, Nat.lt_of_lt_of_le (w8 w hw2).2.2 hpw⟩, w9, w10⟩
        · left
          obtain ⟨X16, u1, u2, u3⟩ := xPass_n (k := 4) (w := 59) hD hX14 rfl (by decide) e4
          obtain ⟨M14, v1, v2, v3⟩ := mEnds_n (i := nI (p + 1)) (at' := nI (T.1 0)) hD n3 e4
          rw [q01 u1 (Or.inl rfl), v1]
          simp only [ob]
          rw [if_neg v3.pos.2.1]
          exact ⟨X16, _, p + 2, M14, rfl, u3, fX14.tr u2.xl, rfl, v3, m2.yl.tr (n2.yl.tr v2.yl)⟩
      · left
        obtain ⟨X8, y1, y2, y3⟩ := xNew_n hD x3 hBX4.2.1 hNl e1
        obtain ⟨M10, n1, n2, n3⟩ := mNamed_n hD m3 hBM7.2.2.1 e1
        rw [y1, n1]
        simp only [obp]
        rw [if_pos trivial, ml_23 n3.1]
        simp only [ob]
        rw [n3.2.2.2.2.2.2, aI_n (by rw [mn_10]; omega) (by omega)]
        simp only [ob]
        rw [mEnds_f n3]
        simp only [ob]
        rw [if_neg n3.pos.2.1]
        exact ⟨X8, _, p + 1, M10, rfl, y3, x2.xl.tr y2.xl, rfl, n3, m2.yl.tr n2.yl⟩
    · left
      obtain ⟨X4, x1, x2, x3⟩ := xPass_n (k := 20) (w := 256) hD hX.1 rfl (by decide) (fun z => hp z.2)
      obtain ⟨M7, m1, m2, m3⟩ := mRoom_n (c := T.1 0) (most := 8) (b := 8) hM.1 rfl rfl (by omega) (by decide) (fun z => hp z.2)
      rw [if_pos hk] at x3
      rw [x1, m1]
      simp only [obp, ob]
      rw [if_pos trivial, if_neg m3.pos.1]
      exact ⟨X4, 2, p, M7, rfl, x3, x2.xl, rfl, m3, m2.yl⟩
  · rw [if_neg (show ¬ nI (T.1 0) < 8 from nI_nlt (b := 8) (by omega) (by omega))]
    left
    obtain ⟨X4, x1, x2, x3⟩ := xRefuse (f := 2) hX.1
    obtain ⟨M7, m1, m2, m3⟩ := mRoom_n (c := T.1 0) (most := 8) (b := 8) hM.1 rfl rfl (by omega) (by decide) (fun z => h8 z.1)
    have x1' : fX6_refuse SHX Gx 1 2 = some (0, X4) := x1
    rw [q01 x1' (Or.inl rfl), m1]
    simp only [ob]
    rw [if_neg m3.pos.1]
    exact ⟨X4, 2, p, M7, rfl, x3, x2.xl, rfl, m3, m2.yl⟩
end TT
