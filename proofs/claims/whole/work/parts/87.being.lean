/-! TELLS: 'being'. -/
theorem side7 {l c : Nat} (hl : l ≤ 1) : (7 : Int32) * nI (1 - l) + nI c = nI (7 * (1 - l) + c) := by
  rcases Nat.le_one_iff_eq_zero_or_eq_one.mp hl with rfl | rfl
  · rw [← nI_add]; rfl
  · rw [← nI_add]; rfl
theorem side4 {l c : Nat} (hl : l ≤ 1) : (4 : Int32) * nI (1 - l) + nI c = nI (4 * (1 - l) + c) := by
  rcases Nat.le_one_iff_eq_zero_or_eq_one.mp hl with rfl | rfl
  · rw [← nI_add]; rfl
  · rw [← nI_add]; rfl
theorem obs {α : Type} (o : Option α) : (o.bind fun G => some G) = o := by cases o <;> rfl
/-- the text that is built is no part of the reading -/
theorem XP.txt {t p q j : Nat} {D : TKd} {N : Nat × Nat} {G : Hp} {v : Int32} (h : XP t D p N G) (hq : 43 - t ≤ q ∧ q ≤ 43 - t + 20) : XP t D p N (sI G q j v) := by
  have ht := h.1.1
  obtain ⟨q1, q2, q3, q4, q5, q6, q7⟩ := h
  exact ⟨q1, q2.E (fun q k hq => sI_ne (by omega)) rfl, q3, (sI_ne (by omega)).trans q4, (sI_ne (by omega)).trans q5, (sI_ne (by omega)).trans q6, fun z => (sI_ne (by omega)).trans (q7 z)⟩
section BE
variable {t l p cl br co : Nat} {D : TKd} {N : Nat × Nat} {T : Txt} {NM : List (List Nat × Bool)} {Gx Gm : Hp}
theorem mBeing_f {f i : Nat} {x3 r4 : Int32} {M : Hp} (h : MF l D f i M) : ((iter (fun s : Hp => fX11_tellBeing_S43 SHM 0 x3 r4 s) fuel M).bind fun u14 => bd u14 fun G13 => fX11_tellBeing_J74 SHM G13 0 r4) = some M := by
  have eO : (fun s : Hp => fX11_tellBeing_S43 SHM 0 x3 r4 s) M = some (.inr M) := by
    show fX11_tellBeing_S43 SHM 0 x3 r4 M = _
    unfold fX11_tellBeing_S43
    rw [if_neg h.pos.2.1]
  rw [iter_mono 1 fuel _ _ (iter_out eO) (by unfold fuel; omega)]
  simp only [ob, obd]
  unfold fX11_tellBeing_J74
  rw [mEnds_f h]
  simp only [ob]
  rw [if_neg h.pos.2.1]
theorem jBeing (hD : TKo D) (hX : BXs t D p N T NM Gx) (hM : BMs l D p N T NM cl br co Gm) (hJ : BJ l p N T NM cl br co) (hk : D.1 p = 21) : TOK t l D p Gx Gm (fX6_readBeing SHX Gx 1) (fX11_tellOne SHM Gm 0) := by
  have ht := hX.1.1.1
  have hl := hJ.1
  have hcn := hJ.2.2.1
  have hu : 43 - t = 11 ∨ 43 - t = 32 := by omega
  have eM : fX11_tellOne SHM Gm 0 = (fX11_roomFor SHM Gm 0 (nI (T.1 1)) 7).bind fun G24 => if (G24.1 0 13) = 0 then (fX11_tellBeing SHM G24 0).bind fun G27 => some G27 else some G24 := by
    unfold fX11_tellOne
    rw [ml_5 hM.1.1]
    simp only [ob]
    rw [mKd hM.1, hk]
    simp only [ob]
    rw [if_neg (show ¬ nI 21 = 20 by decide), if_pos (show nI 21 = 21 from rfl), ml_24 hM.1.1]
    simp only [ob]
    rw [hM.1.2.2.2.2.2.2.2.2, aI_n (by rw [mn_11]; omega) (by omega), hM.2.2.2.1.2.1]
    rfl
  rw [eM]
  rcases jHead (i := 1) (c := T.1 1) (most := 7) (kk := 21) (a := 0) (b := 99) (w := 257) (m1 := 7) (la := 0) (lb := 99) hD hX hM hJ hk rfl (by decide) (hX.2.2.2.1 1 (by decide)) ⟨hcn.2.2.1, by decide⟩ rfl rfl rfl (by decide) (fun z => by omega) (ox := fX6_readBeing SHX Gx 1) rfl with ⟨X, f, i, M, o1, o2, o3, o4, o5, o6⟩ | ⟨hc, M24, r1, r2, r3, hh⟩
  · left
    rw [o4]
    simp only [ob]
    rw [if_neg o5.pos.2.1]
    exact ⟨X, f, i, M, o1, o2, o3, rfl, o5, o6.yl⟩
  · rw [r1]
    simp only [ob]
    rw [if_pos r2.2.2.2.2.1, obs]
    have hx : 7 * (1 - l) + T.1 1 < 14 := by omega
    have s12 : sdM l 12 (7 * (1 - l) + T.1 1) := by unfold sdM; omega
    have s13 : sdM l 13 (7 * (1 - l) + T.1 1) := by unfold sdM; omega
    have eB : fX11_tellBeing SHM M24 0 = bp (fX11_named SHM M24 0) fun r4 G5 => (ldA SHM G5 0 25 1).bind fun a6 => bp (fX11_bounded SHM G5 0 0 99) fun r7 G8 => (asI SHM G8 a6 (nI (7 * (1 - l) + T.1 1)) r7).bind fun G9 => (ldA SHM G9 0 26 1).bind fun a10 => (asI SHM G9 a10 (nI (7 * (1 - l) + T.1 1)) 0).bind fun G11 => (iter (fun s : Hp => fX11_tellBeing_S43 SHM 0 (nI (7 * (1 - l) + T.1 1)) r4 s ) fuel (G11 : Hp)).bind (fun u14 => bd u14 fun G13 => fX11_tellBeing_J74 SHM G13 0 r4) := by
      unfold fX11_tellBeing
      rw [ml_24 r2.1]
      simp only [ob]
      rw [r2.2.2.2.2.2.2.2.2, aI_n (by rw [mn_11]; omega) (by omega), r3.2 11 _ (by omega), hM.2.2.2.1.2.1]
      simp only [ob, obd]
      rw [side7 hl]
    rw [eB]
    rcases hh with ⟨X, f, i, M5, o1, o2, o3, n1, n2, n3⟩ | ⟨N1, M5, n1, n2, n3, hh⟩
    · left
      rw [n1]
      simp only [obp]
      rw [ml_25 n2.1]
      simp only [ob]
      rw [mNumb_f n2]
      simp only [obp]
      rw [asI_n (by rw [mn_12]; exact hx) (by omega)]
      simp only [ob]
      have mf := n2.E (G2 := sI M5 12 (7 * (1 - l) + T.1 1) 0) rfl (fun k hk => sI_ne (by omega))
      rw [ml_26 mf.1]
      simp only [ob]
      rw [asI_n (by rw [mn_13]; exact hx) (by omega)]
      simp only [ob]
      have mf2 := mf.E (G2 := sI (sI M5 12 (7 * (1 - l) + T.1 1) 0) 13 (7 * (1 - l) + T.1 1) 0) rfl (fun k hk => sI_ne (by omega))
      rw [mBeing_f mf2]
      exact ⟨X, f, i, _, o1, o2, o3, rfl, mf2, r3.yl.tr (n3.yl.tr ((EYl.s s12).tr (EYl.s s13)))⟩
    · rw [n1]
      simp only [obp]
      rw [ml_25 n3.1]
      simp only [ob]
      rcases hh with ⟨X, f, i, v, M8, o1, o2, o3, v1, v2, v3⟩ | ⟨X10, N2, M8, o1, v1, v2, v3, x1, x2, x3, x4, hz, hok, hk1⟩
      · left
        rw [v1]
        simp only [obp]
        rw [asI_n (by rw [mn_12]; exact hx) (by omega)]
        simp only [ob]
        have mf := v2.E (G2 := sI M8 12 (7 * (1 - l) + T.1 1) v) rfl (fun k hk => sI_ne (by omega))
        rw [ml_26 mf.1]
        simp only [ob]
        rw [asI_n (by rw [mn_13]; exact hx) (by omega)]
        simp only [ob]
        have mf2 := mf.E (G2 := sI (sI M8 12 (7 * (1 - l) + T.1 1) v) 13 (7 * (1 - l) + T.1 1) 0) rfl (fun k hk => sI_ne (by omega))
        rw [mBeing_f mf2]
        exact ⟨X, f, i, _, o1, o2, o3, rfl, mf2, r3.yl.tr (n2.yl.tr (v3.yl.tr ((EYl.s s12).tr (EYl.s s13))))⟩
      · rw [v1, o1]
        simp only [obp]
        have lm9 : LM (sI M8 12 (7 * (1 - l) + T.1 1) (nI (D.2.2.1 (p + 2)))) := v3.1
        rw [asI_n (by rw [mn_12]; exact hx) (by omega)]
        simp only [ob]
        rw [ml_26 lm9]
        simp only [ob]
        rw [asI_n (by rw [mn_13]; exact hx) (by omega), xl_rtext x1.1]
        simp only [ob]
        have c10 : ∀ j, j < 4 → X10.1 (43 - t) j = nI (T.1 j) := fun j hj => (x4.2.2 _ j (by omega)).trans (hX.2.2.2.1 j hj)
        rw [xt_6 hu x1.1, c10 1 (by decide)]
        simp only [ob]
        rw [asI_n (by rw [xn_6 hu]; exact hc) (by omega), x2]
        simp only [ob]
        have hX15 : XP t D (p + 3) N2 (sI X10 (43 - t + 1) (T.1 1) (nI (D.2.2.1 (p + 2)))) := x1.txt (by omega)
        have hM11 : MPs l D (p + 3) N2 (sI (sI M8 12 (7 * (1 - l) + T.1 1) (nI (D.2.2.1 (p + 2)))) 13 (7 * (1 - l) + T.1 1) 0) := v3.E rfl rfl (fun q k hq => (sI_ne (by omega)).trans (sI_ne (by omega))) (fun k hk => (sI_ne (by omega)).trans (sI_ne (by omega)))
        have e8 : Er0 Gm M8 := r3.tr (n2.tr v2)
        have hNM11 : MNm NM (sI (sI M8 12 (7 * (1 - l) + T.1 1) (nI (D.2.2.1 (p + 2)))) 13 (7 * (1 - l) + T.1 1) 0) := by
          obtain ⟨w1, w2, w3, w4⟩ := hM.2.2.1.E e8
          exact ⟨((sI_ne (by omega)).trans (sI_ne (by omega))).trans w1, w2, w3, fun j hj => ⟨(w4 j hj).1, ((sI_ne (by omega)).trans (sI_ne (by omega))).trans (w4 j hj).2⟩⟩
        have hTn15 : XTn (trs NM) (sI X10 (43 - t + 1) (T.1 1) (nI (D.2.2.1 (p + 2)))) := hX.2.2.1.E (x4.2.1 9 (by decide))
        obtain ⟨o, k1, M2, k2, k3, hh⟩ := jOwn (r4 := nI (p + 1)) (x := 7 * (1 - l) + T.1 1) hD hX15 hTn15 (by rw [sI_ne (by omega), c10 0 (by decide), hcn.1]) hM11 hNM11 hok (by omega) hx sI_same
        rw [k1]
        have fm : EYl l Gm M2 := e8.yl.tr ((EYl.s s12).tr ((EYl.s s13).tr (k3.yl ⟨s13, s13⟩)))
        rcases hh with ⟨X2, f, i, rfl, y1, y2, y3⟩ | ⟨X2, v, p2, N3, rfl, y1, y2, y3, y4, y5, y6⟩
        · left
          rw [k2]
          simp only [ob, obd, Sum.elim_inr]
          unfold fX11_tellBeing_J74
          rw [mEnds_f y3]
          simp only [ob]
          rw [if_neg y3.pos.2.1]
          exact ⟨X2, f, i, M2, rfl, y1, x4.xl.tr ((EXl.s (by omega)).tr y2.xl), rfl, y3, fm⟩
        · rw [k2]
          simp only [ob, obd, Sum.elim_inl]
          unfold fX6_readBeing_J109 fX11_tellBeing_J74
          rw [xl_rtext y1.1]
          simp only [ob]
          have c2 : ∀ j, j < 4 → X2.1 (43 - t) j = nI (T.1 j) := fun j hj => (y2.2 _ j (by omega)).trans ((sI_ne (by omega)).trans (c10 j hj))
          rw [xt_7 hu y1.1, c2 1 (by decide)]
          simp only [ob]
          rw [asI_n (by rw [xn_7 hu]; exact hc) (by omega)]
          simp only [ob]
          have hxa : XP t D p2 N3 (sI X2 (43 - t + 2) (T.1 1) v) := y1.txt (by omega)
          have ca : ∀ j, j < 4 → (sI X2 (43 - t + 2) (T.1 1) v).1 (43 - t) j = nI (T.1 j) := fun j hj => (sI_ne (by omega)).trans (c2 j hj)
          rw [xl_rtext hxa.1]
          simp only [ob, obd]
          rw [ca 1 (by decide), nI_1]
          obtain ⟨w, hw⟩ : ∃ w, N3.1 = 0 → N2.1 = 0 ∧ w < 2 ^ (trs NM).length ∧ v = nI w ∧ M2.1 13 (7 * (1 - l) + T.1 1) = nI w := by
            by_cases z : N3.1 = 0
            · obtain ⟨z1, w, z2⟩ := y6 z
              exact ⟨w, fun _ => ⟨z1, z2⟩⟩
            · exact ⟨0, fun z2 => absurd z2 z⟩
          clear y6
          have fM : ∀ q k, ¬ (q = 0 ∧ (k = 11 ∨ k = 13 ∨ k = 14 ∨ k = 15 ∨ k = 16)) → ¬ ((q = 12 ∨ q = 13) ∧ k = 7 * (1 - l) + T.1 1) → M2.1 q k = Gm.1 q k := fun q k a b => by
            rw [k3.2 q k a (by omega), sI_ne (by omega), sI_ne (by omega)]; exact e8.2 q k a
          have fX : ∀ q k, q ≠ 1 → ¬ (q = 43 - t + 1 ∧ k = T.1 1) → X2.1 q k = Gx.1 q k := fun q k a b => by
            rw [y2.2 q k (by omega), sI_ne (by omega)]; exact x4.2.2 q k a
          refine jTail (R := (tR (tR T.2.1 0 (T.1 1) (D.2.2.1 (p + 2))) 1 (T.1 1) w, T.2.2)) hD ml_24 mn_11 (Or.inl ⟨rfl, rfl, hc⟩) hxa (x3.E (by rw [sI_ne (by omega), y2.2 1 12 (by omega), sI_ne (by omega)]) (by show X2.2.1 8 = _; rw [y2.1]; rfl)) (hTn15.E (by show X2.2.1 9 = _; rw [y2.1])) ca (x4.xl.tr ((EXl.s (by omega)).tr (y2.xl.tr (EXl.s (by omega))))) (fun z => ?_) y3 ((fM 0 12 (by omega) (by omega)).trans hM.2.1) (k3.nm hNM11 (by omega)) ⟨(fM _ _ (by omega) (by omega)).trans hM.2.2.2.1.1, (fM _ _ (by omega) (by omega)).trans hM.2.2.2.1.2.1, (fM _ _ (by omega) (by omega)).trans hM.2.2.2.1.2.2.1, (fM _ _ (by omega) (by omega)).trans hM.2.2.2.1.2.2.2⟩ ⟨(fM _ _ (by omega) (by omega)).trans hM.2.2.2.2.1.1, (fM _ _ (by omega) (by omega)).trans hM.2.2.2.2.1.2.1, (fM _ _ (by omega) (by omega)).trans hM.2.2.2.2.1.2.2⟩ (fun z => ?_) fm hJ y4 (by omega) hk1 (fun z => ?_)
          · obtain ⟨z1, z2, z3, z4⟩ := hw z
            refine XT_b (G := Gx) (hX.2.2.2.2 (hz z1).1) (fun q k a b c d => ?_) ?_ sI_same ?_ ?_
            · rw [sI_ne (by omega), sI_ne (by omega)]; exact fX q k (by omega) (by omega)
            · show X2.2.1 (43 - t + 8) = _
              rw [y2.1]; exact x4.2.1 _ (by omega)
            · rw [sI_ne (by omega), sI_ne (by omega), y2.2 _ _ (by omega), sI_same]
            · rw [sI_ne (by omega), sI_same, z3]
          · obtain ⟨z1, z2, z3, z4⟩ := hw z
            refine MTc_b (G := Gm) (hM.2.2.2.2.2 (hz z1).1) (fun q k a b c d => ?_) sI_same ?_ ?_
            · rw [sI_ne (by omega)]; exact fM q k (by omega) d
            · rw [sI_ne (by omega), k3.2 12 _ (by omega) (by omega), sI_ne (by omega), sI_same]
            · rw [sI_ne (by omega)]; exact z4
          · obtain ⟨z1, z2, z3, z4⟩ := hw z
            obtain ⟨z5, -, z6⟩ := hz z1
            obtain ⟨⟨w1, w2, w3, w4, w5, w6⟩, w7, w8, w9, w10⟩ := hJ.2.2.2.2 z5
            refine ⟨⟨w1, hc, w3, w4, w5, w6⟩, fun a ha => ?_, fun a ha => ?_, fun a ha => ?_, w10⟩
            · have ha' : a < T.1 1 + 1 := ha
              show tR (tR T.2.1 0 (T.1 1) (D.2.2.1 (p + 2))) 1 (T.1 1) w 0 a ≤ 99 ∧ tR (tR T.2.1 0 (T.1 1) (D.2.2.1 (p + 2))) 1 (T.1 1) w 1 a < 2 ^ T.1 0
              by_cases ea : a = T.1 1
              · rw [ea, tR_n (by omega), tR_s, tR_s, hcn.1]; exact ⟨z6, z2⟩
              · rw [tR_n (by omega), tR_n (by omega), tR_n (by omega), tR_n (by omega)]; exact w7 a (by omega)
            · show tR (tR T.2.1 0 (T.1 1) (D.2.2.1 (p + 2))) 1 (T.1 1) w 2 a ≤ 99 ∧ tR (tR T.2.1 0 (T.1 1) (D.2.2.1 (p + 2))) 1 (T.1 1) w 3 a < 2 ^ T.1 0 ∧ tR (tR T.2.1 0 (T.1 1) (D.2.2.1 (p + 2))) 1 (T.1 1) w 4 a < 2 ^ T.1 0
              rw [tR_n (by omega), tR_n (by omega), tR_n (by omega), tR_n (by omega), tR_n (by omega), tR_n (by omega)]; exact w8 a ha
            · show (1 ≤ tR (tR T.2.1 0 (T.1 1) (D.2.2.1 (p + 2))) 1 (T.1 1) w 5 a ∧ tR (tR T.2.1 0 (T.1 1) (D.2.2.1 (p + 2))) 1 (T.1 1) w 5 a ≤ 99) ∧ tR (tR T.2.1 0 (T.1 1) (D.2.2.1 (p + 2))) 1 (T.1 1) w 6 a ≤ 99 ∧ okC (T.2.2.1 a) 0
              rw [tR_n (by omega), tR_n (by omega), tR_n (by omega), tR_n (by omega)]; exact w9 a ha
end BE
