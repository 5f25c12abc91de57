/-! TELLS: 'bridge'. -/
theorem rJ_o {G : Hp} {q q2 : Nat} {f : Nat → Int64} (h : q2 ≠ q) : (rJ G q f).2.1 q2 = G.2.1 q2 := if_neg h
theorem rJ_s2 {G : Hp} {q : Nat} {f : Nat → Int64} : (rJ G q f).2.1 q = f := if_pos rfl
theorem gd_cmk {U : List Nat} {i : Nat} (h : i < U.length) : (U.map cmk).getD i 0 = cmk (U.getD i 0) := by
  rw [List.getD_eq_getElem?_getD, List.getD_eq_getElem?_getD, List.getElem?_map, List.getElem?_eq_getElem h]
  rfl
def tB5 (x r4 : Int32) (M : Hp) : Option Hp := (ldA SHM M 0 34 1).bind fun a16 => (asI SHM M a16 x (M.1 0 36)).bind fun G17 => if (G17.1 0 13) = 0 then (fX11_tellClause SHM G17 0).bind fun G20 => fX11_tellBridge_J74 SHM G20 0 x r4 else fX11_tellBridge_J74 SHM G17 0 x r4
def tB4 (x r4 : Int32) (M : Hp) : Option Hp := (fX11_must SHM M 0 5).bind fun G15 => tB5 x r4 G15
def tB3 (x r4 : Int32) (M : Hp) : Option Hp := (ldA SHM M 0 33 1).bind fun a10 => bp (fX11_bounded SHM M 0 0 99) fun r11 G12 => (asI SHM G12 a10 x r11).bind fun G13 => tB4 x r4 G13
section BR
variable {t l p cl br co : Nat} {D : TKd} {N : Nat × Nat} {T : Txt} {NM : List (List Nat × Bool)} {Gx Gm : Hp}
theorem mJ74f {f i x : Nat} {r4 : Int32} {M : Hp} (h : MF l D f i M) (hx : x < 8) : fX11_tellBridge_J74 SHM M 0 (nI x) r4 = some (sI M 22 x (M.1 0 36)) ∧ MF l D f i (sI M 22 x (M.1 0 36)) := by
  have mf := h.E (G2 := sI M 22 x (M.1 0 36)) rfl (fun k hk => sI_ne (by omega))
  unfold fX11_tellBridge_J74
  rw [ml_35 h.1]
  simp only [ob]
  rw [asI_n (by rw [mn_22]; exact hx) (by omega)]
  simp only [ob]
  rw [mEnds_f mf]
  simp only [ob]
  rw [if_neg mf.pos.2.1]
  exact ⟨rfl, mf⟩
theorem mB5f {f i x : Nat} {r4 : Int32} {M : Hp} (h : MF l D f i M) (hx : x < 8) (h1 : sdM l 21 x) (h2 : sdM l 22 x) : ∃ M2, tB5 (nI x) r4 M = some M2 ∧ MF l D f i M2 ∧ EYl l M M2 := by
  have mf := h.E (G2 := sI M 21 x (M.1 0 36)) rfl (fun k hk => sI_ne (by omega))
  obtain ⟨a1, a2⟩ := mJ74f (r4 := r4) mf hx
  unfold tB5
  rw [ml_34 h.1]
  simp only [ob]
  rw [asI_n (by rw [mn_21]; exact hx) (by omega)]
  simp only [ob]
  rw [if_neg mf.pos.2.1, a1]
  exact ⟨_, rfl, a2, (EYl.s h1).tr (EYl.s h2)⟩
theorem mB4f {f i x : Nat} {r4 : Int32} {M : Hp} (h : MF l D f i M) (hx : x < 8) (h1 : sdM l 21 x) (h2 : sdM l 22 x) : ∃ M2, tB4 (nI x) r4 M = some M2 ∧ MF l D f i M2 ∧ EYl l M M2 := by
  unfold tB4
  rw [mMust_f h]
  exact mB5f h hx h1 h2
theorem mB3f {f i x : Nat} {r4 : Int32} {M : Hp} (h : MF l D f i M) (hx : x < 8) (h0 : sdM l 20 x) (h1 : sdM l 21 x) (h2 : sdM l 22 x) : ∃ M2, tB3 (nI x) r4 M = some M2 ∧ MF l D f i M2 ∧ EYl l M M2 := by
  unfold tB3
  rw [ml_33 h.1]
  simp only [ob]
  rw [mNumb_f h]
  simp only [obp]
  rw [asI_n (by rw [mn_20]; exact hx) (by omega)]
  simp only [ob]
  obtain ⟨M2, a1, a2, a3⟩ := mB4f (r4 := r4) (h.E (G2 := sI M 20 x 0) rfl (fun k hk => sI_ne (by omega))) hx h1 h2
  exact ⟨M2, a1, a2, (EYl.s h0).tr a3⟩
theorem jBridge (hD : TKo D) (hX : BXs t D p N T NM Gx) (hM : BMs l D p N T NM cl br co Gm) (hJ : BJ l p N T NM cl br co) (hk : D.1 p = 23) : TOK t l D p Gx Gm (fX6_readBridge SHX Gx 1) (fX11_tellOne SHM Gm 0) := by
  have ht := hX.1.1.1
  have hl := hJ.1
  have hcn := hJ.2.2.1
  have hcr := hJ.2.2.2.1
  have hu : 43 - t = 11 ∨ 43 - t = 32 := by omega
  have eM : fX11_tellOne SHM Gm 0 = (fX11_roomFor SHM Gm 0 (nI (T.1 3)) 4).bind fun G24 => if (G24.1 0 13) = 0 then (fX11_tellBridge SHM G24 0).bind fun G27 => some G27 else some G24 := by
    unfold fX11_tellOne
    rw [ml_5 hM.1.1]
    simp only [ob]
    rw [mKd hM.1, hk]
    simp only [ob]
    rw [if_neg (show ¬ nI 23 = 20 by decide), if_neg (show ¬ nI 23 = 21 by decide), if_neg (show ¬ nI 23 = 22 by decide), if_pos (show nI 23 = 23 from rfl), ml_31 hM.1.1]
    simp only [ob]
    rw [hM.1.2.2.2.2.2.2.2.2, aI_n (by rw [mn_18]; omega) (by omega), hM.2.2.2.1.2.2.2]
    rfl
  rw [eM]
  rcases jHead (i := 3) (c := T.1 3) (most := 4) (kk := 23) (a := 1) (b := 99) (w := 259) (m1 := 4) (la := 1) (lb := 99) hD hX hM hJ hk rfl (by decide) (hX.2.2.2.1 3 (by decide)) ⟨hcn.2.2.2.2.1, by decide⟩ rfl rfl rfl (by decide) (fun z => by omega) (ox := fX6_readBridge SHX Gx 1) rfl with ⟨X, f, i, M, o1, o2, o3, o4, o5, o6⟩ | ⟨hc, M24, r1, r2, r3, hh⟩
  · left
    rw [o4]
    simp only [ob]
    rw [if_neg o5.pos.2.1]
    exact ⟨X, f, i, M, o1, o2, o3, rfl, o5, o6.yl⟩
  · rw [r1]
    simp only [ob]
    rw [if_pos r2.2.2.2.2.1, obs]
    have hx : 4 * (1 - l) + T.1 3 < 8 := by omega
    have s19 : sdM l 19 (4 * (1 - l) + T.1 3) := by unfold sdM; omega
    have s20 : sdM l 20 (4 * (1 - l) + T.1 3) := by unfold sdM; omega
    have s21 : sdM l 21 (4 * (1 - l) + T.1 3) := by unfold sdM; omega
    have s22 : sdM l 22 (4 * (1 - l) + T.1 3) := by unfold sdM; omega
    have eB : fX11_tellBridge SHM M24 0 = bp (fX11_named SHM M24 0) fun r4 G5 => (ldA SHM G5 0 32 1).bind fun a6 => bp (fX11_bounded SHM G5 0 1 99) fun r7 G8 => (asI SHM G8 a6 (nI (4 * (1 - l) + T.1 3)) r7).bind fun G9 => tB3 (nI (4 * (1 - l) + T.1 3)) r4 G9 := by
      unfold fX11_tellBridge
      rw [ml_31 r2.1]
      simp only [ob]
      rw [r2.2.2.2.2.2.2.2.2, aI_n (by rw [mn_18]; omega) (by omega), r3.2 18 _ (by omega), hM.2.2.2.1.2.2.2]
      simp only [ob, obd]
      rw [side4 hl]
      rfl
    rw [eB]
    rcases hh with ⟨X, f, i, M5, o1, o2, o3, n1, n2, n3⟩ | ⟨N1, M5, n1, n2, n3, hh⟩
    · left
      rw [n1]
      simp only [obp]
      rw [ml_32 n2.1]
      simp only [ob]
      rw [mNumb_f n2]
      simp only [obp]
      rw [asI_n (by rw [mn_19]; exact hx) (by omega)]
      simp only [ob]
      obtain ⟨Mz, a1, a2, a3⟩ := mB3f (r4 := nI (p + 1)) (n2.E (G2 := sI M5 19 (4 * (1 - l) + T.1 3) 1) rfl (fun k hk => sI_ne (by omega))) hx s20 s21 s22
      exact ⟨X, f, i, Mz, o1, o2, o3, a1, a2, r3.yl.tr (n3.yl.tr ((EYl.s s19).tr a3))⟩
    · rw [n1]
      simp only [obp]
      rw [ml_32 n3.1]
      simp only [ob]
      rcases hh with ⟨X, f, i, v, M8, o1, o2, o3, v1, v2, v3⟩ | ⟨X10, N2, M8, o1, v1, v2, v3, x1, x2, x3, x4, hz, hok, hk1⟩
      · left
        rw [v1]
        simp only [obp]
        rw [asI_n (by rw [mn_19]; exact hx) (by omega)]
        simp only [ob]
        obtain ⟨Mz, a1, a2, a3⟩ := mB3f (r4 := nI (p + 1)) (v2.E (G2 := sI M8 19 (4 * (1 - l) + T.1 3) v) rfl (fun k hk => sI_ne (by omega))) hx s20 s21 s22
        exact ⟨X, f, i, Mz, o1, o2, o3, a1, a2, r3.yl.tr (n2.yl.tr (v3.yl.tr ((EYl.s s19).tr a3)))⟩
      · rw [v1, o1]
        simp only [obp]
        rw [asI_n (by rw [mn_19]; exact hx) (by omega), xl_rtext x1.1]
        simp only [ob]
        have e8 : Er0 Gm M8 := r3.tr (n2.tr v2)
        have f9 : EYl l Gm (sI M8 19 (4 * (1 - l) + T.1 3) (nI (D.2.2.1 (p + 2)))) := e8.yl.tr (EYl.s s19)
        have hM9 : MPs l D (p + 3) N2 (sI M8 19 (4 * (1 - l) + T.1 3) (nI (D.2.2.1 (p + 2)))) := v3.E rfl rfl (fun q k hq => sI_ne (by omega)) (fun k hk => sI_ne (by omega))
        have c10 : ∀ j, j < 4 → X10.1 (43 - t) j = nI (T.1 j) := fun j hj => (x4.2.2 _ j (by omega)).trans (hX.2.2.2.1 j hj)
        rw [xt_11 hu x1.1, c10 3 (by decide)]
        simp only [ob]
        rw [asI_n (by rw [xn_11 hu]; exact hc) (by omega), x2]
        simp only [ob]
        have hX15 : XP t D (p + 3) N2 (sI X10 (43 - t + 6) (T.1 3) (nI (D.2.2.1 (p + 2)))) := x1.txt (by omega)
        have fX15 : EXl t Gx (sI X10 (43 - t + 6) (T.1 3) (nI (D.2.2.1 (p + 2)))) := x4.xl.tr (EXl.s (by omega))
        unfold tB3
        rw [ml_33 hM9.1]
        simp only [ob]
        by_cases e2 : D.1 (p + 3) = 2 ∧ p + 3 < 400
        · obtain ⟨X17, u1, u2, u3, u4⟩ := xNumb_y (a := 0) (b := 99) (la := 0) (lb := 99) hD hX15 rfl rfl (by decide) e2.1 e2.2
          obtain ⟨M12, g1, g2, g3⟩ := mNumb_y (a := 0) (b := 99) (la := 0) (lb := 99) hD hM9 hok rfl rfl (by decide) e2.1 e2.2
          have hok3 : okN (p + 4) (ntp (badV D 0 99 (p + 3)) 5 (p + 3) N2) := hok.n (by decide)
          have hz3 : (ntp (badV D 0 99 (p + 3)) 5 (p + 3) N2).1 = 0 → N2.1 = 0 ∧ D.2.2.1 (p + 3) ≤ 99 := fun z => by
            obtain ⟨z1, z2⟩ := ntp_0 (by decide) z
            refine ⟨z1, ?_⟩
            unfold badV at z2
            rw [Bool.not_eq_false', Bool.and_eq_true, decide_eq_true_iff, decide_eq_true_iff] at z2
            exact z2.2
          rw [u1, g1]
          simp only [obp]
          rw [if_neg one_ne, xl_rtext u3.1, asI_n (by rw [mn_20]; exact hx) (by omega)]
          simp only [ob]
          have c17 : ∀ j, j < 4 → X17.1 (43 - t) j = nI (T.1 j) := fun j hj => (u2.2 _ j (by omega)).trans ((sI_ne (by omega)).trans (c10 j hj))
          rw [xt_12 hu u3.1, c17 3 (by decide)]
          simp only [ob]
          rw [asI_n (by rw [xn_12 hu]; exact hc) (by omega), u4]
          simp only [ob, obd]
          generalize hN3 : ntp (badV D 0 99 (p + 3)) 5 (p + 3) N2 = N3 at u3 g3 hok3 hz3
          have hX22 : XP t D (p + 4) N3 (sI X17 (43 - t + 7) (T.1 3) (nI (D.2.2.1 (p + 3)))) := u3.txt (by omega)
          have hX23 : XP t D (p + 4) N3 (sI (sI X17 (43 - t + 7) (T.1 3) (nI (D.2.2.1 (p + 3)))) 1 15 0) := by
            obtain ⟨q1, q2, q3, q4, q5, q6, q7⟩ := hX22
            exact ⟨q1, q2.E (fun q k hq => sI_ne (by omega)) rfl, q3, (sI_ne (by omega)).trans q4, (sI_ne (by omega)).trans q5, (sI_ne (by omega)).trans q6, fun z => (sI_ne (by omega)).trans (q7 z)⟩
          have fX23 : EXl t Gx (sI (sI X17 (43 - t + 7) (T.1 3) (nI (D.2.2.1 (p + 3)))) 1 15 0) := fX15.tr (u2.xl.tr ((EXl.s (by omega)).tr (EXl.s (Or.inl rfl))))
          have hM13 : MPs l D (p + 4) N3 (sI M12 20 (4 * (1 - l) + T.1 3) (nI (D.2.2.1 (p + 3)))) := g3.E rfl rfl (fun q k hq => sI_ne (by omega)) (fun k hk => sI_ne (by omega))
          have f13 : EYl l Gm (sI M12 20 (4 * (1 - l) + T.1 3) (nI (D.2.2.1 (p + 3)))) := f9.tr (g2.yl.tr (EYl.s s20))
          unfold tB4
          by_cases e5 : D.1 (p + 4) = 5 ∧ p + 4 < 400
          · obtain ⟨X25, w1, w2, w3⟩ := xPass_y (k := 5) (w := 61) hD hX23 rfl e5.1 (by decide) e5.2
            obtain ⟨M15, k1, k2, k3⟩ := mMust_y (k := 5) (w := 5) hD hM13 rfl e5.1 (by decide) e5.2
            rw [w1, k1]
            simp only [obp, ob]
            rw [if_neg one_ne]
            have fX25 : EXl t Gx X25 := fX23.tr w2.xl
            have f15 : EYl l Gm M15 := f13.tr k2.yl
            -- the reference's cells so far
            have g15 : ∀ q k, ¬ (q = 0 ∧ (k = 11 ∨ k = 13 ∨ k = 14 ∨ k = 15 ∨ k = 16)) → ¬ ((q = 19 ∨ q = 20) ∧ k = 4 * (1 - l) + T.1 3) → M15.1 q k = Gm.1 q k := fun q k a b => by
              rw [k2.2 q k a, sI_ne (by omega), g2.2 q k a, sI_ne (by omega)]; exact e8.2 q k a
            have g36 : M15.1 0 36 = nI cl := (g15 0 36 (by omega) (by omega)).trans hM.2.2.2.2.1.1
            unfold tB5
            rw [ml_34 k3.1]
            simp only [ob]
            rw [asI_n (by rw [mn_21]; exact hx) (by omega), g36]
            simp only [ob]
            have hM17 : MPs l D (p + 5) N3 (sI M15 21 (4 * (1 - l) + T.1 3) (nI cl)) := k3.E rfl rfl (fun q k hq => sI_ne (by omega)) (fun k hk => sI_ne (by omega))
            have f17 : EYl l Gm (sI M15 21 (4 * (1 - l) + T.1 3) (nI cl)) := f15.tr (EYl.s s21)
            rw [if_pos hM17.2.2.2.2.1]
            have hNM17 : MNm NM (sI M15 21 (4 * (1 - l) + T.1 3) (nI cl)) := by
              obtain ⟨w1, w2, w3, w4⟩ := hM.2.2.1
              refine ⟨((sI_ne (by omega)).trans (g15 0 20 (by omega) (by omega))).trans w1, w2, w3, fun j hj => ⟨?_, ((sI_ne (by omega)).trans (g15 9 j (by omega) (by omega))).trans (w4 j hj).2⟩⟩
              show M15.2.1 8 j = _
              rw [k2.1]
              show M12.2.1 8 j = _
              rw [g2.1]
              show M8.2.1 8 j = _
              rw [e8.1]; exact (w4 j hj).1
            have x25 : ∀ q k, q ≠ 1 → ¬ ((q = 43 - t + 6 ∨ q = 43 - t + 7) ∧ k = T.1 3) → X25.1 q k = Gx.1 q k := fun q k a b => by
              rw [w2.2 q k (by omega), sI_ne (by omega), sI_ne (by omega), u2.2 q k (by omega), sI_ne (by omega)]; exact x4.2.2 q k a
            have j25 : ∀ q, q ≠ 8 → X25.2.1 q = Gx.2.1 q := fun q a => by
              rw [w2.1]
              show X17.2.1 q = _
              rw [u2.1]; exact x4.2.1 q a
            have hXC : XC t D (p + 5) N3 (trs NM) 0 [] X25 := ⟨w3, hX.2.2.1.E (j25 9 (by decide)), by rw [x25 _ _ (by omega) (by omega), hX.2.2.2.1 0 (by decide), hcn.1], (w2.2 1 15 (by omega)).trans sI_same, fun s hs => ⟨rfl, fun j hj => absurd hj (by omega)⟩⟩
            obtain ⟨r, q1, q2, hh⟩ := jClause (c0 := cl) hD hl (by omega) hXC hM17 hNM17 ((sI_ne (by omega)).trans g36) (by omega) (hok3.s (by omega))
            have fr : EYl l Gm r := f17.tr (q2.yl (by omega))
            rw [q1]
            simp only [ob]
            rcases hh with ⟨X28, f, i, y1, y2, y3, y4⟩ | ⟨p2, U, N4, y1, y2, y3, y4, y5, y6, y7, y8, hh⟩
            · left
              obtain ⟨a1, a2⟩ := mJ74f (r4 := nI (p + 1)) y4 hx
              rw [y1, a1]
              exact ⟨X28, f, i, _, rfl, y2, fX25.tr y3.xl, rfl, a2, fr.tr (EYl.s s22)⟩
            · have hM2 : MPs l D p2 N4 (sI r 22 (4 * (1 - l) + T.1 3) (nI (cl + U.length))) := y2.E rfl rfl (fun q k hq => sI_ne (by omega)) (fun k hk => sI_ne (by omega))
              unfold fX11_tellBridge_J74
              rw [ml_35 y2.1]
              simp only [ob]
              rw [asI_n (by rw [mn_22]; exact hx) (by omega), y3]
              simp only [ob]
              rcases hh with ⟨d1, d2, X28, d3, d4, d5⟩ | ⟨d1, X28, d3, d4, d5⟩
              · right
                have hNM2 : MNm NM (sI r 22 (4 * (1 - l) + T.1 3) (nI (cl + U.length))) := by
                  obtain ⟨w1, w2, w3, w4⟩ := q2.nm hNM17
                  exact ⟨(sI_ne (by omega)).trans w1, w2, w3, fun j hj => ⟨(w4 j hj).1, (sI_ne (by omega)).trans (w4 j hj).2⟩⟩
                obtain ⟨M4, v1', v2', v3', v4'⟩ := mEnds_y (b := false) (at' := -1) hD hM2 hNM2 (by omega) (show p + 1 < p2 by omega) hk1 (by rw [if_neg (by decide)]) d1 d2
                rw [v1', d3]
                simp only [ob, obp]
                rw [if_neg one_ne, v3'.2.2.2.2.1, if_pos rfl, ml_31 v3'.1, xl_1_14 d4.1.1, xl_rtext d4.1.1]
                simp only [ob, obd]
                -- the reference's cells at the end
                have g4 : ∀ q k, q ≠ 9 → q ≠ 35 → q ≠ 23 → ¬ (q = 0 ∧ ((11 ≤ k ∧ k ≤ 16 ∧ k ≠ 12) ∨ k = 20 ∨ k = 36 ∨ k = 52)) → ¬ ((19 ≤ q ∧ q ≤ 22) ∧ k = 4 * (1 - l) + T.1 3) → M4.1 q k = Gm.1 q k := fun q k a b c d e => by
                  rw [v2'.2.2 q k a (by omega), sI_ne (by omega), q2.2 q k (by omega) b (by omega), sI_ne (by omega)]; exact g15 q k (by omega) (by omega)
                have m18 : M4.1 18 (1 - l) = nI (T.1 3) := (g4 _ _ (by decide) (by decide) (by decide) (by omega) (by omega)).trans hM.2.2.2.1.2.2.2
                have x28 : ∀ q k, q ≠ 1 → ¬ ((q = 43 - t + 6 ∨ q = 43 - t + 7) ∧ k = T.1 3) → X28.1 q k = Gx.1 q k := fun q k a b => (d5.2.2 q k (by omega)).trans (x25 q k a b)
                have j28 : ∀ q, q ≠ 8 → q ≠ 10 → X28.2.1 q = Gx.2.1 q := fun q a b => (d5.2.1 q b).trans (j25 q a)
                rw [mCount v3'.2.2.2.2.2.2.2.2 hl mn_18 m18, xt_13 hu d4.1.1, x28 _ _ (by omega) (by omega), hX.2.2.2.1 3 (by decide)]
                simp only [ob]
                rw [cpJ4 (by rw [xnn_10]; omega) (by rw [xn_13 hu]; omega) (by omega)]
                simp only [ob]
                have lx34 : LX t (rJ X28 (43 - t + 8) (va_cpy (X28.2.1 10) (X28.2.1 (43 - t + 8)) 0 (T.1 3 * 4) 4)) := d4.1.1
                rw [xl_rtext lx34]
                simp only [ob]
                have e34 : (rJ X28 (43 - t + 8) (va_cpy (X28.2.1 10) (X28.2.1 (43 - t + 8)) 0 (T.1 3 * 4) 4)).1 (43 - t) 3 = nI (T.1 3) := (x28 _ _ (by omega) (by omega)).trans (hX.2.2.2.1 3 (by decide))
                rw [e34, nI_1]
                have hX36 : XP t D (p2 + 1) N4 (sI (rJ X28 (43 - t + 8) (va_cpy (X28.2.1 10) (X28.2.1 (43 - t + 8)) 0 (T.1 3 * 4) 4)) (43 - t) 3 (nI (T.1 3 + 1))) := by
                  obtain ⟨q1, q2, q3, q4, q5, q6, q7⟩ := d4.1
                  exact ⟨q1, q2.E (fun q k hq => sI_ne (by omega)) (rJ_o (by omega)), q3, (sI_ne (by omega)).trans q4, (sI_ne (by omega)).trans q5, (sI_ne (by omega)).trans q6, fun z => (sI_ne (by omega)).trans (q7 z)⟩
                have fX36 : EXl t Gx (sI (rJ X28 (43 - t + 8) (va_cpy (X28.2.1 10) (X28.2.1 (43 - t + 8)) 0 (T.1 3 * 4) 4)) (43 - t) 3 (nI (T.1 3 + 1))) := fX25.tr (d5.xl.tr ((show EXl t X28 (rJ X28 (43 - t + 8) (va_cpy (X28.2.1 10) (X28.2.1 (43 - t + 8)) 0 (T.1 3 * 4) 4)) from ⟨fun _ _ _ => rfl, fun q _ _ _ a => rJ_o a, fun _ _ _ _ => rfl⟩).tr (EXl.s (by omega))))
                have hM7 : MPs l D (p2 + 1) N4 (sI M4 18 (1 - l) (nI (T.1 3 + 1))) := v3'.E rfl rfl (fun q k hq => sI_ne (by omega)) (fun k hk => sI_ne (by omega))
                have cn : ∀ j, j < 4 → ∀ q2, (j = 0 ∧ q2 = 10) ∨ (j = 1 ∧ q2 = 11) ∨ (j = 2 ∧ q2 = 14) ∨ (j = 3 ∧ q2 = 18) → (sI M4 18 (1 - l) (nI (T.1 3 + 1))).1 q2 (1 - l) = nI (tN T.1 3 (T.1 3 + 1) j) := fun j hj q2 hq2 => by
                  by_cases ej : j = 3
                  · have : q2 = 18 := by omega
                    rw [this, sI_same, ej, tN_s]
                  · rw [sI_ne (by omega), tN_n ej, g4 q2 _ (by omega) (by omega) (by omega) (by omega) (by omega)]
                    rcases hq2 with ⟨rfl, rfl⟩ | ⟨rfl, rfl⟩ | ⟨rfl, rfl⟩ | ⟨rfl, rfl⟩
                    · exact hM.2.2.2.1.1
                    · exact hM.2.2.2.1.2.1
                    · exact hM.2.2.2.1.2.2.1
                    · exact absurd rfl ej
                have hf0 : ∀ k, k ≠ 36 → ¬ (11 ≤ k ∧ k ≤ 16 ∧ k ≠ 12) → k ≠ 20 → k ≠ 52 → (sI M4 18 (1 - l) (nI (T.1 3 + 1))).1 0 k = Gm.1 0 k := fun k _ _ _ _ => (sI_ne (by omega)).trans (g4 0 k (by decide) (by decide) (by decide) (by omega) (by omega))
                refine ⟨(sI (rJ X28 (43 - t + 8) (va_cpy (X28.2.1 10) (X28.2.1 (43 - t + 8)) 0 (T.1 3 * 4) 4)) (43 - t) 3 (nI (T.1 3 + 1))), (sI M4 18 (1 - l) (nI (T.1 3 + 1))), p2 + 1, N4, (tN T.1 3 (T.1 3 + 1), tR (tR T.2.1 5 (T.1 3) (D.2.2.1 (p + 2))) 6 (T.1 3) (D.2.2.1 (p + 3)), tF T.2.2.1 (T.1 3) (U.map cmk), T.2.2.2), NM ++ [(D.2.2.2.1 (p + 1), false)], cl + U.length, br, co, rfl, rfl, by omega, ⟨hX36, ?_, ?_, fun j hj => ?_, fun z => ?_⟩, fX36, ⟨hM7, ?_, ?_, ⟨cn 0 (by decide) 10 (by omega), cn 1 (by decide) 11 (by omega), cn 2 (by decide) 14 (by omega), cn 3 (by decide) 18 (by omega)⟩, ⟨?_, ?_, ?_⟩, fun z => ?_⟩, fr.tr ((EYl.s s22).tr (v2'.yl.tr (EYl.s (by unfold sdM; omega)))), hl, y7.s (by omega), ?_, by omega, fun z => ?_⟩
                · rw [List.map_append]
                  refine x3.E ?_ ?_
                  · rw [sI_ne (by omega)]
                    show X28.1 1 12 = _
                    rw [d5.2.2 1 12 (by omega), w2.2 1 12 (by omega), sI_ne (by omega), sI_ne (by omega), u2.2 1 12 (by omega), sI_ne (by omega)]
                  · show (rJ X28 (43 - t + 8) (va_cpy (X28.2.1 10) (X28.2.1 (43 - t + 8)) 0 (T.1 3 * 4) 4)).2.1 8 = _
                    rw [rJ_o (by omega), d5.2.1 8 (by decide), w2.1]
                    show X17.2.1 8 = _
                    rw [u2.1]
                    rfl
                · rw [trs_snoc, if_neg (by decide)]
                  refine hX.2.2.1.E ?_
                  show (rJ X28 (43 - t + 8) (va_cpy (X28.2.1 10) (X28.2.1 (43 - t + 8)) 0 (T.1 3 * 4) 4)).2.1 9 = _
                  rw [rJ_o (by omega)]; exact j28 9 (by decide) (by decide)
                · show _ = nI (tN T.1 3 (T.1 3 + 1) j)
                  by_cases ej : j = 3
                  · rw [ej, sI_same, tN_s]
                  · rw [sI_ne (Or.inr ej), tN_n ej]; exact (x28 _ _ (by omega) (by omega)).trans (hX.2.2.2.1 j hj)
                · obtain ⟨z1, z2⟩ := y5 z
                  obtain ⟨z3, z4⟩ := hz3 z1
                  refine XT_g (G := Gx) (hX.2.2.2.2 (hz z3).1) (fun q k a b c d => ?_) (fun b s hb hs => ?_) sI_same ?_ ?_ (fun s hs => ?_)
                  · rw [sI_ne (by omega)]; exact x28 q k (by omega) d
                  · show bitX ((rJ X28 (43 - t + 8) (va_cpy (X28.2.1 10) (X28.2.1 (43 - t + 8)) 0 (T.1 3 * 4) 4)).2.1 (43 - t + 8)) b s = _
                    rw [rJ_s2, cpy_bitn hs hb, j28 _ (by omega) (by omega)]
                  · rw [sI_ne (by omega)]
                    show X28.1 _ _ = _
                    rw [d5.2.2 _ _ (by omega), w2.2 _ _ (by omega), sI_ne (by omega), sI_ne (by omega), u2.2 _ _ (by omega), sI_same]
                  · rw [sI_ne (by omega)]
                    show X28.1 _ _ = _
                    rw [d5.2.2 _ _ (by omega), w2.2 _ _ (by omega), sI_ne (by omega), sI_same]
                  · show bitX ((rJ X28 (43 - t + 8) (va_cpy (X28.2.1 10) (X28.2.1 (43 - t + 8)) 0 (T.1 3 * 4) 4)).2.1 (43 - t + 8)) _ s = _
                    rw [rJ_s2, cpy_bit hs, (d4.2.2.2.2 s hs).2 0 (by decide)]
                    exact stk_ev z2
                · exact (hf0 12 (by decide) (by decide) (by decide) (by decide)).trans hM.2.1
                · obtain ⟨w1, w2, w3, w4⟩ := v4'
                  exact ⟨(sI_ne (by omega)).trans w1, w2, w3, fun j hj => ⟨(w4 j hj).1, (sI_ne (by omega)).trans (w4 j hj).2⟩⟩
                · rw [sI_ne (by omega), v2'.2.2 0 36 (by decide) (by decide), sI_ne (by omega)]; exact y3
                · exact (hf0 42 (by decide) (by decide) (by decide) (by decide)).trans hM.2.2.2.2.1.2.1
                · exact (hf0 48 (by decide) (by decide) (by decide) (by decide)).trans hM.2.2.2.2.1.2.2
                · obtain ⟨z1, z2⟩ := y5 z
                  obtain ⟨z3, z4⟩ := hz3 z1
                  have hln : (U.map cmk).length = U.length := List.length_map _
                  have m23 : ∀ j, (sI M4 18 (1 - l) (nI (T.1 3 + 1))).1 23 j = r.1 23 j := fun j => by
                    rw [sI_ne (by omega), v2'.2.2 23 j (by decide) (by omega), sI_ne (by omega)]
                  have mr : ∀ q, 19 ≤ q → q ≤ 21 → (sI M4 18 (1 - l) (nI (T.1 3 + 1))).1 q (4 * (1 - l) + T.1 3) = (sI M15 21 (4 * (1 - l) + T.1 3) (nI cl)).1 q (4 * (1 - l) + T.1 3) := fun q _ _ => by
                    rw [sI_ne (by omega), v2'.2.2 q _ (by omega) (by omega), sI_ne (by omega), q2.2 q _ (by omega) (by omega) (by omega)]
                  refine MTc_g (G := Gm) (c0 := cl) (hM.2.2.2.2.2 (hz z3).1) (by omega) (fun q k a b c d e f => ?_) (fun j h1 h2 => ?_) sI_same ?_ ?_ ?_ ?_ ⟨by omega, by rw [hln]; omega⟩ (fun i hi => ?_)
                  · rw [sI_ne (by omega)]; exact g4 q k b d c (by omega) f
                  · rw [m23, q2.2 23 j (by omega) (by omega) (by omega), sI_ne (by omega)]; exact g15 23 j (by omega) (by omega)
                  · rw [mr 19 (by omega) (by omega), sI_ne (by omega), k2.2 19 _ (by omega), sI_ne (by omega), g2.2 19 _ (by omega), sI_same]
                  · rw [mr 20 (by omega) (by omega), sI_ne (by omega), k2.2 20 _ (by omega), sI_same]
                  · rw [mr 21 (by omega) (by omega), sI_same]
                  · rw [sI_ne (by omega), v2'.2.2 22 _ (by omega) (by omega), sI_same, hln]
                  · rw [hln] at hi
                    rw [m23, y4 i hi, gd_cmk hi]
                · show tN T.1 3 (T.1 3 + 1) 0 = (trs (NM ++ [(D.2.2.2.1 (p + 1), false)])).length ∧ tN T.1 3 (T.1 3 + 1) 0 ≤ 8 ∧ tN T.1 3 (T.1 3 + 1) 1 ≤ 7 ∧ tN T.1 3 (T.1 3 + 1) 2 ≤ 4 ∧ tN T.1 3 (T.1 3 + 1) 3 ≤ 4 ∧ (NM ++ [(D.2.2.2.1 (p + 1), false)]).length = tN T.1 3 (T.1 3 + 1) 0 + tN T.1 3 (T.1 3 + 1) 1 + tN T.1 3 (T.1 3 + 1) 2 + tN T.1 3 (T.1 3 + 1) 3
                  rw [trs_snoc, if_neg (by decide), List.length_append, tN_s, tN_n (by decide), tN_n (by decide), tN_n (by decide)]
                  show _ ∧ _ ∧ _ ∧ _ ∧ _ ∧ NM.length + 1 = _
                  omega
                · obtain ⟨z1, z2⟩ := y5 z
                  obtain ⟨z3, z4⟩ := hz3 z1
                  obtain ⟨z5, z6⟩ := hz z3
                  obtain ⟨⟨w1, w2, w3, w4, w5, w6⟩, w7, w8, w9, w10⟩ := hJ.2.2.2.2 z5
                  refine ⟨⟨w1, w2, w3, hc, w5, w6⟩, fun a ha => ?_, fun a ha => ?_, fun a ha => ?_, w10⟩
                  · show tR (tR T.2.1 5 (T.1 3) (D.2.2.1 (p + 2))) 6 (T.1 3) (D.2.2.1 (p + 3)) 0 a ≤ 99 ∧ tR (tR T.2.1 5 (T.1 3) (D.2.2.1 (p + 2))) 6 (T.1 3) (D.2.2.1 (p + 3)) 1 a < 2 ^ T.1 0
                    rw [tR_n (by omega), tR_n (by omega), tR_n (by omega), tR_n (by omega)]; exact w7 a ha
                  · show tR (tR T.2.1 5 (T.1 3) (D.2.2.1 (p + 2))) 6 (T.1 3) (D.2.2.1 (p + 3)) 2 a ≤ 99 ∧ tR (tR T.2.1 5 (T.1 3) (D.2.2.1 (p + 2))) 6 (T.1 3) (D.2.2.1 (p + 3)) 3 a < 2 ^ T.1 0 ∧ tR (tR T.2.1 5 (T.1 3) (D.2.2.1 (p + 2))) 6 (T.1 3) (D.2.2.1 (p + 3)) 4 a < 2 ^ T.1 0
                    rw [tR_n (by omega), tR_n (by omega), tR_n (by omega), tR_n (by omega), tR_n (by omega), tR_n (by omega)]; exact w8 a ha
                  · have ha' : a < T.1 3 + 1 := ha
                    show (1 ≤ tR (tR T.2.1 5 (T.1 3) (D.2.2.1 (p + 2))) 6 (T.1 3) (D.2.2.1 (p + 3)) 5 a ∧ tR (tR T.2.1 5 (T.1 3) (D.2.2.1 (p + 2))) 6 (T.1 3) (D.2.2.1 (p + 3)) 5 a ≤ 99) ∧ tR (tR T.2.1 5 (T.1 3) (D.2.2.1 (p + 2))) 6 (T.1 3) (D.2.2.1 (p + 3)) 6 a ≤ 99 ∧ okC (tF T.2.2.1 (T.1 3) (U.map cmk) a) 0
                    by_cases ea : a = T.1 3
                    · rw [ea, tR_n (by omega), tR_s, tR_s, tF_s]; exact ⟨z6, z4, y6⟩
                    · rw [tR_n (by omega), tR_n (by omega), tR_n (by omega), tR_n (by omega), tF_n ea]; exact w9 a (by omega)
              · left
                obtain ⟨M4, v1', v2', v3'⟩ := mEnds_n (i := nI (p + 1)) (at' := -1) hD hM2 d1
                rw [v1', d3]
                simp only [ob]
                rw [if_neg v3'.pos.2.1]
                exact ⟨X28, _, p2, M4, rfl, d4, fX25.tr d5.xl, rfl, v3', fr.tr ((EYl.s s22).tr v2'.yl)⟩
          · left
            obtain ⟨X25, w1, w2, w3⟩ := xPass_n (k := 5) (w := 61) hD hX23 rfl (by decide) e5
            obtain ⟨M15, k1, k2, k3⟩ := mMust_n (k := 5) (w := 5) hD hM13 rfl (by decide) e5
            obtain ⟨Mz, a1, a2, a3⟩ := mB5f (r4 := nI (p + 1)) k3 hx s21 s22
            rw [w1, k1]
            exact ⟨X25, _, p + 4, Mz, rfl, w3, fX23.tr w2.xl, a1, a2, f13.tr (k2.yl.tr a3)⟩
        · left
          obtain ⟨X17, u1, u2, u3⟩ := xNumb_n (la := 0) (lb := 99) hD hX15 e2
          obtain ⟨v, M12, g1, g2, g3⟩ := mNumb_n (la := 0) (lb := 99) hD hM9 hok e2
          rw [u1, g1]
          simp only [obp]
          rw [asI_n (by rw [mn_20]; exact hx) (by omega)]
          simp only [ob]
          obtain ⟨Mz, a1, a2, a3⟩ := mB4f (r4 := nI (p + 1)) (g3.E (G2 := sI M12 20 (4 * (1 - l) + T.1 3) v) rfl (fun k hk => sI_ne (by omega))) hx s21 s22
          exact ⟨X17, _, p + 3, Mz, rfl, u3, fX15.tr u2.xl, a1, a2, f9.tr (g2.yl.tr ((EYl.s s20).tr a3))⟩
end BR
