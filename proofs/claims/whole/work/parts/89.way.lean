/-! TELLS: 'way'. -/
theorem XT_w {u a b d : Nat} {T : Txt} {G G2 : Hp} (h : XT u T G) (e0 : ∀ q k, u ≤ q → q ≤ u + 19 → ¬ (q = u ∧ k = 2) → ¬ ((q = u + 3 ∨ q = u + 4 ∨ q = u + 5) ∧ k = T.1 2) → G2.1 q k = G.1 q k) (e8 : G2.2.1 (u + 8) = G.2.1 (u + 8)) (v0 : G2.1 u 2 = nI (T.1 2 + 1)) (v1 : G2.1 (u + 3) (T.1 2) = nI a) (v2 : G2.1 (u + 4) (T.1 2) = nI b) (v3 : G2.1 (u + 5) (T.1 2) = nI d) : XT u (tN T.1 2 (T.1 2 + 1), tR (tR (tR T.2.1 2 (T.1 2) a) 3 (T.1 2) b) 4 (T.1 2) d, T.2.2) G2 := by
  obtain ⟨h1, h2, h3, h4, h5, h6, h7⟩ := h
  refine ⟨fun i hi => ?_, fun w hw => ?_, fun j hj => ?_, fun w hw => ?_, XL_fr h5 (fun q k hq => e0 q k (by omega) (by omega) (by omega) (by omega)), XL_fr h6 (fun q k hq => e0 q k (by omega) (by omega) (by omega) (by omega)), XL_fr h7 (fun q k hq => e0 q k (by omega) (by omega) (by omega) (by omega))⟩
  · show _ = nI (tN T.1 2 (T.1 2 + 1) i)
    by_cases ei : i = 2
    · rw [ei, tN_s]; exact v0
    · rw [tN_n ei, e0 u i (by omega) (by omega) (by omega) (by omega)]; exact h1 i hi
  · have hw' : w < tN T.1 2 (T.1 2 + 1) 1 := hw
    rw [tN_n (by decide)] at hw'
    show _ = nI (tR (tR (tR T.2.1 2 (T.1 2) a) 3 (T.1 2) b) 4 (T.1 2) d 0 w) ∧ _ = nI (tR (tR (tR T.2.1 2 (T.1 2) a) 3 (T.1 2) b) 4 (T.1 2) d 1 w)
    rw [tR_n (by omega), tR_n (by omega), tR_n (by omega), tR_n (by omega), tR_n (by omega), tR_n (by omega), e0 _ _ (by omega) (by omega) (by omega) (by omega), e0 _ _ (by omega) (by omega) (by omega) (by omega)]
    exact h2 w hw'
  · have hj' : j < tN T.1 2 (T.1 2 + 1) 2 := hj
    rw [tN_s] at hj'
    show _ = nI (tR (tR (tR T.2.1 2 (T.1 2) a) 3 (T.1 2) b) 4 (T.1 2) d 2 j) ∧ _ = nI (tR (tR (tR T.2.1 2 (T.1 2) a) 3 (T.1 2) b) 4 (T.1 2) d 3 j) ∧ _ = nI (tR (tR (tR T.2.1 2 (T.1 2) a) 3 (T.1 2) b) 4 (T.1 2) d 4 j)
    by_cases ej : j = T.1 2
    · rw [ej, tR_n (show ¬ (2 = 4 ∧ _) by omega), tR_n (show ¬ (2 = 3 ∧ _) by omega), tR_s, tR_n (show ¬ (3 = 4 ∧ _) by omega), tR_s, tR_s]; exact ⟨v1, v2, v3⟩
    · rw [tR_n (by omega), tR_n (by omega), tR_n (by omega), tR_n (by omega), tR_n (by omega), tR_n (by omega), tR_n (by omega), tR_n (by omega), tR_n (by omega), e0 _ _ (by omega) (by omega) (by omega) (by omega), e0 _ _ (by omega) (by omega) (by omega) (by omega), e0 _ _ (by omega) (by omega) (by omega) (by omega)]
      exact h3 j (by omega)
  · have hw' : w < tN T.1 2 (T.1 2 + 1) 3 := hw
    rw [tN_n (by decide)] at hw'
    show _ = nI (tR (tR (tR T.2.1 2 (T.1 2) a) 3 (T.1 2) b) 4 (T.1 2) d 5 w) ∧ _ = nI (tR (tR (tR T.2.1 2 (T.1 2) a) 3 (T.1 2) b) 4 (T.1 2) d 6 w) ∧ ∀ s, s < 256 → bitX (G2.2.1 (u + 8)) w s = evC (T.2.2.1 w) s
    rw [tR_n (by omega), tR_n (by omega), tR_n (by omega), tR_n (by omega), tR_n (by omega), tR_n (by omega), e8, e0 _ _ (by omega) (by omega) (by omega) (by omega), e0 _ _ (by omega) (by omega) (by omega) (by omega)]
    exact h4 w hw'
theorem MTc_w {s cl br co a b d : Nat} {T : Txt} {G G2 : Hp} (h : MTc s cl br co T G) (e0 : ∀ q k, q ≠ 0 → q ≠ 9 → ¬ (q = 14 ∧ k = s) → ¬ ((q = 15 ∨ q = 16 ∨ q = 17) ∧ k = 4 * s + T.1 2) → G2.1 q k = G.1 q k) (v0 : G2.1 14 s = nI (T.1 2 + 1)) (v1 : G2.1 15 (4 * s + T.1 2) = nI a) (v2 : G2.1 16 (4 * s + T.1 2) = nI b) (v3 : G2.1 17 (4 * s + T.1 2) = nI d) : MTc s cl br co (tN T.1 2 (T.1 2 + 1), tR (tR (tR T.2.1 2 (T.1 2) a) 3 (T.1 2) b) 4 (T.1 2) d, T.2.2) G2 := by
  obtain ⟨⟨a1, a2, a3, a4, a5, a6⟩, h2, h3, h4, h5⟩ := h
  have e : ∀ q k, q ≠ 0 → q ≠ 9 → q ≠ 14 → q ≠ 15 → q ≠ 16 → q ≠ 17 → G2.1 q k = G.1 q k := fun q k _ _ _ _ _ _ => e0 q k (by omega) (by omega) (by omega) (by omega)
  refine ⟨⟨?_, ?_, ?_, ?_, ?_, ?_⟩, fun w hw => ?_, fun j hj => ?_, fun w hw => ?_, fun k hk => MLc_fr (h5 k hk) (Nat.le_refl _) (Nat.le_refl _) (fun q2 hq => e q2 _ (by omega) (by omega) (by omega) (by omega) (by omega) (by omega)) (fun q2 j _ _ _ _ => e q2 j (by omega) (by omega) (by omega) (by omega) (by omega) (by omega)) (fun q2 j _ _ _ => e q2 j (by omega) (by omega) (by omega) (by omega) (by omega) (by omega))⟩
  · show _ = nI (tN T.1 2 (T.1 2 + 1) 0); rw [tN_n (by decide)]; exact (e _ _ (by decide) (by decide) (by decide) (by decide) (by decide) (by decide)).trans a1
  · show _ = nI (tN T.1 2 (T.1 2 + 1) 1); rw [tN_n (by decide)]; exact (e _ _ (by decide) (by decide) (by decide) (by decide) (by decide) (by decide)).trans a2
  · show _ = nI (tN T.1 2 (T.1 2 + 1) 2); rw [tN_s]; exact v0
  · show _ = nI (tN T.1 2 (T.1 2 + 1) 3); rw [tN_n (by decide)]; exact (e _ _ (by decide) (by decide) (by decide) (by decide) (by decide) (by decide)).trans a4
  · show _ = nI (tN T.1 2 (T.1 2 + 1) 4); rw [tN_n (by decide)]; exact (e _ _ (by decide) (by decide) (by decide) (by decide) (by decide) (by decide)).trans a5
  · show _ = nI (tN T.1 2 (T.1 2 + 1) 5); rw [tN_n (by decide)]; exact (e _ _ (by decide) (by decide) (by decide) (by decide) (by decide) (by decide)).trans a6
  · have hw' : w < tN T.1 2 (T.1 2 + 1) 1 := hw
    rw [tN_n (by decide)] at hw'
    show _ = nI (tR (tR (tR T.2.1 2 (T.1 2) a) 3 (T.1 2) b) 4 (T.1 2) d 0 w) ∧ _ = nI (tR (tR (tR T.2.1 2 (T.1 2) a) 3 (T.1 2) b) 4 (T.1 2) d 1 w)
    rw [tR_n (by omega), tR_n (by omega), tR_n (by omega), tR_n (by omega), tR_n (by omega), tR_n (by omega), e _ _ (by omega) (by omega) (by omega) (by omega) (by omega) (by omega), e _ _ (by omega) (by omega) (by omega) (by omega) (by omega) (by omega)]
    exact h2 w hw'
  · have hj' : j < tN T.1 2 (T.1 2 + 1) 2 := hj
    rw [tN_s] at hj'
    show _ = nI (tR (tR (tR T.2.1 2 (T.1 2) a) 3 (T.1 2) b) 4 (T.1 2) d 2 j) ∧ _ = nI (tR (tR (tR T.2.1 2 (T.1 2) a) 3 (T.1 2) b) 4 (T.1 2) d 3 j) ∧ _ = nI (tR (tR (tR T.2.1 2 (T.1 2) a) 3 (T.1 2) b) 4 (T.1 2) d 4 j)
    by_cases ej : j = T.1 2
    · rw [ej, tR_n (show ¬ (2 = 4 ∧ _) by omega), tR_n (show ¬ (2 = 3 ∧ _) by omega), tR_s, tR_n (show ¬ (3 = 4 ∧ _) by omega), tR_s, tR_s]; exact ⟨v1, v2, v3⟩
    · rw [tR_n (by omega), tR_n (by omega), tR_n (by omega), tR_n (by omega), tR_n (by omega), tR_n (by omega), tR_n (by omega), tR_n (by omega), tR_n (by omega), e0 _ _ (by omega) (by omega) (by omega) (by omega), e0 _ _ (by omega) (by omega) (by omega) (by omega), e0 _ _ (by omega) (by omega) (by omega) (by omega)]
      exact h3 j (by omega)
  · have hw' : w < tN T.1 2 (T.1 2 + 1) 3 := hw
    rw [tN_n (by decide)] at hw'
    obtain ⟨b1, b2', c, c1, c2', c3, c4⟩ := h4 w hw'
    refine ⟨?_, ?_, c, (e _ _ (by omega) (by omega) (by omega) (by omega) (by omega) (by omega)).trans c1, (e _ _ (by omega) (by omega) (by omega) (by omega) (by omega) (by omega)).trans c2', c3, fun i hi => (e _ _ (by omega) (by omega) (by omega) (by omega) (by omega) (by omega)).trans (c4 i hi)⟩
    · show _ = nI (tR (tR (tR T.2.1 2 (T.1 2) a) 3 (T.1 2) b) 4 (T.1 2) d 5 w)
      rw [tR_n (by omega), tR_n (by omega), tR_n (by omega), e _ _ (by omega) (by omega) (by omega) (by omega) (by omega) (by omega)]; exact b1
    · show _ = nI (tR (tR (tR T.2.1 2 (T.1 2) a) 3 (T.1 2) b) 4 (T.1 2) d 6 w)
      rw [tR_n (by omega), tR_n (by omega), tR_n (by omega), e _ _ (by omega) (by omega) (by omega) (by omega) (by omega) (by omega)]; exact b2'
section WY
variable {t l p cl br co : Nat} {D : TKd} {N : Nat × Nat} {T : Txt} {NM : List (List Nat × Bool)} {Gx Gm : Hp}
theorem mWay_f {f i : Nat} {x3 r4 : Int32} {M : Hp} (h : MF l D f i M) : ((iter (fun s : Hp => fX11_tellWay_S49 SHM 0 x3 r4 s) fuel M).bind fun u14 => bd u14 fun G13 => fX11_tellWay_J160 SHM G13 0 r4) = some M := by
  have eO : (fun s : Hp => fX11_tellWay_S49 SHM 0 x3 r4 s) M = some (.inr M) := by
    show fX11_tellWay_S49 SHM 0 x3 r4 M = _
    unfold fX11_tellWay_S49
    rw [if_neg h.pos.2.1]
  rw [iter_mono 1 fuel _ _ (iter_out eO) (by unfold fuel; omega)]
  simp only [ob, obd]
  unfold fX11_tellWay_J160
  rw [mEnds_f h]
  simp only [ob]
  rw [if_neg h.pos.2.1]
theorem jWay (hD : TKo D) (hX : BXs t D p N T NM Gx) (hM : BMs l D p N T NM cl br co Gm) (hJ : BJ l p N T NM cl br co) (hk : D.1 p = 22) : TOK t l D p Gx Gm (fX6_readWay SHX Gx 1) (fX11_tellOne SHM Gm 0) := by
  have ht := hX.1.1.1
  have hl := hJ.1
  have hcn := hJ.2.2.1
  have hu : 43 - t = 11 ∨ 43 - t = 32 := by omega
  have eM : fX11_tellOne SHM Gm 0 = (fX11_roomFor SHM Gm 0 (nI (T.1 2)) 4).bind fun G24 => if (G24.1 0 13) = 0 then (fX11_tellWay SHM G24 0).bind fun G27 => some G27 else some G24 := by
    unfold fX11_tellOne
    rw [ml_5 hM.1.1]
    simp only [ob]
    rw [mKd hM.1, hk]
    simp only [ob]
    rw [if_neg (show ¬ nI 22 = 20 by decide), if_neg (show ¬ nI 22 = 21 by decide), if_pos (show nI 22 = 22 from rfl), ml_27 hM.1.1]
    simp only [ob]
    rw [hM.1.2.2.2.2.2.2.2.2, aI_n (by rw [mn_14]; omega) (by omega), hM.2.2.2.1.2.2.1]
    rfl
  rw [eM]
  rcases jHead (i := 2) (c := T.1 2) (most := 4) (kk := 22) (a := 0) (b := 99) (w := 258) (m1 := 4) (la := 0) (lb := 99) hD hX hM hJ hk rfl (by decide) (hX.2.2.2.1 2 (by decide)) ⟨hcn.2.2.2.1, by decide⟩ rfl rfl rfl (by decide) (fun z => by omega) (ox := fX6_readWay SHX Gx 1) rfl with ⟨X, f, i, M, o1, o2, o3, o4, o5, o6⟩ | ⟨hc, M24, r1, r2, r3, hh⟩
  · left
    rw [o4]
    simp only [ob]
    rw [if_neg o5.pos.2.1]
    exact ⟨X, f, i, M, o1, o2, o3, rfl, o5, o6.yl⟩
  · rw [r1]
    simp only [ob]
    rw [if_pos r2.2.2.2.2.1, obs]
    have hx : 4 * (1 - l) + T.1 2 < 8 := by omega
    have s15 : sdM l 15 (4 * (1 - l) + T.1 2) := by unfold sdM; omega
    have s16 : sdM l 16 (4 * (1 - l) + T.1 2) := by unfold sdM; omega
    have s17 : sdM l 17 (4 * (1 - l) + T.1 2) := by unfold sdM; omega
    have eB : fX11_tellWay SHM M24 0 = bp (fX11_named SHM M24 0) fun r4 G5 => (ldA SHM G5 0 28 1).bind fun a6 => bp (fX11_bounded SHM G5 0 0 99) fun r7 G8 => (asI SHM G8 a6 (nI (4 * (1 - l) + T.1 2)) r7).bind fun G9 => (ldA SHM G9 0 29 1).bind fun a10 => (asI SHM G9 a10 (nI (4 * (1 - l) + T.1 2)) 0).bind fun G11 => (ldA SHM G11 0 30 1).bind fun a12 => (asI SHM G11 a12 (nI (4 * (1 - l) + T.1 2)) 0).bind fun G13 => (iter (fun s : Hp => fX11_tellWay_S49 SHM 0 (nI (4 * (1 - l) + T.1 2)) r4 s ) fuel (G13 : Hp)).bind (fun u16 => bd u16 fun G15 => fX11_tellWay_J160 SHM G15 0 r4) := by
      unfold fX11_tellWay
      rw [ml_27 r2.1]
      simp only [ob]
      rw [r2.2.2.2.2.2.2.2.2, aI_n (by rw [mn_14]; omega) (by omega), r3.2 14 _ (by omega), hM.2.2.2.1.2.2.1]
      simp only [ob, obd]
      rw [side4 hl]
    rw [eB]
    rcases hh with ⟨X, f, i, M5, o1, o2, o3, n1, n2, n3⟩ | ⟨N1, M5, n1, n2, n3, hh⟩
    · left
      rw [n1]
      simp only [obp]
      rw [ml_28 n2.1]
      simp only [ob]
      rw [mNumb_f n2]
      simp only [obp]
      rw [asI_n (by rw [mn_15]; exact hx) (by omega)]
      simp only [ob]
      have mf := n2.E (G2 := sI M5 15 (4 * (1 - l) + T.1 2) 0) rfl (fun k hk => sI_ne (by omega))
      rw [ml_29 mf.1]
      simp only [ob]
      rw [asI_n (by rw [mn_16]; exact hx) (by omega)]
      simp only [ob]
      have mf2 := mf.E (G2 := sI (sI M5 15 (4 * (1 - l) + T.1 2) 0) 16 (4 * (1 - l) + T.1 2) 0) rfl (fun k hk => sI_ne (by omega))
      rw [ml_30 mf2.1]
      simp only [ob]
      rw [asI_n (by rw [mn_17]; exact hx) (by omega)]
      simp only [ob]
      have mf3 := mf2.E (G2 := sI (sI (sI M5 15 (4 * (1 - l) + T.1 2) 0) 16 (4 * (1 - l) + T.1 2) 0) 17 (4 * (1 - l) + T.1 2) 0) rfl (fun k hk => sI_ne (by omega))
      rw [mWay_f mf3]
      exact ⟨X, f, i, _, o1, o2, o3, rfl, mf3, r3.yl.tr (n3.yl.tr ((EYl.s s15).tr ((EYl.s s16).tr (EYl.s s17))))⟩
    · rw [n1]
      simp only [obp]
      rw [ml_28 n3.1]
      simp only [ob]
      rcases hh with ⟨X, f, i, v, M8, o1, o2, o3, v1, v2, v3⟩ | ⟨X10, N2, M8, o1, v1, v2, v3, x1, x2, x3, x4, hz, hok, hk1⟩
      · left
        rw [v1]
        simp only [obp]
        rw [asI_n (by rw [mn_15]; exact hx) (by omega)]
        simp only [ob]
        have mf := v2.E (G2 := sI M8 15 (4 * (1 - l) + T.1 2) v) rfl (fun k hk => sI_ne (by omega))
        rw [ml_29 mf.1]
        simp only [ob]
        rw [asI_n (by rw [mn_16]; exact hx) (by omega)]
        simp only [ob]
        have mf2 := mf.E (G2 := sI (sI M8 15 (4 * (1 - l) + T.1 2) v) 16 (4 * (1 - l) + T.1 2) 0) rfl (fun k hk => sI_ne (by omega))
        rw [ml_30 mf2.1]
        simp only [ob]
        rw [asI_n (by rw [mn_17]; exact hx) (by omega)]
        simp only [ob]
        have mf3 := mf2.E (G2 := sI (sI (sI M8 15 (4 * (1 - l) + T.1 2) v) 16 (4 * (1 - l) + T.1 2) 0) 17 (4 * (1 - l) + T.1 2) 0) rfl (fun k hk => sI_ne (by omega))
        rw [mWay_f mf3]
        exact ⟨X, f, i, _, o1, o2, o3, rfl, mf3, r3.yl.tr (n2.yl.tr (v3.yl.tr ((EYl.s s15).tr ((EYl.s s16).tr (EYl.s s17)))))⟩
      · rw [v1, o1]
        simp only [obp]
        have lm9 : LM (sI M8 15 (4 * (1 - l) + T.1 2) (nI (D.2.2.1 (p + 2)))) := v3.1
        have lm11 : LM (sI (sI M8 15 (4 * (1 - l) + T.1 2) (nI (D.2.2.1 (p + 2)))) 16 (4 * (1 - l) + T.1 2) 0) := v3.1
        rw [asI_n (by rw [mn_15]; exact hx) (by omega)]
        simp only [ob]
        rw [ml_29 lm9]
        simp only [ob]
        rw [asI_n (by rw [mn_16]; exact hx) (by omega)]
        simp only [ob]
        rw [ml_30 lm11]
        simp only [ob]
        rw [asI_n (by rw [mn_17]; exact hx) (by omega), xl_rtext x1.1]
        simp only [ob]
        have c10 : ∀ j, j < 4 → X10.1 (43 - t) j = nI (T.1 j) := fun j hj => (x4.2.2 _ j (by omega)).trans (hX.2.2.2.1 j hj)
        rw [xt_8 hu x1.1, c10 2 (by decide)]
        simp only [ob]
        rw [asI_n (by rw [xn_8 hu]; exact hc) (by omega), x2]
        simp only [ob]
        have hX15 : XP t D (p + 3) N2 (sI X10 (43 - t + 3) (T.1 2) (nI (D.2.2.1 (p + 2)))) := x1.txt (by omega)
        have hM11 : MPs l D (p + 3) N2 (sI (sI (sI M8 15 (4 * (1 - l) + T.1 2) (nI (D.2.2.1 (p + 2)))) 16 (4 * (1 - l) + T.1 2) 0) 17 (4 * (1 - l) + T.1 2) 0) := v3.E rfl rfl (fun q k hq => ((sI_ne (by omega)).trans ((sI_ne (by omega)).trans (sI_ne (by omega))))) (fun k hk => ((sI_ne (by omega)).trans ((sI_ne (by omega)).trans (sI_ne (by omega)))))
        have e8 : Er0 Gm M8 := r3.tr (n2.tr v2)
        have hNM11 : MNm NM (sI (sI (sI M8 15 (4 * (1 - l) + T.1 2) (nI (D.2.2.1 (p + 2)))) 16 (4 * (1 - l) + T.1 2) 0) 17 (4 * (1 - l) + T.1 2) 0) := by
          obtain ⟨w1, w2, w3, w4⟩ := hM.2.2.1.E e8
          exact ⟨((sI_ne (by omega)).trans ((sI_ne (by omega)).trans (sI_ne (by omega)))).trans w1, w2, w3, fun j hj => ⟨(w4 j hj).1, ((sI_ne (by omega)).trans ((sI_ne (by omega)).trans (sI_ne (by omega)))).trans (w4 j hj).2⟩⟩
        have hTn15 : XTn (trs NM) (sI X10 (43 - t + 3) (T.1 2) (nI (D.2.2.1 (p + 2)))) := hX.2.2.1.E (x4.2.1 9 (by decide))
        obtain ⟨o, k1, M2, k2, k3, hh⟩ := jGive (r4 := nI (p + 1)) (x := 4 * (1 - l) + T.1 2) hD hX15 hTn15 (by rw [sI_ne (by omega), c10 0 (by decide), hcn.1]) hM11 hNM11 hok (by omega) hx ((sI_ne (by omega)).trans sI_same) sI_same
        rw [k1]
        have fm : EYl l Gm M2 := e8.yl.tr ((EYl.s s15).tr ((EYl.s s16).tr ((EYl.s s17).tr (k3.yl ⟨s16, s17⟩))))
        rcases hh with ⟨X2, f, i, rfl, y1, y2, y3⟩ | ⟨X2, v, u, p2, N3, rfl, y1, y2, y3, y4, y5, y6⟩
        · left
          rw [k2]
          simp only [ob, obd, Sum.elim_inr]
          unfold fX11_tellWay_J160
          rw [mEnds_f y3]
          simp only [ob]
          rw [if_neg y3.pos.2.1]
          exact ⟨X2, f, i, M2, rfl, y1, x4.xl.tr ((EXl.s (by omega)).tr y2.xl), rfl, y3, fm⟩
        · rw [k2]
          simp only [ob, obd, Sum.elim_inl]
          unfold fX6_readWay_J187 fX11_tellWay_J160
          rw [xl_rtext y1.1]
          simp only [ob]
          have c2 : ∀ j, j < 4 → X2.1 (43 - t) j = nI (T.1 j) := fun j hj => (y2.2 _ j (by omega)).trans ((sI_ne (by omega)).trans (c10 j hj))
          rw [xt_9 hu y1.1, c2 2 (by decide)]
          simp only [ob]
          rw [asI_n (by rw [xn_9 hu]; exact hc) (by omega)]
          simp only [ob]
          have hx4 : XP t D p2 N3 (sI X2 (43 - t + 4) (T.1 2) v) := y1.txt (by omega)
          rw [xl_rtext hx4.1]
          simp only [ob]
          rw [xt_10 hu hx4.1, (sI_ne (by omega)).trans (c2 2 (by decide))]
          simp only [ob]
          rw [asI_n (by rw [xn_10 hu]; exact hc) (by omega)]
          simp only [ob]
          have hxa : XP t D p2 N3 (sI (sI X2 (43 - t + 4) (T.1 2) v) (43 - t + 5) (T.1 2) u) := hx4.txt (by omega)
          have ca : ∀ j, j < 4 → (sI (sI X2 (43 - t + 4) (T.1 2) v) (43 - t + 5) (T.1 2) u).1 (43 - t) j = nI (T.1 j) := fun j hj => ((sI_ne (by omega)).trans (sI_ne (by omega))).trans (c2 j hj)
          rw [xl_rtext hxa.1]
          simp only [ob, obd]
          rw [ca 2 (by decide), nI_1]
          obtain ⟨w, y, hw⟩ : ∃ w y, N3.1 = 0 → N2.1 = 0 ∧ (w < 2 ^ (trs NM).length ∧ y < 2 ^ (trs NM).length) ∧ (v = nI w ∧ u = nI y) ∧ M2.1 16 (4 * (1 - l) + T.1 2) = nI w ∧ M2.1 17 (4 * (1 - l) + T.1 2) = nI y := by
            by_cases z : N3.1 = 0
            · obtain ⟨z1, w, y, z2, z3, z4, z5, z6, z7⟩ := y6 z
              exact ⟨w, y, fun _ => ⟨z1, ⟨z2, z3⟩, ⟨z4, z5⟩, z6, z7⟩⟩
            · exact ⟨0, 0, fun z2 => absurd z2 z⟩
          clear y6
          have fM : ∀ q k, ¬ (q = 0 ∧ (k = 11 ∨ k = 13 ∨ k = 14 ∨ k = 15 ∨ k = 16)) → ¬ ((q = 15 ∨ q = 16 ∨ q = 17) ∧ k = 4 * (1 - l) + T.1 2) → M2.1 q k = Gm.1 q k := fun q k a b => by
            rw [k3.2 q k a (by omega), sI_ne (by omega), sI_ne (by omega), sI_ne (by omega)]; exact e8.2 q k a
          have fX : ∀ q k, q ≠ 1 → ¬ (q = 43 - t + 3 ∧ k = T.1 2) → X2.1 q k = Gx.1 q k := fun q k a b => by
            rw [y2.2 q k (by omega), sI_ne (by omega)]; exact x4.2.2 q k a
          refine jTail (R := (tR (tR (tR T.2.1 2 (T.1 2) (D.2.2.1 (p + 2))) 3 (T.1 2) w) 4 (T.1 2) y, T.2.2)) hD ml_27 mn_14 (Or.inr ⟨rfl, rfl, hc⟩) hxa (x3.E (by rw [sI_ne (by omega), sI_ne (by omega), y2.2 1 12 (by omega), sI_ne (by omega)]) (by show X2.2.1 8 = _; rw [y2.1]; rfl)) (hTn15.E (by show X2.2.1 9 = _; rw [y2.1])) ca (x4.xl.tr ((EXl.s (by omega)).tr (y2.xl.tr ((EXl.s (by omega)).tr (EXl.s (by omega)))))) (fun z => ?_) y3 ((fM 0 12 (by omega) (by omega)).trans hM.2.1) (k3.nm hNM11 (by omega)) ⟨(fM _ _ (by omega) (by omega)).trans hM.2.2.2.1.1, (fM _ _ (by omega) (by omega)).trans hM.2.2.2.1.2.1, (fM _ _ (by omega) (by omega)).trans hM.2.2.2.1.2.2.1, (fM _ _ (by omega) (by omega)).trans hM.2.2.2.1.2.2.2⟩ ⟨(fM _ _ (by omega) (by omega)).trans hM.2.2.2.2.1.1, (fM _ _ (by omega) (by omega)).trans hM.2.2.2.2.1.2.1, (fM _ _ (by omega) (by omega)).trans hM.2.2.2.2.1.2.2⟩ (fun z => ?_) fm hJ y4 (by omega) hk1 (fun z => ?_)
          · obtain ⟨z1, z2, ⟨z3, z3'⟩, z4⟩ := hw z
            clear hw
            refine XT_w (G := Gx) (hX.2.2.2.2 (hz z1).1) (fun q k a b c d => ?_) ?_ sI_same ?_ ?_ ?_
            · rw [sI_ne (by omega), sI_ne (by omega), sI_ne (by omega)]; exact fX q k (by omega) (by omega)
            · show X2.2.1 (43 - t + 8) = _
              rw [y2.1]; exact x4.2.1 _ (by omega)
            · rw [sI_ne (by omega), sI_ne (by omega), sI_ne (by omega), y2.2 _ _ (by omega), sI_same]
            · rw [sI_ne (by omega), sI_ne (by omega), sI_same, z3]
            · rw [sI_ne (by omega), sI_same, z3']
          · obtain ⟨z1, z2, z3, z4, z5⟩ := hw z
            clear hw
            refine MTc_w (G := Gm) (hM.2.2.2.2.2 (hz z1).1) (fun q k a b c d => ?_) sI_same ?_ ?_ ?_
            · rw [sI_ne (by omega)]; exact fM q k (by omega) d
            · rw [sI_ne (by omega), k3.2 15 _ (by omega) (by omega), sI_ne (by omega), sI_ne (by omega), sI_same]
            · rw [sI_ne (by omega)]; exact z4
            · rw [sI_ne (by omega)]; exact z5
          · obtain ⟨z1, ⟨z2, z2'⟩, z3, z4⟩ := hw z
            clear hw
            obtain ⟨z5, -, z6⟩ := hz z1
            obtain ⟨⟨w1, w2, w3, w4, w5, w6⟩, w7, w8, w9, w10⟩ := hJ.2.2.2.2 z5
            refine ⟨⟨w1, w2, hc, w4, w5, w6⟩, fun a ha => ?_, fun a ha => ?_, fun a ha => ?_, w10⟩
            · show tR (tR (tR T.2.1 2 (T.1 2) (D.2.2.1 (p + 2))) 3 (T.1 2) w) 4 (T.1 2) y 0 a ≤ 99 ∧ tR (tR (tR T.2.1 2 (T.1 2) (D.2.2.1 (p + 2))) 3 (T.1 2) w) 4 (T.1 2) y 1 a < 2 ^ T.1 0
              rw [tR_n (by omega), tR_n (by omega), tR_n (by omega), tR_n (by omega), tR_n (by omega), tR_n (by omega)]; exact w7 a ha
            · have ha' : a < T.1 2 + 1 := ha
              show tR (tR (tR T.2.1 2 (T.1 2) (D.2.2.1 (p + 2))) 3 (T.1 2) w) 4 (T.1 2) y 2 a ≤ 99 ∧ tR (tR (tR T.2.1 2 (T.1 2) (D.2.2.1 (p + 2))) 3 (T.1 2) w) 4 (T.1 2) y 3 a < 2 ^ T.1 0 ∧ tR (tR (tR T.2.1 2 (T.1 2) (D.2.2.1 (p + 2))) 3 (T.1 2) w) 4 (T.1 2) y 4 a < 2 ^ T.1 0
              by_cases ea : a = T.1 2
              · rw [ea, tR_n (show ¬ (2 = 4 ∧ _) by omega), tR_n (show ¬ (2 = 3 ∧ _) by omega), tR_s, tR_n (show ¬ (3 = 4 ∧ _) by omega), tR_s, tR_s, hcn.1]; exact ⟨z6, z2, z2'⟩
              · rw [tR_n (by omega), tR_n (by omega), tR_n (by omega), tR_n (by omega), tR_n (by omega), tR_n (by omega), tR_n (by omega), tR_n (by omega), tR_n (by omega)]; exact w8 a (by omega)
            · show (1 ≤ tR (tR (tR T.2.1 2 (T.1 2) (D.2.2.1 (p + 2))) 3 (T.1 2) w) 4 (T.1 2) y 5 a ∧ tR (tR (tR T.2.1 2 (T.1 2) (D.2.2.1 (p + 2))) 3 (T.1 2) w) 4 (T.1 2) y 5 a ≤ 99) ∧ tR (tR (tR T.2.1 2 (T.1 2) (D.2.2.1 (p + 2))) 3 (T.1 2) w) 4 (T.1 2) y 6 a ≤ 99 ∧ okC (T.2.2.1 a) 0
              rw [tR_n (by omega), tR_n (by omega), tR_n (by omega), tR_n (by omega), tR_n (by omega), tR_n (by omega)]; exact w9 a ha
end WY
