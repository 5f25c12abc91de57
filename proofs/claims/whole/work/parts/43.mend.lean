/-! mend, count. -/
def rMend (r : Nat → Int32) (b : Nat) (c : Int32) : Nat → Int32 := upd (upd r 22 (r 22 + c)) b (r b + 1)
theorem WFG_mend {T : Txt} {r : Nat → Int32} {b s : Nat} {c : Int32} (h : WFG T r) (hW : WFT T) (hb : b < T.1 3) (hs : r b = nI s) (h99 : s < 99) : WFG T (rMend r b c) := by
  have hw := hW.1
  have hb4 : b < 4 := by omega
  obtain ⟨h1, h2, ⟨k, hk, h21, hl⟩, m, hm, h25⟩ := h
  refine ⟨fun b2 hb2 => ?_, fun b2 hb2 => ?_, ⟨k, hk, ?_, fun j hj => ?_⟩, m, hm, ?_⟩
  · unfold rMend
    by_cases e : b2 = b
    · subst e
      refine ⟨s + 1, by omega, ?_, fun _ => by omega⟩
      rw [ups, hs, nI_1]
    · obtain ⟨s2, a1, a2, a3⟩ := h1 b2 hb2
      refine ⟨s2, a1, by rw [upn e, upn (by omega)]; exact a2, fun q => a3 (fun z => q ?_)⟩
      rw [upn (by omega), upn (by omega)]; exact z
  · unfold rMend
    rw [upn (by omega), upn (by omega)]; exact h2 b2 hb2
  · unfold rMend
    rw [upn (by omega), upn (by omega)]; exact h21
  · unfold rMend
    rw [upn (by omega), upn (by omega)]; exact hl j hj
  · unfold rMend
    rw [upn (by omega), upn (by omega)]; exact h25
theorem step12 {Gx Gm : Hp} (hI : Inv Gx Gm) (b : Int32) : Step12 SHX SHM Inv Gx Gm b := by
  have hI0 := hI
  obtain ⟨T, t, l, r, n, u, nx, hi, hb, sl, m, h⟩ := hI
  have hM := h.M
  have hx := h.1
  have ht := hx.1
  have hW := h.2.2.2.2.1
  have hT := h.2.2.2.2.2.1
  have hr := h.2.2.2.2.2.2.2.1
  have hG := h.2.2.2.2.2.2.2.2.1
  have h39 := h.2.2.2.2.2.2.2.2.2.1
  have h12 := h.2.2.2.2.2.2.2.2.2.2.2.1
  have hw := hW.1
  have hg := isG_53
  unfold Step12 fX10_mend fX11_mend
  rw [xl_text hx]
  simp only [ob]
  by_cases hb : rng b (T.1 3)
  · obtain ⟨b, hb, rfl⟩ := hb
    have hb4 : b < 4 := by omega
    obtain ⟨Gc, c1, c2, c3, c4, c5, c6⟩ := h.C
    obtain ⟨s, s1, s2, s3⟩ := hr.1 b hb
    rw [xBridge_y hT hW hb, mBridge_y hM hb, c1, xl_0_3 hx]
    simp only [ob, if_neg one_ne]
    unfold fX1_canBeMended
    rw [xg_1 hg hx, ml_59 c4.1]
    simp only [ob]
    rw [aI_n (by rw [xgn_1 hg]; exact hb4) (by omega), hG.2.1 b hb4, show (4 : Int32) + nI b = nI (4 + b) from nI_add 4 b, m40 (by omega), c3 _ (by omega)]
    simp only [ob]
    by_cases hp : r (4 + b) = 1
    · rw [if_pos hp, if_pos hp, xg_0 hg hx]
      simp only [ob]
      rw [aI_n (by rw [xgn_0 hg]; exact hb4) (by omega), (hG.1 b hb).1, m40 (by omega), c3 _ (by omega), s2]
      simp only [ob]
      by_cases h99 : s < 99
      · rw [if_neg (show ¬ (99 : Int32) ≤ nI s from nI_ge (b := 99) h99 (by decide)), if_neg (show ¬ nI s = 99 from fun q => by have := (nI_eq (b := 99) (by omega) (by decide)).mp q; omega)]
        simp only [ob, if_neg one_ne]
        obtain ⟨Gk, k1, k2, k3, k4⟩ := xKeep hx hW hr hG (RH_x h12)
        rw [xl_0_5 hx]
        simp only [ob]
        rw [k1]
        simp only [ob]
        have hxk : LX t Gk := hx.same (by rw [k2])
        have hGk : XG T 53 r Gk := XG_fr hG (fun q k a b => k3 q k (by omega))
        have hTk : XT t T Gk := XT_keep ht hT k2 (fun q k hq => k3 q k (by omega))
        rw [xl_0_3 hxk, xl_0_4 hxk, xl_text hxk]
        simp only [ob]
        obtain ⟨G16, x1, x2⟩ := xMends hxk hTk hW hg hGk hb
        obtain ⟨m14, y1, y2⟩ := mMends c4 c3 hr hb
        rw [x1, show (22 : Int32) = nI 22 from rfl, m40 (by decide), c3 _ (by decide)]
        simp only [obp, obd, ob]
        rw [y1]
        simp only [obp, ob]
        generalize nI (hld 99 (law T 1 r b 0 0)) = c
        have hx16 := x2.L hxk
        have hG16 := x2.G ht hg hGk
        rw [hGk.2.2.2.2.2.2.1]
        have hG17 : XG T 53 (upd r 22 (r 22 + c)) (sI G16 53 7 (r 22 + c)) := hG16.f7 (by omega)
        have E17 : E53 G16 (sI G16 53 7 (r 22 + c)) := e53_s (by omega)
        have hx17 : LX t (sI G16 53 7 (r 22 + c)) := hx16.s
        generalize sI G16 53 7 (r 22 + c) = G17 at hG17 E17 hx17
        rw [xl_0_3 hx17]
        simp only [ob]
        rw [xg_0 hg hx17]
        simp only [ob]
        rw [aI_n (by rw [xgn_0 hg]; exact hb4) (by omega), (hG17.1 b hb).1, upn (by omega)]
        simp only [ob]
        rw [asI_n (by rw [xgn_0 hg]; exact hb4) (by omega)]
        simp only [ob]
        have hG21 : XG T 53 (rMend r b c) (sI G17 54 b (r b + 1)) := hG17.st (by omega) hb4
        have E21 : E53 G17 (sI G17 54 b (r b + 1)) := e53_s (by omega)
        have hx21 : LX t (sI G17 54 b (r b + 1)) := hx17.s
        generalize sI G17 54 b (r b + 1) = G21 at hG21 E21 hx21
        rw [xl_0_3 hx21]
        simp only [ob]
        rw [xg_0 hg hx21]
        simp only [ob]
        rw [aI_n (by rw [xgn_0 hg]; exact hb4) (by omega), (hG21.1 b hb).1]
        simp only [ob]
        have R14 := y2.R c3
        have L14 : LM m14 := y2.M.L c4.1
        rw [ms40 (by decide)]
        simp only [ob]
        have R15 := R14.s (k := 22) (v := r 22 + c)
        have e15 : EssM m14 (sI m14 40 22 (r 22 + c)) := essM_s40
        generalize sI m14 40 22 (r 22 + c) = m15 at R15 e15
        have L15 := e15.L L14
        rw [ml_59 L15]
        simp only [ob]
        rw [m40 (by omega), R15 _ (by omega), upn (by omega)]
        simp only [ob]
        rw [ms40 (by omega)]
        simp only [ob]
        have R18 : MR (rMend r b c) (sI m15 40 b (r b + 1)) := R15.s
        have e18 : EssM m15 (sI m15 40 b (r b + 1)) := essM_s40
        generalize sI m15 40 b (r b + 1) = m18 at R18 e18
        have em : EssM Gm m18 := ((c2.tr y2.M).tr e15).tr e18
        obtain ⟨m2, f1, f2, f3, f4, f5⟩ := mRecords (u := u) (hi := hi) (r0 := r) (r := rMend r b c) (em.L hM.1) h12.1 ⟨(em.2 0 64 (by unfold scrM; omega)).trans (RH_m h12).1, fun j hj k hk => (em.2 43 _ (by unfold scrM; omega)).trans ((RH_m h12).2 j hj k hk)⟩ R18 (fun k hk => (em.2 39 _ (by unfold scrM; omega)).trans (h39 k hk))
        rw [f1]
        simp only [ob]
        rw [ml_58 ((em.L hM.1).same (by rw [f2]))]
        simp only [ob]
        rw [aI_n (by rw [mn_39]; omega) (by omega), f5 _ (by omega)]
        have EE : G21.2 = Gk.2 := (E21.1.trans E17.1).trans x2.1
        refine ⟨_, _, _, rfl, rfl, Inv0_do h k2 k3 k4 EE (fun q k a1 a2 => ((E21.2 q k a1).trans (E17.2 q k a1)).trans ((x2.X ht).2 q k a2)) hG21 (WFG_mend hr hW hb s2 h99) em f2 f3 f4 f5⟩
      · have e99 : s = 99 := by omega
        subst e99
        exact ⟨_, _, _, rfl, rfl, EssX.rf.I c2 h⟩
    · rw [if_neg hp, if_neg hp]
      exact ⟨_, _, _, rfl, rfl, EssX.rf.I c2 h⟩
  · rw [xBridge_n hT hW hb, mBridge_n hM hb]
    exact ⟨_, _, _, rfl, rfl, hI0⟩
def mix (h v : Int32) : Int32 := ((h ^^^ v) * 1103515245 + 12345) ^^^ ush ((h ^^^ v) * 1103515245 + 12345) 15
/-- whether there is a storm -/
def stm (sto sd yr : Int32) : Int32 := if sto ≤ ush (mix (mix sd 109) (4 * yr)) 1 - ush (mix (mix sd 109) (4 * yr)) 1 / 100 * 100 then 0 else 1
theorem xStir (a b : Int32) : fX3_stirred a b = some (mix a b) := by unfold fX3_stirred mix; rw [obd]
theorem mStir (a b : Int32) : fX11_mixed a b = some (mix a b) := by unfold fX11_mixed mix; rw [obd]
theorem stm01 (a b c : Int32) : stm a b c = 0 ∨ stm a b c = 1 := by unfold stm; split; exact Or.inl rfl; exact Or.inr rfl
theorem xStorm (a b c : Int32) : fX3_isStorm a b c = some (stm a b c) := by
  unfold fX3_isStorm fX3_lot stm
  rw [xStir]
  simp only [ob]
  rw [xStir]
  simp only [ob]
  rw [if_neg (show ¬ (100 : Int32) ≤ 0 by decide), if_neg (show ¬ (100 : Int32) = 0 by decide)]
  simp only [ob]
  generalize ush (mix (mix b 109) (4 * c)) 1 - ush (mix (mix b 109) (4 * c)) 1 / 100 * 100 = z
  by_cases h : a ≤ z
  · rw [if_pos h, if_pos h]
  · rw [if_neg h, if_neg h]
theorem mStorm {l : Nat} {T : Txt} {r : Nat → Int32} {G : Hp} (hM : ML0 l T G) (hR : MR r G) : fX11_isStorm SHM G 0 = some (stm (nI (T.1 4)) (G.1 0 60) (r 23)) := by
  unfold fX11_isStorm stm
  rw [mStir, ml_59 hM.1, ml_38 hM.1]
  simp only [ob]
  rw [show (23 : Int32) = nI 23 from rfl, m40 (by decide), hR _ (by decide)]
  simp only [ob]
  rw [mStir]
  simp only [ob]
  rw [aI_l (n := 0) hM mn_24, hM.2.2.2.1.1.2.2.2.2.1]
  simp only [ob]
  generalize ush (mix (mix (G.1 0 60) 109) (4 * r 23)) 1 - ush (mix (mix (G.1 0 60) 109) (4 * r 23)) 1 / 100 * 100 = z
  by_cases h : nI (T.1 4) ≤ z
  · rw [if_pos h, if_pos h]
  · rw [if_neg h, if_neg h]
theorem pc8 : ∀ h, h < 8 → nI (pc h) = ((if h.testBit 0 then 1 else 0) + (if h.testBit 1 then 1 else 0)) + (if h.testBit 2 then 1 else 0) := by decide +kernel
theorem mHeldN {G : Hp} {h : Nat} (hL : LM G) (hh : h < 8) (h51 : ∀ i, i < 3 → G.1 51 i = if h.testBit i then 1 else 0) : ((ldA SHM G 0 77 3).bind fun a38 => (aI SHM G a38 0).bind fun v39 => if v39 = 0 then fX11_count_J205 SHM G 0 0 else fX11_count_J205 SHM G 0 1) = some (nI (pc h), G) := by
  have r0 : aI SHM G 51 0 = some (G.1 51 0) := aI_n (j := 0) (by rw [mn_51]; decide) (by decide)
  have r1 : aI SHM G 51 1 = some (G.1 51 1) := aI_n (j := 1) (by rw [mn_51]; decide) (by decide)
  have r2 : aI SHM G 51 2 = some (G.1 51 2) := aI_n (j := 2) (by rw [mn_51]; decide) (by decide)
  unfold fX11_count_J205 fX11_count_J219
  rw [pc8 h hh, ml_77 hL]
  simp only [ob]
  rw [r0, r1, r2, h51 0 (by decide), h51 1 (by decide), h51 2 (by decide)]
  simp only [ob]
  cases h.testBit 0 <;> cases h.testBit 1 <;> cases h.testBit 2 <;> rfl
theorem step33 {Gx Gm : Hp} (hI : Inv Gx Gm) (b : Int32) : Step33 SHX SHM Inv Gx Gm b := by
  obtain ⟨T, t, l, r, n, u, nx, hi, hb, sl, m, h⟩ := hI
  have hM := h.M
  have hx := h.1
  have hT := h.2.2.2.2.2.1
  have hr := h.2.2.2.2.2.2.2.1
  have hG := h.2.2.2.2.2.2.2.2.1
  obtain ⟨Gc, c1, c2, c3, c4, c5, c6⟩ := h.C
  have fin : Inv Gx Gc := EssX.rf.I c2 h
  have rd : ∀ k, k < 26 → aI SHM Gc 40 (nI k) = some (r k) := fun k hk => by rw [m40 hk, c3 k hk]
  unfold Step33 fX10_count fX11_count
  rw [c1, xl_text hx, xl_0_3 hx]
  simp only [ob]
  rw [ml_59 c4.1]
  simp only [ob]
  by_cases e0 : b = 0
  · rw [if_pos e0, if_pos e0, ml_23 c4.1]
    simp only [ob]
    rw [aI_l (n := 0) c4 mn_10, c4.2.2.2.1.1.1, hT.1 0 (by decide)]
    exact ⟨_, _, rfl, rfl, fin⟩
  rw [if_neg e0, if_neg e0]
  by_cases e1 : b = 1
  · rw [if_pos e1, if_pos e1, ml_24 c4.1]
    simp only [ob]
    rw [aI_l (n := 0) c4 mn_11, c4.2.2.2.1.1.2.1, hT.1 1 (by decide)]
    exact ⟨_, _, rfl, rfl, fin⟩
  rw [if_neg e1, if_neg e1]
  by_cases e2 : b = 2
  · rw [if_pos e2, if_pos e2, ml_27 c4.1]
    simp only [ob]
    rw [aI_l (n := 0) c4 mn_14, c4.2.2.2.1.1.2.2.1, hT.1 2 (by decide)]
    exact ⟨_, _, rfl, rfl, fin⟩
  rw [if_neg e2, if_neg e2]
  by_cases e3 : b = 3
  · rw [if_pos e3, if_pos e3, ml_31 c4.1]
    simp only [ob]
    rw [aI_l (n := 0) c4 mn_18, c4.2.2.2.1.1.2.2.2.1, hT.1 3 (by decide)]
    exact ⟨_, _, rfl, rfl, fin⟩
  rw [if_neg e3, if_neg e3]
  by_cases e4 : b = 4
  · rw [if_pos e4, if_pos e4, show (23 : Int32) = nI 23 from rfl, rd 23 (by decide), hG.2.2.2.2.2.2.2]
    exact ⟨_, _, rfl, rfl, fin⟩
  rw [if_neg e4, if_neg e4]
  by_cases e5 : b = 5
  · rw [if_pos e5, if_pos e5, show (22 : Int32) = nI 22 from rfl, rd 22 (by decide), hG.2.2.2.2.2.2.1]
    exact ⟨_, _, rfl, rfl, fin⟩
  rw [if_neg e5, if_neg e5]
  by_cases e6 : b = 6
  · rw [if_pos e6, if_pos e6, xBridges hx isG_53 hG, mBridges c4 c3 hr (by decide)]
    exact ⟨_, _, rfl, rfl, fin⟩
  rw [if_neg e6, if_neg e6]
  by_cases e7 : b = 7
  · rw [if_pos e7, if_pos e7, xBridges hx isG_53 hG, mBridges c4 c3 hr (by decide)]
    exact ⟨_, _, rfl, rfl, fin⟩
  rw [if_neg e7, if_neg e7]
  by_cases e8 : b = 8
  · rw [if_pos e8, if_pos e8, show (25 : Int32) = nI 25 from rfl, rd 25 (by decide), hG.2.2.2.2.2.1]
    exact ⟨_, _, rfl, rfl, fin⟩
  rw [if_neg e8, if_neg e8]
  by_cases e9 : b = 9
  · rw [if_pos e9, if_pos e9, show (21 : Int32) = nI 21 from rfl, rd 21 (by decide), hG.2.2.2.1]
    exact ⟨_, _, rfl, rfl, fin⟩
  rw [if_neg e9, if_neg e9]
  by_cases e10 : b = 10
  · rw [if_pos e10, if_pos e10, show (24 : Int32) = nI 24 from rfl, rd 24 (by decide), hG.2.2.2.2.1]
    exact ⟨_, _, rfl, rfl, fin⟩
  rw [if_neg e10, if_neg e10]
  by_cases e11 : b = 11
  · rw [if_pos e11, if_pos e11, xl_0_0 hx]
    simp only [ob]
    rw [xl_1_0 hx]
    simp only [ob]
    have q := h.2.2.2.2.2.2.2.2.2.2.1
    rw [c2.2 0 2 (by unfold scrM; omega), q.2.1, q.2.2.1]
    exact ⟨_, _, rfl, rfl, fin⟩
  rw [if_neg e11, if_neg e11]
  by_cases e12 : b = 12
  · rw [if_pos e12, if_pos e12, xl_0_5 hx]
    simp only [ob]
    have q := h.2.2.2.2.2.2.2.2.2.2.2.1
    rw [c2.2 0 64 (by unfold scrM; omega), q.2.2.1, q.2.2.2.2.1]
    exact ⟨_, _, rfl, rfl, fin⟩
  rw [if_neg e12, if_neg e12]
  by_cases e13 : b = 13
  · rw [if_pos e13, if_pos e13, xl_0_8 hx]
    simp only [ob]
    have q := h.2.2.2.2.2.2.2.2.2.2.2.2.2.1
    rw [c2.2 0 74 (by unfold scrM; omega), q.2.1, q.2.2.1]
    exact ⟨_, _, rfl, rfl, fin⟩
  rw [if_neg e13, if_neg e13]
  by_cases e14 : b = 14
  · have q := h.2.2.2.2.2.2.2.2.2.2.2.2.1
    rw [if_pos e14, if_pos e14, mHeldN c4.1 q.1 (fun i hi => (c2.2 51 i (by unfold scrM; omega)).trans (q.2.2 i hi).1), q.2.1, (pc_all _ (Nat.lt_trans q.1 (by decide))).2]
    exact ⟨_, _, rfl, rfl, fin⟩
  rw [if_neg e14, if_neg e14]
  by_cases e15 : b = 15
  · rw [if_pos e15, if_pos e15, xStorm, mStorm c4 c3, c5, hT.1 4 (by decide), hT.1 5 (by decide), hG.2.2.2.2.2.2.2]
    simp only [ob]
    rcases stm01 (nI (T.1 4)) (nI (T.1 5)) (r 23) with q | q
    · rw [q]; exact ⟨_, _, rfl, rfl, fin⟩
    · rw [q]; exact ⟨_, _, rfl, rfl, fin⟩
  rw [if_neg e15, if_neg e15]
  exact ⟨_, _, rfl, rfl, fin⟩
