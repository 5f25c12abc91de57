/-! send, whole. -/
theorem XT_keep {t : Nat} {T : Txt} {G G2 : Hp} (ht : t = 11 ∨ t = 32) (h : XT t T G) (e : G2.2 = G.2) (e2 : ∀ q k, ¬ (53 ≤ q ∧ q ≤ 267) → G2.1 q k = G.1 q k) : XT t T G2 := XT_fr h (fun q k a b c d => e2 q k (by rcases ht with rfl | rfl <;> omega)) (by rw [e])
theorem step11 {Gx Gm : Hp} (hI : Inv Gx Gm) (a b c : Int32) : Step11 SHX SHM Inv Gx Gm a b c := by
  have hI0 := hI
  obtain ⟨T, t, l, r, n, u, nx, hi, hb, sl, m, h⟩ := hI
  have hM := h.M
  have hx := h.1
  have ht := hx.1
  have hW := h.2.2.2.2.1
  have hT := h.2.2.2.2.2.1
  have hr := h.2.2.2.2.2.2.2.1
  have hG := h.2.2.2.2.2.2.2.2.1
  have h39 := h.2.2.2.2.2.2.2.2.2.1
  have h12 := h.2.2.2.2.2.2.2.2.2.2.2.1
  have hw := hW.1
  have hg : isG 53 := Or.inl rfl
  unfold Step11 fX10_send fX11_send
  by_cases hall : rng a (T.1 3) ∧ rng b (T.1 1) ∧ wrng c (T.1 2)
  · obtain ⟨⟨b, hb', rfl⟩, ⟨a, ha, rfl⟩, ⟨i, hi', rfl⟩⟩ := hall
    rw [xAll_y hx hT hW hb' ha hi', mBridge_y hM hb', mBeing_y hM ha, mSome_y hM hi', xl_0_3 hx]
    simp only [Option.bind_some, if_neg one_ne]
    obtain ⟨G8, e1, e2, e3, -⟩ := mCopies hM
    rw [e1]
    have hM8 := e2.M hM
    have R8 : MR r G8 := fun k hk => by rw [e3 k hk]; exact h39 k hk
    have fin8 : Inv Gx G8 := EssX.rf.I e2 h
    unfold fX1_isThere
    rw [hG.2.2.2.2.2.1, ush_bit _ (by omega), xg_1 hg hx]
    simp only [Option.bind_some]
    rw [ml_59 hM8.1, aI_n (by rw [xgn_1 hg]; omega) (by omega), hG.2.1 b (by omega)]
    simp only [Option.bind_some]
    rw [show (4 : Int32) + nI b = nI (4 + b) from nI_add 4 b, m40 (by omega), R8 (4 + b) (by omega), show (25 : Int32) = nI 25 from rfl, m40 (by decide), R8 25 (by decide)]
    simp only [Option.bind_some]
    rw [shr_bit _ (by omega)]
    cases hbt : bt (r 25) a with
    | false =>
      simp only [Bool.false_eq_true, if_false, if_true, Option.bind_some]
      by_cases hp : r (4 + b) = 0
      · rw [if_pos hp]; exact ⟨_, _, _, rfl, rfl, fin8⟩
      · rw [if_neg hp]; exact ⟨_, _, _, rfl, rfl, fin8⟩
    | true =>
      simp only [if_true, if_neg one_ne, Option.bind_some]
      by_cases hp : r (4 + b) = 0
      · rw [if_pos hp, if_pos hp, xl_0_5 hx]
        simp only [Option.bind_some]
        obtain ⟨Gk, k1, k2, k3, k4⟩ := xKeep hx hW hr hG (RH_x h12)
        rw [k1]
        simp only [Option.bind_some]
        have hxk : LX t Gk := hx.same (by rw [k2])
        have hTk : XT t T Gk := XT_keep ht hT k2 (fun q k hq => k3 q k (by omega))
        have hGk : XG T 53 r Gk := XG_fr hG (fun q k x y => k3 q k (by omega))
        have hs := aSet_256 hW ha hi'
        rw [xl_text hxk, xl_0_3 hxk]
        simp only [Option.bind_some]
        rw [xSet ⟨t, hxk⟩ ht hTk hW ha hi', xCost ⟨t, hxk⟩ ht hTk hW hi', mSet hM8 ha hi', mCost hM8 hi', show (22 : Int32) = nI 22 from rfl, m40 (by decide), R8 22 (by decide)]
        simp only [Option.bind_some]
        rw [ms40 (by decide)]
        simp only [Option.bind_some, bd]
        rw [hGk.2.2.2.2.2.2.1]
        have h19 : XG T 53 (upd r 22 (r 22 + nI (aCost T i))) (sI Gk 53 7 (r 22 + nI (aCost T i))) := hGk.f7 (by omega)
        have R19 := R8.s (k := 22) (v := r 22 + nI (aCost T i))
        have w19 := WFG_lost (v := r 22 + nI (aCost T i)) hr hW
        have hp19 : upd r 22 (r 22 + nI (aCost T i)) (4 + b) = 0 := by rw [upn (by omega)]; exact hp
        generalize hr1 : upd r 22 (r 22 + nI (aCost T i)) = r1 at h19 R19 w19 hp19
        have E19 : E53 Gk (sI Gk 53 7 (r 22 + nI (aCost T i))) := e53_s (by omega)
        generalize hG19 : sI Gk 53 7 (r 22 + nI (aCost T i)) = G19 at h19 E19
        have hx19 : LX t G19 := hxk.same (by rw [E19.1])
        have hT19 : XT t T G19 := XT_keep ht hTk E19.1 (fun q k hq => E19.2 q k (by omega))
        have em19 : EssM Gm (sI G8 40 22 (r 22 + nI (aCost T i))) := e2.tr essM_s40
        have d19 : ∀ q k, q ≠ 40 → (sI G8 40 22 (r 22 + nI (aCost T i))).1 q k = G8.1 q k := fun q k hq => sI_ne (Or.inl hq)
        generalize hM19 : sI G8 40 22 (r 22 + nI (aCost T i)) = m19 at R19 em19 d19
        have hM19' := em19.M hM
        rw [xl_text hx19, xl_0_3 hx19]
        simp only [Option.bind_some]
        rw [xTakes hx19 ht hT19 hW hg h19 w19 hb' hs]
        obtain ⟨m21, t1, t2⟩ := mTakes (s := aSet T a i) hM19' R19 w19 hb'
        rw [t1]
        simp only [bp, Option.bind_some]
        have hM21 := t2.toM.M hM19'
        have R21 : MR r1 m21 := R19.E (fun k hk => t2.2 40 k (by decide))
        have em21 : EssM Gm m21 := em19.tr t2.toM
        have same21 : ∀ q k, ¬ scrM q k → m21.1 q k = Gm.1 q k := em21.2
        cases htk : tkn T r1 b (aSet T a i) with
        | false =>
          simp only [show b2 false = 0 from rfl, if_true]
          obtain ⟨m2, f1, f2, f3, f4, f5⟩ := mRecords (u := u) (hi := hi) (r0 := r) (r := r1) hM21.1 h12.1 ⟨(same21 0 64 (by unfold scrM; omega)).trans (RH_m h12).1, fun j hj k hk => (same21 43 _ (by unfold scrM; omega)).trans ((RH_m h12).2 j hj k hk)⟩ R21 (fun k hk => (same21 39 _ (by unfold scrM; omega)).trans (h39 k hk))
          rw [f1]
          exact ⟨0, G19, m2, rfl, rfl, Inv0_do h k2 k3 k4 E19.1 (fun q k a1 _ => E19.2 q k a1) h19 w19 em21 f2 f3 f4 f5⟩
        | true =>
          simp only [show ¬ b2 true = 0 by decide, if_false]
          rw [xt_6 ht hx19]
          simp only [Option.bind_some]
          rw [aI_n (by rw [xn_6 ht]; omega) (by omega), (hT19.2.1 a ha).1]
          simp only [Option.bind_some]
          have hx28 : LX t (sI G19 53 7 (G19.1 53 7 + nI (T.2.1 0 a))) := hx19
          rw [xl_0_3 hx28]
          simp only [Option.bind_some]
          obtain ⟨G31, v1, v2, v3⟩ := xOver (a := a) (loss := nI (T.2.1 0 a)) hx19 hW h19 hb'
          rw [v1]
          simp only [Option.bind_some]
          have wO := WFG_over (loss := nI (T.2.1 0 a)) w19 hW hb' ha hp19
          obtain ⟨m26, o1, o2, o3, o4⟩ := mOver hM21 R21 w19 hb' ha hp19 hs
          rw [o1]
          simp only [Option.bind_some]
          have same26 : ∀ q k, q ≠ 40 → ¬ scrM q k → m26.1 q k = Gm.1 q k := fun q k hq hn => (o4 q k hq).trans (same21 q k hn)
          have em26 : EssM Gm m26 := em21.tr o2
          have hx31 : LX t G31 := hx19.same (by rw [v2.1])
          have hp31 : rOver r1 b a (nI (T.2.1 0 a)) (4 + b) ≠ 2 := by unfold rOver; rw [ups]; decide
          by_cases hod : nI (aSet T a i) &&& 1 = 0
          · have hsb := (odd_bit _).mp hod
            rw [if_pos hod, xl_0_3 hx31]
            simp only [Option.bind_some]
            obtain ⟨G35, y1, y2, y3⟩ := xCheat hx31 hW v3 wO hb' hp31 hs
            rw [y1]
            have er : rSent r1 b a (aSet T a i) (nI (T.2.1 0 a)) = rCheat (rOver r1 b a (nI (T.2.1 0 a))) b (nI (aSet T a i)) := by unfold rSent; rw [hsb]; rfl
            rw [er] at o3
            have wC : WFG T (rCheat (rOver r1 b a (nI (T.2.1 0 a))) b (nI (aSet T a i))) := by
              unfold rCheat
              exact WFG_learn (WFG_lose (WFG_tc wO hW) hW hb' (by rw [upn (by omega)]; exact hp31)) hW hs
            obtain ⟨m2, f1, f2, f3, f4, f5⟩ := mRecords (u := u) (hi := hi) (r0 := r) hM21.1 h12.1 ⟨(same21 0 64 (by unfold scrM; omega)).trans (RH_m h12).1, fun j hj k hk => (same21 43 _ (by unfold scrM; omega)).trans ((RH_m h12).2 j hj k hk)⟩ R21 (fun k hk => (same21 39 _ (by unfold scrM; omega)).trans (h39 k hk))
            obtain ⟨m2, f1, f2, f3, f4, f5⟩ := mRecords (u := u) (hi := hi) (r0 := r) (r := rCheat (rOver r1 b a (nI (T.2.1 0 a))) b (nI (aSet T a i))) (o2.L hM21.1) h12.1 ⟨(same26 0 64 (by decide) (by unfold scrM; omega)).trans (RH_m h12).1, fun j hj k hk => (same26 43 _ (by decide) (by unfold scrM; omega)).trans ((RH_m h12).2 j hj k hk)⟩ o3 (fun k hk => (same26 39 _ (by decide) (by unfold scrM; omega)).trans (h39 k hk))
            rw [f1, hsb]
            have EE : E53 Gk G35 := E19.tr (v2.tr y2)
            exact ⟨2, G35, m2, rfl, rfl, Inv0_do h k2 k3 k4 EE.1 (fun q k a1 _ => EE.2 q k a1) y3 wC em26 f2 f3 f4 f5⟩
          · have hsb : (aSet T a i).testBit 0 = true := by
              cases q : (aSet T a i).testBit 0
              · exact absurd ((odd_bit _).mpr q) hod
              · rfl
            rw [if_neg hod]
            have er : rSent r1 b a (aSet T a i) (nI (T.2.1 0 a)) = rOver r1 b a (nI (T.2.1 0 a)) := by unfold rSent; rw [hsb]; rfl
            rw [er] at o3
            obtain ⟨m2, f1, f2, f3, f4, f5⟩ := mRecords (u := u) (hi := hi) (r0 := r) (r := rOver r1 b a (nI (T.2.1 0 a))) (o2.L hM21.1) h12.1 ⟨(same26 0 64 (by decide) (by unfold scrM; omega)).trans (RH_m h12).1, fun j hj k hk => (same26 43 _ (by decide) (by unfold scrM; omega)).trans ((RH_m h12).2 j hj k hk)⟩ o3 (fun k hk => (same26 39 _ (by decide) (by unfold scrM; omega)).trans (h39 k hk))
            rw [f1, hsb]
            have EE : E53 Gk G31 := E19.tr v2
            exact ⟨1, G31, m2, rfl, rfl, Inv0_do h k2 k3 k4 EE.1 (fun q k a1 _ => EE.2 q k a1) v3 wO em26 f2 f3 f4 f5⟩
      · rw [if_neg hp, if_neg hp]; exact ⟨_, _, _, rfl, rfl, fin8⟩
  · rw [xAll_n hx hT hW hall]
    refine ⟨-1, Gx, Gm, rfl, ?_, hI0⟩
    by_cases h1 : rng a (T.1 3)
    · obtain ⟨a, ha, rfl⟩ := h1
      rw [mBridge_y hM ha]
      simp only [Option.bind_some, if_neg one_ne]
      by_cases h2 : rng b (T.1 1)
      · obtain ⟨b, hb, rfl⟩ := h2
        rw [mBeing_y hM hb]
        simp only [Option.bind_some, if_neg one_ne]
        rw [mSome_n hM (fun q => hall ⟨⟨a, ha, rfl⟩, ⟨b, hb, rfl⟩, q⟩)]
        rfl
      · rw [mBeing_n hM h2]; rfl
    · rw [mBridge_n hM h1]; rfl
