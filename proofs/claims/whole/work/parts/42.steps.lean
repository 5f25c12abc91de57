/-! bridge, asks, mend, count. -/
theorem ob {α β : Type} (a : α) (f : α → Option β) : (some a).bind f = f a := (Option.bind_some a f).trans (Eq.refl (f a))
theorem obd {α β : Type} (a : α) (f : α → β) : bd a f = f a := Eq.trans (show bd a f = f a from rfl) (Eq.refl (f a))
theorem obp {α β : Type} (a : α) (G : Hp) (f : α → Hp → Option β) : bp (some (a, G)) f = f a G := Eq.trans (show bp (some (a, G)) f = f a G from rfl) (Eq.refl (f a G))
theorem Inv0.C {T : Txt} {t l : Nat} {r : Nat → Int32} {n u nx : Nat} {hi : Nat → Nat → Int32} {hb : Nat} {sl : Nat → Nat → Int32} {m : Nat} {Gx Gm : Hp} (h : Inv0 T t l r n u nx hi hb sl m Gx Gm) : ∃ Gc, fX11_copies SHM Gm 0 = some Gc ∧ EssM Gm Gc ∧ MR r Gc ∧ ML0 l T Gc ∧ Gc.1 0 60 = nI (T.1 5) ∧ Gc.1 0 61 = 0 := by
  obtain ⟨Gc, c1, c2, c3, c4, c5⟩ := mCopies h.M
  exact ⟨Gc, c1, c2, fun k hk => (c3 k hk).trans (h.2.2.2.2.2.2.2.2.2.1 k hk), c2.M h.M, c4, c5⟩
theorem isG_53 : isG 53 := Or.inl rfl
theorem isG_61 : isG 61 := Or.inr (Or.inl rfl)
theorem step7 {Gx Gm : Hp} (hI : Inv Gx Gm) (a b : Int32) : Step7 SHX SHM Inv Gx Gm a b := by
  have hI0 := hI
  obtain ⟨T, t, l, r, n, u, nx, hi, hb, sl, m, h⟩ := hI
  have hM := h.M
  have hx := h.1
  have ht := hx.1
  have hW := h.2.2.2.2.1
  have hT := h.2.2.2.2.2.1
  have hr := h.2.2.2.2.2.2.2.1
  have hG := h.2.2.2.2.2.2.2.2.1
  have hw := hW.1
  unfold Step7 fX10_bridge fX11_bridge
  rw [xl_text hx]
  simp only [Option.bind_some]
  by_cases ha : rng a (T.1 3)
  · obtain ⟨a, ha, rfl⟩ := ha
    obtain ⟨Gc, c1, c2, c3, c4, c5, c6⟩ := h.C
    have ha4 : a < 4 := by omega
    have fin : Inv Gx Gc := EssX.rf.I c2 h
    rw [xBridge_y hT hW ha, mBridge_y hM ha, c1, xl_0_3 hx]
    simp only [Option.bind_some, if_neg one_ne]
    rw [ml_59 c4.1]
    simp only [Option.bind_some]
    by_cases h0 : b = 0
    · rw [if_pos h0, if_pos h0, xg_0 isG_53 hx]
      simp only [Option.bind_some]
      rw [aI_n (by rw [xgn_0 isG_53]; exact ha4) (by omega), (hG.1 a ha).1, m40 (by omega), c3 _ (by omega)]
      exact ⟨_, _, _, rfl, rfl, fin⟩
    · rw [if_neg h0, if_neg h0]
      by_cases h1 : b = 1
      · rw [if_pos h1, if_pos h1, xt_12 ht hx, ml_33 c4.1]
        simp only [Option.bind_some]
        rw [aI_n (by rw [xn_12 ht]; exact ha4) (by omega), (hT.2.2.2.1 a ha).2.1, aI_4 c4 mn_20 ha4, (c4.2.2.2.1.2.2.2.1 a ha).2.1]
        exact ⟨_, _, _, rfl, rfl, fin⟩
      · rw [if_neg h1, if_neg h1]
        by_cases h2 : b = 2
        · rw [if_pos h2, if_pos h2, xg_1 isG_53 hx]
          simp only [Option.bind_some]
          rw [aI_n (by rw [xgn_1 isG_53]; exact ha4) (by omega), hG.2.1 a ha4, show (4 : Int32) + nI a = nI (4 + a) from nI_add 4 a, m40 (by omega), c3 _ (by omega)]
          exact ⟨_, _, _, rfl, rfl, fin⟩
        · rw [if_neg h2, if_neg h2]
          by_cases h3 : b = 3
          · rw [if_pos h3, if_pos h3, xg_2 isG_53 hx]
            simp only [Option.bind_some]
            rw [aI_n (by rw [xgn_2 isG_53]; exact ha4) (by omega), (hG.1 a ha).2, show (8 : Int32) + nI a = nI (8 + a) from nI_add 8 a, m40 (by omega), c3 _ (by omega)]
            exact ⟨_, _, _, rfl, rfl, fin⟩
          · rw [if_neg h3, if_neg h3, xl_0_4 hx]
            simp only [Option.bind_some]
            by_cases h4 : b = 4
            · rw [if_pos h4, if_pos h4]
              obtain ⟨G2, x1, x2⟩ := xWears hx hT hW isG_53 hG ha
              obtain ⟨G3, y1, y2⟩ := mWears c4 c3 hr ha
              rw [x1, y1]
              exact ⟨_, _, _, rfl, rfl, (x2.X ht).I (c2.tr y2.M) h⟩
            · rw [if_neg h4, if_neg h4]
              by_cases h5 : b = 5
              · rw [if_pos h5, if_pos h5]
                obtain ⟨G2, x1, x2⟩ := xMends hx hT hW isG_53 hG ha
                obtain ⟨G3, y1, y2⟩ := mMends c4 c3 hr ha
                rw [x1, y1]
                exact ⟨_, _, _, rfl, rfl, (x2.X ht).I (c2.tr y2.M) h⟩
              · rw [if_neg h5, if_neg h5]
                by_cases h6 : b = 6
                · rw [if_pos h6, if_pos h6, xBoth hx ht hT hW ha ha]
                  obtain ⟨G3, y1, y2⟩ := mBoth c4 ha ha
                  rw [y1]
                  exact ⟨_, _, _, rfl, rfl, EssX.rf.I (c2.tr y2.toM) h⟩
                · rw [if_neg h6, if_neg h6]
                  exact ⟨_, _, _, rfl, rfl, fin⟩
  · rw [xBridge_n hT hW ha, mBridge_n hM ha]
    exact ⟨_, _, _, rfl, rfl, hI0⟩
def lk2 (c : Nat) (T : Txt) (r : Nat → Int32) (b : Nat) (lo ma : Int32) (G : Hp) : Hp := sI (sI (lk c T r b G) c 5 lo) c 6 ma
theorem lk2_v {c : Nat} {T : Txt} {r : Nat → Int32} {b : Nat} {lo ma : Int32} {G : Hp} {i : Nat} (h : i < 9) : (lk2 c T r b lo ma G).1 c i = vr T r b lo ma i := by
  unfold lk2
  by_cases h6 : i = 6
  · subst h6; rw [sI_same]; rfl
  · rw [sI_ne (Or.inr h6)]
    by_cases h5 : i = 5
    · subst h5; rw [sI_same]; rfl
    · rw [sI_ne (Or.inr h5), lk_v h]
      rcases nine h with rfl | rfl | rfl | rfl | rfl | rfl | rfl | rfl | rfl <;> first | rfl | omega
theorem lk2_E {c : Nat} {T : Txt} {r : Nat → Int32} {b : Nat} {lo ma : Int32} {G : Hp} : E1 c G (lk2 c T r b lo ma G) := lk_E.tr (E1.s.tr E1.s)
theorem LX.s {t q k : Nat} {G : Hp} {v : Int32} (h : LX t G) : LX t (sI G q k v) := h
theorem xAsks {t g b a : Nat} {T : Txt} {r : Nat → Int32} {G : Hp} (hx : LX t G) (hT : XT t T G) (hW : WFT T) (hg : isG g) (hG : XG T g r G) (hb : b < T.1 3) (ha : a < T.1 1) : ∃ G2, fX3_asksOf SHX G 58 t g (nI b) (nI a) = some (nI (hld 99 (law T 2 r b (nI (T.2.1 0 a)) (nI (pc (T.2.1 1 a))))), G2) ∧ EK t G G2 := by
  have ht := hx.1
  have hw := hW.1
  have hE : EK t G (lk2 59 T r b (nI (T.2.1 0 a)) (nI (pc (T.2.1 1 a))) G) := EK.v lk2_E
  have x2 := hE.L hx
  obtain ⟨G2, a1, a2⟩ := xValue (v := vr T r b (nI (T.2.1 0 a)) (nI (pc (T.2.1 1 a)))) x2 (isL_t (k := 2) ht (by decide)) (fun i hi => lk2_v hi) ((hE.T ht hT).law (by decide)) (hW.2.2.2.2 2 (by decide))
  have hE1 : EK t G (lk 59 T r b G) := EK.v lk_E
  have y1 := hE1.L hx
  have T1 := hE1.T ht hT
  have hown : T.2.1 1 a < 256 := Nat.lt_of_lt_of_le (hW.2.1 a ha).2 (Nat.le_trans (Nat.pow_le_pow_right (by decide) hw.1) (by decide))
  unfold fX3_asksOf
  rw [xLook hx hT hW hg hG hb]
  simp only [ob]
  rw [xl_58_0 y1, xt_6 ht y1]
  simp only [ob]
  rw [aI_n (by rw [xn_6 ht]; omega) (by omega), (T1.2.1 a ha).1]
  simp only [ob]
  rw [show (5 : Int32) = nI 5 from rfl, s59 (by decide)]
  simp only [ob]
  have y2 : LX t (sI (lk 59 T r b G) 59 5 (nI (T.2.1 0 a))) := y1.s
  rw [xl_58_0 y2, xt_7 ht y2]
  simp only [ob]
  rw [aI_n (by rw [xn_7 ht]; omega) (by omega), n59 (by rcases ht with rfl | rfl <;> decide), (T1.2.1 a ha).2]
  simp only [ob]
  rw [(pc_all _ hown).2]
  simp only [ob]
  rw [show (6 : Int32) = nI 6 from rfl, s59 (by decide)]
  simp only [ob]
  have e2 : sI (sI (lk 59 T r b G) 59 5 (nI (T.2.1 0 a))) 59 6 (nI (pc (T.2.1 1 a))) = lk2 59 T r b (nI (T.2.1 0 a)) (nI (pc (T.2.1 1 a))) G := rfl
  rw [e2, xt_16 ht x2, xl_58_0 x2]
  simp only [ob]
  rw [show t + 17 = t + 9 + 4 * 2 from rfl, a1]
  simp only [obp, ob]
  rw [show (99 : Int32) = nI 99 from rfl, xHeld (by decide) (by decide)]
  exact ⟨G2, rfl, hE.tr (EK.w (k := 2) (by decide) a2)⟩
theorem ask_d {v : Nat → Int32} : evL v (dfl 2) = v 5 := by
  have h : stL v [] (-6) = some [v 5] := stL_var (m := 5) (by decide) (by decide) (by decide) (by decide)
  show (evP v [(-6)] []).getD 0 = v 5
  unfold evP
  rw [h]
  rfl
theorem mAsks {l b a : Nat} {T : Txt} {r : Nat → Int32} {G : Hp} (hM : ML0 l T G) (hR : MR r G) (hw : WFG T r) (hb : b < T.1 3) (ha : a < T.1 1) {β : Type} {f : Int32 → Hp → Option β} : ∃ G2, ((fX11_looks SHM G 0 (nI b)).bind fun G8 => (ldA SHM G8 0 55 1).bind fun a9 => (ldA SHM G8 0 25 1).bind fun a10 => (aI SHM G8 a10 (((7 : Int32) * (G8.1 0 18)) + nI a)).bind fun v11 => (asI SHM G8 a9 5 v11).bind fun G12 => (ldA SHM G12 0 55 1).bind fun a13 => (ldA SHM G12 0 26 1).bind fun a14 => (aI SHM G12 a14 (((7 : Int32) * (G12.1 0 18)) + nI a)).bind fun v15 => (fX11_bits v15).bind fun r16 => (asI SHM G12 a13 6 r16).bind fun G17 => (ldA SHM G17 0 55 1).bind fun a18 => (aI SHM G17 a18 5).bind fun v19 => bp (fX11_lawTells SHM G17 0 2 v19) fun r20 G21 => (fX11_held r20 0 99).bind fun r22 => f r22 G21) = f (nI (hld 99 (law T 2 r b (nI (T.2.1 0 a)) (nI (pc (T.2.1 1 a)))))) G2 ∧ EL G G2 := by
  have hW := hM.2.2.2.2
  have hw2 := hW.1
  have hown : T.2.1 1 a < 256 := Nat.lt_of_lt_of_le (hW.2.1 a ha).2 (Nat.le_trans (Nat.pow_le_pow_right (by decide) hw2.1) (by decide))
  rw [mLooks hM hR hw hb]
  simp only [ob]
  have E1 : EL G (lk 37 T r b G) := EL.v lk_E
  have M1 := E1.M.M hM
  rw [ml_55 M1.1, ml_25 M1.1]
  simp only [ob]
  rw [aI_7 M1 mn_12 (by omega), (M1.2.2.2.1.2.1 a ha).1]
  simp only [ob]
  rw [show (5 : Int32) = nI 5 from rfl, s37 (by decide)]
  simp only [ob]
  have M2 : ML0 l T (sI (lk 37 T r b G) 37 5 (nI (T.2.1 0 a))) := EssM.M (EssM.sI (by unfold scrM; omega)) M1
  rw [ml_55 M2.1, ml_26 M2.1]
  simp only [ob]
  rw [aI_7 M2 mn_13 (by omega), (M2.2.2.2.1.2.1 a ha).2]
  simp only [ob]
  rw [(pc_all _ hown).1]
  simp only [ob]
  rw [show (6 : Int32) = nI 6 from rfl, s37 (by decide)]
  simp only [ob]
  have E3 : EL G (lk2 37 T r b (nI (T.2.1 0 a)) (nI (pc (T.2.1 1 a))) G) := EL.v lk2_E
  have M3 := E3.M.M hM
  have V3 : ∀ i, i < 9 → (lk2 37 T r b (nI (T.2.1 0 a)) (nI (pc (T.2.1 1 a))) G).1 37 i = vr T r b (nI (T.2.1 0 a)) (nI (pc (T.2.1 1 a))) i := fun i hi => lk2_v hi
  have e2 : sI (sI (lk 37 T r b G) 37 5 (nI (T.2.1 0 a))) 37 6 (nI (pc (T.2.1 1 a))) = lk2 37 T r b (nI (T.2.1 0 a)) (nI (pc (T.2.1 1 a))) G := by unfold lk2; rfl
  rw [e2]
  unfold law
  generalize lk2 37 T r b (nI (T.2.1 0 a)) (nI (pc (T.2.1 1 a))) G = G3 at E3 M3 V3
  generalize vr T r b (nI (T.2.1 0 a)) (nI (pc (T.2.1 1 a))) = v at V3
  rw [ml_55 M3.1]
  simp only [ob]
  rw [aI_n (by rw [mn_37]; decide) (by decide), V3 5 (by decide)]
  simp only [ob]
  obtain ⟨G4, d1, d2⟩ := mLaw (v := v) (k := 2) (d := v 5) M3 (by decide) V3 (M3.2.2.2.1.2.2.2.2 2 (by decide)) (hW.2.2.2.2 2 (by decide)) ask_d
  rw [show (2 : Int32) = nI 2 from rfl, d1]
  simp only [obp, ob]
  rw [show (99 : Int32) = nI 99 from rfl, mHeld (by decide)]
  simp only [ob]
  exact ⟨G4, rfl, E3.tr (EL.w d2)⟩
theorem step8 {Gx Gm : Hp} (hI : Inv Gx Gm) (b a : Int32) : Step8 SHX SHM Inv Gx Gm b a := by
  have hI0 := hI
  obtain ⟨T, t, l, r, n, u, nx, hi, hb, sl, m, h⟩ := hI
  have hM := h.M
  have hx := h.1
  have ht := hx.1
  have hW := h.2.2.2.2.1
  have hT := h.2.2.2.2.2.1
  have hr := h.2.2.2.2.2.2.2.1
  have hG := h.2.2.2.2.2.2.2.2.1
  have hw := hW.1
  unfold Step8 fX10_asks fX11_asks
  rw [xl_text hx]
  simp only [ob]
  by_cases hb : rng b (T.1 3)
  · obtain ⟨b, hb, rfl⟩ := hb
    rw [xBridge_y hT hW hb, mBridge_y hM hb]
    simp only [Option.bind_some, if_neg one_ne]
    by_cases ha : rng a (T.1 1)
    · obtain ⟨a, ha, rfl⟩ := ha
      obtain ⟨Gc, c1, c2, c3, c4, c5, c6⟩ := h.C
      rw [xBeing_y hT hW ha, mBeing_y hM ha, c1, xl_0_4 hx, xl_0_3 hx]
      simp only [Option.bind_some, if_neg one_ne]
      obtain ⟨G2, x1, x2⟩ := xAsks hx hT hW isG_53 hG hb ha
      obtain ⟨G3, y1, y2⟩ := mAsks c4 c3 hr hb ha (f := fun r22 G21 => some (r22, G21))
      rw [x1, y1]
      simp only [obp, ob]
      exact ⟨_, _, _, rfl, rfl, (x2.X ht).I (c2.tr y2.M) h⟩
    · rw [xBeing_n hT hW ha, mBeing_n hM ha]
      exact ⟨_, _, _, rfl, rfl, hI0⟩
  · rw [xBridge_n hT hW hb, mBridge_n hM hb]
    exact ⟨_, _, _, rfl, rfl, hI0⟩
