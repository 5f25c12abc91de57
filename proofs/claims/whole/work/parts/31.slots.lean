/-! hold, restore, tell, forget. -/
theorem rng3 {x : Int32} : rng x 3 ∨ (¬ rng x 3 ∧ (x < 0 ∨ (¬ x < 0 ∧ 3 ≤ x))) := by
  by_cases h : rng x 3
  · exact Or.inl h
  · exact Or.inr ⟨h, rng_not (n := 3) (by decide) h⟩
theorem in3_y {i : Nat} (h : i < 3) : fX11_in (nI i) 0 2 = some 1 := in_yes (n := 3) h (by decide)
theorem in3_n {x : Int32} (h : ¬ rng x 3) : fX11_in x 0 2 = some 0 := in_no (n := 3) (by decide) h
theorem isG_sl {i : Nat} (h : i < 3) : isG (269 + 5 * i) := by
  unfold isG
  rcases (by omega : i = 0 ∨ i = 1 ∨ i = 2) with rfl | rfl | rfl <;> omega
theorem isG_hq {nx u j : Nat} : isG (hq nx u j) := by
  unfold isG hq
  right; right; right; right; right; right
  exact ⟨_, Nat.mod_lt _ (by decide), rfl⟩
theorem tb_or2 {h i j : Nat} : (h ||| 2 ^ i).testBit j = (h.testBit j || decide (i = j)) := by
  rw [Nat.testBit_or, Nat.testBit_two_pow]
theorem step31 {Gx Gm : Hp} (hI : Inv Gx Gm) (a : Int32) : Step31 SHX SHM Inv Gx Gm a := by
  have hI0 := hI
  obtain ⟨T, t, l, r, n, u, nx, hi, hb, sl, m, h⟩ := hI
  obtain ⟨h1, h2, h3, h4, h5, h6, h7, h8, h9, h10, h11, h12, h13, h14, h15, h16⟩ := h
  unfold Step31 fX10_hold fX11_hold
  rcases rng3 (x := a) with ⟨i, hi3, rfl⟩ | ⟨hn, hc⟩
  · rw [if_neg (nI_pos (by omega)), if_pos (show nI i < 3 from nI_lt (b := 3) hi3 (by decide)), xl_0_6 h1, xl_0_3 h1, in3_y hi3, ml_77 h2]
    simp only [Option.bind_some, if_neg one_ne]
    rw [aR_n (by rw [xnn_268]; exact hi3) (by omega), xl_268 hi3 h1, zb_1, asI_n (by rw [mn_51]; exact hi3) (by omega)]
    simp only [Option.bind_some]
    obtain ⟨G1, c1, c2, c3⟩ := xCopyG h1 h5 (isG_sl hi3) (Or.inl rfl) (by omega) h9
    rw [c1]
    simp only [Option.bind_some, bd]
    have e07 : G1.1 0 7 = nI hb := (c2.2 0 7 (by omega)).trans h13.2.1
    have hm4 : LM (sI Gm 51 i 1) := h2
    obtain ⟨G2, d1, d2, d3⟩ := mcopy (f := fun s : Hp × Int32 => fX11_hold_S20 SHM 0 (nI i) s.1 s.2) (G := sI Gm 51 i 1) 26 39 52 0 (26 * i) (by decide) (fun _ _ _ _ => by omega) (fun G1 k hk hE => by
      have hL : LM G1 := hm4.same (by rw [hE.1])
      unfold fX11_hold_S20
      rw [if_neg (show ¬ (26 : Int32) ≤ nI k from nI_ge (b := 26) hk (by decide)), ml_78 hL, ml_58 hL]
      simp only [Option.bind_some]
      rw [aI_n (by rw [mn_39]; exact hk) (by omega), show (26 : Int32) * nI i + nI k = nI (26 * i + k) by rw [← nI_add, ← pk_mul]; rfl]
      simp only [Option.bind_some]
      rw [asI_n (by rw [mn_52]; omega) (by omega)]
      simp only [Option.bind_some, bd, Nat.zero_add]) (fun G1 => by
      unfold fX11_hold_S20
      rw [if_pos (show (26 : Int32) ≤ nI 26 by decide)])
    rw [d1]
    simp only [Option.bind_some]
    have X : ∀ q k, ¬ (269 + 5 * i ≤ q ∧ q ≤ 269 + 5 * i + 4) → ¬ (q = 0 ∧ k = 7) → (sI G1 0 7 (G1.1 0 7 ||| 1 <<< (nI i &&& 31))).1 q k = Gx.1 q k := fun q k q1 q2 => by rw [sI_ne (by omega)]; exact c2.2 q k q1
    have Y : ∀ q k, q ≠ 51 → q ≠ 52 → G2.1 q k = Gm.1 q k := fun q k q1 q2 => by rw [d2.2 q k (by omega), sI_ne (Or.inl q1)]
    have ex : (sI G1 0 7 (G1.1 0 7 ||| 1 <<< (nI i &&& 31))).2 = Gx.2 := c2.1
    have em : G2.2 = Gm.2 := d2.1
    refine ⟨1, _, _, rfl, rfl, ⟨T, t, l, r, n, u, nx, hi, hb ||| 2 ^ i, fun j => if j = i then r else sl j, m, h1.same (by rw [ex]), h2.same (by rw [em]), h3, (Y _ _ (by decide) (by decide)).trans h4, h5, XT_fr h6 (fun q k a b c d => X q k (by rcases h1.1 with rfl | rfl <;> omega) (by rcases h1.1 with rfl | rfl <;> omega)) (by rw [ex]), MT_fr h7 (fun q k a b => Y q k (by omega) (by omega)), h8, XG_fr h9 (fun q k a b => X q k (by omega) (by omega)), fun k hk => (Y _ _ (by decide) (by decide)).trans (h10 k hk), RT_fr h11 (X _ _ (by omega) (by omega)) (Y _ _ (by decide) (by decide)) (fun j => X _ _ (by omega) (by omega)) (fun j => Y _ _ (by decide) (by decide)), RH_fr h12 (fun q k a b => X q k (by omega) (by omega)) (Y _ _ (by decide) (by decide)) (fun j => Y _ _ (by decide) (by decide)), ⟨?_, ?_, fun j hj => ?_⟩, RO_fr h14 (X _ _ (by omega) (by omega)) (fun q k a => X q k (by omega) (by omega)) (Y _ _ (by decide) (by decide)) (fun q k a => Y q k (by omega) (by omega)), ?_, ?_⟩⟩
    · exact Nat.or_lt_two_pow (n := 3) h13.1 (Nat.lt_of_lt_of_le (Nat.pow_lt_pow_right (by decide) hi3) (by decide))
    · rw [sI_same, e07, shl1 (by omega), nI_or]
    · rw [tb_or2]
      by_cases e : j = i
      · subst e
        rw [d2.2 51 j (by omega), sI_same]
        simp only [decide_true, Bool.or_true, if_true]
        refine ⟨trivial, fun _ => ⟨h8, XG_fr c3 (fun q k a b => sI_ne (by omega)), fun k hk => ?_⟩⟩
        have := d3 k hk
        rw [Nat.zero_add, sI_ne (Or.inl (by decide))] at this
        rw [this]; exact h10 k hk
      · obtain ⟨s1, s2⟩ := h13.2.2 j hj
        rw [show decide (i = j) = false from decide_eq_false (fun q => e q.symm), Bool.or_false, d2.2 51 j (by omega), sI_ne (Or.inr e)]
        refine ⟨s1, fun ht => ?_⟩
        obtain ⟨s3, s4, s5⟩ := s2 ht
        simp only [if_neg e]
        refine ⟨s3, XG_fr s4 (fun q k a b => X q k (by omega) (by omega)), fun k hk => ?_⟩
        rw [d2.2 52 _ (by omega), sI_ne (Or.inl (by decide))]; exact s5 k hk
    · intro k hk; rw [ex, em]; exact h15 k hk
    · rw [X 0 1 (by omega) (by omega), Y 0 17 (by decide) (by decide)]; exact h16
  · rw [in3_n hn]
    simp only [Option.bind_some, if_true]
    rcases hc with hc | ⟨hc1, hc2⟩
    · rw [if_pos hc]; exact ⟨_, _, _, rfl, rfl, hI0⟩
    · rw [if_neg hc1, if_neg (Int32.not_lt.mpr hc2)]; exact ⟨_, _, _, rfl, rfl, hI0⟩
theorem step32 {Gx Gm : Hp} (hI : Inv Gx Gm) (a : Int32) : Step32 SHX SHM Inv Gx Gm a := by
  have hI0 := hI
  obtain ⟨T, t, l, r, n, u, nx, hi, hb, sl, m, h⟩ := hI
  obtain ⟨h1, h2, h3, h4, h5, h6, h7, h8, h9, h10, h11, h12, h13, h14, h15, h16⟩ := h
  unfold Step32 fX10_restore fX11_restore
  rcases rng3 (x := a) with ⟨i, hi3, rfl⟩ | ⟨hn, hc⟩
  · obtain ⟨s1, s2⟩ := h13.2.2 i hi3
    rw [if_neg (nI_pos (by omega)), if_neg (show ¬ (3 : Int32) ≤ nI i from nI_ge (b := 3) hi3 (by decide)), xl_0_6 h1, xl_0_3 h1, in3_y hi3, ml_77 h2, h13.2.1, ush_bit _ (by omega), bt_nI (by omega)]
    simp only [Option.bind_some, if_neg one_ne]
    rw [aI_n (by rw [mn_51]; exact hi3) (by omega), s1]
    simp only [Option.bind_some]
    cases htb : hb.testBit i with
    | false => exact ⟨_, _, _, rfl, rfl, hI0⟩
    | true =>
      obtain ⟨s3, s4, s5⟩ := s2 htb
      simp only [if_true, if_neg one_ne]
      rw [aR_n (by rw [xnn_268]; exact hi3) (by omega), xl_268 hi3 h1]
      simp only [Option.bind_some]
      obtain ⟨G1, c1, c2, c3⟩ := xCopyG h1 h5 (Or.inl rfl) (isG_sl hi3) (by omega) s4
      rw [c1]
      simp only [Option.bind_some]
      have x1 : LX t G1 := h1.same (by rw [c2.1])
      rw [xl_0_5 x1]
      simp only [Option.bind_some, bd]
      obtain ⟨G2, d1, d2, d3⟩ := mcopy (f := fun s : Hp × Int32 => fX11_restore_S22 SHM 0 (nI i) s.1 s.2) (G := Gm) 26 52 39 (26 * i) 0 (by decide) (fun _ _ _ _ => by omega) (fun G1 k hk hE => by
        have hL : LM G1 := h2.same (by rw [hE.1])
        unfold fX11_restore_S22
        rw [if_neg (show ¬ (26 : Int32) ≤ nI k from nI_ge (b := 26) hk (by decide)), ml_78 hL, ml_58 hL]
        simp only [Option.bind_some]
        rw [show (26 : Int32) * nI i + nI k = nI (26 * i + k) by rw [← nI_add, ← pk_mul]; rfl, aI_n (by rw [mn_52]; omega) (by omega)]
        simp only [Option.bind_some]
        rw [asI_n (by rw [mn_39]; omega) (by omega)]
        simp only [Option.bind_some, bd, Nat.zero_add]) (fun G1 => by
        unfold fX11_restore_S22
        rw [if_pos (show (26 : Int32) ≤ nI 26 by decide)])
      rw [d1]
      simp only [Option.bind_some]
      have X : ∀ q k, ¬ (53 ≤ q ∧ q ≤ 57) → ¬ (q = 66 ∧ k = 0) → (sI G1 66 0 0).1 q k = Gx.1 q k := fun q k q1 q2 => by rw [sI_ne (by omega)]; exact c2.2 q k q1
      have Y : ∀ q k, q ≠ 39 → ¬ (q = 0 ∧ k = 64) → (sI G2 0 64 0).1 q k = Gm.1 q k := fun q k q1 q2 => by rw [sI_ne (by omega)]; exact d2.2 q k (by omega)
      have ex : (sI G1 66 0 0).2 = Gx.2 := c2.1
      have em : (sI G2 0 64 0).2 = Gm.2 := d2.1
      refine ⟨1, _, _, rfl, rfl, ⟨T, t, l, sl i, n, 0, nx, hi, hb, sl, m, h1.same (by rw [ex]), h2.same (by rw [em]), h3, (Y _ _ (by decide) (by omega)).trans h4, h5, XT_fr h6 (fun q k a b c d => X q k (by rcases h1.1 with rfl | rfl <;> omega) (by rcases h1.1 with rfl | rfl <;> omega)) (by rw [ex]), MT_fr h7 (fun q k a b => Y q k (by omega) (by omega)), s3, XG_fr c3 (fun q k a b => sI_ne (by omega)), fun k hk => ?_, RT_fr h11 (X _ _ (by omega) (by omega)) (Y _ _ (by decide) (by omega)) (fun j => X _ _ (by omega) (by omega)) (fun j => Y _ _ (by decide) (by omega)), ⟨by omega, h12.2.1, sI_same, (X _ _ (by omega) (by omega)).trans h12.2.2.2.1, sI_same, fun j hj => by omega⟩, RS_fr h13 (X _ _ (by omega) (by omega)) (fun q k a b => X q k (by omega) (by omega)) (fun j => Y _ _ (by decide) (by omega)) (fun j => Y _ _ (by decide) (by omega)), RO_fr h14 (X _ _ (by omega) (by omega)) (fun q k a => X q k (by omega) (by omega)) (Y _ _ (by decide) (by omega)) (fun q k a => Y q k (by omega) (by omega)), ?_, ?_⟩⟩
      · rw [sI_ne (by omega)]
        have := d3 k hk
        rw [Nat.zero_add] at this
        rw [this]; exact s5 k hk
      · intro k hk; rw [ex, em]; exact h15 k hk
      · rw [X 0 1 (by omega) (by omega), Y 0 17 (by decide) (by omega)]; exact h16
  · rw [in3_n hn]
    simp only [Option.bind_some, if_true]
    rcases hc with hc | ⟨hc1, hc2⟩
    · rw [if_pos hc]; exact ⟨_, _, _, rfl, rfl, hI0⟩
    · rw [if_neg hc1, if_pos hc2]; exact ⟨_, _, _, rfl, rfl, hI0⟩
theorem Inv0_told {T : Txt} {t l : Nat} {r : Nat → Int32} {n u nx : Nat} {hi : Nat → Nat → Int32} {hb : Nat} {sl : Nat → Nat → Int32} {m m2 : Nat} {Gx Gm Gx2 Gm2 : Hp} (h : Inv0 T t l r n u nx hi hb sl m Gx Gm) (ex : Gx2.2 = Gx.2) (em : Gm2.2 = Gm.2) (X : ∀ q k, ¬ (284 ≤ q ∧ q ≤ 286) → Gx2.1 q k = Gx.1 q k) (Y : ∀ q k, ¬ (q = 49 ∨ q = 50 ∨ (q = 0 ∧ k = 74)) → Gm2.1 q k = Gm.1 q k) (hr : RO T m2 Gx2 Gm2) : Inv0 T t l r n u nx hi hb sl m2 Gx2 Gm2 := by
  obtain ⟨h1, h2, h3, h4, h5, h6, h7, h8, h9, h10, h11, h12, h13, h14, h15, h16⟩ := h
  refine ⟨h1.same (by rw [ex]), h2.same (by rw [em]), h3, (Y _ _ (by omega)).trans h4, h5, XT_fr h6 (fun q k a b c d => X q k (by rcases h1.1 with rfl | rfl <;> omega)) (by rw [ex]), MT_fr h7 (fun q k a b => Y q k (by omega)), h8, XG_fr h9 (fun q k a b => X q k (by omega)), fun k hk => (Y _ _ (by omega)).trans (h10 k hk), RT_fr h11 (X _ _ (by omega)) (Y _ _ (by omega)) (fun j => X _ _ (by omega)) (fun j => Y _ _ (by omega)), RH_fr h12 (fun q k a b => X q k (by omega)) (Y _ _ (by omega)) (fun j => Y _ _ (by omega)), RS_fr h13 (X _ _ (by omega)) (fun q k a b => X q k (by omega)) (fun j => Y _ _ (by omega)) (fun j => Y _ _ (by omega)), hr, ?_, ?_⟩
  · intro i hi; rw [ex, em]; exact h15 i hi
  · rw [X 0 1 (by omega), Y 0 17 (by omega)]; exact h16
theorem step27 {Gx Gm : Hp} (hI : Inv Gx Gm) : Step27 SHX SHM Inv Gx Gm := by
  obtain ⟨T, t, l, r, n, u, nx, hi, hb, sl, m, h⟩ := hI
  have h14 := h.2.2.2.2.2.2.2.2.2.2.2.2.2.1
  unfold Step27 fX10_forget fX11_forget
  rw [xl_0_8 h.1]
  simp only [Option.bind_some, bd]
  refine ⟨_, sI Gx 284 0 0, sI Gm 0 74 0, rfl, by rw [h14.2.1, h14.2.2.1], ⟨T, t, l, r, n, u, nx, hi, hb, sl, 0, Inv0_told h rfl rfl (fun q k hq => sI_ne (by omega)) (fun q k hq => sI_ne (by omega)) ⟨by omega, sI_same, sI_same, fun i hi => by omega⟩⟩⟩
theorem zb01 (x : Int32) : zb x = 0 ∨ zb x = 1 := by
  unfold zb vp_nar
  have := and1 x
  simp only [narrow]
  rw [this]
  split <;> simp
theorem step26 {Gx Gm : Hp} (hI : Inv Gx Gm) (a b : Int32) : Step26 SHX SHM Inv Gx Gm a b := by
  have hI0 := hI
  obtain ⟨T, t, l, r, n, u, nx, hi, hb, sl, m, h⟩ := hI
  have hx := h.1
  have hm := h.2.1
  have hM := h.M
  have hT := h.2.2.2.2.2.1
  have hw := h.2.2.2.2.1.1
  obtain ⟨o1, o2, o3, o4⟩ := h.2.2.2.2.2.2.2.2.2.2.2.2.2.1
  unfold Step26 fX10_tell fX11_tell fX9_add
  rw [xl_text hx, xl_0_8 hx, ml_23 hm]
  simp only [bp, Option.bind_some]
  rw [xl_284_1 hx]
  simp only [Option.bind_some]
  rw [aI_l (n := 0) hM mn_10, hM.2.2.2.1.1.1, hT.1 0 (by decide), o2, o3]
  simp only [Option.bind_some]
  by_cases ha : rng a (T.1 0)
  · obtain ⟨a, ha, rfl⟩ := ha
    rw [if_neg (nI_pos (by omega)), if_pos (nI_lt ha (by omega)), in_yes ha (by omega)]
    simp only [Option.bind_some, if_neg one_ne]
    by_cases e20 : m = 20
    · subst e20
      rw [if_neg (show ¬ nI 20 < 20 by decide), if_pos (show nI 20 = 20 from rfl)]
      exact ⟨_, _, _, rfl, rfl, hI0⟩
    · rw [if_pos (show nI m < 20 from nI_lt (b := 20) (by omega) (by decide)), if_neg (show ¬ nI m = 20 from fun q => e20 ((nI_eq (b := 20) (by omega) (by decide)).mp q)), ml_75 hm]
      simp only [Option.bind_some]
      rw [asI_n (by rw [xnn_285]; omega) (by omega), asI_n (by rw [mn_49]; omega) (by omega)]
      simp only [Option.bind_some]
      have x1 : LX t (sI Gx 285 m (nI a)) := hx
      have m1 : LM (sI Gm 49 m (nI a)) := hm
      rw [xl_284_2 x1, ml_76 m1]
      simp only [Option.bind_some]
      rw [show (sI Gx 285 m (nI a)).1 284 0 = nI m by rw [sI_ne (by omega), o2], show (sI Gm 49 m (nI a)).1 0 74 = nI m by rw [sI_ne (by omega), o3]]
      rw [asI_n (by rw [xnn_286]; omega) (by omega), asI_n (by rw [mn_50]; omega) (by omega)]
      simp only [Option.bind_some, bd]
      rw [show (sI (sI Gx 285 m (nI a)) 286 m (zb b)).1 284 0 = nI m by rw [sI_ne (by omega), sI_ne (by omega), o2], show (sI (sI Gm 49 m (nI a)) 50 m (zb b)).1 0 74 = nI m by rw [sI_ne (by omega), sI_ne (by omega), o3], sI_same, sI_same]
      refine ⟨_, _, _, rfl, rfl, ⟨T, t, l, r, n, u, nx, hi, hb, sl, m + 1, Inv0_told h rfl rfl (fun q k hq => by rw [sI_ne (by omega), sI_ne (by omega), sI_ne (by omega)]) (fun q k hq => by rw [sI_ne (by omega), sI_ne (by omega), sI_ne (by omega)]) ⟨by omega, by rw [sI_same, nI_1], by rw [sI_same, nI_1], fun i hi => ?_⟩⟩⟩
      by_cases e : i = m
      · subst e
        refine ⟨a, ha, ?_, ?_, ?_, ?_⟩
        · rw [sI_ne (by omega), sI_ne (by omega), sI_same]
        · rw [sI_ne (by omega), sI_ne (by omega), sI_same]
        · rw [sI_ne (by omega), sI_same, sI_ne (by omega), sI_same]
        · rw [sI_ne (by omega), sI_same]; exact zb01 b
      · obtain ⟨c, c1, c2, c3, c4, c5⟩ := o4 i (by omega)
        refine ⟨c, c1, ?_, ?_, ?_, ?_⟩
        · rw [sI_ne (by omega), sI_ne (by omega), sI_ne (by omega)]; exact c2
        · rw [sI_ne (by omega), sI_ne (by omega), sI_ne (by omega)]; exact c3
        · rw [sI_ne (by omega), sI_ne (by omega), sI_ne (by omega), sI_ne (by omega), sI_ne (by omega), sI_ne (by omega)]; exact c4
        · rw [sI_ne (by omega), sI_ne (by omega), sI_ne (by omega)]; exact c5
  · rw [in_no (by omega) ha]
    simp only [Option.bind_some, if_true]
    have fin : (if nI m = 20 then some ((-1 : Int32), Gm) else some ((-1 : Int32), Gm)) = some (-1, Gm) := by split <;> rfl
    rw [fin]
    rcases rng_not (by omega) ha with h0 | ⟨h0, h1⟩
    · rw [if_pos h0]; exact ⟨_, _, _, rfl, rfl, hI0⟩
    · rw [if_neg h0, if_neg (Int32.not_lt.mpr h1)]; exact ⟨_, _, _, rfl, rfl, hI0⟩
