/-! READS OF THE TEXT. -/
theorem bt_nI {n i : Nat} (hi : i < 32) : bt (nI n) i = n.testBit i := by
  unfold bt nI
  show (BitVec.ofNat 32 n).getLsbD i = _
  rw [BitVec.getLsbD_ofNat]; simp [hi]
theorem bt_ext {x y : Int32} (h : ∀ i, i < 32 → bt x i = bt y i) : x = y := b_ext h
theorem tb_lt {n k i : Nat} (h : n < 2 ^ k) (hi : k ≤ i) : n.testBit i = false := Nat.testBit_lt_two_pow (Nat.lt_of_lt_of_le h (Nat.pow_le_pow_right (by decide) hi))
theorem nI_or {a b : Nat} : nI a ||| nI b = nI (a ||| b) := bt_ext fun i hi => by rw [b_or, bt_nI hi, bt_nI hi, bt_nI hi, Nat.testBit_or]
theorem nI_and {a b : Nat} : nI a &&& nI b = nI (a &&& b) := bt_ext fun i hi => by rw [b_and, bt_nI hi, bt_nI hi, bt_nI hi, Nat.testBit_and]
theorem nI_andn {a c : Nat} (ha : a < 256) : nI a &&& (nI c ^^^ (-1)) = nI (a &&& (255 ^^^ c)) := bt_ext fun i hi => by
  rw [b_and, b_xor, b_m1 i hi, bt_nI hi, bt_nI hi, bt_nI hi, Nat.testBit_and, Nat.testBit_xor]
  by_cases h8 : i < 8
  · have : Nat.testBit 255 i = true := by
      have hd : ∀ j, j < 8 → Nat.testBit 255 j = true := by decide
      exact hd i h8
    rw [this]; cases Nat.testBit c i <;> rfl
  · rw [tb_lt (k := 8) ha (by omega)]; rfl
def rng (x : Int32) (n : Nat) : Prop := ∃ a, a < n ∧ x = nI a
theorem rng_not {x : Int32} {n : Nat} (hn : n < 2 ^ 31) (h : ¬ rng x n) : x < 0 ∨ (¬ x < 0 ∧ nI n ≤ x) := by
  by_cases h0 : x < 0
  · exact Or.inl h0
  · obtain ⟨j, hj, rfl⟩ := nI_of h0
    refine Or.inr ⟨h0, nI_le ?_ hj⟩
    rcases Nat.lt_or_ge j n with h1 | h1
    · exact absurd ⟨j, h1, rfl⟩ h
    · exact h1
theorem fin1 {x y : Int32} (h : ¬ x < 0) {n : Nat} (hn : n < 2 ^ 31) (h2 : nI n ≤ x) : nI n - 1 < x := by
  obtain ⟨j, hj, rfl⟩ := nI_of h
  cases n with
  | zero => exact Int32.lt_iff_toInt_lt.mpr (by rw [nI_toInt hj]; show (-1 : Int) < _; omega)
  | succ n =>
    rw [nI_pred]
    have := (nI_leI hn hj).mp h2
    exact nI_lt (by omega) hj
theorem in_yes {a n : Nat} (h : a < n) (hn : n < 2 ^ 31) : fX11_in (nI a) 0 (nI n - 1) = some 1 := by
  unfold fX11_in
  cases n with
  | zero => omega
  | succ n => rw [nI_pred, if_neg (nI_pos (by omega)), if_neg (nI_nlt (by omega) (by omega))]
theorem in_no {x : Int32} {n : Nat} (hn : n < 2 ^ 31) (h : ¬ rng x n) : fX11_in x 0 (nI n - 1) = some 0 := by
  unfold fX11_in
  rcases rng_not hn h with h0 | ⟨h0, h1⟩
  · rw [if_pos h0]
  · rw [if_neg h0, if_pos (fin1 (y := 0) h0 hn h1)]
section XR
variable {t : Nat} {T : Txt} {G : Hp}
theorem xBeing_y {a : Nat} (hT : XT t T G) (hW : WFT T) (h : a < T.1 1) : fX8_hasBeing SHX G t (nI a) = some 1 := by
  unfold fX8_hasBeing
  have := hW.1
  rw [hT.1 1 (by omega), if_neg (nI_pos (by omega)), if_neg (nI_ge h (by omega))]
theorem xBeing_n {x : Int32} (hT : XT t T G) (hW : WFT T) (h : ¬ rng x (T.1 1)) : fX8_hasBeing SHX G t x = some 0 := by
  unfold fX8_hasBeing
  have := hW.1
  rw [hT.1 1 (by omega)]
  rcases rng_not (by omega) h with h0 | ⟨h0, h1⟩
  · rw [if_pos h0]
  · rw [if_neg h0, if_pos h1]
theorem xBridge_y {a : Nat} (hT : XT t T G) (hW : WFT T) (h : a < T.1 3) : fX8_hasBridge SHX G t (nI a) = some 1 := by
  unfold fX8_hasBridge
  have := hW.1
  rw [hT.1 3 (by omega), if_neg (nI_pos (by omega)), if_neg (nI_ge h (by omega))]
theorem xBridge_n {x : Int32} (hT : XT t T G) (hW : WFT T) (h : ¬ rng x (T.1 3)) : fX8_hasBridge SHX G t x = some 0 := by
  unfold fX8_hasBridge
  have := hW.1
  rw [hT.1 3 (by omega)]
  rcases rng_not (by omega) h with h0 | ⟨h0, h1⟩
  · rw [if_pos h0]
  · rw [if_neg h0, if_pos h1]
/-- a way or none, by its place: 0 none, w + 1 the way w -/
def wv (i : Nat) : Int32 := nI i - 1
theorem wv_0 : wv 0 = -1 := rfl
theorem wv_s (i : Nat) : wv (i + 1) = nI i := nI_pred i
theorem wv_inc (i : Nat) : wv i + 1 = wv (i + 1) := by
  unfold wv; rw [Int32.sub_add_cancel, nI_pred]
def wrng (x : Int32) (n : Nat) : Prop := ∃ i, i ≤ n ∧ x = wv i
theorem m1_lt {n : Nat} (hn : n < 2 ^ 31) : (-1 : Int32) < nI n := Int32.lt_iff_toInt_lt.mpr (by rw [nI_toInt hn]; show (-1 : Int) < _; omega)
theorem nI_nm1 {n : Nat} (hn : n < 2 ^ 31) : ¬ nI n = -1 := fun e => by have := m1_lt hn; rw [e] at this; exact absurd this (by decide)
theorem xWay_y {i : Nat} (hT : XT t T G) (hW : WFT T) (h : i ≤ T.1 2) : fX8_hasWayOrNone SHX G t (wv i) = some 1 := by
  unfold fX8_hasWayOrNone
  have := hW.1
  rw [hT.1 2 (by omega)]
  cases i with
  | zero => rw [wv_0, if_neg (by decide), if_neg (Int32.not_le.mpr (m1_lt (by omega)))]
  | succ i => rw [wv_s, if_neg (Int32.not_lt.mpr (Int32.le_of_lt (m1_lt (by omega)))), if_neg (nI_ge (by omega) (by omega))]
theorem wrng_not {x : Int32} {n : Nat} (hn : n < 2 ^ 30) (h : ¬ wrng x n) : x < (-1) ∨ (¬ x < 0 ∧ nI n ≤ x) := by
  by_cases h0 : x < 0
  · left
    by_cases e : x = -1
    · exact absurd ⟨0, Nat.zero_le _, e⟩ h
    · have h1 := Int32.lt_iff_toInt_lt.mp h0
      refine Int32.lt_iff_toInt_lt.mpr ?_
      have h2 : x.toInt ≠ (-1 : Int32).toInt := fun q => e (Int32.toInt_inj.mp q)
      have e1 : (-1 : Int32).toInt = -1 := by decide
      have e0 : (0 : Int32).toInt = 0 := by decide
      omega
  · right
    refine ⟨h0, ?_⟩
    obtain ⟨j, hj, rfl⟩ := nI_of h0
    refine nI_le ?_ hj
    rcases Nat.lt_or_ge j n with h1 | h1
    · exact absurd ⟨j + 1, h1, (wv_s j).symm⟩ h
    · exact h1
theorem xWay_n {x : Int32} (hT : XT t T G) (hW : WFT T) (h : ¬ wrng x (T.1 2)) : fX8_hasWayOrNone SHX G t x = some 0 := by
  unfold fX8_hasWayOrNone
  have := hW.1
  rw [hT.1 2 (by omega)]
  rcases wrng_not (by omega) h with h0 | ⟨h0, h1⟩
  · rw [if_pos h0]
  · rw [if_neg (fun q => h0 (Int32.lt_trans q (by decide))), if_pos h1]
def aSet (T : Txt) (a i : Nat) : Nat := if i = 0 then T.2.1 1 a else (T.2.1 1 a ||| T.2.1 3 (i - 1)) &&& (255 ^^^ T.2.1 4 (i - 1))
def aCost (T : Txt) (i : Nat) : Nat := if i = 0 then 0 else T.2.1 2 (i - 1)
theorem own_lt {a : Nat} (hW : WFT T) (h : a < T.1 1) : T.2.1 1 a < 256 := Nat.lt_of_lt_of_le (hW.2.1 a h).2 (by have := hW.1.1; exact Nat.le_trans (Nat.pow_le_pow_right (by decide) this) (by decide))
theorem gv_lt {w : Nat} (hW : WFT T) (h : w < T.1 2) : T.2.1 3 w < 256 := Nat.lt_of_lt_of_le (hW.2.2.1 w h).2.1 (by have := hW.1.1; exact Nat.le_trans (Nat.pow_le_pow_right (by decide) this) (by decide))
theorem aSet_lt {a i : Nat} (hW : WFT T) (ha : a < T.1 1) (hi : i ≤ T.1 2) : aSet T a i < 2 ^ T.1 0 := by
  unfold aSet
  split
  · exact (hW.2.1 a ha).2
  · exact Nat.lt_of_le_of_lt Nat.and_le_left (Nat.or_lt_two_pow (hW.2.1 a ha).2 (hW.2.2.1 (i - 1) (by omega)).2.1)
theorem aSet_256 {a i : Nat} (hW : WFT T) (ha : a < T.1 1) (hi : i ≤ T.1 2) : aSet T a i < 256 := Nat.lt_of_lt_of_le (aSet_lt hW ha hi) (Nat.le_trans (Nat.pow_le_pow_right (by decide) hW.1.1) (by decide))
theorem set_eq {a g d : Nat} (h1 : a < 256) (h2 : g < 256) : (nI a ||| nI g) &&& (nI d ^^^ (-1)) = nI ((a ||| g) &&& (255 ^^^ d)) := by
  rw [nI_or, nI_andn (Nat.or_lt_two_pow (n := 8) h1 h2)]
theorem xSet {a i : Nat} (hx : ∃ u, LX u G) (ht : t = 11 ∨ t = 32) (hT : XT t T G) (hW : WFT T) (ha : a < T.1 1) (hi : i ≤ T.1 2) : fX8_setOf SHX G t (nI a) (wv i) = some (nI (aSet T a i)) := by
  obtain ⟨u, hx⟩ := hx
  have hb := hW.1
  unfold fX8_setOf aSet
  rw [xt_7 ht hx]
  simp only [Option.bind_some]
  rw [aI_n (by rw [xn_7 ht]; omega) (by omega), (hT.2.1 a ha).2]
  cases i with
  | zero => rw [wv_0, if_neg (by decide)]; rfl
  | succ i =>
    rw [wv_s, if_pos (nI_pos' (by omega)), xt_9 ht hx, xt_10 ht hx]
    simp only [Option.bind_some]
    rw [aI_n (by rw [xn_9 ht]; omega) (by omega), aI_n (by rw [xn_10 ht]; omega) (by omega), (hT.2.2.1 i (by omega)).2.1, (hT.2.2.1 i (by omega)).2.2]
    simp only [Option.bind_some, Nat.add_sub_cancel]
    rw [set_eq (own_lt hW ha) (gv_lt hW (by omega)), if_neg (by omega)]
theorem xCost {i : Nat} (hx : ∃ u, LX u G) (ht : t = 11 ∨ t = 32) (hT : XT t T G) (hW : WFT T) (hi : i ≤ T.1 2) : fX8_costOf SHX G t (wv i) = some (nI (aCost T i)) := by
  obtain ⟨u, hx⟩ := hx
  have hb := hW.1
  unfold fX8_costOf aCost
  cases i with
  | zero => rw [wv_0, if_neg (by decide)]; rfl
  | succ i =>
    rw [wv_s, if_pos (nI_pos' (by omega)), xt_8 ht hx]
    simp only [Option.bind_some]
    rw [aI_n (by rw [xn_8 ht]; omega) (by omega), (hT.2.2.1 i (by omega)).1]
    simp only [Option.bind_some, Nat.add_sub_cancel]
    rw [if_neg (by omega)]
end XR
section MR
variable {l : Nat} {T : Txt} {G : Hp}
/-- the reference holds the text T on its live side -/
def ML0 (l : Nat) (T : Txt) (G : Hp) : Prop := LM G ∧ l ≤ 1 ∧ G.1 0 18 = nI l ∧ MT l T G ∧ WFT T
theorem aI_l {q n : Nat} (h : ML0 l T G) (hn : ln SHM q = 2) : aI SHM G q (G.1 0 18) = some (G.1 q l) := by
  obtain ⟨h1, h2, h3, -⟩ := h
  rw [h3]; exact aI_n (by rw [hn]; omega) (by omega)
theorem aI_7 {q a : Nat} (h : ML0 l T G) (hn : ln SHM q = 14) (ha : a < 7) : aI SHM G q (((7 : Int32) * (G.1 0 18)) + nI a) = some (G.1 q (7 * l + a)) := by
  obtain ⟨h1, h2, h3, -⟩ := h
  have e : (7 : Int32) * nI l + nI a = nI (7 * l + a) := by
    rcases Nat.le_one_iff_eq_zero_or_eq_one.mp h2 with rfl | rfl
    · rw [← nI_add]; rfl
    · rw [← nI_add]; rfl
  rw [h3, e]; exact aI_n (by rw [hn]; omega) (by omega)
theorem aI_4 {q a : Nat} (h : ML0 l T G) (hn : ln SHM q = 8) (ha : a < 4) : aI SHM G q (((4 : Int32) * (G.1 0 18)) + nI a) = some (G.1 q (4 * l + a)) := by
  obtain ⟨h1, h2, h3, -⟩ := h
  have e : (4 : Int32) * nI l + nI a = nI (4 * l + a) := by
    rcases Nat.le_one_iff_eq_zero_or_eq_one.mp h2 with rfl | rfl
    · rw [← nI_add]; rfl
    · rw [← nI_add]; rfl
  rw [h3, e]; exact aI_n (by rw [hn]; omega) (by omega)
theorem mBeing_y {a : Nat} (h : ML0 l T G) (ha : a < T.1 1) : fX11_isBeing SHM G 0 (nI a) = some 1 := by
  have hb := h.2.2.2.2.1
  unfold fX11_isBeing
  rw [ml_24 h.1]
  simp only [Option.bind_some]
  rw [aI_l (n := 0) h mn_11]
  simp only [Option.bind_some]
  rw [h.2.2.2.1.1.2.1, in_yes ha (by omega)]
  rfl
theorem mBeing_n {x : Int32} (h : ML0 l T G) (ha : ¬ rng x (T.1 1)) : fX11_isBeing SHM G 0 x = some 0 := by
  have hb := h.2.2.2.2.1
  unfold fX11_isBeing
  rw [ml_24 h.1]
  simp only [Option.bind_some]
  rw [aI_l (n := 0) h mn_11]
  simp only [Option.bind_some]
  rw [h.2.2.2.1.1.2.1, in_no (by omega) ha]
  rfl
theorem mBridge_y {a : Nat} (h : ML0 l T G) (ha : a < T.1 3) : fX11_isBridge SHM G 0 (nI a) = some 1 := by
  have hb := h.2.2.2.2.1
  unfold fX11_isBridge
  rw [ml_31 h.1]
  simp only [Option.bind_some]
  rw [aI_l (n := 0) h mn_18]
  simp only [Option.bind_some]
  rw [h.2.2.2.1.1.2.2.2.1, in_yes ha (by omega)]
  rfl
theorem mBridge_n {x : Int32} (h : ML0 l T G) (ha : ¬ rng x (T.1 3)) : fX11_isBridge SHM G 0 x = some 0 := by
  have hb := h.2.2.2.2.1
  unfold fX11_isBridge
  rw [ml_31 h.1]
  simp only [Option.bind_some]
  rw [aI_l (n := 0) h mn_18]
  simp only [Option.bind_some]
  rw [h.2.2.2.1.1.2.2.2.1, in_no (by omega) ha]
  rfl
theorem mWay_y {a : Nat} (h : ML0 l T G) (ha : a < T.1 2) : fX11_isWay SHM G 0 (nI a) = some 1 := by
  have hb := h.2.2.2.2.1
  unfold fX11_isWay
  rw [ml_27 h.1]
  simp only [Option.bind_some]
  rw [aI_l (n := 0) h mn_14]
  simp only [Option.bind_some]
  rw [h.2.2.2.1.1.2.2.1, in_yes ha (by omega)]
  rfl
theorem mWay_n {x : Int32} (h : ML0 l T G) (ha : ¬ rng x (T.1 2)) : fX11_isWay SHM G 0 x = some 0 := by
  have hb := h.2.2.2.2.1
  unfold fX11_isWay
  rw [ml_27 h.1]
  simp only [Option.bind_some]
  rw [aI_l (n := 0) h mn_14]
  simp only [Option.bind_some]
  rw [h.2.2.2.1.1.2.2.1, in_no (by omega) ha]
  rfl
theorem mSome_y {i : Nat} (h : ML0 l T G) (hi : i ≤ T.1 2) : fX11_isSome SHM G 0 (wv i) = some 1 := by
  have hb := h.2.2.2.2.1
  unfold fX11_isSome
  cases i with
  | zero => rw [wv_0, if_pos rfl]
  | succ i => rw [wv_s, if_neg (nI_nm1 (by omega)), mWay_y h (by omega)]; rfl
theorem mSome_n {x : Int32} (h : ML0 l T G) (ha : ¬ wrng x (T.1 2)) : fX11_isSome SHM G 0 x = some 0 := by
  have hb := h.2.2.2.2.1
  unfold fX11_isSome
  rw [if_neg (show ¬ x = -1 from fun e => ha ⟨0, Nat.zero_le _, e⟩), mWay_n h (fun ⟨a, h1, h2⟩ => ha ⟨a + 1, h1, by rw [wv_s]; exact h2⟩)]
  rfl
theorem mSet {a i : Nat} (h : ML0 l T G) (ha : a < T.1 1) (hi : i ≤ T.1 2) : fX11_setOf SHM G 0 (nI a) (wv i) = some (nI (aSet T a i)) := by
  have hW := h.2.2.2.2
  have hb := hW.1
  have hM := h.2.2.2.1
  unfold fX11_setOf aSet
  rw [ml_26 h.1]
  simp only [Option.bind_some]
  rw [aI_7 h mn_13 (by omega), (hM.2.1 a ha).2]
  simp only [Option.bind_some]
  cases i with
  | zero => rw [wv_0, if_pos rfl]; rfl
  | succ i =>
    rw [wv_s, if_neg (nI_nm1 (by omega)), ml_29 h.1, ml_30 h.1]
    simp only [Option.bind_some]
    rw [aI_4 h mn_16 (by omega), aI_4 h mn_17 (by omega), (hM.2.2.1 i (by omega)).2.1, (hM.2.2.1 i (by omega)).2.2]
    simp only [Option.bind_some, Nat.add_sub_cancel]
    rw [set_eq (own_lt hW ha) (gv_lt hW (by omega)), if_neg (by omega)]
theorem mCost {i : Nat} (h : ML0 l T G) (hi : i ≤ T.1 2) : fX11_costBy SHM G 0 (wv i) = some (nI (aCost T i)) := by
  have hb := h.2.2.2.2.1
  have hM := h.2.2.2.1
  unfold fX11_costBy aCost
  cases i with
  | zero => rw [wv_0, if_pos rfl]; rfl
  | succ i =>
    rw [wv_s, if_neg (nI_nm1 (by omega)), ml_28 h.1]
    simp only [Option.bind_some]
    rw [aI_4 h mn_15 (by omega), (hM.2.2.1 i (by omega)).1]
    simp only [Option.bind_some, Nat.add_sub_cancel]
    rw [if_neg (by omega)]
end MR
