/-! FOR HOW MANY SETS two clauses hold; alike. -/
def both (T : Txt) (b o : Nat) (s : Nat) : Bool := evC (T.2.2.1 b) s && evC (T.2.2.1 o) s
def nb (T : Txt) (b o : Nat) : Nat := fa_cnt (both T b o) (2 ^ T.1 0)
theorem ones_bit {n j : Nat} (hj : j < 64) : (2 ^ 64 - 1).testBit j = true := by rw [Nat.testBit_two_pow_sub_one]; simp [hj]
/-- the i-th long of all sets that there are -/
def mw (p i : Nat) : Nat := if p ≤ 64 * i then 0 else if p < 64 * i + 64 then 2 ^ (p - 64 * i) - 1 else 2 ^ 64 - 1
theorem mw_lt {p i : Nat} : mw p i < 2 ^ 64 := by
  unfold mw
  split
  · decide
  · split
    · have : 2 ^ (p - 64 * i) < 2 ^ 64 := Nat.pow_lt_pow_right (by decide) (by omega)
      omega
    · decide
theorem mw_bit {p i j : Nat} (hj : j < 64) : (mw p i).testBit j = decide (64 * i + j < p) := by
  unfold mw
  split
  · rw [Nat.zero_testBit, decide_eq_false (by omega)]
  · split
    · rw [Nat.testBit_two_pow_sub_one]; congr 1; apply propext; omega
    · rw [Nat.testBit_two_pow_sub_one, decide_eq_true (by omega), decide_eq_true (by omega)]
theorem m1_l : (-1 : Int64) = lN (2 ^ 64 - 1) := by decide +kernel
theorem xThere {t i : Nat} {T : Txt} {G : Hp} (hT : XT t T G) (hW : WFT T) (hi : i < 4) : fX8_setsThere SHX G t (nI i) = some (lN (mw (2 ^ T.1 0) i)) := by
  have h2 : 2 ^ T.1 0 ≤ 256 := Nat.le_trans (Nat.pow_le_pow_right (by decide) hW.1.1) (by decide)
  unfold fX8_setsThere fX8_setCount
  rw [hT.1 0 (by decide), shl1 hW.1.1]
  simp only [Option.bind_some]
  rw [show nI i * 64 = nI (i * 64) from pk_mul i 64]
  unfold bd mw
  dsimp only
  generalize 2 ^ T.1 0 = p at h2
  by_cases hp : p ≤ 64 * i
  · have : ¬ 0 < nI p - nI (i * 64) := by
      intro q
      have q2 := Int32.lt_iff_toInt_lt.mp q
      rw [Int32.toInt_sub, nI_toInt (by omega), nI_toInt (by omega), show (0 : Int32).toInt = 0 from rfl] at q2
      rw [Int.bmod_def] at q2
      split at q2 <;> omega
    rw [if_neg this, if_pos hp]; rfl
  · have e : nI p - nI (i * 64) = nI (p - 64 * i) := by
      have : nI p = nI (p - 64 * i) + nI (i * 64) := by rw [nI_add]; congr 1; omega
      rw [this, Int32.add_sub_cancel]
    rw [e, if_pos (show 0 < nI (p - 64 * i) from nI_lt (a := 0) (by omega) (by omega)), if_neg hp]
    by_cases hp2 : p < 64 * i + 64
    · rw [if_pos (show nI (p - 64 * i) < 64 from nI_lt (b := 64) (by omega) (by decide)), if_pos hp2]
      unfold lsh
      rw [show (1 : Int64) = lN 1 from rfl, wb_shl 1 (by omega), Nat.one_mul, lN_sub (Nat.one_le_two_pow)]
    · rw [if_neg (show ¬ nI (p - 64 * i) < 64 from nI_nlt (b := 64) (by omega) (by omega)), if_neg hp2, m1_l]
theorem lw_of (x : Int64) : x = lN x.toUInt64.toNat := by
  apply wb_inj; rw [wb_tb]; show x.toBitVec = BitVec.ofNat 64 x.toBitVec.toNat; simp
theorem cnt_cut {q : Nat → Bool} {p : Nat} : ∀ n, p ≤ n → fa_cnt (fun s => q s && decide (s < p)) n = fa_cnt q p
  | 0, h => by rw [show p = 0 by omega]; rfl
  | n + 1, h => by
    by_cases e : p = n + 1
    · subst e; exact fa_cnt_cong (fun k hk => by simp [hk])
    · have := cnt_cut (q := q) n (show p ≤ n by omega)
      rw [fa_cnt_no (by simp; omega), this]
theorem xBoth {t u b o : Nat} {T : Txt} {G : Hp} (hx : LX u G) (ht : t = 11 ∨ t = 32) (hT : XT t T G) (hW : WFT T) (hb : b < T.1 3) (ho : o < T.1 3) : fX8_setsOfBoth SHX G t (nI b) (nI o) = some (nI (nb T b o)) := by
  have hw := hW.1
  have h2 : 2 ^ T.1 0 ≤ 256 := Nat.le_trans (Nat.pow_le_pow_right (by decide) hw.1) (by decide)
  unfold fX8_setsOfBoth
  rw [xBridge_y hT hW hb, xBridge_y hT hW ho]
  simp only [Option.bind_some, if_neg one_ne]
  obtain ⟨z, hz, rfl⟩ := iter_go (f := fun s : Int32 × Int32 => fX8_setsOfBoth_S23 SHX t (nI b) (nI o) G s.1 s.2) (P := fun i s => s = (nI (fa_cnt (fun s => both T b o s && decide (s < 2 ^ T.1 0)) (64 * i)), nI i)) (Q := fun z => z = nI (nb T b o)) 4 ((0, 0) : Int32 × Int32) (by decide) rfl (by
    rintro i s hi rfl
    left
    dsimp only
    unfold fX8_setsOfBoth_S23
    rw [if_neg (show ¬ (4 : Int32) ≤ nI i from nI_ge (b := 4) hi (by decide)), xt_13 ht hx]
    simp only [Option.bind_some]
    rw [show nI b * 4 = nI (b * 4) from pk_mul b 4, show nI o * 4 = nI (o * 4) from pk_mul o 4, nI_add, nI_add, aJ_n (by rw [xn_13 ht]; omega) (by omega), aJ_n (by rw [xn_13 ht]; omega) (by omega), xThere hT hW hi]
    simp only [Option.bind_some]
    have e1 := lw_of (G.2.1 (t + 8) (b * 4 + i))
    have e2 := lw_of (G.2.1 (t + 8) (o * 4 + i))
    have u1 : (G.2.1 (t + 8) (b * 4 + i)).toUInt64.toNat < 2 ^ 64 := (G.2.1 (t + 8) (b * 4 + i)).toUInt64.toNat_lt
    have u2 : (G.2.1 (t + 8) (o * 4 + i)).toUInt64.toNat < 2 ^ 64 := (G.2.1 (t + 8) (o * 4 + i)).toUInt64.toNat_lt
    have k1 := (hT.2.2.2.1 b hb).2.2
    have k2 := (hT.2.2.2.1 o ho).2.2
    unfold bitX at k1 k2
    have j1 : ∀ j, j < 64 → (G.2.1 (t + 8) (b * 4 + i)).toUInt64.toNat.testBit j = evC (T.2.2.1 b) (64 * i + j) := fun j hj => by
      have := k1 (64 * i + j) (by omega)
      rw [show (64 * i + j) / 64 = i by omega, show (64 * i + j) % 64 = j by omega] at this
      exact this
    have j2 : ∀ j, j < 64 → (G.2.1 (t + 8) (o * 4 + i)).toUInt64.toNat.testBit j = evC (T.2.2.1 o) (64 * i + j) := fun j hj => by
      have := k2 (64 * i + j) (by omega)
      rw [show (64 * i + j) / 64 = i by omega, show (64 * i + j) % 64 = j by omega] at this
      exact this
    have key : fJ13_bitCount_95d88 ((G.2.1 (t + 8) (b * 4 + i) &&& G.2.1 (t + 8) (o * 4 + i)) &&& lN (mw (2 ^ T.1 0) i)) = some (nI (fa_cnt (fun j => both T b o (64 * i + j) && decide (64 * i + j < 2 ^ T.1 0)) 64)) := by
      rw [e1, e2]
      generalize (G.2.1 (t + 8) (b * 4 + i)).toUInt64.toNat = x1 at u1 j1
      generalize (G.2.1 (t + 8) (o * 4 + i)).toUInt64.toNat = x2 at u2 j2
      rw [wb_and u1 u2, wb_and (Nat.and_lt_two_pow _ u2) mw_lt, lbc (Nat.and_lt_two_pow _ mw_lt)]
      congr 2
      apply fa_cnt_cong
      intro j hj
      rw [Nat.testBit_and, Nat.testBit_and, j1 j hj, j2 j hj, mw_bit hj]
      rfl
    unfold bd
    dsimp only
    rw [key]
    simp only [Option.bind_some]
    rw [nI_add, nI_1]
    refine ⟨_, rfl, ?_⟩
    rw [show 64 * (i + 1) = 64 * i + 64 by omega, cnt_add]) (by
    rintro s rfl
    dsimp only
    unfold fX8_setsOfBoth_S23
    rw [if_pos (show (4 : Int32) ≤ nI 4 by decide)]
    refine ⟨_, rfl, ?_⟩
    rw [cnt_cut (64 * 4) h2]; rfl)
  rw [hz]; rfl
theorem mBoth {l b o : Nat} {T : Txt} {G : Hp} (hM : ML0 l T G) (hb : b < T.1 3) (ho : o < T.1 3) : ∃ G2, fX11_bothHold SHM G 0 (nI b) (nI o) = some (nI (nb T b o), G2) ∧ E41 G G2 := by
  have hW := hM.2.2.2.2.1
  have h2 : 2 ^ T.1 0 ≤ 256 := Nat.le_trans (Nat.pow_le_pow_right (by decide) hW.1) (by decide)
  unfold fX11_bothHold
  obtain ⟨z, hz, h1, h3⟩ := iter_go (f := fun s : Hp × Int32 × Int32 => fX11_bothHold_S5 SHM 0 (nI b) (nI o) s.1 s.2.1 s.2.2) (P := fun i s => s.2 = (nI (fa_cnt (both T b o) i), nI i) ∧ E41 G s.1) (Q := fun z => z.2 = nI (nb T b o) ∧ E41 G z.1) (2 ^ T.1 0) ((G, 0, 0) : Hp × Int32 × Int32) (by omega) ⟨rfl, E41.rf⟩ (by
    rintro i ⟨G1, s⟩ hi ⟨rfl, hE⟩
    left
    dsimp only at hE ⊢
    have M1 := hE.toM.M hM
    unfold fX11_bothHold_S5
    rw [ml_23 M1.1]
    simp only [Option.bind_some]
    rw [aI_l (n := 0) M1 mn_10, M1.2.2.2.1.1.1]
    simp only [Option.bind_some]
    rw [shl1 hW.1, if_neg (nI_ge hi (by omega))]
    obtain ⟨G2, a1, a2⟩ := mHolds (s := i) M1 hb
    rw [a1]
    simp only [bp, Option.bind_some, bd, nI_1]
    cases hc : evC (T.2.2.1 b) i with
    | false =>
      rw [if_pos (show b2 false = 0 from rfl)]
      refine ⟨_, rfl, ?_, hE.tr a2⟩
      rw [fa_cnt_no (show both T b o i = false by unfold both; rw [hc]; rfl)]
    | true =>
      rw [if_neg (show ¬ b2 true = 0 by decide)]
      have M2 := a2.toM.M M1
      obtain ⟨G3, c1, c2⟩ := mHolds (s := i) M2 ho
      rw [c1]
      simp only [Option.bind_some]
      cases hd : evC (T.2.2.1 o) i with
      | false =>
        rw [if_pos (show b2 false = 0 from rfl)]
        refine ⟨_, rfl, ?_, (hE.tr a2).tr c2⟩
        rw [fa_cnt_no (show both T b o i = false by unfold both; rw [hc, hd]; rfl)]
      | true =>
        rw [if_neg (show ¬ b2 true = 0 by decide)]
        refine ⟨_, rfl, ?_, (hE.tr a2).tr c2⟩
        rw [fa_cnt_yes (show both T b o i = true by unfold both; rw [hc, hd]; rfl)]) (by
    rintro ⟨G1, s⟩ ⟨rfl, hE⟩
    dsimp only at hE ⊢
    have M1 := hE.toM.M hM
    unfold fX11_bothHold_S5
    rw [ml_23 M1.1]
    simp only [Option.bind_some]
    rw [aI_l (n := 0) M1 mn_10, M1.2.2.2.1.1.1]
    simp only [Option.bind_some]
    rw [shl1 hW.1, if_pos (nI_le (Nat.le_refl _) (by omega))]
    exact ⟨_, rfl, rfl, hE⟩)
  rw [hz]
  simp only [Option.bind_some, bd]
  rw [h1]
  exact ⟨_, rfl, h3⟩
theorem in2_y {i : Nat} (h : i < 2) : fX11_in (nI i) 0 1 = some 1 := in_yes (n := 2) h (by decide)
theorem in2_n {x : Int32} (h : ¬ rng x 2) : fX11_in x 0 1 = some 0 := in_no (n := 2) (by decide) h
theorem rng2 {x : Int32} (h : ¬ rng x 2) : x < 0 ∨ (¬ x < 0 ∧ ¬ x ≤ 1) := by
  rcases rng_not (n := 2) (by decide) h with h0 | ⟨h0, h1⟩
  · exact Or.inl h0
  · refine Or.inr ⟨h0, fun q => ?_⟩
    have := Int32.le_iff_toInt_le.mp q
    have h2 := Int32.le_iff_toInt_le.mp h1
    rw [show (nI 2).toInt = 2 from rfl] at h2
    rw [show (1 : Int32).toInt = 1 from rfl] at this
    omega
theorem step22 {Gx Gm : Hp} (hI : Inv Gx Gm) (a b c : Int32) : Step22 SHX SHM Inv Gx Gm a b c := by
  have hI0 := hI
  obtain ⟨T, t, l, r, n, u, nx, hi, hb, sl, m, h⟩ := hI
  have hM := h.M
  have hx := h.1
  have ht := hx.1
  have hW := h.2.2.2.2.1
  have hT := h.2.2.2.2.2.1
  have hw := hW.1
  have h2 : 2 ^ T.1 0 ≤ 256 := Nat.le_trans (Nat.pow_le_pow_right (by decide) hw.1) (by decide)
  have nbl : ∀ b o, nb T b o < 2 ^ 31 := fun b o => Nat.lt_of_le_of_lt (Nat.le_trans (fa_cnt_le _ _) h2) (by decide)
  unfold Step22 fX10_alike fX11_alike
  rw [xl_text hx]
  simp only [Option.bind_some]
  by_cases ha : rng a (T.1 3)
  · obtain ⟨a, ha, rfl⟩ := ha
    rw [xBridge_y hT hW ha, mBridge_y hM ha]
    simp only [Option.bind_some, if_neg one_ne]
    by_cases hb : rng b (T.1 3)
    · obtain ⟨b, hb, rfl⟩ := hb
      rw [xBridge_y hT hW hb, mBridge_y hM hb]
      simp only [Option.bind_some, if_neg one_ne]
      by_cases hc : rng c 2
      · obtain ⟨c, hc, rfl⟩ := hc
        rw [in2_y hc, if_neg (nI_pos (by omega)), if_pos (show nI c ≤ 1 from nI_le (b := 1) (by omega) (by decide)), xBoth hx ht hT hW ha hb, xBoth hx ht hT hW ha ha, xBoth hx ht hT hW hb hb]
        obtain ⟨G2, a1, a2⟩ := mBoth hM ha hb
        simp only [Option.bind_some, if_neg one_ne]
        rw [a1]
        simp only [bp, Option.bind_some]
        by_cases h1 : nI c = 1
        · rw [if_pos h1, if_pos h1]; exact ⟨_, _, rfl, rfl, EssX.rf.I a2.toM h⟩
        · rw [if_neg h1, if_neg h1]
          obtain ⟨G3, c1, c2⟩ := mBoth (a2.toM.M hM) ha ha
          rw [c1]
          simp only [Option.bind_some]
          by_cases h3 : nI (nb T a a) = nI (nb T a b)
          · rw [if_pos h3, if_pos h3.symm]
            obtain ⟨G4, d1, d2⟩ := mBoth ((a2.tr c2).toM.M hM) hb hb
            rw [d1]
            simp only [Option.bind_some]
            by_cases h4 : nI (nb T b b) = nI (nb T a b)
            · rw [if_pos h4, if_pos h4.symm]; exact ⟨_, _, rfl, rfl, EssX.rf.I ((a2.tr c2).tr d2).toM h⟩
            · rw [if_neg h4, if_neg (fun q => h4 q.symm)]; exact ⟨_, _, rfl, rfl, EssX.rf.I ((a2.tr c2).tr d2).toM h⟩
          · rw [if_neg h3, if_neg (fun q => h3 q.symm)]; exact ⟨_, _, rfl, rfl, EssX.rf.I (a2.tr c2).toM h⟩
      · rw [in2_n hc]
        simp only [Option.bind_some, if_true]
        rcases rng2 hc with h0 | ⟨h0, h1⟩
        · rw [if_pos h0]; exact ⟨_, _, rfl, rfl, hI0⟩
        · rw [if_neg h0, if_neg h1]; exact ⟨_, _, rfl, rfl, hI0⟩
    · rw [xBridge_n hT hW hb, mBridge_n hM hb]
      exact ⟨_, _, rfl, rfl, hI0⟩
  · rw [xBridge_n hT hW ha, mBridge_n hM ha]
    exact ⟨_, _, rfl, rfl, hI0⟩
