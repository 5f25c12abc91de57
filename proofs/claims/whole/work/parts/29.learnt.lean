/-! WHAT IS LEARNT, TAKEN; holds, taken, alike. -/
def lrn (r : Nat → Int32) (s : Int32) : Bool := (List.range 9).any (fun k => decide (nI k < r 21) && decide (r (12 + k) = s))
theorem lrn_t {r : Nat → Int32} {s : Int32} {c k : Nat} (hc : c ≤ 9) (h21 : r 21 = nI c) (hk : k < c) (e : r (12 + k) = s) : lrn r s = true := by
  unfold lrn
  rw [List.any_eq_true]
  refine ⟨k, List.mem_range.mpr (by omega), ?_⟩
  rw [h21, Bool.and_eq_true]
  exact ⟨decide_eq_true (nI_lt hk (by omega)), decide_eq_true e⟩
theorem lrn_f {r : Nat → Int32} {s : Int32} {c : Nat} (hc : c ≤ 9) (h21 : r 21 = nI c) (h : ∀ k, k < c → r (12 + k) ≠ s) : lrn r s = false := by
  unfold lrn
  rw [List.any_eq_false]
  intro k hk
  rw [h21]
  simp only [Bool.and_eq_true, decide_eq_true_eq, not_and]
  intro h1
  exact h k ((nI_ltI (by have := List.mem_range.mp hk; omega) (by omega)).mp h1)
theorem xLearnt {t g : Nat} {T : Txt} {r : Nat → Int32} {G : Hp} {s : Int32} (hx : LX t G) (hg : isG g) (hG : XG T g r G) (hw : WFG T r) : fX1_hasLearnt SHX G g s = some (b2 (lrn r s)) := by
  obtain ⟨-, -, ⟨c, hc, h21, -⟩, -⟩ := hw
  unfold fX1_hasLearnt
  obtain ⟨o, ho, hQ⟩ := iter_go (f := fun x : Int32 => fX1_hasLearnt_S2 SHX g s G x) (P := fun i x => x = nI i ∧ ∀ k, k < i → r (12 + k) ≠ s) (Q := fun o => Sum.elim (fun _ => lrn r s = false) (fun _ => lrn r s = true) o) c (0 : Int32) (by omega) ⟨rfl, fun k hk => by omega⟩ (by
    rintro i x hi ⟨rfl, hr⟩
    unfold fX1_hasLearnt_S2
    rw [hG.2.2.2.1, h21, if_neg (nI_ge hi (by omega)), xg_3 hg hx]
    simp only [Option.bind_some]
    rw [aI_n (by rw [xgn_3 hg]; omega) (by omega), hG.2.2.1 i (by rw [h21]; exact nI_lt hi (by omega)) (by omega)]
    simp only [Option.bind_some]
    by_cases e : r (12 + i) = s
    · rw [if_pos e]; exact Or.inr ⟨_, rfl, lrn_t hc h21 hi e⟩
    · rw [if_neg e]; exact Or.inl ⟨_, rfl, nI_1 i, fun k hk => by
        by_cases ek : k = i
        · subst ek; exact e
        · exact hr k (by omega)⟩) (by
    rintro x ⟨rfl, hr⟩
    unfold fX1_hasLearnt_S2
    rw [hG.2.2.2.1, h21, if_pos (nI_le (Nat.le_refl c) (by omega))]
    exact ⟨_, rfl, lrn_f hc h21 hr⟩)
  rw [ho]
  cases o with
  | inl a => rw [show lrn r s = false from hQ]; rfl
  | inr a => rw [show lrn r s = true from hQ]; rfl
def MR (r : Nat → Int32) (G : Hp) : Prop := ∀ k, k < 26 → G.1 40 k = r k
theorem m40 {G : Hp} {k : Nat} (h : k < 26) : aI SHM G 40 (nI k) = some (G.1 40 k) := aI_n (by rw [mn_40]; exact h) (by omega)
theorem mLearnt {T : Txt} {r : Nat → Int32} {G : Hp} {s : Int32} (hL : LM G) (hG : MR r G) (hw : WFG T r) : fX11_isLearnt SHM G 0 s = some (b2 (lrn r s)) := by
  obtain ⟨-, -, ⟨c, hc, h21, -⟩, -⟩ := hw
  unfold fX11_isLearnt
  obtain ⟨o, ho, hQ⟩ := iter_go (f := fun x : Int32 => fX11_isLearnt_S2 SHM 0 s G x) (P := fun i x => x = nI i ∧ ∀ k, k < i → r (12 + k) ≠ s) (Q := fun o => Sum.elim (fun _ => lrn r s = false) (fun _ => lrn r s = true) o) c (0 : Int32) (by omega) ⟨rfl, fun k hk => by omega⟩ (by
    rintro i x hi ⟨rfl, hr⟩
    unfold fX11_isLearnt_S2
    rw [ml_59 hL]
    simp only [Option.bind_some]
    rw [show (21 : Int32) = nI 21 from rfl, m40 (by decide), hG 21 (by decide), h21]
    simp only [Option.bind_some]
    rw [if_neg (nI_ge hi (by omega)), show (12 : Int32) + nI i = nI (12 + i) from nI_add 12 i, m40 (by omega), hG (12 + i) (by omega)]
    simp only [Option.bind_some]
    by_cases e : r (12 + i) = s
    · rw [if_pos e]; exact Or.inr ⟨_, rfl, lrn_t hc h21 hi e⟩
    · rw [if_neg e]; exact Or.inl ⟨_, rfl, nI_1 i, fun k hk => by
        by_cases ek : k = i
        · subst ek; exact e
        · exact hr k (by omega)⟩) (by
    rintro x ⟨rfl, hr⟩
    unfold fX11_isLearnt_S2
    rw [ml_59 hL]
    simp only [Option.bind_some]
    rw [show (21 : Int32) = nI 21 from rfl, m40 (by decide), hG 21 (by decide), h21]
    simp only [Option.bind_some]
    rw [if_pos (nI_le (Nat.le_refl c) (by omega))]
    exact ⟨_, rfl, lrn_f hc h21 hr⟩)
  rw [ho]
  cases o with
  | inl a => rw [show lrn r s = false from hQ]; rfl
  | inr a => rw [show lrn r s = true from hQ]; rfl
/-- a set is taken at a bridge -/
def tkn (T : Txt) (r : Nat → Int32) (b s : Nat) : Bool := evC (T.2.2.1 b) s && !lrn r (nI s)
theorem xTakes {t u g b s : Nat} {T : Txt} {r : Nat → Int32} {G : Hp} (hx : LX u G) (ht : t = 11 ∨ t = 32) (hT : XT t T G) (hW : WFT T) (hg : isG g) (hG : XG T g r G) (hw : WFG T r) (hb : b < T.1 3) (hs : s < 256) : fX1_takes SHX G g t (nI b) (nI s) = some (b2 (tkn T r b s)) := by
  unfold fX1_takes tkn
  rw [xHolds hx ht hT hW hb hs]
  simp only [Option.bind_some]
  cases evC (T.2.2.1 b) s with
  | false => rfl
  | true =>
    simp only [if_true, if_neg one_ne]
    rw [xLearnt hx hg hG hw]
    simp only [Option.bind_some]
    cases lrn r (nI s) <;> rfl
theorem MR.E {r : Nat → Int32} {G G2 : Hp} (h : MR r G) (e : ∀ k, k < 26 → G2.1 40 k = G.1 40 k) : MR r G2 := fun k hk => (e k hk).trans (h k hk)
theorem mTakes {l b s : Nat} {T : Txt} {r : Nat → Int32} {G : Hp} (hM : ML0 l T G) (hr : MR r G) (hw : WFG T r) (hb : b < T.1 3) : ∃ G2, fX11_isTaken SHM G 0 (nI b) (nI s) = some (b2 (tkn T r b s), G2) ∧ E41 G G2 := by
  obtain ⟨G2, h1, h2⟩ := mHolds (s := s) hM hb
  unfold fX11_isTaken tkn
  rw [h1]
  refine ⟨G2, ?_, h2⟩
  simp only [bp, Option.bind_some]
  cases evC (T.2.2.1 b) s with
  | false => rfl
  | true =>
    rw [if_neg (show ¬ b2 true = 0 by decide), mLearnt (h2.toM.L hM.1) (hr.E (fun k hk => h2.2 40 k (by decide))) hw]
    simp only [Option.bind_some]
    cases lrn r (nI s) <;> rfl
theorem EssX.I {T : Txt} {t l : Nat} {r : Nat → Int32} {n u nx : Nat} {hi : Nat → Nat → Int32} {hb : Nat} {sl : Nat → Nat → Int32} {m : Nat} {Gx Gm Gx2 Gm2 : Hp} (ex : EssX Gx Gx2) (em : EssM Gm Gm2) (h : Inv0 T t l r n u nx hi hb sl m Gx Gm) : Inv Gx2 Gm2 := ⟨T, t, l, r, n, u, nx, hi, hb, sl, m, Inv0_ess h ex em⟩
theorem shl1 {n : Nat} (h : n ≤ 8) : (1 : Int32) <<< (nI n &&& 31) = nI (2 ^ n) := by
  have : ∀ n, n < 9 → (1 : Int32) <<< (nI n &&& 31) = nI (2 ^ n) := by decide +kernel
  exact this n (by omega)
theorem step9 {Gx Gm : Hp} (hI : Inv Gx Gm) (a b : Int32) : Step9 SHX SHM Inv Gx Gm a b := by
  have hI0 := hI
  obtain ⟨T, t, l, r, n, u, nx, hi, hb, sl, m, h⟩ := hI
  have hM := h.M
  have hx := h.1
  have ht := hx.1
  have hW := h.2.2.2.2.1
  have hT := h.2.2.2.2.2.1
  have hw := hW.1
  unfold Step9 fX10_holds fX11_holds
  rw [xl_text hx]
  simp only [Option.bind_some]
  by_cases ha : rng a (T.1 3)
  · obtain ⟨a, ha, rfl⟩ := ha
    rw [xBridge_y hT hW ha, mBridge_y hM ha, ml_23 hM.1]
    simp only [Option.bind_some, if_neg one_ne]
    rw [aI_l (n := 0) hM mn_10, hM.2.2.2.1.1.1]
    simp only [Option.bind_some]
    have h2 : 2 ^ T.1 0 ≤ 256 := Nat.le_trans (Nat.pow_le_pow_right (by decide) hw.1) (by decide)
    unfold fX8_setCount
    rw [hT.1 0 (by decide), shl1 hw.1]
    simp only [Option.bind_some]
    by_cases hs : rng b (2 ^ T.1 0)
    · obtain ⟨s, hs, rfl⟩ := hs
      rw [if_neg (nI_pos (by omega)), if_pos (nI_lt hs (by omega)), in_yes hs (by omega), xHolds hx ht hT hW ha (by omega)]
      obtain ⟨G2, e1, e2⟩ := mHolds (s := s) hM ha
      simp only [Option.bind_some, if_neg one_ne]
      rw [e1]
      simp only [bp, Option.bind_some]
      cases evC (T.2.2.1 a) s with
      | false => exact ⟨0, G2, rfl, rfl, EssX.rf.I e2.toM h⟩
      | true => exact ⟨1, G2, rfl, rfl, EssX.rf.I e2.toM h⟩
    · rw [in_no (by omega) hs]
      simp only [Option.bind_some, if_true]
      rcases rng_not (by omega) hs with h0 | ⟨h0, h1⟩
      · rw [if_pos h0]; exact ⟨_, _, rfl, rfl, hI0⟩
      · rw [if_neg h0, if_neg (Int32.not_lt.mpr h1)]; exact ⟨_, _, rfl, rfl, hI0⟩
  · rw [xBridge_n hT hW ha, mBridge_n hM ha]
    exact ⟨_, _, rfl, rfl, hI0⟩
theorem xAll_y {t b a i : Nat} {T : Txt} {G : Hp} (hx : LX t G) (hT : XT t T G) (hW : WFT T) (hb : b < T.1 3) (ha : a < T.1 1) (hi : i ≤ T.1 2) : fX10_hasAll SHX G 0 (nI b) (nI a) (wv i) = some 1 := by
  unfold fX10_hasAll
  rw [xl_text hx]
  simp only [Option.bind_some]
  rw [xBridge_y hT hW hb, xBeing_y hT hW ha, xWay_y hT hW hi]
  rfl
theorem xAll_n {t : Nat} {T : Txt} {G : Hp} {x y z : Int32} (hx : LX t G) (hT : XT t T G) (hW : WFT T) (h : ¬ (rng x (T.1 3) ∧ rng y (T.1 1) ∧ wrng z (T.1 2))) : fX10_hasAll SHX G 0 x y z = some 0 := by
  unfold fX10_hasAll
  rw [xl_text hx]
  simp only [Option.bind_some]
  by_cases h1 : rng x (T.1 3)
  · by_cases h2 : rng y (T.1 1)
    · have h3 : ¬ wrng z (T.1 2) := fun q => h ⟨h1, h2, q⟩
      obtain ⟨b, hb, rfl⟩ := h1
      obtain ⟨a, ha, rfl⟩ := h2
      rw [xBridge_y hT hW hb, xBeing_y hT hW ha, xWay_n hT hW h3]
      rfl
    · obtain ⟨b, hb, rfl⟩ := h1
      rw [xBridge_y hT hW hb, xBeing_n hT hW h2]
      rfl
  · rw [xBridge_n hT hW h1]; rfl
theorem step10 {Gx Gm : Hp} (hI : Inv Gx Gm) (a b c : Int32) : Step10 SHX SHM Inv Gx Gm a b c := by
  have hI0 := hI
  obtain ⟨T, t, l, r, n, u, nx, hi, hb, sl, m, h⟩ := hI
  have hM := h.M
  have hx := h.1
  have ht := hx.1
  have hW := h.2.2.2.2.1
  have hT := h.2.2.2.2.2.1
  have hr := h.2.2.2.2.2.2.2.1
  have hG := h.2.2.2.2.2.2.2.2.1
  unfold Step10 fX10_taken fX11_taken
  by_cases hall : rng a (T.1 3) ∧ rng b (T.1 1) ∧ wrng c (T.1 2)
  · obtain ⟨⟨a, ha, rfl⟩, ⟨b, hb, rfl⟩, ⟨i, hi, rfl⟩⟩ := hall
    rw [xAll_y hx hT hW ha hb hi, mBridge_y hM ha, mBeing_y hM hb, mSome_y hM hi, xl_text hx, xl_0_3 hx]
    simp only [Option.bind_some, if_neg one_ne]
    have hs := aSet_256 hW hb hi
    rw [xSet ⟨t, hx⟩ ht hT hW hb hi]
    simp only [Option.bind_some]
    rw [xHolds hx ht hT hW ha hs, xLearnt hx (Or.inl rfl) hG hr]
    obtain ⟨G1, e1, e2, e3, -⟩ := mCopies hM
    rw [e1]
    simp only [Option.bind_some]
    have hM1 := e2.M hM
    rw [mSet hM1 hb hi]
    simp only [Option.bind_some]
    obtain ⟨G2, f1, f2⟩ := mHolds (s := aSet T b i) hM1 ha
    rw [f1]
    simp only [bp, Option.bind_some]
    have hR : MR r G2 := fun k hk => by rw [f2.2 40 k (by decide), e3 k hk]; exact h.2.2.2.2.2.2.2.2.2.1 k hk
    rw [mLearnt (f2.toM.L hM1.1) hR hr]
    have fin : Inv Gx G2 := EssX.rf.I (e2.tr f2.toM) h
    cases evC (T.2.2.1 a) (aSet T b i) with
    | false => exact ⟨1, G2, rfl, rfl, fin⟩
    | true =>
      cases lrn r (nI (aSet T b i)) with
      | false => exact ⟨0, G2, rfl, rfl, fin⟩
      | true => exact ⟨2, G2, rfl, rfl, fin⟩
  · rw [xAll_n hx hT hW hall]
    refine ⟨-1, Gm, rfl, ?_, hI0⟩
    by_cases h1 : rng a (T.1 3)
    · obtain ⟨a, ha, rfl⟩ := h1
      rw [mBridge_y hM ha]
      simp only [Option.bind_some, if_neg one_ne]
      by_cases h2 : rng b (T.1 1)
      · obtain ⟨b, hb, rfl⟩ := h2
        rw [mBeing_y hM hb]
        simp only [Option.bind_some, if_neg one_ne]
        rw [mSome_n hM (fun q => hall ⟨⟨a, ha, rfl⟩, ⟨b, hb, rfl⟩, q⟩)]
        rfl
      · rw [mBeing_n hM h2]; rfl
    · rw [mBridge_n hM h1]; rfl
