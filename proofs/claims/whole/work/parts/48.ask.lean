/-! ask. -/
theorem cnt_mono {p q : Nat → Bool} : ∀ {n : Nat}, (∀ k, k < n → p k = true → q k = true) → fa_cnt p n ≤ fa_cnt q n
  | 0, _ => Nat.le_refl _
  | n + 1, h => by
    have ih := cnt_mono (p := p) (q := q) (n := n) (fun k hk => h k (by omega))
    cases hp : p n with
    | false =>
      rw [fa_cnt_no hp]
      cases hq : q n with
      | false => rw [fa_cnt_no hq]; exact ih
      | true => rw [fa_cnt_yes hq]; omega
    | true => rw [fa_cnt_yes hp, fa_cnt_yes (h n (by omega) hp)]; omega
theorem c2_mono {p q : Nat → Nat → Bool} {W A : Nat} (h : ∀ a i, p a i = true → q a i = true) : c2 p W A ≤ c2 q W A := fb_sm_le (fun a _ => cnt_mono (fun i _ => h a i))
def n0 (T : Txt) (ta : Nat → Nat) (th : Nat → Bool) (k b : Nat) : Nat := c2 (pM T ta th k b) (T.1 2) (T.1 1)
def nT (T : Txt) (ta : Nat → Nat) (th : Nat → Bool) (k b tr : Nat) : Nat := c2 (pX T ta th k b (2 ^ tr)) (T.1 2) (T.1 1)
theorem nT_le {T : Txt} {ta : Nat → Nat} {th : Nat → Bool} {k b tr : Nat} : nT T ta th k b tr ≤ n0 T ta th k b := c2_mono (fun a i h => by
  unfold pX at h
  rw [Bool.and_eq_true] at h
  exact h.2)
theorem n0_le {T : Txt} {ta : Nat → Nat} {th : Nat → Bool} {k b : Nat} (hW : WFT T) : n0 T ta th k b ≤ 35 := by
  have hw := hW.1
  have h1 := c2_le (p := pM T ta th k b) (W := T.1 2) (A := T.1 1)
  have h2 : T.1 1 * (T.1 2 + 1) ≤ 7 * 5 := Nat.mul_le_mul hw.2.1 (by omega)
  exact Nat.le_trans h1 h2
def wst (T : Txt) (ta : Nat → Nat) (th : Nat → Bool) (k b tr : Nat) : Nat := max (nT T ta th k b tr) (n0 T ta th k b - nT T ta th k b tr)
def ak (w : Nat → Nat) : Nat → Option (Nat × Nat)
  | 0 => none
  | i + 1 => match ak w i with
    | none => some (i, w i)
    | some p => if w i < p.2 then some (i, w i) else some p
def akB : Option (Nat × Nat) → Int32
  | none => -2
  | some p => nI p.1
def akF (z : Nat) : Option (Nat × Nat) → Int32
  | none => nI z
  | some p => nI p.2
theorem ak_ok {w : Nat → Nat} {Z : Nat} (hw : ∀ i, w i ≤ Z) : ∀ i p, ak w i = some p → p.1 < i ∧ p.2 ≤ Z := by
  intro i
  induction i with
  | zero => intro p h; cases h
  | succ i ih =>
    intro p h
    change (match ak w i with | none => some (i, w i) | some p => if w i < p.2 then some (i, w i) else some p) = some p at h
    cases hs : ak w i with
    | none =>
      rw [hs] at h
      simp only [Option.some.injEq] at h
      subst h
      exact ⟨Nat.lt_succ_self _, hw _⟩
    | some q =>
      rw [hs] at h
      dsimp only at h
      have := ih q hs
      split at h
      · simp only [Option.some.injEq] at h; subst h; exact ⟨Nat.lt_succ_self _, hw _⟩
      · simp only [Option.some.injEq] at h; subst h; exact ⟨by omega, this.2⟩
theorem ak_s {w : Nat → Nat} {i : Nat} : ak w (i + 1) = match ak w i with | none => some (i, w i) | some p => if w i < p.2 then some (i, w i) else some p := rfl
theorem imax_n {a b : Nat} (ha : a < 1000) (hb : b < 1000) : imax (nI a) (nI b) = nI (max a b) := by
  unfold imax
  by_cases h : a < b
  · rw [if_pos (nI_lt h (by omega)), Nat.max_eq_right (by omega)]
  · rw [if_neg (nI_nlt (by omega) (by omega)), Nat.max_eq_left (by omega)]
theorem and_p {s j : Nat} : decide (s &&& 2 ^ j = 2 ^ j) = s.testBit j := by
  have := and_or_eq (s := s) (a := 0) (j := j)
  rw [Nat.zero_or, Nat.and_zero] at this
  cases h : s.testBit j with
  | true => exact decide_eq_true (this.mpr ⟨rfl, h⟩)
  | false => exact decide_eq_false (fun q => by rw [(this.mp q).2] at h; cases h)
theorem mHaving {l m k b tr : Nat} {T : Txt} {ta : Nat → Nat} {th : Nat → Bool} {G : Hp} (hM : ML0 l T G) (h : TM T m ta th G) (hk : k ≤ m) (hb : b < T.1 3) (htr : tr < 8) : ∃ G2, fX11_havingBy SHM G 0 (nI b) (nI k) (nI tr) = some (nI (nT T ta th k b tr), G2) ∧ E41 G G2 := by
  have hw := hM.2.2.2.2.1
  unfold fX11_havingBy
  obtain ⟨o, b1, b2', b3⟩ := iter_go (f := fun s : Hp × Int32 × Int32 => fX11_havingBy_S6 SHM 0 (nI b) (nI k) (nI tr) s.1 s.2.1 s.2.2) (P := fun a s => E41 G s.1 ∧ s.2 = (nI (c2 (pX T ta th k b (2 ^ tr)) (T.1 2) a), nI a)) (Q := fun o => E41 G o.1 ∧ o.2 = nI (nT T ta th k b tr)) (T.1 1) (G, 0, 0) (by omega) ⟨E41.rf, rfl⟩ (by
    rintro a ⟨G1, p⟩ ha ⟨hE, rfl⟩
    left
    dsimp only at hE ⊢
    have hM1 := hE.toM.M hM
    unfold fX11_havingBy_S6
    rw [ml_24 hM1.1]
    simp only [ob]
    rw [aI_l (n := 0) hM1 mn_11, hM1.2.2.2.1.1.2.1]
    simp only [ob]
    rw [if_neg (nI_ge ha (by omega))]
    obtain ⟨o, c1, c2', c3⟩ := iter_go (f := fun s : Hp × Int32 × Int32 => fX11_havingBy_S23 SHM 0 (nI b) (nI k) (nI tr) (nI a) s.1 s.2.1 s.2.2) (P := fun i s => E41 G s.1 ∧ s.2 = (nI (c2 (pX T ta th k b (2 ^ tr)) (T.1 2) a + fa_cnt (pX T ta th k b (2 ^ tr) a) i), wv i)) (Q := fun o => E41 G o.1 ∧ o.2 = nI (c2 (pX T ta th k b (2 ^ tr)) (T.1 2) a + fa_cnt (pX T ta th k b (2 ^ tr) a) (T.1 2 + 1))) (T.1 2 + 1) (G1, nI (c2 (pX T ta th k b (2 ^ tr)) (T.1 2) a), (-1)) (by omega) ⟨hE, rfl⟩ (by
      rintro i ⟨G2, p⟩ hi ⟨hE2, rfl⟩
      left
      dsimp only at hE2 ⊢
      have hM2 := hE2.toM.M hM
      obtain ⟨G3, d1, d2⟩ := mIsSo (s := aSet T a i) hM2 (h.E hE2) hk hb
      unfold fX11_havingBy_S23
      rw [ml_27 hM2.1]
      simp only [ob]
      rw [aI_l (n := 0) hM2 mn_14, hM2.2.2.2.1.1.2.2.1]
      simp only [ob]
      rw [if_neg (wv_ge (by omega) (by omega)), mSet hM2 ha (by omega)]
      simp only [ob]
      have ep : pX T ta th k b (2 ^ tr) a i = ((aSet T a i).testBit tr && so T ta th k b (aSet T a i)) := by unfold pX; rw [and_p]
      cases hsb : (aSet T a i).testBit tr with
      | true =>
        rw [if_pos ((shr1 (by omega)).mpr hsb), d1]
        simp only [obp]
        rw [hsb] at ep
        cases hso : so T ta th k b (aSet T a i) with
        | false =>
          rw [hso] at ep
          rw [if_pos (show b2 false = 0 from rfl)]
          simp only [obd]
          refine ⟨_, rfl, hE2.tr d2, ?_⟩
          rw [wv_inc, fa_cnt_no ep]
        | true =>
          rw [hso] at ep
          rw [if_neg (show ¬ b2 true = 0 by decide)]
          simp only [obd]
          refine ⟨_, rfl, hE2.tr d2, ?_⟩
          rw [wv_inc, nI_1, fa_cnt_yes ep]; rfl
      | false =>
        rw [hsb] at ep
        rw [if_neg (fun q => by rw [(shr1 (by omega)).mp q] at hsb; cases hsb)]
        simp only [obd]
        refine ⟨_, rfl, hE2, ?_⟩
        rw [wv_inc, fa_cnt_no ep]) (by
      rintro ⟨G2, p⟩ ⟨hE2, rfl⟩
      dsimp only at hE2 ⊢
      have hM2 := hE2.toM.M hM
      unfold fX11_havingBy_S23
      rw [ml_27 hM2.1]
      simp only [ob]
      rw [aI_l (n := 0) hM2 mn_14, hM2.2.2.2.1.1.2.2.1]
      simp only [ob]
      rw [if_pos (wv_end (by omega))]
      exact ⟨_, rfl, hE2, rfl⟩)
    rw [c1]
    simp only [ob, obd]
    refine ⟨_, rfl, c2', ?_⟩
    rw [c3, nI_1]; rfl) (by
    rintro ⟨G1, p⟩ ⟨hE, rfl⟩
    dsimp only at hE ⊢
    have hM1 := hE.toM.M hM
    unfold fX11_havingBy_S6
    rw [ml_24 hM1.1]
    simp only [ob]
    rw [aI_l (n := 0) hM1 mn_11, hM1.2.2.2.1.1.2.1]
    simp only [ob]
    rw [if_pos (nI_le (Nat.le_refl _) (by omega))]
    exact ⟨_, rfl, hE, rfl⟩)
  rw [b1]
  simp only [ob, obd]
  rw [b3]
  exact ⟨_, rfl, b2'⟩
def AQ (T : Txt) (ta : Nat → Nat) (th : Nat → Bool) (k b : Nat) : Int32 := if n0 T ta th k b = 0 then -2 else akB (ak (wst T ta th k b) (T.1 0))
theorem wst_le {T : Txt} {ta : Nat → Nat} {th : Nat → Bool} {k b tr : Nat} : wst T ta th k b tr ≤ n0 T ta th k b := by
  have := nT_le (T := T) (ta := ta) (th := th) (k := k) (b := b) (tr := tr)
  unfold wst; omega
theorem xAsk {t b k : Nat} {T : Txt} {ta : Nat → Nat} {th : Nat → Bool} {G : Hp} (hx : LX t G) (hT : XT t T G) (hW : WFT T) (hb : b < T.1 3) (hta : ∀ i, i < k → ta i < 8) (h3 : G.1 284 3 = nI (mh ta th k)) (h4 : G.1 284 4 = nI (mlk ta th k)) : iter (fun s : Int32 × Int32 × Int32 => fX9_traitToAsk_S27 SHX 284 t (nI b) (nI (n0 T ta th k b)) G s.1 s.2.1 s.2.2) fuel (((-2), nI (n0 T ta th k b + 1), 0) : Int32 × Int32 × Int32) = some (AQ T ta th k b) := by
  have hw := hW.1
  have hn := n0_le (ta := ta) (th := th) (k := k) (b := b) hW
  unfold AQ
  by_cases z : n0 T ta th k b = 0
  · rw [if_pos z]
    obtain ⟨f, hf⟩ := fuel_is 1 (by decide)
    rw [hf]
    refine iter_out ?_
    dsimp only
    unfold fX9_traitToAsk_S27
    rw [z, if_pos (show nI 0 ≤ 0 by decide), ite_self]
  · rw [if_neg z]
    obtain ⟨o, b1, rfl⟩ := iter_go (f := fun s : Int32 × Int32 × Int32 => fX9_traitToAsk_S27 SHX 284 t (nI b) (nI (n0 T ta th k b)) G s.1 s.2.1 s.2.2) (P := fun i s => s = (akB (ak (wst T ta th k b) i), akF (n0 T ta th k b + 1) (ak (wst T ta th k b) i), nI i)) (Q := fun o => o = akB (ak (wst T ta th k b) (T.1 0))) (T.1 0) (((-2), nI (n0 T ta th k b + 1), 0) : Int32 × Int32 × Int32) (by omega) rfl (by
      rintro i s hi rfl
      left
      dsimp only
      have hl := nT_le (T := T) (ta := ta) (th := th) (k := k) (b := b) (tr := i)
      have hwl := wst_le (T := T) (ta := ta) (th := th) (k := k) (b := b) (tr := i)
      have p8 : 2 ^ i < 2 ^ 8 := Nat.pow_lt_pow_right (by decide) (by omega)
      unfold fX9_traitToAsk_S27
      rw [hT.1 0 (by decide), if_neg (nI_ge hi (by omega)), if_neg (nI_nle (by omega) (by omega)), shl1 (by omega), xCountWith hx hT hW hb hta h3 h4 p8]
      simp only [ob, obd]
      rw [show c2 (pX T ta th k b (2 ^ i)) (T.1 2) (T.1 1) = nT T ta th k b i from rfl, pk_sub hl, imax_n (by omega) (by omega), show max (nT T ta th k b i) (n0 T ta th k b - nT T ta th k b i) = wst T ta th k b i from rfl, ak_s]
      cases hs : ak (wst T ta th k b) i with
      | none =>
        rw [if_neg (show ¬ akF (n0 T ta th k b + 1) none ≤ nI (wst T ta th k b i) from nI_ge (by omega) (by omega))]
        exact ⟨_, rfl, by rw [nI_1]; rfl⟩
      | some p =>
        obtain ⟨o1, o2⟩ := ak_ok (fun i => wst_le) i p hs
        dsimp only
        by_cases hc : wst T ta th k b i < p.2
        · rw [if_neg (show ¬ akF (n0 T ta th k b + 1) (some p) ≤ nI (wst T ta th k b i) from nI_ge hc (by omega)), if_pos hc]
          exact ⟨_, rfl, by rw [nI_1]; rfl⟩
        · rw [if_pos (show akF (n0 T ta th k b + 1) (some p) ≤ nI (wst T ta th k b i) from nI_le (by omega) (by omega)), if_neg hc]
          exact ⟨_, rfl, by rw [nI_1]⟩) (by
      rintro s rfl
      dsimp only
      unfold fX9_traitToAsk_S27
      rw [hT.1 0 (by decide), if_pos (nI_le (Nat.le_refl _) (by omega))]
      exact ⟨_, rfl, rfl⟩)
    exact b1
theorem mAsk {l m k b : Nat} {T : Txt} {ta : Nat → Nat} {th : Nat → Bool} {G : Hp} (hM : ML0 l T G) (h : TM T m ta th G) (hk : k ≤ m) (hb : b < T.1 3) : ∃ G2, fX11_ask SHM G 0 (nI b) (nI k) = some (AQ T ta th k b, G2) ∧ E41 G G2 := by
  have hW := hM.2.2.2.2
  have hw := hW.1
  have hn := n0_le (ta := ta) (th := th) (k := k) (b := b) hW
  unfold fX11_ask
  rw [mIsKnown hM h hk hb]
  simp only [ob, if_neg one_ne]
  obtain ⟨G4, a1, a2⟩ := mWentAll hM h hk hb
  rw [a1]
  simp only [obp]
  rw [show c2 (pM T ta th k b) (T.1 2) (T.1 1) = n0 T ta th k b from rfl]
  have hM4 := a2.toM.M hM
  have h4 := h.E a2
  unfold AQ
  by_cases z : n0 T ta th k b = 0
  · rw [if_pos z]
    have : iter (fun s : Hp × Int32 × Int32 × Int32 => fX11_ask_S28 SHM 0 (nI b) (nI k) (nI (n0 T ta th k b)) s.1 s.2.1 s.2.2.1 s.2.2.2) fuel ((G4, (-2), 0, 0) : Hp × Int32 × Int32 × Int32) = some (G4, -2) := by
      obtain ⟨f, hf⟩ := fuel_is 1 (by decide)
      rw [hf]
      refine iter_out ?_
      dsimp only
      unfold fX11_ask_S28
      rw [ml_23 hM4.1]
      simp only [ob]
      rw [aI_l (n := 0) hM4 mn_10]
      simp only [ob]
      rw [z, if_pos (show nI 0 ≤ 0 by decide), ite_self]
    rw [this]
    exact ⟨_, rfl, a2⟩
  · rw [if_neg z]
    obtain ⟨o, b1, b2', b3⟩ := iter_go (f := fun s : Hp × Int32 × Int32 × Int32 => fX11_ask_S28 SHM 0 (nI b) (nI k) (nI (n0 T ta th k b)) s.1 s.2.1 s.2.2.1 s.2.2.2) (P := fun i s => E41 G s.1 ∧ s.2 = (akB (ak (wst T ta th k b) i), akF 0 (ak (wst T ta th k b) i), nI i)) (Q := fun o => E41 G o.1 ∧ o.2 = akB (ak (wst T ta th k b) (T.1 0))) (T.1 0) (G4, (-2), 0, 0) (by omega) ⟨a2, rfl⟩ (by
      rintro i ⟨G1, p⟩ hi ⟨hE, rfl⟩
      left
      dsimp only at hE ⊢
      have hM1 := hE.toM.M hM
      have hl := nT_le (T := T) (ta := ta) (th := th) (k := k) (b := b) (tr := i)
      have hwl := wst_le (T := T) (ta := ta) (th := th) (k := k) (b := b) (tr := i)
      obtain ⟨G6, d1, d2⟩ := mHaving (tr := i) hM1 (h.E hE) hk hb (by omega)
      have J : ∃ s2, fX11_ask_J74L28 SHM G6 0 (nI b) (nI k) (nI (n0 T ta th k b)) (akB (ak (wst T ta th k b) i)) (akF 0 (ak (wst T ta th k b) i)) (nI i) (nI (wst T ta th k b i)) = some (.inl s2) ∧ E41 G s2.1 ∧ s2.2 = (akB (ak (wst T ta th k b) (i + 1)), akF 0 (ak (wst T ta th k b) (i + 1)), nI (i + 1)) := by
        unfold fX11_ask_J74L28
        rw [ak_s]
        cases hs : ak (wst T ta th k b) i with
        | none =>
          rw [if_pos (show akB none < 0 by show (-2 : Int32) < 0; decide)]
          exact ⟨_, rfl, hE.tr d2, by rw [nI_1]; rfl⟩
        | some p =>
          obtain ⟨o1, o2⟩ := ak_ok (fun i => wst_le) i p hs
          dsimp only
          rw [if_neg (show ¬ akB (some p) < 0 from nI_pos (by omega))]
          by_cases hc : wst T ta th k b i < p.2
          · rw [if_pos (show nI (wst T ta th k b i) < akF 0 (some p) from nI_lt hc (by omega)), if_pos hc]
            exact ⟨_, rfl, hE.tr d2, by rw [nI_1]; rfl⟩
          · rw [if_neg (show ¬ nI (wst T ta th k b i) < akF 0 (some p) from nI_nlt (by omega) (by omega)), if_neg hc]
            exact ⟨_, rfl, hE.tr d2, by rw [nI_1]⟩
      unfold fX11_ask_S28
      rw [ml_23 hM1.1]
      simp only [ob]
      rw [aI_l (n := 0) hM1 mn_10, hM1.2.2.2.1.1.1]
      simp only [ob]
      rw [if_neg (nI_ge hi (by omega)), if_neg (nI_nle (by omega) (by omega)), d1]
      simp only [obp]
      rw [pk_sub hl]
      by_cases hc : nT T ta th k b i ≤ n0 T ta th k b - nT T ta th k b i
      · have e : n0 T ta th k b - nT T ta th k b i = wst T ta th k b i := by unfold wst; omega
        rw [if_pos (nI_le hc (by omega)), e]
        exact J
      · have e : nT T ta th k b i = wst T ta th k b i := by unfold wst; omega
        rw [if_neg (nI_ge (by omega) (by omega)), e]
        exact J) (by
      rintro ⟨G1, p⟩ ⟨hE, rfl⟩
      dsimp only at hE ⊢
      have hM1 := hE.toM.M hM
      unfold fX11_ask_S28
      rw [ml_23 hM1.1]
      simp only [ob]
      rw [aI_l (n := 0) hM1 mn_10, hM1.2.2.2.1.1.1]
      simp only [ob]
      rw [if_pos (nI_le (Nat.le_refl _) (by omega))]
      exact ⟨_, rfl, hE, rfl⟩)
    rw [b1]
    simp only [ob, obd]
    rw [b3]
    exact ⟨_, rfl, b2'⟩
theorem step30 {Gx Gm : Hp} (hI : Inv Gx Gm) (b a : Int32) : Step30 SHX SHM Inv Gx Gm b a := by
  have hI0 := hI
  obtain ⟨T, t, l, r, n, u, nx, hi, hb, sl, m, h⟩ := hI
  have hM := h.M
  have hx := h.1
  have ht := hx.1
  have hW := h.2.2.2.2.1
  have hT := h.2.2.2.2.2.1
  have hw := hW.1
  obtain ⟨ta, th, hO⟩ := RO.to h.2.2.2.2.2.2.2.2.2.2.2.2.2.1 hw.1
  unfold Step30 fX10_ask
  by_cases hk : rng b (T.1 3) ∧ rng a (m + 1)
  · obtain ⟨⟨b, hb, rfl⟩, ⟨k, hk, rfl⟩⟩ := hk
    obtain ⟨G4, y1, y2⟩ := mAsk hM hO.m (show k ≤ m by omega) hb
    rw [y1, xIsKnown hx hT hW hO.1 hO.2.1 (by omega) hb]
    simp only [ob, if_neg one_ne]
    rw [xl_0_8 hx, xl_text hx]
    simp only [ob]
    unfold fX9_traitToAsk
    obtain ⟨G2, x1, x2, x3, x4⟩ := xKnow hx hw.1 hO (show k ≤ m by omega)
    have X2 := x2.X
    have hta : ∀ i, i < k → ta i < 8 := fun i hi => Nat.lt_of_lt_of_le (hO.2.2.2 i (by omega)).1 hw.1
    rw [x1]
    simp only [ob]
    have cw := xCountWith (bits := 0) (X2.L hx) (X2.T ht hT) hW hb hta x3 x4 (by decide)
    rw [show fX9_countWith SHX G2 284 t (nI b) 0 = _ from cw]
    simp only [ob, obd]
    rw [c2_cong (fun a i _ _ => pX_0), show c2 (pM T ta th k b) (T.1 2) (T.1 1) = n0 T ta th k b from rfl, nI_1, xAsk (X2.L hx) (X2.T ht hT) hW hb hta x3 x4]
    simp only [ob, obp]
    exact ⟨_, _, _, rfl, rfl, X2.I y2.toM h⟩
  · obtain ⟨q1, q2⟩ := nKnown hx hT hM hO hk
    unfold fX11_ask
    rw [q1, q2]
    exact ⟨_, _, _, rfl, rfl, hI0⟩
