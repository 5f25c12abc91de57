/-! TOKENS: the class cuts its tape. -/
/-- tokens: kinds, places, numbers, words, how many -/
abbrev TKd : Type := (Nat → Nat) × (Nat → Nat) × (Nat → Nat) × (Nat → List Nat) × Nat
def tkd1 (y : Nat → Nat) (n : Nat) : TKd := (fun i => if ps y n i < n then kd y n (ps y n i) else 0, ps y n, fun i => dv y (ps y n i) (tl y n (ps y n i)), fun i => wd y (ps y n i) (tl y n (ps y n i)), eN y n 401)
def TKx1 (D : TKd) (i : Nat) (G : Hp) : Prop := G.1 3 i = ck (D.1 i) ∧ G.1 4 i = nI (D.2.1 i) ∧ (D.1 i = 2 → G.2.1 5 i = lN (D.2.2.1 i)) ∧ (D.1 i = 1 → G.2.1 5 i = wcode (lN 32) (D.2.2.2.1 i))
def TXs (D : TKd) (G : Hp) : Prop := ∀ i, i ≤ D.2.2.2.2 → i ≤ 400 → TKx1 D i G
def TKm1 (D : TKd) (i : Nat) (G : Hp) : Prop := G.1 3 i = nI (D.1 i) ∧ G.1 4 i = nI (D.2.1 i) ∧ (D.1 i = 2 → G.1 5 i = nI (D.2.2.1 i)) ∧ (D.1 i = 1 → G.2.1 6 i = wcode (lN 27) (D.2.2.2.1 i))
def TMs (D : TKd) (G : Hp) : Prop := ∀ i, i ≤ D.2.2.2.2 → i ≤ 400 → TKm1 D i G
def TKo (D : TKd) : Prop := D.2.2.2.2 ≤ 401 ∧ (∀ i, okK (D.1 i) = true) ∧ (∀ i, i < D.2.2.2.2 → D.1 i ≠ 0) ∧ (D.2.2.2.2 ≤ 400 → D.1 D.2.2.2.2 = 0) ∧ (∀ i j, i < j → j ≤ D.2.2.2.2 → D.2.1 i < D.2.1 j) ∧ (∀ i, D.2.1 i ≤ 2000) ∧ (∀ i, D.1 i = 2 → D.2.2.1 i ≤ 9999) ∧ ∀ i, D.1 i = 1 → okW (D.2.2.2.1 i)
theorem tkd1_ok {y : Nat → Nat} {n : Nat} (hn : n ≤ 2000) : TKo (tkd1 y n) := by
  obtain ⟨e1, e2, e3⟩ := eN_ok (y := y) (n := n) 401
  refine ⟨e1, fun i => ?_, fun i hi => ?_, fun h => ?_, fun i j hij hj => ?_, fun i => Nat.le_trans (ps_le i) hn, fun i h => ?_, fun i h => ?_⟩
  · show okK (if ps y n i < n then kd y n (ps y n i) else 0) = true
    split
    · exact (kd_ok _ _ _).1
    · rfl
  · show (if ps y n i < n then kd y n (ps y n i) else 0) ≠ 0
    rw [if_pos (e2 i hi)]; exact (kd_ok _ _ _).2
  · show (if ps y n (eN y n 401) < n then kd y n (ps y n (eN y n 401)) else 0) = 0
    rw [if_neg (by rw [e3 (show eN y n 401 < 401 from Nat.lt_succ_of_le h)]; omega)]
  · show ps y n i < ps y n j
    obtain ⟨d, rfl⟩ : ∃ d, j = (i + 1) + d := ⟨j - (i + 1), by omega⟩
    exact Nat.lt_of_lt_of_le (ps_lt (e2 i (Nat.lt_of_lt_of_le hij hj))) (ps_mono d)
  · have h2 : (if ps y n i < n then kd y n (ps y n i) else 0) = 2 := h
    show dv y (ps y n i) (tl y n (ps y n i)) ≤ 9999
    split at h2
    · unfold kd at h2
      split at h2
      · split at h2
        · exact absurd h2 (wk_ok _).2.2
        · cases h2
      · split at h2
        · split at h2
          · rename_i ha hb hc hd
            have htl : tl y n (ps y n i) = rl isDg y (n - ps y n i) (ps y n i) := by unfold tl; rw [if_neg hb, if_pos hc]
            have := dv_lt (y := y) (i := ps y n i) (tl y n (ps y n i)) (fun k hk => by rw [htl] at hk; exact rl_in _ _ _ hk)
            have h3 : 10 ^ tl y n (ps y n i) ≤ 10 ^ 4 := Nat.pow_le_pow_right (by decide) hd
            have h4 : (10 : Nat) ^ 4 = 10000 := by decide
            omega
          · cases h2
        · exact absurd h2 (sgk_ok _).2.2.2
    · cases h2
  · have h2 : (if ps y n i < n then kd y n (ps y n i) else 0) = 1 := h
    show okW (wd y (ps y n i) (tl y n (ps y n i)))
    split at h2
    · unfold kd at h2
      split at h2
      · split at h2
        · rename_i ha hb hc
          have htl : tl y n (ps y n i) = rl isLt y (n - ps y n i) (ps y n i) := by unfold tl; rw [if_pos hb]
          exact ⟨by rw [wd_len]; exact hc, wd_ok _ (fun k hk => by rw [htl] at hk; exact rl_in _ _ _ hk)⟩
        · cases h2
      · split at h2
        · split at h2 <;> cases h2
        · exact absurd h2 (sgk_ok _).2.2.1
    · cases h2
/-- the class's tape, looked at from i on -/
def XB (t n : Nat) (y : Nat → Nat) (i : Nat) (G : Hp) : Prop := LX t G ∧ G.1 2 0 = nI n ∧ G.1 2 6 = nI i ∧ (∀ j, j < n → y j < 256 ∧ G.1 7 j = sb (y j)) ∧ ∀ j, j < 26 → G.2.1 6 j = wcode (lN 32) (WORD.getD j [])
/-- nothing but tokens and the place on the tape has changed -/
def EZ (G G2 : Hp) : Prop := G2.2.2 = G.2.2 ∧ (∀ q, q ≠ 5 → G2.2.1 q = G.2.1 q) ∧ ∀ q k, q ≠ 3 → q ≠ 4 → ¬ (q = 2 ∧ k = 6) → G2.1 q k = G.1 q k
theorem EZ.rf {G : Hp} : EZ G G := ⟨rfl, fun _ _ => rfl, fun _ _ _ _ _ => rfl⟩
theorem EZ.tr {G G2 G3 : Hp} (h : EZ G G2) (h2 : EZ G2 G3) : EZ G G3 := ⟨h2.1.trans h.1, fun q a => (h2.2.1 q a).trans (h.2.1 q a), fun q k a b c => (h2.2.2 q k a b c).trans (h.2.2 q k a b c)⟩
theorem EZ.s {q k : Nat} {G : Hp} {v : Int32} (h : q = 3 ∨ q = 4 ∨ (q = 2 ∧ k = 6)) : EZ G (sI G q k v) := ⟨rfl, fun _ _ => rfl, fun q2 k2 a b c => sI_ne (by omega)⟩
theorem sJ_row {G : Hp} {q k q2 : Nat} {v : Int64} (h : q2 ≠ q) : (sJ G q k v).2.1 q2 = G.2.1 q2 := by
  funext k2; exact sJ_ne (Or.inl h)
theorem EZ.j {k : Nat} {G : Hp} {v : Int64} : EZ G (sJ G 5 k v) := ⟨rfl, fun q h => sJ_row h, fun _ _ _ _ _ => rfl⟩
theorem XB.mv {t n i j : Nat} {y : Nat → Nat} {G G2 : Hp} (h : XB t n y i G) (e : EZ G G2) (hj : G2.1 2 6 = nI j) : XB t n y j G2 := by
  obtain ⟨h1, h2, h3, h4, h5⟩ := h
  exact ⟨h1.same e.1, (e.2.2 2 0 (by decide) (by decide) (by omega)).trans h2, hj, fun j hj => ⟨(h4 j hj).1, (e.2.2 7 j (by decide) (by decide) (by omega)).trans (h4 j hj).2⟩, fun j hj => by rw [e.2.1 6 (by decide)]; exact h5 j hj⟩
/-- only the place has changed -/
def E26 (G G2 : Hp) : Prop := G2.2 = G.2 ∧ ∀ q k, ¬ (q = 2 ∧ k = 6) → G2.1 q k = G.1 q k
theorem E26.rf {G : Hp} : E26 G G := ⟨rfl, fun _ _ _ => rfl⟩
theorem E26.tr {G G2 G3 : Hp} (h : E26 G G2) (h2 : E26 G2 G3) : E26 G G3 := ⟨h2.1.trans h.1, fun q k a => (h2.2 q k a).trans (h.2 q k a)⟩
theorem E26.s {G : Hp} {v : Int32} : E26 G (sI G 2 6 v) := ⟨rfl, fun q2 k2 a => sI_ne (by omega)⟩
theorem E26.Z {G G2 : Hp} (h : E26 G G2) : EZ G G2 := ⟨by rw [h.1], fun q _ => by rw [h.1], fun q k _ _ c => h.2 q k c⟩
section CX
variable {t n : Nat} {y : Nat → Nat} {G : Hp}
theorem xSk_S (hn : n ≤ 2000) : ∀ d i (G : Hp), i + d = n → XB t n y i G → ∀ fu, d < fu → ∃ o, iter (fun s : Hp => fX7_skipBlanks_S0 SHX 2 s) fu G = some o ∧ ∃ G2, (o = .inl G2 ∨ o = .inr G2) ∧ E26 G G2 ∧ XB t n y (sk y n i) G2
  | 0, i, G, hd, h, fu, hf => by
    obtain ⟨fu, rfl⟩ : ∃ f, fu = f + 1 := ⟨fu - 1, by omega⟩
    rw [show i = n by omega] at h ⊢
    rw [sk_e]
    refine ⟨_, iter_out (o := .inl G) ?_, G, Or.inl rfl, E26.rf, h⟩
    unfold fX7_skipBlanks_S0
    rw [h.2.1, h.2.2.1, if_pos (nI_le (Nat.le_refl _) (by omega))]
  | d + 1, i, G, hd, h, fu, hf => by
    obtain ⟨fu, rfl⟩ : ∃ f, fu = f + 1 := ⟨fu - 1, by omega⟩
    obtain ⟨hy, hb⟩ := h.2.2.2.1 i (by omega)
    obtain ⟨b1, b2', b3, b4⟩ := by_B (y i) hy
    have e2 : E26 G (sI G 2 6 (nI (i + 1))) := E26.s
    have hx2 : XB t n y (i + 1) (sI G 2 6 (nI (i + 1))) := h.mv e2.Z sI_same
    have hbody : fX7_skipBlanks_S0 SHX 2 G = if isBk (y i) then some (.inl (sI G 2 6 (nI (i + 1)))) else some (.inr (.inr G)) := by
      unfold fX7_skipBlanks_S0
      rw [h.2.1, h.2.2.1, if_neg (nI_ge (by omega) (by omega)), xl_2_5 h.1]
      simp only [ob]
      rw [aI_n (by rw [xnn_7]; omega) (by omega), hb, nI_1]
      simp only [ob, obd]
      by_cases c1 : y i = 9
      · rw [if_pos (b1.mpr c1), if_pos (isBk_i.mpr (Or.inl c1))]
      · rw [if_neg (fun q => c1 (b1.mp q))]
        by_cases c2 : y i = 10
        · rw [if_pos (b2'.mpr c2), if_pos (isBk_i.mpr (Or.inr (Or.inl c2)))]
        · rw [if_neg (fun q => c2 (b2'.mp q))]
          by_cases c3 : y i = 13
          · rw [if_pos (b3.mpr c3), if_pos (isBk_i.mpr (Or.inr (Or.inr (Or.inl c3))))]
          · rw [if_neg (fun q => c3 (b3.mp q))]
            by_cases c4 : y i = 32
            · rw [if_pos (b4.mpr c4), if_pos (isBk_i.mpr (Or.inr (Or.inr (Or.inr c4))))]
            · rw [if_neg (fun q => c4 (b4.mp q)), if_neg (fun q => by rcases isBk_i.mp q with q | q | q | q <;> contradiction)]
    cases hk : isBk (y i) with
    | true =>
      rw [hk, if_pos rfl] at hbody
      obtain ⟨o, k1, G2, k2, k3, k4⟩ := xSk_S hn d (i + 1) _ (by omega) hx2 fu (by omega)
      refine ⟨o, ?_, G2, k2, e2.tr k3, ?_⟩
      · rw [iter_in hbody]; exact k1
      · rw [sk_y (by omega) hk]; exact k4
    | false =>
      rw [hk, if_neg (by decide)] at hbody
      refine ⟨_, iter_out hbody, G, Or.inr rfl, E26.rf, ?_⟩
      rw [sk_n hk]; exact h
theorem xSkip {i : Nat} (hn : n ≤ 2000) (hi : i ≤ n) (h : XB t n y i G) : ∃ G2, fX7_skipBlanks SHX G 2 = some G2 ∧ E26 G G2 ∧ XB t n y (sk y n i) G2 := by
  unfold fX7_skipBlanks
  rw [h.2.1, h.2.2.1]
  by_cases e : i = n
  · rw [e] at h ⊢
    rw [if_pos (nI_le (Nat.le_refl _) (by omega)), sk_e]
    exact ⟨_, rfl, E26.rf, h⟩
  · rw [if_neg (nI_ge (by omega) (by omega)), xl_2_5 h.1]
    simp only [ob]
    obtain ⟨hy, hb⟩ := h.2.2.2.1 i (by omega)
    obtain ⟨b1, b2', b3, b4⟩ := by_B (y i) hy
    rw [aI_n (by rw [xnn_7]; omega) (by omega), hb]
    simp only [ob]
    have J : isBk (y i) = true → ∃ G2, fX7_skipBlanks_J46 SHX G 2 = some G2 ∧ E26 G G2 ∧ XB t n y (sk y n i) G2 := by
      intro hk
      unfold fX7_skipBlanks_J46
      rw [h.2.2.1, nI_1]
      simp only [obd]
      have e2 : E26 G (sI G 2 6 (nI (i + 1))) := E26.s
      obtain ⟨o, k1, G2, k2, k3, k4⟩ := xSk_S hn (n - (i + 1)) (i + 1) _ (by omega) (h.mv e2.Z sI_same) fuel (by unfold fuel; omega)
      rw [k1, sk_y (by omega) hk]
      simp only [ob]
      rcases k2 with rfl | rfl
      · exact ⟨G2, rfl, e2.tr k3, k4⟩
      · exact ⟨G2, rfl, e2.tr k3, k4⟩
    by_cases c1 : y i = 9
    · rw [if_pos (b1.mpr c1)]; exact J (isBk_i.mpr (Or.inl c1))
    · rw [if_neg (fun q => c1 (b1.mp q))]
      by_cases c2 : y i = 10
      · rw [if_pos (b2'.mpr c2)]; exact J (isBk_i.mpr (Or.inr (Or.inl c2)))
      · rw [if_neg (fun q => c2 (b2'.mp q))]
        by_cases c3 : y i = 13
        · rw [if_pos (b3.mpr c3)]; exact J (isBk_i.mpr (Or.inr (Or.inr (Or.inl c3))))
        · rw [if_neg (fun q => c3 (b3.mp q))]
          by_cases c4 : y i = 32
          · rw [if_pos (b4.mpr c4)]; exact J (isBk_i.mpr (Or.inr (Or.inr (Or.inr c4))))
          · rw [if_neg (fun q => c4 (b4.mp q)), sk_n (by
              cases hk : isBk (y i) with
              | false => rfl
              | true => rcases isBk_i.mp hk with q | q | q | q <;> contradiction)]
            exact ⟨_, rfl, E26.rf, h⟩
theorem xKind {i : Nat} {w : List Nat} (h : XB t n y i G) (hw : okW w) : fX7_kindOf SHX G 2 (wcode (lN 32) w) = some (ck (wk w)) := by
  unfold fX7_kindOf
  obtain ⟨o, h1, h2⟩ := iter_go (f := fun s : Int32 => fX7_kindOf_S2 SHX 2 (wcode (lN 32) w) G s) (P := fun i s => s = nI i ∧ ∀ j, j < i → WORD.getD j [] ≠ w) (Q := fun o => Sum.elim (fun _ => ∀ j, j < 26 → WORD.getD j [] ≠ w) (fun z => ∃ j, j < 26 ∧ z = nI j ∧ WORD.getD j [] = w) o) 26 (0 : Int32) (by decide) ⟨rfl, fun j hj => by omega⟩ (by
    rintro i s hi ⟨rfl, hj⟩
    unfold fX7_kindOf_S2
    rw [if_neg (show ¬ (26 : Int32) ≤ nI i from nI_ge (b := 26) hi (by decide)), xl_2_4 h.1]
    simp only [ob]
    rw [aJ_n (by rw [xnn_6]; exact hi) (by omega), h.2.2.2.2 i hi]
    simp only [ob]
    by_cases e : WORD.getD i [] = w
    · rw [if_pos ((lg_cmp_eq _ _).mpr (by rw [e]))]
      exact Or.inr ⟨_, rfl, i, hi, rfl, e⟩
    · rw [if_neg (fun q => e ((wcode_inj (by decide) (by decide) (WORD_ok i hi) hw).mp ((lg_cmp_eq _ _).mp q)))]
      simp only [obd]
      refine Or.inl ⟨_, rfl, nI_1 i, fun j hj2 => ?_⟩
      by_cases ej : j = i
      · rw [ej]; exact e
      · exact hj j (by omega)) (by
    rintro s ⟨rfl, hj⟩
    unfold fX7_kindOf_S2
    rw [if_pos (show (26 : Int32) ≤ nI 26 by decide)]
    exact ⟨_, rfl, hj⟩)
  rw [h1]
  cases o with
  | inl z =>
    rw [wk_no h2]
    rfl
  | inr z =>
    obtain ⟨j, j1, rfl, rfl⟩ : ∃ j, j < 26 ∧ z = nI j ∧ WORD.getD j [] = w := h2
    show some ((256 : Int32) + nI j) = _
    unfold ck
    rw [wk_x j j1, show (256 : Int32) + nI j = nI (256 + j) from nI_add 256 j]
theorem xWord {i k : Nat} (hn : n ≤ 2000) (hi : i < n) (hk : k ≤ 400) (h : XB t n y i G) (hL : isLt (y i) = true) : ∃ G2, fX7_cutWord SHX G 2 (nI k) = some G2 ∧ EZ G G2 ∧ XB t n y (i + tl y n i) G2 ∧ G2.1 3 k = ck (kd y n i) ∧ (∀ q j, (q = 3 ∨ q = 4) → ¬ (q = 3 ∧ j = k) → G2.1 q j = G.1 q j) ∧ (∀ j, j ≠ k → G2.2.1 5 j = G.2.1 5 j) ∧ G2.2.1 5 k = wcode (lN 32) (wd y i (tl y n i)) := by
  have htl : tl y n i = rl isLt y (n - i) i := by unfold tl; rw [if_pos hL]
  have hle := tl_b (y := y) hi
  unfold fX7_cutWord
  obtain ⟨o, h1, h2, h3, h4⟩ := iter_go (f := fun s : Hp × Int32 × Int64 => fX7_cutWord_S4 SHX 2 (nI k) s.1 s.2.1 s.2.2) (P := fun j s => j ≤ tl y n i ∧ E26 G s.1 ∧ XB t n y (i + j) s.1 ∧ s.2 = (nI j, wcode (lN 32) (wd y i j))) (Q := fun o => E26 G o.1 ∧ XB t n y (i + tl y n i) o.1 ∧ o.2 = (nI (tl y n i), wcode (lN 32) (wd y i (tl y n i)))) (n - i + 1) (G, 0, 0) (by omega) ⟨Nat.zero_le _, E26.rf, h, rfl⟩ (by
    rintro j ⟨G1, s⟩ hj ⟨hjl, hE, hX, rfl⟩
    dsimp only at hE hX ⊢
    unfold fX7_cutWord_S4
    rw [hX.2.1, hX.2.2.1]
    by_cases e : j = tl y n i
    · right
      subst e
      by_cases en : i + tl y n i = n
      · rw [if_pos (nI_le (by omega) (by omega))]
        exact ⟨_, rfl, hE, hX, rfl⟩
      · rw [if_neg (nI_ge (by omega) (by omega)), xl_2_5 hX.1]
        simp only [ob]
        obtain ⟨hy, hb⟩ := hX.2.2.2.1 (i + tl y n i) (by omega)
        rw [aI_n (by rw [xnn_7]; omega) (by omega), hb]
        simp only [ob]
        rw [by_L _ hy]
        simp only [ob]
        have := rl_out (p := isLt) (y := y) (n - i) i (by omega)
        rw [← htl] at this
        rw [this, if_pos (show b2 false = 0 from rfl)]
        exact ⟨_, rfl, hE, hX, rfl⟩
    · left
      rw [if_neg (nI_ge (by omega) (by omega)), xl_2_5 hX.1]
      simp only [ob]
      obtain ⟨hy, hb⟩ := hX.2.2.2.1 (i + j) (by omega)
      rw [aI_n (by rw [xnn_7]; omega) (by omega), hb]
      simp only [ob]
      have hl := rl_in (p := isLt) (y := y) (n - i) i j (by omega)
      rw [by_L _ hy, hl]
      simp only [ob]
      rw [if_neg (show ¬ b2 true = 0 by decide)]
      unfold fX7_withLetter
      simp only [ob, obd]
      rw [(by_W _ hy hl).1, nI_1, nI_1]
      refine ⟨_, rfl, by omega, hE.tr E26.s, hX.mv E26.s.Z sI_same, ?_⟩
      show (nI (j + 1), wcode (lN 32) (wd y i j) * 32 + lN (y (i + j) - 96)) = _
      rw [show wd y i (j + 1) = wd y i j ++ [y (i + j) - 96] from rfl, wcode_snoc]
      rfl) (by
    rintro ⟨G1, s⟩ ⟨hjl, -, -, -⟩
    omega)
  rw [h1]
  simp only [ob, obd]
  obtain ⟨G1, s⟩ := o
  obtain rfl : s = _ := h4
  dsimp only at h2 h3 ⊢
  unfold fX7_cutWord_J60
  rw [xl_2_3 h3.1]
  simp only [ob]
  rw [asJ_n (by rw [xnn_5]; omega) (by omega)]
  simp only [ob]
  have e2 : EZ G1 (sJ G1 5 k (wcode (lN 32) (wd y i (tl y n i)))) := EZ.j
  have s2 : (sJ G1 5 k (wcode (lN 32) (wd y i (tl y n i)))).2.1 5 k = wcode (lN 32) (wd y i (tl y n i)) := sJ_same
  have n2 : ∀ j, j ≠ k → (sJ G1 5 k (wcode (lN 32) (wd y i (tl y n i)))).2.1 5 j = G1.2.1 5 j := fun j hj => sJ_ne (Or.inr hj)
  have i2 : (sJ G1 5 k (wcode (lN 32) (wd y i (tl y n i)))).1 = G1.1 := rfl
  generalize sJ G1 5 k (wcode (lN 32) (wd y i (tl y n i))) = G2 at e2 s2 n2 i2
  have hX2 := h3.mv e2 ((congrFun (congrFun i2 2) 6).trans h3.2.2.1)
  rw [xl_2_1 hX2.1]
  simp only [ob]
  have hkd : kd y n i = if tl y n i ≤ 8 then wk (wd y i (tl y n i)) else 3 := by unfold kd; rw [if_pos hL]
  have fin : ∀ v, v = ck (kd y n i) → ∃ G3, (asI SHX G2 3 (nI k) v).bind (fun G6 => some G6) = some G3 ∧ EZ G G3 ∧ XB t n y (i + tl y n i) G3 ∧ G3.1 3 k = ck (kd y n i) ∧ (∀ q j, (q = 3 ∨ q = 4) → ¬ (q = 3 ∧ j = k) → G3.1 q j = G.1 q j) ∧ (∀ j, j ≠ k → G3.2.1 5 j = G.2.1 5 j) ∧ G3.2.1 5 k = wcode (lN 32) (wd y i (tl y n i)) := by
    rintro v rfl
    rw [asI_n (by rw [xnn_3]; omega) (by omega)]
    simp only [ob]
    refine ⟨_, rfl, h2.Z.tr (e2.tr (EZ.s (Or.inl rfl))), hX2.mv (EZ.s (Or.inl rfl)) (by rw [sI_ne (Or.inl (by decide))]; exact hX2.2.2.1), sI_same, fun q j hq hj => ?_, fun j hj => ?_, s2⟩
    · rw [sI_ne (by omega), i2]; exact h2.2 q j (by omega)
    · show G2.2.1 5 j = _
      rw [n2 j hj, h2.1]
  by_cases h8 : tl y n i ≤ 8
  · rw [if_pos (show nI (tl y n i) ≤ 8 from nI_le (b := 8) h8 (by decide)), xKind hX2 ⟨by rw [wd_len]; exact h8, wd_ok _ (fun j hj => rl_in (n - i) _ _ (by omega))⟩]
    simp only [ob]
    exact fin _ (by rw [hkd, if_pos h8])
  · rw [if_neg (show ¬ nI (tl y n i) ≤ 8 from nI_ge (a := 8) (by omega) (by omega))]
    exact fin 3 (by rw [hkd, if_neg h8]; rfl)
/-- what one token leaves -/
def ONx (t n : Nat) (y : Nat → Nat) (i k : Nat) (G G2 : Hp) : Prop := EZ G G2 ∧ XB t n y (i + tl y n i) G2 ∧ G2.1 3 k = ck (kd y n i) ∧ (∀ q j, (q = 3 ∨ q = 4) → ¬ (q = 3 ∧ j = k) → G2.1 q j = G.1 q j) ∧ (∀ j, j ≠ k → G2.2.1 5 j = G.2.1 5 j) ∧ (kd y n i = 2 → G2.2.1 5 k = lN (dv y i (tl y n i))) ∧ (kd y n i = 1 → G2.2.1 5 k = wcode (lN 32) (wd y i (tl y n i)))
theorem toL_nI {v : Nat} (h : v < 2 ^ 31) : Int32.toInt64 (nI v) = lN v := by
  apply Int64.toInt_inj.mp
  rw [Int32.toInt_toInt64, nI_toInt h, lN_ti (by omega), if_pos (by omega)]
theorem xNumber {i k : Nat} (hn : n ≤ 2000) (hi : i < n) (hk : k ≤ 400) (h : XB t n y i G) (hL : isLt (y i) = false) (hD : isDg (y i) = true) : ∃ G2, fX7_cutNumber SHX G 2 (nI k) = some G2 ∧ ONx t n y i k G G2 := by
  have htl : tl y n i = rl isDg y (n - i) i := by unfold tl; rw [hL, if_neg (by decide), if_pos hD]
  have hle := tl_b (y := y) hi
  unfold fX7_cutNumber
  obtain ⟨o, h1, h2, h3, h4⟩ := iter_go (f := fun s : Hp × Int32 × Int32 => fX7_cutNumber_S4 SHX 2 (nI k) s.1 s.2.1 s.2.2) (P := fun j s => j ≤ tl y n i ∧ E26 G s.1 ∧ XB t n y (i + j) s.1 ∧ s.2 = (nI j, nI (dv y i j))) (Q := fun o => E26 G o.1 ∧ XB t n y (i + tl y n i) o.1 ∧ o.2 = (nI (tl y n i), nI (dv y i (tl y n i)))) (n - i + 1) (G, 0, 0) (by omega) ⟨Nat.zero_le _, E26.rf, h, rfl⟩ (by
    rintro j ⟨G1, s⟩ hj ⟨hjl, hE, hX, rfl⟩
    dsimp only at hE hX ⊢
    unfold fX7_cutNumber_S4
    rw [hX.2.1, hX.2.2.1]
    by_cases e : j = tl y n i
    · right
      subst e
      by_cases en : i + tl y n i = n
      · rw [if_pos (nI_le (by omega) (by omega))]
        exact ⟨_, rfl, hE, hX, rfl⟩
      · rw [if_neg (nI_ge (by omega) (by omega)), xl_2_5 hX.1]
        simp only [ob]
        obtain ⟨hy, hb⟩ := hX.2.2.2.1 (i + tl y n i) (by omega)
        rw [aI_n (by rw [xnn_7]; omega) (by omega), hb]
        simp only [ob]
        rw [by_D _ hy]
        simp only [ob]
        have := rl_out (p := isDg) (y := y) (n - i) i (by omega)
        rw [← htl] at this
        rw [this, if_pos (show b2 false = 0 from rfl)]
        exact ⟨_, rfl, hE, hX, rfl⟩
    · left
      rw [if_neg (nI_ge (by omega) (by omega)), xl_2_5 hX.1]
      simp only [ob]
      obtain ⟨hy, hb⟩ := hX.2.2.2.1 (i + j) (by omega)
      rw [aI_n (by rw [xnn_7]; omega) (by omega), hb]
      simp only [ob]
      have hl := rl_in (p := isDg) (y := y) (n - i) i j (by omega)
      rw [by_D _ hy, hl]
      simp only [ob]
      rw [if_neg (show ¬ b2 true = 0 by decide)]
      simp only [obd]
      rw [by_V _ hy hl, nI_1, nI_1, show nI (dv y i j) * 10 = nI (dv y i j * 10) from pk_mul (dv y i j) 10, nI_add]
      refine ⟨_, rfl, by omega, hE.tr E26.s, hX.mv E26.s.Z sI_same, ?_⟩
      show (nI (j + 1), nI (dv y i j * 10 + (y (i + j) - 48))) = (nI (j + 1), nI (10 * dv y i j + (y (i + j) - 48)))
      rw [Nat.mul_comm]) (by
    rintro ⟨G1, s⟩ ⟨hjl, -, -, -⟩
    omega)
  rw [h1]
  simp only [ob, obd]
  obtain ⟨G1, s⟩ := o
  obtain rfl : s = _ := h4
  dsimp only at h2 h3 ⊢
  unfold fX7_cutNumber_J64
  rw [xl_2_3 h3.1]
  simp only [ob]
  rw [asJ_n (by rw [xnn_5]; omega) (by omega)]
  simp only [ob]
  have e2 : EZ G1 (sJ G1 5 k (Int32.toInt64 (nI (dv y i (tl y n i))))) := EZ.j
  have s2 : (sJ G1 5 k (Int32.toInt64 (nI (dv y i (tl y n i))))).2.1 5 k = Int32.toInt64 (nI (dv y i (tl y n i))) := sJ_same
  have n2 : ∀ j, j ≠ k → (sJ G1 5 k (Int32.toInt64 (nI (dv y i (tl y n i))))).2.1 5 j = G1.2.1 5 j := fun j hj => sJ_ne (Or.inr hj)
  have i2 : (sJ G1 5 k (Int32.toInt64 (nI (dv y i (tl y n i))))).1 = G1.1 := rfl
  generalize sJ G1 5 k (Int32.toInt64 (nI (dv y i (tl y n i)))) = G2 at e2 s2 n2 i2
  have hX2 := h3.mv e2 ((congrFun (congrFun i2 2) 6).trans h3.2.2.1)
  rw [xl_2_1 hX2.1]
  simp only [ob]
  have hkd : kd y n i = if tl y n i ≤ 4 then 2 else 3 := by unfold kd; rw [hL, if_neg (by decide), if_pos hD]
  have fin : ∀ v, v = ck (kd y n i) → ∃ G3, (asI SHX G2 3 (nI k) v).bind (fun G6 => some G6) = some G3 ∧ ONx t n y i k G G3 := by
    rintro v rfl
    rw [asI_n (by rw [xnn_3]; omega) (by omega)]
    simp only [ob]
    refine ⟨_, rfl, h2.Z.tr (e2.tr (EZ.s (Or.inl rfl))), hX2.mv (EZ.s (Or.inl rfl)) (by rw [sI_ne (Or.inl (by decide))]; exact hX2.2.2.1), sI_same, fun q j hq hj => ?_, fun j hj => ?_, fun hk2 => ?_, fun hk1 => ?_⟩
    · rw [sI_ne (by omega), i2]; exact h2.2 q j (by omega)
    · show G2.2.1 5 j = _
      rw [n2 j hj, h2.1]
    · show G2.2.1 5 k = _
      rw [s2]
      refine toL_nI ?_
      by_cases h4 : tl y n i ≤ 4
      · have h5 := dv_lt (y := y) (i := i) (tl y n i) (fun j hj => rl_in (n - i) _ _ (by omega))
        have h6 : 10 ^ tl y n i ≤ 10 ^ 4 := Nat.pow_le_pow_right (by decide) h4
        have h7 : (10 : Nat) ^ 4 = 10000 := by decide
        omega
      · rw [hkd, if_neg h4] at hk2; cases hk2
    · rw [hkd] at hk1
      split at hk1 <;> cases hk1
  by_cases h8 : tl y n i ≤ 4
  · rw [if_pos (show nI (tl y n i) ≤ 4 from nI_le (b := 4) h8 (by decide))]
    exact fin 2 (by rw [hkd, if_pos h8]; rfl)
  · rw [if_neg (show ¬ nI (tl y n i) ≤ 4 from nI_ge (a := 4) (by omega) (by omega))]
    exact fin 3 (by rw [hkd, if_neg h8]; rfl)
theorem xOne {i k : Nat} (hn : n ≤ 2000) (hi : i < n) (hk : k ≤ 400) (h : XB t n y i G) : ∃ G2, fX7_cutOne SHX G 2 (nI k) = some G2 ∧ ONx t n y i k G G2 := by
  obtain ⟨hy, hb⟩ := h.2.2.2.1 i hi
  unfold fX7_cutOne
  rw [xl_2_5 h.1, h.2.2.1]
  simp only [ob]
  rw [aI_n (by rw [xnn_7]; omega) (by omega), hb]
  simp only [ob]
  rw [by_L _ hy, by_D _ hy, by_S _ hy]
  simp only [ob]
  cases hL : isLt (y i) with
  | true =>
    rw [if_neg (show ¬ b2 true = 0 by decide)]
    obtain ⟨G2, a1, a2, a3, a4, a5, a6, a7⟩ := xWord hn hi hk h hL
    rw [a1]
    refine ⟨G2, rfl, a2, a3, a4, a5, a6, fun hk2 => ?_, fun _ => a7⟩
    unfold kd at hk2
    rw [if_pos hL] at hk2
    split at hk2
    · exact absurd hk2 (wk_ok _).2.2
    · cases hk2
  | false =>
    rw [if_pos (show b2 false = 0 from rfl)]
    cases hD : isDg (y i) with
    | true =>
      rw [if_neg (show ¬ b2 true = 0 by decide)]
      obtain ⟨G2, a1, a2⟩ := xNumber hn hi hk h hL hD
      rw [a1]
      exact ⟨G2, rfl, a2⟩
    | false =>
      rw [if_pos (show b2 false = 0 from rfl), xl_2_1 h.1]
      simp only [ob]
      have htl : tl y n i = 1 := by unfold tl; rw [hL, hD]; rfl
      have hkd : kd y n i = sgk (y i) := by unfold kd; rw [hL, hD]; rfl
      obtain ⟨-, -, c1, c2'⟩ := sgk_ok (y i)
      have fin : ∀ v, v = ck (kd y n i) → ∃ G3, (asI SHX G 3 (nI k) v).bind (fun G12 => bd (sI G12 2 6 ((G12.1 2 6) + 1)) fun G13 => some G13) = some G3 ∧ ONx t n y i k G G3 := by
        rintro v rfl
        rw [asI_n (by rw [xnn_3]; omega) (by omega)]
        simp only [ob, obd]
        rw [sI_ne (Or.inl (by decide)), h.2.2.1, nI_1]
        refine ⟨_, rfl, (EZ.s (Or.inl rfl)).tr (EZ.s (Or.inr (Or.inr ⟨rfl, rfl⟩))), h.mv ((EZ.s (Or.inl rfl)).tr (EZ.s (Or.inr (Or.inr ⟨rfl, rfl⟩)))) (by rw [sI_same, htl]), ?_, fun q j hq hj => ?_, fun j hj => rfl, fun hk2 => ?_, fun hk1 => ?_⟩
        · rw [sI_ne (Or.inl (by decide)), sI_same]
        · rw [sI_ne (by omega), sI_ne (by omega)]
        · rw [hkd] at hk2; exact absurd hk2 c2'
        · rw [hkd] at hk1; exact absurd hk1 c1
      by_cases h3 : sgk (y i) = 3
      · rw [if_pos h3, if_pos rfl]
        exact fin 3 (by rw [hkd, h3]; rfl)
      · rw [if_neg h3, if_neg one_ne]
        exact fin (sb (y i)) (by rw [hkd]; exact by_C _ hy h3)
theorem ps_0 : ps y n 0 = sk y n 0 := rfl
theorem xCut (hn : n ≤ 2000) (hx : LX t G) (h0 : G.1 2 0 = nI n) (hb : ∀ j, j < n → y j < 256 ∧ G.1 7 j = sb (y j)) (hw : ∀ j, j < 26 → G.2.1 6 j = wcode (lN 32) (WORD.getD j [])) : ∃ G2, fX7_cut SHX G 2 = some G2 ∧ EZ G G2 ∧ TXs (tkd1 y n) G2 := by
  obtain ⟨e1, e2, e3⟩ := eN_ok (y := y) (n := n) 401
  unfold fX7_cut
  simp only [obd]
  have hX1 : XB t n y 0 (sI G 2 6 0) := ⟨hx, by rw [sI_ne (by omega)]; exact h0, sI_same, fun j hj => ⟨(hb j hj).1, by rw [sI_ne (Or.inl (by decide))]; exact (hb j hj).2⟩, hw⟩
  have z1 : EZ G (sI G 2 6 0) := EZ.s (Or.inr (Or.inr ⟨rfl, rfl⟩))
  obtain ⟨G3, s1, s2, s3⟩ := xSkip hn (Nat.zero_le _) hX1
  rw [s1]
  simp only [ob]
  have z3 := z1.tr s2.Z
  obtain ⟨o, k1, k2, k3, k4, k5⟩ := iter_go (f := fun s : Hp × Int32 => fX7_cut_S11 SHX 2 s.1 s.2) (P := fun k s => k ≤ eN y n 401 ∧ s.2 = nI k ∧ EZ G s.1 ∧ XB t n y (ps y n k) s.1 ∧ ∀ i, i < k → TKx1 (tkd1 y n) i s.1) (Q := fun o => o.2 = nI (eN y n 401) ∧ EZ G o.1 ∧ XB t n y (ps y n (eN y n 401)) o.1 ∧ ∀ i, i < eN y n 401 → TKx1 (tkd1 y n) i o.1) 402 (G3, 0) (by decide) ⟨Nat.zero_le _, rfl, z3, s3, fun i hi => by omega⟩ (by
    rintro k ⟨G1, x⟩ hk ⟨hke, rfl, hZ, hX, hT⟩
    dsimp only at hZ hX hT ⊢
    unfold fX7_cut_S11
    rw [hX.2.1, hX.2.2.1]
    by_cases e : k = eN y n 401
    · right
      subst e
      by_cases e4 : eN y n 401 = 401
      · rw [if_pos (by rw [e4]; decide)]
        exact ⟨_, rfl, rfl, hZ, hX, hT⟩
      · rw [if_neg (show ¬ (400 : Int32) < nI (eN y n 401) from nI_nlt (a := 400) (by omega) (by decide)), e3 (by omega), if_pos (nI_le (Nat.le_refl _) (by omega))]
        rw [e3 (by omega)] at hX
        exact ⟨_, rfl, rfl, hZ, hX, hT⟩
    · left
      have hlt := e2 k (by omega)
      rw [if_neg (show ¬ (400 : Int32) < nI k from nI_nlt (a := 400) (by omega) (by decide)), if_neg (nI_ge hlt (by omega)), xl_2_2 hX.1]
      simp only [ob]
      rw [asI_n (by rw [xnn_4]; omega) (by omega)]
      simp only [ob]
      have z4 : EZ G1 (sI G1 4 k (nI (ps y n k))) := EZ.s (Or.inr (Or.inl rfl))
      have v4 : (sI G1 4 k (nI (ps y n k))).1 4 k = nI (ps y n k) := sI_same
      have n4 : ∀ q j, ¬ (q = 4 ∧ j = k) → (sI G1 4 k (nI (ps y n k))).1 q j = G1.1 q j := fun q j h => sI_ne (by omega)
      have j4 : (sI G1 4 k (nI (ps y n k))).2 = G1.2 := rfl
      generalize sI G1 4 k (nI (ps y n k)) = G4 at z4 v4 n4 j4
      obtain ⟨G6, a1, a2, a3, a4, a5, a6, a7, a8⟩ := xOne (k := k) hn hlt (by omega) (hX.mv z4 ((n4 2 6 (by omega)).trans hX.2.2.1))
      rw [a1]
      simp only [ob]
      obtain ⟨G8, b1, b2', b3⟩ := xSkip hn (tl_b hlt).2 a3
      rw [b1]
      simp only [ob, obd]
      refine ⟨_, rfl, by omega, nI_1 k, hZ.tr (z4.tr (a2.tr b2'.Z)), by rw [ps_s hlt]; exact b3, fun i hi => ?_⟩
      have hK : ∀ i, ps y n i < n → (tkd1 y n).1 i = kd y n (ps y n i) := fun i hi => if_pos hi
      by_cases ei : i = k
      · subst ei
        refine ⟨?_, ?_, fun h2 => ?_, fun h1 => ?_⟩
        · show G8.1 3 i = _
          rw [b2'.2 3 i (by omega), a4, hK i hlt]
        · show G8.1 4 i = _
          rw [b2'.2 4 i (by omega), a5 4 i (Or.inr rfl) (by omega), v4]
          rfl
        · show G8.2.1 5 i = _
          rw [hK i hlt] at h2
          rw [b2'.1, a7 h2]
          rfl
        · show G8.2.1 5 i = _
          rw [hK i hlt] at h1
          rw [b2'.1, a8 h1]
          rfl
      · obtain ⟨t1, t2, t3, t4⟩ := hT i (by omega)
        have f3 : ∀ q, q = 3 ∨ q = 4 → G8.1 q i = G1.1 q i := fun q hq => by rw [b2'.2 q i (by omega), a5 q i hq (by omega), n4 q i (by omega)]
        have f5 : G8.2.1 5 i = G1.2.1 5 i := by rw [b2'.1, a6 i ei, j4]
        exact ⟨(f3 3 (Or.inl rfl)).trans t1, (f3 4 (Or.inr rfl)).trans t2, fun h2 => f5.trans (t3 h2), fun h1 => f5.trans (t4 h1)⟩) (by
    rintro ⟨G1, x⟩ ⟨hke, -⟩
    omega)
  rw [k1]
  simp only [ob, obd]
  obtain ⟨G5, x⟩ := o
  obtain rfl : x = _ := k2
  dsimp only at k3 k4 k5 ⊢
  unfold fX7_cut_J54
  rw [xl_2_1 k4.1]
  simp only [ob]
  rw [asI_n (by rw [xnn_3]; omega) (by omega)]
  simp only [ob]
  have hx2 : LX t (sI G5 3 (eN y n 401) 0) := k4.1
  rw [xl_2_2 hx2, sI_ne (Or.inl (by decide)), k4.2.1]
  simp only [ob]
  rw [asI_n (by rw [xnn_4]; omega) (by omega)]
  refine ⟨_, rfl, k3.tr ((EZ.s (Or.inl rfl)).tr (EZ.s (Or.inr (Or.inl rfl)))), fun i hi h400 => ?_⟩
  have hi2 : i ≤ eN y n 401 := hi
  by_cases e : i = eN y n 401
  · have hps := e3 (by omega)
    have hK : (tkd1 y n).1 i = 0 := by
      show (if ps y n i < n then kd y n (ps y n i) else 0) = 0
      rw [if_neg (by rw [e, hps]; omega)]
    refine ⟨?_, ?_, fun h2 => ?_, fun h1 => ?_⟩
    · rw [hK, sI_ne (Or.inl (by decide)), e, sI_same]; rfl
    · rw [e, sI_same]
      show nI n = nI (ps y n (eN y n 401))
      rw [hps]
    · rw [hK] at h2; cases h2
    · rw [hK] at h1; cases h1
  · obtain ⟨t1, t2, t3, t4⟩ := k5 i (by omega)
    refine ⟨?_, ?_, t3, t4⟩
    · rw [sI_ne (Or.inl (by decide)), sI_ne (Or.inr e)]; exact t1
    · rw [sI_ne (Or.inr e), sI_ne (Or.inl (by decide))]; exact t2
end CX
