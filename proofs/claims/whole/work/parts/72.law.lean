/-! LAWS, read: one expression and what stands behind it. -/
/-- what a law's reading changes in the class -/
def ELL (w : Nat) (G G2 : Hp) : Prop := G2.2 = G.2 ∧ ∀ q j, ¬ (q = 1 ∧ j ≤ 6) → ¬ (q = w ∧ (j = 1 ∨ j = 3)) → q ≠ w + 1 → q ≠ w + 2 → G2.1 q j = G.1 q j
theorem ELL.rf {w : Nat} {G : Hp} : ELL w G G := ⟨rfl, fun _ _ _ _ _ _ => rfl⟩
theorem ELL.tr {w : Nat} {G G2 G3 : Hp} (h : ELL w G G2) (h2 : ELL w G2 G3) : ELL w G G3 := ⟨h2.1.trans h.1, fun q j x y z u => (h2.2 q j x y z u).trans (h.2 q j x y z u)⟩
theorem ELw.ell {w : Nat} {G G2 : Hp} (h : ELw w G G2) : ELL w G G2 := ⟨h.1, fun q j x y z _ => h.2 q j x (by omega) z⟩
theorem Er1.ell {w : Nat} {G G2 : Hp} (h : Er1 6 G G2) : ELL w G G2 := ⟨h.1, fun q j x _ _ _ => h.2 q j x⟩
theorem XL.E1 {w : Nat} {L : List (List Int32)} {G G2 : Hp} (hw : isL w) (h : XL w L G) (e : Er1 6 G G2) : XL w L G2 := by
  have hb := isL_b hw
  exact XL_fr h (fun q k hq => e.2 q k (by omega))
theorem flat_snoc {L : List (List Int32)} {U : List Int32} : (L ++ [U]).flatten = L.flatten ++ U := by rw [List.flatten_append]; simp
theorem xEnd {t w : Nat} {L : List (List Int32)} {U : List Int32} {G : Hp} (hx : LX t G) (h : XLw w (L.flatten ++ U) G) (hL : G.1 w 3 = nI L.length ∧ ∀ j, j < L.length → G.1 (w + 2) j = nI (L.take (j + 1)).flatten.length) (h13 : L.length < 13) (hlen : (L.flatten ++ U).length ≤ 400) : ∃ G2, fX4_endPart SHX G w = some G2 ∧ ELL w G G2 ∧ XL w (L ++ [U]) G2 ∧ XLw w (L ++ [U]).flatten G2 ∧ ∀ q j, ¬ (q = w ∧ j = 3) → q ≠ w + 2 → G2.1 q j = G.1 q j := by
  obtain ⟨h1, h2, h3, h4⟩ := h
  have hb := isL_b h1
  unfold fX4_endPart
  rw [xw_2 h1 hx]
  simp only [ob]
  rw [xwn_2 h1, hL.1, if_neg (nI_ge h13 (by decide)), h3, asI_n (by rw [xwn_2 h1]; exact h13) (by omega)]
  simp only [ob, obd]
  rw [sI_ne (by omega), hL.1, nI_1]
  have fr : ∀ q j, ¬ (q = w ∧ j = 3) → q ≠ w + 2 → (sI (sI G (w + 2) L.length (nI (L.flatten ++ U).length)) w 3 (nI (L.length + 1))).1 q j = G.1 q j := fun q j a b => by rw [sI_ne (by omega), sI_ne (by omega)]
  refine ⟨_, rfl, ⟨rfl, fun q j _ a _ b => fr q j (by omega) b⟩, ⟨?_, fun j hj => ?_, fun i hi => ?_⟩, ⟨h1, h2, ?_, fun i hi => ?_⟩, fr⟩
  · rw [sI_same, List.length_append]; rfl
  · rw [List.length_append] at hj
    have hj2 : j < L.length + 1 := hj
    rw [sI_ne (by omega)]
    by_cases e : j = L.length
    · rw [e, sI_same, List.take_of_length_le (by rw [List.length_append]; exact Nat.le_refl _), flat_snoc]
    · rw [sI_ne (Or.inr e), List.take_append_of_le_length (by omega)]; exact hL.2 j (by omega)
  · rw [flat_snoc] at hi ⊢
    rw [fr _ _ (by omega) (by omega)]; exact h4 i hi
  · rw [fr _ _ (by omega) (by omega), flat_snoc]; exact h3
  · rw [flat_snoc] at hi ⊢
    rw [fr _ _ (by omega) (by omega)]; exact h4 i hi
theorem grw_ok {U : List Int32} {m : Nat} (h : grw U m) (hm : m ≤ 16) : okP U 0 := by
  have := h 0 [] (by omega) rfl
  rw [List.append_nil] at this
  exact this
section LJ
variable {t l w p : Nat} {D : TKd} {N : Nat × Nat}
theorem jE0 {b c0 : Nat} {L : List (List Int32)} {Gx Gm : Hp} (hD : TKo D) (hl : l ≤ 1) (hb : okK b = true) (hb0 : b ≠ 0) (hX : XP t D p N Gx) (hW : XLw w L.flatten Gx) (hL : XL w L Gx) (h12 : L.length ≤ 12) (hM : MPs l D p N Gm) (hopen : Gm.1 0 12 = 0) (h48 : Gm.1 0 48 = nI c0) (hc : 420 * (1 - l) ≤ c0 ∧ c0 ≤ 420 * (1 - l) + p) (hlp : L.flatten.length + 2 ≤ p) :
    ∃ r, fX11_expression SHM Gm 0 = some r ∧ EE c0 Gm r ∧ ((∃ Gx2 f i, fX6_readSum_d SHX 8 Gx 1 0 (ck b) = some (0, Gx2) ∧ XF t D f i Gx2 ∧ ELL w Gx Gx2 ∧ MF l D f i r) ∨ ∃ p2 U, p < p2 ∧ MPs l D p2 N r ∧ r.1 0 12 = 0 ∧ r.1 0 48 = nI (c0 + U.length) ∧ MP U c0 r ∧ okP U 0 ∧ c0 + U.length ≤ 420 * (1 - l) + p2 ∧ (L ++ [U]).flatten.length + 2 ≤ p2 ∧ ((D.1 p2 = b ∧ p2 < 400 ∧ ∃ Gx2, fX6_readSum_d SHX 8 Gx 1 0 (ck b) = some (1, Gx2) ∧ XP t D (p2 + 1) N Gx2 ∧ XL w (L ++ [U]) Gx2 ∧ XLw w (L ++ [U]).flatten Gx2 ∧ ELL w Gx Gx2) ∨ (¬ (D.1 p2 = b ∧ p2 < 400) ∧ ∃ Gx2, fX6_readSum_d SHX 8 Gx 1 0 (ck b) = some (0, Gx2) ∧ XF t D (if D.1 p2 = b then 2 else 1) p2 Gx2 ∧ ELL w Gx Gx2))) := by
  have hwl := hW.1
  have e0 : EE c0 Gm (sI Gm 0 54 0) := EE.s (by omega)
  have hC : CE l D p N c0 0 [] [] (sI Gm 0 54 0) := ⟨hM.E rfl rfl (fun q k hq => sI_ne (by omega)) (fun k hk => sI_ne (by omega)), by rw [sI_ne (by omega)]; exact hopen, ⟨sI_same, trivial, by rw [sI_ne (by omega)]; exact h48, fun i hi => (by cases hi)⟩, hc, fun x hx => (by cases hx), by decide⟩
  have hd : fX6_readSum_d SHX 8 Gx 1 0 (ck b) = fX6_readSum SHX (fX6_readSum_d SHX 7) Gx 1 (nI 0) (ck b) := rfl
  rw [hd]
  rcases jSum (bh := ck b) (P0 := L.flatten) hD hl (by decide) (fun _ => jSp hD hl 7 1 (by decide) (by decide) (by decide)) hX (by rw [List.append_nil]; exact hW) hC trivial (by decide) (by show L.flatten.length + 0 + 0 + 2 ≤ p; omega) with ⟨Gx2, f, i, r, c1, c2, c3, c4, c5, c6⟩ | ⟨G5, p2, U, X, C2, Gm2, c1, c2, c3, c4, c5, c6, c7, c8, c9, c10, c11, c12, c13⟩
  · refine ⟨r, expr_done hopen hM.2.2.2.2.1 c6, e0.tr c5, Or.inl ⟨Gx2, f, i, c1, c2, c3.ell, c4⟩⟩
  · rw [List.append_nil] at c6
    rw [List.nil_append] at c4 c7
    obtain ⟨r, b1, b2', b3⟩ := RB_end0 hD c6 c8 c9 hl
    rw [c7] at b2'
    have hb2 := c3.2.2.1
    have hlen : U.length = C2.length + X.length := by rw [← c7, List.length_append, List.length_map]
    have hfl : (L ++ [U]).flatten.length + 2 ≤ p2 := by
      rw [flat_snoc, List.length_append]
      have : L.flatten.length + C2.length + (X.length + 0) + 2 ≤ p2 := c12
      omega
    obtain ⟨m1, m2, m3, m4, -, -⟩ := b2'
    refine ⟨r, expr_done hopen hM.2.2.2.2.1 (c13 r b3), e0.tr (c10.tr b1), Or.inr ⟨p2, U, c2, m1, m2, m3.2.2.1, m3.2.2.2, grw_ok c11 (by decide), by omega, hfl, ?_⟩⟩
    rw [c1]
    have hbL := isL_b hwl
    have hL5 : G5.1 w 3 = nI L.length ∧ ∀ j, j < L.length → G5.1 (w + 2) j = nI (L.take (j + 1)).flatten.length := ⟨(c5.2 w 3 (by omega) (by omega) (by omega)).trans hL.1, fun j hj => (c5.2 (w + 2) j (by omega) (by omega) (by omega)).trans (hL.2.1 j hj)⟩
    obtain ⟨G7, s1, s2, s3, s4, s5⟩ := xEnd c3.1 c4 hL5 (by omega) (by rw [← flat_snoc]; omega)
    have hX7 : XP t D p2 N G7 := by
      obtain ⟨q1, q2, q3, q4, q5, q6, q7⟩ := c3
      exact ⟨q1.same (by rw [s2.1]), q2.E (fun q k hq => s5 q k (by omega) (by omega)) (by rw [s2.1]), q3, (s5 1 6 (by omega) (by omega)).trans q4, (s5 1 5 (by omega) (by omega)).trans q5, (s5 1 3 (by omega) (by omega)).trans q6, fun z => (s5 1 4 (by omega) (by omega)).trans (q7 z)⟩
    have hJ : fX6_readSum_J91 SHX (fX6_readSum_d SHX 7) G5 1 (nI 0) (ck b) = bp (fX6_pass SHX G7 1 (ck b)) fun r8 G9 => if ¬ (r8 = 0 ∨ r8 = 1) then none else some (r8, G9) := by
      unfold fX6_readSum_J91
      rw [if_pos (show nI 0 = 0 from rfl), xLaw c4 c3.1]
      simp only [ob]
      rw [s1]
      rfl
    rw [hJ]
    by_cases e : D.1 p2 = b ∧ p2 < 400
    · left
      obtain ⟨G2, a1, a2, a3⟩ := xPass_y hD hX7 rfl e.1 hb0 e.2
      exact ⟨e.1, e.2, G2, q01 a1 (Or.inr rfl), a3, XL.E1 hwl s3 a2, s4.E1 a2, c5.ell.tr (s2.tr a2.ell)⟩
    · right
      obtain ⟨G2, a1, a2, a3⟩ := xPass_n hD hX7 rfl hb e
      exact ⟨e, G2, q01 a1 (Or.inl rfl), a3, c5.ell.tr (s2.tr a2.ell)⟩
theorem mExpr_f {f i : Nat} {G : Hp} (h : MF l D f i G) : ∃ G2, fX11_expression SHM G 0 = some G2 ∧ MF l D f i G2 ∧ (G2.2 = G.2 ∧ ∀ q j, ¬ (q = 0 ∧ j = 54) → G2.1 q j = G.1 q j) := by
  have m1 : MF l D f i (sI G 0 54 0) := h.E rfl (fun k hk => sI_ne (by omega))
  unfold fX11_expression
  simp only [obd]
  obtain ⟨n, hn⟩ := fuel_is 1 (by decide)
  have hb : (fun s : Hp × Int32 => fX11_expression_S12 SHM 0 ((sI G 0 54 0).1 0 12) s.1 s.2) (sI G 0 54 0, 1) = some (.inr (.inl (sI G 0 54 0))) := by
    show fX11_expression_S12 SHM 0 _ (sI G 0 54 0) 1 = _
    unfold fX11_expression_S12
    rw [if_neg one_ne, if_neg m1.pos.2.1]
  rw [hn, iter_out hb]
  exact ⟨_, rfl, m1, rfl, fun q j hq => sI_ne (by omega)⟩
/-- what a law's reading changes in the reference, from branch b and code c on -/
def EEL (b c : Nat) (G G2 : Hp) : Prop := G2.2 = G.2 ∧ ∀ q j, ¬ (q = 0 ∧ (j = 11 ∨ j = 12 ∨ j = 13 ∨ j = 14 ∨ j = 42 ∨ j = 48 ∨ j = 54)) → q ≠ 36 → ¬ ((q = 33 ∨ q = 34) ∧ c ≤ j ∧ j < 420 * (c / 420 + 1)) → ¬ ((28 ≤ q ∧ q ≤ 32) ∧ b ≤ j ∧ j < 130 * (b / 130 + 1)) → G2.1 q j = G.1 q j
theorem EEL.rf {b c : Nat} {G : Hp} : EEL b c G G := ⟨rfl, fun _ _ _ _ _ _ => rfl⟩
theorem EEL.tr {b c : Nat} {G G2 G3 : Hp} (h : EEL b c G G2) (h2 : EEL b c G2 G3) : EEL b c G G3 := ⟨h2.1.trans h.1, fun q j x y z u => (h2.2 q j x y z u).trans (h.2 q j x y z u)⟩
theorem EEL.dn {b c b2 c2 : Nat} {G G2 : Hp} (h : EEL b c G G2) (hb : b2 ≤ b) (hc : c2 ≤ c) (h1 : b / 130 = b2 / 130) (h2 : c / 420 = c2 / 420) : EEL b2 c2 G G2 := ⟨h.1, fun q j x y z u => h.2 q j x y (by omega) (by omega)⟩
theorem EE.eel {b c : Nat} {G G2 : Hp} (h : EE c G G2) : EEL b c G G2 := ⟨h.1, fun q j x y z _ => h.2 q j (by omega) y z⟩
theorem EEL.s {b c q k : Nat} {G : Hp} {v : Int32} (h : (q = 0 ∧ (k = 11 ∨ k = 12 ∨ k = 13 ∨ k = 14 ∨ k = 42 ∨ k = 48 ∨ k = 54)) ∨ ((28 ≤ q ∧ q ≤ 32) ∧ b ≤ k ∧ k < 130 * (b / 130 + 1))) : EEL b c G (sI G q k v) := ⟨rfl, fun q2 k2 x y z u => sI_ne (by omega)⟩
theorem mMustE_y {k : Nat} {v : Int32} {G : Hp} (hD : TKo D) (h : MPs l D p N G) (hw : v = nI k) (hk : D.1 p = k) (hk0 : k ≠ 0) (hp : p < 400) : ∃ G2, fX11_must SHM G 0 v = some G2 ∧ (G2.2 = G.2 ∧ ∀ q j, ¬ (q = 0 ∧ j = 11) → G2.1 q j = G.1 q j) ∧ MPs l D (p + 1) N G2 := by
  have := okK_lt hD p
  unfold fX11_must
  rw [mIs hD h hw (by omega), decide_eq_true hk]
  simp only [ob]
  rw [if_neg (show ¬ b2 true = 0 by decide)]
  obtain ⟨G2, a1, a2, a3, a4⟩ := mGoes_y hD h (by rw [hk]; exact hk0) hp
  rw [a1]
  refine ⟨G2, rfl, ?_, a3⟩
  rw [a4]
  exact ⟨rfl, fun q j hq => sI_ne (by omega)⟩
theorem mMustE_n {k : Nat} {v : Int32} {G : Hp} (hD : TKo D) (h : MPs l D p N G) (hw : v = nI k) (hk1 : k < 100) (hn : ¬ (D.1 p = k ∧ p < 400)) : ∃ G2, fX11_must SHM G 0 v = some G2 ∧ (G2.2 = G.2 ∧ ∀ q j, ¬ (q = 0 ∧ (j = 11 ∨ j = 13 ∨ j = 14)) → G2.1 q j = G.1 q j) ∧ MF l D (if D.1 p = k then 2 else 1) p G2 := by
  unfold fX11_must
  rw [mIs hD h hw hk1]
  simp only [ob]
  by_cases e : D.1 p = k
  · rw [decide_eq_true e, if_neg (show ¬ b2 true = 0 by decide), if_pos e]
    obtain ⟨G2, a1, a2, a3⟩ := mGoesE_n h (fun z => hn ⟨e, z⟩)
    rw [a1]
    exact ⟨G2, rfl, a2, a3⟩
  · rw [decide_eq_false e, if_pos (show b2 false = 0 from rfl), if_neg e]
    obtain ⟨G2, a1, a2, a3⟩ := mFailE (f := 1) (Or.inl rfl) h
    rw [show (1 : Int32) = nI 1 from rfl, a1]
    exact ⟨G2, rfl, ⟨a2.1, fun q j hq => a2.2 q j (by omega)⟩, a3⟩
/-- behind a fault a term only writes -/
theorem mTerm_f {f i b : Nat} {G : Hp} (h : MF l D f i G) (h42 : G.1 0 42 = nI b) (hb : b < 260) : ∃ G2, fX11_term SHM G 0 = some G2 ∧ MF l D f i G2 ∧ G2.1 0 42 = nI (b + 1) ∧ ∀ c, EEL b c G G2 := by
  unfold fX11_term fX11_term_J24
  rw [ml_46 h.1, h42]
  simp only [ob]
  rw [asI_n (by rw [mn_31]; exact hb) (by omega)]
  simp only [ob]
  have m2 : MF l D f i (sI G 31 b (G.1 0 48)) := h.E rfl (fun k hk => sI_ne (by omega))
  have v2 : (sI G 31 b (G.1 0 48)).1 0 42 = nI b := (sI_ne (by omega)).trans h42
  have e2 : ∀ c, EEL b c G (sI G 31 b (G.1 0 48)) := fun c => EEL.s (by omega)
  generalize sI G 31 b (G.1 0 48) = G2 at m2 v2 e2
  rw [if_neg m2.pos.2.1, ml_47 m2.1, v2]
  simp only [ob]
  rw [asI_n (by rw [mn_32]; exact hb) (by omega)]
  simp only [ob, obd]
  rw [sI_ne (by omega), v2, nI_1]
  exact ⟨_, rfl, m2.E rfl (fun k hk => by rw [sI_ne (by omega), sI_ne (by omega)]), sI_same, fun c => (e2 c).tr ((EEL.s (by omega)).tr (EEL.s (by omega)))⟩
theorem mJ129_f {f i b : Nat} {k x : Int32} {G : Hp} (h : MF l D f i G) (h42 : G.1 0 42 = nI b) (hb : b < 260) : ∃ G2, fX11_tellLaw_J129 SHM G 0 k x = some G2 ∧ MF l D f i G2 ∧ ∀ c, EEL b c G G2 := by
  unfold fX11_tellLaw_J129
  rw [ml_43 h.1, h42]
  simp only [ob]
  rw [asI_n (by rw [mn_28]; exact hb) (by omega)]
  simp only [ob]
  have m2 : MF l D f i (sI G 28 b (zb 0)) := h.E rfl (fun k hk => sI_ne (by omega))
  have v2 : (sI G 28 b (zb 0)).1 0 42 = nI b := (sI_ne (by omega)).trans h42
  have e2 : ∀ c, EEL b c G (sI G 28 b (zb 0)) := fun c => EEL.s (by omega)
  generalize sI G 28 b (zb 0) = G2 at m2 v2 e2
  obtain ⟨G4, a1, a2, a3, a4⟩ := mTerm_f m2 v2 hb
  rw [a1]
  simp only [ob]
  rw [mMust_f a2]
  simp only [ob]
  rw [if_neg a2.pos.1]
  exact ⟨G4, rfl, a2, fun c => (e2 c).tr (a4 c)⟩
theorem mLawS_f {f i : Nat} {k x n : Int32} {G : Hp} (h : MF l D f i G) : fX11_tellLaw_S12 SHM 0 k x G n = some (.inr (.inl G)) := by
  unfold fX11_tellLaw_S12
  rw [if_neg h.pos.2.1]
end LJ
