/-! TOKENS: the reference cuts its text. -/
def MBt (n : Nat) (y : Nat → Nat) (G : Hp) : Prop := LM G ∧ G.1 0 4 = nI n ∧ (∀ j, j < n → y j < 256 ∧ G.1 2 j = sb (y j)) ∧ ∀ j, j < 26 → G.2.1 7 j = wcode (lN 27) (WORD.getD (mword j) [])
/-- nothing but tokens has changed -/
def ETk (G G2 : Hp) : Prop := G2.2.2 = G.2.2 ∧ (∀ q, q ≠ 6 → G2.2.1 q = G.2.1 q) ∧ ∀ q k, q ≠ 3 → q ≠ 4 → q ≠ 5 → ¬ (q = 0 ∧ k = 10) → G2.1 q k = G.1 q k
theorem ETk.rf {G : Hp} : ETk G G := ⟨rfl, fun _ _ => rfl, fun _ _ _ _ _ _ => rfl⟩
theorem ETk.tr {G G2 G3 : Hp} (h : ETk G G2) (h2 : ETk G2 G3) : ETk G G3 := ⟨h2.1.trans h.1, fun q a => (h2.2.1 q a).trans (h.2.1 q a), fun q k a b c d => (h2.2.2 q k a b c d).trans (h.2.2 q k a b c d)⟩
theorem MBt.mv {n : Nat} {y : Nat → Nat} {G G2 : Hp} (h : MBt n y G) (e : ETk G G2) : MBt n y G2 := by
  obtain ⟨h1, h2, h3, h4⟩ := h
  exact ⟨h1.same e.1, (e.2.2 0 4 (by decide) (by decide) (by decide) (by omega)).trans h2, fun j hj => ⟨(h3 j hj).1, (e.2.2 2 j (by decide) (by decide) (by decide) (by omega)).trans (h3 j hj).2⟩, fun j hj => by rw [e.2.1 7 (by decide)]; exact h4 j hj⟩
/-- one token is put down at k -/
def TKp (k : Nat) (a b c : Int32) (w : Int64) (G G2 : Hp) : Prop := ETk G G2 ∧ G2.1 0 10 = nI (k + 1) ∧ (G2.1 3 k = a ∧ G2.1 4 k = b ∧ G2.1 5 k = c ∧ G2.2.1 6 k = w) ∧ ∀ j, j ≠ k → G2.1 3 j = G.1 3 j ∧ G2.1 4 j = G.1 4 j ∧ G2.1 5 j = G.1 5 j ∧ G2.2.1 6 j = G.2.1 6 j
section CM
variable {n : Nat} {y : Nat → Nat} {G : Hp}
theorem mByte {i : Nat} (h : MBt n y G) (hn : n ≤ 2000) (hi : i < 100000) : fX11_byteAt SHM G 0 (nI i) = some (nI (if i < n then y i else 0)) := by
  unfold fX11_byteAt
  rw [h.2.1]
  by_cases e : i < n
  · rw [if_neg (nI_ge e (by omega)), ml_3 h.1, if_pos e]
    simp only [ob]
    rw [aI_n (by rw [mn_2]; omega) (by omega), (h.2.2.1 i e).2]
    simp only [ob]
    rw [by_M _ (h.2.2.1 i e).1]
  · rw [if_pos (nI_le (by omega) (by omega)), if_neg e]
    rfl
theorem mTok {k : Nat} {a b c : Int32} {w : Int64} (hL : LM G) (hk : k ≤ 401) (h10 : G.1 0 10 = nI k) : ∃ G2, fX11_token SHM G 0 a b c w = some G2 ∧ TKp k a b c w G G2 := by
  unfold fX11_token
  rw [ml_5 hL, h10]
  simp only [ob]
  rw [asI_n (by rw [mn_3]; omega) (by omega)]
  simp only [ob]
  have L2 : LM (sI G 3 k a) := hL
  rw [ml_6 L2, sI_ne (Or.inl (by decide)), h10]
  simp only [ob]
  rw [asI_n (by rw [mn_4]; omega) (by omega)]
  simp only [ob]
  have L4 : LM (sI (sI G 3 k a) 4 k b) := hL
  rw [ml_7 L4, sI_ne (Or.inl (by decide)), sI_ne (Or.inl (by decide)), h10]
  simp only [ob]
  rw [asI_n (by rw [mn_5]; omega) (by omega)]
  simp only [ob]
  have L6 : LM (sI (sI (sI G 3 k a) 4 k b) 5 k c) := hL
  rw [ml_8 L6, sI_ne (Or.inl (by decide)), sI_ne (Or.inl (by decide)), sI_ne (Or.inl (by decide)), h10]
  simp only [ob]
  rw [asJ_n (by rw [mn_6]; omega) (by omega)]
  simp only [ob, obd]
  have e10 : (sJ (sI (sI (sI G 3 k a) 4 k b) 5 k c) 6 k w).1 0 10 = nI k := by
    show (sI (sI (sI G 3 k a) 4 k b) 5 k c).1 0 10 = _
    rw [sI_ne (Or.inl (by decide)), sI_ne (Or.inl (by decide)), sI_ne (Or.inl (by decide)), h10]
  rw [e10, nI_1]
  refine ⟨_, rfl, ⟨rfl, fun q hq => ?_, fun q j h3 h4 h5 h0 => ?_⟩, sI_same, ⟨?_, ?_, ?_, ?_⟩, fun j hj => ⟨?_, ?_, ?_, ?_⟩⟩
  · exact sJ_row hq
  · rw [sI_ne (by omega)]
    show (sI (sI (sI G 3 k a) 4 k b) 5 k c).1 q j = _
    rw [sI_ne (by omega), sI_ne (by omega), sI_ne (by omega)]
  · rw [sI_ne (by omega)]
    show (sI (sI (sI G 3 k a) 4 k b) 5 k c).1 3 k = _
    rw [sI_ne (by omega), sI_ne (by omega), sI_same]
  · rw [sI_ne (by omega)]
    show (sI (sI (sI G 3 k a) 4 k b) 5 k c).1 4 k = _
    rw [sI_ne (by omega), sI_same]
  · rw [sI_ne (by omega)]
    show (sI (sI (sI G 3 k a) 4 k b) 5 k c).1 5 k = _
    rw [sI_same]
  · exact sJ_same
  · rw [sI_ne (by omega)]
    show (sI (sI (sI G 3 k a) 4 k b) 5 k c).1 3 j = _
    rw [sI_ne (by omega), sI_ne (by omega), sI_ne (by omega)]
  · rw [sI_ne (by omega)]
    show (sI (sI (sI G 3 k a) 4 k b) 5 k c).1 4 j = _
    rw [sI_ne (by omega), sI_ne (by omega), sI_ne (by omega)]
  · rw [sI_ne (by omega)]
    show (sI (sI (sI G 3 k a) 4 k b) 5 k c).1 5 j = _
    rw [sI_ne (by omega), sI_ne (by omega), sI_ne (by omega)]
  · exact sJ_ne (Or.inr hj)
def sg5 (y : Nat) : Int32 := if y = 60 then 13 else if y = 47 then 15 else if y = 42 then 10 else if y = 45 then 9 else if y = 43 then 8 else if y = 59 then 4 else if y = 61 then 5 else if y = 40 then 6 else if y = 41 then 7 else 3
theorem sg5_k : ∀ y, y < 256 → sg5 y = nI (sgk y) := by decide +kernel
theorem sel {α : Type} {c : Nat} {z : Nat} (hz : z < 256) (hc : c < 256) {a b : α} : (if nI z = nI c then a else b) = if z = c then a else b := by
  by_cases h : z = c
  · rw [if_pos h, if_pos (by rw [h])]
  · rw [if_neg h, if_neg (fun q => h ((nI_eq (by omega) (by omega)).mp q))]
theorem mSign {z : Nat} {a d : Int32} (hz : z < 256) : fX11_sign SHM G 0 a (nI z) d = (fX11_token SHM G 0 (nI (sgk z)) a 0 0).bind fun G3 => some (1, G3) := by
  rw [← sg5_k z hz]
  have J85 : ∀ v, fX11_sign_J85 SHM G 0 a (nI z) v = (fX11_token SHM G 0 (if z = 60 then 13 else v) a 0 0).bind fun G3 => some (1, G3) := fun v => by
    unfold fX11_sign_J85
    rw [show (60 : Int32) = nI 60 from rfl, sel hz (by decide)]
    split <;> rfl
  have J75 : ∀ v, fX11_sign_J75 SHM G 0 a (nI z) v = (fX11_token SHM G 0 (if z = 60 then 13 else if z = 47 then 15 else v) a 0 0).bind fun G3 => some (1, G3) := fun v => by
    unfold fX11_sign_J75
    rw [show (47 : Int32) = nI 47 from rfl, sel hz (by decide), J85, J85]
    by_cases h : z = 47
    · rw [if_pos h, if_pos h]
    · rw [if_neg h, if_neg h]
  have J65 : ∀ v, fX11_sign_J65 SHM G 0 a (nI z) v = (fX11_token SHM G 0 (if z = 60 then 13 else if z = 47 then 15 else if z = 42 then 10 else v) a 0 0).bind fun G3 => some (1, G3) := fun v => by
    unfold fX11_sign_J65
    rw [show (42 : Int32) = nI 42 from rfl, sel hz (by decide), J75, J75]
    by_cases h : z = 42
    · rw [if_pos h, if_pos h]
    · rw [if_neg h, if_neg h]
  have J55 : ∀ v, fX11_sign_J55 SHM G 0 a (nI z) v = (fX11_token SHM G 0 (if z = 60 then 13 else if z = 47 then 15 else if z = 42 then 10 else if z = 45 then 9 else v) a 0 0).bind fun G3 => some (1, G3) := fun v => by
    unfold fX11_sign_J55
    rw [show (45 : Int32) = nI 45 from rfl, sel hz (by decide), J65, J65]
    by_cases h : z = 45
    · rw [if_pos h, if_pos h]
    · rw [if_neg h, if_neg h]
  have J43 : ∀ v, fX11_sign_J43 SHM G 0 a (nI z) v = (fX11_token SHM G 0 (if z = 60 then 13 else if z = 47 then 15 else if z = 42 then 10 else if z = 45 then 9 else if z = 43 then 8 else v) a 0 0).bind fun G3 => some (1, G3) := fun v => by
    unfold fX11_sign_J43
    rw [show (43 : Int32) = nI 43 from rfl, sel hz (by decide), J55, J55]
    by_cases h : z = 43
    · rw [if_pos h, if_pos h]
    · rw [if_neg h, if_neg h]
  unfold fX11_sign sg5
  rw [show (59 : Int32) = nI 59 from rfl, sel hz (by decide), show (61 : Int32) = nI 61 from rfl, sel hz (by decide), show (40 : Int32) = nI 40 from rfl, sel hz (by decide), show (41 : Int32) = nI 41 from rfl, sel hz (by decide), J43, J43, J43, J43, J43]
  by_cases h1 : z = 59
  · rw [if_pos h1, if_pos h1]
  · rw [if_neg h1, if_neg h1]
    by_cases h2 : z = 61
    · rw [if_pos h2, if_pos h2]
    · rw [if_neg h2, if_neg h2]
      by_cases h3 : z = 40
      · rw [if_pos h3, if_pos h3]
      · rw [if_neg h3, if_neg h3]
        by_cases h4 : z = 41
        · rw [if_pos h4, if_pos h4]
        · rw [if_neg h4, if_neg h4]
theorem mWord {i : Nat} (hn : n ≤ 2000) (hi : i < n) (h : MBt n y G) (hL : isLt (y i) = true) : ∃ v : Int64, iter (fun s : Int32 × Int64 => fX11_cut_S85 SHM 0 (nI i) G s.1 s.2) fuel ((0, 0) : Int32 × Int64) = some (nI (tl y n i), v) ∧ (tl y n i ≤ 8 → v = wcode (lN 27) (wd y i (tl y n i))) := by
  have htl : tl y n i = rl isLt y (n - i) i := by unfold tl; rw [if_pos hL]
  have hle := tl_b (y := y) hi
  obtain ⟨o, h1, h2, h3⟩ := iter_go (f := fun s : Int32 × Int64 => fX11_cut_S85 SHM 0 (nI i) G s.1 s.2) (P := fun j s => j ≤ tl y n i ∧ s.1 = nI j ∧ (j ≤ 8 → s.2 = wcode (lN 27) (wd y i j))) (Q := fun o => o.1 = nI (tl y n i) ∧ (tl y n i ≤ 8 → o.2 = wcode (lN 27) (wd y i (tl y n i)))) (n - i + 1) ((0, 0) : Int32 × Int64) (by omega) ⟨Nat.zero_le _, rfl, fun _ => rfl⟩ (by
    rintro j ⟨s1, s2⟩ hj ⟨hjl, rfl, hv⟩
    dsimp only at hv ⊢
    unfold fX11_cut_S85
    rw [nI_add, mByte h hn (by omega)]
    simp only [ob]
    by_cases e : j = tl y n i
    · right
      have hfalse : isLt (if i + j < n then y (i + j) else 0) = false := by
        by_cases en : i + j < n
        · rw [if_pos en, e]
          have := rl_out (p := isLt) (y := y) (n - i) i (by omega)
          rw [← htl] at this
          exact this
        · rw [if_neg en]; rfl
      have hlt : (if i + j < n then y (i + j) else 0) < 256 := by
        split
        · exact (h.2.2.1 _ (by assumption)).1
        · decide
      rw [bm_L _ hlt, hfalse]
      simp only [ob]
      rw [if_pos (show b2 false = 0 from rfl)]
      refine ⟨_, rfl, ?_, fun h8 => ?_⟩
      · rw [e]
      · dsimp only; rw [hv (by omega), e]
    · left
      have hl := rl_in (p := isLt) (y := y) (n - i) i j (by omega)
      have hij : i + j < n := by omega
      have hy := (h.2.2.1 _ hij).1
      rw [if_pos hij, bm_L _ hy, hl]
      simp only [ob]
      rw [if_neg (show ¬ b2 true = 0 by decide)]
      by_cases h8 : 8 ≤ j
      · rw [if_pos (show (8 : Int32) ≤ nI j from nI_le (a := 8) h8 (by omega))]
        simp only [obd]
        exact ⟨_, rfl, by omega, nI_1 j, fun q => by omega⟩
      · rw [if_neg (show ¬ (8 : Int32) ≤ nI j from nI_ge (b := 8) (by omega) (by decide))]
        unfold fX11_appends
        have hyl := isLt_i.mp hl
        rw [if_neg (show ¬ nI (y (i + j)) = 0 from fun q => by have := (nI_eq (b := 0) (by omega) (by decide)).mp q; omega)]
        simp only [ob, obd]
        rw [(by_W _ hy hl).2]
        refine ⟨_, rfl, by omega, nI_1 j, fun _ => ?_⟩
        dsimp only
        rw [hv (by omega), show wd y i (j + 1) = wd y i j ++ [y (i + j) - 96] from rfl, wcode_snoc, show (27 : Int64) = lN 27 from rfl, Int64.mul_comm]) (by
    rintro ⟨s1, s2⟩ ⟨hjl, -⟩
    omega)
  obtain ⟨o1, o2⟩ := o
  obtain rfl : o1 = _ := h2
  exact ⟨o2, h1, h3⟩
theorem mNum {i : Nat} (hn : n ≤ 2000) (hi : i < n) (h : MBt n y G) (hL : isLt (y i) = false) (hD : isDg (y i) = true) : ∃ v : Int32, iter (fun s : Int32 × Int32 => fX11_cut_S208 SHM 0 (nI i) G s.1 s.2) fuel ((0, 0) : Int32 × Int32) = some (nI (tl y n i), v) ∧ (tl y n i ≤ 4 → v = nI (dv y i (tl y n i))) := by
  have htl : tl y n i = rl isDg y (n - i) i := by unfold tl; rw [hL, if_neg (by decide), if_pos hD]
  have hle := tl_b (y := y) hi
  obtain ⟨o, h1, h2, h3⟩ := iter_go (f := fun s : Int32 × Int32 => fX11_cut_S208 SHM 0 (nI i) G s.1 s.2) (P := fun j s => j ≤ tl y n i ∧ s.1 = nI j ∧ (j ≤ 4 → s.2 = nI (dv y i j))) (Q := fun o => o.1 = nI (tl y n i) ∧ (tl y n i ≤ 4 → o.2 = nI (dv y i (tl y n i)))) (n - i + 1) ((0, 0) : Int32 × Int32) (by omega) ⟨Nat.zero_le _, rfl, fun _ => rfl⟩ (by
    rintro j ⟨s1, s2⟩ hj ⟨hjl, rfl, hv⟩
    dsimp only at hv ⊢
    unfold fX11_cut_S208
    rw [nI_add, mByte h hn (by omega)]
    simp only [ob]
    by_cases e : j = tl y n i
    · right
      have hfalse : isDg (if i + j < n then y (i + j) else 0) = false := by
        by_cases en : i + j < n
        · rw [if_pos en, e]
          have := rl_out (p := isDg) (y := y) (n - i) i (by omega)
          rw [← htl] at this
          exact this
        · rw [if_neg en]; rfl
      have hlt : (if i + j < n then y (i + j) else 0) < 256 := by
        split
        · exact (h.2.2.1 _ (by assumption)).1
        · decide
      rw [bm_D _ hlt, hfalse]
      simp only [ob]
      rw [if_pos (show b2 false = 0 from rfl)]
      refine ⟨_, rfl, ?_, fun h8 => ?_⟩
      · rw [e]
      · dsimp only; rw [hv (by omega), e]
    · left
      have hl := rl_in (p := isDg) (y := y) (n - i) i j (by omega)
      have hij : i + j < n := by omega
      have hy := (h.2.2.1 _ hij).1
      rw [if_pos hij, bm_D _ hy, hl]
      simp only [ob]
      rw [if_neg (show ¬ b2 true = 0 by decide)]
      by_cases h8 : 4 ≤ j
      · rw [if_pos (show (4 : Int32) ≤ nI j from nI_le (a := 4) h8 (by omega))]
        simp only [obd]
        exact ⟨_, rfl, by omega, nI_1 j, fun q => by omega⟩
      · rw [if_neg (show ¬ (4 : Int32) ≤ nI j from nI_ge (b := 4) (by omega) (by decide))]
        have hyl := isDg_i.mp hl
        simp only [obd]
        refine ⟨_, rfl, by omega, nI_1 j, fun _ => ?_⟩
        dsimp only
        rw [hv (by omega), show (10 : Int32) * nI (dv y i j) = nI (10 * dv y i j) from pk_mul 10 (dv y i j), nI_add, show dv y i (j + 1) = 10 * dv y i j + (y (i + j) - 48) from rfl]
        have : nI (10 * dv y i j + y (i + j)) = nI (10 * dv y i j + (y (i + j) - 48)) + 48 := by
          rw [show (48 : Int32) = nI 48 from rfl, nI_add]
          congr 1
          omega
        rw [this, Int32.add_sub_cancel]) (by
    rintro ⟨s1, s2⟩ ⟨hjl, -⟩
    omega)
  obtain ⟨o1, o2⟩ := o
  obtain rfl : o1 = _ := h2
  exact ⟨o2, h1, h3⟩
theorem mKind {w : List Nat} {a b : Int32} (h : MBt n y G) (hw : okW w) : iter (fun s : Int32 × Int32 => fX11_cut_S146 SHM 0 a b (wcode (lN 27) w) G s.1 s.2) fuel ((1, 0) : Int32 × Int32) = some (nI (wk w)) := by
  obtain ⟨o, h1, rfl⟩ := iter_go (f := fun s : Int32 × Int32 => fX11_cut_S146 SHM 0 a b (wcode (lN 27) w) G s.1 s.2) (P := fun k s => s.2 = nI k ∧ ((∃ j, j < k ∧ WORD.getD (mword j) [] = w ∧ s.1 = nI (20 + j)) ∨ ((∀ j, j < k → WORD.getD (mword j) [] ≠ w) ∧ s.1 = 1))) (Q := fun o => o = nI (wk w)) 26 ((1, 0) : Int32 × Int32) (by decide) ⟨rfl, Or.inr ⟨fun j hj => by omega, rfl⟩⟩ (by
    rintro k ⟨s1, s2⟩ hk ⟨rfl, hP⟩
    left
    dsimp only at hP ⊢
    unfold fX11_cut_S146
    rw [if_neg (show ¬ (26 : Int32) ≤ nI k from nI_ge (b := 26) hk (by decide)), ml_9 h.1]
    simp only [ob]
    rw [aJ_n (by rw [mn_7]; exact hk) (by omega), h.2.2.2 k hk]
    simp only [ob]
    by_cases e : WORD.getD (mword k) [] = w
    · rw [if_pos ((lg_cmp_eq _ _).mpr (by rw [e]))]
      simp only [obd]
      exact ⟨_, rfl, nI_1 k, Or.inl ⟨k, by omega, e, nI_add 20 k⟩⟩
    · rw [if_neg (fun q => e ((wcode_inj (by decide) (by decide) (WORD_ok _ (mword_lt k hk)) hw).mp ((lg_cmp_eq _ _).mp q)))]
      simp only [obd]
      refine ⟨_, rfl, nI_1 k, ?_⟩
      rcases hP with ⟨j, j1, j2, j3⟩ | ⟨j1, j2⟩
      · exact Or.inl ⟨j, by omega, j2, j3⟩
      · refine Or.inr ⟨fun j hj => ?_, j2⟩
        by_cases ej : j = k
        · rw [ej]; exact e
        · exact j1 j (by omega)) (by
    rintro ⟨s1, s2⟩ ⟨rfl, hP⟩
    dsimp only at hP ⊢
    unfold fX11_cut_S146
    rw [if_pos (show (26 : Int32) ≤ nI 26 by decide)]
    refine ⟨_, rfl, ?_⟩
    rcases hP with ⟨j, j1, j2, j3⟩ | ⟨j1, j2⟩
    · rw [j3, ← j2, wk_m j j1]
    · rw [j2, wk_no (fun i hi e => by
        have : ∀ i, i < 26 → ∃ j, j < 26 ∧ mword j = i := by decide +kernel
        obtain ⟨j, ja, jb⟩ := this i hi
        exact j1 j ja (by rw [jb]; exact e))]
      rfl)
  exact h1
end CM
section CM2
variable {n : Nat} {y : Nat → Nat} {G : Hp}
/-- the token k, at i, is as it must be -/
theorem mOne {i k : Nat} (hn : n ≤ 2000) (hi : i < n) (hk : k ≤ 400) (h : MBt n y G) (h10 : G.1 0 10 = nI k) (hbk : isBk (y i) = false) : ∃ G2 a b c w, fX11_cut_S7 SHM 0 G (nI i) = some (.inl (G2, nI (i + tl y n i))) ∧ TKp k a b c w G G2 ∧ a = nI (kd y n i) ∧ b = nI i ∧ (kd y n i = 2 → c = nI (dv y i (tl y n i))) ∧ (kd y n i = 1 → w = wcode (lN 27) (wd y i (tl y n i))) := by
  obtain ⟨hy, hb⟩ := h.2.2.1 i hi
  obtain ⟨b1, b2', b3, b4⟩ := bm_B (y i) hy
  have hnb : y i ≠ 9 ∧ y i ≠ 10 ∧ y i ≠ 13 ∧ y i ≠ 32 := by
    refine ⟨fun q => ?_, fun q => ?_, fun q => ?_, fun q => ?_⟩
    · rw [isBk_i.mpr (Or.inl q)] at hbk; cases hbk
    · rw [isBk_i.mpr (Or.inr (Or.inl q))] at hbk; cases hbk
    · rw [isBk_i.mpr (Or.inr (Or.inr (Or.inl q)))] at hbk; cases hbk
    · rw [isBk_i.mpr (Or.inr (Or.inr (Or.inr q)))] at hbk; cases hbk
  have hle := tl_b (y := y) hi
  unfold fX11_cut_S7
  rw [h10, if_neg (show ¬ (400 : Int32) < nI k from nI_nlt (a := 400) (by omega) (by decide)), mByte h hn (by omega), if_pos hi]
  simp only [ob]
  rw [h.2.1, if_pos (nI_lt hi (by omega)), if_neg (fun q => hnb.1 (b1.mp q)), if_neg (fun q => hnb.2.1 (b2'.mp q)), if_neg (fun q => hnb.2.2.1 (b3.mp q)), if_neg (fun q => hnb.2.2.2 (b4.mp q)), bm_L _ hy]
  simp only [ob]
  cases hL : isLt (y i) with
  | true =>
    rw [if_neg (show ¬ b2 true = 0 by decide)]
    have htl : tl y n i = rl isLt y (n - i) i := by unfold tl; rw [if_pos hL]
    obtain ⟨v, v1, v2⟩ := mWord hn hi h hL
    rw [v1]
    simp only [ob, obd]
    have hkd : kd y n i = if tl y n i ≤ 8 then wk (wd y i (tl y n i)) else 3 := by unfold kd; rw [if_pos hL]
    by_cases h8 : tl y n i ≤ 8
    · rw [if_pos (show nI (tl y n i) ≤ 8 from nI_le (b := 8) h8 (by decide))]
      rw [if_pos h8] at hkd
      unfold fX11_cut_J135L7
      rw [if_neg (show ¬ (8 : Int32) < nI (tl y n i) from nI_nlt (a := 8) h8 (by decide)), v2 h8, mKind h ⟨by rw [wd_len]; exact h8, wd_ok _ (fun j hj => rl_in (n - i) _ _ (by omega))⟩]
      simp only [ob, obd]
      unfold fX11_cut_J179L7
      obtain ⟨G2, t1, t2⟩ := mTok (a := nI (wk (wd y i (tl y n i)))) (b := nI i) (c := 0) (w := wcode (lN 27) (wd y i (tl y n i))) h.1 (by omega) h10
      rw [t1]
      simp only [ob, obd]
      rw [nI_add]
      exact ⟨G2, _, _, _, _, rfl, t2, by rw [hkd], rfl, fun q => absurd (hkd.symm.trans q) (wk_ok _).2.2, fun _ => rfl⟩
    · rw [if_neg (show ¬ nI (tl y n i) ≤ 8 from nI_ge (a := 8) (by omega) (by omega))]
      rw [if_neg h8] at hkd
      unfold fX11_cut_J135L7
      rw [if_pos (show (8 : Int32) < nI (tl y n i) from nI_lt (a := 8) (by omega) (by omega))]
      unfold fX11_cut_J179L7
      obtain ⟨G2, t1, t2⟩ := mTok (a := 3) (b := nI i) (c := 0) (w := v) h.1 (by omega) h10
      rw [t1]
      simp only [ob, obd]
      rw [nI_add]
      exact ⟨G2, _, _, _, _, rfl, t2, by rw [hkd]; rfl, rfl, fun q => (by rw [hkd] at q; cases q), fun q => (by rw [hkd] at q; cases q)⟩
  | false =>
    rw [if_pos (show b2 false = 0 from rfl), bm_D _ hy]
    simp only [ob]
    cases hD : isDg (y i) with
    | true =>
      rw [if_neg (show ¬ b2 true = 0 by decide)]
      obtain ⟨v, v1, v2⟩ := mNum hn hi h hL hD
      rw [v1]
      simp only [ob, obd]
      have hkd : kd y n i = if tl y n i ≤ 4 then 2 else 3 := by unfold kd; rw [hL, if_neg (by decide), if_pos hD]
      by_cases h8 : tl y n i ≤ 4
      · rw [if_pos (show nI (tl y n i) ≤ 4 from nI_le (b := 4) h8 (by decide))]
        rw [if_pos h8] at hkd
        unfold fX11_cut_J261L7
        obtain ⟨G2, t1, t2⟩ := mTok (a := 2) (b := nI i) (c := v) (w := 0) h.1 (by omega) h10
        rw [t1]
        simp only [ob, obd]
        rw [nI_add]
        exact ⟨G2, _, _, _, _, rfl, t2, by rw [hkd]; rfl, rfl, fun _ => v2 h8, fun q => by rw [hkd] at q; cases q⟩
      · rw [if_neg (show ¬ nI (tl y n i) ≤ 4 from nI_ge (a := 4) (by omega) (by omega))]
        rw [if_neg h8] at hkd
        unfold fX11_cut_J261L7
        obtain ⟨G2, t1, t2⟩ := mTok (a := 3) (b := nI i) (c := v) (w := 0) h.1 (by omega) h10
        rw [t1]
        simp only [ob, obd]
        rw [nI_add]
        exact ⟨G2, _, _, _, _, rfl, t2, by rw [hkd]; rfl, rfl, fun q => (by rw [hkd] at q; cases q), fun q => (by rw [hkd] at q; cases q)⟩
    | false =>
      have htl : tl y n i = 1 := by unfold tl; rw [hL, hD]; rfl
      have hkd : kd y n i = sgk (y i) := by unfold kd; rw [hL, hD]; rfl
      obtain ⟨-, -, c1, c2'⟩ := sgk_ok (y i)
      rw [if_pos (show b2 false = 0 from rfl), nI_1, mByte h hn (by omega)]
      simp only [ob]
      rw [mSign hy]
      obtain ⟨G2, t1, t2⟩ := mTok (a := nI (sgk (y i))) (b := nI i) (c := 0) (w := 0) h.1 (by omega) h10
      rw [t1]
      simp only [ob, obp, obd]
      rw [nI_1, htl]
      exact ⟨G2, _, _, _, _, rfl, t2, by rw [hkd], rfl, fun q => absurd (hkd.symm.trans q) c2', fun q => absurd (hkd.symm.trans q) c1⟩
theorem mCut (hn : n ≤ 2000) (hM : MBt n y G) : ∃ G2, fX11_cut SHM G 0 = some G2 ∧ ETk G G2 ∧ TMs (tkd1 y n) G2 := by
  obtain ⟨e1, e2, e3⟩ := eN_ok (y := y) (n := n) 401
  unfold fX11_cut
  simp only [obd]
  have z1 : ETk G (sI G 0 10 0) := ⟨rfl, fun _ _ => rfl, fun q k _ _ _ d => sI_ne (by omega)⟩
  have v1 : (sI G 0 10 0).1 0 10 = nI 0 := sI_same
  generalize sI G 0 10 0 = G1 at z1 v1
  have hK : ∀ i, ps y n i < n → (tkd1 y n).1 i = kd y n (ps y n i) := fun i hi => if_pos hi
  obtain ⟨o, k1, k2⟩ := iter_go (f := fun s : Hp × Int32 => fX11_cut_S7 SHM 0 s.1 s.2) (P := fun j s => ∃ i k, j ≤ i ∧ i ≤ n ∧ s.2 = nI i ∧ k ≤ eN y n 401 ∧ sk y n i = ps y n k ∧ ETk G s.1 ∧ s.1.1 0 10 = nI k ∧ ∀ x, x < k → TKm1 (tkd1 y n) x s.1) (Q := fun o => Sum.elim (fun G2 => eN y n 401 = 401 ∧ ETk G G2 ∧ ∀ x, x < 401 → TKm1 (tkd1 y n) x G2) (fun G2 => eN y n 401 ≤ 400 ∧ ETk G G2 ∧ G2.1 0 10 = nI (eN y n 401) ∧ ∀ x, x < eN y n 401 → TKm1 (tkd1 y n) x G2) o) (n + 1) (G1, 0) (by omega) ⟨0, 0, Nat.le_refl _, Nat.zero_le _, rfl, Nat.zero_le _, rfl, z1, v1, fun x hx => by omega⟩ (by
    rintro j ⟨G2, x⟩ hj ⟨i, k, hji, hin, rfl, hke, hsk, hZ, h10, hT⟩
    dsimp only at hZ h10 hT ⊢
    have hB := hM.mv hZ
    by_cases e4 : k = 401
    · right
      unfold fX11_cut_S7
      rw [h10, if_pos (by rw [e4]; decide)]
      exact ⟨_, rfl, by omega, hZ, fun x hx => hT x (by omega)⟩
    · by_cases en : i = n
      · right
        subst en
        rw [sk_e] at hsk
        have hke2 : k = eN y i 401 := by
          rcases Nat.lt_or_ge k (eN y i 401) with q | q
          · have := e2 k q; omega
          · omega
        unfold fX11_cut_S7
        rw [h10, if_neg (show ¬ (400 : Int32) < nI k from nI_nlt (a := 400) (by omega) (by decide)), mByte hB hn (by omega)]
        simp only [ob]
        rw [hB.2.1, if_neg (nI_nlt (Nat.le_refl _) (by omega))]
        exact ⟨_, rfl, by omega, hZ, by rw [h10, hke2], fun x hx => hT x (by omega)⟩
      · left
        obtain ⟨hy, hb⟩ := hB.2.2.1 i (by omega)
        cases hbk : isBk (y i) with
        | true =>
          obtain ⟨b1, b2', b3, b4⟩ := bm_B (y i) hy
          have hbody : fX11_cut_S7 SHM 0 G2 (nI i) = some (.inl (G2, nI (i + 1))) := by
            unfold fX11_cut_S7
            rw [h10, if_neg (show ¬ (400 : Int32) < nI k from nI_nlt (a := 400) (by omega) (by decide)), mByte hB hn (by omega), if_pos (by omega)]
            simp only [ob, obd]
            rw [hB.2.1, if_pos (nI_lt (by omega) (by omega)), nI_1]
            by_cases c1 : y i = 9
            · rw [if_pos (b1.mpr c1)]
            · rw [if_neg (fun q => c1 (b1.mp q))]
              by_cases c2 : y i = 10
              · rw [if_pos (b2'.mpr c2)]
              · rw [if_neg (fun q => c2 (b2'.mp q))]
                by_cases c3 : y i = 13
                · rw [if_pos (b3.mpr c3)]
                · rw [if_neg (fun q => c3 (b3.mp q))]
                  by_cases c4 : y i = 32
                  · rw [if_pos (b4.mpr c4)]
                  · rcases isBk_i.mp hbk with q | q | q | q <;> contradiction
          exact ⟨_, hbody, i + 1, k, by omega, by omega, rfl, hke, by rw [← sk_y (by omega) hbk]; exact hsk, hZ, h10, hT⟩
        | false =>
          rw [sk_n hbk] at hsk
          have hlt : ps y n k < n := by omega
          have hke2 : k < eN y n 401 := by
            rcases Nat.lt_or_ge k (eN y n 401) with q | q
            · exact q
            · have : k = eN y n 401 := by omega
              rw [this] at hlt
              have := e3 (by omega)
              omega
          obtain ⟨G3, a, b, c, w, o1, ⟨o2, o3, ⟨p1, p2, p3, p4⟩, o4⟩, o5, o6, o7, o8⟩ := mOne hn (by omega) (by omega) hB h10 hbk
          have htb := tl_b (y := y) (show i < n by omega)
          refine ⟨_, o1, i + tl y n i, k + 1, by omega, by omega, rfl, by omega, by rw [ps_s hlt, ← hsk], hZ.tr o2, o3, fun x hx => ?_⟩
          by_cases ex : x = k
          · subst ex
            have hk2 : (tkd1 y n).1 x = kd y n i := by rw [hK x hlt, ← hsk]
            refine ⟨?_, ?_, fun h2 => ?_, fun h1 => ?_⟩
            · show G3.1 3 x = _
              rw [p1, o5, hk2]
            · show G3.1 4 x = nI (ps y n x)
              rw [p2, o6, hsk]
            · show G3.1 5 x = nI (dv y (ps y n x) (tl y n (ps y n x)))
              rw [p3, o7 (hk2.symm.trans h2), hsk]
            · show G3.2.1 6 x = wcode (lN 27) (wd y (ps y n x) (tl y n (ps y n x)))
              rw [p4, o8 (hk2.symm.trans h1), hsk]
          · obtain ⟨t1, t2, t3, t4⟩ := hT x (by omega)
            obtain ⟨q1, q2, q3, q4⟩ := o4 x ex
            exact ⟨q1.trans t1, q2.trans t2, fun h2 => q3.trans (t3 h2), fun h1 => q4.trans (t4 h1)⟩) (by
    rintro ⟨G2, x⟩ ⟨i, k, hji, hin, -⟩
    omega)
  rw [k1]
  simp only [ob]
  cases o with
  | inl G2 =>
    obtain ⟨q1, q2, q3⟩ : eN y n 401 = 401 ∧ ETk G G2 ∧ ∀ x, x < 401 → TKm1 (tkd1 y n) x G2 := k2
    exact ⟨G2, rfl, q2, fun i _ h4 => q3 i (by omega)⟩
  | inr G2 =>
    obtain ⟨q1, q2, q3, q4⟩ : eN y n 401 ≤ 400 ∧ ETk G G2 ∧ G2.1 0 10 = nI (eN y n 401) ∧ ∀ x, x < eN y n 401 → TKm1 (tkd1 y n) x G2 := k2
    have hB := hM.mv q2
    simp only [Sum.elim_inr, obd]
    rw [hB.2.1]
    obtain ⟨G3, t1, o2, o3, ⟨p1, p2, p3, p4⟩, o4⟩ := mTok (a := 0) (b := nI n) (c := 0) (w := 0) hB.1 (show eN y n 401 ≤ 401 by omega) q3
    rw [t1]
    refine ⟨G3, rfl, q2.tr o2, fun i hi h4 => ?_⟩
    have hi2 : i ≤ eN y n 401 := hi
    by_cases e : i = eN y n 401
    · have hps := e3 (by omega)
      have hK0 : (tkd1 y n).1 i = 0 := by
        show (if ps y n i < n then kd y n (ps y n i) else 0) = 0
        rw [if_neg (by rw [e, hps]; omega)]
      refine ⟨?_, ?_, fun h2 => ?_, fun h1 => ?_⟩
      · rw [hK0, e, p1]; rfl
      · rw [e, p2]
        show nI n = nI (ps y n (eN y n 401))
        rw [hps]
      · rw [hK0] at h2; cases h2
      · rw [hK0] at h1; cases h1
    · obtain ⟨t1, t2, t3, t4⟩ := q4 i (by omega)
      obtain ⟨w1, w2, w3, w4⟩ := o4 i e
      exact ⟨w1.trans t1, w2.trans t2, fun h2 => w3.trans (t3 h2), fun h1 => w4.trans (t4 h1)⟩
end CM2
