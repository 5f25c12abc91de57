/-! stands, mendFirst. -/
/-- behind how many years a bridge is fallen, k at most -/
def fl (T : Txt) (b : Nat) : Nat → (Nat → Int32) → Nat
  | 0, _ => 0
  | k + 1, q => if q (4 + b) = 1 then fl T b k (rYear T q 0) + 1 else 0
theorem fl_le {T : Txt} {b : Nat} : ∀ k q, fl T b k q ≤ k
  | 0, _ => Nat.le_refl _
  | k + 1, q => by
    have := fl_le (T := T) (b := b) k (rYear T q 0)
    show (if q (4 + b) = 1 then fl T b k (rYear T q 0) + 1 else 0) ≤ k + 1
    split <;> omega
theorem fl_s {T : Txt} {b k : Nat} {q : Nat → Int32} (h : q (4 + b) = 1) : fl T b (k + 1) q = fl T b k (rYear T q 0) + 1 := if_pos h
theorem fl_n {T : Txt} {b : Nat} : ∀ {k : Nat} {q : Nat → Int32}, ¬ q (4 + b) = 1 → fl T b k q = 0
  | 0, _, _ => rfl
  | k + 1, q, h => if_neg h
theorem rYear_ph {T : Txt} {r : Nat → Int32} {more b : Nat} (hW : WFT T) (hb : b < T.1 3) (h : r (4 + b) = 1) : rYear T r more (4 + b) = 1 ∨ rYear T r more (4 + b) = 2 := by
  have hw := hW.1
  unfold rYear
  rw [upn (by omega), ((yRow_at (w := yV T r more) (r := r) (T.1 3) hb (by omega)).1 h).2]
  split
  · exact Or.inr rfl
  · exact Or.inl rfl
theorem WFG_st {T : Txt} {r : Nat → Int32} {b m : Nat} (h : WFG T r) (hW : WFT T) (hb : b < T.1 3) (hm : sN r b + m ≤ 99) : WFG T (upd r b (r b + nI m)) := by
  have hw := hW.1
  obtain ⟨s1, s2, s3⟩ := h.s hb
  obtain ⟨h1, h2, ⟨k, hk, h21, hl⟩, n, hn, h25⟩ := h
  refine ⟨fun b2 hb2 => ?_, fun b2 hb2 => ?_, ⟨k, hk, ?_, fun j hj => ?_⟩, n, hn, ?_⟩
  · by_cases e : b2 = b
    · subst e
      refine ⟨sN r b2 + m, hm, ?_, fun q => ?_⟩
      · rw [ups, ← nI_add, ← s1]
      · rw [upn (by omega)] at q
        have := s3 q
        omega
    · obtain ⟨s, a1, a2, a3⟩ := h1 b2 hb2
      refine ⟨s, a1, by rw [upn e]; exact a2, fun q => a3 (fun z => q ?_)⟩
      rw [upn (by omega)]; exact z
  · rw [upn (by omega)]; exact h2 b2 hb2
  · rw [upn (by omega)]; exact h21
  · rw [upn (by omega)]; exact hl j hj
  · rw [upn (by omega)]; exact h25
theorem xFall {t b m : Nat} {T : Txt} {r : Nat → Int32} {G : Hp} (hx : LX t G) (hT : XT t T G) (hW : WFT T) (hG : XG T 53 r G) (hr : WFG T r) (hb : b < T.1 3) (hm : sN r b + m ≤ 99) : ∃ G2, fX3_yearsToFall SHX G 58 t 53 (nI b) (nI m) = some (nI (fl T b 201 (upd r b (r b + nI m))), G2) ∧ EssX G G2 := by
  have ht := hx.1
  have hw := hW.1
  have hb4 : b < 4 := by omega
  obtain ⟨G3, c1, c2, c3⟩ := xCopyG hx hW isG_61 isG_53 (by decide) hG
  have hx3 := c2.L hx
  have hT3 := c2.T ht isG_61 hT
  unfold fX3_yearsToFall
  rw [xl_58_2 hx]
  simp only [ob]
  rw [c1]
  simp only [ob]
  rw [xl_58_2 hx3]
  simp only [ob]
  rw [xg_0 isG_61 hx3]
  simp only [ob]
  rw [aI_n (by rw [xgn_0 isG_61]; omega) (by omega), (c3.1 b hb).1]
  simp only [ob]
  rw [asI_n (by rw [xgn_0 isG_61]; omega) (by omega)]
  simp only [ob]
  have G7' : XG T 61 (upd r b (r b + nI m)) (sI G3 (61 + 1) b (r b + nI m)) := c3.st (by omega) hb4
  have E7 : EG 61 G3 (sI G3 (61 + 1) b (r b + nI m)) := EG.sI (by omega)
  have W7 := WFG_st hr hW hb hm
  generalize sI G3 (61 + 1) b (r b + nI m) = G7 at G7' E7
  generalize upd r b (r b + nI m) = r7 at G7' W7
  have hx7 := E7.L hx3
  have hT7 := E7.T ht isG_61 hT3
  obtain ⟨o, b1, b2, b3⟩ := iter_go (f := fun s : Hp × Int32 => fX3_yearsToFall_S25 SHX 58 t (nI b) s.1 s.2) (P := fun i s => s.2 = nI i ∧ EY t 61 G7 s.1 ∧ ∃ q, XG T 61 q s.1 ∧ WFG T q ∧ i + fl T b (201 - i) q = fl T b 201 r7) (Q := fun o => o.2 = nI (fl T b 201 r7) ∧ EY t 61 G7 o.1) 201 (G7, 0) (by decide) ⟨rfl, EY.rf, r7, G7', W7, Nat.zero_add _⟩ (by
    rintro i ⟨G1, x⟩ hi ⟨rfl, hE, q, hG1, hw1, ht1⟩
    dsimp only at hE hG1 ⊢
    have hx1 := hE.L hx7
    have hT1 := hE.T ht isG_61 hT7
    unfold fX3_yearsToFall_S25
    rw [if_neg (show ¬ (200 : Int32) < nI i from nI_nlt (a := 200) (by omega) (by decide)), xl_58_2 hx1]
    simp only [ob]
    rw [xg_1 isG_61 hx1]
    simp only [ob]
    rw [aI_n (by rw [xgn_1 isG_61]; omega) (by omega), hG1.2.1 b hb4]
    simp only [ob]
    by_cases hp : q (4 + b) = 1
    · left
      rw [if_pos hp]
      obtain ⟨G5, a1, a2, a3⟩ := xPassYear (more := 0) hx1 hT1 hW isG_61 hG1 hw1 (by decide)
      have a1' : fX3_passYear SHX G1 58 t 61 0 = some G5 := a1
      rw [a1']
      simp only [ob, obd]
      refine ⟨_, rfl, nI_1 i, hE.tr a2, rYear T q 0, a3, WFG_year hw1 hW, ?_⟩
      rw [show 201 - i = (201 - (i + 1)) + 1 by omega, fl_s hp] at ht1
      omega
    · right
      rw [if_neg hp]
      rw [fl_n hp] at ht1
      exact ⟨_, rfl, by rw [← ht1]; rfl, hE⟩) (by
    rintro ⟨G1, x⟩ ⟨rfl, hE, q, hG1, hw1, ht1⟩
    dsimp only at hE hG1 ⊢
    unfold fX3_yearsToFall_S25
    rw [if_pos (show (200 : Int32) < nI 201 by decide)]
    have e0 : fl T b (201 - 201) q = 0 := rfl
    rw [e0] at ht1
    exact ⟨_, rfl, by rw [← ht1], hE⟩)
  rw [b1]
  simp only [ob, obd]
  rw [b2]
  exact ⟨_, rfl, (c2.X.tr E7.X).tr (b3.X ht)⟩
theorem mFall {l b : Nat} {T : Txt} {r : Nat → Int32} {G : Hp} (hM : ML0 l T G) (hR : MR r G) (hr : WFG T r) (hb : b < T.1 3) (hp0 : r (4 + b) = 1) : ∃ G2, fX11_standsFor SHM G 0 (nI b) = some (nI (fl T b 201 r), G2) ∧ EssM G G2 := by
  have hW := hM.2.2.2.2
  have hw := hW.1
  have hb4 : b < 4 := by omega
  unfold fX11_standsFor
  simp only [obd]
  have e1 : EssM G (sI G 0 61 1) := EssM.sI (by unfold scrM; omega)
  have R1 : MR r (sI G 0 61 1) := hR.E (fun k hk => sI_ne (Or.inl (by decide)))
  have h61 : (sI G 0 61 1).1 0 61 = 1 := sI_same
  generalize sI G 0 61 1 = G1 at e1 R1 h61
  obtain ⟨o, b1, b2⟩ := iter_go (f := fun s : Hp × Int32 => fX11_standsFor_S7 SHM 0 (nI b) s.1 s.2) (P := fun i s => s.2 = nI (i + 1) ∧ EssM G s.1 ∧ s.1.1 0 61 = 1 ∧ ∃ q, MR q s.1 ∧ WFG T q ∧ q (4 + b) = 1 ∧ i + fl T b (201 - i) q = fl T b 201 r) (Q := fun o => Sum.elim (fun G3 => EssM G G3 ∧ fl T b 201 r = 201) (fun u => EssM G u.1 ∧ u.2 = nI (fl T b 201 r)) o) 200 (G1, 1) (by decide) ⟨rfl, e1, h61, r, R1, hr, hp0, Nat.zero_add _⟩ (by
    rintro i ⟨G2, x⟩ hi ⟨rfl, hE, h61, q, hR2, hw2, hp2, ht1⟩
    dsimp only at hE h61 hR2 ⊢
    have hM2 := hE.M hM
    obtain ⟨G3, a1, a2, a3⟩ := mYearQ hM2 hR2 hw2 h61
    have hM3 := a2.M.M hM2
    unfold fX11_standsFor_S7
    rw [if_neg (show ¬ (200 : Int32) < nI (i + 1) from nI_nlt (a := 200) (by omega) (by decide)), a1]
    simp only [ob]
    rw [ml_59 hM3.1]
    simp only [ob]
    rw [show (4 : Int32) + nI b = nI (4 + b) from nI_add 4 b, m40 (by omega), a3 _ (by omega)]
    simp only [ob]
    rw [show 201 - i = (201 - (i + 1)) + 1 by omega, fl_s hp2] at ht1
    by_cases hp : rYear T q 0 (4 + b) = 2
    · right
      rw [if_pos hp]
      rw [fl_n (by rw [hp]; decide)] at ht1
      refine ⟨_, rfl, hE.tr a2.M, ?_⟩
      show nI (i + 1) = _
      rw [← ht1]
    · left
      rw [if_neg hp]
      simp only [obd]
      have hp1 : rYear T q 0 (4 + b) = 1 := (rYear_ph hW hb hp2).resolve_right hp
      refine ⟨_, rfl, nI_1 _, hE.tr a2.M, (a2.2 0 61 (by decide) (by decide) (by decide) (by decide) (by omega)).trans h61, rYear T q 0, a3, WFG_year hw2 hW, hp1, by omega⟩) (by
    rintro ⟨G2, x⟩ ⟨rfl, hE, h61, q, hR2, hw2, hp2, ht1⟩
    dsimp only at hE ⊢
    unfold fX11_standsFor_S7
    rw [if_pos (show (200 : Int32) < nI (200 + 1) by decide)]
    rw [show 201 - 200 = 0 + 1 from rfl, fl_s hp2] at ht1
    have e0 : fl T b 0 (rYear T q 0) = 0 := rfl
    exact ⟨_, rfl, hE, by rw [e0] at ht1; omega⟩)
  rw [b1]
  simp only [ob]
  cases o with
  | inl G3 =>
    simp only [Sum.elim_inl, obd]
    obtain ⟨c1, c2⟩ := b2
    rw [c2]
    exact ⟨G3, rfl, c1⟩
  | inr u =>
    simp only [Sum.elim_inr, obd]
    obtain ⟨c1, c2⟩ := b2
    rw [c2]
    exact ⟨u.1, rfl, c1⟩
theorem upd0 {r : Nat → Int32} {b : Nat} : upd r b (r b + nI 0) = r := fa_upd_same (Int32.add_zero _).symm
theorem step20 {Gx Gm : Hp} (hI : Inv Gx Gm) (b : Int32) : Step20 SHX SHM Inv Gx Gm b := by
  have hI0 := hI
  obtain ⟨T, t, l, r, n, u, nx, hi, hb, sl, m, h⟩ := hI
  have hM := h.M
  have hx := h.1
  have hW := h.2.2.2.2.1
  have hT := h.2.2.2.2.2.1
  have hr := h.2.2.2.2.2.2.2.1
  have hG := h.2.2.2.2.2.2.2.2.1
  have h39 := h.2.2.2.2.2.2.2.2.2.1
  have hw := hW.1
  unfold Step20 fX10_stands fX11_stands
  rw [xl_text hx]
  simp only [ob]
  by_cases hb : rng b (T.1 3)
  · obtain ⟨b, hb, rfl⟩ := hb
    have hb4 : b < 4 := by omega
    rw [xBridge_y hT hW hb, mBridge_y hM hb, xl_0_3 hx, ml_58 hM.1]
    simp only [ob, if_neg one_ne]
    rw [xg_1 isG_53 hx]
    simp only [ob]
    rw [aI_n (by rw [xgn_1 isG_53]; omega) (by omega), hG.2.1 b hb4, show (4 : Int32) + nI b = nI (4 + b) from nI_add 4 b, aI_n (by rw [mn_39]; omega) (by omega), h39 _ (by omega)]
    simp only [ob]
    by_cases hp : r (4 + b) = 1
    · obtain ⟨Gc, c1, c2, c3, c4, c5, c6⟩ := h.C
      rw [if_pos hp, if_pos hp, c1, xl_0_4 hx]
      simp only [ob]
      obtain ⟨G2, x1, x2⟩ := xFall (m := 0) hx hT hW hG hr hb (hr.s hb).2.1
      rw [upd0] at x1
      have x1' : fX3_yearsToFall SHX Gx 58 t 53 (nI b) 0 = some (nI (fl T b 201 r), G2) := x1
      obtain ⟨G3, y1, y2⟩ := mFall c4 c3 hr hb hp
      rw [x1', y1]
      simp only [obp]
      have hle := fl_le (T := T) (b := b) 201 r
      by_cases e : fl T b 201 r = 201
      · rw [e, if_neg (show ¬ nI 201 ≤ 200 by decide), if_pos (show nI 201 = 201 from rfl)]
        exact ⟨_, _, _, rfl, rfl, x2.I (c2.tr y2) h⟩
      · rw [if_pos (show nI (fl T b 201 r) ≤ 200 from nI_le (b := 200) (by omega) (by decide)), if_neg (show ¬ nI (fl T b 201 r) = 201 from fun q => e ((nI_eq (b := 201) (by omega) (by decide)).mp q))]
        exact ⟨_, _, _, rfl, rfl, x2.I (c2.tr y2) h⟩
    · rw [if_neg hp, if_neg hp]
      exact ⟨_, _, _, rfl, rfl, hI0⟩
  · rw [xBridge_n hT hW hb, mBridge_n hM hb]
    exact ⟨_, _, _, rfl, rfl, hI0⟩
/-! mendFirst -/
def Cmp (x y : Int32) : Prop := (x = 201 ∧ y = 999) ∨ (x = y ∧ x ≤ 200)
theorem Cmp_le {x y x2 y2 : Int32} (h : Cmp x y) (h2 : Cmp x2 y2) : x ≤ x2 ↔ ¬ y2 < y := by
  have e1 : (201 : Int32).toInt = 201 := by decide
  have e2 : (999 : Int32).toInt = 999 := by decide
  have e3 : (200 : Int32).toInt = 200 := by decide
  rcases h with ⟨rfl, rfl⟩ | ⟨rfl, h⟩ <;> rcases h2 with ⟨rfl, rfl⟩ | ⟨rfl, h2⟩ <;> simp only [Int32.le_iff_toInt_le, Int32.lt_iff_toInt_lt] at * <;> omega
def gnX (a c : Nat) : Int32 := if a ≤ 200 then (if c ≤ 200 then nI c - nI a else nI c) else 0
def gnM (a c : Nat) : Int32 := if a = 201 then 0 else if c = 201 then 999 else nI c - nI a
theorem gn_cmp {a c : Nat} (ha : a ≤ 201) (hc : c ≤ 201) : Cmp (gnX a c) (gnM a c) := by
  unfold gnX gnM
  by_cases e : a = 201
  · rw [if_neg (by omega), if_pos e]; exact Or.inr ⟨rfl, by decide⟩
  · rw [if_pos (by omega), if_neg e]
    by_cases e2 : c = 201
    · rw [if_neg (by omega), if_pos e2]; exact Or.inl ⟨by rw [e2]; rfl, rfl⟩
    · rw [if_pos (by omega), if_neg e2]
      refine Or.inr ⟨rfl, Int32.le_iff_toInt_le.mpr ?_⟩
      rw [pk_sub_toInt (by omega) (by omega), show (200 : Int32).toInt = 200 by decide]
      omega
/-- whether a bridge can be mended -/
def cm (r : Nat → Int32) (b : Nat) : Bool := decide (r (4 + b) = 1) && decide (sN r b < 99)
def fa0 (T : Txt) (r : Nat → Int32) (b : Nat) : Nat := fl T b 201 r
def fa1 (T : Txt) (r : Nat → Int32) (b : Nat) : Nat := fl T b 201 (upd r b (r b + 1))
def bsX (T : Txt) (r : Nat → Int32) : Nat → Int32 × Int32
  | 0 => (-2, 0)
  | n + 1 => if (if cm r n then gnX (fa0 T r n) (fa1 T r n) else 0) ≤ (bsX T r n).2 then bsX T r n else (nI n, if cm r n then gnX (fa0 T r n) (fa1 T r n) else 0)
def bsM (T : Txt) (r : Nat → Int32) : Nat → Int32 × Int32
  | 0 => (-2, 0)
  | n + 1 => if cm r n then (if (bsM T r n).2 < gnM (fa0 T r n) (fa1 T r n) then (nI n, gnM (fa0 T r n) (fa1 T r n)) else bsM T r n) else bsM T r n
theorem bs_rel {T : Txt} {r : Nat → Int32} : ∀ n, n ≤ 4 → (bsX T r n).1 = (bsM T r n).1 ∧ Cmp (bsX T r n).2 (bsM T r n).2 ∧ 0 ≤ (bsX T r n).2 ∧ ((bsX T r n).1 = (-2) ∨ ∃ j, j < 4 ∧ (bsX T r n).1 = nI j)
  | 0, _ => ⟨rfl, Or.inr ⟨rfl, by show (0 : Int32) ≤ 200; decide⟩, by show (0 : Int32) ≤ 0; decide, Or.inl rfl⟩
  | n + 1, h => by
    obtain ⟨a1, a2, a3, a4⟩ := bs_rel (T := T) (r := r) n (by omega)
    have cmp := gn_cmp (fl_le (T := T) (b := n) 201 r) (fl_le (T := T) (b := n) 201 (upd r n (r n + 1)))
    show (if (if cm r n then gnX (fa0 T r n) (fa1 T r n) else 0) ≤ (bsX T r n).2 then bsX T r n else (nI n, if cm r n then gnX (fa0 T r n) (fa1 T r n) else 0)).1 = (if cm r n then (if (bsM T r n).2 < gnM (fa0 T r n) (fa1 T r n) then (nI n, gnM (fa0 T r n) (fa1 T r n)) else bsM T r n) else bsM T r n).1 ∧ Cmp (if (if cm r n then gnX (fa0 T r n) (fa1 T r n) else 0) ≤ (bsX T r n).2 then bsX T r n else (nI n, if cm r n then gnX (fa0 T r n) (fa1 T r n) else 0)).2 (if cm r n then (if (bsM T r n).2 < gnM (fa0 T r n) (fa1 T r n) then (nI n, gnM (fa0 T r n) (fa1 T r n)) else bsM T r n) else bsM T r n).2 ∧ 0 ≤ (if (if cm r n then gnX (fa0 T r n) (fa1 T r n) else 0) ≤ (bsX T r n).2 then bsX T r n else (nI n, if cm r n then gnX (fa0 T r n) (fa1 T r n) else 0)).2 ∧ ((if (if cm r n then gnX (fa0 T r n) (fa1 T r n) else 0) ≤ (bsX T r n).2 then bsX T r n else (nI n, if cm r n then gnX (fa0 T r n) (fa1 T r n) else 0)).1 = (-2) ∨ ∃ j, j < 4 ∧ (if (if cm r n then gnX (fa0 T r n) (fa1 T r n) else 0) ≤ (bsX T r n).2 then bsX T r n else (nI n, if cm r n then gnX (fa0 T r n) (fa1 T r n) else 0)).1 = nI j)
    cases hc : cm r n with
    | false =>
      simp only [Bool.false_eq_true, if_false]
      rw [if_pos a3]
      exact ⟨a1, a2, a3, a4⟩
    | true =>
      simp only [if_true]
      change Cmp (gnX (fa0 T r n) (fa1 T r n)) (gnM (fa0 T r n) (fa1 T r n)) at cmp
      by_cases hle : gnX (fa0 T r n) (fa1 T r n) ≤ (bsX T r n).2
      · rw [if_pos hle, if_neg ((Cmp_le cmp a2).mp hle)]
        exact ⟨a1, a2, a3, a4⟩
      · have hlt : (bsM T r n).2 < gnM (fa0 T r n) (fa1 T r n) := by
          rcases Classical.em ((bsM T r n).2 < gnM (fa0 T r n) (fa1 T r n)) with q | q
          · exact q
          · exact absurd ((Cmp_le cmp a2).mpr q) hle
        rw [if_neg hle, if_pos hlt]
        refine ⟨rfl, cmp, Int32.le_iff_toInt_le.mpr ?_, Or.inr ⟨n, by omega, rfl⟩⟩
        have z1 := Int32.le_iff_toInt_le.mp a3
        have z2 := Int32.lt_iff_toInt_lt.mp (Int32.not_le.mp hle)
        dsimp only
        omega
theorem cm_t {T : Txt} {r : Nat → Int32} {b : Nat} (hr : WFG T r) (hb : b < T.1 3) : cm r b = true ↔ r (4 + b) = 1 ∧ ¬ (99 : Int32) ≤ r b := by
  obtain ⟨s1, s2, -⟩ := hr.s hb
  unfold cm
  rw [Bool.and_eq_true, decide_eq_true_iff, decide_eq_true_iff]
  constructor
  · rintro ⟨a, c⟩; exact ⟨a, by rw [s1]; exact nI_ge (b := 99) c (by decide)⟩
  · rintro ⟨a, c⟩
    refine ⟨a, ?_⟩
    rcases Nat.lt_or_ge (sN r b) 99 with q | q
    · exact q
    · exact absurd (by rw [s1]; exact nI_le (a := 99) q (by omega)) c
theorem xGained {t b : Nat} {T : Txt} {r : Nat → Int32} {G : Hp} (hx : LX t G) (hT : XT t T G) (hW : WFT T) (hG : XG T 53 r G) (hr : WFG T r) (hb : b < T.1 3) (h99 : sN r b < 99) : ∃ G2, fX10_yearsGained SHX G 0 (nI b) = some (gnX (fa0 T r b) (fa1 T r b), G2) ∧ EssX G G2 := by
  have ht := hx.1
  obtain ⟨G5, x1, x2⟩ := xFall (m := 0) hx hT hW hG hr hb (hr.s hb).2.1
  rw [upd0] at x1
  have x1' : fX3_yearsToFall SHX G 58 t 53 (nI b) 0 = some (nI (fa0 T r b), G5) := x1
  have hx5 := x2.L hx
  obtain ⟨G11, y1, y2⟩ := xFall (m := 1) hx5 (x2.T ht hT) hW (x2.G hG) hr hb (by omega)
  have y1' : fX3_yearsToFall SHX G5 58 t 53 (nI b) 1 = some (nI (fa1 T r b), G11) := y1
  have l0 : fa0 T r b ≤ 201 := fl_le _ _
  have l1 : fa1 T r b ≤ 201 := fl_le _ _
  unfold fX10_yearsGained gnX
  rw [xl_0_4 hx, xl_text hx, xl_0_3 hx]
  simp only [ob]
  rw [x1']
  simp only [obp]
  by_cases e : fa0 T r b ≤ 200
  · rw [if_pos (show nI (fa0 T r b) ≤ 200 from nI_le (b := 200) e (by decide)), if_pos e, xl_0_4 hx5, xl_text hx5, xl_0_3 hx5]
    simp only [ob]
    rw [y1']
    simp only [obp]
    by_cases e2 : fa1 T r b ≤ 200
    · rw [if_pos (show nI (fa1 T r b) ≤ 200 from nI_le (b := 200) e2 (by decide)), if_pos e2]
      exact ⟨_, rfl, x2.tr y2⟩
    · rw [if_neg (show ¬ nI (fa1 T r b) ≤ 200 from nI_ge (a := 200) (by omega) (by omega)), if_neg e2]
      exact ⟨_, rfl, x2.tr y2⟩
  · rw [if_neg (show ¬ nI (fa0 T r b) ≤ 200 from nI_ge (a := 200) (by omega) (by omega)), if_neg e]
    exact ⟨_, rfl, x2⟩
theorem xMF {t : Nat} {T : Txt} {r : Nat → Int32} {G : Hp} {w : Int32} (hx : LX t G) (hT : XT t T G) (hW : WFT T) (hG : XG T 53 r G) (hr : WFG T r) : ∃ o, iter (fun s : Hp × Int32 × Int32 × Int32 => fX10_mendFirst_S19 SHX 0 w s.1 s.2.1 s.2.2.1 s.2.2.2) fuel ((G, (-2), 0, 0) : Hp × Int32 × Int32 × Int32) = some o ∧ EssX G o.1 ∧ o.2 = bsX T r (T.1 3) := by
  have ht := hx.1
  have hw := hW.1
  refine iter_go (f := fun s : Hp × Int32 × Int32 × Int32 => fX10_mendFirst_S19 SHX 0 w s.1 s.2.1 s.2.2.1 s.2.2.2) (P := fun i s => EssX G s.1 ∧ s.2 = ((bsX T r i).1, (bsX T r i).2, nI i)) (Q := fun o => EssX G o.1 ∧ o.2 = bsX T r (T.1 3)) (T.1 3) (G, (-2), 0, 0) (by omega) ⟨EssX.rf, rfl⟩ ?_ ?_
  · rintro i ⟨G1, p⟩ hi ⟨hE, rfl⟩
    left
    dsimp only at hE ⊢
    have hx1 := hE.L hx
    have hT1 := hE.T ht hT
    have hG1 := hE.G hG
    obtain ⟨s1, s2, s3⟩ := hr.s hi
    have a3 := (bs_rel (T := T) (r := r) i (by omega)).2.2.1
    have J : ∀ (G2 : Hp) (v : Int32), EssX G G2 → (if cm r i then gnX (fa0 T r i) (fa1 T r i) else 0) = v → ∃ s2, fX10_mendFirst_J53L19 SHX G2 0 w (bsX T r i).1 (bsX T r i).2 (nI i) v = some (.inl s2) ∧ EssX G s2.1 ∧ s2.2 = ((bsX T r (i + 1)).1, (bsX T r (i + 1)).2, nI (i + 1)) := by
      intro G2 v hE2 hv
      unfold fX10_mendFirst_J53L19
      have eb : bsX T r (i + 1) = if v ≤ (bsX T r i).2 then bsX T r i else (nI i, v) := by rw [← hv]; rfl
      rw [eb]
      by_cases hle : v ≤ (bsX T r i).2
      · rw [if_pos hle, if_pos hle]; simp only [obd]
        exact ⟨_, rfl, hE2, by rw [nI_1]⟩
      · rw [if_neg hle, if_neg hle]; simp only [obd]
        exact ⟨_, rfl, hE2, by rw [nI_1]⟩
    unfold fX10_mendFirst_S19
    rw [xl_text hx1]
    simp only [ob]
    rw [hT1.1 3 (by decide), if_neg (nI_ge hi (by omega)), xl_0_3 hx1]
    simp only [ob]
    unfold fX1_canBeMended
    rw [xg_1 isG_53 hx1]
    simp only [ob]
    rw [aI_n (by rw [xgn_1 isG_53]; omega) (by omega), hG1.2.1 i (by omega)]
    simp only [ob]
    by_cases hp : r (4 + i) = 1
    · rw [if_pos hp, xg_0 isG_53 hx1]
      simp only [ob]
      rw [aI_n (by rw [xgn_0 isG_53]; omega) (by omega), (hG1.1 i hi).1]
      simp only [ob]
      by_cases h99 : (99 : Int32) ≤ r i
      · rw [if_pos h99]
        simp only [ob, if_true]
        refine J G1 0 hE ?_
        rw [if_neg (fun q => ((cm_t hr hi).mp q).2 h99)]
      · rw [if_neg h99]
        simp only [ob, if_neg one_ne]
        have hc : cm r i = true := (cm_t hr hi).mpr ⟨hp, h99⟩
        have hs : sN r i < 99 := by
          have := hc
          unfold cm at this
          rw [Bool.and_eq_true, decide_eq_true_iff, decide_eq_true_iff] at this
          exact this.2
        obtain ⟨G7, g1, g2⟩ := xGained hx1 hT1 hW hG1 hr hi hs
        rw [g1]
        simp only [obp]
        refine J G7 _ (hE.tr g2) ?_
        rw [if_pos hc]
    · rw [if_neg hp]
      simp only [ob, if_true]
      refine J G1 0 hE ?_
      rw [if_neg (fun q => hp ((cm_t hr hi).mp q).1)]
  · rintro ⟨G1, p⟩ ⟨hE, rfl⟩
    dsimp only at hE ⊢
    have hx1 := hE.L hx
    have hT1 := hE.T ht hT
    unfold fX10_mendFirst_S19
    rw [xl_text hx1]
    simp only [ob]
    rw [hT1.1 3 (by decide), if_pos (nI_le (Nat.le_refl _) (by omega))]
    exact ⟨_, rfl, hE, rfl⟩
theorem mMF {l : Nat} {T : Txt} {r : Nat → Int32} {G : Hp} {w : Int32} (hM : ML0 l T G) (h39 : ∀ k, k < 26 → G.1 39 k = r k) (hr : WFG T r) : ∃ o, iter (fun s : Hp × Int32 × Int32 × Int32 => fX11_mendFirst_S19 SHM 0 w s.1 s.2.1 s.2.2.1 s.2.2.2) fuel ((G, (-2), 0, 0) : Hp × Int32 × Int32 × Int32) = some o ∧ EssM G o.1 ∧ o.2 = bsM T r (T.1 3) := by
  have hW := hM.2.2.2.2
  have hw := hW.1
  refine iter_go (f := fun s : Hp × Int32 × Int32 × Int32 => fX11_mendFirst_S19 SHM 0 w s.1 s.2.1 s.2.2.1 s.2.2.2) (P := fun i s => EssM G s.1 ∧ s.2 = ((bsM T r i).1, (bsM T r i).2, nI i)) (Q := fun o => EssM G o.1 ∧ o.2 = bsM T r (T.1 3)) (T.1 3) (G, (-2), 0, 0) (by omega) ⟨EssM.rf, rfl⟩ ?_ ?_
  · rintro i ⟨G1, p⟩ hi ⟨hE, rfl⟩
    left
    dsimp only at hE ⊢
    have hM1 := hE.M hM
    have r39 : ∀ k, k < 26 → aI SHM G1 39 (nI k) = some (r k) := fun k hk => by rw [aI_n (by rw [mn_39]; exact hk) (by omega), hE.2 39 k (by unfold scrM; omega), h39 k hk]
    obtain ⟨s1, s2, s3⟩ := hr.s hi
    have J : ∀ (G2 : Hp) (v : Int32), EssM G G2 → cm r i = true → gnM (fa0 T r i) (fa1 T r i) = v → ∃ s2, fX11_mendFirst_J127L19 SHM G2 0 w (bsM T r i).1 (bsM T r i).2 (nI i) v = some (.inl s2) ∧ EssM G s2.1 ∧ s2.2 = ((bsM T r (i + 1)).1, (bsM T r (i + 1)).2, nI (i + 1)) := by
      intro G2 v hE2 hc hv
      unfold fX11_mendFirst_J127L19
      have eb : bsM T r (i + 1) = if (bsM T r i).2 < v then (nI i, v) else bsM T r i := by
        rw [← hv]
        show (if cm r i then (if (bsM T r i).2 < gnM (fa0 T r i) (fa1 T r i) then (nI i, gnM (fa0 T r i) (fa1 T r i)) else bsM T r i) else bsM T r i) = _
        rw [if_pos hc]
      rw [eb]
      by_cases hlt : (bsM T r i).2 < v
      · rw [if_pos hlt, if_pos hlt]; simp only [obd]
        exact ⟨_, rfl, hE2, by rw [nI_1]⟩
      · rw [if_neg hlt, if_neg hlt]; simp only [obd]
        exact ⟨_, rfl, hE2, by rw [nI_1]⟩
    have keep : cm r i = false → ((bsM T r i).1, (bsM T r i).2, nI i + 1) = ((bsM T r (i + 1)).1, (bsM T r (i + 1)).2, nI (i + 1)) := fun hc => by
      have eb : bsM T r (i + 1) = bsM T r i := by
        show (if cm r i then (if (bsM T r i).2 < gnM (fa0 T r i) (fa1 T r i) then (nI i, gnM (fa0 T r i) (fa1 T r i)) else bsM T r i) else bsM T r i) = _
        rw [hc]; rfl
      rw [eb, nI_1]
    unfold fX11_mendFirst_S19
    rw [ml_31 hM1.1]
    simp only [ob]
    rw [aI_l (n := 0) hM1 mn_18, hM1.2.2.2.1.1.2.2.2.1]
    simp only [ob]
    rw [if_neg (nI_ge hi (by omega)), ml_58 hM1.1]
    simp only [ob]
    rw [show (4 : Int32) + nI i = nI (4 + i) from nI_add 4 i, r39 _ (by omega), r39 _ (by omega)]
    simp only [ob]
    by_cases hp : r (4 + i) = 1
    · rw [if_pos hp]
      by_cases h99 : r i = 99
      · rw [if_pos h99]
        simp only [obd]
        refine ⟨_, rfl, hE, keep ?_⟩
        cases hc : cm r i with
        | false => rfl
        | true => exact absurd (by rw [h99]; decide) ((cm_t hr hi).mp hc).2
      · rw [if_neg h99]
        have hs : sN r i < 99 := by
          rcases Nat.lt_or_ge (sN r i) 99 with q | q
          · exact q
          · exact absurd (by rw [s1, show sN r i = 99 by omega]; rfl) h99
        have hc : cm r i = true := by unfold cm; rw [Bool.and_eq_true, decide_eq_true_iff, decide_eq_true_iff]; exact ⟨hp, hs⟩
        obtain ⟨Gc, c1, c2, c3, c5, c6⟩ := mCopies hM1
        have R3 : MR r Gc := fun j hj => (c3 j hj).trans ((hE.2 39 j (by unfold scrM; omega)).trans (h39 j hj))
        have Mc := c2.M hM1
        rw [c1]
        simp only [ob]
        obtain ⟨G14, y1, y2⟩ := mFall Mc R3 hr hi hp
        rw [y1]
        simp only [obp]
        have M14 := y2.M Mc
        have E14 : EssM G G14 := (hE.tr c2).tr y2
        obtain ⟨G16, d1, d2, d3, d5, d6⟩ := mCopies M14
        have R16 : MR r G16 := fun j hj => (d3 j hj).trans ((E14.2 39 j (by unfold scrM; omega)).trans (h39 j hj))
        have M16 := d2.M M14
        rw [d1]
        simp only [ob]
        rw [ml_59 M16.1]
        simp only [ob]
        rw [m40 (by omega), R16 _ (by omega)]
        simp only [ob]
        rw [ms40 (by omega)]
        simp only [ob]
        have R19 := R16.s (k := i) (v := r i + 1)
        have e19 : EssM G16 (sI G16 40 i (r i + 1)) := essM_s40
        generalize sI G16 40 i (r i + 1) = G19 at R19 e19
        have W19 : WFG T (upd r i (r i + 1)) := WFG_st (m := 1) hr hW hi (by omega)
        obtain ⟨G21, z1, z2⟩ := mFall (e19.M M16) R19 W19 hi (by rw [upn (by omega)]; exact hp)
        rw [z1]
        simp only [obp]
        have E21 : EssM G G21 := ((E14.tr d2).tr e19).tr z2
        have l0 : fa0 T r i ≤ 201 := fl_le _ _
        have l1 : fa1 T r i ≤ 201 := fl_le _ _
        by_cases e : fl T i 201 r = 201
        · rw [if_pos (show nI (fl T i 201 r) = 201 by rw [e]; rfl)]
          refine J G21 0 E21 hc ?_
          unfold gnM; rw [if_pos (show fa0 T r i = 201 from e)]
        · rw [if_neg (show ¬ nI (fl T i 201 r) = 201 from fun q => e ((nI_eq (b := 201) (show fa0 T r i < 2 ^ 31 by omega) (by decide)).mp q))]
          by_cases e2 : fl T i 201 (upd r i (r i + 1)) = 201
          · rw [if_pos (show nI (fl T i 201 (upd r i (r i + 1))) = 201 by rw [e2]; rfl)]
            refine J G21 999 E21 hc ?_
            unfold gnM; rw [if_neg (show ¬ fa0 T r i = 201 from e), if_pos (show fa1 T r i = 201 from e2)]
          · rw [if_neg (show ¬ nI (fl T i 201 (upd r i (r i + 1))) = 201 from fun q => e2 ((nI_eq (b := 201) (show fa1 T r i < 2 ^ 31 by omega) (by decide)).mp q))]
            refine J G21 _ E21 hc ?_
            unfold gnM; rw [if_neg (show ¬ fa0 T r i = 201 from e), if_neg (show ¬ fa1 T r i = 201 from e2)]; rfl
    · rw [if_neg hp]
      simp only [obd]
      refine ⟨_, rfl, hE, keep ?_⟩
      cases hc : cm r i with
      | false => rfl
      | true => exact absurd ((cm_t hr hi).mp hc).1 hp
  · rintro ⟨G1, p⟩ ⟨hE, rfl⟩
    dsimp only at hE ⊢
    have hM1 := hE.M hM
    unfold fX11_mendFirst_S19
    rw [ml_31 hM1.1]
    simp only [ob]
    rw [aI_l (n := 0) hM1 mn_18, hM1.2.2.2.1.1.2.2.2.1]
    simp only [ob]
    rw [if_pos (nI_le (Nat.le_refl _) (by omega))]
    exact ⟨_, rfl, hE, rfl⟩
theorem step21 {Gx Gm : Hp} (hI : Inv Gx Gm) (w : Int32) : Step21 SHX SHM Inv Gx Gm w := by
  have hI0 := hI
  obtain ⟨T, t, l, r, n, u, nx, hi, hb, sl, m, h⟩ := hI
  have hM := h.M
  have hx := h.1
  have hW := h.2.2.2.2.1
  have hT := h.2.2.2.2.2.1
  have hr := h.2.2.2.2.2.2.2.1
  have hG := h.2.2.2.2.2.2.2.2.1
  have h39 := h.2.2.2.2.2.2.2.2.2.1
  have hw := hW.1
  unfold Step21 fX10_mendFirst fX11_mendFirst
  by_cases ha : rng w 2
  · obtain ⟨k, hk, rfl⟩ := ha
    rw [in2_y hk, if_neg (nI_pos (by omega)), if_pos (show nI k ≤ 1 from nI_le (b := 1) (by omega) (by decide))]
    simp only [ob, if_neg one_ne]
    obtain ⟨ox, x1, x2, x3⟩ := xMF (w := nI k) hx hT hW hG hr
    obtain ⟨om, y1, y2, y3⟩ := mMF (w := nI k) hM h39 hr
    obtain ⟨a1, a2, a3, a4⟩ := bs_rel (T := T) (r := r) (T.1 3) (by omega)
    rw [x1, y1]
    simp only [ob, obd]
    rw [x3, y3, ← a1]
    have fin := x2.I y2 h
    rcases a4 with e | ⟨j, hj, e⟩
    · rw [e, if_pos rfl, if_pos (show (-2 : Int32) < 0 by decide)]
      exact ⟨_, _, _, rfl, rfl, fin⟩
    · rw [e, if_neg (show ¬ nI j = -2 from fun q => nI_pos (n := j) (by omega) (by rw [q]; decide)), if_neg (nI_pos (by omega))]
      by_cases k0 : nI k = 0
      · rw [if_pos k0, if_pos k0]; exact ⟨_, _, _, rfl, rfl, fin⟩
      · rw [if_neg k0, if_neg k0]
        rcases a2 with ⟨e1, e2⟩ | ⟨e1, e2⟩
        · rw [e1, e2, if_neg (by decide), if_pos rfl]; exact ⟨_, _, _, rfl, rfl, fin⟩
        · rw [if_pos e2, ← e1, if_neg (fun q => by rw [q] at e2; exact absurd e2 (by decide))]; exact ⟨_, _, _, rfl, rfl, fin⟩
  · rw [in2_n ha]
    rcases rng2 ha with h0 | ⟨h0, h1⟩
    · rw [if_pos h0]; exact ⟨_, _, _, rfl, rfl, hI0⟩
    · rw [if_neg h0, if_neg h1]; exact ⟨_, _, _, rfl, rfl, hI0⟩
