/-! years, stonesIn, openIn, year. -/
theorem EssX.T {t : Nat} {T : Txt} {G G2 : Hp} (ht : t = 11 ∨ t = 32) (h : EssX G G2) (hT : XT t T G) : XT t T G2 := XT_fr hT (fun q k a b c d => h.2 q k (by unfold scrX; omega)) (by rw [h.1])
theorem EssX.G {T : Txt} {r : Nat → Int32} {G G2 : Hp} (h : EssX G G2) (hG : XG T 53 r G) : XG T 53 r G2 := XG_fr hG (fun q k a b => h.2 q k (by unfold scrX; omega))
theorem EY.X {t : Nat} {G G2 : Hp} (ht : t = 11 ∨ t = 32) (h : EY t 61 G G2) : EssX G G2 := ⟨h.1, fun q k hn => by
  unfold scrX at hn
  exact h.2 q k (by omega) (by omega) (by omega) (by omega) (by omega) (by omega)⟩
theorem EG.X {G G2 : Hp} (h : EG 61 G G2) : EssX G G2 := ⟨h.1, fun q k hn => by
  unfold scrX at hn
  exact h.2 q k (by omega)⟩
theorem rngN {x : Int32} {n : Nat} (hn : n + 1 < 2 ^ 31) (h : ¬ rng x (n + 1)) : x < 0 ∨ (¬ x < 0 ∧ ¬ x ≤ nI n) := by
  rcases rng_not hn h with h0 | ⟨h0, h1⟩
  · exact Or.inl h0
  · obtain ⟨j, hj, rfl⟩ := nI_of h0
    exact Or.inr ⟨h0, nI_ge (by have := (nI_leI hn hj).mp h1; omega) hj⟩
theorem in60_y {i : Nat} (h : i < 61) : fX11_in (nI i) 0 60 = some 1 := by
  have h2 := in_yes (n := 61) h (by decide)
  rwa [show nI 61 - 1 = (60 : Int32) by decide] at h2
theorem in60_n {x : Int32} (h : ¬ rng x 61) : fX11_in x 0 60 = some 0 := by
  have h2 := in_no (n := 61) (by decide) h
  rwa [show nI 61 - 1 = (60 : Int32) by decide] at h2
theorem mLong_y {i : Nat} (h : i < 61) : fX11_isLong (nI i) = some 1 := by
  unfold fX11_isLong; rw [in60_y h]; simp only [ob]; rfl
theorem mLong_n {x : Int32} (h : ¬ rng x 61) : fX11_isLong x = some 0 := by
  unfold fX11_isLong; rw [in60_n h]; simp only [ob]; rfl
def mo (T : Txt) (sd : Int32) (r : Nat → Int32) : Nat := if stm (nI (T.1 4)) sd (r 23) = 0 then 0 else 1
theorem mo_le {T : Txt} {sd : Int32} {r : Nat → Int32} : mo T sd r ≤ 1 := by unfold mo; split <;> omega
/-- n years -/
def rYears (T : Txt) (sd : Int32) (r : Nat → Int32) : Nat → Nat → Int32
  | 0 => r
  | n + 1 => rYear T (rYears T sd r n) (mo T sd (rYears T sd r n))
theorem rYears_W {T : Txt} {sd : Int32} {r : Nat → Int32} (h : WFG T r) (hW : WFT T) : ∀ n, WFG T (rYears T sd r n)
  | 0 => h
  | n + 1 => WFG_year (rYears_W h hW n) hW
theorem xPassYears {t g n : Nat} {T : Txt} {r : Nat → Int32} {sd : Int32} {G : Hp} (hx : LX t G) (hT : XT t T G) (hW : WFT T) (hg : isG g) (hG : XG T g r G) (hw : WFG T r) (hn : n < 1000) : ∃ G2, fX3_passYears SHX G 58 t g (nI n) sd = some G2 ∧ EY t g G G2 ∧ XG T g (rYears T sd r n) G2 := by
  have ht := hx.1
  obtain ⟨G2, b1, b2, b3⟩ := iter_go (f := fun s : Hp × Int32 => fX3_passYears_S3 SHX 58 t g (nI n) sd s.1 s.2) (P := fun i s => s.2 = nI i ∧ EY t g G s.1 ∧ XG T g (rYears T sd r i) s.1) (Q := fun o => EY t g G o ∧ XG T g (rYears T sd r n) o) n (G, 0) (by omega) ⟨rfl, EY.rf, hG⟩ (by
    rintro i ⟨G1, x⟩ hi ⟨rfl, hE, hG1⟩
    left
    dsimp only at hE hG1 ⊢
    have hx1 := hE.L hx
    have hT1 := hE.T ht hg hT
    have hw1 := rYears_W (sd := sd) hw hW i
    unfold fX3_passYears_S3
    rw [if_neg (nI_ge hi (by omega)), hT1.1 4 (by decide), hG1.2.2.2.2.2.2.2, xStorm]
    simp only [ob]
    by_cases hs : stm (nI (T.1 4)) sd (rYears T sd r i 23) = 0
    · rw [if_pos hs]
      obtain ⟨G5, a1, a2, a3⟩ := xPassYear (more := 0) hx1 hT1 hW hg hG1 hw1 (by decide)
      have a1' : fX3_passYear SHX G1 58 t g 0 = some G5 := a1
      rw [a1']
      simp only [ob, obd]
      refine ⟨_, rfl, nI_1 i, hE.tr a2, ?_⟩
      have em : mo T sd (rYears T sd r i) = 0 := if_pos hs
      show XG T g (rYear T (rYears T sd r i) (mo T sd (rYears T sd r i))) G5
      rw [em]; exact a3
    · rw [if_neg hs]
      obtain ⟨G5, a1, a2, a3⟩ := xPassYear (more := 1) hx1 hT1 hW hg hG1 hw1 (by decide)
      have a1' : fX3_passYear SHX G1 58 t g 1 = some G5 := a1
      rw [a1']
      simp only [ob, obd]
      refine ⟨_, rfl, nI_1 i, hE.tr a2, ?_⟩
      have em : mo T sd (rYears T sd r i) = 1 := if_neg hs
      show XG T g (rYear T (rYears T sd r i) (mo T sd (rYears T sd r i))) G5
      rw [em]; exact a3) (by
    rintro ⟨G1, x⟩ ⟨rfl, hE, hG1⟩
    dsimp only at hE hG1 ⊢
    unfold fX3_passYears_S3
    rw [if_pos (nI_le (Nat.le_refl _) (by omega))]
    exact ⟨_, rfl, hE, hG1⟩)
  unfold fX3_passYears
  rw [b1]
  simp only [ob, obd]
  exact ⟨_, rfl, b2, b3⟩
theorem mYearS {l : Nat} {T : Txt} {r : Nat → Int32} {G : Hp} {sd : Int32} (hM : ML0 l T G) (hR : MR r G) (hw : WFG T r) (h61 : G.1 0 61 = 0) (h60 : G.1 0 60 = sd) : ∃ G2, fX11_yearGoes SHM G 0 = some G2 ∧ EW G G2 ∧ MR (rYear T r (mo T sd r)) G2 := by
  unfold fX11_yearGoes fX11_yearGoes_J18
  rw [if_pos h61, mStorm hM hR, h60]
  simp only [ob]
  by_cases hs : stm (nI (T.1 4)) sd (r 23) = 0
  · rw [if_pos hs, show mo T sd r = 0 from if_pos hs]
    exact mYear0 (more := 0) hM hR hw (by decide)
  · rw [if_neg hs, show mo T sd r = 1 from if_neg hs]
    exact mYear0 (more := 1) hM hR hw (by decide)
theorem mYearQ {l : Nat} {T : Txt} {r : Nat → Int32} {G : Hp} (hM : ML0 l T G) (hR : MR r G) (hw : WFG T r) (h61 : G.1 0 61 = 1) : ∃ G2, fX11_yearGoes SHM G 0 = some G2 ∧ EW G G2 ∧ MR (rYear T r 0) G2 := by
  unfold fX11_yearGoes fX11_yearGoes_J18
  rw [if_neg (by rw [h61]; decide)]
  exact mYear0 (more := 0) hM hR hw (by decide)
theorem mGoes {l n : Nat} {T : Txt} {r : Nat → Int32} {G : Hp} {sd : Int32} (hM : ML0 l T G) (hR : MR r G) (hw : WFG T r) (h61 : G.1 0 61 = 0) (h60 : G.1 0 60 = sd) (hn : n < 1000) : ∃ G2, fX11_goes SHM G 0 (nI n) = some G2 ∧ EW G G2 ∧ MR (rYears T sd r n) G2 := by
  have hW := hM.2.2.2.2
  obtain ⟨G2, b1, b2, b3⟩ := iter_go (f := fun s : Hp × Int32 => fX11_goes_S2 SHM 0 (nI n) s.1 s.2) (P := fun i s => s.2 = nI i ∧ EW G s.1 ∧ MR (rYears T sd r i) s.1) (Q := fun o => EW G o ∧ MR (rYears T sd r n) o) n (G, 0) (by omega) ⟨rfl, EW.rf, hR⟩ (by
    rintro i ⟨G1, x⟩ hi ⟨rfl, hE, hR1⟩
    left
    dsimp only at hE hR1 ⊢
    obtain ⟨G3, a1, a2, a3⟩ := mYearS (sd := sd) (hE.M.M hM) hR1 (rYears_W hw hW i) ((hE.2 0 61 (by decide) (by decide) (by decide) (by decide) (by omega)).trans h61) ((hE.2 0 60 (by decide) (by decide) (by decide) (by decide) (by omega)).trans h60)
    unfold fX11_goes_S2
    rw [if_neg (nI_ge hi (by omega)), a1]
    simp only [ob, obd]
    exact ⟨_, rfl, nI_1 i, hE.tr a2, a3⟩) (by
    rintro ⟨G1, x⟩ ⟨rfl, hE, hR1⟩
    dsimp only at hE hR1 ⊢
    unfold fX11_goes_S2
    rw [if_pos (nI_le (Nat.le_refl _) (by omega))]
    exact ⟨_, rfl, hE, hR1⟩)
  unfold fX11_goes
  rw [b1]
  simp only [ob, obd]
  exact ⟨_, rfl, b2, b3⟩
theorem xAhead {t n : Nat} {T : Txt} {r : Nat → Int32} {sd : Int32} {G : Hp} (hx : LX t G) (hT : XT t T G) (hW : WFT T) (hG : XG T 53 r G) (hw : WFG T r) (hn : n < 1000) : ∃ G2, fX3_lookAhead SHX G 58 t 53 (nI n) sd = some (61, G2) ∧ EssX G G2 ∧ XG T 61 (rYears T sd r n) G2 := by
  have ht := hx.1
  obtain ⟨G3, c1, c2, c3⟩ := xCopyG hx hW isG_61 isG_53 (by decide) hG
  have hx3 := c2.L hx
  obtain ⟨G6, d1, d2, d3⟩ := xPassYears (n := n) (sd := sd) hx3 (c2.T ht isG_61 hT) hW isG_61 c3 hw hn
  unfold fX3_lookAhead
  rw [xl_58_2 hx]
  simp only [ob]
  rw [c1]
  simp only [ob]
  rw [xl_58_2 hx3]
  simp only [ob]
  rw [d1]
  simp only [ob]
  rw [xl_58_2 (d2.L hx3)]
  exact ⟨G6, rfl, c2.X.tr (d2.X ht), d3⟩
theorem ck61 : ckO SHX 61 1 = some () := by decide +kernel
theorem step24 {Gx Gm : Hp} (hI : Inv Gx Gm) (a : Int32) : Step24 SHX SHM Inv Gx Gm a := by
  have hI0 := hI
  obtain ⟨T, t, l, r, n, u, nx, hi, hb, sl, m, h⟩ := hI
  have hM := h.M
  have hx := h.1
  have hW := h.2.2.2.2.1
  have hT := h.2.2.2.2.2.1
  have hr := h.2.2.2.2.2.2.2.1
  have hG := h.2.2.2.2.2.2.2.2.1
  unfold Step24 fX10_openIn fX11_openIn
  by_cases ha : rng a 61
  · obtain ⟨k, hk, rfl⟩ := ha
    obtain ⟨Gc, c1, c2, c3, c4, c5, c6⟩ := h.C
    rw [if_neg (nI_pos (by omega)), if_pos (show nI k ≤ 60 from nI_le (b := 60) (by omega) (by decide)), mLong_y hk, c1, xl_0_4 hx, xl_text hx, xl_0_3 hx]
    simp only [ob, if_neg one_ne]
    obtain ⟨G8, p1, p2, p3⟩ := xAhead (n := k) (sd := nI (T.1 5)) hx hT hW hG hr (by omega)
    obtain ⟨G6, q1, q2, q3⟩ := mGoes (n := k) c4 c3 hr c6 c5 (by omega)
    rw [hT.1 5 (by decide), p1, q1]
    simp only [obp, ob]
    rw [ck61, xOpen (p2.L hx) isG_61 p3, mOpen (q2.M.M c4) q3 (rYears_W hr hW k)]
    exact ⟨_, _, _, rfl, rfl, p2.I (c2.tr q2.M) h⟩
  · rw [mLong_n ha]
    rcases rngN (by decide) ha with h0 | ⟨h0, h1⟩
    · rw [if_pos h0]; exact ⟨_, _, _, rfl, rfl, hI0⟩
    · rw [if_neg h0, if_neg (show ¬ a ≤ 60 from h1)]; exact ⟨_, _, _, rfl, rfl, hI0⟩
theorem step23 {Gx Gm : Hp} (hI : Inv Gx Gm) (b a : Int32) : Step23 SHX SHM Inv Gx Gm b a := by
  have hI0 := hI
  obtain ⟨T, t, l, r, n, u, nx, hi, hb, sl, m, h⟩ := hI
  have hM := h.M
  have hx := h.1
  have hW := h.2.2.2.2.1
  have hT := h.2.2.2.2.2.1
  have hr := h.2.2.2.2.2.2.2.1
  have hG := h.2.2.2.2.2.2.2.2.1
  have hw := hW.1
  unfold Step23 fX10_stonesIn fX11_stonesIn
  rw [xl_text hx]
  simp only [ob]
  by_cases hb : rng b (T.1 3)
  · obtain ⟨b, hb, rfl⟩ := hb
    rw [xBridge_y hT hW hb, mBridge_y hM hb]
    simp only [ob, if_neg one_ne]
    by_cases ha : rng a 61
    · obtain ⟨k, hk, rfl⟩ := ha
      obtain ⟨Gc, c1, c2, c3, c4, c5, c6⟩ := h.C
      rw [if_neg (nI_pos (by omega)), if_pos (show nI k ≤ 60 from nI_le (b := 60) (by omega) (by decide)), mLong_y hk, c1, xl_0_4 hx, xl_0_3 hx]
      simp only [ob, if_neg one_ne]
      obtain ⟨G8, p1, p2, p3⟩ := xAhead (n := k) (sd := nI (T.1 5)) hx hT hW hG hr (by omega)
      obtain ⟨G6, q1, q2, q3⟩ := mGoes (n := k) c4 c3 hr c6 c5 (by omega)
      rw [hT.1 5 (by decide), p1, q1]
      simp only [obp, ob]
      have hx8 := p2.L hx
      have hM6 := q2.M.M c4
      rw [ck61, ml_59 hM6.1]
      simp only [ob]
      rw [xg_0 isG_61 hx8]
      simp only [ob]
      rw [aI_n (by rw [xgn_0 isG_61]; omega) (by omega), (p3.1 b hb).1, m40 (by omega), q3 _ (by omega)]
      exact ⟨_, _, _, rfl, rfl, p2.I (c2.tr q2.M) h⟩
    · rw [mLong_n ha]
      rcases rngN (by decide) ha with h0 | ⟨h0, h1⟩
      · rw [if_pos h0]; exact ⟨_, _, _, rfl, rfl, hI0⟩
      · rw [if_neg h0, if_neg (show ¬ a ≤ 60 from h1)]; exact ⟨_, _, _, rfl, rfl, hI0⟩
  · rw [xBridge_n hT hW hb, mBridge_n hM hb]
    exact ⟨_, _, _, rfl, rfl, hI0⟩
theorem step13 {Gx Gm : Hp} (hI : Inv Gx Gm) (a : Int32) : Step13 SHX SHM Inv Gx Gm a := by
  have hI0 := hI
  obtain ⟨T, t, l, r, n, u, nx, hi, hb, sl, m, h⟩ := hI
  have hM := h.M
  have hx := h.1
  have ht := hx.1
  have hW := h.2.2.2.2.1
  have hT := h.2.2.2.2.2.1
  have hr := h.2.2.2.2.2.2.2.1
  have hG := h.2.2.2.2.2.2.2.2.1
  have h39 := h.2.2.2.2.2.2.2.2.2.1
  have h12 := h.2.2.2.2.2.2.2.2.2.2.2.1
  unfold Step13 fX10_years fX11_years
  by_cases ha : rng a 61
  · obtain ⟨k, hk, rfl⟩ := ha
    rw [if_neg (nI_pos (by omega)), if_pos (show nI k ≤ 60 from nI_le (b := 60) (by omega) (by decide)), in60_y hk]
    simp only [ob, if_neg one_ne]
    by_cases k0 : k = 0
    · subst k0
      rw [if_pos (show nI 0 ≤ 0 by decide), if_pos (show nI 0 = 0 from rfl), xl_0_3 hx, ml_58 hM.1]
      simp only [ob]
      rw [show (23 : Int32) = nI 23 from rfl, aI_n (by rw [mn_39]; decide) (by decide), h39 _ (by decide), hG.2.2.2.2.2.2.2]
      exact ⟨_, _, _, rfl, rfl, hI0⟩
    · obtain ⟨Gc, c1, c2, c3, c4, c5, c6⟩ := h.C
      rw [if_neg (nI_nle (by omega) (by omega)), if_neg (nI_ne0 (by omega) (by omega)), c1, xl_0_5 hx, xl_0_3 hx]
      simp only [ob]
      obtain ⟨Gk, k1, k2, k3, k4⟩ := xKeep hx hW hr hG (RH_x h12)
      rw [k1]
      simp only [ob]
      have hxk : LX t Gk := hx.same (by rw [k2])
      have hGk : XG T 53 r Gk := XG_fr hG (fun q k a b => k3 q k (by omega))
      have hTk : XT t T Gk := XT_keep ht hT k2 (fun q k hq => k3 q k (by omega))
      rw [xl_0_3 hxk, xl_0_4 hxk, xl_text hxk]
      simp only [ob]
      obtain ⟨G14, p1, p2, p3⟩ := xPassYears (n := k) (sd := nI (T.1 5)) hxk hTk hW isG_53 hGk hr (by omega)
      obtain ⟨m7, q1, q2, q3⟩ := mGoes (n := k) c4 c3 hr c6 c5 (by omega)
      rw [hTk.1 5 (by decide), p1, q1]
      simp only [ob]
      rw [xl_0_3 (p2.L hxk)]
      simp only [ob]
      have em : EssM Gm m7 := c2.tr q2.M
      obtain ⟨m2, f1, f2, f3, f4, f5⟩ := mRecords (u := u) (hi := hi) (r0 := r) (r := rYears T (nI (T.1 5)) r k) (em.L hM.1) h12.1 ⟨(em.2 0 64 (by unfold scrM; omega)).trans (RH_m h12).1, fun j hj k hk => (em.2 43 _ (by unfold scrM; omega)).trans ((RH_m h12).2 j hj k hk)⟩ q3 (fun k hk => (em.2 39 _ (by unfold scrM; omega)).trans (h39 k hk))
      rw [f1]
      simp only [ob]
      rw [ml_58 ((em.L hM.1).same (by rw [f2]))]
      simp only [ob]
      rw [show (23 : Int32) = nI 23 from rfl, aI_n (by rw [mn_39]; decide) (by decide), f5 _ (by decide), p3.2.2.2.2.2.2.2]
      exact ⟨_, _, _, rfl, rfl, Inv0_do h k2 k3 k4 p2.1 (fun q k a1 a2 => p2.2 q k (by omega) (by unfold scrX at a2; omega) (by unfold scrX at a2; omega) (by unfold scrX at a2; omega) (by unfold scrX at a2; omega) (by unfold scrX at a2; omega)) p3 (rYears_W hr hW k) em f2 f3 f4 f5⟩
  · rw [in60_n ha]
    rcases rngN (by decide) ha with h0 | ⟨h0, h1⟩
    · rw [if_pos h0]; exact ⟨_, _, _, rfl, rfl, hI0⟩
    · rw [if_neg h0, if_neg (show ¬ a ≤ 60 from h1)]; exact ⟨_, _, _, rfl, rfl, hI0⟩
/-! year. -/
theorem rYear_no {T : Txt} {r : Nat → Int32} {more b : Nat} (hW : WFT T) (hb : b < T.1 3) (h : r (4 + b) ≠ 1) : rYear T r more (4 + b) ≠ 1 := by
  have hw := hW.1
  unfold rYear
  rw [upn (by omega), ((yRow_at (w := yV T r more) (r := r) (T.1 3) hb (by omega)).2 h).2]
  exact h
theorem rYears_no {T : Txt} {r : Nat → Int32} {sd : Int32} {b : Nat} (hW : WFT T) (hb : b < T.1 3) (h : r (4 + b) ≠ 1) : ∀ n, rYears T sd r n (4 + b) ≠ 1
  | 0 => h
  | n + 1 => rYear_no hW hb (rYears_no hW hb h n)
def opk (T : Txt) (r : Nat → Int32) (b n k : Nat) : Bool := decide (rYears T (nI (T.1 5) + nI k) r n (4 + b) = 1)
theorem in20_y {i : Nat} (h : 1 ≤ i ∧ i ≤ 20) : fX11_in (nI i) 1 20 = some 1 := by
  unfold fX11_in
  rw [if_neg (show ¬ nI i < 1 from nI_nlt (b := 1) h.1 (by omega)), if_neg (show ¬ (20 : Int32) < nI i from nI_nlt (a := 20) h.2 (by decide))]
theorem in20_n {x : Int32} (h : ¬ ∃ i, (1 ≤ i ∧ i ≤ 20) ∧ x = nI i) : fX11_in x 1 20 = some 0 ∧ (x < 1 ∨ (¬ x < 1 ∧ ¬ x ≤ 20)) := by
  unfold fX11_in
  by_cases h1 : x < 1
  · rw [if_pos h1]; exact ⟨rfl, Or.inl h1⟩
  · have h0 : ¬ x < 0 := fun q => h1 (Int32.lt_trans q (by decide))
    obtain ⟨j, hj, rfl⟩ := nI_of h0
    have j1 : 1 ≤ j := by
      rcases Nat.eq_zero_or_pos j with z | z
      · subst z; exact absurd (by decide) h1
      · exact z
    have j2 : 20 < j := by
      rcases Nat.lt_or_ge 20 j with z | z
      · exact z
      · exact absurd ⟨j, ⟨j1, z⟩, rfl⟩ h
    rw [if_neg h1, if_pos (show (20 : Int32) < nI j from nI_lt (a := 20) j2 hj)]
    exact ⟨rfl, Or.inr ⟨h1, nI_ge (a := 20) j2 hj⟩⟩
theorem step25 {Gx Gm : Hp} (hI : Inv Gx Gm) (b a c : Int32) : Step25 SHX SHM Inv Gx Gm b a c := by
  have hI0 := hI
  obtain ⟨T, t, l, r, n, u, nx, hi, hb, sl, m, h⟩ := hI
  have hM := h.M
  have hx := h.1
  have ht := hx.1
  have hW := h.2.2.2.2.1
  have hT := h.2.2.2.2.2.1
  have hr := h.2.2.2.2.2.2.2.1
  have hG := h.2.2.2.2.2.2.2.2.1
  have h39 := h.2.2.2.2.2.2.2.2.2.1
  have hw := hW.1
  unfold Step25 fX10_year fX11_year
  rw [xl_text hx]
  simp only [ob]
  by_cases hb : rng b (T.1 3)
  · obtain ⟨b, hb, rfl⟩ := hb
    have hb4 : b < 4 := by omega
    rw [xBridge_y hT hW hb, mBridge_y hM hb]
    simp only [ob, if_neg one_ne]
    by_cases ha : rng a 61
    · obtain ⟨k, hk, rfl⟩ := ha
      rw [if_neg (nI_pos (by omega)), if_neg (show ¬ (60 : Int32) < nI k from nI_nlt (a := 60) (by omega) (by decide)), mLong_y hk]
      simp only [ob, if_neg one_ne]
      by_cases hc : ∃ i, (1 ≤ i ∧ i ≤ 20) ∧ c = nI i
      · obtain ⟨s, hs, rfl⟩ := hc
        rw [in20_y hs, if_neg (show ¬ nI s < 1 from nI_nlt (b := 1) hs.1 (by omega)), if_pos (show nI s ≤ 20 from nI_le (b := 20) hs.2 (by decide))]
        simp only [ob, if_neg one_ne]
        -- the reference
        obtain ⟨om, y1, y2, y3⟩ := iter_go (f := fun s' : Hp × Int32 × Int32 => fX11_year_S33 SHM 0 (nI b) (nI k) (nI s) s'.1 s'.2.1 s'.2.2) (P := fun i s' => s'.2.2 = nI i ∧ s'.2.1 = nI (fa_cnt (opk T r b k) i) ∧ EssM Gm s'.1) (Q := fun o => o.2 = nI (fa_cnt (opk T r b k) s) ∧ EssM Gm o.1) s (Gm, 0, 0) (by omega) ⟨rfl, rfl, EssM.rf⟩ (by
          rintro i ⟨G1, x, z⟩ hi ⟨rfl, rfl, hE⟩
          left
          dsimp only at hE ⊢
          have hM1 := hE.M hM
          obtain ⟨Gc, c1, c2, c3, c5, c6⟩ := mCopies hM1
          have R3 : MR r Gc := fun j hj => (c3 j hj).trans ((hE.2 39 j (by unfold scrM; omega)).trans (h39 j hj))
          unfold fX11_year_S33
          rw [if_neg (nI_ge hi (by omega)), c1]
          simp only [ob, obd]
          have M3 := c2.M hM1
          have e4 : EssM Gc (sI Gc 0 60 (Gc.1 0 60 + nI i)) := EssM.sI (by unfold scrM; omega)
          have R4 : MR r (sI Gc 0 60 (Gc.1 0 60 + nI i)) := R3.E (fun j hj => sI_ne (Or.inl (by decide)))
          have h61 : (sI Gc 0 60 (Gc.1 0 60 + nI i)).1 0 61 = 0 := by rw [sI_ne (Or.inr (by decide))]; exact c6
          have h60 : (sI Gc 0 60 (Gc.1 0 60 + nI i)).1 0 60 = nI (T.1 5) + nI i := by rw [sI_same, c5]
          generalize sI Gc 0 60 (Gc.1 0 60 + nI i) = G4 at e4 R4 h61 h60
          have M4 := e4.M M3
          obtain ⟨G6, q1, q2, q3⟩ := mGoes (n := k) M4 R4 hr h61 h60 (by omega)
          have M6 := q2.M.M M4
          rw [q1]
          simp only [ob]
          rw [ml_59 M6.1]
          simp only [ob]
          rw [show (4 : Int32) + nI b = nI (4 + b) from nI_add 4 b, m40 (by omega), q3 _ (by omega)]
          simp only [ob]
          have E6 : EssM Gm G6 := ((hE.tr c2).tr e4).tr q2.M
          by_cases hp : rYears T (nI (T.1 5) + nI i) r k (4 + b) = 1
          · rw [if_pos hp]
            exact ⟨_, rfl, nI_1 i, by rw [fa_cnt_yes (show opk T r b k i = true from decide_eq_true hp)]; exact nI_1 _, E6⟩
          · rw [if_neg hp]
            exact ⟨_, rfl, nI_1 i, by rw [fa_cnt_no (show opk T r b k i = false from decide_eq_false hp)], E6⟩) (by
          rintro ⟨G1, x, z⟩ ⟨rfl, rfl, hE⟩
          dsimp only at hE ⊢
          unfold fX11_year_S33
          rw [if_pos (nI_le (Nat.le_refl _) (by omega))]
          exact ⟨_, rfl, rfl, hE⟩)
        rw [y1]
        simp only [ob, obd]
        rw [y2]
        by_cases hp : r (4 + b) = 1
        · obtain ⟨ox, z1, z2, z3⟩ := iter_go (f := fun s' : Hp × Int32 × Int32 => fX10_year_S40 SHX 0 (nI b) (nI k) (nI s) s'.1 s'.2.1 s'.2.2) (P := fun i s' => s'.2.2 = nI i ∧ s'.2.1 = nI (fa_cnt (opk T r b k) i) ∧ EssX Gx s'.1) (Q := fun o => o.2 = nI (fa_cnt (opk T r b k) s) ∧ EssX Gx o.1) s (Gx, 0, 0) (by omega) ⟨rfl, rfl, EssX.rf⟩ (by
            rintro i ⟨G1, x, z⟩ hi ⟨rfl, rfl, hE⟩
            left
            dsimp only at hE ⊢
            have hx1 := hE.L hx
            have hG1 := hE.G hG
            have hT1 := hE.T ht hT
            unfold fX10_year_S40
            rw [if_neg (nI_ge hi (by omega)), xl_0_3 hx1]
            simp only [ob]
            rw [xg_1 isG_53 hx1]
            simp only [ob]
            rw [aI_n (by rw [xgn_1 isG_53]; omega) (by omega), hG1.2.1 b hb4]
            simp only [ob]
            rw [if_pos hp, xl_0_4 hx1, xl_text hx1]
            simp only [ob]
            obtain ⟨G8, p1, p2, p3⟩ := xAhead (n := k) (sd := nI (T.1 5) + nI i) hx1 hT1 hW hG1 hr (by omega)
            rw [hT1.1 5 (by decide), p1]
            simp only [obp]
            rw [ck61]
            simp only [ob]
            rw [xg_1 isG_61 (p2.L hx1)]
            simp only [ob]
            rw [aI_n (by rw [xgn_1 isG_61]; omega) (by omega), p3.2.1 b hb4]
            simp only [ob]
            by_cases hp2 : rYears T (nI (T.1 5) + nI i) r k (4 + b) = 1
            · rw [if_pos hp2]
              simp only [obd]
              exact ⟨_, rfl, nI_1 i, by rw [fa_cnt_yes (show opk T r b k i = true from decide_eq_true hp2)]; exact nI_1 _, hE.tr p2⟩
            · rw [if_neg hp2]
              simp only [obd]
              exact ⟨_, rfl, nI_1 i, by rw [fa_cnt_no (show opk T r b k i = false from decide_eq_false hp2)]; exact Int32.add_zero _, hE.tr p2⟩) (by
            rintro ⟨G1, x, z⟩ ⟨rfl, rfl, hE⟩
            dsimp only at hE ⊢
            unfold fX10_year_S40
            rw [if_pos (nI_le (Nat.le_refl _) (by omega))]
            exact ⟨_, rfl, rfl, hE⟩)
          rw [z1]
          simp only [ob, obd]
          rw [z2]
          exact ⟨_, _, _, rfl, rfl, z3.I y3 h⟩
        · have e0 : fa_cnt (opk T r b k) s = 0 := by
            have : ∀ s, fa_cnt (opk T r b k) s = 0 := fun s => by
              induction s with
              | zero => rfl
              | succ s ih => rw [fa_cnt_no (show opk T r b k s = false from decide_eq_false (rYears_no hW hb hp k))]; exact ih
            exact this s
          have z1 : iter (fun s' : Hp × Int32 × Int32 => fX10_year_S40 SHX 0 (nI b) (nI k) (nI s) s'.1 s'.2.1 s'.2.2) fuel ((Gx, 0, 0) : Hp × Int32 × Int32) = some (Gx, 0) := by
            obtain ⟨f, hf⟩ := fuel_is 1 (by decide)
            rw [hf]
            refine iter_out ?_
            dsimp only
            unfold fX10_year_S40
            rw [if_neg (show ¬ nI s ≤ 0 from nI_nle (by omega) (by omega)), xl_0_3 hx]
            simp only [ob]
            rw [xg_1 isG_53 hx]
            simp only [ob]
            rw [aI_n (by rw [xgn_1 isG_53]; omega) (by omega), hG.2.1 b hb4]
            simp only [ob]
            rw [if_neg hp]
          rw [z1, e0]
          exact ⟨_, _, _, rfl, rfl, EssX.rf.I y3 h⟩
      · obtain ⟨q1, q2⟩ := in20_n hc
        rw [q1]
        rcases q2 with q | ⟨q, q'⟩
        · rw [if_pos q]; exact ⟨_, _, _, rfl, rfl, hI0⟩
        · rw [if_neg q, if_neg q']; exact ⟨_, _, _, rfl, rfl, hI0⟩
    · rw [mLong_n ha]
      rcases rngN (by decide) ha with h0 | ⟨h0, h1⟩
      · rw [if_pos h0]; exact ⟨_, _, _, rfl, rfl, hI0⟩
      · rw [if_neg h0, if_pos (show (60 : Int32) < a from Int32.not_le.mp h1)]; exact ⟨_, _, _, rfl, rfl, hI0⟩
  · rw [xBridge_n hT hW hb, mBridge_n hM hb]
    exact ⟨_, _, _, rfl, rfl, hI0⟩
