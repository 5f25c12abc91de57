/-! THE TAPE: feed, back, place. -/
theorem iter_in {σ ρ : Type} {f : σ → Option (σ ⊕ ρ)} {n : Nat} {s s2 : σ} (h : f s = some (.inl s2)) : iter f (n + 1) s = iter f n s2 := by simp [iter, h]
theorem iter_out {σ ρ : Type} {f : σ → Option (σ ⊕ ρ)} {n : Nat} {s : σ} {o : ρ} (h : f s = some (.inr o)) : iter f (n + 1) s = some o := by simp [iter, h]
theorem fuel_is (k : Nat) (h : k ≤ 100000000) : ∃ n, fuel = n + k := ⟨fuel - k, by unfold fuel; omega⟩
theorem t8 {x y : Int32} (h : ∀ i, i < 8 → bt x i = bt y i) : x.toInt8 = y.toInt8 := by
  apply Int8.toBitVec_inj.mp
  apply BitVec.eq_of_getLsbD_eq
  intro i hi
  have := h i hi
  unfold bt at this
  rw [Int32.toBitVec_toInt8, Int32.toBitVec_toInt8, BitVec.getLsbD_signExtend, BitVec.getLsbD_signExtend]
  simp only [if_pos (show i < 32 by omega), this]
theorem sh8 (w : Int32) (n : Nat) (hn : n ≤ 24) : (ush w (nI n)).toInt8 = (w >>> (nI n &&& 31)).toInt8 := by
  apply t8
  intro i hi
  unfold ush
  rw [b_ushr n (by omega), b_sshr n (by omega) _ (by omega), if_pos (by omega)]
theorem t8r (x : Int32) : (-128) ≤ x.toInt8.toInt32 ∧ x.toInt8.toInt32 ≤ 127 := by
  have h1 := Int8.le_toInt x.toInt8
  have h2 := Int8.toInt_lt x.toInt8
  constructor
  · apply Int32.le_iff_toInt_le.mpr
    rw [Int8.toInt_toInt32]
    show (-128 : Int) ≤ _
    omega
  · apply Int32.le_iff_toInt_le.mpr
    rw [Int8.toInt_toInt32]
    show _ ≤ (127 : Int)
    omega
theorem t8i (x : Int32) : x.toInt8.toInt32.toInt8 = x.toInt8 := by simp
/-- one byte comes behind the tape -/
def putX (G : Hp) (n : Nat) (v : Int32) : Hp := sI (sI G 7 n v) 2 0 (nI (n + 1))
def putM (G : Hp) (n : Nat) (v : Int32) : Hp := sI (sI G 1 n v) 0 2 (nI (n + 1))
theorem xput1 {t n s : Nat} {G : Hp} {w : Int32} (h : LX t G) (hn : n < 2000) (hl : G.1 2 0 = nI n) : fX7_put_S3 SHX 2 w G (nI s) = if nI s < 0 then some (.inr G) else some (.inl (putX G n (ush w (nI s)).toInt8.toInt32, nI s + (-8))) := by
  unfold fX7_put_S3
  split
  · rfl
  · rw [xl_2_5 h]
    simp only [Option.bind_some]
    rw [hl, xnn_7, if_neg (nI_ge (by omega) (by decide)), t8i, asI_n (by rw [xnn_7]; exact hn) (by omega)]
    simp only [Option.bind_some, bd]
    have e : (sI G 7 n (ush w (nI s)).toInt8.toInt32).1 2 0 = nI n := by rw [sI_ne (Or.inl (by decide)), hl]
    rw [e, nI_1]
    rfl
theorem mput1 {n s : Nat} {G : Hp} {w : Int32} (h : LM G) (hn : n < 2000) (hl : G.1 0 2 = nI n) : fX11_put_S3 SHM 0 w G (nI s) = if nI s < 0 then some (.inr G) else some (.inl (putM G n (w >>> (nI s &&& 31)).toInt8.toInt32, nI s + (-8))) := by
  unfold fX11_put_S3
  split
  · rfl
  · rw [ml_1 h]
    simp only [Option.bind_some]
    rw [hl, t8i, asI_n (by rw [mn_1]; exact hn) (by omega)]
    simp only [Option.bind_some, bd]
    have e : (sI G 1 n (w >>> (nI s &&& 31)).toInt8.toInt32).1 0 2 = nI n := by rw [sI_ne (Or.inl (by decide)), hl]
    rw [e, nI_1]
    rfl
def put4X (G : Hp) (n : Nat) (w : Int32) : Hp := putX (putX (putX (putX G n (ush w 24).toInt8.toInt32) (n + 1) (ush w 16).toInt8.toInt32) (n + 2) (ush w 8).toInt8.toInt32) (n + 3) (ush w 0).toInt8.toInt32
def put4M (G : Hp) (n : Nat) (w : Int32) : Hp := putM (putM (putM (putM G n (ush w 24).toInt8.toInt32) (n + 1) (ush w 16).toInt8.toInt32) (n + 2) (ush w 8).toInt8.toInt32) (n + 3) (ush w 0).toInt8.toInt32
theorem putX_l {G : Hp} {n : Nat} {v : Int32} : (putX G n v).1 2 0 = nI (n + 1) := sI_same
theorem putM_l {G : Hp} {n : Nat} {v : Int32} : (putM G n v).1 0 2 = nI (n + 1) := sI_same
theorem putX_L {t n : Nat} {G : Hp} {v : Int32} (h : LX t G) : LX t (putX G n v) := h
theorem putM_L {n : Nat} {G : Hp} {v : Int32} (h : LM G) : LM (putM G n v) := h
theorem xput {t n : Nat} {G : Hp} {w : Int32} (h : LX t G) (hn : n + 4 ≤ 2000) (hl : G.1 2 0 = nI n) : fX7_put SHX G 2 w = some (put4X G n w) := by
  unfold fX7_put
  obtain ⟨f, hf⟩ := fuel_is 5 (by decide)
  rw [hf]
  have e1 := xput1 (s := 24) (w := w) h (by omega) hl
  have e2 := xput1 (s := 16) (w := w) (putX_L (n := n) (v := (ush w 24).toInt8.toInt32) h) (n := n + 1) (by omega) putX_l
  have e3 := xput1 (s := 8) (w := w) (putX_L (n := n + 1) (v := (ush w 16).toInt8.toInt32) (putX_L (n := n) (v := (ush w 24).toInt8.toInt32) h)) (n := n + 2) (by omega) putX_l
  have e4 := xput1 (s := 0) (w := w) (putX_L (n := n + 2) (v := (ush w 8).toInt8.toInt32) (putX_L (n := n + 1) (v := (ush w 16).toInt8.toInt32) (putX_L (n := n) (v := (ush w 24).toInt8.toInt32) h))) (n := n + 3) (by omega) putX_l
  rw [iter_in (s2 := (_, 16)) e1, iter_in (s2 := (_, 8)) e2, iter_in (s2 := (_, 0)) e3, iter_in (s2 := (_, (-8))) e4, iter_out (o := put4X G n w) rfl]
  rfl
theorem mput {n : Nat} {G : Hp} {w : Int32} (h : LM G) (hn : n + 4 ≤ 2000) (hl : G.1 0 2 = nI n) : fX11_put SHM G 0 w = some (put4M G n w) := by
  unfold fX11_put
  obtain ⟨f, hf⟩ := fuel_is 5 (by decide)
  rw [hf]
  have e1 := mput1 (s := 24) (w := w) h (by omega) hl
  rw [← sh8 w 24 (by decide)] at e1
  have e2 := mput1 (s := 16) (w := w) (putM_L (n := n) (v := (ush w 24).toInt8.toInt32) h) (n := n + 1) (by omega) putM_l
  rw [← sh8 w 16 (by decide)] at e2
  have e3 := mput1 (s := 8) (w := w) (putM_L (n := n + 1) (v := (ush w 16).toInt8.toInt32) (putM_L (n := n) (v := (ush w 24).toInt8.toInt32) h)) (n := n + 2) (by omega) putM_l
  rw [← sh8 w 8 (by decide)] at e3
  have e4 := mput1 (s := 0) (w := w) (putM_L (n := n + 2) (v := (ush w 8).toInt8.toInt32) (putM_L (n := n + 1) (v := (ush w 16).toInt8.toInt32) (putM_L (n := n) (v := (ush w 24).toInt8.toInt32) h))) (n := n + 3) (by omega) putM_l
  rw [← sh8 w 0 (by decide)] at e4
  rw [iter_in (s2 := (_, 16)) e1, iter_in (s2 := (_, 8)) e2, iter_in (s2 := (_, 0)) e3, iter_in (s2 := (_, (-8))) e4, iter_out (o := put4M G n w) rfl]
  rfl

theorem Inv0_tape {T : Txt} {t l : Nat} {r : Nat → Int32} {n n2 u nx : Nat} {hi : Nat → Nat → Int32} {hb : Nat} {sl : Nat → Nat → Int32} {m : Nat} {Gx Gm Gx2 Gm2 : Hp} (h : Inv0 T t l r n u nx hi hb sl m Gx Gm) (ex : Gx2.2 = Gx.2) (em : Gm2.2 = Gm.2) (X : ∀ q k, ¬ (q = 7 ∨ (q = 2 ∧ k = 0)) → Gx2.1 q k = Gx.1 q k) (Y : ∀ q k, ¬ (q = 1 ∨ (q = 0 ∧ k = 2)) → Gm2.1 q k = Gm.1 q k) (hr : RT n2 Gx2 Gm2) : Inv0 T t l r n2 u nx hi hb sl m Gx2 Gm2 := by
  obtain ⟨h1, h2, h3, h4, h5, h6, h7, h8, h9, h10, h11, h12, h13, h14, h15, h16⟩ := h
  refine ⟨h1.same (by rw [ex]), h2.same (by rw [em]), h3, (Y _ _ (by omega)).trans h4, h5, XT_fr h6 (fun q k a b c d => X q k (by rcases h1.1 with rfl | rfl <;> omega)) (by rw [ex]), MT_fr h7 (fun q k a b => Y q k (by omega)), h8, XG_fr h9 (fun q k a b => X q k (by omega)), fun k hk => (Y _ _ (by omega)).trans (h10 k hk), hr, RH_fr h12 (fun q k a b => X q k (by omega)) (Y _ _ (by omega)) (fun j => Y _ _ (by omega)), RS_fr h13 (X _ _ (by omega)) (fun q k a b => X q k (by omega)) (fun j => Y _ _ (by omega)) (fun j => Y _ _ (by omega)), RO_fr h14 (X _ _ (by omega)) (fun q k a => X q k (by omega)) (Y _ _ (by omega)) (fun q k a => Y q k (by omega)), ?_, ?_⟩
  · intro i hi; rw [ex, em]; exact h15 i hi
  · rw [X 0 1 (by omega), Y 0 17 (by omega)]; exact h16
theorem Inv0_put {T : Txt} {t l : Nat} {r : Nat → Int32} {n u nx : Nat} {hi : Nat → Nat → Int32} {hb : Nat} {sl : Nat → Nat → Int32} {m : Nat} {Gx Gm : Hp} {v : Int32} (h : Inv0 T t l r n u nx hi hb sl m Gx Gm) (hn : n < 2000) (hv : (-128) ≤ v ∧ v ≤ 127) : Inv0 T t l r (n + 1) u nx hi hb sl m (putX Gx n v) (putM Gm n v) := by
  refine Inv0_tape h rfl rfl (fun q k hq => ?_) (fun q k hq => ?_) ?_
  · unfold putX; rw [sI_ne (by omega), sI_ne (by omega)]
  · unfold putM; rw [sI_ne (by omega), sI_ne (by omega)]
  · obtain ⟨-, -, -, -, -, -, -, -, -, -, ⟨h1, h2, h3, h4⟩, -⟩ := h
    refine ⟨by omega, putX_l, putM_l, fun j hj => ?_⟩
    unfold putX putM
    rw [sI_ne (Or.inl (by decide)), sI_ne (G := Jvm.Pilot.CFirstOverLaw_law_r9265_b5caf7.sI Gm 1 n v) (Or.inl (by decide))]
    by_cases e : j = n
    · subst e; rw [sI_same, sI_same]; exact ⟨rfl, hv⟩
    · rw [sI_ne (Or.inr e), sI_ne (Or.inr e)]; exact h4 j (by omega)
theorem Inv0_put4 {T : Txt} {t l : Nat} {r : Nat → Int32} {n u nx : Nat} {hi : Nat → Nat → Int32} {hb : Nat} {sl : Nat → Nat → Int32} {m : Nat} {Gx Gm : Hp} {w : Int32} (h : Inv0 T t l r n u nx hi hb sl m Gx Gm) (hn : n + 4 ≤ 2000) : Inv0 T t l r (n + 4) u nx hi hb sl m (put4X Gx n w) (put4M Gm n w) :=
  Inv0_put (Inv0_put (Inv0_put (Inv0_put h (by omega) (t8r _)) (by omega) (t8r _)) (by omega) (t8r _)) (by omega) (t8r _)
theorem step0 {Gx Gm : Hp} (hI : Inv Gx Gm) (a b c d e : Int32) : Step0 SHX SHM Inv Gx Gm a b c d e := by
  obtain ⟨T, t, l, r, n, u, nx, hi, hb, sl, m, h⟩ := hI
  have hx := h.1
  have hm := h.2.1
  obtain ⟨r1, r2, r3, r4⟩ := h.2.2.2.2.2.2.2.2.2.2.1
  unfold Step0 fX10_feed fX11_feed
  rw [xl_0_0 hx]
  simp only [Option.bind_some]
  rw [xl_1_0 hx]
  simp only [Option.bind_some]
  rw [r2, r3]
  have e20 : nI n + 20 = nI (n + 20) := nI_add n 20
  rw [e20]
  by_cases hc : n ≤ 1980
  · rw [if_pos (show nI n ≤ 1980 from nI_le (b := 1980) hc (by decide)), if_pos (show nI (n + 20) ≤ 2000 from nI_le (b := 2000) (by omega) (by decide))]
    have i1 := Inv0_put4 (w := a) h (by omega)
    have i2 := Inv0_put4 (w := b) i1 (by omega)
    have i3 := Inv0_put4 (w := c) i2 (by omega)
    have i4 := Inv0_put4 (w := d) i3 (by omega)
    have i5 := Inv0_put4 (w := e) i4 (by omega)
    rw [xput hx (by omega) r2, mput hm (by omega) r3]
    simp only [Option.bind_some]
    rw [xput i1.1 (by omega) putX_l, mput i1.2.1 (by omega) putM_l]
    simp only [Option.bind_some]
    rw [xput i2.1 (by omega) putX_l, mput i2.2.1 (by omega) putM_l]
    simp only [Option.bind_some]
    rw [xput i3.1 (by omega) putX_l, mput i3.2.1 (by omega) putM_l]
    simp only [Option.bind_some]
    rw [xput i4.1 (by omega) putX_l, mput i4.2.1 (by omega) putM_l]
    simp only [Option.bind_some]
    refine ⟨nI (n + 20), _, _, ?_, ?_, ⟨_, _, _, _, _, _, _, _, _, _, _, i5⟩⟩
    · rw [show (put4X (put4X (put4X (put4X (put4X Gx n a) (n + 4) b) (n + 4 + 4) c) (n + 4 + 4 + 4) d) (n + 4 + 4 + 4 + 4) e).1 2 0 = nI (n + 20) from putX_l]
    · rw [show (put4M (put4M (put4M (put4M (put4M Gm n a) (n + 4) b) (n + 4 + 4) c) (n + 4 + 4 + 4) d) (n + 4 + 4 + 4 + 4) e).1 0 2 = nI (n + 20) from putM_l]
  · rw [if_neg (show ¬ nI n ≤ 1980 from nI_ge (a := 1980) (by omega) (by omega)), if_neg (show ¬ nI (n + 20) ≤ 2000 from nI_ge (a := 2000) (by omega) (by omega))]
    exact ⟨-1, Gx, Gm, rfl, rfl, ⟨T, t, l, r, n, u, nx, hi, hb, sl, m, h⟩⟩
theorem step1 {Gx Gm : Hp} (hI : Inv Gx Gm) (a : Int32) : Step1 SHX SHM Inv Gx Gm a := by
  obtain ⟨T, t, l, r, n, u, nx, hi, hb, sl, m, h⟩ := hI
  have hx := h.1
  have hm := h.2.1
  obtain ⟨r1, r2, r3, r4⟩ := h.2.2.2.2.2.2.2.2.2.2.1
  unfold Step1 fX10_back fX11_back
  by_cases h0 : a < 0
  · rw [if_pos h0, if_pos h0]
    exact ⟨-1, Gx, Gm, rfl, rfl, ⟨T, t, l, r, n, u, nx, hi, hb, sl, m, h⟩⟩
  · rw [if_neg h0, if_neg h0, xl_0_0 hx]
    simp only [Option.bind_some]
    rw [xl_1_0 hx]
    simp only [Option.bind_some]
    rw [r2, r3]
    obtain ⟨j, hj, rfl⟩ := nI_of h0
    by_cases hc : j ≤ n
    · rw [if_pos (nI_le hc (by omega)), if_pos (nI_le hc (by omega))]
      have es : nI n - nI j = nI (n - j) := by
        have : nI n = nI (n - j) + nI j := by rw [nI_add]; congr 1; omega
        rw [this, Int32.add_sub_cancel]
      simp only [Option.bind_some, bd]
      rw [es]
      have hx2 : LX t (sI Gx 2 0 (nI (n - j))) := hx
      rw [xl_0_0 hx2]
      simp only [Option.bind_some]
      rw [xl_1_0 hx2]
      simp only [Option.bind_some]
      rw [sI_same, sI_same]
      refine ⟨nI (n - j), _, _, rfl, rfl, ⟨T, t, l, r, n - j, u, nx, hi, hb, sl, m, Inv0_tape h rfl rfl (fun q k hq => sI_ne (by omega)) (fun q k hq => sI_ne (by omega)) ⟨by omega, sI_same, sI_same, fun i hi => ?_⟩⟩⟩
      rw [sI_ne (Or.inl (by decide)), sI_ne (Or.inl (by decide))]
      exact r4 i (by omega)
    · rw [if_neg (nI_ge (by omega) (by omega)), if_neg (nI_ge (by omega) (by omega))]
      exact ⟨-1, Gx, Gm, rfl, rfl, ⟨T, t, l, r, n, u, nx, hi, hb, sl, m, h⟩⟩
theorem step3 {Gx Gm : Hp} (hI : Inv Gx Gm) : Step3 SHX SHM Inv Gx Gm := by
  obtain ⟨T, t, l, r, n, u, nx, hi, hb, sl, m, h⟩ := hI
  have h16 := h.2.2.2.2.2.2.2.2.2.2.2.2.2.2.2
  unfold Step3 fX10_place fX11_place
  exact ⟨_, rfl, by rw [h16], ⟨T, t, l, r, n, u, nx, hi, hb, sl, m, h⟩⟩
