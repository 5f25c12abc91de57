/-! undo; a thing done; send. -/
theorem step14 {Gx Gm : Hp} (hI : Inv Gx Gm) : Step14 SHX SHM Inv Gx Gm := by
  have hI0 := hI
  obtain ⟨T, t, l, r, n, u, nx, hi, hb, sl, m, h⟩ := hI
  obtain ⟨h1, h2, h3, h4, h5, h6, h7, h8, h9, h10, h11, h12, h13, h14, h15, h16⟩ := h
  obtain ⟨b1, b2', b3, b4, b5, b6⟩ := h12
  unfold Step14 fX10_undo fX11_undo fX2_giveBack
  rw [xl_0_5 h1, xl_0_3 h1]
  simp only [bp, Option.bind_some]
  rw [b3, b5]
  cases u with
  | zero =>
    rw [if_neg (show ¬ (0 : Int32) < nI 0 by decide), if_pos (show nI 0 = 0 from rfl)]
    exact ⟨0, Gx, Gm, rfl, rfl, hI0⟩
  | succ v =>
    rw [if_pos (show (0 : Int32) < nI (v + 1) from nI_lt (a := 0) (by omega) (by omega)), if_neg (nI_ne0 (by omega) (by omega))]
    simp only [bd, nI_pred]
    obtain ⟨w1, w2, w3⟩ := b6 v (by omega)
    obtain ⟨G2, d1, d2, d3⟩ := mcopy (f := fun s : Hp × Int32 => fX11_undo_S21 SHM 0 s.1 s.2) (G := sI Gm 0 64 (nI v)) 26 43 39 (26 * v) 0 (by decide) (fun _ _ _ _ => by omega) (fun G1 k hk hE => by
      have hL1 : LM G1 := h2.same (show G1.2.2 = Gm.2.2 by rw [hE.1]; rfl)
      unfold fX11_undo_S21
      rw [if_neg (show ¬ (26 : Int32) ≤ nI k from nI_ge (b := 26) hk (by decide)), ml_65 hL1, ml_58 hL1]
      simp only [Option.bind_some]
      rw [hE.2 0 64 (by omega), sI_same, n26, aI_n (by rw [mn_43]; omega) (by omega)]
      simp only [Option.bind_some]
      rw [asI_n (by rw [mn_39]; omega) (by omega)]
      simp only [Option.bind_some, bd, Nat.zero_add]) (fun G1 => by
      unfold fX11_undo_S21
      rw [if_pos (show (26 : Int32) ≤ nI 26 by decide)])
    rw [d1]
    simp only [Option.bind_some]
    -- the class: the same for both ways of going back
    have key : ∀ w : Int32, w = nI ((nx + 39) % 40) → ∃ G8, fX1_copyFrom SHX (sI (sI Gx 66 0 (nI v)) 66 1 w) 53 (68 + 5 * ((nx + 39) % 40)) = some G8 ∧ Inv G8 G2 := by
      intro w ew
      have hx4 : LX t (sI (sI Gx 66 0 (nI v)) 66 1 w) := h1
      have eh : hq nx (v + 1) v = 68 + 5 * ((nx + 39) % 40) := by unfold hq; omega
      rw [eh] at w2
      obtain ⟨G8, c1, c2, c3⟩ := xCopyG hx4 h5 (Or.inl rfl) (Or.inr (Or.inr (Or.inr (Or.inr (Or.inr (Or.inr ⟨(nx + 39) % 40, Nat.mod_lt _ (by decide), rfl⟩)))))) (by omega) (XG_fr w2 (fun q k x y => by rw [sI_ne (by omega), sI_ne (by omega)]))
      refine ⟨G8, c1, ?_⟩
      have X : ∀ q k, ¬ (53 ≤ q ∧ q ≤ 57) → ¬ (q = 66) → G8.1 q k = Gx.1 q k := fun q k q1 q2 => by rw [c2.2 q k q1, sI_ne (by omega), sI_ne (by omega)]
      have Y : ∀ q k, q ≠ 39 → ¬ (q = 0 ∧ k = 64) → G2.1 q k = Gm.1 q k := fun q k q1 q2 => by rw [d2.2 q k (by omega), sI_ne (by omega)]
      have ex : G8.2 = Gx.2 := c2.1
      have em : G2.2 = Gm.2 := d2.1
      refine ⟨T, t, l, hi v, n, v, (nx + 39) % 40, hi, hb, sl, m, h1.same (by rw [ex]), h2.same (by rw [em]), h3, (Y _ _ (by decide) (by omega)).trans h4, h5, XT_fr h6 (fun q k a b c d => X q k (by rcases h1.1 with rfl | rfl <;> omega) (by rcases h1.1 with rfl | rfl <;> omega)) (by rw [ex]), MT_fr h7 (fun q k a b => Y q k (by omega) (by omega)), w1, c3, fun k hk => ?_, RT_fr h11 (X _ _ (by omega) (by omega)) (Y _ _ (by decide) (by omega)) (fun j => X _ _ (by omega) (by omega)) (fun j => Y _ _ (by decide) (by omega)), ⟨by omega, Nat.mod_lt _ (by decide), ?_, ?_, ?_, fun j hj => ?_⟩, RS_fr h13 (X _ _ (by omega) (by omega)) (fun q k a b => X q k (by omega) (by omega)) (fun j => Y _ _ (by decide) (by omega)) (fun j => Y _ _ (by decide) (by omega)), RO_fr h14 (X _ _ (by omega) (by omega)) (fun q k a => X q k (by omega) (by omega)) (Y _ _ (by decide) (by omega)) (fun q k a => Y q k (by omega) (by omega)), ?_, ?_⟩
      · have := d3 k hk
        rw [Nat.zero_add, sI_ne (by omega)] at this
        rw [this]; exact w3 k hk
      · rw [c2.2 66 0 (by omega), sI_ne (by omega), sI_same]
      · rw [c2.2 66 1 (by omega), sI_same, ew]
      · rw [d2.2 0 64 (by omega), sI_same]
      · obtain ⟨y1, y2, y3⟩ := b6 j (by omega)
        have eq : hq ((nx + 39) % 40) v j = hq nx (v + 1) j := by unfold hq; omega
        rw [eq]
        have hr2 := hq_rng (nx := nx) (u := v + 1) (j := j)
        exact ⟨y1, XG_fr y2 (fun q k x y => X q k (by omega) (by omega)), fun k hk => by rw [Y 43 _ (by decide) (by omega)]; exact y3 k hk⟩
      · intro k hk; rw [ex, em]; exact h15 k hk
      · rw [X 0 1 (by omega) (by omega), Y 0 17 (by decide) (by omega)]; exact h16
    have e661 : (sI Gx 66 0 (nI v)).1 66 1 = nI nx := by rw [sI_ne (by omega), b4]
    rw [e661]
    by_cases hnx : nx = 0
    · subst hnx
      rw [if_pos (show nI 0 ≤ 0 by decide)]
      obtain ⟨G8, k1, k2⟩ := key 39 rfl
      have hx4 : LX t (sI (sI Gx 66 0 (nI v)) 66 1 39) := h1
      rw [xl_66_2 hx4]
      simp only [Option.bind_some]
      rw [sI_same, show (39 : Int32) = nI 39 from rfl, aR_n (by rw [xnn_67]; decide) (by decide)]
      rw [show (nI 39) = (39 : Int32) from rfl, xl_67 (by decide) hx4]
      simp only [Option.bind_some]
      rw [show 68 + 5 * 39 = 68 + 5 * ((0 + 39) % 40) from rfl, k1]
      exact ⟨1, G8, G2, rfl, rfl, k2⟩
    · obtain ⟨nx, rfl⟩ : ∃ k, nx = k + 1 := ⟨nx - 1, by omega⟩
      rw [if_neg (show ¬ nI (nx + 1) ≤ 0 from nI_nle (by omega) (by omega)), nI_pred]
      obtain ⟨G8, k1, k2⟩ := key (nI nx) (by congr 1; omega)
      have hx4 : LX t (sI (sI Gx 66 0 (nI v)) 66 1 (nI nx)) := h1
      rw [xl_66_2 hx4]
      simp only [Option.bind_some]
      rw [sI_same, aR_n (by rw [xnn_67]; omega) (by omega), xl_67 (by omega) hx4]
      simp only [Option.bind_some]
      rw [show 68 + 5 * nx = 68 + 5 * ((nx + 1 + 39) % 40) by omega, k1]
      exact ⟨1, G8, G2, rfl, rfl, k2⟩
/-- a thing done, on both sides -/
theorem Inv0_do {T : Txt} {t l : Nat} {r r2 : Nat → Int32} {n u nx : Nat} {hi : Nat → Nat → Int32} {hb : Nat} {sl : Nat → Nat → Int32} {m : Nat} {Gx Gm Gx1 Gx2 Gm1 Gm2 : Hp} (h : Inv0 T t l r n u nx hi hb sl m Gx Gm)
    (k1 : Gx1.2 = Gx.2) (k2 : ∀ q k, ¬ (66 ≤ q ∧ q ≤ 267) → Gx1.1 q k = Gx.1 q k) (k3 : RHx T (un u) ((nx + 1) % 40) (hin u hi r) Gx1)
    (x1 : Gx2.2 = Gx1.2) (x2 : ∀ q k, ¬ (53 ≤ q ∧ q ≤ 57) → ¬ scrX q k → Gx2.1 q k = Gx1.1 q k) (x3 : XG T 53 r2 Gx2) (w : WFG T r2)
    (m1 : EssM Gm Gm1) (m2 : Gm2.2 = Gm1.2) (m3 : ∀ q k, ¬ (q = 39 ∨ q = 43 ∨ (q = 0 ∧ k = 64)) → Gm2.1 q k = Gm1.1 q k) (m4 : RHm (un u) (hin u hi r) Gm2) (m5 : ∀ k, k < 26 → Gm2.1 39 k = r2 k) : Inv Gx2 Gm2 := by
  obtain ⟨h1, h2, h3, h4, h5, h6, h7, h8, h9, h10, h11, h12, h13, h14, h15, h16⟩ := h
  have ex : Gx2.2 = Gx.2 := x1.trans k1
  have em : Gm2.2 = Gm.2 := m2.trans m1.1
  have X : ∀ q k, ¬ (53 ≤ q ∧ q ≤ 57) → ¬ (66 ≤ q ∧ q ≤ 267) → ¬ scrX q k → Gx2.1 q k = Gx.1 q k := fun q k a b c => (x2 q k a c).trans (k2 q k b)
  have Y : ∀ q k, ¬ (q = 39 ∨ q = 43 ∨ (q = 0 ∧ k = 64)) → ¬ scrM q k → Gm2.1 q k = Gm.1 q k := fun q k a c => (m3 q k a).trans (m1.2 q k c)
  refine ⟨T, t, l, r2, n, un u, (nx + 1) % 40, hin u hi r, hb, sl, m, h1.same (by rw [ex]), h2.same (by rw [em]), h3, (Y _ _ (by omega) (by unfold scrM; omega)).trans h4, h5, XT_fr h6 (fun q k a b c d => X q k (by rcases h1.1 with rfl | rfl <;> omega) (by rcases h1.1 with rfl | rfl <;> omega) (by unfold scrX; rcases h1.1 with rfl | rfl <;> omega)) (by rw [ex]), MT_fr h7 (fun q k a b => Y q k (by omega) (by unfold scrM; omega)), w, x3, m5, RT_fr h11 (X _ _ (by omega) (by omega) (by unfold scrX; omega)) (Y _ _ (by omega) (by unfold scrM; omega)) (fun j => X _ _ (by omega) (by omega) (by unfold scrX; omega)) (fun j => Y _ _ (by omega) (by unfold scrM; omega)), RH_mk ⟨k3.1, k3.2.1, (x2 _ _ (by omega) (by unfold scrX; omega)).trans k3.2.2.1, (x2 _ _ (by omega) (by unfold scrX; omega)).trans k3.2.2.2.1, fun j hj => ⟨(k3.2.2.2.2 j hj).1, XG_fr (k3.2.2.2.2 j hj).2 (fun q k a b => x2 q k ?_ ?_)⟩⟩ m4, RS_fr h13 (X _ _ (by omega) (by omega) (by unfold scrX; omega)) (fun q k a b => X q k (by omega) (by omega) (by unfold scrX; omega)) (fun j => Y _ _ (by omega) (by unfold scrM; omega)) (fun j => Y _ _ (by omega) (by unfold scrM; omega)), RO_fr h14 (X _ _ (by omega) (by omega) (by unfold scrX; omega)) (fun q k a => X q k (by omega) (by omega) (by unfold scrX; omega)) (Y _ _ (by omega) (by unfold scrM; omega)) (fun q k a => Y q k (by omega) (by unfold scrM; omega)), ?_, ?_⟩
  · have hr2 := hq_rng (nx := (nx + 1) % 40) (u := un u) (j := j); omega
  · have hr2 := hq_rng (nx := (nx + 1) % 40) (u := un u) (j := j); unfold scrX; omega
  · intro k hk; rw [ex, em]; exact h15 k hk
  · rw [X 0 1 (by omega) (by omega) (by unfold scrX; omega), Y 0 17 (by omega) (by unfold scrM; omega)]; exact h16
