/-! THE HISTORY: a thing done, undo. -/
def RHx (T : Txt) (u nx : Nat) (hi : Nat → Nat → Int32) (G : Hp) : Prop := u ≤ 40 ∧ nx < 40 ∧ G.1 66 0 = nI u ∧ G.1 66 1 = nI nx ∧ ∀ j, j < u → WFG T (hi j) ∧ XG T (hq nx u j) (hi j) G
def RHm (u : Nat) (hi : Nat → Nat → Int32) (G : Hp) : Prop := G.1 0 64 = nI u ∧ ∀ j, j < u → ∀ k, k < 26 → G.1 43 (26 * j + k) = hi j k
theorem RH_x {T : Txt} {u nx : Nat} {hi : Nat → Nat → Int32} {Gx Gm : Hp} (h : RH T u nx hi Gx Gm) : RHx T u nx hi Gx := ⟨h.1, h.2.1, h.2.2.1, h.2.2.2.1, fun j hj => ⟨(h.2.2.2.2.2 j hj).1, (h.2.2.2.2.2 j hj).2.1⟩⟩
theorem RH_m {T : Txt} {u nx : Nat} {hi : Nat → Nat → Int32} {Gx Gm : Hp} (h : RH T u nx hi Gx Gm) : RHm u hi Gm := ⟨h.2.2.2.2.1, fun j hj => (h.2.2.2.2.2 j hj).2.2⟩
theorem RH_mk {T : Txt} {u nx : Nat} {hi : Nat → Nat → Int32} {Gx Gm : Hp} (h : RHx T u nx hi Gx) (h2 : RHm u hi Gm) : RH T u nx hi Gx Gm := ⟨h.1, h.2.1, h.2.2.1, h.2.2.2.1, h2.1, fun j hj => ⟨(h.2.2.2.2 j hj).1, (h.2.2.2.2 j hj).2, h2.2 j hj⟩⟩
def un (u : Nat) : Nat := if u = 40 then 40 else u + 1
def hin (u : Nat) (hi : Nat → Nat → Int32) (r : Nat → Int32) (j : Nat) : Nat → Int32 := if u = 40 then (if j < 39 then hi (j + 1) else r) else (if j < u then hi j else r)
theorem xKeep {t u nx : Nat} {T : Txt} {hi : Nat → Nat → Int32} {r : Nat → Int32} {G : Hp} (hx : LX t G) (hW : WFT T) (hr : WFG T r) (hG : XG T 53 r G) (h : RHx T u nx hi G) : ∃ G2, fX2_keep SHX G 66 53 = some G2 ∧ G2.2 = G.2 ∧ (∀ q k, ¬ (66 ≤ q ∧ q ≤ 267) → G2.1 q k = G.1 q k) ∧ RHx T (un u) ((nx + 1) % 40) (hin u hi r) G2 := by
  obtain ⟨h1, h2, h3, h4, h5⟩ := h
  unfold fX2_keep
  rw [xl_66_2 hx]
  simp only [Option.bind_some]
  rw [h4, aR_n (by rw [xnn_67]; exact h2) (by omega), xl_67 h2 hx]
  simp only [Option.bind_some]
  obtain ⟨G1, c1, c2, c3⟩ := xCopyG hx hW (g := 68 + 5 * nx) (Or.inr (Or.inr (Or.inr (Or.inr (Or.inr (Or.inr ⟨nx, h2, rfl⟩)))))) (Or.inl rfl) (by omega) hG
  rw [c1]
  simp only [Option.bind_some, bd]
  have e1 : G1.1 66 1 = nI nx := (c2.2 66 1 (by omega)).trans h4
  have e0 : G1.1 66 0 = nI u := (c2.2 66 0 (by omega)).trans h3
  have key : ∀ v w : Int32, v = nI ((nx + 1) % 40) → w = nI (un u) → RHx T (un u) ((nx + 1) % 40) (hin u hi r) (sI (sI G1 66 1 v) 66 0 w) := by
    intro v w ev ew
    refine ⟨by unfold un; split <;> omega, Nat.mod_lt _ (by decide), by rw [sI_same, ew], by rw [sI_ne (by omega), sI_same, ev], fun j hj => ?_⟩
    have fr : ∀ q k, 68 ≤ q → (sI (sI G1 66 1 v) 66 0 w).1 q k = G1.1 q k := fun q k hq => by rw [sI_ne (by omega), sI_ne (by omega)]
    unfold un at hj
    by_cases e40 : u = 40
    · subst e40
      simp only [if_true] at hj
      unfold hin
      simp only [if_true]
      by_cases h39 : j < 39
      · simp only [if_pos h39]
        obtain ⟨a, b⟩ := h5 (j + 1) (by omega)
        refine ⟨a, ?_⟩
        have eq : hq ((nx + 1) % 40) (un 40) j = hq nx 40 (j + 1) := by unfold hq un; simp only [if_true]; omega
        rw [eq]
        have hr2 := hq_rng (nx := nx) (u := 40) (j := j + 1)
        refine XG_fr b (fun q k x y => ?_)
        rw [fr q k (by omega)]
        refine c2.2 q k ?_
        unfold hq at x y
        omega
      · simp only [if_neg h39]
        refine ⟨hr, ?_⟩
        have eq : hq ((nx + 1) % 40) (un 40) j = 68 + 5 * nx := by unfold hq un; simp only [if_true]; omega
        rw [eq]
        exact XG_fr c3 (fun q k x y => fr q k (by omega))
    · simp only [if_neg e40] at hj
      unfold hin
      simp only [if_neg e40]
      by_cases hju : j < u
      · simp only [if_pos hju]
        obtain ⟨a, b⟩ := h5 j hju
        refine ⟨a, ?_⟩
        have eq : hq ((nx + 1) % 40) (un u) j = hq nx u j := by unfold hq un; simp only [if_neg e40]; omega
        rw [eq]
        have hr2 := hq_rng (nx := nx) (u := u) (j := j)
        refine XG_fr b (fun q k x y => ?_)
        rw [fr q k (by omega)]
        refine c2.2 q k ?_
        unfold hq at x y
        omega
      · simp only [if_neg hju]
        refine ⟨hr, ?_⟩
        have eq : hq ((nx + 1) % 40) (un u) j = 68 + 5 * nx := by unfold hq un; simp only [if_neg e40]; omega
        rw [eq]
        exact XG_fr c3 (fun q k x y => fr q k (by omega))
  have ew : imin 40 (nI u + 1) = nI (un u) := by
    unfold imin un
    rw [nI_1]
    by_cases e40 : u = 40
    · subst e40; decide
    · rw [if_neg e40]
      by_cases e39 : u = 39
      · subst e39; decide
      · rw [if_pos (show nI (u + 1) < 40 from nI_lt (b := 40) (by omega) (by decide))]
  rw [e1, nI_1]
  by_cases h39 : nx = 39
  · subst h39
    rw [if_pos (show (40 : Int32) ≤ nI (39 + 1) by decide)]
    rw [show (sI G1 66 1 0).1 66 0 = nI u by rw [sI_ne (by omega), e0], ew]
    exact ⟨_, rfl, c2.1, fun q k hq => by rw [sI_ne (by omega), sI_ne (by omega)]; exact c2.2 q k (by omega), key _ _ rfl rfl⟩
  · rw [if_neg (show ¬ (40 : Int32) ≤ nI (nx + 1) from nI_ge (b := 40) (by omega) (by decide))]
    rw [show (sI G1 66 1 (nI (nx + 1))).1 66 0 = nI u by rw [sI_ne (by omega), e0], ew]
    exact ⟨_, rfl, c2.1, fun q k hq => by rw [sI_ne (by omega), sI_ne (by omega)]; exact c2.2 q k (by omega), key _ _ (by rw [Nat.mod_eq_of_lt (by omega)]) rfl⟩
theorem mKeepsRow {r : Nat → Int32} {G : Hp} (hL : LM G) (hR : MR r G) : ∃ G2, fX11_keepsRow SHM G 0 = some G2 ∧ ER 39 0 26 G G2 ∧ ∀ k, k < 26 → G2.1 39 k = r k := by
  unfold fX11_keepsRow
  obtain ⟨G2, d1, d2, d3⟩ := mcopy (f := fun s : Hp × Int32 => fX11_keepsRow_S2 SHM 0 s.1 s.2) (G := G) 26 40 39 0 0 (by decide) (fun _ _ _ _ => by omega) (fun G1 k hk hE => by
    have hL1 : LM G1 := hL.same (by rw [hE.1])
    unfold fX11_keepsRow_S2
    rw [if_neg (show ¬ (26 : Int32) ≤ nI k from nI_ge (b := 26) hk (by decide)), ml_59 hL1, ml_58 hL1]
    simp only [Option.bind_some]
    rw [m40 hk]
    simp only [Option.bind_some]
    rw [asI_n (by rw [mn_39]; omega) (by omega)]
    simp only [Option.bind_some, bd, Nat.zero_add]) (fun G1 => by
    unfold fX11_keepsRow_S2
    rw [if_pos (show (26 : Int32) ≤ nI 26 by decide)])
  rw [d1]
  simp only [Option.bind_some, bd]
  refine ⟨G2, rfl, d2, fun k hk => ?_⟩
  have := d3 k hk
  rw [Nat.zero_add] at this
  rw [this]; exact hR k hk
theorem n26 {a b : Nat} : (26 : Int32) * nI a + nI b = nI (26 * a + b) := by rw [← nI_add, ← pk_mul]; rfl
/-- the reference's thing done: what was goes into the history, the row is now -/
theorem mRecords {u : Nat} {hi : Nat → Nat → Int32} {r0 r : Nat → Int32} {G : Hp} (hL : LM G) (hu : u ≤ 40) (hm : RHm u hi G) (hR : MR r G) (h0 : ∀ k, k < 26 → G.1 39 k = r0 k) : ∃ G2, fX11_records SHM G 0 = some G2 ∧ G2.2 = G.2 ∧ (∀ q k, ¬ (q = 39 ∨ q = 43 ∨ (q = 0 ∧ k = 64)) → G2.1 q k = G.1 q k) ∧ RHm (un u) (hin u hi r0) G2 ∧ ∀ k, k < 26 → G2.1 39 k = r k := by
  have part : ∀ (v : Nat) (hj : Nat → Nat → Int32) (G : Hp), LM G → v < 40 → RHm v hj G → MR r G → (∀ k, k < 26 → G.1 39 k = r0 k) → ∃ G2, fX11_records_J49 SHM G 0 = some G2 ∧ G2.2 = G.2 ∧ (∀ q k, ¬ (q = 39 ∨ q = 43 ∨ (q = 0 ∧ k = 64)) → G2.1 q k = G.1 q k) ∧ RHm (v + 1) (fun j => if j < v then hj j else r0) G2 ∧ ∀ k, k < 26 → G2.1 39 k = r k := by
    intro v hj G hL hv hm hR h0
    unfold fX11_records_J49
    obtain ⟨G1, d1, d2, d3⟩ := mcopy (f := fun s : Hp × Int32 => fX11_records_S51 SHM 0 s.1 s.2) (G := G) 26 39 43 0 (26 * v) (by decide) (fun _ _ _ _ => by omega) (fun G1 k hk hE => by
      have hL1 : LM G1 := hL.same (by rw [hE.1])
      unfold fX11_records_S51
      rw [if_neg (show ¬ (26 : Int32) ≤ nI k from nI_ge (b := 26) hk (by decide)), ml_65 hL1, ml_58 hL1]
      simp only [Option.bind_some]
      rw [aI_n (by rw [mn_39]; exact hk) (by omega), hE.2 0 64 (by omega), hm.1, n26]
      simp only [Option.bind_some]
      rw [asI_n (by rw [mn_43]; omega) (by omega)]
      simp only [Option.bind_some, bd, Nat.zero_add]) (fun G1 => by
      unfold fX11_records_S51
      rw [if_pos (show (26 : Int32) ≤ nI 26 by decide)])
    rw [d1]
    simp only [Option.bind_some, bd]
    have e64 : G1.1 0 64 = nI v := (d2.2 0 64 (by omega)).trans hm.1
    have hL2 : LM (sI G1 0 64 (G1.1 0 64 + 1)) := hL.same (show (sI G1 0 64 (G1.1 0 64 + 1)).2.2 = G.2.2 from congrArg Prod.snd d2.1)
    obtain ⟨G2, f1, f2, f3⟩ := mKeepsRow hL2 (show MR r (sI G1 0 64 (G1.1 0 64 + 1)) from fun k hk => by rw [sI_ne (by omega), d2.2 40 k (by omega)]; exact hR k hk)
    rw [f1]
    refine ⟨G2, rfl, f2.1.trans d2.1, fun q k hq => ?_, ⟨?_, fun j hj2 k hk => ?_⟩, f3⟩
    · rw [f2.2 q k (by omega), sI_ne (by omega), d2.2 q k (by omega)]
    · rw [f2.2 0 64 (by omega), sI_same, e64, nI_1]
    · rw [f2.2 43 _ (by omega), sI_ne (by omega)]
      by_cases e : j < v
      · simp only [if_pos e]; rw [d2.2 43 _ (by omega)]; exact hm.2 j e k hk
      · simp only [if_neg e]
        have ej : j = v := by omega
        subst ej
        have := d3 k hk
        rw [Nat.zero_add] at this
        rw [this]; exact h0 k hk
  unfold fX11_records
  rw [hm.1]
  by_cases e40 : u = 40
  · subst e40
    rw [if_pos (show nI 40 = 40 from rfl)]
    obtain ⟨G1, d1, d2, d3⟩ := mcopy (f := fun s : Hp × Int32 => fX11_records_S11 SHM 0 s.1 s.2) (G := G) 1014 43 43 26 0 (by decide) (fun _ _ _ _ => by omega) (fun G1 k hk hE => by
      have hL1 : LM G1 := hL.same (by rw [hE.1])
      unfold fX11_records_S11
      rw [if_neg (show ¬ (1014 : Int32) ≤ nI k from nI_ge (b := 1014) hk (by decide)), ml_65 hL1]
      simp only [Option.bind_some]
      rw [show nI k + 26 = nI (26 + k) by rw [Nat.add_comm, ← nI_add]; rfl, aI_n (by rw [mn_43]; omega) (by omega)]
      simp only [Option.bind_some]
      rw [asI_n (by rw [mn_43]; omega) (by omega)]
      simp only [Option.bind_some, bd, Nat.zero_add]) (fun G1 => by
      unfold fX11_records_S11
      rw [if_pos (show (1014 : Int32) ≤ nI 1014 by decide)])
    rw [d1]
    simp only [Option.bind_some, bd]
    have e64 : G1.1 0 64 = nI 40 := (d2.2 0 64 (by omega)).trans hm.1
    rw [e64, show nI 40 - 1 = nI 39 from rfl]
    obtain ⟨G2, f1, f2, f3, f4, f5⟩ := part 39 (fun j => hi (j + 1)) (sI G1 0 64 (nI 39)) (hL.same (show (sI G1 0 64 (nI 39)).2.2 = G.2.2 from congrArg Prod.snd d2.1)) (by decide) ⟨sI_same, fun j hj k hk => by
      rw [sI_ne (by omega)]
      have := d3 (26 * j + k) (by omega)
      rw [Nat.zero_add] at this
      rw [this, show 26 + (26 * j + k) = 26 * (j + 1) + k by omega]
      exact hm.2 (j + 1) (by omega) k hk⟩ (fun k hk => by rw [sI_ne (by omega), d2.2 40 k (by omega)]; exact hR k hk) (fun k hk => by rw [sI_ne (by omega), d2.2 39 k (by omega)]; exact h0 k hk)
    refine ⟨G2, f1, f2.trans d2.1, fun q k hq => ?_, ?_, f5⟩
    · rw [f3 q k hq, sI_ne (by omega), d2.2 q k (by omega)]
    · refine ⟨f4.1, fun j hj k hk => ?_⟩
      rw [f4.2 j hj k hk]
      unfold hin; simp only [if_true]
  · rw [if_neg (show ¬ nI u = 40 from fun q => e40 ((nI_eq (b := 40) (by omega) (by decide)).mp q))]
    obtain ⟨G2, f1, f2, f3, f4, f5⟩ := part u hi G hL (by omega) hm hR h0
    refine ⟨G2, f1, f2, f3, ?_, f5⟩
    have eu : un u = u + 1 := by unfold un; rw [if_neg e40]
    rw [eu]
    refine ⟨f4.1, fun j hj k hk => ?_⟩
    rw [f4.2 j hj k hk]
    unfold hin; simp only [if_neg e40]
