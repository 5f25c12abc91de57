/-! CLAUSES, read: behind an operand. -/
section KBs
variable {l p c0 dp : Nat} {D : TKd} {N : Nat × Nat} {NM : List (List Nat × Bool)} {S X C : List Nat} {G : Hp}
theorem kS152_no (hD : TKo D) (h : MPs l D p N G) (hn : ¬ (D.1 p = 7 ∧ 0 < dp)) (hd : dp ≤ 7) : kS152 (G, nI dp) = some (.inr (G, nI dp)) := by
  show fX11_tellClause_S152 SHM 0 G (nI dp) = _
  unfold fX11_tellClause_S152
  rw [mIs (k := 7) (w := 7) hD h rfl (by decide)]
  simp only [ob]
  by_cases e : D.1 p = 7
  · rw [decide_eq_true e, if_neg (show ¬ b2 true = 0 by decide), if_pos (by rw [show dp = 0 by omega]; decide)]
  · rw [decide_eq_false e, if_pos (show b2 false = 0 from rfl)]
theorem kS152_y {n : Nat} (hD : TKo D) (h : CC l D p N NM c0 (X ++ 6 :: (List.replicate n 28 ++ S)) C G) (hX : ∀ x ∈ X, x = 27 ∨ x = 26) (hl : l ≤ 1) (hk : D.1 p = 7) (hd : dp ≤ 7) : ∃ G5, kS152 (G, nI (dp + 1)) = ((fX11_goesOn SHM G5 0).bind fun G7 => (fX11_notsCome SHM G7 0).bind fun G9 => some G9).bind (fun G6 => some (.inl (G6, nI dp))) ∧ EQc c0 G G5 ∧ MPs l D p N G5 ∧ SWd c0 (List.replicate n 28 ++ S) (C ++ X.map wc) G5 := by
  obtain ⟨h1, h2, h3, h4, h5, h6⟩ := h
  have hb := h1.2.2.1
  have hlen : (X ++ 6 :: (List.replicate n 28 ++ S)).length = X.length + (n + S.length + 1) := by rw [List.length_append, List.length_cons, List.length_append, List.length_replicate]
  rw [hlen] at h4 h6
  obtain ⟨G4, a1, a2, a3⟩ := mCloseW h1.1 h3 hX (fun y hy => h5 y (List.mem_append_right _ (List.mem_cons_of_mem _ hy))) (by rw [hlen]; omega) (by omega)
  have m4 := a1.mp h1
  refine ⟨sI G4 0 52 (nI (List.replicate n 28 ++ S).length), ?_, a1.q.tr (EQc.s (by omega)), m4.E rfl rfl (fun q j hq => sI_ne (by omega)) (fun j hj => sI_ne (by omega)), sI_same, SK_fr _ a2.2.1.2 (fun j _ => sI_ne (by omega)), (sI_ne (by omega)).trans a2.2.2.1, CQ_fr a2.2.2.2 (fun j => sI_ne (by omega))⟩
  show fX11_tellClause_S152 SHM 0 G (nI (dp + 1)) = _
  unfold fX11_tellClause_S152
  rw [mIs (k := 7) (w := 7) hD h1 rfl (by decide), decide_eq_true hk]
  simp only [ob, obd]
  rw [if_neg (show ¬ b2 true = 0 by decide), if_neg (show ¬ nI (dp + 1) ≤ 0 from nI_ge (a := 0) (by omega) (by omega)), a3, nI_p1m1]
theorem KB_close {n : Nat} (hD : TKo D) (h : CC l D p N NM c0 (X ++ 6 :: (List.replicate n 28 ++ S)) C G) (hX : ∀ x ∈ X, x = 27 ∨ x = 26) (ht : tp (fun y => decide (y = 28)) S = false) (hl : l ≤ 1) (hk : D.1 p = 7) (hd : dp ≤ 7) (hp : p < 400) : ∃ G2, EQc c0 G G2 ∧ CC l D (p + 1) N NM c0 S (C ++ X.map wc ++ List.replicate n 8) G2 ∧ ∀ r, KB (p + 1) G2 dp r → KB p G (dp + 1) r := by
  obtain ⟨G5, b1, b2', b3, b4⟩ := kS152_y hD h hX hl hk hd
  obtain ⟨h1, h2, h3, h4, h5, h6⟩ := h
  have hb := h1.2.2.1
  have hlen : (X ++ 6 :: (List.replicate n 28 ++ S)).length = X.length + (n + S.length + 1) := by rw [List.length_append, List.length_cons, List.length_append, List.length_replicate]
  rw [hlen] at h4 h6
  have hS : ∀ y ∈ S, y < 100 := fun y hy => h5 y (List.mem_append_right _ (List.mem_cons_of_mem _ (List.mem_append_right _ hy)))
  obtain ⟨G7, a1, a2, a3, a4⟩ := mGoes_y hD b3 (by rw [hk]; decide) hp
  have s7 : SWd c0 (List.replicate n 28 ++ S) (C ++ X.map wc) G7 := b4.E (a2.2 0 52 (by omega)) (a2.2 0 36 (by omega)) (fun q j hq => a2.2 q j (by omega))
  obtain ⟨G9, c1, c2', c3⟩ := mNots a3.1 s7 ht hS (by omega) (by rw [List.length_append, List.length_map]; omega)
  rw [a1] at b1
  simp only [ob] at b1
  rw [c1] at b1
  simp only [ob] at b1
  have e9 : EQc c0 G G9 := b2'.tr (a2.q.tr c2'.q)
  refine ⟨G9, e9, ⟨c2'.mp a3, e9.nm h2, c3, ?_, hS, by omega⟩, ?_⟩
  · rw [List.length_append, List.length_append, List.length_map, List.length_replicate]; omega
  · rintro r ⟨m, o, r1, r2, r3⟩
    refine ⟨m + 1, o, by omega, ?_, kfn_mono r3 (by omega)⟩
    unfold kB2
    rw [iter_in b1]
    exact r2
theorem kJ175_f {f i : Nat} {d : Int32} (h : MF l D f i G) : fX11_tellClause_J175L9 SHM G 0 d = some (.inr (.inr (.inr (.inr G)))) := by
  unfold fX11_tellClause_J175L9 fX11_tellClause_J198L9 fX11_tellClause_J212L9
  rw [mIs_f h, mIs_f h, mFail_f h]
  simp only [ob]
  rw [if_pos trivial, if_pos trivial, if_pos trivial, if_neg h.pos.1]
  simp
theorem KB_close_f {n : Nat} (hD : TKo D) (h : CC l D p N NM c0 (X ++ 6 :: (List.replicate n 28 ++ S)) C G) (hX : ∀ x ∈ X, x = 27 ∨ x = 26) (ht : tp (fun y => decide (y = 28)) S = false) (hl : l ≤ 1) (hk : D.1 p = 7) (hd : dp ≤ 7) (hp : ¬ p < 400) : ∃ r, EQc c0 G r ∧ MF l D 2 p r ∧ KB p G (dp + 1) r := by
  obtain ⟨G5, b1, b2', b3, b4⟩ := kS152_y hD h hX hl hk hd
  obtain ⟨h1, h2, h3, h4, h5, h6⟩ := h
  have hb := h1.2.2.1
  have hlen : (X ++ 6 :: (List.replicate n 28 ++ S)).length = X.length + (n + S.length + 1) := by rw [List.length_append, List.length_cons, List.length_append, List.length_replicate]
  rw [hlen] at h4 h6
  have hS : ∀ y ∈ S, y < 100 := fun y hy => h5 y (List.mem_append_right _ (List.mem_cons_of_mem _ (List.mem_append_right _ hy)))
  obtain ⟨G7, a1, a2, a3⟩ := mGoes_n b3 hp
  have s7 : SWd c0 (List.replicate n 28 ++ S) (C ++ X.map wc) G7 := b4.E (a2.2 0 52 (by omega)) (a2.2 0 36 (by omega)) (fun q j hq => a2.2 q j (by omega))
  obtain ⟨G9, c1, c2', c3⟩ := mNots a3.1 s7 ht hS (by omega) (by rw [List.length_append, List.length_map]; omega)
  rw [a1] at b1
  simp only [ob] at b1
  rw [c1] at b1
  simp only [ob] at b1
  have m9 := c2'.mf a3
  refine ⟨G9, b2'.tr (a2.q.tr c2'.q), m9, 2, .inr (.inr (.inr (.inr G9))), by omega, ?_, rfl⟩
  have hb2 : kS152 (G9, nI dp) = some (.inr (G9, nI dp)) := by
    show fX11_tellClause_S152 SHM 0 G9 (nI dp) = _
    unfold fX11_tellClause_S152
    rw [mIs_f m9]
    simp only [ob]
    rw [if_pos trivial]
  unfold kB2
  rw [iter_in b1, iter_out hb2]
  exact kJ175_f m9
/-- which words come out ahead of a token -/
def outs (k : Nat) (y : Nat) : Bool := if k = 27 then decide (y = 27) else (decide (y = 27) || decide (y = 26))
theorem mS220 {d a : Int32} (hD : TKo D) (h : MPs l D p N G) (hs : SWd c0 (X ++ S) C G) (hX : ∀ x ∈ X, (x = 27 ∨ x = 26) ∧ outs (D.1 p) x = true) (ht : tp (outs (D.1 p)) S = false) (hS : ∀ y ∈ S, y < 100) (hlen : (X ++ S).length ≤ 80) (hc : c0 < 840 ∧ c0 + C.length + X.length ≤ 420 * (c0 / 420 + 1)) : ∃ G2, iter (fun s : Hp => fX11_tellClause_S220 SHM 0 d a s) fuel G = some G2 ∧ EWd c0 G G2 ∧ SWd c0 S (C ++ X.map wc) G2 := by
  refine popLoop (f := fun s : Hp => fX11_tellClause_S220 SHM 0 d a s) (c := outs (D.1 p)) (I := MPs l D p N) (fun G G2 hG e => e.mp hG) (fun G hG => hG.1) (fun G S C hG h hS hl => ?_) X S C G fuel h hs (fun x hx => ⟨Or.inr (hX x hx).1, (hX x hx).2⟩) ht hS hlen hc (by unfold fuel; rw [List.length_append] at hlen; omega)
  show fX11_tellClause_S220 SHM 0 d a G = _
  unfold fX11_tellClause_S220
  rw [mIsTop (x := 27) (w := 27) hG.1 h rfl (by decide) hS hl, mIsTop (x := 26) (w := 26) hG.1 h rfl (by decide) hS hl, mIs (k := 27) (w := 27) hD hG rfl (by decide)]
  simp only [ob]
  unfold outs
  by_cases e : D.1 p = 27
  · rw [decide_eq_true e]
    have ho : tp (fun y => if D.1 p = 27 then decide (y = 27) else (decide (y = 27) || decide (y = 26))) S = tp (fun y => decide (y = 27)) S := by
      cases S with
      | nil => rfl
      | cons y S2 => show (if D.1 p = 27 then decide (y = 27) else _) = _; rw [if_pos e]; rfl
    rw [ho]
    cases tp (fun y => decide (y = 27)) S with
    | true => rw [if_neg (show ¬ b2 true = 0 by decide)]; exact (if_pos rfl).symm
    | false => rw [if_pos (show b2 false = 0 from rfl), if_neg (show ¬ b2 true = 0 by decide)]; exact (if_neg (by decide)).symm
  · rw [decide_eq_false e]
    have ho : tp (fun y => if D.1 p = 27 then decide (y = 27) else (decide (y = 27) || decide (y = 26))) S = (tp (fun y => decide (y = 27)) S || tp (fun y => decide (y = 26)) S) := by
      cases S with
      | nil => rfl
      | cons y S2 => show (if D.1 p = 27 then decide (y = 27) else _) = _; rw [if_neg e]; rfl
    rw [ho]
    cases tp (fun y => decide (y = 27)) S with
    | true => rw [if_neg (show ¬ b2 true = 0 by decide)]; exact (if_pos rfl).symm
    | false =>
      rw [if_pos (show b2 false = 0 from rfl), if_pos (show b2 false = 0 from rfl)]
      cases tp (fun y => decide (y = 26)) S with
      | true => rw [if_neg (show ¬ b2 true = 0 by decide)]; exact (if_pos rfl).symm
      | false => rw [if_pos (show b2 false = 0 from rfl)]; exact (if_neg (by decide)).symm
theorem kOp (hD : TKo D) (h : CC l D p N NM c0 (X ++ S) C G) (hX : ∀ x ∈ X, (x = 27 ∨ x = 26) ∧ outs (D.1 p) x = true) (ht : tp (outs (D.1 p)) S = false) (hl : l ≤ 1) (hk : D.1 p = 27 ∨ D.1 p = 26) : ∃ G3, fX11_tellClause_J175L9 SHM G 0 (nI dp) = (fX11_waitsFor SHM G3 0 (nI (D.1 p))).bind (fun G5 => some (.inl (G5, nI dp, 1))) ∧ EQc c0 G G3 ∧ CC l D p N NM c0 S (C ++ X.map wc) G3 := by
  obtain ⟨h1, h2, h3, h4, h5, h6⟩ := h
  have hb := h1.2.2.1
  rw [List.length_append] at h4 h6
  have hS : ∀ y ∈ S, y < 100 := fun y hy => h5 y (List.mem_append_right _ hy)
  obtain ⟨G3, a1, a2, a3⟩ := mS220 (d := nI dp) (a := 1) hD h1 h3 hX ht hS (by rw [List.length_append]; omega) (by omega)
  have m3 := a2.mp h1
  refine ⟨G3, ?_, a2.q, m3, a2.q.nm h2, a3, by rw [List.length_append, List.length_map]; omega, hS, by omega⟩
  have hJ : fX11_tellClause_J193L9 SHM G 0 (nI dp) = (fX11_waitsFor SHM G3 0 (nI (D.1 p))).bind (fun G5 => some (.inl (G5, nI dp, 1))) := by
    unfold fX11_tellClause_J193L9 fX11_tellClause_J198L9 fX11_tellClause_J212L9
    rw [if_neg one_ne, h1.2.2.2.2.1, if_pos (by decide), a1]
    simp only [ob, obd]
    unfold fX11_tellClause_J254L9
    rw [if_neg one_ne, ml_5 m3.1]
    simp only [ob]
    rw [mKd m3]
    rfl
  unfold fX11_tellClause_J175L9
  rw [mIs (k := 27) (w := 27) hD h1 rfl (by decide), mIs (k := 26) (w := 26) hD h1 rfl (by decide), hJ]
  simp only [ob]
  rcases hk with e | e
  · rw [decide_eq_true e, if_neg (show ¬ b2 true = 0 by decide)]
  · rw [decide_eq_false (show ¬ D.1 p = 27 by omega), if_pos (show b2 false = 0 from rfl), decide_eq_true e, if_neg (show ¬ b2 true = 0 by decide)]
theorem KB_op (hD : TKo D) (h : CC l D p N NM c0 (X ++ S) C G) (hX : ∀ x ∈ X, (x = 27 ∨ x = 26) ∧ outs (D.1 p) x = true) (ht : tp (outs (D.1 p)) S = false) (hl : l ≤ 1) (hk : D.1 p = 27 ∨ D.1 p = 26) (hS : S.length ≤ 77) (hd : dp ≤ 7) (hp : p < 400) : ∃ G2, EQc c0 G G2 ∧ CC l D (p + 1) N NM c0 (D.1 p :: S) (C ++ X.map wc) G2 ∧ ∀ r, KA (p + 1) G2 dp 0 r → KB p G dp r := by
  obtain ⟨G3, b1, b2', b3⟩ := kOp (dp := dp) hD h hX ht hl hk
  obtain ⟨G2, a1, a2, a3⟩ := mWaits_y hD b3 hS (by omega) hp
  have h0 := kS152_no hD h.1 (fun z => by omega) hd
  rw [a1] at b1
  simp only [ob] at b1
  refine ⟨G2, b2'.tr a2, a3, ?_⟩
  rintro r ⟨n, o, r1, r2, r3⟩
  refine ⟨1, .inl (G2, nI dp, 1), by omega, ?_, ?_⟩
  · unfold kB2
    rw [iter_out h0]
    exact b1
  · have hb : kF9 (G2, nI dp, 1) = some o := by
      rw [kF9_1 a3.1.2.2.2.2.1]
      exact kA2_mono r2 (by unfold fuel; omega)
    show ∃ o2, iter kF9 (402 - p) (G2, nI dp, 1) = some o2 ∧ kfin o2 = some r
    rw [show 402 - p = (402 - (p + 1)) + 1 by omega]
    cases o with
    | inl s2 =>
      obtain ⟨o2, k1, k2⟩ : ∃ o2, iter kF9 (402 - (p + 1)) s2 = some o2 ∧ kfin o2 = some r := r3
      exact ⟨o2, by rw [iter_in hb]; exact k1, k2⟩
    | inr o2 => exact ⟨o2, iter_out hb, r3⟩
theorem KB_op_f (hD : TKo D) (h : CC l D p N NM c0 (X ++ S) C G) (hX : ∀ x ∈ X, (x = 27 ∨ x = 26) ∧ outs (D.1 p) x = true) (ht : tp (outs (D.1 p)) S = false) (hl : l ≤ 1) (hk : D.1 p = 27 ∨ D.1 p = 26) (hd : dp ≤ 7) (hp : ¬ p < 400) : ∃ r, EQc c0 G r ∧ MF l D 2 p r ∧ KB p G dp r := by
  have hb3 := h.1.2.2.1
  obtain ⟨G3, b1, b2', b3⟩ := kOp (dp := dp) hD h hX ht hl hk
  obtain ⟨G2, a1, a2, a3⟩ := mWaits_n b3 hp
  have h0 := kS152_no hD h.1 (fun z => by omega) hd
  rw [a1] at b1
  simp only [ob] at b1
  refine ⟨G2, b2'.tr a2, a3, 1, .inl (G2, nI dp, 1), by omega, ?_, ?_⟩
  · unfold kB2
    rw [iter_out h0]
    exact b1
  · have hb : kF9 (G2, nI dp, 1) = some (.inr (.inl G2)) := by
      show fX11_tellClause_S9 SHM 0 G2 (nI dp) 1 = _
      unfold fX11_tellClause_S9
      rw [if_neg one_ne, if_neg a3.pos.2.1]
    show ∃ o2, iter kF9 (402 - p) (G2, nI dp, 1) = some o2 ∧ kfin o2 = some G2
    rw [show 402 - p = (401 - p) + 1 by omega]
    exact ⟨_, iter_out hb, rfl⟩
theorem KB_end0 (hD : TKo D) (h : CC l D p N NM c0 X C G) (hX : ∀ x ∈ X, x = 27 ∨ x = 26) (hl : l ≤ 1) (hk : ¬ (D.1 p = 27 ∨ D.1 p = 26)) : ∃ r, EQc c0 G r ∧ CC l D p N NM c0 [] (C ++ X.map wc) r ∧ KB p G 0 r := by
  obtain ⟨h1, h2, h3, h4, h5, h6⟩ := h
  have hb := h1.2.2.1
  obtain ⟨r, a1, a2, a3⟩ := mS220 (S := []) (d := nI 0) (a := 0) hD h1 (by rw [List.append_nil]; exact h3) (fun x hx => ⟨hX x hx, by
    unfold outs
    rw [if_neg (fun z => hk (Or.inl z))]
    rcases hX x hx with rfl | rfl <;> rfl⟩) rfl (fun y hy => (by cases hy)) (by rw [List.append_nil]; omega) (by omega)
  have h0 := kS152_no (dp := 0) hD h1 (fun z => by have := z.2; omega) (by decide)
  refine ⟨r, a2.q, ⟨a2.mp h1, a2.q.nm h2, a3, by rw [List.length_append, List.length_map]; show 420 * (1 - l) ≤ c0 ∧ c0 + (C.length + X.length) + 0 ≤ _; omega, fun y hy => (by cases hy), by decide⟩, 1, .inl (r, nI 0, 0), by omega, ?_, ?_⟩
  · unfold kB2
    rw [iter_out h0]
    simp only [ob, obd]
    unfold fX11_tellClause_J175L9 fX11_tellClause_J198L9 fX11_tellClause_J212L9
    rw [mIs (k := 27) (w := 27) hD h1 rfl (by decide), mIs (k := 26) (w := 26) hD h1 rfl (by decide), decide_eq_false (fun z => hk (Or.inl z)), decide_eq_false (fun z => hk (Or.inr z))]
    simp only [ob]
    rw [if_pos (show b2 false = 0 from rfl), if_pos (show b2 false = 0 from rfl), if_pos trivial, if_pos (show nI 0 ≤ 0 by decide), h1.2.2.2.2.1, if_pos (by decide), a1]
    simp only [ob, obd]
    unfold fX11_tellClause_J254L9
    rw [if_pos rfl]
  · have hb9 : kF9 (r, nI 0, 0) = some (.inr (.inl r)) := by
      show fX11_tellClause_S9 SHM 0 r (nI 0) 0 = _
      unfold fX11_tellClause_S9
      rw [if_pos rfl]
    show ∃ o2, iter kF9 (402 - p) (r, nI 0, 0) = some o2 ∧ kfin o2 = some r
    rw [show 402 - p = (401 - p) + 1 by omega]
    exact ⟨_, iter_out hb9, rfl⟩
theorem KB_end1 (hD : TKo D) (h : CC l D p N NM c0 S C G) (hk : ¬ (D.1 p = 27 ∨ D.1 p = 26)) (h7 : D.1 p ≠ 7) (hd : dp ≤ 6) : ∃ r, EQc c0 G r ∧ MF l D 1 p r ∧ KB p G (dp + 1) r := by
  have h1 := h.1
  have hb := h1.2.2.1
  obtain ⟨G4, a1, a2, a3⟩ := mFail (f := 1) (Or.inl rfl) h1
  have h0 := kS152_no (dp := dp + 1) hD h1 (fun z => h7 z.1) (by omega)
  refine ⟨G4, a2.q, a3, 1, .inr (.inr (.inr (.inr G4))), by omega, ?_, rfl⟩
  unfold kB2
  rw [iter_out h0]
  simp only [ob, obd]
  unfold fX11_tellClause_J175L9 fX11_tellClause_J198L9 fX11_tellClause_J212L9
  rw [mIs (k := 27) (w := 27) hD h1 rfl (by decide), mIs (k := 26) (w := 26) hD h1 rfl (by decide), decide_eq_false (fun z => hk (Or.inl z)), decide_eq_false (fun z => hk (Or.inr z))]
  simp only [ob]
  rw [if_pos (show b2 false = 0 from rfl), if_pos (show b2 false = 0 from rfl), if_pos trivial, if_neg (show ¬ nI (dp + 1) ≤ 0 from nI_ge (a := 0) (by omega) (by omega)), show (1 : Int32) = nI 1 from rfl, a1]
  simp only [ob]
  rw [if_neg a3.pos.1]
end KBs
