/-! TWO WORLDS SIDE BY SIDE: the class's and the reference's. -/
theorem va_P_l {D : va_G} {cl : List vw_C} {a b : va_W} {H : Heap} (h : va_P D cl (a ++ b) H) : va_P D cl a H := fun k q hk => h k q (by rw [List.getElem?_append_left (List.getElem?_eq_some_iff.mp hk).1]; exact hk)
theorem va_P_r {D : va_G} {cl : List vw_C} {a b : va_W} {H : Heap} (h : va_P D cl (a ++ b) H) : va_P D cl b H := fun k q hk => h (a.length + k) q (by rw [List.getElem?_append_right (by omega)]; simpa using hk)
theorem va_D_l {A : Nat → Prop} {a b : va_W} (h : va_D A (a ++ b)) : va_D A a :=
  ⟨fun i j p q hi hj e => h.1 i j p q (by rw [List.getElem?_append_left (List.getElem?_eq_some_iff.mp hi).1]; exact hi) (by rw [List.getElem?_append_left (List.getElem?_eq_some_iff.mp hj).1]; exact hj) e, fun k q hk => h.2 k q (by rw [List.getElem?_append_left (List.getElem?_eq_some_iff.mp hk).1]; exact hk)⟩
theorem va_D_r {A : Nat → Prop} {a b : va_W} (h : va_D A (a ++ b)) : va_D A b :=
  ⟨fun i j p q hi hj e => by
    have := h.1 (a.length + i) (a.length + j) p q (by rw [List.getElem?_append_right (by omega)]; simpa using hi) (by rw [List.getElem?_append_right (by omega)]; simpa using hj) e
    omega, fun k q hk => h.2 (a.length + k) q (by rw [List.getElem?_append_right (by omega)]; simpa using hk)⟩
theorem va_D_x {A : Nat → Prop} {a b : va_W} (h : va_D A (a ++ b)) : ∀ (i j : Nat) (p q : Nat × va_E), a[i]? = some p → b[j]? = some q → p.1 ≠ q.1 := by
  intro i j p q hi hj e
  have hl := (List.getElem?_eq_some_iff.mp hi).1
  have := h.1 i (a.length + j) p q (by rw [List.getElem?_append_left hl]; exact hi) (by rw [List.getElem?_append_right (by omega)]; simpa using hj) e
  omega
/-- what isn't the callee's stays -/
theorem fr_kept {A0 : Nat → Prop} {D : va_G} {cl : List vw_C} {F wc : va_W} {H H1 : Heap} (hP : va_P D cl F H) (hx : ∀ (i j : Nat) (p q : Nat × va_E), F[i]? = some p → wc[j]? = some q → p.1 ≠ q.1) (hk : ∀ q : Nat, q < H.size → ¬ va_A wc H.size q → H1[q]? = H[q]?) : va_P D cl F H1 ∧ ∀ (k : Nat) (q : Nat × va_E), F[k]? = some q → ¬ va_A wc H.size q.1 := by
  have h1 : ∀ (k : Nat) (q : Nat × va_E), F[k]? = some q → ¬ va_A wc H.size q.1 := by
    intro k q hq h
    rcases h with ⟨j, e, h⟩ | h
    · exact hx k j q _ hq h rfl
    · have := (hP k q hq).lt; omega
  exact ⟨fun k q hq => (hP k q hq).kept (hk q.1 (hP k q hq).lt (h1 k q hq)), h1⟩
section FR
variable {E : EX} {own : String} {cc : ByteArray} {nL h mc ms cells slots pc : Nat} {ret : Option FieldType} {lv : List (Nat × Value)} {rest st : List Value} {sh sh2 : Sh} {G G2 : Hp} {ad : Nat → Nat} {q k ci idx : Nat}
variable {y : MethodName} {cb : ByteArray} {maxL h2 mc2 ms2 n : Nat} {rt : Option FieldType} {avs : (Nat → Nat) → List Value} {rv : (Nat → Nat) → Option Value} {As : List Value}
/-- the left world calls, F stays behind it -/
theorem f_run_l (C : Cx E own cc nL ret h mc ms) {F : va_W} {H : Heap} {locs : List Loc} {ls : Array Slot} {a : Array Value} (hP : va_P (xD E) cls (wq (xT E) ad G sh ++ F) H) (hD : va_D (xA E) (wq (xT E) ad G sh ++ F)) (hS : va_S (xA E) (xs E).heap H locs) (hl : lv_has ls (xn E) lv)
    (hr : va_Run (xp E) (xl E) (xe E) (xR E) (xs E) (xm E) (xa E) (xb E) (xM E) (xc E) H locs cells slots mc2 ms2 (F0 (xm E) pc ls st) rest (Qg (xD E) (xT E) sh sh2 ad G2 rv (va_A (wq (xT E) ad G sh) H.size) a) (va_A (wq (xT E) ad G sh) H.size))
    (kk : ∀ ad2, (∀ k, k < sh.length → ad2 k = ad k) → Cl sh2 G2 → VV E (cells + mc2) (slots + ms2) (wq (xT E) ad2 G2 sh2 ++ F) (pc + 3) lv ((rv ad2).toList ++ rest)) :
    W (xp E) (xl E) (xe E) (xR E) (xs E) (xm E) (xa E) (xb E) (xM E) (xc E) H locs cells slots (xQ E) (F0 (xm E) pc ls st) := by
  intro T hT X
  obtain ⟨v, st₀, t, T', L, h0, X', hL, e1, e2, ⟨ad2, had, hv, hP2, hD2, hC2, hz, hk⟩, go⟩ := hr T hT X
  cases hv
  rw [h0] at hz hk
  have hF := wq_free C (va_D_l hD) hS
  have hk2 : ∀ q : Nat, q < H.size → ¬ va_A (wq (xT E) ad G sh) H.size q → T'.heap[q]? = H[q]? := fun q h1 h2 => by rw [e1]; exact hk q h1 h2
  obtain ⟨fP, fN⟩ := fr_kept (A0 := xA E) (va_P_r hP) (fun i j p q h1 h2 e => va_D_x hD j i q p h2 h1 e.symm) hk2
  obtain ⟨t2, a1, b1⟩ := kk ad2 had hC2 T'.heap (locs ++ L) ls (va_P.app (by rw [e1]; exact hP2) fP) (va_D.app (hD2.weaken (fun k q _ hq => hF q.1 hq)) (va_D_r hD) (fun i j p q h1 h2 e => fN j q h2 (e ▸ hD2.2 i p h1))) (va_F_S hS hF (by rw [e1]; exact hz) hk2 hL) hl T' rfl X'
  exact ⟨t2, go t2 a1, b1⟩
/-- the right world calls, F stays ahead of it -/
theorem f_run_r (C : Cx E own cc nL ret h mc ms) {F : va_W} {H : Heap} {locs : List Loc} {ls : Array Slot} {a : Array Value} (hP : va_P (xD E) cls (F ++ wq (xT E) ad G sh) H) (hD : va_D (xA E) (F ++ wq (xT E) ad G sh)) (hS : va_S (xA E) (xs E).heap H locs) (hl : lv_has ls (xn E) lv)
    (hr : va_Run (xp E) (xl E) (xe E) (xR E) (xs E) (xm E) (xa E) (xb E) (xM E) (xc E) H locs cells slots mc2 ms2 (F0 (xm E) pc ls st) rest (Qg (xD E) (xT E) sh sh2 ad G2 rv (va_A (wq (xT E) ad G sh) H.size) a) (va_A (wq (xT E) ad G sh) H.size))
    (kk : ∀ ad2, (∀ k, k < sh.length → ad2 k = ad k) → Cl sh2 G2 → VV E (cells + mc2) (slots + ms2) (F ++ wq (xT E) ad2 G2 sh2) (pc + 3) lv ((rv ad2).toList ++ rest)) :
    W (xp E) (xl E) (xe E) (xR E) (xs E) (xm E) (xa E) (xb E) (xM E) (xc E) H locs cells slots (xQ E) (F0 (xm E) pc ls st) := by
  intro T hT X
  obtain ⟨v, st₀, t, T', L, h0, X', hL, e1, e2, ⟨ad2, had, hv, hP2, hD2, hC2, hz, hk⟩, go⟩ := hr T hT X
  cases hv
  rw [h0] at hz hk
  have hF := wq_free C (va_D_r hD) hS
  have hk2 : ∀ q : Nat, q < H.size → ¬ va_A (wq (xT E) ad G sh) H.size q → T'.heap[q]? = H[q]? := fun q h1 h2 => by rw [e1]; exact hk q h1 h2
  obtain ⟨fP, fN⟩ := fr_kept (A0 := xA E) (va_P_l hP) (va_D_x hD) hk2
  obtain ⟨t2, a1, b1⟩ := kk ad2 had hC2 T'.heap (locs ++ L) ls (va_P.app fP (by rw [e1]; exact hP2)) (va_D.app (va_D_l hD) (hD2.weaken (fun k q _ hq => hF q.1 hq)) (fun i j p q h1 h2 e => fN i p h1 (e ▸ hD2.2 j q h2))) (va_F_S hS hF (by rw [e1]; exact hz) hk2 hL) hl T' rfl X'
  exact ⟨t2, go t2 a1, b1⟩
theorem f_callV_l (C : Cx E own cc nL ret h mc ms) {F : va_W} {Cn : String} {r : Int32} (hM : MC (xl E) y cb maxL rt h2 0 0 sh sh G G2 avs (fun _ => some (.int r))) (cs : CSV own idx Cn y cb maxL rt n) (hh : h2 + 1 ≤ h) (hs : sh[q]? = some (0, ci)) (hcn : (cls[ci]?).map (fun r => r.1) = some Cn) (hC : Cl sh G) (hav : avs ad = .ref (ad q) :: As) (hn : As.length = n) (hst : st = As.reverse ++ .ref (ad q) :: rest) (hW : (rest.map fun v => v.category).sum ≤ 8) (hc : cells ≤ mc ∧ slots ≤ ms) (hdg : decode cc pc = .ok (.invokevirtual idx, 3))
    (kk : Cl sh G2 → VV E cells slots (wq (xT E) ad G2 sh ++ F) (pc + 3) lv (.int r :: rest)) : VV E cells slots (wq (xT E) ad G sh ++ F) pc lv st := by
  intro H locs ls hP hD hS hl
  obtain ⟨c1, c2, c3, c4, c5, c6, c7⟩ := cs
  cases hcl : cls[ci]? with
  | none => rw [hcl] at hcn; cases hcn
  | some r0 =>
    rw [hcl] at hcn
    have hr1 : r0.1 = Cn := Option.some.inj hcn
    have hrecv := va_recv C.2.2.2.2.2.1 (va_P_l hP) hcl (wq_at hs)
    rw [hr1] at hrecv
    refine f_run_l C hP hD hS hl (va_runV (As := As) (rest := rest) (C := Cn) ⟨C.1, C.2.1, C.2.2.1, C.2.2.2.1, C.2.2.2.2.1⟩ (hM (xD E) (xT E) ad H.size) (cwV n C.2.2.2.2.1 (goodIn_ap (WS_sub (by
      intro w hw
      simp only [List.mem_cons, List.not_mem_nil, or_false] at hw
      rcases hw with rfl | rfl | rfl | rfl
      · exact c2
      · exact c3
      · exact c4
      · exact c5)) (GoodWS c1)) rfl rfl rfl c6 ⟨Nat.le_trans hh (rm_frames C), by have hz := rm_locals C; show 8 + (maxL + 11) + 64 * h2 ≤ _; omega⟩) ⟨pc_blind, hrecv, pc_pre C hav (va_P_l hP) (va_D_l hD) hS hC⟩ rfl hn (hl.1.trans C.2.2.2.2.2.2.2.2.2.1) hst (by show 2 * 0 + _ ≤ 8; omega) hdg ⟨Nat.le_trans hc.1 (rm_cells C), Nat.le_trans hc.2 (rm_slots C)⟩) (fun _ had hC2 => by rw [wq_ad had hC2]; exact kk hC2)
theorem f_callV_r (C : Cx E own cc nL ret h mc ms) {F : va_W} {Cn : String} {r : Int32} (hM : MC (xl E) y cb maxL rt h2 0 0 sh sh G G2 avs (fun _ => some (.int r))) (cs : CSV own idx Cn y cb maxL rt n) (hh : h2 + 1 ≤ h) (hs : sh[q]? = some (0, ci)) (hcn : (cls[ci]?).map (fun r => r.1) = some Cn) (hC : Cl sh G) (hav : avs ad = .ref (ad q) :: As) (hn : As.length = n) (hst : st = As.reverse ++ .ref (ad q) :: rest) (hW : (rest.map fun v => v.category).sum ≤ 8) (hc : cells ≤ mc ∧ slots ≤ ms) (hdg : decode cc pc = .ok (.invokevirtual idx, 3))
    (kk : Cl sh G2 → VV E cells slots (F ++ wq (xT E) ad G2 sh) (pc + 3) lv (.int r :: rest)) : VV E cells slots (F ++ wq (xT E) ad G sh) pc lv st := by
  intro H locs ls hP hD hS hl
  obtain ⟨c1, c2, c3, c4, c5, c6, c7⟩ := cs
  cases hcl : cls[ci]? with
  | none => rw [hcl] at hcn; cases hcn
  | some r0 =>
    rw [hcl] at hcn
    have hr1 : r0.1 = Cn := Option.some.inj hcn
    have hrecv := va_recv C.2.2.2.2.2.1 (va_P_r hP) hcl (wq_at hs)
    rw [hr1] at hrecv
    refine f_run_r C hP hD hS hl (va_runV (As := As) (rest := rest) (C := Cn) ⟨C.1, C.2.1, C.2.2.1, C.2.2.2.1, C.2.2.2.2.1⟩ (hM (xD E) (xT E) ad H.size) (cwV n C.2.2.2.2.1 (goodIn_ap (WS_sub (by
      intro w hw
      simp only [List.mem_cons, List.not_mem_nil, or_false] at hw
      rcases hw with rfl | rfl | rfl | rfl
      · exact c2
      · exact c3
      · exact c4
      · exact c5)) (GoodWS c1)) rfl rfl rfl c6 ⟨Nat.le_trans hh (rm_frames C), by have hz := rm_locals C; show 8 + (maxL + 11) + 64 * h2 ≤ _; omega⟩) ⟨pc_blind, hrecv, pc_pre C hav (va_P_r hP) (va_D_r hD) hS hC⟩ rfl hn (hl.1.trans C.2.2.2.2.2.2.2.2.2.1) hst (by show 2 * 0 + _ ≤ 8; omega) hdg ⟨Nat.le_trans hc.1 (rm_cells C), Nat.le_trans hc.2 (rm_slots C)⟩) (fun _ had hC2 => by rw [wq_ad had hC2]; exact kk hC2)
theorem f_callI_r (C : Cx E own cc nL ret h mc ms) {F : va_W} (hM : MC (xl E) y cb maxL none h2 mc2 ms2 sh sh2 G G2 avs (fun _ => none)) (cs : CSI own idx y cb maxL n) (hh : h2 + 1 ≤ h) (hC : Cl sh G) (hav : avs ad = .ref (ad q) :: As) (hn : As.length = n) (hst : st = As.reverse ++ .ref (ad q) :: rest) (hW : (rest.map fun v => v.category).sum ≤ 8) (hc : cells + mc2 ≤ mc ∧ slots + ms2 ≤ ms) (hdg : decode cc pc = .ok (.invokespecial idx, 3))
    (kk : ∀ ad2, (∀ k, k < sh.length → ad2 k = ad k) → Cl sh2 G2 → VV E (cells + mc2) (slots + ms2) (F ++ wq (xT E) ad2 G2 sh2) (pc + 3) lv rest) : VV E cells slots (F ++ wq (xT E) ad G sh) pc lv st := by
  intro H locs ls hP hD hS hl
  obtain ⟨c1, c3, c5, c8, c6, c7, c9⟩ := cs
  rcases c9 with c2 | c2
  · exact f_run_r C hP hD hS hl (va_runI (As := As) (rest := rest) ⟨C.1, C.2.1, C.2.2.1, C.2.2.2.1, C.2.2.2.2.1⟩ (hM (xD E) (xT E) ad H.size) (cwI n C.2.2.2.2.1 (GoodWS c1) rfl rfl rfl (C.2.2.2.2.1 _ c5) (C.2.2.2.2.1 _ c2) (C.2.2.2.2.1 _ c3) c8 c6 ⟨Nat.le_trans hh (rm_frames C), by have hz := rm_locals C; show 8 + (maxL + 11) + 64 * h2 ≤ _; omega⟩) ⟨pc_blind, pc_pre C hav (va_P_r hP) (va_D_r hD) hS hC⟩ rfl hn (hl.1.trans C.2.2.2.2.2.2.2.2.2.1) hst (by show 2 * 0 + _ ≤ 8; omega) hdg ⟨Nat.le_trans hc.1 (rm_cells C), Nat.le_trans hc.2 (rm_slots C)⟩) kk
  · exact f_run_r C hP hD hS hl (va_runIN (As := As) (rest := rest) ⟨C.1, C.2.1, C.2.2.1, C.2.2.2.1, C.2.2.2.2.1⟩ (hM (xD E) (xT E) ad H.size) ⟨va_cnB n C.2.2.2.2.1 (GoodWS c1) rfl rfl rfl (C.2.2.2.2.2.2.2.2.2.2.2.2.1 _ c2) (C.2.2.2.2.1 _ c5) c6 ⟨Nat.le_trans hh (rm_frames C), by have hz := rm_locals C; show 8 + (maxL + 11) + 64 * h2 ≤ _; omega⟩, c8, C.2.2.2.2.1 _ c3⟩ ⟨pc_blind, pc_pre C hav (va_P_r hP) (va_D_r hD) hS hC⟩ rfl hn (hl.1.trans C.2.2.2.2.2.2.2.2.2.1) hst (by show 2 * 0 + _ ≤ 8; omega) hdg ⟨Nat.le_trans hc.1 (rm_cells C), Nat.le_trans hc.2 (rm_slots C)⟩) kk
/-- a new object beside a world that stays: it begins a world of its own -/
theorem f_new {N : Nat} (C : Cx E own cc nL ret h mc ms) {F : va_W} (hw : NWc own idx ci N) (hc : cells + 1 ≤ mc) (hs : slots + N ≤ ms) (hdg : decode cc pc = .ok (.new idx, 3))
    (kk : ∀ ad2 : Nat → Nat, VV E (cells + 1) (slots + N) (F ++ wq (xT E) ad2 (zr (fun _ _ => 0, fun _ _ => 0, fun _ _ => none) 0) [(0, ci)]) (pc + 3) lv (.ref (ad2 0) :: rest)) : VV E cells slots F pc lv rest := by
  intro H locs ls hP hD hS hl
  obtain ⟨Cn, T, ty, h1, h2, h3, h4, h5, h6, h7, h8⟩ := hw
  refine va_new (D := xD E) (ci := ci) (fs := fvs (fun _ => 0) (zr (fun _ _ => 0, fun _ _ => 0, fun _ _ => none) 0) 0 ci) C.1 C.2.1 C.2.2.2.2.1 h2 ty h3 C.2.2.2.1 (C.2.2.2.2.1 _ h4) (C.2.2.2.2.1 _ h5) (C.2.2.2.2.1 _ h6) C.2.2.2.2.2.1 hP hD hS C.2.2.2.2.2.2.1 h1 (fun j hj => ?_) (Nat.le_trans hc (rm_cells C)) (Nat.le_trans hs (rm_slots C)) hdg (fun q H1 hP1 hD1 hS1 => ?_)
  · rw [h7 j hj]
    unfold vp_V
    have hk : (fk ci)[j]? = some ((fk ci).getD j 0) := by
      rw [List.getD_eq_getElem?_getD, List.getElem?_eq_getElem (by omega)]; rfl
    have hg : (fvs (fun _ => 0) (zr (fun _ _ => 0, fun _ _ => 0, fun _ _ => none) 0) 0 ci).getD j Value.null = fv0 ((fk ci).getD j 0) := by
      rw [List.getD_eq_getElem?_getD, fvs_at hk, fv_zr]; rfl
    exact hg.symm
  · have e : wq (xT E) (fun _ => q) (zr (fun _ _ => 0, fun _ _ => 0, fun _ _ => none) 0) [(0, ci)] = [(q, .inr (ci, fvs (fun _ => 0) (zr (fun _ _ => 0, fun _ _ => 0, fun _ _ => none) 0) 0 ci))] := by
      simp only [wq, List.mapIdx_cons, List.mapIdx_nil, ec]
      congr 4
    rw [← e] at hP1 hD1
    exact kk (fun _ => q) H1 locs ls hP1 hD1 hS1 hl
end FR
