/-! WHAT MAKES CELLS. -/
def zr (G : Hp) (n : Nat) : Hp := (fun q => if q = n then (fun _ => 0) else G.1 q, fun q => if q = n then (fun _ => 0) else G.2.1 q, fun q => if q = n then (fun _ => none) else G.2.2 q)
def ad1 (ad : Nat → Nat) (n q : Nat) : Nat → Nat := fun k => if k = n then q else ad k
theorem ad1_lt {ad : Nat → Nat} {n q : Nat} : ∀ k, k < n → ad1 ad n q k = ad k := fun k hk => by unfold ad1; rw [if_neg (by omega)]
theorem ad1_eq {ad : Nat → Nat} {n q : Nat} : ad1 ad n q n = q := by unfold ad1; rw [if_pos rfl]
theorem Cl_zr {sh : Sh} {G : Hp} {s : Nat × Nat} (h : Cl sh G) : Cl (sh ++ [s]) (zr G sh.length) := by
  intro q k a hq
  simp only [zr] at hq
  split at hq
  · cases hq
  · have := h q k a hq
    simp only [List.length_append, List.length_cons, List.length_nil]
    omega
theorem Cl_zr0 {sh : Sh} {G : Hp} (h : Cl sh G) : Cl sh (zr G sh.length) := by
  intro q k a hq
  simp only [zr] at hq
  split at hq
  · cases hq
  · exact h q k a hq
theorem wq_zr {tc : Nat → ClassId} {ad : Nat → Nat} {G : Hp} {sh : Sh} : wq tc ad (zr G sh.length) sh = wq tc ad G sh := by
  apply List.ext_getElem?
  intro i
  cases hs : sh[i]? with
  | none => simp [wq, hs]
  | some x =>
    have hi : i < sh.length := (List.getElem?_eq_some_iff.mp hs).1
    have hne : ¬ i = sh.length := by omega
    have h1 : (zr G sh.length).1 i = G.1 i := by simp [zr, hne]
    have h2 : (zr G sh.length).2.1 i = G.2.1 i := by simp [zr, hne]
    have h3 : (zr G sh.length).2.2 i = G.2.2 i := by simp [zr, hne]
    rw [wq_at hs, wq_at hs]
    have h4 : ∀ ci, fvs ad (zr G sh.length) i ci = fvs ad G i ci := fun ci => by
      unfold fvs; congr 1; funext j kd; unfold fv; rw [h1, h2, h3]
    unfold ec
    rw [h1, h2, h3, h4]
theorem wq_push {tc : Nat → ClassId} {ad : Nat → Nat} {G : Hp} {sh : Sh} {s : Nat × Nat} {q : Nat} (hC : Cl sh G) : wq tc (ad1 ad sh.length q) (zr G sh.length) (sh ++ [s]) = wq tc ad G sh ++ [(q, ec tc (ad1 ad sh.length q) (zr G sh.length) sh.length s)] := by
  have h1 : wq tc (ad1 ad sh.length q) (zr G sh.length) (sh ++ [s]) = wq tc (ad1 ad sh.length q) (zr G sh.length) sh ++ [(ad1 ad sh.length q sh.length, ec tc (ad1 ad sh.length q) (zr G sh.length) sh.length s)] := by
    unfold wq
    rw [List.mapIdx_append]
    simp
  rw [h1, wq_ad ad1_lt (Cl_zr0 hC), wq_zr, ad1_eq]
def fv0 (k : Nat) : Value := match k with
  | 0 => .int 0
  | 1 => .long 0
  | _ => .null
theorem fv_zr {ad : Nat → Nat} {G : Hp} {n j k : Nat} : fv ad (zr G n) n j k = fv0 k := by
  unfold fv fv0 zr
  split <;> simp [va_rf]
def NWc (own : String) (idx ci N : Nat) : Prop := ∃ (C : String) (T : u_T) (ty : Nat → FieldType), cls[ci]? = some (C, T, N) ∧ (∀ w ∈ u_ws C T N, w ∈ WS) ∧ (∀ k, k < N → parseFieldDescriptor (T k).2.2.1 = some (ty k)) ∧ Cond.classLink own idx C ∈ WS ∧ Cond.instantiable C N ∈ WS ∧ Cond.initialized C ∈ WS ∧ (∀ j, j < N → defaultValue (ty j) = fv0 ((fk ci).getD j 0)) ∧ (fk ci).length = N
section ALLOC
variable {E : EX} {own : String} {cc : ByteArray} {nL h mc ms cells slots pc : Nat} {ret : Option FieldType} {lv : List (Nat × Value)} {rest st : List Value} {sh : Sh} {G : Hp} {ad : Nat → Nat} {q k ci idx N : Nat}
theorem v_new (C : Cx E own cc nL ret h mc ms) (hw : NWc own idx ci N) (hC : Cl sh G) (hc : cells + 1 ≤ mc) (hs : slots + N ≤ ms) (hdg : decode cc pc = .ok (.new idx, 3))
    (kk : ∀ ad2, (∀ k, k < sh.length → ad2 k = ad k) → Cl (sh ++ [(0, ci)]) (zr G sh.length) → VV E (cells + 1) (slots + N) (wq (xT E) ad2 (zr G sh.length) (sh ++ [(0, ci)])) (pc + 3) lv (.ref (ad2 sh.length) :: rest)) : VV E cells slots (wq (xT E) ad G sh) pc lv rest := by
  intro H locs ls hP hD hS hl
  obtain ⟨Cn, T, ty, h1, h2, h3, h4, h5, h6, h7, h8⟩ := hw
  refine va_new (D := xD E) (ci := ci) (fs := fvs ad (zr G sh.length) sh.length ci) C.1 C.2.1 C.2.2.2.2.1 h2 ty h3 C.2.2.2.1 (C.2.2.2.2.1 _ h4) (C.2.2.2.2.1 _ h5) (C.2.2.2.2.1 _ h6) C.2.2.2.2.2.1 hP hD hS C.2.2.2.2.2.2.1 h1 (fun j hj => ?_) (Nat.le_trans hc (rm_cells C)) (Nat.le_trans hs (rm_slots C)) hdg (fun q H1 hP1 hD1 hS1 => ?_)
  · rw [h7 j hj]
    unfold vp_V
    have hk : (fk ci)[j]? = some ((fk ci).getD j 0) := by
      rw [List.getD_eq_getElem?_getD, List.getElem?_eq_getElem (by omega)]; rfl
    have hg : (fvs ad (zr G sh.length) sh.length ci).getD j Value.null = fv0 ((fk ci).getD j 0) := by
      rw [List.getD_eq_getElem?_getD, fvs_at hk, fv_zr]; rfl
    exact hg.symm
  · have e : wq (xT E) (ad1 ad sh.length q) (zr G sh.length) (sh ++ [(0, ci)]) = wq (xT E) ad G sh ++ [(q, .inr (ci, fvs ad (zr G sh.length) sh.length ci))] := by
      rw [wq_push hC]
      congr 3
      show Sum.inr (ci, fvs (ad1 ad sh.length q) (zr G sh.length) sh.length ci) = _
      congr 2
      unfold fvs; congr 1; funext j kd; rw [fv_zr, fv_zr]
    rw [← e] at hP1 hD1
    have := kk (ad1 ad sh.length q) ad1_lt (Cl_zr hC) H1 locs ls hP1 hD1 hS1 hl
    rw [ad1_eq] at this
    exact this
theorem v_newI {n : Int32} (C : Cx E own cc nL ret h mc ms) (hw : Cond.arrayClass .int ∈ WS) (hC : Cl sh G) (hn : ¬ n < 0) (hN : n.toNatClampNeg = N) (hb : N * 4 ≤ 536870912) (hc : cells + 1 ≤ mc) (hs : slots + N ≤ ms) (hdg : decode cc pc = .ok (.newarray .int, 2))
    (kk : ∀ ad2, (∀ k, k < sh.length → ad2 k = ad k) → Cl (sh ++ [(1, N)]) (zr G sh.length) → VV E (cells + 1) (slots + N) (wq (xT E) ad2 (zr G sh.length) (sh ++ [(1, N)])) (pc + 2) lv (.ref (ad2 sh.length) :: rest)) : VV E cells slots (wq (xT E) ad G sh) pc lv (.int n :: rest) := by
  intro H locs ls hP hD hS hl
  refine va_newa (atype := .int) (ty := .int) (a0 := (N, .inl (fun _ => 0))) C.1 C.2.1 (C.2.2.2.2.1 _ hw) rfl C.2.2.2.2.2.1 hP hD hS C.2.2.2.2.2.2.1 (fun _ => rfl) hn hN hb (Nat.le_trans hc (rm_cells C)) (Nat.le_trans hs (rm_slots C)) hdg (fun q cA H1 hK1 hP1 hD1 hS1 => ?_)
  have hcA : cA = xT E 0 := Option.some.inj ((hK1.2 5 _ rfl).2.symm.trans (C.2.2.2.2.2.1.2 0 _ rfl).2)
  subst hcA
  have e : wq (xT E) (ad1 ad sh.length q) (zr G sh.length) (sh ++ [(1, N)]) = wq (xT E) ad G sh ++ [(q, .inl (xT E 0, N, .inl (fun _ => 0)))] := by
    rw [wq_push hC]; simp [ec, zr]
  rw [← e] at hP1 hD1
  have := kk (ad1 ad sh.length q) ad1_lt (Cl_zr hC) H1 locs ls hP1 hD1 hS1 hl
  rw [ad1_eq] at this
  exact this
theorem v_newB {n : Int32} (C : Cx E own cc nL ret h mc ms) (hw : Cond.arrayClass .byte ∈ WS) (hC : Cl sh G) (hn : ¬ n < 0) (hN : n.toNatClampNeg = N) (hb : N * 4 ≤ 536870912) (hc : cells + 1 ≤ mc) (hs : slots + N ≤ ms) (hdg : decode cc pc = .ok (.newarray .byte, 2))
    (kk : ∀ ad2, (∀ k, k < sh.length → ad2 k = ad k) → Cl (sh ++ [(2, N)]) (zr G sh.length) → VV E (cells + 1) (slots + N) (wq (xT E) ad2 (zr G sh.length) (sh ++ [(2, N)])) (pc + 2) lv (.ref (ad2 sh.length) :: rest)) : VV E cells slots (wq (xT E) ad G sh) pc lv (.int n :: rest) := by
  intro H locs ls hP hD hS hl
  refine va_newa (atype := .byte) (ty := .byte) (a0 := (N, .inl (fun _ => 0))) C.1 C.2.1 (C.2.2.2.2.1 _ hw) rfl C.2.2.2.2.2.1 hP hD hS C.2.2.2.2.2.2.1 (fun _ => rfl) hn hN (by show N * 1 ≤ _; omega) (Nat.le_trans hc (rm_cells C)) (Nat.le_trans hs (rm_slots C)) hdg (fun q cA H1 hK1 hP1 hD1 hS1 => ?_)
  have hcA : cA = xT E 1 := Option.some.inj ((hK1.2 5 _ rfl).2.symm.trans (C.2.2.2.2.2.1.2 1 _ rfl).2)
  subst hcA
  have e : wq (xT E) (ad1 ad sh.length q) (zr G sh.length) (sh ++ [(2, N)]) = wq (xT E) ad G sh ++ [(q, .inl (xT E 1, N, .inl (fun _ => 0)))] := by
    rw [wq_push hC]; simp [ec, zr]
  rw [← e] at hP1 hD1
  have := kk (ad1 ad sh.length q) ad1_lt (Cl_zr hC) H1 locs ls hP1 hD1 hS1 hl
  rw [ad1_eq] at this
  exact this
theorem v_newZ {n : Int32} (C : Cx E own cc nL ret h mc ms) (hw : Cond.arrayClass .boolean ∈ WS) (hC : Cl sh G) (hn : ¬ n < 0) (hN : n.toNatClampNeg = N) (hb : N * 4 ≤ 536870912) (hc : cells + 1 ≤ mc) (hs : slots + N ≤ ms) (hdg : decode cc pc = .ok (.newarray .boolean, 2))
    (kk : ∀ ad2, (∀ k, k < sh.length → ad2 k = ad k) → Cl (sh ++ [(3, N)]) (zr G sh.length) → VV E (cells + 1) (slots + N) (wq (xT E) ad2 (zr G sh.length) (sh ++ [(3, N)])) (pc + 2) lv (.ref (ad2 sh.length) :: rest)) : VV E cells slots (wq (xT E) ad G sh) pc lv (.int n :: rest) := by
  intro H locs ls hP hD hS hl
  refine va_newa (atype := .boolean) (ty := .boolean) (a0 := (N, .inl (fun _ => 0))) C.1 C.2.1 (C.2.2.2.2.1 _ hw) rfl C.2.2.2.2.2.1 hP hD hS C.2.2.2.2.2.2.1 (fun _ => rfl) hn hN (by show N * 1 ≤ _; omega) (Nat.le_trans hc (rm_cells C)) (Nat.le_trans hs (rm_slots C)) hdg (fun q cA H1 hK1 hP1 hD1 hS1 => ?_)
  have hcA : cA = xT E 2 := Option.some.inj ((hK1.2 5 _ rfl).2.symm.trans (C.2.2.2.2.2.1.2 2 _ rfl).2)
  subst hcA
  have e : wq (xT E) (ad1 ad sh.length q) (zr G sh.length) (sh ++ [(3, N)]) = wq (xT E) ad G sh ++ [(q, .inl (xT E 2, N, .inl (fun _ => 0)))] := by
    rw [wq_push hC]; simp [ec, zr]
  rw [← e] at hP1 hD1
  have := kk (ad1 ad sh.length q) ad1_lt (Cl_zr hC) H1 locs ls hP1 hD1 hS1 hl
  rw [ad1_eq] at this
  exact this
theorem v_newJ {n : Int32} (C : Cx E own cc nL ret h mc ms) (hw : Cond.arrayClass .long ∈ WS) (hC : Cl sh G) (hn : ¬ n < 0) (hN : n.toNatClampNeg = N) (hb : N * 8 ≤ 536870912) (hc : cells + 1 ≤ mc) (hs : slots + N ≤ ms) (hdg : decode cc pc = .ok (.newarray .long, 2))
    (kk : ∀ ad2, (∀ k, k < sh.length → ad2 k = ad k) → Cl (sh ++ [(4, N)]) (zr G sh.length) → VV E (cells + 1) (slots + N) (wq (xT E) ad2 (zr G sh.length) (sh ++ [(4, N)])) (pc + 2) lv (.ref (ad2 sh.length) :: rest)) : VV E cells slots (wq (xT E) ad G sh) pc lv (.int n :: rest) := by
  intro H locs ls hP hD hS hl
  refine va_newa (atype := .long) (ty := .long) (a0 := (N, .inr (.inl (fun _ => 0)))) C.1 C.2.1 (C.2.2.2.2.1 _ hw) rfl C.2.2.2.2.2.1 hP hD hS C.2.2.2.2.2.2.1 (fun _ => rfl) hn hN hb (Nat.le_trans hc (rm_cells C)) (Nat.le_trans hs (rm_slots C)) hdg (fun q cA H1 hK1 hP1 hD1 hS1 => ?_)
  have hcA : cA = xT E 3 := Option.some.inj ((hK1.2 5 _ rfl).2.symm.trans (C.2.2.2.2.2.1.2 3 _ rfl).2)
  subst hcA
  have e : wq (xT E) (ad1 ad sh.length q) (zr G sh.length) (sh ++ [(4, N)]) = wq (xT E) ad G sh ++ [(q, .inl (xT E 3, N, .inr (.inl (fun _ => 0))))] := by
    rw [wq_push hC]; simp [ec, zr]
  rw [← e] at hP1 hD1
  have := kk (ad1 ad sh.length q) ad1_lt (Cl_zr hC) H1 locs ls hP1 hD1 hS1 hl
  rw [ad1_eq] at this
  exact this
theorem v_newG {n : Int32} (C : Cx E own cc nL ret h mc ms) (hw : Cond.classLink own idx "FirstOver$Going" ∈ WS) (hC : Cl sh G) (hn : ¬ n < 0) (hN : n.toNatClampNeg = N) (hb : N * 4 ≤ 536870912) (hc : cells + 1 ≤ mc) (hs : slots + N ≤ ms) (hdg : decode cc pc = .ok (.anewarray idx, 3))
    (kk : ∀ ad2, (∀ k, k < sh.length → ad2 k = ad k) → Cl (sh ++ [(5, N)]) (zr G sh.length) → VV E (cells + 1) (slots + N) (wq (xT E) ad2 (zr G sh.length) (sh ++ [(5, N)])) (pc + 3) lv (.ref (ad2 sh.length) :: rest)) : VV E cells slots (wq (xT E) ad G sh) pc lv (.int n :: rest) := by
  intro H locs ls hP hD hS hl
  refine va_newq C.1 C.2.1 C.2.2.2.1 (C.2.2.2.2.1 _ hw) C.2.2.2.2.2.2.2.2.2.2.2.2.2.1 C.2.2.2.2.2.1 hP hD hS C.2.2.2.2.2.2.1 hn hN hb (Nat.le_trans hc (rm_cells C)) (Nat.le_trans hs (rm_slots C)) hdg (fun q cA H1 hK1 hP1 hD1 hS1 => ?_)
  obtain ⟨kA, comp, -, -, -, hA⟩ := (hK1.2 5 _ rfl).2
  obtain ⟨kB, comp2, -, -, -, hB⟩ := (C.2.2.2.2.2.1.2 4 _ rfl).2
  have hcA : cA = xT E 4 := Option.some.inj (hA.symm.trans hB)
  subst hcA
  have e : wq (xT E) (ad1 ad sh.length q) (zr G sh.length) (sh ++ [(5, N)]) = wq (xT E) ad G sh ++ [(q, .inl (xT E 4, N, .inr (.inr (.inr (.inr (fun _ => none))))))] := by
    rw [wq_push hC]; simp [ec, zr]
  rw [← e] at hP1 hD1
  have := kk (ad1 ad sh.length q) ad1_lt (Cl_zr hC) H1 locs ls hP1 hD1 hS1 hl
  rw [ad1_eq] at this
  exact this
theorem v_putF {a : Nat} {ty : FieldType} {x : Nat × Nat} (C : Cx E own cc nL ret h mc ms) (hin : (xM E).name = "<init>") (hs : sh[q]? = some (0, ci)) (hf : FP own idx ci k 2 ty true) (hn : narrow ty (.ref (ad a)) = .ref (ad a)) (hfit : fits ty (.ref (ad a)) = true) (ha : sh[a]? = some x) (hC : Cl sh G) (hdg : decode cc pc = .ok (.putfield idx, 3)) (kk : ∀ G1, G1 = sR G q k (some a) → Cl sh G1 → VV E cells slots (wq (xT E) ad G1 sh) (pc + 3) lv rest) : VV E cells slots (wq (xT E) ad G sh) pc lv (.ref (ad a) :: .ref (ad q) :: rest) := by
  intro H locs ls hP hD hS hl
  obtain ⟨Cn, T, N, ty0, h1, h2, h3, h4, h5, h6, h7, h8, h9, h10⟩ := hf
  refine va_putF (D := xD E) (ci := ci) (v := .ref (ad a)) C.1 C.2.1 C.2.2.2.2.1 h3 ty0 h6 h7 C.2.2.2.1 C.2.2.2.2.2.1 hP hD hS q (wq_at hs) h1 k h2 (C.2.2.2.2.1 _ h4) (fun _ h9 => h9) h8 hin h9 h10 hn hfit (by rw [fvs_len]; exact (List.getElem?_eq_some_iff.mp h5).1) hdg (fun H1 locs1 hP1 hD1 hS1 => ?_)
  rw [wq_put hs ec_rR (fvs_sR h5)] at hP1 hD1
  exact kk _ rfl (hC.R ha) H1 locs1 ls hP1 hD1 hS1 hl
def OIw (own : String) (idx : Nat) : Prop := Cond.methodLink own idx objectInit ∈ WS ∧ Cond.instanceMethod objectInit ∈ WS ∧ Cond.code objectInit ⟨#[0xb1]⟩ 1 none ∈ WS
theorem v_objInit {a : Nat} {ws : va_W} (C : Cx E own cc nL ret h mc ms) (hw : OIw own idx) (hh : 1 ≤ h) (hr : (rest.map fun v => v.category).sum ≤ 8) (hdg : decode cc pc = .ok (.invokespecial idx, 3)) (kk : VV E cells slots ws (pc + 3) lv rest) : VV E cells slots ws pc lv (.ref a :: rest) := by
  intro H locs ls hP hD hS hl
  refine W.objInit C.1 C.2.1 C.2.2.2.1 (C.2.2.2.2.1 _ hw.1) (C.2.2.2.2.1 _ hw.2.1) (C.2.2.2.2.1 _ hw.2.2) rfl (hl.1.trans (C.2.2.2.2.2.2.2.2.2.1.trans C.2.2.1.symm)) rfl hdg (Nat.le_trans hh (rm_frames C)) (by have hz := rm_locals C; show 2 * 0 + _ + 12 ≤ _; omega) (kk H locs ls hP hD hS hl)
end ALLOC
section CTOR
variable {E : EX} {own : String} {cc : ByteArray} {nL h mc ms cells slots pc : Nat} {ret : Option FieldType} {lv : List (Nat × Value)} {rest st : List Value} {sh sh2 : Sh} {G G2 : Hp} {ad : Nat → Nat} {q k ci idx : Nat}
variable {y : MethodName} {cb : ByteArray} {maxL h2 mc2 ms2 n : Nat} {avs : (Nat → Nat) → List Value} {rv : (Nat → Nat) → Option Value} {As : List Value}
def CSI (own : String) (idx : Nat) (y : MethodName) (cb : ByteArray) (maxL : Nat) (n : Nat) : Prop :=
  Cond.code y cb maxL none ∈ WS ∧ Cond.instanceMethod y ∈ WS ∧ Cond.initialized y.cls ∈ WS ∧ y.name = "<init>" ∧ (y.cls ≠ "java/lang/invoke/MethodHandle" ∧ y.cls ≠ "java/lang/invoke/VarHandle" ∧ (parseMethodDescriptor y.desc).map (fun d => d.parameters.length) = some n) ∧ maxL ≤ 40 ∧ (Cond.methodLink own idx y ∈ WS ∨ (own, idx, y) ∈ nestL)
theorem v_callI (C : Cx E own cc nL ret h mc ms) (hM : MC (xl E) y cb maxL none h2 mc2 ms2 sh sh2 G G2 avs (fun _ => none)) (cs : CSI own idx y cb maxL n) (hh : h2 + 1 ≤ h) (hC : Cl sh G) (hav : avs ad = .ref (ad q) :: As) (hn : As.length = n) (hst : st = As.reverse ++ .ref (ad q) :: rest) (hW : (rest.map fun v => v.category).sum ≤ 8) (hc : cells + mc2 ≤ mc ∧ slots + ms2 ≤ ms) (hdg : decode cc pc = .ok (.invokespecial idx, 3))
    (kk : ∀ ad2, (∀ k, k < sh.length → ad2 k = ad k) → Cl sh2 G2 → VV E (cells + mc2) (slots + ms2) (wq (xT E) ad2 G2 sh2) (pc + 3) lv rest) : VV E cells slots (wq (xT E) ad G sh) pc lv st := by
  intro H locs ls hP hD hS hl
  obtain ⟨c1, c3, c5, c8, c6, c7, c9⟩ := cs
  rcases c9 with c2 | c2
  · exact v_run C hD hS hl (va_runI (As := As) (rest := rest) ⟨C.1, C.2.1, C.2.2.1, C.2.2.2.1, C.2.2.2.2.1⟩ (hM (xD E) (xT E) ad H.size) (cwI n C.2.2.2.2.1 (GoodWS c1) rfl rfl rfl (C.2.2.2.2.1 _ c5) (C.2.2.2.2.1 _ c2) (C.2.2.2.2.1 _ c3) c8 c6 ⟨Nat.le_trans hh (rm_frames C), by have hz := rm_locals C; show 8 + (maxL + 11) + 64 * h2 ≤ _; omega⟩) ⟨pc_blind, pc_pre C hav hP hD hS hC⟩ rfl hn (hl.1.trans C.2.2.2.2.2.2.2.2.2.1) hst (by show 2 * 0 + _ ≤ 8; omega) hdg ⟨Nat.le_trans hc.1 (rm_cells C), Nat.le_trans hc.2 (rm_slots C)⟩) kk
  · exact v_run C hD hS hl (va_runIN (As := As) (rest := rest) ⟨C.1, C.2.1, C.2.2.1, C.2.2.2.1, C.2.2.2.2.1⟩ (hM (xD E) (xT E) ad H.size) ⟨va_cnB n C.2.2.2.2.1 (GoodWS c1) rfl rfl rfl (C.2.2.2.2.2.2.2.2.2.2.2.2.1 _ c2) (C.2.2.2.2.1 _ c5) c6 ⟨Nat.le_trans hh (rm_frames C), by have hz := rm_locals C; show 8 + (maxL + 11) + 64 * h2 ≤ _; omega⟩, c8, C.2.2.2.2.1 _ c3⟩ ⟨pc_blind, pc_pre C hav hP hD hS hC⟩ rfl hn (hl.1.trans C.2.2.2.2.2.2.2.2.2.1) hst (by show 2 * 0 + _ ≤ 8; omega) hdg ⟨Nat.le_trans hc.1 (rm_cells C), Nat.le_trans hc.2 (rm_slots C)⟩) kk
end CTOR
