/-! CONTRACTS AND CALLS. -/
theorem St_call {A B : Nat → Prop} {s U : State} {H : Heap} {locs : List Loc} (h : St A s) (hS : va_S A s.heap H locs) (hU : U.heap = H) (hW : s.WarmedH U.vm) (hAB : ∀ q, B q → A q) : St B U := by
  have hk : ∀ a : Nat, a < s.heap.size → ¬ A a → U.heap[a]? = s.heap[a]? := fun a h1 h2 => by rw [hU]; exact hS.2.1 a h1 h2
  obtain ⟨⟨t, h1, h2⟩, h3, h4, ⟨a, v, h5, h6⟩, h7, h8⟩ := h
  exact ⟨⟨t, ((h1.kept hk).moved hW.alike).narrow hAB, ((h2.kept hk).moved hW.alike).narrow hAB⟩, fun q hq => (h3 q hq).warmM hW, h4.moved hW.alike, ⟨a, v, h5.warm hW, ((h6.kept hk).moved hW.alike).narrow hAB⟩, ((h7.kept hk).moved hW.alike).narrow hAB, ((h8.kept hk).moved hW.alike).narrow hAB⟩
theorem goodIn_ap {big a b : List Cond} (ha : GoodIn big a) (hb : GoodIn big b) : GoodIn big (a ++ b) := fun w h => (List.mem_append.mp h).elim (ha w) (hb w)
def Qg (D : va_G) (tc : Nat → ClassId) (sh sh2 : Sh) (ad : Nat → Nat) (G2 : Hp) (rv : (Nat → Nat) → Option Value) (A : Nat → Prop) : Array Value → State → Outcome → State → Prop := fun _ st o t =>
  ∃ ad2 : Nat → Nat, (∀ k, k < sh.length → ad2 k = ad k) ∧ o = .returned (rv ad2) ∧ va_P D cls (wq tc ad2 G2 sh2) t.heap ∧ va_D A (wq tc ad2 G2 sh2) ∧ Cl sh2 G2 ∧ va_F A st t
/-- a method's contract over pure heaps -/
def MC (l : Launch) (y : MethodName) (cc : ByteArray) (maxL : Nat) (ret : Option FieldType) (h mc ms : Nat) (sh sh2 : Sh) (G G2 : Hp) (avs : (Nat → Nat) → List Value) (rv : (Nat → Nat) → Option Value) : Prop :=
  ∀ (D : va_G) (tc : Nat → ClassId) (ad : Nat → Nat) (sz : Nat), Met l y (Cond.code y cc maxL ret :: WS) (RM h mc ms)
    (va_Pc (avs ad) (fun U => U.heap.size = sz ∧ va_P D cls (wq tc ad G sh) U.heap ∧ va_D (fun _ => True) (wq tc ad G sh) ∧ va_K D cls (tys tc) U ∧ Cl sh G ∧ St (va_A (wq tc ad G sh) sz) U))
    (Qg D tc sh sh2 ad G2 rv (va_A (wq tc ad G sh) sz)) mc ms (va_A (wq tc ad G sh) sz)
theorem wq_ad {tc : Nat → ClassId} {ad ad2 : Nat → Nat} {G : Hp} {sh : Sh} (h : ∀ k, k < sh.length → ad2 k = ad k) (hC : Cl sh G) : wq tc ad2 G sh = wq tc ad G sh := by
  have hr : ∀ q j, (G.2.2 q j).map ad2 = (G.2.2 q j).map ad := fun q j => by
    cases hq : G.2.2 q j with
    | none => rfl
    | some a => simp only [Option.map_some]; rw [h a (hC q j a hq)]
  have he : ∀ q s, ec tc ad2 G q s = ec tc ad G q s := fun q s => by
    have h2 : ∀ ci, fvs ad2 G q ci = fvs ad G q ci := fun ci => by
      unfold fvs; congr 1; funext j kd; unfold fv; rw [hr]
    unfold ec; rw [h2]; simp only [hr]
  apply List.ext_getElem?
  intro i
  cases hs : sh[i]? with
  | none => simp [wq, hs]
  | some x => rw [wq_at hs, wq_at hs, he, h i (List.getElem?_eq_some_iff.mp hs).1]
theorem va_F_S {A0 A1 : Nat → Prop} {H0 : Heap} {H H1 : Heap} {locs L : List Loc} (hS : va_S A0 H0 H locs) (hA : ∀ q, A1 q → A0 q) (hz : H.size ≤ H1.size) (hk : ∀ q : Nat, q < H.size → ¬ A1 q → H1[q]? = H[q]?) (hL : ∀ q ∈ L, A1 q.base) : va_S A0 H0 H1 (locs ++ L) :=
  ⟨Nat.le_trans hS.1 hz, fun q h1 h2 => by rw [hk q (Nat.lt_of_lt_of_le h1 hS.1) (fun z => h2 (hA q z))]; exact hS.2.1 q h1 h2, fun q hq => by
    rcases List.mem_append.mp hq with h | h
    · exact hS.2.2 q h
    · exact hA _ (hL q h)⟩
section CALLS
variable {E : EX} {own : String} {cc : ByteArray} {nL h mc ms cells slots pc : Nat} {ret : Option FieldType} {lv : List (Nat × Value)} {rest st : List Value} {sh sh2 : Sh} {G G2 : Hp} {ad : Nat → Nat} {q k ci idx : Nat}
variable {y : MethodName} {cb : ByteArray} {maxL h2 mc2 ms2 n : Nat} {rt : Option FieldType} {avs : (Nat → Nat) → List Value} {rv : (Nat → Nat) → Option Value} {As : List Value}
theorem wq_free (C : Cx E own cc nL ret h mc ms) {H : Heap} {locs : List Loc} {ws : va_W} (hD : va_D (xA E) ws) (hS : va_S (xA E) (xs E).heap H locs) : ∀ q, va_A ws H.size q → xA E q := by
  intro q hq
  rcases hq with ⟨k, e, hk⟩ | hq
  · exact hD.2 k _ hk
  · exact C.2.2.2.2.2.2.1 q (Nat.le_trans hS.1 hq)
/-- behind a call's run -/
theorem v_run (C : Cx E own cc nL ret h mc ms) {H : Heap} {locs : List Loc} {ls : Array Slot} {a : Array Value} (hD : va_D (xA E) (wq (xT E) ad G sh)) (hS : va_S (xA E) (xs E).heap H locs) (hl : lv_has ls (xn E) lv)
    (hr : va_Run (xp E) (xl E) (xe E) (xR E) (xs E) (xm E) (xa E) (xb E) (xM E) (xc E) H locs cells slots mc2 ms2 (F0 (xm E) pc ls st) rest (Qg (xD E) (xT E) sh sh2 ad G2 rv (va_A (wq (xT E) ad G sh) H.size) a) (va_A (wq (xT E) ad G sh) H.size))
    (kk : ∀ ad2, (∀ k, k < sh.length → ad2 k = ad k) → Cl sh2 G2 → VV E (cells + mc2) (slots + ms2) (wq (xT E) ad2 G2 sh2) (pc + 3) lv ((rv ad2).toList ++ rest)) :
    W (xp E) (xl E) (xe E) (xR E) (xs E) (xm E) (xa E) (xb E) (xM E) (xc E) H locs cells slots (xQ E) (F0 (xm E) pc ls st) := by
  intro T hT X
  obtain ⟨v, st₀, t, T', L, h0, X', hL, e1, e2, ⟨ad2, had, hv, hP2, hD2, hC2, hz, hk⟩, go⟩ := hr T hT X
  cases hv
  rw [h0] at hz hk
  have hF := wq_free C hD hS
  obtain ⟨t2, a1, b1⟩ := kk ad2 had hC2 T'.heap (locs ++ L) ls (by rw [e1]; exact hP2) (hD2.weaken (fun k q _ hq => hF q.1 hq)) (va_F_S hS hF (by rw [e1]; exact hz) (fun q h1 h2 => by rw [e1]; exact hk q h1 h2) hL) hl T' rfl X'
  exact ⟨t2, go t2 a1, b1⟩
/-- what a call's place needs of the tables: a virtual call, a static one -/
def CSV (own : String) (idx : Nat) (Cn : String) (y : MethodName) (cb : ByteArray) (maxL : Nat) (rt : Option FieldType) (n : Nat) : Prop :=
  Cond.code y cb maxL rt ∈ WS ∧ Cond.methodLink own idx y ∈ WS ∧ Cond.instanceMethod y ∈ WS ∧ Cond.selects Cn y y ∈ WS ∧ Cond.initialized Cn ∈ WS ∧ (y.cls = Cn ∧ y.cls ≠ "java/lang/invoke/MethodHandle" ∧ y.cls ≠ "java/lang/invoke/VarHandle" ∧ (parseMethodDescriptor y.desc).map (fun d => d.parameters.length) = some n) ∧ maxL ≤ 40
def CSS (own : String) (idx : Nat) (y : MethodName) (cb : ByteArray) (maxL : Nat) (rt : Option FieldType) (n : Nat) : Prop :=
  Cond.code y cb maxL rt ∈ WS ∧ Cond.methodLink own idx y ∈ WS ∧ Cond.static y ∈ WS ∧ Cond.initialized y.cls ∈ WS ∧ (y.cls ≠ "java/lang/invoke/MethodHandle" ∧ y.cls ≠ "java/lang/invoke/VarHandle" ∧ (parseMethodDescriptor y.desc).map (fun d => d.parameters.length) = some n) ∧ maxL ≤ 40
theorem pc_blind {D : va_G} {tc : Nat → ClassId} {sz : Nat} {A : Nat → Prop} {av : List Value} : FrameBlind (va_Pc av (fun U => U.heap.size = sz ∧ va_P D cls (wq tc ad G sh) U.heap ∧ va_D (fun _ => True) (wq tc ad G sh) ∧ va_K D cls (tys tc) U ∧ Cl sh G ∧ St A U)) := by
  intro a U g mk hq
  obtain ⟨q0, q1, qP, qD, qK, qC, qS⟩ := hq
  exact ⟨q0, q1, qP, qD, va_K.moved (u := U) (U := U.calling g mk a) (Vm.Alike.refl U.vm) qK, qC, qS.1, fun q hq => (qS.2.1 q hq).same rfl rfl, (qS.2.2.1).moved (Vm.Alike.refl U.vm), ⟨qS.2.2.2.1.choose, qS.2.2.2.1.choose_spec.choose, qS.2.2.2.1.choose_spec.choose_spec.1.same rfl, qS.2.2.2.1.choose_spec.choose_spec.2⟩, qS.2.2.2.2⟩
theorem pc_pre (C : Cx E own cc nL ret h mc ms) {H : Heap} {locs : List Loc} {av : List Value} (hav : avs ad = av) (hP : va_P (xD E) cls (wq (xT E) ad G sh) H) (hD : va_D (xA E) (wq (xT E) ad G sh)) (hS : va_S (xA E) (xs E).heap H locs) (hC : Cl sh G) : ∀ U : State, U.heap = H → (xs E).WarmedH U.vm →
    va_Pc (avs ad) (fun U => U.heap.size = H.size ∧ va_P (xD E) cls (wq (xT E) ad G sh) U.heap ∧ va_D (fun _ => True) (wq (xT E) ad G sh) ∧ va_K (xD E) cls (tys (xT E)) U ∧ Cl sh G ∧ St (va_A (wq (xT E) ad G sh) H.size) U) av.toArray U := by
  intro U hU hW
  refine ⟨by rw [hav], by rw [hU], by rw [hU]; exact hP, hD.weaken (fun _ _ _ _ => trivial), va_K.moved hW.alike C.2.2.2.2.2.1, hC, St_call C.2.2.2.2.2.2.2.2.2.2.2 hS hU hW (wq_free C hD hS)⟩
theorem GoodWS (hc : Cond.code y cb maxL rt ∈ WS) : GoodIn WS (Cond.code y cb maxL rt :: WS) := WS_sub (fun w hw => (List.mem_cons.mp hw).elim (fun e => e ▸ hc) id)
theorem v_callVx (C : Cx E own cc nL ret h mc ms) {Cn : String} (hM : MC (xl E) y cb maxL rt h2 mc2 ms2 sh sh2 G G2 avs rv) (cs : CSV own idx Cn y cb maxL rt n) (hh : h2 + 1 ≤ h) (hs : sh[q]? = some (0, ci)) (hcn : (cls[ci]?).map (fun r => r.1) = some Cn) (hC : Cl sh G) (hav : avs ad = .ref (ad q) :: As) (hn : As.length = n) (hst : st = As.reverse ++ .ref (ad q) :: rest) (hW : (rest.map fun v => v.category).sum ≤ 8) (hc : cells + mc2 ≤ mc ∧ slots + ms2 ≤ ms) (hdg : decode cc pc = .ok (.invokevirtual idx, 3))
    (kk : ∀ ad2, (∀ k, k < sh.length → ad2 k = ad k) → Cl sh2 G2 → VV E (cells + mc2) (slots + ms2) (wq (xT E) ad2 G2 sh2) (pc + 3) lv ((rv ad2).toList ++ rest)) : VV E cells slots (wq (xT E) ad G sh) pc lv st := by
  intro H locs ls hP hD hS hl
  obtain ⟨c1, c2, c3, c4, c5, c6, c7⟩ := cs
  cases hcl : cls[ci]? with
  | none => rw [hcl] at hcn; cases hcn
  | some r =>
    rw [hcl] at hcn
    have hr1 : r.1 = Cn := Option.some.inj hcn
    have hrecv := va_recv C.2.2.2.2.2.1 hP hcl (wq_at hs)
    rw [hr1] at hrecv
    refine v_run C hD hS hl (va_runV (As := As) (rest := rest) (C := Cn) ⟨C.1, C.2.1, C.2.2.1, C.2.2.2.1, C.2.2.2.2.1⟩ (hM (xD E) (xT E) ad H.size) (cwV n C.2.2.2.2.1 (goodIn_ap (WS_sub (by
      intro w hw
      simp only [List.mem_cons, List.not_mem_nil, or_false] at hw
      rcases hw with rfl | rfl | rfl | rfl
      · exact c2
      · exact c3
      · exact c4
      · exact c5)) (GoodWS c1)) rfl rfl rfl c6 ⟨Nat.le_trans hh (rm_frames C), by have hz := rm_locals C; show 8 + (maxL + 11) + 64 * h2 ≤ _; omega⟩) ⟨pc_blind, hrecv, pc_pre C hav hP hD hS hC⟩ rfl hn (hl.1.trans C.2.2.2.2.2.2.2.2.2.1) hst (by show 2 * 0 + _ ≤ 8; omega) hdg ⟨Nat.le_trans hc.1 (rm_cells C), Nat.le_trans hc.2 (rm_slots C)⟩) kk
theorem v_callSx (C : Cx E own cc nL ret h mc ms) (hM : MC (xl E) y cb maxL rt h2 mc2 ms2 sh sh2 G G2 avs rv) (cs : CSS own idx y cb maxL rt n) (hh : h2 + 1 ≤ h) (hC : Cl sh G) (hav : avs ad = As) (hn : As.length = n) (hst : st = As.reverse ++ rest) (hW : (rest.map fun v => v.category).sum ≤ 8) (hc : cells + mc2 ≤ mc ∧ slots + ms2 ≤ ms) (hdg : decode cc pc = .ok (.invokestatic idx, 3))
    (kk : ∀ ad2, (∀ k, k < sh.length → ad2 k = ad k) → Cl sh2 G2 → VV E (cells + mc2) (slots + ms2) (wq (xT E) ad2 G2 sh2) (pc + 3) lv ((rv ad2).toList ++ rest)) : VV E cells slots (wq (xT E) ad G sh) pc lv st := by
  intro H locs ls hP hD hS hl
  obtain ⟨c1, c2, c3, c4, c6, c7⟩ := cs
  refine v_run C hD hS hl (va_runS (As := As) (rest := rest) ⟨C.1, C.2.1, C.2.2.1, C.2.2.2.1, C.2.2.2.2.1⟩ (hM (xD E) (xT E) ad H.size) (va_cwS n C.2.2.2.2.1 (goodIn_ap (WS_sub (by
      intro w hw
      simp only [List.mem_cons, List.not_mem_nil, or_false] at hw
      rcases hw with rfl | rfl | rfl
      · exact c2
      · exact c3
      · exact c4)) (GoodWS c1)) rfl rfl rfl c6 ⟨Nat.le_trans hh (rm_frames C), by have hz := rm_locals C; show 8 + (maxL + 11) + 64 * h2 ≤ _; omega⟩) ⟨pc_blind, pc_pre C hav hP hD hS hC⟩ rfl hn (hl.1.trans C.2.2.2.2.2.2.2.2.2.1) hst (by show 2 * 0 + _ ≤ 8; omega) hdg ⟨Nat.le_trans hc.1 (rm_cells C), Nat.le_trans hc.2 (rm_slots C)⟩) kk
end CALLS
