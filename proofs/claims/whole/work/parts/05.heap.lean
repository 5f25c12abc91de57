/-! PURE READS AND WRITES, and their rows. -/
def ln (sh : Sh) (q : Nat) : Nat := match sh[q]? with
  | some s => s.2
  | none => 0
theorem ln_of {sh : Sh} {q : Nat} {t n : Nat} (h : sh[q]? = some (t, n)) : ln sh q = n := by simp [ln, h]
/-- q is an array of the kind t -/
def tg (sh : Sh) (q t : Nat) : Prop := ∃ n, sh[q]? = some (t, n)
def ldO (sh : Sh) (G : Hp) (q k ci : Nat) : Option Nat := (G.2.2 q k).bind fun a => if sh[a]? = some (0, ci) then some a else none
def ldA (sh : Sh) (G : Hp) (q k t : Nat) : Option Nat := (G.2.2 q k).bind fun a => if (sh[a]?).map (fun s => s.1) = some t then some a else none
theorem ldO_some {sh : Sh} {G : Hp} {q k ci a : Nat} (h : ldO sh G q k ci = some a) : G.2.2 q k = some a ∧ sh[a]? = some (0, ci) := by
  unfold ldO at h
  cases hr : G.2.2 q k with
  | none => rw [hr] at h; cases h
  | some b =>
    rw [hr] at h
    simp only [Option.bind_some] at h
    split at h
    · cases h; exact ⟨rfl, by assumption⟩
    · cases h
theorem ldA_some {sh : Sh} {G : Hp} {q k t a : Nat} (h : ldA sh G q k t = some a) : G.2.2 q k = some a ∧ tg sh a t := by
  unfold ldA at h
  cases hr : G.2.2 q k with
  | none => rw [hr] at h; cases h
  | some b =>
    rw [hr] at h
    simp only [Option.bind_some] at h
    split at h
    · rename_i hs
      cases h
      cases hb : sh[a]? with
      | none => rw [hb] at hs; cases hs
      | some x =>
        rw [hb] at hs
        obtain ⟨x1, x2⟩ := x
        simp at hs
        subst hs
        exact ⟨rfl, x2, hb⟩
    · cases h
def okx (i : Int32) (n : Nat) : Prop := ¬ i < 0 ∧ i.toNatClampNeg < n
theorem okx_in {i : Int32} {n : Nat} (h : okx i n) : vp_in i n := fun h2 => h2.elim h.1 (fun h3 => absurd h.2 (Nat.not_lt.mpr h3))
def aI (sh : Sh) (G : Hp) (q : Nat) (i : Int32) : Option Int32 := if ¬ i < 0 ∧ i.toNatClampNeg < ln sh q then some (G.1 q i.toNatClampNeg) else none
def aJ (sh : Sh) (G : Hp) (q : Nat) (i : Int32) : Option Int64 := if ¬ i < 0 ∧ i.toNatClampNeg < ln sh q then some (G.2.1 q i.toNatClampNeg) else none
def aR (sh : Sh) (G : Hp) (q : Nat) (i : Int32) (ci : Nat) : Option Nat := if ¬ i < 0 ∧ i.toNatClampNeg < ln sh q then ldO sh G q i.toNatClampNeg ci else none
def asI (sh : Sh) (G : Hp) (q : Nat) (i : Int32) (x : Int32) : Option Hp := if ¬ i < 0 ∧ i.toNatClampNeg < ln sh q then some (sI G q i.toNatClampNeg x) else none
def asJ (sh : Sh) (G : Hp) (q : Nat) (i : Int32) (x : Int64) : Option Hp := if ¬ i < 0 ∧ i.toNatClampNeg < ln sh q then some (sJ G q i.toNatClampNeg x) else none
def asR (sh : Sh) (G : Hp) (q : Nat) (i : Int32) (a : Nat) : Option Hp := if ¬ i < 0 ∧ i.toNatClampNeg < ln sh q then some (sR G q i.toNatClampNeg (some a)) else none
def cpI (sh : Sh) (G : Hp) (q0 : Nat) (sp : Int32) (q1 : Nat) (dp n : Int32) : Option Hp := if (¬ sp < 0 ∧ ¬ dp < 0 ∧ ¬ n < 0) ∧ sp.toNatClampNeg + n.toNatClampNeg ≤ ln sh q0 ∧ dp.toNatClampNeg + n.toNatClampNeg ≤ ln sh q1 then some (rI G q1 (va_cpy (G.1 q0) (G.1 q1) sp.toNatClampNeg dp.toNatClampNeg n.toNatClampNeg)) else none
def cpJ (sh : Sh) (G : Hp) (q0 : Nat) (sp : Int32) (q1 : Nat) (dp n : Int32) : Option Hp := if (¬ sp < 0 ∧ ¬ dp < 0 ∧ ¬ n < 0) ∧ sp.toNatClampNeg + n.toNatClampNeg ≤ ln sh q0 ∧ dp.toNatClampNeg + n.toNatClampNeg ≤ ln sh q1 then some (rJ G q1 (va_cpy (G.2.1 q0) (G.2.1 q1) sp.toNatClampNeg dp.toNatClampNeg n.toNatClampNeg)) else none
theorem ite_some {c : Prop} [Decidable c] {α : Type} {a b : α} (h : (if c then some a else none) = some b) : c ∧ a = b := by
  split at h
  · rename_i hc; cases h; exact ⟨hc, rfl⟩
  · cases h
/-- a field's row in the tables -/
def FL (own : String) (idx ci k kd : Nat) : Prop := ∃ (C : String) (T : u_T) (N : Nat), cls[ci]? = some (C, T, N) ∧ k < N ∧ (∀ w ∈ u_ws C T N, w ∈ WS) ∧ Cond.fieldLink own idx (T k).1 (T k).2.1 (T k).2.2.1 ∈ WS ∧ (fk ci)[k]? = some kd
def FP (own : String) (idx ci k kd : Nat) (ty : FieldType) (fin : Bool) : Prop := ∃ (C : String) (T : u_T) (N : Nat) (ty0 : Nat → FieldType), cls[ci]? = some (C, T, N) ∧ k < N ∧ (∀ w ∈ u_ws C T N, w ∈ WS) ∧ Cond.fieldLink own idx (T k).1 (T k).2.1 (T k).2.2.1 ∈ WS ∧ (fk ci)[k]? = some kd ∧
  (∀ k, k < N → parseFieldDescriptor (T k).2.2.1 = some (ty0 k)) ∧ (∀ a, a < N → ∀ b, b < N → a ≠ b → (T a).2.1 ≠ (T b).2.1) ∧ (T k).2.2.2 = fin ∧ (T k).1 = own ∧ parseFieldDescriptor (T k).2.2.1 = some ty
def FPn (own : String) (idx ci k kd : Nat) (ty : FieldType) : Prop := ∃ (C : String) (T : u_T) (N : Nat) (ty0 : Nat → FieldType), cls[ci]? = some (C, T, N) ∧ k < N ∧ (∀ w ∈ u_ws C T N, w ∈ WS) ∧ Cond.fieldLink own idx (T k).1 (T k).2.1 (T k).2.2.1 ∈ WS ∧ (fk ci)[k]? = some kd ∧
  (∀ k, k < N → parseFieldDescriptor (T k).2.2.1 = some (ty0 k)) ∧ (∀ a, a < N → ∀ b, b < N → a ≠ b → (T a).2.1 ≠ (T b).2.1) ∧ (T k).2.2.2 = false ∧ parseFieldDescriptor (T k).2.2.1 = some ty
section HEAP
variable {E : EX} {own : String} {cc : ByteArray} {nL h mc ms cells slots pc : Nat} {ret : Option FieldType} {lv : List (Nat × Value)} {rest : List Value} {sh : Sh} {G : Hp} {ad : Nat → Nat} {q k ci idx : Nat}
theorem v_get {kd : Nat} {v : Value} (C : Cx E own cc nL ret h mc ms) (hs : sh[q]? = some (0, ci)) (hf : FL own idx ci k kd) (hv : fv ad G q k kd = v) (hdg : decode cc pc = .ok (.getfield idx, 3)) (kk : VV E cells slots (wq (xT E) ad G sh) (pc + 3) lv (v :: rest)) : VV E cells slots (wq (xT E) ad G sh) pc lv (.ref (ad q) :: rest) := by
  intro H locs ls hP hD hS hl
  obtain ⟨Cn, T, N, h1, h2, h3, h4, h5⟩ := hf
  exact va_get (D := xD E) (ci := ci) (v := v) C.1 C.2.1 C.2.2.2.2.1 h3 C.2.2.2.1 C.2.2.2.2.2.1 hP q (wq_at hs) h1 k h2 (C.2.2.2.2.1 _ h4) (fun _ h9 => h9) (by rw [fvs_at h5, hv]) hdg (kk H locs ls hP hD hS hl)
theorem v_getI (C : Cx E own cc nL ret h mc ms) (hs : sh[q]? = some (0, ci)) (hf : FL own idx ci k 0) (hdg : decode cc pc = .ok (.getfield idx, 3)) (kk : VV E cells slots (wq (xT E) ad G sh) (pc + 3) lv (.int (G.1 q k) :: rest)) : VV E cells slots (wq (xT E) ad G sh) pc lv (.ref (ad q) :: rest) := v_get C hs hf rfl hdg kk
theorem v_getJ (C : Cx E own cc nL ret h mc ms) (hs : sh[q]? = some (0, ci)) (hf : FL own idx ci k 1) (hdg : decode cc pc = .ok (.getfield idx, 3)) (kk : VV E cells slots (wq (xT E) ad G sh) (pc + 3) lv (.long (G.2.1 q k) :: rest)) : VV E cells slots (wq (xT E) ad G sh) pc lv (.ref (ad q) :: rest) := v_get C hs hf rfl hdg kk
theorem v_getO {a cj : Nat} (C : Cx E own cc nL ret h mc ms) (hs : sh[q]? = some (0, ci)) (hf : FL own idx ci k 2) (ha : ldO sh G q k cj = some a) (hdg : decode cc pc = .ok (.getfield idx, 3)) (kk : sh[a]? = some (0, cj) → VV E cells slots (wq (xT E) ad G sh) (pc + 3) lv (.ref (ad a) :: rest)) : VV E cells slots (wq (xT E) ad G sh) pc lv (.ref (ad q) :: rest) := v_get C hs hf (by show va_rf ((G.2.2 q k).map ad) = _; rw [(ldO_some ha).1]; rfl) hdg (kk (ldO_some ha).2)
theorem v_getA {a t : Nat} (C : Cx E own cc nL ret h mc ms) (hs : sh[q]? = some (0, ci)) (hf : FL own idx ci k 2) (ha : ldA sh G q k t = some a) (hdg : decode cc pc = .ok (.getfield idx, 3)) (kk : tg sh a t → VV E cells slots (wq (xT E) ad G sh) (pc + 3) lv (.ref (ad a) :: rest)) : VV E cells slots (wq (xT E) ad G sh) pc lv (.ref (ad q) :: rest) := v_get C hs hf (by show va_rf ((G.2.2 q k).map ad) = _; rw [(ldA_some ha).1]; rfl) hdg (kk (ldA_some ha).2)
theorem wq_put {tc : Nat → ClassId} {G' : Hp} {v : Value} (hs : sh[q]? = some (0, ci)) (hG : ∀ k, k ≠ q → ∀ s, ec tc ad G' k s = ec tc ad G k s) (hv : (fvs ad G q ci).set k v = fvs ad G' q ci) : (wq tc ad G sh).set q (ad q, .inr (ci, (fvs ad G q ci).set k v)) = wq tc ad G' sh :=
  wq_set hs hG (by rw [hv]; rfl)
theorem v_put {kd : Nat} {ty : FieldType} {v : Value} {G' : Hp} (C : Cx E own cc nL ret h mc ms) (hs : sh[q]? = some (0, ci)) (hf : FPn own idx ci k kd ty) (hn : narrow ty v = v) (hfit : fits ty v = true) (hG : ∀ k, k ≠ q → ∀ s, ec (xT E) ad G' k s = ec (xT E) ad G k s) (hv : (fk ci)[k]? = some kd → (fvs ad G q ci).set k v = fvs ad G' q ci) (hdg : decode cc pc = .ok (.putfield idx, 3)) (kk : VV E cells slots (wq (xT E) ad G' sh) (pc + 3) lv rest) : VV E cells slots (wq (xT E) ad G sh) pc lv (v :: .ref (ad q) :: rest) := by
  intro H locs ls hP hD hS hl
  obtain ⟨Cn, T, N, ty0, h1, h2, h3, h4, h5, h6, h7, h8, h9⟩ := hf
  refine va_put (D := xD E) (ci := ci) (v := v) C.1 C.2.1 C.2.2.2.2.1 h3 ty0 h6 h7 C.2.2.2.1 C.2.2.2.2.2.1 hP hD hS q (wq_at hs) h1 k h2 (C.2.2.2.2.1 _ h4) (fun _ h9 => h9) h8 h9 hn hfit (by rw [fvs_len]; exact (List.getElem?_eq_some_iff.mp h5).1) hdg (fun H1 locs1 hP1 hD1 hS1 => ?_)
  rw [wq_put hs hG (hv h5)] at hP1 hD1
  exact kk H1 locs1 ls hP1 hD1 hS1 hl
theorem v_putI {v : Int32} (C : Cx E own cc nL ret h mc ms) (hs : sh[q]? = some (0, ci)) (hf : FPn own idx ci k 0 .int) (hdg : decode cc pc = .ok (.putfield idx, 3)) (kk : ∀ G1, G1 = sI G q k v → VV E cells slots (wq (xT E) ad G1 sh) (pc + 3) lv rest) : VV E cells slots (wq (xT E) ad G sh) pc lv (.int v :: .ref (ad q) :: rest) := v_put C hs hf rfl rfl ec_rI fvs_sI hdg (kk _ rfl)
theorem v_putZ {v : Int32} (C : Cx E own cc nL ret h mc ms) (hs : sh[q]? = some (0, ci)) (hf : FPn own idx ci k 0 .boolean) (hz : v = 0 ∨ v = 1) (hdg : decode cc pc = .ok (.putfield idx, 3)) (kk : ∀ G1, G1 = sI G q k v → VV E cells slots (wq (xT E) ad G1 sh) (pc + 3) lv rest) : VV E cells slots (wq (xT E) ad G sh) pc lv (.int v :: .ref (ad q) :: rest) := v_put C hs hf (by rcases hz with rfl | rfl <;> decide) (by rcases hz with rfl | rfl <;> decide) ec_rI fvs_sI hdg (kk _ rfl)
theorem v_putR {a : Nat} {ty : FieldType} {x : Nat × Nat} (C : Cx E own cc nL ret h mc ms) (hs : sh[q]? = some (0, ci)) (hf : FPn own idx ci k 2 ty) (hn : narrow ty (.ref (ad a)) = .ref (ad a)) (hfit : fits ty (.ref (ad a)) = true) (ha : sh[a]? = some x) (hC : Cl sh G) (hdg : decode cc pc = .ok (.putfield idx, 3)) (kk : ∀ G1, G1 = sR G q k (some a) → Cl sh G1 → VV E cells slots (wq (xT E) ad G1 sh) (pc + 3) lv rest) : VV E cells slots (wq (xT E) ad G sh) pc lv (.ref (ad a) :: .ref (ad q) :: rest) := v_put C hs hf hn hfit ec_rR fvs_sR hdg (kk _ rfl (hC.R ha))
theorem v_iald {i v : Int32} (C : Cx E own cc nL ret h mc ms) (hs : tg sh q 1) (hv : aI sh G q i = some v) (hdg : decode cc pc = .ok (.iaload, 1)) (kk : VV E cells slots (wq (xT E) ad G sh) (pc + 1) lv (.int v :: rest)) : VV E cells slots (wq (xT E) ad G sh) pc lv (.int i :: .ref (ad q) :: rest) := by
  obtain ⟨n, hs⟩ := hs
  obtain ⟨h1, rfl⟩ := ite_some hv
  rw [ln_of hs] at h1
  exact fun H locs ls hP hD hS hl => va_iald C.1 C.2.1 C.2.2.2.2.2.1 hP q 0 (wq_at hs) rfl (okx_in h1) hdg (kk H locs ls hP hD hS hl)
theorem v_bald {i v : Int32} (C : Cx E own cc nL ret h mc ms) (hs : tg sh q 2) (hv : aI sh G q i = some v) (hdg : decode cc pc = .ok (.baload, 1)) (kk : VV E cells slots (wq (xT E) ad G sh) (pc + 1) lv (.int v :: rest)) : VV E cells slots (wq (xT E) ad G sh) pc lv (.int i :: .ref (ad q) :: rest) := by
  obtain ⟨n, hs⟩ := hs
  obtain ⟨h1, rfl⟩ := ite_some hv
  rw [ln_of hs] at h1
  exact fun H locs ls hP hD hS hl => va_bald C.1 C.2.1 C.2.2.2.2.2.1 hP q 1 (wq_at hs) rfl (okx_in h1) hdg (kk H locs ls hP hD hS hl)
theorem v_zald {i v : Int32} (C : Cx E own cc nL ret h mc ms) (hs : tg sh q 3) (hv : aI sh G q i = some v) (hdg : decode cc pc = .ok (.baload, 1)) (kk : VV E cells slots (wq (xT E) ad G sh) (pc + 1) lv (.int v :: rest)) : VV E cells slots (wq (xT E) ad G sh) pc lv (.int i :: .ref (ad q) :: rest) := by
  obtain ⟨n, hs⟩ := hs
  obtain ⟨h1, rfl⟩ := ite_some hv
  rw [ln_of hs] at h1
  exact fun H locs ls hP hD hS hl => va_zald C.1 C.2.1 C.2.2.2.2.2.1 hP q 2 (wq_at hs) rfl (okx_in h1) hdg (kk H locs ls hP hD hS hl)
theorem v_lald {i : Int32} {v : Int64} (C : Cx E own cc nL ret h mc ms) (hs : tg sh q 4) (hv : aJ sh G q i = some v) (hdg : decode cc pc = .ok (.laload, 1)) (kk : VV E cells slots (wq (xT E) ad G sh) (pc + 1) lv (.long v :: rest)) : VV E cells slots (wq (xT E) ad G sh) pc lv (.int i :: .ref (ad q) :: rest) := by
  obtain ⟨n, hs⟩ := hs
  obtain ⟨h1, rfl⟩ := ite_some hv
  rw [ln_of hs] at h1
  exact fun H locs ls hP hD hS hl => va_lald C.1 C.2.1 C.2.2.2.2.2.1 hP q 3 (wq_at hs) rfl (okx_in h1) hdg (kk H locs ls hP hD hS hl)
theorem v_aald {i : Int32} {a cj : Nat} (C : Cx E own cc nL ret h mc ms) (hs : tg sh q 5) (hv : aR sh G q i cj = some a) (hdg : decode cc pc = .ok (.aaload, 1)) (kk : sh[a]? = some (0, cj) → VV E cells slots (wq (xT E) ad G sh) (pc + 1) lv (.ref (ad a) :: rest)) : VV E cells slots (wq (xT E) ad G sh) pc lv (.int i :: .ref (ad q) :: rest) := by
  obtain ⟨n, hs⟩ := hs
  unfold aR at hv
  split at hv
  · rename_i h1
    rw [ln_of hs] at h1
    obtain ⟨h2, h3⟩ := ldO_some hv
    refine fun H locs ls hP hD hS hl => va_aldq C.1 C.2.1 C.2.2.2.2.2.1 hP q 4 (wq_at hs) rfl (okx_in h1) hdg ?_
    rw [h2]
    exact kk h3 H locs ls hP hD hS hl
  · cases hv
theorem v_iast {i x : Int32} {G1 : Hp} (C : Cx E own cc nL ret h mc ms) (hs : tg sh q 1) (hv : asI sh G q i x = some G1) (hC : Cl sh G) (hdg : decode cc pc = .ok (.iastore, 1)) (kk : Cl sh G1 → VV E cells slots (wq (xT E) ad G1 sh) (pc + 1) lv rest) : VV E cells slots (wq (xT E) ad G sh) pc lv (.int x :: .int i :: .ref (ad q) :: rest) := by
  obtain ⟨n, hs⟩ := hs
  obtain ⟨h1, rfl⟩ := ite_some hv
  rw [ln_of hs] at h1
  refine fun H locs ls hP hD hS hl => va_iast C.1 C.2.1 C.2.2.2.2.2.1 hP hD hS q 0 (wq_at hs) rfl (okx_in h1) hdg (fun H1 locs1 hP1 hD1 hS1 => ?_)
  rw [wq_set (G' := sI G q i.toNatClampNeg x) hs ec_rI (by simp [ec, sI, rI])] at hP1 hD1
  exact kk hC H1 locs1 ls hP1 hD1 hS1 hl
theorem v_bast {i x : Int32} {G1 : Hp} (C : Cx E own cc nL ret h mc ms) (hs : tg sh q 2) (hv : asI sh G q i x.toInt8.toInt32 = some G1) (hC : Cl sh G) (hdg : decode cc pc = .ok (.bastore, 1)) (kk : Cl sh G1 → VV E cells slots (wq (xT E) ad G1 sh) (pc + 1) lv rest) : VV E cells slots (wq (xT E) ad G sh) pc lv (.int x :: .int i :: .ref (ad q) :: rest) := by
  obtain ⟨n, hs⟩ := hs
  obtain ⟨h1, rfl⟩ := ite_some hv
  rw [ln_of hs] at h1
  refine fun H locs ls hP hD hS hl => va_bast C.1 C.2.1 C.2.2.2.2.2.1 hP hD hS q 1 (wq_at hs) rfl (okx_in h1) hdg (fun H1 locs1 hP1 hD1 hS1 => ?_)
  rw [vp_nar_byte, wq_set (G' := sI G q i.toNatClampNeg x.toInt8.toInt32) hs ec_rI (by simp [ec, sI, rI])] at hP1 hD1
  exact kk hC H1 locs1 ls hP1 hD1 hS1 hl
def zb (x : Int32) : Int32 := vp_nar .boolean x
theorem zb_0 : zb 0 = 0 := by decide
theorem zb_1 : zb 1 = 1 := by decide
theorem v_zast {i x : Int32} {G1 : Hp} (C : Cx E own cc nL ret h mc ms) (hs : tg sh q 3) (hv : asI sh G q i (zb x) = some G1) (hC : Cl sh G) (hdg : decode cc pc = .ok (.bastore, 1)) (kk : Cl sh G1 → VV E cells slots (wq (xT E) ad G1 sh) (pc + 1) lv rest) : VV E cells slots (wq (xT E) ad G sh) pc lv (.int x :: .int i :: .ref (ad q) :: rest) := by
  obtain ⟨n, hs⟩ := hs
  obtain ⟨h1, rfl⟩ := ite_some hv
  rw [ln_of hs] at h1
  refine fun H locs ls hP hD hS hl => va_zast C.1 C.2.1 C.2.2.2.2.2.1 hP hD hS q 2 (wq_at hs) rfl (okx_in h1) hdg (fun H1 locs1 hP1 hD1 hS1 => ?_)
  rw [wq_set (G' := sI G q i.toNatClampNeg (zb x)) hs ec_rI (by simp [ec, sI, rI, zb])] at hP1 hD1
  exact kk hC H1 locs1 ls hP1 hD1 hS1 hl
theorem v_last {i : Int32} {x : Int64} {G1 : Hp} (C : Cx E own cc nL ret h mc ms) (hs : tg sh q 4) (hv : asJ sh G q i x = some G1) (hC : Cl sh G) (hdg : decode cc pc = .ok (.lastore, 1)) (kk : Cl sh G1 → VV E cells slots (wq (xT E) ad G1 sh) (pc + 1) lv rest) : VV E cells slots (wq (xT E) ad G sh) pc lv (.long x :: .int i :: .ref (ad q) :: rest) := by
  obtain ⟨n, hs⟩ := hs
  obtain ⟨h1, rfl⟩ := ite_some hv
  rw [ln_of hs] at h1
  refine fun H locs ls hP hD hS hl => va_last C.1 C.2.1 C.2.2.2.2.2.1 hP hD hS q 3 (wq_at hs) rfl (okx_in h1) hdg (fun H1 locs1 hP1 hD1 hS1 => ?_)
  rw [wq_set (G' := sJ G q i.toNatClampNeg x) hs ec_rJ (by simp [ec, sJ, rJ])] at hP1 hD1
  exact kk hC H1 locs1 ls hP1 hD1 hS1 hl
theorem v_aast {i : Int32} {a : Nat} {G1 : Hp} (C : Cx E own cc nL ret h mc ms) (hs : tg sh q 5) (ha : sh[a]? = some (0, 1)) (hv : asR sh G q i a = some G1) (hC : Cl sh G) (hdg : decode cc pc = .ok (.aastore, 1)) (kk : Cl sh G1 → VV E cells slots (wq (xT E) ad G1 sh) (pc + 1) lv rest) : VV E cells slots (wq (xT E) ad G sh) pc lv (.ref (ad a) :: .int i :: .ref (ad q) :: rest) := by
  obtain ⟨n, hs⟩ := hs
  obtain ⟨h1, rfl⟩ := ite_some hv
  rw [ln_of hs] at h1
  refine fun H locs ls hP hD hS hl => va_astq (r := (RX1, TX1, 9)) C.1 C.2.1 C.2.2.2.2.2.1 hP hD hS q 4 a 1 (wq_at hs) rfl (wq_at ha) rfl (okx_in h1) hdg (fun H1 locs1 hP1 hD1 hS1 => ?_)
  rw [wq_set (G' := sR G q i.toNatClampNeg (some a)) hs ec_rR (by
    simp only [ec, sR, rR, if_true]
    congr 7
    funext j
    by_cases hj : j = i.toNatClampNeg <;> simp [va_up, hj])] at hP1 hD1
  exact kk (hC.R ha) H1 locs1 ls hP1 hD1 hS1 hl
theorem v_alen {t : Nat} (C : Cx E own cc nL ret h mc ms) (hs : tg sh q t) (ht : 1 ≤ t ∧ t ≤ 5) (hdg : decode cc pc = .ok (.arraylength, 1)) (kk : VV E cells slots (wq (xT E) ad G sh) (pc + 1) lv (.int (nI (ln sh q)) :: rest)) : VV E cells slots (wq (xT E) ad G sh) pc lv (.ref (ad q) :: rest) := by
  obtain ⟨n, hs⟩ := hs
  rw [ln_of hs] at kk
  obtain ⟨h1, h2⟩ := ht
  intro H locs ls hP hD hS hl
  have hw := wq_at (tc := xT E) (ad := ad) (G := G) hs
  match t, h1, h2 with
  | 1, _, _ => exact va_alen C.1 C.2.1 C.2.2.2.2.2.1 hP q 0 hw rfl rfl hdg (kk H locs ls hP hD hS hl)
  | 2, _, _ => exact va_alen C.1 C.2.1 C.2.2.2.2.2.1 hP q 1 hw rfl rfl hdg (kk H locs ls hP hD hS hl)
  | 3, _, _ => exact va_alen C.1 C.2.1 C.2.2.2.2.2.1 hP q 2 hw rfl rfl hdg (kk H locs ls hP hD hS hl)
  | 4, _, _ => exact va_alen C.1 C.2.1 C.2.2.2.2.2.1 hP q 3 hw rfl rfl hdg (kk H locs ls hP hD hS hl)
  | 5, _, _ => exact va_alen C.1 C.2.1 C.2.2.2.2.2.1 hP q 4 hw rfl rfl hdg (kk H locs ls hP hD hS hl)
/-- the words of System.arraycopy, Math.max, Math.min at a place -/
def CPw (own : String) (idx : Nat) : Prop := Cond.methodLink own idx arraycopyName ∈ WS ∧ Cond.native arraycopyName ∈ WS ∧ Cond.static arraycopyName ∈ WS ∧ Cond.initialized "java/lang/System" ∈ WS
def MXw (own : String) (idx : Nat) : Prop := Cond.methodLink own idx Lib.Math.max.name ∈ WS ∧ Cond.static Lib.Math.max.name ∈ WS ∧ Cond.initialized "java/lang/Math" ∈ WS ∧ Cond.code Lib.Math.max.name Lib.Math.max.code 2 (some .int) ∈ WS
def MNw (own : String) (idx : Nat) : Prop := Cond.methodLink own idx Lib.Math.min.name ∈ WS ∧ Cond.static Lib.Math.min.name ∈ WS ∧ Cond.initialized "java/lang/Math" ∈ WS ∧ Cond.code Lib.Math.min.name Lib.Math.min.code 2 (some .int) ∈ WS
theorem rm_frames {E : EX} (C : Cx E own cc nL ret h mc ms) : h ≤ (xR E).frames := C.2.2.2.2.2.2.2.2.2.2.1.1
theorem rm_locals {E : EX} (C : Cx E own cc nL ret h mc ms) : 64 * h ≤ (xR E).locals := C.2.2.2.2.2.2.2.2.2.2.1.2.1
theorem rm_cells {E : EX} (C : Cx E own cc nL ret h mc ms) : mc ≤ (xR E).cells := C.2.2.2.2.2.2.2.2.2.2.1.2.2.1
theorem rm_slots {E : EX} (C : Cx E own cc nL ret h mc ms) : ms ≤ (xR E).slots := C.2.2.2.2.2.2.2.2.2.2.1.2.2.2
theorem v_mmax {x y : Int32} {ws : va_W} (C : Cx E own cc nL ret h mc ms) (hw : MXw own idx) (hh : 1 ≤ h) (hr : (rest.map fun v => v.category).sum ≤ 8) (hc : cells ≤ mc ∧ slots ≤ ms) (hdg : decode cc pc = .ok (.invokestatic idx, 3)) (kk : VV E cells slots ws (pc + 3) lv (.int (if x < y then y else x) :: rest)) : VV E cells slots ws pc lv (.int y :: .int x :: rest) := by
  intro H locs ls hP hD hS hl
  exact va_mmax C.1 C.2.1 (C.2.2.1.trans (C.2.2.2.2.2.2.2.2.2.1.symm.trans hl.1.symm)) C.2.2.2.1 (C.2.2.2.2.1 _ hw.1) (C.2.2.2.2.1 _ hw.2.1) (C.2.2.2.2.1 _ hw.2.2.1) (C.2.2.2.2.1 _ hw.2.2.2) (Nat.le_trans hh (rm_frames C)) (by have hz := rm_locals C; omega) (Nat.le_trans hc.1 (rm_cells C)) (Nat.le_trans hc.2 (rm_slots C)) hdg (kk H locs ls hP hD hS hl)
theorem v_mmin {x y : Int32} {ws : va_W} (C : Cx E own cc nL ret h mc ms) (hw : MNw own idx) (hh : 1 ≤ h) (hr : (rest.map fun v => v.category).sum ≤ 8) (hc : cells ≤ mc ∧ slots ≤ ms) (hdg : decode cc pc = .ok (.invokestatic idx, 3)) (kk : VV E cells slots ws (pc + 3) lv (.int (if y < x then y else x) :: rest)) : VV E cells slots ws pc lv (.int y :: .int x :: rest) := by
  intro H locs ls hP hD hS hl
  exact va_mmin C.1 C.2.1 (C.2.2.1.trans (C.2.2.2.2.2.2.2.2.2.1.symm.trans hl.1.symm)) C.2.2.2.1 (C.2.2.2.2.1 _ hw.1) (C.2.2.2.2.1 _ hw.2.1) (C.2.2.2.2.1 _ hw.2.2.1) (C.2.2.2.2.1 _ hw.2.2.2) (Nat.le_trans hh (rm_frames C)) (by have hz := rm_locals C; omega) (Nat.le_trans hc.1 (rm_cells C)) (Nat.le_trans hc.2 (rm_slots C)) hdg (kk H locs ls hP hD hS hl)
theorem nfw : nativeFrameWords "java/lang/System" "arraycopy" 5 + 11 ≤ 56 := by decide +kernel
theorem v_copyI {q0 q1 : Nat} {sp dp n : Int32} {G1 : Hp} (C : Cx E own cc nL ret h mc ms) (hw : CPw own idx) (hs0 : tg sh q0 1) (hs1 : tg sh q1 1) (hv : cpI sh G q0 sp q1 dp n = some G1) (hC : Cl sh G) (hh : 1 ≤ h) (hr : (rest.map fun v => v.category).sum ≤ 8) (hdg : decode cc pc = .ok (.invokestatic idx, 3)) (kk : Cl sh G1 → VV E cells slots (wq (xT E) ad G1 sh) (pc + 3) lv rest) : VV E cells slots (wq (xT E) ad G sh) pc lv (.int n :: .int dp :: .ref (ad q1) :: .int sp :: .ref (ad q0) :: rest) := by
  obtain ⟨n0, hs0⟩ := hs0
  obtain ⟨n1, hs1⟩ := hs1
  obtain ⟨⟨⟨h1, h2, h3⟩, h4, h5⟩, rfl⟩ := ite_some hv
  rw [ln_of hs0] at h4
  rw [ln_of hs1] at h5
  have hN := nfw
  refine fun H locs ls hP hD hS hl => va_copyi C.1 C.2.1 (C.2.2.1.trans (C.2.2.2.2.2.2.2.2.2.1.symm.trans hl.1.symm)) C.2.2.2.1 (C.2.2.2.2.1 _ hw.1) (C.2.2.2.2.1 _ hw.2.1) (C.2.2.2.2.1 _ hw.2.2.1) (C.2.2.2.2.1 _ hw.2.2.2) C.2.2.2.2.2.1 hP hD hS q0 q1 0 0 (wq_at hs0) (wq_at hs1) rfl rfl rfl h1 h2 h3 h4 h5 (fun _ _ => rfl) (Nat.le_trans hh (rm_frames C)) (by have hz := rm_locals C; omega) hdg (fun H1 locs1 hP1 hD1 hS1 => ?_)
  rw [wq_set (G' := rI G q1 (va_cpy (G.1 q0) (G.1 q1) sp.toNatClampNeg dp.toNatClampNeg n.toNatClampNeg)) hs1 ec_rI (by simp [ec, rI])] at hP1 hD1
  exact kk hC H1 locs1 ls hP1 hD1 hS1 hl
theorem v_copyJ {q0 q1 : Nat} {sp dp n : Int32} {G1 : Hp} (C : Cx E own cc nL ret h mc ms) (hw : CPw own idx) (hs0 : tg sh q0 4) (hs1 : tg sh q1 4) (hv : cpJ sh G q0 sp q1 dp n = some G1) (hC : Cl sh G) (hh : 1 ≤ h) (hr : (rest.map fun v => v.category).sum ≤ 8) (hdg : decode cc pc = .ok (.invokestatic idx, 3)) (kk : Cl sh G1 → VV E cells slots (wq (xT E) ad G1 sh) (pc + 3) lv rest) : VV E cells slots (wq (xT E) ad G sh) pc lv (.int n :: .int dp :: .ref (ad q1) :: .int sp :: .ref (ad q0) :: rest) := by
  obtain ⟨n0, hs0⟩ := hs0
  obtain ⟨n1, hs1⟩ := hs1
  obtain ⟨⟨⟨h1, h2, h3⟩, h4, h5⟩, rfl⟩ := ite_some hv
  rw [ln_of hs0] at h4
  rw [ln_of hs1] at h5
  have hN := nfw
  refine fun H locs ls hP hD hS hl => va_copyl C.1 C.2.1 (C.2.2.1.trans (C.2.2.2.2.2.2.2.2.2.1.symm.trans hl.1.symm)) C.2.2.2.1 (C.2.2.2.2.1 _ hw.1) (C.2.2.2.2.1 _ hw.2.1) (C.2.2.2.2.1 _ hw.2.2.1) (C.2.2.2.2.1 _ hw.2.2.2) C.2.2.2.2.2.1 hP hD hS q0 q1 3 3 (wq_at hs0) (wq_at hs1) rfl rfl rfl h1 h2 h3 h4 h5 (fun _ _ => rfl) (Nat.le_trans hh (rm_frames C)) (by have hz := rm_locals C; omega) hdg (fun H1 locs1 hP1 hD1 hS1 => ?_)
  rw [wq_set (G' := rJ G q1 (va_cpy (G.2.1 q0) (G.2.1 q1) sp.toNatClampNeg dp.toNatClampNeg n.toNatClampNeg)) hs1 ec_rJ (by simp [ec, rJ])] at hP1 hD1
  exact kk hC H1 locs1 ls hP1 hD1 hS1 hl
/-- the static row of longs -/
def SWt (E : EX) (t : Nat) : Prop := va_Z "FirstOver$Text" "SETS_WITH" "[J" (.ref t) (xA E) (xs E) (xs E).heap ∧ va_T .long t 6 SWv (xA E) (xs E) (xs E).heap
theorem v_getSW {ws : va_W} (C : Cx E own cc nL ret h mc ms) (hw : Cond.fieldLink own idx "FirstOver$Text" "SETS_WITH" "[J" ∈ WS) (hdg : decode cc pc = .ok (.getstatic idx, 3)) (kk : ∀ t, SWt E t → VV E cells slots ws (pc + 3) lv (.ref t :: rest)) : VV E cells slots ws pc lv rest := by
  obtain ⟨t, hZ, hT⟩ := C.2.2.2.2.2.2.2.2.2.2.2.1
  exact fun H locs ls hP hD hS hl => va_gets C.1 C.2.1 hZ hS C.2.2.2.1 (C.2.2.2.2.1 _ hw) (fun _ h9 => h9) hdg (kk t ⟨hZ, hT⟩ H locs ls hP hD hS hl)
theorem v_swlen {ws : va_W} {t : Nat} (C : Cx E own cc nL ret h mc ms) (ht : SWt E t) (hdg : decode cc pc = .ok (.arraylength, 1)) (kk : VV E cells slots ws (pc + 1) lv (.int 6 :: rest)) : VV E cells slots ws pc lv (.ref t :: rest) :=
  fun H locs ls hP hD hS hl => va_tlen C.1 C.2.1 ht.2 hS rfl hdg (kk H locs ls hP hD hS hl)
def aSW (i : Int32) : Option Int64 := if ¬ i < 0 ∧ i.toNatClampNeg < 6 then some (SWl i.toNatClampNeg) else none
theorem v_swld {ws : va_W} {t : Nat} {i : Int32} {v : Int64} (C : Cx E own cc nL ret h mc ms) (ht : SWt E t) (hv : aSW i = some v) (hdg : decode cc pc = .ok (.laload, 1)) (kk : VV E cells slots ws (pc + 1) lv (.long v :: rest)) : VV E cells slots ws pc lv (.int i :: .ref t :: rest) := by
  obtain ⟨h1, rfl⟩ := ite_some hv
  exact fun H locs ls hP hD hS hl => va_tl C.1 C.2.1 ht.2 hS (okx_in h1) rfl hdg (kk H locs ls hP hD hS hl)
end HEAP
