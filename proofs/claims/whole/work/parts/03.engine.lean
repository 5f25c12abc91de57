/-! THE ENGINE: a pure heap, the world that holds it, and the rows over it. -/
def WS : List Cond := lw_tbl.filter goodWord
theorem WS_mem {w : Cond} (i : Nat) (h : lw_tbl[i]? = some w) (hg : goodWord w = true) : w ∈ WS := List.mem_filter.mpr ⟨List.mem_of_getElem? h, hg⟩
theorem WS_good : ∀ w ∈ WS, goodWord w = true := fun _ h => (List.mem_filter.mp h).2
theorem WS_sub {ws : List Cond} (h : ∀ w ∈ ws, w ∈ WS) : GoodIn WS ws := fun w hw => ⟨h w hw, good_of_word (WS_good w (h w hw))⟩
abbrev cls : List vw_C := [(RX0, TX0, 2), (RX1, TX1, 9), (RX2, TX2, 3), (RX3, TX3, 3), (RX4, TX4, 5), (RX5, TX5, 12), (RX6, TX6, 16), (RX7, TX7, 7), (RX8, TX8, 17), (RX9, TX9, 5), (RX10, TX10, 11), (RX11, TX11, 79)]
/-- field kinds: 0 an int (or smaller), 1 a long, 2 a reference -/
def tkd : FieldType → Nat
  | .long => 1
  | .object _ => 2
  | .array _ => 2
  | _ => 0
def fkl (ty : Nat → FieldType) (n : Nat) : List Nat := (List.range n).map (fun j => tkd (ty j))
def fk (ci : Nat) : List Nat := match ci with
  | 0 => fkl tyX0 2
  | 1 => fkl tyX1 9
  | 2 => fkl tyX2 3
  | 3 => fkl tyX3 3
  | 4 => fkl tyX4 5
  | 5 => fkl tyX5 12
  | 6 => fkl tyX6 16
  | 7 => fkl tyX7 7
  | 8 => fkl tyX8 17
  | 9 => fkl tyX9 5
  | 10 => fkl tyX10 11
  | _ => fkl tyX11 79
abbrev Hp : Type := (Nat → Nat → Int32) × (Nat → Nat → Int64) × (Nat → Nat → Option Nat)
abbrev Sh : Type := List (Nat × Nat)
def fv (ad : Nat → Nat) (G : Hp) (q j k : Nat) : Value := match k with
  | 0 => .int (G.1 q j)
  | 1 => .long (G.2.1 q j)
  | _ => va_rf ((G.2.2 q j).map ad)
def fvs (ad : Nat → Nat) (G : Hp) (q ci : Nat) : List Value := (fk ci).mapIdx (fun j k => fv ad G q j k)
def ec (tc : Nat → ClassId) (ad : Nat → Nat) (G : Hp) (q : Nat) (s : Nat × Nat) : va_E := match s.1 with
  | 0 => .inr (s.2, fvs ad G q s.2)
  | 1 => .inl (tc 0, s.2, .inl (G.1 q))
  | 2 => .inl (tc 1, s.2, .inl (G.1 q))
  | 3 => .inl (tc 2, s.2, .inl (G.1 q))
  | 4 => .inl (tc 3, s.2, .inr (.inl (G.2.1 q)))
  | _ => .inl (tc 4, s.2, .inr (.inr (.inr (.inr (fun j => (G.2.2 q j).map ad)))))
def wq (tc : Nat → ClassId) (ad : Nat → Nat) (G : Hp) (sh : Sh) : va_W := sh.mapIdx (fun k s => (ad k, ec tc ad G k s))
def tys (tc : Nat → ClassId) : List (ClassId × FieldType) := [(tc 0, .int), (tc 1, .byte), (tc 2, .boolean), (tc 3, .long), (tc 4, .object "FirstOver$Going")]
theorem wq_at {tc : Nat → ClassId} {ad : Nat → Nat} {G : Hp} {sh : Sh} {q : Nat} {s : Nat × Nat} (h : sh[q]? = some s) : (wq tc ad G sh)[q]? = some (ad q, ec tc ad G q s) := by
  simp [wq, h]
theorem wq_len {tc : Nat → ClassId} {ad : Nat → Nat} {G : Hp} {sh : Sh} : (wq tc ad G sh).length = sh.length := by simp [wq]
theorem wq_set {tc : Nat → ClassId} {ad : Nat → Nat} {G G' : Hp} {sh : Sh} {q : Nat} {s : Nat × Nat} {e : va_E} (h : sh[q]? = some s) (hG : ∀ k, k ≠ q → ∀ s, ec tc ad G' k s = ec tc ad G k s) (he : ec tc ad G' q s = e) : (wq tc ad G sh).set q (ad q, e) = wq tc ad G' sh := by
  apply List.ext_getElem?
  intro i
  rw [List.getElem?_set]
  by_cases hi : q = i
  · subst hi
    have hl : q < (wq tc ad G sh).length := by rw [wq_len]; exact (List.getElem?_eq_some_iff.mp h).1
    rw [if_pos rfl, if_pos hl, wq_at h, he]
  · rw [if_neg hi]
    cases hs : sh[i]? with
    | none => simp [wq, hs]
    | some x => rw [wq_at hs, wq_at hs, hG i (fun h => hi h.symm) x]
theorem fvs_at {ad : Nat → Nat} {G : Hp} {q ci k kd : Nat} (h : (fk ci)[k]? = some kd) : (fvs ad G q ci)[k]? = some (fv ad G q k kd) := by simp [fvs, h]
theorem fvs_len {ad : Nat → Nat} {G : Hp} {q ci : Nat} : (fvs ad G q ci).length = (fk ci).length := by simp [fvs]
theorem fvs_set {ad : Nat → Nat} {G G' : Hp} {q ci k kd : Nat} {v : Value} (h : (fk ci)[k]? = some kd) (hG : ∀ j, j ≠ k → ∀ kd, fv ad G' q j kd = fv ad G q j kd) (hv : fv ad G' q k kd = v) : (fvs ad G q ci).set k v = fvs ad G' q ci := by
  apply List.ext_getElem?
  intro i
  rw [List.getElem?_set]
  by_cases hi : k = i
  · subst hi
    have hl : k < (fvs ad G q ci).length := by rw [fvs_len]; exact (List.getElem?_eq_some_iff.mp h).1
    rw [if_pos rfl, if_pos hl, fvs_at h, hv]
  · rw [if_neg hi]
    cases hs : (fk ci)[i]? with
    | none => simp [fvs, hs]
    | some x => rw [fvs_at hs, fvs_at hs, hG i (fun h => hi h.symm) x]
/-! updates of the pure heap -/
def rI (G : Hp) (q : Nat) (f : Nat → Int32) : Hp := (fun q' => if q' = q then f else G.1 q', G.2.1, G.2.2)
def rJ (G : Hp) (q : Nat) (f : Nat → Int64) : Hp := (G.1, fun q' => if q' = q then f else G.2.1 q', G.2.2)
def rR (G : Hp) (q : Nat) (f : Nat → Option Nat) : Hp := (G.1, G.2.1, fun q' => if q' = q then f else G.2.2 q')
def sI (G : Hp) (q k : Nat) (v : Int32) : Hp := rI G q (upd (G.1 q) k v)
def sJ (G : Hp) (q k : Nat) (v : Int64) : Hp := rJ G q (vp_updL (G.2.1 q) k v)
def sR (G : Hp) (q k : Nat) (v : Option Nat) : Hp := rR G q (va_up (G.2.2 q) k v)
theorem ec_rI {tc : Nat → ClassId} {ad : Nat → Nat} {G : Hp} {q : Nat} {f : Nat → Int32} : ∀ k, k ≠ q → ∀ s, ec tc ad (rI G q f) k s = ec tc ad G k s := by
  intro k hk s
  have h : (rI G q f).1 k = G.1 k := by simp [rI, hk]
  have h2 : ∀ ci, fvs ad (rI G q f) k ci = fvs ad G k ci := fun ci => by
    unfold fvs; congr 1; funext j kd; unfold fv; rw [h]; rfl
  unfold ec
  rw [h, h2]
  rfl
theorem ec_rJ {tc : Nat → ClassId} {ad : Nat → Nat} {G : Hp} {q : Nat} {f : Nat → Int64} : ∀ k, k ≠ q → ∀ s, ec tc ad (rJ G q f) k s = ec tc ad G k s := by
  intro k hk s
  have h : (rJ G q f).2.1 k = G.2.1 k := by simp [rJ, hk]
  have h2 : ∀ ci, fvs ad (rJ G q f) k ci = fvs ad G k ci := fun ci => by
    unfold fvs; congr 1; funext j kd; unfold fv; rw [h]; rfl
  unfold ec
  rw [h, h2]
  rfl
theorem ec_rR {tc : Nat → ClassId} {ad : Nat → Nat} {G : Hp} {q : Nat} {f : Nat → Option Nat} : ∀ k, k ≠ q → ∀ s, ec tc ad (rR G q f) k s = ec tc ad G k s := by
  intro k hk s
  have h : (rR G q f).2.2 k = G.2.2 k := by simp [rR, hk]
  have h2 : ∀ ci, fvs ad (rR G q f) k ci = fvs ad G k ci := fun ci => by
    unfold fvs; congr 1; funext j kd; unfold fv; rw [h]; rfl
  unfold ec
  rw [h, h2]
  rfl
theorem fvs_sI {ad : Nat → Nat} {G : Hp} {q ci k : Nat} {v : Int32} (h : (fk ci)[k]? = some 0) : (fvs ad G q ci).set k (.int v) = fvs ad (sI G q k v) q ci := by
  refine fvs_set h (fun j hj kd => ?_) ?_
  · have h1 : (sI G q k v).1 q j = G.1 q j := by simp [sI, rI, upd, hj]
    unfold fv; rw [h1]; rfl
  · simp [fv, sI, rI, upd]
theorem fvs_sJ {ad : Nat → Nat} {G : Hp} {q ci k : Nat} {v : Int64} (h : (fk ci)[k]? = some 1) : (fvs ad G q ci).set k (.long v) = fvs ad (sJ G q k v) q ci := by
  refine fvs_set h (fun j hj kd => ?_) ?_
  · have h1 : (sJ G q k v).2.1 q j = G.2.1 q j := by simp [sJ, rJ, vp_updL, hj]
    unfold fv; rw [h1]; rfl
  · simp [fv, sJ, rJ, vp_updL]
theorem fvs_sR {ad : Nat → Nat} {G : Hp} {q ci k a : Nat} (h : (fk ci)[k]? = some 2) : (fvs ad G q ci).set k (.ref (ad a)) = fvs ad (sR G q k (some a)) q ci := by
  refine fvs_set h (fun j hj kd => ?_) ?_
  · have h1 : (sR G q k (some a)).2.2 q j = G.2.2 q j := by simp [sR, rR, va_up, hj]
    unfold fv; rw [h1]; rfl
  · simp [fv, sR, rR, va_up, va_rf]
/-- references lead to cells of the world -/
def Cl (sh : Sh) (G : Hp) : Prop := ∀ q k a, G.2.2 q k = some a → a < sh.length
theorem Cl.I {sh : Sh} {G : Hp} {q : Nat} {f : Nat → Int32} (h : Cl sh G) : Cl sh (rI G q f) := h
theorem Cl.J {sh : Sh} {G : Hp} {q : Nat} {f : Nat → Int64} (h : Cl sh G) : Cl sh (rJ G q f) := h
theorem Cl.R {sh : Sh} {G : Hp} {q k a : Nat} {x : Nat × Nat} (h : Cl sh G) (ha : sh[a]? = some x) : Cl sh (sR G q k (some a)) := by
  intro q' k' a' h'
  by_cases hq : q' = q
  · subst hq
    by_cases hk : k' = k
    · subst hk
      simp [sR, rR, va_up] at h'
      subst h'
      exact (List.getElem?_eq_some_iff.mp ha).1
    · simp [sR, rR, va_up, hk] at h'
      exact h _ _ _ h'
  · simp [sR, rR, hq] at h'
    exact h _ _ _ h'
