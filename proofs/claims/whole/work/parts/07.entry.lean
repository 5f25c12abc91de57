/-! ENTRY AND RETURN. -/
section CALLS2
variable {E : EX} {own : String} {cc : ByteArray} {nL h mc ms cells slots pc : Nat} {ret : Option FieldType} {lv : List (Nat × Value)} {rest st : List Value} {sh sh2 : Sh} {G G2 : Hp} {ad : Nat → Nat} {q k ci idx : Nat}
variable {y : MethodName} {cb : ByteArray} {maxL h2 n : Nat} {rt : Option FieldType} {avs : (Nat → Nat) → List Value} {As : List Value}
theorem v_callVi {r : Int32} (C : Cx E own cc nL ret h mc ms) {Cn : String} (hM : MC (xl E) y cb maxL rt h2 0 0 sh sh G G2 avs (fun _ => some (.int r))) (cs : CSV own idx Cn y cb maxL rt n) (hh : h2 + 1 ≤ h) (hs : sh[q]? = some (0, ci)) (hcn : (cls[ci]?).map (fun r => r.1) = some Cn) (hC : Cl sh G) (hav : avs ad = .ref (ad q) :: As) (hn : As.length = n) (hst : st = As.reverse ++ .ref (ad q) :: rest) (hW : (rest.map fun v => v.category).sum ≤ 8) (hc : cells ≤ mc ∧ slots ≤ ms) (hdg : decode cc pc = .ok (.invokevirtual idx, 3))
    (kk : Cl sh G2 → VV E cells slots (wq (xT E) ad G2 sh) (pc + 3) lv (.int r :: rest)) : VV E cells slots (wq (xT E) ad G sh) pc lv st :=
  v_callVx C hM cs hh hs hcn hC hav hn hst hW hc hdg (fun _ had hC2 => by rw [wq_ad had hC2]; exact kk hC2)
theorem v_callVl {r : Int64} (C : Cx E own cc nL ret h mc ms) {Cn : String} (hM : MC (xl E) y cb maxL rt h2 0 0 sh sh G G2 avs (fun _ => some (.long r))) (cs : CSV own idx Cn y cb maxL rt n) (hh : h2 + 1 ≤ h) (hs : sh[q]? = some (0, ci)) (hcn : (cls[ci]?).map (fun r => r.1) = some Cn) (hC : Cl sh G) (hav : avs ad = .ref (ad q) :: As) (hn : As.length = n) (hst : st = As.reverse ++ .ref (ad q) :: rest) (hW : (rest.map fun v => v.category).sum ≤ 8) (hc : cells ≤ mc ∧ slots ≤ ms) (hdg : decode cc pc = .ok (.invokevirtual idx, 3))
    (kk : Cl sh G2 → VV E cells slots (wq (xT E) ad G2 sh) (pc + 3) lv (.long r :: rest)) : VV E cells slots (wq (xT E) ad G sh) pc lv st :=
  v_callVx C hM cs hh hs hcn hC hav hn hst hW hc hdg (fun _ had hC2 => by rw [wq_ad had hC2]; exact kk hC2)
theorem v_callVv (C : Cx E own cc nL ret h mc ms) {Cn : String} (hM : MC (xl E) y cb maxL rt h2 0 0 sh sh G G2 avs (fun _ => none)) (cs : CSV own idx Cn y cb maxL rt n) (hh : h2 + 1 ≤ h) (hs : sh[q]? = some (0, ci)) (hcn : (cls[ci]?).map (fun r => r.1) = some Cn) (hC : Cl sh G) (hav : avs ad = .ref (ad q) :: As) (hn : As.length = n) (hst : st = As.reverse ++ .ref (ad q) :: rest) (hW : (rest.map fun v => v.category).sum ≤ 8) (hc : cells ≤ mc ∧ slots ≤ ms) (hdg : decode cc pc = .ok (.invokevirtual idx, 3))
    (kk : Cl sh G2 → VV E cells slots (wq (xT E) ad G2 sh) (pc + 3) lv rest) : VV E cells slots (wq (xT E) ad G sh) pc lv st :=
  v_callVx C hM cs hh hs hcn hC hav hn hst hW hc hdg (fun _ had hC2 => by rw [wq_ad had hC2]; exact kk hC2)
theorem v_callVr {r : Nat} {x : Nat × Nat} (C : Cx E own cc nL ret h mc ms) {Cn : String} (hM : MC (xl E) y cb maxL rt h2 0 0 sh sh G G2 avs (fun ad => some (.ref (ad r)))) (cs : CSV own idx Cn y cb maxL rt n) (hh : h2 + 1 ≤ h) (hs : sh[q]? = some (0, ci)) (hcn : (cls[ci]?).map (fun r => r.1) = some Cn) (hC : Cl sh G) (hav : avs ad = .ref (ad q) :: As) (hn : As.length = n) (hst : st = As.reverse ++ .ref (ad q) :: rest) (hW : (rest.map fun v => v.category).sum ≤ 8) (hc : cells ≤ mc ∧ slots ≤ ms) (hr : sh[r]? = some x) (hdg : decode cc pc = .ok (.invokevirtual idx, 3))
    (kk : Cl sh G2 → VV E cells slots (wq (xT E) ad G2 sh) (pc + 3) lv (.ref (ad r) :: rest)) : VV E cells slots (wq (xT E) ad G sh) pc lv st :=
  v_callVx C hM cs hh hs hcn hC hav hn hst hW hc hdg (fun ad2 had hC2 => by
    show VV E cells slots (wq (xT E) ad2 G2 sh) (pc + 3) lv (.ref (ad2 r) :: rest)
    rw [wq_ad had hC2, had r (List.getElem?_eq_some_iff.mp hr).1]; exact kk hC2)
theorem v_callSi {r : Int32} (C : Cx E own cc nL ret h mc ms) (hM : MC (xl E) y cb maxL rt h2 0 0 sh sh G G2 avs (fun _ => some (.int r))) (cs : CSS own idx y cb maxL rt n) (hh : h2 + 1 ≤ h) (hC : Cl sh G) (hav : avs ad = As) (hn : As.length = n) (hst : st = As.reverse ++ rest) (hW : (rest.map fun v => v.category).sum ≤ 8) (hc : cells ≤ mc ∧ slots ≤ ms) (hdg : decode cc pc = .ok (.invokestatic idx, 3))
    (kk : Cl sh G2 → VV E cells slots (wq (xT E) ad G2 sh) (pc + 3) lv (.int r :: rest)) : VV E cells slots (wq (xT E) ad G sh) pc lv st :=
  v_callSx C hM cs hh hC hav hn hst hW hc hdg (fun _ had hC2 => by rw [wq_ad had hC2]; exact kk hC2)
theorem v_callSl {r : Int64} (C : Cx E own cc nL ret h mc ms) (hM : MC (xl E) y cb maxL rt h2 0 0 sh sh G G2 avs (fun _ => some (.long r))) (cs : CSS own idx y cb maxL rt n) (hh : h2 + 1 ≤ h) (hC : Cl sh G) (hav : avs ad = As) (hn : As.length = n) (hst : st = As.reverse ++ rest) (hW : (rest.map fun v => v.category).sum ≤ 8) (hc : cells ≤ mc ∧ slots ≤ ms) (hdg : decode cc pc = .ok (.invokestatic idx, 3))
    (kk : Cl sh G2 → VV E cells slots (wq (xT E) ad G2 sh) (pc + 3) lv (.long r :: rest)) : VV E cells slots (wq (xT E) ad G sh) pc lv st :=
  v_callSx C hM cs hh hC hav hn hst hW hc hdg (fun _ had hC2 => by rw [wq_ad had hC2]; exact kk hC2)
theorem v_callSv (C : Cx E own cc nL ret h mc ms) (hM : MC (xl E) y cb maxL rt h2 0 0 sh sh G G2 avs (fun _ => none)) (cs : CSS own idx y cb maxL rt n) (hh : h2 + 1 ≤ h) (hC : Cl sh G) (hav : avs ad = As) (hn : As.length = n) (hst : st = As.reverse ++ rest) (hW : (rest.map fun v => v.category).sum ≤ 8) (hc : cells ≤ mc ∧ slots ≤ ms) (hdg : decode cc pc = .ok (.invokestatic idx, 3))
    (kk : Cl sh G2 → VV E cells slots (wq (xT E) ad G2 sh) (pc + 3) lv rest) : VV E cells slots (wq (xT E) ad G sh) pc lv st :=
  v_callSx C hM cs hh hC hav hn hst hW hc hdg (fun _ had hC2 => by rw [wq_ad had hC2]; exact kk hC2)
end CALLS2
theorem v_widen {E : EX} {cells slots c2 s2 pc : Nat} {ws : va_W} {lv : List (Nat × Value)} {st : List Value} (hc : cells ≤ c2) (hs : slots ≤ s2) (k : VV E c2 s2 ws pc lv st) : VV E cells slots ws pc lv st := fun H locs ls hP hD hS hl => W.widen hc hs (k H locs ls hP hD hS hl)
section RET
variable {E : EX} {own : String} {cc : ByteArray} {nL h mc ms pc : Nat} {lv : List (Nat × Value)} {sh sh2 : Sh} {G G2 : Hp} {ad ad2 : Nat → Nat} {rv : (Nat → Nat) → Option Value}
def RQ (E : EX) (sh sh2 : Sh) (ad : Nat → Nat) (G2 : Hp) (rv : (Nat → Nat) → Option Value) (mc ms : Nat) : Prop := xQ E = MQ (xb E) (Qg (xD E) (xT E) sh sh2 ad G2 rv (xA E)) (xa E) (xs E) mc ms (xA E)
theorem rq_post {H : Heap} {locs : List Loc} {v : Option Value} (had : ∀ k, k < sh.length → ad2 k = ad k) (hC : Cl sh2 G2) (hrv : rv ad2 = v) (hP : va_P (xD E) cls (wq (xT E) ad2 G2 sh2) H) (hD : va_D (xA E) (wq (xT E) ad2 G2 sh2)) (hS : va_S (xA E) (xs E).heap H locs) : ∀ t : State, t.heap = H → (xs E).WarmedH t.vm → Qg (xD E) (xT E) sh sh2 ad G2 rv (xA E) (xa E) (xs E) (.returned v) t := by
  intro t ht _
  exact ⟨ad2, had, by rw [hrv], by rw [ht]; exact hP, hD, hC, hS.F ht⟩
theorem v_iret {r : Int32} (C : Cx E own cc nL (some .int) h mc ms) (hQ : RQ E sh sh2 ad G2 rv mc ms) (had : ∀ k, k < sh.length → ad2 k = ad k) (hC : Cl sh2 G2) (hrv : rv ad2 = some (.int r)) (hdg : decode cc pc = .ok (.ireturn, 1)) : VV E mc ms (wq (xT E) ad2 G2 sh2) pc lv [.int r] := by
  intro H locs ls hP hD hS hl
  rw [hQ]
  exact W.iret C.1 C.2.1 C.2.2.2.2.2.2.2.2.1 (rq_post had hC hrv hP hD hS) hS.2.2 hdg C.2.2.2.2.2.2.2.1
theorem v_zret {r : Int32} (C : Cx E own cc nL (some .boolean) h mc ms) (hQ : RQ E sh sh2 ad G2 rv mc ms) (had : ∀ k, k < sh.length → ad2 k = ad k) (hC : Cl sh2 G2) (hrv : rv ad2 = some (.int r)) (hz : r = 0 ∨ r = 1) (hdg : decode cc pc = .ok (.ireturn, 1)) : VV E mc ms (wq (xT E) ad2 G2 sh2) pc lv [.int r] := by
  intro H locs ls hP hD hS hl
  rw [hQ]
  exact W.zret C.1 C.2.1 C.2.2.2.2.2.2.2.2.1 (by rcases hz with rfl | rfl <;> decide) (rq_post had hC hrv hP hD hS) hS.2.2 hdg C.2.2.2.2.2.2.2.1
theorem v_lret {r : Int64} (C : Cx E own cc nL (some .long) h mc ms) (hQ : RQ E sh sh2 ad G2 rv mc ms) (had : ∀ k, k < sh.length → ad2 k = ad k) (hC : Cl sh2 G2) (hrv : rv ad2 = some (.long r)) (hdg : decode cc pc = .ok (.lreturn, 1)) : VV E mc ms (wq (xT E) ad2 G2 sh2) pc lv [.long r] := by
  intro H locs ls hP hD hS hl
  rw [hQ]
  exact W.lret C.1 C.2.1 C.2.2.2.2.2.2.2.2.1 (rq_post had hC hrv hP hD hS) hS.2.2 hdg C.2.2.2.2.2.2.2.1
theorem v_aret {r : Nat} {cn : String} (C : Cx E own cc nL (some (.object cn)) h mc ms) (hQ : RQ E sh sh2 ad G2 rv mc ms) (had : ∀ k, k < sh.length → ad2 k = ad k) (hC : Cl sh2 G2) (hrv : rv ad2 = some (.ref (ad2 r))) (hdg : decode cc pc = .ok (.areturn, 1)) : VV E mc ms (wq (xT E) ad2 G2 sh2) pc lv [.ref (ad2 r)] := by
  intro H locs ls hP hD hS hl
  rw [hQ]
  exact W.aret C.1 C.2.1 C.2.2.2.2.2.2.2.2.1 (Or.inl ⟨_, rfl⟩) (Or.inr ⟨_, rfl⟩) (rq_post had hC hrv hP hD hS) hS.2.2 hdg C.2.2.2.2.2.2.2.1
theorem v_vret (C : Cx E own cc nL none h mc ms) (hQ : RQ E sh sh2 ad G2 rv mc ms) (had : ∀ k, k < sh.length → ad2 k = ad k) (hC : Cl sh2 G2) (hrv : rv ad2 = none) (hdg : decode cc pc = .ok (.return_, 1)) : VV E mc ms (wq (xT E) ad2 G2 sh2) pc lv [] := by
  intro H locs ls hP hD hS hl
  rw [hQ]
  exact W.vret C.1 C.2.1 C.2.2.2.2.2.2.2.2.1 (rq_post had hC hrv hP hD hS) hS.2.2 hdg C.2.2.2.2.2.2.2.1
end RET
theorem MC_of {l : Launch} {y : MethodName} {own : String} {cc : ByteArray} {maxL : Nat} {ret : Option FieldType} {h mc ms : Nat} {sh sh2 : Sh} {G G2 : Hp} {avs : (Nat → Nat) → List Value} {rv : (Nat → Nat) → Option Value} (hy : plainName y.cls = true) (ho : y.cls = own) (hlen : ∀ ad, (lg_sl (avs ad)).length ≤ maxL)
    (body : ∀ (E : EX) (ad : Nat → Nat), Cx E own cc maxL ret h mc ms → xl E = l → (xM E).name = y.name → Cl sh G → RQ E sh sh2 ad G2 rv mc ms → VV E 0 0 (wq (xT E) ad G sh) 0 (lv_args 0 (avs ad)) []) : MC l y cc maxL ret h mc ms sh sh2 G G2 avs rv := by
  intro D tc ad sz
  refine Met.ofW (cc := cc) (maxL := maxL) (ret := ret) hy rfl ?_
  intro p e s m args below meth c s₁ B hml hv
  obtain ⟨rfl, hsz, hP, hD0, hK, hC, hSt⟩ := hv
  have hts := atoms_spec (ws := Cond.code y cc maxL ret :: WS) B.pre
  have hown : s.vm.findClass y.cls = some m.cls := findClass_of_methodNamed B.named
  subst hsz
  have hD := hD0.self (sz := s.heap.size)
  have hl := lv_entry (avs ad) (n := maxL) (hlen ad)
  rw [lg_entry_eq]
  exact body (p, l, e, RM h mc ms, s, m, (avs ad).toArray, below, meth, c, D, tc, va_A (wq tc ad G sh) s.heap.size, maxL, MQ below (Qg D tc sh sh2 ad G2 rv (va_A (wq tc ad G sh) s.heap.size)) (avs ad).toArray s mc ms (va_A (wq tc ad G sh) s.heap.size)) ad
    ⟨B.exec, B.bytes, hml, ho ▸ hown, fun w hw => hts w (List.mem_cons_of_mem _ hw), hK, fun q hq => Or.inr hq, B.notSynchronized, B.returns, rfl, ⟨Nat.le_refl _, Nat.le_refl _, Nat.le_refl _, Nat.le_refl _⟩, hSt⟩ rfl (name_of_methodNamed B.named B.method).1 hC rfl s.heap [] _ hP hD va_S.rf hl
/-! pieces for the walks: a named value, a bound value, a branch taken -/
def bd {α β : Type} (a : α) (f : α → β) : β := f a
theorem bd_at {α β : Type} {a x : α} {f : α → β} {z : β} (h : bd a f = z) (hx : x = a) : f x = z := by rw [hx]; exact h
theorem bn {α β : Type} {o : Option α} {f : α → Option β} {z : β} (h : o.bind f = some z) : ∃ v, o = some v ∧ f v = some z := by
  cases o with
  | none => cases h
  | some v => exact ⟨v, rfl, h⟩
theorem ip {c : Prop} [Decidable c] {α : Type} {a b z : α} (h : (if c then a else b) = z) (hc : c) : a = z := by rwa [if_pos hc] at h
theorem im {c : Prop} [Decidable c] {α : Type} {a b z : α} (h : (if c then a else b) = z) (hc : ¬ c) : b = z := by rwa [if_neg hc] at h
/-- a loop by its step, with fuel -/
def iter {σ ρ : Type} (f : σ → Option (σ ⊕ ρ)) : Nat → σ → Option ρ
  | 0, _ => none
  | n + 1, s => (f s).bind fun r => Sum.elim (fun s2 => iter f n s2) (fun o => some o) r
theorem iter_sound {σ ρ : Type} {f : σ → Option (σ ⊕ ρ)} {P : σ → Prop} {X : ρ → Prop} (hs : ∀ s o, f s = some o → (∀ s2, o = .inl s2 → P s2) → (∀ r, o = .inr r → X r) → P s) : ∀ n s r, iter f n s = some r → X r → P s := by
  intro n
  induction n with
  | zero => intro s r h; cases h
  | succ n ih =>
    intro s r h hx
    obtain ⟨o, h1, h2⟩ := bn h
    refine hs s o h1 (fun s2 h3 => ?_) (fun r2 h3 => ?_)
    · subst h3; exact ih s2 r h2 hx
    · subst h3; cases h2; exact hx
def fuel : Nat := 100000000
