/-! pieces that the printed walks use -/
def bp {α β : Type} (o : Option (α × Hp)) (f : α → Hp → Option β) : Option β := o.bind fun r => f r.1 r.2
theorem bpn {α β : Type} {o : Option (α × Hp)} {f : α → Hp → Option β} {z : β} (h : bp o f = some z) : ∃ v G, o = some (v, G) ∧ f v G = some z := by
  cases o with
  | none => cases h
  | some v => exact ⟨v.1, v.2, rfl, h⟩
theorem iz {c : Prop} [Decidable c] {α : Type} {b : Option α} {z : α} (h : (if c then none else b) = some z) : ¬ c ∧ b = some z := by
  split at h
  · cases h
  · exact ⟨by assumption, h⟩
theorem sm_l {α β γ : Type} {f : α → γ} {g : β → γ} {u : α} {z : γ} (h : Sum.elim f g (.inl u) = z) : f u = z := h
theorem sm_r {α β γ : Type} {f : α → γ} {g : β → γ} {u : β} {z : γ} (h : Sum.elim f g (.inr u) = z) : g u = z := h
def ckO (sh : Sh) (a ci : Nat) : Option Unit := if sh[a]? = some (0, ci) then some () else none
theorem ckO_some {sh : Sh} {a ci : Nat} {u : Unit} (h : ckO sh a ci = some u) : sh[a]? = some (0, ci) := (ite_some h).1
def imax (x y : Int32) : Int32 := if x < y then y else x
def imin (x y : Int32) : Int32 := if y < x then y else x
theorem tsw_out {x : Int32} {lo hi : Int} (h1 : -2147483648 ≤ lo) (h2 : hi ≤ 2147483647) (h : ∀ k : Nat, k < (hi - lo + 1).toNat → x ≠ Int32.ofInt (lo + k)) : x.toInt < lo ∨ hi < x.toInt := by
  rcases Int.lt_or_le x.toInt lo with h3 | h3
  · exact Or.inl h3
  · rcases Int.lt_or_le hi x.toInt with h4 | h4
    · exact Or.inr h4
    · have h5 := h (x.toInt - lo).toNat (by omega)
      have h6 : lo + ((x.toInt - lo).toNat : Int) = x.toInt := by omega
      rw [h6] at h5
      exact absurd (Int32.ofInt_toInt x).symm h5
theorem lsw_n2 {x c : Int32} (v : Int) (h : ¬ x = c) (hv : c.toInt = v) : ¬ v = x.toInt := fun e => h (Int32.toInt_inj.mp (e.symm.trans hv.symm))
def RCi (E : EX) (cc : ByteArray) (ad : Nat → Nat) (sh : Sh) (r : Int32) (G : Hp) : Prop := ∀ pc lv, decode cc pc = .ok (.ireturn, 1) → Cl sh G → VV E 0 0 (wq (xT E) ad G sh) pc lv [.int r]
def RCz (E : EX) (cc : ByteArray) (ad : Nat → Nat) (sh : Sh) (r : Int32) (G : Hp) : Prop := ∀ pc lv, decode cc pc = .ok (.ireturn, 1) → (r = 0 ∨ r = 1) → Cl sh G → VV E 0 0 (wq (xT E) ad G sh) pc lv [.int r]
def RCl (E : EX) (cc : ByteArray) (ad : Nat → Nat) (sh : Sh) (r : Int64) (G : Hp) : Prop := ∀ pc lv, decode cc pc = .ok (.lreturn, 1) → Cl sh G → VV E 0 0 (wq (xT E) ad G sh) pc lv [.long r]
def RCa (E : EX) (cc : ByteArray) (ad : Nat → Nat) (sh : Sh) (r : Nat) (G : Hp) : Prop := ∀ pc lv, decode cc pc = .ok (.areturn, 1) → Cl sh G → VV E 0 0 (wq (xT E) ad G sh) pc lv [.ref (ad r)]
def RCv (E : EX) (cc : ByteArray) (ad : Nat → Nat) (sh : Sh) (G : Hp) : Prop := ∀ pc lv, decode cc pc = .ok (.return_, 1) → Cl sh G → VV E 0 0 (wq (xT E) ad G sh) pc lv []
section MM
variable {E : EX} {own : String} {cc : ByteArray} {nL h mc ms cells slots pc idx : Nat} {ret : Option FieldType} {lv : List (Nat × Value)} {rest : List Value}
theorem v_nmax {x y : Int32} {ws : va_W} (C : Cx E own cc nL ret h mc ms) (hw : MXw own idx) (hh : 1 ≤ h) (hr : (rest.map fun v => v.category).sum ≤ 8) (hc : cells ≤ mc ∧ slots ≤ ms) (hdg : decode cc pc = .ok (.invokestatic idx, 3)) (kk : VV E cells slots ws (pc + 3) lv (.int (imax x y) :: rest)) : VV E cells slots ws pc lv (.int y :: .int x :: rest) := v_mmax C hw hh hr hc hdg kk
theorem v_nmin {x y : Int32} {ws : va_W} (C : Cx E own cc nL ret h mc ms) (hw : MNw own idx) (hh : 1 ≤ h) (hr : (rest.map fun v => v.category).sum ≤ 8) (hc : cells ≤ mc ∧ slots ≤ ms) (hdg : decode cc pc = .ok (.invokestatic idx, 3)) (kk : VV E cells slots ws (pc + 3) lv (.int (imin x y) :: rest)) : VV E cells slots ws pc lv (.int y :: .int x :: rest) := v_mmin C hw hh hr hc hdg kk
end MM
