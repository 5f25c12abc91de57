def fX11_costBy (sh : Sh) (G : Hp) (l0 : Nat) (l1 : Int32) : Option (Int32) := if l1 = (-1) then some 0 else (ldA sh G l0 28 1).bind fun a2 => (aI sh G a2 (((4 : Int32) * (G.1 l0 18)) + l1)).bind fun v3 => some v3
set_option maxHeartbeats 4000000 in
theorem tX11_costBy {E : EX} {ad : Nat → Nat} {sh : Sh} {G : Hp} {l0 : Nat} {l1 : Int32} {z : Int32} (C : Cx E RX11 cX11_costBy 2 (some .int) 1 0 0) (hC : Cl sh G) (h_l0 : sh[l0]? = some (0, 11)) (hf : fX11_costBy sh G l0 l1 = some z) (kr : RCi E cX11_costBy ad sh z G) : VV E 0 0 (wq (xT E) ad G sh) 0 [(0, .ref (ad l0)), (1, .int l1)] [] := by
  unfold fX11_costBy at hf
  refine v_iload_n C 1 dX11_costBy_0 rfl rfl ?_
  refine v_iconst (v := (-1)) C dX11_costBy_1 (by decide) ?_
  refine v_icmp_ne (tgt := 9) C dX11_costBy_2 (by decide) (fun c1 => ?_) (fun c1 => ?_)
  · have hf := im hf c1
    refine v_aload_n C 0 dX11_costBy_9 rfl rfl ?_
    obtain ⟨a2, qa2, hf⟩ := bn hf
    refine v_getA C h_l0 fl_X11_61 qa2 dX11_costBy_10 (fun h_a2 => ?_)
    refine v_iconst (v := 4) C dX11_costBy_13 (by decide) ?_
    refine v_aload_n C 0 dX11_costBy_14 rfl rfl ?_
    refine v_getI C h_l0 fl_X11_257 dX11_costBy_15 ?_
    refine v_imul C dX11_costBy_18 ?_
    refine v_iload_n C 1 dX11_costBy_19 rfl rfl ?_
    refine v_iadd C dX11_costBy_20 ?_
    obtain ⟨v3, qv3, hf⟩ := bn hf
    refine v_iald C h_a2 qv3 dX11_costBy_21 ?_
    cases hf
    exact kr _ _ dX11_costBy_22 hC
  · have hf := ip hf c1
    refine v_iconst (v := 0) C dX11_costBy_5 (by decide) ?_
    refine v_goto (tgt := 22) C dX11_costBy_6 (by decide) ?_
    cases hf
    exact kr _ _ dX11_costBy_22 hC
theorem sX11_costBy {l : Launch} {sh : Sh} {G : Hp} {l0 : Nat} {l1 : Int32} {z : Int32} (h_l0 : sh[l0]? = some (0, 11)) (hf : fX11_costBy sh G l0 l1 = some z) : MC l yX11_costBy cX11_costBy 2 (some .int) 1 0 0 sh sh G G (fun ad => [.ref (ad l0), .int l1]) (fun _ => some (.int z)) := by
  refine MC_of rfl rfl (fun _ => Nat.le_of_ble_eq_true rfl) (fun E ad C hl hnm hC hQ => ?_)
  exact tX11_costBy C hC h_l0 hf (fun pc lv hd hC => v_iret C hQ (fun _ _ => rfl) hC rfl hd)
def fX11_pickCost (sh : Sh) (G : Hp) (l0 : Nat) (l1 : Int32) : Option (Int32) := (ldA sh G l0 25 1).bind fun a1 => (aI sh G a1 (((7 : Int32) * (G.1 l0 18)) + (l1 / 5))).bind fun v2 => (fX11_costBy sh G l0 ((l1 - l1 / 5 * 5) - 1)).bind fun r3 => some (v2 + r3)
set_option maxHeartbeats 4000000 in
theorem tX11_pickCost {E : EX} {ad : Nat → Nat} {sh : Sh} {G : Hp} {l0 : Nat} {l1 : Int32} {z : Int32} (C : Cx E RX11 cX11_pickCost 2 (some .int) 2 0 0) (hC : Cl sh G) (h_l0 : sh[l0]? = some (0, 11)) (hf : fX11_pickCost sh G l0 l1 = some z) (kr : RCi E cX11_pickCost ad sh z G) : VV E 0 0 (wq (xT E) ad G sh) 0 [(0, .ref (ad l0)), (1, .int l1)] [] := by
  unfold fX11_pickCost at hf
  refine v_aload_n C 0 dX11_pickCost_0 rfl rfl ?_
  obtain ⟨a1, qa1, hf⟩ := bn hf
  refine v_getA C h_l0 fl_X11_52 qa1 dX11_pickCost_1 (fun h_a1 => ?_)
  refine v_bipush (v := 7) C dX11_pickCost_4 (by decide) ?_
  refine v_aload_n C 0 dX11_pickCost_6 rfl rfl ?_
  refine v_getI C h_l0 fl_X11_257 dX11_pickCost_7 ?_
  refine v_imul C dX11_pickCost_10 ?_
  refine v_iload_n C 1 dX11_pickCost_11 rfl rfl ?_
  refine v_iconst (v := 5) C dX11_pickCost_12 (by decide) ?_
  refine v_idiv C dX11_pickCost_13 (by decide) ?_
  refine v_iadd C dX11_pickCost_14 ?_
  obtain ⟨v2, qv2, hf⟩ := bn hf
  refine v_iald C h_a1 qv2 dX11_pickCost_15 ?_
  refine v_aload_n C 0 dX11_pickCost_16 rfl rfl ?_
  refine v_iload_n C 1 dX11_pickCost_17 rfl rfl ?_
  refine v_iconst (v := 5) C dX11_pickCost_18 (by decide) ?_
  refine v_irem C dX11_pickCost_19 (by decide) ?_
  refine v_iconst (v := 1) C dX11_pickCost_20 (by decide) ?_
  refine v_isub C dX11_pickCost_21 ?_
  obtain ⟨r3, qr3, hf⟩ := bn hf
  refine v_callVi (As := [.int ((l1 - l1 / 5 * 5) - 1)]) (rest := [.int v2]) C (sX11_costBy h_l0 qr3) cs_X11_449 (by decide) h_l0 rfl hC rfl rfl rfl (Nat.le_of_ble_eq_true rfl) ⟨Nat.le_refl _, Nat.le_refl _⟩ dX11_pickCost_22 (fun hC => ?_)
  refine v_iadd C dX11_pickCost_25 ?_
  cases hf
  exact kr _ _ dX11_pickCost_26 hC
theorem sX11_pickCost {l : Launch} {sh : Sh} {G : Hp} {l0 : Nat} {l1 : Int32} {z : Int32} (h_l0 : sh[l0]? = some (0, 11)) (hf : fX11_pickCost sh G l0 l1 = some z) : MC l yX11_pickCost cX11_pickCost 2 (some .int) 2 0 0 sh sh G G (fun ad => [.ref (ad l0), .int l1]) (fun _ => some (.int z)) := by
  refine MC_of rfl rfl (fun _ => Nat.le_of_ble_eq_true rfl) (fun E ad C hl hnm hC hQ => ?_)
  exact tX11_pickCost C hC h_l0 hf (fun pc lv hd hC => v_iret C hQ (fun _ _ => rfl) hC rfl hd)
def fX11_sumOf_S4 (sh : Sh) (l0 : Nat) (l1 : Int32) (G : Hp) (l2 : Int32) (l3 : Int32) : Option ((Int32 × Int32) ⊕ ((Int32))) := if l1 ≤ l3 then some (.inr l2) else (ldA sh G l0 70 1).bind fun a2 => (aI sh G a2 l3).bind fun v3 => (fX11_pickCost sh G l0 v3).bind fun r4 => bd ((l2 + r4) : Int32) fun x5 => bd ((l3 + 1) : Int32) fun x6 => some (.inl (x5, x6))
set_option maxHeartbeats 4000000 in
theorem tX11_sumOf_S4 {E : EX} {ad : Nat → Nat} {sh : Sh} {G : Hp} {l0 : Nat} {l1 : Int32} {l2 : Int32} {l3 : Int32} {o : (Int32 × Int32) ⊕ ((Int32))} (C : Cx E RX11 cX11_sumOf 4 (some .int) 3 0 0) (hC : Cl sh G) (h_l0 : sh[l0]? = some (0, 11)) (hf : fX11_sumOf_S4 sh l0 l1 G l2 l3 = some o) (kb : ∀ (b_l2 : Int32) (b_l3 : Int32), o = .inl (b_l2, b_l3) → VV E 0 0 (wq (xT E) ad G sh) 4 [(0, .ref (ad l0)), (1, .int l1), (2, .int b_l2), (3, .int b_l3)] []) (kx28 : ∀ (b_l2 : Int32), o = .inr b_l2 → VV E 0 0 (wq (xT E) ad G sh) 28 [(0, .ref (ad l0)), (1, .int l1), (2, .int b_l2)] []) : VV E 0 0 (wq (xT E) ad G sh) 4 [(0, .ref (ad l0)), (1, .int l1), (2, .int l2), (3, .int l3)] [] := by
  unfold fX11_sumOf_S4 at hf
  refine v_iload_n C 3 dX11_sumOf_4 rfl rfl ?_
  refine v_iload_n C 1 dX11_sumOf_5 rfl rfl ?_
  refine v_icmp_ge (tgt := 28) C dX11_sumOf_6 (by decide) (fun c1 => ?_) (fun c1 => ?_)
  · have hf := ip hf c1
    cases hf
    refine v_sub [0, 1, 2] rfl ?_
    exact kx28 _ rfl
  · have hf := im hf c1
    refine v_iload_n C 2 dX11_sumOf_9 rfl rfl ?_
    refine v_aload_n C 0 dX11_sumOf_10 rfl rfl ?_
    refine v_aload_n C 0 dX11_sumOf_11 rfl rfl ?_
    obtain ⟨a2, qa2, hf⟩ := bn hf
    refine v_getA C h_l0 fl_X11_155 qa2 dX11_sumOf_12 (fun h_a2 => ?_)
    refine v_iload_n C 3 dX11_sumOf_15 rfl rfl ?_
    obtain ⟨v3, qv3, hf⟩ := bn hf
    refine v_iald C h_a2 qv3 dX11_sumOf_16 ?_
    obtain ⟨r4, qr4, hf⟩ := bn hf
    refine v_callVi (As := [.int v3]) (rest := [.int l2]) C (sX11_pickCost h_l0 qr4) cs_X11_482 (by decide) h_l0 rfl hC rfl rfl rfl (Nat.le_of_ble_eq_true rfl) ⟨Nat.le_refl _, Nat.le_refl _⟩ dX11_sumOf_17 (fun hC => ?_)
    refine v_iadd C dX11_sumOf_20 ?_
    refine v_topi (fun x5 ex5 => ?_)
    have hf := bd_at hf ex5
    refine v_istore_n (lv2 := [(2, .int x5), (0, .ref (ad l0)), (1, .int l1), (3, .int l3)]) C dX11_sumOf_21 rfl (by decide) rfl ?_
    obtain ⟨x6, ex6⟩ : ∃ x : Int32, x = (l3 + 1) := ⟨_, rfl⟩
    have hf := bd_at hf ex6
    refine v_iinc (v := x6) (j := 3) (lv2 := [(3, .int x6), (2, .int x5), (0, .ref (ad l0)), (1, .int l1)]) C dX11_sumOf_22 rfl (by rw [ex6]; rfl) (by decide) rfl ?_
    refine v_goto (tgt := 4) C dX11_sumOf_25 (by decide) ?_
    cases hf
    refine v_sub [2, 3, 1, 0] rfl ?_
    exact kb _ _ rfl
def fX11_sumOf (sh : Sh) (G : Hp) (l0 : Nat) (l1 : Int32) : Option (Int32) := (iter (fun s : Int32 × Int32 => fX11_sumOf_S4 sh l0 l1 G s.1 s.2) fuel ((0, 0) : Int32 × Int32)).bind (fun u3 => bd u3 fun x2 => some x2)
set_option maxHeartbeats 4000000 in
theorem tX11_sumOf {E : EX} {ad : Nat → Nat} {sh : Sh} {G : Hp} {l0 : Nat} {l1 : Int32} {z : Int32} (C : Cx E RX11 cX11_sumOf 4 (some .int) 3 0 0) (hC : Cl sh G) (h_l0 : sh[l0]? = some (0, 11)) (hf : fX11_sumOf sh G l0 l1 = some z) (kr : RCi E cX11_sumOf ad sh z G) : VV E 0 0 (wq (xT E) ad G sh) 0 [(0, .ref (ad l0)), (1, .int l1)] [] := by
  unfold fX11_sumOf at hf
  refine v_iconst (v := 0) C dX11_sumOf_0 (by decide) ?_
  refine v_istore_n (lv2 := [(2, .int 0), (0, .ref (ad l0)), (1, .int l1)]) C dX11_sumOf_1 rfl (by decide) rfl ?_
  refine v_iconst (v := 0) C dX11_sumOf_2 (by decide) ?_
  refine v_istore_n (lv2 := [(3, .int 0), (2, .int 0), (0, .ref (ad l0)), (1, .int l1)]) C dX11_sumOf_3 rfl (by decide) rfl ?_
  obtain ⟨r1, qr1, hf⟩ := bn hf
  refine v_sub [2, 3, 1, 0] rfl ?_
  refine iter_sound (P := (fun s : Int32 × Int32 => VV E 0 0 (wq (xT E) ad (G) sh) 4 [(0, .ref (ad l0)), (1, .int (l1)), (2, .int (s.1)), (3, .int (s.2))] [])) (X := fun r => r = r1) (fun jsr1 jor1 hor1 jbr1 jxr1 => tX11_sumOf_S4 C hC h_l0 hor1 (fun _ _ e => jbr1 _ e) ?_) fuel _ r1 qr1 rfl
  · intro x2 hu
    have e := jxr1 _ hu
    subst e
    have hf := bd_at hf (rfl : x2 = _)
    refine v_iload_n C 2 dX11_sumOf_28 rfl rfl ?_
    cases hf
    exact kr _ _ dX11_sumOf_29 hC
theorem sX11_sumOf {l : Launch} {sh : Sh} {G : Hp} {l0 : Nat} {l1 : Int32} {z : Int32} (h_l0 : sh[l0]? = some (0, 11)) (hf : fX11_sumOf sh G l0 l1 = some z) : MC l yX11_sumOf cX11_sumOf 4 (some .int) 3 0 0 sh sh G G (fun ad => [.ref (ad l0), .int l1]) (fun _ => some (.int z)) := by
  refine MC_of rfl rfl (fun _ => Nat.le_of_ble_eq_true rfl) (fun E ad C hl hnm hC hQ => ?_)
  exact tX11_sumOf C hC h_l0 hf (fun pc lv hd hC => v_iret C hQ (fun _ _ => rfl) hC rfl hd)
def fX11_setOf (sh : Sh) (G : Hp) (l0 : Nat) (l1 : Int32) (l2 : Int32) : Option (Int32) := (ldA sh G l0 26 1).bind fun a1 => (aI sh G a1 (((7 : Int32) * (G.1 l0 18)) + l1)).bind fun v2 => if l2 = (-1) then some v2 else (ldA sh G l0 29 1).bind fun a4 => (aI sh G a4 (((4 : Int32) * (G.1 l0 18)) + l2)).bind fun v5 => (ldA sh G l0 30 1).bind fun a6 => (aI sh G a6 (((4 : Int32) * (G.1 l0 18)) + l2)).bind fun v7 => some ((v2 ||| v5) &&& (v7 ^^^ (-1)))
set_option maxHeartbeats 4000000 in
theorem tX11_setOf {E : EX} {ad : Nat → Nat} {sh : Sh} {G : Hp} {l0 : Nat} {l1 : Int32} {l2 : Int32} {z : Int32} (C : Cx E RX11 cX11_setOf 4 (some .int) 1 0 0) (hC : Cl sh G) (h_l0 : sh[l0]? = some (0, 11)) (hf : fX11_setOf sh G l0 l1 l2 = some z) (kr : RCi E cX11_setOf ad sh z G) : VV E 0 0 (wq (xT E) ad G sh) 0 [(0, .ref (ad l0)), (1, .int l1), (2, .int l2)] [] := by
  unfold fX11_setOf at hf
  refine v_aload_n C 0 dX11_setOf_0 rfl rfl ?_
  obtain ⟨a1, qa1, hf⟩ := bn hf
  refine v_getA C h_l0 fl_X11_55 qa1 dX11_setOf_1 (fun h_a1 => ?_)
  refine v_bipush (v := 7) C dX11_setOf_4 (by decide) ?_
  refine v_aload_n C 0 dX11_setOf_6 rfl rfl ?_
  refine v_getI C h_l0 fl_X11_257 dX11_setOf_7 ?_
  refine v_imul C dX11_setOf_10 ?_
  refine v_iload_n C 1 dX11_setOf_11 rfl rfl ?_
  refine v_iadd C dX11_setOf_12 ?_
  obtain ⟨v2, qv2, hf⟩ := bn hf
  refine v_iald C h_a1 qv2 dX11_setOf_13 ?_
  refine v_istore_n (lv2 := [(3, .int v2), (0, .ref (ad l0)), (1, .int l1), (2, .int l2)]) C dX11_setOf_14 rfl (by decide) rfl ?_
  refine v_iload_n C 3 dX11_setOf_15 rfl rfl ?_
  refine v_iconst (v := (-1)) C dX11_setOf_16 (by decide) ?_
  refine v_icmp_ne (tgt := 24) C dX11_setOf_17 (by decide) (fun c3 => ?_) (fun c3 => ?_)
  · have hf := im hf c3
    refine v_iload_n C 0 dX11_setOf_24 rfl rfl ?_
    refine v_aload_n C 1 dX11_setOf_25 rfl rfl ?_
    obtain ⟨a4, qa4, hf⟩ := bn hf
    refine v_getA C h_l0 fl_X11_64 qa4 dX11_setOf_26 (fun h_a4 => ?_)
    refine v_iconst (v := 4) C dX11_setOf_29 (by decide) ?_
    refine v_aload_n C 1 dX11_setOf_30 rfl rfl ?_
    refine v_getI C h_l0 fl_X11_257 dX11_setOf_31 ?_
    refine v_imul C dX11_setOf_34 ?_
    refine v_iload_n C 3 dX11_setOf_35 rfl rfl ?_
    refine v_iadd C dX11_setOf_36 ?_
    obtain ⟨v5, qv5, hf⟩ := bn hf
    refine v_iald C h_a4 qv5 dX11_setOf_37 ?_
    refine v_ior C dX11_setOf_38 ?_
    refine v_aload_n C 1 dX11_setOf_39 rfl rfl ?_
    obtain ⟨a6, qa6, hf⟩ := bn hf
    refine v_getA C h_l0 fl_X11_67 qa6 dX11_setOf_40 (fun h_a6 => ?_)
    refine v_iconst (v := 4) C dX11_setOf_43 (by decide) ?_
    refine v_aload_n C 1 dX11_setOf_44 rfl rfl ?_
    refine v_getI C h_l0 fl_X11_257 dX11_setOf_45 ?_
    refine v_imul C dX11_setOf_48 ?_
    refine v_iload_n C 3 dX11_setOf_49 rfl rfl ?_
    refine v_iadd C dX11_setOf_50 ?_
    obtain ⟨v7, qv7, hf⟩ := bn hf
    refine v_iald C h_a6 qv7 dX11_setOf_51 ?_
    refine v_iconst (v := (-1)) C dX11_setOf_52 (by decide) ?_
    refine v_ixor C dX11_setOf_53 ?_
    refine v_iand C dX11_setOf_54 ?_
    cases hf
    exact kr _ _ dX11_setOf_55 hC
  · have hf := ip hf c3
    refine v_iload_n C 0 dX11_setOf_20 rfl rfl ?_
    refine v_goto (tgt := 55) C dX11_setOf_21 (by decide) ?_
    cases hf
    exact kr _ _ dX11_setOf_55 hC
theorem sX11_setOf {l : Launch} {sh : Sh} {G : Hp} {l0 : Nat} {l1 : Int32} {l2 : Int32} {z : Int32} (h_l0 : sh[l0]? = some (0, 11)) (hf : fX11_setOf sh G l0 l1 l2 = some z) : MC l yX11_setOf cX11_setOf 4 (some .int) 1 0 0 sh sh G G (fun ad => [.ref (ad l0), .int l1, .int l2]) (fun _ => some (.int z)) := by
  refine MC_of rfl rfl (fun _ => Nat.le_of_ble_eq_true rfl) (fun E ad C hl hnm hC hQ => ?_)
  exact tX11_setOf C hC h_l0 hf (fun pc lv hd hC => v_iret C hQ (fun _ _ => rfl) hC rfl hd)
def fX11_isLearnt_S2 (sh : Sh) (l0 : Nat) (l1 : Int32) (G : Hp) (l2 : Int32) : Option ((Int32) ⊕ ((Unit) ⊕ (Unit))) := (ldA sh G l0 59 1).bind fun a1 => (aI sh G a1 21).bind fun v2 => if v2 ≤ l2 then some (.inr (.inl ())) else (ldA sh G l0 59 1).bind fun a4 => (aI sh G a4 ((12 : Int32) + l2)).bind fun v5 => if v5 = l1 then some (.inr (.inr ())) else bd ((l2 + 1) : Int32) fun x7 => some (.inl x7)
set_option maxHeartbeats 4000000 in
theorem tX11_isLearnt_S2 {E : EX} {ad : Nat → Nat} {sh : Sh} {G : Hp} {l0 : Nat} {l1 : Int32} {l2 : Int32} {o : (Int32) ⊕ ((Unit) ⊕ (Unit))} (C : Cx E RX11 cX11_isLearnt 3 (some .boolean) 1 0 0) (hC : Cl sh G) (h_l0 : sh[l0]? = some (0, 11)) (hf : fX11_isLearnt_S2 sh l0 l1 G l2 = some o) (kb : ∀ (b_l2 : Int32), o = .inl b_l2 → VV E 0 0 (wq (xT E) ad G sh) 2 [(0, .ref (ad l0)), (1, .int l1), (2, .int b_l2)] []) (kx34 : o = .inr (.inl ()) → VV E 0 0 (wq (xT E) ad G sh) 34 [(0, .ref (ad l0)), (1, .int l1)] []) (kx26 : o = .inr (.inr ()) → VV E 0 0 (wq (xT E) ad G sh) 26 [(0, .ref (ad l0)), (1, .int l1)] []) : VV E 0 0 (wq (xT E) ad G sh) 2 [(0, .ref (ad l0)), (1, .int l1), (2, .int l2)] [] := by
  unfold fX11_isLearnt_S2 at hf
  refine v_iload_n C 2 dX11_isLearnt_2 rfl rfl ?_
  refine v_aload_n C 0 dX11_isLearnt_3 rfl rfl ?_
  obtain ⟨a1, qa1, hf⟩ := bn hf
  refine v_getA C h_l0 fl_X11_137 qa1 dX11_isLearnt_4 (fun h_a1 => ?_)
  refine v_bipush (v := 21) C dX11_isLearnt_7 (by decide) ?_
  obtain ⟨v2, qv2, hf⟩ := bn hf
  refine v_iald C h_a1 qv2 dX11_isLearnt_9 ?_
  refine v_icmp_ge (tgt := 34) C dX11_isLearnt_10 (by decide) (fun c3 => ?_) (fun c3 => ?_)
  · have hf := ip hf c3
    cases hf
    refine v_sub [0, 1] rfl ?_
    exact kx34 rfl
  · have hf := im hf c3
    refine v_aload_n C 0 dX11_isLearnt_13 rfl rfl ?_
    obtain ⟨a4, qa4, hf⟩ := bn hf
    refine v_getA C h_l0 fl_X11_137 qa4 dX11_isLearnt_14 (fun h_a4 => ?_)
    refine v_bipush (v := 12) C dX11_isLearnt_17 (by decide) ?_
    refine v_iload_n C 2 dX11_isLearnt_19 rfl rfl ?_
    refine v_iadd C dX11_isLearnt_20 ?_
    obtain ⟨v5, qv5, hf⟩ := bn hf
    refine v_iald C h_a4 qv5 dX11_isLearnt_21 ?_
    refine v_iload_n C 1 dX11_isLearnt_22 rfl rfl ?_
    refine v_icmp_ne (tgt := 28) C dX11_isLearnt_23 (by decide) (fun c6 => ?_) (fun c6 => ?_)
    · have hf := im hf c6
      obtain ⟨x7, ex7⟩ : ∃ x : Int32, x = (l2 + 1) := ⟨_, rfl⟩
      have hf := bd_at hf ex7
      refine v_iinc (v := x7) (j := 2) (lv2 := [(2, .int x7), (0, .ref (ad l0)), (1, .int l1)]) C dX11_isLearnt_28 rfl (by rw [ex7]; rfl) (by decide) rfl ?_
      refine v_goto (tgt := 2) C dX11_isLearnt_31 (by decide) ?_
      cases hf
      refine v_sub [1, 2, 0] rfl ?_
      exact kb _ rfl
    · have hf := ip hf c6
      cases hf
      refine v_sub [0, 1] rfl ?_
      exact kx26 rfl
def fX11_isLearnt (sh : Sh) (G : Hp) (l0 : Nat) (l1 : Int32) : Option (Int32) := (iter (fun s : Int32 => fX11_isLearnt_S2 sh l0 l1 G s) fuel (0 : Int32)).bind (Sum.elim (fun _ => some 0) (fun _ => some 1))
set_option maxHeartbeats 4000000 in
theorem tX11_isLearnt {E : EX} {ad : Nat → Nat} {sh : Sh} {G : Hp} {l0 : Nat} {l1 : Int32} {z : Int32} (C : Cx E RX11 cX11_isLearnt 3 (some .boolean) 1 0 0) (hC : Cl sh G) (h_l0 : sh[l0]? = some (0, 11)) (hf : fX11_isLearnt sh G l0 l1 = some z) (kr : RCz E cX11_isLearnt ad sh z G) : VV E 0 0 (wq (xT E) ad G sh) 0 [(0, .ref (ad l0)), (1, .int l1)] [] := by
  unfold fX11_isLearnt at hf
  refine v_iconst (v := 0) C dX11_isLearnt_0 (by decide) ?_
  refine v_istore_n (lv2 := [(2, .int 0), (0, .ref (ad l0)), (1, .int l1)]) C dX11_isLearnt_1 rfl (by decide) rfl ?_
  obtain ⟨r1, qr1, hf⟩ := bn hf
  refine v_sub [1, 2, 0] rfl ?_
  refine iter_sound (P := (fun s : Int32 => VV E 0 0 (wq (xT E) ad (G) sh) 2 [(0, .ref (ad l0)), (1, .int (l1)), (2, .int (s))] [])) (X := fun r => r = r1) (fun jsr1 jor1 hor1 jbr1 jxr1 => tX11_isLearnt_S2 C hC h_l0 hor1 (fun _ e => jbr1 _ e) ?_ ?_) fuel _ r1 qr1 rfl
  · intro  hu
    have e := jxr1 _ hu
    subst e
    have hf := sm_l hf
    refine v_iconst (v := 0) C dX11_isLearnt_34 (by decide) ?_
    cases hf
    exact kr _ _ dX11_isLearnt_35 (Or.inl rfl) hC
  · intro  hu
    have e := jxr1 _ hu
    subst e
    have hf := sm_r hf
    refine v_iconst (v := 1) C dX11_isLearnt_26 (by decide) ?_
    cases hf
    exact kr _ _ dX11_isLearnt_27 (Or.inr rfl) hC
theorem sX11_isLearnt {l : Launch} {sh : Sh} {G : Hp} {l0 : Nat} {l1 : Int32} {z : Int32} (h_l0 : sh[l0]? = some (0, 11)) (hf : fX11_isLearnt sh G l0 l1 = some z) : MC l yX11_isLearnt cX11_isLearnt 3 (some .boolean) 1 0 0 sh sh G G (fun ad => [.ref (ad l0), .int l1]) (fun _ => some (.int z)) := by
  refine MC_of rfl rfl (fun _ => Nat.le_of_ble_eq_true rfl) (fun E ad C hl hnm hC hQ => ?_)
  exact tX11_isLearnt C hC h_l0 hf (fun pc lv hd hz hC => v_zret C hQ (fun _ _ => rfl) hC rfl hz hd)
def fX11_isTaken (sh : Sh) (G : Hp) (l0 : Nat) (l1 : Int32) (l2 : Int32) : Option (Int32 × Hp) := bp (fX11_doesHold sh G l0 l1 l2) fun r1 G2 => if r1 = 0 then some (0, G2) else (fX11_isLearnt sh G2 l0 l2).bind fun r4 => if r4 = 0 then some (1, G2) else some (0, G2)
set_option maxHeartbeats 4000000 in
theorem tX11_isTaken {E : EX} {ad : Nat → Nat} {sh : Sh} {G : Hp} {l0 : Nat} {l1 : Int32} {l2 : Int32} {z : Int32 × Hp} (C : Cx E RX11 cX11_isTaken 3 (some .boolean) 2 0 0) (hC : Cl sh G) (h_l0 : sh[l0]? = some (0, 11)) (hf : fX11_isTaken sh G l0 l1 l2 = some z) (kr : RCz E cX11_isTaken ad sh (z.1) (z.2)) : VV E 0 0 (wq (xT E) ad G sh) 0 [(0, .ref (ad l0)), (1, .int l1), (2, .int l2)] [] := by
  unfold fX11_isTaken at hf
  refine v_aload_n C 0 dX11_isTaken_0 rfl rfl ?_
  refine v_iload_n C 1 dX11_isTaken_1 rfl rfl ?_
  refine v_iload_n C 2 dX11_isTaken_2 rfl rfl ?_
  obtain ⟨r1, G2, qr1, hf⟩ := bpn hf
  refine v_callVi (As := [.int l1, .int l2]) (rest := []) C (sX11_doesHold h_l0 qr1) cs_X11_402 (by decide) h_l0 rfl hC rfl rfl rfl (Nat.le_of_ble_eq_true rfl) ⟨Nat.le_refl _, Nat.le_refl _⟩ dX11_isTaken_3 (fun hC => ?_)
  refine v_if_eq (tgt := 21) C dX11_isTaken_6 (by decide) (fun c3 => ?_) (fun c3 => ?_)
  · have hf := ip hf c3
    refine v_iconst (v := 0) C dX11_isTaken_21 (by decide) ?_
    cases hf
    exact kr _ _ dX11_isTaken_22 (Or.inl rfl) hC
  · have hf := im hf c3
    refine v_aload_n C 0 dX11_isTaken_9 rfl rfl ?_
    refine v_iload_n C 2 dX11_isTaken_10 rfl rfl ?_
    obtain ⟨r4, qr4, hf⟩ := bn hf
    refine v_callVi (As := [.int l2]) (rest := []) C (sX11_isLearnt h_l0 qr4) cs_X11_406 (by decide) h_l0 rfl hC rfl rfl rfl (Nat.le_of_ble_eq_true rfl) ⟨Nat.le_refl _, Nat.le_refl _⟩ dX11_isTaken_11 (fun hC => ?_)
    refine v_if_ne (tgt := 21) C dX11_isTaken_14 (by decide) (fun c5 => ?_) (fun c5 => ?_)
    · have hf := im hf c5
      refine v_iconst (v := 0) C dX11_isTaken_21 (by decide) ?_
      cases hf
      exact kr _ _ dX11_isTaken_22 (Or.inl rfl) hC
    · have hf := ip hf c5
      refine v_iconst (v := 1) C dX11_isTaken_17 (by decide) ?_
      refine v_goto (tgt := 22) C dX11_isTaken_18 (by decide) ?_
      cases hf
      exact kr _ _ dX11_isTaken_22 (Or.inr rfl) hC
theorem sX11_isTaken {l : Launch} {sh : Sh} {G : Hp} {l0 : Nat} {l1 : Int32} {l2 : Int32} {z : Int32 × Hp} (h_l0 : sh[l0]? = some (0, 11)) (hf : fX11_isTaken sh G l0 l1 l2 = some z) : MC l yX11_isTaken cX11_isTaken 3 (some .boolean) 2 0 0 sh sh G (z.2) (fun ad => [.ref (ad l0), .int l1, .int l2]) (fun _ => some (.int z.1)) := by
  refine MC_of rfl rfl (fun _ => Nat.le_of_ble_eq_true rfl) (fun E ad C hl hnm hC hQ => ?_)
  exact tX11_isTaken C hC h_l0 hf (fun pc lv hd hz hC => v_zret C hQ (fun _ _ => rfl) hC rfl hz hd)
def fX11_canPick_J84 (sh : Sh) (G : Hp) (l0 : Nat) (l1 : Int32) (l3 : Int32) (l4 : Int32) : Option (Int32 × Hp) := (ldA sh G l0 68 1).bind fun a1 => (aI sh G a1 l1).bind fun v2 => (fX11_setOf sh G l0 l3 l4).bind fun r3 => bp (fX11_isTaken sh G l0 v2 r3) fun r4 G5 => if ¬ (r4 = 0 ∨ r4 = 1) then none else some (r4, G5)
set_option maxHeartbeats 4000000 in
theorem tX11_canPick_J84 {E : EX} {ad : Nat → Nat} {sh : Sh} {G : Hp} {l0 : Nat} {l1 : Int32} {l3 : Int32} {l4 : Int32} {z : Int32 × Hp} (C : Cx E RX11 cX11_canPick 5 (some .boolean) 4 0 0) (hC : Cl sh G) (h_l0 : sh[l0]? = some (0, 11)) (hf : fX11_canPick_J84 sh G l0 l1 l3 l4 = some z) (kr : RCz E cX11_canPick ad sh (z.1) (z.2)) : VV E 0 0 (wq (xT E) ad G sh) 84 [(0, .ref (ad l0)), (1, .int l1), (3, .int l3), (4, .int l4)] [] := by
  unfold fX11_canPick_J84 at hf
  refine v_aload_n C 0 dX11_canPick_84 rfl rfl ?_
  refine v_aload_n C 0 dX11_canPick_85 rfl rfl ?_
  obtain ⟨a1, qa1, hf⟩ := bn hf
  refine v_getA C h_l0 fl_X11_152 qa1 dX11_canPick_86 (fun h_a1 => ?_)
  refine v_iload_n C 1 dX11_canPick_89 rfl rfl ?_
  obtain ⟨v2, qv2, hf⟩ := bn hf
  refine v_iald C h_a1 qv2 dX11_canPick_90 ?_
  refine v_aload_n C 0 dX11_canPick_91 rfl rfl ?_
  refine v_iload_n C 2 dX11_canPick_92 rfl rfl ?_
  refine v_iload C 3 dX11_canPick_93 rfl ?_
  obtain ⟨r3, qr3, hf⟩ := bn hf
  refine v_callVi (As := [.int l3, .int l4]) (rest := [.int v2, .ref (ad l0)]) C (sX11_setOf h_l0 qr3) cs_X11_428 (by decide) h_l0 rfl hC rfl rfl rfl (Nat.le_of_ble_eq_true rfl) ⟨Nat.le_refl _, Nat.le_refl _⟩ dX11_canPick_95 (fun hC => ?_)
  obtain ⟨r4, G5, qr4, hf⟩ := bpn hf
  refine v_callVi (As := [.int v2, .int r3]) (rest := []) C (sX11_isTaken h_l0 qr4) cs_X11_452 (by decide) h_l0 rfl hC rfl rfl rfl (Nat.le_of_ble_eq_true rfl) ⟨Nat.le_refl _, Nat.le_refl _⟩ dX11_canPick_98 (fun hC => ?_)
  obtain ⟨hz6, hf⟩ := iz hf
  cases hf
  exact kr _ _ dX11_canPick_101 (Classical.not_not.mp hz6) hC
def fX11_canPick (sh : Sh) (G : Hp) (l0 : Nat) (l1 : Int32) (l2 : Int32) : Option (Int32 × Hp) := bd ((l2 / 5) : Int32) fun x1 => bd (((l2 - l2 / 5 * 5) - 1) : Int32) fun x2 => (ldA sh G l0 24 1).bind fun a3 => (aI sh G a3 (G.1 l0 18)).bind fun v4 => if v4 ≤ x1 then some (0, G) else (ldA sh G l0 27 1).bind fun a6 => (aI sh G a6 (G.1 l0 18)).bind fun v7 => if v7 ≤ x2 then some (0, G) else (fX11_isThere sh G l0 x1).bind fun r9 => if r9 = 0 then some (0, G) else (fX11_isUsed sh G l0 x1 l1).bind fun r11 => if r11 = 0 then if (G.1 l0 73) < 0 then fX11_canPick_J84 sh G l0 l1 x1 x2 else (fX11_sumOf sh G l0 l1).bind fun r14 => (fX11_pickCost sh G l0 l2).bind fun r15 => if (r14 + r15) < (G.1 l0 73) then fX11_canPick_J84 sh G l0 l1 x1 x2 else some (0, G) else some (0, G)
set_option maxHeartbeats 4000000 in
theorem tX11_canPick {E : EX} {ad : Nat → Nat} {sh : Sh} {G : Hp} {l0 : Nat} {l1 : Int32} {l2 : Int32} {z : Int32 × Hp} (C : Cx E RX11 cX11_canPick 5 (some .boolean) 4 0 0) (hC : Cl sh G) (h_l0 : sh[l0]? = some (0, 11)) (hf : fX11_canPick sh G l0 l1 l2 = some z) (kr : RCz E cX11_canPick ad sh (z.1) (z.2)) : VV E 0 0 (wq (xT E) ad G sh) 0 [(0, .ref (ad l0)), (1, .int l1), (2, .int l2)] [] := by
  unfold fX11_canPick at hf
  refine v_iload_n C 2 dX11_canPick_0 rfl rfl ?_
  refine v_iconst (v := 5) C dX11_canPick_1 (by decide) ?_
  refine v_idiv C dX11_canPick_2 (by decide) ?_
  refine v_topi (fun x1 ex1 => ?_)
  have hf := bd_at hf ex1
  refine v_istore_n (lv2 := [(3, .int x1), (0, .ref (ad l0)), (1, .int l1), (2, .int l2)]) C dX11_canPick_3 rfl (by decide) rfl ?_
  refine v_iload_n C 3 dX11_canPick_4 rfl rfl ?_
  refine v_iconst (v := 5) C dX11_canPick_5 (by decide) ?_
  refine v_irem C dX11_canPick_6 (by decide) ?_
  refine v_iconst (v := 1) C dX11_canPick_7 (by decide) ?_
  refine v_isub C dX11_canPick_8 ?_
  refine v_topi (fun x2 ex2 => ?_)
  have hf := bd_at hf ex2
  refine v_istore (lv2 := [(4, .int x2), (3, .int x1), (0, .ref (ad l0)), (1, .int l1), (2, .int l2)]) C dX11_canPick_9 (by decide) rfl ?_
  refine v_iload_n C 1 dX11_canPick_11 rfl rfl ?_
  refine v_aload_n C 2 dX11_canPick_12 rfl rfl ?_
  obtain ⟨a3, qa3, hf⟩ := bn hf
  refine v_getA C h_l0 fl_X11_49 qa3 dX11_canPick_13 (fun h_a3 => ?_)
  refine v_aload_n C 2 dX11_canPick_16 rfl rfl ?_
  refine v_getI C h_l0 fl_X11_257 dX11_canPick_17 ?_
  obtain ⟨v4, qv4, hf⟩ := bn hf
  refine v_iald C h_a3 qv4 dX11_canPick_20 ?_
  refine v_icmp_ge (tgt := 55) C dX11_canPick_21 (by decide) (fun c5 => ?_) (fun c5 => ?_)
  · have hf := ip hf c5
    refine v_iconst (v := 0) C dX11_canPick_55 (by decide) ?_
    cases hf
    exact kr _ _ dX11_canPick_56 (Or.inl rfl) hC
  · have hf := im hf c5
    refine v_iload C 0 dX11_canPick_24 rfl ?_
    refine v_aload_n C 2 dX11_canPick_26 rfl rfl ?_
    obtain ⟨a6, qa6, hf⟩ := bn hf
    refine v_getA C h_l0 fl_X11_58 qa6 dX11_canPick_27 (fun h_a6 => ?_)
    refine v_aload_n C 2 dX11_canPick_30 rfl rfl ?_
    refine v_getI C h_l0 fl_X11_257 dX11_canPick_31 ?_
    obtain ⟨v7, qv7, hf⟩ := bn hf
    refine v_iald C h_a6 qv7 dX11_canPick_34 ?_
    refine v_icmp_ge (tgt := 55) C dX11_canPick_35 (by decide) (fun c8 => ?_) (fun c8 => ?_)
    · have hf := ip hf c8
      refine v_iconst (v := 0) C dX11_canPick_55 (by decide) ?_
      cases hf
      exact kr _ _ dX11_canPick_56 (Or.inl rfl) hC
    · have hf := im hf c8
      refine v_aload_n C 2 dX11_canPick_38 rfl rfl ?_
      refine v_iload_n C 1 dX11_canPick_39 rfl rfl ?_
      obtain ⟨r9, qr9, hf⟩ := bn hf
      refine v_callVi (As := [.int x1]) (rest := []) C (sX11_isThere h_l0 qr9) cs_X11_464 (by decide) h_l0 rfl hC rfl rfl rfl (Nat.le_of_ble_eq_true rfl) ⟨Nat.le_refl _, Nat.le_refl _⟩ dX11_canPick_40 (fun hC => ?_)
      refine v_if_eq (tgt := 55) C dX11_canPick_43 (by decide) (fun c10 => ?_) (fun c10 => ?_)
      · have hf := ip hf c10
        refine v_iconst (v := 0) C dX11_canPick_55 (by decide) ?_
        cases hf
        exact kr _ _ dX11_canPick_56 (Or.inl rfl) hC
      · have hf := im hf c10
        refine v_aload_n C 2 dX11_canPick_46 rfl rfl ?_
        refine v_iload_n C 1 dX11_canPick_47 rfl rfl ?_
        refine v_iload_n C 3 dX11_canPick_48 rfl rfl ?_
        obtain ⟨r11, qr11, hf⟩ := bn hf
        refine v_callVi (As := [.int x1, .int l1]) (rest := []) C (sX11_isUsed h_l0 qr11) cs_X11_485 (by decide) h_l0 rfl hC rfl rfl rfl (Nat.le_of_ble_eq_true rfl) ⟨Nat.le_refl _, Nat.le_refl _⟩ dX11_canPick_49 (fun hC => ?_)
        refine v_if_eq (tgt := 57) C dX11_canPick_52 (by decide) (fun c12 => ?_) (fun c12 => ?_)
        · have hf := ip hf c12
          refine v_aload_n C 2 dX11_canPick_57 rfl rfl ?_
          refine v_getI C h_l0 fl_X11_488 dX11_canPick_58 ?_
          refine v_if_lt (tgt := 84) C dX11_canPick_61 (by decide) (fun c13 => ?_) (fun c13 => ?_)
          · have hf := ip hf c13
            refine v_sub [2, 3, 1, 0] rfl ?_
            exact tX11_canPick_J84 C hC h_l0 hf kr
          · have hf := im hf c13
            refine v_aload_n C 2 dX11_canPick_64 rfl rfl ?_
            refine v_iload_n C 3 dX11_canPick_65 rfl rfl ?_
            obtain ⟨r14, qr14, hf⟩ := bn hf
            refine v_callVi (As := [.int l1]) (rest := []) C (sX11_sumOf h_l0 qr14) cs_X11_491 (by decide) h_l0 rfl hC rfl rfl rfl (Nat.le_of_ble_eq_true rfl) ⟨Nat.le_refl _, Nat.le_refl _⟩ dX11_canPick_66 (fun hC => ?_)
            refine v_aload_n C 2 dX11_canPick_69 rfl rfl ?_
            refine v_iload_n C 4 dX11_canPick_70 rfl rfl ?_
            obtain ⟨r15, qr15, hf⟩ := bn hf
            refine v_callVi (As := [.int l2]) (rest := [.int r14]) C (sX11_pickCost h_l0 qr15) cs_X11_482 (by decide) h_l0 rfl hC rfl rfl rfl (Nat.le_of_ble_eq_true rfl) ⟨Nat.le_refl _, Nat.le_refl _⟩ dX11_canPick_71 (fun hC => ?_)
            refine v_iadd C dX11_canPick_74 ?_
            refine v_aload_n C 2 dX11_canPick_75 rfl rfl ?_
            refine v_getI C h_l0 fl_X11_488 dX11_canPick_76 ?_
            refine v_icmp_lt (tgt := 84) C dX11_canPick_79 (by decide) (fun c16 => ?_) (fun c16 => ?_)
            · have hf := ip hf c16
              refine v_sub [2, 3, 1, 0] rfl ?_
              exact tX11_canPick_J84 C hC h_l0 hf kr
            · have hf := im hf c16
              refine v_iconst (v := 0) C dX11_canPick_82 (by decide) ?_
              cases hf
              exact kr _ _ dX11_canPick_83 (Or.inl rfl) hC
        · have hf := im hf c12
          refine v_iconst (v := 0) C dX11_canPick_55 (by decide) ?_
          cases hf
          exact kr _ _ dX11_canPick_56 (Or.inl rfl) hC
theorem sX11_canPick {l : Launch} {sh : Sh} {G : Hp} {l0 : Nat} {l1 : Int32} {l2 : Int32} {z : Int32 × Hp} (h_l0 : sh[l0]? = some (0, 11)) (hf : fX11_canPick sh G l0 l1 l2 = some z) : MC l yX11_canPick cX11_canPick 5 (some .boolean) 4 0 0 sh sh G (z.2) (fun ad => [.ref (ad l0), .int l1, .int l2]) (fun _ => some (.int z.1)) := by
  refine MC_of rfl rfl (fun _ => Nat.le_of_ble_eq_true rfl) (fun E ad C hl hnm hC hQ => ?_)
  exact tX11_canPick C hC h_l0 hf (fun pc lv hd hz hC => v_zret C hQ (fun _ _ => rfl) hC rfl hz hd)
def fX11_hasSoul (l0 : Int32) : Option (Int32) := if (l0 &&& 1) = 1 then some 1 else some 0
set_option maxHeartbeats 4000000 in
theorem tX11_hasSoul {E : EX} {ad : Nat → Nat} {sh : Sh} {G : Hp} {l0 : Int32} {z : Int32} (C : Cx E RX11 cX11_hasSoul 1 (some .boolean) 1 0 0) (hC : Cl sh G) (hf : fX11_hasSoul l0 = some z) (kr : RCz E cX11_hasSoul ad sh z G) : VV E 0 0 (wq (xT E) ad G sh) 0 [(0, .int l0)] [] := by
  unfold fX11_hasSoul at hf
  refine v_iload_n C 0 dX11_hasSoul_0 rfl rfl ?_
  refine v_iconst (v := 1) C dX11_hasSoul_1 (by decide) ?_
  refine v_iand C dX11_hasSoul_2 ?_
  refine v_iconst (v := 1) C dX11_hasSoul_3 (by decide) ?_
  refine v_icmp_ne (tgt := 11) C dX11_hasSoul_4 (by decide) (fun c1 => ?_) (fun c1 => ?_)
  · have hf := im hf c1
    refine v_iconst (v := 0) C dX11_hasSoul_11 (by decide) ?_
    cases hf
    exact kr _ _ dX11_hasSoul_12 (Or.inl rfl) hC
  · have hf := ip hf c1
    refine v_iconst (v := 1) C dX11_hasSoul_7 (by decide) ?_
    refine v_goto (tgt := 12) C dX11_hasSoul_8 (by decide) ?_
    cases hf
    exact kr _ _ dX11_hasSoul_12 (Or.inr rfl) hC
theorem sX11_hasSoul {l : Launch} {sh : Sh} {G : Hp} {l0 : Int32} {z : Int32} (hf : fX11_hasSoul l0 = some z) : MC l yX11_hasSoul cX11_hasSoul 1 (some .boolean) 1 0 0 sh sh G G (fun ad => [.int l0]) (fun _ => some (.int z)) := by
  refine MC_of rfl rfl (fun _ => Nat.le_of_ble_eq_true rfl) (fun E ad C hl hnm hC hQ => ?_)
  exact tX11_hasSoul C hC hf (fun pc lv hd hz hC => v_zret C hQ (fun _ _ => rfl) hC rfl hz hd)
def fX11_learns (sh : Sh) (G : Hp) (l0 : Nat) (l1 : Int32) : Option (Hp) := (ldA sh G l0 59 1).bind fun a1 => (aI sh G a1 21).bind fun v2 => if v2 = 9 then some G else (ldA sh G l0 59 1).bind fun a4 => (ldA sh G l0 59 1).bind fun a5 => (aI sh G a5 21).bind fun v6 => (asI sh G a4 ((12 : Int32) + v6) l1).bind fun G7 => (ldA sh G7 l0 59 1).bind fun a8 => (aI sh G7 a8 21).bind fun v9 => (asI sh G7 a8 21 (v9 + 1)).bind fun G10 => some G10
set_option maxHeartbeats 4000000 in
theorem tX11_learns {E : EX} {ad : Nat → Nat} {sh : Sh} {G : Hp} {l0 : Nat} {l1 : Int32} {z : Hp} (C : Cx E RX11 cX11_learns 2 none 1 0 0) (hC : Cl sh G) (h_l0 : sh[l0]? = some (0, 11)) (hf : fX11_learns sh G l0 l1 = some z) (kr : RCv E cX11_learns ad sh z) : VV E 0 0 (wq (xT E) ad G sh) 0 [(0, .ref (ad l0)), (1, .int l1)] [] := by
  unfold fX11_learns at hf
  refine v_aload_n C 0 dX11_learns_0 rfl rfl ?_
  obtain ⟨a1, qa1, hf⟩ := bn hf
  refine v_getA C h_l0 fl_X11_137 qa1 dX11_learns_1 (fun h_a1 => ?_)
  refine v_bipush (v := 21) C dX11_learns_4 (by decide) ?_
  obtain ⟨v2, qv2, hf⟩ := bn hf
  refine v_iald C h_a1 qv2 dX11_learns_6 ?_
  refine v_bipush (v := 9) C dX11_learns_7 (by decide) ?_
  refine v_icmp_ne (tgt := 13) C dX11_learns_9 (by decide) (fun c3 => ?_) (fun c3 => ?_)
  · have hf := im hf c3
    refine v_aload_n C 0 dX11_learns_13 rfl rfl ?_
    obtain ⟨a4, qa4, hf⟩ := bn hf
    refine v_getA C h_l0 fl_X11_137 qa4 dX11_learns_14 (fun h_a4 => ?_)
    refine v_bipush (v := 12) C dX11_learns_17 (by decide) ?_
    refine v_aload_n C 0 dX11_learns_19 rfl rfl ?_
    obtain ⟨a5, qa5, hf⟩ := bn hf
    refine v_getA C h_l0 fl_X11_137 qa5 dX11_learns_20 (fun h_a5 => ?_)
    refine v_bipush (v := 21) C dX11_learns_23 (by decide) ?_
    obtain ⟨v6, qv6, hf⟩ := bn hf
    refine v_iald C h_a5 qv6 dX11_learns_25 ?_
    refine v_iadd C dX11_learns_26 ?_
    refine v_iload_n C 1 dX11_learns_27 rfl rfl ?_
    obtain ⟨G7, qG7, hf⟩ := bn hf
    refine v_iast C h_a4 qG7 hC dX11_learns_28 (fun hC => ?_)
    refine v_aload_n C 0 dX11_learns_29 rfl rfl ?_
    obtain ⟨a8, qa8, hf⟩ := bn hf
    refine v_getA C h_l0 fl_X11_137 qa8 dX11_learns_30 (fun h_a8 => ?_)
    refine v_bipush (v := 21) C dX11_learns_33 (by decide) ?_
    refine v_dup2 C dX11_learns_35 rfl rfl ?_
    obtain ⟨v9, qv9, hf⟩ := bn hf
    refine v_iald C h_a8 qv9 dX11_learns_36 ?_
    refine v_iconst (v := 1) C dX11_learns_37 (by decide) ?_
    refine v_iadd C dX11_learns_38 ?_
    obtain ⟨G10, qG10, hf⟩ := bn hf
    refine v_iast C h_a8 qG10 hC dX11_learns_39 (fun hC => ?_)
    cases hf
    exact kr _ _ dX11_learns_40 hC
  · have hf := ip hf c3
    cases hf
    exact kr _ _ dX11_learns_12 hC
theorem sX11_learns {l : Launch} {sh : Sh} {G : Hp} {l0 : Nat} {l1 : Int32} {z : Hp} (h_l0 : sh[l0]? = some (0, 11)) (hf : fX11_learns sh G l0 l1 = some z) : MC l yX11_learns cX11_learns 2 none 1 0 0 sh sh G z (fun ad => [.ref (ad l0), .int l1]) (fun _ => none) := by
  refine MC_of rfl rfl (fun _ => Nat.le_of_ble_eq_true rfl) (fun E ad C hl hnm hC hQ => ?_)
  exact tX11_learns C hC h_l0 hf (fun pc lv hd hC => v_vret C hQ (fun _ _ => rfl) hC rfl hd)
def fX11_picksNext_S23 (sh : Sh) (l0 : Nat) (l1 : Int32) (G : Hp)  : Option ((Hp) ⊕ ((Hp))) := (ldA sh G l0 70 1).bind fun a1 => (aI sh G a1 l1).bind fun v2 => if 35 ≤ v2 then some (.inr G) else (ldA sh G l0 70 1).bind fun a4 => (aI sh G a4 l1).bind fun v5 => bp (fX11_canPick sh G l0 l1 v5) fun r6 G7 => if r6 = 0 then (ldA sh G7 l0 70 1).bind fun a9 => (aI sh G7 a9 l1).bind fun v10 => (asI sh G7 a9 l1 (v10 + 1)).bind fun G11 => some (.inl G11) else some (.inr G7)
set_option maxHeartbeats 4000000 in
theorem tX11_picksNext_S23 {E : EX} {ad : Nat → Nat} {sh : Sh} {G : Hp} {l0 : Nat} {l1 : Int32} {o : (Hp) ⊕ ((Hp))} (C : Cx E RX11 cX11_picksNext 3 (some .boolean) 5 0 0) (hC : Cl sh G) (h_l0 : sh[l0]? = some (0, 11)) (hf : fX11_picksNext_S23 sh l0 l1 G  = some o) (kb : ∀ (G2 : Hp), o = .inl G2 → Cl sh G2 → VV E 0 0 (wq (xT E) ad G2 sh) 23 [(0, .ref (ad l0)), (1, .int l1)] []) (kx61 : ∀ (G2 : Hp), o = .inr G2 → Cl sh G2 → VV E 0 0 (wq (xT E) ad G2 sh) 61 [(0, .ref (ad l0)), (1, .int l1)] []) : VV E 0 0 (wq (xT E) ad G sh) 23 [(0, .ref (ad l0)), (1, .int l1)] [] := by
  unfold fX11_picksNext_S23 at hf
  refine v_aload_n C 0 dX11_picksNext_23 rfl rfl ?_
  obtain ⟨a1, qa1, hf⟩ := bn hf
  refine v_getA C h_l0 fl_X11_155 qa1 dX11_picksNext_24 (fun h_a1 => ?_)
  refine v_iload_n C 1 dX11_picksNext_27 rfl rfl ?_
  obtain ⟨v2, qv2, hf⟩ := bn hf
  refine v_iald C h_a1 qv2 dX11_picksNext_28 ?_
  refine v_bipush (v := 35) C dX11_picksNext_29 (by decide) ?_
  refine v_icmp_ge (tgt := 61) C dX11_picksNext_31 (by decide) (fun c3 => ?_) (fun c3 => ?_)
  · have hf := ip hf c3
    cases hf
    refine v_sub [0, 1] rfl ?_
    exact kx61 _ rfl hC
  · have hf := im hf c3
    refine v_aload_n C 0 dX11_picksNext_34 rfl rfl ?_
    refine v_iload_n C 1 dX11_picksNext_35 rfl rfl ?_
    refine v_aload_n C 0 dX11_picksNext_36 rfl rfl ?_
    obtain ⟨a4, qa4, hf⟩ := bn hf
    refine v_getA C h_l0 fl_X11_155 qa4 dX11_picksNext_37 (fun h_a4 => ?_)
    refine v_iload_n C 1 dX11_picksNext_40 rfl rfl ?_
    obtain ⟨v5, qv5, hf⟩ := bn hf
    refine v_iald C h_a4 qv5 dX11_picksNext_41 ?_
    obtain ⟨r6, G7, qr6, hf⟩ := bpn hf
    refine v_callVi (As := [.int l1, .int v5]) (rest := []) C (sX11_canPick h_l0 qr6) cs_X11_494 (by decide) h_l0 rfl hC rfl rfl rfl (Nat.le_of_ble_eq_true rfl) ⟨Nat.le_refl _, Nat.le_refl _⟩ dX11_picksNext_42 (fun hC => ?_)
    refine v_if_ne (tgt := 61) C dX11_picksNext_45 (by decide) (fun c8 => ?_) (fun c8 => ?_)
    · have hf := im hf c8
      cases hf
      refine v_sub [0, 1] rfl ?_
      exact kx61 _ rfl hC
    · have hf := ip hf c8
      refine v_aload_n C 0 dX11_picksNext_48 rfl rfl ?_
      obtain ⟨a9, qa9, hf⟩ := bn hf
      refine v_getA C h_l0 fl_X11_155 qa9 dX11_picksNext_49 (fun h_a9 => ?_)
      refine v_iload_n C 1 dX11_picksNext_52 rfl rfl ?_
      refine v_dup2 C dX11_picksNext_53 rfl rfl ?_
      obtain ⟨v10, qv10, hf⟩ := bn hf
      refine v_iald C h_a9 qv10 dX11_picksNext_54 ?_
      refine v_iconst (v := 1) C dX11_picksNext_55 (by decide) ?_
      refine v_iadd C dX11_picksNext_56 ?_
      obtain ⟨G11, qG11, hf⟩ := bn hf
      refine v_iast C h_a9 qG11 hC dX11_picksNext_57 (fun hC => ?_)
      refine v_goto (tgt := 23) C dX11_picksNext_58 (by decide) ?_
      cases hf
      refine v_sub [0, 1] rfl ?_
      exact kb _ rfl hC
def fX11_picksNext_J61 (sh : Sh) (G : Hp) (l0 : Nat) (l1 : Int32) : Option (Int32 × Hp) := (ldA sh G l0 70 1).bind fun a1 => (aI sh G a1 l1).bind fun v2 => if v2 = 35 then some (0, G) else (ldA sh G l0 70 1).bind fun a4 => (aI sh G a4 l1).bind fun v5 => (ldA sh G l0 70 1).bind fun a6 => (aI sh G a6 l1).bind fun v7 => (fX11_setOf sh G l0 (v5 / 5) ((v7 - v7 / 5 * 5) - 1)).bind fun r8 => (fX11_hasSoul r8).bind fun r9 => if r9 = 0 then (fX11_learns sh G l0 r8).bind fun G12 => some (1, G12) else some (1, G)
set_option maxHeartbeats 4000000 in
theorem tX11_picksNext_J61 {E : EX} {ad : Nat → Nat} {sh : Sh} {G : Hp} {l0 : Nat} {l1 : Int32} {z : Int32 × Hp} (C : Cx E RX11 cX11_picksNext 3 (some .boolean) 5 0 0) (hC : Cl sh G) (h_l0 : sh[l0]? = some (0, 11)) (hf : fX11_picksNext_J61 sh G l0 l1 = some z) (kr : RCz E cX11_picksNext ad sh (z.1) (z.2)) : VV E 0 0 (wq (xT E) ad G sh) 61 [(0, .ref (ad l0)), (1, .int l1)] [] := by
  unfold fX11_picksNext_J61 at hf
  refine v_aload_n C 0 dX11_picksNext_61 rfl rfl ?_
  obtain ⟨a1, qa1, hf⟩ := bn hf
  refine v_getA C h_l0 fl_X11_155 qa1 dX11_picksNext_62 (fun h_a1 => ?_)
  refine v_iload_n C 1 dX11_picksNext_65 rfl rfl ?_
  obtain ⟨v2, qv2, hf⟩ := bn hf
  refine v_iald C h_a1 qv2 dX11_picksNext_66 ?_
  refine v_bipush (v := 35) C dX11_picksNext_67 (by decide) ?_
  refine v_icmp_ne (tgt := 74) C dX11_picksNext_69 (by decide) (fun c3 => ?_) (fun c3 => ?_)
  · have hf := im hf c3
    refine v_aload_n C 0 dX11_picksNext_74 rfl rfl ?_
    refine v_aload_n C 0 dX11_picksNext_75 rfl rfl ?_
    obtain ⟨a4, qa4, hf⟩ := bn hf
    refine v_getA C h_l0 fl_X11_155 qa4 dX11_picksNext_76 (fun h_a4 => ?_)
    refine v_iload_n C 1 dX11_picksNext_79 rfl rfl ?_
    obtain ⟨v5, qv5, hf⟩ := bn hf
    refine v_iald C h_a4 qv5 dX11_picksNext_80 ?_
    refine v_iconst (v := 5) C dX11_picksNext_81 (by decide) ?_
    refine v_idiv C dX11_picksNext_82 (by decide) ?_
    refine v_aload_n C 0 dX11_picksNext_83 rfl rfl ?_
    obtain ⟨a6, qa6, hf⟩ := bn hf
    refine v_getA C h_l0 fl_X11_155 qa6 dX11_picksNext_84 (fun h_a6 => ?_)
    refine v_iload_n C 1 dX11_picksNext_87 rfl rfl ?_
    obtain ⟨v7, qv7, hf⟩ := bn hf
    refine v_iald C h_a6 qv7 dX11_picksNext_88 ?_
    refine v_iconst (v := 5) C dX11_picksNext_89 (by decide) ?_
    refine v_irem C dX11_picksNext_90 (by decide) ?_
    refine v_iconst (v := 1) C dX11_picksNext_91 (by decide) ?_
    refine v_isub C dX11_picksNext_92 ?_
    obtain ⟨r8, qr8, hf⟩ := bn hf
    refine v_callVi (As := [.int (v5 / 5), .int ((v7 - v7 / 5 * 5) - 1)]) (rest := []) C (sX11_setOf h_l0 qr8) cs_X11_428 (by decide) h_l0 rfl hC rfl rfl rfl (Nat.le_of_ble_eq_true rfl) ⟨Nat.le_refl _, Nat.le_refl _⟩ dX11_picksNext_93 (fun hC => ?_)
    refine v_istore_n (lv2 := [(2, .int r8), (0, .ref (ad l0)), (1, .int l1)]) C dX11_picksNext_96 rfl (by decide) rfl ?_
    refine v_iload_n C 0 dX11_picksNext_97 rfl rfl ?_
    obtain ⟨r9, qr9, hf⟩ := bn hf
    refine v_callSi (As := [.int r8]) (rest := []) C (sX11_hasSoul  qr9) cs_X11_443 (by decide) hC rfl rfl rfl (Nat.le_of_ble_eq_true rfl) ⟨Nat.le_refl _, Nat.le_refl _⟩ dX11_picksNext_98 (fun hC => ?_)
    refine v_if_ne (tgt := 109) C dX11_picksNext_101 (by decide) (fun c10 => ?_) (fun c10 => ?_)
    · have hf := im hf c10
      refine v_iconst (v := 1) C dX11_picksNext_109 (by decide) ?_
      cases hf
      exact kr _ _ dX11_picksNext_110 (Or.inr rfl) hC
    · have hf := ip hf c10
      refine v_aload_n C 1 dX11_picksNext_104 rfl rfl ?_
      refine v_iload_n C 0 dX11_picksNext_105 rfl rfl ?_
      obtain ⟨G12, qr11, hf⟩ := bn hf
      refine v_callVv (As := [.int r8]) (rest := []) C (sX11_learns h_l0 qr11) cs_X11_446 (by decide) h_l0 rfl hC rfl rfl rfl (Nat.le_of_ble_eq_true rfl) ⟨Nat.le_refl _, Nat.le_refl _⟩ dX11_picksNext_106 (fun hC => ?_)
      refine v_iconst (v := 1) C dX11_picksNext_109 (by decide) ?_
      cases hf
      exact kr _ _ dX11_picksNext_110 (Or.inr rfl) hC
  · have hf := ip hf c3
    refine v_iconst (v := 0) C dX11_picksNext_72 (by decide) ?_
    cases hf
    exact kr _ _ dX11_picksNext_73 (Or.inl rfl) hC
def fX11_picksNext (sh : Sh) (G : Hp) (l0 : Nat) (l1 : Int32) : Option (Int32 × Hp) := (ldA sh G l0 59 1).bind fun a1 => (ldA sh G l0 71 1).bind fun a2 => (aI sh G a2 l1).bind fun v3 => (asI sh G a1 21 v3).bind fun G4 => (ldA sh G4 l0 70 1).bind fun a5 => (aI sh G4 a5 l1).bind fun v6 => (asI sh G4 a5 l1 (v6 + 1)).bind fun G7 => (iter (fun s : Hp => fX11_picksNext_S23 sh l0 l1 s ) fuel (G7 : Hp)).bind (fun u10 => bd u10 fun G9 => fX11_picksNext_J61 sh G9 l0 l1)
set_option maxHeartbeats 4000000 in
theorem tX11_picksNext {E : EX} {ad : Nat → Nat} {sh : Sh} {G : Hp} {l0 : Nat} {l1 : Int32} {z : Int32 × Hp} (C : Cx E RX11 cX11_picksNext 3 (some .boolean) 5 0 0) (hC : Cl sh G) (h_l0 : sh[l0]? = some (0, 11)) (hf : fX11_picksNext sh G l0 l1 = some z) (kr : RCz E cX11_picksNext ad sh (z.1) (z.2)) : VV E 0 0 (wq (xT E) ad G sh) 0 [(0, .ref (ad l0)), (1, .int l1)] [] := by
  unfold fX11_picksNext at hf
  refine v_aload_n C 0 dX11_picksNext_0 rfl rfl ?_
  obtain ⟨a1, qa1, hf⟩ := bn hf
  refine v_getA C h_l0 fl_X11_137 qa1 dX11_picksNext_1 (fun h_a1 => ?_)
  refine v_bipush (v := 21) C dX11_picksNext_4 (by decide) ?_
  refine v_aload_n C 0 dX11_picksNext_6 rfl rfl ?_
  obtain ⟨a2, qa2, hf⟩ := bn hf
  refine v_getA C h_l0 fl_X11_158 qa2 dX11_picksNext_7 (fun h_a2 => ?_)
  refine v_iload_n C 1 dX11_picksNext_10 rfl rfl ?_
  obtain ⟨v3, qv3, hf⟩ := bn hf
  refine v_iald C h_a2 qv3 dX11_picksNext_11 ?_
  obtain ⟨G4, qG4, hf⟩ := bn hf
  refine v_iast C h_a1 qG4 hC dX11_picksNext_12 (fun hC => ?_)
  refine v_aload_n C 0 dX11_picksNext_13 rfl rfl ?_
  obtain ⟨a5, qa5, hf⟩ := bn hf
  refine v_getA C h_l0 fl_X11_155 qa5 dX11_picksNext_14 (fun h_a5 => ?_)
  refine v_iload_n C 1 dX11_picksNext_17 rfl rfl ?_
  refine v_dup2 C dX11_picksNext_18 rfl rfl ?_
  obtain ⟨v6, qv6, hf⟩ := bn hf
  refine v_iald C h_a5 qv6 dX11_picksNext_19 ?_
  refine v_iconst (v := 1) C dX11_picksNext_20 (by decide) ?_
  refine v_iadd C dX11_picksNext_21 ?_
  obtain ⟨G7, qG7, hf⟩ := bn hf
  refine v_iast C h_a5 qG7 hC dX11_picksNext_22 (fun hC => ?_)
  obtain ⟨r8, qr8, hf⟩ := bn hf
  refine v_sub [0, 1] rfl ?_
  refine iter_sound (P := (fun s : Hp => Cl sh (s) → VV E 0 0 (wq (xT E) ad (s) sh) 23 [(0, .ref (ad l0)), (1, .int (l1))] [])) (X := fun r => r = r8) (fun jsr8 jor8 hor8 jbr8 jxr8 hC => tX11_picksNext_S23 C hC h_l0 hor8 (fun _ e => jbr8 _ e) ?_) fuel _ r8 qr8 rfl hC
  · intro G9 hu hC
    have e := jxr8 _ hu
    subst e
    have hf := bd_at hf (rfl : G9 = _)
    refine v_sub [0, 1] rfl ?_
    exact tX11_picksNext_J61 C hC h_l0 hf kr
theorem sX11_picksNext {l : Launch} {sh : Sh} {G : Hp} {l0 : Nat} {l1 : Int32} {z : Int32 × Hp} (h_l0 : sh[l0]? = some (0, 11)) (hf : fX11_picksNext sh G l0 l1 = some z) : MC l yX11_picksNext cX11_picksNext 3 (some .boolean) 5 0 0 sh sh G (z.2) (fun ad => [.ref (ad l0), .int l1]) (fun _ => some (.int z.1)) := by
  refine MC_of rfl rfl (fun _ => Nat.le_of_ble_eq_true rfl) (fun E ad C hl hnm hC hQ => ?_)
  exact tX11_picksNext C hC h_l0 hf (fun pc lv hd hz hC => v_zret C hQ (fun _ _ => rfl) hC rfl hz hd)
def fX11_fillsAll_S11 (sh : Sh) (l0 : Nat) (G : Hp) (l1 : Int32) : Option ((Hp × Int32) ⊕ ((Hp))) := (ldA sh G l0 31 1).bind fun a1 => (aI sh G a1 (G.1 l0 18)).bind fun v2 => if v2 ≤ l1 then some (.inr G) else (ldA sh G l0 59 1).bind fun a4 => (aI sh G a4 ((4 : Int32) + l1)).bind fun v5 => if v5 = 0 then (ldA sh G l0 68 1).bind fun a7 => (asI sh G a7 (G.1 l0 69) l1).bind fun G8 => bd (sI G8 l0 69 ((G8.1 l0 69) + 1)) fun G9 => bd ((l1 + 1) : Int32) fun x10 => some (.inl (G9, x10)) else bd ((l1 + 1) : Int32) fun x11 => some (.inl (G, x11))
set_option maxHeartbeats 4000000 in
theorem tX11_fillsAll_S11 {E : EX} {ad : Nat → Nat} {sh : Sh} {G : Hp} {l0 : Nat} {l1 : Int32} {o : (Hp × Int32) ⊕ ((Hp))} (C : Cx E RX11 cX11_fillsAll 3 none 6 0 0) (hC : Cl sh G) (h_l0 : sh[l0]? = some (0, 11)) (hf : fX11_fillsAll_S11 sh l0 G l1 = some o) (kb : ∀ (G2 : Hp) (b_l1 : Int32), o = .inl (G2, b_l1) → Cl sh G2 → VV E 0 0 (wq (xT E) ad G2 sh) 11 [(0, .ref (ad l0)), (1, .int b_l1)] []) (kx64 : ∀ (G2 : Hp), o = .inr G2 → Cl sh G2 → VV E 0 0 (wq (xT E) ad G2 sh) 64 [(0, .ref (ad l0))] []) : VV E 0 0 (wq (xT E) ad G sh) 11 [(0, .ref (ad l0)), (1, .int l1)] [] := by
  unfold fX11_fillsAll_S11 at hf
  refine v_iload_n C 1 dX11_fillsAll_11 rfl rfl ?_
  refine v_aload_n C 0 dX11_fillsAll_12 rfl rfl ?_
  obtain ⟨a1, qa1, hf⟩ := bn hf
  refine v_getA C h_l0 fl_X11_70 qa1 dX11_fillsAll_13 (fun h_a1 => ?_)
  refine v_aload_n C 0 dX11_fillsAll_16 rfl rfl ?_
  refine v_getI C h_l0 fl_X11_257 dX11_fillsAll_17 ?_
  obtain ⟨v2, qv2, hf⟩ := bn hf
  refine v_iald C h_a1 qv2 dX11_fillsAll_20 ?_
  refine v_icmp_ge (tgt := 64) C dX11_fillsAll_21 (by decide) (fun c3 => ?_) (fun c3 => ?_)
  · have hf := ip hf c3
    cases hf
    refine v_sub [0] rfl ?_
    exact kx64 _ rfl hC
  · have hf := im hf c3
    refine v_aload_n C 0 dX11_fillsAll_24 rfl rfl ?_
    obtain ⟨a4, qa4, hf⟩ := bn hf
    refine v_getA C h_l0 fl_X11_137 qa4 dX11_fillsAll_25 (fun h_a4 => ?_)
    refine v_iconst (v := 4) C dX11_fillsAll_28 (by decide) ?_
    refine v_iload_n C 1 dX11_fillsAll_29 rfl rfl ?_
    refine v_iadd C dX11_fillsAll_30 ?_
    obtain ⟨v5, qv5, hf⟩ := bn hf
    refine v_iald C h_a4 qv5 dX11_fillsAll_31 ?_
    refine v_if_eq (tgt := 38) C dX11_fillsAll_32 (by decide) (fun c6 => ?_) (fun c6 => ?_)
    · have hf := ip hf c6
      refine v_aload_n C 0 dX11_fillsAll_38 rfl rfl ?_
      obtain ⟨a7, qa7, hf⟩ := bn hf
      refine v_getA C h_l0 fl_X11_152 qa7 dX11_fillsAll_39 (fun h_a7 => ?_)
      refine v_aload_n C 0 dX11_fillsAll_42 rfl rfl ?_
      refine v_getI C h_l0 fl_X11_497 dX11_fillsAll_43 ?_
      refine v_iload_n C 1 dX11_fillsAll_46 rfl rfl ?_
      obtain ⟨G8, qG8, hf⟩ := bn hf
      refine v_iast C h_a7 qG8 hC dX11_fillsAll_47 (fun hC => ?_)
      refine v_aload_n C 0 dX11_fillsAll_48 rfl rfl ?_
      refine v_dup C dX11_fillsAll_49 rfl ?_
      refine v_getI C h_l0 fl_X11_497 dX11_fillsAll_50 ?_
      refine v_iconst (v := 1) C dX11_fillsAll_53 (by decide) ?_
      refine v_iadd C dX11_fillsAll_54 ?_
      refine v_putI C h_l0 fp_X11_497 dX11_fillsAll_55 (fun G9 eG9 => ?_)
      have hf := bd_at hf eG9
      have hC : Cl sh G9 := by rw [eG9]; exact hC
      obtain ⟨x10, ex10⟩ : ∃ x : Int32, x = (l1 + 1) := ⟨_, rfl⟩
      have hf := bd_at hf ex10
      refine v_iinc (v := x10) (j := 1) (lv2 := [(1, .int x10), (0, .ref (ad l0))]) C dX11_fillsAll_58 rfl (by rw [ex10]; rfl) (by decide) rfl ?_
      refine v_goto (tgt := 11) C dX11_fillsAll_61 (by decide) ?_
      cases hf
      refine v_sub [1, 0] rfl ?_
      exact kb _ _ rfl hC
    · have hf := im hf c6
      refine v_goto (tgt := 58) C dX11_fillsAll_35 (by decide) ?_
      obtain ⟨x11, ex11⟩ : ∃ x : Int32, x = (l1 + 1) := ⟨_, rfl⟩
      have hf := bd_at hf ex11
      refine v_iinc (v := x11) (j := 1) (lv2 := [(1, .int x11), (0, .ref (ad l0))]) C dX11_fillsAll_58 rfl (by rw [ex11]; rfl) (by decide) rfl ?_
      refine v_goto (tgt := 11) C dX11_fillsAll_61 (by decide) ?_
      cases hf
      refine v_sub [1, 0] rfl ?_
      exact kb _ _ rfl hC
def fX11_fillsAll_S181 (sh : Sh) (l0 : Nat) (l1 : Int32) (G : Hp) (l2 : Int32) : Option ((Hp × Int32) ⊕ ((Hp))) := if (G.1 l0 69) ≤ l2 then some (.inr G) else (ldA sh G l0 72 1).bind fun a2 => (ldA sh G l0 70 1).bind fun a3 => (aI sh G a3 l2).bind fun v4 => (asI sh G a2 l2 v4).bind fun G5 => bd ((l2 + 1) : Int32) fun x6 => some (.inl (G5, x6))
set_option maxHeartbeats 4000000 in
theorem tX11_fillsAll_S181 {E : EX} {ad : Nat → Nat} {sh : Sh} {G : Hp} {l0 : Nat} {l1 : Int32} {l2 : Int32} {o : (Hp × Int32) ⊕ ((Hp))} (C : Cx E RX11 cX11_fillsAll 3 none 6 0 0) (hC : Cl sh G) (h_l0 : sh[l0]? = some (0, 11)) (hf : fX11_fillsAll_S181 sh l0 l1 G l2 = some o) (kb : ∀ (G2 : Hp) (b_l2 : Int32), o = .inl (G2, b_l2) → Cl sh G2 → VV E 0 0 (wq (xT E) ad G2 sh) 181 [(0, .ref (ad l0)), (1, .int l1), (2, .int b_l2)] []) (kx207 : ∀ (G2 : Hp), o = .inr G2 → Cl sh G2 → VV E 0 0 (wq (xT E) ad G2 sh) 207 [(0, .ref (ad l0)), (1, .int l1)] []) : VV E 0 0 (wq (xT E) ad G sh) 181 [(0, .ref (ad l0)), (1, .int l1), (2, .int l2)] [] := by
  unfold fX11_fillsAll_S181 at hf
  refine v_iload_n C 2 dX11_fillsAll_181 rfl rfl ?_
  refine v_aload_n C 0 dX11_fillsAll_182 rfl rfl ?_
  refine v_getI C h_l0 fl_X11_497 dX11_fillsAll_183 ?_
  refine v_icmp_ge (tgt := 207) C dX11_fillsAll_186 (by decide) (fun c1 => ?_) (fun c1 => ?_)
  · have hf := ip hf c1
    cases hf
    refine v_sub [0, 1] rfl ?_
    exact kx207 _ rfl hC
  · have hf := im hf c1
    refine v_aload_n C 0 dX11_fillsAll_189 rfl rfl ?_
    obtain ⟨a2, qa2, hf⟩ := bn hf
    refine v_getA C h_l0 fl_X11_161 qa2 dX11_fillsAll_190 (fun h_a2 => ?_)
    refine v_iload_n C 2 dX11_fillsAll_193 rfl rfl ?_
    refine v_aload_n C 0 dX11_fillsAll_194 rfl rfl ?_
    obtain ⟨a3, qa3, hf⟩ := bn hf
    refine v_getA C h_l0 fl_X11_155 qa3 dX11_fillsAll_195 (fun h_a3 => ?_)
    refine v_iload_n C 2 dX11_fillsAll_198 rfl rfl ?_
    obtain ⟨v4, qv4, hf⟩ := bn hf
    refine v_iald C h_a3 qv4 dX11_fillsAll_199 ?_
    obtain ⟨G5, qG5, hf⟩ := bn hf
    refine v_iast C h_a2 qG5 hC dX11_fillsAll_200 (fun hC => ?_)
    obtain ⟨x6, ex6⟩ : ∃ x : Int32, x = (l2 + 1) := ⟨_, rfl⟩
    have hf := bd_at hf ex6
    refine v_iinc (v := x6) (j := 2) (lv2 := [(2, .int x6), (0, .ref (ad l0)), (1, .int l1)]) C dX11_fillsAll_201 rfl (by rw [ex6]; rfl) (by decide) rfl ?_
    refine v_goto (tgt := 181) C dX11_fillsAll_204 (by decide) ?_
    cases hf
    refine v_sub [1, 2, 0] rfl ?_
    exact kb _ _ rfl hC
def fX11_fillsAll_S113 (sh : Sh) (l0 : Nat) (G : Hp) (l1 : Int32) : Option ((Hp × Int32) ⊕ ((Hp))) := if l1 < 0 then some (.inr G) else bp (fX11_picksNext sh G l0 l1) fun r2 G3 => if r2 = 0 then bd ((l1 + (-1)) : Int32) fun x18 => some (.inl (G3, x18)) else if ((G3.1 l0 69) - 1) ≤ l1 then (fX11_sumOf sh G3 l0 (G3.1 l0 69)).bind fun r6 => bd (sI G3 l0 73 r6) fun G7 => (iter (fun s : Hp × Int32 => fX11_fillsAll_S181 sh l0 l1 s.1 s.2) fuel ((G7, 0) : Hp × Int32)).bind (fun u10 => bd u10 fun G9 => some (.inl (G9, l1))) else bd ((l1 + 1) : Int32) fun x11 => (ldA sh G3 l0 70 1).bind fun a12 => (asI sh G3 a12 x11 (-1)).bind fun G13 => (ldA sh G13 l0 71 1).bind fun a14 => (ldA sh G13 l0 59 1).bind fun a15 => (aI sh G13 a15 21).bind fun v16 => (asI sh G13 a14 x11 v16).bind fun G17 => some (.inl (G17, x11))
set_option maxHeartbeats 4000000 in
theorem tX11_fillsAll_S113 {E : EX} {ad : Nat → Nat} {sh : Sh} {G : Hp} {l0 : Nat} {l1 : Int32} {o : (Hp × Int32) ⊕ ((Hp))} (C : Cx E RX11 cX11_fillsAll 3 none 6 0 0) (hC : Cl sh G) (h_l0 : sh[l0]? = some (0, 11)) (hf : fX11_fillsAll_S113 sh l0 G l1 = some o) (kb : ∀ (G2 : Hp) (b_l1 : Int32), o = .inl (G2, b_l1) → Cl sh G2 → VV E 0 0 (wq (xT E) ad G2 sh) 113 [(0, .ref (ad l0)), (1, .int b_l1)] []) (kx210 : ∀ (G2 : Hp), o = .inr G2 → Cl sh G2 → VV E 0 0 (wq (xT E) ad G2 sh) 210 [(0, .ref (ad l0))] []) : VV E 0 0 (wq (xT E) ad G sh) 113 [(0, .ref (ad l0)), (1, .int l1)] [] := by
  unfold fX11_fillsAll_S113 at hf
  refine v_iload_n C 1 dX11_fillsAll_113 rfl rfl ?_
  refine v_if_lt (tgt := 210) C dX11_fillsAll_114 (by decide) (fun c1 => ?_) (fun c1 => ?_)
  · have hf := ip hf c1
    cases hf
    refine v_sub [0] rfl ?_
    exact kx210 _ rfl hC
  · have hf := im hf c1
    refine v_aload_n C 0 dX11_fillsAll_117 rfl rfl ?_
    refine v_iload_n C 1 dX11_fillsAll_118 rfl rfl ?_
    obtain ⟨r2, G3, qr2, hf⟩ := bpn hf
    refine v_callVi (As := [.int l1]) (rest := []) C (sX11_picksNext h_l0 qr2) cs_X11_500 (by decide) h_l0 rfl hC rfl rfl rfl (Nat.le_of_ble_eq_true rfl) ⟨Nat.le_refl _, Nat.le_refl _⟩ dX11_fillsAll_119 (fun hC => ?_)
    refine v_if_ne (tgt := 131) C dX11_fillsAll_122 (by decide) (fun c4 => ?_) (fun c4 => ?_)
    · have hf := im hf c4
      refine v_iload_n C 1 dX11_fillsAll_131 rfl rfl ?_
      refine v_aload_n C 0 dX11_fillsAll_132 rfl rfl ?_
      refine v_getI C h_l0 fl_X11_497 dX11_fillsAll_133 ?_
      refine v_iconst (v := 1) C dX11_fillsAll_136 (by decide) ?_
      refine v_isub C dX11_fillsAll_137 ?_
      refine v_icmp_ge (tgt := 167) C dX11_fillsAll_138 (by decide) (fun c5 => ?_) (fun c5 => ?_)
      · have hf := ip hf c5
        refine v_aload_n C 0 dX11_fillsAll_167 rfl rfl ?_
        refine v_aload_n C 0 dX11_fillsAll_168 rfl rfl ?_
        refine v_aload_n C 0 dX11_fillsAll_169 rfl rfl ?_
        refine v_getI C h_l0 fl_X11_497 dX11_fillsAll_170 ?_
        obtain ⟨r6, qr6, hf⟩ := bn hf
        refine v_callVi (As := [.int (G3.1 l0 69)]) (rest := [.ref (ad l0)]) C (sX11_sumOf h_l0 qr6) cs_X11_491 (by decide) h_l0 rfl hC rfl rfl rfl (Nat.le_of_ble_eq_true rfl) ⟨Nat.le_refl _, Nat.le_refl _⟩ dX11_fillsAll_173 (fun hC => ?_)
        refine v_putI C h_l0 fp_X11_488 dX11_fillsAll_176 (fun G7 eG7 => ?_)
        have hf := bd_at hf eG7
        have hC : Cl sh G7 := by rw [eG7]; exact hC
        refine v_iconst (v := 0) C dX11_fillsAll_179 (by decide) ?_
        refine v_istore_n (lv2 := [(2, .int 0), (0, .ref (ad l0)), (1, .int l1)]) C dX11_fillsAll_180 rfl (by decide) rfl ?_
        obtain ⟨r8, qr8, hf⟩ := bn hf
        refine v_sub [1, 2, 0] rfl ?_
        refine iter_sound (P := (fun s : Hp × Int32 => Cl sh (s.1) → VV E 0 0 (wq (xT E) ad (s.1) sh) 181 [(0, .ref (ad l0)), (1, .int (l1)), (2, .int (s.2))] [])) (X := fun r => r = r8) (fun jsr8 jor8 hor8 jbr8 jxr8 hC => tX11_fillsAll_S181 C hC h_l0 hor8 (fun _ _ e => jbr8 _ e) ?_) fuel _ r8 qr8 rfl hC
        · intro G9 hu hC
          have e := jxr8 _ hu
          subst e
          have hf := bd_at hf (rfl : G9 = _)
          refine v_goto (tgt := 113) C dX11_fillsAll_207 (by decide) ?_
          cases hf
          refine v_sub [0, 1] rfl ?_
          exact kb _ _ rfl hC
      · have hf := im hf c5
        obtain ⟨x11, ex11⟩ : ∃ x : Int32, x = (l1 + 1) := ⟨_, rfl⟩
        have hf := bd_at hf ex11
        refine v_iinc (v := x11) (j := 1) (lv2 := [(1, .int x11), (0, .ref (ad l0))]) C dX11_fillsAll_141 rfl (by rw [ex11]; rfl) (by decide) rfl ?_
        refine v_aload_n C 1 dX11_fillsAll_144 rfl rfl ?_
        obtain ⟨a12, qa12, hf⟩ := bn hf
        refine v_getA C h_l0 fl_X11_155 qa12 dX11_fillsAll_145 (fun h_a12 => ?_)
        refine v_iload_n C 0 dX11_fillsAll_148 rfl rfl ?_
        refine v_iconst (v := (-1)) C dX11_fillsAll_149 (by decide) ?_
        obtain ⟨G13, qG13, hf⟩ := bn hf
        refine v_iast C h_a12 qG13 hC dX11_fillsAll_150 (fun hC => ?_)
        refine v_aload_n C 1 dX11_fillsAll_151 rfl rfl ?_
        obtain ⟨a14, qa14, hf⟩ := bn hf
        refine v_getA C h_l0 fl_X11_158 qa14 dX11_fillsAll_152 (fun h_a14 => ?_)
        refine v_iload_n C 0 dX11_fillsAll_155 rfl rfl ?_
        refine v_aload_n C 1 dX11_fillsAll_156 rfl rfl ?_
        obtain ⟨a15, qa15, hf⟩ := bn hf
        refine v_getA C h_l0 fl_X11_137 qa15 dX11_fillsAll_157 (fun h_a15 => ?_)
        refine v_bipush (v := 21) C dX11_fillsAll_160 (by decide) ?_
        obtain ⟨v16, qv16, hf⟩ := bn hf
        refine v_iald C h_a15 qv16 dX11_fillsAll_162 ?_
        obtain ⟨G17, qG17, hf⟩ := bn hf
        refine v_iast C h_a14 qG17 hC dX11_fillsAll_163 (fun hC => ?_)
        refine v_goto (tgt := 113) C dX11_fillsAll_164 (by decide) ?_
        cases hf
        refine v_sub [1, 0] rfl ?_
        exact kb _ _ rfl hC
    · have hf := ip hf c4
      obtain ⟨x18, ex18⟩ : ∃ x : Int32, x = (l1 + (-1)) := ⟨_, rfl⟩
      have hf := bd_at hf ex18
      refine v_iinc (v := x18) (j := 1) (lv2 := [(1, .int x18), (0, .ref (ad l0))]) C dX11_fillsAll_125 rfl (by rw [ex18]; rfl) (by decide) rfl ?_
      refine v_goto (tgt := 113) C dX11_fillsAll_128 (by decide) ?_
      cases hf
      refine v_sub [1, 0] rfl ?_
      exact kb _ _ rfl hC
def fX11_fillsAll_J92 (sh : Sh) (G : Hp) (l0 : Nat) (s0 : Int32) : Option (Hp) := (ldA sh G l0 70 1).bind fun a1 => (asI sh G a1 0 (-1)).bind fun G2 => (ldA sh G2 l0 71 1).bind fun a3 => (ldA sh G2 l0 59 1).bind fun a4 => (aI sh G2 a4 21).bind fun v5 => (asI sh G2 a3 0 v5).bind fun G6 => (iter (fun s : Hp × Int32 => fX11_fillsAll_S113 sh l0 s.1 s.2) fuel ((G6, s0) : Hp × Int32)).bind (fun u9 => bd u9 fun G8 => some G8)
set_option maxHeartbeats 4000000 in
theorem tX11_fillsAll_J92 {E : EX} {ad : Nat → Nat} {sh : Sh} {G : Hp} {l0 : Nat} {s0 : Int32} {z : Hp} (C : Cx E RX11 cX11_fillsAll 3 none 6 0 0) (hC : Cl sh G) (h_l0 : sh[l0]? = some (0, 11)) (hf : fX11_fillsAll_J92 sh G l0 s0 = some z) (kr : RCv E cX11_fillsAll ad sh z) : VV E 0 0 (wq (xT E) ad G sh) 92 [(0, .ref (ad l0))] [.int s0] := by
  unfold fX11_fillsAll_J92 at hf
  refine v_istore_n (lv2 := [(1, .int s0), (0, .ref (ad l0))]) C dX11_fillsAll_92 rfl (by decide) rfl ?_
  refine v_aload_n C 1 dX11_fillsAll_93 rfl rfl ?_
  obtain ⟨a1, qa1, hf⟩ := bn hf
  refine v_getA C h_l0 fl_X11_155 qa1 dX11_fillsAll_94 (fun h_a1 => ?_)
  refine v_iconst (v := 0) C dX11_fillsAll_97 (by decide) ?_
  refine v_iconst (v := (-1)) C dX11_fillsAll_98 (by decide) ?_
  obtain ⟨G2, qG2, hf⟩ := bn hf
  refine v_iast C h_a1 qG2 hC dX11_fillsAll_99 (fun hC => ?_)
  refine v_aload_n C 1 dX11_fillsAll_100 rfl rfl ?_
  obtain ⟨a3, qa3, hf⟩ := bn hf
  refine v_getA C h_l0 fl_X11_158 qa3 dX11_fillsAll_101 (fun h_a3 => ?_)
  refine v_iconst (v := 0) C dX11_fillsAll_104 (by decide) ?_
  refine v_aload_n C 1 dX11_fillsAll_105 rfl rfl ?_
  obtain ⟨a4, qa4, hf⟩ := bn hf
  refine v_getA C h_l0 fl_X11_137 qa4 dX11_fillsAll_106 (fun h_a4 => ?_)
  refine v_bipush (v := 21) C dX11_fillsAll_109 (by decide) ?_
  obtain ⟨v5, qv5, hf⟩ := bn hf
  refine v_iald C h_a4 qv5 dX11_fillsAll_111 ?_
  obtain ⟨G6, qG6, hf⟩ := bn hf
  refine v_iast C h_a3 qG6 hC dX11_fillsAll_112 (fun hC => ?_)
  obtain ⟨r7, qr7, hf⟩ := bn hf
  refine v_sub [1, 0] rfl ?_
  refine iter_sound (P := (fun s : Hp × Int32 => Cl sh (s.1) → VV E 0 0 (wq (xT E) ad (s.1) sh) 113 [(0, .ref (ad l0)), (1, .int (s.2))] [])) (X := fun r => r = r7) (fun jsr7 jor7 hor7 jbr7 jxr7 hC => tX11_fillsAll_S113 C hC h_l0 hor7 (fun _ _ e => jbr7 _ e) ?_) fuel _ r7 qr7 rfl hC
  · intro G8 hu hC
    have e := jxr7 _ hu
    subst e
    have hf := bd_at hf (rfl : G8 = _)
    cases hf
    exact kr _ _ dX11_fillsAll_210 hC
def fX11_fillsAll_J77 (sh : Sh) (G : Hp) (l0 : Nat) (s0 : Int32) (s1 : Nat) : Option (Hp) := bd (sI G s1 73 s0) fun G1 => if (G1.1 l0 69) = 0 then fX11_fillsAll_J92 sh G1 l0 (-1) else fX11_fillsAll_J92 sh G1 l0 0
set_option maxHeartbeats 4000000 in
theorem tX11_fillsAll_J77 {E : EX} {ad : Nat → Nat} {sh : Sh} {G : Hp} {l0 : Nat} {s0 : Int32} {s1 : Nat} {z : Hp} (C : Cx E RX11 cX11_fillsAll 3 none 6 0 0) (hC : Cl sh G) (h_l0 : sh[l0]? = some (0, 11)) (h_s1 : sh[s1]? = some (0, 11)) (hf : fX11_fillsAll_J77 sh G l0 s0 s1 = some z) (kr : RCv E cX11_fillsAll ad sh z) : VV E 0 0 (wq (xT E) ad G sh) 77 [(0, .ref (ad l0))] [.int s0, .ref (ad s1)] := by
  unfold fX11_fillsAll_J77 at hf
  refine v_putI C h_s1 fp_X11_488 dX11_fillsAll_77 (fun G1 eG1 => ?_)
  have hf := bd_at hf eG1
  have hC : Cl sh G1 := by rw [eG1]; exact hC
  refine v_aload_n C 0 dX11_fillsAll_80 rfl rfl ?_
  refine v_getI C h_l0 fl_X11_497 dX11_fillsAll_81 ?_
  refine v_if_ne (tgt := 91) C dX11_fillsAll_84 (by decide) (fun c2 => ?_) (fun c2 => ?_)
  · have hf := im hf c2
    refine v_iconst (v := 0) C dX11_fillsAll_91 (by decide) ?_
    refine v_sub [0] rfl ?_
    exact tX11_fillsAll_J92 C hC h_l0 hf kr
  · have hf := ip hf c2
    refine v_iconst (v := (-1)) C dX11_fillsAll_87 (by decide) ?_
    refine v_goto (tgt := 92) C dX11_fillsAll_88 (by decide) ?_
    refine v_sub [0] rfl ?_
    exact tX11_fillsAll_J92 C hC h_l0 hf kr
def fX11_fillsAll (sh : Sh) (G : Hp) (l0 : Nat) : Option (Hp) := (fX11_copies sh G l0).bind fun G2 => bd (sI G2 l0 69 0) fun G3 => (iter (fun s : Hp × Int32 => fX11_fillsAll_S11 sh l0 s.1 s.2) fuel ((G3, 0) : Hp × Int32)).bind (fun u7 => bd u7 fun G5 => if (G5.1 l0 69) = 0 then fX11_fillsAll_J77 sh G5 l0 0 l0 else fX11_fillsAll_J77 sh G5 l0 (-1) l0)
set_option maxHeartbeats 4000000 in
theorem tX11_fillsAll {E : EX} {ad : Nat → Nat} {sh : Sh} {G : Hp} {l0 : Nat} {z : Hp} (C : Cx E RX11 cX11_fillsAll 3 none 6 0 0) (hC : Cl sh G) (h_l0 : sh[l0]? = some (0, 11)) (hf : fX11_fillsAll sh G l0 = some z) (kr : RCv E cX11_fillsAll ad sh z) : VV E 0 0 (wq (xT E) ad G sh) 0 [(0, .ref (ad l0))] [] := by
  unfold fX11_fillsAll at hf
  refine v_aload_n C 0 dX11_fillsAll_0 rfl rfl ?_
  obtain ⟨G2, qr1, hf⟩ := bn hf
  refine v_callVv (As := []) (rest := []) C (sX11_copies h_l0 qr1) cs_X11_434 (by decide) h_l0 rfl hC rfl rfl rfl (Nat.le_of_ble_eq_true rfl) ⟨Nat.le_refl _, Nat.le_refl _⟩ dX11_fillsAll_1 (fun hC => ?_)
  refine v_aload_n C 0 dX11_fillsAll_4 rfl rfl ?_
  refine v_iconst (v := 0) C dX11_fillsAll_5 (by decide) ?_
  refine v_putI C h_l0 fp_X11_497 dX11_fillsAll_6 (fun G3 eG3 => ?_)
  have hf := bd_at hf eG3
  have hC : Cl sh G3 := by rw [eG3]; exact hC
  refine v_iconst (v := 0) C dX11_fillsAll_9 (by decide) ?_
  refine v_istore_n (lv2 := [(1, .int 0), (0, .ref (ad l0))]) C dX11_fillsAll_10 rfl (by decide) rfl ?_
  obtain ⟨r4, qr4, hf⟩ := bn hf
  refine v_sub [1, 0] rfl ?_
  refine iter_sound (P := (fun s : Hp × Int32 => Cl sh (s.1) → VV E 0 0 (wq (xT E) ad (s.1) sh) 11 [(0, .ref (ad l0)), (1, .int (s.2))] [])) (X := fun r => r = r4) (fun jsr4 jor4 hor4 jbr4 jxr4 hC => tX11_fillsAll_S11 C hC h_l0 hor4 (fun _ _ e => jbr4 _ e) ?_) fuel _ r4 qr4 rfl hC
  · intro G5 hu hC
    have e := jxr4 _ hu
    subst e
    have hf := bd_at hf (rfl : G5 = _)
    refine v_aload_n C 0 dX11_fillsAll_64 rfl rfl ?_
    refine v_aload_n C 0 dX11_fillsAll_65 rfl rfl ?_
    refine v_getI C h_l0 fl_X11_497 dX11_fillsAll_66 ?_
    refine v_if_ne (tgt := 76) C dX11_fillsAll_69 (by decide) (fun c6 => ?_) (fun c6 => ?_)
    · have hf := im hf c6
      refine v_iconst (v := (-1)) C dX11_fillsAll_76 (by decide) ?_
      refine v_sub [0] rfl ?_
      exact tX11_fillsAll_J77 C hC h_l0 h_l0 hf kr
    · have hf := ip hf c6
      refine v_iconst (v := 0) C dX11_fillsAll_72 (by decide) ?_
      refine v_goto (tgt := 77) C dX11_fillsAll_73 (by decide) ?_
      refine v_sub [0] rfl ?_
      exact tX11_fillsAll_J77 C hC h_l0 h_l0 hf kr
theorem sX11_fillsAll {l : Launch} {sh : Sh} {G : Hp} {l0 : Nat} {z : Hp} (h_l0 : sh[l0]? = some (0, 11)) (hf : fX11_fillsAll sh G l0 = some z) : MC l yX11_fillsAll cX11_fillsAll 3 none 6 0 0 sh sh G z (fun ad => [.ref (ad l0)]) (fun _ => none) := by
  refine MC_of rfl rfl (fun _ => Nat.le_of_ble_eq_true rfl) (fun E ad C hl hnm hC hQ => ?_)
  exact tX11_fillsAll C hC h_l0 hf (fun pc lv hd hC => v_vret C hQ (fun _ _ => rfl) hC rfl hd)
def fX11_all_S72 (sh : Sh) (l0 : Nat) (l1 : Int32) (l2 : Int32) (G : Hp) (l3 : Int32) (l4 : Int32) : Option ((Int32 × Int32) ⊕ ((Int32))) := if (G.1 l0 69) ≤ l4 then some (.inr l3) else (ldA sh G l0 68 1).bind fun a2 => (aI sh G a2 l4).bind fun v3 => if v3 = l1 then (ldA sh G l0 72 1).bind fun a6 => (aI sh G a6 l4).bind fun v7 => bd ((l4 + 1) : Int32) fun x8 => some (.inl (v7, x8)) else bd ((l4 + 1) : Int32) fun x5 => some (.inl (l3, x5))
set_option maxHeartbeats 4000000 in
theorem tX11_all_S72 {E : EX} {ad : Nat → Nat} {sh : Sh} {G : Hp} {l0 : Nat} {l1 : Int32} {l2 : Int32} {l3 : Int32} {l4 : Int32} {o : (Int32 × Int32) ⊕ ((Int32))} (C : Cx E RX11 cX11_all 5 (some .int) 7 0 0) (hC : Cl sh G) (h_l0 : sh[l0]? = some (0, 11)) (hf : fX11_all_S72 sh l0 l1 l2 G l3 l4 = some o) (kb : ∀ (b_l3 : Int32) (b_l4 : Int32), o = .inl (b_l3, b_l4) → VV E 0 0 (wq (xT E) ad G sh) 72 [(0, .ref (ad l0)), (1, .int l1), (2, .int l2), (3, .int b_l3), (4, .int b_l4)] []) (kx106 : ∀ (b_l3 : Int32), o = .inr b_l3 → VV E 0 0 (wq (xT E) ad G sh) 106 [(0, .ref (ad l0)), (1, .int l1), (2, .int l2), (3, .int b_l3)] []) : VV E 0 0 (wq (xT E) ad G sh) 72 [(0, .ref (ad l0)), (1, .int l1), (2, .int l2), (3, .int l3), (4, .int l4)] [] := by
  unfold fX11_all_S72 at hf
  refine v_iload C 4 dX11_all_72 rfl ?_
  refine v_aload_n C 0 dX11_all_74 rfl rfl ?_
  refine v_getI C h_l0 fl_X11_497 dX11_all_75 ?_
  refine v_icmp_ge (tgt := 106) C dX11_all_78 (by decide) (fun c1 => ?_) (fun c1 => ?_)
  · have hf := ip hf c1
    cases hf
    refine v_sub [0, 1, 2, 3] rfl ?_
    exact kx106 _ rfl
  · have hf := im hf c1
    refine v_aload_n C 0 dX11_all_81 rfl rfl ?_
    obtain ⟨a2, qa2, hf⟩ := bn hf
    refine v_getA C h_l0 fl_X11_152 qa2 dX11_all_82 (fun h_a2 => ?_)
    refine v_iload C 4 dX11_all_85 rfl ?_
    obtain ⟨v3, qv3, hf⟩ := bn hf
    refine v_iald C h_a2 qv3 dX11_all_87 ?_
    refine v_iload_n C 1 dX11_all_88 rfl rfl ?_
    refine v_icmp_ne (tgt := 100) C dX11_all_89 (by decide) (fun c4 => ?_) (fun c4 => ?_)
    · have hf := im hf c4
      obtain ⟨x5, ex5⟩ : ∃ x : Int32, x = (l4 + 1) := ⟨_, rfl⟩
      have hf := bd_at hf ex5
      refine v_iinc (v := x5) (j := 4) (lv2 := [(4, .int x5), (0, .ref (ad l0)), (1, .int l1), (2, .int l2), (3, .int l3)]) C dX11_all_100 rfl (by rw [ex5]; rfl) (by decide) rfl ?_
      refine v_goto (tgt := 72) C dX11_all_103 (by decide) ?_
      cases hf
      refine v_sub [1, 2, 3, 4, 0] rfl ?_
      exact kb _ _ rfl
    · have hf := ip hf c4
      refine v_aload_n C 0 dX11_all_92 rfl rfl ?_
      obtain ⟨a6, qa6, hf⟩ := bn hf
      refine v_getA C h_l0 fl_X11_161 qa6 dX11_all_93 (fun h_a6 => ?_)
      refine v_iload C 4 dX11_all_96 rfl ?_
      obtain ⟨v7, qv7, hf⟩ := bn hf
      refine v_iald C h_a6 qv7 dX11_all_98 ?_
      refine v_istore_n (lv2 := [(3, .int v7), (0, .ref (ad l0)), (1, .int l1), (2, .int l2), (4, .int l4)]) C dX11_all_99 rfl (by decide) rfl ?_
      obtain ⟨x8, ex8⟩ : ∃ x : Int32, x = (l4 + 1) := ⟨_, rfl⟩
      have hf := bd_at hf ex8
      refine v_iinc (v := x8) (j := 4) (lv2 := [(4, .int x8), (3, .int v7), (0, .ref (ad l0)), (1, .int l1), (2, .int l2)]) C dX11_all_100 rfl (by rw [ex8]; rfl) (by decide) rfl ?_
      refine v_goto (tgt := 72) C dX11_all_103 (by decide) ?_
      cases hf
      refine v_sub [2, 3, 4, 1, 0] rfl ?_
      exact kb _ _ rfl
def fX11_all_J43 (sh : Sh) (G : Hp) (l0 : Nat) (l1 : Int32) (l2 : Int32) : Option (Int32 × Hp) := (fX11_fillsAll sh G l0).bind fun G2 => if 0 ≤ (G2.1 l0 73) then if l1 = (-1) then some ((G2.1 l0 73), G2) else (iter (fun s : Int32 × Int32 => fX11_all_S72 sh l0 l1 l2 G2 s.1 s.2) fuel ((0, 0) : Int32 × Int32)).bind (fun u9 => bd u9 fun x6 => if l2 = 0 then some ((x6 / 5), G2) else if (x6 - x6 / 5 * 5) = 0 then some (9, G2) else some (((x6 - x6 / 5 * 5) - 1), G2)) else some ((-2), G2)
set_option maxHeartbeats 4000000 in
theorem tX11_all_J43 {E : EX} {ad : Nat → Nat} {sh : Sh} {G : Hp} {l0 : Nat} {l1 : Int32} {l2 : Int32} {z : Int32 × Hp} (C : Cx E RX11 cX11_all 5 (some .int) 7 0 0) (hC : Cl sh G) (h_l0 : sh[l0]? = some (0, 11)) (hf : fX11_all_J43 sh G l0 l1 l2 = some z) (kr : RCi E cX11_all ad sh (z.1) (z.2)) : VV E 0 0 (wq (xT E) ad G sh) 43 [(0, .ref (ad l0)), (1, .int l1), (2, .int l2)] [] := by
  unfold fX11_all_J43 at hf
  refine v_aload_n C 0 dX11_all_43 rfl rfl ?_
  obtain ⟨G2, qr1, hf⟩ := bn hf
  refine v_callVv (As := []) (rest := []) C (sX11_fillsAll h_l0 qr1) cs_X11_503 (by decide) h_l0 rfl hC rfl rfl rfl (Nat.le_of_ble_eq_true rfl) ⟨Nat.le_refl _, Nat.le_refl _⟩ dX11_all_44 (fun hC => ?_)
  refine v_aload_n C 0 dX11_all_47 rfl rfl ?_
  refine v_getI C h_l0 fl_X11_488 dX11_all_48 ?_
  refine v_if_ge (tgt := 57) C dX11_all_51 (by decide) (fun c3 => ?_) (fun c3 => ?_)
  · have hf := ip hf c3
    refine v_iload_n C 1 dX11_all_57 rfl rfl ?_
    refine v_iconst (v := (-1)) C dX11_all_58 (by decide) ?_
    refine v_icmp_ne (tgt := 67) C dX11_all_59 (by decide) (fun c4 => ?_) (fun c4 => ?_)
    · have hf := im hf c4
      refine v_iconst (v := 0) C dX11_all_67 (by decide) ?_
      refine v_istore_n (lv2 := [(3, .int 0), (0, .ref (ad l0)), (1, .int l1), (2, .int l2)]) C dX11_all_68 rfl (by decide) rfl ?_
      refine v_iconst (v := 0) C dX11_all_69 (by decide) ?_
      refine v_istore (lv2 := [(4, .int 0), (3, .int 0), (0, .ref (ad l0)), (1, .int l1), (2, .int l2)]) C dX11_all_70 (by decide) rfl ?_
      obtain ⟨r5, qr5, hf⟩ := bn hf
      refine v_sub [2, 3, 4, 1, 0] rfl ?_
      refine iter_sound (P := (fun s : Int32 × Int32 => VV E 0 0 (wq (xT E) ad (G2) sh) 72 [(0, .ref (ad l0)), (1, .int (l1)), (2, .int (l2)), (3, .int (s.1)), (4, .int (s.2))] [])) (X := fun r => r = r5) (fun jsr5 jor5 hor5 jbr5 jxr5 => tX11_all_S72 C hC h_l0 hor5 (fun _ _ e => jbr5 _ e) ?_) fuel _ r5 qr5 rfl
      · intro x6 hu
        have e := jxr5 _ hu
        subst e
        have hf := bd_at hf (rfl : x6 = _)
        refine v_iload_n C 2 dX11_all_106 rfl rfl ?_
        refine v_if_ne (tgt := 116) C dX11_all_107 (by decide) (fun c7 => ?_) (fun c7 => ?_)
        · have hf := im hf c7
          refine v_iload_n C 3 dX11_all_116 rfl rfl ?_
          refine v_iconst (v := 5) C dX11_all_117 (by decide) ?_
          refine v_irem C dX11_all_118 (by decide) ?_
          refine v_if_ne (tgt := 127) C dX11_all_119 (by decide) (fun c8 => ?_) (fun c8 => ?_)
          · have hf := im hf c8
            refine v_iload_n C 3 dX11_all_127 rfl rfl ?_
            refine v_iconst (v := 5) C dX11_all_128 (by decide) ?_
            refine v_irem C dX11_all_129 (by decide) ?_
            refine v_iconst (v := 1) C dX11_all_130 (by decide) ?_
            refine v_isub C dX11_all_131 ?_
            cases hf
            exact kr _ _ dX11_all_132 hC
          · have hf := ip hf c8
            refine v_bipush (v := 9) C dX11_all_122 (by decide) ?_
            refine v_goto (tgt := 132) C dX11_all_124 (by decide) ?_
            cases hf
            exact kr _ _ dX11_all_132 hC
        · have hf := ip hf c7
          refine v_iload_n C 3 dX11_all_110 rfl rfl ?_
          refine v_iconst (v := 5) C dX11_all_111 (by decide) ?_
          refine v_idiv C dX11_all_112 (by decide) ?_
          refine v_goto (tgt := 132) C dX11_all_113 (by decide) ?_
          cases hf
          exact kr _ _ dX11_all_132 hC
    · have hf := ip hf c4
      refine v_aload_n C 0 dX11_all_62 rfl rfl ?_
      refine v_getI C h_l0 fl_X11_488 dX11_all_63 ?_
      cases hf
      exact kr _ _ dX11_all_66 hC
  · have hf := im hf c3
    refine v_bipush (v := (-2)) C dX11_all_54 (by decide) ?_
    cases hf
    exact kr _ _ dX11_all_56 hC
def fX11_all_J24 (sh : Sh) (G : Hp) (l0 : Nat) (l1 : Int32) (l2 : Int32) : Option (Int32 × Hp) := if l1 = (-1) then fX11_all_J43 sh G l0 l1 l2 else (ldA sh G l0 58 1).bind fun a2 => (aI sh G a2 ((4 : Int32) + l1)).bind fun v3 => if v3 = 0 then fX11_all_J43 sh G l0 l1 l2 else some ((-3), G)
set_option maxHeartbeats 4000000 in
theorem tX11_all_J24 {E : EX} {ad : Nat → Nat} {sh : Sh} {G : Hp} {l0 : Nat} {l1 : Int32} {l2 : Int32} {z : Int32 × Hp} (C : Cx E RX11 cX11_all 5 (some .int) 7 0 0) (hC : Cl sh G) (h_l0 : sh[l0]? = some (0, 11)) (hf : fX11_all_J24 sh G l0 l1 l2 = some z) (kr : RCi E cX11_all ad sh (z.1) (z.2)) : VV E 0 0 (wq (xT E) ad G sh) 24 [(0, .ref (ad l0)), (1, .int l1), (2, .int l2)] [] := by
  unfold fX11_all_J24 at hf
  refine v_iload_n C 1 dX11_all_24 rfl rfl ?_
  refine v_iconst (v := (-1)) C dX11_all_25 (by decide) ?_
  refine v_icmp_eq (tgt := 43) C dX11_all_26 (by decide) (fun c1 => ?_) (fun c1 => ?_)
  · have hf := ip hf c1
    refine v_sub [0, 1, 2] rfl ?_
    exact tX11_all_J43 C hC h_l0 hf kr
  · have hf := im hf c1
    refine v_aload_n C 0 dX11_all_29 rfl rfl ?_
    obtain ⟨a2, qa2, hf⟩ := bn hf
    refine v_getA C h_l0 fl_X11_134 qa2 dX11_all_30 (fun h_a2 => ?_)
    refine v_iconst (v := 4) C dX11_all_33 (by decide) ?_
    refine v_iload_n C 1 dX11_all_34 rfl rfl ?_
    refine v_iadd C dX11_all_35 ?_
    obtain ⟨v3, qv3, hf⟩ := bn hf
    refine v_iald C h_a2 qv3 dX11_all_36 ?_
    refine v_if_eq (tgt := 43) C dX11_all_37 (by decide) (fun c4 => ?_) (fun c4 => ?_)
    · have hf := ip hf c4
      refine v_sub [0, 1, 2] rfl ?_
      exact tX11_all_J43 C hC h_l0 hf kr
    · have hf := im hf c4
      refine v_bipush (v := (-3)) C dX11_all_40 (by decide) ?_
      cases hf
      exact kr _ _ dX11_all_42 hC
def fX11_all (sh : Sh) (G : Hp) (l0 : Nat) (l1 : Int32) (l2 : Int32) : Option (Int32 × Hp) := if l1 = (-1) then fX11_all_J24 sh G l0 l1 l2 else (fX11_isBridge sh G l0 l1).bind fun r2 => if r2 = 0 then some ((-1), G) else (fX11_in l2 0 1).bind fun r4 => if r4 = 0 then some ((-1), G) else fX11_all_J24 sh G l0 l1 l2
set_option maxHeartbeats 4000000 in
theorem tX11_all {E : EX} {ad : Nat → Nat} {sh : Sh} {G : Hp} {l0 : Nat} {l1 : Int32} {l2 : Int32} {z : Int32 × Hp} (C : Cx E RX11 cX11_all 5 (some .int) 7 0 0) (hC : Cl sh G) (h_l0 : sh[l0]? = some (0, 11)) (hf : fX11_all sh G l0 l1 l2 = some z) (kr : RCi E cX11_all ad sh (z.1) (z.2)) : VV E 0 0 (wq (xT E) ad G sh) 0 [(0, .ref (ad l0)), (1, .int l1), (2, .int l2)] [] := by
  unfold fX11_all at hf
  refine v_iload_n C 1 dX11_all_0 rfl rfl ?_
  refine v_iconst (v := (-1)) C dX11_all_1 (by decide) ?_
  refine v_icmp_eq (tgt := 24) C dX11_all_2 (by decide) (fun c1 => ?_) (fun c1 => ?_)
  · have hf := ip hf c1
    refine v_sub [0, 1, 2] rfl ?_
    exact tX11_all_J24 C hC h_l0 hf kr
  · have hf := im hf c1
    refine v_aload_n C 0 dX11_all_5 rfl rfl ?_
    refine v_iload_n C 1 dX11_all_6 rfl rfl ?_
    obtain ⟨r2, qr2, hf⟩ := bn hf
    refine v_callVi (As := [.int l1]) (rest := []) C (sX11_isBridge h_l0 qr2) cs_X11_431 (by decide) h_l0 rfl hC rfl rfl rfl (Nat.le_of_ble_eq_true rfl) ⟨Nat.le_refl _, Nat.le_refl _⟩ dX11_all_7 (fun hC => ?_)
    refine v_if_eq (tgt := 22) C dX11_all_10 (by decide) (fun c3 => ?_) (fun c3 => ?_)
    · have hf := ip hf c3
      refine v_iconst (v := (-1)) C dX11_all_22 (by decide) ?_
      cases hf
      exact kr _ _ dX11_all_23 hC
    · have hf := im hf c3
      refine v_iload_n C 2 dX11_all_13 rfl rfl ?_
      refine v_iconst (v := 0) C dX11_all_14 (by decide) ?_
      refine v_iconst (v := 1) C dX11_all_15 (by decide) ?_
      obtain ⟨r4, qr4, hf⟩ := bn hf
      refine v_callSi (As := [.int l2, .int 0, .int 1]) (rest := []) C (sX11_in  qr4) cs_X11_370 (by decide) hC rfl rfl rfl (Nat.le_of_ble_eq_true rfl) ⟨Nat.le_refl _, Nat.le_refl _⟩ dX11_all_16 (fun hC => ?_)
      refine v_if_ne (tgt := 24) C dX11_all_19 (by decide) (fun c5 => ?_) (fun c5 => ?_)
      · have hf := im hf c5
        refine v_sub [0, 1, 2] rfl ?_
        exact tX11_all_J24 C hC h_l0 hf kr
      · have hf := ip hf c5
        refine v_iconst (v := (-1)) C dX11_all_22 (by decide) ?_
        cases hf
        exact kr _ _ dX11_all_23 hC
theorem sX11_all {l : Launch} {sh : Sh} {G : Hp} {l0 : Nat} {l1 : Int32} {l2 : Int32} {z : Int32 × Hp} (h_l0 : sh[l0]? = some (0, 11)) (hf : fX11_all sh G l0 l1 l2 = some z) : MC l yX11_all cX11_all 5 (some .int) 7 0 0 sh sh G (z.2) (fun ad => [.ref (ad l0), .int l1, .int l2]) (fun _ => some (.int z.1)) := by
  refine MC_of rfl rfl (fun _ => Nat.le_of_ble_eq_true rfl) (fun E ad C hl hnm hC hQ => ?_)
  exact tX11_all C hC h_l0 hf (fun pc lv hd hC => v_iret C hQ (fun _ _ => rfl) hC rfl hd)
def fX11_isKnown (sh : Sh) (G : Hp) (l0 : Nat) (l1 : Int32) (l2 : Int32) : Option (Int32) := (fX11_isBridge sh G l0 l1).bind fun r1 => if r1 = 0 then some 0 else (fX11_in l2 0 (G.1 l0 74)).bind fun r3 => if r3 = 0 then some 0 else some 1
set_option maxHeartbeats 4000000 in
theorem tX11_isKnown {E : EX} {ad : Nat → Nat} {sh : Sh} {G : Hp} {l0 : Nat} {l1 : Int32} {l2 : Int32} {z : Int32} (C : Cx E RX11 cX11_isKnown 3 (some .boolean) 3 0 0) (hC : Cl sh G) (h_l0 : sh[l0]? = some (0, 11)) (hf : fX11_isKnown sh G l0 l1 l2 = some z) (kr : RCz E cX11_isKnown ad sh z G) : VV E 0 0 (wq (xT E) ad G sh) 0 [(0, .ref (ad l0)), (1, .int l1), (2, .int l2)] [] := by
  unfold fX11_isKnown at hf
  refine v_aload_n C 0 dX11_isKnown_0 rfl rfl ?_
  refine v_iload_n C 1 dX11_isKnown_1 rfl rfl ?_
  obtain ⟨r1, qr1, hf⟩ := bn hf
  refine v_callVi (As := [.int l1]) (rest := []) C (sX11_isBridge h_l0 qr1) cs_X11_431 (by decide) h_l0 rfl hC rfl rfl rfl (Nat.le_of_ble_eq_true rfl) ⟨Nat.le_refl _, Nat.le_refl _⟩ dX11_isKnown_2 (fun hC => ?_)
  refine v_if_eq (tgt := 24) C dX11_isKnown_5 (by decide) (fun c2 => ?_) (fun c2 => ?_)
  · have hf := ip hf c2
    refine v_iconst (v := 0) C dX11_isKnown_24 (by decide) ?_
    cases hf
    exact kr _ _ dX11_isKnown_25 (Or.inl rfl) hC
  · have hf := im hf c2
    refine v_iload_n C 2 dX11_isKnown_8 rfl rfl ?_
    refine v_iconst (v := 0) C dX11_isKnown_9 (by decide) ?_
    refine v_aload_n C 0 dX11_isKnown_10 rfl rfl ?_
    refine v_getI C h_l0 fl_X11_281 dX11_isKnown_11 ?_
    obtain ⟨r3, qr3, hf⟩ := bn hf
    refine v_callSi (As := [.int l2, .int 0, .int (G.1 l0 74)]) (rest := []) C (sX11_in  qr3) cs_X11_370 (by decide) hC rfl rfl rfl (Nat.le_of_ble_eq_true rfl) ⟨Nat.le_refl _, Nat.le_refl _⟩ dX11_isKnown_14 (fun hC => ?_)
    refine v_if_eq (tgt := 24) C dX11_isKnown_17 (by decide) (fun c4 => ?_) (fun c4 => ?_)
    · have hf := ip hf c4
      refine v_iconst (v := 0) C dX11_isKnown_24 (by decide) ?_
      cases hf
      exact kr _ _ dX11_isKnown_25 (Or.inl rfl) hC
    · have hf := im hf c4
      refine v_iconst (v := 1) C dX11_isKnown_20 (by decide) ?_
      refine v_goto (tgt := 25) C dX11_isKnown_21 (by decide) ?_
      cases hf
      exact kr _ _ dX11_isKnown_25 (Or.inr rfl) hC
theorem sX11_isKnown {l : Launch} {sh : Sh} {G : Hp} {l0 : Nat} {l1 : Int32} {l2 : Int32} {z : Int32} (h_l0 : sh[l0]? = some (0, 11)) (hf : fX11_isKnown sh G l0 l1 l2 = some z) : MC l yX11_isKnown cX11_isKnown 3 (some .boolean) 3 0 0 sh sh G G (fun ad => [.ref (ad l0), .int l1, .int l2]) (fun _ => some (.int z)) := by
  refine MC_of rfl rfl (fun _ => Nat.le_of_ble_eq_true rfl) (fun E ad C hl hnm hC hQ => ?_)
  exact tX11_isKnown C hC h_l0 hf (fun pc lv hd hz hC => v_zret C hQ (fun _ _ => rfl) hC rfl hz hd)
def fX11_isSo_S3 (sh : Sh) (l0 : Nat) (l1 : Int32) (l2 : Int32) (l3 : Int32) (G : Hp) (l4 : Int32) : Option ((Int32) ⊕ ((Unit) ⊕ (Unit))) := if l3 ≤ l4 then some (.inr (.inl ())) else (ldA sh G l0 75 1).bind fun a2 => (aI sh G a2 l4).bind fun v3 => if ((l2 >>> (v3 &&& 31)) &&& 1) = 1 then (ldA sh G l0 76 3).bind fun a9 => (aI sh G a9 l4).bind fun v10 => if (1 : Int32) = v10 then bd ((l4 + 1) : Int32) fun x12 => some (.inl x12) else some (.inr (.inr ())) else (ldA sh G l0 76 3).bind fun a5 => (aI sh G a5 l4).bind fun v6 => if (0 : Int32) = v6 then bd ((l4 + 1) : Int32) fun x8 => some (.inl x8) else some (.inr (.inr ()))
set_option maxHeartbeats 4000000 in
theorem tX11_isSo_S3 {E : EX} {ad : Nat → Nat} {sh : Sh} {G : Hp} {l0 : Nat} {l1 : Int32} {l2 : Int32} {l3 : Int32} {l4 : Int32} {o : (Int32) ⊕ ((Unit) ⊕ (Unit))} (C : Cx E RX11 cX11_isSo 5 (some .boolean) 2 0 0) (hC : Cl sh G) (h_l0 : sh[l0]? = some (0, 11)) (hf : fX11_isSo_S3 sh l0 l1 l2 l3 G l4 = some o) (kb : ∀ (b_l4 : Int32), o = .inl b_l4 → VV E 0 0 (wq (xT E) ad G sh) 3 [(0, .ref (ad l0)), (1, .int l1), (2, .int l2), (3, .int l3), (4, .int b_l4)] []) (kx47 : o = .inr (.inl ()) → VV E 0 0 (wq (xT E) ad G sh) 47 [(0, .ref (ad l0)), (1, .int l1), (2, .int l2), (3, .int l3)] []) (kx39 : o = .inr (.inr ()) → VV E 0 0 (wq (xT E) ad G sh) 39 [(0, .ref (ad l0)), (1, .int l1), (2, .int l2), (3, .int l3)] []) : VV E 0 0 (wq (xT E) ad G sh) 3 [(0, .ref (ad l0)), (1, .int l1), (2, .int l2), (3, .int l3), (4, .int l4)] [] := by
  unfold fX11_isSo_S3 at hf
  refine v_iload C 4 dX11_isSo_3 rfl ?_
  refine v_iload_n C 3 dX11_isSo_5 rfl rfl ?_
  refine v_icmp_ge (tgt := 47) C dX11_isSo_6 (by decide) (fun c1 => ?_) (fun c1 => ?_)
  · have hf := ip hf c1
    cases hf
    refine v_sub [0, 1, 2, 3] rfl ?_
    exact kx47 rfl
  · have hf := im hf c1
    refine v_iload_n C 2 dX11_isSo_9 rfl rfl ?_
    refine v_aload_n C 0 dX11_isSo_10 rfl rfl ?_
    obtain ⟨a2, qa2, hf⟩ := bn hf
    refine v_getA C h_l0 fl_X11_164 qa2 dX11_isSo_11 (fun h_a2 => ?_)
    refine v_iload C 4 dX11_isSo_14 rfl ?_
    obtain ⟨v3, qv3, hf⟩ := bn hf
    refine v_iald C h_a2 qv3 dX11_isSo_16 ?_
    refine v_ishr C dX11_isSo_17 ?_
    refine v_iconst (v := 1) C dX11_isSo_18 (by decide) ?_
    refine v_iand C dX11_isSo_19 ?_
    refine v_iconst (v := 1) C dX11_isSo_20 (by decide) ?_
    refine v_icmp_ne (tgt := 28) C dX11_isSo_21 (by decide) (fun c4 => ?_) (fun c4 => ?_)
    · have hf := im hf c4
      refine v_iconst (v := 0) C dX11_isSo_28 (by decide) ?_
      refine v_aload_n C 0 dX11_isSo_29 rfl rfl ?_
      obtain ⟨a5, qa5, hf⟩ := bn hf
      refine v_getA C h_l0 fl_X11_167 qa5 dX11_isSo_30 (fun h_a5 => ?_)
      refine v_iload C 4 dX11_isSo_33 rfl ?_
      obtain ⟨v6, qv6, hf⟩ := bn hf
      refine v_zald C h_a5 qv6 dX11_isSo_35 ?_
      refine v_icmp_eq (tgt := 41) C dX11_isSo_36 (by decide) (fun c7 => ?_) (fun c7 => ?_)
      · have hf := ip hf c7
        obtain ⟨x8, ex8⟩ : ∃ x : Int32, x = (l4 + 1) := ⟨_, rfl⟩
        have hf := bd_at hf ex8
        refine v_iinc (v := x8) (j := 4) (lv2 := [(4, .int x8), (0, .ref (ad l0)), (1, .int l1), (2, .int l2), (3, .int l3)]) C dX11_isSo_41 rfl (by rw [ex8]; rfl) (by decide) rfl ?_
        refine v_goto (tgt := 3) C dX11_isSo_44 (by decide) ?_
        cases hf
        refine v_sub [1, 2, 3, 4, 0] rfl ?_
        exact kb _ rfl
      · have hf := im hf c7
        cases hf
        refine v_sub [0, 1, 2, 3] rfl ?_
        exact kx39 rfl
    · have hf := ip hf c4
      refine v_iconst (v := 1) C dX11_isSo_24 (by decide) ?_
      refine v_goto (tgt := 29) C dX11_isSo_25 (by decide) ?_
      refine v_aload_n C 0 dX11_isSo_29 rfl rfl ?_
      obtain ⟨a9, qa9, hf⟩ := bn hf
      refine v_getA C h_l0 fl_X11_167 qa9 dX11_isSo_30 (fun h_a9 => ?_)
      refine v_iload C 4 dX11_isSo_33 rfl ?_
      obtain ⟨v10, qv10, hf⟩ := bn hf
      refine v_zald C h_a9 qv10 dX11_isSo_35 ?_
      refine v_icmp_eq (tgt := 41) C dX11_isSo_36 (by decide) (fun c11 => ?_) (fun c11 => ?_)
      · have hf := ip hf c11
        obtain ⟨x12, ex12⟩ : ∃ x : Int32, x = (l4 + 1) := ⟨_, rfl⟩
        have hf := bd_at hf ex12
        refine v_iinc (v := x12) (j := 4) (lv2 := [(4, .int x12), (0, .ref (ad l0)), (1, .int l1), (2, .int l2), (3, .int l3)]) C dX11_isSo_41 rfl (by rw [ex12]; rfl) (by decide) rfl ?_
        refine v_goto (tgt := 3) C dX11_isSo_44 (by decide) ?_
        cases hf
        refine v_sub [1, 2, 3, 4, 0] rfl ?_
        exact kb _ rfl
      · have hf := im hf c11
        cases hf
        refine v_sub [0, 1, 2, 3] rfl ?_
        exact kx39 rfl
def fX11_isSo (sh : Sh) (G : Hp) (l0 : Nat) (l1 : Int32) (l2 : Int32) (l3 : Int32) : Option (Int32 × Hp) := (iter (fun s : Int32 => fX11_isSo_S3 sh l0 l1 l2 l3 G s) fuel (0 : Int32)).bind (Sum.elim (fun _ => bp (fX11_doesHold sh G l0 l1 l2) fun r2 G3 => if ¬ (r2 = 0 ∨ r2 = 1) then none else some (r2, G3)) (fun _ => some (0, G)))
set_option maxHeartbeats 4000000 in
theorem tX11_isSo {E : EX} {ad : Nat → Nat} {sh : Sh} {G : Hp} {l0 : Nat} {l1 : Int32} {l2 : Int32} {l3 : Int32} {z : Int32 × Hp} (C : Cx E RX11 cX11_isSo 5 (some .boolean) 2 0 0) (hC : Cl sh G) (h_l0 : sh[l0]? = some (0, 11)) (hf : fX11_isSo sh G l0 l1 l2 l3 = some z) (kr : RCz E cX11_isSo ad sh (z.1) (z.2)) : VV E 0 0 (wq (xT E) ad G sh) 0 [(0, .ref (ad l0)), (1, .int l1), (2, .int l2), (3, .int l3)] [] := by
  unfold fX11_isSo at hf
  refine v_iconst (v := 0) C dX11_isSo_0 (by decide) ?_
  refine v_istore (lv2 := [(4, .int 0), (0, .ref (ad l0)), (1, .int l1), (2, .int l2), (3, .int l3)]) C dX11_isSo_1 (by decide) rfl ?_
  obtain ⟨r1, qr1, hf⟩ := bn hf
  refine v_sub [1, 2, 3, 4, 0] rfl ?_
  refine iter_sound (P := (fun s : Int32 => VV E 0 0 (wq (xT E) ad (G) sh) 3 [(0, .ref (ad l0)), (1, .int (l1)), (2, .int (l2)), (3, .int (l3)), (4, .int (s))] [])) (X := fun r => r = r1) (fun jsr1 jor1 hor1 jbr1 jxr1 => tX11_isSo_S3 C hC h_l0 hor1 (fun _ e => jbr1 _ e) ?_ ?_) fuel _ r1 qr1 rfl
  · intro  hu
    have e := jxr1 _ hu
    subst e
    have hf := sm_l hf
    refine v_aload_n C 0 dX11_isSo_47 rfl rfl ?_
    refine v_iload_n C 1 dX11_isSo_48 rfl rfl ?_
    refine v_iload_n C 2 dX11_isSo_49 rfl rfl ?_
    obtain ⟨r2, G3, qr2, hf⟩ := bpn hf
    refine v_callVi (As := [.int l1, .int l2]) (rest := []) C (sX11_doesHold h_l0 qr2) cs_X11_402 (by decide) h_l0 rfl hC rfl rfl rfl (Nat.le_of_ble_eq_true rfl) ⟨Nat.le_refl _, Nat.le_refl _⟩ dX11_isSo_50 (fun hC => ?_)
    obtain ⟨hz4, hf⟩ := iz hf
    cases hf
    exact kr _ _ dX11_isSo_53 (Classical.not_not.mp hz4) hC
  · intro  hu
    have e := jxr1 _ hu
    subst e
    have hf := sm_r hf
    refine v_iconst (v := 0) C dX11_isSo_39 (by decide) ?_
    cases hf
    exact kr _ _ dX11_isSo_40 (Or.inl rfl) hC
theorem sX11_isSo {l : Launch} {sh : Sh} {G : Hp} {l0 : Nat} {l1 : Int32} {l2 : Int32} {l3 : Int32} {z : Int32 × Hp} (h_l0 : sh[l0]? = some (0, 11)) (hf : fX11_isSo sh G l0 l1 l2 l3 = some z) : MC l yX11_isSo cX11_isSo 5 (some .boolean) 2 0 0 sh sh G (z.2) (fun ad => [.ref (ad l0), .int l1, .int l2, .int l3]) (fun _ => some (.int z.1)) := by
  refine MC_of rfl rfl (fun _ => Nat.le_of_ble_eq_true rfl) (fun E ad C hl hnm hC hQ => ?_)
  exact tX11_isSo C hC h_l0 hf (fun pc lv hd hz hC => v_zret C hQ (fun _ _ => rfl) hC rfl hz hd)
def fX11_wentBy_S6 (sh : Sh) (l0 : Nat) (l1 : Int32) (l2 : Int32) (l3 : Int32) (G : Hp) (l4 : Int32) (l5 : Int32) : Option ((Hp × Int32 × Int32) ⊕ ((Hp × Int32))) := (ldA sh G l0 27 1).bind fun a1 => (aI sh G a1 (G.1 l0 18)).bind fun v2 => if v2 ≤ l5 then some (.inr (G, l4)) else (fX11_setOf sh G l0 l3 l5).bind fun r4 => bp (fX11_isSo sh G l0 l1 r4 l2) fun r5 G6 => if r5 = 0 then bd ((l5 + 1) : Int32) fun x8 => some (.inl (G6, l4, x8)) else bd ((l4 + 1) : Int32) fun x9 => bd ((l5 + 1) : Int32) fun x10 => some (.inl (G6, x9, x10))
set_option maxHeartbeats 4000000 in
theorem tX11_wentBy_S6 {E : EX} {ad : Nat → Nat} {sh : Sh} {G : Hp} {l0 : Nat} {l1 : Int32} {l2 : Int32} {l3 : Int32} {l4 : Int32} {l5 : Int32} {o : (Hp × Int32 × Int32) ⊕ ((Hp × Int32))} (C : Cx E RX11 cX11_wentBy 6 (some .int) 3 0 0) (hC : Cl sh G) (h_l0 : sh[l0]? = some (0, 11)) (hf : fX11_wentBy_S6 sh l0 l1 l2 l3 G l4 l5 = some o) (kb : ∀ (G2 : Hp) (b_l4 : Int32) (b_l5 : Int32), o = .inl (G2, b_l4, b_l5) → Cl sh G2 → VV E 0 0 (wq (xT E) ad G2 sh) 6 [(0, .ref (ad l0)), (1, .int l1), (2, .int l2), (3, .int l3), (4, .int b_l4), (5, .int b_l5)] []) (kx45 : ∀ (G2 : Hp) (b_l4 : Int32), o = .inr (G2, b_l4) → Cl sh G2 → VV E 0 0 (wq (xT E) ad G2 sh) 45 [(0, .ref (ad l0)), (1, .int l1), (2, .int l2), (3, .int l3), (4, .int b_l4)] []) : VV E 0 0 (wq (xT E) ad G sh) 6 [(0, .ref (ad l0)), (1, .int l1), (2, .int l2), (3, .int l3), (4, .int l4), (5, .int l5)] [] := by
  unfold fX11_wentBy_S6 at hf
  refine v_iload C 5 dX11_wentBy_6 rfl ?_
  refine v_aload_n C 0 dX11_wentBy_8 rfl rfl ?_
  obtain ⟨a1, qa1, hf⟩ := bn hf
  refine v_getA C h_l0 fl_X11_58 qa1 dX11_wentBy_9 (fun h_a1 => ?_)
  refine v_aload_n C 0 dX11_wentBy_12 rfl rfl ?_
  refine v_getI C h_l0 fl_X11_257 dX11_wentBy_13 ?_
  obtain ⟨v2, qv2, hf⟩ := bn hf
  refine v_iald C h_a1 qv2 dX11_wentBy_16 ?_
  refine v_icmp_ge (tgt := 45) C dX11_wentBy_17 (by decide) (fun c3 => ?_) (fun c3 => ?_)
  · have hf := ip hf c3
    cases hf
    refine v_sub [0, 1, 2, 3, 4] rfl ?_
    exact kx45 _ _ rfl hC
  · have hf := im hf c3
    refine v_aload_n C 0 dX11_wentBy_20 rfl rfl ?_
    refine v_iload_n C 1 dX11_wentBy_21 rfl rfl ?_
    refine v_aload_n C 0 dX11_wentBy_22 rfl rfl ?_
    refine v_iload_n C 3 dX11_wentBy_23 rfl rfl ?_
    refine v_iload C 5 dX11_wentBy_24 rfl ?_
    obtain ⟨r4, qr4, hf⟩ := bn hf
    refine v_callVi (As := [.int l3, .int l5]) (rest := [.int l1, .ref (ad l0)]) C (sX11_setOf h_l0 qr4) cs_X11_428 (by decide) h_l0 rfl hC rfl rfl rfl (Nat.le_of_ble_eq_true rfl) ⟨Nat.le_refl _, Nat.le_refl _⟩ dX11_wentBy_26 (fun hC => ?_)
    refine v_iload_n C 2 dX11_wentBy_29 rfl rfl ?_
    obtain ⟨r5, G6, qr5, hf⟩ := bpn hf
    refine v_callVi (As := [.int l1, .int r4, .int l2]) (rest := []) C (sX11_isSo h_l0 qr5) cs_X11_512 (by decide) h_l0 rfl hC rfl rfl rfl (Nat.le_of_ble_eq_true rfl) ⟨Nat.le_refl _, Nat.le_refl _⟩ dX11_wentBy_30 (fun hC => ?_)
    refine v_if_eq (tgt := 39) C dX11_wentBy_33 (by decide) (fun c7 => ?_) (fun c7 => ?_)
    · have hf := ip hf c7
      obtain ⟨x8, ex8⟩ : ∃ x : Int32, x = (l5 + 1) := ⟨_, rfl⟩
      have hf := bd_at hf ex8
      refine v_iinc (v := x8) (j := 5) (lv2 := [(5, .int x8), (0, .ref (ad l0)), (1, .int l1), (2, .int l2), (3, .int l3), (4, .int l4)]) C dX11_wentBy_39 rfl (by rw [ex8]; rfl) (by decide) rfl ?_
      refine v_goto (tgt := 6) C dX11_wentBy_42 (by decide) ?_
      cases hf
      refine v_sub [1, 2, 3, 4, 5, 0] rfl ?_
      exact kb _ _ _ rfl hC
    · have hf := im hf c7
      obtain ⟨x9, ex9⟩ : ∃ x : Int32, x = (l4 + 1) := ⟨_, rfl⟩
      have hf := bd_at hf ex9
      refine v_iinc (v := x9) (j := 4) (lv2 := [(4, .int x9), (0, .ref (ad l0)), (1, .int l1), (2, .int l2), (3, .int l3), (5, .int l5)]) C dX11_wentBy_36 rfl (by rw [ex9]; rfl) (by decide) rfl ?_
      obtain ⟨x10, ex10⟩ : ∃ x : Int32, x = (l5 + 1) := ⟨_, rfl⟩
      have hf := bd_at hf ex10
      refine v_iinc (v := x10) (j := 5) (lv2 := [(5, .int x10), (4, .int x9), (0, .ref (ad l0)), (1, .int l1), (2, .int l2), (3, .int l3)]) C dX11_wentBy_39 rfl (by rw [ex10]; rfl) (by decide) rfl ?_
      refine v_goto (tgt := 6) C dX11_wentBy_42 (by decide) ?_
      cases hf
      refine v_sub [2, 3, 4, 5, 1, 0] rfl ?_
      exact kb _ _ _ rfl hC
def fX11_wentBy (sh : Sh) (G : Hp) (l0 : Nat) (l1 : Int32) (l2 : Int32) (l3 : Int32) : Option (Int32 × Hp) := (iter (fun s : Hp × Int32 × Int32 => fX11_wentBy_S6 sh l0 l1 l2 l3 s.1 s.2.1 s.2.2) fuel ((G, 0, (-1)) : Hp × Int32 × Int32)).bind (fun u4 => bd u4.1 fun G2 => bd u4.2 fun x3 => some (x3, G2))
set_option maxHeartbeats 4000000 in
theorem tX11_wentBy {E : EX} {ad : Nat → Nat} {sh : Sh} {G : Hp} {l0 : Nat} {l1 : Int32} {l2 : Int32} {l3 : Int32} {z : Int32 × Hp} (C : Cx E RX11 cX11_wentBy 6 (some .int) 3 0 0) (hC : Cl sh G) (h_l0 : sh[l0]? = some (0, 11)) (hf : fX11_wentBy sh G l0 l1 l2 l3 = some z) (kr : RCi E cX11_wentBy ad sh (z.1) (z.2)) : VV E 0 0 (wq (xT E) ad G sh) 0 [(0, .ref (ad l0)), (1, .int l1), (2, .int l2), (3, .int l3)] [] := by
  unfold fX11_wentBy at hf
  refine v_iconst (v := 0) C dX11_wentBy_0 (by decide) ?_
  refine v_istore (lv2 := [(4, .int 0), (0, .ref (ad l0)), (1, .int l1), (2, .int l2), (3, .int l3)]) C dX11_wentBy_1 (by decide) rfl ?_
  refine v_iconst (v := (-1)) C dX11_wentBy_3 (by decide) ?_
  refine v_istore (lv2 := [(5, .int (-1)), (4, .int 0), (0, .ref (ad l0)), (1, .int l1), (2, .int l2), (3, .int l3)]) C dX11_wentBy_4 (by decide) rfl ?_
  obtain ⟨r1, qr1, hf⟩ := bn hf
  refine v_sub [2, 3, 4, 5, 1, 0] rfl ?_
  refine iter_sound (P := (fun s : Hp × Int32 × Int32 => Cl sh (s.1) → VV E 0 0 (wq (xT E) ad (s.1) sh) 6 [(0, .ref (ad l0)), (1, .int (l1)), (2, .int (l2)), (3, .int (l3)), (4, .int (s.2.1)), (5, .int (s.2.2))] [])) (X := fun r => r = r1) (fun jsr1 jor1 hor1 jbr1 jxr1 hC => tX11_wentBy_S6 C hC h_l0 hor1 (fun _ _ _ e => jbr1 _ e) ?_) fuel _ r1 qr1 rfl hC
  · intro G2 x3 hu hC
    have e := jxr1 _ hu
    subst e
    have hf := bd_at hf (rfl : G2 = _)
    have hf := bd_at hf (rfl : x3 = _)
    refine v_iload C 4 dX11_wentBy_45 rfl ?_
    cases hf
    exact kr _ _ dX11_wentBy_47 hC
theorem sX11_wentBy {l : Launch} {sh : Sh} {G : Hp} {l0 : Nat} {l1 : Int32} {l2 : Int32} {l3 : Int32} {z : Int32 × Hp} (h_l0 : sh[l0]? = some (0, 11)) (hf : fX11_wentBy sh G l0 l1 l2 l3 = some z) : MC l yX11_wentBy cX11_wentBy 6 (some .int) 3 0 0 sh sh G (z.2) (fun ad => [.ref (ad l0), .int l1, .int l2, .int l3]) (fun _ => some (.int z.1)) := by
  refine MC_of rfl rfl (fun _ => Nat.le_of_ble_eq_true rfl) (fun E ad C hl hnm hC hQ => ?_)
  exact tX11_wentBy C hC h_l0 hf (fun pc lv hd hC => v_iret C hQ (fun _ _ => rfl) hC rfl hd)
