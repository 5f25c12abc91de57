def fX8_hasBridge (sh : Sh) (G : Hp) (l0 : Nat) (l1 : Int32) : Option (Int32) := if l1 < 0 then some 0 else if (G.1 l0 3) ≤ l1 then some 0 else some 1
set_option maxHeartbeats 4000000 in
theorem tX8_hasBridge {E : EX} {ad : Nat → Nat} {sh : Sh} {G : Hp} {l0 : Nat} {l1 : Int32} {z : Int32} (C : Cx E RX8 cX8_hasBridge 2 (some .boolean) 1 0 0) (hC : Cl sh G) (h_l0 : sh[l0]? = some (0, 8)) (hf : fX8_hasBridge sh G l0 l1 = some z) (kr : RCz E cX8_hasBridge ad sh z G) : VV E 0 0 (wq (xT E) ad G sh) 0 [(0, .ref (ad l0)), (1, .int l1)] [] := by
  unfold fX8_hasBridge at hf
  refine v_iload_n C 1 dX8_hasBridge_0 rfl rfl ?_
  refine v_if_lt (tgt := 16) C dX8_hasBridge_1 (by decide) (fun c1 => ?_) (fun c1 => ?_)
  · have hf := ip hf c1
    refine v_iconst (v := 0) C dX8_hasBridge_16 (by decide) ?_
    cases hf
    exact kr _ _ dX8_hasBridge_17 (by decide) hC
  · have hf := im hf c1
    refine v_iload_n C 1 dX8_hasBridge_4 rfl rfl ?_
    refine v_aload_n C 0 dX8_hasBridge_5 rfl rfl ?_
    refine v_getI C h_l0 fl_X8_63 dX8_hasBridge_6 ?_
    refine v_icmp_ge (tgt := 16) C dX8_hasBridge_9 (by decide) (fun c2 => ?_) (fun c2 => ?_)
    · have hf := ip hf c2
      refine v_iconst (v := 0) C dX8_hasBridge_16 (by decide) ?_
      cases hf
      exact kr _ _ dX8_hasBridge_17 (by decide) hC
    · have hf := im hf c2
      refine v_iconst (v := 1) C dX8_hasBridge_12 (by decide) ?_
      refine v_goto (tgt := 17) C dX8_hasBridge_13 (by decide) ?_
      cases hf
      exact kr _ _ dX8_hasBridge_17 (by decide) hC
theorem sX8_hasBridge {l : Launch} {sh : Sh} {G : Hp} {l0 : Nat} {l1 : Int32} {z : Int32} (h_l0 : sh[l0]? = some (0, 8)) (hf : fX8_hasBridge sh G l0 l1 = some z) : MC l yX8_hasBridge cX8_hasBridge 2 (some .boolean) 1 0 0 sh sh G G (fun ad => [.ref (ad l0), .int l1]) (fun _ => some (.int z)) := by
  refine MC_of rfl rfl (fun _ => Nat.le_of_ble_eq_true rfl) (fun E ad C hl hnm hC hQ => ?_)
  exact tX8_hasBridge C hC h_l0 hf (fun pc lv hd hz hC => v_zret C hQ (fun _ _ => rfl) hC rfl hz hd)
def fX8_setOf (sh : Sh) (G : Hp) (l0 : Nat) (l1 : Int32) (l2 : Int32) : Option (Int32) := if 0 ≤ l2 then (ldA sh G l0 7 1).bind fun a2 => (aI sh G a2 l1).bind fun v3 => (ldA sh G l0 9 1).bind fun a4 => (aI sh G a4 l2).bind fun v5 => (ldA sh G l0 10 1).bind fun a6 => (aI sh G a6 l2).bind fun v7 => some ((v3 ||| v5) &&& (v7 ^^^ (-1))) else (ldA sh G l0 7 1).bind fun a8 => (aI sh G a8 l1).bind fun v9 => some v9
set_option maxHeartbeats 4000000 in
theorem tX8_setOf {E : EX} {ad : Nat → Nat} {sh : Sh} {G : Hp} {l0 : Nat} {l1 : Int32} {l2 : Int32} {z : Int32} (C : Cx E RX8 cX8_setOf 3 (some .int) 1 0 0) (hC : Cl sh G) (h_l0 : sh[l0]? = some (0, 8)) (hf : fX8_setOf sh G l0 l1 l2 = some z) (kr : RCi E cX8_setOf ad sh z G) : VV E 0 0 (wq (xT E) ad G sh) 0 [(0, .ref (ad l0)), (1, .int l1), (2, .int l2)] [] := by
  unfold fX8_setOf at hf
  refine v_iload_n C 2 dX8_setOf_0 rfl rfl ?_
  refine v_if_ge (tgt := 13) C dX8_setOf_1 (by decide) (fun c1 => ?_) (fun c1 => ?_)
  · have hf := ip hf c1
    refine v_aload_n C 0 dX8_setOf_13 rfl rfl ?_
    obtain ⟨a2, qa2, hf⟩ := bn hf
    refine v_getA C h_l0 fl_X8_15 qa2 dX8_setOf_14 (fun h_a2 => ?_)
    refine v_iload_n C 1 dX8_setOf_17 rfl rfl ?_
    obtain ⟨v3, qv3, hf⟩ := bn hf
    refine v_iald C h_a2 qv3 dX8_setOf_18 ?_
    refine v_aload_n C 0 dX8_setOf_19 rfl rfl ?_
    obtain ⟨a4, qa4, hf⟩ := bn hf
    refine v_getA C h_l0 fl_X8_21 qa4 dX8_setOf_20 (fun h_a4 => ?_)
    refine v_iload_n C 2 dX8_setOf_23 rfl rfl ?_
    obtain ⟨v5, qv5, hf⟩ := bn hf
    refine v_iald C h_a4 qv5 dX8_setOf_24 ?_
    refine v_ior C dX8_setOf_25 ?_
    refine v_aload_n C 0 dX8_setOf_26 rfl rfl ?_
    obtain ⟨a6, qa6, hf⟩ := bn hf
    refine v_getA C h_l0 fl_X8_24 qa6 dX8_setOf_27 (fun h_a6 => ?_)
    refine v_iload_n C 2 dX8_setOf_30 rfl rfl ?_
    obtain ⟨v7, qv7, hf⟩ := bn hf
    refine v_iald C h_a6 qv7 dX8_setOf_31 ?_
    refine v_iconst (v := (-1)) C dX8_setOf_32 (by decide) ?_
    refine v_ixor C dX8_setOf_33 ?_
    refine v_iand C dX8_setOf_34 ?_
    cases hf
    exact kr _ _ dX8_setOf_35 hC
  · have hf := im hf c1
    refine v_aload_n C 0 dX8_setOf_4 rfl rfl ?_
    obtain ⟨a8, qa8, hf⟩ := bn hf
    refine v_getA C h_l0 fl_X8_15 qa8 dX8_setOf_5 (fun h_a8 => ?_)
    refine v_iload_n C 1 dX8_setOf_8 rfl rfl ?_
    obtain ⟨v9, qv9, hf⟩ := bn hf
    refine v_iald C h_a8 qv9 dX8_setOf_9 ?_
    refine v_goto (tgt := 35) C dX8_setOf_10 (by decide) ?_
    cases hf
    exact kr _ _ dX8_setOf_35 hC
theorem sX8_setOf {l : Launch} {sh : Sh} {G : Hp} {l0 : Nat} {l1 : Int32} {l2 : Int32} {z : Int32} (h_l0 : sh[l0]? = some (0, 8)) (hf : fX8_setOf sh G l0 l1 l2 = some z) : MC l yX8_setOf cX8_setOf 3 (some .int) 1 0 0 sh sh G G (fun ad => [.ref (ad l0), .int l1, .int l2]) (fun _ => some (.int z)) := by
  refine MC_of rfl rfl (fun _ => Nat.le_of_ble_eq_true rfl) (fun E ad C hl hnm hC hQ => ?_)
  exact tX8_setOf C hC h_l0 hf (fun pc lv hd hC => v_iret C hQ (fun _ _ => rfl) hC rfl hd)
def fX7_isLetter (l0 : Int32) : Option (Int32) := if l0 < 97 then some 0 else if 122 < l0 then some 0 else some 1
set_option maxHeartbeats 4000000 in
theorem tX7_isLetter {E : EX} {ad : Nat → Nat} {sh : Sh} {G : Hp} {l0 : Int32} {z : Int32} (C : Cx E RX7 cX7_isLetter 1 (some .boolean) 1 0 0) (hC : Cl sh G) (hf : fX7_isLetter l0 = some z) (kr : RCz E cX7_isLetter ad sh z G) : VV E 0 0 (wq (xT E) ad G sh) 0 [(0, .int l0)] [] := by
  unfold fX7_isLetter at hf
  refine v_iload_n C 0 dX7_isLetter_0 rfl rfl ?_
  refine v_bipush (v := 97) C dX7_isLetter_1 (by decide) ?_
  refine v_icmp_lt (tgt := 16) C dX7_isLetter_3 (by decide) (fun c1 => ?_) (fun c1 => ?_)
  · have hf := ip hf c1
    refine v_iconst (v := 0) C dX7_isLetter_16 (by decide) ?_
    cases hf
    exact kr _ _ dX7_isLetter_17 (by decide) hC
  · have hf := im hf c1
    refine v_iload_n C 0 dX7_isLetter_6 rfl rfl ?_
    refine v_bipush (v := 122) C dX7_isLetter_7 (by decide) ?_
    refine v_icmp_gt (tgt := 16) C dX7_isLetter_9 (by decide) (fun c2 => ?_) (fun c2 => ?_)
    · have hf := ip hf c2
      refine v_iconst (v := 0) C dX7_isLetter_16 (by decide) ?_
      cases hf
      exact kr _ _ dX7_isLetter_17 (by decide) hC
    · have hf := im hf c2
      refine v_iconst (v := 1) C dX7_isLetter_12 (by decide) ?_
      refine v_goto (tgt := 17) C dX7_isLetter_13 (by decide) ?_
      cases hf
      exact kr _ _ dX7_isLetter_17 (by decide) hC
theorem sX7_isLetter {l : Launch} {sh : Sh} {G : Hp} {l0 : Int32} {z : Int32} (hf : fX7_isLetter l0 = some z) : MC l yX7_isLetter cX7_isLetter 1 (some .boolean) 1 0 0 sh sh G G (fun ad => [.int l0]) (fun _ => some (.int z)) := by
  refine MC_of rfl rfl (fun _ => Nat.le_of_ble_eq_true rfl) (fun E ad C hl hnm hC hQ => ?_)
  exact tX7_isLetter C hC hf (fun pc lv hd hz hC => v_zret C hQ (fun _ _ => rfl) hC rfl hz hd)
