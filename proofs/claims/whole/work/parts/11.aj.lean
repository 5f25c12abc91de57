def fX10_taken (sh : Sh) (G : Hp) (l0 : Nat) (l1 : Int32) (l2 : Int32) (l3 : Int32) : Option (Int32) := (fX10_hasAll sh G l0 l1 l2 l3).bind fun r1 => if r1 = 0 then some (-1) else (ldO sh G l0 2 8).bind fun a3 => (fX8_setOf sh G a3 l2 l3).bind fun r4 => (ldO sh G l0 2 8).bind fun a5 => (fX8_clauseHolds sh G a5 l1 r4).bind fun r6 => if r6 = 0 then some 1 else (ldO sh G l0 3 1).bind fun a8 => (fX1_hasLearnt sh G a8 r4).bind fun r9 => if r9 = 0 then some 0 else some 2
set_option maxHeartbeats 4000000 in
theorem tX10_taken {E : EX} {ad : Nat → Nat} {sh : Sh} {G : Hp} {l0 : Nat} {l1 : Int32} {l2 : Int32} {l3 : Int32} {z : Int32} (C : Cx E RX10 cX10_taken 5 (some .int) 3 0 0) (hC : Cl sh G) (h_l0 : sh[l0]? = some (0, 10)) (hf : fX10_taken sh G l0 l1 l2 l3 = some z) (kr : RCi E cX10_taken ad sh z G) : VV E 0 0 (wq (xT E) ad G sh) 0 [(0, .ref (ad l0)), (1, .int l1), (2, .int l2), (3, .int l3)] [] := by
  unfold fX10_taken at hf
  refine v_aload_n C 0 dX10_taken_0 rfl rfl ?_
  refine v_iload_n C 1 dX10_taken_1 rfl rfl ?_
  refine v_iload_n C 2 dX10_taken_2 rfl rfl ?_
  refine v_iload_n C 3 dX10_taken_3 rfl rfl ?_
  obtain ⟨r1, qr1, hf⟩ := bn hf
  refine v_callVi (As := [.int l1, .int l2, .int l3]) (rest := []) C (sX10_hasAll h_l0 qr1) cs_X10_179 (by decide) h_l0 rfl hC rfl rfl rfl (Nat.le_of_ble_eq_true rfl) ⟨Nat.le_refl _, Nat.le_refl _⟩ dX10_taken_4 (fun hC => ?_)
  refine v_if_ne (tgt := 12) C dX10_taken_7 (by decide) (fun c2 => ?_) (fun c2 => ?_)
  · have hf := im hf c2
    refine v_aload_n C 0 dX10_taken_12 rfl rfl ?_
    obtain ⟨a3, qa3, hf⟩ := bn hf
    refine v_getO C h_l0 fl_X10_23 qa3 dX10_taken_13 (fun h_a3 => ?_)
    refine v_iload_n C 2 dX10_taken_16 rfl rfl ?_
    refine v_iload_n C 3 dX10_taken_17 rfl rfl ?_
    obtain ⟨r4, qr4, hf⟩ := bn hf
    refine v_callVi (As := [.int l2, .int l3]) (rest := []) C (sX8_setOf h_a3 qr4) cs_X10_130 (by decide) h_a3 rfl hC rfl rfl rfl (Nat.le_of_ble_eq_true rfl) ⟨Nat.le_refl _, Nat.le_refl _⟩ dX10_taken_18 (fun hC => ?_)
    refine v_istore (lv2 := [(4, .int r4), (0, .ref (ad l0)), (1, .int l1), (2, .int l2), (3, .int l3)]) C dX10_taken_21 (by decide) rfl ?_
    refine v_aload_n C 1 dX10_taken_23 rfl rfl ?_
    obtain ⟨a5, qa5, hf⟩ := bn hf
    refine v_getO C h_l0 fl_X10_23 qa5 dX10_taken_24 (fun h_a5 => ?_)
    refine v_iload_n C 2 dX10_taken_27 rfl rfl ?_
    refine v_iload C 0 dX10_taken_28 rfl ?_
    obtain ⟨r6, qr6, hf⟩ := bn hf
    refine v_callVi (As := [.int l1, .int r4]) (rest := []) C (sX8_clauseHolds h_a5 qr6) cs_X10_175 (by decide) h_a5 rfl hC rfl rfl rfl (Nat.le_of_ble_eq_true rfl) ⟨Nat.le_refl _, Nat.le_refl _⟩ dX10_taken_30 (fun hC => ?_)
    refine v_if_ne (tgt := 38) C dX10_taken_33 (by decide) (fun c7 => ?_) (fun c7 => ?_)
    · have hf := im hf c7
      refine v_aload_n C 1 dX10_taken_38 rfl rfl ?_
      obtain ⟨a8, qa8, hf⟩ := bn hf
      refine v_getO C h_l0 fl_X10_30 qa8 dX10_taken_39 (fun h_a8 => ?_)
      refine v_iload C 0 dX10_taken_42 rfl ?_
      obtain ⟨r9, qr9, hf⟩ := bn hf
      refine v_callVi (As := [.int r4]) (rest := []) C (sX1_hasLearnt h_a8 qr9) cs_X10_183 (by decide) h_a8 rfl hC rfl rfl rfl (Nat.le_of_ble_eq_true rfl) ⟨Nat.le_refl _, Nat.le_refl _⟩ dX10_taken_44 (fun hC => ?_)
      refine v_if_eq (tgt := 54) C dX10_taken_47 (by decide) (fun c10 => ?_) (fun c10 => ?_)
      · have hf := ip hf c10
        refine v_iconst (v := 0) C dX10_taken_54 (by decide) ?_
        cases hf
        exact kr _ _ dX10_taken_55 hC
      · have hf := im hf c10
        refine v_iconst (v := 2) C dX10_taken_50 (by decide) ?_
        refine v_goto (tgt := 55) C dX10_taken_51 (by decide) ?_
        cases hf
        exact kr _ _ dX10_taken_55 hC
    · have hf := ip hf c7
      refine v_iconst (v := 1) C dX10_taken_36 (by decide) ?_
      cases hf
      exact kr _ _ dX10_taken_37 hC
  · have hf := ip hf c2
    refine v_iconst (v := (-1)) C dX10_taken_10 (by decide) ?_
    cases hf
    exact kr _ _ dX10_taken_11 hC
theorem sX10_taken {l : Launch} {sh : Sh} {G : Hp} {l0 : Nat} {l1 : Int32} {l2 : Int32} {l3 : Int32} {z : Int32} (h_l0 : sh[l0]? = some (0, 10)) (hf : fX10_taken sh G l0 l1 l2 l3 = some z) : MC l yX10_taken cX10_taken 5 (some .int) 3 0 0 sh sh G G (fun ad => [.ref (ad l0), .int l1, .int l2, .int l3]) (fun _ => some (.int z)) := by
  refine MC_of rfl rfl (fun _ => Nat.le_of_ble_eq_true rfl) (fun E ad C hl hnm hC hQ => ?_)
  exact tX10_taken C hC h_l0 hf (fun pc lv hd hC => v_iret C hQ (fun _ _ => rfl) hC rfl hd)
def fX9_add (sh : Sh) (G : Hp) (l0 : Nat) (l1 : Int32) (l2 : Int32) : Option (Int32 × Hp) := if (G.1 l0 0) < 20 then (ldA sh G l0 1 1).bind fun a2 => (asI sh G a2 (G.1 l0 0) l1).bind fun G3 => (ldA sh G3 l0 2 3).bind fun a4 => (asI sh G3 a4 (G3.1 l0 0) (zb l2)).bind fun G5 => bd (sI G5 l0 0 ((G5.1 l0 0) + 1)) fun G6 => some (((G6.1 l0 0) - 1), G6) else some ((-1), G)
set_option maxHeartbeats 4000000 in
theorem tX9_add {E : EX} {ad : Nat → Nat} {sh : Sh} {G : Hp} {l0 : Nat} {l1 : Int32} {l2 : Int32} {z : Int32 × Hp} (C : Cx E RX9 cX9_add 3 (some .int) 1 0 0) (hC : Cl sh G) (h_l0 : sh[l0]? = some (0, 9)) (hf : fX9_add sh G l0 l1 l2 = some z) (kr : RCi E cX9_add ad sh (z.1) (z.2)) : VV E 0 0 (wq (xT E) ad G sh) 0 [(0, .ref (ad l0)), (1, .int l1), (2, .int l2)] [] := by
  unfold fX9_add at hf
  refine v_aload_n C 0 dX9_add_0 rfl rfl ?_
  refine v_getI C h_l0 fl_X9_19 dX9_add_1 ?_
  refine v_bipush (v := 20) C dX9_add_4 (by decide) ?_
  refine v_icmp_lt (tgt := 11) C dX9_add_6 (by decide) (fun c1 => ?_) (fun c1 => ?_)
  · have hf := ip hf c1
    refine v_aload_n C 0 dX9_add_11 rfl rfl ?_
    obtain ⟨a2, qa2, hf⟩ := bn hf
    refine v_getA C h_l0 fl_X9_9 qa2 dX9_add_12 (fun h_a2 => ?_)
    refine v_aload_n C 0 dX9_add_15 rfl rfl ?_
    refine v_getI C h_l0 fl_X9_19 dX9_add_16 ?_
    refine v_iload_n C 1 dX9_add_19 rfl rfl ?_
    obtain ⟨G3, qG3, hf⟩ := bn hf
    refine v_iast C h_a2 qG3 hC dX9_add_20 (fun hC => ?_)
    refine v_aload_n C 0 dX9_add_21 rfl rfl ?_
    obtain ⟨a4, qa4, hf⟩ := bn hf
    refine v_getA C h_l0 fl_X9_15 qa4 dX9_add_22 (fun h_a4 => ?_)
    refine v_aload_n C 0 dX9_add_25 rfl rfl ?_
    refine v_getI C h_l0 fl_X9_19 dX9_add_26 ?_
    refine v_iload_n C 2 dX9_add_29 rfl rfl ?_
    obtain ⟨G5, qG5, hf⟩ := bn hf
    refine v_zast C h_a4 qG5 hC dX9_add_30 (fun hC => ?_)
    refine v_aload_n C 0 dX9_add_31 rfl rfl ?_
    refine v_dup C dX9_add_32 rfl ?_
    refine v_getI C h_l0 fl_X9_19 dX9_add_33 ?_
    refine v_iconst (v := 1) C dX9_add_36 (by decide) ?_
    refine v_iadd C dX9_add_37 ?_
    refine v_putI C h_l0 fp_X9_19 dX9_add_38 (fun G6 eG6 => ?_)
    have hf := bd_at hf eG6
    have hC : Cl sh G6 := by rw [eG6]; exact hC
    refine v_aload_n C 0 dX9_add_41 rfl rfl ?_
    refine v_getI C h_l0 fl_X9_19 dX9_add_42 ?_
    refine v_iconst (v := 1) C dX9_add_45 (by decide) ?_
    refine v_isub C dX9_add_46 ?_
    cases hf
    exact kr _ _ dX9_add_47 hC
  · have hf := im hf c1
    refine v_iconst (v := (-1)) C dX9_add_9 (by decide) ?_
    cases hf
    exact kr _ _ dX9_add_10 hC
theorem sX9_add {l : Launch} {sh : Sh} {G : Hp} {l0 : Nat} {l1 : Int32} {l2 : Int32} {z : Int32 × Hp} (h_l0 : sh[l0]? = some (0, 9)) (hf : fX9_add sh G l0 l1 l2 = some z) : MC l yX9_add cX9_add 3 (some .int) 1 0 0 sh sh G (z.2) (fun ad => [.ref (ad l0), .int l1, .int l2]) (fun _ => some (.int z.1)) := by
  refine MC_of rfl rfl (fun _ => Nat.le_of_ble_eq_true rfl) (fun E ad C hl hnm hC hQ => ?_)
  exact tX9_add C hC h_l0 hf (fun pc lv hd hC => v_iret C hQ (fun _ _ => rfl) hC rfl hd)
def fX10_tell (sh : Sh) (G : Hp) (l0 : Nat) (l1 : Int32) (l2 : Int32) : Option (Int32 × Hp) := if l1 < 0 then some ((-1), G) else (ldO sh G l0 2 8).bind fun a2 => if l1 < (G.1 a2 0) then (ldO sh G l0 8 9).bind fun a4 => bp (fX9_add sh G a4 l1 l2) fun r5 G6 => some (r5, G6) else some ((-1), G)
set_option maxHeartbeats 4000000 in
theorem tX10_tell {E : EX} {ad : Nat → Nat} {sh : Sh} {G : Hp} {l0 : Nat} {l1 : Int32} {l2 : Int32} {z : Int32 × Hp} (C : Cx E RX10 cX10_tell 3 (some .int) 2 0 0) (hC : Cl sh G) (h_l0 : sh[l0]? = some (0, 10)) (hf : fX10_tell sh G l0 l1 l2 = some z) (kr : RCi E cX10_tell ad sh (z.1) (z.2)) : VV E 0 0 (wq (xT E) ad G sh) 0 [(0, .ref (ad l0)), (1, .int l1), (2, .int l2)] [] := by
  unfold fX10_tell at hf
  refine v_iload_n C 1 dX10_tell_0 rfl rfl ?_
  refine v_if_lt (tgt := 15) C dX10_tell_1 (by decide) (fun c1 => ?_) (fun c1 => ?_)
  · have hf := ip hf c1
    refine v_iconst (v := (-1)) C dX10_tell_15 (by decide) ?_
    refine v_goto (tgt := 28) C dX10_tell_16 (by decide) ?_
    cases hf
    exact kr _ _ dX10_tell_28 hC
  · have hf := im hf c1
    refine v_iload_n C 1 dX10_tell_4 rfl rfl ?_
    refine v_aload_n C 0 dX10_tell_5 rfl rfl ?_
    obtain ⟨a2, qa2, hf⟩ := bn hf
    refine v_getO C h_l0 fl_X10_23 qa2 dX10_tell_6 (fun h_a2 => ?_)
    refine v_getI C h_a2 fl_X10_262 dX10_tell_9 ?_
    refine v_icmp_lt (tgt := 19) C dX10_tell_12 (by decide) (fun c3 => ?_) (fun c3 => ?_)
    · have hf := ip hf c3
      refine v_aload_n C 0 dX10_tell_19 rfl rfl ?_
      obtain ⟨a4, qa4, hf⟩ := bn hf
      refine v_getO C h_l0 fl_X10_58 qa4 dX10_tell_20 (fun h_a4 => ?_)
      refine v_iload_n C 1 dX10_tell_23 rfl rfl ?_
      refine v_iload_n C 2 dX10_tell_24 rfl rfl ?_
      obtain ⟨r5, G6, qr5, hf⟩ := bpn hf
      refine v_callVi (As := [.int l1, .int l2]) (rest := []) C (sX9_add h_a4 qr5) cs_X10_298 (by decide) h_a4 rfl hC rfl rfl rfl (Nat.le_of_ble_eq_true rfl) ⟨Nat.le_refl _, Nat.le_refl _⟩ dX10_tell_25 (fun hC => ?_)
      cases hf
      exact kr _ _ dX10_tell_28 hC
    · have hf := im hf c3
      refine v_iconst (v := (-1)) C dX10_tell_15 (by decide) ?_
      refine v_goto (tgt := 28) C dX10_tell_16 (by decide) ?_
      cases hf
      exact kr _ _ dX10_tell_28 hC
theorem sX10_tell {l : Launch} {sh : Sh} {G : Hp} {l0 : Nat} {l1 : Int32} {l2 : Int32} {z : Int32 × Hp} (h_l0 : sh[l0]? = some (0, 10)) (hf : fX10_tell sh G l0 l1 l2 = some z) : MC l yX10_tell cX10_tell 3 (some .int) 2 0 0 sh sh G (z.2) (fun ad => [.ref (ad l0), .int l1, .int l2]) (fun _ => some (.int z.1)) := by
  refine MC_of rfl rfl (fun _ => Nat.le_of_ble_eq_true rfl) (fun E ad C hl hnm hC hQ => ?_)
  exact tX10_tell C hC h_l0 hf (fun pc lv hd hC => v_iret C hQ (fun _ _ => rfl) hC rfl hd)
def fX2_giveBack (sh : Sh) (G : Hp) (l0 : Nat) (l1 : Nat) : Option (Int32 × Hp) := if 0 < (G.1 l0 0) then bd (sI G l0 0 ((G.1 l0 0) - 1)) fun G2 => if (G2.1 l0 1) ≤ 0 then bd (sI G2 l0 1 39) fun G4 => (ldA sh G4 l0 2 5).bind fun a5 => (aR sh G4 a5 (G4.1 l0 1) 1).bind fun a6 => (fX1_copyFrom sh G4 l1 a6).bind fun G8 => some (1, G8) else bd (sI G2 l0 1 ((G2.1 l0 1) - 1)) fun G9 => (ldA sh G9 l0 2 5).bind fun a10 => (aR sh G9 a10 (G9.1 l0 1) 1).bind fun a11 => (fX1_copyFrom sh G9 l1 a11).bind fun G13 => some (1, G13) else some (0, G)
set_option maxHeartbeats 4000000 in
theorem tX2_giveBack {E : EX} {ad : Nat → Nat} {sh : Sh} {G : Hp} {l0 : Nat} {l1 : Nat} {z : Int32 × Hp} (C : Cx E RX2 cX2_giveBack 2 (some .boolean) 2 0 0) (hC : Cl sh G) (h_l0 : sh[l0]? = some (0, 2)) (h_l1 : sh[l1]? = some (0, 1)) (hf : fX2_giveBack sh G l0 l1 = some z) (kr : RCz E cX2_giveBack ad sh (z.1) (z.2)) : VV E 0 0 (wq (xT E) ad G sh) 0 [(0, .ref (ad l0)), (1, .ref (ad l1))] [] := by
  unfold fX2_giveBack at hf
  refine v_aload_n C 0 dX2_giveBack_0 rfl rfl ?_
  refine v_getI C h_l0 fl_X2_26 dX2_giveBack_1 ?_
  refine v_if_gt (tgt := 9) C dX2_giveBack_4 (by decide) (fun c1 => ?_) (fun c1 => ?_)
  · have hf := ip hf c1
    refine v_aload_n C 0 dX2_giveBack_9 rfl rfl ?_
    refine v_dup C dX2_giveBack_10 rfl ?_
    refine v_getI C h_l0 fl_X2_26 dX2_giveBack_11 ?_
    refine v_iconst (v := 1) C dX2_giveBack_14 (by decide) ?_
    refine v_isub C dX2_giveBack_15 ?_
    refine v_putI C h_l0 fp_X2_26 dX2_giveBack_16 (fun G2 eG2 => ?_)
    have hf := bd_at hf eG2
    have hC : Cl sh G2 := by rw [eG2]; exact hC
    refine v_aload_n C 0 dX2_giveBack_19 rfl rfl ?_
    refine v_aload_n C 0 dX2_giveBack_20 rfl rfl ?_
    refine v_getI C h_l0 fl_X2_18 dX2_giveBack_21 ?_
    refine v_if_le (tgt := 36) C dX2_giveBack_24 (by decide) (fun c3 => ?_) (fun c3 => ?_)
    · have hf := ip hf c3
      refine v_bipush (v := 39) C dX2_giveBack_36 (by decide) ?_
      refine v_putI C h_l0 fp_X2_18 dX2_giveBack_38 (fun G4 eG4 => ?_)
      have hf := bd_at hf eG4
      have hC : Cl sh G4 := by rw [eG4]; exact hC
      refine v_aload_n C 1 dX2_giveBack_41 rfl rfl ?_
      refine v_aload_n C 0 dX2_giveBack_42 rfl rfl ?_
      obtain ⟨a5, qa5, hf⟩ := bn hf
      refine v_getA C h_l0 fl_X2_11 qa5 dX2_giveBack_43 (fun h_a5 => ?_)
      refine v_aload_n C 0 dX2_giveBack_46 rfl rfl ?_
      refine v_getI C h_l0 fl_X2_18 dX2_giveBack_47 ?_
      obtain ⟨a6, qa6, hf⟩ := bn hf
      refine v_aald C h_a5 qa6 dX2_giveBack_50 (fun h_a6 => ?_)
      obtain ⟨G8, qr7, hf⟩ := bn hf
      refine v_callVv (As := [.ref (ad a6)]) (rest := []) C (sX1_copyFrom h_l1 h_a6 qr7) cs_X2_22 (by decide) h_l1 rfl hC rfl rfl rfl (Nat.le_of_ble_eq_true rfl) ⟨Nat.le_refl _, Nat.le_refl _⟩ dX2_giveBack_51 (fun hC => ?_)
      refine v_iconst (v := 1) C dX2_giveBack_54 (by decide) ?_
      cases hf
      exact kr _ _ dX2_giveBack_55 (Or.inr rfl) hC
    · have hf := im hf c3
      refine v_aload_n C 0 dX2_giveBack_27 rfl rfl ?_
      refine v_getI C h_l0 fl_X2_18 dX2_giveBack_28 ?_
      refine v_iconst (v := 1) C dX2_giveBack_31 (by decide) ?_
      refine v_isub C dX2_giveBack_32 ?_
      refine v_goto (tgt := 38) C dX2_giveBack_33 (by decide) ?_
      refine v_putI C h_l0 fp_X2_18 dX2_giveBack_38 (fun G9 eG9 => ?_)
      have hf := bd_at hf eG9
      have hC : Cl sh G9 := by rw [eG9]; exact hC
      refine v_aload_n C 1 dX2_giveBack_41 rfl rfl ?_
      refine v_aload_n C 0 dX2_giveBack_42 rfl rfl ?_
      obtain ⟨a10, qa10, hf⟩ := bn hf
      refine v_getA C h_l0 fl_X2_11 qa10 dX2_giveBack_43 (fun h_a10 => ?_)
      refine v_aload_n C 0 dX2_giveBack_46 rfl rfl ?_
      refine v_getI C h_l0 fl_X2_18 dX2_giveBack_47 ?_
      obtain ⟨a11, qa11, hf⟩ := bn hf
      refine v_aald C h_a10 qa11 dX2_giveBack_50 (fun h_a11 => ?_)
      obtain ⟨G13, qr12, hf⟩ := bn hf
      refine v_callVv (As := [.ref (ad a11)]) (rest := []) C (sX1_copyFrom h_l1 h_a11 qr12) cs_X2_22 (by decide) h_l1 rfl hC rfl rfl rfl (Nat.le_of_ble_eq_true rfl) ⟨Nat.le_refl _, Nat.le_refl _⟩ dX2_giveBack_51 (fun hC => ?_)
      refine v_iconst (v := 1) C dX2_giveBack_54 (by decide) ?_
      cases hf
      exact kr _ _ dX2_giveBack_55 (Or.inr rfl) hC
  · have hf := im hf c1
    refine v_iconst (v := 0) C dX2_giveBack_7 (by decide) ?_
    cases hf
    exact kr _ _ dX2_giveBack_8 (Or.inl rfl) hC
theorem sX2_giveBack {l : Launch} {sh : Sh} {G : Hp} {l0 : Nat} {l1 : Nat} {z : Int32 × Hp} (h_l0 : sh[l0]? = some (0, 2)) (h_l1 : sh[l1]? = some (0, 1)) (hf : fX2_giveBack sh G l0 l1 = some z) : MC l yX2_giveBack cX2_giveBack 2 (some .boolean) 2 0 0 sh sh G (z.2) (fun ad => [.ref (ad l0), .ref (ad l1)]) (fun _ => some (.int z.1)) := by
  refine MC_of rfl rfl (fun _ => Nat.le_of_ble_eq_true rfl) (fun E ad C hl hnm hC hQ => ?_)
  exact tX2_giveBack C hC h_l0 h_l1 hf (fun pc lv hd hz hC => v_zret C hQ (fun _ _ => rfl) hC rfl hz hd)
def fX10_undo (sh : Sh) (G : Hp) (l0 : Nat) : Option (Int32 × Hp) := (ldO sh G l0 5 2).bind fun a1 => (ldO sh G l0 3 1).bind fun a2 => bp (fX2_giveBack sh G a1 a2) fun r3 G4 => if ¬ (r3 = 0 ∨ r3 = 1) then none else some (r3, G4)
set_option maxHeartbeats 4000000 in
theorem tX10_undo {E : EX} {ad : Nat → Nat} {sh : Sh} {G : Hp} {l0 : Nat} {z : Int32 × Hp} (C : Cx E RX10 cX10_undo 1 (some .boolean) 3 0 0) (hC : Cl sh G) (h_l0 : sh[l0]? = some (0, 10)) (hf : fX10_undo sh G l0 = some z) (kr : RCz E cX10_undo ad sh (z.1) (z.2)) : VV E 0 0 (wq (xT E) ad G sh) 0 [(0, .ref (ad l0))] [] := by
  unfold fX10_undo at hf
  refine v_aload_n C 0 dX10_undo_0 rfl rfl ?_
  obtain ⟨a1, qa1, hf⟩ := bn hf
  refine v_getO C h_l0 fl_X10_44 qa1 dX10_undo_1 (fun h_a1 => ?_)
  refine v_aload_n C 0 dX10_undo_4 rfl rfl ?_
  obtain ⟨a2, qa2, hf⟩ := bn hf
  refine v_getO C h_l0 fl_X10_30 qa2 dX10_undo_5 (fun h_a2 => ?_)
  obtain ⟨r3, G4, qr3, hf⟩ := bpn hf
  refine v_callVi (As := [.ref (ad a2)]) (rest := []) C (sX2_giveBack h_a1 h_a2 qr3) cs_X10_224 (by decide) h_a1 rfl hC rfl rfl rfl (Nat.le_of_ble_eq_true rfl) ⟨Nat.le_refl _, Nat.le_refl _⟩ dX10_undo_8 (fun hC => ?_)
  obtain ⟨hz5, hf⟩ := iz hf
  cases hf
  exact kr _ _ dX10_undo_11 (Classical.not_not.mp hz5) hC
theorem sX10_undo {l : Launch} {sh : Sh} {G : Hp} {l0 : Nat} {z : Int32 × Hp} (h_l0 : sh[l0]? = some (0, 10)) (hf : fX10_undo sh G l0 = some z) : MC l yX10_undo cX10_undo 1 (some .boolean) 3 0 0 sh sh G (z.2) (fun ad => [.ref (ad l0)]) (fun _ => some (.int z.1)) := by
  refine MC_of rfl rfl (fun _ => Nat.le_of_ble_eq_true rfl) (fun E ad C hl hnm hC hQ => ?_)
  exact tX10_undo C hC h_l0 hf (fun pc lv hd hz hC => v_zret C hQ (fun _ _ => rfl) hC rfl hz hd)
def fX10_way (sh : Sh) (G : Hp) (l0 : Nat) (l1 : Int32) (l2 : Int32) : Option (Int32) := if l1 < 0 then some (-1) else (ldO sh G l0 2 8).bind fun a2 => (fX8_hasWayOrNone sh G a2 l1).bind fun r3 => if r3 = 0 then some (-1) else if l2 = 0 then (ldO sh G l0 2 8).bind fun a6 => (ldA sh G a6 8 1).bind fun a7 => (aI sh G a7 l1).bind fun v8 => some v8 else if l2 = 1 then (ldO sh G l0 2 8).bind fun a10 => (ldA sh G a10 9 1).bind fun a11 => (aI sh G a11 l1).bind fun v12 => some v12 else if l2 = 2 then (ldO sh G l0 2 8).bind fun a14 => (ldA sh G a14 10 1).bind fun a15 => (aI sh G a15 l1).bind fun v16 => some v16 else some (-1)
set_option maxHeartbeats 4000000 in
theorem tX10_way {E : EX} {ad : Nat → Nat} {sh : Sh} {G : Hp} {l0 : Nat} {l1 : Int32} {l2 : Int32} {z : Int32} (C : Cx E RX10 cX10_way 3 (some .int) 2 0 0) (hC : Cl sh G) (h_l0 : sh[l0]? = some (0, 10)) (hf : fX10_way sh G l0 l1 l2 = some z) (kr : RCi E cX10_way ad sh z G) : VV E 0 0 (wq (xT E) ad G sh) 0 [(0, .ref (ad l0)), (1, .int l1), (2, .int l2)] [] := by
  unfold fX10_way at hf
  refine v_iload_n C 1 dX10_way_0 rfl rfl ?_
  refine v_if_lt (tgt := 15) C dX10_way_1 (by decide) (fun c1 => ?_) (fun c1 => ?_)
  · have hf := ip hf c1
    refine v_iconst (v := (-1)) C dX10_way_15 (by decide) ?_
    cases hf
    exact kr _ _ dX10_way_16 hC
  · have hf := im hf c1
    refine v_aload_n C 0 dX10_way_4 rfl rfl ?_
    obtain ⟨a2, qa2, hf⟩ := bn hf
    refine v_getO C h_l0 fl_X10_23 qa2 dX10_way_5 (fun h_a2 => ?_)
    refine v_iload_n C 1 dX10_way_8 rfl rfl ?_
    obtain ⟨r3, qr3, hf⟩ := bn hf
    refine v_callVi (As := [.int l1]) (rest := []) C (sX8_hasWayOrNone h_a2 qr3) cs_X10_127 (by decide) h_a2 rfl hC rfl rfl rfl (Nat.le_of_ble_eq_true rfl) ⟨Nat.le_refl _, Nat.le_refl _⟩ dX10_way_9 (fun hC => ?_)
    refine v_if_ne (tgt := 17) C dX10_way_12 (by decide) (fun c4 => ?_) (fun c4 => ?_)
    · have hf := im hf c4
      refine v_iload_n C 2 dX10_way_17 rfl rfl ?_
      by_cases c5 : l2 = 0
      · have hf := ip hf c5
        refine v_tableIn (off := 26) (tgt := 44) C dX10_way_18 (by rw [c5]; decide) (by rw [c5]; decide) (by rw [c5]; decide) (by decide) ?_
        refine v_aload_n C 0 dX10_way_44 rfl rfl ?_
        obtain ⟨a6, qa6, hf⟩ := bn hf
        refine v_getO C h_l0 fl_X10_23 qa6 dX10_way_45 (fun h_a6 => ?_)
        obtain ⟨a7, qa7, hf⟩ := bn hf
        refine v_getA C h_a6 fl_X10_134 qa7 dX10_way_48 (fun h_a7 => ?_)
        refine v_iload_n C 1 dX10_way_51 rfl rfl ?_
        obtain ⟨v8, qv8, hf⟩ := bn hf
        refine v_iald C h_a7 qv8 dX10_way_52 ?_
        cases hf
        exact kr _ _ dX10_way_53 hC
      · have hf := im hf c5
        by_cases c9 : l2 = 1
        · have hf := ip hf c9
          refine v_tableIn (off := 36) (tgt := 54) C dX10_way_18 (by rw [c9]; decide) (by rw [c9]; decide) (by rw [c9]; decide) (by decide) ?_
          refine v_aload_n C 0 dX10_way_54 rfl rfl ?_
          obtain ⟨a10, qa10, hf⟩ := bn hf
          refine v_getO C h_l0 fl_X10_23 qa10 dX10_way_55 (fun h_a10 => ?_)
          obtain ⟨a11, qa11, hf⟩ := bn hf
          refine v_getA C h_a10 fl_X10_137 qa11 dX10_way_58 (fun h_a11 => ?_)
          refine v_iload_n C 1 dX10_way_61 rfl rfl ?_
          obtain ⟨v12, qv12, hf⟩ := bn hf
          refine v_iald C h_a11 qv12 dX10_way_62 ?_
          cases hf
          exact kr _ _ dX10_way_63 hC
        · have hf := im hf c9
          by_cases c13 : l2 = 2
          · have hf := ip hf c13
            refine v_tableIn (off := 46) (tgt := 64) C dX10_way_18 (by rw [c13]; decide) (by rw [c13]; decide) (by rw [c13]; decide) (by decide) ?_
            refine v_aload_n C 0 dX10_way_64 rfl rfl ?_
            obtain ⟨a14, qa14, hf⟩ := bn hf
            refine v_getO C h_l0 fl_X10_23 qa14 dX10_way_65 (fun h_a14 => ?_)
            obtain ⟨a15, qa15, hf⟩ := bn hf
            refine v_getA C h_a14 fl_X10_140 qa15 dX10_way_68 (fun h_a15 => ?_)
            refine v_iload_n C 1 dX10_way_71 rfl rfl ?_
            obtain ⟨v16, qv16, hf⟩ := bn hf
            refine v_iald C h_a15 qv16 dX10_way_72 ?_
            cases hf
            exact kr _ _ dX10_way_73 hC
          · have hf := im hf c13
            refine v_tableOut (tgt := 74) C dX10_way_18 (tsw_out (by decide) (by decide) (fun k hk => match k, hk with | 0, _ => fun e => c5 (e.trans (by decide)) | 1, _ => fun e => c9 (e.trans (by decide)) | 2, _ => fun e => c13 (e.trans (by decide)) | k + 3, hk => absurd hk (by simp only [show (Int.toNat (2 - 0 + 1)) = 3 from rfl]; omega))) (by decide) ?_
            refine v_iconst (v := (-1)) C dX10_way_74 (by decide) ?_
            cases hf
            exact kr _ _ dX10_way_75 hC
    · have hf := ip hf c4
      refine v_iconst (v := (-1)) C dX10_way_15 (by decide) ?_
      cases hf
      exact kr _ _ dX10_way_16 hC
theorem sX10_way {l : Launch} {sh : Sh} {G : Hp} {l0 : Nat} {l1 : Int32} {l2 : Int32} {z : Int32} (h_l0 : sh[l0]? = some (0, 10)) (hf : fX10_way sh G l0 l1 l2 = some z) : MC l yX10_way cX10_way 3 (some .int) 2 0 0 sh sh G G (fun ad => [.ref (ad l0), .int l1, .int l2]) (fun _ => some (.int z)) := by
  refine MC_of rfl rfl (fun _ => Nat.le_of_ble_eq_true rfl) (fun E ad C hl hnm hC hQ => ?_)
  exact tX10_way C hC h_l0 hf (fun pc lv hd hC => v_iret C hQ (fun _ _ => rfl) hC rfl hd)
def fX9_countLeft (sh : Sh) (G : Hp) (l0 : Nat) (l1 : Nat) (l2 : Int32) (l3 : Int32) : Option (Int32 × Hp) := (fX9_know sh G l0 l3).bind fun G2 => (fX9_countWith sh G2 l0 l1 l2 0).bind fun r3 => some (r3, G2)
set_option maxHeartbeats 4000000 in
theorem tX9_countLeft {E : EX} {ad : Nat → Nat} {sh : Sh} {G : Hp} {l0 : Nat} {l1 : Nat} {l2 : Int32} {l3 : Int32} {z : Int32 × Hp} (C : Cx E RX9 cX9_countLeft 4 (some .int) 5 0 0) (hC : Cl sh G) (h_l0 : sh[l0]? = some (0, 9)) (h_l1 : sh[l1]? = some (0, 8)) (hf : fX9_countLeft sh G l0 l1 l2 l3 = some z) (kr : RCi E cX9_countLeft ad sh (z.1) (z.2)) : VV E 0 0 (wq (xT E) ad G sh) 0 [(0, .ref (ad l0)), (1, .ref (ad l1)), (2, .int l2), (3, .int l3)] [] := by
  unfold fX9_countLeft at hf
  refine v_aload_n C 0 dX9_countLeft_0 rfl rfl ?_
  refine v_iload_n C 3 dX9_countLeft_1 rfl rfl ?_
  obtain ⟨G2, qr1, hf⟩ := bn hf
  refine v_callVv (As := [.int l3]) (rest := []) C (sX9_know h_l0 qr1) cs_X9_35 (by decide) h_l0 rfl hC rfl rfl rfl (Nat.le_of_ble_eq_true rfl) ⟨Nat.le_refl _, Nat.le_refl _⟩ dX9_countLeft_2 (fun hC => ?_)
  refine v_aload_n C 0 dX9_countLeft_5 rfl rfl ?_
  refine v_aload_n C 1 dX9_countLeft_6 rfl rfl ?_
  refine v_iload_n C 2 dX9_countLeft_7 rfl rfl ?_
  refine v_iconst (v := 0) C dX9_countLeft_8 (by decide) ?_
  obtain ⟨r3, qr3, hf⟩ := bn hf
  refine v_callVi (As := [.ref (ad l1), .int l2, .int 0]) (rest := []) C (sX9_countWith h_l0 h_l1 qr3) cs_X9_39 (by decide) h_l0 rfl hC rfl rfl rfl (Nat.le_of_ble_eq_true rfl) ⟨Nat.le_refl _, Nat.le_refl _⟩ dX9_countLeft_9 (fun hC => ?_)
  cases hf
  exact kr _ _ dX9_countLeft_12 hC
theorem sX9_countLeft {l : Launch} {sh : Sh} {G : Hp} {l0 : Nat} {l1 : Nat} {l2 : Int32} {l3 : Int32} {z : Int32 × Hp} (h_l0 : sh[l0]? = some (0, 9)) (h_l1 : sh[l1]? = some (0, 8)) (hf : fX9_countLeft sh G l0 l1 l2 l3 = some z) : MC l yX9_countLeft cX9_countLeft 4 (some .int) 5 0 0 sh sh G (z.2) (fun ad => [.ref (ad l0), .ref (ad l1), .int l2, .int l3]) (fun _ => some (.int z.1)) := by
  refine MC_of rfl rfl (fun _ => Nat.le_of_ble_eq_true rfl) (fun E ad C hl hnm hC hQ => ?_)
  exact tX9_countLeft C hC h_l0 h_l1 hf (fun pc lv hd hC => v_iret C hQ (fun _ _ => rfl) hC rfl hd)
def fX10_went (sh : Sh) (G : Hp) (l0 : Nat) (l1 : Int32) (l2 : Int32) : Option (Int32 × Hp) := (fX10_isKnown sh G l0 l1 l2).bind fun r1 => if r1 = 0 then some ((-1), G) else (ldO sh G l0 8 9).bind fun a3 => (ldO sh G l0 2 8).bind fun a4 => bp (fX9_countLeft sh G a3 a4 l1 l2) fun r5 G6 => some (r5, G6)
set_option maxHeartbeats 4000000 in
theorem tX10_went {E : EX} {ad : Nat → Nat} {sh : Sh} {G : Hp} {l0 : Nat} {l1 : Int32} {l2 : Int32} {z : Int32 × Hp} (C : Cx E RX10 cX10_went 3 (some .int) 6 0 0) (hC : Cl sh G) (h_l0 : sh[l0]? = some (0, 10)) (hf : fX10_went sh G l0 l1 l2 = some z) (kr : RCi E cX10_went ad sh (z.1) (z.2)) : VV E 0 0 (wq (xT E) ad G sh) 0 [(0, .ref (ad l0)), (1, .int l1), (2, .int l2)] [] := by
  unfold fX10_went at hf
  refine v_aload_n C 0 dX10_went_0 rfl rfl ?_
  refine v_iload_n C 1 dX10_went_1 rfl rfl ?_
  refine v_iload_n C 2 dX10_went_2 rfl rfl ?_
  obtain ⟨r1, qr1, hf⟩ := bn hf
  refine v_callVi (As := [.int l1, .int l2]) (rest := []) C (sX10_isKnown h_l0 qr1) cs_X10_302 (by decide) h_l0 rfl hC rfl rfl rfl (Nat.le_of_ble_eq_true rfl) ⟨Nat.le_refl _, Nat.le_refl _⟩ dX10_went_3 (fun hC => ?_)
  refine v_if_eq (tgt := 25) C dX10_went_6 (by decide) (fun c2 => ?_) (fun c2 => ?_)
  · have hf := ip hf c2
    refine v_iconst (v := (-1)) C dX10_went_25 (by decide) ?_
    cases hf
    exact kr _ _ dX10_went_26 hC
  · have hf := im hf c2
    refine v_aload_n C 0 dX10_went_9 rfl rfl ?_
    obtain ⟨a3, qa3, hf⟩ := bn hf
    refine v_getO C h_l0 fl_X10_58 qa3 dX10_went_10 (fun h_a3 => ?_)
    refine v_aload_n C 0 dX10_went_13 rfl rfl ?_
    obtain ⟨a4, qa4, hf⟩ := bn hf
    refine v_getO C h_l0 fl_X10_23 qa4 dX10_went_14 (fun h_a4 => ?_)
    refine v_iload_n C 1 dX10_went_17 rfl rfl ?_
    refine v_iload_n C 2 dX10_went_18 rfl rfl ?_
    obtain ⟨r5, G6, qr5, hf⟩ := bpn hf
    refine v_callVi (As := [.ref (ad a4), .int l1, .int l2]) (rest := []) C (sX9_countLeft h_a3 h_a4 qr5) cs_X10_305 (by decide) h_a3 rfl hC rfl rfl rfl (Nat.le_of_ble_eq_true rfl) ⟨Nat.le_refl _, Nat.le_refl _⟩ dX10_went_19 (fun hC => ?_)
    refine v_goto (tgt := 26) C dX10_went_22 (by decide) ?_
    cases hf
    exact kr _ _ dX10_went_26 hC
theorem sX10_went {l : Launch} {sh : Sh} {G : Hp} {l0 : Nat} {l1 : Int32} {l2 : Int32} {z : Int32 × Hp} (h_l0 : sh[l0]? = some (0, 10)) (hf : fX10_went sh G l0 l1 l2 = some z) : MC l yX10_went cX10_went 3 (some .int) 6 0 0 sh sh G (z.2) (fun ad => [.ref (ad l0), .int l1, .int l2]) (fun _ => some (.int z.1)) := by
  refine MC_of rfl rfl (fun _ => Nat.le_of_ble_eq_true rfl) (fun E ad C hl hnm hC hQ => ?_)
  exact tX10_went C hC h_l0 hf (fun pc lv hd hC => v_iret C hQ (fun _ _ => rfl) hC rfl hd)
def fX10_year_S40 (sh : Sh) (l0 : Nat) (l1 : Int32) (l2 : Int32) (l3 : Int32) (G : Hp) (l4 : Int32) (l5 : Int32) : Option ((Hp × Int32 × Int32) ⊕ ((Hp × Int32))) := if l3 ≤ l5 then some (.inr (G, l4)) else (ldO sh G l0 3 1).bind fun a2 => (ldA sh G a2 1 1).bind fun a3 => (aI sh G a3 l1).bind fun v4 => if v4 = 1 then (ldO sh G l0 4 3).bind fun a6 => (ldO sh G l0 2 8).bind fun a7 => (ldO sh G l0 3 1).bind fun a8 => (ldO sh G l0 2 8).bind fun a9 => bp (fX3_lookAhead sh G a6 a7 a8 l2 ((G.1 a9 5) + l5)) fun r10 G11 => (ckO sh r10 1).bind fun u12 => (ldA sh G11 r10 1 1).bind fun a13 => (aI sh G11 a13 l1).bind fun v14 => if v14 = 1 then bd ((l4 + 1) : Int32) fun x18 => bd ((l5 + 1) : Int32) fun x19 => some (.inl (G11, x18, x19)) else bd ((l4 + 0) : Int32) fun x16 => bd ((l5 + 1) : Int32) fun x17 => some (.inl (G11, x16, x17)) else some (.inr (G, l4))
set_option maxHeartbeats 4000000 in
theorem tX10_year_S40 {E : EX} {ad : Nat → Nat} {sh : Sh} {G : Hp} {l0 : Nat} {l1 : Int32} {l2 : Int32} {l3 : Int32} {l4 : Int32} {l5 : Int32} {o : (Hp × Int32 × Int32) ⊕ ((Hp × Int32))} (C : Cx E RX10 cX10_year 7 (some .int) 8 0 0) (hC : Cl sh G) (h_l0 : sh[l0]? = some (0, 10)) (hf : fX10_year_S40 sh l0 l1 l2 l3 G l4 l5 = some o) (kb : ∀ (G2 : Hp) (b_l4 : Int32) (b_l5 : Int32), o = .inl (G2, b_l4, b_l5) → Cl sh G2 → VV E 0 0 (wq (xT E) ad G2 sh) 40 [(0, .ref (ad l0)), (1, .int l1), (2, .int l2), (3, .int l3), (4, .int b_l4), (5, .int b_l5)] []) (kx114 : ∀ (G2 : Hp) (b_l4 : Int32), o = .inr (G2, b_l4) → Cl sh G2 → VV E 0 0 (wq (xT E) ad G2 sh) 114 [(0, .ref (ad l0)), (1, .int l1), (2, .int l2), (3, .int l3), (4, .int b_l4)] []) : VV E 0 0 (wq (xT E) ad G sh) 40 [(0, .ref (ad l0)), (1, .int l1), (2, .int l2), (3, .int l3), (4, .int l4), (5, .int l5)] [] := by
  unfold fX10_year_S40 at hf
  refine v_iload C 5 dX10_year_40 rfl ?_
  refine v_iload_n C 3 dX10_year_42 rfl rfl ?_
  refine v_icmp_ge (tgt := 114) C dX10_year_43 (by decide) (fun c1 => ?_) (fun c1 => ?_)
  · have hf := ip hf c1
    cases hf
    refine v_sub [0, 1, 2, 3, 4] rfl ?_
    exact kx114 _ _ rfl hC
  · have hf := im hf c1
    refine v_aload_n C 0 dX10_year_46 rfl rfl ?_
    obtain ⟨a2, qa2, hf⟩ := bn hf
    refine v_getO C h_l0 fl_X10_30 qa2 dX10_year_47 (fun h_a2 => ?_)
    obtain ⟨a3, qa3, hf⟩ := bn hf
    refine v_getA C h_a2 fl_X10_152 qa3 dX10_year_50 (fun h_a3 => ?_)
    refine v_iload_n C 1 dX10_year_53 rfl rfl ?_
    obtain ⟨v4, qv4, hf⟩ := bn hf
    refine v_iald C h_a3 qv4 dX10_year_54 ?_
    refine v_iconst (v := 1) C dX10_year_55 (by decide) ?_
    refine v_icmp_ne (tgt := 114) C dX10_year_56 (by decide) (fun c5 => ?_) (fun c5 => ?_)
    · have hf := im hf c5
      cases hf
      refine v_sub [0, 1, 2, 3, 4] rfl ?_
      exact kx114 _ _ rfl hC
    · have hf := ip hf c5
      refine v_aload_n C 0 dX10_year_59 rfl rfl ?_
      obtain ⟨a6, qa6, hf⟩ := bn hf
      refine v_getO C h_l0 fl_X10_37 qa6 dX10_year_60 (fun h_a6 => ?_)
      refine v_aload_n C 0 dX10_year_63 rfl rfl ?_
      obtain ⟨a7, qa7, hf⟩ := bn hf
      refine v_getO C h_l0 fl_X10_23 qa7 dX10_year_64 (fun h_a7 => ?_)
      refine v_aload_n C 0 dX10_year_67 rfl rfl ?_
      obtain ⟨a8, qa8, hf⟩ := bn hf
      refine v_getO C h_l0 fl_X10_30 qa8 dX10_year_68 (fun h_a8 => ?_)
      refine v_iload_n C 2 dX10_year_71 rfl rfl ?_
      refine v_aload_n C 0 dX10_year_72 rfl rfl ?_
      obtain ⟨a9, qa9, hf⟩ := bn hf
      refine v_getO C h_l0 fl_X10_23 qa9 dX10_year_73 (fun h_a9 => ?_)
      refine v_getI C h_a9 fl_X10_214 dX10_year_76 ?_
      refine v_iload C 5 dX10_year_79 rfl ?_
      refine v_iadd C dX10_year_81 ?_
      obtain ⟨r10, G11, qr10, hf⟩ := bpn hf
      obtain ⟨u12, hu12, hf⟩ := bn hf
      have h_r10 := ckO_some hu12
      refine v_callVr (As := [.ref (ad a7), .ref (ad a8), .int l2, .int ((G.1 a9 5) + l5)]) (rest := []) C (sX3_lookAhead h_a6 h_a7 h_a8 qr10) cs_X10_291 (by decide) h_a6 rfl hC rfl rfl rfl (Nat.le_of_ble_eq_true rfl) ⟨Nat.le_refl _, Nat.le_refl _⟩ h_r10 dX10_year_82 (fun hC => ?_)
      refine v_astore (lv2 := [(6, .ref (ad r10)), (0, .ref (ad l0)), (1, .int l1), (2, .int l2), (3, .int l3), (4, .int l4), (5, .int l5)]) C dX10_year_85 (by decide) rfl ?_
      refine v_iload C 5 dX10_year_87 rfl ?_
      refine v_aload C 0 dX10_year_89 rfl ?_
      obtain ⟨a13, qa13, hf⟩ := bn hf
      refine v_getA C h_r10 fl_X10_152 qa13 dX10_year_91 (fun h_a13 => ?_)
      refine v_iload_n C 2 dX10_year_94 rfl rfl ?_
      obtain ⟨v14, qv14, hf⟩ := bn hf
      refine v_iald C h_a13 qv14 dX10_year_95 ?_
      refine v_iconst (v := 1) C dX10_year_96 (by decide) ?_
      refine v_icmp_ne (tgt := 104) C dX10_year_97 (by decide) (fun c15 => ?_) (fun c15 => ?_)
      · have hf := im hf c15
        refine v_iconst (v := 0) C dX10_year_104 (by decide) ?_
        refine v_iadd C dX10_year_105 ?_
        refine v_topi (fun x16 ex16 => ?_)
        have hf := bd_at hf ex16
        refine v_istore (lv2 := [(4, .int x16), (6, .ref (ad r10)), (0, .ref (ad l0)), (1, .int l1), (2, .int l2), (3, .int l3), (5, .int l5)]) C dX10_year_106 (by decide) rfl ?_
        obtain ⟨x17, ex17⟩ : ∃ x : Int32, x = (l5 + 1) := ⟨_, rfl⟩
        have hf := bd_at hf ex17
        refine v_iinc (v := x17) (j := 6) (lv2 := [(5, .int x17), (4, .int x16), (6, .ref (ad r10)), (0, .ref (ad l0)), (1, .int l1), (2, .int l2), (3, .int l3)]) C dX10_year_108 rfl (by rw [ex17]; rfl) (by decide) rfl ?_
        refine v_goto (tgt := 40) C dX10_year_111 (by decide) ?_
        cases hf
        refine v_sub [3, 4, 5, 6, 1, 0] rfl ?_
        exact kb _ _ _ rfl hC
      · have hf := ip hf c15
        refine v_iconst (v := 1) C dX10_year_100 (by decide) ?_
        refine v_goto (tgt := 105) C dX10_year_101 (by decide) ?_
        refine v_iadd C dX10_year_105 ?_
        refine v_topi (fun x18 ex18 => ?_)
        have hf := bd_at hf ex18
        refine v_istore (lv2 := [(4, .int x18), (6, .ref (ad r10)), (0, .ref (ad l0)), (1, .int l1), (2, .int l2), (3, .int l3), (5, .int l5)]) C dX10_year_106 (by decide) rfl ?_
        obtain ⟨x19, ex19⟩ : ∃ x : Int32, x = (l5 + 1) := ⟨_, rfl⟩
        have hf := bd_at hf ex19
        refine v_iinc (v := x19) (j := 6) (lv2 := [(5, .int x19), (4, .int x18), (6, .ref (ad r10)), (0, .ref (ad l0)), (1, .int l1), (2, .int l2), (3, .int l3)]) C dX10_year_108 rfl (by rw [ex19]; rfl) (by decide) rfl ?_
        refine v_goto (tgt := 40) C dX10_year_111 (by decide) ?_
        cases hf
        refine v_sub [3, 4, 5, 6, 1, 0] rfl ?_
        exact kb _ _ _ rfl hC
def fX10_year (sh : Sh) (G : Hp) (l0 : Nat) (l1 : Int32) (l2 : Int32) (l3 : Int32) : Option (Int32 × Hp) := (ldO sh G l0 2 8).bind fun a1 => (fX8_hasBridge sh G a1 l1).bind fun r2 => if r2 = 0 then some ((-1), G) else if l2 < 0 then some ((-1), G) else if 60 < l2 then some ((-1), G) else if l3 < 1 then some ((-1), G) else if l3 ≤ 20 then (iter (fun s : Hp × Int32 × Int32 => fX10_year_S40 sh l0 l1 l2 l3 s.1 s.2.1 s.2.2) fuel ((G, 0, 0) : Hp × Int32 × Int32)).bind (fun u11 => bd u11.1 fun G9 => bd u11.2 fun x10 => some (x10, G9)) else some ((-1), G)
set_option maxHeartbeats 4000000 in
theorem tX10_year {E : EX} {ad : Nat → Nat} {sh : Sh} {G : Hp} {l0 : Nat} {l1 : Int32} {l2 : Int32} {l3 : Int32} {z : Int32 × Hp} (C : Cx E RX10 cX10_year 7 (some .int) 8 0 0) (hC : Cl sh G) (h_l0 : sh[l0]? = some (0, 10)) (hf : fX10_year sh G l0 l1 l2 l3 = some z) (kr : RCi E cX10_year ad sh (z.1) (z.2)) : VV E 0 0 (wq (xT E) ad G sh) 0 [(0, .ref (ad l0)), (1, .int l1), (2, .int l2), (3, .int l3)] [] := by
  unfold fX10_year at hf
  refine v_aload_n C 0 dX10_year_0 rfl rfl ?_
  obtain ⟨a1, qa1, hf⟩ := bn hf
  refine v_getO C h_l0 fl_X10_23 qa1 dX10_year_1 (fun h_a1 => ?_)
  refine v_iload_n C 1 dX10_year_4 rfl rfl ?_
  obtain ⟨r2, qr2, hf⟩ := bn hf
  refine v_callVi (As := [.int l1]) (rest := []) C (sX8_hasBridge h_a1 qr2) cs_X10_143 (by decide) h_a1 rfl hC rfl rfl rfl (Nat.le_of_ble_eq_true rfl) ⟨Nat.le_refl _, Nat.le_refl _⟩ dX10_year_5 (fun hC => ?_)
  refine v_if_eq (tgt := 32) C dX10_year_8 (by decide) (fun c3 => ?_) (fun c3 => ?_)
  · have hf := ip hf c3
    refine v_iconst (v := (-1)) C dX10_year_32 (by decide) ?_
    cases hf
    exact kr _ _ dX10_year_33 hC
  · have hf := im hf c3
    refine v_iload_n C 2 dX10_year_11 rfl rfl ?_
    refine v_if_lt (tgt := 32) C dX10_year_12 (by decide) (fun c4 => ?_) (fun c4 => ?_)
    · have hf := ip hf c4
      refine v_iconst (v := (-1)) C dX10_year_32 (by decide) ?_
      cases hf
      exact kr _ _ dX10_year_33 hC
    · have hf := im hf c4
      refine v_iload_n C 2 dX10_year_15 rfl rfl ?_
      refine v_bipush (v := 60) C dX10_year_16 (by decide) ?_
      refine v_icmp_gt (tgt := 32) C dX10_year_18 (by decide) (fun c5 => ?_) (fun c5 => ?_)
      · have hf := ip hf c5
        refine v_iconst (v := (-1)) C dX10_year_32 (by decide) ?_
        cases hf
        exact kr _ _ dX10_year_33 hC
      · have hf := im hf c5
        refine v_iload_n C 3 dX10_year_21 rfl rfl ?_
        refine v_iconst (v := 1) C dX10_year_22 (by decide) ?_
        refine v_icmp_lt (tgt := 32) C dX10_year_23 (by decide) (fun c6 => ?_) (fun c6 => ?_)
        · have hf := ip hf c6
          refine v_iconst (v := (-1)) C dX10_year_32 (by decide) ?_
          cases hf
          exact kr _ _ dX10_year_33 hC
        · have hf := im hf c6
          refine v_iload_n C 3 dX10_year_26 rfl rfl ?_
          refine v_bipush (v := 20) C dX10_year_27 (by decide) ?_
          refine v_icmp_le (tgt := 34) C dX10_year_29 (by decide) (fun c7 => ?_) (fun c7 => ?_)
          · have hf := ip hf c7
            refine v_iconst (v := 0) C dX10_year_34 (by decide) ?_
            refine v_istore (lv2 := [(4, .int 0), (0, .ref (ad l0)), (1, .int l1), (2, .int l2), (3, .int l3)]) C dX10_year_35 (by decide) rfl ?_
            refine v_iconst (v := 0) C dX10_year_37 (by decide) ?_
            refine v_istore (lv2 := [(5, .int 0), (4, .int 0), (0, .ref (ad l0)), (1, .int l1), (2, .int l2), (3, .int l3)]) C dX10_year_38 (by decide) rfl ?_
            obtain ⟨r8, qr8, hf⟩ := bn hf
            refine v_sub [2, 3, 4, 5, 1, 0] rfl ?_
            refine iter_sound (P := (fun s : Hp × Int32 × Int32 => Cl sh (s.1) → VV E 0 0 (wq (xT E) ad (s.1) sh) 40 [(0, .ref (ad l0)), (1, .int (l1)), (2, .int (l2)), (3, .int (l3)), (4, .int (s.2.1)), (5, .int (s.2.2))] [])) (X := fun r => r = r8) (fun jsr8 jor8 hor8 jbr8 jxr8 hC => tX10_year_S40 C hC h_l0 hor8 (fun _ _ _ e => jbr8 _ e) ?_) fuel _ r8 qr8 rfl hC
            · intro G9 x10 hu hC
              have e := jxr8 _ hu
              subst e
              have hf := bd_at hf (rfl : G9 = _)
              have hf := bd_at hf (rfl : x10 = _)
              refine v_iload C 4 dX10_year_114 rfl ?_
              cases hf
              exact kr _ _ dX10_year_116 hC
          · have hf := im hf c7
            refine v_iconst (v := (-1)) C dX10_year_32 (by decide) ?_
            cases hf
            exact kr _ _ dX10_year_33 hC
theorem sX10_year {l : Launch} {sh : Sh} {G : Hp} {l0 : Nat} {l1 : Int32} {l2 : Int32} {l3 : Int32} {z : Int32 × Hp} (h_l0 : sh[l0]? = some (0, 10)) (hf : fX10_year sh G l0 l1 l2 l3 = some z) : MC l yX10_year cX10_year 7 (some .int) 8 0 0 sh sh G (z.2) (fun ad => [.ref (ad l0), .int l1, .int l2, .int l3]) (fun _ => some (.int z.1)) := by
  refine MC_of rfl rfl (fun _ => Nat.le_of_ble_eq_true rfl) (fun E ad C hl hnm hC hQ => ?_)
  exact tX10_year C hC h_l0 hf (fun pc lv hd hC => v_iret C hQ (fun _ _ => rfl) hC rfl hd)
def fX10_years (sh : Sh) (G : Hp) (l0 : Nat) (l1 : Int32) : Option (Int32 × Hp) := if l1 < 0 then some ((-1), G) else if l1 ≤ 60 then if l1 ≤ 0 then (ldO sh G l0 3 1).bind fun a4 => some ((G.1 a4 8), G) else (ldO sh G l0 5 2).bind fun a5 => (ldO sh G l0 3 1).bind fun a6 => (fX2_keep sh G a5 a6).bind fun G8 => (ldO sh G8 l0 4 3).bind fun a9 => (ldO sh G8 l0 2 8).bind fun a10 => (ldO sh G8 l0 3 1).bind fun a11 => (ldO sh G8 l0 2 8).bind fun a12 => (fX3_passYears sh G8 a9 a10 a11 l1 (G8.1 a12 5)).bind fun G14 => (ldO sh G14 l0 3 1).bind fun a15 => some ((G14.1 a15 8), G14) else some ((-1), G)
set_option maxHeartbeats 4000000 in
theorem tX10_years {E : EX} {ad : Nat → Nat} {sh : Sh} {G : Hp} {l0 : Nat} {l1 : Int32} {z : Int32 × Hp} (C : Cx E RX10 cX10_years 2 (some .int) 7 0 0) (hC : Cl sh G) (h_l0 : sh[l0]? = some (0, 10)) (hf : fX10_years sh G l0 l1 = some z) (kr : RCi E cX10_years ad sh (z.1) (z.2)) : VV E 0 0 (wq (xT E) ad G sh) 0 [(0, .ref (ad l0)), (1, .int l1)] [] := by
  unfold fX10_years at hf
  refine v_iload_n C 1 dX10_years_0 rfl rfl ?_
  refine v_if_lt (tgt := 10) C dX10_years_1 (by decide) (fun c1 => ?_) (fun c1 => ?_)
  · have hf := ip hf c1
    refine v_iconst (v := (-1)) C dX10_years_10 (by decide) ?_
    cases hf
    exact kr _ _ dX10_years_11 hC
  · have hf := im hf c1
    refine v_iload_n C 1 dX10_years_4 rfl rfl ?_
    refine v_bipush (v := 60) C dX10_years_5 (by decide) ?_
    refine v_icmp_le (tgt := 12) C dX10_years_7 (by decide) (fun c2 => ?_) (fun c2 => ?_)
    · have hf := ip hf c2
      refine v_iload_n C 1 dX10_years_12 rfl rfl ?_
      refine v_if_le (tgt := 50) C dX10_years_13 (by decide) (fun c3 => ?_) (fun c3 => ?_)
      · have hf := ip hf c3
        refine v_aload_n C 0 dX10_years_50 rfl rfl ?_
        obtain ⟨a4, qa4, hf⟩ := bn hf
        refine v_getO C h_l0 fl_X10_30 qa4 dX10_years_51 (fun h_a4 => ?_)
        refine v_getI C h_a4 fl_X10_221 dX10_years_54 ?_
        cases hf
        exact kr _ _ dX10_years_57 hC
      · have hf := im hf c3
        refine v_aload_n C 0 dX10_years_16 rfl rfl ?_
        obtain ⟨a5, qa5, hf⟩ := bn hf
        refine v_getO C h_l0 fl_X10_44 qa5 dX10_years_17 (fun h_a5 => ?_)
        refine v_aload_n C 0 dX10_years_20 rfl rfl ?_
        obtain ⟨a6, qa6, hf⟩ := bn hf
        refine v_getO C h_l0 fl_X10_30 qa6 dX10_years_21 (fun h_a6 => ?_)
        obtain ⟨G8, qr7, hf⟩ := bn hf
        refine v_callVv (As := [.ref (ad a6)]) (rest := []) C (sX2_keep h_a5 h_a6 qr7) cs_X10_189 (by decide) h_a5 rfl hC rfl rfl rfl (Nat.le_of_ble_eq_true rfl) ⟨Nat.le_refl _, Nat.le_refl _⟩ dX10_years_24 (fun hC => ?_)
        refine v_aload_n C 0 dX10_years_27 rfl rfl ?_
        obtain ⟨a9, qa9, hf⟩ := bn hf
        refine v_getO C h_l0 fl_X10_37 qa9 dX10_years_28 (fun h_a9 => ?_)
        refine v_aload_n C 0 dX10_years_31 rfl rfl ?_
        obtain ⟨a10, qa10, hf⟩ := bn hf
        refine v_getO C h_l0 fl_X10_23 qa10 dX10_years_32 (fun h_a10 => ?_)
        refine v_aload_n C 0 dX10_years_35 rfl rfl ?_
        obtain ⟨a11, qa11, hf⟩ := bn hf
        refine v_getO C h_l0 fl_X10_30 qa11 dX10_years_36 (fun h_a11 => ?_)
        refine v_iload_n C 1 dX10_years_39 rfl rfl ?_
        refine v_aload_n C 0 dX10_years_40 rfl rfl ?_
        obtain ⟨a12, qa12, hf⟩ := bn hf
        refine v_getO C h_l0 fl_X10_23 qa12 dX10_years_41 (fun h_a12 => ?_)
        refine v_getI C h_a12 fl_X10_214 dX10_years_44 ?_
        obtain ⟨G14, qr13, hf⟩ := bn hf
        refine v_callVv (As := [.ref (ad a10), .ref (ad a11), .int l1, .int (G8.1 a12 5)]) (rest := []) C (sX3_passYears h_a9 h_a10 h_a11 qr13) cs_X10_217 (by decide) h_a9 rfl hC rfl rfl rfl (Nat.le_of_ble_eq_true rfl) ⟨Nat.le_refl _, Nat.le_refl _⟩ dX10_years_47 (fun hC => ?_)
        refine v_aload_n C 0 dX10_years_50 rfl rfl ?_
        obtain ⟨a15, qa15, hf⟩ := bn hf
        refine v_getO C h_l0 fl_X10_30 qa15 dX10_years_51 (fun h_a15 => ?_)
        refine v_getI C h_a15 fl_X10_221 dX10_years_54 ?_
        cases hf
        exact kr _ _ dX10_years_57 hC
    · have hf := im hf c2
      refine v_iconst (v := (-1)) C dX10_years_10 (by decide) ?_
      cases hf
      exact kr _ _ dX10_years_11 hC
theorem sX10_years {l : Launch} {sh : Sh} {G : Hp} {l0 : Nat} {l1 : Int32} {z : Int32 × Hp} (h_l0 : sh[l0]? = some (0, 10)) (hf : fX10_years sh G l0 l1 = some z) : MC l yX10_years cX10_years 2 (some .int) 7 0 0 sh sh G (z.2) (fun ad => [.ref (ad l0), .int l1]) (fun _ => some (.int z.1)) := by
  refine MC_of rfl rfl (fun _ => Nat.le_of_ble_eq_true rfl) (fun E ad C hl hnm hC hQ => ?_)
  exact tX10_years C hC h_l0 hf (fun pc lv hd hC => v_iret C hQ (fun _ _ => rfl) hC rfl hd)
def fX11_in (l0 : Int32) (l1 : Int32) (l2 : Int32) : Option (Int32) := if l0 < l1 then some 0 else if l2 < l0 then some 0 else some 1
set_option maxHeartbeats 4000000 in
theorem tX11_in {E : EX} {ad : Nat → Nat} {sh : Sh} {G : Hp} {l0 : Int32} {l1 : Int32} {l2 : Int32} {z : Int32} (C : Cx E RX11 cX11_in 3 (some .boolean) 1 0 0) (hC : Cl sh G) (hf : fX11_in l0 l1 l2 = some z) (kr : RCz E cX11_in ad sh z G) : VV E 0 0 (wq (xT E) ad G sh) 0 [(0, .int l0), (1, .int l1), (2, .int l2)] [] := by
  unfold fX11_in at hf
  refine v_iload_n C 0 dX11_in_0 rfl rfl ?_
  refine v_iload_n C 1 dX11_in_1 rfl rfl ?_
  refine v_icmp_lt (tgt := 14) C dX11_in_2 (by decide) (fun c1 => ?_) (fun c1 => ?_)
  · have hf := ip hf c1
    refine v_iconst (v := 0) C dX11_in_14 (by decide) ?_
    cases hf
    exact kr _ _ dX11_in_15 (Or.inl rfl) hC
  · have hf := im hf c1
    refine v_iload_n C 0 dX11_in_5 rfl rfl ?_
    refine v_iload_n C 2 dX11_in_6 rfl rfl ?_
    refine v_icmp_gt (tgt := 14) C dX11_in_7 (by decide) (fun c2 => ?_) (fun c2 => ?_)
    · have hf := ip hf c2
      refine v_iconst (v := 0) C dX11_in_14 (by decide) ?_
      cases hf
      exact kr _ _ dX11_in_15 (Or.inl rfl) hC
    · have hf := im hf c2
      refine v_iconst (v := 1) C dX11_in_10 (by decide) ?_
      refine v_goto (tgt := 15) C dX11_in_11 (by decide) ?_
      cases hf
      exact kr _ _ dX11_in_15 (Or.inr rfl) hC
theorem sX11_in {l : Launch} {sh : Sh} {G : Hp} {l0 : Int32} {l1 : Int32} {l2 : Int32} {z : Int32} (hf : fX11_in l0 l1 l2 = some z) : MC l yX11_in cX11_in 3 (some .boolean) 1 0 0 sh sh G G (fun ad => [.int l0, .int l1, .int l2]) (fun _ => some (.int z)) := by
  refine MC_of rfl rfl (fun _ => Nat.le_of_ble_eq_true rfl) (fun E ad C hl hnm hC hQ => ?_)
  exact tX11_in C hC hf (fun pc lv hd hz hC => v_zret C hQ (fun _ _ => rfl) hC rfl hz hd)
def fX11_isBridge (sh : Sh) (G : Hp) (l0 : Nat) (l1 : Int32) : Option (Int32) := (ldA sh G l0 31 1).bind fun a1 => (aI sh G a1 (G.1 l0 18)).bind fun v2 => (fX11_in l1 0 (v2 - 1)).bind fun r3 => if ¬ (r3 = 0 ∨ r3 = 1) then none else some r3
set_option maxHeartbeats 4000000 in
theorem tX11_isBridge {E : EX} {ad : Nat → Nat} {sh : Sh} {G : Hp} {l0 : Nat} {l1 : Int32} {z : Int32} (C : Cx E RX11 cX11_isBridge 2 (some .boolean) 2 0 0) (hC : Cl sh G) (h_l0 : sh[l0]? = some (0, 11)) (hf : fX11_isBridge sh G l0 l1 = some z) (kr : RCz E cX11_isBridge ad sh z G) : VV E 0 0 (wq (xT E) ad G sh) 0 [(0, .ref (ad l0)), (1, .int l1)] [] := by
  unfold fX11_isBridge at hf
  refine v_iload_n C 1 dX11_isBridge_0 rfl rfl ?_
  refine v_iconst (v := 0) C dX11_isBridge_1 (by decide) ?_
  refine v_aload_n C 0 dX11_isBridge_2 rfl rfl ?_
  obtain ⟨a1, qa1, hf⟩ := bn hf
  refine v_getA C h_l0 fl_X11_70 qa1 dX11_isBridge_3 (fun h_a1 => ?_)
  refine v_aload_n C 0 dX11_isBridge_6 rfl rfl ?_
  refine v_getI C h_l0 fl_X11_257 dX11_isBridge_7 ?_
  obtain ⟨v2, qv2, hf⟩ := bn hf
  refine v_iald C h_a1 qv2 dX11_isBridge_10 ?_
  refine v_iconst (v := 1) C dX11_isBridge_11 (by decide) ?_
  refine v_isub C dX11_isBridge_12 ?_
  obtain ⟨r3, qr3, hf⟩ := bn hf
  refine v_callSi (As := [.int l1, .int 0, .int (v2 - 1)]) (rest := []) C (sX11_in  qr3) cs_X11_370 (by decide) hC rfl rfl rfl (Nat.le_of_ble_eq_true rfl) ⟨Nat.le_refl _, Nat.le_refl _⟩ dX11_isBridge_13 (fun hC => ?_)
  obtain ⟨hz4, hf⟩ := iz hf
  cases hf
  exact kr _ _ dX11_isBridge_16 (Classical.not_not.mp hz4) hC
theorem sX11_isBridge {l : Launch} {sh : Sh} {G : Hp} {l0 : Nat} {l1 : Int32} {z : Int32} (h_l0 : sh[l0]? = some (0, 11)) (hf : fX11_isBridge sh G l0 l1 = some z) : MC l yX11_isBridge cX11_isBridge 2 (some .boolean) 2 0 0 sh sh G G (fun ad => [.ref (ad l0), .int l1]) (fun _ => some (.int z)) := by
  refine MC_of rfl rfl (fun _ => Nat.le_of_ble_eq_true rfl) (fun E ad C hl hnm hC hQ => ?_)
  exact tX11_isBridge C hC h_l0 hf (fun pc lv hd hz hC => v_zret C hQ (fun _ _ => rfl) hC rfl hz hd)
def fX11_doesHold_S17 (sh : Sh) (l0 : Nat) (l1 : Int32) (l2 : Int32) (G : Hp) (l3 : Int32) (l4 : Int32) : Option ((Hp × Int32 × Int32) ⊕ ((Hp))) := (ldA sh G l0 35 1).bind fun a1 => (aI sh G a1 (((4 : Int32) * (G.1 l0 18)) + l1)).bind fun v2 => if v2 ≤ l4 then some (.inr G) else (ldA sh G l0 37 1).bind fun a4 => (aI sh G a4 l4).bind fun v5 => if 8 ≤ v5 then if v5 = 8 then (ldA sh G l0 62 3).bind fun a35 => (ldA sh G l0 62 3).bind fun a36 => (aI sh G a36 (l3 - 1)).bind fun v37 => if v37 = 0 then (asI sh G a35 (l3 - 1) (zb 1)).bind fun G41 => bd ((l4 + 1) : Int32) fun x42 => some (.inl (G41, l3, x42)) else (asI sh G a35 (l3 - 1) (zb 0)).bind fun G39 => bd ((l4 + 1) : Int32) fun x40 => some (.inl (G39, l3, x40)) else bd ((l3 + (-1)) : Int32) fun x8 => (ldA sh G l0 62 3).bind fun a9 => if v5 = 9 then (ldA sh G l0 62 3).bind fun a23 => (aI sh G a23 (x8 - 1)).bind fun v24 => if v24 = 0 then (asI sh G a9 (x8 - 1) (zb 0)).bind fun G26 => bd ((l4 + 1) : Int32) fun x27 => some (.inl (G26, x8, x27)) else (ldA sh G l0 62 3).bind fun a28 => (aI sh G a28 x8).bind fun v29 => if v29 = 0 then (asI sh G a9 (x8 - 1) (zb 0)).bind fun G31 => bd ((l4 + 1) : Int32) fun x32 => some (.inl (G31, x8, x32)) else (asI sh G a9 (x8 - 1) (zb 1)).bind fun G33 => bd ((l4 + 1) : Int32) fun x34 => some (.inl (G33, x8, x34)) else (ldA sh G l0 62 3).bind fun a11 => (aI sh G a11 (x8 - 1)).bind fun v12 => if v12 = 0 then (ldA sh G l0 62 3).bind fun a16 => (aI sh G a16 x8).bind fun v17 => if v17 = 0 then (asI sh G a9 (x8 - 1) (zb 0)).bind fun G19 => bd ((l4 + 1) : Int32) fun x20 => some (.inl (G19, x8, x20)) else (asI sh G a9 (x8 - 1) (zb 1)).bind fun G21 => bd ((l4 + 1) : Int32) fun x22 => some (.inl (G21, x8, x22)) else (asI sh G a9 (x8 - 1) (zb 1)).bind fun G14 => bd ((l4 + 1) : Int32) fun x15 => some (.inl (G14, x8, x15)) else (ldA sh G l0 62 3).bind fun a43 => if ((l2 >>> (v5 &&& 31)) &&& 1) = 1 then (asI sh G a43 l3 (zb 1)).bind fun G48 => bd ((l3 + 1) : Int32) fun x49 => bd ((l4 + 1) : Int32) fun x50 => some (.inl (G48, x49, x50)) else (asI sh G a43 l3 (zb 0)).bind fun G45 => bd ((l3 + 1) : Int32) fun x46 => bd ((l4 + 1) : Int32) fun x47 => some (.inl (G45, x46, x47))
set_option maxHeartbeats 4000000 in
theorem tX11_doesHold_S17 {E : EX} {ad : Nat → Nat} {sh : Sh} {G : Hp} {l0 : Nat} {l1 : Int32} {l2 : Int32} {l3 : Int32} {l4 : Int32} {o : (Hp × Int32 × Int32) ⊕ ((Hp))} (C : Cx E RX11 cX11_doesHold 6 (some .boolean) 1 0 0) (hC : Cl sh G) (h_l0 : sh[l0]? = some (0, 11)) (hf : fX11_doesHold_S17 sh l0 l1 l2 G l3 l4 = some o) (kb : ∀ (G2 : Hp) (b_l3 : Int32) (b_l4 : Int32), o = .inl (G2, b_l3, b_l4) → Cl sh G2 → VV E 0 0 (wq (xT E) ad G2 sh) 17 [(0, .ref (ad l0)), (1, .int l1), (2, .int l2), (3, .int b_l3), (4, .int b_l4)] []) (kx189 : ∀ (G2 : Hp), o = .inr G2 → Cl sh G2 → VV E 0 0 (wq (xT E) ad G2 sh) 189 [(0, .ref (ad l0)), (1, .int l1), (2, .int l2)] []) : VV E 0 0 (wq (xT E) ad G sh) 17 [(0, .ref (ad l0)), (1, .int l1), (2, .int l2), (3, .int l3), (4, .int l4)] [] := by
  unfold fX11_doesHold_S17 at hf
  refine v_iload C 4 dX11_doesHold_17 rfl ?_
  refine v_aload_n C 0 dX11_doesHold_19 rfl rfl ?_
  obtain ⟨a1, qa1, hf⟩ := bn hf
  refine v_getA C h_l0 fl_X11_82 qa1 dX11_doesHold_20 (fun h_a1 => ?_)
  refine v_iconst (v := 4) C dX11_doesHold_23 (by decide) ?_
  refine v_aload_n C 0 dX11_doesHold_24 rfl rfl ?_
  refine v_getI C h_l0 fl_X11_257 dX11_doesHold_25 ?_
  refine v_imul C dX11_doesHold_28 ?_
  refine v_iload_n C 1 dX11_doesHold_29 rfl rfl ?_
  refine v_iadd C dX11_doesHold_30 ?_
  obtain ⟨v2, qv2, hf⟩ := bn hf
  refine v_iald C h_a1 qv2 dX11_doesHold_31 ?_
  refine v_icmp_ge (tgt := 189) C dX11_doesHold_32 (by decide) (fun c3 => ?_) (fun c3 => ?_)
  · have hf := ip hf c3
    cases hf
    refine v_sub [0, 1, 2] rfl ?_
    exact kx189 _ rfl hC
  · have hf := im hf c3
    refine v_aload_n C 0 dX11_doesHold_35 rfl rfl ?_
    obtain ⟨a4, qa4, hf⟩ := bn hf
    refine v_getA C h_l0 fl_X11_85 qa4 dX11_doesHold_36 (fun h_a4 => ?_)
    refine v_iload C 4 dX11_doesHold_39 rfl ?_
    obtain ⟨v5, qv5, hf⟩ := bn hf
    refine v_iald C h_a4 qv5 dX11_doesHold_41 ?_
    refine v_istore (lv2 := [(5, .int v5), (0, .ref (ad l0)), (1, .int l1), (2, .int l2), (3, .int l3), (4, .int l4)]) C dX11_doesHold_42 (by decide) rfl ?_
    refine v_iload C 0 dX11_doesHold_44 rfl ?_
    refine v_bipush (v := 8) C dX11_doesHold_46 (by decide) ?_
    refine v_icmp_ge (tgt := 78) C dX11_doesHold_48 (by decide) (fun c6 => ?_) (fun c6 => ?_)
    · have hf := ip hf c6
      refine v_iload C 0 dX11_doesHold_78 rfl ?_
      refine v_bipush (v := 8) C dX11_doesHold_80 (by decide) ?_
      refine v_icmp_ne (tgt := 112) C dX11_doesHold_82 (by decide) (fun c7 => ?_) (fun c7 => ?_)
      · have hf := im hf c7
        obtain ⟨x8, ex8⟩ : ∃ x : Int32, x = (l3 + (-1)) := ⟨_, rfl⟩
        have hf := bd_at hf ex8
        refine v_iinc (v := x8) (j := 4) (lv2 := [(3, .int x8), (5, .int v5), (0, .ref (ad l0)), (1, .int l1), (2, .int l2), (4, .int l4)]) C dX11_doesHold_112 rfl (by rw [ex8]; rfl) (by decide) rfl ?_
        refine v_aload_n C 2 dX11_doesHold_115 rfl rfl ?_
        obtain ⟨a9, qa9, hf⟩ := bn hf
        refine v_getA C h_l0 fl_X11_140 qa9 dX11_doesHold_116 (fun h_a9 => ?_)
        refine v_iload_n C 0 dX11_doesHold_119 rfl rfl ?_
        refine v_iconst (v := 1) C dX11_doesHold_120 (by decide) ?_
        refine v_isub C dX11_doesHold_121 ?_
        refine v_iload C 1 dX11_doesHold_122 rfl ?_
        refine v_bipush (v := 9) C dX11_doesHold_124 (by decide) ?_
        refine v_icmp_ne (tgt := 157) C dX11_doesHold_126 (by decide) (fun c10 => ?_) (fun c10 => ?_)
        · have hf := im hf c10
          refine v_aload_n C 2 dX11_doesHold_157 rfl rfl ?_
          obtain ⟨a11, qa11, hf⟩ := bn hf
          refine v_getA C h_l0 fl_X11_140 qa11 dX11_doesHold_158 (fun h_a11 => ?_)
          refine v_iload_n C 0 dX11_doesHold_161 rfl rfl ?_
          refine v_iconst (v := 1) C dX11_doesHold_162 (by decide) ?_
          refine v_isub C dX11_doesHold_163 ?_
          obtain ⟨v12, qv12, hf⟩ := bn hf
          refine v_zald C h_a11 qv12 dX11_doesHold_164 ?_
          refine v_if_ne (tgt := 177) C dX11_doesHold_165 (by decide) (fun c13 => ?_) (fun c13 => ?_)
          · have hf := im hf c13
            refine v_iconst (v := 1) C dX11_doesHold_177 (by decide) ?_
            refine v_goto (tgt := 182) C dX11_doesHold_178 (by decide) ?_
            obtain ⟨G14, qG14, hf⟩ := bn hf
            refine v_zast C h_a9 qG14 hC dX11_doesHold_182 (fun hC => ?_)
            obtain ⟨x15, ex15⟩ : ∃ x : Int32, x = (l4 + 1) := ⟨_, rfl⟩
            have hf := bd_at hf ex15
            refine v_iinc (v := x15) (j := 5) (lv2 := [(4, .int x15), (3, .int x8), (5, .int v5), (0, .ref (ad l0)), (1, .int l1), (2, .int l2)]) C dX11_doesHold_183 rfl (by rw [ex15]; rfl) (by decide) rfl ?_
            refine v_goto (tgt := 17) C dX11_doesHold_186 (by decide) ?_
            cases hf
            refine v_sub [3, 4, 5, 1, 0] rfl ?_
            exact kb _ _ _ rfl hC
          · have hf := ip hf c13
            refine v_aload_n C 2 dX11_doesHold_168 rfl rfl ?_
            obtain ⟨a16, qa16, hf⟩ := bn hf
            refine v_getA C h_l0 fl_X11_140 qa16 dX11_doesHold_169 (fun h_a16 => ?_)
            refine v_iload_n C 0 dX11_doesHold_172 rfl rfl ?_
            obtain ⟨v17, qv17, hf⟩ := bn hf
            refine v_zald C h_a16 qv17 dX11_doesHold_173 ?_
            refine v_if_eq (tgt := 181) C dX11_doesHold_174 (by decide) (fun c18 => ?_) (fun c18 => ?_)
            · have hf := ip hf c18
              refine v_iconst (v := 0) C dX11_doesHold_181 (by decide) ?_
              obtain ⟨G19, qG19, hf⟩ := bn hf
              refine v_zast C h_a9 qG19 hC dX11_doesHold_182 (fun hC => ?_)
              obtain ⟨x20, ex20⟩ : ∃ x : Int32, x = (l4 + 1) := ⟨_, rfl⟩
              have hf := bd_at hf ex20
              refine v_iinc (v := x20) (j := 5) (lv2 := [(4, .int x20), (3, .int x8), (5, .int v5), (0, .ref (ad l0)), (1, .int l1), (2, .int l2)]) C dX11_doesHold_183 rfl (by rw [ex20]; rfl) (by decide) rfl ?_
              refine v_goto (tgt := 17) C dX11_doesHold_186 (by decide) ?_
              cases hf
              refine v_sub [3, 4, 5, 1, 0] rfl ?_
              exact kb _ _ _ rfl hC
            · have hf := im hf c18
              refine v_iconst (v := 1) C dX11_doesHold_177 (by decide) ?_
              refine v_goto (tgt := 182) C dX11_doesHold_178 (by decide) ?_
              obtain ⟨G21, qG21, hf⟩ := bn hf
              refine v_zast C h_a9 qG21 hC dX11_doesHold_182 (fun hC => ?_)
              obtain ⟨x22, ex22⟩ : ∃ x : Int32, x = (l4 + 1) := ⟨_, rfl⟩
              have hf := bd_at hf ex22
              refine v_iinc (v := x22) (j := 5) (lv2 := [(4, .int x22), (3, .int x8), (5, .int v5), (0, .ref (ad l0)), (1, .int l1), (2, .int l2)]) C dX11_doesHold_183 rfl (by rw [ex22]; rfl) (by decide) rfl ?_
              refine v_goto (tgt := 17) C dX11_doesHold_186 (by decide) ?_
              cases hf
              refine v_sub [3, 4, 5, 1, 0] rfl ?_
              exact kb _ _ _ rfl hC
        · have hf := ip hf c10
          refine v_aload_n C 2 dX11_doesHold_129 rfl rfl ?_
          obtain ⟨a23, qa23, hf⟩ := bn hf
          refine v_getA C h_l0 fl_X11_140 qa23 dX11_doesHold_130 (fun h_a23 => ?_)
          refine v_iload_n C 0 dX11_doesHold_133 rfl rfl ?_
          refine v_iconst (v := 1) C dX11_doesHold_134 (by decide) ?_
          refine v_isub C dX11_doesHold_135 ?_
          obtain ⟨v24, qv24, hf⟩ := bn hf
          refine v_zald C h_a23 qv24 dX11_doesHold_136 ?_
          refine v_if_eq (tgt := 153) C dX11_doesHold_137 (by decide) (fun c25 => ?_) (fun c25 => ?_)
          · have hf := ip hf c25
            refine v_iconst (v := 0) C dX11_doesHold_153 (by decide) ?_
            refine v_goto (tgt := 182) C dX11_doesHold_154 (by decide) ?_
            obtain ⟨G26, qG26, hf⟩ := bn hf
            refine v_zast C h_a9 qG26 hC dX11_doesHold_182 (fun hC => ?_)
            obtain ⟨x27, ex27⟩ : ∃ x : Int32, x = (l4 + 1) := ⟨_, rfl⟩
            have hf := bd_at hf ex27
            refine v_iinc (v := x27) (j := 5) (lv2 := [(4, .int x27), (3, .int x8), (5, .int v5), (0, .ref (ad l0)), (1, .int l1), (2, .int l2)]) C dX11_doesHold_183 rfl (by rw [ex27]; rfl) (by decide) rfl ?_
            refine v_goto (tgt := 17) C dX11_doesHold_186 (by decide) ?_
            cases hf
            refine v_sub [3, 4, 5, 1, 0] rfl ?_
            exact kb _ _ _ rfl hC
          · have hf := im hf c25
            refine v_aload_n C 2 dX11_doesHold_140 rfl rfl ?_
            obtain ⟨a28, qa28, hf⟩ := bn hf
            refine v_getA C h_l0 fl_X11_140 qa28 dX11_doesHold_141 (fun h_a28 => ?_)
            refine v_iload_n C 0 dX11_doesHold_144 rfl rfl ?_
            obtain ⟨v29, qv29, hf⟩ := bn hf
            refine v_zald C h_a28 qv29 dX11_doesHold_145 ?_
            refine v_if_eq (tgt := 153) C dX11_doesHold_146 (by decide) (fun c30 => ?_) (fun c30 => ?_)
            · have hf := ip hf c30
              refine v_iconst (v := 0) C dX11_doesHold_153 (by decide) ?_
              refine v_goto (tgt := 182) C dX11_doesHold_154 (by decide) ?_
              obtain ⟨G31, qG31, hf⟩ := bn hf
              refine v_zast C h_a9 qG31 hC dX11_doesHold_182 (fun hC => ?_)
              obtain ⟨x32, ex32⟩ : ∃ x : Int32, x = (l4 + 1) := ⟨_, rfl⟩
              have hf := bd_at hf ex32
              refine v_iinc (v := x32) (j := 5) (lv2 := [(4, .int x32), (3, .int x8), (5, .int v5), (0, .ref (ad l0)), (1, .int l1), (2, .int l2)]) C dX11_doesHold_183 rfl (by rw [ex32]; rfl) (by decide) rfl ?_
              refine v_goto (tgt := 17) C dX11_doesHold_186 (by decide) ?_
              cases hf
              refine v_sub [3, 4, 5, 1, 0] rfl ?_
              exact kb _ _ _ rfl hC
            · have hf := im hf c30
              refine v_iconst (v := 1) C dX11_doesHold_149 (by decide) ?_
              refine v_goto (tgt := 182) C dX11_doesHold_150 (by decide) ?_
              obtain ⟨G33, qG33, hf⟩ := bn hf
              refine v_zast C h_a9 qG33 hC dX11_doesHold_182 (fun hC => ?_)
              obtain ⟨x34, ex34⟩ : ∃ x : Int32, x = (l4 + 1) := ⟨_, rfl⟩
              have hf := bd_at hf ex34
              refine v_iinc (v := x34) (j := 5) (lv2 := [(4, .int x34), (3, .int x8), (5, .int v5), (0, .ref (ad l0)), (1, .int l1), (2, .int l2)]) C dX11_doesHold_183 rfl (by rw [ex34]; rfl) (by decide) rfl ?_
              refine v_goto (tgt := 17) C dX11_doesHold_186 (by decide) ?_
              cases hf
              refine v_sub [3, 4, 5, 1, 0] rfl ?_
              exact kb _ _ _ rfl hC
      · have hf := ip hf c7
        refine v_aload_n C 1 dX11_doesHold_85 rfl rfl ?_
        obtain ⟨a35, qa35, hf⟩ := bn hf
        refine v_getA C h_l0 fl_X11_140 qa35 dX11_doesHold_86 (fun h_a35 => ?_)
        refine v_iload_n C 4 dX11_doesHold_89 rfl rfl ?_
        refine v_iconst (v := 1) C dX11_doesHold_90 (by decide) ?_
        refine v_isub C dX11_doesHold_91 ?_
        refine v_aload_n C 1 dX11_doesHold_92 rfl rfl ?_
        obtain ⟨a36, qa36, hf⟩ := bn hf
        refine v_getA C h_l0 fl_X11_140 qa36 dX11_doesHold_93 (fun h_a36 => ?_)
        refine v_iload_n C 4 dX11_doesHold_96 rfl rfl ?_
        refine v_iconst (v := 1) C dX11_doesHold_97 (by decide) ?_
        refine v_isub C dX11_doesHold_98 ?_
        obtain ⟨v37, qv37, hf⟩ := bn hf
        refine v_zald C h_a36 qv37 dX11_doesHold_99 ?_
        refine v_if_ne (tgt := 107) C dX11_doesHold_100 (by decide) (fun c38 => ?_) (fun c38 => ?_)
        · have hf := im hf c38
          refine v_iconst (v := 0) C dX11_doesHold_107 (by decide) ?_
          obtain ⟨G39, qG39, hf⟩ := bn hf
          refine v_zast C h_a35 qG39 hC dX11_doesHold_108 (fun hC => ?_)
          refine v_goto (tgt := 183) C dX11_doesHold_109 (by decide) ?_
          obtain ⟨x40, ex40⟩ : ∃ x : Int32, x = (l4 + 1) := ⟨_, rfl⟩
          have hf := bd_at hf ex40
          refine v_iinc (v := x40) (j := 5) (lv2 := [(4, .int x40), (5, .int v5), (0, .ref (ad l0)), (1, .int l1), (2, .int l2), (3, .int l3)]) C dX11_doesHold_183 rfl (by rw [ex40]; rfl) (by decide) rfl ?_
          refine v_goto (tgt := 17) C dX11_doesHold_186 (by decide) ?_
          cases hf
          refine v_sub [2, 3, 4, 5, 0] rfl ?_
          exact kb _ _ _ rfl hC
        · have hf := ip hf c38
          refine v_iconst (v := 1) C dX11_doesHold_103 (by decide) ?_
          refine v_goto (tgt := 108) C dX11_doesHold_104 (by decide) ?_
          obtain ⟨G41, qG41, hf⟩ := bn hf
          refine v_zast C h_a35 qG41 hC dX11_doesHold_108 (fun hC => ?_)
          refine v_goto (tgt := 183) C dX11_doesHold_109 (by decide) ?_
          obtain ⟨x42, ex42⟩ : ∃ x : Int32, x = (l4 + 1) := ⟨_, rfl⟩
          have hf := bd_at hf ex42
          refine v_iinc (v := x42) (j := 5) (lv2 := [(4, .int x42), (5, .int v5), (0, .ref (ad l0)), (1, .int l1), (2, .int l2), (3, .int l3)]) C dX11_doesHold_183 rfl (by rw [ex42]; rfl) (by decide) rfl ?_
          refine v_goto (tgt := 17) C dX11_doesHold_186 (by decide) ?_
          cases hf
          refine v_sub [2, 3, 4, 5, 0] rfl ?_
          exact kb _ _ _ rfl hC
    · have hf := im hf c6
      refine v_aload_n C 1 dX11_doesHold_51 rfl rfl ?_
      obtain ⟨a43, qa43, hf⟩ := bn hf
      refine v_getA C h_l0 fl_X11_140 qa43 dX11_doesHold_52 (fun h_a43 => ?_)
      refine v_iload_n C 4 dX11_doesHold_55 rfl rfl ?_
      refine v_iload_n C 3 dX11_doesHold_56 rfl rfl ?_
      refine v_iload C 0 dX11_doesHold_57 rfl ?_
      refine v_ishr C dX11_doesHold_59 ?_
      refine v_iconst (v := 1) C dX11_doesHold_60 (by decide) ?_
      refine v_iand C dX11_doesHold_61 ?_
      refine v_iconst (v := 1) C dX11_doesHold_62 (by decide) ?_
      refine v_icmp_ne (tgt := 70) C dX11_doesHold_63 (by decide) (fun c44 => ?_) (fun c44 => ?_)
      · have hf := im hf c44
        refine v_iconst (v := 0) C dX11_doesHold_70 (by decide) ?_
        obtain ⟨G45, qG45, hf⟩ := bn hf
        refine v_zast C h_a43 qG45 hC dX11_doesHold_71 (fun hC => ?_)
        obtain ⟨x46, ex46⟩ : ∃ x : Int32, x = (l3 + 1) := ⟨_, rfl⟩
        have hf := bd_at hf ex46
        refine v_iinc (v := x46) (j := 4) (lv2 := [(3, .int x46), (5, .int v5), (0, .ref (ad l0)), (1, .int l1), (2, .int l2), (4, .int l4)]) C dX11_doesHold_72 rfl (by rw [ex46]; rfl) (by decide) rfl ?_
        refine v_goto (tgt := 183) C dX11_doesHold_75 (by decide) ?_
        obtain ⟨x47, ex47⟩ : ∃ x : Int32, x = (l4 + 1) := ⟨_, rfl⟩
        have hf := bd_at hf ex47
        refine v_iinc (v := x47) (j := 5) (lv2 := [(4, .int x47), (3, .int x46), (5, .int v5), (0, .ref (ad l0)), (1, .int l1), (2, .int l2)]) C dX11_doesHold_183 rfl (by rw [ex47]; rfl) (by decide) rfl ?_
        refine v_goto (tgt := 17) C dX11_doesHold_186 (by decide) ?_
        cases hf
        refine v_sub [3, 4, 5, 1, 0] rfl ?_
        exact kb _ _ _ rfl hC
      · have hf := ip hf c44
        refine v_iconst (v := 1) C dX11_doesHold_66 (by decide) ?_
        refine v_goto (tgt := 71) C dX11_doesHold_67 (by decide) ?_
        obtain ⟨G48, qG48, hf⟩ := bn hf
        refine v_zast C h_a43 qG48 hC dX11_doesHold_71 (fun hC => ?_)
        obtain ⟨x49, ex49⟩ : ∃ x : Int32, x = (l3 + 1) := ⟨_, rfl⟩
        have hf := bd_at hf ex49
        refine v_iinc (v := x49) (j := 4) (lv2 := [(3, .int x49), (5, .int v5), (0, .ref (ad l0)), (1, .int l1), (2, .int l2), (4, .int l4)]) C dX11_doesHold_72 rfl (by rw [ex49]; rfl) (by decide) rfl ?_
        refine v_goto (tgt := 183) C dX11_doesHold_75 (by decide) ?_
        obtain ⟨x50, ex50⟩ : ∃ x : Int32, x = (l4 + 1) := ⟨_, rfl⟩
        have hf := bd_at hf ex50
        refine v_iinc (v := x50) (j := 5) (lv2 := [(4, .int x50), (3, .int x49), (5, .int v5), (0, .ref (ad l0)), (1, .int l1), (2, .int l2)]) C dX11_doesHold_183 rfl (by rw [ex50]; rfl) (by decide) rfl ?_
        refine v_goto (tgt := 17) C dX11_doesHold_186 (by decide) ?_
        cases hf
        refine v_sub [3, 4, 5, 1, 0] rfl ?_
        exact kb _ _ _ rfl hC
def fX11_doesHold (sh : Sh) (G : Hp) (l0 : Nat) (l1 : Int32) (l2 : Int32) : Option (Int32 × Hp) := (ldA sh G l0 34 1).bind fun a1 => (aI sh G a1 (((4 : Int32) * (G.1 l0 18)) + l1)).bind fun v2 => (iter (fun s : Hp × Int32 × Int32 => fX11_doesHold_S17 sh l0 l1 l2 s.1 s.2.1 s.2.2) fuel ((G, 0, v2) : Hp × Int32 × Int32)).bind (fun u8 => bd u8 fun G4 => (ldA sh G4 l0 62 3).bind fun a5 => (aI sh G4 a5 0).bind fun v6 => if ¬ (v6 = 0 ∨ v6 = 1) then none else some (v6, G4))
set_option maxHeartbeats 4000000 in
theorem tX11_doesHold {E : EX} {ad : Nat → Nat} {sh : Sh} {G : Hp} {l0 : Nat} {l1 : Int32} {l2 : Int32} {z : Int32 × Hp} (C : Cx E RX11 cX11_doesHold 6 (some .boolean) 1 0 0) (hC : Cl sh G) (h_l0 : sh[l0]? = some (0, 11)) (hf : fX11_doesHold sh G l0 l1 l2 = some z) (kr : RCz E cX11_doesHold ad sh (z.1) (z.2)) : VV E 0 0 (wq (xT E) ad G sh) 0 [(0, .ref (ad l0)), (1, .int l1), (2, .int l2)] [] := by
  unfold fX11_doesHold at hf
  refine v_iconst (v := 0) C dX11_doesHold_0 (by decide) ?_
  refine v_istore_n (lv2 := [(3, .int 0), (0, .ref (ad l0)), (1, .int l1), (2, .int l2)]) C dX11_doesHold_1 rfl (by decide) rfl ?_
  refine v_aload_n C 1 dX11_doesHold_2 rfl rfl ?_
  obtain ⟨a1, qa1, hf⟩ := bn hf
  refine v_getA C h_l0 fl_X11_79 qa1 dX11_doesHold_3 (fun h_a1 => ?_)
  refine v_iconst (v := 4) C dX11_doesHold_6 (by decide) ?_
  refine v_aload_n C 1 dX11_doesHold_7 rfl rfl ?_
  refine v_getI C h_l0 fl_X11_257 dX11_doesHold_8 ?_
  refine v_imul C dX11_doesHold_11 ?_
  refine v_iload_n C 2 dX11_doesHold_12 rfl rfl ?_
  refine v_iadd C dX11_doesHold_13 ?_
  obtain ⟨v2, qv2, hf⟩ := bn hf
  refine v_iald C h_a1 qv2 dX11_doesHold_14 ?_
  refine v_istore (lv2 := [(4, .int v2), (3, .int 0), (0, .ref (ad l0)), (1, .int l1), (2, .int l2)]) C dX11_doesHold_15 (by decide) rfl ?_
  obtain ⟨r3, qr3, hf⟩ := bn hf
  refine v_sub [2, 3, 4, 1, 0] rfl ?_
  refine iter_sound (P := (fun s : Hp × Int32 × Int32 => Cl sh (s.1) → VV E 0 0 (wq (xT E) ad (s.1) sh) 17 [(0, .ref (ad l0)), (1, .int (l1)), (2, .int (l2)), (3, .int (s.2.1)), (4, .int (s.2.2))] [])) (X := fun r => r = r3) (fun jsr3 jor3 hor3 jbr3 jxr3 hC => tX11_doesHold_S17 C hC h_l0 hor3 (fun _ _ _ e => jbr3 _ e) ?_) fuel _ r3 qr3 rfl hC
  · intro G4 hu hC
    have e := jxr3 _ hu
    subst e
    have hf := bd_at hf (rfl : G4 = _)
    refine v_aload_n C 0 dX11_doesHold_189 rfl rfl ?_
    obtain ⟨a5, qa5, hf⟩ := bn hf
    refine v_getA C h_l0 fl_X11_140 qa5 dX11_doesHold_190 (fun h_a5 => ?_)
    refine v_iconst (v := 0) C dX11_doesHold_193 (by decide) ?_
    obtain ⟨v6, qv6, hf⟩ := bn hf
    refine v_zald C h_a5 qv6 dX11_doesHold_194 ?_
    obtain ⟨hz7, hf⟩ := iz hf
    cases hf
    exact kr _ _ dX11_doesHold_195 (Classical.not_not.mp hz7) hC
theorem sX11_doesHold {l : Launch} {sh : Sh} {G : Hp} {l0 : Nat} {l1 : Int32} {l2 : Int32} {z : Int32 × Hp} (h_l0 : sh[l0]? = some (0, 11)) (hf : fX11_doesHold sh G l0 l1 l2 = some z) : MC l yX11_doesHold cX11_doesHold 6 (some .boolean) 1 0 0 sh sh G (z.2) (fun ad => [.ref (ad l0), .int l1, .int l2]) (fun _ => some (.int z.1)) := by
  refine MC_of rfl rfl (fun _ => Nat.le_of_ble_eq_true rfl) (fun E ad C hl hnm hC hQ => ?_)
  exact tX11_doesHold C hC h_l0 hf (fun pc lv hd hz hC => v_zret C hQ (fun _ _ => rfl) hC rfl hz hd)
def fX11_bothHold_S5 (sh : Sh) (l0 : Nat) (l1 : Int32) (l2 : Int32) (G : Hp) (l3 : Int32) (l4 : Int32) : Option ((Hp × Int32 × Int32) ⊕ ((Hp × Int32))) := (ldA sh G l0 23 1).bind fun a1 => (aI sh G a1 (G.1 l0 18)).bind fun v2 => if ((1 : Int32) <<< (v2 &&& 31)) ≤ l4 then some (.inr (G, l3)) else bp (fX11_doesHold sh G l0 l1 l4) fun r4 G5 => if r4 = 0 then bd ((l4 + 1) : Int32) fun x7 => some (.inl (G5, l3, x7)) else bp (fX11_doesHold sh G5 l0 l2 l4) fun r8 G9 => if r8 = 0 then bd ((l4 + 1) : Int32) fun x11 => some (.inl (G9, l3, x11)) else bd ((l3 + 1) : Int32) fun x12 => bd ((l4 + 1) : Int32) fun x13 => some (.inl (G9, x12, x13))
set_option maxHeartbeats 4000000 in
theorem tX11_bothHold_S5 {E : EX} {ad : Nat → Nat} {sh : Sh} {G : Hp} {l0 : Nat} {l1 : Int32} {l2 : Int32} {l3 : Int32} {l4 : Int32} {o : (Hp × Int32 × Int32) ⊕ ((Hp × Int32))} (C : Cx E RX11 cX11_bothHold 5 (some .int) 2 0 0) (hC : Cl sh G) (h_l0 : sh[l0]? = some (0, 11)) (hf : fX11_bothHold_S5 sh l0 l1 l2 G l3 l4 = some o) (kb : ∀ (G2 : Hp) (b_l3 : Int32) (b_l4 : Int32), o = .inl (G2, b_l3, b_l4) → Cl sh G2 → VV E 0 0 (wq (xT E) ad G2 sh) 5 [(0, .ref (ad l0)), (1, .int l1), (2, .int l2), (3, .int b_l3), (4, .int b_l4)] []) (kx50 : ∀ (G2 : Hp) (b_l3 : Int32), o = .inr (G2, b_l3) → Cl sh G2 → VV E 0 0 (wq (xT E) ad G2 sh) 50 [(0, .ref (ad l0)), (1, .int l1), (2, .int l2), (3, .int b_l3)] []) : VV E 0 0 (wq (xT E) ad G sh) 5 [(0, .ref (ad l0)), (1, .int l1), (2, .int l2), (3, .int l3), (4, .int l4)] [] := by
  unfold fX11_bothHold_S5 at hf
  refine v_iload C 4 dX11_bothHold_5 rfl ?_
  refine v_iconst (v := 1) C dX11_bothHold_7 (by decide) ?_
  refine v_aload_n C 0 dX11_bothHold_8 rfl rfl ?_
  obtain ⟨a1, qa1, hf⟩ := bn hf
  refine v_getA C h_l0 fl_X11_46 qa1 dX11_bothHold_9 (fun h_a1 => ?_)
  refine v_aload_n C 0 dX11_bothHold_12 rfl rfl ?_
  refine v_getI C h_l0 fl_X11_257 dX11_bothHold_13 ?_
  obtain ⟨v2, qv2, hf⟩ := bn hf
  refine v_iald C h_a1 qv2 dX11_bothHold_16 ?_
  refine v_ishl C dX11_bothHold_17 ?_
  refine v_icmp_ge (tgt := 50) C dX11_bothHold_18 (by decide) (fun c3 => ?_) (fun c3 => ?_)
  · have hf := ip hf c3
    cases hf
    refine v_sub [0, 1, 2, 3] rfl ?_
    exact kx50 _ _ rfl hC
  · have hf := im hf c3
    refine v_aload_n C 0 dX11_bothHold_21 rfl rfl ?_
    refine v_iload_n C 1 dX11_bothHold_22 rfl rfl ?_
    refine v_iload C 4 dX11_bothHold_23 rfl ?_
    obtain ⟨r4, G5, qr4, hf⟩ := bpn hf
    refine v_callVi (As := [.int l1, .int l4]) (rest := []) C (sX11_doesHold h_l0 qr4) cs_X11_402 (by decide) h_l0 rfl hC rfl rfl rfl (Nat.le_of_ble_eq_true rfl) ⟨Nat.le_refl _, Nat.le_refl _⟩ dX11_bothHold_25 (fun hC => ?_)
    refine v_if_eq (tgt := 44) C dX11_bothHold_28 (by decide) (fun c6 => ?_) (fun c6 => ?_)
    · have hf := ip hf c6
      obtain ⟨x7, ex7⟩ : ∃ x : Int32, x = (l4 + 1) := ⟨_, rfl⟩
      have hf := bd_at hf ex7
      refine v_iinc (v := x7) (j := 4) (lv2 := [(4, .int x7), (0, .ref (ad l0)), (1, .int l1), (2, .int l2), (3, .int l3)]) C dX11_bothHold_44 rfl (by rw [ex7]; rfl) (by decide) rfl ?_
      refine v_goto (tgt := 5) C dX11_bothHold_47 (by decide) ?_
      cases hf
      refine v_sub [1, 2, 3, 4, 0] rfl ?_
      exact kb _ _ _ rfl hC
    · have hf := im hf c6
      refine v_aload_n C 0 dX11_bothHold_31 rfl rfl ?_
      refine v_iload_n C 2 dX11_bothHold_32 rfl rfl ?_
      refine v_iload C 4 dX11_bothHold_33 rfl ?_
      obtain ⟨r8, G9, qr8, hf⟩ := bpn hf
      refine v_callVi (As := [.int l2, .int l4]) (rest := []) C (sX11_doesHold h_l0 qr8) cs_X11_402 (by decide) h_l0 rfl hC rfl rfl rfl (Nat.le_of_ble_eq_true rfl) ⟨Nat.le_refl _, Nat.le_refl _⟩ dX11_bothHold_35 (fun hC => ?_)
      refine v_if_eq (tgt := 44) C dX11_bothHold_38 (by decide) (fun c10 => ?_) (fun c10 => ?_)
      · have hf := ip hf c10
        obtain ⟨x11, ex11⟩ : ∃ x : Int32, x = (l4 + 1) := ⟨_, rfl⟩
        have hf := bd_at hf ex11
        refine v_iinc (v := x11) (j := 4) (lv2 := [(4, .int x11), (0, .ref (ad l0)), (1, .int l1), (2, .int l2), (3, .int l3)]) C dX11_bothHold_44 rfl (by rw [ex11]; rfl) (by decide) rfl ?_
        refine v_goto (tgt := 5) C dX11_bothHold_47 (by decide) ?_
        cases hf
        refine v_sub [1, 2, 3, 4, 0] rfl ?_
        exact kb _ _ _ rfl hC
      · have hf := im hf c10
        obtain ⟨x12, ex12⟩ : ∃ x : Int32, x = (l3 + 1) := ⟨_, rfl⟩
        have hf := bd_at hf ex12
        refine v_iinc (v := x12) (j := 3) (lv2 := [(3, .int x12), (0, .ref (ad l0)), (1, .int l1), (2, .int l2), (4, .int l4)]) C dX11_bothHold_41 rfl (by rw [ex12]; rfl) (by decide) rfl ?_
        obtain ⟨x13, ex13⟩ : ∃ x : Int32, x = (l4 + 1) := ⟨_, rfl⟩
        have hf := bd_at hf ex13
        refine v_iinc (v := x13) (j := 4) (lv2 := [(4, .int x13), (3, .int x12), (0, .ref (ad l0)), (1, .int l1), (2, .int l2)]) C dX11_bothHold_44 rfl (by rw [ex13]; rfl) (by decide) rfl ?_
        refine v_goto (tgt := 5) C dX11_bothHold_47 (by decide) ?_
        cases hf
        refine v_sub [2, 3, 4, 1, 0] rfl ?_
        exact kb _ _ _ rfl hC
def fX11_bothHold (sh : Sh) (G : Hp) (l0 : Nat) (l1 : Int32) (l2 : Int32) : Option (Int32 × Hp) := (iter (fun s : Hp × Int32 × Int32 => fX11_bothHold_S5 sh l0 l1 l2 s.1 s.2.1 s.2.2) fuel ((G, 0, 0) : Hp × Int32 × Int32)).bind (fun u4 => bd u4.1 fun G2 => bd u4.2 fun x3 => some (x3, G2))
set_option maxHeartbeats 4000000 in
theorem tX11_bothHold {E : EX} {ad : Nat → Nat} {sh : Sh} {G : Hp} {l0 : Nat} {l1 : Int32} {l2 : Int32} {z : Int32 × Hp} (C : Cx E RX11 cX11_bothHold 5 (some .int) 2 0 0) (hC : Cl sh G) (h_l0 : sh[l0]? = some (0, 11)) (hf : fX11_bothHold sh G l0 l1 l2 = some z) (kr : RCi E cX11_bothHold ad sh (z.1) (z.2)) : VV E 0 0 (wq (xT E) ad G sh) 0 [(0, .ref (ad l0)), (1, .int l1), (2, .int l2)] [] := by
  unfold fX11_bothHold at hf
  refine v_iconst (v := 0) C dX11_bothHold_0 (by decide) ?_
  refine v_istore_n (lv2 := [(3, .int 0), (0, .ref (ad l0)), (1, .int l1), (2, .int l2)]) C dX11_bothHold_1 rfl (by decide) rfl ?_
  refine v_iconst (v := 0) C dX11_bothHold_2 (by decide) ?_
  refine v_istore (lv2 := [(4, .int 0), (3, .int 0), (0, .ref (ad l0)), (1, .int l1), (2, .int l2)]) C dX11_bothHold_3 (by decide) rfl ?_
  obtain ⟨r1, qr1, hf⟩ := bn hf
  refine v_sub [2, 3, 4, 1, 0] rfl ?_
  refine iter_sound (P := (fun s : Hp × Int32 × Int32 => Cl sh (s.1) → VV E 0 0 (wq (xT E) ad (s.1) sh) 5 [(0, .ref (ad l0)), (1, .int (l1)), (2, .int (l2)), (3, .int (s.2.1)), (4, .int (s.2.2))] [])) (X := fun r => r = r1) (fun jsr1 jor1 hor1 jbr1 jxr1 hC => tX11_bothHold_S5 C hC h_l0 hor1 (fun _ _ _ e => jbr1 _ e) ?_) fuel _ r1 qr1 rfl hC
  · intro G2 x3 hu hC
    have e := jxr1 _ hu
    subst e
    have hf := bd_at hf (rfl : G2 = _)
    have hf := bd_at hf (rfl : x3 = _)
    refine v_iload_n C 3 dX11_bothHold_50 rfl rfl ?_
    cases hf
    exact kr _ _ dX11_bothHold_51 hC
theorem sX11_bothHold {l : Launch} {sh : Sh} {G : Hp} {l0 : Nat} {l1 : Int32} {l2 : Int32} {z : Int32 × Hp} (h_l0 : sh[l0]? = some (0, 11)) (hf : fX11_bothHold sh G l0 l1 l2 = some z) : MC l yX11_bothHold cX11_bothHold 5 (some .int) 2 0 0 sh sh G (z.2) (fun ad => [.ref (ad l0), .int l1, .int l2]) (fun _ => some (.int z.1)) := by
  refine MC_of rfl rfl (fun _ => Nat.le_of_ble_eq_true rfl) (fun E ad C hl hnm hC hQ => ?_)
  exact tX11_bothHold C hC h_l0 hf (fun pc lv hd hC => v_iret C hQ (fun _ _ => rfl) hC rfl hd)
def fX11_alike (sh : Sh) (G : Hp) (l0 : Nat) (l1 : Int32) (l2 : Int32) (l3 : Int32) : Option (Int32 × Hp) := (fX11_isBridge sh G l0 l1).bind fun r1 => if r1 = 0 then some ((-1), G) else (fX11_isBridge sh G l0 l2).bind fun r3 => if r3 = 0 then some ((-1), G) else (fX11_in l3 0 1).bind fun r5 => if r5 = 0 then some ((-1), G) else bp (fX11_bothHold sh G l0 l1 l2) fun r7 G8 => if l3 = 1 then some (r7, G8) else bp (fX11_bothHold sh G8 l0 l1 l1) fun r10 G11 => if r10 = r7 then bp (fX11_bothHold sh G11 l0 l2 l2) fun r13 G14 => if r13 = r7 then some (1, G14) else some (0, G14) else some (0, G11)
set_option maxHeartbeats 4000000 in
theorem tX11_alike {E : EX} {ad : Nat → Nat} {sh : Sh} {G : Hp} {l0 : Nat} {l1 : Int32} {l2 : Int32} {l3 : Int32} {z : Int32 × Hp} (C : Cx E RX11 cX11_alike 5 (some .int) 3 0 0) (hC : Cl sh G) (h_l0 : sh[l0]? = some (0, 11)) (hf : fX11_alike sh G l0 l1 l2 l3 = some z) (kr : RCi E cX11_alike ad sh (z.1) (z.2)) : VV E 0 0 (wq (xT E) ad G sh) 0 [(0, .ref (ad l0)), (1, .int l1), (2, .int l2), (3, .int l3)] [] := by
  unfold fX11_alike at hf
  refine v_aload_n C 0 dX11_alike_0 rfl rfl ?_
  refine v_iload_n C 1 dX11_alike_1 rfl rfl ?_
  obtain ⟨r1, qr1, hf⟩ := bn hf
  refine v_callVi (As := [.int l1]) (rest := []) C (sX11_isBridge h_l0 qr1) cs_X11_431 (by decide) h_l0 rfl hC rfl rfl rfl (Nat.le_of_ble_eq_true rfl) ⟨Nat.le_refl _, Nat.le_refl _⟩ dX11_alike_2 (fun hC => ?_)
  refine v_if_eq (tgt := 25) C dX11_alike_5 (by decide) (fun c2 => ?_) (fun c2 => ?_)
  · have hf := ip hf c2
    refine v_iconst (v := (-1)) C dX11_alike_25 (by decide) ?_
    cases hf
    exact kr _ _ dX11_alike_26 hC
  · have hf := im hf c2
    refine v_aload_n C 0 dX11_alike_8 rfl rfl ?_
    refine v_iload_n C 2 dX11_alike_9 rfl rfl ?_
    obtain ⟨r3, qr3, hf⟩ := bn hf
    refine v_callVi (As := [.int l2]) (rest := []) C (sX11_isBridge h_l0 qr3) cs_X11_431 (by decide) h_l0 rfl hC rfl rfl rfl (Nat.le_of_ble_eq_true rfl) ⟨Nat.le_refl _, Nat.le_refl _⟩ dX11_alike_10 (fun hC => ?_)
    refine v_if_eq (tgt := 25) C dX11_alike_13 (by decide) (fun c4 => ?_) (fun c4 => ?_)
    · have hf := ip hf c4
      refine v_iconst (v := (-1)) C dX11_alike_25 (by decide) ?_
      cases hf
      exact kr _ _ dX11_alike_26 hC
    · have hf := im hf c4
      refine v_iload_n C 3 dX11_alike_16 rfl rfl ?_
      refine v_iconst (v := 0) C dX11_alike_17 (by decide) ?_
      refine v_iconst (v := 1) C dX11_alike_18 (by decide) ?_
      obtain ⟨r5, qr5, hf⟩ := bn hf
      refine v_callSi (As := [.int l3, .int 0, .int 1]) (rest := []) C (sX11_in  qr5) cs_X11_370 (by decide) hC rfl rfl rfl (Nat.le_of_ble_eq_true rfl) ⟨Nat.le_refl _, Nat.le_refl _⟩ dX11_alike_19 (fun hC => ?_)
      refine v_if_ne (tgt := 27) C dX11_alike_22 (by decide) (fun c6 => ?_) (fun c6 => ?_)
      · have hf := im hf c6
        refine v_aload_n C 0 dX11_alike_27 rfl rfl ?_
        refine v_iload_n C 1 dX11_alike_28 rfl rfl ?_
        refine v_iload_n C 2 dX11_alike_29 rfl rfl ?_
        obtain ⟨r7, G8, qr7, hf⟩ := bpn hf
        refine v_callVi (As := [.int l1, .int l2]) (rest := []) C (sX11_bothHold h_l0 qr7) cs_X11_440 (by decide) h_l0 rfl hC rfl rfl rfl (Nat.le_of_ble_eq_true rfl) ⟨Nat.le_refl _, Nat.le_refl _⟩ dX11_alike_30 (fun hC => ?_)
        refine v_istore (lv2 := [(4, .int r7), (0, .ref (ad l0)), (1, .int l1), (2, .int l2), (3, .int l3)]) C dX11_alike_33 (by decide) rfl ?_
        refine v_iload_n C 4 dX11_alike_35 rfl rfl ?_
        refine v_iconst (v := 1) C dX11_alike_36 (by decide) ?_
        refine v_icmp_ne (tgt := 45) C dX11_alike_37 (by decide) (fun c9 => ?_) (fun c9 => ?_)
        · have hf := im hf c9
          refine v_aload_n C 1 dX11_alike_45 rfl rfl ?_
          refine v_iload_n C 2 dX11_alike_46 rfl rfl ?_
          refine v_iload_n C 2 dX11_alike_47 rfl rfl ?_
          obtain ⟨r10, G11, qr10, hf⟩ := bpn hf
          refine v_callVi (As := [.int l1, .int l1]) (rest := []) C (sX11_bothHold h_l0 qr10) cs_X11_440 (by decide) h_l0 rfl hC rfl rfl rfl (Nat.le_of_ble_eq_true rfl) ⟨Nat.le_refl _, Nat.le_refl _⟩ dX11_alike_48 (fun hC => ?_)
          refine v_iload C 0 dX11_alike_51 rfl ?_
          refine v_icmp_ne (tgt := 71) C dX11_alike_53 (by decide) (fun c12 => ?_) (fun c12 => ?_)
          · have hf := im hf c12
            refine v_iconst (v := 0) C dX11_alike_71 (by decide) ?_
            cases hf
            exact kr _ _ dX11_alike_72 hC
          · have hf := ip hf c12
            refine v_aload_n C 1 dX11_alike_56 rfl rfl ?_
            refine v_iload_n C 3 dX11_alike_57 rfl rfl ?_
            refine v_iload_n C 3 dX11_alike_58 rfl rfl ?_
            obtain ⟨r13, G14, qr13, hf⟩ := bpn hf
            refine v_callVi (As := [.int l2, .int l2]) (rest := []) C (sX11_bothHold h_l0 qr13) cs_X11_440 (by decide) h_l0 rfl hC rfl rfl rfl (Nat.le_of_ble_eq_true rfl) ⟨Nat.le_refl _, Nat.le_refl _⟩ dX11_alike_59 (fun hC => ?_)
            refine v_iload C 0 dX11_alike_62 rfl ?_
            refine v_icmp_ne (tgt := 71) C dX11_alike_64 (by decide) (fun c15 => ?_) (fun c15 => ?_)
            · have hf := im hf c15
              refine v_iconst (v := 0) C dX11_alike_71 (by decide) ?_
              cases hf
              exact kr _ _ dX11_alike_72 hC
            · have hf := ip hf c15
              refine v_iconst (v := 1) C dX11_alike_67 (by decide) ?_
              refine v_goto (tgt := 72) C dX11_alike_68 (by decide) ?_
              cases hf
              exact kr _ _ dX11_alike_72 hC
        · have hf := ip hf c9
          refine v_iload C 0 dX11_alike_40 rfl ?_
          refine v_goto (tgt := 72) C dX11_alike_42 (by decide) ?_
          cases hf
          exact kr _ _ dX11_alike_72 hC
      · have hf := ip hf c6
        refine v_iconst (v := (-1)) C dX11_alike_25 (by decide) ?_
        cases hf
        exact kr _ _ dX11_alike_26 hC
theorem sX11_alike {l : Launch} {sh : Sh} {G : Hp} {l0 : Nat} {l1 : Int32} {l2 : Int32} {l3 : Int32} {z : Int32 × Hp} (h_l0 : sh[l0]? = some (0, 11)) (hf : fX11_alike sh G l0 l1 l2 l3 = some z) : MC l yX11_alike cX11_alike 5 (some .int) 3 0 0 sh sh G (z.2) (fun ad => [.ref (ad l0), .int l1, .int l2, .int l3]) (fun _ => some (.int z.1)) := by
  refine MC_of rfl rfl (fun _ => Nat.le_of_ble_eq_true rfl) (fun E ad C hl hnm hC hQ => ?_)
  exact tX11_alike C hC h_l0 hf (fun pc lv hd hC => v_iret C hQ (fun _ _ => rfl) hC rfl hd)
def fX11_copies_S2 (sh : Sh) (l0 : Nat) (G : Hp) (l1 : Int32) : Option ((Hp × Int32) ⊕ ((Hp))) := if 26 ≤ l1 then some (.inr G) else (ldA sh G l0 59 1).bind fun a2 => (ldA sh G l0 58 1).bind fun a3 => (aI sh G a3 l1).bind fun v4 => (asI sh G a2 l1 v4).bind fun G5 => bd ((l1 + 1) : Int32) fun x6 => some (.inl (G5, x6))
set_option maxHeartbeats 4000000 in
theorem tX11_copies_S2 {E : EX} {ad : Nat → Nat} {sh : Sh} {G : Hp} {l0 : Nat} {l1 : Int32} {o : (Hp × Int32) ⊕ ((Hp))} (C : Cx E RX11 cX11_copies 2 none 1 0 0) (hC : Cl sh G) (h_l0 : sh[l0]? = some (0, 11)) (hf : fX11_copies_S2 sh l0 G l1 = some o) (kb : ∀ (G2 : Hp) (b_l1 : Int32), o = .inl (G2, b_l1) → Cl sh G2 → VV E 0 0 (wq (xT E) ad G2 sh) 2 [(0, .ref (ad l0)), (1, .int b_l1)] []) (kx26 : ∀ (G2 : Hp), o = .inr G2 → Cl sh G2 → VV E 0 0 (wq (xT E) ad G2 sh) 26 [(0, .ref (ad l0))] []) : VV E 0 0 (wq (xT E) ad G sh) 2 [(0, .ref (ad l0)), (1, .int l1)] [] := by
  unfold fX11_copies_S2 at hf
  refine v_iload_n C 1 dX11_copies_2 rfl rfl ?_
  refine v_bipush (v := 26) C dX11_copies_3 (by decide) ?_
  refine v_icmp_ge (tgt := 26) C dX11_copies_5 (by decide) (fun c1 => ?_) (fun c1 => ?_)
  · have hf := ip hf c1
    cases hf
    refine v_sub [0] rfl ?_
    exact kx26 _ rfl hC
  · have hf := im hf c1
    refine v_aload_n C 0 dX11_copies_8 rfl rfl ?_
    obtain ⟨a2, qa2, hf⟩ := bn hf
    refine v_getA C h_l0 fl_X11_137 qa2 dX11_copies_9 (fun h_a2 => ?_)
    refine v_iload_n C 1 dX11_copies_12 rfl rfl ?_
    refine v_aload_n C 0 dX11_copies_13 rfl rfl ?_
    obtain ⟨a3, qa3, hf⟩ := bn hf
    refine v_getA C h_l0 fl_X11_134 qa3 dX11_copies_14 (fun h_a3 => ?_)
    refine v_iload_n C 1 dX11_copies_17 rfl rfl ?_
    obtain ⟨v4, qv4, hf⟩ := bn hf
    refine v_iald C h_a3 qv4 dX11_copies_18 ?_
    obtain ⟨G5, qG5, hf⟩ := bn hf
    refine v_iast C h_a2 qG5 hC dX11_copies_19 (fun hC => ?_)
    obtain ⟨x6, ex6⟩ : ∃ x : Int32, x = (l1 + 1) := ⟨_, rfl⟩
    have hf := bd_at hf ex6
    refine v_iinc (v := x6) (j := 1) (lv2 := [(1, .int x6), (0, .ref (ad l0))]) C dX11_copies_20 rfl (by rw [ex6]; rfl) (by decide) rfl ?_
    refine v_goto (tgt := 2) C dX11_copies_23 (by decide) ?_
    cases hf
    refine v_sub [1, 0] rfl ?_
    exact kb _ _ rfl hC
def fX11_copies (sh : Sh) (G : Hp) (l0 : Nat) : Option (Hp) := (iter (fun s : Hp × Int32 => fX11_copies_S2 sh l0 s.1 s.2) fuel ((G, 0) : Hp × Int32)).bind (fun u7 => bd u7 fun G2 => (ldA sh G2 l0 39 1).bind fun a3 => (aI sh G2 a3 (G2.1 l0 18)).bind fun v4 => bd (sI G2 l0 60 v4) fun G5 => bd (sI G5 l0 61 0) fun G6 => some G6)
set_option maxHeartbeats 4000000 in
theorem tX11_copies {E : EX} {ad : Nat → Nat} {sh : Sh} {G : Hp} {l0 : Nat} {z : Hp} (C : Cx E RX11 cX11_copies 2 none 1 0 0) (hC : Cl sh G) (h_l0 : sh[l0]? = some (0, 11)) (hf : fX11_copies sh G l0 = some z) (kr : RCv E cX11_copies ad sh z) : VV E 0 0 (wq (xT E) ad G sh) 0 [(0, .ref (ad l0))] [] := by
  unfold fX11_copies at hf
  refine v_iconst (v := 0) C dX11_copies_0 (by decide) ?_
  refine v_istore_n (lv2 := [(1, .int 0), (0, .ref (ad l0))]) C dX11_copies_1 rfl (by decide) rfl ?_
  obtain ⟨r1, qr1, hf⟩ := bn hf
  refine v_sub [1, 0] rfl ?_
  refine iter_sound (P := (fun s : Hp × Int32 => Cl sh (s.1) → VV E 0 0 (wq (xT E) ad (s.1) sh) 2 [(0, .ref (ad l0)), (1, .int (s.2))] [])) (X := fun r => r = r1) (fun jsr1 jor1 hor1 jbr1 jxr1 hC => tX11_copies_S2 C hC h_l0 hor1 (fun _ _ e => jbr1 _ e) ?_) fuel _ r1 qr1 rfl hC
  · intro G2 hu hC
    have e := jxr1 _ hu
    subst e
    have hf := bd_at hf (rfl : G2 = _)
    refine v_aload_n C 0 dX11_copies_26 rfl rfl ?_
    refine v_aload_n C 0 dX11_copies_27 rfl rfl ?_
    obtain ⟨a3, qa3, hf⟩ := bn hf
    refine v_getA C h_l0 fl_X11_91 qa3 dX11_copies_28 (fun h_a3 => ?_)
    refine v_aload_n C 0 dX11_copies_31 rfl rfl ?_
    refine v_getI C h_l0 fl_X11_257 dX11_copies_32 ?_
    obtain ⟨v4, qv4, hf⟩ := bn hf
    refine v_iald C h_a3 qv4 dX11_copies_35 ?_
    refine v_putI C h_l0 fp_X11_374 dX11_copies_36 (fun G5 eG5 => ?_)
    have hf := bd_at hf eG5
    have hC : Cl sh G5 := by rw [eG5]; exact hC
    refine v_aload_n C 0 dX11_copies_39 rfl rfl ?_
    refine v_iconst (v := 0) C dX11_copies_40 (by decide) ?_
    refine v_putZ C h_l0 fp_X11_377 (Or.inl rfl) dX11_copies_41 (fun G6 eG6 => ?_)
    have hf := bd_at hf eG6
    have hC : Cl sh G6 := by rw [eG6]; exact hC
    cases hf
    exact kr _ _ dX11_copies_44 hC
theorem sX11_copies {l : Launch} {sh : Sh} {G : Hp} {l0 : Nat} {z : Hp} (h_l0 : sh[l0]? = some (0, 11)) (hf : fX11_copies sh G l0 = some z) : MC l yX11_copies cX11_copies 2 none 1 0 0 sh sh G z (fun ad => [.ref (ad l0)]) (fun _ => none) := by
  refine MC_of rfl rfl (fun _ => Nat.le_of_ble_eq_true rfl) (fun E ad C hl hnm hC hQ => ?_)
  exact tX11_copies C hC h_l0 hf (fun pc lv hd hC => v_vret C hQ (fun _ _ => rfl) hC rfl hd)
def fX11_isThere (sh : Sh) (G : Hp) (l0 : Nat) (l1 : Int32) : Option (Int32) := (ldA sh G l0 59 1).bind fun a1 => (aI sh G a1 25).bind fun v2 => if ((v2 >>> (l1 &&& 31)) &&& 1) = 1 then some 1 else some 0
set_option maxHeartbeats 4000000 in
theorem tX11_isThere {E : EX} {ad : Nat → Nat} {sh : Sh} {G : Hp} {l0 : Nat} {l1 : Int32} {z : Int32} (C : Cx E RX11 cX11_isThere 2 (some .boolean) 1 0 0) (hC : Cl sh G) (h_l0 : sh[l0]? = some (0, 11)) (hf : fX11_isThere sh G l0 l1 = some z) (kr : RCz E cX11_isThere ad sh z G) : VV E 0 0 (wq (xT E) ad G sh) 0 [(0, .ref (ad l0)), (1, .int l1)] [] := by
  unfold fX11_isThere at hf
  refine v_aload_n C 0 dX11_isThere_0 rfl rfl ?_
  obtain ⟨a1, qa1, hf⟩ := bn hf
  refine v_getA C h_l0 fl_X11_137 qa1 dX11_isThere_1 (fun h_a1 => ?_)
  refine v_bipush (v := 25) C dX11_isThere_4 (by decide) ?_
  obtain ⟨v2, qv2, hf⟩ := bn hf
  refine v_iald C h_a1 qv2 dX11_isThere_6 ?_
  refine v_iload_n C 1 dX11_isThere_7 rfl rfl ?_
  refine v_ishr C dX11_isThere_8 ?_
  refine v_iconst (v := 1) C dX11_isThere_9 (by decide) ?_
  refine v_iand C dX11_isThere_10 ?_
  refine v_iconst (v := 1) C dX11_isThere_11 (by decide) ?_
  refine v_icmp_ne (tgt := 19) C dX11_isThere_12 (by decide) (fun c3 => ?_) (fun c3 => ?_)
  · have hf := im hf c3
    refine v_iconst (v := 0) C dX11_isThere_19 (by decide) ?_
    cases hf
    exact kr _ _ dX11_isThere_20 (Or.inl rfl) hC
  · have hf := ip hf c3
    refine v_iconst (v := 1) C dX11_isThere_15 (by decide) ?_
    refine v_goto (tgt := 20) C dX11_isThere_16 (by decide) ?_
    cases hf
    exact kr _ _ dX11_isThere_20 (Or.inr rfl) hC
theorem sX11_isThere {l : Launch} {sh : Sh} {G : Hp} {l0 : Nat} {l1 : Int32} {z : Int32} (h_l0 : sh[l0]? = some (0, 11)) (hf : fX11_isThere sh G l0 l1 = some z) : MC l yX11_isThere cX11_isThere 2 (some .boolean) 1 0 0 sh sh G G (fun ad => [.ref (ad l0), .int l1]) (fun _ => some (.int z)) := by
  refine MC_of rfl rfl (fun _ => Nat.le_of_ble_eq_true rfl) (fun E ad C hl hnm hC hQ => ?_)
  exact tX11_isThere C hC h_l0 hf (fun pc lv hd hz hC => v_zret C hQ (fun _ _ => rfl) hC rfl hz hd)
def fX11_isUsed_S2 (sh : Sh) (l0 : Nat) (l1 : Int32) (l2 : Int32) (G : Hp) (l3 : Int32) : Option ((Int32) ⊕ ((Unit) ⊕ (Unit))) := if l2 ≤ l3 then some (.inr (.inl ())) else (ldA sh G l0 70 1).bind fun a2 => (aI sh G a2 l3).bind fun v3 => if (v3 / 5) = l1 then some (.inr (.inr ())) else bd ((l3 + 1) : Int32) fun x5 => some (.inl x5)
set_option maxHeartbeats 4000000 in
theorem tX11_isUsed_S2 {E : EX} {ad : Nat → Nat} {sh : Sh} {G : Hp} {l0 : Nat} {l1 : Int32} {l2 : Int32} {l3 : Int32} {o : (Int32) ⊕ ((Unit) ⊕ (Unit))} (C : Cx E RX11 cX11_isUsed 4 (some .boolean) 1 0 0) (hC : Cl sh G) (h_l0 : sh[l0]? = some (0, 11)) (hf : fX11_isUsed_S2 sh l0 l1 l2 G l3 = some o) (kb : ∀ (b_l3 : Int32), o = .inl b_l3 → VV E 0 0 (wq (xT E) ad G sh) 2 [(0, .ref (ad l0)), (1, .int l1), (2, .int l2), (3, .int b_l3)] []) (kx27 : o = .inr (.inl ()) → VV E 0 0 (wq (xT E) ad G sh) 27 [(0, .ref (ad l0)), (1, .int l1), (2, .int l2)] []) (kx19 : o = .inr (.inr ()) → VV E 0 0 (wq (xT E) ad G sh) 19 [(0, .ref (ad l0)), (1, .int l1), (2, .int l2)] []) : VV E 0 0 (wq (xT E) ad G sh) 2 [(0, .ref (ad l0)), (1, .int l1), (2, .int l2), (3, .int l3)] [] := by
  unfold fX11_isUsed_S2 at hf
  refine v_iload_n C 3 dX11_isUsed_2 rfl rfl ?_
  refine v_iload_n C 2 dX11_isUsed_3 rfl rfl ?_
  refine v_icmp_ge (tgt := 27) C dX11_isUsed_4 (by decide) (fun c1 => ?_) (fun c1 => ?_)
  · have hf := ip hf c1
    cases hf
    refine v_sub [0, 1, 2] rfl ?_
    exact kx27 rfl
  · have hf := im hf c1
    refine v_aload_n C 0 dX11_isUsed_7 rfl rfl ?_
    obtain ⟨a2, qa2, hf⟩ := bn hf
    refine v_getA C h_l0 fl_X11_155 qa2 dX11_isUsed_8 (fun h_a2 => ?_)
    refine v_iload_n C 3 dX11_isUsed_11 rfl rfl ?_
    obtain ⟨v3, qv3, hf⟩ := bn hf
    refine v_iald C h_a2 qv3 dX11_isUsed_12 ?_
    refine v_iconst (v := 5) C dX11_isUsed_13 (by decide) ?_
    refine v_idiv C dX11_isUsed_14 (by decide) ?_
    refine v_iload_n C 1 dX11_isUsed_15 rfl rfl ?_
    refine v_icmp_ne (tgt := 21) C dX11_isUsed_16 (by decide) (fun c4 => ?_) (fun c4 => ?_)
    · have hf := im hf c4
      obtain ⟨x5, ex5⟩ : ∃ x : Int32, x = (l3 + 1) := ⟨_, rfl⟩
      have hf := bd_at hf ex5
      refine v_iinc (v := x5) (j := 3) (lv2 := [(3, .int x5), (0, .ref (ad l0)), (1, .int l1), (2, .int l2)]) C dX11_isUsed_21 rfl (by rw [ex5]; rfl) (by decide) rfl ?_
      refine v_goto (tgt := 2) C dX11_isUsed_24 (by decide) ?_
      cases hf
      refine v_sub [1, 2, 3, 0] rfl ?_
      exact kb _ rfl
    · have hf := ip hf c4
      cases hf
      refine v_sub [0, 1, 2] rfl ?_
      exact kx19 rfl
def fX11_isUsed (sh : Sh) (G : Hp) (l0 : Nat) (l1 : Int32) (l2 : Int32) : Option (Int32) := (iter (fun s : Int32 => fX11_isUsed_S2 sh l0 l1 l2 G s) fuel (0 : Int32)).bind (Sum.elim (fun _ => some 0) (fun _ => some 1))
set_option maxHeartbeats 4000000 in
theorem tX11_isUsed {E : EX} {ad : Nat → Nat} {sh : Sh} {G : Hp} {l0 : Nat} {l1 : Int32} {l2 : Int32} {z : Int32} (C : Cx E RX11 cX11_isUsed 4 (some .boolean) 1 0 0) (hC : Cl sh G) (h_l0 : sh[l0]? = some (0, 11)) (hf : fX11_isUsed sh G l0 l1 l2 = some z) (kr : RCz E cX11_isUsed ad sh z G) : VV E 0 0 (wq (xT E) ad G sh) 0 [(0, .ref (ad l0)), (1, .int l1), (2, .int l2)] [] := by
  unfold fX11_isUsed at hf
  refine v_iconst (v := 0) C dX11_isUsed_0 (by decide) ?_
  refine v_istore_n (lv2 := [(3, .int 0), (0, .ref (ad l0)), (1, .int l1), (2, .int l2)]) C dX11_isUsed_1 rfl (by decide) rfl ?_
  obtain ⟨r1, qr1, hf⟩ := bn hf
  refine v_sub [1, 2, 3, 0] rfl ?_
  refine iter_sound (P := (fun s : Int32 => VV E 0 0 (wq (xT E) ad (G) sh) 2 [(0, .ref (ad l0)), (1, .int (l1)), (2, .int (l2)), (3, .int (s))] [])) (X := fun r => r = r1) (fun jsr1 jor1 hor1 jbr1 jxr1 => tX11_isUsed_S2 C hC h_l0 hor1 (fun _ e => jbr1 _ e) ?_ ?_) fuel _ r1 qr1 rfl
  · intro  hu
    have e := jxr1 _ hu
    subst e
    have hf := sm_l hf
    refine v_iconst (v := 0) C dX11_isUsed_27 (by decide) ?_
    cases hf
    exact kr _ _ dX11_isUsed_28 (Or.inl rfl) hC
  · intro  hu
    have e := jxr1 _ hu
    subst e
    have hf := sm_r hf
    refine v_iconst (v := 1) C dX11_isUsed_19 (by decide) ?_
    cases hf
    exact kr _ _ dX11_isUsed_20 (Or.inr rfl) hC
theorem sX11_isUsed {l : Launch} {sh : Sh} {G : Hp} {l0 : Nat} {l1 : Int32} {l2 : Int32} {z : Int32} (h_l0 : sh[l0]? = some (0, 11)) (hf : fX11_isUsed sh G l0 l1 l2 = some z) : MC l yX11_isUsed cX11_isUsed 4 (some .boolean) 1 0 0 sh sh G G (fun ad => [.ref (ad l0), .int l1, .int l2]) (fun _ => some (.int z)) := by
  refine MC_of rfl rfl (fun _ => Nat.le_of_ble_eq_true rfl) (fun E ad C hl hnm hC hQ => ?_)
  exact tX11_isUsed C hC h_l0 hf (fun pc lv hd hz hC => v_zret C hQ (fun _ _ => rfl) hC rfl hz hd)
