def fX10_hold (sh : Sh) (G : Hp) (l0 : Nat) (l1 : Int32) : Option (Int32 × Hp) := if l1 < 0 then some (0, G) else if l1 < 3 then (ldA sh G l0 6 5).bind fun a3 => (aR sh G a3 l1 1).bind fun a4 => (ldO sh G l0 3 1).bind fun a5 => (fX1_copyFrom sh G a4 a5).bind fun G7 => bd (sI G7 l0 7 ((G7.1 l0 7) ||| ((1 : Int32) <<< (l1 &&& 31)))) fun G8 => some (1, G8) else some (0, G)
set_option maxHeartbeats 4000000 in
theorem tX10_hold {E : EX} {ad : Nat → Nat} {sh : Sh} {G : Hp} {l0 : Nat} {l1 : Int32} {z : Int32 × Hp} (C : Cx E RX10 cX10_hold 2 (some .boolean) 2 0 0) (hC : Cl sh G) (h_l0 : sh[l0]? = some (0, 10)) (hf : fX10_hold sh G l0 l1 = some z) (kr : RCz E cX10_hold ad sh (z.1) (z.2)) : VV E 0 0 (wq (xT E) ad G sh) 0 [(0, .ref (ad l0)), (1, .int l1)] [] := by
  unfold fX10_hold at hf
  refine v_iload_n C 1 dX10_hold_0 rfl rfl ?_
  refine v_if_lt (tgt := 9) C dX10_hold_1 (by decide) (fun c1 => ?_) (fun c1 => ?_)
  · have hf := ip hf c1
    refine v_iconst (v := 0) C dX10_hold_9 (by decide) ?_
    cases hf
    exact kr _ _ dX10_hold_10 (Or.inl rfl) hC
  · have hf := im hf c1
    refine v_iload_n C 1 dX10_hold_4 rfl rfl ?_
    refine v_iconst (v := 3) C dX10_hold_5 (by decide) ?_
    refine v_icmp_lt (tgt := 11) C dX10_hold_6 (by decide) (fun c2 => ?_) (fun c2 => ?_)
    · have hf := ip hf c2
      refine v_aload_n C 0 dX10_hold_11 rfl rfl ?_
      obtain ⟨a3, qa3, hf⟩ := bn hf
      refine v_getA C h_l0 fl_X10_48 qa3 dX10_hold_12 (fun h_a3 => ?_)
      refine v_iload_n C 1 dX10_hold_15 rfl rfl ?_
      obtain ⟨a4, qa4, hf⟩ := bn hf
      refine v_aald C h_a3 qa4 dX10_hold_16 (fun h_a4 => ?_)
      refine v_aload_n C 0 dX10_hold_17 rfl rfl ?_
      obtain ⟨a5, qa5, hf⟩ := bn hf
      refine v_getO C h_l0 fl_X10_30 qa5 dX10_hold_18 (fun h_a5 => ?_)
      obtain ⟨G7, qr6, hf⟩ := bn hf
      refine v_callVv (As := [.ref (ad a5)]) (rest := []) C (sX1_copyFrom h_a4 h_a5 qr6) cs_X10_315 (by decide) h_a4 rfl hC rfl rfl rfl (Nat.le_of_ble_eq_true rfl) ⟨Nat.le_refl _, Nat.le_refl _⟩ dX10_hold_21 (fun hC => ?_)
      refine v_aload_n C 0 dX10_hold_24 rfl rfl ?_
      refine v_dup C dX10_hold_25 rfl ?_
      refine v_getI C h_l0 fl_X10_52 dX10_hold_26 ?_
      refine v_iconst (v := 1) C dX10_hold_29 (by decide) ?_
      refine v_iload_n C 1 dX10_hold_30 rfl rfl ?_
      refine v_ishl C dX10_hold_31 ?_
      refine v_ior C dX10_hold_32 ?_
      refine v_putI C h_l0 fp_X10_52 dX10_hold_33 (fun G8 eG8 => ?_)
      have hf := bd_at hf eG8
      have hC : Cl sh G8 := by rw [eG8]; exact hC
      refine v_iconst (v := 1) C dX10_hold_36 (by decide) ?_
      cases hf
      exact kr _ _ dX10_hold_37 (Or.inr rfl) hC
    · have hf := im hf c2
      refine v_iconst (v := 0) C dX10_hold_9 (by decide) ?_
      cases hf
      exact kr _ _ dX10_hold_10 (Or.inl rfl) hC
theorem sX10_hold {l : Launch} {sh : Sh} {G : Hp} {l0 : Nat} {l1 : Int32} {z : Int32 × Hp} (h_l0 : sh[l0]? = some (0, 10)) (hf : fX10_hold sh G l0 l1 = some z) : MC l yX10_hold cX10_hold 2 (some .boolean) 2 0 0 sh sh G (z.2) (fun ad => [.ref (ad l0), .int l1]) (fun _ => some (.int z.1)) := by
  refine MC_of rfl rfl (fun _ => Nat.le_of_ble_eq_true rfl) (fun E ad C hl hnm hC hQ => ?_)
  exact tX10_hold C hC h_l0 hf (fun pc lv hd hz hC => v_zret C hQ (fun _ _ => rfl) hC rfl hz hd)
def fX10_holds (sh : Sh) (G : Hp) (l0 : Nat) (l1 : Int32) (l2 : Int32) : Option (Int32) := (ldO sh G l0 2 8).bind fun a1 => (fX8_hasBridge sh G a1 l1).bind fun r2 => if r2 = 0 then some (-1) else if l2 < 0 then some (-1) else (ldO sh G l0 2 8).bind fun a5 => (fX8_setCount sh G a5).bind fun r6 => if l2 < r6 then (ldO sh G l0 2 8).bind fun a8 => (fX8_clauseHolds sh G a8 l1 l2).bind fun r9 => if r9 = 0 then some 0 else some 1 else some (-1)
set_option maxHeartbeats 4000000 in
theorem tX10_holds {E : EX} {ad : Nat → Nat} {sh : Sh} {G : Hp} {l0 : Nat} {l1 : Int32} {l2 : Int32} {z : Int32} (C : Cx E RX10 cX10_holds 3 (some .int) 3 0 0) (hC : Cl sh G) (h_l0 : sh[l0]? = some (0, 10)) (hf : fX10_holds sh G l0 l1 l2 = some z) (kr : RCi E cX10_holds ad sh z G) : VV E 0 0 (wq (xT E) ad G sh) 0 [(0, .ref (ad l0)), (1, .int l1), (2, .int l2)] [] := by
  unfold fX10_holds at hf
  refine v_aload_n C 0 dX10_holds_0 rfl rfl ?_
  obtain ⟨a1, qa1, hf⟩ := bn hf
  refine v_getO C h_l0 fl_X10_23 qa1 dX10_holds_1 (fun h_a1 => ?_)
  refine v_iload_n C 1 dX10_holds_4 rfl rfl ?_
  obtain ⟨r2, qr2, hf⟩ := bn hf
  refine v_callVi (As := [.int l1]) (rest := []) C (sX8_hasBridge h_a1 qr2) cs_X10_143 (by decide) h_a1 rfl hC rfl rfl rfl (Nat.le_of_ble_eq_true rfl) ⟨Nat.le_refl _, Nat.le_refl _⟩ dX10_holds_5 (fun hC => ?_)
  refine v_if_eq (tgt := 26) C dX10_holds_8 (by decide) (fun c3 => ?_) (fun c3 => ?_)
  · have hf := ip hf c3
    refine v_iconst (v := (-1)) C dX10_holds_26 (by decide) ?_
    cases hf
    exact kr _ _ dX10_holds_27 hC
  · have hf := im hf c3
    refine v_iload_n C 2 dX10_holds_11 rfl rfl ?_
    refine v_if_lt (tgt := 26) C dX10_holds_12 (by decide) (fun c4 => ?_) (fun c4 => ?_)
    · have hf := ip hf c4
      refine v_iconst (v := (-1)) C dX10_holds_26 (by decide) ?_
      cases hf
      exact kr _ _ dX10_holds_27 hC
    · have hf := im hf c4
      refine v_iload_n C 2 dX10_holds_15 rfl rfl ?_
      refine v_aload_n C 0 dX10_holds_16 rfl rfl ?_
      obtain ⟨a5, qa5, hf⟩ := bn hf
      refine v_getO C h_l0 fl_X10_23 qa5 dX10_holds_17 (fun h_a5 => ?_)
      obtain ⟨r6, qr6, hf⟩ := bn hf
      refine v_callVi (As := []) (rest := [.int l2]) C (sX8_setCount h_a5 qr6) cs_X10_172 (by decide) h_a5 rfl hC rfl rfl rfl (Nat.le_of_ble_eq_true rfl) ⟨Nat.le_refl _, Nat.le_refl _⟩ dX10_holds_20 (fun hC => ?_)
      refine v_icmp_lt (tgt := 28) C dX10_holds_23 (by decide) (fun c7 => ?_) (fun c7 => ?_)
      · have hf := ip hf c7
        refine v_aload_n C 0 dX10_holds_28 rfl rfl ?_
        obtain ⟨a8, qa8, hf⟩ := bn hf
        refine v_getO C h_l0 fl_X10_23 qa8 dX10_holds_29 (fun h_a8 => ?_)
        refine v_iload_n C 1 dX10_holds_32 rfl rfl ?_
        refine v_iload_n C 2 dX10_holds_33 rfl rfl ?_
        obtain ⟨r9, qr9, hf⟩ := bn hf
        refine v_callVi (As := [.int l1, .int l2]) (rest := []) C (sX8_clauseHolds h_a8 qr9) cs_X10_175 (by decide) h_a8 rfl hC rfl rfl rfl (Nat.le_of_ble_eq_true rfl) ⟨Nat.le_refl _, Nat.le_refl _⟩ dX10_holds_34 (fun hC => ?_)
        refine v_if_eq (tgt := 44) C dX10_holds_37 (by decide) (fun c10 => ?_) (fun c10 => ?_)
        · have hf := ip hf c10
          refine v_iconst (v := 0) C dX10_holds_44 (by decide) ?_
          cases hf
          exact kr _ _ dX10_holds_45 hC
        · have hf := im hf c10
          refine v_iconst (v := 1) C dX10_holds_40 (by decide) ?_
          refine v_goto (tgt := 45) C dX10_holds_41 (by decide) ?_
          cases hf
          exact kr _ _ dX10_holds_45 hC
      · have hf := im hf c7
        refine v_iconst (v := (-1)) C dX10_holds_26 (by decide) ?_
        cases hf
        exact kr _ _ dX10_holds_27 hC
theorem sX10_holds {l : Launch} {sh : Sh} {G : Hp} {l0 : Nat} {l1 : Int32} {l2 : Int32} {z : Int32} (h_l0 : sh[l0]? = some (0, 10)) (hf : fX10_holds sh G l0 l1 l2 = some z) : MC l yX10_holds cX10_holds 3 (some .int) 3 0 0 sh sh G G (fun ad => [.ref (ad l0), .int l1, .int l2]) (fun _ => some (.int z)) := by
  refine MC_of rfl rfl (fun _ => Nat.le_of_ble_eq_true rfl) (fun E ad C hl hnm hC hQ => ?_)
  exact tX10_holds C hC h_l0 hf (fun pc lv hd hC => v_iret C hQ (fun _ _ => rfl) hC rfl hd)
def fX1_canBeMended (sh : Sh) (G : Hp) (l0 : Nat) (l1 : Int32) : Option (Int32) := (ldA sh G l0 1 1).bind fun a1 => (aI sh G a1 l1).bind fun v2 => if v2 = 1 then (ldA sh G l0 0 1).bind fun a4 => (aI sh G a4 l1).bind fun v5 => if 99 ≤ v5 then some 0 else some 1 else some 0
set_option maxHeartbeats 4000000 in
theorem tX1_canBeMended {E : EX} {ad : Nat → Nat} {sh : Sh} {G : Hp} {l0 : Nat} {l1 : Int32} {z : Int32} (C : Cx E RX1 cX1_canBeMended 2 (some .boolean) 1 0 0) (hC : Cl sh G) (h_l0 : sh[l0]? = some (0, 1)) (hf : fX1_canBeMended sh G l0 l1 = some z) (kr : RCz E cX1_canBeMended ad sh z G) : VV E 0 0 (wq (xT E) ad G sh) 0 [(0, .ref (ad l0)), (1, .int l1)] [] := by
  unfold fX1_canBeMended at hf
  refine v_aload_n C 0 dX1_canBeMended_0 rfl rfl ?_
  obtain ⟨a1, qa1, hf⟩ := bn hf
  refine v_getA C h_l0 fl_X1_15 qa1 dX1_canBeMended_1 (fun h_a1 => ?_)
  refine v_iload_n C 1 dX1_canBeMended_4 rfl rfl ?_
  obtain ⟨v2, qv2, hf⟩ := bn hf
  refine v_iald C h_a1 qv2 dX1_canBeMended_5 ?_
  refine v_iconst (v := 1) C dX1_canBeMended_6 (by decide) ?_
  refine v_icmp_ne (tgt := 25) C dX1_canBeMended_7 (by decide) (fun c3 => ?_) (fun c3 => ?_)
  · have hf := im hf c3
    refine v_iconst (v := 0) C dX1_canBeMended_25 (by decide) ?_
    cases hf
    exact kr _ _ dX1_canBeMended_26 (Or.inl rfl) hC
  · have hf := ip hf c3
    refine v_aload_n C 0 dX1_canBeMended_10 rfl rfl ?_
    obtain ⟨a4, qa4, hf⟩ := bn hf
    refine v_getA C h_l0 fl_X1_9 qa4 dX1_canBeMended_11 (fun h_a4 => ?_)
    refine v_iload_n C 1 dX1_canBeMended_14 rfl rfl ?_
    obtain ⟨v5, qv5, hf⟩ := bn hf
    refine v_iald C h_a4 qv5 dX1_canBeMended_15 ?_
    refine v_bipush (v := 99) C dX1_canBeMended_16 (by decide) ?_
    refine v_icmp_ge (tgt := 25) C dX1_canBeMended_18 (by decide) (fun c6 => ?_) (fun c6 => ?_)
    · have hf := ip hf c6
      refine v_iconst (v := 0) C dX1_canBeMended_25 (by decide) ?_
      cases hf
      exact kr _ _ dX1_canBeMended_26 (Or.inl rfl) hC
    · have hf := im hf c6
      refine v_iconst (v := 1) C dX1_canBeMended_21 (by decide) ?_
      refine v_goto (tgt := 26) C dX1_canBeMended_22 (by decide) ?_
      cases hf
      exact kr _ _ dX1_canBeMended_26 (Or.inr rfl) hC
theorem sX1_canBeMended {l : Launch} {sh : Sh} {G : Hp} {l0 : Nat} {l1 : Int32} {z : Int32} (h_l0 : sh[l0]? = some (0, 1)) (hf : fX1_canBeMended sh G l0 l1 = some z) : MC l yX1_canBeMended cX1_canBeMended 2 (some .boolean) 1 0 0 sh sh G G (fun ad => [.ref (ad l0), .int l1]) (fun _ => some (.int z)) := by
  refine MC_of rfl rfl (fun _ => Nat.le_of_ble_eq_true rfl) (fun E ad C hl hnm hC hQ => ?_)
  exact tX1_canBeMended C hC h_l0 hf (fun pc lv hd hz hC => v_zret C hQ (fun _ _ => rfl) hC rfl hz hd)
def fX2_keep (sh : Sh) (G : Hp) (l0 : Nat) (l1 : Nat) : Option (Hp) := (ldA sh G l0 2 5).bind fun a1 => (aR sh G a1 (G.1 l0 1) 1).bind fun a2 => (fX1_copyFrom sh G a2 l1).bind fun G4 => if 40 ≤ ((G4.1 l0 1) + 1) then bd (sI G4 l0 1 0) fun G6 => bd (sI G6 l0 0 (imin 40 ((G6.1 l0 0) + 1))) fun G7 => some G7 else bd (sI G4 l0 1 ((G4.1 l0 1) + 1)) fun G8 => bd (sI G8 l0 0 (imin 40 ((G8.1 l0 0) + 1))) fun G9 => some G9
set_option maxHeartbeats 4000000 in
theorem tX2_keep {E : EX} {ad : Nat → Nat} {sh : Sh} {G : Hp} {l0 : Nat} {l1 : Nat} {z : Hp} (C : Cx E RX2 cX2_keep 2 none 2 0 0) (hC : Cl sh G) (h_l0 : sh[l0]? = some (0, 2)) (h_l1 : sh[l1]? = some (0, 1)) (hf : fX2_keep sh G l0 l1 = some z) (kr : RCv E cX2_keep ad sh z) : VV E 0 0 (wq (xT E) ad G sh) 0 [(0, .ref (ad l0)), (1, .ref (ad l1))] [] := by
  unfold fX2_keep at hf
  refine v_aload_n C 0 dX2_keep_0 rfl rfl ?_
  obtain ⟨a1, qa1, hf⟩ := bn hf
  refine v_getA C h_l0 fl_X2_11 qa1 dX2_keep_1 (fun h_a1 => ?_)
  refine v_aload_n C 0 dX2_keep_4 rfl rfl ?_
  refine v_getI C h_l0 fl_X2_18 dX2_keep_5 ?_
  obtain ⟨a2, qa2, hf⟩ := bn hf
  refine v_aald C h_a1 qa2 dX2_keep_8 (fun h_a2 => ?_)
  refine v_aload_n C 1 dX2_keep_9 rfl rfl ?_
  obtain ⟨G4, qr3, hf⟩ := bn hf
  refine v_callVv (As := [.ref (ad l1)]) (rest := []) C (sX1_copyFrom h_a2 h_l1 qr3) cs_X2_22 (by decide) h_a2 rfl hC rfl rfl rfl (Nat.le_of_ble_eq_true rfl) ⟨Nat.le_refl _, Nat.le_refl _⟩ dX2_keep_10 (fun hC => ?_)
  refine v_aload_n C 0 dX2_keep_13 rfl rfl ?_
  refine v_aload_n C 0 dX2_keep_14 rfl rfl ?_
  refine v_getI C h_l0 fl_X2_18 dX2_keep_15 ?_
  refine v_iconst (v := 1) C dX2_keep_18 (by decide) ?_
  refine v_iadd C dX2_keep_19 ?_
  refine v_bipush (v := 40) C dX2_keep_20 (by decide) ?_
  refine v_icmp_ge (tgt := 34) C dX2_keep_22 (by decide) (fun c5 => ?_) (fun c5 => ?_)
  · have hf := ip hf c5
    refine v_iconst (v := 0) C dX2_keep_34 (by decide) ?_
    refine v_putI C h_l0 fp_X2_18 dX2_keep_35 (fun G6 eG6 => ?_)
    have hf := bd_at hf eG6
    have hC : Cl sh G6 := by rw [eG6]; exact hC
    refine v_aload_n C 0 dX2_keep_38 rfl rfl ?_
    refine v_bipush (v := 40) C dX2_keep_39 (by decide) ?_
    refine v_aload_n C 0 dX2_keep_41 rfl rfl ?_
    refine v_getI C h_l0 fl_X2_26 dX2_keep_42 ?_
    refine v_iconst (v := 1) C dX2_keep_45 (by decide) ?_
    refine v_iadd C dX2_keep_46 ?_
    refine v_nmin C mw_X2_29 (by omega) (Nat.le_of_ble_eq_true rfl) ⟨Nat.le_refl _, Nat.le_refl _⟩ dX2_keep_47 ?_
    refine v_putI C h_l0 fp_X2_26 dX2_keep_50 (fun G7 eG7 => ?_)
    have hf := bd_at hf eG7
    have hC : Cl sh G7 := by rw [eG7]; exact hC
    cases hf
    exact kr _ _ dX2_keep_53 hC
  · have hf := im hf c5
    refine v_aload_n C 0 dX2_keep_25 rfl rfl ?_
    refine v_getI C h_l0 fl_X2_18 dX2_keep_26 ?_
    refine v_iconst (v := 1) C dX2_keep_29 (by decide) ?_
    refine v_iadd C dX2_keep_30 ?_
    refine v_goto (tgt := 35) C dX2_keep_31 (by decide) ?_
    refine v_putI C h_l0 fp_X2_18 dX2_keep_35 (fun G8 eG8 => ?_)
    have hf := bd_at hf eG8
    have hC : Cl sh G8 := by rw [eG8]; exact hC
    refine v_aload_n C 0 dX2_keep_38 rfl rfl ?_
    refine v_bipush (v := 40) C dX2_keep_39 (by decide) ?_
    refine v_aload_n C 0 dX2_keep_41 rfl rfl ?_
    refine v_getI C h_l0 fl_X2_26 dX2_keep_42 ?_
    refine v_iconst (v := 1) C dX2_keep_45 (by decide) ?_
    refine v_iadd C dX2_keep_46 ?_
    refine v_nmin C mw_X2_29 (by omega) (Nat.le_of_ble_eq_true rfl) ⟨Nat.le_refl _, Nat.le_refl _⟩ dX2_keep_47 ?_
    refine v_putI C h_l0 fp_X2_26 dX2_keep_50 (fun G9 eG9 => ?_)
    have hf := bd_at hf eG9
    have hC : Cl sh G9 := by rw [eG9]; exact hC
    cases hf
    exact kr _ _ dX2_keep_53 hC
theorem sX2_keep {l : Launch} {sh : Sh} {G : Hp} {l0 : Nat} {l1 : Nat} {z : Hp} (h_l0 : sh[l0]? = some (0, 2)) (h_l1 : sh[l1]? = some (0, 1)) (hf : fX2_keep sh G l0 l1 = some z) : MC l yX2_keep cX2_keep 2 none 2 0 0 sh sh G z (fun ad => [.ref (ad l0), .ref (ad l1)]) (fun _ => none) := by
  refine MC_of rfl rfl (fun _ => Nat.le_of_ble_eq_true rfl) (fun E ad C hl hnm hC hQ => ?_)
  exact tX2_keep C hC h_l0 h_l1 hf (fun pc lv hd hC => v_vret C hQ (fun _ _ => rfl) hC rfl hd)
def fX10_mend (sh : Sh) (G : Hp) (l0 : Nat) (l1 : Int32) : Option (Int32 × Hp) := (ldO sh G l0 2 8).bind fun a1 => (fX8_hasBridge sh G a1 l1).bind fun r2 => if r2 = 0 then some ((-1), G) else (ldO sh G l0 3 1).bind fun a4 => (fX1_canBeMended sh G a4 l1).bind fun r5 => if r5 = 0 then some ((-2), G) else (ldO sh G l0 5 2).bind fun a7 => (ldO sh G l0 3 1).bind fun a8 => (fX2_keep sh G a7 a8).bind fun G10 => (ldO sh G10 l0 3 1).bind fun a11 => (ldO sh G10 l0 4 3).bind fun a12 => (ldO sh G10 l0 2 8).bind fun a13 => (ldO sh G10 l0 3 1).bind fun a14 => bp (fX3_mendsOf sh G10 a12 a13 a14 l1) fun r15 G16 => bd (sI G16 a11 7 ((G10.1 a11 7) + r15)) fun G17 => (ldO sh G17 l0 3 1).bind fun a18 => (ldA sh G17 a18 0 1).bind fun a19 => (aI sh G17 a19 l1).bind fun v20 => (asI sh G17 a19 l1 (v20 + 1)).bind fun G21 => (ldO sh G21 l0 3 1).bind fun a22 => (ldA sh G21 a22 0 1).bind fun a23 => (aI sh G21 a23 l1).bind fun v24 => some (v24, G21)
set_option maxHeartbeats 4000000 in
theorem tX10_mend {E : EX} {ad : Nat → Nat} {sh : Sh} {G : Hp} {l0 : Nat} {l1 : Int32} {z : Int32 × Hp} (C : Cx E RX10 cX10_mend 2 (some .int) 5 0 0) (hC : Cl sh G) (h_l0 : sh[l0]? = some (0, 10)) (hf : fX10_mend sh G l0 l1 = some z) (kr : RCi E cX10_mend ad sh (z.1) (z.2)) : VV E 0 0 (wq (xT E) ad G sh) 0 [(0, .ref (ad l0)), (1, .int l1)] [] := by
  unfold fX10_mend at hf
  refine v_aload_n C 0 dX10_mend_0 rfl rfl ?_
  obtain ⟨a1, qa1, hf⟩ := bn hf
  refine v_getO C h_l0 fl_X10_23 qa1 dX10_mend_1 (fun h_a1 => ?_)
  refine v_iload_n C 1 dX10_mend_4 rfl rfl ?_
  obtain ⟨r2, qr2, hf⟩ := bn hf
  refine v_callVi (As := [.int l1]) (rest := []) C (sX8_hasBridge h_a1 qr2) cs_X10_143 (by decide) h_a1 rfl hC rfl rfl rfl (Nat.le_of_ble_eq_true rfl) ⟨Nat.le_refl _, Nat.le_refl _⟩ dX10_mend_5 (fun hC => ?_)
  refine v_if_ne (tgt := 13) C dX10_mend_8 (by decide) (fun c3 => ?_) (fun c3 => ?_)
  · have hf := im hf c3
    refine v_aload_n C 0 dX10_mend_13 rfl rfl ?_
    obtain ⟨a4, qa4, hf⟩ := bn hf
    refine v_getO C h_l0 fl_X10_30 qa4 dX10_mend_14 (fun h_a4 => ?_)
    refine v_iload_n C 1 dX10_mend_17 rfl rfl ?_
    obtain ⟨r5, qr5, hf⟩ := bn hf
    refine v_callVi (As := [.int l1]) (rest := []) C (sX1_canBeMended h_a4 qr5) cs_X10_211 (by decide) h_a4 rfl hC rfl rfl rfl (Nat.le_of_ble_eq_true rfl) ⟨Nat.le_refl _, Nat.le_refl _⟩ dX10_mend_18 (fun hC => ?_)
    refine v_if_ne (tgt := 27) C dX10_mend_21 (by decide) (fun c6 => ?_) (fun c6 => ?_)
    · have hf := im hf c6
      refine v_aload_n C 0 dX10_mend_27 rfl rfl ?_
      obtain ⟨a7, qa7, hf⟩ := bn hf
      refine v_getO C h_l0 fl_X10_44 qa7 dX10_mend_28 (fun h_a7 => ?_)
      refine v_aload_n C 0 dX10_mend_31 rfl rfl ?_
      obtain ⟨a8, qa8, hf⟩ := bn hf
      refine v_getO C h_l0 fl_X10_30 qa8 dX10_mend_32 (fun h_a8 => ?_)
      obtain ⟨G10, qr9, hf⟩ := bn hf
      refine v_callVv (As := [.ref (ad a8)]) (rest := []) C (sX2_keep h_a7 h_a8 qr9) cs_X10_189 (by decide) h_a7 rfl hC rfl rfl rfl (Nat.le_of_ble_eq_true rfl) ⟨Nat.le_refl _, Nat.le_refl _⟩ dX10_mend_35 (fun hC => ?_)
      refine v_aload_n C 0 dX10_mend_38 rfl rfl ?_
      obtain ⟨a11, qa11, hf⟩ := bn hf
      refine v_getO C h_l0 fl_X10_30 qa11 dX10_mend_39 (fun h_a11 => ?_)
      refine v_dup C dX10_mend_42 rfl ?_
      refine v_getI C h_a11 fl_X10_193 dX10_mend_43 ?_
      refine v_aload_n C 0 dX10_mend_46 rfl rfl ?_
      obtain ⟨a12, qa12, hf⟩ := bn hf
      refine v_getO C h_l0 fl_X10_37 qa12 dX10_mend_47 (fun h_a12 => ?_)
      refine v_aload_n C 0 dX10_mend_50 rfl rfl ?_
      obtain ⟨a13, qa13, hf⟩ := bn hf
      refine v_getO C h_l0 fl_X10_23 qa13 dX10_mend_51 (fun h_a13 => ?_)
      refine v_aload_n C 0 dX10_mend_54 rfl rfl ?_
      obtain ⟨a14, qa14, hf⟩ := bn hf
      refine v_getO C h_l0 fl_X10_30 qa14 dX10_mend_55 (fun h_a14 => ?_)
      refine v_iload_n C 1 dX10_mend_58 rfl rfl ?_
      obtain ⟨r15, G16, qr15, hf⟩ := bpn hf
      refine v_callVi (As := [.ref (ad a13), .ref (ad a14), .int l1]) (rest := [.int (G10.1 a11 7), .ref (ad a11)]) C (sX3_mendsOf h_a12 h_a13 h_a14 qr15) cs_X10_162 (by decide) h_a12 rfl hC rfl rfl rfl (Nat.le_of_ble_eq_true rfl) ⟨Nat.le_refl _, Nat.le_refl _⟩ dX10_mend_59 (fun hC => ?_)
      refine v_iadd C dX10_mend_62 ?_
      refine v_putI C h_a11 fp_X10_193 dX10_mend_63 (fun G17 eG17 => ?_)
      have hf := bd_at hf eG17
      have hC : Cl sh G17 := by rw [eG17]; exact hC
      refine v_aload_n C 0 dX10_mend_66 rfl rfl ?_
      obtain ⟨a18, qa18, hf⟩ := bn hf
      refine v_getO C h_l0 fl_X10_30 qa18 dX10_mend_67 (fun h_a18 => ?_)
      obtain ⟨a19, qa19, hf⟩ := bn hf
      refine v_getA C h_a18 fl_X10_146 qa19 dX10_mend_70 (fun h_a19 => ?_)
      refine v_iload_n C 1 dX10_mend_73 rfl rfl ?_
      refine v_dup2 C dX10_mend_74 rfl rfl ?_
      obtain ⟨v20, qv20, hf⟩ := bn hf
      refine v_iald C h_a19 qv20 dX10_mend_75 ?_
      refine v_iconst (v := 1) C dX10_mend_76 (by decide) ?_
      refine v_iadd C dX10_mend_77 ?_
      obtain ⟨G21, qG21, hf⟩ := bn hf
      refine v_iast C h_a19 qG21 hC dX10_mend_78 (fun hC => ?_)
      refine v_aload_n C 0 dX10_mend_79 rfl rfl ?_
      obtain ⟨a22, qa22, hf⟩ := bn hf
      refine v_getO C h_l0 fl_X10_30 qa22 dX10_mend_80 (fun h_a22 => ?_)
      obtain ⟨a23, qa23, hf⟩ := bn hf
      refine v_getA C h_a22 fl_X10_146 qa23 dX10_mend_83 (fun h_a23 => ?_)
      refine v_iload_n C 1 dX10_mend_86 rfl rfl ?_
      obtain ⟨v24, qv24, hf⟩ := bn hf
      refine v_iald C h_a23 qv24 dX10_mend_87 ?_
      cases hf
      exact kr _ _ dX10_mend_88 hC
    · have hf := ip hf c6
      refine v_bipush (v := (-2)) C dX10_mend_24 (by decide) ?_
      cases hf
      exact kr _ _ dX10_mend_26 hC
  · have hf := ip hf c3
    refine v_iconst (v := (-1)) C dX10_mend_11 (by decide) ?_
    cases hf
    exact kr _ _ dX10_mend_12 hC
theorem sX10_mend {l : Launch} {sh : Sh} {G : Hp} {l0 : Nat} {l1 : Int32} {z : Int32 × Hp} (h_l0 : sh[l0]? = some (0, 10)) (hf : fX10_mend sh G l0 l1 = some z) : MC l yX10_mend cX10_mend 2 (some .int) 5 0 0 sh sh G (z.2) (fun ad => [.ref (ad l0), .int l1]) (fun _ => some (.int z.1)) := by
  refine MC_of rfl rfl (fun _ => Nat.le_of_ble_eq_true rfl) (fun E ad C hl hnm hC hQ => ?_)
  exact tX10_mend C hC h_l0 hf (fun pc lv hd hC => v_iret C hQ (fun _ _ => rfl) hC rfl hd)
def fX1_loseStones (sh : Sh) (G : Hp) (l0 : Nat) (l1 : Int32) (l2 : Int32) : Option (Hp) := (ldA sh G l0 0 1).bind fun a1 => (ldA sh G l0 0 1).bind fun a2 => (aI sh G a2 l1).bind fun v3 => (asI sh G a1 l1 (imax 0 (v3 - l2))).bind fun G4 => (ldA sh G4 l0 0 1).bind fun a5 => (aI sh G4 a5 l1).bind fun v6 => if v6 = 0 then (ldA sh G4 l0 1 1).bind fun a8 => (asI sh G4 a8 l1 2).bind fun G9 => some G9 else some G4
set_option maxHeartbeats 4000000 in
theorem tX1_loseStones {E : EX} {ad : Nat → Nat} {sh : Sh} {G : Hp} {l0 : Nat} {l1 : Int32} {l2 : Int32} {z : Hp} (C : Cx E RX1 cX1_loseStones 3 none 2 0 0) (hC : Cl sh G) (h_l0 : sh[l0]? = some (0, 1)) (hf : fX1_loseStones sh G l0 l1 l2 = some z) (kr : RCv E cX1_loseStones ad sh z) : VV E 0 0 (wq (xT E) ad G sh) 0 [(0, .ref (ad l0)), (1, .int l1), (2, .int l2)] [] := by
  unfold fX1_loseStones at hf
  refine v_aload_n C 0 dX1_loseStones_0 rfl rfl ?_
  obtain ⟨a1, qa1, hf⟩ := bn hf
  refine v_getA C h_l0 fl_X1_9 qa1 dX1_loseStones_1 (fun h_a1 => ?_)
  refine v_iload_n C 1 dX1_loseStones_4 rfl rfl ?_
  refine v_iconst (v := 0) C dX1_loseStones_5 (by decide) ?_
  refine v_aload_n C 0 dX1_loseStones_6 rfl rfl ?_
  obtain ⟨a2, qa2, hf⟩ := bn hf
  refine v_getA C h_l0 fl_X1_9 qa2 dX1_loseStones_7 (fun h_a2 => ?_)
  refine v_iload_n C 1 dX1_loseStones_10 rfl rfl ?_
  obtain ⟨v3, qv3, hf⟩ := bn hf
  refine v_iald C h_a2 qv3 dX1_loseStones_11 ?_
  refine v_iload_n C 2 dX1_loseStones_12 rfl rfl ?_
  refine v_isub C dX1_loseStones_13 ?_
  refine v_nmax C mw_X1_74 (by omega) (Nat.le_of_ble_eq_true rfl) ⟨Nat.le_refl _, Nat.le_refl _⟩ dX1_loseStones_14 ?_
  obtain ⟨G4, qG4, hf⟩ := bn hf
  refine v_iast C h_a1 qG4 hC dX1_loseStones_17 (fun hC => ?_)
  refine v_aload_n C 0 dX1_loseStones_18 rfl rfl ?_
  obtain ⟨a5, qa5, hf⟩ := bn hf
  refine v_getA C h_l0 fl_X1_9 qa5 dX1_loseStones_19 (fun h_a5 => ?_)
  refine v_iload_n C 1 dX1_loseStones_22 rfl rfl ?_
  obtain ⟨v6, qv6, hf⟩ := bn hf
  refine v_iald C h_a5 qv6 dX1_loseStones_23 ?_
  refine v_if_ne (tgt := 34) C dX1_loseStones_24 (by decide) (fun c7 => ?_) (fun c7 => ?_)
  · have hf := im hf c7
    cases hf
    exact kr _ _ dX1_loseStones_34 hC
  · have hf := ip hf c7
    refine v_aload_n C 0 dX1_loseStones_27 rfl rfl ?_
    obtain ⟨a8, qa8, hf⟩ := bn hf
    refine v_getA C h_l0 fl_X1_15 qa8 dX1_loseStones_28 (fun h_a8 => ?_)
    refine v_iload_n C 1 dX1_loseStones_31 rfl rfl ?_
    refine v_iconst (v := 2) C dX1_loseStones_32 (by decide) ?_
    obtain ⟨G9, qG9, hf⟩ := bn hf
    refine v_iast C h_a8 qG9 hC dX1_loseStones_33 (fun hC => ?_)
    cases hf
    exact kr _ _ dX1_loseStones_34 hC
theorem sX1_loseStones {l : Launch} {sh : Sh} {G : Hp} {l0 : Nat} {l1 : Int32} {l2 : Int32} {z : Hp} (h_l0 : sh[l0]? = some (0, 1)) (hf : fX1_loseStones sh G l0 l1 l2 = some z) : MC l yX1_loseStones cX1_loseStones 3 none 2 0 0 sh sh G z (fun ad => [.ref (ad l0), .int l1, .int l2]) (fun _ => none) := by
  refine MC_of rfl rfl (fun _ => Nat.le_of_ble_eq_true rfl) (fun E ad C hl hnm hC hQ => ?_)
  exact tX1_loseStones C hC h_l0 hf (fun pc lv hd hC => v_vret C hQ (fun _ _ => rfl) hC rfl hd)
def fX3_passYear_S3 (sh : Sh) (l0 : Nat) (l1 : Nat) (l2 : Nat) (l3 : Int32) (G : Hp) (l4 : Int32) : Option ((Hp × Int32) ⊕ ((Hp))) := if (G.1 l1 3) ≤ l4 then some (.inr G) else (ldA sh G l0 1 1).bind fun a2 => (ldA sh G l2 1 1).bind fun a3 => (aI sh G a3 l4).bind fun v4 => if v4 = 1 then bp (fX3_wearsOf sh G l0 l1 l2 l4) fun r8 G9 => (asI sh G9 a2 l4 (r8 + l3)).bind fun G10 => bd ((l4 + 1) : Int32) fun x11 => some (.inl (G10, x11)) else (asI sh G a2 l4 0).bind fun G6 => bd ((l4 + 1) : Int32) fun x7 => some (.inl (G6, x7))
set_option maxHeartbeats 4000000 in
theorem tX3_passYear_S3 {E : EX} {ad : Nat → Nat} {sh : Sh} {G : Hp} {l0 : Nat} {l1 : Nat} {l2 : Nat} {l3 : Int32} {l4 : Int32} {o : (Hp × Int32) ⊕ ((Hp))} (C : Cx E RX3 cX3_passYear 5 none 5 0 0) (hC : Cl sh G) (h_l0 : sh[l0]? = some (0, 3)) (h_l1 : sh[l1]? = some (0, 8)) (h_l2 : sh[l2]? = some (0, 1)) (hf : fX3_passYear_S3 sh l0 l1 l2 l3 G l4 = some o) (kb : ∀ (G2 : Hp) (b_l4 : Int32), o = .inl (G2, b_l4) → Cl sh G2 → VV E 0 0 (wq (xT E) ad G2 sh) 3 [(0, .ref (ad l0)), (1, .ref (ad l1)), (2, .ref (ad l2)), (3, .int l3), (4, .int b_l4)] []) (kx50 : ∀ (G2 : Hp), o = .inr G2 → Cl sh G2 → VV E 0 0 (wq (xT E) ad G2 sh) 50 [(0, .ref (ad l0)), (1, .ref (ad l1)), (2, .ref (ad l2)), (3, .int l3)] []) : VV E 0 0 (wq (xT E) ad G sh) 3 [(0, .ref (ad l0)), (1, .ref (ad l1)), (2, .ref (ad l2)), (3, .int l3), (4, .int l4)] [] := by
  unfold fX3_passYear_S3 at hf
  refine v_iload C 4 dX3_passYear_3 rfl ?_
  refine v_aload_n C 1 dX3_passYear_5 rfl rfl ?_
  refine v_getI C h_l1 fl_X3_112 dX3_passYear_6 ?_
  refine v_icmp_ge (tgt := 50) C dX3_passYear_9 (by decide) (fun c1 => ?_) (fun c1 => ?_)
  · have hf := ip hf c1
    cases hf
    refine v_sub [0, 1, 2, 3] rfl ?_
    exact kx50 _ rfl hC
  · have hf := im hf c1
    refine v_aload_n C 0 dX3_passYear_12 rfl rfl ?_
    obtain ⟨a2, qa2, hf⟩ := bn hf
    refine v_getA C h_l0 fl_X3_15 qa2 dX3_passYear_13 (fun h_a2 => ?_)
    refine v_iload C 4 dX3_passYear_16 rfl ?_
    refine v_aload_n C 2 dX3_passYear_18 rfl rfl ?_
    obtain ⟨a3, qa3, hf⟩ := bn hf
    refine v_getA C h_l2 fl_X3_109 qa3 dX3_passYear_19 (fun h_a3 => ?_)
    refine v_iload C 4 dX3_passYear_22 rfl ?_
    obtain ⟨v4, qv4, hf⟩ := bn hf
    refine v_iald C h_a3 qv4 dX3_passYear_24 ?_
    refine v_iconst (v := 1) C dX3_passYear_25 (by decide) ?_
    refine v_icmp_ne (tgt := 42) C dX3_passYear_26 (by decide) (fun c5 => ?_) (fun c5 => ?_)
    · have hf := im hf c5
      refine v_iconst (v := 0) C dX3_passYear_42 (by decide) ?_
      obtain ⟨G6, qG6, hf⟩ := bn hf
      refine v_iast C h_a2 qG6 hC dX3_passYear_43 (fun hC => ?_)
      obtain ⟨x7, ex7⟩ : ∃ x : Int32, x = (l4 + 1) := ⟨_, rfl⟩
      have hf := bd_at hf ex7
      refine v_iinc (v := x7) (j := 4) (lv2 := [(4, .int x7), (0, .ref (ad l0)), (1, .ref (ad l1)), (2, .ref (ad l2)), (3, .int l3)]) C dX3_passYear_44 rfl (by rw [ex7]; rfl) (by decide) rfl ?_
      refine v_goto (tgt := 3) C dX3_passYear_47 (by decide) ?_
      cases hf
      refine v_sub [1, 2, 3, 4, 0] rfl ?_
      exact kb _ _ rfl hC
    · have hf := ip hf c5
      refine v_aload_n C 0 dX3_passYear_29 rfl rfl ?_
      refine v_aload_n C 1 dX3_passYear_30 rfl rfl ?_
      refine v_aload_n C 2 dX3_passYear_31 rfl rfl ?_
      refine v_iload C 4 dX3_passYear_32 rfl ?_
      obtain ⟨r8, G9, qr8, hf⟩ := bpn hf
      refine v_callVi (As := [.ref (ad l1), .ref (ad l2), .int l4]) (rest := [.int l4, .ref (ad a2)]) C (sX3_wearsOf h_l0 h_l1 h_l2 qr8) cs_X3_115 (by decide) h_l0 rfl hC rfl rfl rfl (Nat.le_of_ble_eq_true rfl) ⟨Nat.le_refl _, Nat.le_refl _⟩ dX3_passYear_34 (fun hC => ?_)
      refine v_iload_n C 3 dX3_passYear_37 rfl rfl ?_
      refine v_iadd C dX3_passYear_38 ?_
      refine v_goto (tgt := 43) C dX3_passYear_39 (by decide) ?_
      obtain ⟨G10, qG10, hf⟩ := bn hf
      refine v_iast C h_a2 qG10 hC dX3_passYear_43 (fun hC => ?_)
      obtain ⟨x11, ex11⟩ : ∃ x : Int32, x = (l4 + 1) := ⟨_, rfl⟩
      have hf := bd_at hf ex11
      refine v_iinc (v := x11) (j := 4) (lv2 := [(4, .int x11), (0, .ref (ad l0)), (1, .ref (ad l1)), (2, .ref (ad l2)), (3, .int l3)]) C dX3_passYear_44 rfl (by rw [ex11]; rfl) (by decide) rfl ?_
      refine v_goto (tgt := 3) C dX3_passYear_47 (by decide) ?_
      cases hf
      refine v_sub [1, 2, 3, 4, 0] rfl ?_
      exact kb _ _ rfl hC
def fX3_passYear_S53 (sh : Sh) (l0 : Nat) (l1 : Nat) (l2 : Nat) (G : Hp) (l4 : Int32) : Option ((Hp × Int32) ⊕ ((Hp))) := if (G.1 l1 3) ≤ l4 then some (.inr G) else (ldA sh G l2 1 1).bind fun a2 => (aI sh G a2 l4).bind fun v3 => if v3 = 1 then (ldA sh G l2 2 1).bind fun a6 => (aI sh G a6 l4).bind fun v7 => (asI sh G a6 l4 (v7 + 1)).bind fun G8 => (ldA sh G8 l0 1 1).bind fun a9 => (aI sh G8 a9 l4).bind fun v10 => (fX1_loseStones sh G8 l2 l4 v10).bind fun G12 => bd ((l4 + 1) : Int32) fun x13 => some (.inl (G12, x13)) else bd ((l4 + 1) : Int32) fun x5 => some (.inl (G, x5))
set_option maxHeartbeats 4000000 in
theorem tX3_passYear_S53 {E : EX} {ad : Nat → Nat} {sh : Sh} {G : Hp} {l0 : Nat} {l1 : Nat} {l2 : Nat} {l4 : Int32} {o : (Hp × Int32) ⊕ ((Hp))} (C : Cx E RX3 cX3_passYear 5 none 5 0 0) (hC : Cl sh G) (h_l0 : sh[l0]? = some (0, 3)) (h_l1 : sh[l1]? = some (0, 8)) (h_l2 : sh[l2]? = some (0, 1)) (hf : fX3_passYear_S53 sh l0 l1 l2 G l4 = some o) (kb : ∀ (G2 : Hp) (b_l4 : Int32), o = .inl (G2, b_l4) → Cl sh G2 → VV E 0 0 (wq (xT E) ad G2 sh) 53 [(0, .ref (ad l0)), (1, .ref (ad l1)), (2, .ref (ad l2)), (4, .int b_l4)] []) (kx103 : ∀ (G2 : Hp), o = .inr G2 → Cl sh G2 → VV E 0 0 (wq (xT E) ad G2 sh) 103 [(0, .ref (ad l0)), (1, .ref (ad l1)), (2, .ref (ad l2))] []) : VV E 0 0 (wq (xT E) ad G sh) 53 [(0, .ref (ad l0)), (1, .ref (ad l1)), (2, .ref (ad l2)), (4, .int l4)] [] := by
  unfold fX3_passYear_S53 at hf
  refine v_iload C 3 dX3_passYear_53 rfl ?_
  refine v_aload_n C 1 dX3_passYear_55 rfl rfl ?_
  refine v_getI C h_l1 fl_X3_112 dX3_passYear_56 ?_
  refine v_icmp_ge (tgt := 103) C dX3_passYear_59 (by decide) (fun c1 => ?_) (fun c1 => ?_)
  · have hf := ip hf c1
    cases hf
    refine v_sub [0, 1, 2] rfl ?_
    exact kx103 _ rfl hC
  · have hf := im hf c1
    refine v_aload_n C 2 dX3_passYear_62 rfl rfl ?_
    obtain ⟨a2, qa2, hf⟩ := bn hf
    refine v_getA C h_l2 fl_X3_109 qa2 dX3_passYear_63 (fun h_a2 => ?_)
    refine v_iload C 3 dX3_passYear_66 rfl ?_
    obtain ⟨v3, qv3, hf⟩ := bn hf
    refine v_iald C h_a2 qv3 dX3_passYear_68 ?_
    refine v_iconst (v := 1) C dX3_passYear_69 (by decide) ?_
    refine v_icmp_ne (tgt := 97) C dX3_passYear_70 (by decide) (fun c4 => ?_) (fun c4 => ?_)
    · have hf := im hf c4
      obtain ⟨x5, ex5⟩ : ∃ x : Int32, x = (l4 + 1) := ⟨_, rfl⟩
      have hf := bd_at hf ex5
      refine v_iinc (v := x5) (j := 3) (lv2 := [(4, .int x5), (0, .ref (ad l0)), (1, .ref (ad l1)), (2, .ref (ad l2))]) C dX3_passYear_97 rfl (by rw [ex5]; rfl) (by decide) rfl ?_
      refine v_goto (tgt := 53) C dX3_passYear_100 (by decide) ?_
      cases hf
      refine v_sub [1, 2, 3, 0] rfl ?_
      exact kb _ _ rfl hC
    · have hf := ip hf c4
      refine v_aload_n C 2 dX3_passYear_73 rfl rfl ?_
      obtain ⟨a6, qa6, hf⟩ := bn hf
      refine v_getA C h_l2 fl_X3_73 qa6 dX3_passYear_74 (fun h_a6 => ?_)
      refine v_iload C 3 dX3_passYear_77 rfl ?_
      refine v_dup2 C dX3_passYear_79 rfl rfl ?_
      obtain ⟨v7, qv7, hf⟩ := bn hf
      refine v_iald C h_a6 qv7 dX3_passYear_80 ?_
      refine v_iconst (v := 1) C dX3_passYear_81 (by decide) ?_
      refine v_iadd C dX3_passYear_82 ?_
      obtain ⟨G8, qG8, hf⟩ := bn hf
      refine v_iast C h_a6 qG8 hC dX3_passYear_83 (fun hC => ?_)
      refine v_aload_n C 2 dX3_passYear_84 rfl rfl ?_
      refine v_iload C 3 dX3_passYear_85 rfl ?_
      refine v_aload_n C 0 dX3_passYear_87 rfl rfl ?_
      obtain ⟨a9, qa9, hf⟩ := bn hf
      refine v_getA C h_l0 fl_X3_15 qa9 dX3_passYear_88 (fun h_a9 => ?_)
      refine v_iload C 3 dX3_passYear_91 rfl ?_
      obtain ⟨v10, qv10, hf⟩ := bn hf
      refine v_iald C h_a9 qv10 dX3_passYear_93 ?_
      obtain ⟨G12, qr11, hf⟩ := bn hf
      refine v_callVv (As := [.int l4, .int v10]) (rest := []) C (sX1_loseStones h_l2 qr11) cs_X3_119 (by decide) h_l2 rfl hC rfl rfl rfl (Nat.le_of_ble_eq_true rfl) ⟨Nat.le_refl _, Nat.le_refl _⟩ dX3_passYear_94 (fun hC => ?_)
      obtain ⟨x13, ex13⟩ : ∃ x : Int32, x = (l4 + 1) := ⟨_, rfl⟩
      have hf := bd_at hf ex13
      refine v_iinc (v := x13) (j := 3) (lv2 := [(4, .int x13), (0, .ref (ad l0)), (1, .ref (ad l1)), (2, .ref (ad l2))]) C dX3_passYear_97 rfl (by rw [ex13]; rfl) (by decide) rfl ?_
      refine v_goto (tgt := 53) C dX3_passYear_100 (by decide) ?_
      cases hf
      refine v_sub [1, 2, 3, 0] rfl ?_
      exact kb _ _ rfl hC
def fX3_passYear (sh : Sh) (G : Hp) (l0 : Nat) (l1 : Nat) (l2 : Nat) (l3 : Int32) : Option (Hp) := (iter (fun s : Hp × Int32 => fX3_passYear_S3 sh l0 l1 l2 l3 s.1 s.2) fuel ((G, 0) : Hp × Int32)).bind (fun u7 => bd u7 fun G2 => (iter (fun s : Hp × Int32 => fX3_passYear_S53 sh l0 l1 l2 s.1 s.2) fuel ((G2, 0) : Hp × Int32)).bind (fun u6 => bd u6 fun G4 => bd (sI G4 l2 8 ((G4.1 l2 8) + 1)) fun G5 => some G5))
set_option maxHeartbeats 4000000 in
theorem tX3_passYear {E : EX} {ad : Nat → Nat} {sh : Sh} {G : Hp} {l0 : Nat} {l1 : Nat} {l2 : Nat} {l3 : Int32} {z : Hp} (C : Cx E RX3 cX3_passYear 5 none 5 0 0) (hC : Cl sh G) (h_l0 : sh[l0]? = some (0, 3)) (h_l1 : sh[l1]? = some (0, 8)) (h_l2 : sh[l2]? = some (0, 1)) (hf : fX3_passYear sh G l0 l1 l2 l3 = some z) (kr : RCv E cX3_passYear ad sh z) : VV E 0 0 (wq (xT E) ad G sh) 0 [(0, .ref (ad l0)), (1, .ref (ad l1)), (2, .ref (ad l2)), (3, .int l3)] [] := by
  unfold fX3_passYear at hf
  refine v_iconst (v := 0) C dX3_passYear_0 (by decide) ?_
  refine v_istore (lv2 := [(4, .int 0), (0, .ref (ad l0)), (1, .ref (ad l1)), (2, .ref (ad l2)), (3, .int l3)]) C dX3_passYear_1 (by decide) rfl ?_
  obtain ⟨r1, qr1, hf⟩ := bn hf
  refine v_sub [1, 2, 3, 4, 0] rfl ?_
  refine iter_sound (P := (fun s : Hp × Int32 => Cl sh (s.1) → VV E 0 0 (wq (xT E) ad (s.1) sh) 3 [(0, .ref (ad l0)), (1, .ref (ad l1)), (2, .ref (ad l2)), (3, .int (l3)), (4, .int (s.2))] [])) (X := fun r => r = r1) (fun jsr1 jor1 hor1 jbr1 jxr1 hC => tX3_passYear_S3 C hC h_l0 h_l1 h_l2 hor1 (fun _ _ e => jbr1 _ e) ?_) fuel _ r1 qr1 rfl hC
  · intro G2 hu hC
    have e := jxr1 _ hu
    subst e
    have hf := bd_at hf (rfl : G2 = _)
    refine v_iconst (v := 0) C dX3_passYear_50 (by decide) ?_
    refine v_istore (lv2 := [(4, .int 0), (0, .ref (ad l0)), (1, .ref (ad l1)), (2, .ref (ad l2)), (3, .int l3)]) C dX3_passYear_51 (by decide) rfl ?_
    obtain ⟨r3, qr3, hf⟩ := bn hf
    refine v_sub [1, 2, 3, 0] rfl ?_
    refine iter_sound (P := (fun s : Hp × Int32 => Cl sh (s.1) → VV E 0 0 (wq (xT E) ad (s.1) sh) 53 [(0, .ref (ad l0)), (1, .ref (ad l1)), (2, .ref (ad l2)), (4, .int (s.2))] [])) (X := fun r => r = r3) (fun jsr3 jor3 hor3 jbr3 jxr3 hC => tX3_passYear_S53 C hC h_l0 h_l1 h_l2 hor3 (fun _ _ e => jbr3 _ e) ?_) fuel _ r3 qr3 rfl hC
    · intro G4 hu hC
      have e := jxr3 _ hu
      subst e
      have hf := bd_at hf (rfl : G4 = _)
      refine v_aload_n C 2 dX3_passYear_103 rfl rfl ?_
      refine v_dup C dX3_passYear_104 rfl ?_
      refine v_getI C h_l2 fl_X3_69 dX3_passYear_105 ?_
      refine v_iconst (v := 1) C dX3_passYear_108 (by decide) ?_
      refine v_iadd C dX3_passYear_109 ?_
      refine v_putI C h_l2 fp_X3_69 dX3_passYear_110 (fun G5 eG5 => ?_)
      have hf := bd_at hf eG5
      have hC : Cl sh G5 := by rw [eG5]; exact hC
      cases hf
      exact kr _ _ dX3_passYear_113 hC
theorem sX3_passYear {l : Launch} {sh : Sh} {G : Hp} {l0 : Nat} {l1 : Nat} {l2 : Nat} {l3 : Int32} {z : Hp} (h_l0 : sh[l0]? = some (0, 3)) (h_l1 : sh[l1]? = some (0, 8)) (h_l2 : sh[l2]? = some (0, 1)) (hf : fX3_passYear sh G l0 l1 l2 l3 = some z) : MC l yX3_passYear cX3_passYear 5 none 5 0 0 sh sh G z (fun ad => [.ref (ad l0), .ref (ad l1), .ref (ad l2), .int l3]) (fun _ => none) := by
  refine MC_of rfl rfl (fun _ => Nat.le_of_ble_eq_true rfl) (fun E ad C hl hnm hC hQ => ?_)
  exact tX3_passYear C hC h_l0 h_l1 h_l2 hf (fun pc lv hd hC => v_vret C hQ (fun _ _ => rfl) hC rfl hd)
def fX3_yearsToFall_S25 (sh : Sh) (l0 : Nat) (l1 : Nat) (l3 : Int32) (G : Hp) (l5 : Int32) : Option ((Hp × Int32) ⊕ ((Hp × Int32))) := if 200 < l5 then some (.inr (G, l5)) else (ldO sh G l0 2 1).bind fun a2 => (ldA sh G a2 1 1).bind fun a3 => (aI sh G a3 l3).bind fun v4 => if v4 = 1 then (ldO sh G l0 2 1).bind fun a6 => (fX3_passYear sh G l0 l1 a6 0).bind fun G8 => bd ((l5 + 1) : Int32) fun x9 => some (.inl (G8, x9)) else some (.inr (G, l5))
set_option maxHeartbeats 4000000 in
theorem tX3_yearsToFall_S25 {E : EX} {ad : Nat → Nat} {sh : Sh} {G : Hp} {l0 : Nat} {l1 : Nat} {l3 : Int32} {l5 : Int32} {o : (Hp × Int32) ⊕ ((Hp × Int32))} (C : Cx E RX3 cX3_yearsToFall 6 (some .int) 6 0 0) (hC : Cl sh G) (h_l0 : sh[l0]? = some (0, 3)) (h_l1 : sh[l1]? = some (0, 8)) (hf : fX3_yearsToFall_S25 sh l0 l1 l3 G l5 = some o) (kb : ∀ (G2 : Hp) (b_l5 : Int32), o = .inl (G2, b_l5) → Cl sh G2 → VV E 0 0 (wq (xT E) ad G2 sh) 25 [(0, .ref (ad l0)), (1, .ref (ad l1)), (3, .int l3), (5, .int b_l5)] []) (kx62 : ∀ (G2 : Hp) (b_l5 : Int32), o = .inr (G2, b_l5) → Cl sh G2 → VV E 0 0 (wq (xT E) ad G2 sh) 62 [(0, .ref (ad l0)), (1, .ref (ad l1)), (3, .int l3), (5, .int b_l5)] []) : VV E 0 0 (wq (xT E) ad G sh) 25 [(0, .ref (ad l0)), (1, .ref (ad l1)), (3, .int l3), (5, .int l5)] [] := by
  unfold fX3_yearsToFall_S25 at hf
  refine v_iload C 3 dX3_yearsToFall_25 rfl ?_
  refine v_sipush (v := 200) C dX3_yearsToFall_27 (by decide) ?_
  refine v_icmp_gt (tgt := 62) C dX3_yearsToFall_30 (by decide) (fun c1 => ?_) (fun c1 => ?_)
  · have hf := ip hf c1
    cases hf
    refine v_sub [0, 1, 2, 3] rfl ?_
    exact kx62 _ _ rfl hC
  · have hf := im hf c1
    refine v_aload_n C 0 dX3_yearsToFall_33 rfl rfl ?_
    obtain ⟨a2, qa2, hf⟩ := bn hf
    refine v_getO C h_l0 fl_X3_21 qa2 dX3_yearsToFall_34 (fun h_a2 => ?_)
    obtain ⟨a3, qa3, hf⟩ := bn hf
    refine v_getA C h_a2 fl_X3_109 qa3 dX3_yearsToFall_37 (fun h_a3 => ?_)
    refine v_iload_n C 2 dX3_yearsToFall_40 rfl rfl ?_
    obtain ⟨v4, qv4, hf⟩ := bn hf
    refine v_iald C h_a3 qv4 dX3_yearsToFall_41 ?_
    refine v_iconst (v := 1) C dX3_yearsToFall_42 (by decide) ?_
    refine v_icmp_ne (tgt := 62) C dX3_yearsToFall_43 (by decide) (fun c5 => ?_) (fun c5 => ?_)
    · have hf := im hf c5
      cases hf
      refine v_sub [0, 1, 2, 3] rfl ?_
      exact kx62 _ _ rfl hC
    · have hf := ip hf c5
      refine v_aload_n C 0 dX3_yearsToFall_46 rfl rfl ?_
      refine v_aload_n C 1 dX3_yearsToFall_47 rfl rfl ?_
      refine v_aload_n C 0 dX3_yearsToFall_48 rfl rfl ?_
      obtain ⟨a6, qa6, hf⟩ := bn hf
      refine v_getO C h_l0 fl_X3_21 qa6 dX3_yearsToFall_49 (fun h_a6 => ?_)
      refine v_iconst (v := 0) C dX3_yearsToFall_52 (by decide) ?_
      obtain ⟨G8, qr7, hf⟩ := bn hf
      refine v_callVv (As := [.ref (ad l1), .ref (ad a6), .int 0]) (rest := []) C (sX3_passYear h_l0 h_l1 h_a6 qr7) cs_X3_98 (by decide) h_l0 rfl hC rfl rfl rfl (Nat.le_of_ble_eq_true rfl) ⟨Nat.le_refl _, Nat.le_refl _⟩ dX3_yearsToFall_53 (fun hC => ?_)
      obtain ⟨x9, ex9⟩ : ∃ x : Int32, x = (l5 + 1) := ⟨_, rfl⟩
      have hf := bd_at hf ex9
      refine v_iinc (v := x9) (j := 3) (lv2 := [(5, .int x9), (0, .ref (ad l0)), (1, .ref (ad l1)), (3, .int l3)]) C dX3_yearsToFall_56 rfl (by rw [ex9]; rfl) (by decide) rfl ?_
      refine v_goto (tgt := 25) C dX3_yearsToFall_59 (by decide) ?_
      cases hf
      refine v_sub [1, 2, 3, 0] rfl ?_
      exact kb _ _ rfl hC
def fX3_yearsToFall (sh : Sh) (G : Hp) (l0 : Nat) (l1 : Nat) (l2 : Nat) (l3 : Int32) (l4 : Int32) : Option (Int32 × Hp) := (ldO sh G l0 2 1).bind fun a1 => (fX1_copyFrom sh G a1 l2).bind fun G3 => (ldO sh G3 l0 2 1).bind fun a4 => (ldA sh G3 a4 0 1).bind fun a5 => (aI sh G3 a5 l3).bind fun v6 => (asI sh G3 a5 l3 (v6 + l4)).bind fun G7 => (iter (fun s : Hp × Int32 => fX3_yearsToFall_S25 sh l0 l1 l3 s.1 s.2) fuel ((G7, 0) : Hp × Int32)).bind (fun u11 => bd u11.1 fun G9 => bd u11.2 fun x10 => some (x10, G9))
set_option maxHeartbeats 4000000 in
theorem tX3_yearsToFall {E : EX} {ad : Nat → Nat} {sh : Sh} {G : Hp} {l0 : Nat} {l1 : Nat} {l2 : Nat} {l3 : Int32} {l4 : Int32} {z : Int32 × Hp} (C : Cx E RX3 cX3_yearsToFall 6 (some .int) 6 0 0) (hC : Cl sh G) (h_l0 : sh[l0]? = some (0, 3)) (h_l1 : sh[l1]? = some (0, 8)) (h_l2 : sh[l2]? = some (0, 1)) (hf : fX3_yearsToFall sh G l0 l1 l2 l3 l4 = some z) (kr : RCi E cX3_yearsToFall ad sh (z.1) (z.2)) : VV E 0 0 (wq (xT E) ad G sh) 0 [(0, .ref (ad l0)), (1, .ref (ad l1)), (2, .ref (ad l2)), (3, .int l3), (4, .int l4)] [] := by
  unfold fX3_yearsToFall at hf
  refine v_aload_n C 0 dX3_yearsToFall_0 rfl rfl ?_
  obtain ⟨a1, qa1, hf⟩ := bn hf
  refine v_getO C h_l0 fl_X3_21 qa1 dX3_yearsToFall_1 (fun h_a1 => ?_)
  refine v_aload_n C 2 dX3_yearsToFall_4 rfl rfl ?_
  obtain ⟨G3, qr2, hf⟩ := bn hf
  refine v_callVv (As := [.ref (ad l2)]) (rest := []) C (sX1_copyFrom h_a1 h_l2 qr2) cs_X3_101 (by decide) h_a1 rfl hC rfl rfl rfl (Nat.le_of_ble_eq_true rfl) ⟨Nat.le_refl _, Nat.le_refl _⟩ dX3_yearsToFall_5 (fun hC => ?_)
  refine v_aload_n C 0 dX3_yearsToFall_8 rfl rfl ?_
  obtain ⟨a4, qa4, hf⟩ := bn hf
  refine v_getO C h_l0 fl_X3_21 qa4 dX3_yearsToFall_9 (fun h_a4 => ?_)
  obtain ⟨a5, qa5, hf⟩ := bn hf
  refine v_getA C h_a4 fl_X3_63 qa5 dX3_yearsToFall_12 (fun h_a5 => ?_)
  refine v_iload_n C 3 dX3_yearsToFall_15 rfl rfl ?_
  refine v_dup2 C dX3_yearsToFall_16 rfl rfl ?_
  obtain ⟨v6, qv6, hf⟩ := bn hf
  refine v_iald C h_a5 qv6 dX3_yearsToFall_17 ?_
  refine v_iload C 4 dX3_yearsToFall_18 rfl ?_
  refine v_iadd C dX3_yearsToFall_20 ?_
  obtain ⟨G7, qG7, hf⟩ := bn hf
  refine v_iast C h_a5 qG7 hC dX3_yearsToFall_21 (fun hC => ?_)
  refine v_iconst (v := 0) C dX3_yearsToFall_22 (by decide) ?_
  refine v_istore (lv2 := [(5, .int 0), (0, .ref (ad l0)), (1, .ref (ad l1)), (2, .ref (ad l2)), (3, .int l3), (4, .int l4)]) C dX3_yearsToFall_23 (by decide) rfl ?_
  obtain ⟨r8, qr8, hf⟩ := bn hf
  refine v_sub [1, 2, 4, 0] rfl ?_
  refine iter_sound (P := (fun s : Hp × Int32 => Cl sh (s.1) → VV E 0 0 (wq (xT E) ad (s.1) sh) 25 [(0, .ref (ad l0)), (1, .ref (ad l1)), (3, .int (l3)), (5, .int (s.2))] [])) (X := fun r => r = r8) (fun jsr8 jor8 hor8 jbr8 jxr8 hC => tX3_yearsToFall_S25 C hC h_l0 h_l1 hor8 (fun _ _ e => jbr8 _ e) ?_) fuel _ r8 qr8 rfl hC
  · intro G9 x10 hu hC
    have e := jxr8 _ hu
    subst e
    have hf := bd_at hf (rfl : G9 = _)
    have hf := bd_at hf (rfl : x10 = _)
    refine v_iload C 3 dX3_yearsToFall_62 rfl ?_
    cases hf
    exact kr _ _ dX3_yearsToFall_64 hC
theorem sX3_yearsToFall {l : Launch} {sh : Sh} {G : Hp} {l0 : Nat} {l1 : Nat} {l2 : Nat} {l3 : Int32} {l4 : Int32} {z : Int32 × Hp} (h_l0 : sh[l0]? = some (0, 3)) (h_l1 : sh[l1]? = some (0, 8)) (h_l2 : sh[l2]? = some (0, 1)) (hf : fX3_yearsToFall sh G l0 l1 l2 l3 l4 = some z) : MC l yX3_yearsToFall cX3_yearsToFall 6 (some .int) 6 0 0 sh sh G (z.2) (fun ad => [.ref (ad l0), .ref (ad l1), .ref (ad l2), .int l3, .int l4]) (fun _ => some (.int z.1)) := by
  refine MC_of rfl rfl (fun _ => Nat.le_of_ble_eq_true rfl) (fun E ad C hl hnm hC hQ => ?_)
  exact tX3_yearsToFall C hC h_l0 h_l1 h_l2 hf (fun pc lv hd hC => v_iret C hQ (fun _ _ => rfl) hC rfl hd)
def fX10_yearsGained (sh : Sh) (G : Hp) (l0 : Nat) (l1 : Int32) : Option (Int32 × Hp) := (ldO sh G l0 4 3).bind fun a1 => (ldO sh G l0 2 8).bind fun a2 => (ldO sh G l0 3 1).bind fun a3 => bp (fX3_yearsToFall sh G a1 a2 a3 l1 0) fun r4 G5 => if r4 ≤ 200 then (ldO sh G5 l0 4 3).bind fun a7 => (ldO sh G5 l0 2 8).bind fun a8 => (ldO sh G5 l0 3 1).bind fun a9 => bp (fX3_yearsToFall sh G5 a7 a8 a9 l1 1) fun r10 G11 => if r10 ≤ 200 then some ((r10 - r4), G11) else some (r10, G11) else some (0, G5)
set_option maxHeartbeats 4000000 in
theorem tX10_yearsGained {E : EX} {ad : Nat → Nat} {sh : Sh} {G : Hp} {l0 : Nat} {l1 : Int32} {z : Int32 × Hp} (C : Cx E RX10 cX10_yearsGained 4 (some .int) 7 0 0) (hC : Cl sh G) (h_l0 : sh[l0]? = some (0, 10)) (hf : fX10_yearsGained sh G l0 l1 = some z) (kr : RCi E cX10_yearsGained ad sh (z.1) (z.2)) : VV E 0 0 (wq (xT E) ad G sh) 0 [(0, .ref (ad l0)), (1, .int l1)] [] := by
  unfold fX10_yearsGained at hf
  refine v_aload_n C 0 dX10_yearsGained_0 rfl rfl ?_
  obtain ⟨a1, qa1, hf⟩ := bn hf
  refine v_getO C h_l0 fl_X10_37 qa1 dX10_yearsGained_1 (fun h_a1 => ?_)
  refine v_aload_n C 0 dX10_yearsGained_4 rfl rfl ?_
  obtain ⟨a2, qa2, hf⟩ := bn hf
  refine v_getO C h_l0 fl_X10_23 qa2 dX10_yearsGained_5 (fun h_a2 => ?_)
  refine v_aload_n C 0 dX10_yearsGained_8 rfl rfl ?_
  obtain ⟨a3, qa3, hf⟩ := bn hf
  refine v_getO C h_l0 fl_X10_30 qa3 dX10_yearsGained_9 (fun h_a3 => ?_)
  refine v_iload_n C 1 dX10_yearsGained_12 rfl rfl ?_
  refine v_iconst (v := 0) C dX10_yearsGained_13 (by decide) ?_
  obtain ⟨r4, G5, qr4, hf⟩ := bpn hf
  refine v_callVi (As := [.ref (ad a2), .ref (ad a3), .int l1, .int 0]) (rest := []) C (sX3_yearsToFall h_a1 h_a2 h_a3 qr4) cs_X10_282 (by decide) h_a1 rfl hC rfl rfl rfl (Nat.le_of_ble_eq_true rfl) ⟨Nat.le_refl _, Nat.le_refl _⟩ dX10_yearsGained_14 (fun hC => ?_)
  refine v_istore_n (lv2 := [(2, .int r4), (0, .ref (ad l0)), (1, .int l1)]) C dX10_yearsGained_17 rfl (by decide) rfl ?_
  refine v_iload_n C 0 dX10_yearsGained_18 rfl rfl ?_
  refine v_sipush (v := 200) C dX10_yearsGained_19 (by decide) ?_
  refine v_icmp_le (tgt := 27) C dX10_yearsGained_22 (by decide) (fun c6 => ?_) (fun c6 => ?_)
  · have hf := ip hf c6
    refine v_aload_n C 1 dX10_yearsGained_27 rfl rfl ?_
    obtain ⟨a7, qa7, hf⟩ := bn hf
    refine v_getO C h_l0 fl_X10_37 qa7 dX10_yearsGained_28 (fun h_a7 => ?_)
    refine v_aload_n C 1 dX10_yearsGained_31 rfl rfl ?_
    obtain ⟨a8, qa8, hf⟩ := bn hf
    refine v_getO C h_l0 fl_X10_23 qa8 dX10_yearsGained_32 (fun h_a8 => ?_)
    refine v_aload_n C 1 dX10_yearsGained_35 rfl rfl ?_
    obtain ⟨a9, qa9, hf⟩ := bn hf
    refine v_getO C h_l0 fl_X10_30 qa9 dX10_yearsGained_36 (fun h_a9 => ?_)
    refine v_iload_n C 2 dX10_yearsGained_39 rfl rfl ?_
    refine v_iconst (v := 1) C dX10_yearsGained_40 (by decide) ?_
    obtain ⟨r10, G11, qr10, hf⟩ := bpn hf
    refine v_callVi (As := [.ref (ad a8), .ref (ad a9), .int l1, .int 1]) (rest := []) C (sX3_yearsToFall h_a7 h_a8 h_a9 qr10) cs_X10_282 (by decide) h_a7 rfl hC rfl rfl rfl (Nat.le_of_ble_eq_true rfl) ⟨Nat.le_refl _, Nat.le_refl _⟩ dX10_yearsGained_41 (fun hC => ?_)
    refine v_istore_n (lv2 := [(3, .int r10), (2, .int r4), (0, .ref (ad l0)), (1, .int l1)]) C dX10_yearsGained_44 rfl (by decide) rfl ?_
    refine v_iload_n C 0 dX10_yearsGained_45 rfl rfl ?_
    refine v_sipush (v := 200) C dX10_yearsGained_46 (by decide) ?_
    refine v_icmp_le (tgt := 56) C dX10_yearsGained_49 (by decide) (fun c12 => ?_) (fun c12 => ?_)
    · have hf := ip hf c12
      refine v_iload_n C 0 dX10_yearsGained_56 rfl rfl ?_
      refine v_iload_n C 1 dX10_yearsGained_57 rfl rfl ?_
      refine v_isub C dX10_yearsGained_58 ?_
      cases hf
      exact kr _ _ dX10_yearsGained_59 hC
    · have hf := im hf c12
      refine v_iload_n C 0 dX10_yearsGained_52 rfl rfl ?_
      refine v_goto (tgt := 59) C dX10_yearsGained_53 (by decide) ?_
      cases hf
      exact kr _ _ dX10_yearsGained_59 hC
  · have hf := im hf c6
    refine v_iconst (v := 0) C dX10_yearsGained_25 (by decide) ?_
    cases hf
    exact kr _ _ dX10_yearsGained_26 hC
theorem sX10_yearsGained {l : Launch} {sh : Sh} {G : Hp} {l0 : Nat} {l1 : Int32} {z : Int32 × Hp} (h_l0 : sh[l0]? = some (0, 10)) (hf : fX10_yearsGained sh G l0 l1 = some z) : MC l yX10_yearsGained cX10_yearsGained 4 (some .int) 7 0 0 sh sh G (z.2) (fun ad => [.ref (ad l0), .int l1]) (fun _ => some (.int z.1)) := by
  refine MC_of rfl rfl (fun _ => Nat.le_of_ble_eq_true rfl) (fun E ad C hl hnm hC hQ => ?_)
  exact tX10_yearsGained C hC h_l0 hf (fun pc lv hd hC => v_iret C hQ (fun _ _ => rfl) hC rfl hd)
def fX10_mendFirst_J53L19 (sh : Sh) (G : Hp) (l0 : Nat) (l1 : Int32) (l2 : Int32) (l3 : Int32) (l4 : Int32) (s0 : Int32) : Option ((Hp × Int32 × Int32 × Int32) ⊕ ((Hp × Int32 × Int32))) := if s0 ≤ l3 then bd ((l4 + 1) : Int32) fun x2 => some (.inl (G, l2, l3, x2)) else bd ((l4 + 1) : Int32) fun x3 => some (.inl (G, l4, s0, x3))
set_option maxHeartbeats 4000000 in
theorem tX10_mendFirst_J53L19 {E : EX} {ad : Nat → Nat} {sh : Sh} {G : Hp} {l0 : Nat} {l1 : Int32} {l2 : Int32} {l3 : Int32} {l4 : Int32} {s0 : Int32} {o : (Hp × Int32 × Int32 × Int32) ⊕ ((Hp × Int32 × Int32))} (C : Cx E RX10 cX10_mendFirst 6 (some .int) 8 0 0) (hC : Cl sh G) (h_l0 : sh[l0]? = some (0, 10)) (hf : fX10_mendFirst_J53L19 sh G l0 l1 l2 l3 l4 s0 = some o) (kb : ∀ (G2 : Hp) (b_l2 : Int32) (b_l3 : Int32) (b_l4 : Int32), o = .inl (G2, b_l2, b_l3, b_l4) → Cl sh G2 → VV E 0 0 (wq (xT E) ad G2 sh) 19 [(0, .ref (ad l0)), (1, .int l1), (2, .int b_l2), (3, .int b_l3), (4, .int b_l4)] []) (kx73 : ∀ (G2 : Hp) (b_l2 : Int32) (b_l3 : Int32), o = .inr (G2, b_l2, b_l3) → Cl sh G2 → VV E 0 0 (wq (xT E) ad G2 sh) 73 [(0, .ref (ad l0)), (1, .int l1), (2, .int b_l2), (3, .int b_l3)] []) : VV E 0 0 (wq (xT E) ad G sh) 53 [(0, .ref (ad l0)), (1, .int l1), (2, .int l2), (3, .int l3), (4, .int l4)] [.int s0] := by
  unfold fX10_mendFirst_J53L19 at hf
  refine v_istore (lv2 := [(5, .int s0), (0, .ref (ad l0)), (1, .int l1), (2, .int l2), (3, .int l3), (4, .int l4)]) C dX10_mendFirst_53 (by decide) rfl ?_
  refine v_iload C 0 dX10_mendFirst_55 rfl ?_
  refine v_iload_n C 4 dX10_mendFirst_57 rfl rfl ?_
  refine v_icmp_le (tgt := 67) C dX10_mendFirst_58 (by decide) (fun c1 => ?_) (fun c1 => ?_)
  · have hf := ip hf c1
    obtain ⟨x2, ex2⟩ : ∃ x : Int32, x = (l4 + 1) := ⟨_, rfl⟩
    have hf := bd_at hf ex2
    refine v_iinc (v := x2) (j := 5) (lv2 := [(4, .int x2), (5, .int s0), (0, .ref (ad l0)), (1, .int l1), (2, .int l2), (3, .int l3)]) C dX10_mendFirst_67 rfl (by rw [ex2]; rfl) (by decide) rfl ?_
    refine v_goto (tgt := 19) C dX10_mendFirst_70 (by decide) ?_
    cases hf
    refine v_sub [2, 3, 4, 5, 0] rfl ?_
    exact kb _ _ _ _ rfl hC
  · have hf := im hf c1
    refine v_iload C 0 dX10_mendFirst_61 rfl ?_
    refine v_istore_n (lv2 := [(3, .int s0), (5, .int s0), (0, .ref (ad l0)), (1, .int l1), (2, .int l2), (4, .int l4)]) C dX10_mendFirst_63 rfl (by decide) rfl ?_
    refine v_iload C 5 dX10_mendFirst_64 rfl ?_
    refine v_istore_n (lv2 := [(2, .int l4), (3, .int s0), (5, .int s0), (0, .ref (ad l0)), (1, .int l1), (4, .int l4)]) C dX10_mendFirst_66 rfl (by decide) rfl ?_
    obtain ⟨x3, ex3⟩ : ∃ x : Int32, x = (l4 + 1) := ⟨_, rfl⟩
    have hf := bd_at hf ex3
    refine v_iinc (v := x3) (j := 5) (lv2 := [(4, .int x3), (2, .int l4), (3, .int s0), (5, .int s0), (0, .ref (ad l0)), (1, .int l1)]) C dX10_mendFirst_67 rfl (by rw [ex3]; rfl) (by decide) rfl ?_
    refine v_goto (tgt := 19) C dX10_mendFirst_70 (by decide) ?_
    cases hf
    refine v_sub [4, 5, 1, 2, 0] rfl ?_
    exact kb _ _ _ _ rfl hC
def fX10_mendFirst_S19 (sh : Sh) (l0 : Nat) (l1 : Int32) (G : Hp) (l2 : Int32) (l3 : Int32) (l4 : Int32) : Option ((Hp × Int32 × Int32 × Int32) ⊕ ((Hp × Int32 × Int32))) := (ldO sh G l0 2 8).bind fun a1 => if (G.1 a1 3) ≤ l4 then some (.inr (G, l2, l3)) else (ldO sh G l0 3 1).bind fun a3 => (fX1_canBeMended sh G a3 l4).bind fun r4 => if r4 = 0 then fX10_mendFirst_J53L19 sh G l0 l1 l2 l3 l4 0 else bp (fX10_yearsGained sh G l0 l4) fun r6 G7 => fX10_mendFirst_J53L19 sh G7 l0 l1 l2 l3 l4 r6
set_option maxHeartbeats 4000000 in
theorem tX10_mendFirst_S19 {E : EX} {ad : Nat → Nat} {sh : Sh} {G : Hp} {l0 : Nat} {l1 : Int32} {l2 : Int32} {l3 : Int32} {l4 : Int32} {o : (Hp × Int32 × Int32 × Int32) ⊕ ((Hp × Int32 × Int32))} (C : Cx E RX10 cX10_mendFirst 6 (some .int) 8 0 0) (hC : Cl sh G) (h_l0 : sh[l0]? = some (0, 10)) (hf : fX10_mendFirst_S19 sh l0 l1 G l2 l3 l4 = some o) (kb : ∀ (G2 : Hp) (b_l2 : Int32) (b_l3 : Int32) (b_l4 : Int32), o = .inl (G2, b_l2, b_l3, b_l4) → Cl sh G2 → VV E 0 0 (wq (xT E) ad G2 sh) 19 [(0, .ref (ad l0)), (1, .int l1), (2, .int b_l2), (3, .int b_l3), (4, .int b_l4)] []) (kx73 : ∀ (G2 : Hp) (b_l2 : Int32) (b_l3 : Int32), o = .inr (G2, b_l2, b_l3) → Cl sh G2 → VV E 0 0 (wq (xT E) ad G2 sh) 73 [(0, .ref (ad l0)), (1, .int l1), (2, .int b_l2), (3, .int b_l3)] []) : VV E 0 0 (wq (xT E) ad G sh) 19 [(0, .ref (ad l0)), (1, .int l1), (2, .int l2), (3, .int l3), (4, .int l4)] [] := by
  unfold fX10_mendFirst_S19 at hf
  refine v_iload C 4 dX10_mendFirst_19 rfl ?_
  refine v_aload_n C 0 dX10_mendFirst_21 rfl rfl ?_
  obtain ⟨a1, qa1, hf⟩ := bn hf
  refine v_getO C h_l0 fl_X10_23 qa1 dX10_mendFirst_22 (fun h_a1 => ?_)
  refine v_getI C h_a1 fl_X10_285 dX10_mendFirst_25 ?_
  refine v_icmp_ge (tgt := 73) C dX10_mendFirst_28 (by decide) (fun c2 => ?_) (fun c2 => ?_)
  · have hf := ip hf c2
    cases hf
    refine v_sub [0, 1, 2, 3] rfl ?_
    exact kx73 _ _ _ rfl hC
  · have hf := im hf c2
    refine v_aload_n C 0 dX10_mendFirst_31 rfl rfl ?_
    obtain ⟨a3, qa3, hf⟩ := bn hf
    refine v_getO C h_l0 fl_X10_30 qa3 dX10_mendFirst_32 (fun h_a3 => ?_)
    refine v_iload C 4 dX10_mendFirst_35 rfl ?_
    obtain ⟨r4, qr4, hf⟩ := bn hf
    refine v_callVi (As := [.int l4]) (rest := []) C (sX1_canBeMended h_a3 qr4) cs_X10_211 (by decide) h_a3 rfl hC rfl rfl rfl (Nat.le_of_ble_eq_true rfl) ⟨Nat.le_refl _, Nat.le_refl _⟩ dX10_mendFirst_37 (fun hC => ?_)
    refine v_if_eq (tgt := 52) C dX10_mendFirst_40 (by decide) (fun c5 => ?_) (fun c5 => ?_)
    · have hf := ip hf c5
      refine v_iconst (v := 0) C dX10_mendFirst_52 (by decide) ?_
      refine v_sub [0, 1, 2, 3, 4] rfl ?_
      exact tX10_mendFirst_J53L19 C hC h_l0 hf kb kx73
    · have hf := im hf c5
      refine v_aload_n C 0 dX10_mendFirst_43 rfl rfl ?_
      refine v_iload C 4 dX10_mendFirst_44 rfl ?_
      obtain ⟨r6, G7, qr6, hf⟩ := bpn hf
      refine v_callVi (As := [.int l4]) (rest := []) C (sX10_yearsGained h_l0 qr6) cs_X10_288 (by decide) h_l0 rfl hC rfl rfl rfl (Nat.le_of_ble_eq_true rfl) ⟨Nat.le_refl _, Nat.le_refl _⟩ dX10_mendFirst_46 (fun hC => ?_)
      refine v_goto (tgt := 53) C dX10_mendFirst_49 (by decide) ?_
      refine v_sub [0, 1, 2, 3, 4] rfl ?_
      exact tX10_mendFirst_J53L19 C hC h_l0 hf kb kx73
def fX10_mendFirst (sh : Sh) (G : Hp) (l0 : Nat) (l1 : Int32) : Option (Int32 × Hp) := if l1 < 0 then some ((-1), G) else if l1 ≤ 1 then (iter (fun s : Hp × Int32 × Int32 × Int32 => fX10_mendFirst_S19 sh l0 l1 s.1 s.2.1 s.2.2.1 s.2.2.2) fuel ((G, (-2), 0, 0) : Hp × Int32 × Int32 × Int32)).bind (fun u10 => bd u10.1 fun G4 => bd u10.2.1 fun x5 => bd u10.2.2 fun x6 => if x5 = (-2) then some (x5, G4) else if l1 = 0 then some (x5, G4) else if x6 ≤ 200 then some (x6, G4) else some ((-3), G4)) else some ((-1), G)
set_option maxHeartbeats 4000000 in
theorem tX10_mendFirst {E : EX} {ad : Nat → Nat} {sh : Sh} {G : Hp} {l0 : Nat} {l1 : Int32} {z : Int32 × Hp} (C : Cx E RX10 cX10_mendFirst 6 (some .int) 8 0 0) (hC : Cl sh G) (h_l0 : sh[l0]? = some (0, 10)) (hf : fX10_mendFirst sh G l0 l1 = some z) (kr : RCi E cX10_mendFirst ad sh (z.1) (z.2)) : VV E 0 0 (wq (xT E) ad G sh) 0 [(0, .ref (ad l0)), (1, .int l1)] [] := by
  unfold fX10_mendFirst at hf
  refine v_iload_n C 1 dX10_mendFirst_0 rfl rfl ?_
  refine v_if_lt (tgt := 9) C dX10_mendFirst_1 (by decide) (fun c1 => ?_) (fun c1 => ?_)
  · have hf := ip hf c1
    refine v_iconst (v := (-1)) C dX10_mendFirst_9 (by decide) ?_
    cases hf
    exact kr _ _ dX10_mendFirst_10 hC
  · have hf := im hf c1
    refine v_iload_n C 1 dX10_mendFirst_4 rfl rfl ?_
    refine v_iconst (v := 1) C dX10_mendFirst_5 (by decide) ?_
    refine v_icmp_le (tgt := 11) C dX10_mendFirst_6 (by decide) (fun c2 => ?_) (fun c2 => ?_)
    · have hf := ip hf c2
      refine v_bipush (v := (-2)) C dX10_mendFirst_11 (by decide) ?_
      refine v_istore_n (lv2 := [(2, .int (-2)), (0, .ref (ad l0)), (1, .int l1)]) C dX10_mendFirst_13 rfl (by decide) rfl ?_
      refine v_iconst (v := 0) C dX10_mendFirst_14 (by decide) ?_
      refine v_istore_n (lv2 := [(3, .int 0), (2, .int (-2)), (0, .ref (ad l0)), (1, .int l1)]) C dX10_mendFirst_15 rfl (by decide) rfl ?_
      refine v_iconst (v := 0) C dX10_mendFirst_16 (by decide) ?_
      refine v_istore (lv2 := [(4, .int 0), (3, .int 0), (2, .int (-2)), (0, .ref (ad l0)), (1, .int l1)]) C dX10_mendFirst_17 (by decide) rfl ?_
      obtain ⟨r3, qr3, hf⟩ := bn hf
      refine v_sub [3, 4, 2, 1, 0] rfl ?_
      refine iter_sound (P := (fun s : Hp × Int32 × Int32 × Int32 => Cl sh (s.1) → VV E 0 0 (wq (xT E) ad (s.1) sh) 19 [(0, .ref (ad l0)), (1, .int (l1)), (2, .int (s.2.1)), (3, .int (s.2.2.1)), (4, .int (s.2.2.2))] [])) (X := fun r => r = r3) (fun jsr3 jor3 hor3 jbr3 jxr3 hC => tX10_mendFirst_S19 C hC h_l0 hor3 (fun _ _ _ _ e => jbr3 _ e) ?_) fuel _ r3 qr3 rfl hC
      · intro G4 x5 x6 hu hC
        have e := jxr3 _ hu
        subst e
        have hf := bd_at hf (rfl : G4 = _)
        have hf := bd_at hf (rfl : x5 = _)
        have hf := bd_at hf (rfl : x6 = _)
        refine v_iload_n C 2 dX10_mendFirst_73 rfl rfl ?_
        refine v_bipush (v := (-2)) C dX10_mendFirst_74 (by decide) ?_
        refine v_icmp_eq (tgt := 83) C dX10_mendFirst_76 (by decide) (fun c7 => ?_) (fun c7 => ?_)
        · have hf := ip hf c7
          refine v_iload_n C 2 dX10_mendFirst_83 rfl rfl ?_
          cases hf
          exact kr _ _ dX10_mendFirst_84 hC
        · have hf := im hf c7
          refine v_iload_n C 1 dX10_mendFirst_79 rfl rfl ?_
          refine v_if_ne (tgt := 85) C dX10_mendFirst_80 (by decide) (fun c8 => ?_) (fun c8 => ?_)
          · have hf := im hf c8
            refine v_iload_n C 3 dX10_mendFirst_85 rfl rfl ?_
            refine v_sipush (v := 200) C dX10_mendFirst_86 (by decide) ?_
            refine v_icmp_le (tgt := 97) C dX10_mendFirst_89 (by decide) (fun c9 => ?_) (fun c9 => ?_)
            · have hf := ip hf c9
              refine v_iload_n C 3 dX10_mendFirst_97 rfl rfl ?_
              cases hf
              exact kr _ _ dX10_mendFirst_98 hC
            · have hf := im hf c9
              refine v_bipush (v := (-3)) C dX10_mendFirst_92 (by decide) ?_
              refine v_goto (tgt := 98) C dX10_mendFirst_94 (by decide) ?_
              cases hf
              exact kr _ _ dX10_mendFirst_98 hC
          · have hf := ip hf c8
            refine v_iload_n C 2 dX10_mendFirst_83 rfl rfl ?_
            cases hf
            exact kr _ _ dX10_mendFirst_84 hC
    · have hf := im hf c2
      refine v_iconst (v := (-1)) C dX10_mendFirst_9 (by decide) ?_
      cases hf
      exact kr _ _ dX10_mendFirst_10 hC
theorem sX10_mendFirst {l : Launch} {sh : Sh} {G : Hp} {l0 : Nat} {l1 : Int32} {z : Int32 × Hp} (h_l0 : sh[l0]? = some (0, 10)) (hf : fX10_mendFirst sh G l0 l1 = some z) : MC l yX10_mendFirst cX10_mendFirst 6 (some .int) 8 0 0 sh sh G (z.2) (fun ad => [.ref (ad l0), .int l1]) (fun _ => some (.int z.1)) := by
  refine MC_of rfl rfl (fun _ => Nat.le_of_ble_eq_true rfl) (fun E ad C hl hnm hC hQ => ?_)
  exact tX10_mendFirst C hC h_l0 hf (fun pc lv hd hC => v_iret C hQ (fun _ _ => rfl) hC rfl hd)
def fX3_passYears_S3 (sh : Sh) (l0 : Nat) (l1 : Nat) (l2 : Nat) (l3 : Int32) (l4 : Int32) (G : Hp) (l5 : Int32) : Option ((Hp × Int32) ⊕ ((Hp))) := if l3 ≤ l5 then some (.inr G) else (fX3_isStorm (G.1 l1 4) l4 (G.1 l2 8)).bind fun r2 => if r2 = 0 then (fX3_passYear sh G l0 l1 l2 0).bind fun G5 => bd ((l5 + 1) : Int32) fun x6 => some (.inl (G5, x6)) else (fX3_passYear sh G l0 l1 l2 1).bind fun G8 => bd ((l5 + 1) : Int32) fun x9 => some (.inl (G8, x9))
set_option maxHeartbeats 4000000 in
theorem tX3_passYears_S3 {E : EX} {ad : Nat → Nat} {sh : Sh} {G : Hp} {l0 : Nat} {l1 : Nat} {l2 : Nat} {l3 : Int32} {l4 : Int32} {l5 : Int32} {o : (Hp × Int32) ⊕ ((Hp))} (C : Cx E RX3 cX3_passYears 6 none 6 0 0) (hC : Cl sh G) (h_l0 : sh[l0]? = some (0, 3)) (h_l1 : sh[l1]? = some (0, 8)) (h_l2 : sh[l2]? = some (0, 1)) (hf : fX3_passYears_S3 sh l0 l1 l2 l3 l4 G l5 = some o) (kb : ∀ (G2 : Hp) (b_l5 : Int32), o = .inl (G2, b_l5) → Cl sh G2 → VV E 0 0 (wq (xT E) ad G2 sh) 3 [(0, .ref (ad l0)), (1, .ref (ad l1)), (2, .ref (ad l2)), (3, .int l3), (4, .int l4), (5, .int b_l5)] []) (kx42 : ∀ (G2 : Hp), o = .inr G2 → Cl sh G2 → VV E 0 0 (wq (xT E) ad G2 sh) 42 [(0, .ref (ad l0)), (1, .ref (ad l1)), (2, .ref (ad l2)), (3, .int l3), (4, .int l4)] []) : VV E 0 0 (wq (xT E) ad G sh) 3 [(0, .ref (ad l0)), (1, .ref (ad l1)), (2, .ref (ad l2)), (3, .int l3), (4, .int l4), (5, .int l5)] [] := by
  unfold fX3_passYears_S3 at hf
  refine v_iload C 5 dX3_passYears_3 rfl ?_
  refine v_iload_n C 3 dX3_passYears_5 rfl rfl ?_
  refine v_icmp_ge (tgt := 42) C dX3_passYears_6 (by decide) (fun c1 => ?_) (fun c1 => ?_)
  · have hf := ip hf c1
    cases hf
    refine v_sub [0, 1, 2, 3, 4] rfl ?_
    exact kx42 _ rfl hC
  · have hf := im hf c1
    refine v_aload_n C 0 dX3_passYears_9 rfl rfl ?_
    refine v_aload_n C 1 dX3_passYears_10 rfl rfl ?_
    refine v_aload_n C 2 dX3_passYears_11 rfl rfl ?_
    refine v_aload_n C 1 dX3_passYears_12 rfl rfl ?_
    refine v_getI C h_l1 fl_X3_91 dX3_passYears_13 ?_
    refine v_iload C 4 dX3_passYears_16 rfl ?_
    refine v_aload_n C 2 dX3_passYears_18 rfl rfl ?_
    refine v_getI C h_l2 fl_X3_69 dX3_passYears_19 ?_
    obtain ⟨r2, qr2, hf⟩ := bn hf
    refine v_callSi (As := [.int (G.1 l1 4), .int l4, .int (G.1 l2 8)]) (rest := [.ref (ad l2), .ref (ad l1), .ref (ad l0)]) C (sX3_isStorm  qr2) cs_X3_94 (by decide) hC rfl rfl rfl (Nat.le_of_ble_eq_true rfl) ⟨Nat.le_refl _, Nat.le_refl _⟩ dX3_passYears_22 (fun hC => ?_)
    refine v_if_eq (tgt := 32) C dX3_passYears_25 (by decide) (fun c3 => ?_) (fun c3 => ?_)
    · have hf := ip hf c3
      refine v_iconst (v := 0) C dX3_passYears_32 (by decide) ?_
      obtain ⟨G5, qr4, hf⟩ := bn hf
      refine v_callVv (As := [.ref (ad l1), .ref (ad l2), .int 0]) (rest := []) C (sX3_passYear h_l0 h_l1 h_l2 qr4) cs_X3_98 (by decide) h_l0 rfl hC rfl rfl rfl (Nat.le_of_ble_eq_true rfl) ⟨Nat.le_refl _, Nat.le_refl _⟩ dX3_passYears_33 (fun hC => ?_)
      obtain ⟨x6, ex6⟩ : ∃ x : Int32, x = (l5 + 1) := ⟨_, rfl⟩
      have hf := bd_at hf ex6
      refine v_iinc (v := x6) (j := 5) (lv2 := [(5, .int x6), (0, .ref (ad l0)), (1, .ref (ad l1)), (2, .ref (ad l2)), (3, .int l3), (4, .int l4)]) C dX3_passYears_36 rfl (by rw [ex6]; rfl) (by decide) rfl ?_
      refine v_goto (tgt := 3) C dX3_passYears_39 (by decide) ?_
      cases hf
      refine v_sub [1, 2, 3, 4, 5, 0] rfl ?_
      exact kb _ _ rfl hC
    · have hf := im hf c3
      refine v_iconst (v := 1) C dX3_passYears_28 (by decide) ?_
      refine v_goto (tgt := 33) C dX3_passYears_29 (by decide) ?_
      obtain ⟨G8, qr7, hf⟩ := bn hf
      refine v_callVv (As := [.ref (ad l1), .ref (ad l2), .int 1]) (rest := []) C (sX3_passYear h_l0 h_l1 h_l2 qr7) cs_X3_98 (by decide) h_l0 rfl hC rfl rfl rfl (Nat.le_of_ble_eq_true rfl) ⟨Nat.le_refl _, Nat.le_refl _⟩ dX3_passYears_33 (fun hC => ?_)
      obtain ⟨x9, ex9⟩ : ∃ x : Int32, x = (l5 + 1) := ⟨_, rfl⟩
      have hf := bd_at hf ex9
      refine v_iinc (v := x9) (j := 5) (lv2 := [(5, .int x9), (0, .ref (ad l0)), (1, .ref (ad l1)), (2, .ref (ad l2)), (3, .int l3), (4, .int l4)]) C dX3_passYears_36 rfl (by rw [ex9]; rfl) (by decide) rfl ?_
      refine v_goto (tgt := 3) C dX3_passYears_39 (by decide) ?_
      cases hf
      refine v_sub [1, 2, 3, 4, 5, 0] rfl ?_
      exact kb _ _ rfl hC
def fX3_passYears (sh : Sh) (G : Hp) (l0 : Nat) (l1 : Nat) (l2 : Nat) (l3 : Int32) (l4 : Int32) : Option (Hp) := (iter (fun s : Hp × Int32 => fX3_passYears_S3 sh l0 l1 l2 l3 l4 s.1 s.2) fuel ((G, 0) : Hp × Int32)).bind (fun u3 => bd u3 fun G2 => some G2)
set_option maxHeartbeats 4000000 in
theorem tX3_passYears {E : EX} {ad : Nat → Nat} {sh : Sh} {G : Hp} {l0 : Nat} {l1 : Nat} {l2 : Nat} {l3 : Int32} {l4 : Int32} {z : Hp} (C : Cx E RX3 cX3_passYears 6 none 6 0 0) (hC : Cl sh G) (h_l0 : sh[l0]? = some (0, 3)) (h_l1 : sh[l1]? = some (0, 8)) (h_l2 : sh[l2]? = some (0, 1)) (hf : fX3_passYears sh G l0 l1 l2 l3 l4 = some z) (kr : RCv E cX3_passYears ad sh z) : VV E 0 0 (wq (xT E) ad G sh) 0 [(0, .ref (ad l0)), (1, .ref (ad l1)), (2, .ref (ad l2)), (3, .int l3), (4, .int l4)] [] := by
  unfold fX3_passYears at hf
  refine v_iconst (v := 0) C dX3_passYears_0 (by decide) ?_
  refine v_istore (lv2 := [(5, .int 0), (0, .ref (ad l0)), (1, .ref (ad l1)), (2, .ref (ad l2)), (3, .int l3), (4, .int l4)]) C dX3_passYears_1 (by decide) rfl ?_
  obtain ⟨r1, qr1, hf⟩ := bn hf
  refine v_sub [1, 2, 3, 4, 5, 0] rfl ?_
  refine iter_sound (P := (fun s : Hp × Int32 => Cl sh (s.1) → VV E 0 0 (wq (xT E) ad (s.1) sh) 3 [(0, .ref (ad l0)), (1, .ref (ad l1)), (2, .ref (ad l2)), (3, .int (l3)), (4, .int (l4)), (5, .int (s.2))] [])) (X := fun r => r = r1) (fun jsr1 jor1 hor1 jbr1 jxr1 hC => tX3_passYears_S3 C hC h_l0 h_l1 h_l2 hor1 (fun _ _ e => jbr1 _ e) ?_) fuel _ r1 qr1 rfl hC
  · intro G2 hu hC
    have e := jxr1 _ hu
    subst e
    have hf := bd_at hf (rfl : G2 = _)
    cases hf
    exact kr _ _ dX3_passYears_42 hC
theorem sX3_passYears {l : Launch} {sh : Sh} {G : Hp} {l0 : Nat} {l1 : Nat} {l2 : Nat} {l3 : Int32} {l4 : Int32} {z : Hp} (h_l0 : sh[l0]? = some (0, 3)) (h_l1 : sh[l1]? = some (0, 8)) (h_l2 : sh[l2]? = some (0, 1)) (hf : fX3_passYears sh G l0 l1 l2 l3 l4 = some z) : MC l yX3_passYears cX3_passYears 6 none 6 0 0 sh sh G z (fun ad => [.ref (ad l0), .ref (ad l1), .ref (ad l2), .int l3, .int l4]) (fun _ => none) := by
  refine MC_of rfl rfl (fun _ => Nat.le_of_ble_eq_true rfl) (fun E ad C hl hnm hC hQ => ?_)
  exact tX3_passYears C hC h_l0 h_l1 h_l2 hf (fun pc lv hd hC => v_vret C hQ (fun _ _ => rfl) hC rfl hd)
def fX3_lookAhead (sh : Sh) (G : Hp) (l0 : Nat) (l1 : Nat) (l2 : Nat) (l3 : Int32) (l4 : Int32) : Option (Nat × Hp) := (ldO sh G l0 2 1).bind fun a1 => (fX1_copyFrom sh G a1 l2).bind fun G3 => (ldO sh G3 l0 2 1).bind fun a4 => (fX3_passYears sh G3 l0 l1 a4 l3 l4).bind fun G6 => (ldO sh G6 l0 2 1).bind fun a7 => some (a7, G6)
set_option maxHeartbeats 4000000 in
theorem tX3_lookAhead {E : EX} {ad : Nat → Nat} {sh : Sh} {G : Hp} {l0 : Nat} {l1 : Nat} {l2 : Nat} {l3 : Int32} {l4 : Int32} {z : Nat × Hp} (C : Cx E RX3 cX3_lookAhead 5 (some (.object "FirstOver$Going")) 7 0 0) (hC : Cl sh G) (h_l0 : sh[l0]? = some (0, 3)) (h_l1 : sh[l1]? = some (0, 8)) (h_l2 : sh[l2]? = some (0, 1)) (hf : fX3_lookAhead sh G l0 l1 l2 l3 l4 = some z) (kr : RCa E cX3_lookAhead ad sh (z.1) (z.2)) : VV E 0 0 (wq (xT E) ad G sh) 0 [(0, .ref (ad l0)), (1, .ref (ad l1)), (2, .ref (ad l2)), (3, .int l3), (4, .int l4)] [] := by
  unfold fX3_lookAhead at hf
  refine v_aload_n C 0 dX3_lookAhead_0 rfl rfl ?_
  obtain ⟨a1, qa1, hf⟩ := bn hf
  refine v_getO C h_l0 fl_X3_21 qa1 dX3_lookAhead_1 (fun h_a1 => ?_)
  refine v_aload_n C 2 dX3_lookAhead_4 rfl rfl ?_
  obtain ⟨G3, qr2, hf⟩ := bn hf
  refine v_callVv (As := [.ref (ad l2)]) (rest := []) C (sX1_copyFrom h_a1 h_l2 qr2) cs_X3_101 (by decide) h_a1 rfl hC rfl rfl rfl (Nat.le_of_ble_eq_true rfl) ⟨Nat.le_refl _, Nat.le_refl _⟩ dX3_lookAhead_5 (fun hC => ?_)
  refine v_aload_n C 0 dX3_lookAhead_8 rfl rfl ?_
  refine v_aload_n C 1 dX3_lookAhead_9 rfl rfl ?_
  refine v_aload_n C 0 dX3_lookAhead_10 rfl rfl ?_
  obtain ⟨a4, qa4, hf⟩ := bn hf
  refine v_getO C h_l0 fl_X3_21 qa4 dX3_lookAhead_11 (fun h_a4 => ?_)
  refine v_iload_n C 3 dX3_lookAhead_14 rfl rfl ?_
  refine v_iload C 4 dX3_lookAhead_15 rfl ?_
  obtain ⟨G6, qr5, hf⟩ := bn hf
  refine v_callVv (As := [.ref (ad l1), .ref (ad a4), .int l3, .int l4]) (rest := []) C (sX3_passYears h_l0 h_l1 h_a4 qr5) cs_X3_105 (by decide) h_l0 rfl hC rfl rfl rfl (Nat.le_of_ble_eq_true rfl) ⟨Nat.le_refl _, Nat.le_refl _⟩ dX3_lookAhead_17 (fun hC => ?_)
  refine v_aload_n C 0 dX3_lookAhead_20 rfl rfl ?_
  obtain ⟨a7, qa7, hf⟩ := bn hf
  refine v_getO C h_l0 fl_X3_21 qa7 dX3_lookAhead_21 (fun h_a7 => ?_)
  cases hf
  exact kr _ _ dX3_lookAhead_24 hC
theorem sX3_lookAhead {l : Launch} {sh : Sh} {G : Hp} {l0 : Nat} {l1 : Nat} {l2 : Nat} {l3 : Int32} {l4 : Int32} {z : Nat × Hp} (h_l0 : sh[l0]? = some (0, 3)) (h_l1 : sh[l1]? = some (0, 8)) (h_l2 : sh[l2]? = some (0, 1)) (hf : fX3_lookAhead sh G l0 l1 l2 l3 l4 = some z) : MC l yX3_lookAhead cX3_lookAhead 5 (some (.object "FirstOver$Going")) 7 0 0 sh sh G (z.2) (fun ad => [.ref (ad l0), .ref (ad l1), .ref (ad l2), .int l3, .int l4]) (fun ad => some (.ref (ad z.1))) := by
  refine MC_of rfl rfl (fun _ => Nat.le_of_ble_eq_true rfl) (fun E ad C hl hnm hC hQ => ?_)
  exact tX3_lookAhead C hC h_l0 h_l1 h_l2 hf (fun pc lv hd hC => v_aret C hQ (fun _ _ => rfl) hC rfl hd)
def fX10_openIn (sh : Sh) (G : Hp) (l0 : Nat) (l1 : Int32) : Option (Int32 × Hp) := if l1 < 0 then some ((-1), G) else if l1 ≤ 60 then (ldO sh G l0 4 3).bind fun a3 => (ldO sh G l0 2 8).bind fun a4 => (ldO sh G l0 3 1).bind fun a5 => (ldO sh G l0 2 8).bind fun a6 => bp (fX3_lookAhead sh G a3 a4 a5 l1 (G.1 a6 5)) fun r7 G8 => (ckO sh r7 1).bind fun u9 => (fX1_countOpen sh G8 r7).bind fun r10 => some (r10, G8) else some ((-1), G)
set_option maxHeartbeats 4000000 in
theorem tX10_openIn {E : EX} {ad : Nat → Nat} {sh : Sh} {G : Hp} {l0 : Nat} {l1 : Int32} {z : Int32 × Hp} (C : Cx E RX10 cX10_openIn 2 (some .int) 8 0 0) (hC : Cl sh G) (h_l0 : sh[l0]? = some (0, 10)) (hf : fX10_openIn sh G l0 l1 = some z) (kr : RCi E cX10_openIn ad sh (z.1) (z.2)) : VV E 0 0 (wq (xT E) ad G sh) 0 [(0, .ref (ad l0)), (1, .int l1)] [] := by
  unfold fX10_openIn at hf
  refine v_iload_n C 1 dX10_openIn_0 rfl rfl ?_
  refine v_if_lt (tgt := 10) C dX10_openIn_1 (by decide) (fun c1 => ?_) (fun c1 => ?_)
  · have hf := ip hf c1
    refine v_iconst (v := (-1)) C dX10_openIn_10 (by decide) ?_
    cases hf
    exact kr _ _ dX10_openIn_11 hC
  · have hf := im hf c1
    refine v_iload_n C 1 dX10_openIn_4 rfl rfl ?_
    refine v_bipush (v := 60) C dX10_openIn_5 (by decide) ?_
    refine v_icmp_le (tgt := 12) C dX10_openIn_7 (by decide) (fun c2 => ?_) (fun c2 => ?_)
    · have hf := ip hf c2
      refine v_aload_n C 0 dX10_openIn_12 rfl rfl ?_
      obtain ⟨a3, qa3, hf⟩ := bn hf
      refine v_getO C h_l0 fl_X10_37 qa3 dX10_openIn_13 (fun h_a3 => ?_)
      refine v_aload_n C 0 dX10_openIn_16 rfl rfl ?_
      obtain ⟨a4, qa4, hf⟩ := bn hf
      refine v_getO C h_l0 fl_X10_23 qa4 dX10_openIn_17 (fun h_a4 => ?_)
      refine v_aload_n C 0 dX10_openIn_20 rfl rfl ?_
      obtain ⟨a5, qa5, hf⟩ := bn hf
      refine v_getO C h_l0 fl_X10_30 qa5 dX10_openIn_21 (fun h_a5 => ?_)
      refine v_iload_n C 1 dX10_openIn_24 rfl rfl ?_
      refine v_aload_n C 0 dX10_openIn_25 rfl rfl ?_
      obtain ⟨a6, qa6, hf⟩ := bn hf
      refine v_getO C h_l0 fl_X10_23 qa6 dX10_openIn_26 (fun h_a6 => ?_)
      refine v_getI C h_a6 fl_X10_214 dX10_openIn_29 ?_
      obtain ⟨r7, G8, qr7, hf⟩ := bpn hf
      obtain ⟨u9, hu9, hf⟩ := bn hf
      have h_r7 := ckO_some hu9
      refine v_callVr (As := [.ref (ad a4), .ref (ad a5), .int l1, .int (G.1 a6 5)]) (rest := []) C (sX3_lookAhead h_a3 h_a4 h_a5 qr7) cs_X10_291 (by decide) h_a3 rfl hC rfl rfl rfl (Nat.le_of_ble_eq_true rfl) ⟨Nat.le_refl _, Nat.le_refl _⟩ h_r7 dX10_openIn_32 (fun hC => ?_)
      obtain ⟨r10, qr10, hf⟩ := bn hf
      refine v_callVi (As := []) (rest := []) C (sX1_countOpen h_r7 qr10) cs_X10_295 (by decide) h_r7 rfl hC rfl rfl rfl (Nat.le_of_ble_eq_true rfl) ⟨Nat.le_refl _, Nat.le_refl _⟩ dX10_openIn_35 (fun hC => ?_)
      cases hf
      exact kr _ _ dX10_openIn_38 hC
    · have hf := im hf c2
      refine v_iconst (v := (-1)) C dX10_openIn_10 (by decide) ?_
      cases hf
      exact kr _ _ dX10_openIn_11 hC
theorem sX10_openIn {l : Launch} {sh : Sh} {G : Hp} {l0 : Nat} {l1 : Int32} {z : Int32 × Hp} (h_l0 : sh[l0]? = some (0, 10)) (hf : fX10_openIn sh G l0 l1 = some z) : MC l yX10_openIn cX10_openIn 2 (some .int) 8 0 0 sh sh G (z.2) (fun ad => [.ref (ad l0), .int l1]) (fun _ => some (.int z.1)) := by
  refine MC_of rfl rfl (fun _ => Nat.le_of_ble_eq_true rfl) (fun E ad C hl hnm hC hQ => ?_)
  exact tX10_openIn C hC h_l0 hf (fun pc lv hd hC => v_iret C hQ (fun _ _ => rfl) hC rfl hd)
def fX10_place (sh : Sh) (G : Hp) (l0 : Nat) : Option (Int32) := some (G.1 l0 1)
set_option maxHeartbeats 4000000 in
theorem tX10_place {E : EX} {ad : Nat → Nat} {sh : Sh} {G : Hp} {l0 : Nat} {z : Int32} (C : Cx E RX10 cX10_place 1 (some .int) 1 0 0) (hC : Cl sh G) (h_l0 : sh[l0]? = some (0, 10)) (hf : fX10_place sh G l0 = some z) (kr : RCi E cX10_place ad sh z G) : VV E 0 0 (wq (xT E) ad G sh) 0 [(0, .ref (ad l0))] [] := by
  unfold fX10_place at hf
  refine v_aload_n C 0 dX10_place_0 rfl rfl ?_
  refine v_getI C h_l0 fl_X10_16 dX10_place_1 ?_
  cases hf
  exact kr _ _ dX10_place_4 hC
theorem sX10_place {l : Launch} {sh : Sh} {G : Hp} {l0 : Nat} {z : Int32} (h_l0 : sh[l0]? = some (0, 10)) (hf : fX10_place sh G l0 = some z) : MC l yX10_place cX10_place 1 (some .int) 1 0 0 sh sh G G (fun ad => [.ref (ad l0)]) (fun _ => some (.int z)) := by
  refine MC_of rfl rfl (fun _ => Nat.le_of_ble_eq_true rfl) (fun E ad C hl hnm hC hQ => ?_)
  exact tX10_place C hC h_l0 hf (fun pc lv hd hC => v_iret C hQ (fun _ _ => rfl) hC rfl hd)
def fX4_clear (sh : Sh) (G : Hp) (l0 : Nat) : Option (Hp) := bd (sI G l0 1 0) fun G1 => bd (sI G1 l0 3 0) fun G2 => some G2
set_option maxHeartbeats 4000000 in
theorem tX4_clear {E : EX} {ad : Nat → Nat} {sh : Sh} {G : Hp} {l0 : Nat} {z : Hp} (C : Cx E RX4 cX4_clear 1 none 1 0 0) (hC : Cl sh G) (h_l0 : sh[l0]? = some (0, 4)) (hf : fX4_clear sh G l0 = some z) (kr : RCv E cX4_clear ad sh z) : VV E 0 0 (wq (xT E) ad G sh) 0 [(0, .ref (ad l0))] [] := by
  unfold fX4_clear at hf
  refine v_aload_n C 0 dX4_clear_0 rfl rfl ?_
  refine v_iconst (v := 0) C dX4_clear_1 (by decide) ?_
  refine v_putI C h_l0 fp_X4_23 dX4_clear_2 (fun G1 eG1 => ?_)
  have hf := bd_at hf eG1
  have hC : Cl sh G1 := by rw [eG1]; exact hC
  refine v_aload_n C 0 dX4_clear_5 rfl rfl ?_
  refine v_iconst (v := 0) C dX4_clear_6 (by decide) ?_
  refine v_putI C h_l0 fp_X4_27 dX4_clear_7 (fun G2 eG2 => ?_)
  have hf := bd_at hf eG2
  have hC : Cl sh G2 := by rw [eG2]; exact hC
  cases hf
  exact kr _ _ dX4_clear_10 hC
theorem sX4_clear {l : Launch} {sh : Sh} {G : Hp} {l0 : Nat} {z : Hp} (h_l0 : sh[l0]? = some (0, 4)) (hf : fX4_clear sh G l0 = some z) : MC l yX4_clear cX4_clear 1 none 1 0 0 sh sh G z (fun ad => [.ref (ad l0)]) (fun _ => none) := by
  refine MC_of rfl rfl (fun _ => Nat.le_of_ble_eq_true rfl) (fun E ad C hl hnm hC hQ => ?_)
  exact tX4_clear C hC h_l0 hf (fun pc lv hd hC => v_vret C hQ (fun _ _ => rfl) hC rfl hd)
def fX4_addStep (sh : Sh) (G : Hp) (l0 : Nat) (l1 : Int32) : Option (Hp) := (ldA sh G l0 0 1).bind fun a1 => if (nI (ln sh a1)) ≤ (G.1 l0 1) then some G else (ldA sh G l0 0 1).bind fun a3 => (asI sh G a3 (G.1 l0 1) l1).bind fun G4 => bd (sI G4 l0 1 ((G4.1 l0 1) + 1)) fun G5 => some G5
set_option maxHeartbeats 4000000 in
theorem tX4_addStep {E : EX} {ad : Nat → Nat} {sh : Sh} {G : Hp} {l0 : Nat} {l1 : Int32} {z : Hp} (C : Cx E RX4 cX4_addStep 2 none 1 0 0) (hC : Cl sh G) (h_l0 : sh[l0]? = some (0, 4)) (hf : fX4_addStep sh G l0 l1 = some z) (kr : RCv E cX4_addStep ad sh z) : VV E 0 0 (wq (xT E) ad G sh) 0 [(0, .ref (ad l0)), (1, .int l1)] [] := by
  unfold fX4_addStep at hf
  refine v_aload_n C 0 dX4_addStep_0 rfl rfl ?_
  refine v_getI C h_l0 fl_X4_23 dX4_addStep_1 ?_
  refine v_aload_n C 0 dX4_addStep_4 rfl rfl ?_
  obtain ⟨a1, qa1, hf⟩ := bn hf
  refine v_getA C h_l0 fl_X4_11 qa1 dX4_addStep_5 (fun h_a1 => ?_)
  refine v_alen C h_a1 (by decide) dX4_addStep_8 ?_
  refine v_icmp_ge (tgt := 32) C dX4_addStep_9 (by decide) (fun c2 => ?_) (fun c2 => ?_)
  · have hf := ip hf c2
    cases hf
    exact kr _ _ dX4_addStep_32 hC
  · have hf := im hf c2
    refine v_aload_n C 0 dX4_addStep_12 rfl rfl ?_
    obtain ⟨a3, qa3, hf⟩ := bn hf
    refine v_getA C h_l0 fl_X4_11 qa3 dX4_addStep_13 (fun h_a3 => ?_)
    refine v_aload_n C 0 dX4_addStep_16 rfl rfl ?_
    refine v_getI C h_l0 fl_X4_23 dX4_addStep_17 ?_
    refine v_iload_n C 1 dX4_addStep_20 rfl rfl ?_
    obtain ⟨G4, qG4, hf⟩ := bn hf
    refine v_iast C h_a3 qG4 hC dX4_addStep_21 (fun hC => ?_)
    refine v_aload_n C 0 dX4_addStep_22 rfl rfl ?_
    refine v_dup C dX4_addStep_23 rfl ?_
    refine v_getI C h_l0 fl_X4_23 dX4_addStep_24 ?_
    refine v_iconst (v := 1) C dX4_addStep_27 (by decide) ?_
    refine v_iadd C dX4_addStep_28 ?_
    refine v_putI C h_l0 fp_X4_23 dX4_addStep_29 (fun G5 eG5 => ?_)
    have hf := bd_at hf eG5
    have hC : Cl sh G5 := by rw [eG5]; exact hC
    cases hf
    exact kr _ _ dX4_addStep_32 hC
theorem sX4_addStep {l : Launch} {sh : Sh} {G : Hp} {l0 : Nat} {l1 : Int32} {z : Hp} (h_l0 : sh[l0]? = some (0, 4)) (hf : fX4_addStep sh G l0 l1 = some z) : MC l yX4_addStep cX4_addStep 2 none 1 0 0 sh sh G z (fun ad => [.ref (ad l0), .int l1]) (fun _ => none) := by
  refine MC_of rfl rfl (fun _ => Nat.le_of_ble_eq_true rfl) (fun E ad C hl hnm hC hQ => ?_)
  exact tX4_addStep C hC h_l0 hf (fun pc lv hd hC => v_vret C hQ (fun _ _ => rfl) hC rfl hd)
def fX4_endPart (sh : Sh) (G : Hp) (l0 : Nat) : Option (Hp) := (ldA sh G l0 2 1).bind fun a1 => if (nI (ln sh a1)) ≤ (G.1 l0 3) then some G else (ldA sh G l0 2 1).bind fun a3 => (asI sh G a3 (G.1 l0 3) (G.1 l0 1)).bind fun G4 => bd (sI G4 l0 3 ((G4.1 l0 3) + 1)) fun G5 => some G5
set_option maxHeartbeats 4000000 in
theorem tX4_endPart {E : EX} {ad : Nat → Nat} {sh : Sh} {G : Hp} {l0 : Nat} {z : Hp} (C : Cx E RX4 cX4_endPart 1 none 1 0 0) (hC : Cl sh G) (h_l0 : sh[l0]? = some (0, 4)) (hf : fX4_endPart sh G l0 = some z) (kr : RCv E cX4_endPart ad sh z) : VV E 0 0 (wq (xT E) ad G sh) 0 [(0, .ref (ad l0))] [] := by
  unfold fX4_endPart at hf
  refine v_aload_n C 0 dX4_endPart_0 rfl rfl ?_
  refine v_getI C h_l0 fl_X4_27 dX4_endPart_1 ?_
  refine v_aload_n C 0 dX4_endPart_4 rfl rfl ?_
  obtain ⟨a1, qa1, hf⟩ := bn hf
  refine v_getA C h_l0 fl_X4_17 qa1 dX4_endPart_5 (fun h_a1 => ?_)
  refine v_alen C h_a1 (by decide) dX4_endPart_8 ?_
  refine v_icmp_ge (tgt := 35) C dX4_endPart_9 (by decide) (fun c2 => ?_) (fun c2 => ?_)
  · have hf := ip hf c2
    cases hf
    exact kr _ _ dX4_endPart_35 hC
  · have hf := im hf c2
    refine v_aload_n C 0 dX4_endPart_12 rfl rfl ?_
    obtain ⟨a3, qa3, hf⟩ := bn hf
    refine v_getA C h_l0 fl_X4_17 qa3 dX4_endPart_13 (fun h_a3 => ?_)
    refine v_aload_n C 0 dX4_endPart_16 rfl rfl ?_
    refine v_getI C h_l0 fl_X4_27 dX4_endPart_17 ?_
    refine v_aload_n C 0 dX4_endPart_20 rfl rfl ?_
    refine v_getI C h_l0 fl_X4_23 dX4_endPart_21 ?_
    obtain ⟨G4, qG4, hf⟩ := bn hf
    refine v_iast C h_a3 qG4 hC dX4_endPart_24 (fun hC => ?_)
    refine v_aload_n C 0 dX4_endPart_25 rfl rfl ?_
    refine v_dup C dX4_endPart_26 rfl ?_
    refine v_getI C h_l0 fl_X4_27 dX4_endPart_27 ?_
    refine v_iconst (v := 1) C dX4_endPart_30 (by decide) ?_
    refine v_iadd C dX4_endPart_31 ?_
    refine v_putI C h_l0 fp_X4_27 dX4_endPart_32 (fun G5 eG5 => ?_)
    have hf := bd_at hf eG5
    have hC : Cl sh G5 := by rw [eG5]; exact hC
    cases hf
    exact kr _ _ dX4_endPart_35 hC
theorem sX4_endPart {l : Launch} {sh : Sh} {G : Hp} {l0 : Nat} {z : Hp} (h_l0 : sh[l0]? = some (0, 4)) (hf : fX4_endPart sh G l0 = some z) : MC l yX4_endPart cX4_endPart 1 none 1 0 0 sh sh G z (fun ad => [.ref (ad l0)]) (fun _ => none) := by
  refine MC_of rfl rfl (fun _ => Nat.le_of_ble_eq_true rfl) (fun E ad C hl hnm hC hQ => ?_)
  exact tX4_endPart C hC h_l0 hf (fun pc lv hd hC => v_vret C hQ (fun _ _ => rfl) hC rfl hd)
def fX4_setTo (sh : Sh) (G : Hp) (l0 : Nat) (l1 : Int32) : Option (Hp) := (fX4_clear sh G l0).bind fun G2 => (fX4_addStep sh G2 l0 l1).bind fun G4 => (fX4_endPart sh G4 l0).bind fun G6 => some G6
set_option maxHeartbeats 4000000 in
theorem tX4_setTo {E : EX} {ad : Nat → Nat} {sh : Sh} {G : Hp} {l0 : Nat} {l1 : Int32} {z : Hp} (C : Cx E RX4 cX4_setTo 2 none 2 0 0) (hC : Cl sh G) (h_l0 : sh[l0]? = some (0, 4)) (hf : fX4_setTo sh G l0 l1 = some z) (kr : RCv E cX4_setTo ad sh z) : VV E 0 0 (wq (xT E) ad G sh) 0 [(0, .ref (ad l0)), (1, .int l1)] [] := by
  unfold fX4_setTo at hf
  refine v_aload_n C 0 dX4_setTo_0 rfl rfl ?_
  obtain ⟨G2, qr1, hf⟩ := bn hf
  refine v_callVv (As := []) (rest := []) C (sX4_clear h_l0 qr1) cs_X4_30 (by decide) h_l0 rfl hC rfl rfl rfl (Nat.le_of_ble_eq_true rfl) ⟨Nat.le_refl _, Nat.le_refl _⟩ dX4_setTo_1 (fun hC => ?_)
  refine v_aload_n C 0 dX4_setTo_4 rfl rfl ?_
  refine v_iload_n C 1 dX4_setTo_5 rfl rfl ?_
  obtain ⟨G4, qr3, hf⟩ := bn hf
  refine v_callVv (As := [.int l1]) (rest := []) C (sX4_addStep h_l0 qr3) cs_X4_33 (by decide) h_l0 rfl hC rfl rfl rfl (Nat.le_of_ble_eq_true rfl) ⟨Nat.le_refl _, Nat.le_refl _⟩ dX4_setTo_6 (fun hC => ?_)
  refine v_aload_n C 0 dX4_setTo_9 rfl rfl ?_
  obtain ⟨G6, qr5, hf⟩ := bn hf
  refine v_callVv (As := []) (rest := []) C (sX4_endPart h_l0 qr5) cs_X4_37 (by decide) h_l0 rfl hC rfl rfl rfl (Nat.le_of_ble_eq_true rfl) ⟨Nat.le_refl _, Nat.le_refl _⟩ dX4_setTo_10 (fun hC => ?_)
  cases hf
  exact kr _ _ dX4_setTo_13 hC
theorem sX4_setTo {l : Launch} {sh : Sh} {G : Hp} {l0 : Nat} {l1 : Int32} {z : Hp} (h_l0 : sh[l0]? = some (0, 4)) (hf : fX4_setTo sh G l0 l1 = some z) : MC l yX4_setTo cX4_setTo 2 none 2 0 0 sh sh G z (fun ad => [.ref (ad l0), .int l1]) (fun _ => none) := by
  refine MC_of rfl rfl (fun _ => Nat.le_of_ble_eq_true rfl) (fun E ad C hl hnm hC hQ => ?_)
  exact tX4_setTo C hC h_l0 hf (fun pc lv hd hC => v_vret C hQ (fun _ _ => rfl) hC rfl hd)
def fX8_clear (sh : Sh) (G : Hp) (l0 : Nat) : Option (Hp) := bd (sI G l0 0 0) fun G1 => bd (sI G1 l0 1 0) fun G2 => bd (sI G2 l0 2 0) fun G3 => bd (sI G3 l0 3 0) fun G4 => bd (sI G4 l0 4 0) fun G5 => bd (sI G5 l0 5 0) fun G6 => (ldO sh G6 l0 14 4).bind fun a7 => (fX4_setTo sh G6 a7 1).bind fun G9 => (ldO sh G9 l0 15 4).bind fun a10 => (fX4_setTo sh G9 a10 1).bind fun G12 => (ldO sh G12 l0 16 4).bind fun a13 => (fX4_setTo sh G12 a13 (-6)).bind fun G15 => some G15
set_option maxHeartbeats 4000000 in
theorem tX8_clear {E : EX} {ad : Nat → Nat} {sh : Sh} {G : Hp} {l0 : Nat} {z : Hp} (C : Cx E RX8 cX8_clear 1 none 3 0 0) (hC : Cl sh G) (h_l0 : sh[l0]? = some (0, 8)) (hf : fX8_clear sh G l0 = some z) (kr : RCv E cX8_clear ad sh z) : VV E 0 0 (wq (xT E) ad G sh) 0 [(0, .ref (ad l0))] [] := by
  unfold fX8_clear at hf
  refine v_aload_n C 0 dX8_clear_0 rfl rfl ?_
  refine v_iconst (v := 0) C dX8_clear_1 (by decide) ?_
  refine v_putI C h_l0 fp_X8_53 dX8_clear_2 (fun G1 eG1 => ?_)
  have hf := bd_at hf eG1
  have hC : Cl sh G1 := by rw [eG1]; exact hC
  refine v_aload_n C 0 dX8_clear_5 rfl rfl ?_
  refine v_iconst (v := 0) C dX8_clear_6 (by decide) ?_
  refine v_putI C h_l0 fp_X8_57 dX8_clear_7 (fun G2 eG2 => ?_)
  have hf := bd_at hf eG2
  have hC : Cl sh G2 := by rw [eG2]; exact hC
  refine v_aload_n C 0 dX8_clear_10 rfl rfl ?_
  refine v_iconst (v := 0) C dX8_clear_11 (by decide) ?_
  refine v_putI C h_l0 fp_X8_60 dX8_clear_12 (fun G3 eG3 => ?_)
  have hf := bd_at hf eG3
  have hC : Cl sh G3 := by rw [eG3]; exact hC
  refine v_aload_n C 0 dX8_clear_15 rfl rfl ?_
  refine v_iconst (v := 0) C dX8_clear_16 (by decide) ?_
  refine v_putI C h_l0 fp_X8_63 dX8_clear_17 (fun G4 eG4 => ?_)
  have hf := bd_at hf eG4
  have hC : Cl sh G4 := by rw [eG4]; exact hC
  refine v_aload_n C 0 dX8_clear_20 rfl rfl ?_
  refine v_iconst (v := 0) C dX8_clear_21 (by decide) ?_
  refine v_putI C h_l0 fp_X8_66 dX8_clear_22 (fun G5 eG5 => ?_)
  have hf := bd_at hf eG5
  have hC : Cl sh G5 := by rw [eG5]; exact hC
  refine v_aload_n C 0 dX8_clear_25 rfl rfl ?_
  refine v_iconst (v := 0) C dX8_clear_26 (by decide) ?_
  refine v_putI C h_l0 fp_X8_69 dX8_clear_27 (fun G6 eG6 => ?_)
  have hf := bd_at hf eG6
  have hC : Cl sh G6 := by rw [eG6]; exact hC
  refine v_aload_n C 0 dX8_clear_30 rfl rfl ?_
  obtain ⟨a7, qa7, hf⟩ := bn hf
  refine v_getO C h_l0 fl_X8_40 qa7 dX8_clear_31 (fun h_a7 => ?_)
  refine v_iconst (v := 1) C dX8_clear_34 (by decide) ?_
  obtain ⟨G9, qr8, hf⟩ := bn hf
  refine v_callVv (As := [.int 1]) (rest := []) C (sX4_setTo h_a7 qr8) cs_X8_72 (by decide) h_a7 rfl hC rfl rfl rfl (Nat.le_of_ble_eq_true rfl) ⟨Nat.le_refl _, Nat.le_refl _⟩ dX8_clear_35 (fun hC => ?_)
  refine v_aload_n C 0 dX8_clear_38 rfl rfl ?_
  obtain ⟨a10, qa10, hf⟩ := bn hf
  refine v_getO C h_l0 fl_X8_44 qa10 dX8_clear_39 (fun h_a10 => ?_)
  refine v_iconst (v := 1) C dX8_clear_42 (by decide) ?_
  obtain ⟨G12, qr11, hf⟩ := bn hf
  refine v_callVv (As := [.int 1]) (rest := []) C (sX4_setTo h_a10 qr11) cs_X8_72 (by decide) h_a10 rfl hC rfl rfl rfl (Nat.le_of_ble_eq_true rfl) ⟨Nat.le_refl _, Nat.le_refl _⟩ dX8_clear_43 (fun hC => ?_)
  refine v_aload_n C 0 dX8_clear_46 rfl rfl ?_
  obtain ⟨a13, qa13, hf⟩ := bn hf
  refine v_getO C h_l0 fl_X8_47 qa13 dX8_clear_47 (fun h_a13 => ?_)
  refine v_bipush (v := (-6)) C dX8_clear_50 (by decide) ?_
  obtain ⟨G15, qr14, hf⟩ := bn hf
  refine v_callVv (As := [.int (-6)]) (rest := []) C (sX4_setTo h_a13 qr14) cs_X8_72 (by decide) h_a13 rfl hC rfl rfl rfl (Nat.le_of_ble_eq_true rfl) ⟨Nat.le_refl _, Nat.le_refl _⟩ dX8_clear_52 (fun hC => ?_)
  cases hf
  exact kr _ _ dX8_clear_55 hC
theorem sX8_clear {l : Launch} {sh : Sh} {G : Hp} {l0 : Nat} {z : Hp} (h_l0 : sh[l0]? = some (0, 8)) (hf : fX8_clear sh G l0 = some z) : MC l yX8_clear cX8_clear 1 none 3 0 0 sh sh G z (fun ad => [.ref (ad l0)]) (fun _ => none) := by
  refine MC_of rfl rfl (fun _ => Nat.le_of_ble_eq_true rfl) (fun E ad C hl hnm hC hQ => ?_)
  exact tX8_clear C hC h_l0 hf (fun pc lv hd hC => v_vret C hQ (fun _ _ => rfl) hC rfl hd)
def fX7_skipBlanks_S0 (sh : Sh) (l0 : Nat) (G : Hp)  : Option ((Hp) ⊕ ((Hp) ⊕ (Hp))) := if (G.1 l0 0) ≤ (G.1 l0 6) then some (.inr (.inl G)) else (ldA sh G l0 5 2).bind fun a2 => (aI sh G a2 (G.1 l0 6)).bind fun v3 => if v3 = 9 then bd (sI G l0 6 ((G.1 l0 6) + 1)) fun G5 => some (.inl G5) else if v3 = 10 then bd (sI G l0 6 ((G.1 l0 6) + 1)) fun G7 => some (.inl G7) else if v3 = 13 then bd (sI G l0 6 ((G.1 l0 6) + 1)) fun G9 => some (.inl G9) else if v3 = 32 then bd (sI G l0 6 ((G.1 l0 6) + 1)) fun G11 => some (.inl G11) else some (.inr (.inr G))
set_option maxHeartbeats 4000000 in
theorem tX7_skipBlanks_S0 {E : EX} {ad : Nat → Nat} {sh : Sh} {G : Hp} {l0 : Nat} {o : (Hp) ⊕ ((Hp) ⊕ (Hp))} (C : Cx E RX7 cX7_skipBlanks 2 none 1 0 0) (hC : Cl sh G) (h_l0 : sh[l0]? = some (0, 7)) (hf : fX7_skipBlanks_S0 sh l0 G  = some o) (kb : ∀ (G2 : Hp), o = .inl G2 → Cl sh G2 → VV E 0 0 (wq (xT E) ad G2 sh) 0 [(0, .ref (ad l0))] []) (kx59 : ∀ (G2 : Hp), o = .inr (.inl G2) → Cl sh G2 → VV E 0 0 (wq (xT E) ad G2 sh) 59 [(0, .ref (ad l0))] []) (kx45 : ∀ (G2 : Hp), o = .inr (.inr G2) → Cl sh G2 → VV E 0 0 (wq (xT E) ad G2 sh) 45 [(0, .ref (ad l0))] []) : VV E 0 0 (wq (xT E) ad G sh) 0 [(0, .ref (ad l0))] [] := by
  unfold fX7_skipBlanks_S0 at hf
  refine v_aload_n C 0 dX7_skipBlanks_0 rfl rfl ?_
  refine v_getI C h_l0 fl_X7_52 dX7_skipBlanks_1 ?_
  refine v_aload_n C 0 dX7_skipBlanks_4 rfl rfl ?_
  refine v_getI C h_l0 fl_X7_49 dX7_skipBlanks_5 ?_
  refine v_icmp_ge (tgt := 59) C dX7_skipBlanks_8 (by decide) (fun c1 => ?_) (fun c1 => ?_)
  · have hf := ip hf c1
    cases hf
    refine v_sub [0] rfl ?_
    exact kx59 _ rfl hC
  · have hf := im hf c1
    refine v_aload_n C 0 dX7_skipBlanks_11 rfl rfl ?_
    obtain ⟨a2, qa2, hf⟩ := bn hf
    refine v_getA C h_l0 fl_X7_25 qa2 dX7_skipBlanks_12 (fun h_a2 => ?_)
    refine v_aload_n C 0 dX7_skipBlanks_15 rfl rfl ?_
    refine v_getI C h_l0 fl_X7_52 dX7_skipBlanks_16 ?_
    obtain ⟨v3, qv3, hf⟩ := bn hf
    refine v_bald C h_a2 qv3 dX7_skipBlanks_19 ?_
    refine v_istore_n (lv2 := [(1, .int v3), (0, .ref (ad l0))]) C dX7_skipBlanks_20 rfl (by decide) rfl ?_
    refine v_iload_n C 0 dX7_skipBlanks_21 rfl rfl ?_
    refine v_bipush (v := 9) C dX7_skipBlanks_22 (by decide) ?_
    refine v_icmp_eq (tgt := 46) C dX7_skipBlanks_24 (by decide) (fun c4 => ?_) (fun c4 => ?_)
    · have hf := ip hf c4
      refine v_aload_n C 1 dX7_skipBlanks_46 rfl rfl ?_
      refine v_dup C dX7_skipBlanks_47 rfl ?_
      refine v_getI C h_l0 fl_X7_52 dX7_skipBlanks_48 ?_
      refine v_iconst (v := 1) C dX7_skipBlanks_51 (by decide) ?_
      refine v_iadd C dX7_skipBlanks_52 ?_
      refine v_putI C h_l0 fp_X7_52 dX7_skipBlanks_53 (fun G5 eG5 => ?_)
      have hf := bd_at hf eG5
      have hC : Cl sh G5 := by rw [eG5]; exact hC
      refine v_goto (tgt := 0) C dX7_skipBlanks_56 (by decide) ?_
      cases hf
      refine v_sub [1] rfl ?_
      exact kb _ rfl hC
    · have hf := im hf c4
      refine v_iload_n C 0 dX7_skipBlanks_27 rfl rfl ?_
      refine v_bipush (v := 10) C dX7_skipBlanks_28 (by decide) ?_
      refine v_icmp_eq (tgt := 46) C dX7_skipBlanks_30 (by decide) (fun c6 => ?_) (fun c6 => ?_)
      · have hf := ip hf c6
        refine v_aload_n C 1 dX7_skipBlanks_46 rfl rfl ?_
        refine v_dup C dX7_skipBlanks_47 rfl ?_
        refine v_getI C h_l0 fl_X7_52 dX7_skipBlanks_48 ?_
        refine v_iconst (v := 1) C dX7_skipBlanks_51 (by decide) ?_
        refine v_iadd C dX7_skipBlanks_52 ?_
        refine v_putI C h_l0 fp_X7_52 dX7_skipBlanks_53 (fun G7 eG7 => ?_)
        have hf := bd_at hf eG7
        have hC : Cl sh G7 := by rw [eG7]; exact hC
        refine v_goto (tgt := 0) C dX7_skipBlanks_56 (by decide) ?_
        cases hf
        refine v_sub [1] rfl ?_
        exact kb _ rfl hC
      · have hf := im hf c6
        refine v_iload_n C 0 dX7_skipBlanks_33 rfl rfl ?_
        refine v_bipush (v := 13) C dX7_skipBlanks_34 (by decide) ?_
        refine v_icmp_eq (tgt := 46) C dX7_skipBlanks_36 (by decide) (fun c8 => ?_) (fun c8 => ?_)
        · have hf := ip hf c8
          refine v_aload_n C 1 dX7_skipBlanks_46 rfl rfl ?_
          refine v_dup C dX7_skipBlanks_47 rfl ?_
          refine v_getI C h_l0 fl_X7_52 dX7_skipBlanks_48 ?_
          refine v_iconst (v := 1) C dX7_skipBlanks_51 (by decide) ?_
          refine v_iadd C dX7_skipBlanks_52 ?_
          refine v_putI C h_l0 fp_X7_52 dX7_skipBlanks_53 (fun G9 eG9 => ?_)
          have hf := bd_at hf eG9
          have hC : Cl sh G9 := by rw [eG9]; exact hC
          refine v_goto (tgt := 0) C dX7_skipBlanks_56 (by decide) ?_
          cases hf
          refine v_sub [1] rfl ?_
          exact kb _ rfl hC
        · have hf := im hf c8
          refine v_iload_n C 0 dX7_skipBlanks_39 rfl rfl ?_
          refine v_bipush (v := 32) C dX7_skipBlanks_40 (by decide) ?_
          refine v_icmp_eq (tgt := 46) C dX7_skipBlanks_42 (by decide) (fun c10 => ?_) (fun c10 => ?_)
          · have hf := ip hf c10
            refine v_aload_n C 1 dX7_skipBlanks_46 rfl rfl ?_
            refine v_dup C dX7_skipBlanks_47 rfl ?_
            refine v_getI C h_l0 fl_X7_52 dX7_skipBlanks_48 ?_
            refine v_iconst (v := 1) C dX7_skipBlanks_51 (by decide) ?_
            refine v_iadd C dX7_skipBlanks_52 ?_
            refine v_putI C h_l0 fp_X7_52 dX7_skipBlanks_53 (fun G11 eG11 => ?_)
            have hf := bd_at hf eG11
            have hC : Cl sh G11 := by rw [eG11]; exact hC
            refine v_goto (tgt := 0) C dX7_skipBlanks_56 (by decide) ?_
            cases hf
            refine v_sub [1] rfl ?_
            exact kb _ rfl hC
          · have hf := im hf c10
            cases hf
            refine v_sub [1] rfl ?_
            exact kx45 _ rfl hC
def fX7_skipBlanks_J46 (sh : Sh) (G : Hp) (l0 : Nat) : Option (Hp) := bd (sI G l0 6 ((G.1 l0 6) + 1)) fun G1 => (iter (fun s : Hp => fX7_skipBlanks_S0 sh l0 s ) fuel (G1 : Hp)).bind (Sum.elim (fun u4 => bd u4 fun G3 => some G3) (fun u6 => bd u6 fun G5 => some G5))
set_option maxHeartbeats 4000000 in
theorem tX7_skipBlanks_J46 {E : EX} {ad : Nat → Nat} {sh : Sh} {G : Hp} {l0 : Nat} {z : Hp} (C : Cx E RX7 cX7_skipBlanks 2 none 1 0 0) (hC : Cl sh G) (h_l0 : sh[l0]? = some (0, 7)) (hf : fX7_skipBlanks_J46 sh G l0 = some z) (kr : RCv E cX7_skipBlanks ad sh z) : VV E 0 0 (wq (xT E) ad G sh) 46 [(0, .ref (ad l0))] [] := by
  unfold fX7_skipBlanks_J46 at hf
  refine v_aload_n C 0 dX7_skipBlanks_46 rfl rfl ?_
  refine v_dup C dX7_skipBlanks_47 rfl ?_
  refine v_getI C h_l0 fl_X7_52 dX7_skipBlanks_48 ?_
  refine v_iconst (v := 1) C dX7_skipBlanks_51 (by decide) ?_
  refine v_iadd C dX7_skipBlanks_52 ?_
  refine v_putI C h_l0 fp_X7_52 dX7_skipBlanks_53 (fun G1 eG1 => ?_)
  have hf := bd_at hf eG1
  have hC : Cl sh G1 := by rw [eG1]; exact hC
  refine v_goto (tgt := 0) C dX7_skipBlanks_56 (by decide) ?_
  obtain ⟨r2, qr2, hf⟩ := bn hf
  refine v_sub [0] rfl ?_
  refine iter_sound (P := (fun s : Hp => Cl sh (s) → VV E 0 0 (wq (xT E) ad (s) sh) 0 [(0, .ref (ad l0))] [])) (X := fun r => r = r2) (fun jsr2 jor2 hor2 jbr2 jxr2 hC => tX7_skipBlanks_S0 C hC h_l0 hor2 (fun _ e => jbr2 _ e) ?_ ?_) fuel _ r2 qr2 rfl hC
  · intro G3 hu hC
    have e := jxr2 _ hu
    subst e
    have hf := sm_l hf
    have hf := bd_at hf (rfl : G3 = _)
    cases hf
    exact kr _ _ dX7_skipBlanks_59 hC
  · intro G5 hu hC
    have e := jxr2 _ hu
    subst e
    have hf := sm_r hf
    have hf := bd_at hf (rfl : G5 = _)
    cases hf
    exact kr _ _ dX7_skipBlanks_45 hC
def fX7_skipBlanks (sh : Sh) (G : Hp) (l0 : Nat) : Option (Hp) := if (G.1 l0 0) ≤ (G.1 l0 6) then some G else (ldA sh G l0 5 2).bind fun a2 => (aI sh G a2 (G.1 l0 6)).bind fun v3 => if v3 = 9 then fX7_skipBlanks_J46 sh G l0 else if v3 = 10 then fX7_skipBlanks_J46 sh G l0 else if v3 = 13 then fX7_skipBlanks_J46 sh G l0 else if v3 = 32 then fX7_skipBlanks_J46 sh G l0 else some G
set_option maxHeartbeats 4000000 in
theorem tX7_skipBlanks {E : EX} {ad : Nat → Nat} {sh : Sh} {G : Hp} {l0 : Nat} {z : Hp} (C : Cx E RX7 cX7_skipBlanks 2 none 1 0 0) (hC : Cl sh G) (h_l0 : sh[l0]? = some (0, 7)) (hf : fX7_skipBlanks sh G l0 = some z) (kr : RCv E cX7_skipBlanks ad sh z) : VV E 0 0 (wq (xT E) ad G sh) 0 [(0, .ref (ad l0))] [] := by
  unfold fX7_skipBlanks at hf
  refine v_aload_n C 0 dX7_skipBlanks_0 rfl rfl ?_
  refine v_getI C h_l0 fl_X7_52 dX7_skipBlanks_1 ?_
  refine v_aload_n C 0 dX7_skipBlanks_4 rfl rfl ?_
  refine v_getI C h_l0 fl_X7_49 dX7_skipBlanks_5 ?_
  refine v_icmp_ge (tgt := 59) C dX7_skipBlanks_8 (by decide) (fun c1 => ?_) (fun c1 => ?_)
  · have hf := ip hf c1
    cases hf
    exact kr _ _ dX7_skipBlanks_59 hC
  · have hf := im hf c1
    refine v_aload_n C 0 dX7_skipBlanks_11 rfl rfl ?_
    obtain ⟨a2, qa2, hf⟩ := bn hf
    refine v_getA C h_l0 fl_X7_25 qa2 dX7_skipBlanks_12 (fun h_a2 => ?_)
    refine v_aload_n C 0 dX7_skipBlanks_15 rfl rfl ?_
    refine v_getI C h_l0 fl_X7_52 dX7_skipBlanks_16 ?_
    obtain ⟨v3, qv3, hf⟩ := bn hf
    refine v_bald C h_a2 qv3 dX7_skipBlanks_19 ?_
    refine v_istore_n (lv2 := [(1, .int v3), (0, .ref (ad l0))]) C dX7_skipBlanks_20 rfl (by decide) rfl ?_
    refine v_iload_n C 0 dX7_skipBlanks_21 rfl rfl ?_
    refine v_bipush (v := 9) C dX7_skipBlanks_22 (by decide) ?_
    refine v_icmp_eq (tgt := 46) C dX7_skipBlanks_24 (by decide) (fun c4 => ?_) (fun c4 => ?_)
    · have hf := ip hf c4
      refine v_sub [1] rfl ?_
      exact tX7_skipBlanks_J46 C hC h_l0 hf kr
    · have hf := im hf c4
      refine v_iload_n C 0 dX7_skipBlanks_27 rfl rfl ?_
      refine v_bipush (v := 10) C dX7_skipBlanks_28 (by decide) ?_
      refine v_icmp_eq (tgt := 46) C dX7_skipBlanks_30 (by decide) (fun c5 => ?_) (fun c5 => ?_)
      · have hf := ip hf c5
        refine v_sub [1] rfl ?_
        exact tX7_skipBlanks_J46 C hC h_l0 hf kr
      · have hf := im hf c5
        refine v_iload_n C 0 dX7_skipBlanks_33 rfl rfl ?_
        refine v_bipush (v := 13) C dX7_skipBlanks_34 (by decide) ?_
        refine v_icmp_eq (tgt := 46) C dX7_skipBlanks_36 (by decide) (fun c6 => ?_) (fun c6 => ?_)
        · have hf := ip hf c6
          refine v_sub [1] rfl ?_
          exact tX7_skipBlanks_J46 C hC h_l0 hf kr
        · have hf := im hf c6
          refine v_iload_n C 0 dX7_skipBlanks_39 rfl rfl ?_
          refine v_bipush (v := 32) C dX7_skipBlanks_40 (by decide) ?_
          refine v_icmp_eq (tgt := 46) C dX7_skipBlanks_42 (by decide) (fun c7 => ?_) (fun c7 => ?_)
          · have hf := ip hf c7
            refine v_sub [1] rfl ?_
            exact tX7_skipBlanks_J46 C hC h_l0 hf kr
          · have hf := im hf c7
            cases hf
            exact kr _ _ dX7_skipBlanks_45 hC
theorem sX7_skipBlanks {l : Launch} {sh : Sh} {G : Hp} {l0 : Nat} {z : Hp} (h_l0 : sh[l0]? = some (0, 7)) (hf : fX7_skipBlanks sh G l0 = some z) : MC l yX7_skipBlanks cX7_skipBlanks 2 none 1 0 0 sh sh G z (fun ad => [.ref (ad l0)]) (fun _ => none) := by
  refine MC_of rfl rfl (fun _ => Nat.le_of_ble_eq_true rfl) (fun E ad C hl hnm hC hQ => ?_)
  exact tX7_skipBlanks C hC h_l0 hf (fun pc lv hd hC => v_vret C hQ (fun _ _ => rfl) hC rfl hd)
