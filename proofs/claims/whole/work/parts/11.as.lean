def fX11_taken (sh : Sh) (G : Hp) (l0 : Nat) (l1 : Int32) (l2 : Int32) (l3 : Int32) : Option (Int32 × Hp) := (fX11_isBridge sh G l0 l1).bind fun r1 => if r1 = 0 then some ((-1), G) else (fX11_isBeing sh G l0 l2).bind fun r3 => if r3 = 0 then some ((-1), G) else (fX11_isSome sh G l0 l3).bind fun r5 => if r5 = 0 then some ((-1), G) else (fX11_copies sh G l0).bind fun G8 => (fX11_setOf sh G8 l0 l2 l3).bind fun r9 => bp (fX11_doesHold sh G8 l0 l1 r9) fun r10 G11 => if r10 = 0 then some (1, G11) else (fX11_isLearnt sh G11 l0 r9).bind fun r13 => if r13 = 0 then some (0, G11) else some (2, G11)
set_option maxHeartbeats 4000000 in
theorem tX11_taken {E : EX} {ad : Nat → Nat} {sh : Sh} {G : Hp} {l0 : Nat} {l1 : Int32} {l2 : Int32} {l3 : Int32} {z : Int32 × Hp} (C : Cx E RX11 cX11_taken 5 (some .int) 4 0 0) (hC : Cl sh G) (h_l0 : sh[l0]? = some (0, 11)) (hf : fX11_taken sh G l0 l1 l2 l3 = some z) (kr : RCi E cX11_taken ad sh (z.1) (z.2)) : VV E 0 0 (wq (xT E) ad G sh) 0 [(0, .ref (ad l0)), (1, .int l1), (2, .int l2), (3, .int l3)] [] := by
  unfold fX11_taken at hf
  refine v_aload_n C 0 dX11_taken_0 rfl rfl ?_
  refine v_iload_n C 1 dX11_taken_1 rfl rfl ?_
  obtain ⟨r1, qr1, hf⟩ := bn hf
  refine v_callVi (As := [.int l1]) (rest := []) C (sX11_isBridge h_l0 qr1) cs_X11_431 (by decide) h_l0 rfl hC rfl rfl rfl (Nat.le_of_ble_eq_true rfl) ⟨Nat.le_refl _, Nat.le_refl _⟩ dX11_taken_2 (fun hC => ?_)
  refine v_if_eq (tgt := 24) C dX11_taken_5 (by decide) (fun c2 => ?_) (fun c2 => ?_)
  · have hf := ip hf c2
    refine v_iconst (v := (-1)) C dX11_taken_24 (by decide) ?_
    cases hf
    exact kr _ _ dX11_taken_25 hC
  · have hf := im hf c2
    refine v_aload_n C 0 dX11_taken_8 rfl rfl ?_
    refine v_iload_n C 2 dX11_taken_9 rfl rfl ?_
    obtain ⟨r3, qr3, hf⟩ := bn hf
    refine v_callVi (As := [.int l2]) (rest := []) C (sX11_isBeing h_l0 qr3) cs_X11_419 (by decide) h_l0 rfl hC rfl rfl rfl (Nat.le_of_ble_eq_true rfl) ⟨Nat.le_refl _, Nat.le_refl _⟩ dX11_taken_10 (fun hC => ?_)
    refine v_if_eq (tgt := 24) C dX11_taken_13 (by decide) (fun c4 => ?_) (fun c4 => ?_)
    · have hf := ip hf c4
      refine v_iconst (v := (-1)) C dX11_taken_24 (by decide) ?_
      cases hf
      exact kr _ _ dX11_taken_25 hC
    · have hf := im hf c4
      refine v_aload_n C 0 dX11_taken_16 rfl rfl ?_
      refine v_iload_n C 3 dX11_taken_17 rfl rfl ?_
      obtain ⟨r5, qr5, hf⟩ := bn hf
      refine v_callVi (As := [.int l3]) (rest := []) C (sX11_isSome h_l0 qr5) cs_X11_425 (by decide) h_l0 rfl hC rfl rfl rfl (Nat.le_of_ble_eq_true rfl) ⟨Nat.le_refl _, Nat.le_refl _⟩ dX11_taken_18 (fun hC => ?_)
      refine v_if_ne (tgt := 26) C dX11_taken_21 (by decide) (fun c6 => ?_) (fun c6 => ?_)
      · have hf := im hf c6
        refine v_aload_n C 0 dX11_taken_26 rfl rfl ?_
        obtain ⟨G8, qr7, hf⟩ := bn hf
        refine v_callVv (As := []) (rest := []) C (sX11_copies h_l0 qr7) cs_X11_434 (by decide) h_l0 rfl hC rfl rfl rfl (Nat.le_of_ble_eq_true rfl) ⟨Nat.le_refl _, Nat.le_refl _⟩ dX11_taken_27 (fun hC => ?_)
        refine v_aload_n C 0 dX11_taken_30 rfl rfl ?_
        refine v_iload_n C 2 dX11_taken_31 rfl rfl ?_
        refine v_iload_n C 3 dX11_taken_32 rfl rfl ?_
        obtain ⟨r9, qr9, hf⟩ := bn hf
        refine v_callVi (As := [.int l2, .int l3]) (rest := []) C (sX11_setOf h_l0 qr9) cs_X11_428 (by decide) h_l0 rfl hC rfl rfl rfl (Nat.le_of_ble_eq_true rfl) ⟨Nat.le_refl _, Nat.le_refl _⟩ dX11_taken_33 (fun hC => ?_)
        refine v_istore (lv2 := [(4, .int r9), (0, .ref (ad l0)), (1, .int l1), (2, .int l2), (3, .int l3)]) C dX11_taken_36 (by decide) rfl ?_
        refine v_aload_n C 1 dX11_taken_38 rfl rfl ?_
        refine v_iload_n C 2 dX11_taken_39 rfl rfl ?_
        refine v_iload C 0 dX11_taken_40 rfl ?_
        obtain ⟨r10, G11, qr10, hf⟩ := bpn hf
        refine v_callVi (As := [.int l1, .int r9]) (rest := []) C (sX11_doesHold h_l0 qr10) cs_X11_402 (by decide) h_l0 rfl hC rfl rfl rfl (Nat.le_of_ble_eq_true rfl) ⟨Nat.le_refl _, Nat.le_refl _⟩ dX11_taken_42 (fun hC => ?_)
        refine v_if_ne (tgt := 52) C dX11_taken_45 (by decide) (fun c12 => ?_) (fun c12 => ?_)
        · have hf := im hf c12
          refine v_aload_n C 1 dX11_taken_52 rfl rfl ?_
          refine v_iload C 0 dX11_taken_53 rfl ?_
          obtain ⟨r13, qr13, hf⟩ := bn hf
          refine v_callVi (As := [.int r9]) (rest := []) C (sX11_isLearnt h_l0 qr13) cs_X11_406 (by decide) h_l0 rfl hC rfl rfl rfl (Nat.le_of_ble_eq_true rfl) ⟨Nat.le_refl _, Nat.le_refl _⟩ dX11_taken_55 (fun hC => ?_)
          refine v_if_eq (tgt := 65) C dX11_taken_58 (by decide) (fun c14 => ?_) (fun c14 => ?_)
          · have hf := ip hf c14
            refine v_iconst (v := 0) C dX11_taken_65 (by decide) ?_
            cases hf
            exact kr _ _ dX11_taken_66 hC
          · have hf := im hf c14
            refine v_iconst (v := 2) C dX11_taken_61 (by decide) ?_
            refine v_goto (tgt := 66) C dX11_taken_62 (by decide) ?_
            cases hf
            exact kr _ _ dX11_taken_66 hC
        · have hf := ip hf c12
          refine v_iconst (v := 1) C dX11_taken_48 (by decide) ?_
          refine v_goto (tgt := 66) C dX11_taken_49 (by decide) ?_
          cases hf
          exact kr _ _ dX11_taken_66 hC
      · have hf := ip hf c6
        refine v_iconst (v := (-1)) C dX11_taken_24 (by decide) ?_
        cases hf
        exact kr _ _ dX11_taken_25 hC
theorem sX11_taken {l : Launch} {sh : Sh} {G : Hp} {l0 : Nat} {l1 : Int32} {l2 : Int32} {l3 : Int32} {z : Int32 × Hp} (h_l0 : sh[l0]? = some (0, 11)) (hf : fX11_taken sh G l0 l1 l2 l3 = some z) : MC l yX11_taken cX11_taken 5 (some .int) 4 0 0 sh sh G (z.2) (fun ad => [.ref (ad l0), .int l1, .int l2, .int l3]) (fun _ => some (.int z.1)) := by
  refine MC_of rfl rfl (fun _ => Nat.le_of_ble_eq_true rfl) (fun E ad C hl hnm hC hQ => ?_)
  exact tX11_taken C hC h_l0 hf (fun pc lv hd hC => v_iret C hQ (fun _ _ => rfl) hC rfl hd)
def fX11_tell (sh : Sh) (G : Hp) (l0 : Nat) (l1 : Int32) (l2 : Int32) : Option (Int32 × Hp) := if (G.1 l0 74) = 20 then some ((-1), G) else (ldA sh G l0 23 1).bind fun a2 => (aI sh G a2 (G.1 l0 18)).bind fun v3 => (fX11_in l1 0 (v3 - 1)).bind fun r4 => if r4 = 0 then some ((-1), G) else (ldA sh G l0 75 1).bind fun a6 => (asI sh G a6 (G.1 l0 74) l1).bind fun G7 => (ldA sh G7 l0 76 3).bind fun a8 => (asI sh G7 a8 (G7.1 l0 74) (zb l2)).bind fun G9 => bd (sI G9 l0 74 ((G9.1 l0 74) + 1)) fun G10 => some (((G10.1 l0 74) - 1), G10)
set_option maxHeartbeats 4000000 in
theorem tX11_tell {E : EX} {ad : Nat → Nat} {sh : Sh} {G : Hp} {l0 : Nat} {l1 : Int32} {l2 : Int32} {z : Int32 × Hp} (C : Cx E RX11 cX11_tell 3 (some .int) 2 0 0) (hC : Cl sh G) (h_l0 : sh[l0]? = some (0, 11)) (hf : fX11_tell sh G l0 l1 l2 = some z) (kr : RCi E cX11_tell ad sh (z.1) (z.2)) : VV E 0 0 (wq (xT E) ad G sh) 0 [(0, .ref (ad l0)), (1, .int l1), (2, .int l2)] [] := by
  unfold fX11_tell at hf
  refine v_aload_n C 0 dX11_tell_0 rfl rfl ?_
  refine v_getI C h_l0 fl_X11_281 dX11_tell_1 ?_
  refine v_bipush (v := 20) C dX11_tell_4 (by decide) ?_
  refine v_icmp_eq (tgt := 28) C dX11_tell_6 (by decide) (fun c1 => ?_) (fun c1 => ?_)
  · have hf := ip hf c1
    refine v_iconst (v := (-1)) C dX11_tell_28 (by decide) ?_
    cases hf
    exact kr _ _ dX11_tell_29 hC
  · have hf := im hf c1
    refine v_iload_n C 1 dX11_tell_9 rfl rfl ?_
    refine v_iconst (v := 0) C dX11_tell_10 (by decide) ?_
    refine v_aload_n C 0 dX11_tell_11 rfl rfl ?_
    obtain ⟨a2, qa2, hf⟩ := bn hf
    refine v_getA C h_l0 fl_X11_46 qa2 dX11_tell_12 (fun h_a2 => ?_)
    refine v_aload_n C 0 dX11_tell_15 rfl rfl ?_
    refine v_getI C h_l0 fl_X11_257 dX11_tell_16 ?_
    obtain ⟨v3, qv3, hf⟩ := bn hf
    refine v_iald C h_a2 qv3 dX11_tell_19 ?_
    refine v_iconst (v := 1) C dX11_tell_20 (by decide) ?_
    refine v_isub C dX11_tell_21 ?_
    obtain ⟨r4, qr4, hf⟩ := bn hf
    refine v_callSi (As := [.int l1, .int 0, .int (v3 - 1)]) (rest := []) C (sX11_in  qr4) cs_X11_370 (by decide) hC rfl rfl rfl (Nat.le_of_ble_eq_true rfl) ⟨Nat.le_refl _, Nat.le_refl _⟩ dX11_tell_22 (fun hC => ?_)
    refine v_if_ne (tgt := 30) C dX11_tell_25 (by decide) (fun c5 => ?_) (fun c5 => ?_)
    · have hf := im hf c5
      refine v_aload_n C 0 dX11_tell_30 rfl rfl ?_
      obtain ⟨a6, qa6, hf⟩ := bn hf
      refine v_getA C h_l0 fl_X11_164 qa6 dX11_tell_31 (fun h_a6 => ?_)
      refine v_aload_n C 0 dX11_tell_34 rfl rfl ?_
      refine v_getI C h_l0 fl_X11_281 dX11_tell_35 ?_
      refine v_iload_n C 1 dX11_tell_38 rfl rfl ?_
      obtain ⟨G7, qG7, hf⟩ := bn hf
      refine v_iast C h_a6 qG7 hC dX11_tell_39 (fun hC => ?_)
      refine v_aload_n C 0 dX11_tell_40 rfl rfl ?_
      obtain ⟨a8, qa8, hf⟩ := bn hf
      refine v_getA C h_l0 fl_X11_167 qa8 dX11_tell_41 (fun h_a8 => ?_)
      refine v_aload_n C 0 dX11_tell_44 rfl rfl ?_
      refine v_getI C h_l0 fl_X11_281 dX11_tell_45 ?_
      refine v_iload_n C 2 dX11_tell_48 rfl rfl ?_
      obtain ⟨G9, qG9, hf⟩ := bn hf
      refine v_zast C h_a8 qG9 hC dX11_tell_49 (fun hC => ?_)
      refine v_aload_n C 0 dX11_tell_50 rfl rfl ?_
      refine v_dup C dX11_tell_51 rfl ?_
      refine v_getI C h_l0 fl_X11_281 dX11_tell_52 ?_
      refine v_iconst (v := 1) C dX11_tell_55 (by decide) ?_
      refine v_iadd C dX11_tell_56 ?_
      refine v_putI C h_l0 fp_X11_281 dX11_tell_57 (fun G10 eG10 => ?_)
      have hf := bd_at hf eG10
      have hC : Cl sh G10 := by rw [eG10]; exact hC
      refine v_aload_n C 0 dX11_tell_60 rfl rfl ?_
      refine v_getI C h_l0 fl_X11_281 dX11_tell_61 ?_
      refine v_iconst (v := 1) C dX11_tell_64 (by decide) ?_
      refine v_isub C dX11_tell_65 ?_
      cases hf
      exact kr _ _ dX11_tell_66 hC
    · have hf := ip hf c5
      refine v_iconst (v := (-1)) C dX11_tell_28 (by decide) ?_
      cases hf
      exact kr _ _ dX11_tell_29 hC
theorem sX11_tell {l : Launch} {sh : Sh} {G : Hp} {l0 : Nat} {l1 : Int32} {l2 : Int32} {z : Int32 × Hp} (h_l0 : sh[l0]? = some (0, 11)) (hf : fX11_tell sh G l0 l1 l2 = some z) : MC l yX11_tell cX11_tell 3 (some .int) 2 0 0 sh sh G (z.2) (fun ad => [.ref (ad l0), .int l1, .int l2]) (fun _ => some (.int z.1)) := by
  refine MC_of rfl rfl (fun _ => Nat.le_of_ble_eq_true rfl) (fun E ad C hl hnm hC hQ => ?_)
  exact tX11_tell C hC h_l0 hf (fun pc lv hd hC => v_iret C hQ (fun _ _ => rfl) hC rfl hd)
def fX11_undo_S21 (sh : Sh) (l0 : Nat) (G : Hp) (l1 : Int32) : Option ((Hp × Int32) ⊕ ((Hp))) := if 26 ≤ l1 then some (.inr G) else (ldA sh G l0 58 1).bind fun a2 => (ldA sh G l0 65 1).bind fun a3 => (aI sh G a3 (((26 : Int32) * (G.1 l0 64)) + l1)).bind fun v4 => (asI sh G a2 l1 v4).bind fun G5 => bd ((l1 + 1) : Int32) fun x6 => some (.inl (G5, x6))
set_option maxHeartbeats 4000000 in
theorem tX11_undo_S21 {E : EX} {ad : Nat → Nat} {sh : Sh} {G : Hp} {l0 : Nat} {l1 : Int32} {o : (Hp × Int32) ⊕ ((Hp))} (C : Cx E RX11 cX11_undo 2 (some .boolean) 1 0 0) (hC : Cl sh G) (h_l0 : sh[l0]? = some (0, 11)) (hf : fX11_undo_S21 sh l0 G l1 = some o) (kb : ∀ (G2 : Hp) (b_l1 : Int32), o = .inl (G2, b_l1) → Cl sh G2 → VV E 0 0 (wq (xT E) ad G2 sh) 21 [(0, .ref (ad l0)), (1, .int b_l1)] []) (kx53 : ∀ (G2 : Hp), o = .inr G2 → Cl sh G2 → VV E 0 0 (wq (xT E) ad G2 sh) 53 [(0, .ref (ad l0))] []) : VV E 0 0 (wq (xT E) ad G sh) 21 [(0, .ref (ad l0)), (1, .int l1)] [] := by
  unfold fX11_undo_S21 at hf
  refine v_iload_n C 1 dX11_undo_21 rfl rfl ?_
  refine v_bipush (v := 26) C dX11_undo_22 (by decide) ?_
  refine v_icmp_ge (tgt := 53) C dX11_undo_24 (by decide) (fun c1 => ?_) (fun c1 => ?_)
  · have hf := ip hf c1
    cases hf
    refine v_sub [0] rfl ?_
    exact kx53 _ rfl hC
  · have hf := im hf c1
    refine v_aload_n C 0 dX11_undo_27 rfl rfl ?_
    obtain ⟨a2, qa2, hf⟩ := bn hf
    refine v_getA C h_l0 fl_X11_134 qa2 dX11_undo_28 (fun h_a2 => ?_)
    refine v_iload_n C 1 dX11_undo_31 rfl rfl ?_
    refine v_aload_n C 0 dX11_undo_32 rfl rfl ?_
    obtain ⟨a3, qa3, hf⟩ := bn hf
    refine v_getA C h_l0 fl_X11_146 qa3 dX11_undo_33 (fun h_a3 => ?_)
    refine v_bipush (v := 26) C dX11_undo_36 (by decide) ?_
    refine v_aload_n C 0 dX11_undo_38 rfl rfl ?_
    refine v_getI C h_l0 fl_X11_278 dX11_undo_39 ?_
    refine v_imul C dX11_undo_42 ?_
    refine v_iload_n C 1 dX11_undo_43 rfl rfl ?_
    refine v_iadd C dX11_undo_44 ?_
    obtain ⟨v4, qv4, hf⟩ := bn hf
    refine v_iald C h_a3 qv4 dX11_undo_45 ?_
    obtain ⟨G5, qG5, hf⟩ := bn hf
    refine v_iast C h_a2 qG5 hC dX11_undo_46 (fun hC => ?_)
    obtain ⟨x6, ex6⟩ : ∃ x : Int32, x = (l1 + 1) := ⟨_, rfl⟩
    have hf := bd_at hf ex6
    refine v_iinc (v := x6) (j := 1) (lv2 := [(1, .int x6), (0, .ref (ad l0))]) C dX11_undo_47 rfl (by rw [ex6]; rfl) (by decide) rfl ?_
    refine v_goto (tgt := 21) C dX11_undo_50 (by decide) ?_
    cases hf
    refine v_sub [1, 0] rfl ?_
    exact kb _ _ rfl hC
def fX11_undo (sh : Sh) (G : Hp) (l0 : Nat) : Option (Int32 × Hp) := if (G.1 l0 64) = 0 then some (0, G) else bd (sI G l0 64 ((G.1 l0 64) - 1)) fun G2 => (iter (fun s : Hp × Int32 => fX11_undo_S21 sh l0 s.1 s.2) fuel ((G2, 0) : Hp × Int32)).bind (fun u5 => bd u5 fun G4 => some (1, G4))
set_option maxHeartbeats 4000000 in
theorem tX11_undo {E : EX} {ad : Nat → Nat} {sh : Sh} {G : Hp} {l0 : Nat} {z : Int32 × Hp} (C : Cx E RX11 cX11_undo 2 (some .boolean) 1 0 0) (hC : Cl sh G) (h_l0 : sh[l0]? = some (0, 11)) (hf : fX11_undo sh G l0 = some z) (kr : RCz E cX11_undo ad sh (z.1) (z.2)) : VV E 0 0 (wq (xT E) ad G sh) 0 [(0, .ref (ad l0))] [] := by
  unfold fX11_undo at hf
  refine v_aload_n C 0 dX11_undo_0 rfl rfl ?_
  refine v_getI C h_l0 fl_X11_278 dX11_undo_1 ?_
  refine v_if_ne (tgt := 9) C dX11_undo_4 (by decide) (fun c1 => ?_) (fun c1 => ?_)
  · have hf := im hf c1
    refine v_aload_n C 0 dX11_undo_9 rfl rfl ?_
    refine v_dup C dX11_undo_10 rfl ?_
    refine v_getI C h_l0 fl_X11_278 dX11_undo_11 ?_
    refine v_iconst (v := 1) C dX11_undo_14 (by decide) ?_
    refine v_isub C dX11_undo_15 ?_
    refine v_putI C h_l0 fp_X11_278 dX11_undo_16 (fun G2 eG2 => ?_)
    have hf := bd_at hf eG2
    have hC : Cl sh G2 := by rw [eG2]; exact hC
    refine v_iconst (v := 0) C dX11_undo_19 (by decide) ?_
    refine v_istore_n (lv2 := [(1, .int 0), (0, .ref (ad l0))]) C dX11_undo_20 rfl (by decide) rfl ?_
    obtain ⟨r3, qr3, hf⟩ := bn hf
    refine v_sub [1, 0] rfl ?_
    refine iter_sound (P := (fun s : Hp × Int32 => Cl sh (s.1) → VV E 0 0 (wq (xT E) ad (s.1) sh) 21 [(0, .ref (ad l0)), (1, .int (s.2))] [])) (X := fun r => r = r3) (fun jsr3 jor3 hor3 jbr3 jxr3 hC => tX11_undo_S21 C hC h_l0 hor3 (fun _ _ e => jbr3 _ e) ?_) fuel _ r3 qr3 rfl hC
    · intro G4 hu hC
      have e := jxr3 _ hu
      subst e
      have hf := bd_at hf (rfl : G4 = _)
      refine v_iconst (v := 1) C dX11_undo_53 (by decide) ?_
      cases hf
      exact kr _ _ dX11_undo_54 (Or.inr rfl) hC
  · have hf := ip hf c1
    refine v_iconst (v := 0) C dX11_undo_7 (by decide) ?_
    cases hf
    exact kr _ _ dX11_undo_8 (Or.inl rfl) hC
theorem sX11_undo {l : Launch} {sh : Sh} {G : Hp} {l0 : Nat} {z : Int32 × Hp} (h_l0 : sh[l0]? = some (0, 11)) (hf : fX11_undo sh G l0 = some z) : MC l yX11_undo cX11_undo 2 (some .boolean) 1 0 0 sh sh G (z.2) (fun ad => [.ref (ad l0)]) (fun _ => some (.int z.1)) := by
  refine MC_of rfl rfl (fun _ => Nat.le_of_ble_eq_true rfl) (fun E ad C hl hnm hC hQ => ?_)
  exact tX11_undo C hC h_l0 hf (fun pc lv hd hz hC => v_zret C hQ (fun _ _ => rfl) hC rfl hz hd)
def fX11_way (sh : Sh) (G : Hp) (l0 : Nat) (l1 : Int32) (l2 : Int32) : Option (Int32) := (fX11_isWay sh G l0 l1).bind fun r1 => if r1 = 0 then some (-1) else if l2 = 0 then (ldA sh G l0 28 1).bind fun a4 => (aI sh G a4 (((4 : Int32) * (G.1 l0 18)) + l1)).bind fun v5 => some v5 else if l2 = 1 then (ldA sh G l0 29 1).bind fun a7 => (aI sh G a7 (((4 : Int32) * (G.1 l0 18)) + l1)).bind fun v8 => some v8 else if l2 = 2 then (ldA sh G l0 30 1).bind fun a10 => (aI sh G a10 (((4 : Int32) * (G.1 l0 18)) + l1)).bind fun v11 => some v11 else some (-1)
set_option maxHeartbeats 4000000 in
theorem tX11_way {E : EX} {ad : Nat → Nat} {sh : Sh} {G : Hp} {l0 : Nat} {l1 : Int32} {l2 : Int32} {z : Int32} (C : Cx E RX11 cX11_way 3 (some .int) 3 0 0) (hC : Cl sh G) (h_l0 : sh[l0]? = some (0, 11)) (hf : fX11_way sh G l0 l1 l2 = some z) (kr : RCi E cX11_way ad sh z G) : VV E 0 0 (wq (xT E) ad G sh) 0 [(0, .ref (ad l0)), (1, .int l1), (2, .int l2)] [] := by
  unfold fX11_way at hf
  refine v_aload_n C 0 dX11_way_0 rfl rfl ?_
  refine v_iload_n C 1 dX11_way_1 rfl rfl ?_
  obtain ⟨r1, qr1, hf⟩ := bn hf
  refine v_callVi (As := [.int l1]) (rest := []) C (sX11_isWay h_l0 qr1) cs_X11_422 (by decide) h_l0 rfl hC rfl rfl rfl (Nat.le_of_ble_eq_true rfl) ⟨Nat.le_refl _, Nat.le_refl _⟩ dX11_way_2 (fun hC => ?_)
  refine v_if_ne (tgt := 10) C dX11_way_5 (by decide) (fun c2 => ?_) (fun c2 => ?_)
  · have hf := im hf c2
    refine v_iload_n C 2 dX11_way_10 rfl rfl ?_
    by_cases c3 : l2 = 0
    · have hf := ip hf c3
      refine v_tableIn (off := 25) (tgt := 36) C dX11_way_11 (by rw [c3]; decide) (by rw [c3]; decide) (by rw [c3]; decide) (by decide) ?_
      refine v_aload_n C 0 dX11_way_36 rfl rfl ?_
      obtain ⟨a4, qa4, hf⟩ := bn hf
      refine v_getA C h_l0 fl_X11_61 qa4 dX11_way_37 (fun h_a4 => ?_)
      refine v_iconst (v := 4) C dX11_way_40 (by decide) ?_
      refine v_aload_n C 0 dX11_way_41 rfl rfl ?_
      refine v_getI C h_l0 fl_X11_257 dX11_way_42 ?_
      refine v_imul C dX11_way_45 ?_
      refine v_iload_n C 1 dX11_way_46 rfl rfl ?_
      refine v_iadd C dX11_way_47 ?_
      obtain ⟨v5, qv5, hf⟩ := bn hf
      refine v_iald C h_a4 qv5 dX11_way_48 ?_
      cases hf
      exact kr _ _ dX11_way_49 hC
    · have hf := im hf c3
      by_cases c6 : l2 = 1
      · have hf := ip hf c6
        refine v_tableIn (off := 39) (tgt := 50) C dX11_way_11 (by rw [c6]; decide) (by rw [c6]; decide) (by rw [c6]; decide) (by decide) ?_
        refine v_aload_n C 0 dX11_way_50 rfl rfl ?_
        obtain ⟨a7, qa7, hf⟩ := bn hf
        refine v_getA C h_l0 fl_X11_64 qa7 dX11_way_51 (fun h_a7 => ?_)
        refine v_iconst (v := 4) C dX11_way_54 (by decide) ?_
        refine v_aload_n C 0 dX11_way_55 rfl rfl ?_
        refine v_getI C h_l0 fl_X11_257 dX11_way_56 ?_
        refine v_imul C dX11_way_59 ?_
        refine v_iload_n C 1 dX11_way_60 rfl rfl ?_
        refine v_iadd C dX11_way_61 ?_
        obtain ⟨v8, qv8, hf⟩ := bn hf
        refine v_iald C h_a7 qv8 dX11_way_62 ?_
        cases hf
        exact kr _ _ dX11_way_63 hC
      · have hf := im hf c6
        by_cases c9 : l2 = 2
        · have hf := ip hf c9
          refine v_tableIn (off := 53) (tgt := 64) C dX11_way_11 (by rw [c9]; decide) (by rw [c9]; decide) (by rw [c9]; decide) (by decide) ?_
          refine v_aload_n C 0 dX11_way_64 rfl rfl ?_
          obtain ⟨a10, qa10, hf⟩ := bn hf
          refine v_getA C h_l0 fl_X11_67 qa10 dX11_way_65 (fun h_a10 => ?_)
          refine v_iconst (v := 4) C dX11_way_68 (by decide) ?_
          refine v_aload_n C 0 dX11_way_69 rfl rfl ?_
          refine v_getI C h_l0 fl_X11_257 dX11_way_70 ?_
          refine v_imul C dX11_way_73 ?_
          refine v_iload_n C 1 dX11_way_74 rfl rfl ?_
          refine v_iadd C dX11_way_75 ?_
          obtain ⟨v11, qv11, hf⟩ := bn hf
          refine v_iald C h_a10 qv11 dX11_way_76 ?_
          cases hf
          exact kr _ _ dX11_way_77 hC
        · have hf := im hf c9
          refine v_tableOut (tgt := 78) C dX11_way_11 (tsw_out (by decide) (by decide) (fun k hk => match k, hk with | 0, _ => fun e => c3 (e.trans (by decide)) | 1, _ => fun e => c6 (e.trans (by decide)) | 2, _ => fun e => c9 (e.trans (by decide)) | k + 3, hk => absurd hk (by simp only [show (Int.toNat (2 - 0 + 1)) = 3 from rfl]; omega))) (by decide) ?_
          refine v_iconst (v := (-1)) C dX11_way_78 (by decide) ?_
          cases hf
          exact kr _ _ dX11_way_79 hC
  · have hf := ip hf c2
    refine v_iconst (v := (-1)) C dX11_way_8 (by decide) ?_
    cases hf
    exact kr _ _ dX11_way_9 hC
theorem sX11_way {l : Launch} {sh : Sh} {G : Hp} {l0 : Nat} {l1 : Int32} {l2 : Int32} {z : Int32} (h_l0 : sh[l0]? = some (0, 11)) (hf : fX11_way sh G l0 l1 l2 = some z) : MC l yX11_way cX11_way 3 (some .int) 3 0 0 sh sh G G (fun ad => [.ref (ad l0), .int l1, .int l2]) (fun _ => some (.int z)) := by
  refine MC_of rfl rfl (fun _ => Nat.le_of_ble_eq_true rfl) (fun E ad C hl hnm hC hQ => ?_)
  exact tX11_way C hC h_l0 hf (fun pc lv hd hC => v_iret C hQ (fun _ _ => rfl) hC rfl hd)
def fX11_word (l0 : Int32) (l1 : Int32) (l2 : Int32) (l3 : Int32) (l4 : Int32) (l5 : Int32) (l6 : Int32) : Option (Int64) := (fX11_appends 0 l0).bind fun r1 => (fX11_appends r1 l1).bind fun r2 => (fX11_appends r2 l2).bind fun r3 => (fX11_appends r3 l3).bind fun r4 => (fX11_appends r4 l4).bind fun r5 => (fX11_appends r5 l5).bind fun r6 => (fX11_appends r6 l6).bind fun r7 => some r7
set_option maxHeartbeats 4000000 in
theorem tX11_word {E : EX} {ad : Nat → Nat} {sh : Sh} {G : Hp} {l0 : Int32} {l1 : Int32} {l2 : Int32} {l3 : Int32} {l4 : Int32} {l5 : Int32} {l6 : Int32} {z : Int64} (C : Cx E RX11 cX11_word 7 (some .long) 2 0 0) (hC : Cl sh G) (hf : fX11_word l0 l1 l2 l3 l4 l5 l6 = some z) (kr : RCl E cX11_word ad sh z G) : VV E 0 0 (wq (xT E) ad G sh) 0 [(0, .int l0), (1, .int l1), (2, .int l2), (3, .int l3), (4, .int l4), (5, .int l5), (6, .int l6)] [] := by
  unfold fX11_word at hf
  refine v_lconst (v := 0) C dX11_word_0 (by decide) ?_
  refine v_iload_n C 0 dX11_word_1 rfl rfl ?_
  obtain ⟨r1, qr1, hf⟩ := bn hf
  refine v_callSl (As := [.long 0, .int l0]) (rest := []) C (sX11_appends  qr1) cs_X11_201 (by decide) hC rfl rfl rfl (Nat.le_of_ble_eq_true rfl) ⟨Nat.le_refl _, Nat.le_refl _⟩ dX11_word_2 (fun hC => ?_)
  refine v_iload_n C 1 dX11_word_5 rfl rfl ?_
  obtain ⟨r2, qr2, hf⟩ := bn hf
  refine v_callSl (As := [.long r1, .int l1]) (rest := []) C (sX11_appends  qr2) cs_X11_201 (by decide) hC rfl rfl rfl (Nat.le_of_ble_eq_true rfl) ⟨Nat.le_refl _, Nat.le_refl _⟩ dX11_word_6 (fun hC => ?_)
  refine v_iload_n C 2 dX11_word_9 rfl rfl ?_
  obtain ⟨r3, qr3, hf⟩ := bn hf
  refine v_callSl (As := [.long r2, .int l2]) (rest := []) C (sX11_appends  qr3) cs_X11_201 (by decide) hC rfl rfl rfl (Nat.le_of_ble_eq_true rfl) ⟨Nat.le_refl _, Nat.le_refl _⟩ dX11_word_10 (fun hC => ?_)
  refine v_iload_n C 3 dX11_word_13 rfl rfl ?_
  obtain ⟨r4, qr4, hf⟩ := bn hf
  refine v_callSl (As := [.long r3, .int l3]) (rest := []) C (sX11_appends  qr4) cs_X11_201 (by decide) hC rfl rfl rfl (Nat.le_of_ble_eq_true rfl) ⟨Nat.le_refl _, Nat.le_refl _⟩ dX11_word_14 (fun hC => ?_)
  refine v_iload C 4 dX11_word_17 rfl ?_
  obtain ⟨r5, qr5, hf⟩ := bn hf
  refine v_callSl (As := [.long r4, .int l4]) (rest := []) C (sX11_appends  qr5) cs_X11_201 (by decide) hC rfl rfl rfl (Nat.le_of_ble_eq_true rfl) ⟨Nat.le_refl _, Nat.le_refl _⟩ dX11_word_19 (fun hC => ?_)
  refine v_iload C 5 dX11_word_22 rfl ?_
  obtain ⟨r6, qr6, hf⟩ := bn hf
  refine v_callSl (As := [.long r5, .int l5]) (rest := []) C (sX11_appends  qr6) cs_X11_201 (by decide) hC rfl rfl rfl (Nat.le_of_ble_eq_true rfl) ⟨Nat.le_refl _, Nat.le_refl _⟩ dX11_word_24 (fun hC => ?_)
  refine v_iload C 6 dX11_word_27 rfl ?_
  obtain ⟨r7, qr7, hf⟩ := bn hf
  refine v_callSl (As := [.long r6, .int l6]) (rest := []) C (sX11_appends  qr7) cs_X11_201 (by decide) hC rfl rfl rfl (Nat.le_of_ble_eq_true rfl) ⟨Nat.le_refl _, Nat.le_refl _⟩ dX11_word_29 (fun hC => ?_)
  cases hf
  exact kr _ _ dX11_word_32 hC
theorem sX11_word {l : Launch} {sh : Sh} {G : Hp} {l0 : Int32} {l1 : Int32} {l2 : Int32} {l3 : Int32} {l4 : Int32} {l5 : Int32} {l6 : Int32} {z : Int64} (hf : fX11_word l0 l1 l2 l3 l4 l5 l6 = some z) : MC l yX11_word cX11_word 7 (some .long) 2 0 0 sh sh G G (fun ad => [.int l0, .int l1, .int l2, .int l3, .int l4, .int l5, .int l6]) (fun _ => some (.long z)) := by
  refine MC_of rfl rfl (fun _ => Nat.le_of_ble_eq_true rfl) (fun E ad C hl hnm hC hQ => ?_)
  exact tX11_word C hC hf (fun pc lv hd hC => v_lret C hQ (fun _ _ => rfl) hC rfl hd)
def fX11_year_S33 (sh : Sh) (l0 : Nat) (l1 : Int32) (l2 : Int32) (l3 : Int32) (G : Hp) (l4 : Int32) (l5 : Int32) : Option ((Hp × Int32 × Int32) ⊕ ((Hp × Int32))) := if l3 ≤ l5 then some (.inr (G, l4)) else (fX11_copies sh G l0).bind fun G3 => bd (sI G3 l0 60 ((G3.1 l0 60) + l5)) fun G4 => (fX11_goes sh G4 l0 l2).bind fun G6 => (ldA sh G6 l0 59 1).bind fun a7 => (aI sh G6 a7 ((4 : Int32) + l1)).bind fun v8 => if v8 = 1 then bd ((l4 + 1) : Int32) fun x11 => bd ((l5 + 1) : Int32) fun x12 => some (.inl (G6, x11, x12)) else bd ((l5 + 1) : Int32) fun x10 => some (.inl (G6, l4, x10))
set_option maxHeartbeats 4000000 in
theorem tX11_year_S33 {E : EX} {ad : Nat → Nat} {sh : Sh} {G : Hp} {l0 : Nat} {l1 : Int32} {l2 : Int32} {l3 : Int32} {l4 : Int32} {l5 : Int32} {o : (Hp × Int32 × Int32) ⊕ ((Hp × Int32))} (C : Cx E RX11 cX11_year 6 (some .int) 6 0 0) (hC : Cl sh G) (h_l0 : sh[l0]? = some (0, 11)) (hf : fX11_year_S33 sh l0 l1 l2 l3 G l4 l5 = some o) (kb : ∀ (G2 : Hp) (b_l4 : Int32) (b_l5 : Int32), o = .inl (G2, b_l4, b_l5) → Cl sh G2 → VV E 0 0 (wq (xT E) ad G2 sh) 33 [(0, .ref (ad l0)), (1, .int l1), (2, .int l2), (3, .int l3), (4, .int b_l4), (5, .int b_l5)] []) (kx80 : ∀ (G2 : Hp) (b_l4 : Int32), o = .inr (G2, b_l4) → Cl sh G2 → VV E 0 0 (wq (xT E) ad G2 sh) 80 [(0, .ref (ad l0)), (1, .int l1), (2, .int l2), (3, .int l3), (4, .int b_l4)] []) : VV E 0 0 (wq (xT E) ad G sh) 33 [(0, .ref (ad l0)), (1, .int l1), (2, .int l2), (3, .int l3), (4, .int l4), (5, .int l5)] [] := by
  unfold fX11_year_S33 at hf
  refine v_iload C 5 dX11_year_33 rfl ?_
  refine v_iload_n C 3 dX11_year_35 rfl rfl ?_
  refine v_icmp_ge (tgt := 80) C dX11_year_36 (by decide) (fun c1 => ?_) (fun c1 => ?_)
  · have hf := ip hf c1
    cases hf
    refine v_sub [0, 1, 2, 3, 4] rfl ?_
    exact kx80 _ _ rfl hC
  · have hf := im hf c1
    refine v_aload_n C 0 dX11_year_39 rfl rfl ?_
    obtain ⟨G3, qr2, hf⟩ := bn hf
    refine v_callVv (As := []) (rest := []) C (sX11_copies h_l0 qr2) cs_X11_434 (by decide) h_l0 rfl hC rfl rfl rfl (Nat.le_of_ble_eq_true rfl) ⟨Nat.le_refl _, Nat.le_refl _⟩ dX11_year_40 (fun hC => ?_)
    refine v_aload_n C 0 dX11_year_43 rfl rfl ?_
    refine v_dup C dX11_year_44 rfl ?_
    refine v_getI C h_l0 fl_X11_374 dX11_year_45 ?_
    refine v_iload C 5 dX11_year_48 rfl ?_
    refine v_iadd C dX11_year_50 ?_
    refine v_putI C h_l0 fp_X11_374 dX11_year_51 (fun G4 eG4 => ?_)
    have hf := bd_at hf eG4
    have hC : Cl sh G4 := by rw [eG4]; exact hC
    refine v_aload_n C 0 dX11_year_54 rfl rfl ?_
    refine v_iload_n C 2 dX11_year_55 rfl rfl ?_
    obtain ⟨G6, qr5, hf⟩ := bn hf
    refine v_callVv (As := [.int l2]) (rest := []) C (sX11_goes h_l0 qr5) cs_X11_461 (by decide) h_l0 rfl hC rfl rfl rfl (Nat.le_of_ble_eq_true rfl) ⟨Nat.le_refl _, Nat.le_refl _⟩ dX11_year_56 (fun hC => ?_)
    refine v_aload_n C 0 dX11_year_59 rfl rfl ?_
    obtain ⟨a7, qa7, hf⟩ := bn hf
    refine v_getA C h_l0 fl_X11_137 qa7 dX11_year_60 (fun h_a7 => ?_)
    refine v_iconst (v := 4) C dX11_year_63 (by decide) ?_
    refine v_iload_n C 1 dX11_year_64 rfl rfl ?_
    refine v_iadd C dX11_year_65 ?_
    obtain ⟨v8, qv8, hf⟩ := bn hf
    refine v_iald C h_a7 qv8 dX11_year_66 ?_
    refine v_iconst (v := 1) C dX11_year_67 (by decide) ?_
    refine v_icmp_ne (tgt := 74) C dX11_year_68 (by decide) (fun c9 => ?_) (fun c9 => ?_)
    · have hf := im hf c9
      obtain ⟨x10, ex10⟩ : ∃ x : Int32, x = (l5 + 1) := ⟨_, rfl⟩
      have hf := bd_at hf ex10
      refine v_iinc (v := x10) (j := 5) (lv2 := [(5, .int x10), (0, .ref (ad l0)), (1, .int l1), (2, .int l2), (3, .int l3), (4, .int l4)]) C dX11_year_74 rfl (by rw [ex10]; rfl) (by decide) rfl ?_
      refine v_goto (tgt := 33) C dX11_year_77 (by decide) ?_
      cases hf
      refine v_sub [1, 2, 3, 4, 5, 0] rfl ?_
      exact kb _ _ _ rfl hC
    · have hf := ip hf c9
      obtain ⟨x11, ex11⟩ : ∃ x : Int32, x = (l4 + 1) := ⟨_, rfl⟩
      have hf := bd_at hf ex11
      refine v_iinc (v := x11) (j := 4) (lv2 := [(4, .int x11), (0, .ref (ad l0)), (1, .int l1), (2, .int l2), (3, .int l3), (5, .int l5)]) C dX11_year_71 rfl (by rw [ex11]; rfl) (by decide) rfl ?_
      obtain ⟨x12, ex12⟩ : ∃ x : Int32, x = (l5 + 1) := ⟨_, rfl⟩
      have hf := bd_at hf ex12
      refine v_iinc (v := x12) (j := 5) (lv2 := [(5, .int x12), (4, .int x11), (0, .ref (ad l0)), (1, .int l1), (2, .int l2), (3, .int l3)]) C dX11_year_74 rfl (by rw [ex12]; rfl) (by decide) rfl ?_
      refine v_goto (tgt := 33) C dX11_year_77 (by decide) ?_
      cases hf
      refine v_sub [2, 3, 4, 5, 1, 0] rfl ?_
      exact kb _ _ _ rfl hC
def fX11_year (sh : Sh) (G : Hp) (l0 : Nat) (l1 : Int32) (l2 : Int32) (l3 : Int32) : Option (Int32 × Hp) := (fX11_isBridge sh G l0 l1).bind fun r1 => if r1 = 0 then some ((-1), G) else (fX11_isLong l2).bind fun r3 => if r3 = 0 then some ((-1), G) else (fX11_in l3 1 20).bind fun r5 => if r5 = 0 then some ((-1), G) else (iter (fun s : Hp × Int32 × Int32 => fX11_year_S33 sh l0 l1 l2 l3 s.1 s.2.1 s.2.2) fuel ((G, 0, 0) : Hp × Int32 × Int32)).bind (fun u10 => bd u10.1 fun G8 => bd u10.2 fun x9 => some (x9, G8))
set_option maxHeartbeats 4000000 in
theorem tX11_year {E : EX} {ad : Nat → Nat} {sh : Sh} {G : Hp} {l0 : Nat} {l1 : Int32} {l2 : Int32} {l3 : Int32} {z : Int32 × Hp} (C : Cx E RX11 cX11_year 6 (some .int) 6 0 0) (hC : Cl sh G) (h_l0 : sh[l0]? = some (0, 11)) (hf : fX11_year sh G l0 l1 l2 l3 = some z) (kr : RCi E cX11_year ad sh (z.1) (z.2)) : VV E 0 0 (wq (xT E) ad G sh) 0 [(0, .ref (ad l0)), (1, .int l1), (2, .int l2), (3, .int l3)] [] := by
  unfold fX11_year at hf
  refine v_aload_n C 0 dX11_year_0 rfl rfl ?_
  refine v_iload_n C 1 dX11_year_1 rfl rfl ?_
  obtain ⟨r1, qr1, hf⟩ := bn hf
  refine v_callVi (As := [.int l1]) (rest := []) C (sX11_isBridge h_l0 qr1) cs_X11_431 (by decide) h_l0 rfl hC rfl rfl rfl (Nat.le_of_ble_eq_true rfl) ⟨Nat.le_refl _, Nat.le_refl _⟩ dX11_year_2 (fun hC => ?_)
  refine v_if_eq (tgt := 25) C dX11_year_5 (by decide) (fun c2 => ?_) (fun c2 => ?_)
  · have hf := ip hf c2
    refine v_iconst (v := (-1)) C dX11_year_25 (by decide) ?_
    cases hf
    exact kr _ _ dX11_year_26 hC
  · have hf := im hf c2
    refine v_iload_n C 2 dX11_year_8 rfl rfl ?_
    obtain ⟨r3, qr3, hf⟩ := bn hf
    refine v_callSi (As := [.int l2]) (rest := []) C (sX11_isLong  qr3) cs_X11_509 (by decide) hC rfl rfl rfl (Nat.le_of_ble_eq_true rfl) ⟨Nat.le_refl _, Nat.le_refl _⟩ dX11_year_9 (fun hC => ?_)
    refine v_if_eq (tgt := 25) C dX11_year_12 (by decide) (fun c4 => ?_) (fun c4 => ?_)
    · have hf := ip hf c4
      refine v_iconst (v := (-1)) C dX11_year_25 (by decide) ?_
      cases hf
      exact kr _ _ dX11_year_26 hC
    · have hf := im hf c4
      refine v_iload_n C 3 dX11_year_15 rfl rfl ?_
      refine v_iconst (v := 1) C dX11_year_16 (by decide) ?_
      refine v_bipush (v := 20) C dX11_year_17 (by decide) ?_
      obtain ⟨r5, qr5, hf⟩ := bn hf
      refine v_callSi (As := [.int l3, .int 1, .int 20]) (rest := []) C (sX11_in  qr5) cs_X11_370 (by decide) hC rfl rfl rfl (Nat.le_of_ble_eq_true rfl) ⟨Nat.le_refl _, Nat.le_refl _⟩ dX11_year_19 (fun hC => ?_)
      refine v_if_ne (tgt := 27) C dX11_year_22 (by decide) (fun c6 => ?_) (fun c6 => ?_)
      · have hf := im hf c6
        refine v_iconst (v := 0) C dX11_year_27 (by decide) ?_
        refine v_istore (lv2 := [(4, .int 0), (0, .ref (ad l0)), (1, .int l1), (2, .int l2), (3, .int l3)]) C dX11_year_28 (by decide) rfl ?_
        refine v_iconst (v := 0) C dX11_year_30 (by decide) ?_
        refine v_istore (lv2 := [(5, .int 0), (4, .int 0), (0, .ref (ad l0)), (1, .int l1), (2, .int l2), (3, .int l3)]) C dX11_year_31 (by decide) rfl ?_
        obtain ⟨r7, qr7, hf⟩ := bn hf
        refine v_sub [2, 3, 4, 5, 1, 0] rfl ?_
        refine iter_sound (P := (fun s : Hp × Int32 × Int32 => Cl sh (s.1) → VV E 0 0 (wq (xT E) ad (s.1) sh) 33 [(0, .ref (ad l0)), (1, .int (l1)), (2, .int (l2)), (3, .int (l3)), (4, .int (s.2.1)), (5, .int (s.2.2))] [])) (X := fun r => r = r7) (fun jsr7 jor7 hor7 jbr7 jxr7 hC => tX11_year_S33 C hC h_l0 hor7 (fun _ _ _ e => jbr7 _ e) ?_) fuel _ r7 qr7 rfl hC
        · intro G8 x9 hu hC
          have e := jxr7 _ hu
          subst e
          have hf := bd_at hf (rfl : G8 = _)
          have hf := bd_at hf (rfl : x9 = _)
          refine v_iload C 4 dX11_year_80 rfl ?_
          cases hf
          exact kr _ _ dX11_year_82 hC
      · have hf := ip hf c6
        refine v_iconst (v := (-1)) C dX11_year_25 (by decide) ?_
        cases hf
        exact kr _ _ dX11_year_26 hC
theorem sX11_year {l : Launch} {sh : Sh} {G : Hp} {l0 : Nat} {l1 : Int32} {l2 : Int32} {l3 : Int32} {z : Int32 × Hp} (h_l0 : sh[l0]? = some (0, 11)) (hf : fX11_year sh G l0 l1 l2 l3 = some z) : MC l yX11_year cX11_year 6 (some .int) 6 0 0 sh sh G (z.2) (fun ad => [.ref (ad l0), .int l1, .int l2, .int l3]) (fun _ => some (.int z.1)) := by
  refine MC_of rfl rfl (fun _ => Nat.le_of_ble_eq_true rfl) (fun E ad C hl hnm hC hQ => ?_)
  exact tX11_year C hC h_l0 hf (fun pc lv hd hC => v_iret C hQ (fun _ _ => rfl) hC rfl hd)
def fX11_years (sh : Sh) (G : Hp) (l0 : Nat) (l1 : Int32) : Option (Int32 × Hp) := (fX11_in l1 0 60).bind fun r1 => if r1 = 0 then some ((-1), G) else if l1 = 0 then (ldA sh G l0 58 1).bind fun a12 => (aI sh G a12 23).bind fun v13 => some (v13, G) else (fX11_copies sh G l0).bind fun G5 => (fX11_goes sh G5 l0 l1).bind fun G7 => (fX11_records sh G7 l0).bind fun G9 => (ldA sh G9 l0 58 1).bind fun a10 => (aI sh G9 a10 23).bind fun v11 => some (v11, G9)
set_option maxHeartbeats 4000000 in
theorem tX11_years {E : EX} {ad : Nat → Nat} {sh : Sh} {G : Hp} {l0 : Nat} {l1 : Int32} {z : Int32 × Hp} (C : Cx E RX11 cX11_years 2 (some .int) 6 0 0) (hC : Cl sh G) (h_l0 : sh[l0]? = some (0, 11)) (hf : fX11_years sh G l0 l1 = some z) (kr : RCi E cX11_years ad sh (z.1) (z.2)) : VV E 0 0 (wq (xT E) ad G sh) 0 [(0, .ref (ad l0)), (1, .int l1)] [] := by
  unfold fX11_years at hf
  refine v_iload_n C 1 dX11_years_0 rfl rfl ?_
  refine v_iconst (v := 0) C dX11_years_1 (by decide) ?_
  refine v_bipush (v := 60) C dX11_years_2 (by decide) ?_
  obtain ⟨r1, qr1, hf⟩ := bn hf
  refine v_callSi (As := [.int l1, .int 0, .int 60]) (rest := []) C (sX11_in  qr1) cs_X11_370 (by decide) hC rfl rfl rfl (Nat.le_of_ble_eq_true rfl) ⟨Nat.le_refl _, Nat.le_refl _⟩ dX11_years_4 (fun hC => ?_)
  refine v_if_ne (tgt := 12) C dX11_years_7 (by decide) (fun c2 => ?_) (fun c2 => ?_)
  · have hf := im hf c2
    refine v_iload_n C 1 dX11_years_12 rfl rfl ?_
    refine v_if_ne (tgt := 24) C dX11_years_13 (by decide) (fun c3 => ?_) (fun c3 => ?_)
    · have hf := im hf c3
      refine v_aload_n C 0 dX11_years_24 rfl rfl ?_
      obtain ⟨G5, qr4, hf⟩ := bn hf
      refine v_callVv (As := []) (rest := []) C (sX11_copies h_l0 qr4) cs_X11_434 (by decide) h_l0 rfl hC rfl rfl rfl (Nat.le_of_ble_eq_true rfl) ⟨Nat.le_refl _, Nat.le_refl _⟩ dX11_years_25 (fun hC => ?_)
      refine v_aload_n C 0 dX11_years_28 rfl rfl ?_
      refine v_iload_n C 1 dX11_years_29 rfl rfl ?_
      obtain ⟨G7, qr6, hf⟩ := bn hf
      refine v_callVv (As := [.int l1]) (rest := []) C (sX11_goes h_l0 qr6) cs_X11_461 (by decide) h_l0 rfl hC rfl rfl rfl (Nat.le_of_ble_eq_true rfl) ⟨Nat.le_refl _, Nat.le_refl _⟩ dX11_years_30 (fun hC => ?_)
      refine v_aload_n C 0 dX11_years_33 rfl rfl ?_
      obtain ⟨G9, qr8, hf⟩ := bn hf
      refine v_callVv (As := []) (rest := []) C (sX11_records h_l0 qr8) cs_X11_458 (by decide) h_l0 rfl hC rfl rfl rfl (Nat.le_of_ble_eq_true rfl) ⟨Nat.le_refl _, Nat.le_refl _⟩ dX11_years_34 (fun hC => ?_)
      refine v_aload_n C 0 dX11_years_37 rfl rfl ?_
      obtain ⟨a10, qa10, hf⟩ := bn hf
      refine v_getA C h_l0 fl_X11_134 qa10 dX11_years_38 (fun h_a10 => ?_)
      refine v_bipush (v := 23) C dX11_years_41 (by decide) ?_
      obtain ⟨v11, qv11, hf⟩ := bn hf
      refine v_iald C h_a10 qv11 dX11_years_43 ?_
      cases hf
      exact kr _ _ dX11_years_44 hC
    · have hf := ip hf c3
      refine v_aload_n C 0 dX11_years_16 rfl rfl ?_
      obtain ⟨a12, qa12, hf⟩ := bn hf
      refine v_getA C h_l0 fl_X11_134 qa12 dX11_years_17 (fun h_a12 => ?_)
      refine v_bipush (v := 23) C dX11_years_20 (by decide) ?_
      obtain ⟨v13, qv13, hf⟩ := bn hf
      refine v_iald C h_a12 qv13 dX11_years_22 ?_
      cases hf
      exact kr _ _ dX11_years_23 hC
  · have hf := ip hf c2
    refine v_iconst (v := (-1)) C dX11_years_10 (by decide) ?_
    cases hf
    exact kr _ _ dX11_years_11 hC
theorem sX11_years {l : Launch} {sh : Sh} {G : Hp} {l0 : Nat} {l1 : Int32} {z : Int32 × Hp} (h_l0 : sh[l0]? = some (0, 11)) (hf : fX11_years sh G l0 l1 = some z) : MC l yX11_years cX11_years 2 (some .int) 6 0 0 sh sh G (z.2) (fun ad => [.ref (ad l0), .int l1]) (fun _ => some (.int z.1)) := by
  refine MC_of rfl rfl (fun _ => Nat.le_of_ble_eq_true rfl) (fun E ad C hl hnm hC hQ => ?_)
  exact tX11_years C hC h_l0 hf (fun pc lv hd hC => v_iret C hQ (fun _ _ => rfl) hC rfl hd)
