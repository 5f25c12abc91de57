def fX11_byteAt (sh : Sh) (G : Hp) (l0 : Nat) (l1 : Int32) : Option (Int32) := if (G.1 l0 4) ≤ l1 then some 0 else (ldA sh G l0 3 2).bind fun a2 => (aI sh G a2 l1).bind fun v3 => some (v3 &&& 255)
set_option maxHeartbeats 4000000 in
theorem tX11_byteAt {E : EX} {ad : Nat → Nat} {sh : Sh} {G : Hp} {l0 : Nat} {l1 : Int32} {z : Int32} (C : Cx E RX11 cX11_byteAt 2 (some .int) 1 0 0) (hC : Cl sh G) (h_l0 : sh[l0]? = some (0, 11)) (hf : fX11_byteAt sh G l0 l1 = some z) (kr : RCi E cX11_byteAt ad sh z G) : VV E 0 0 (wq (xT E) ad G sh) 0 [(0, .ref (ad l0)), (1, .int l1)] [] := by
  unfold fX11_byteAt at hf
  refine v_iload_n C 1 dX11_byteAt_0 rfl rfl ?_
  refine v_aload_n C 0 dX11_byteAt_1 rfl rfl ?_
  refine v_getI C h_l0 fl_X11_196 dX11_byteAt_2 ?_
  refine v_icmp_ge (tgt := 21) C dX11_byteAt_5 (by decide) (fun c1 => ?_) (fun c1 => ?_)
  · have hf := ip hf c1
    refine v_iconst (v := 0) C dX11_byteAt_21 (by decide) ?_
    cases hf
    exact kr _ _ dX11_byteAt_22 hC
  · have hf := im hf c1
    refine v_aload_n C 0 dX11_byteAt_8 rfl rfl ?_
    obtain ⟨a2, qa2, hf⟩ := bn hf
    refine v_getA C h_l0 fl_X11_17 qa2 dX11_byteAt_9 (fun h_a2 => ?_)
    refine v_iload_n C 1 dX11_byteAt_12 rfl rfl ?_
    obtain ⟨v3, qv3, hf⟩ := bn hf
    refine v_bald C h_a2 qv3 dX11_byteAt_13 ?_
    refine v_sipush (v := 255) C dX11_byteAt_14 (by decide) ?_
    refine v_iand C dX11_byteAt_17 ?_
    refine v_goto (tgt := 22) C dX11_byteAt_18 (by decide) ?_
    cases hf
    exact kr _ _ dX11_byteAt_22 hC
theorem sX11_byteAt {l : Launch} {sh : Sh} {G : Hp} {l0 : Nat} {l1 : Int32} {z : Int32} (h_l0 : sh[l0]? = some (0, 11)) (hf : fX11_byteAt sh G l0 l1 = some z) : MC l yX11_byteAt cX11_byteAt 2 (some .int) 1 0 0 sh sh G G (fun ad => [.ref (ad l0), .int l1]) (fun _ => some (.int z)) := by
  refine MC_of rfl rfl (fun _ => Nat.le_of_ble_eq_true rfl) (fun E ad C hl hnm hC hQ => ?_)
  exact tX11_byteAt C hC h_l0 hf (fun pc lv hd hC => v_iret C hQ (fun _ _ => rfl) hC rfl hd)
def fX11_token (sh : Sh) (G : Hp) (l0 : Nat) (l1 : Int32) (l2 : Int32) (l3 : Int32) (l4 : Int64) : Option (Hp) := (ldA sh G l0 5 1).bind fun a1 => (asI sh G a1 (G.1 l0 10) l1).bind fun G2 => (ldA sh G2 l0 6 1).bind fun a3 => (asI sh G2 a3 (G2.1 l0 10) l2).bind fun G4 => (ldA sh G4 l0 7 1).bind fun a5 => (asI sh G4 a5 (G4.1 l0 10) l3).bind fun G6 => (ldA sh G6 l0 8 4).bind fun a7 => (asJ sh G6 a7 (G6.1 l0 10) l4).bind fun G8 => bd (sI G8 l0 10 ((G8.1 l0 10) + 1)) fun G9 => some G9
set_option maxHeartbeats 4000000 in
theorem tX11_token {E : EX} {ad : Nat → Nat} {sh : Sh} {G : Hp} {l0 : Nat} {l1 : Int32} {l2 : Int32} {l3 : Int32} {l4 : Int64} {z : Hp} (C : Cx E RX11 cX11_token 6 none 1 0 0) (hC : Cl sh G) (h_l0 : sh[l0]? = some (0, 11)) (hf : fX11_token sh G l0 l1 l2 l3 l4 = some z) (kr : RCv E cX11_token ad sh z) : VV E 0 0 (wq (xT E) ad G sh) 0 [(0, .ref (ad l0)), (1, .int l1), (2, .int l2), (3, .int l3), (4, .long l4)] [] := by
  unfold fX11_token at hf
  refine v_aload_n C 0 dX11_token_0 rfl rfl ?_
  obtain ⟨a1, qa1, hf⟩ := bn hf
  refine v_getA C h_l0 fl_X11_20 qa1 dX11_token_1 (fun h_a1 => ?_)
  refine v_aload_n C 0 dX11_token_4 rfl rfl ?_
  refine v_getI C h_l0 fl_X11_205 dX11_token_5 ?_
  refine v_iload_n C 1 dX11_token_8 rfl rfl ?_
  obtain ⟨G2, qG2, hf⟩ := bn hf
  refine v_iast C h_a1 qG2 hC dX11_token_9 (fun hC => ?_)
  refine v_aload_n C 0 dX11_token_10 rfl rfl ?_
  obtain ⟨a3, qa3, hf⟩ := bn hf
  refine v_getA C h_l0 fl_X11_24 qa3 dX11_token_11 (fun h_a3 => ?_)
  refine v_aload_n C 0 dX11_token_14 rfl rfl ?_
  refine v_getI C h_l0 fl_X11_205 dX11_token_15 ?_
  refine v_iload_n C 2 dX11_token_18 rfl rfl ?_
  obtain ⟨G4, qG4, hf⟩ := bn hf
  refine v_iast C h_a3 qG4 hC dX11_token_19 (fun hC => ?_)
  refine v_aload_n C 0 dX11_token_20 rfl rfl ?_
  obtain ⟨a5, qa5, hf⟩ := bn hf
  refine v_getA C h_l0 fl_X11_27 qa5 dX11_token_21 (fun h_a5 => ?_)
  refine v_aload_n C 0 dX11_token_24 rfl rfl ?_
  refine v_getI C h_l0 fl_X11_205 dX11_token_25 ?_
  refine v_iload_n C 3 dX11_token_28 rfl rfl ?_
  obtain ⟨G6, qG6, hf⟩ := bn hf
  refine v_iast C h_a5 qG6 hC dX11_token_29 (fun hC => ?_)
  refine v_aload_n C 0 dX11_token_30 rfl rfl ?_
  obtain ⟨a7, qa7, hf⟩ := bn hf
  refine v_getA C h_l0 fl_X11_30 qa7 dX11_token_31 (fun h_a7 => ?_)
  refine v_aload_n C 0 dX11_token_34 rfl rfl ?_
  refine v_getI C h_l0 fl_X11_205 dX11_token_35 ?_
  refine v_lload C 4 dX11_token_38 rfl ?_
  obtain ⟨G8, qG8, hf⟩ := bn hf
  refine v_last C h_a7 qG8 hC dX11_token_40 (fun hC => ?_)
  refine v_aload_n C 0 dX11_token_41 rfl rfl ?_
  refine v_dup C dX11_token_42 rfl ?_
  refine v_getI C h_l0 fl_X11_205 dX11_token_43 ?_
  refine v_iconst (v := 1) C dX11_token_46 (by decide) ?_
  refine v_iadd C dX11_token_47 ?_
  refine v_putI C h_l0 fp_X11_205 dX11_token_48 (fun G9 eG9 => ?_)
  have hf := bd_at hf eG9
  have hC : Cl sh G9 := by rw [eG9]; exact hC
  cases hf
  exact kr _ _ dX11_token_51 hC
theorem sX11_token {l : Launch} {sh : Sh} {G : Hp} {l0 : Nat} {l1 : Int32} {l2 : Int32} {l3 : Int32} {l4 : Int64} {z : Hp} (h_l0 : sh[l0]? = some (0, 11)) (hf : fX11_token sh G l0 l1 l2 l3 l4 = some z) : MC l yX11_token cX11_token 6 none 1 0 0 sh sh G z (fun ad => [.ref (ad l0), .int l1, .int l2, .int l3, .long l4]) (fun _ => none) := by
  refine MC_of rfl rfl (fun _ => Nat.le_of_ble_eq_true rfl) (fun E ad C hl hnm hC hQ => ?_)
  exact tX11_token C hC h_l0 hf (fun pc lv hd hC => v_vret C hQ (fun _ _ => rfl) hC rfl hd)
def fX11_isLetter (l0 : Int32) : Option (Int32) := if l0 < 97 then some 0 else if 122 < l0 then some 0 else some 1
set_option maxHeartbeats 4000000 in
theorem tX11_isLetter {E : EX} {ad : Nat → Nat} {sh : Sh} {G : Hp} {l0 : Int32} {z : Int32} (C : Cx E RX11 cX11_isLetter 1 (some .boolean) 1 0 0) (hC : Cl sh G) (hf : fX11_isLetter l0 = some z) (kr : RCz E cX11_isLetter ad sh z G) : VV E 0 0 (wq (xT E) ad G sh) 0 [(0, .int l0)] [] := by
  unfold fX11_isLetter at hf
  refine v_iload_n C 0 dX11_isLetter_0 rfl rfl ?_
  refine v_bipush (v := 97) C dX11_isLetter_1 (by decide) ?_
  refine v_icmp_lt (tgt := 16) C dX11_isLetter_3 (by decide) (fun c1 => ?_) (fun c1 => ?_)
  · have hf := ip hf c1
    refine v_iconst (v := 0) C dX11_isLetter_16 (by decide) ?_
    cases hf
    exact kr _ _ dX11_isLetter_17 (Or.inl rfl) hC
  · have hf := im hf c1
    refine v_iload_n C 0 dX11_isLetter_6 rfl rfl ?_
    refine v_bipush (v := 122) C dX11_isLetter_7 (by decide) ?_
    refine v_icmp_gt (tgt := 16) C dX11_isLetter_9 (by decide) (fun c2 => ?_) (fun c2 => ?_)
    · have hf := ip hf c2
      refine v_iconst (v := 0) C dX11_isLetter_16 (by decide) ?_
      cases hf
      exact kr _ _ dX11_isLetter_17 (Or.inl rfl) hC
    · have hf := im hf c2
      refine v_iconst (v := 1) C dX11_isLetter_12 (by decide) ?_
      refine v_goto (tgt := 17) C dX11_isLetter_13 (by decide) ?_
      cases hf
      exact kr _ _ dX11_isLetter_17 (Or.inr rfl) hC
theorem sX11_isLetter {l : Launch} {sh : Sh} {G : Hp} {l0 : Int32} {z : Int32} (hf : fX11_isLetter l0 = some z) : MC l yX11_isLetter cX11_isLetter 1 (some .boolean) 1 0 0 sh sh G G (fun ad => [.int l0]) (fun _ => some (.int z)) := by
  refine MC_of rfl rfl (fun _ => Nat.le_of_ble_eq_true rfl) (fun E ad C hl hnm hC hQ => ?_)
  exact tX11_isLetter C hC hf (fun pc lv hd hz hC => v_zret C hQ (fun _ _ => rfl) hC rfl hz hd)
def fX11_appends (l0 : Int64) (l2 : Int32) : Option (Int64) := if l2 = 0 then some l0 else some (((27 : Int64) * l0) + (Int32.toInt64 ((l2 - 97) + 1)))
set_option maxHeartbeats 4000000 in
theorem tX11_appends {E : EX} {ad : Nat → Nat} {sh : Sh} {G : Hp} {l0 : Int64} {l2 : Int32} {z : Int64} (C : Cx E RX11 cX11_appends 3 (some .long) 1 0 0) (hC : Cl sh G) (hf : fX11_appends l0 l2 = some z) (kr : RCl E cX11_appends ad sh z G) : VV E 0 0 (wq (xT E) ad G sh) 0 [(0, .long l0), (2, .int l2)] [] := by
  unfold fX11_appends at hf
  refine v_iload_n C 1 dX11_appends_0 rfl rfl ?_
  refine v_if_ne (tgt := 8) C dX11_appends_1 (by decide) (fun c1 => ?_) (fun c1 => ?_)
  · have hf := im hf c1
    refine v_ldc2 (v := 27) C dX11_appends_8 kw_906 ?_
    refine v_lload_n C 0 dX11_appends_11 rfl rfl ?_
    refine v_lmul C dX11_appends_12 ?_
    refine v_iload_n C 1 dX11_appends_13 rfl rfl ?_
    refine v_bipush (v := 97) C dX11_appends_14 (by decide) ?_
    refine v_isub C dX11_appends_16 ?_
    refine v_iconst (v := 1) C dX11_appends_17 (by decide) ?_
    refine v_iadd C dX11_appends_18 ?_
    refine v_i2l C dX11_appends_19 ?_
    refine v_ladd C dX11_appends_20 ?_
    cases hf
    exact kr _ _ dX11_appends_21 hC
  · have hf := ip hf c1
    refine v_lload_n C 0 dX11_appends_4 rfl rfl ?_
    refine v_goto (tgt := 21) C dX11_appends_5 (by decide) ?_
    cases hf
    exact kr _ _ dX11_appends_21 hC
theorem sX11_appends {l : Launch} {sh : Sh} {G : Hp} {l0 : Int64} {l2 : Int32} {z : Int64} (hf : fX11_appends l0 l2 = some z) : MC l yX11_appends cX11_appends 3 (some .long) 1 0 0 sh sh G G (fun ad => [.long l0, .int l2]) (fun _ => some (.long z)) := by
  refine MC_of rfl rfl (fun _ => Nat.le_of_ble_eq_true rfl) (fun E ad C hl hnm hC hQ => ?_)
  exact tX11_appends C hC hf (fun pc lv hd hC => v_lret C hQ (fun _ _ => rfl) hC rfl hd)
def fX11_isDigit (l0 : Int32) : Option (Int32) := if l0 < 48 then some 0 else if 57 < l0 then some 0 else some 1
set_option maxHeartbeats 4000000 in
theorem tX11_isDigit {E : EX} {ad : Nat → Nat} {sh : Sh} {G : Hp} {l0 : Int32} {z : Int32} (C : Cx E RX11 cX11_isDigit 1 (some .boolean) 1 0 0) (hC : Cl sh G) (hf : fX11_isDigit l0 = some z) (kr : RCz E cX11_isDigit ad sh z G) : VV E 0 0 (wq (xT E) ad G sh) 0 [(0, .int l0)] [] := by
  unfold fX11_isDigit at hf
  refine v_iload_n C 0 dX11_isDigit_0 rfl rfl ?_
  refine v_bipush (v := 48) C dX11_isDigit_1 (by decide) ?_
  refine v_icmp_lt (tgt := 16) C dX11_isDigit_3 (by decide) (fun c1 => ?_) (fun c1 => ?_)
  · have hf := ip hf c1
    refine v_iconst (v := 0) C dX11_isDigit_16 (by decide) ?_
    cases hf
    exact kr _ _ dX11_isDigit_17 (Or.inl rfl) hC
  · have hf := im hf c1
    refine v_iload_n C 0 dX11_isDigit_6 rfl rfl ?_
    refine v_bipush (v := 57) C dX11_isDigit_7 (by decide) ?_
    refine v_icmp_gt (tgt := 16) C dX11_isDigit_9 (by decide) (fun c2 => ?_) (fun c2 => ?_)
    · have hf := ip hf c2
      refine v_iconst (v := 0) C dX11_isDigit_16 (by decide) ?_
      cases hf
      exact kr _ _ dX11_isDigit_17 (Or.inl rfl) hC
    · have hf := im hf c2
      refine v_iconst (v := 1) C dX11_isDigit_12 (by decide) ?_
      refine v_goto (tgt := 17) C dX11_isDigit_13 (by decide) ?_
      cases hf
      exact kr _ _ dX11_isDigit_17 (Or.inr rfl) hC
theorem sX11_isDigit {l : Launch} {sh : Sh} {G : Hp} {l0 : Int32} {z : Int32} (hf : fX11_isDigit l0 = some z) : MC l yX11_isDigit cX11_isDigit 1 (some .boolean) 1 0 0 sh sh G G (fun ad => [.int l0]) (fun _ => some (.int z)) := by
  refine MC_of rfl rfl (fun _ => Nat.le_of_ble_eq_true rfl) (fun E ad C hl hnm hC hQ => ?_)
  exact tX11_isDigit C hC hf (fun pc lv hd hz hC => v_zret C hQ (fun _ _ => rfl) hC rfl hz hd)
def fX11_sign_J85 (sh : Sh) (G : Hp) (l0 : Nat) (l1 : Int32) (l2 : Int32) (l4 : Int32) : Option (Int32 × Hp) := if l2 = 60 then (fX11_token sh G l0 13 l1 0 0).bind fun G5 => some (1, G5) else (fX11_token sh G l0 l4 l1 0 0).bind fun G3 => some (1, G3)
set_option maxHeartbeats 4000000 in
theorem tX11_sign_J85 {E : EX} {ad : Nat → Nat} {sh : Sh} {G : Hp} {l0 : Nat} {l1 : Int32} {l2 : Int32} {l4 : Int32} {z : Int32 × Hp} (C : Cx E RX11 cX11_sign 5 (some .int) 2 0 0) (hC : Cl sh G) (h_l0 : sh[l0]? = some (0, 11)) (hf : fX11_sign_J85 sh G l0 l1 l2 l4 = some z) (kr : RCi E cX11_sign ad sh (z.1) (z.2)) : VV E 0 0 (wq (xT E) ad G sh) 85 [(0, .ref (ad l0)), (1, .int l1), (2, .int l2), (4, .int l4)] [] := by
  unfold fX11_sign_J85 at hf
  refine v_iload_n C 2 dX11_sign_85 rfl rfl ?_
  refine v_bipush (v := 60) C dX11_sign_86 (by decide) ?_
  refine v_icmp_ne (tgt := 95) C dX11_sign_88 (by decide) (fun c1 => ?_) (fun c1 => ?_)
  · have hf := im hf c1
    refine v_aload_n C 0 dX11_sign_95 rfl rfl ?_
    refine v_iload C 3 dX11_sign_96 rfl ?_
    refine v_iload_n C 1 dX11_sign_98 rfl rfl ?_
    refine v_iconst (v := 0) C dX11_sign_99 (by decide) ?_
    refine v_lconst (v := 0) C dX11_sign_100 (by decide) ?_
    obtain ⟨G3, qr2, hf⟩ := bn hf
    refine v_callVv (As := [.int l4, .int l1, .int 0, .long 0]) (rest := []) C (sX11_token h_l0 qr2) cs_X11_212 (by decide) h_l0 rfl hC rfl rfl rfl (Nat.le_of_ble_eq_true rfl) ⟨Nat.le_refl _, Nat.le_refl _⟩ dX11_sign_101 (fun hC => ?_)
    refine v_iconst (v := 1) C dX11_sign_104 (by decide) ?_
    cases hf
    exact kr _ _ dX11_sign_105 hC
  · have hf := ip hf c1
    refine v_bipush (v := 13) C dX11_sign_91 (by decide) ?_
    refine v_istore (lv2 := [(4, .int 13), (0, .ref (ad l0)), (1, .int l1), (2, .int l2)]) C dX11_sign_93 (by decide) rfl ?_
    refine v_aload_n C 1 dX11_sign_95 rfl rfl ?_
    refine v_iload C 0 dX11_sign_96 rfl ?_
    refine v_iload_n C 2 dX11_sign_98 rfl rfl ?_
    refine v_iconst (v := 0) C dX11_sign_99 (by decide) ?_
    refine v_lconst (v := 0) C dX11_sign_100 (by decide) ?_
    obtain ⟨G5, qr4, hf⟩ := bn hf
    refine v_callVv (As := [.int 13, .int l1, .int 0, .long 0]) (rest := []) C (sX11_token h_l0 qr4) cs_X11_212 (by decide) h_l0 rfl hC rfl rfl rfl (Nat.le_of_ble_eq_true rfl) ⟨Nat.le_refl _, Nat.le_refl _⟩ dX11_sign_101 (fun hC => ?_)
    refine v_iconst (v := 1) C dX11_sign_104 (by decide) ?_
    cases hf
    exact kr _ _ dX11_sign_105 hC
def fX11_sign_J75 (sh : Sh) (G : Hp) (l0 : Nat) (l1 : Int32) (l2 : Int32) (l4 : Int32) : Option (Int32 × Hp) := if l2 = 47 then fX11_sign_J85 sh G l0 l1 l2 15 else fX11_sign_J85 sh G l0 l1 l2 l4
set_option maxHeartbeats 4000000 in
theorem tX11_sign_J75 {E : EX} {ad : Nat → Nat} {sh : Sh} {G : Hp} {l0 : Nat} {l1 : Int32} {l2 : Int32} {l4 : Int32} {z : Int32 × Hp} (C : Cx E RX11 cX11_sign 5 (some .int) 2 0 0) (hC : Cl sh G) (h_l0 : sh[l0]? = some (0, 11)) (hf : fX11_sign_J75 sh G l0 l1 l2 l4 = some z) (kr : RCi E cX11_sign ad sh (z.1) (z.2)) : VV E 0 0 (wq (xT E) ad G sh) 75 [(0, .ref (ad l0)), (1, .int l1), (2, .int l2), (4, .int l4)] [] := by
  unfold fX11_sign_J75 at hf
  refine v_iload_n C 2 dX11_sign_75 rfl rfl ?_
  refine v_bipush (v := 47) C dX11_sign_76 (by decide) ?_
  refine v_icmp_ne (tgt := 85) C dX11_sign_78 (by decide) (fun c1 => ?_) (fun c1 => ?_)
  · have hf := im hf c1
    refine v_sub [0, 1, 2, 3] rfl ?_
    exact tX11_sign_J85 C hC h_l0 hf kr
  · have hf := ip hf c1
    refine v_bipush (v := 15) C dX11_sign_81 (by decide) ?_
    refine v_istore (lv2 := [(4, .int 15), (0, .ref (ad l0)), (1, .int l1), (2, .int l2)]) C dX11_sign_83 (by decide) rfl ?_
    refine v_sub [1, 2, 3, 0] rfl ?_
    exact tX11_sign_J85 C hC h_l0 hf kr
def fX11_sign_J65 (sh : Sh) (G : Hp) (l0 : Nat) (l1 : Int32) (l2 : Int32) (l4 : Int32) : Option (Int32 × Hp) := if l2 = 42 then fX11_sign_J75 sh G l0 l1 l2 10 else fX11_sign_J75 sh G l0 l1 l2 l4
set_option maxHeartbeats 4000000 in
theorem tX11_sign_J65 {E : EX} {ad : Nat → Nat} {sh : Sh} {G : Hp} {l0 : Nat} {l1 : Int32} {l2 : Int32} {l4 : Int32} {z : Int32 × Hp} (C : Cx E RX11 cX11_sign 5 (some .int) 2 0 0) (hC : Cl sh G) (h_l0 : sh[l0]? = some (0, 11)) (hf : fX11_sign_J65 sh G l0 l1 l2 l4 = some z) (kr : RCi E cX11_sign ad sh (z.1) (z.2)) : VV E 0 0 (wq (xT E) ad G sh) 65 [(0, .ref (ad l0)), (1, .int l1), (2, .int l2), (4, .int l4)] [] := by
  unfold fX11_sign_J65 at hf
  refine v_iload_n C 2 dX11_sign_65 rfl rfl ?_
  refine v_bipush (v := 42) C dX11_sign_66 (by decide) ?_
  refine v_icmp_ne (tgt := 75) C dX11_sign_68 (by decide) (fun c1 => ?_) (fun c1 => ?_)
  · have hf := im hf c1
    refine v_sub [0, 1, 2, 3] rfl ?_
    exact tX11_sign_J75 C hC h_l0 hf kr
  · have hf := ip hf c1
    refine v_bipush (v := 10) C dX11_sign_71 (by decide) ?_
    refine v_istore (lv2 := [(4, .int 10), (0, .ref (ad l0)), (1, .int l1), (2, .int l2)]) C dX11_sign_73 (by decide) rfl ?_
    refine v_sub [1, 2, 3, 0] rfl ?_
    exact tX11_sign_J75 C hC h_l0 hf kr
def fX11_sign_J55 (sh : Sh) (G : Hp) (l0 : Nat) (l1 : Int32) (l2 : Int32) (l4 : Int32) : Option (Int32 × Hp) := if l2 = 45 then fX11_sign_J65 sh G l0 l1 l2 9 else fX11_sign_J65 sh G l0 l1 l2 l4
set_option maxHeartbeats 4000000 in
theorem tX11_sign_J55 {E : EX} {ad : Nat → Nat} {sh : Sh} {G : Hp} {l0 : Nat} {l1 : Int32} {l2 : Int32} {l4 : Int32} {z : Int32 × Hp} (C : Cx E RX11 cX11_sign 5 (some .int) 2 0 0) (hC : Cl sh G) (h_l0 : sh[l0]? = some (0, 11)) (hf : fX11_sign_J55 sh G l0 l1 l2 l4 = some z) (kr : RCi E cX11_sign ad sh (z.1) (z.2)) : VV E 0 0 (wq (xT E) ad G sh) 55 [(0, .ref (ad l0)), (1, .int l1), (2, .int l2), (4, .int l4)] [] := by
  unfold fX11_sign_J55 at hf
  refine v_iload_n C 2 dX11_sign_55 rfl rfl ?_
  refine v_bipush (v := 45) C dX11_sign_56 (by decide) ?_
  refine v_icmp_ne (tgt := 65) C dX11_sign_58 (by decide) (fun c1 => ?_) (fun c1 => ?_)
  · have hf := im hf c1
    refine v_sub [0, 1, 2, 3] rfl ?_
    exact tX11_sign_J65 C hC h_l0 hf kr
  · have hf := ip hf c1
    refine v_bipush (v := 9) C dX11_sign_61 (by decide) ?_
    refine v_istore (lv2 := [(4, .int 9), (0, .ref (ad l0)), (1, .int l1), (2, .int l2)]) C dX11_sign_63 (by decide) rfl ?_
    refine v_sub [1, 2, 3, 0] rfl ?_
    exact tX11_sign_J65 C hC h_l0 hf kr
def fX11_sign_J43 (sh : Sh) (G : Hp) (l0 : Nat) (l1 : Int32) (l2 : Int32) (s0 : Int32) : Option (Int32 × Hp) := if l2 = 43 then fX11_sign_J55 sh G l0 l1 l2 8 else fX11_sign_J55 sh G l0 l1 l2 s0
set_option maxHeartbeats 4000000 in
theorem tX11_sign_J43 {E : EX} {ad : Nat → Nat} {sh : Sh} {G : Hp} {l0 : Nat} {l1 : Int32} {l2 : Int32} {s0 : Int32} {z : Int32 × Hp} (C : Cx E RX11 cX11_sign 5 (some .int) 2 0 0) (hC : Cl sh G) (h_l0 : sh[l0]? = some (0, 11)) (hf : fX11_sign_J43 sh G l0 l1 l2 s0 = some z) (kr : RCi E cX11_sign ad sh (z.1) (z.2)) : VV E 0 0 (wq (xT E) ad G sh) 43 [(0, .ref (ad l0)), (1, .int l1), (2, .int l2)] [.int s0] := by
  unfold fX11_sign_J43 at hf
  refine v_istore (lv2 := [(4, .int s0), (0, .ref (ad l0)), (1, .int l1), (2, .int l2)]) C dX11_sign_43 (by decide) rfl ?_
  refine v_iload_n C 3 dX11_sign_45 rfl rfl ?_
  refine v_bipush (v := 43) C dX11_sign_46 (by decide) ?_
  refine v_icmp_ne (tgt := 55) C dX11_sign_48 (by decide) (fun c1 => ?_) (fun c1 => ?_)
  · have hf := im hf c1
    refine v_sub [1, 2, 3, 0] rfl ?_
    exact tX11_sign_J55 C hC h_l0 hf kr
  · have hf := ip hf c1
    refine v_bipush (v := 8) C dX11_sign_51 (by decide) ?_
    refine v_istore (lv2 := [(4, .int 8), (0, .ref (ad l0)), (1, .int l1), (2, .int l2)]) C dX11_sign_53 (by decide) rfl ?_
    refine v_sub [1, 2, 3, 0] rfl ?_
    exact tX11_sign_J55 C hC h_l0 hf kr
def fX11_sign (sh : Sh) (G : Hp) (l0 : Nat) (l1 : Int32) (l2 : Int32) (l3 : Int32) : Option (Int32 × Hp) := if l2 = 59 then fX11_sign_J43 sh G l0 l1 l2 4 else if l2 = 61 then fX11_sign_J43 sh G l0 l1 l2 5 else if l2 = 40 then fX11_sign_J43 sh G l0 l1 l2 6 else if l2 = 41 then fX11_sign_J43 sh G l0 l1 l2 7 else fX11_sign_J43 sh G l0 l1 l2 3
set_option maxHeartbeats 4000000 in
theorem tX11_sign {E : EX} {ad : Nat → Nat} {sh : Sh} {G : Hp} {l0 : Nat} {l1 : Int32} {l2 : Int32} {l3 : Int32} {z : Int32 × Hp} (C : Cx E RX11 cX11_sign 5 (some .int) 2 0 0) (hC : Cl sh G) (h_l0 : sh[l0]? = some (0, 11)) (hf : fX11_sign sh G l0 l1 l2 l3 = some z) (kr : RCi E cX11_sign ad sh (z.1) (z.2)) : VV E 0 0 (wq (xT E) ad G sh) 0 [(0, .ref (ad l0)), (1, .int l1), (2, .int l2), (3, .int l3)] [] := by
  unfold fX11_sign at hf
  refine v_iload_n C 2 dX11_sign_0 rfl rfl ?_
  refine v_bipush (v := 59) C dX11_sign_1 (by decide) ?_
  refine v_icmp_ne (tgt := 10) C dX11_sign_3 (by decide) (fun c1 => ?_) (fun c1 => ?_)
  · have hf := im hf c1
    refine v_iload_n C 2 dX11_sign_10 rfl rfl ?_
    refine v_bipush (v := 61) C dX11_sign_11 (by decide) ?_
    refine v_icmp_ne (tgt := 20) C dX11_sign_13 (by decide) (fun c2 => ?_) (fun c2 => ?_)
    · have hf := im hf c2
      refine v_iload_n C 2 dX11_sign_20 rfl rfl ?_
      refine v_bipush (v := 40) C dX11_sign_21 (by decide) ?_
      refine v_icmp_ne (tgt := 31) C dX11_sign_23 (by decide) (fun c3 => ?_) (fun c3 => ?_)
      · have hf := im hf c3
        refine v_iload_n C 2 dX11_sign_31 rfl rfl ?_
        refine v_bipush (v := 41) C dX11_sign_32 (by decide) ?_
        refine v_icmp_ne (tgt := 42) C dX11_sign_34 (by decide) (fun c4 => ?_) (fun c4 => ?_)
        · have hf := im hf c4
          refine v_iconst (v := 3) C dX11_sign_42 (by decide) ?_
          refine v_sub [0, 1, 2] rfl ?_
          exact tX11_sign_J43 C hC h_l0 hf kr
        · have hf := ip hf c4
          refine v_bipush (v := 7) C dX11_sign_37 (by decide) ?_
          refine v_goto (tgt := 43) C dX11_sign_39 (by decide) ?_
          refine v_sub [0, 1, 2] rfl ?_
          exact tX11_sign_J43 C hC h_l0 hf kr
      · have hf := ip hf c3
        refine v_bipush (v := 6) C dX11_sign_26 (by decide) ?_
        refine v_goto (tgt := 43) C dX11_sign_28 (by decide) ?_
        refine v_sub [0, 1, 2] rfl ?_
        exact tX11_sign_J43 C hC h_l0 hf kr
    · have hf := ip hf c2
      refine v_iconst (v := 5) C dX11_sign_16 (by decide) ?_
      refine v_goto (tgt := 43) C dX11_sign_17 (by decide) ?_
      refine v_sub [0, 1, 2] rfl ?_
      exact tX11_sign_J43 C hC h_l0 hf kr
  · have hf := ip hf c1
    refine v_iconst (v := 4) C dX11_sign_6 (by decide) ?_
    refine v_goto (tgt := 43) C dX11_sign_7 (by decide) ?_
    refine v_sub [0, 1, 2] rfl ?_
    exact tX11_sign_J43 C hC h_l0 hf kr
theorem sX11_sign {l : Launch} {sh : Sh} {G : Hp} {l0 : Nat} {l1 : Int32} {l2 : Int32} {l3 : Int32} {z : Int32 × Hp} (h_l0 : sh[l0]? = some (0, 11)) (hf : fX11_sign sh G l0 l1 l2 l3 = some z) : MC l yX11_sign cX11_sign 5 (some .int) 2 0 0 sh sh G (z.2) (fun ad => [.ref (ad l0), .int l1, .int l2, .int l3]) (fun _ => some (.int z.1)) := by
  refine MC_of rfl rfl (fun _ => Nat.le_of_ble_eq_true rfl) (fun E ad C hl hnm hC hQ => ?_)
  exact tX11_sign C hC h_l0 hf (fun pc lv hd hC => v_iret C hQ (fun _ _ => rfl) hC rfl hd)
def fX11_cut_S208 (sh : Sh) (l0 : Nat) (l1 : Int32) (G : Hp) (l3 : Int32) (l4 : Int32) : Option ((Int32 × Int32) ⊕ ((Int32 × Int32))) := (fX11_byteAt sh G l0 (l1 + l3)).bind fun r1 => (fX11_isDigit r1).bind fun r2 => if r2 = 0 then some (.inr (l3, l4)) else if 4 ≤ l3 then bd ((l3 + 1) : Int32) fun x5 => some (.inl (x5, l4)) else (fX11_byteAt sh G l0 (l1 + l3)).bind fun r6 => bd (((((10 : Int32) * l4) + r6) - 48) : Int32) fun x7 => bd ((l3 + 1) : Int32) fun x8 => some (.inl (x8, x7))
set_option maxHeartbeats 4000000 in
theorem tX11_cut_S208 {E : EX} {ad : Nat → Nat} {sh : Sh} {G : Hp} {l0 : Nat} {l1 : Int32} {l3 : Int32} {l4 : Int32} {o : (Int32 × Int32) ⊕ ((Int32 × Int32))} (C : Cx E RX11 cX11_cut 8 none 3 0 0) (hC : Cl sh G) (h_l0 : sh[l0]? = some (0, 11)) (hf : fX11_cut_S208 sh l0 l1 G l3 l4 = some o) (kb : ∀ (b_l3 : Int32) (b_l4 : Int32), o = .inl (b_l3, b_l4) → VV E 0 0 (wq (xT E) ad G sh) 208 [(0, .ref (ad l0)), (1, .int l1), (3, .int b_l3), (4, .int b_l4)] []) (kx250 : ∀ (b_l3 : Int32) (b_l4 : Int32), o = .inr (b_l3, b_l4) → VV E 0 0 (wq (xT E) ad G sh) 250 [(0, .ref (ad l0)), (1, .int l1), (3, .int b_l3), (4, .int b_l4)] []) : VV E 0 0 (wq (xT E) ad G sh) 208 [(0, .ref (ad l0)), (1, .int l1), (3, .int l3), (4, .int l4)] [] := by
  unfold fX11_cut_S208 at hf
  refine v_aload_n C 0 dX11_cut_208 rfl rfl ?_
  refine v_iload_n C 1 dX11_cut_209 rfl rfl ?_
  refine v_iload_n C 2 dX11_cut_210 rfl rfl ?_
  refine v_iadd C dX11_cut_211 ?_
  obtain ⟨r1, qr1, hf⟩ := bn hf
  refine v_callVi (As := [.int (l1 + l3)]) (rest := []) C (sX11_byteAt h_l0 qr1) cs_X11_208 (by decide) h_l0 rfl hC rfl rfl rfl (Nat.le_of_ble_eq_true rfl) ⟨Nat.le_refl _, Nat.le_refl _⟩ dX11_cut_212 (fun hC => ?_)
  obtain ⟨r2, qr2, hf⟩ := bn hf
  refine v_callSi (As := [.int r1]) (rest := []) C (sX11_isDigit  qr2) cs_X11_220 (by decide) hC rfl rfl rfl (Nat.le_of_ble_eq_true rfl) ⟨Nat.le_refl _, Nat.le_refl _⟩ dX11_cut_215 (fun hC => ?_)
  refine v_if_eq (tgt := 250) C dX11_cut_218 (by decide) (fun c3 => ?_) (fun c3 => ?_)
  · have hf := ip hf c3
    cases hf
    refine v_sub [0, 1, 2, 3] rfl ?_
    exact kx250 _ _ rfl
  · have hf := im hf c3
    refine v_iload_n C 2 dX11_cut_221 rfl rfl ?_
    refine v_iconst (v := 4) C dX11_cut_222 (by decide) ?_
    refine v_icmp_ge (tgt := 244) C dX11_cut_223 (by decide) (fun c4 => ?_) (fun c4 => ?_)
    · have hf := ip hf c4
      obtain ⟨x5, ex5⟩ : ∃ x : Int32, x = (l3 + 1) := ⟨_, rfl⟩
      have hf := bd_at hf ex5
      refine v_iinc (v := x5) (j := 2) (lv2 := [(3, .int x5), (0, .ref (ad l0)), (1, .int l1), (4, .int l4)]) C dX11_cut_244 rfl (by rw [ex5]; rfl) (by decide) rfl ?_
      refine v_goto (tgt := 208) C dX11_cut_247 (by decide) ?_
      cases hf
      refine v_sub [1, 2, 0, 3] rfl ?_
      exact kb _ _ rfl
    · have hf := im hf c4
      refine v_bipush (v := 10) C dX11_cut_226 (by decide) ?_
      refine v_iload C 3 dX11_cut_228 rfl ?_
      refine v_imul C dX11_cut_230 ?_
      refine v_aload_n C 0 dX11_cut_231 rfl rfl ?_
      refine v_iload_n C 1 dX11_cut_232 rfl rfl ?_
      refine v_iload_n C 2 dX11_cut_233 rfl rfl ?_
      refine v_iadd C dX11_cut_234 ?_
      obtain ⟨r6, qr6, hf⟩ := bn hf
      refine v_callVi (As := [.int (l1 + l3)]) (rest := [.int ((10 : Int32) * l4)]) C (sX11_byteAt h_l0 qr6) cs_X11_208 (by decide) h_l0 rfl hC rfl rfl rfl (Nat.le_of_ble_eq_true rfl) ⟨Nat.le_refl _, Nat.le_refl _⟩ dX11_cut_235 (fun hC => ?_)
      refine v_iadd C dX11_cut_238 ?_
      refine v_bipush (v := 48) C dX11_cut_239 (by decide) ?_
      refine v_isub C dX11_cut_241 ?_
      refine v_topi (fun x7 ex7 => ?_)
      have hf := bd_at hf ex7
      refine v_istore (lv2 := [(4, .int x7), (0, .ref (ad l0)), (1, .int l1), (3, .int l3)]) C dX11_cut_242 (by decide) rfl ?_
      obtain ⟨x8, ex8⟩ : ∃ x : Int32, x = (l3 + 1) := ⟨_, rfl⟩
      have hf := bd_at hf ex8
      refine v_iinc (v := x8) (j := 3) (lv2 := [(3, .int x8), (4, .int x7), (0, .ref (ad l0)), (1, .int l1)]) C dX11_cut_244 rfl (by rw [ex8]; rfl) (by decide) rfl ?_
      refine v_goto (tgt := 208) C dX11_cut_247 (by decide) ?_
      cases hf
      refine v_sub [2, 3, 0, 1] rfl ?_
      exact kb _ _ rfl
def fX11_cut_J261L7 (sh : Sh) (G : Hp) (l0 : Nat) (l1 : Int32) (l3 : Int32) (l4 : Int32) (s0 : Int32) (s1 : Nat) : Option ((Hp × Int32) ⊕ ((Hp) ⊕ (Hp))) := (fX11_token sh G s1 s0 l1 l4 0).bind fun G2 => bd ((l1 + l3) : Int32) fun x3 => some (.inl (G2, x3))
set_option maxHeartbeats 4000000 in
theorem tX11_cut_J261L7 {E : EX} {ad : Nat → Nat} {sh : Sh} {G : Hp} {l0 : Nat} {l1 : Int32} {l3 : Int32} {l4 : Int32} {s0 : Int32} {s1 : Nat} {o : (Hp × Int32) ⊕ ((Hp) ⊕ (Hp))} (C : Cx E RX11 cX11_cut 8 none 3 0 0) (hC : Cl sh G) (h_l0 : sh[l0]? = some (0, 11)) (h_s1 : sh[s1]? = some (0, 11)) (hf : fX11_cut_J261L7 sh G l0 l1 l3 l4 s0 s1 = some o) (kb : ∀ (G2 : Hp) (b_l1 : Int32), o = .inl (G2, b_l1) → Cl sh G2 → VV E 0 0 (wq (xT E) ad G2 sh) 7 [(0, .ref (ad l0)), (1, .int b_l1)] []) (kx294 : ∀ (G2 : Hp), o = .inr (.inl G2) → Cl sh G2 → VV E 0 0 (wq (xT E) ad G2 sh) 294 [(0, .ref (ad l0))] []) (kx31 : ∀ (G2 : Hp), o = .inr (.inr G2) → Cl sh G2 → VV E 0 0 (wq (xT E) ad G2 sh) 31 [(0, .ref (ad l0))] []) : VV E 0 0 (wq (xT E) ad G sh) 261 [(0, .ref (ad l0)), (1, .int l1), (3, .int l3), (4, .int l4)] [.int s0, .ref (ad s1)] := by
  unfold fX11_cut_J261L7 at hf
  refine v_iload_n C 1 dX11_cut_261 rfl rfl ?_
  refine v_iload C 3 dX11_cut_262 rfl ?_
  refine v_lconst (v := 0) C dX11_cut_264 (by decide) ?_
  obtain ⟨G2, qr1, hf⟩ := bn hf
  refine v_callVv (As := [.int s0, .int l1, .int l4, .long 0]) (rest := []) C (sX11_token h_s1 qr1) cs_X11_212 (by decide) h_s1 rfl hC rfl rfl rfl (Nat.le_of_ble_eq_true rfl) ⟨Nat.le_refl _, Nat.le_refl _⟩ dX11_cut_265 (fun hC => ?_)
  refine v_iload_n C 1 dX11_cut_268 rfl rfl ?_
  refine v_iload_n C 2 dX11_cut_269 rfl rfl ?_
  refine v_iadd C dX11_cut_270 ?_
  refine v_topi (fun x3 ex3 => ?_)
  have hf := bd_at hf ex3
  refine v_istore_n (lv2 := [(1, .int x3), (0, .ref (ad l0)), (3, .int l3), (4, .int l4)]) C dX11_cut_271 rfl (by decide) rfl ?_
  refine v_goto (tgt := 291) C dX11_cut_272 (by decide) ?_
  refine v_goto (tgt := 7) C dX11_cut_291 (by decide) ?_
  cases hf
  refine v_sub [1, 0] rfl ?_
  exact kb _ _ rfl hC
def fX11_cut_S85 (sh : Sh) (l0 : Nat) (l1 : Int32) (G : Hp) (l3 : Int32) (l4 : Int64) : Option ((Int32 × Int64) ⊕ ((Int32 × Int64))) := (fX11_byteAt sh G l0 (l1 + l3)).bind fun r1 => (fX11_isLetter r1).bind fun r2 => if r2 = 0 then some (.inr (l3, l4)) else if 8 ≤ l3 then bd ((l3 + 1) : Int32) fun x5 => some (.inl (x5, l4)) else (fX11_byteAt sh G l0 (l1 + l3)).bind fun r6 => (fX11_appends l4 r6).bind fun r7 => bd ((l3 + 1) : Int32) fun x8 => some (.inl (x8, r7))
set_option maxHeartbeats 4000000 in
theorem tX11_cut_S85 {E : EX} {ad : Nat → Nat} {sh : Sh} {G : Hp} {l0 : Nat} {l1 : Int32} {l3 : Int32} {l4 : Int64} {o : (Int32 × Int64) ⊕ ((Int32 × Int64))} (C : Cx E RX11 cX11_cut 8 none 3 0 0) (hC : Cl sh G) (h_l0 : sh[l0]? = some (0, 11)) (hf : fX11_cut_S85 sh l0 l1 G l3 l4 = some o) (kb : ∀ (b_l3 : Int32) (b_l4 : Int64), o = .inl (b_l3, b_l4) → VV E 0 0 (wq (xT E) ad G sh) 85 [(0, .ref (ad l0)), (1, .int l1), (3, .int b_l3), (4, .long b_l4)] []) (kx124 : ∀ (b_l3 : Int32) (b_l4 : Int64), o = .inr (b_l3, b_l4) → VV E 0 0 (wq (xT E) ad G sh) 124 [(0, .ref (ad l0)), (1, .int l1), (3, .int b_l3), (4, .long b_l4)] []) : VV E 0 0 (wq (xT E) ad G sh) 85 [(0, .ref (ad l0)), (1, .int l1), (3, .int l3), (4, .long l4)] [] := by
  unfold fX11_cut_S85 at hf
  refine v_aload_n C 0 dX11_cut_85 rfl rfl ?_
  refine v_iload_n C 1 dX11_cut_86 rfl rfl ?_
  refine v_iload_n C 2 dX11_cut_87 rfl rfl ?_
  refine v_iadd C dX11_cut_88 ?_
  obtain ⟨r1, qr1, hf⟩ := bn hf
  refine v_callVi (As := [.int (l1 + l3)]) (rest := []) C (sX11_byteAt h_l0 qr1) cs_X11_208 (by decide) h_l0 rfl hC rfl rfl rfl (Nat.le_of_ble_eq_true rfl) ⟨Nat.le_refl _, Nat.le_refl _⟩ dX11_cut_89 (fun hC => ?_)
  obtain ⟨r2, qr2, hf⟩ := bn hf
  refine v_callSi (As := [.int r1]) (rest := []) C (sX11_isLetter  qr2) cs_X11_216 (by decide) hC rfl rfl rfl (Nat.le_of_ble_eq_true rfl) ⟨Nat.le_refl _, Nat.le_refl _⟩ dX11_cut_92 (fun hC => ?_)
  refine v_if_eq (tgt := 124) C dX11_cut_95 (by decide) (fun c3 => ?_) (fun c3 => ?_)
  · have hf := ip hf c3
    cases hf
    refine v_sub [0, 1, 2, 3] rfl ?_
    exact kx124 _ _ rfl
  · have hf := im hf c3
    refine v_iload_n C 2 dX11_cut_98 rfl rfl ?_
    refine v_bipush (v := 8) C dX11_cut_99 (by decide) ?_
    refine v_icmp_ge (tgt := 118) C dX11_cut_101 (by decide) (fun c4 => ?_) (fun c4 => ?_)
    · have hf := ip hf c4
      obtain ⟨x5, ex5⟩ : ∃ x : Int32, x = (l3 + 1) := ⟨_, rfl⟩
      have hf := bd_at hf ex5
      refine v_iinc (v := x5) (j := 2) (lv2 := [(3, .int x5), (0, .ref (ad l0)), (1, .int l1), (4, .long l4)]) C dX11_cut_118 rfl (by rw [ex5]; rfl) (by decide) rfl ?_
      refine v_goto (tgt := 85) C dX11_cut_121 (by decide) ?_
      cases hf
      refine v_sub [1, 2, 0, 3] rfl ?_
      exact kb _ _ rfl
    · have hf := im hf c4
      refine v_lload C 3 dX11_cut_104 rfl ?_
      refine v_aload_n C 0 dX11_cut_106 rfl rfl ?_
      refine v_iload_n C 1 dX11_cut_107 rfl rfl ?_
      refine v_iload_n C 2 dX11_cut_108 rfl rfl ?_
      refine v_iadd C dX11_cut_109 ?_
      obtain ⟨r6, qr6, hf⟩ := bn hf
      refine v_callVi (As := [.int (l1 + l3)]) (rest := [.long l4]) C (sX11_byteAt h_l0 qr6) cs_X11_208 (by decide) h_l0 rfl hC rfl rfl rfl (Nat.le_of_ble_eq_true rfl) ⟨Nat.le_refl _, Nat.le_refl _⟩ dX11_cut_110 (fun hC => ?_)
      obtain ⟨r7, qr7, hf⟩ := bn hf
      refine v_callSl (As := [.long l4, .int r6]) (rest := []) C (sX11_appends  qr7) cs_X11_201 (by decide) hC rfl rfl rfl (Nat.le_of_ble_eq_true rfl) ⟨Nat.le_refl _, Nat.le_refl _⟩ dX11_cut_113 (fun hC => ?_)
      refine v_lstore (lv2 := [(4, .long r7), (0, .ref (ad l0)), (1, .int l1), (3, .int l3)]) C dX11_cut_116 (by decide) rfl ?_
      obtain ⟨x8, ex8⟩ : ∃ x : Int32, x = (l3 + 1) := ⟨_, rfl⟩
      have hf := bd_at hf ex8
      refine v_iinc (v := x8) (j := 3) (lv2 := [(3, .int x8), (4, .long r7), (0, .ref (ad l0)), (1, .int l1)]) C dX11_cut_118 rfl (by rw [ex8]; rfl) (by decide) rfl ?_
      refine v_goto (tgt := 85) C dX11_cut_121 (by decide) ?_
      cases hf
      refine v_sub [2, 3, 0, 1] rfl ?_
      exact kb _ _ rfl
def fX11_cut_J179L7 (sh : Sh) (G : Hp) (l0 : Nat) (l1 : Int32) (l3 : Int32) (l4 : Int64) (l6 : Int32) : Option ((Hp × Int32) ⊕ ((Hp) ⊕ (Hp))) := (fX11_token sh G l0 l6 l1 0 l4).bind fun G2 => bd ((l1 + l3) : Int32) fun x3 => some (.inl (G2, x3))
set_option maxHeartbeats 4000000 in
theorem tX11_cut_J179L7 {E : EX} {ad : Nat → Nat} {sh : Sh} {G : Hp} {l0 : Nat} {l1 : Int32} {l3 : Int32} {l4 : Int64} {l6 : Int32} {o : (Hp × Int32) ⊕ ((Hp) ⊕ (Hp))} (C : Cx E RX11 cX11_cut 8 none 3 0 0) (hC : Cl sh G) (h_l0 : sh[l0]? = some (0, 11)) (hf : fX11_cut_J179L7 sh G l0 l1 l3 l4 l6 = some o) (kb : ∀ (G2 : Hp) (b_l1 : Int32), o = .inl (G2, b_l1) → Cl sh G2 → VV E 0 0 (wq (xT E) ad G2 sh) 7 [(0, .ref (ad l0)), (1, .int b_l1)] []) (kx294 : ∀ (G2 : Hp), o = .inr (.inl G2) → Cl sh G2 → VV E 0 0 (wq (xT E) ad G2 sh) 294 [(0, .ref (ad l0))] []) (kx31 : ∀ (G2 : Hp), o = .inr (.inr G2) → Cl sh G2 → VV E 0 0 (wq (xT E) ad G2 sh) 31 [(0, .ref (ad l0))] []) : VV E 0 0 (wq (xT E) ad G sh) 179 [(0, .ref (ad l0)), (1, .int l1), (3, .int l3), (4, .long l4), (6, .int l6)] [] := by
  unfold fX11_cut_J179L7 at hf
  refine v_aload_n C 0 dX11_cut_179 rfl rfl ?_
  refine v_iload C 4 dX11_cut_180 rfl ?_
  refine v_iload_n C 1 dX11_cut_182 rfl rfl ?_
  refine v_iconst (v := 0) C dX11_cut_183 (by decide) ?_
  refine v_lload C 3 dX11_cut_184 rfl ?_
  obtain ⟨G2, qr1, hf⟩ := bn hf
  refine v_callVv (As := [.int l6, .int l1, .int 0, .long l4]) (rest := []) C (sX11_token h_l0 qr1) cs_X11_212 (by decide) h_l0 rfl hC rfl rfl rfl (Nat.le_of_ble_eq_true rfl) ⟨Nat.le_refl _, Nat.le_refl _⟩ dX11_cut_186 (fun hC => ?_)
  refine v_iload_n C 1 dX11_cut_189 rfl rfl ?_
  refine v_iload_n C 2 dX11_cut_190 rfl rfl ?_
  refine v_iadd C dX11_cut_191 ?_
  refine v_topi (fun x3 ex3 => ?_)
  have hf := bd_at hf ex3
  refine v_istore_n (lv2 := [(1, .int x3), (0, .ref (ad l0)), (3, .int l3), (4, .long l4), (6, .int l6)]) C dX11_cut_192 rfl (by decide) rfl ?_
  refine v_goto (tgt := 291) C dX11_cut_193 (by decide) ?_
  refine v_goto (tgt := 7) C dX11_cut_291 (by decide) ?_
  cases hf
  refine v_sub [1, 0] rfl ?_
  exact kb _ _ rfl hC
def fX11_cut_S146 (sh : Sh) (l0 : Nat) (l1 : Int32) (l3 : Int32) (l4 : Int64) (G : Hp) (l6 : Int32) (l7 : Int32) : Option ((Int32 × Int32) ⊕ ((Int32))) := if 26 ≤ l7 then some (.inr l6) else (ldA sh G l0 9 4).bind fun a2 => (aJ sh G a2 l7).bind fun v3 => if (lg_cmp v3 l4) = 0 then bd (((20 : Int32) + l7) : Int32) fun x6 => bd ((l7 + 1) : Int32) fun x7 => some (.inl (x6, x7)) else bd ((l7 + 1) : Int32) fun x5 => some (.inl (l6, x5))
set_option maxHeartbeats 4000000 in
theorem tX11_cut_S146 {E : EX} {ad : Nat → Nat} {sh : Sh} {G : Hp} {l0 : Nat} {l1 : Int32} {l3 : Int32} {l4 : Int64} {l6 : Int32} {l7 : Int32} {o : (Int32 × Int32) ⊕ ((Int32))} (C : Cx E RX11 cX11_cut 8 none 3 0 0) (hC : Cl sh G) (h_l0 : sh[l0]? = some (0, 11)) (hf : fX11_cut_S146 sh l0 l1 l3 l4 G l6 l7 = some o) (kb : ∀ (b_l6 : Int32) (b_l7 : Int32), o = .inl (b_l6, b_l7) → VV E 0 0 (wq (xT E) ad G sh) 146 [(0, .ref (ad l0)), (1, .int l1), (3, .int l3), (4, .long l4), (6, .int b_l6), (7, .int b_l7)] []) (kx179 : ∀ (b_l6 : Int32), o = .inr b_l6 → VV E 0 0 (wq (xT E) ad G sh) 179 [(0, .ref (ad l0)), (1, .int l1), (3, .int l3), (4, .long l4), (6, .int b_l6)] []) : VV E 0 0 (wq (xT E) ad G sh) 146 [(0, .ref (ad l0)), (1, .int l1), (3, .int l3), (4, .long l4), (6, .int l6), (7, .int l7)] [] := by
  unfold fX11_cut_S146 at hf
  refine v_iload C 5 dX11_cut_146 rfl ?_
  refine v_bipush (v := 26) C dX11_cut_148 (by decide) ?_
  refine v_icmp_ge (tgt := 179) C dX11_cut_150 (by decide) (fun c1 => ?_) (fun c1 => ?_)
  · have hf := ip hf c1
    cases hf
    refine v_sub [0, 1, 2, 3, 4] rfl ?_
    exact kx179 _ rfl
  · have hf := im hf c1
    refine v_aload_n C 0 dX11_cut_153 rfl rfl ?_
    obtain ⟨a2, qa2, hf⟩ := bn hf
    refine v_getA C h_l0 fl_X11_34 qa2 dX11_cut_154 (fun h_a2 => ?_)
    refine v_iload C 5 dX11_cut_157 rfl ?_
    obtain ⟨v3, qv3, hf⟩ := bn hf
    refine v_lald C h_a2 qv3 dX11_cut_159 ?_
    refine v_lload C 3 dX11_cut_160 rfl ?_
    refine v_lcmp C dX11_cut_162 ?_
    refine v_if_ne (tgt := 173) C dX11_cut_163 (by decide) (fun c4 => ?_) (fun c4 => ?_)
    · have hf := im hf c4
      obtain ⟨x5, ex5⟩ : ∃ x : Int32, x = (l7 + 1) := ⟨_, rfl⟩
      have hf := bd_at hf ex5
      refine v_iinc (v := x5) (j := 5) (lv2 := [(7, .int x5), (0, .ref (ad l0)), (1, .int l1), (3, .int l3), (4, .long l4), (6, .int l6)]) C dX11_cut_173 rfl (by rw [ex5]; rfl) (by decide) rfl ?_
      refine v_goto (tgt := 146) C dX11_cut_176 (by decide) ?_
      cases hf
      refine v_sub [1, 2, 3, 4, 5, 0] rfl ?_
      exact kb _ _ rfl
    · have hf := ip hf c4
      refine v_bipush (v := 20) C dX11_cut_166 (by decide) ?_
      refine v_iload C 5 dX11_cut_168 rfl ?_
      refine v_iadd C dX11_cut_170 ?_
      refine v_topi (fun x6 ex6 => ?_)
      have hf := bd_at hf ex6
      refine v_istore (lv2 := [(6, .int x6), (0, .ref (ad l0)), (1, .int l1), (3, .int l3), (4, .long l4), (7, .int l7)]) C dX11_cut_171 (by decide) rfl ?_
      obtain ⟨x7, ex7⟩ : ∃ x : Int32, x = (l7 + 1) := ⟨_, rfl⟩
      have hf := bd_at hf ex7
      refine v_iinc (v := x7) (j := 5) (lv2 := [(7, .int x7), (6, .int x6), (0, .ref (ad l0)), (1, .int l1), (3, .int l3), (4, .long l4)]) C dX11_cut_173 rfl (by rw [ex7]; rfl) (by decide) rfl ?_
      refine v_goto (tgt := 146) C dX11_cut_176 (by decide) ?_
      cases hf
      refine v_sub [2, 3, 4, 5, 1, 0] rfl ?_
      exact kb _ _ rfl
def fX11_cut_J135L7 (sh : Sh) (G : Hp) (l0 : Nat) (l1 : Int32) (l3 : Int32) (l4 : Int64) (s0 : Int32) : Option ((Hp × Int32) ⊕ ((Hp) ⊕ (Hp))) := if 8 < l3 then fX11_cut_J179L7 sh G l0 l1 l3 l4 s0 else (iter (fun s : Int32 × Int32 => fX11_cut_S146 sh l0 l1 l3 l4 G s.1 s.2) fuel ((s0, 0) : Int32 × Int32)).bind (fun u4 => bd u4 fun x3 => fX11_cut_J179L7 sh G l0 l1 l3 l4 x3)
set_option maxHeartbeats 4000000 in
theorem tX11_cut_J135L7 {E : EX} {ad : Nat → Nat} {sh : Sh} {G : Hp} {l0 : Nat} {l1 : Int32} {l3 : Int32} {l4 : Int64} {s0 : Int32} {o : (Hp × Int32) ⊕ ((Hp) ⊕ (Hp))} (C : Cx E RX11 cX11_cut 8 none 3 0 0) (hC : Cl sh G) (h_l0 : sh[l0]? = some (0, 11)) (hf : fX11_cut_J135L7 sh G l0 l1 l3 l4 s0 = some o) (kb : ∀ (G2 : Hp) (b_l1 : Int32), o = .inl (G2, b_l1) → Cl sh G2 → VV E 0 0 (wq (xT E) ad G2 sh) 7 [(0, .ref (ad l0)), (1, .int b_l1)] []) (kx294 : ∀ (G2 : Hp), o = .inr (.inl G2) → Cl sh G2 → VV E 0 0 (wq (xT E) ad G2 sh) 294 [(0, .ref (ad l0))] []) (kx31 : ∀ (G2 : Hp), o = .inr (.inr G2) → Cl sh G2 → VV E 0 0 (wq (xT E) ad G2 sh) 31 [(0, .ref (ad l0))] []) : VV E 0 0 (wq (xT E) ad G sh) 135 [(0, .ref (ad l0)), (1, .int l1), (3, .int l3), (4, .long l4)] [.int s0] := by
  unfold fX11_cut_J135L7 at hf
  refine v_istore (lv2 := [(6, .int s0), (0, .ref (ad l0)), (1, .int l1), (3, .int l3), (4, .long l4)]) C dX11_cut_135 (by decide) rfl ?_
  refine v_iload_n C 3 dX11_cut_137 rfl rfl ?_
  refine v_bipush (v := 8) C dX11_cut_138 (by decide) ?_
  refine v_icmp_gt (tgt := 179) C dX11_cut_140 (by decide) (fun c1 => ?_) (fun c1 => ?_)
  · have hf := ip hf c1
    refine v_sub [1, 2, 3, 4, 0] rfl ?_
    exact tX11_cut_J179L7 C hC h_l0 hf kb kx294 kx31
  · have hf := im hf c1
    refine v_iconst (v := 0) C dX11_cut_143 (by decide) ?_
    refine v_istore (lv2 := [(7, .int 0), (6, .int s0), (0, .ref (ad l0)), (1, .int l1), (3, .int l3), (4, .long l4)]) C dX11_cut_144 (by decide) rfl ?_
    obtain ⟨r2, qr2, hf⟩ := bn hf
    refine v_sub [2, 3, 4, 5, 1, 0] rfl ?_
    refine iter_sound (P := (fun s : Int32 × Int32 => VV E 0 0 (wq (xT E) ad (G) sh) 146 [(0, .ref (ad l0)), (1, .int (l1)), (3, .int (l3)), (4, .long (l4)), (6, .int (s.1)), (7, .int (s.2))] [])) (X := fun r => r = r2) (fun jsr2 jor2 hor2 jbr2 jxr2 => tX11_cut_S146 C hC h_l0 hor2 (fun _ _ e => jbr2 _ e) ?_) fuel _ r2 qr2 rfl
    · intro x3 hu
      have e := jxr2 _ hu
      subst e
      have hf := bd_at hf (rfl : x3 = _)
      refine v_sub [0, 1, 2, 3, 4] rfl ?_
      exact tX11_cut_J179L7 C hC h_l0 hf kb kx294 kx31
def fX11_cut_S7 (sh : Sh) (l0 : Nat) (G : Hp) (l1 : Int32) : Option ((Hp × Int32) ⊕ ((Hp) ⊕ (Hp))) := if 400 < (G.1 l0 10) then some (.inr (.inl G)) else (fX11_byteAt sh G l0 l1).bind fun r2 => if l1 < (G.1 l0 4) then if r2 = 9 then bd ((l1 + 1) : Int32) fun x5 => some (.inl (G, x5)) else if r2 = 10 then bd ((l1 + 1) : Int32) fun x7 => some (.inl (G, x7)) else if r2 = 13 then bd ((l1 + 1) : Int32) fun x9 => some (.inl (G, x9)) else if r2 = 32 then bd ((l1 + 1) : Int32) fun x29 => some (.inl (G, x29)) else (fX11_isLetter r2).bind fun r11 => if r11 = 0 then (fX11_isDigit r2).bind fun r13 => if r13 = 0 then (fX11_byteAt sh G l0 (l1 + 1)).bind fun r15 => bp (fX11_sign sh G l0 l1 r2 r15) fun r16 G17 => bd ((l1 + r16) : Int32) fun x18 => some (.inl (G17, x18)) else (iter (fun s : Int32 × Int32 => fX11_cut_S208 sh l0 l1 G s.1 s.2) fuel ((0, 0) : Int32 × Int32)).bind (fun u23 => bd u23.1 fun x20 => bd u23.2 fun x21 => if x20 ≤ 4 then fX11_cut_J261L7 sh G l0 l1 x20 x21 2 l0 else fX11_cut_J261L7 sh G l0 l1 x20 x21 3 l0) else (iter (fun s : Int32 × Int64 => fX11_cut_S85 sh l0 l1 G s.1 s.2) fuel ((0, 0) : Int32 × Int64)).bind (fun u28 => bd u28.1 fun x25 => bd u28.2 fun x26 => if x25 ≤ 8 then fX11_cut_J135L7 sh G l0 l1 x25 x26 1 else fX11_cut_J135L7 sh G l0 l1 x25 x26 3) else some (.inr (.inr G))
set_option maxHeartbeats 4000000 in
theorem tX11_cut_S7 {E : EX} {ad : Nat → Nat} {sh : Sh} {G : Hp} {l0 : Nat} {l1 : Int32} {o : (Hp × Int32) ⊕ ((Hp) ⊕ (Hp))} (C : Cx E RX11 cX11_cut 8 none 3 0 0) (hC : Cl sh G) (h_l0 : sh[l0]? = some (0, 11)) (hf : fX11_cut_S7 sh l0 G l1 = some o) (kb : ∀ (G2 : Hp) (b_l1 : Int32), o = .inl (G2, b_l1) → Cl sh G2 → VV E 0 0 (wq (xT E) ad G2 sh) 7 [(0, .ref (ad l0)), (1, .int b_l1)] []) (kx294 : ∀ (G2 : Hp), o = .inr (.inl G2) → Cl sh G2 → VV E 0 0 (wq (xT E) ad G2 sh) 294 [(0, .ref (ad l0))] []) (kx31 : ∀ (G2 : Hp), o = .inr (.inr G2) → Cl sh G2 → VV E 0 0 (wq (xT E) ad G2 sh) 31 [(0, .ref (ad l0))] []) : VV E 0 0 (wq (xT E) ad G sh) 7 [(0, .ref (ad l0)), (1, .int l1)] [] := by
  unfold fX11_cut_S7 at hf
  refine v_aload_n C 0 dX11_cut_7 rfl rfl ?_
  refine v_getI C h_l0 fl_X11_205 dX11_cut_8 ?_
  refine v_sipush (v := 400) C dX11_cut_11 (by decide) ?_
  refine v_icmp_gt (tgt := 294) C dX11_cut_14 (by decide) (fun c1 => ?_) (fun c1 => ?_)
  · have hf := ip hf c1
    cases hf
    refine v_sub [0] rfl ?_
    exact kx294 _ rfl hC
  · have hf := im hf c1
    refine v_aload_n C 0 dX11_cut_17 rfl rfl ?_
    refine v_iload_n C 1 dX11_cut_18 rfl rfl ?_
    obtain ⟨r2, qr2, hf⟩ := bn hf
    refine v_callVi (As := [.int l1]) (rest := []) C (sX11_byteAt h_l0 qr2) cs_X11_208 (by decide) h_l0 rfl hC rfl rfl rfl (Nat.le_of_ble_eq_true rfl) ⟨Nat.le_refl _, Nat.le_refl _⟩ dX11_cut_19 (fun hC => ?_)
    refine v_istore_n (lv2 := [(2, .int r2), (0, .ref (ad l0)), (1, .int l1)]) C dX11_cut_22 rfl (by decide) rfl ?_
    refine v_iload_n C 2 dX11_cut_23 rfl rfl ?_
    refine v_aload_n C 1 dX11_cut_24 rfl rfl ?_
    refine v_getI C h_l0 fl_X11_196 dX11_cut_25 ?_
    refine v_icmp_lt (tgt := 43) C dX11_cut_28 (by decide) (fun c3 => ?_) (fun c3 => ?_)
    · have hf := ip hf c3
      refine v_iload_n C 0 dX11_cut_43 rfl rfl ?_
      refine v_bipush (v := 9) C dX11_cut_44 (by decide) ?_
      refine v_icmp_eq (tgt := 67) C dX11_cut_46 (by decide) (fun c4 => ?_) (fun c4 => ?_)
      · have hf := ip hf c4
        obtain ⟨x5, ex5⟩ : ∃ x : Int32, x = (l1 + 1) := ⟨_, rfl⟩
        have hf := bd_at hf ex5
        refine v_iinc (v := x5) (j := 2) (lv2 := [(1, .int x5), (2, .int r2), (0, .ref (ad l0))]) C dX11_cut_67 rfl (by rw [ex5]; rfl) (by decide) rfl ?_
        refine v_goto (tgt := 291) C dX11_cut_70 (by decide) ?_
        refine v_goto (tgt := 7) C dX11_cut_291 (by decide) ?_
        cases hf
        refine v_sub [2, 0] rfl ?_
        exact kb _ _ rfl hC
      · have hf := im hf c4
        refine v_iload_n C 0 dX11_cut_49 rfl rfl ?_
        refine v_bipush (v := 10) C dX11_cut_50 (by decide) ?_
        refine v_icmp_eq (tgt := 67) C dX11_cut_52 (by decide) (fun c6 => ?_) (fun c6 => ?_)
        · have hf := ip hf c6
          obtain ⟨x7, ex7⟩ : ∃ x : Int32, x = (l1 + 1) := ⟨_, rfl⟩
          have hf := bd_at hf ex7
          refine v_iinc (v := x7) (j := 2) (lv2 := [(1, .int x7), (2, .int r2), (0, .ref (ad l0))]) C dX11_cut_67 rfl (by rw [ex7]; rfl) (by decide) rfl ?_
          refine v_goto (tgt := 291) C dX11_cut_70 (by decide) ?_
          refine v_goto (tgt := 7) C dX11_cut_291 (by decide) ?_
          cases hf
          refine v_sub [2, 0] rfl ?_
          exact kb _ _ rfl hC
        · have hf := im hf c6
          refine v_iload_n C 0 dX11_cut_55 rfl rfl ?_
          refine v_bipush (v := 13) C dX11_cut_56 (by decide) ?_
          refine v_icmp_eq (tgt := 67) C dX11_cut_58 (by decide) (fun c8 => ?_) (fun c8 => ?_)
          · have hf := ip hf c8
            obtain ⟨x9, ex9⟩ : ∃ x : Int32, x = (l1 + 1) := ⟨_, rfl⟩
            have hf := bd_at hf ex9
            refine v_iinc (v := x9) (j := 2) (lv2 := [(1, .int x9), (2, .int r2), (0, .ref (ad l0))]) C dX11_cut_67 rfl (by rw [ex9]; rfl) (by decide) rfl ?_
            refine v_goto (tgt := 291) C dX11_cut_70 (by decide) ?_
            refine v_goto (tgt := 7) C dX11_cut_291 (by decide) ?_
            cases hf
            refine v_sub [2, 0] rfl ?_
            exact kb _ _ rfl hC
          · have hf := im hf c8
            refine v_iload_n C 0 dX11_cut_61 rfl rfl ?_
            refine v_bipush (v := 32) C dX11_cut_62 (by decide) ?_
            refine v_icmp_ne (tgt := 73) C dX11_cut_64 (by decide) (fun c10 => ?_) (fun c10 => ?_)
            · have hf := im hf c10
              refine v_iload_n C 0 dX11_cut_73 rfl rfl ?_
              obtain ⟨r11, qr11, hf⟩ := bn hf
              refine v_callSi (As := [.int r2]) (rest := []) C (sX11_isLetter  qr11) cs_X11_216 (by decide) hC rfl rfl rfl (Nat.le_of_ble_eq_true rfl) ⟨Nat.le_refl _, Nat.le_refl _⟩ dX11_cut_74 (fun hC => ?_)
              refine v_if_eq (tgt := 196) C dX11_cut_77 (by decide) (fun c12 => ?_) (fun c12 => ?_)
              · have hf := ip hf c12
                refine v_iload_n C 0 dX11_cut_196 rfl rfl ?_
                obtain ⟨r13, qr13, hf⟩ := bn hf
                refine v_callSi (As := [.int r2]) (rest := []) C (sX11_isDigit  qr13) cs_X11_220 (by decide) hC rfl rfl rfl (Nat.le_of_ble_eq_true rfl) ⟨Nat.le_refl _, Nat.le_refl _⟩ dX11_cut_197 (fun hC => ?_)
                refine v_if_eq (tgt := 275) C dX11_cut_200 (by decide) (fun c14 => ?_) (fun c14 => ?_)
                · have hf := ip hf c14
                  refine v_iload_n C 2 dX11_cut_275 rfl rfl ?_
                  refine v_aload_n C 1 dX11_cut_276 rfl rfl ?_
                  refine v_iload_n C 2 dX11_cut_277 rfl rfl ?_
                  refine v_iload_n C 0 dX11_cut_278 rfl rfl ?_
                  refine v_aload_n C 1 dX11_cut_279 rfl rfl ?_
                  refine v_iload_n C 2 dX11_cut_280 rfl rfl ?_
                  refine v_iconst (v := 1) C dX11_cut_281 (by decide) ?_
                  refine v_iadd C dX11_cut_282 ?_
                  obtain ⟨r15, qr15, hf⟩ := bn hf
                  refine v_callVi (As := [.int (l1 + 1)]) (rest := [.int r2, .int l1, .ref (ad l0), .int l1]) C (sX11_byteAt h_l0 qr15) cs_X11_208 (by decide) h_l0 rfl hC rfl rfl rfl (Nat.le_of_ble_eq_true rfl) ⟨Nat.le_refl _, Nat.le_refl _⟩ dX11_cut_283 (fun hC => ?_)
                  obtain ⟨r16, G17, qr16, hf⟩ := bpn hf
                  refine v_callVi (As := [.int l1, .int r2, .int r15]) (rest := [.int l1]) C (sX11_sign h_l0 qr16) cs_X11_223 (by decide) h_l0 rfl hC rfl rfl rfl (Nat.le_of_ble_eq_true rfl) ⟨Nat.le_refl _, Nat.le_refl _⟩ dX11_cut_286 (fun hC => ?_)
                  refine v_iadd C dX11_cut_289 ?_
                  refine v_topi (fun x18 ex18 => ?_)
                  have hf := bd_at hf ex18
                  refine v_istore_n (lv2 := [(1, .int x18), (2, .int r2), (0, .ref (ad l0))]) C dX11_cut_290 rfl (by decide) rfl ?_
                  refine v_goto (tgt := 7) C dX11_cut_291 (by decide) ?_
                  cases hf
                  refine v_sub [2, 0] rfl ?_
                  exact kb _ _ rfl hC
                · have hf := im hf c14
                  refine v_iconst (v := 0) C dX11_cut_203 (by decide) ?_
                  refine v_istore_n (lv2 := [(3, .int 0), (2, .int r2), (0, .ref (ad l0)), (1, .int l1)]) C dX11_cut_204 rfl (by decide) rfl ?_
                  refine v_iconst (v := 0) C dX11_cut_205 (by decide) ?_
                  refine v_istore (lv2 := [(4, .int 0), (3, .int 0), (2, .int r2), (0, .ref (ad l0)), (1, .int l1)]) C dX11_cut_206 (by decide) rfl ?_
                  obtain ⟨r19, qr19, hf⟩ := bn hf
                  refine v_sub [3, 4, 1, 0] rfl ?_
                  refine iter_sound (P := (fun s : Int32 × Int32 => VV E 0 0 (wq (xT E) ad (G) sh) 208 [(0, .ref (ad l0)), (1, .int (l1)), (3, .int (s.1)), (4, .int (s.2))] [])) (X := fun r => r = r19) (fun jsr19 jor19 hor19 jbr19 jxr19 => tX11_cut_S208 C hC h_l0 hor19 (fun _ _ e => jbr19 _ e) ?_) fuel _ r19 qr19 rfl
                  · intro x20 x21 hu
                    have e := jxr19 _ hu
                    subst e
                    have hf := bd_at hf (rfl : x20 = _)
                    have hf := bd_at hf (rfl : x21 = _)
                    refine v_aload_n C 0 dX11_cut_250 rfl rfl ?_
                    refine v_iload_n C 2 dX11_cut_251 rfl rfl ?_
                    refine v_iconst (v := 4) C dX11_cut_252 (by decide) ?_
                    refine v_icmp_le (tgt := 260) C dX11_cut_253 (by decide) (fun c22 => ?_) (fun c22 => ?_)
                    · have hf := ip hf c22
                      refine v_iconst (v := 2) C dX11_cut_260 (by decide) ?_
                      refine v_sub [0, 1, 2, 3] rfl ?_
                      exact tX11_cut_J261L7 C hC h_l0 h_l0 hf kb kx294 kx31
                    · have hf := im hf c22
                      refine v_iconst (v := 3) C dX11_cut_256 (by decide) ?_
                      refine v_goto (tgt := 261) C dX11_cut_257 (by decide) ?_
                      refine v_sub [0, 1, 2, 3] rfl ?_
                      exact tX11_cut_J261L7 C hC h_l0 h_l0 hf kb kx294 kx31
              · have hf := im hf c12
                refine v_iconst (v := 0) C dX11_cut_80 (by decide) ?_
                refine v_istore_n (lv2 := [(3, .int 0), (2, .int r2), (0, .ref (ad l0)), (1, .int l1)]) C dX11_cut_81 rfl (by decide) rfl ?_
                refine v_lconst (v := 0) C dX11_cut_82 (by decide) ?_
                refine v_lstore (lv2 := [(4, .long 0), (3, .int 0), (2, .int r2), (0, .ref (ad l0)), (1, .int l1)]) C dX11_cut_83 (by decide) rfl ?_
                obtain ⟨r24, qr24, hf⟩ := bn hf
                refine v_sub [3, 4, 1, 0] rfl ?_
                refine iter_sound (P := (fun s : Int32 × Int64 => VV E 0 0 (wq (xT E) ad (G) sh) 85 [(0, .ref (ad l0)), (1, .int (l1)), (3, .int (s.1)), (4, .long (s.2))] [])) (X := fun r => r = r24) (fun jsr24 jor24 hor24 jbr24 jxr24 => tX11_cut_S85 C hC h_l0 hor24 (fun _ _ e => jbr24 _ e) ?_) fuel _ r24 qr24 rfl
                · intro x25 x26 hu
                  have e := jxr24 _ hu
                  subst e
                  have hf := bd_at hf (rfl : x25 = _)
                  have hf := bd_at hf (rfl : x26 = _)
                  refine v_iload_n C 2 dX11_cut_124 rfl rfl ?_
                  refine v_bipush (v := 8) C dX11_cut_125 (by decide) ?_
                  refine v_icmp_le (tgt := 134) C dX11_cut_127 (by decide) (fun c27 => ?_) (fun c27 => ?_)
                  · have hf := ip hf c27
                    refine v_iconst (v := 1) C dX11_cut_134 (by decide) ?_
                    refine v_sub [0, 1, 2, 3] rfl ?_
                    exact tX11_cut_J135L7 C hC h_l0 hf kb kx294 kx31
                  · have hf := im hf c27
                    refine v_iconst (v := 3) C dX11_cut_130 (by decide) ?_
                    refine v_goto (tgt := 135) C dX11_cut_131 (by decide) ?_
                    refine v_sub [0, 1, 2, 3] rfl ?_
                    exact tX11_cut_J135L7 C hC h_l0 hf kb kx294 kx31
            · have hf := ip hf c10
              obtain ⟨x29, ex29⟩ : ∃ x : Int32, x = (l1 + 1) := ⟨_, rfl⟩
              have hf := bd_at hf ex29
              refine v_iinc (v := x29) (j := 2) (lv2 := [(1, .int x29), (2, .int r2), (0, .ref (ad l0))]) C dX11_cut_67 rfl (by rw [ex29]; rfl) (by decide) rfl ?_
              refine v_goto (tgt := 291) C dX11_cut_70 (by decide) ?_
              refine v_goto (tgt := 7) C dX11_cut_291 (by decide) ?_
              cases hf
              refine v_sub [2, 0] rfl ?_
              exact kb _ _ rfl hC
    · have hf := im hf c3
      cases hf
      refine v_sub [1] rfl ?_
      exact kx31 _ rfl hC
def fX11_cut (sh : Sh) (G : Hp) (l0 : Nat) : Option (Hp) := bd (sI G l0 10 0) fun G1 => (iter (fun s : Hp × Int32 => fX11_cut_S7 sh l0 s.1 s.2) fuel ((G1, 0) : Hp × Int32)).bind (Sum.elim (fun u4 => bd u4 fun G3 => some G3) (fun u8 => bd u8 fun G5 => (fX11_token sh G5 l0 0 (G5.1 l0 4) 0 0).bind fun G7 => some G7))
set_option maxHeartbeats 4000000 in
theorem tX11_cut {E : EX} {ad : Nat → Nat} {sh : Sh} {G : Hp} {l0 : Nat} {z : Hp} (C : Cx E RX11 cX11_cut 8 none 3 0 0) (hC : Cl sh G) (h_l0 : sh[l0]? = some (0, 11)) (hf : fX11_cut sh G l0 = some z) (kr : RCv E cX11_cut ad sh z) : VV E 0 0 (wq (xT E) ad G sh) 0 [(0, .ref (ad l0))] [] := by
  unfold fX11_cut at hf
  refine v_aload_n C 0 dX11_cut_0 rfl rfl ?_
  refine v_iconst (v := 0) C dX11_cut_1 (by decide) ?_
  refine v_putI C h_l0 fp_X11_205 dX11_cut_2 (fun G1 eG1 => ?_)
  have hf := bd_at hf eG1
  have hC : Cl sh G1 := by rw [eG1]; exact hC
  refine v_iconst (v := 0) C dX11_cut_5 (by decide) ?_
  refine v_istore_n (lv2 := [(1, .int 0), (0, .ref (ad l0))]) C dX11_cut_6 rfl (by decide) rfl ?_
  obtain ⟨r2, qr2, hf⟩ := bn hf
  refine v_sub [1, 0] rfl ?_
  refine iter_sound (P := (fun s : Hp × Int32 => Cl sh (s.1) → VV E 0 0 (wq (xT E) ad (s.1) sh) 7 [(0, .ref (ad l0)), (1, .int (s.2))] [])) (X := fun r => r = r2) (fun jsr2 jor2 hor2 jbr2 jxr2 hC => tX11_cut_S7 C hC h_l0 hor2 (fun _ _ e => jbr2 _ e) ?_ ?_) fuel _ r2 qr2 rfl hC
  · intro G3 hu hC
    have e := jxr2 _ hu
    subst e
    have hf := sm_l hf
    have hf := bd_at hf (rfl : G3 = _)
    cases hf
    exact kr _ _ dX11_cut_294 hC
  · intro G5 hu hC
    have e := jxr2 _ hu
    subst e
    have hf := sm_r hf
    have hf := bd_at hf (rfl : G5 = _)
    refine v_aload_n C 0 dX11_cut_31 rfl rfl ?_
    refine v_iconst (v := 0) C dX11_cut_32 (by decide) ?_
    refine v_aload_n C 0 dX11_cut_33 rfl rfl ?_
    refine v_getI C h_l0 fl_X11_196 dX11_cut_34 ?_
    refine v_iconst (v := 0) C dX11_cut_37 (by decide) ?_
    refine v_lconst (v := 0) C dX11_cut_38 (by decide) ?_
    obtain ⟨G7, qr6, hf⟩ := bn hf
    refine v_callVv (As := [.int 0, .int (G5.1 l0 4), .int 0, .long 0]) (rest := []) C (sX11_token h_l0 qr6) cs_X11_212 (by decide) h_l0 rfl hC rfl rfl rfl (Nat.le_of_ble_eq_true rfl) ⟨Nat.le_refl _, Nat.le_refl _⟩ dX11_cut_39 (fun hC => ?_)
    cases hf
    exact kr _ _ dX11_cut_42 hC
theorem sX11_cut {l : Launch} {sh : Sh} {G : Hp} {l0 : Nat} {z : Hp} (h_l0 : sh[l0]? = some (0, 11)) (hf : fX11_cut sh G l0 = some z) : MC l yX11_cut cX11_cut 8 none 3 0 0 sh sh G z (fun ad => [.ref (ad l0)]) (fun _ => none) := by
  refine MC_of rfl rfl (fun _ => Nat.le_of_ble_eq_true rfl) (fun E ad C hl hnm hC hQ => ?_)
  exact tX11_cut C hC h_l0 hf (fun pc lv hd hC => v_vret C hQ (fun _ _ => rfl) hC rfl hd)
def fX11_is (sh : Sh) (G : Hp) (l0 : Nat) (l1 : Int32) : Option (Int32) := if (G.1 l0 13) = 0 then (ldA sh G l0 5 1).bind fun a2 => (aI sh G a2 (G.1 l0 11)).bind fun v3 => if v3 = l1 then some 1 else some 0 else some 0
set_option maxHeartbeats 4000000 in
theorem tX11_is {E : EX} {ad : Nat → Nat} {sh : Sh} {G : Hp} {l0 : Nat} {l1 : Int32} {z : Int32} (C : Cx E RX11 cX11_is 2 (some .boolean) 1 0 0) (hC : Cl sh G) (h_l0 : sh[l0]? = some (0, 11)) (hf : fX11_is sh G l0 l1 = some z) (kr : RCz E cX11_is ad sh z G) : VV E 0 0 (wq (xT E) ad G sh) 0 [(0, .ref (ad l0)), (1, .int l1)] [] := by
  unfold fX11_is at hf
  refine v_aload_n C 0 dX11_is_0 rfl rfl ?_
  refine v_getI C h_l0 fl_X11_227 dX11_is_1 ?_
  refine v_if_ne (tgt := 24) C dX11_is_4 (by decide) (fun c1 => ?_) (fun c1 => ?_)
  · have hf := im hf c1
    refine v_iconst (v := 0) C dX11_is_24 (by decide) ?_
    cases hf
    exact kr _ _ dX11_is_25 (Or.inl rfl) hC
  · have hf := ip hf c1
    refine v_aload_n C 0 dX11_is_7 rfl rfl ?_
    obtain ⟨a2, qa2, hf⟩ := bn hf
    refine v_getA C h_l0 fl_X11_20 qa2 dX11_is_8 (fun h_a2 => ?_)
    refine v_aload_n C 0 dX11_is_11 rfl rfl ?_
    refine v_getI C h_l0 fl_X11_230 dX11_is_12 ?_
    obtain ⟨v3, qv3, hf⟩ := bn hf
    refine v_iald C h_a2 qv3 dX11_is_15 ?_
    refine v_iload_n C 1 dX11_is_16 rfl rfl ?_
    refine v_icmp_ne (tgt := 24) C dX11_is_17 (by decide) (fun c4 => ?_) (fun c4 => ?_)
    · have hf := im hf c4
      refine v_iconst (v := 0) C dX11_is_24 (by decide) ?_
      cases hf
      exact kr _ _ dX11_is_25 (Or.inl rfl) hC
    · have hf := ip hf c4
      refine v_iconst (v := 1) C dX11_is_20 (by decide) ?_
      refine v_goto (tgt := 25) C dX11_is_21 (by decide) ?_
      cases hf
      exact kr _ _ dX11_is_25 (Or.inr rfl) hC
theorem sX11_is {l : Launch} {sh : Sh} {G : Hp} {l0 : Nat} {l1 : Int32} {z : Int32} (h_l0 : sh[l0]? = some (0, 11)) (hf : fX11_is sh G l0 l1 = some z) : MC l yX11_is cX11_is 2 (some .boolean) 1 0 0 sh sh G G (fun ad => [.ref (ad l0), .int l1]) (fun _ => some (.int z)) := by
  refine MC_of rfl rfl (fun _ => Nat.le_of_ble_eq_true rfl) (fun E ad C hl hnm hC hQ => ?_)
  exact tX11_is C hC h_l0 hf (fun pc lv hd hz hC => v_zret C hQ (fun _ _ => rfl) hC rfl hz hd)
def fX11_fail (sh : Sh) (G : Hp) (l0 : Nat) (l1 : Int32) : Option (Hp) := if (G.1 l0 13) ≤ 0 then bd (sI G l0 13 l1) fun G2 => (ldA sh G2 l0 6 1).bind fun a3 => (aI sh G2 a3 (G2.1 l0 11)).bind fun v4 => bd (sI G2 l0 14 v4) fun G5 => some G5 else some G
set_option maxHeartbeats 4000000 in
theorem tX11_fail {E : EX} {ad : Nat → Nat} {sh : Sh} {G : Hp} {l0 : Nat} {l1 : Int32} {z : Hp} (C : Cx E RX11 cX11_fail 2 none 1 0 0) (hC : Cl sh G) (h_l0 : sh[l0]? = some (0, 11)) (hf : fX11_fail sh G l0 l1 = some z) (kr : RCv E cX11_fail ad sh z) : VV E 0 0 (wq (xT E) ad G sh) 0 [(0, .ref (ad l0)), (1, .int l1)] [] := by
  unfold fX11_fail at hf
  refine v_aload_n C 0 dX11_fail_0 rfl rfl ?_
  refine v_getI C h_l0 fl_X11_227 dX11_fail_1 ?_
  refine v_if_le (tgt := 8) C dX11_fail_4 (by decide) (fun c1 => ?_) (fun c1 => ?_)
  · have hf := ip hf c1
    refine v_aload_n C 0 dX11_fail_8 rfl rfl ?_
    refine v_iload_n C 1 dX11_fail_9 rfl rfl ?_
    refine v_putI C h_l0 fp_X11_227 dX11_fail_10 (fun G2 eG2 => ?_)
    have hf := bd_at hf eG2
    have hC : Cl sh G2 := by rw [eG2]; exact hC
    refine v_aload_n C 0 dX11_fail_13 rfl rfl ?_
    refine v_aload_n C 0 dX11_fail_14 rfl rfl ?_
    obtain ⟨a3, qa3, hf⟩ := bn hf
    refine v_getA C h_l0 fl_X11_24 qa3 dX11_fail_15 (fun h_a3 => ?_)
    refine v_aload_n C 0 dX11_fail_18 rfl rfl ?_
    refine v_getI C h_l0 fl_X11_230 dX11_fail_19 ?_
    obtain ⟨v4, qv4, hf⟩ := bn hf
    refine v_iald C h_a3 qv4 dX11_fail_22 ?_
    refine v_putI C h_l0 fp_X11_233 dX11_fail_23 (fun G5 eG5 => ?_)
    have hf := bd_at hf eG5
    have hC : Cl sh G5 := by rw [eG5]; exact hC
    cases hf
    exact kr _ _ dX11_fail_26 hC
  · have hf := im hf c1
    cases hf
    exact kr _ _ dX11_fail_7 hC
theorem sX11_fail {l : Launch} {sh : Sh} {G : Hp} {l0 : Nat} {l1 : Int32} {z : Hp} (h_l0 : sh[l0]? = some (0, 11)) (hf : fX11_fail sh G l0 l1 = some z) : MC l yX11_fail cX11_fail 2 none 1 0 0 sh sh G z (fun ad => [.ref (ad l0), .int l1]) (fun _ => none) := by
  refine MC_of rfl rfl (fun _ => Nat.le_of_ble_eq_true rfl) (fun E ad C hl hnm hC hQ => ?_)
  exact tX11_fail C hC h_l0 hf (fun pc lv hd hC => v_vret C hQ (fun _ _ => rfl) hC rfl hd)
def fX11_goesOn (sh : Sh) (G : Hp) (l0 : Nat) : Option (Hp) := if (G.1 l0 11) = 400 then (fX11_fail sh G l0 2).bind fun G4 => some G4 else bd (sI G l0 11 ((G.1 l0 11) + 1)) fun G2 => some G2
set_option maxHeartbeats 4000000 in
theorem tX11_goesOn {E : EX} {ad : Nat → Nat} {sh : Sh} {G : Hp} {l0 : Nat} {z : Hp} (C : Cx E RX11 cX11_goesOn 1 none 2 0 0) (hC : Cl sh G) (h_l0 : sh[l0]? = some (0, 11)) (hf : fX11_goesOn sh G l0 = some z) (kr : RCv E cX11_goesOn ad sh z) : VV E 0 0 (wq (xT E) ad G sh) 0 [(0, .ref (ad l0))] [] := by
  unfold fX11_goesOn at hf
  refine v_aload_n C 0 dX11_goesOn_0 rfl rfl ?_
  refine v_getI C h_l0 fl_X11_230 dX11_goesOn_1 ?_
  refine v_sipush (v := 400) C dX11_goesOn_4 (by decide) ?_
  refine v_icmp_ne (tgt := 18) C dX11_goesOn_7 (by decide) (fun c1 => ?_) (fun c1 => ?_)
  · have hf := im hf c1
    refine v_aload_n C 0 dX11_goesOn_18 rfl rfl ?_
    refine v_dup C dX11_goesOn_19 rfl ?_
    refine v_getI C h_l0 fl_X11_230 dX11_goesOn_20 ?_
    refine v_iconst (v := 1) C dX11_goesOn_23 (by decide) ?_
    refine v_iadd C dX11_goesOn_24 ?_
    refine v_putI C h_l0 fp_X11_230 dX11_goesOn_25 (fun G2 eG2 => ?_)
    have hf := bd_at hf eG2
    have hC : Cl sh G2 := by rw [eG2]; exact hC
    cases hf
    exact kr _ _ dX11_goesOn_28 hC
  · have hf := ip hf c1
    refine v_aload_n C 0 dX11_goesOn_10 rfl rfl ?_
    refine v_iconst (v := 2) C dX11_goesOn_11 (by decide) ?_
    obtain ⟨G4, qr3, hf⟩ := bn hf
    refine v_callVv (As := [.int 2]) (rest := []) C (sX11_fail h_l0 qr3) cs_X11_242 (by decide) h_l0 rfl hC rfl rfl rfl (Nat.le_of_ble_eq_true rfl) ⟨Nat.le_refl _, Nat.le_refl _⟩ dX11_goesOn_12 (fun hC => ?_)
    refine v_goto (tgt := 28) C dX11_goesOn_15 (by decide) ?_
    cases hf
    exact kr _ _ dX11_goesOn_28 hC
theorem sX11_goesOn {l : Launch} {sh : Sh} {G : Hp} {l0 : Nat} {z : Hp} (h_l0 : sh[l0]? = some (0, 11)) (hf : fX11_goesOn sh G l0 = some z) : MC l yX11_goesOn cX11_goesOn 1 none 2 0 0 sh sh G z (fun ad => [.ref (ad l0)]) (fun _ => none) := by
  refine MC_of rfl rfl (fun _ => Nat.le_of_ble_eq_true rfl) (fun E ad C hl hnm hC hQ => ?_)
  exact tX11_goesOn C hC h_l0 hf (fun pc lv hd hC => v_vret C hQ (fun _ _ => rfl) hC rfl hd)
def fX11_roomFor (sh : Sh) (G : Hp) (l0 : Nat) (l1 : Int32) (l2 : Int32) : Option (Hp) := if l1 = l2 then (fX11_fail sh G l0 2).bind fun G6 => if (G6.1 l0 13) = 0 then (fX11_goesOn sh G6 l0).bind fun G9 => some G9 else some G6 else if (G.1 l0 13) = 0 then (fX11_goesOn sh G l0).bind fun G4 => some G4 else some G
set_option maxHeartbeats 4000000 in
theorem tX11_roomFor {E : EX} {ad : Nat → Nat} {sh : Sh} {G : Hp} {l0 : Nat} {l1 : Int32} {l2 : Int32} {z : Hp} (C : Cx E RX11 cX11_roomFor 3 none 3 0 0) (hC : Cl sh G) (h_l0 : sh[l0]? = some (0, 11)) (hf : fX11_roomFor sh G l0 l1 l2 = some z) (kr : RCv E cX11_roomFor ad sh z) : VV E 0 0 (wq (xT E) ad G sh) 0 [(0, .ref (ad l0)), (1, .int l1), (2, .int l2)] [] := by
  unfold fX11_roomFor at hf
  refine v_iload_n C 1 dX11_roomFor_0 rfl rfl ?_
  refine v_iload_n C 2 dX11_roomFor_1 rfl rfl ?_
  refine v_icmp_ne (tgt := 10) C dX11_roomFor_2 (by decide) (fun c1 => ?_) (fun c1 => ?_)
  · have hf := im hf c1
    refine v_aload_n C 0 dX11_roomFor_10 rfl rfl ?_
    refine v_getI C h_l0 fl_X11_227 dX11_roomFor_11 ?_
    refine v_if_ne (tgt := 21) C dX11_roomFor_14 (by decide) (fun c2 => ?_) (fun c2 => ?_)
    · have hf := im hf c2
      cases hf
      exact kr _ _ dX11_roomFor_21 hC
    · have hf := ip hf c2
      refine v_aload_n C 0 dX11_roomFor_17 rfl rfl ?_
      obtain ⟨G4, qr3, hf⟩ := bn hf
      refine v_callVv (As := []) (rest := []) C (sX11_goesOn h_l0 qr3) cs_X11_248 (by decide) h_l0 rfl hC rfl rfl rfl (Nat.le_of_ble_eq_true rfl) ⟨Nat.le_refl _, Nat.le_refl _⟩ dX11_roomFor_18 (fun hC => ?_)
      cases hf
      exact kr _ _ dX11_roomFor_21 hC
  · have hf := ip hf c1
    refine v_aload_n C 0 dX11_roomFor_5 rfl rfl ?_
    refine v_iconst (v := 2) C dX11_roomFor_6 (by decide) ?_
    obtain ⟨G6, qr5, hf⟩ := bn hf
    refine v_callVv (As := [.int 2]) (rest := []) C (sX11_fail h_l0 qr5) cs_X11_242 (by decide) h_l0 rfl hC rfl rfl rfl (Nat.le_of_ble_eq_true rfl) ⟨Nat.le_refl _, Nat.le_refl _⟩ dX11_roomFor_7 (fun hC => ?_)
    refine v_aload_n C 0 dX11_roomFor_10 rfl rfl ?_
    refine v_getI C h_l0 fl_X11_227 dX11_roomFor_11 ?_
    refine v_if_ne (tgt := 21) C dX11_roomFor_14 (by decide) (fun c7 => ?_) (fun c7 => ?_)
    · have hf := im hf c7
      cases hf
      exact kr _ _ dX11_roomFor_21 hC
    · have hf := ip hf c7
      refine v_aload_n C 0 dX11_roomFor_17 rfl rfl ?_
      obtain ⟨G9, qr8, hf⟩ := bn hf
      refine v_callVv (As := []) (rest := []) C (sX11_goesOn h_l0 qr8) cs_X11_248 (by decide) h_l0 rfl hC rfl rfl rfl (Nat.le_of_ble_eq_true rfl) ⟨Nat.le_refl _, Nat.le_refl _⟩ dX11_roomFor_18 (fun hC => ?_)
      cases hf
      exact kr _ _ dX11_roomFor_21 hC
theorem sX11_roomFor {l : Launch} {sh : Sh} {G : Hp} {l0 : Nat} {l1 : Int32} {l2 : Int32} {z : Hp} (h_l0 : sh[l0]? = some (0, 11)) (hf : fX11_roomFor sh G l0 l1 l2 = some z) : MC l yX11_roomFor cX11_roomFor 3 none 3 0 0 sh sh G z (fun ad => [.ref (ad l0), .int l1, .int l2]) (fun _ => none) := by
  refine MC_of rfl rfl (fun _ => Nat.le_of_ble_eq_true rfl) (fun E ad C hl hnm hC hQ => ?_)
  exact tX11_roomFor C hC h_l0 hf (fun pc lv hd hC => v_vret C hQ (fun _ _ => rfl) hC rfl hd)
def fX11_must (sh : Sh) (G : Hp) (l0 : Nat) (l1 : Int32) : Option (Hp) := (fX11_is sh G l0 l1).bind fun r1 => if r1 = 0 then (fX11_fail sh G l0 1).bind fun G4 => some G4 else (fX11_goesOn sh G l0).bind fun G6 => some G6
set_option maxHeartbeats 4000000 in
theorem tX11_must {E : EX} {ad : Nat → Nat} {sh : Sh} {G : Hp} {l0 : Nat} {l1 : Int32} {z : Hp} (C : Cx E RX11 cX11_must 2 none 3 0 0) (hC : Cl sh G) (h_l0 : sh[l0]? = some (0, 11)) (hf : fX11_must sh G l0 l1 = some z) (kr : RCv E cX11_must ad sh z) : VV E 0 0 (wq (xT E) ad G sh) 0 [(0, .ref (ad l0)), (1, .int l1)] [] := by
  unfold fX11_must at hf
  refine v_aload_n C 0 dX11_must_0 rfl rfl ?_
  refine v_iload_n C 1 dX11_must_1 rfl rfl ?_
  obtain ⟨r1, qr1, hf⟩ := bn hf
  refine v_callVi (As := [.int l1]) (rest := []) C (sX11_is h_l0 qr1) cs_X11_245 (by decide) h_l0 rfl hC rfl rfl rfl (Nat.le_of_ble_eq_true rfl) ⟨Nat.le_refl _, Nat.le_refl _⟩ dX11_must_2 (fun hC => ?_)
  refine v_if_eq (tgt := 15) C dX11_must_5 (by decide) (fun c2 => ?_) (fun c2 => ?_)
  · have hf := ip hf c2
    refine v_aload_n C 0 dX11_must_15 rfl rfl ?_
    refine v_iconst (v := 1) C dX11_must_16 (by decide) ?_
    obtain ⟨G4, qr3, hf⟩ := bn hf
    refine v_callVv (As := [.int 1]) (rest := []) C (sX11_fail h_l0 qr3) cs_X11_242 (by decide) h_l0 rfl hC rfl rfl rfl (Nat.le_of_ble_eq_true rfl) ⟨Nat.le_refl _, Nat.le_refl _⟩ dX11_must_17 (fun hC => ?_)
    cases hf
    exact kr _ _ dX11_must_20 hC
  · have hf := im hf c2
    refine v_aload_n C 0 dX11_must_8 rfl rfl ?_
    obtain ⟨G6, qr5, hf⟩ := bn hf
    refine v_callVv (As := []) (rest := []) C (sX11_goesOn h_l0 qr5) cs_X11_248 (by decide) h_l0 rfl hC rfl rfl rfl (Nat.le_of_ble_eq_true rfl) ⟨Nat.le_refl _, Nat.le_refl _⟩ dX11_must_9 (fun hC => ?_)
    refine v_goto (tgt := 20) C dX11_must_12 (by decide) ?_
    cases hf
    exact kr _ _ dX11_must_20 hC
theorem sX11_must {l : Launch} {sh : Sh} {G : Hp} {l0 : Nat} {l1 : Int32} {z : Hp} (h_l0 : sh[l0]? = some (0, 11)) (hf : fX11_must sh G l0 l1 = some z) : MC l yX11_must cX11_must 2 none 3 0 0 sh sh G z (fun ad => [.ref (ad l0), .int l1]) (fun _ => none) := by
  refine MC_of rfl rfl (fun _ => Nat.le_of_ble_eq_true rfl) (fun E ad C hl hnm hC hQ => ?_)
  exact tX11_must C hC h_l0 hf (fun pc lv hd hC => v_vret C hQ (fun _ _ => rfl) hC rfl hd)
def fX11_wrong (sh : Sh) (G : Hp) (l0 : Nat) (l1 : Int32) (l2 : Int32) : Option (Hp) := (ldA sh G l0 6 1).bind fun a1 => (aI sh G a1 l2).bind fun v2 => if 0 < (G.1 l0 13) then some G else if (G.1 l0 15) = 0 then bd (sI G l0 15 l1) fun G5 => bd (sI G5 l0 16 v2) fun G6 => some G6 else if (G.1 l0 16) < v2 then some G else if v2 = (G.1 l0 16) then if l1 < (G.1 l0 15) then bd (sI G l0 15 l1) fun G12 => bd (sI G12 l0 16 v2) fun G13 => some G13 else some G else bd (sI G l0 15 l1) fun G9 => bd (sI G9 l0 16 v2) fun G10 => some G10
set_option maxHeartbeats 4000000 in
theorem tX11_wrong {E : EX} {ad : Nat → Nat} {sh : Sh} {G : Hp} {l0 : Nat} {l1 : Int32} {l2 : Int32} {z : Hp} (C : Cx E RX11 cX11_wrong 4 none 1 0 0) (hC : Cl sh G) (h_l0 : sh[l0]? = some (0, 11)) (hf : fX11_wrong sh G l0 l1 l2 = some z) (kr : RCv E cX11_wrong ad sh z) : VV E 0 0 (wq (xT E) ad G sh) 0 [(0, .ref (ad l0)), (1, .int l1), (2, .int l2)] [] := by
  unfold fX11_wrong at hf
  refine v_aload_n C 0 dX11_wrong_0 rfl rfl ?_
  obtain ⟨a1, qa1, hf⟩ := bn hf
  refine v_getA C h_l0 fl_X11_24 qa1 dX11_wrong_1 (fun h_a1 => ?_)
  refine v_iload_n C 2 dX11_wrong_4 rfl rfl ?_
  obtain ⟨v2, qv2, hf⟩ := bn hf
  refine v_iald C h_a1 qv2 dX11_wrong_5 ?_
  refine v_istore_n (lv2 := [(3, .int v2), (0, .ref (ad l0)), (1, .int l1), (2, .int l2)]) C dX11_wrong_6 rfl (by decide) rfl ?_
  refine v_aload_n C 1 dX11_wrong_7 rfl rfl ?_
  refine v_getI C h_l0 fl_X11_227 dX11_wrong_8 ?_
  refine v_if_gt (tgt := 45) C dX11_wrong_11 (by decide) (fun c3 => ?_) (fun c3 => ?_)
  · have hf := ip hf c3
    cases hf
    exact kr _ _ dX11_wrong_45 hC
  · have hf := im hf c3
    refine v_aload_n C 1 dX11_wrong_14 rfl rfl ?_
    refine v_getI C h_l0 fl_X11_236 dX11_wrong_15 ?_
    refine v_if_eq (tgt := 46) C dX11_wrong_18 (by decide) (fun c4 => ?_) (fun c4 => ?_)
    · have hf := ip hf c4
      refine v_aload_n C 1 dX11_wrong_46 rfl rfl ?_
      refine v_iload_n C 2 dX11_wrong_47 rfl rfl ?_
      refine v_putI C h_l0 fp_X11_236 dX11_wrong_48 (fun G5 eG5 => ?_)
      have hf := bd_at hf eG5
      have hC : Cl sh G5 := by rw [eG5]; exact hC
      refine v_aload_n C 1 dX11_wrong_51 rfl rfl ?_
      refine v_iload_n C 0 dX11_wrong_52 rfl rfl ?_
      refine v_putI C h_l0 fp_X11_239 dX11_wrong_53 (fun G6 eG6 => ?_)
      have hf := bd_at hf eG6
      have hC : Cl sh G6 := by rw [eG6]; exact hC
      cases hf
      exact kr _ _ dX11_wrong_56 hC
    · have hf := im hf c4
      refine v_iload_n C 0 dX11_wrong_21 rfl rfl ?_
      refine v_aload_n C 1 dX11_wrong_22 rfl rfl ?_
      refine v_getI C h_l0 fl_X11_239 dX11_wrong_23 ?_
      refine v_icmp_gt (tgt := 45) C dX11_wrong_26 (by decide) (fun c7 => ?_) (fun c7 => ?_)
      · have hf := ip hf c7
        cases hf
        exact kr _ _ dX11_wrong_45 hC
      · have hf := im hf c7
        refine v_iload_n C 0 dX11_wrong_29 rfl rfl ?_
        refine v_aload_n C 1 dX11_wrong_30 rfl rfl ?_
        refine v_getI C h_l0 fl_X11_239 dX11_wrong_31 ?_
        refine v_icmp_ne (tgt := 46) C dX11_wrong_34 (by decide) (fun c8 => ?_) (fun c8 => ?_)
        · have hf := im hf c8
          refine v_aload_n C 1 dX11_wrong_46 rfl rfl ?_
          refine v_iload_n C 2 dX11_wrong_47 rfl rfl ?_
          refine v_putI C h_l0 fp_X11_236 dX11_wrong_48 (fun G9 eG9 => ?_)
          have hf := bd_at hf eG9
          have hC : Cl sh G9 := by rw [eG9]; exact hC
          refine v_aload_n C 1 dX11_wrong_51 rfl rfl ?_
          refine v_iload_n C 0 dX11_wrong_52 rfl rfl ?_
          refine v_putI C h_l0 fp_X11_239 dX11_wrong_53 (fun G10 eG10 => ?_)
          have hf := bd_at hf eG10
          have hC : Cl sh G10 := by rw [eG10]; exact hC
          cases hf
          exact kr _ _ dX11_wrong_56 hC
        · have hf := ip hf c8
          refine v_iload_n C 2 dX11_wrong_37 rfl rfl ?_
          refine v_aload_n C 1 dX11_wrong_38 rfl rfl ?_
          refine v_getI C h_l0 fl_X11_236 dX11_wrong_39 ?_
          refine v_icmp_lt (tgt := 46) C dX11_wrong_42 (by decide) (fun c11 => ?_) (fun c11 => ?_)
          · have hf := ip hf c11
            refine v_aload_n C 1 dX11_wrong_46 rfl rfl ?_
            refine v_iload_n C 2 dX11_wrong_47 rfl rfl ?_
            refine v_putI C h_l0 fp_X11_236 dX11_wrong_48 (fun G12 eG12 => ?_)
            have hf := bd_at hf eG12
            have hC : Cl sh G12 := by rw [eG12]; exact hC
            refine v_aload_n C 1 dX11_wrong_51 rfl rfl ?_
            refine v_iload_n C 0 dX11_wrong_52 rfl rfl ?_
            refine v_putI C h_l0 fp_X11_239 dX11_wrong_53 (fun G13 eG13 => ?_)
            have hf := bd_at hf eG13
            have hC : Cl sh G13 := by rw [eG13]; exact hC
            cases hf
            exact kr _ _ dX11_wrong_56 hC
          · have hf := im hf c11
            cases hf
            exact kr _ _ dX11_wrong_45 hC
theorem sX11_wrong {l : Launch} {sh : Sh} {G : Hp} {l0 : Nat} {l1 : Int32} {l2 : Int32} {z : Hp} (h_l0 : sh[l0]? = some (0, 11)) (hf : fX11_wrong sh G l0 l1 l2 = some z) : MC l yX11_wrong cX11_wrong 4 none 1 0 0 sh sh G z (fun ad => [.ref (ad l0), .int l1, .int l2]) (fun _ => none) := by
  refine MC_of rfl rfl (fun _ => Nat.le_of_ble_eq_true rfl) (fun E ad C hl hnm hC hQ => ?_)
  exact tX11_wrong C hC h_l0 hf (fun pc lv hd hC => v_vret C hQ (fun _ _ => rfl) hC rfl hd)
def fX11_named_S12 (sh : Sh) (l0 : Nat) (l1 : Int32) (G : Hp) (l2 : Int32) : Option ((Hp × Int32) ⊕ ((Hp))) := if (G.1 l0 20) ≤ l2 then some (.inr G) else if (G.1 l0 13) = 0 then (ldA sh G l0 21 4).bind fun a3 => (aJ sh G a3 l2).bind fun v4 => (ldA sh G l0 8 4).bind fun a5 => (aJ sh G a5 l1).bind fun v6 => if (lg_cmp v4 v6) = 0 then (fX11_wrong sh G l0 3 l1).bind fun G10 => bd ((l2 + 1) : Int32) fun x11 => some (.inl (G10, x11)) else bd ((l2 + 1) : Int32) fun x8 => some (.inl (G, x8)) else some (.inr G)
set_option maxHeartbeats 4000000 in
theorem tX11_named_S12 {E : EX} {ad : Nat → Nat} {sh : Sh} {G : Hp} {l0 : Nat} {l1 : Int32} {l2 : Int32} {o : (Hp × Int32) ⊕ ((Hp))} (C : Cx E RX11 cX11_named 3 (some .int) 4 0 0) (hC : Cl sh G) (h_l0 : sh[l0]? = some (0, 11)) (hf : fX11_named_S12 sh l0 l1 G l2 = some o) (kb : ∀ (G2 : Hp) (b_l2 : Int32), o = .inl (G2, b_l2) → Cl sh G2 → VV E 0 0 (wq (xT E) ad G2 sh) 12 [(0, .ref (ad l0)), (1, .int l1), (2, .int b_l2)] []) (kx55 : ∀ (G2 : Hp), o = .inr G2 → Cl sh G2 → VV E 0 0 (wq (xT E) ad G2 sh) 55 [(0, .ref (ad l0)), (1, .int l1)] []) : VV E 0 0 (wq (xT E) ad G sh) 12 [(0, .ref (ad l0)), (1, .int l1), (2, .int l2)] [] := by
  unfold fX11_named_S12 at hf
  refine v_iload_n C 2 dX11_named_12 rfl rfl ?_
  refine v_aload_n C 0 dX11_named_13 rfl rfl ?_
  refine v_getI C h_l0 fl_X11_263 dX11_named_14 ?_
  refine v_icmp_ge (tgt := 55) C dX11_named_17 (by decide) (fun c1 => ?_) (fun c1 => ?_)
  · have hf := ip hf c1
    cases hf
    refine v_sub [0, 1] rfl ?_
    exact kx55 _ rfl hC
  · have hf := im hf c1
    refine v_aload_n C 0 dX11_named_20 rfl rfl ?_
    refine v_getI C h_l0 fl_X11_227 dX11_named_21 ?_
    refine v_if_ne (tgt := 55) C dX11_named_24 (by decide) (fun c2 => ?_) (fun c2 => ?_)
    · have hf := im hf c2
      cases hf
      refine v_sub [0, 1] rfl ?_
      exact kx55 _ rfl hC
    · have hf := ip hf c2
      refine v_aload_n C 0 dX11_named_27 rfl rfl ?_
      obtain ⟨a3, qa3, hf⟩ := bn hf
      refine v_getA C h_l0 fl_X11_40 qa3 dX11_named_28 (fun h_a3 => ?_)
      refine v_iload_n C 2 dX11_named_31 rfl rfl ?_
      obtain ⟨v4, qv4, hf⟩ := bn hf
      refine v_lald C h_a3 qv4 dX11_named_32 ?_
      refine v_aload_n C 0 dX11_named_33 rfl rfl ?_
      obtain ⟨a5, qa5, hf⟩ := bn hf
      refine v_getA C h_l0 fl_X11_30 qa5 dX11_named_34 (fun h_a5 => ?_)
      refine v_iload_n C 1 dX11_named_37 rfl rfl ?_
      obtain ⟨v6, qv6, hf⟩ := bn hf
      refine v_lald C h_a5 qv6 dX11_named_38 ?_
      refine v_lcmp C dX11_named_39 ?_
      refine v_if_ne (tgt := 49) C dX11_named_40 (by decide) (fun c7 => ?_) (fun c7 => ?_)
      · have hf := im hf c7
        obtain ⟨x8, ex8⟩ : ∃ x : Int32, x = (l2 + 1) := ⟨_, rfl⟩
        have hf := bd_at hf ex8
        refine v_iinc (v := x8) (j := 2) (lv2 := [(2, .int x8), (0, .ref (ad l0)), (1, .int l1)]) C dX11_named_49 rfl (by rw [ex8]; rfl) (by decide) rfl ?_
        refine v_goto (tgt := 12) C dX11_named_52 (by decide) ?_
        cases hf
        refine v_sub [1, 2, 0] rfl ?_
        exact kb _ _ rfl hC
      · have hf := ip hf c7
        refine v_aload_n C 0 dX11_named_43 rfl rfl ?_
        refine v_iconst (v := 3) C dX11_named_44 (by decide) ?_
        refine v_iload_n C 1 dX11_named_45 rfl rfl ?_
        obtain ⟨G10, qr9, hf⟩ := bn hf
        refine v_callVv (As := [.int 3, .int l1]) (rest := []) C (sX11_wrong h_l0 qr9) cs_X11_314 (by decide) h_l0 rfl hC rfl rfl rfl (Nat.le_of_ble_eq_true rfl) ⟨Nat.le_refl _, Nat.le_refl _⟩ dX11_named_46 (fun hC => ?_)
        obtain ⟨x11, ex11⟩ : ∃ x : Int32, x = (l2 + 1) := ⟨_, rfl⟩
        have hf := bd_at hf ex11
        refine v_iinc (v := x11) (j := 2) (lv2 := [(2, .int x11), (0, .ref (ad l0)), (1, .int l1)]) C dX11_named_49 rfl (by rw [ex11]; rfl) (by decide) rfl ?_
        refine v_goto (tgt := 12) C dX11_named_52 (by decide) ?_
        cases hf
        refine v_sub [1, 2, 0] rfl ?_
        exact kb _ _ rfl hC
def fX11_named (sh : Sh) (G : Hp) (l0 : Nat) : Option (Int32 × Hp) := bd ((G.1 l0 11) : Int32) fun x1 => (fX11_must sh G l0 1).bind fun G3 => (iter (fun s : Hp × Int32 => fX11_named_S12 sh l0 x1 s.1 s.2) fuel ((G3, 0) : Hp × Int32)).bind (fun u6 => bd u6 fun G5 => some (x1, G5))
set_option maxHeartbeats 4000000 in
theorem tX11_named {E : EX} {ad : Nat → Nat} {sh : Sh} {G : Hp} {l0 : Nat} {z : Int32 × Hp} (C : Cx E RX11 cX11_named 3 (some .int) 4 0 0) (hC : Cl sh G) (h_l0 : sh[l0]? = some (0, 11)) (hf : fX11_named sh G l0 = some z) (kr : RCi E cX11_named ad sh (z.1) (z.2)) : VV E 0 0 (wq (xT E) ad G sh) 0 [(0, .ref (ad l0))] [] := by
  unfold fX11_named at hf
  refine v_aload_n C 0 dX11_named_0 rfl rfl ?_
  refine v_getI C h_l0 fl_X11_230 dX11_named_1 ?_
  refine v_topi (fun x1 ex1 => ?_)
  have hf := bd_at hf ex1
  refine v_istore_n (lv2 := [(1, .int x1), (0, .ref (ad l0))]) C dX11_named_4 rfl (by decide) rfl ?_
  refine v_aload_n C 1 dX11_named_5 rfl rfl ?_
  refine v_iconst (v := 1) C dX11_named_6 (by decide) ?_
  obtain ⟨G3, qr2, hf⟩ := bn hf
  refine v_callVv (As := [.int 1]) (rest := []) C (sX11_must h_l0 qr2) cs_X11_308 (by decide) h_l0 rfl hC rfl rfl rfl (Nat.le_of_ble_eq_true rfl) ⟨Nat.le_refl _, Nat.le_refl _⟩ dX11_named_7 (fun hC => ?_)
  refine v_iconst (v := 0) C dX11_named_10 (by decide) ?_
  refine v_istore_n (lv2 := [(2, .int 0), (1, .int x1), (0, .ref (ad l0))]) C dX11_named_11 rfl (by decide) rfl ?_
  obtain ⟨r4, qr4, hf⟩ := bn hf
  refine v_sub [2, 1, 0] rfl ?_
  refine iter_sound (P := (fun s : Hp × Int32 => Cl sh (s.1) → VV E 0 0 (wq (xT E) ad (s.1) sh) 12 [(0, .ref (ad l0)), (1, .int (x1)), (2, .int (s.2))] [])) (X := fun r => r = r4) (fun jsr4 jor4 hor4 jbr4 jxr4 hC => tX11_named_S12 C hC h_l0 hor4 (fun _ _ e => jbr4 _ e) ?_) fuel _ r4 qr4 rfl hC
  · intro G5 hu hC
    have e := jxr4 _ hu
    subst e
    have hf := bd_at hf (rfl : G5 = _)
    refine v_iload_n C 1 dX11_named_55 rfl rfl ?_
    cases hf
    exact kr _ _ dX11_named_56 hC
theorem sX11_named {l : Launch} {sh : Sh} {G : Hp} {l0 : Nat} {z : Int32 × Hp} (h_l0 : sh[l0]? = some (0, 11)) (hf : fX11_named sh G l0 = some z) : MC l yX11_named cX11_named 3 (some .int) 4 0 0 sh sh G (z.2) (fun ad => [.ref (ad l0)]) (fun _ => some (.int z.1)) := by
  refine MC_of rfl rfl (fun _ => Nat.le_of_ble_eq_true rfl) (fun E ad C hl hnm hC hQ => ?_)
  exact tX11_named C hC h_l0 hf (fun pc lv hd hC => v_iret C hQ (fun _ _ => rfl) hC rfl hd)
def fX11_ends (sh : Sh) (G : Hp) (l0 : Nat) (l1 : Int32) (l2 : Int32) : Option (Hp) := (fX11_must sh G l0 4).bind fun G2 => if (G2.1 l0 13) ≤ 0 then (ldA sh G2 l0 21 4).bind fun a4 => (ldA sh G2 l0 8 4).bind fun a5 => (aJ sh G2 a5 l1).bind fun v6 => (asJ sh G2 a4 (G2.1 l0 20) v6).bind fun G7 => (ldA sh G7 l0 22 1).bind fun a8 => (asI sh G7 a8 (G7.1 l0 20) l2).bind fun G9 => bd (sI G9 l0 20 ((G9.1 l0 20) + 1)) fun G10 => some G10 else some G2
set_option maxHeartbeats 4000000 in
theorem tX11_ends {E : EX} {ad : Nat → Nat} {sh : Sh} {G : Hp} {l0 : Nat} {l1 : Int32} {l2 : Int32} {z : Hp} (C : Cx E RX11 cX11_ends 3 none 4 0 0) (hC : Cl sh G) (h_l0 : sh[l0]? = some (0, 11)) (hf : fX11_ends sh G l0 l1 l2 = some z) (kr : RCv E cX11_ends ad sh z) : VV E 0 0 (wq (xT E) ad G sh) 0 [(0, .ref (ad l0)), (1, .int l1), (2, .int l2)] [] := by
  unfold fX11_ends at hf
  refine v_aload_n C 0 dX11_ends_0 rfl rfl ?_
  refine v_iconst (v := 4) C dX11_ends_1 (by decide) ?_
  obtain ⟨G2, qr1, hf⟩ := bn hf
  refine v_callVv (As := [.int 4]) (rest := []) C (sX11_must h_l0 qr1) cs_X11_308 (by decide) h_l0 rfl hC rfl rfl rfl (Nat.le_of_ble_eq_true rfl) ⟨Nat.le_refl _, Nat.le_refl _⟩ dX11_ends_2 (fun hC => ?_)
  refine v_aload_n C 0 dX11_ends_5 rfl rfl ?_
  refine v_getI C h_l0 fl_X11_227 dX11_ends_6 ?_
  refine v_if_le (tgt := 13) C dX11_ends_9 (by decide) (fun c3 => ?_) (fun c3 => ?_)
  · have hf := ip hf c3
    refine v_aload_n C 0 dX11_ends_13 rfl rfl ?_
    obtain ⟨a4, qa4, hf⟩ := bn hf
    refine v_getA C h_l0 fl_X11_40 qa4 dX11_ends_14 (fun h_a4 => ?_)
    refine v_aload_n C 0 dX11_ends_17 rfl rfl ?_
    refine v_getI C h_l0 fl_X11_263 dX11_ends_18 ?_
    refine v_aload_n C 0 dX11_ends_21 rfl rfl ?_
    obtain ⟨a5, qa5, hf⟩ := bn hf
    refine v_getA C h_l0 fl_X11_30 qa5 dX11_ends_22 (fun h_a5 => ?_)
    refine v_iload_n C 1 dX11_ends_25 rfl rfl ?_
    obtain ⟨v6, qv6, hf⟩ := bn hf
    refine v_lald C h_a5 qv6 dX11_ends_26 ?_
    obtain ⟨G7, qG7, hf⟩ := bn hf
    refine v_last C h_a4 qG7 hC dX11_ends_27 (fun hC => ?_)
    refine v_aload_n C 0 dX11_ends_28 rfl rfl ?_
    obtain ⟨a8, qa8, hf⟩ := bn hf
    refine v_getA C h_l0 fl_X11_43 qa8 dX11_ends_29 (fun h_a8 => ?_)
    refine v_aload_n C 0 dX11_ends_32 rfl rfl ?_
    refine v_getI C h_l0 fl_X11_263 dX11_ends_33 ?_
    refine v_iload_n C 2 dX11_ends_36 rfl rfl ?_
    obtain ⟨G9, qG9, hf⟩ := bn hf
    refine v_iast C h_a8 qG9 hC dX11_ends_37 (fun hC => ?_)
    refine v_aload_n C 0 dX11_ends_38 rfl rfl ?_
    refine v_dup C dX11_ends_39 rfl ?_
    refine v_getI C h_l0 fl_X11_263 dX11_ends_40 ?_
    refine v_iconst (v := 1) C dX11_ends_43 (by decide) ?_
    refine v_iadd C dX11_ends_44 ?_
    refine v_putI C h_l0 fp_X11_263 dX11_ends_45 (fun G10 eG10 => ?_)
    have hf := bd_at hf eG10
    have hC : Cl sh G10 := by rw [eG10]; exact hC
    cases hf
    exact kr _ _ dX11_ends_48 hC
  · have hf := im hf c3
    cases hf
    exact kr _ _ dX11_ends_12 hC
theorem sX11_ends {l : Launch} {sh : Sh} {G : Hp} {l0 : Nat} {l1 : Int32} {l2 : Int32} {z : Hp} (h_l0 : sh[l0]? = some (0, 11)) (hf : fX11_ends sh G l0 l1 l2 = some z) : MC l yX11_ends cX11_ends 3 none 4 0 0 sh sh G z (fun ad => [.ref (ad l0), .int l1, .int l2]) (fun _ => none) := by
  refine MC_of rfl rfl (fun _ => Nat.le_of_ble_eq_true rfl) (fun E ad C hl hnm hC hQ => ?_)
  exact tX11_ends C hC h_l0 hf (fun pc lv hd hC => v_vret C hQ (fun _ _ => rfl) hC rfl hd)
def fX11_bounded (sh : Sh) (G : Hp) (l0 : Nat) (l1 : Int32) (l2 : Int32) : Option (Int32 × Hp) := if 0 < (G.1 l0 13) then (fX11_fail sh G l0 1).bind fun G3 => some (l1, G3) else (fX11_is sh G l0 2).bind fun r4 => if r4 = 0 then (fX11_fail sh G l0 1).bind fun G21 => some (l1, G21) else (ldA sh G l0 7 1).bind fun a6 => (aI sh G a6 (G.1 l0 11)).bind fun v7 => if v7 < l1 then (fX11_wrong sh G l0 5 (G.1 l0 11)).bind fun G10 => (fX11_goesOn sh G10 l0).bind fun G12 => some (v7, G12) else if v7 ≤ l2 then (fX11_goesOn sh G l0).bind fun G15 => some (v7, G15) else (fX11_wrong sh G l0 5 (G.1 l0 11)).bind fun G17 => (fX11_goesOn sh G17 l0).bind fun G19 => some (v7, G19)
set_option maxHeartbeats 4000000 in
theorem tX11_bounded {E : EX} {ad : Nat → Nat} {sh : Sh} {G : Hp} {l0 : Nat} {l1 : Int32} {l2 : Int32} {z : Int32 × Hp} (C : Cx E RX11 cX11_bounded 4 (some .int) 3 0 0) (hC : Cl sh G) (h_l0 : sh[l0]? = some (0, 11)) (hf : fX11_bounded sh G l0 l1 l2 = some z) (kr : RCi E cX11_bounded ad sh (z.1) (z.2)) : VV E 0 0 (wq (xT E) ad G sh) 0 [(0, .ref (ad l0)), (1, .int l1), (2, .int l2)] [] := by
  unfold fX11_bounded at hf
  refine v_aload_n C 0 dX11_bounded_0 rfl rfl ?_
  refine v_getI C h_l0 fl_X11_227 dX11_bounded_1 ?_
  refine v_if_gt (tgt := 15) C dX11_bounded_4 (by decide) (fun c1 => ?_) (fun c1 => ?_)
  · have hf := ip hf c1
    refine v_aload_n C 0 dX11_bounded_15 rfl rfl ?_
    refine v_iconst (v := 1) C dX11_bounded_16 (by decide) ?_
    obtain ⟨G3, qr2, hf⟩ := bn hf
    refine v_callVv (As := [.int 1]) (rest := []) C (sX11_fail h_l0 qr2) cs_X11_242 (by decide) h_l0 rfl hC rfl rfl rfl (Nat.le_of_ble_eq_true rfl) ⟨Nat.le_refl _, Nat.le_refl _⟩ dX11_bounded_17 (fun hC => ?_)
    refine v_iload_n C 1 dX11_bounded_20 rfl rfl ?_
    cases hf
    exact kr _ _ dX11_bounded_21 hC
  · have hf := im hf c1
    refine v_aload_n C 0 dX11_bounded_7 rfl rfl ?_
    refine v_iconst (v := 2) C dX11_bounded_8 (by decide) ?_
    obtain ⟨r4, qr4, hf⟩ := bn hf
    refine v_callVi (As := [.int 2]) (rest := []) C (sX11_is h_l0 qr4) cs_X11_245 (by decide) h_l0 rfl hC rfl rfl rfl (Nat.le_of_ble_eq_true rfl) ⟨Nat.le_refl _, Nat.le_refl _⟩ dX11_bounded_9 (fun hC => ?_)
    refine v_if_ne (tgt := 22) C dX11_bounded_12 (by decide) (fun c5 => ?_) (fun c5 => ?_)
    · have hf := im hf c5
      refine v_aload_n C 0 dX11_bounded_22 rfl rfl ?_
      obtain ⟨a6, qa6, hf⟩ := bn hf
      refine v_getA C h_l0 fl_X11_27 qa6 dX11_bounded_23 (fun h_a6 => ?_)
      refine v_aload_n C 0 dX11_bounded_26 rfl rfl ?_
      refine v_getI C h_l0 fl_X11_230 dX11_bounded_27 ?_
      obtain ⟨v7, qv7, hf⟩ := bn hf
      refine v_iald C h_a6 qv7 dX11_bounded_30 ?_
      refine v_istore_n (lv2 := [(3, .int v7), (0, .ref (ad l0)), (1, .int l1), (2, .int l2)]) C dX11_bounded_31 rfl (by decide) rfl ?_
      refine v_iload_n C 0 dX11_bounded_32 rfl rfl ?_
      refine v_iload_n C 2 dX11_bounded_33 rfl rfl ?_
      refine v_icmp_lt (tgt := 42) C dX11_bounded_34 (by decide) (fun c8 => ?_) (fun c8 => ?_)
      · have hf := ip hf c8
        refine v_aload_n C 1 dX11_bounded_42 rfl rfl ?_
        refine v_iconst (v := 5) C dX11_bounded_43 (by decide) ?_
        refine v_aload_n C 1 dX11_bounded_44 rfl rfl ?_
        refine v_getI C h_l0 fl_X11_230 dX11_bounded_45 ?_
        obtain ⟨G10, qr9, hf⟩ := bn hf
        refine v_callVv (As := [.int 5, .int (G.1 l0 11)]) (rest := []) C (sX11_wrong h_l0 qr9) cs_X11_314 (by decide) h_l0 rfl hC rfl rfl rfl (Nat.le_of_ble_eq_true rfl) ⟨Nat.le_refl _, Nat.le_refl _⟩ dX11_bounded_48 (fun hC => ?_)
        refine v_aload_n C 1 dX11_bounded_51 rfl rfl ?_
        obtain ⟨G12, qr11, hf⟩ := bn hf
        refine v_callVv (As := []) (rest := []) C (sX11_goesOn h_l0 qr11) cs_X11_248 (by decide) h_l0 rfl hC rfl rfl rfl (Nat.le_of_ble_eq_true rfl) ⟨Nat.le_refl _, Nat.le_refl _⟩ dX11_bounded_52 (fun hC => ?_)
        refine v_iload_n C 0 dX11_bounded_55 rfl rfl ?_
        cases hf
        exact kr _ _ dX11_bounded_56 hC
      · have hf := im hf c8
        refine v_iload_n C 0 dX11_bounded_37 rfl rfl ?_
        refine v_iload_n C 3 dX11_bounded_38 rfl rfl ?_
        refine v_icmp_le (tgt := 51) C dX11_bounded_39 (by decide) (fun c13 => ?_) (fun c13 => ?_)
        · have hf := ip hf c13
          refine v_aload_n C 1 dX11_bounded_51 rfl rfl ?_
          obtain ⟨G15, qr14, hf⟩ := bn hf
          refine v_callVv (As := []) (rest := []) C (sX11_goesOn h_l0 qr14) cs_X11_248 (by decide) h_l0 rfl hC rfl rfl rfl (Nat.le_of_ble_eq_true rfl) ⟨Nat.le_refl _, Nat.le_refl _⟩ dX11_bounded_52 (fun hC => ?_)
          refine v_iload_n C 0 dX11_bounded_55 rfl rfl ?_
          cases hf
          exact kr _ _ dX11_bounded_56 hC
        · have hf := im hf c13
          refine v_aload_n C 1 dX11_bounded_42 rfl rfl ?_
          refine v_iconst (v := 5) C dX11_bounded_43 (by decide) ?_
          refine v_aload_n C 1 dX11_bounded_44 rfl rfl ?_
          refine v_getI C h_l0 fl_X11_230 dX11_bounded_45 ?_
          obtain ⟨G17, qr16, hf⟩ := bn hf
          refine v_callVv (As := [.int 5, .int (G.1 l0 11)]) (rest := []) C (sX11_wrong h_l0 qr16) cs_X11_314 (by decide) h_l0 rfl hC rfl rfl rfl (Nat.le_of_ble_eq_true rfl) ⟨Nat.le_refl _, Nat.le_refl _⟩ dX11_bounded_48 (fun hC => ?_)
          refine v_aload_n C 1 dX11_bounded_51 rfl rfl ?_
          obtain ⟨G19, qr18, hf⟩ := bn hf
          refine v_callVv (As := []) (rest := []) C (sX11_goesOn h_l0 qr18) cs_X11_248 (by decide) h_l0 rfl hC rfl rfl rfl (Nat.le_of_ble_eq_true rfl) ⟨Nat.le_refl _, Nat.le_refl _⟩ dX11_bounded_52 (fun hC => ?_)
          refine v_iload_n C 0 dX11_bounded_55 rfl rfl ?_
          cases hf
          exact kr _ _ dX11_bounded_56 hC
    · have hf := ip hf c5
      refine v_aload_n C 0 dX11_bounded_15 rfl rfl ?_
      refine v_iconst (v := 1) C dX11_bounded_16 (by decide) ?_
      obtain ⟨G21, qr20, hf⟩ := bn hf
      refine v_callVv (As := [.int 1]) (rest := []) C (sX11_fail h_l0 qr20) cs_X11_242 (by decide) h_l0 rfl hC rfl rfl rfl (Nat.le_of_ble_eq_true rfl) ⟨Nat.le_refl _, Nat.le_refl _⟩ dX11_bounded_17 (fun hC => ?_)
      refine v_iload_n C 1 dX11_bounded_20 rfl rfl ?_
      cases hf
      exact kr _ _ dX11_bounded_21 hC
theorem sX11_bounded {l : Launch} {sh : Sh} {G : Hp} {l0 : Nat} {l1 : Int32} {l2 : Int32} {z : Int32 × Hp} (h_l0 : sh[l0]? = some (0, 11)) (hf : fX11_bounded sh G l0 l1 l2 = some z) : MC l yX11_bounded cX11_bounded 4 (some .int) 3 0 0 sh sh G (z.2) (fun ad => [.ref (ad l0), .int l1, .int l2]) (fun _ => some (.int z.1)) := by
  refine MC_of rfl rfl (fun _ => Nat.le_of_ble_eq_true rfl) (fun E ad C hl hnm hC hQ => ?_)
  exact tX11_bounded C hC h_l0 hf (fun pc lv hd hC => v_iret C hQ (fun _ _ => rfl) hC rfl hd)
def fX11_knownTrait_S21 (sh : Sh) (l0 : Nat) (l1 : Int32) (G : Hp) (l2 : Int32) : Option ((Int32) ⊕ ((Unit) ⊕ (Int32))) := if (G.1 l0 20) ≤ l2 then some (.inr (.inl ())) else (ldA sh G l0 21 4).bind fun a2 => (aJ sh G a2 l2).bind fun v3 => (ldA sh G l0 8 4).bind fun a4 => (aJ sh G a4 l1).bind fun v5 => if (lg_cmp v3 v5) = 0 then (ldA sh G l0 22 1).bind fun a8 => (aI sh G a8 l2).bind fun v9 => if v9 < 0 then bd ((l2 + 1) : Int32) fun x11 => some (.inl x11) else some (.inr (.inr l2)) else bd ((l2 + 1) : Int32) fun x7 => some (.inl x7)
set_option maxHeartbeats 4000000 in
theorem tX11_knownTrait_S21 {E : EX} {ad : Nat → Nat} {sh : Sh} {G : Hp} {l0 : Nat} {l1 : Int32} {l2 : Int32} {o : (Int32) ⊕ ((Unit) ⊕ (Int32))} (C : Cx E RX11 cX11_knownTrait 3 (some .int) 4 0 0) (hC : Cl sh G) (h_l0 : sh[l0]? = some (0, 11)) (hf : fX11_knownTrait_S21 sh l0 l1 G l2 = some o) (kb : ∀ (b_l2 : Int32), o = .inl b_l2 → VV E 0 0 (wq (xT E) ad G sh) 21 [(0, .ref (ad l0)), (1, .int l1), (2, .int b_l2)] []) (kx69 : o = .inr (.inl ()) → VV E 0 0 (wq (xT E) ad G sh) 69 [(0, .ref (ad l0)), (1, .int l1)] []) (kx54 : ∀ (b_l2 : Int32), o = .inr (.inr b_l2) → VV E 0 0 (wq (xT E) ad G sh) 54 [(0, .ref (ad l0)), (1, .int l1), (2, .int b_l2)] []) : VV E 0 0 (wq (xT E) ad G sh) 21 [(0, .ref (ad l0)), (1, .int l1), (2, .int l2)] [] := by
  unfold fX11_knownTrait_S21 at hf
  refine v_iload_n C 2 dX11_knownTrait_21 rfl rfl ?_
  refine v_aload_n C 0 dX11_knownTrait_22 rfl rfl ?_
  refine v_getI C h_l0 fl_X11_263 dX11_knownTrait_23 ?_
  refine v_icmp_ge (tgt := 69) C dX11_knownTrait_26 (by decide) (fun c1 => ?_) (fun c1 => ?_)
  · have hf := ip hf c1
    cases hf
    refine v_sub [0, 1] rfl ?_
    exact kx69 rfl
  · have hf := im hf c1
    refine v_aload_n C 0 dX11_knownTrait_29 rfl rfl ?_
    obtain ⟨a2, qa2, hf⟩ := bn hf
    refine v_getA C h_l0 fl_X11_40 qa2 dX11_knownTrait_30 (fun h_a2 => ?_)
    refine v_iload_n C 2 dX11_knownTrait_33 rfl rfl ?_
    obtain ⟨v3, qv3, hf⟩ := bn hf
    refine v_lald C h_a2 qv3 dX11_knownTrait_34 ?_
    refine v_aload_n C 0 dX11_knownTrait_35 rfl rfl ?_
    obtain ⟨a4, qa4, hf⟩ := bn hf
    refine v_getA C h_l0 fl_X11_30 qa4 dX11_knownTrait_36 (fun h_a4 => ?_)
    refine v_iload_n C 1 dX11_knownTrait_39 rfl rfl ?_
    obtain ⟨v5, qv5, hf⟩ := bn hf
    refine v_lald C h_a4 qv5 dX11_knownTrait_40 ?_
    refine v_lcmp C dX11_knownTrait_41 ?_
    refine v_if_ne (tgt := 63) C dX11_knownTrait_42 (by decide) (fun c6 => ?_) (fun c6 => ?_)
    · have hf := im hf c6
      obtain ⟨x7, ex7⟩ : ∃ x : Int32, x = (l2 + 1) := ⟨_, rfl⟩
      have hf := bd_at hf ex7
      refine v_iinc (v := x7) (j := 2) (lv2 := [(2, .int x7), (0, .ref (ad l0)), (1, .int l1)]) C dX11_knownTrait_63 rfl (by rw [ex7]; rfl) (by decide) rfl ?_
      refine v_goto (tgt := 21) C dX11_knownTrait_66 (by decide) ?_
      cases hf
      refine v_sub [1, 2, 0] rfl ?_
      exact kb _ rfl
    · have hf := ip hf c6
      refine v_aload_n C 0 dX11_knownTrait_45 rfl rfl ?_
      obtain ⟨a8, qa8, hf⟩ := bn hf
      refine v_getA C h_l0 fl_X11_43 qa8 dX11_knownTrait_46 (fun h_a8 => ?_)
      refine v_iload_n C 2 dX11_knownTrait_49 rfl rfl ?_
      obtain ⟨v9, qv9, hf⟩ := bn hf
      refine v_iald C h_a8 qv9 dX11_knownTrait_50 ?_
      refine v_if_lt (tgt := 63) C dX11_knownTrait_51 (by decide) (fun c10 => ?_) (fun c10 => ?_)
      · have hf := ip hf c10
        obtain ⟨x11, ex11⟩ : ∃ x : Int32, x = (l2 + 1) := ⟨_, rfl⟩
        have hf := bd_at hf ex11
        refine v_iinc (v := x11) (j := 2) (lv2 := [(2, .int x11), (0, .ref (ad l0)), (1, .int l1)]) C dX11_knownTrait_63 rfl (by rw [ex11]; rfl) (by decide) rfl ?_
        refine v_goto (tgt := 21) C dX11_knownTrait_66 (by decide) ?_
        cases hf
        refine v_sub [1, 2, 0] rfl ?_
        exact kb _ rfl
      · have hf := im hf c10
        cases hf
        refine v_sub [0, 1, 2] rfl ?_
        exact kx54 _ rfl
def fX11_knownTrait (sh : Sh) (G : Hp) (l0 : Nat) : Option (Int32 × Hp) := bd ((G.1 l0 11) : Int32) fun x1 => (fX11_must sh G l0 1).bind fun G3 => if (G3.1 l0 13) ≤ 0 then (iter (fun s : Int32 => fX11_knownTrait_S21 sh l0 x1 G3 s) fuel (0 : Int32)).bind (Sum.elim (fun _ => (fX11_wrong sh G3 l0 4 x1).bind fun G7 => some (0, G7)) (fun u12 => bd u12 fun x9 => (ldA sh G3 l0 22 1).bind fun a10 => (aI sh G3 a10 x9).bind fun v11 => some (((1 : Int32) <<< (v11 &&& 31)), G3))) else some (0, G3)
set_option maxHeartbeats 4000000 in
theorem tX11_knownTrait {E : EX} {ad : Nat → Nat} {sh : Sh} {G : Hp} {l0 : Nat} {z : Int32 × Hp} (C : Cx E RX11 cX11_knownTrait 3 (some .int) 4 0 0) (hC : Cl sh G) (h_l0 : sh[l0]? = some (0, 11)) (hf : fX11_knownTrait sh G l0 = some z) (kr : RCi E cX11_knownTrait ad sh (z.1) (z.2)) : VV E 0 0 (wq (xT E) ad G sh) 0 [(0, .ref (ad l0))] [] := by
  unfold fX11_knownTrait at hf
  refine v_aload_n C 0 dX11_knownTrait_0 rfl rfl ?_
  refine v_getI C h_l0 fl_X11_230 dX11_knownTrait_1 ?_
  refine v_topi (fun x1 ex1 => ?_)
  have hf := bd_at hf ex1
  refine v_istore_n (lv2 := [(1, .int x1), (0, .ref (ad l0))]) C dX11_knownTrait_4 rfl (by decide) rfl ?_
  refine v_aload_n C 1 dX11_knownTrait_5 rfl rfl ?_
  refine v_iconst (v := 1) C dX11_knownTrait_6 (by decide) ?_
  obtain ⟨G3, qr2, hf⟩ := bn hf
  refine v_callVv (As := [.int 1]) (rest := []) C (sX11_must h_l0 qr2) cs_X11_308 (by decide) h_l0 rfl hC rfl rfl rfl (Nat.le_of_ble_eq_true rfl) ⟨Nat.le_refl _, Nat.le_refl _⟩ dX11_knownTrait_7 (fun hC => ?_)
  refine v_aload_n C 1 dX11_knownTrait_10 rfl rfl ?_
  refine v_getI C h_l0 fl_X11_227 dX11_knownTrait_11 ?_
  refine v_if_le (tgt := 19) C dX11_knownTrait_14 (by decide) (fun c4 => ?_) (fun c4 => ?_)
  · have hf := ip hf c4
    refine v_iconst (v := 0) C dX11_knownTrait_19 (by decide) ?_
    refine v_istore_n (lv2 := [(2, .int 0), (1, .int x1), (0, .ref (ad l0))]) C dX11_knownTrait_20 rfl (by decide) rfl ?_
    obtain ⟨r5, qr5, hf⟩ := bn hf
    refine v_sub [2, 1, 0] rfl ?_
    refine iter_sound (P := (fun s : Int32 => VV E 0 0 (wq (xT E) ad (G3) sh) 21 [(0, .ref (ad l0)), (1, .int (x1)), (2, .int (s))] [])) (X := fun r => r = r5) (fun jsr5 jor5 hor5 jbr5 jxr5 => tX11_knownTrait_S21 C hC h_l0 hor5 (fun _ e => jbr5 _ e) ?_ ?_) fuel _ r5 qr5 rfl
    · intro  hu
      have e := jxr5 _ hu
      subst e
      have hf := sm_l hf
      refine v_aload_n C 0 dX11_knownTrait_69 rfl rfl ?_
      refine v_iconst (v := 4) C dX11_knownTrait_70 (by decide) ?_
      refine v_iload_n C 1 dX11_knownTrait_71 rfl rfl ?_
      obtain ⟨G7, qr6, hf⟩ := bn hf
      refine v_callVv (As := [.int 4, .int x1]) (rest := []) C (sX11_wrong h_l0 qr6) cs_X11_314 (by decide) h_l0 rfl hC rfl rfl rfl (Nat.le_of_ble_eq_true rfl) ⟨Nat.le_refl _, Nat.le_refl _⟩ dX11_knownTrait_72 (fun hC => ?_)
      refine v_iconst (v := 0) C dX11_knownTrait_75 (by decide) ?_
      cases hf
      exact kr _ _ dX11_knownTrait_76 hC
    · intro x9 hu
      have e := jxr5 _ hu
      subst e
      have hf := sm_r hf
      have hf := bd_at hf (rfl : x9 = _)
      refine v_iconst (v := 1) C dX11_knownTrait_54 (by decide) ?_
      refine v_aload_n C 0 dX11_knownTrait_55 rfl rfl ?_
      obtain ⟨a10, qa10, hf⟩ := bn hf
      refine v_getA C h_l0 fl_X11_43 qa10 dX11_knownTrait_56 (fun h_a10 => ?_)
      refine v_iload_n C 2 dX11_knownTrait_59 rfl rfl ?_
      obtain ⟨v11, qv11, hf⟩ := bn hf
      refine v_iald C h_a10 qv11 dX11_knownTrait_60 ?_
      refine v_ishl C dX11_knownTrait_61 ?_
      cases hf
      exact kr _ _ dX11_knownTrait_62 hC
  · have hf := im hf c4
    refine v_iconst (v := 0) C dX11_knownTrait_17 (by decide) ?_
    cases hf
    exact kr _ _ dX11_knownTrait_18 hC
theorem sX11_knownTrait {l : Launch} {sh : Sh} {G : Hp} {l0 : Nat} {z : Int32 × Hp} (h_l0 : sh[l0]? = some (0, 11)) (hf : fX11_knownTrait sh G l0 = some z) : MC l yX11_knownTrait cX11_knownTrait 3 (some .int) 4 0 0 sh sh G (z.2) (fun ad => [.ref (ad l0)]) (fun _ => some (.int z.1)) := by
  refine MC_of rfl rfl (fun _ => Nat.le_of_ble_eq_true rfl) (fun E ad C hl hnm hC hQ => ?_)
  exact tX11_knownTrait C hC h_l0 hf (fun pc lv hd hC => v_iret C hQ (fun _ _ => rfl) hC rfl hd)
