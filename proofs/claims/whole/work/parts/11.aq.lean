def fX11_tellBridge_J74 (sh : Sh) (G : Hp) (l0 : Nat) (l1 : Int32) (l2 : Int32) : Option (Hp) := (ldA sh G l0 35 1).bind fun a1 => (asI sh G a1 l1 (G.1 l0 36)).bind fun G2 => (fX11_ends sh G2 l0 l2 (-1)).bind fun G4 => if (G4.1 l0 13) = 0 then (ldA sh G4 l0 31 1).bind fun a6 => bd ((G4.1 l0 19) : Int32) fun x7 => (aI sh G4 a6 x7).bind fun v8 => (asI sh G4 a6 x7 (v8 + 1)).bind fun G9 => some G9 else some G4
set_option maxHeartbeats 4000000 in
theorem tX11_tellBridge_J74 {E : EX} {ad : Nat → Nat} {sh : Sh} {G : Hp} {l0 : Nat} {l1 : Int32} {l2 : Int32} {z : Hp} (C : Cx E RX11 cX11_tellBridge 3 none 6 0 0) (hC : Cl sh G) (h_l0 : sh[l0]? = some (0, 11)) (hf : fX11_tellBridge_J74 sh G l0 l1 l2 = some z) (kr : RCv E cX11_tellBridge ad sh z) : VV E 0 0 (wq (xT E) ad G sh) 74 [(0, .ref (ad l0)), (1, .int l1), (2, .int l2)] [] := by
  unfold fX11_tellBridge_J74 at hf
  refine v_aload_n C 0 dX11_tellBridge_74 rfl rfl ?_
  obtain ⟨a1, qa1, hf⟩ := bn hf
  refine v_getA C h_l0 fl_X11_82 qa1 dX11_tellBridge_75 (fun h_a1 => ?_)
  refine v_iload_n C 1 dX11_tellBridge_78 rfl rfl ?_
  refine v_aload_n C 0 dX11_tellBridge_79 rfl rfl ?_
  refine v_getI C h_l0 fl_X11_272 dX11_tellBridge_80 ?_
  obtain ⟨G2, qG2, hf⟩ := bn hf
  refine v_iast C h_a1 qG2 hC dX11_tellBridge_83 (fun hC => ?_)
  refine v_aload_n C 0 dX11_tellBridge_84 rfl rfl ?_
  refine v_iload_n C 2 dX11_tellBridge_85 rfl rfl ?_
  refine v_iconst (v := (-1)) C dX11_tellBridge_86 (by decide) ?_
  obtain ⟨G4, qr3, hf⟩ := bn hf
  refine v_callVv (As := [.int l2, .int (-1)]) (rest := []) C (sX11_ends h_l0 qr3) cs_X11_292 (by decide) h_l0 rfl hC rfl rfl rfl (Nat.le_of_ble_eq_true rfl) ⟨Nat.le_refl _, Nat.le_refl _⟩ dX11_tellBridge_87 (fun hC => ?_)
  refine v_aload_n C 0 dX11_tellBridge_90 rfl rfl ?_
  refine v_getI C h_l0 fl_X11_227 dX11_tellBridge_91 ?_
  refine v_if_ne (tgt := 110) C dX11_tellBridge_94 (by decide) (fun c5 => ?_) (fun c5 => ?_)
  · have hf := im hf c5
    cases hf
    exact kr _ _ dX11_tellBridge_110 hC
  · have hf := ip hf c5
    refine v_aload_n C 0 dX11_tellBridge_97 rfl rfl ?_
    obtain ⟨a6, qa6, hf⟩ := bn hf
    refine v_getA C h_l0 fl_X11_70 qa6 dX11_tellBridge_98 (fun h_a6 => ?_)
    refine v_aload_n C 0 dX11_tellBridge_101 rfl rfl ?_
    refine v_getI C h_l0 fl_X11_260 dX11_tellBridge_102 ?_
    refine v_topi (fun x7 ex7 => ?_)
    have hf := bd_at hf ex7
    refine v_dup2 C dX11_tellBridge_105 rfl rfl ?_
    obtain ⟨v8, qv8, hf⟩ := bn hf
    refine v_iald C h_a6 qv8 dX11_tellBridge_106 ?_
    refine v_iconst (v := 1) C dX11_tellBridge_107 (by decide) ?_
    refine v_iadd C dX11_tellBridge_108 ?_
    obtain ⟨G9, qG9, hf⟩ := bn hf
    refine v_iast C h_a6 qG9 hC dX11_tellBridge_109 (fun hC => ?_)
    cases hf
    exact kr _ _ dX11_tellBridge_110 hC
def fX11_tellBridge (sh : Sh) (G : Hp) (l0 : Nat) : Option (Hp) := (ldA sh G l0 31 1).bind fun a1 => (aI sh G a1 (G.1 l0 19)).bind fun v2 => bd ((((4 : Int32) * (G.1 l0 19)) + v2) : Int32) fun x3 => bp (fX11_named sh G l0) fun r4 G5 => (ldA sh G5 l0 32 1).bind fun a6 => bp (fX11_bounded sh G5 l0 1 99) fun r7 G8 => (asI sh G8 a6 x3 r7).bind fun G9 => (ldA sh G9 l0 33 1).bind fun a10 => bp (fX11_bounded sh G9 l0 0 99) fun r11 G12 => (asI sh G12 a10 x3 r11).bind fun G13 => (fX11_must sh G13 l0 5).bind fun G15 => (ldA sh G15 l0 34 1).bind fun a16 => (asI sh G15 a16 x3 (G15.1 l0 36)).bind fun G17 => if (G17.1 l0 13) = 0 then (fX11_tellClause sh G17 l0).bind fun G20 => fX11_tellBridge_J74 sh G20 l0 x3 r4 else fX11_tellBridge_J74 sh G17 l0 x3 r4
set_option maxHeartbeats 4000000 in
theorem tX11_tellBridge {E : EX} {ad : Nat → Nat} {sh : Sh} {G : Hp} {l0 : Nat} {z : Hp} (C : Cx E RX11 cX11_tellBridge 3 none 6 0 0) (hC : Cl sh G) (h_l0 : sh[l0]? = some (0, 11)) (hf : fX11_tellBridge sh G l0 = some z) (kr : RCv E cX11_tellBridge ad sh z) : VV E 0 0 (wq (xT E) ad G sh) 0 [(0, .ref (ad l0))] [] := by
  unfold fX11_tellBridge at hf
  refine v_iconst (v := 4) C dX11_tellBridge_0 (by decide) ?_
  refine v_aload_n C 0 dX11_tellBridge_1 rfl rfl ?_
  refine v_getI C h_l0 fl_X11_260 dX11_tellBridge_2 ?_
  refine v_imul C dX11_tellBridge_5 ?_
  refine v_aload_n C 0 dX11_tellBridge_6 rfl rfl ?_
  obtain ⟨a1, qa1, hf⟩ := bn hf
  refine v_getA C h_l0 fl_X11_70 qa1 dX11_tellBridge_7 (fun h_a1 => ?_)
  refine v_aload_n C 0 dX11_tellBridge_10 rfl rfl ?_
  refine v_getI C h_l0 fl_X11_260 dX11_tellBridge_11 ?_
  obtain ⟨v2, qv2, hf⟩ := bn hf
  refine v_iald C h_a1 qv2 dX11_tellBridge_14 ?_
  refine v_iadd C dX11_tellBridge_15 ?_
  refine v_topi (fun x3 ex3 => ?_)
  have hf := bd_at hf ex3
  refine v_istore_n (lv2 := [(1, .int x3), (0, .ref (ad l0))]) C dX11_tellBridge_16 rfl (by decide) rfl ?_
  refine v_aload_n C 1 dX11_tellBridge_17 rfl rfl ?_
  obtain ⟨r4, G5, qr4, hf⟩ := bpn hf
  refine v_callVi (As := []) (rest := []) C (sX11_named h_l0 qr4) cs_X11_288 (by decide) h_l0 rfl hC rfl rfl rfl (Nat.le_of_ble_eq_true rfl) ⟨Nat.le_refl _, Nat.le_refl _⟩ dX11_tellBridge_18 (fun hC => ?_)
  refine v_istore_n (lv2 := [(2, .int r4), (1, .int x3), (0, .ref (ad l0))]) C dX11_tellBridge_21 rfl (by decide) rfl ?_
  refine v_aload_n C 2 dX11_tellBridge_22 rfl rfl ?_
  obtain ⟨a6, qa6, hf⟩ := bn hf
  refine v_getA C h_l0 fl_X11_73 qa6 dX11_tellBridge_23 (fun h_a6 => ?_)
  refine v_iload_n C 1 dX11_tellBridge_26 rfl rfl ?_
  refine v_aload_n C 2 dX11_tellBridge_27 rfl rfl ?_
  refine v_iconst (v := 1) C dX11_tellBridge_28 (by decide) ?_
  refine v_bipush (v := 99) C dX11_tellBridge_29 (by decide) ?_
  obtain ⟨r7, G8, qr7, hf⟩ := bpn hf
  refine v_callVi (As := [.int 1, .int 99]) (rest := [.int x3, .ref (ad a6)]) C (sX11_bounded h_l0 qr7) cs_X11_304 (by decide) h_l0 rfl hC rfl rfl rfl (Nat.le_of_ble_eq_true rfl) ⟨Nat.le_refl _, Nat.le_refl _⟩ dX11_tellBridge_31 (fun hC => ?_)
  obtain ⟨G9, qG9, hf⟩ := bn hf
  refine v_iast C h_a6 qG9 hC dX11_tellBridge_34 (fun hC => ?_)
  refine v_aload_n C 2 dX11_tellBridge_35 rfl rfl ?_
  obtain ⟨a10, qa10, hf⟩ := bn hf
  refine v_getA C h_l0 fl_X11_76 qa10 dX11_tellBridge_36 (fun h_a10 => ?_)
  refine v_iload_n C 1 dX11_tellBridge_39 rfl rfl ?_
  refine v_aload_n C 2 dX11_tellBridge_40 rfl rfl ?_
  refine v_iconst (v := 0) C dX11_tellBridge_41 (by decide) ?_
  refine v_bipush (v := 99) C dX11_tellBridge_42 (by decide) ?_
  obtain ⟨r11, G12, qr11, hf⟩ := bpn hf
  refine v_callVi (As := [.int 0, .int 99]) (rest := [.int x3, .ref (ad a10)]) C (sX11_bounded h_l0 qr11) cs_X11_304 (by decide) h_l0 rfl hC rfl rfl rfl (Nat.le_of_ble_eq_true rfl) ⟨Nat.le_refl _, Nat.le_refl _⟩ dX11_tellBridge_44 (fun hC => ?_)
  obtain ⟨G13, qG13, hf⟩ := bn hf
  refine v_iast C h_a10 qG13 hC dX11_tellBridge_47 (fun hC => ?_)
  refine v_aload_n C 2 dX11_tellBridge_48 rfl rfl ?_
  refine v_iconst (v := 5) C dX11_tellBridge_49 (by decide) ?_
  obtain ⟨G15, qr14, hf⟩ := bn hf
  refine v_callVv (As := [.int 5]) (rest := []) C (sX11_must h_l0 qr14) cs_X11_308 (by decide) h_l0 rfl hC rfl rfl rfl (Nat.le_of_ble_eq_true rfl) ⟨Nat.le_refl _, Nat.le_refl _⟩ dX11_tellBridge_50 (fun hC => ?_)
  refine v_aload_n C 2 dX11_tellBridge_53 rfl rfl ?_
  obtain ⟨a16, qa16, hf⟩ := bn hf
  refine v_getA C h_l0 fl_X11_79 qa16 dX11_tellBridge_54 (fun h_a16 => ?_)
  refine v_iload_n C 1 dX11_tellBridge_57 rfl rfl ?_
  refine v_aload_n C 2 dX11_tellBridge_58 rfl rfl ?_
  refine v_getI C h_l0 fl_X11_272 dX11_tellBridge_59 ?_
  obtain ⟨G17, qG17, hf⟩ := bn hf
  refine v_iast C h_a16 qG17 hC dX11_tellBridge_62 (fun hC => ?_)
  refine v_aload_n C 2 dX11_tellBridge_63 rfl rfl ?_
  refine v_getI C h_l0 fl_X11_227 dX11_tellBridge_64 ?_
  refine v_if_ne (tgt := 74) C dX11_tellBridge_67 (by decide) (fun c18 => ?_) (fun c18 => ?_)
  · have hf := im hf c18
    refine v_sub [2, 1, 0] rfl ?_
    exact tX11_tellBridge_J74 C hC h_l0 hf kr
  · have hf := ip hf c18
    refine v_aload_n C 2 dX11_tellBridge_70 rfl rfl ?_
    obtain ⟨G20, qr19, hf⟩ := bn hf
    refine v_callVv (As := []) (rest := []) C (sX11_tellClause h_l0 qr19) cs_X11_320 (by decide) h_l0 rfl hC rfl rfl rfl (Nat.le_of_ble_eq_true rfl) ⟨Nat.le_refl _, Nat.le_refl _⟩ dX11_tellBridge_71 (fun hC => ?_)
    refine v_sub [2, 1, 0] rfl ?_
    exact tX11_tellBridge_J74 C hC h_l0 hf kr
theorem sX11_tellBridge {l : Launch} {sh : Sh} {G : Hp} {l0 : Nat} {z : Hp} (h_l0 : sh[l0]? = some (0, 11)) (hf : fX11_tellBridge sh G l0 = some z) : MC l yX11_tellBridge cX11_tellBridge 3 none 6 0 0 sh sh G z (fun ad => [.ref (ad l0)]) (fun _ => none) := by
  refine MC_of rfl rfl (fun _ => Nat.le_of_ble_eq_true rfl) (fun E ad C hl hnm hC hQ => ?_)
  exact tX11_tellBridge C hC h_l0 hf (fun pc lv hd hC => v_vret C hQ (fun _ _ => rfl) hC rfl hd)
def fX11_emit (sh : Sh) (G : Hp) (l0 : Nat) (l1 : Int32) (l2 : Int32) : Option (Hp) := (ldA sh G l0 49 1).bind fun a1 => (asI sh G a1 (G.1 l0 48) l1).bind fun G2 => (ldA sh G2 l0 50 1).bind fun a3 => (asI sh G2 a3 (G2.1 l0 48) l2).bind fun G4 => bd (sI G4 l0 48 ((G4.1 l0 48) + 1)) fun G5 => some G5
set_option maxHeartbeats 4000000 in
theorem tX11_emit {E : EX} {ad : Nat → Nat} {sh : Sh} {G : Hp} {l0 : Nat} {l1 : Int32} {l2 : Int32} {z : Hp} (C : Cx E RX11 cX11_emit 3 none 1 0 0) (hC : Cl sh G) (h_l0 : sh[l0]? = some (0, 11)) (hf : fX11_emit sh G l0 l1 l2 = some z) (kr : RCv E cX11_emit ad sh z) : VV E 0 0 (wq (xT E) ad G sh) 0 [(0, .ref (ad l0)), (1, .int l1), (2, .int l2)] [] := by
  unfold fX11_emit at hf
  refine v_aload_n C 0 dX11_emit_0 rfl rfl ?_
  obtain ⟨a1, qa1, hf⟩ := bn hf
  refine v_getA C h_l0 fl_X11_116 qa1 dX11_emit_1 (fun h_a1 => ?_)
  refine v_aload_n C 0 dX11_emit_4 rfl rfl ?_
  refine v_getI C h_l0 fl_X11_269 dX11_emit_5 ?_
  refine v_iload_n C 1 dX11_emit_8 rfl rfl ?_
  obtain ⟨G2, qG2, hf⟩ := bn hf
  refine v_iast C h_a1 qG2 hC dX11_emit_9 (fun hC => ?_)
  refine v_aload_n C 0 dX11_emit_10 rfl rfl ?_
  obtain ⟨a3, qa3, hf⟩ := bn hf
  refine v_getA C h_l0 fl_X11_119 qa3 dX11_emit_11 (fun h_a3 => ?_)
  refine v_aload_n C 0 dX11_emit_14 rfl rfl ?_
  refine v_getI C h_l0 fl_X11_269 dX11_emit_15 ?_
  refine v_iload_n C 2 dX11_emit_18 rfl rfl ?_
  obtain ⟨G4, qG4, hf⟩ := bn hf
  refine v_iast C h_a3 qG4 hC dX11_emit_19 (fun hC => ?_)
  refine v_aload_n C 0 dX11_emit_20 rfl rfl ?_
  refine v_dup C dX11_emit_21 rfl ?_
  refine v_getI C h_l0 fl_X11_269 dX11_emit_22 ?_
  refine v_iconst (v := 1) C dX11_emit_25 (by decide) ?_
  refine v_iadd C dX11_emit_26 ?_
  refine v_putI C h_l0 fp_X11_269 dX11_emit_27 (fun G5 eG5 => ?_)
  have hf := bd_at hf eG5
  have hC : Cl sh G5 := by rw [eG5]; exact hC
  cases hf
  exact kr _ _ dX11_emit_30 hC
theorem sX11_emit {l : Launch} {sh : Sh} {G : Hp} {l0 : Nat} {l1 : Int32} {l2 : Int32} {z : Hp} (h_l0 : sh[l0]? = some (0, 11)) (hf : fX11_emit sh G l0 l1 l2 = some z) : MC l yX11_emit cX11_emit 3 none 1 0 0 sh sh G z (fun ad => [.ref (ad l0), .int l1, .int l2]) (fun _ => none) := by
  refine MC_of rfl rfl (fun _ => Nat.le_of_ble_eq_true rfl) (fun E ad C hl hnm hC hQ => ?_)
  exact tX11_emit C hC h_l0 hf (fun pc lv hd hC => v_vret C hQ (fun _ _ => rfl) hC rfl hd)
def fX11_unit (sh : Sh) (G : Hp) (l0 : Nat) : Option (Hp) := (fX11_is sh G l0 2).bind fun r1 => if r1 = 0 then if (G.1 l0 13) = 0 then (ldA sh G l0 5 1).bind fun a6 => (aI sh G a6 (G.1 l0 11)).bind fun v7 => if v7 < 37 then (fX11_fail sh G l0 1).bind fun G10 => some G10 else (ldA sh G l0 5 1).bind fun a11 => (aI sh G a11 (G.1 l0 11)).bind fun v12 => if 45 < v12 then (fX11_fail sh G l0 1).bind fun G15 => some G15 else (ldA sh G l0 5 1).bind fun a16 => (aI sh G a16 (G.1 l0 11)).bind fun v17 => (fX11_emit sh G l0 1 (v17 - 37)).bind fun G19 => (fX11_goesOn sh G19 l0).bind fun G21 => some G21 else (fX11_fail sh G l0 1).bind fun G5 => some G5 else (ldA sh G l0 7 1).bind fun a22 => (aI sh G a22 (G.1 l0 11)).bind fun v23 => (fX11_emit sh G l0 0 v23).bind fun G25 => (fX11_goesOn sh G25 l0).bind fun G27 => some G27
set_option maxHeartbeats 4000000 in
theorem tX11_unit {E : EX} {ad : Nat → Nat} {sh : Sh} {G : Hp} {l0 : Nat} {z : Hp} (C : Cx E RX11 cX11_unit 1 none 3 0 0) (hC : Cl sh G) (h_l0 : sh[l0]? = some (0, 11)) (hf : fX11_unit sh G l0 = some z) (kr : RCv E cX11_unit ad sh z) : VV E 0 0 (wq (xT E) ad G sh) 0 [(0, .ref (ad l0))] [] := by
  unfold fX11_unit at hf
  refine v_aload_n C 0 dX11_unit_0 rfl rfl ?_
  refine v_iconst (v := 2) C dX11_unit_1 (by decide) ?_
  obtain ⟨r1, qr1, hf⟩ := bn hf
  refine v_callVi (As := [.int 2]) (rest := []) C (sX11_is h_l0 qr1) cs_X11_245 (by decide) h_l0 rfl hC rfl rfl rfl (Nat.le_of_ble_eq_true rfl) ⟨Nat.le_refl _, Nat.le_refl _⟩ dX11_unit_2 (fun hC => ?_)
  refine v_if_eq (tgt := 29) C dX11_unit_5 (by decide) (fun c2 => ?_) (fun c2 => ?_)
  · have hf := ip hf c2
    refine v_aload_n C 0 dX11_unit_29 rfl rfl ?_
    refine v_getI C h_l0 fl_X11_227 dX11_unit_30 ?_
    refine v_if_ne (tgt := 88) C dX11_unit_33 (by decide) (fun c3 => ?_) (fun c3 => ?_)
    · have hf := im hf c3
      refine v_aload_n C 0 dX11_unit_88 rfl rfl ?_
      refine v_iconst (v := 1) C dX11_unit_89 (by decide) ?_
      obtain ⟨G5, qr4, hf⟩ := bn hf
      refine v_callVv (As := [.int 1]) (rest := []) C (sX11_fail h_l0 qr4) cs_X11_242 (by decide) h_l0 rfl hC rfl rfl rfl (Nat.le_of_ble_eq_true rfl) ⟨Nat.le_refl _, Nat.le_refl _⟩ dX11_unit_90 (fun hC => ?_)
      cases hf
      exact kr _ _ dX11_unit_93 hC
    · have hf := ip hf c3
      refine v_aload_n C 0 dX11_unit_36 rfl rfl ?_
      obtain ⟨a6, qa6, hf⟩ := bn hf
      refine v_getA C h_l0 fl_X11_20 qa6 dX11_unit_37 (fun h_a6 => ?_)
      refine v_aload_n C 0 dX11_unit_40 rfl rfl ?_
      refine v_getI C h_l0 fl_X11_230 dX11_unit_41 ?_
      obtain ⟨v7, qv7, hf⟩ := bn hf
      refine v_iald C h_a6 qv7 dX11_unit_44 ?_
      refine v_bipush (v := 37) C dX11_unit_45 (by decide) ?_
      refine v_icmp_lt (tgt := 88) C dX11_unit_47 (by decide) (fun c8 => ?_) (fun c8 => ?_)
      · have hf := ip hf c8
        refine v_aload_n C 0 dX11_unit_88 rfl rfl ?_
        refine v_iconst (v := 1) C dX11_unit_89 (by decide) ?_
        obtain ⟨G10, qr9, hf⟩ := bn hf
        refine v_callVv (As := [.int 1]) (rest := []) C (sX11_fail h_l0 qr9) cs_X11_242 (by decide) h_l0 rfl hC rfl rfl rfl (Nat.le_of_ble_eq_true rfl) ⟨Nat.le_refl _, Nat.le_refl _⟩ dX11_unit_90 (fun hC => ?_)
        cases hf
        exact kr _ _ dX11_unit_93 hC
      · have hf := im hf c8
        refine v_aload_n C 0 dX11_unit_50 rfl rfl ?_
        obtain ⟨a11, qa11, hf⟩ := bn hf
        refine v_getA C h_l0 fl_X11_20 qa11 dX11_unit_51 (fun h_a11 => ?_)
        refine v_aload_n C 0 dX11_unit_54 rfl rfl ?_
        refine v_getI C h_l0 fl_X11_230 dX11_unit_55 ?_
        obtain ⟨v12, qv12, hf⟩ := bn hf
        refine v_iald C h_a11 qv12 dX11_unit_58 ?_
        refine v_bipush (v := 45) C dX11_unit_59 (by decide) ?_
        refine v_icmp_gt (tgt := 88) C dX11_unit_61 (by decide) (fun c13 => ?_) (fun c13 => ?_)
        · have hf := ip hf c13
          refine v_aload_n C 0 dX11_unit_88 rfl rfl ?_
          refine v_iconst (v := 1) C dX11_unit_89 (by decide) ?_
          obtain ⟨G15, qr14, hf⟩ := bn hf
          refine v_callVv (As := [.int 1]) (rest := []) C (sX11_fail h_l0 qr14) cs_X11_242 (by decide) h_l0 rfl hC rfl rfl rfl (Nat.le_of_ble_eq_true rfl) ⟨Nat.le_refl _, Nat.le_refl _⟩ dX11_unit_90 (fun hC => ?_)
          cases hf
          exact kr _ _ dX11_unit_93 hC
        · have hf := im hf c13
          refine v_aload_n C 0 dX11_unit_64 rfl rfl ?_
          refine v_iconst (v := 1) C dX11_unit_65 (by decide) ?_
          refine v_aload_n C 0 dX11_unit_66 rfl rfl ?_
          obtain ⟨a16, qa16, hf⟩ := bn hf
          refine v_getA C h_l0 fl_X11_20 qa16 dX11_unit_67 (fun h_a16 => ?_)
          refine v_aload_n C 0 dX11_unit_70 rfl rfl ?_
          refine v_getI C h_l0 fl_X11_230 dX11_unit_71 ?_
          obtain ⟨v17, qv17, hf⟩ := bn hf
          refine v_iald C h_a16 qv17 dX11_unit_74 ?_
          refine v_bipush (v := 37) C dX11_unit_75 (by decide) ?_
          refine v_isub C dX11_unit_77 ?_
          obtain ⟨G19, qr18, hf⟩ := bn hf
          refine v_callVv (As := [.int 1, .int (v17 - 37)]) (rest := []) C (sX11_emit h_l0 qr18) cs_X11_356 (by decide) h_l0 rfl hC rfl rfl rfl (Nat.le_of_ble_eq_true rfl) ⟨Nat.le_refl _, Nat.le_refl _⟩ dX11_unit_78 (fun hC => ?_)
          refine v_aload_n C 0 dX11_unit_81 rfl rfl ?_
          obtain ⟨G21, qr20, hf⟩ := bn hf
          refine v_callVv (As := []) (rest := []) C (sX11_goesOn h_l0 qr20) cs_X11_248 (by decide) h_l0 rfl hC rfl rfl rfl (Nat.le_of_ble_eq_true rfl) ⟨Nat.le_refl _, Nat.le_refl _⟩ dX11_unit_82 (fun hC => ?_)
          refine v_goto (tgt := 93) C dX11_unit_85 (by decide) ?_
          cases hf
          exact kr _ _ dX11_unit_93 hC
  · have hf := im hf c2
    refine v_aload_n C 0 dX11_unit_8 rfl rfl ?_
    refine v_iconst (v := 0) C dX11_unit_9 (by decide) ?_
    refine v_aload_n C 0 dX11_unit_10 rfl rfl ?_
    obtain ⟨a22, qa22, hf⟩ := bn hf
    refine v_getA C h_l0 fl_X11_27 qa22 dX11_unit_11 (fun h_a22 => ?_)
    refine v_aload_n C 0 dX11_unit_14 rfl rfl ?_
    refine v_getI C h_l0 fl_X11_230 dX11_unit_15 ?_
    obtain ⟨v23, qv23, hf⟩ := bn hf
    refine v_iald C h_a22 qv23 dX11_unit_18 ?_
    obtain ⟨G25, qr24, hf⟩ := bn hf
    refine v_callVv (As := [.int 0, .int v23]) (rest := []) C (sX11_emit h_l0 qr24) cs_X11_356 (by decide) h_l0 rfl hC rfl rfl rfl (Nat.le_of_ble_eq_true rfl) ⟨Nat.le_refl _, Nat.le_refl _⟩ dX11_unit_19 (fun hC => ?_)
    refine v_aload_n C 0 dX11_unit_22 rfl rfl ?_
    obtain ⟨G27, qr26, hf⟩ := bn hf
    refine v_callVv (As := []) (rest := []) C (sX11_goesOn h_l0 qr26) cs_X11_248 (by decide) h_l0 rfl hC rfl rfl rfl (Nat.le_of_ble_eq_true rfl) ⟨Nat.le_refl _, Nat.le_refl _⟩ dX11_unit_23 (fun hC => ?_)
    refine v_goto (tgt := 93) C dX11_unit_26 (by decide) ?_
    cases hf
    exact kr _ _ dX11_unit_93 hC
theorem sX11_unit {l : Launch} {sh : Sh} {G : Hp} {l0 : Nat} {z : Hp} (h_l0 : sh[l0]? = some (0, 11)) (hf : fX11_unit sh G l0 = some z) : MC l yX11_unit cX11_unit 1 none 3 0 0 sh sh G z (fun ad => [.ref (ad l0)]) (fun _ => none) := by
  refine MC_of rfl rfl (fun _ => Nat.le_of_ble_eq_true rfl) (fun E ad C hl hnm hC hQ => ?_)
  exact tX11_unit C hC h_l0 hf (fun pc lv hd hC => v_vret C hQ (fun _ _ => rfl) hC rfl hd)
def fX11_comesOut_J42L0 (sh : Sh) (G : Hp) (l0 : Nat) (l1 : Int32) (l2 : Int32) : Option ((Hp) ⊕ ((Hp) ⊕ (Hp))) := bd (sI G l0 54 ((G.1 l0 54) - 1)) fun G1 => if l2 = 8 then (fX11_emit sh G1 l0 2 0).bind fun G12 => some (.inl G12) else if l2 = 9 then (fX11_emit sh G1 l0 3 0).bind fun G10 => some (.inl G10) else if l2 = 10 then (fX11_emit sh G1 l0 4 0).bind fun G8 => some (.inl G8) else (fX11_emit sh G1 l0 5 0).bind fun G6 => some (.inl G6)
set_option maxHeartbeats 4000000 in
theorem tX11_comesOut_J42L0 {E : EX} {ad : Nat → Nat} {sh : Sh} {G : Hp} {l0 : Nat} {l1 : Int32} {l2 : Int32} {o : (Hp) ⊕ ((Hp) ⊕ (Hp))} (C : Cx E RX11 cX11_comesOut 3 none 2 0 0) (hC : Cl sh G) (h_l0 : sh[l0]? = some (0, 11)) (hf : fX11_comesOut_J42L0 sh G l0 l1 l2 = some o) (kb : ∀ (G2 : Hp), o = .inl G2 → Cl sh G2 → VV E 0 0 (wq (xT E) ad G2 sh) 0 [(0, .ref (ad l0)), (1, .int l1)] []) (kx91 : ∀ (G2 : Hp), o = .inr (.inl G2) → Cl sh G2 → VV E 0 0 (wq (xT E) ad G2 sh) 91 [(0, .ref (ad l0)), (1, .int l1)] []) (kx41 : ∀ (G2 : Hp), o = .inr (.inr G2) → Cl sh G2 → VV E 0 0 (wq (xT E) ad G2 sh) 41 [(0, .ref (ad l0)), (1, .int l1)] []) : VV E 0 0 (wq (xT E) ad G sh) 42 [(0, .ref (ad l0)), (1, .int l1), (2, .int l2)] [] := by
  unfold fX11_comesOut_J42L0 at hf
  refine v_aload_n C 0 dX11_comesOut_42 rfl rfl ?_
  refine v_dup C dX11_comesOut_43 rfl ?_
  refine v_getI C h_l0 fl_X11_353 dX11_comesOut_44 ?_
  refine v_iconst (v := 1) C dX11_comesOut_47 (by decide) ?_
  refine v_isub C dX11_comesOut_48 ?_
  refine v_putI C h_l0 fp_X11_353 dX11_comesOut_49 (fun G1 eG1 => ?_)
  have hf := bd_at hf eG1
  have hC : Cl sh G1 := by rw [eG1]; exact hC
  refine v_aload_n C 0 dX11_comesOut_52 rfl rfl ?_
  refine v_iload_n C 2 dX11_comesOut_53 rfl rfl ?_
  refine v_bipush (v := 8) C dX11_comesOut_54 (by decide) ?_
  refine v_icmp_ne (tgt := 63) C dX11_comesOut_56 (by decide) (fun c2 => ?_) (fun c2 => ?_)
  · have hf := im hf c2
    refine v_iload_n C 2 dX11_comesOut_63 rfl rfl ?_
    refine v_bipush (v := 9) C dX11_comesOut_64 (by decide) ?_
    refine v_icmp_ne (tgt := 73) C dX11_comesOut_66 (by decide) (fun c3 => ?_) (fun c3 => ?_)
    · have hf := im hf c3
      refine v_iload_n C 2 dX11_comesOut_73 rfl rfl ?_
      refine v_bipush (v := 10) C dX11_comesOut_74 (by decide) ?_
      refine v_icmp_ne (tgt := 83) C dX11_comesOut_76 (by decide) (fun c4 => ?_) (fun c4 => ?_)
      · have hf := im hf c4
        refine v_iconst (v := 5) C dX11_comesOut_83 (by decide) ?_
        refine v_iconst (v := 0) C dX11_comesOut_84 (by decide) ?_
        obtain ⟨G6, qr5, hf⟩ := bn hf
        refine v_callVv (As := [.int 5, .int 0]) (rest := []) C (sX11_emit h_l0 qr5) cs_X11_356 (by decide) h_l0 rfl hC rfl rfl rfl (Nat.le_of_ble_eq_true rfl) ⟨Nat.le_refl _, Nat.le_refl _⟩ dX11_comesOut_85 (fun hC => ?_)
        refine v_goto (tgt := 0) C dX11_comesOut_88 (by decide) ?_
        cases hf
        refine v_sub [0, 1] rfl ?_
        exact kb _ rfl hC
      · have hf := ip hf c4
        refine v_iconst (v := 4) C dX11_comesOut_79 (by decide) ?_
        refine v_goto (tgt := 84) C dX11_comesOut_80 (by decide) ?_
        refine v_iconst (v := 0) C dX11_comesOut_84 (by decide) ?_
        obtain ⟨G8, qr7, hf⟩ := bn hf
        refine v_callVv (As := [.int 4, .int 0]) (rest := []) C (sX11_emit h_l0 qr7) cs_X11_356 (by decide) h_l0 rfl hC rfl rfl rfl (Nat.le_of_ble_eq_true rfl) ⟨Nat.le_refl _, Nat.le_refl _⟩ dX11_comesOut_85 (fun hC => ?_)
        refine v_goto (tgt := 0) C dX11_comesOut_88 (by decide) ?_
        cases hf
        refine v_sub [0, 1] rfl ?_
        exact kb _ rfl hC
    · have hf := ip hf c3
      refine v_iconst (v := 3) C dX11_comesOut_69 (by decide) ?_
      refine v_goto (tgt := 84) C dX11_comesOut_70 (by decide) ?_
      refine v_iconst (v := 0) C dX11_comesOut_84 (by decide) ?_
      obtain ⟨G10, qr9, hf⟩ := bn hf
      refine v_callVv (As := [.int 3, .int 0]) (rest := []) C (sX11_emit h_l0 qr9) cs_X11_356 (by decide) h_l0 rfl hC rfl rfl rfl (Nat.le_of_ble_eq_true rfl) ⟨Nat.le_refl _, Nat.le_refl _⟩ dX11_comesOut_85 (fun hC => ?_)
      refine v_goto (tgt := 0) C dX11_comesOut_88 (by decide) ?_
      cases hf
      refine v_sub [0, 1] rfl ?_
      exact kb _ rfl hC
  · have hf := ip hf c2
    refine v_iconst (v := 2) C dX11_comesOut_59 (by decide) ?_
    refine v_goto (tgt := 84) C dX11_comesOut_60 (by decide) ?_
    refine v_iconst (v := 0) C dX11_comesOut_84 (by decide) ?_
    obtain ⟨G12, qr11, hf⟩ := bn hf
    refine v_callVv (As := [.int 2, .int 0]) (rest := []) C (sX11_emit h_l0 qr11) cs_X11_356 (by decide) h_l0 rfl hC rfl rfl rfl (Nat.le_of_ble_eq_true rfl) ⟨Nat.le_refl _, Nat.le_refl _⟩ dX11_comesOut_85 (fun hC => ?_)
    refine v_goto (tgt := 0) C dX11_comesOut_88 (by decide) ?_
    cases hf
    refine v_sub [0, 1] rfl ?_
    exact kb _ rfl hC
def fX11_comesOut_S0 (sh : Sh) (l0 : Nat) (l1 : Int32) (G : Hp)  : Option ((Hp) ⊕ ((Hp) ⊕ (Hp))) := if (G.1 l0 54) ≤ 0 then some (.inr (.inl G)) else (ldA sh G l0 53 1).bind fun a2 => (aI sh G a2 ((G.1 l0 54) - 1)).bind fun v3 => if v3 = 6 then some (.inr (.inr G)) else if l1 = 0 then fX11_comesOut_J42L0 sh G l0 l1 v3 else if v3 = 8 then some (.inr (.inr G)) else if v3 = 9 then some (.inr (.inr G)) else fX11_comesOut_J42L0 sh G l0 l1 v3
set_option maxHeartbeats 4000000 in
theorem tX11_comesOut_S0 {E : EX} {ad : Nat → Nat} {sh : Sh} {G : Hp} {l0 : Nat} {l1 : Int32} {o : (Hp) ⊕ ((Hp) ⊕ (Hp))} (C : Cx E RX11 cX11_comesOut 3 none 2 0 0) (hC : Cl sh G) (h_l0 : sh[l0]? = some (0, 11)) (hf : fX11_comesOut_S0 sh l0 l1 G  = some o) (kb : ∀ (G2 : Hp), o = .inl G2 → Cl sh G2 → VV E 0 0 (wq (xT E) ad G2 sh) 0 [(0, .ref (ad l0)), (1, .int l1)] []) (kx91 : ∀ (G2 : Hp), o = .inr (.inl G2) → Cl sh G2 → VV E 0 0 (wq (xT E) ad G2 sh) 91 [(0, .ref (ad l0)), (1, .int l1)] []) (kx41 : ∀ (G2 : Hp), o = .inr (.inr G2) → Cl sh G2 → VV E 0 0 (wq (xT E) ad G2 sh) 41 [(0, .ref (ad l0)), (1, .int l1)] []) : VV E 0 0 (wq (xT E) ad G sh) 0 [(0, .ref (ad l0)), (1, .int l1)] [] := by
  unfold fX11_comesOut_S0 at hf
  refine v_aload_n C 0 dX11_comesOut_0 rfl rfl ?_
  refine v_getI C h_l0 fl_X11_353 dX11_comesOut_1 ?_
  refine v_if_le (tgt := 91) C dX11_comesOut_4 (by decide) (fun c1 => ?_) (fun c1 => ?_)
  · have hf := ip hf c1
    cases hf
    refine v_sub [0, 1] rfl ?_
    exact kx91 _ rfl hC
  · have hf := im hf c1
    refine v_aload_n C 0 dX11_comesOut_7 rfl rfl ?_
    obtain ⟨a2, qa2, hf⟩ := bn hf
    refine v_getA C h_l0 fl_X11_125 qa2 dX11_comesOut_8 (fun h_a2 => ?_)
    refine v_aload_n C 0 dX11_comesOut_11 rfl rfl ?_
    refine v_getI C h_l0 fl_X11_353 dX11_comesOut_12 ?_
    refine v_iconst (v := 1) C dX11_comesOut_15 (by decide) ?_
    refine v_isub C dX11_comesOut_16 ?_
    obtain ⟨v3, qv3, hf⟩ := bn hf
    refine v_iald C h_a2 qv3 dX11_comesOut_17 ?_
    refine v_istore_n (lv2 := [(2, .int v3), (0, .ref (ad l0)), (1, .int l1)]) C dX11_comesOut_18 rfl (by decide) rfl ?_
    refine v_iload_n C 0 dX11_comesOut_19 rfl rfl ?_
    refine v_bipush (v := 6) C dX11_comesOut_20 (by decide) ?_
    refine v_icmp_eq (tgt := 41) C dX11_comesOut_22 (by decide) (fun c4 => ?_) (fun c4 => ?_)
    · have hf := ip hf c4
      cases hf
      refine v_sub [1, 2] rfl ?_
      exact kx41 _ rfl hC
    · have hf := im hf c4
      refine v_iload_n C 2 dX11_comesOut_25 rfl rfl ?_
      refine v_if_eq (tgt := 42) C dX11_comesOut_26 (by decide) (fun c5 => ?_) (fun c5 => ?_)
      · have hf := ip hf c5
        refine v_sub [1, 2, 0] rfl ?_
        exact tX11_comesOut_J42L0 C hC h_l0 hf kb kx91 kx41
      · have hf := im hf c5
        refine v_iload_n C 0 dX11_comesOut_29 rfl rfl ?_
        refine v_bipush (v := 8) C dX11_comesOut_30 (by decide) ?_
        refine v_icmp_eq (tgt := 41) C dX11_comesOut_32 (by decide) (fun c6 => ?_) (fun c6 => ?_)
        · have hf := ip hf c6
          cases hf
          refine v_sub [1, 2] rfl ?_
          exact kx41 _ rfl hC
        · have hf := im hf c6
          refine v_iload_n C 0 dX11_comesOut_35 rfl rfl ?_
          refine v_bipush (v := 9) C dX11_comesOut_36 (by decide) ?_
          refine v_icmp_ne (tgt := 42) C dX11_comesOut_38 (by decide) (fun c7 => ?_) (fun c7 => ?_)
          · have hf := im hf c7
            refine v_sub [1, 2, 0] rfl ?_
            exact tX11_comesOut_J42L0 C hC h_l0 hf kb kx91 kx41
          · have hf := ip hf c7
            cases hf
            refine v_sub [1, 2] rfl ?_
            exact kx41 _ rfl hC
def fX11_comesOut_J84 (sh : Sh) (G : Hp) (l0 : Nat) (l1 : Int32) (s0 : Int32) (s1 : Nat) : Option (Hp) := (fX11_emit sh G s1 s0 0).bind fun G2 => (iter (fun s : Hp => fX11_comesOut_S0 sh l0 l1 s ) fuel (G2 : Hp)).bind (Sum.elim (fun u5 => bd u5 fun G4 => some G4) (fun u7 => bd u7 fun G6 => some G6))
set_option maxHeartbeats 4000000 in
theorem tX11_comesOut_J84 {E : EX} {ad : Nat → Nat} {sh : Sh} {G : Hp} {l0 : Nat} {l1 : Int32} {s0 : Int32} {s1 : Nat} {z : Hp} (C : Cx E RX11 cX11_comesOut 3 none 2 0 0) (hC : Cl sh G) (h_l0 : sh[l0]? = some (0, 11)) (h_s1 : sh[s1]? = some (0, 11)) (hf : fX11_comesOut_J84 sh G l0 l1 s0 s1 = some z) (kr : RCv E cX11_comesOut ad sh z) : VV E 0 0 (wq (xT E) ad G sh) 84 [(0, .ref (ad l0)), (1, .int l1)] [.int s0, .ref (ad s1)] := by
  unfold fX11_comesOut_J84 at hf
  refine v_iconst (v := 0) C dX11_comesOut_84 (by decide) ?_
  obtain ⟨G2, qr1, hf⟩ := bn hf
  refine v_callVv (As := [.int s0, .int 0]) (rest := []) C (sX11_emit h_s1 qr1) cs_X11_356 (by decide) h_s1 rfl hC rfl rfl rfl (Nat.le_of_ble_eq_true rfl) ⟨Nat.le_refl _, Nat.le_refl _⟩ dX11_comesOut_85 (fun hC => ?_)
  refine v_goto (tgt := 0) C dX11_comesOut_88 (by decide) ?_
  obtain ⟨r3, qr3, hf⟩ := bn hf
  refine v_sub [0, 1] rfl ?_
  refine iter_sound (P := (fun s : Hp => Cl sh (s) → VV E 0 0 (wq (xT E) ad (s) sh) 0 [(0, .ref (ad l0)), (1, .int (l1))] [])) (X := fun r => r = r3) (fun jsr3 jor3 hor3 jbr3 jxr3 hC => tX11_comesOut_S0 C hC h_l0 hor3 (fun _ e => jbr3 _ e) ?_ ?_) fuel _ r3 qr3 rfl hC
  · intro G4 hu hC
    have e := jxr3 _ hu
    subst e
    have hf := sm_l hf
    have hf := bd_at hf (rfl : G4 = _)
    cases hf
    exact kr _ _ dX11_comesOut_91 hC
  · intro G6 hu hC
    have e := jxr3 _ hu
    subst e
    have hf := sm_r hf
    have hf := bd_at hf (rfl : G6 = _)
    cases hf
    exact kr _ _ dX11_comesOut_41 hC
def fX11_comesOut_J42 (sh : Sh) (G : Hp) (l0 : Nat) (l1 : Int32) (l2 : Int32) : Option (Hp) := bd (sI G l0 54 ((G.1 l0 54) - 1)) fun G1 => if l2 = 8 then fX11_comesOut_J84 sh G1 l0 l1 2 l0 else if l2 = 9 then fX11_comesOut_J84 sh G1 l0 l1 3 l0 else if l2 = 10 then fX11_comesOut_J84 sh G1 l0 l1 4 l0 else fX11_comesOut_J84 sh G1 l0 l1 5 l0
set_option maxHeartbeats 4000000 in
theorem tX11_comesOut_J42 {E : EX} {ad : Nat → Nat} {sh : Sh} {G : Hp} {l0 : Nat} {l1 : Int32} {l2 : Int32} {z : Hp} (C : Cx E RX11 cX11_comesOut 3 none 2 0 0) (hC : Cl sh G) (h_l0 : sh[l0]? = some (0, 11)) (hf : fX11_comesOut_J42 sh G l0 l1 l2 = some z) (kr : RCv E cX11_comesOut ad sh z) : VV E 0 0 (wq (xT E) ad G sh) 42 [(0, .ref (ad l0)), (1, .int l1), (2, .int l2)] [] := by
  unfold fX11_comesOut_J42 at hf
  refine v_aload_n C 0 dX11_comesOut_42 rfl rfl ?_
  refine v_dup C dX11_comesOut_43 rfl ?_
  refine v_getI C h_l0 fl_X11_353 dX11_comesOut_44 ?_
  refine v_iconst (v := 1) C dX11_comesOut_47 (by decide) ?_
  refine v_isub C dX11_comesOut_48 ?_
  refine v_putI C h_l0 fp_X11_353 dX11_comesOut_49 (fun G1 eG1 => ?_)
  have hf := bd_at hf eG1
  have hC : Cl sh G1 := by rw [eG1]; exact hC
  refine v_aload_n C 0 dX11_comesOut_52 rfl rfl ?_
  refine v_iload_n C 2 dX11_comesOut_53 rfl rfl ?_
  refine v_bipush (v := 8) C dX11_comesOut_54 (by decide) ?_
  refine v_icmp_ne (tgt := 63) C dX11_comesOut_56 (by decide) (fun c2 => ?_) (fun c2 => ?_)
  · have hf := im hf c2
    refine v_iload_n C 2 dX11_comesOut_63 rfl rfl ?_
    refine v_bipush (v := 9) C dX11_comesOut_64 (by decide) ?_
    refine v_icmp_ne (tgt := 73) C dX11_comesOut_66 (by decide) (fun c3 => ?_) (fun c3 => ?_)
    · have hf := im hf c3
      refine v_iload_n C 2 dX11_comesOut_73 rfl rfl ?_
      refine v_bipush (v := 10) C dX11_comesOut_74 (by decide) ?_
      refine v_icmp_ne (tgt := 83) C dX11_comesOut_76 (by decide) (fun c4 => ?_) (fun c4 => ?_)
      · have hf := im hf c4
        refine v_iconst (v := 5) C dX11_comesOut_83 (by decide) ?_
        refine v_sub [0, 1] rfl ?_
        exact tX11_comesOut_J84 C hC h_l0 h_l0 hf kr
      · have hf := ip hf c4
        refine v_iconst (v := 4) C dX11_comesOut_79 (by decide) ?_
        refine v_goto (tgt := 84) C dX11_comesOut_80 (by decide) ?_
        refine v_sub [0, 1] rfl ?_
        exact tX11_comesOut_J84 C hC h_l0 h_l0 hf kr
    · have hf := ip hf c3
      refine v_iconst (v := 3) C dX11_comesOut_69 (by decide) ?_
      refine v_goto (tgt := 84) C dX11_comesOut_70 (by decide) ?_
      refine v_sub [0, 1] rfl ?_
      exact tX11_comesOut_J84 C hC h_l0 h_l0 hf kr
  · have hf := ip hf c2
    refine v_iconst (v := 2) C dX11_comesOut_59 (by decide) ?_
    refine v_goto (tgt := 84) C dX11_comesOut_60 (by decide) ?_
    refine v_sub [0, 1] rfl ?_
    exact tX11_comesOut_J84 C hC h_l0 h_l0 hf kr
def fX11_comesOut (sh : Sh) (G : Hp) (l0 : Nat) (l1 : Int32) : Option (Hp) := if (G.1 l0 54) ≤ 0 then some G else (ldA sh G l0 53 1).bind fun a2 => (aI sh G a2 ((G.1 l0 54) - 1)).bind fun v3 => if v3 = 6 then some G else if l1 = 0 then fX11_comesOut_J42 sh G l0 l1 v3 else if v3 = 8 then some G else if v3 = 9 then some G else fX11_comesOut_J42 sh G l0 l1 v3
set_option maxHeartbeats 4000000 in
theorem tX11_comesOut {E : EX} {ad : Nat → Nat} {sh : Sh} {G : Hp} {l0 : Nat} {l1 : Int32} {z : Hp} (C : Cx E RX11 cX11_comesOut 3 none 2 0 0) (hC : Cl sh G) (h_l0 : sh[l0]? = some (0, 11)) (hf : fX11_comesOut sh G l0 l1 = some z) (kr : RCv E cX11_comesOut ad sh z) : VV E 0 0 (wq (xT E) ad G sh) 0 [(0, .ref (ad l0)), (1, .int l1)] [] := by
  unfold fX11_comesOut at hf
  refine v_aload_n C 0 dX11_comesOut_0 rfl rfl ?_
  refine v_getI C h_l0 fl_X11_353 dX11_comesOut_1 ?_
  refine v_if_le (tgt := 91) C dX11_comesOut_4 (by decide) (fun c1 => ?_) (fun c1 => ?_)
  · have hf := ip hf c1
    cases hf
    exact kr _ _ dX11_comesOut_91 hC
  · have hf := im hf c1
    refine v_aload_n C 0 dX11_comesOut_7 rfl rfl ?_
    obtain ⟨a2, qa2, hf⟩ := bn hf
    refine v_getA C h_l0 fl_X11_125 qa2 dX11_comesOut_8 (fun h_a2 => ?_)
    refine v_aload_n C 0 dX11_comesOut_11 rfl rfl ?_
    refine v_getI C h_l0 fl_X11_353 dX11_comesOut_12 ?_
    refine v_iconst (v := 1) C dX11_comesOut_15 (by decide) ?_
    refine v_isub C dX11_comesOut_16 ?_
    obtain ⟨v3, qv3, hf⟩ := bn hf
    refine v_iald C h_a2 qv3 dX11_comesOut_17 ?_
    refine v_istore_n (lv2 := [(2, .int v3), (0, .ref (ad l0)), (1, .int l1)]) C dX11_comesOut_18 rfl (by decide) rfl ?_
    refine v_iload_n C 0 dX11_comesOut_19 rfl rfl ?_
    refine v_bipush (v := 6) C dX11_comesOut_20 (by decide) ?_
    refine v_icmp_eq (tgt := 41) C dX11_comesOut_22 (by decide) (fun c4 => ?_) (fun c4 => ?_)
    · have hf := ip hf c4
      cases hf
      exact kr _ _ dX11_comesOut_41 hC
    · have hf := im hf c4
      refine v_iload_n C 2 dX11_comesOut_25 rfl rfl ?_
      refine v_if_eq (tgt := 42) C dX11_comesOut_26 (by decide) (fun c5 => ?_) (fun c5 => ?_)
      · have hf := ip hf c5
        refine v_sub [1, 2, 0] rfl ?_
        exact tX11_comesOut_J42 C hC h_l0 hf kr
      · have hf := im hf c5
        refine v_iload_n C 0 dX11_comesOut_29 rfl rfl ?_
        refine v_bipush (v := 8) C dX11_comesOut_30 (by decide) ?_
        refine v_icmp_eq (tgt := 41) C dX11_comesOut_32 (by decide) (fun c6 => ?_) (fun c6 => ?_)
        · have hf := ip hf c6
          cases hf
          exact kr _ _ dX11_comesOut_41 hC
        · have hf := im hf c6
          refine v_iload_n C 0 dX11_comesOut_35 rfl rfl ?_
          refine v_bipush (v := 9) C dX11_comesOut_36 (by decide) ?_
          refine v_icmp_ne (tgt := 42) C dX11_comesOut_38 (by decide) (fun c7 => ?_) (fun c7 => ?_)
          · have hf := im hf c7
            refine v_sub [1, 2, 0] rfl ?_
            exact tX11_comesOut_J42 C hC h_l0 hf kr
          · have hf := ip hf c7
            cases hf
            exact kr _ _ dX11_comesOut_41 hC
theorem sX11_comesOut {l : Launch} {sh : Sh} {G : Hp} {l0 : Nat} {l1 : Int32} {z : Hp} (h_l0 : sh[l0]? = some (0, 11)) (hf : fX11_comesOut sh G l0 l1 = some z) : MC l yX11_comesOut cX11_comesOut 3 none 2 0 0 sh sh G z (fun ad => [.ref (ad l0), .int l1]) (fun _ => none) := by
  refine MC_of rfl rfl (fun _ => Nat.le_of_ble_eq_true rfl) (fun E ad C hl hnm hC hQ => ?_)
  exact tX11_comesOut C hC h_l0 hf (fun pc lv hd hC => v_vret C hQ (fun _ _ => rfl) hC rfl hd)
def fX11_expression_J46L23 (sh : Sh) (G : Hp) (l0 : Nat) (l1 : Int32) : Option ((Hp) ⊕ ((Hp))) := bd (sI G l0 12 ((G.1 l0 12) + 1)) fun G1 => (fX11_goesOn sh G1 l0).bind fun G3 => (ldA sh G3 l0 53 1).bind fun a4 => (asI sh G3 a4 (G3.1 l0 54) 6).bind fun G5 => bd (sI G5 l0 54 ((G5.1 l0 54) + 1)) fun G6 => some (.inl G6)
set_option maxHeartbeats 4000000 in
theorem tX11_expression_J46L23 {E : EX} {ad : Nat → Nat} {sh : Sh} {G : Hp} {l0 : Nat} {l1 : Int32} {o : (Hp) ⊕ ((Hp))} (C : Cx E RX11 cX11_expression 3 none 4 0 0) (hC : Cl sh G) (h_l0 : sh[l0]? = some (0, 11)) (hf : fX11_expression_J46L23 sh G l0 l1 = some o) (kb : ∀ (G2 : Hp), o = .inl G2 → Cl sh G2 → VV E 0 0 (wq (xT E) ad G2 sh) 23 [(0, .ref (ad l0)), (1, .int l1)] []) (kx84 : ∀ (G2 : Hp), o = .inr G2 → Cl sh G2 → VV E 0 0 (wq (xT E) ad G2 sh) 84 [(0, .ref (ad l0)), (1, .int l1)] []) : VV E 0 0 (wq (xT E) ad G sh) 46 [(0, .ref (ad l0)), (1, .int l1)] [] := by
  unfold fX11_expression_J46L23 at hf
  refine v_aload_n C 0 dX11_expression_46 rfl rfl ?_
  refine v_dup C dX11_expression_47 rfl ?_
  refine v_getI C h_l0 fl_X11_254 dX11_expression_48 ?_
  refine v_iconst (v := 1) C dX11_expression_51 (by decide) ?_
  refine v_iadd C dX11_expression_52 ?_
  refine v_putI C h_l0 fp_X11_254 dX11_expression_53 (fun G1 eG1 => ?_)
  have hf := bd_at hf eG1
  have hC : Cl sh G1 := by rw [eG1]; exact hC
  refine v_aload_n C 0 dX11_expression_56 rfl rfl ?_
  obtain ⟨G3, qr2, hf⟩ := bn hf
  refine v_callVv (As := []) (rest := []) C (sX11_goesOn h_l0 qr2) cs_X11_248 (by decide) h_l0 rfl hC rfl rfl rfl (Nat.le_of_ble_eq_true rfl) ⟨Nat.le_refl _, Nat.le_refl _⟩ dX11_expression_57 (fun hC => ?_)
  refine v_aload_n C 0 dX11_expression_60 rfl rfl ?_
  obtain ⟨a4, qa4, hf⟩ := bn hf
  refine v_getA C h_l0 fl_X11_125 qa4 dX11_expression_61 (fun h_a4 => ?_)
  refine v_aload_n C 0 dX11_expression_64 rfl rfl ?_
  refine v_getI C h_l0 fl_X11_353 dX11_expression_65 ?_
  refine v_bipush (v := 6) C dX11_expression_68 (by decide) ?_
  obtain ⟨G5, qG5, hf⟩ := bn hf
  refine v_iast C h_a4 qG5 hC dX11_expression_70 (fun hC => ?_)
  refine v_aload_n C 0 dX11_expression_71 rfl rfl ?_
  refine v_dup C dX11_expression_72 rfl ?_
  refine v_getI C h_l0 fl_X11_353 dX11_expression_73 ?_
  refine v_iconst (v := 1) C dX11_expression_76 (by decide) ?_
  refine v_iadd C dX11_expression_77 ?_
  refine v_putI C h_l0 fp_X11_353 dX11_expression_78 (fun G6 eG6 => ?_)
  have hf := bd_at hf eG6
  have hC : Cl sh G6 := by rw [eG6]; exact hC
  refine v_goto (tgt := 23) C dX11_expression_81 (by decide) ?_
  cases hf
  refine v_sub [0, 1] rfl ?_
  exact kb _ rfl hC
def fX11_expression_S23 (sh : Sh) (l0 : Nat) (l1 : Int32) (G : Hp)  : Option ((Hp) ⊕ ((Hp))) := (fX11_is sh G l0 6).bind fun r1 => if r1 = 0 then some (.inr G) else if (G.1 l0 12) = 6 then (fX11_fail sh G l0 2).bind fun G5 => fX11_expression_J46L23 sh G5 l0 l1 else fX11_expression_J46L23 sh G l0 l1
set_option maxHeartbeats 4000000 in
theorem tX11_expression_S23 {E : EX} {ad : Nat → Nat} {sh : Sh} {G : Hp} {l0 : Nat} {l1 : Int32} {o : (Hp) ⊕ ((Hp))} (C : Cx E RX11 cX11_expression 3 none 4 0 0) (hC : Cl sh G) (h_l0 : sh[l0]? = some (0, 11)) (hf : fX11_expression_S23 sh l0 l1 G  = some o) (kb : ∀ (G2 : Hp), o = .inl G2 → Cl sh G2 → VV E 0 0 (wq (xT E) ad G2 sh) 23 [(0, .ref (ad l0)), (1, .int l1)] []) (kx84 : ∀ (G2 : Hp), o = .inr G2 → Cl sh G2 → VV E 0 0 (wq (xT E) ad G2 sh) 84 [(0, .ref (ad l0)), (1, .int l1)] []) : VV E 0 0 (wq (xT E) ad G sh) 23 [(0, .ref (ad l0)), (1, .int l1)] [] := by
  unfold fX11_expression_S23 at hf
  refine v_aload_n C 0 dX11_expression_23 rfl rfl ?_
  refine v_bipush (v := 6) C dX11_expression_24 (by decide) ?_
  obtain ⟨r1, qr1, hf⟩ := bn hf
  refine v_callVi (As := [.int 6]) (rest := []) C (sX11_is h_l0 qr1) cs_X11_245 (by decide) h_l0 rfl hC rfl rfl rfl (Nat.le_of_ble_eq_true rfl) ⟨Nat.le_refl _, Nat.le_refl _⟩ dX11_expression_26 (fun hC => ?_)
  refine v_if_eq (tgt := 84) C dX11_expression_29 (by decide) (fun c2 => ?_) (fun c2 => ?_)
  · have hf := ip hf c2
    cases hf
    refine v_sub [0, 1] rfl ?_
    exact kx84 _ rfl hC
  · have hf := im hf c2
    refine v_aload_n C 0 dX11_expression_32 rfl rfl ?_
    refine v_getI C h_l0 fl_X11_254 dX11_expression_33 ?_
    refine v_bipush (v := 6) C dX11_expression_36 (by decide) ?_
    refine v_icmp_ne (tgt := 46) C dX11_expression_38 (by decide) (fun c3 => ?_) (fun c3 => ?_)
    · have hf := im hf c3
      refine v_sub [0, 1] rfl ?_
      exact tX11_expression_J46L23 C hC h_l0 hf kb kx84
    · have hf := ip hf c3
      refine v_aload_n C 0 dX11_expression_41 rfl rfl ?_
      refine v_iconst (v := 2) C dX11_expression_42 (by decide) ?_
      obtain ⟨G5, qr4, hf⟩ := bn hf
      refine v_callVv (As := [.int 2]) (rest := []) C (sX11_fail h_l0 qr4) cs_X11_242 (by decide) h_l0 rfl hC rfl rfl rfl (Nat.le_of_ble_eq_true rfl) ⟨Nat.le_refl _, Nat.le_refl _⟩ dX11_expression_43 (fun hC => ?_)
      refine v_sub [0, 1] rfl ?_
      exact tX11_expression_J46L23 C hC h_l0 hf kb kx84
def fX11_expression_S96 (sh : Sh) (l0 : Nat) (l1 : Int32) (G : Hp)  : Option ((Hp) ⊕ ((Hp))) := (fX11_is sh G l0 7).bind fun r1 => if r1 = 0 then some (.inr G) else if (G.1 l0 12) ≤ l1 then some (.inr G) else (fX11_comesOut sh G l0 0).bind fun G5 => bd (sI G5 l0 54 ((G5.1 l0 54) - 1)) fun G6 => bd (sI G6 l0 12 ((G6.1 l0 12) - 1)) fun G7 => (fX11_goesOn sh G7 l0).bind fun G9 => some (.inl G9)
set_option maxHeartbeats 4000000 in
theorem tX11_expression_S96 {E : EX} {ad : Nat → Nat} {sh : Sh} {G : Hp} {l0 : Nat} {l1 : Int32} {o : (Hp) ⊕ ((Hp))} (C : Cx E RX11 cX11_expression 3 none 4 0 0) (hC : Cl sh G) (h_l0 : sh[l0]? = some (0, 11)) (hf : fX11_expression_S96 sh l0 l1 G  = some o) (kb : ∀ (G2 : Hp), o = .inl G2 → Cl sh G2 → VV E 0 0 (wq (xT E) ad G2 sh) 96 [(0, .ref (ad l0)), (1, .int l1)] []) (kx145 : ∀ (G2 : Hp), o = .inr G2 → Cl sh G2 → VV E 0 0 (wq (xT E) ad G2 sh) 145 [(0, .ref (ad l0)), (1, .int l1)] []) : VV E 0 0 (wq (xT E) ad G sh) 96 [(0, .ref (ad l0)), (1, .int l1)] [] := by
  unfold fX11_expression_S96 at hf
  refine v_aload_n C 0 dX11_expression_96 rfl rfl ?_
  refine v_bipush (v := 7) C dX11_expression_97 (by decide) ?_
  obtain ⟨r1, qr1, hf⟩ := bn hf
  refine v_callVi (As := [.int 7]) (rest := []) C (sX11_is h_l0 qr1) cs_X11_245 (by decide) h_l0 rfl hC rfl rfl rfl (Nat.le_of_ble_eq_true rfl) ⟨Nat.le_refl _, Nat.le_refl _⟩ dX11_expression_99 (fun hC => ?_)
  refine v_if_eq (tgt := 145) C dX11_expression_102 (by decide) (fun c2 => ?_) (fun c2 => ?_)
  · have hf := ip hf c2
    cases hf
    refine v_sub [0, 1] rfl ?_
    exact kx145 _ rfl hC
  · have hf := im hf c2
    refine v_aload_n C 0 dX11_expression_105 rfl rfl ?_
    refine v_getI C h_l0 fl_X11_254 dX11_expression_106 ?_
    refine v_iload_n C 1 dX11_expression_109 rfl rfl ?_
    refine v_icmp_le (tgt := 145) C dX11_expression_110 (by decide) (fun c3 => ?_) (fun c3 => ?_)
    · have hf := ip hf c3
      cases hf
      refine v_sub [0, 1] rfl ?_
      exact kx145 _ rfl hC
    · have hf := im hf c3
      refine v_aload_n C 0 dX11_expression_113 rfl rfl ?_
      refine v_iconst (v := 0) C dX11_expression_114 (by decide) ?_
      obtain ⟨G5, qr4, hf⟩ := bn hf
      refine v_callVv (As := [.int 0]) (rest := []) C (sX11_comesOut h_l0 qr4) cs_X11_362 (by decide) h_l0 rfl hC rfl rfl rfl (Nat.le_of_ble_eq_true rfl) ⟨Nat.le_refl _, Nat.le_refl _⟩ dX11_expression_115 (fun hC => ?_)
      refine v_aload_n C 0 dX11_expression_118 rfl rfl ?_
      refine v_dup C dX11_expression_119 rfl ?_
      refine v_getI C h_l0 fl_X11_353 dX11_expression_120 ?_
      refine v_iconst (v := 1) C dX11_expression_123 (by decide) ?_
      refine v_isub C dX11_expression_124 ?_
      refine v_putI C h_l0 fp_X11_353 dX11_expression_125 (fun G6 eG6 => ?_)
      have hf := bd_at hf eG6
      have hC : Cl sh G6 := by rw [eG6]; exact hC
      refine v_aload_n C 0 dX11_expression_128 rfl rfl ?_
      refine v_dup C dX11_expression_129 rfl ?_
      refine v_getI C h_l0 fl_X11_254 dX11_expression_130 ?_
      refine v_iconst (v := 1) C dX11_expression_133 (by decide) ?_
      refine v_isub C dX11_expression_134 ?_
      refine v_putI C h_l0 fp_X11_254 dX11_expression_135 (fun G7 eG7 => ?_)
      have hf := bd_at hf eG7
      have hC : Cl sh G7 := by rw [eG7]; exact hC
      refine v_aload_n C 0 dX11_expression_138 rfl rfl ?_
      obtain ⟨G9, qr8, hf⟩ := bn hf
      refine v_callVv (As := []) (rest := []) C (sX11_goesOn h_l0 qr8) cs_X11_248 (by decide) h_l0 rfl hC rfl rfl rfl (Nat.le_of_ble_eq_true rfl) ⟨Nat.le_refl _, Nat.le_refl _⟩ dX11_expression_139 (fun hC => ?_)
      refine v_goto (tgt := 96) C dX11_expression_142 (by decide) ?_
      cases hf
      refine v_sub [0, 1] rfl ?_
      exact kb _ rfl hC
def fX11_expression_J234L12 (sh : Sh) (G : Hp) (l0 : Nat) (l1 : Int32) (l2 : Int32) (s0 : Int32) (s1 : Nat) : Option ((Hp × Int32) ⊕ ((Hp) ⊕ (Hp) ⊕ (Hp))) := (fX11_comesOut sh G s1 s0).bind fun G2 => (ldA sh G2 l0 53 1).bind fun a3 => (ldA sh G2 l0 5 1).bind fun a4 => (aI sh G2 a4 (G2.1 l0 11)).bind fun v5 => (asI sh G2 a3 (G2.1 l0 54) v5).bind fun G6 => bd (sI G6 l0 54 ((G6.1 l0 54) + 1)) fun G7 => (fX11_goesOn sh G7 l0).bind fun G9 => some (.inl (G9, l2))
set_option maxHeartbeats 4000000 in
theorem tX11_expression_J234L12 {E : EX} {ad : Nat → Nat} {sh : Sh} {G : Hp} {l0 : Nat} {l1 : Int32} {l2 : Int32} {s0 : Int32} {s1 : Nat} {o : (Hp × Int32) ⊕ ((Hp) ⊕ (Hp) ⊕ (Hp))} (C : Cx E RX11 cX11_expression 3 none 4 0 0) (hC : Cl sh G) (h_l0 : sh[l0]? = some (0, 11)) (h_s1 : sh[s1]? = some (0, 11)) (hf : fX11_expression_J234L12 sh G l0 l1 l2 s0 s1 = some o) (kb : ∀ (G2 : Hp) (b_l2 : Int32), o = .inl (G2, b_l2) → Cl sh G2 → VV E 0 0 (wq (xT E) ad G2 sh) 12 [(0, .ref (ad l0)), (1, .int l1), (2, .int b_l2)] []) (kx272 : ∀ (G2 : Hp), o = .inr (.inl G2) → Cl sh G2 → VV E 0 0 (wq (xT E) ad G2 sh) 272 [(0, .ref (ad l0)), (1, .int l1)] []) (kx95 : ∀ (G2 : Hp), o = .inr (.inr (.inl G2)) → Cl sh G2 → VV E 0 0 (wq (xT E) ad G2 sh) 95 [(0, .ref (ad l0)), (1, .int l1)] []) (kx191 : ∀ (G2 : Hp), o = .inr (.inr (.inr G2)) → Cl sh G2 → VV E 0 0 (wq (xT E) ad G2 sh) 191 [(0, .ref (ad l0)), (1, .int l1)] []) : VV E 0 0 (wq (xT E) ad G sh) 234 [(0, .ref (ad l0)), (1, .int l1), (2, .int l2)] [.int s0, .ref (ad s1)] := by
  unfold fX11_expression_J234L12 at hf
  obtain ⟨G2, qr1, hf⟩ := bn hf
  refine v_callVv (As := [.int s0]) (rest := []) C (sX11_comesOut h_s1 qr1) cs_X11_362 (by decide) h_s1 rfl hC rfl rfl rfl (Nat.le_of_ble_eq_true rfl) ⟨Nat.le_refl _, Nat.le_refl _⟩ dX11_expression_234 (fun hC => ?_)
  refine v_aload_n C 0 dX11_expression_237 rfl rfl ?_
  obtain ⟨a3, qa3, hf⟩ := bn hf
  refine v_getA C h_l0 fl_X11_125 qa3 dX11_expression_238 (fun h_a3 => ?_)
  refine v_aload_n C 0 dX11_expression_241 rfl rfl ?_
  refine v_getI C h_l0 fl_X11_353 dX11_expression_242 ?_
  refine v_aload_n C 0 dX11_expression_245 rfl rfl ?_
  obtain ⟨a4, qa4, hf⟩ := bn hf
  refine v_getA C h_l0 fl_X11_20 qa4 dX11_expression_246 (fun h_a4 => ?_)
  refine v_aload_n C 0 dX11_expression_249 rfl rfl ?_
  refine v_getI C h_l0 fl_X11_230 dX11_expression_250 ?_
  obtain ⟨v5, qv5, hf⟩ := bn hf
  refine v_iald C h_a4 qv5 dX11_expression_253 ?_
  obtain ⟨G6, qG6, hf⟩ := bn hf
  refine v_iast C h_a3 qG6 hC dX11_expression_254 (fun hC => ?_)
  refine v_aload_n C 0 dX11_expression_255 rfl rfl ?_
  refine v_dup C dX11_expression_256 rfl ?_
  refine v_getI C h_l0 fl_X11_353 dX11_expression_257 ?_
  refine v_iconst (v := 1) C dX11_expression_260 (by decide) ?_
  refine v_iadd C dX11_expression_261 ?_
  refine v_putI C h_l0 fp_X11_353 dX11_expression_262 (fun G7 eG7 => ?_)
  have hf := bd_at hf eG7
  have hC : Cl sh G7 := by rw [eG7]; exact hC
  refine v_aload_n C 0 dX11_expression_265 rfl rfl ?_
  obtain ⟨G9, qr8, hf⟩ := bn hf
  refine v_callVv (As := []) (rest := []) C (sX11_goesOn h_l0 qr8) cs_X11_248 (by decide) h_l0 rfl hC rfl rfl rfl (Nat.le_of_ble_eq_true rfl) ⟨Nat.le_refl _, Nat.le_refl _⟩ dX11_expression_266 (fun hC => ?_)
  refine v_goto (tgt := 12) C dX11_expression_269 (by decide) ?_
  cases hf
  refine v_sub [0, 1, 2] rfl ?_
  exact kb _ _ rfl hC
def fX11_expression_J229L12 (sh : Sh) (G : Hp) (l0 : Nat) (l1 : Int32) (l2 : Int32) (s0 : Nat) : Option ((Hp × Int32) ⊕ ((Hp) ⊕ (Hp) ⊕ (Hp))) := fX11_expression_J234L12 sh G l0 l1 l2 1 s0
set_option maxHeartbeats 4000000 in
theorem tX11_expression_J229L12 {E : EX} {ad : Nat → Nat} {sh : Sh} {G : Hp} {l0 : Nat} {l1 : Int32} {l2 : Int32} {s0 : Nat} {o : (Hp × Int32) ⊕ ((Hp) ⊕ (Hp) ⊕ (Hp))} (C : Cx E RX11 cX11_expression 3 none 4 0 0) (hC : Cl sh G) (h_l0 : sh[l0]? = some (0, 11)) (h_s0 : sh[s0]? = some (0, 11)) (hf : fX11_expression_J229L12 sh G l0 l1 l2 s0 = some o) (kb : ∀ (G2 : Hp) (b_l2 : Int32), o = .inl (G2, b_l2) → Cl sh G2 → VV E 0 0 (wq (xT E) ad G2 sh) 12 [(0, .ref (ad l0)), (1, .int l1), (2, .int b_l2)] []) (kx272 : ∀ (G2 : Hp), o = .inr (.inl G2) → Cl sh G2 → VV E 0 0 (wq (xT E) ad G2 sh) 272 [(0, .ref (ad l0)), (1, .int l1)] []) (kx95 : ∀ (G2 : Hp), o = .inr (.inr (.inl G2)) → Cl sh G2 → VV E 0 0 (wq (xT E) ad G2 sh) 95 [(0, .ref (ad l0)), (1, .int l1)] []) (kx191 : ∀ (G2 : Hp), o = .inr (.inr (.inr G2)) → Cl sh G2 → VV E 0 0 (wq (xT E) ad G2 sh) 191 [(0, .ref (ad l0)), (1, .int l1)] []) : VV E 0 0 (wq (xT E) ad G sh) 229 [(0, .ref (ad l0)), (1, .int l1), (2, .int l2)] [.ref (ad s0)] := by
  unfold fX11_expression_J229L12 at hf
  refine v_iconst (v := 1) C dX11_expression_229 (by decide) ?_
  refine v_goto (tgt := 234) C dX11_expression_230 (by decide) ?_
  refine v_sub [0, 1, 2] rfl ?_
  exact tX11_expression_J234L12 C hC h_l0 h_s0 hf kb kx272 kx95 kx191
def fX11_expression_J186L12 (sh : Sh) (G : Hp) (l0 : Nat) (l1 : Int32) (s0 : Int32) : Option ((Hp × Int32) ⊕ ((Hp) ⊕ (Hp) ⊕ (Hp))) := if s0 = 0 then some (.inr (.inr (.inr G))) else (fX11_is sh G l0 10).bind fun r2 => if r2 = 0 then (fX11_is sh G l0 15).bind fun r4 => if r4 = 0 then fX11_expression_J234L12 sh G l0 l1 s0 0 l0 else fX11_expression_J229L12 sh G l0 l1 s0 l0 else fX11_expression_J229L12 sh G l0 l1 s0 l0
set_option maxHeartbeats 4000000 in
theorem tX11_expression_J186L12 {E : EX} {ad : Nat → Nat} {sh : Sh} {G : Hp} {l0 : Nat} {l1 : Int32} {s0 : Int32} {o : (Hp × Int32) ⊕ ((Hp) ⊕ (Hp) ⊕ (Hp))} (C : Cx E RX11 cX11_expression 3 none 4 0 0) (hC : Cl sh G) (h_l0 : sh[l0]? = some (0, 11)) (hf : fX11_expression_J186L12 sh G l0 l1 s0 = some o) (kb : ∀ (G2 : Hp) (b_l2 : Int32), o = .inl (G2, b_l2) → Cl sh G2 → VV E 0 0 (wq (xT E) ad G2 sh) 12 [(0, .ref (ad l0)), (1, .int l1), (2, .int b_l2)] []) (kx272 : ∀ (G2 : Hp), o = .inr (.inl G2) → Cl sh G2 → VV E 0 0 (wq (xT E) ad G2 sh) 272 [(0, .ref (ad l0)), (1, .int l1)] []) (kx95 : ∀ (G2 : Hp), o = .inr (.inr (.inl G2)) → Cl sh G2 → VV E 0 0 (wq (xT E) ad G2 sh) 95 [(0, .ref (ad l0)), (1, .int l1)] []) (kx191 : ∀ (G2 : Hp), o = .inr (.inr (.inr G2)) → Cl sh G2 → VV E 0 0 (wq (xT E) ad G2 sh) 191 [(0, .ref (ad l0)), (1, .int l1)] []) : VV E 0 0 (wq (xT E) ad G sh) 186 [(0, .ref (ad l0)), (1, .int l1)] [.int s0] := by
  unfold fX11_expression_J186L12 at hf
  refine v_istore_n (lv2 := [(2, .int s0), (0, .ref (ad l0)), (1, .int l1)]) C dX11_expression_186 rfl (by decide) rfl ?_
  refine v_iload_n C 0 dX11_expression_187 rfl rfl ?_
  refine v_if_ne (tgt := 210) C dX11_expression_188 (by decide) (fun c1 => ?_) (fun c1 => ?_)
  · have hf := im hf c1
    refine v_aload_n C 1 dX11_expression_210 rfl rfl ?_
    refine v_aload_n C 1 dX11_expression_211 rfl rfl ?_
    refine v_bipush (v := 10) C dX11_expression_212 (by decide) ?_
    obtain ⟨r2, qr2, hf⟩ := bn hf
    refine v_callVi (As := [.int 10]) (rest := [.ref (ad l0)]) C (sX11_is h_l0 qr2) cs_X11_245 (by decide) h_l0 rfl hC rfl rfl rfl (Nat.le_of_ble_eq_true rfl) ⟨Nat.le_refl _, Nat.le_refl _⟩ dX11_expression_214 (fun hC => ?_)
    refine v_if_ne (tgt := 229) C dX11_expression_217 (by decide) (fun c3 => ?_) (fun c3 => ?_)
    · have hf := im hf c3
      refine v_sub [1, 2, 0] rfl ?_
      exact tX11_expression_J229L12 C hC h_l0 h_l0 hf kb kx272 kx95 kx191
    · have hf := ip hf c3
      refine v_aload_n C 1 dX11_expression_220 rfl rfl ?_
      refine v_bipush (v := 15) C dX11_expression_221 (by decide) ?_
      obtain ⟨r4, qr4, hf⟩ := bn hf
      refine v_callVi (As := [.int 15]) (rest := [.ref (ad l0)]) C (sX11_is h_l0 qr4) cs_X11_245 (by decide) h_l0 rfl hC rfl rfl rfl (Nat.le_of_ble_eq_true rfl) ⟨Nat.le_refl _, Nat.le_refl _⟩ dX11_expression_223 (fun hC => ?_)
      refine v_if_eq (tgt := 233) C dX11_expression_226 (by decide) (fun c5 => ?_) (fun c5 => ?_)
      · have hf := ip hf c5
        refine v_iconst (v := 0) C dX11_expression_233 (by decide) ?_
        refine v_sub [1, 2, 0] rfl ?_
        exact tX11_expression_J234L12 C hC h_l0 h_l0 hf kb kx272 kx95 kx191
      · have hf := im hf c5
        refine v_sub [1, 2, 0] rfl ?_
        exact tX11_expression_J229L12 C hC h_l0 h_l0 hf kb kx272 kx95 kx191
  · have hf := ip hf c1
    cases hf
    refine v_sub [1, 2] rfl ?_
    exact kx191 _ rfl hC
def fX11_expression_J181L12 (sh : Sh) (G : Hp) (l0 : Nat) (l1 : Int32) : Option ((Hp × Int32) ⊕ ((Hp) ⊕ (Hp) ⊕ (Hp))) := fX11_expression_J186L12 sh G l0 l1 1
set_option maxHeartbeats 4000000 in
theorem tX11_expression_J181L12 {E : EX} {ad : Nat → Nat} {sh : Sh} {G : Hp} {l0 : Nat} {l1 : Int32} {o : (Hp × Int32) ⊕ ((Hp) ⊕ (Hp) ⊕ (Hp))} (C : Cx E RX11 cX11_expression 3 none 4 0 0) (hC : Cl sh G) (h_l0 : sh[l0]? = some (0, 11)) (hf : fX11_expression_J181L12 sh G l0 l1 = some o) (kb : ∀ (G2 : Hp) (b_l2 : Int32), o = .inl (G2, b_l2) → Cl sh G2 → VV E 0 0 (wq (xT E) ad G2 sh) 12 [(0, .ref (ad l0)), (1, .int l1), (2, .int b_l2)] []) (kx272 : ∀ (G2 : Hp), o = .inr (.inl G2) → Cl sh G2 → VV E 0 0 (wq (xT E) ad G2 sh) 272 [(0, .ref (ad l0)), (1, .int l1)] []) (kx95 : ∀ (G2 : Hp), o = .inr (.inr (.inl G2)) → Cl sh G2 → VV E 0 0 (wq (xT E) ad G2 sh) 95 [(0, .ref (ad l0)), (1, .int l1)] []) (kx191 : ∀ (G2 : Hp), o = .inr (.inr (.inr G2)) → Cl sh G2 → VV E 0 0 (wq (xT E) ad G2 sh) 191 [(0, .ref (ad l0)), (1, .int l1)] []) : VV E 0 0 (wq (xT E) ad G sh) 181 [(0, .ref (ad l0)), (1, .int l1)] [] := by
  unfold fX11_expression_J181L12 at hf
  refine v_iconst (v := 1) C dX11_expression_181 (by decide) ?_
  refine v_goto (tgt := 186) C dX11_expression_182 (by decide) ?_
  refine v_sub [0, 1] rfl ?_
  exact tX11_expression_J186L12 C hC h_l0 hf kb kx272 kx95 kx191
def fX11_expression_J145L12 (sh : Sh) (G : Hp) (l0 : Nat) (l1 : Int32) : Option ((Hp × Int32) ⊕ ((Hp) ⊕ (Hp) ⊕ (Hp))) := (fX11_is sh G l0 8).bind fun r1 => if r1 = 0 then (fX11_is sh G l0 9).bind fun r3 => if r3 = 0 then (fX11_is sh G l0 10).bind fun r5 => if r5 = 0 then (fX11_is sh G l0 15).bind fun r7 => if r7 = 0 then fX11_expression_J186L12 sh G l0 l1 0 else fX11_expression_J181L12 sh G l0 l1 else fX11_expression_J181L12 sh G l0 l1 else fX11_expression_J181L12 sh G l0 l1 else fX11_expression_J181L12 sh G l0 l1
set_option maxHeartbeats 4000000 in
theorem tX11_expression_J145L12 {E : EX} {ad : Nat → Nat} {sh : Sh} {G : Hp} {l0 : Nat} {l1 : Int32} {o : (Hp × Int32) ⊕ ((Hp) ⊕ (Hp) ⊕ (Hp))} (C : Cx E RX11 cX11_expression 3 none 4 0 0) (hC : Cl sh G) (h_l0 : sh[l0]? = some (0, 11)) (hf : fX11_expression_J145L12 sh G l0 l1 = some o) (kb : ∀ (G2 : Hp) (b_l2 : Int32), o = .inl (G2, b_l2) → Cl sh G2 → VV E 0 0 (wq (xT E) ad G2 sh) 12 [(0, .ref (ad l0)), (1, .int l1), (2, .int b_l2)] []) (kx272 : ∀ (G2 : Hp), o = .inr (.inl G2) → Cl sh G2 → VV E 0 0 (wq (xT E) ad G2 sh) 272 [(0, .ref (ad l0)), (1, .int l1)] []) (kx95 : ∀ (G2 : Hp), o = .inr (.inr (.inl G2)) → Cl sh G2 → VV E 0 0 (wq (xT E) ad G2 sh) 95 [(0, .ref (ad l0)), (1, .int l1)] []) (kx191 : ∀ (G2 : Hp), o = .inr (.inr (.inr G2)) → Cl sh G2 → VV E 0 0 (wq (xT E) ad G2 sh) 191 [(0, .ref (ad l0)), (1, .int l1)] []) : VV E 0 0 (wq (xT E) ad G sh) 145 [(0, .ref (ad l0)), (1, .int l1)] [] := by
  unfold fX11_expression_J145L12 at hf
  refine v_aload_n C 0 dX11_expression_145 rfl rfl ?_
  refine v_bipush (v := 8) C dX11_expression_146 (by decide) ?_
  obtain ⟨r1, qr1, hf⟩ := bn hf
  refine v_callVi (As := [.int 8]) (rest := []) C (sX11_is h_l0 qr1) cs_X11_245 (by decide) h_l0 rfl hC rfl rfl rfl (Nat.le_of_ble_eq_true rfl) ⟨Nat.le_refl _, Nat.le_refl _⟩ dX11_expression_148 (fun hC => ?_)
  refine v_if_ne (tgt := 181) C dX11_expression_151 (by decide) (fun c2 => ?_) (fun c2 => ?_)
  · have hf := im hf c2
    refine v_sub [0, 1] rfl ?_
    exact tX11_expression_J181L12 C hC h_l0 hf kb kx272 kx95 kx191
  · have hf := ip hf c2
    refine v_aload_n C 0 dX11_expression_154 rfl rfl ?_
    refine v_bipush (v := 9) C dX11_expression_155 (by decide) ?_
    obtain ⟨r3, qr3, hf⟩ := bn hf
    refine v_callVi (As := [.int 9]) (rest := []) C (sX11_is h_l0 qr3) cs_X11_245 (by decide) h_l0 rfl hC rfl rfl rfl (Nat.le_of_ble_eq_true rfl) ⟨Nat.le_refl _, Nat.le_refl _⟩ dX11_expression_157 (fun hC => ?_)
    refine v_if_ne (tgt := 181) C dX11_expression_160 (by decide) (fun c4 => ?_) (fun c4 => ?_)
    · have hf := im hf c4
      refine v_sub [0, 1] rfl ?_
      exact tX11_expression_J181L12 C hC h_l0 hf kb kx272 kx95 kx191
    · have hf := ip hf c4
      refine v_aload_n C 0 dX11_expression_163 rfl rfl ?_
      refine v_bipush (v := 10) C dX11_expression_164 (by decide) ?_
      obtain ⟨r5, qr5, hf⟩ := bn hf
      refine v_callVi (As := [.int 10]) (rest := []) C (sX11_is h_l0 qr5) cs_X11_245 (by decide) h_l0 rfl hC rfl rfl rfl (Nat.le_of_ble_eq_true rfl) ⟨Nat.le_refl _, Nat.le_refl _⟩ dX11_expression_166 (fun hC => ?_)
      refine v_if_ne (tgt := 181) C dX11_expression_169 (by decide) (fun c6 => ?_) (fun c6 => ?_)
      · have hf := im hf c6
        refine v_sub [0, 1] rfl ?_
        exact tX11_expression_J181L12 C hC h_l0 hf kb kx272 kx95 kx191
      · have hf := ip hf c6
        refine v_aload_n C 0 dX11_expression_172 rfl rfl ?_
        refine v_bipush (v := 15) C dX11_expression_173 (by decide) ?_
        obtain ⟨r7, qr7, hf⟩ := bn hf
        refine v_callVi (As := [.int 15]) (rest := []) C (sX11_is h_l0 qr7) cs_X11_245 (by decide) h_l0 rfl hC rfl rfl rfl (Nat.le_of_ble_eq_true rfl) ⟨Nat.le_refl _, Nat.le_refl _⟩ dX11_expression_175 (fun hC => ?_)
        refine v_if_eq (tgt := 185) C dX11_expression_178 (by decide) (fun c8 => ?_) (fun c8 => ?_)
        · have hf := ip hf c8
          refine v_iconst (v := 0) C dX11_expression_185 (by decide) ?_
          refine v_sub [0, 1] rfl ?_
          exact tX11_expression_J186L12 C hC h_l0 hf kb kx272 kx95 kx191
        · have hf := im hf c8
          refine v_sub [0, 1] rfl ?_
          exact tX11_expression_J181L12 C hC h_l0 hf kb kx272 kx95 kx191
def fX11_expression_S12 (sh : Sh) (l0 : Nat) (l1 : Int32) (G : Hp) (l2 : Int32) : Option ((Hp × Int32) ⊕ ((Hp) ⊕ (Hp) ⊕ (Hp))) := if l2 = 0 then some (.inr (.inl G)) else if (G.1 l0 13) = 0 then (iter (fun s : Hp => fX11_expression_S23 sh l0 l1 s ) fuel (G : Hp)).bind (fun u11 => bd u11 fun G4 => (fX11_unit sh G4 l0).bind fun G6 => if (G6.1 l0 13) ≤ 0 then (iter (fun s : Hp => fX11_expression_S96 sh l0 l1 s ) fuel (G6 : Hp)).bind (fun u10 => bd u10 fun G9 => fX11_expression_J145L12 sh G9 l0 l1) else some (.inr (.inr (.inl G6)))) else some (.inr (.inl G))
set_option maxHeartbeats 4000000 in
theorem tX11_expression_S12 {E : EX} {ad : Nat → Nat} {sh : Sh} {G : Hp} {l0 : Nat} {l1 : Int32} {l2 : Int32} {o : (Hp × Int32) ⊕ ((Hp) ⊕ (Hp) ⊕ (Hp))} (C : Cx E RX11 cX11_expression 3 none 4 0 0) (hC : Cl sh G) (h_l0 : sh[l0]? = some (0, 11)) (hf : fX11_expression_S12 sh l0 l1 G l2 = some o) (kb : ∀ (G2 : Hp) (b_l2 : Int32), o = .inl (G2, b_l2) → Cl sh G2 → VV E 0 0 (wq (xT E) ad G2 sh) 12 [(0, .ref (ad l0)), (1, .int l1), (2, .int b_l2)] []) (kx272 : ∀ (G2 : Hp), o = .inr (.inl G2) → Cl sh G2 → VV E 0 0 (wq (xT E) ad G2 sh) 272 [(0, .ref (ad l0)), (1, .int l1)] []) (kx95 : ∀ (G2 : Hp), o = .inr (.inr (.inl G2)) → Cl sh G2 → VV E 0 0 (wq (xT E) ad G2 sh) 95 [(0, .ref (ad l0)), (1, .int l1)] []) (kx191 : ∀ (G2 : Hp), o = .inr (.inr (.inr G2)) → Cl sh G2 → VV E 0 0 (wq (xT E) ad G2 sh) 191 [(0, .ref (ad l0)), (1, .int l1)] []) : VV E 0 0 (wq (xT E) ad G sh) 12 [(0, .ref (ad l0)), (1, .int l1), (2, .int l2)] [] := by
  unfold fX11_expression_S12 at hf
  refine v_iload_n C 2 dX11_expression_12 rfl rfl ?_
  refine v_if_eq (tgt := 272) C dX11_expression_13 (by decide) (fun c1 => ?_) (fun c1 => ?_)
  · have hf := ip hf c1
    cases hf
    refine v_sub [0, 1] rfl ?_
    exact kx272 _ rfl hC
  · have hf := im hf c1
    refine v_aload_n C 0 dX11_expression_16 rfl rfl ?_
    refine v_getI C h_l0 fl_X11_227 dX11_expression_17 ?_
    refine v_if_ne (tgt := 272) C dX11_expression_20 (by decide) (fun c2 => ?_) (fun c2 => ?_)
    · have hf := im hf c2
      cases hf
      refine v_sub [0, 1] rfl ?_
      exact kx272 _ rfl hC
    · have hf := ip hf c2
      obtain ⟨r3, qr3, hf⟩ := bn hf
      refine v_sub [0, 1] rfl ?_
      refine iter_sound (P := (fun s : Hp => Cl sh (s) → VV E 0 0 (wq (xT E) ad (s) sh) 23 [(0, .ref (ad l0)), (1, .int (l1))] [])) (X := fun r => r = r3) (fun jsr3 jor3 hor3 jbr3 jxr3 hC => tX11_expression_S23 C hC h_l0 hor3 (fun _ e => jbr3 _ e) ?_) fuel _ r3 qr3 rfl hC
      · intro G4 hu hC
        have e := jxr3 _ hu
        subst e
        have hf := bd_at hf (rfl : G4 = _)
        refine v_aload_n C 0 dX11_expression_84 rfl rfl ?_
        obtain ⟨G6, qr5, hf⟩ := bn hf
        refine v_callVv (As := []) (rest := []) C (sX11_unit h_l0 qr5) cs_X11_359 (by decide) h_l0 rfl hC rfl rfl rfl (Nat.le_of_ble_eq_true rfl) ⟨Nat.le_refl _, Nat.le_refl _⟩ dX11_expression_85 (fun hC => ?_)
        refine v_aload_n C 0 dX11_expression_88 rfl rfl ?_
        refine v_getI C h_l0 fl_X11_227 dX11_expression_89 ?_
        refine v_if_le (tgt := 96) C dX11_expression_92 (by decide) (fun c7 => ?_) (fun c7 => ?_)
        · have hf := ip hf c7
          obtain ⟨r8, qr8, hf⟩ := bn hf
          refine v_sub [0, 1] rfl ?_
          refine iter_sound (P := (fun s : Hp => Cl sh (s) → VV E 0 0 (wq (xT E) ad (s) sh) 96 [(0, .ref (ad l0)), (1, .int (l1))] [])) (X := fun r => r = r8) (fun jsr8 jor8 hor8 jbr8 jxr8 hC => tX11_expression_S96 C hC h_l0 hor8 (fun _ e => jbr8 _ e) ?_) fuel _ r8 qr8 rfl hC
          · intro G9 hu hC
            have e := jxr8 _ hu
            subst e
            have hf := bd_at hf (rfl : G9 = _)
            refine v_sub [0, 1] rfl ?_
            exact tX11_expression_J145L12 C hC h_l0 hf kb kx272 kx95 kx191
        · have hf := im hf c7
          cases hf
          refine v_sub [0, 1] rfl ?_
          exact kx95 _ rfl hC
def fX11_expression (sh : Sh) (G : Hp) (l0 : Nat) : Option (Hp) := bd (sI G l0 54 0) fun G1 => bd ((G1.1 l0 12) : Int32) fun x2 => (iter (fun s : Hp × Int32 => fX11_expression_S12 sh l0 x2 s.1 s.2) fuel ((G1, 1) : Hp × Int32)).bind (Sum.elim (fun u5 => bd u5 fun G4 => some G4) (Sum.elim (fun u7 => bd u7 fun G6 => some G6) (fun u16 => bd u16 fun G8 => if (G8.1 l0 12) ≤ x2 then (fX11_comesOut sh G8 l0 0).bind fun G11 => some G11 else (fX11_fail sh G8 l0 1).bind fun G13 => (fX11_comesOut sh G13 l0 0).bind fun G15 => some G15)))
set_option maxHeartbeats 4000000 in
theorem tX11_expression {E : EX} {ad : Nat → Nat} {sh : Sh} {G : Hp} {l0 : Nat} {z : Hp} (C : Cx E RX11 cX11_expression 3 none 4 0 0) (hC : Cl sh G) (h_l0 : sh[l0]? = some (0, 11)) (hf : fX11_expression sh G l0 = some z) (kr : RCv E cX11_expression ad sh z) : VV E 0 0 (wq (xT E) ad G sh) 0 [(0, .ref (ad l0))] [] := by
  unfold fX11_expression at hf
  refine v_aload_n C 0 dX11_expression_0 rfl rfl ?_
  refine v_iconst (v := 0) C dX11_expression_1 (by decide) ?_
  refine v_putI C h_l0 fp_X11_353 dX11_expression_2 (fun G1 eG1 => ?_)
  have hf := bd_at hf eG1
  have hC : Cl sh G1 := by rw [eG1]; exact hC
  refine v_aload_n C 0 dX11_expression_5 rfl rfl ?_
  refine v_getI C h_l0 fl_X11_254 dX11_expression_6 ?_
  refine v_topi (fun x2 ex2 => ?_)
  have hf := bd_at hf ex2
  refine v_istore_n (lv2 := [(1, .int x2), (0, .ref (ad l0))]) C dX11_expression_9 rfl (by decide) rfl ?_
  refine v_iconst (v := 1) C dX11_expression_10 (by decide) ?_
  refine v_istore_n (lv2 := [(2, .int 1), (1, .int x2), (0, .ref (ad l0))]) C dX11_expression_11 rfl (by decide) rfl ?_
  obtain ⟨r3, qr3, hf⟩ := bn hf
  refine v_sub [2, 1, 0] rfl ?_
  refine iter_sound (P := (fun s : Hp × Int32 => Cl sh (s.1) → VV E 0 0 (wq (xT E) ad (s.1) sh) 12 [(0, .ref (ad l0)), (1, .int (x2)), (2, .int (s.2))] [])) (X := fun r => r = r3) (fun jsr3 jor3 hor3 jbr3 jxr3 hC => tX11_expression_S12 C hC h_l0 hor3 (fun _ _ e => jbr3 _ e) ?_ ?_ ?_) fuel _ r3 qr3 rfl hC
  · intro G4 hu hC
    have e := jxr3 _ hu
    subst e
    have hf := sm_l hf
    have hf := bd_at hf (rfl : G4 = _)
    cases hf
    exact kr _ _ dX11_expression_272 hC
  · intro G6 hu hC
    have e := jxr3 _ hu
    subst e
    have hf := sm_r hf
    have hf := sm_l hf
    have hf := bd_at hf (rfl : G6 = _)
    cases hf
    exact kr _ _ dX11_expression_95 hC
  · intro G8 hu hC
    have e := jxr3 _ hu
    subst e
    have hf := sm_r hf
    have hf := sm_r hf
    have hf := bd_at hf (rfl : G8 = _)
    refine v_aload_n C 0 dX11_expression_191 rfl rfl ?_
    refine v_getI C h_l0 fl_X11_254 dX11_expression_192 ?_
    refine v_iload_n C 1 dX11_expression_195 rfl rfl ?_
    refine v_icmp_le (tgt := 204) C dX11_expression_196 (by decide) (fun c9 => ?_) (fun c9 => ?_)
    · have hf := ip hf c9
      refine v_aload_n C 0 dX11_expression_204 rfl rfl ?_
      refine v_iconst (v := 0) C dX11_expression_205 (by decide) ?_
      obtain ⟨G11, qr10, hf⟩ := bn hf
      refine v_callVv (As := [.int 0]) (rest := []) C (sX11_comesOut h_l0 qr10) cs_X11_362 (by decide) h_l0 rfl hC rfl rfl rfl (Nat.le_of_ble_eq_true rfl) ⟨Nat.le_refl _, Nat.le_refl _⟩ dX11_expression_206 (fun hC => ?_)
      cases hf
      exact kr _ _ dX11_expression_209 hC
    · have hf := im hf c9
      refine v_aload_n C 0 dX11_expression_199 rfl rfl ?_
      refine v_iconst (v := 1) C dX11_expression_200 (by decide) ?_
      obtain ⟨G13, qr12, hf⟩ := bn hf
      refine v_callVv (As := [.int 1]) (rest := []) C (sX11_fail h_l0 qr12) cs_X11_242 (by decide) h_l0 rfl hC rfl rfl rfl (Nat.le_of_ble_eq_true rfl) ⟨Nat.le_refl _, Nat.le_refl _⟩ dX11_expression_201 (fun hC => ?_)
      refine v_aload_n C 0 dX11_expression_204 rfl rfl ?_
      refine v_iconst (v := 0) C dX11_expression_205 (by decide) ?_
      obtain ⟨G15, qr14, hf⟩ := bn hf
      refine v_callVv (As := [.int 0]) (rest := []) C (sX11_comesOut h_l0 qr14) cs_X11_362 (by decide) h_l0 rfl hC rfl rfl rfl (Nat.le_of_ble_eq_true rfl) ⟨Nat.le_refl _, Nat.le_refl _⟩ dX11_expression_206 (fun hC => ?_)
      cases hf
      exact kr _ _ dX11_expression_209 hC
theorem sX11_expression {l : Launch} {sh : Sh} {G : Hp} {l0 : Nat} {z : Hp} (h_l0 : sh[l0]? = some (0, 11)) (hf : fX11_expression sh G l0 = some z) : MC l yX11_expression cX11_expression 3 none 4 0 0 sh sh G z (fun ad => [.ref (ad l0)]) (fun _ => none) := by
  refine MC_of rfl rfl (fun _ => Nat.le_of_ble_eq_true rfl) (fun E ad C hl hnm hC hQ => ?_)
  exact tX11_expression C hC h_l0 hf (fun pc lv hd hC => v_vret C hQ (fun _ _ => rfl) hC rfl hd)
def fX11_term_J24 (sh : Sh) (G : Hp) (l0 : Nat) : Option (Hp) := (ldA sh G l0 47 1).bind fun a1 => (asI sh G a1 (G.1 l0 42) (G.1 l0 48)).bind fun G2 => bd (sI G2 l0 42 ((G2.1 l0 42) + 1)) fun G3 => some G3
set_option maxHeartbeats 4000000 in
theorem tX11_term_J24 {E : EX} {ad : Nat → Nat} {sh : Sh} {G : Hp} {l0 : Nat} {z : Hp} (C : Cx E RX11 cX11_term 1 none 5 0 0) (hC : Cl sh G) (h_l0 : sh[l0]? = some (0, 11)) (hf : fX11_term_J24 sh G l0 = some z) (kr : RCv E cX11_term ad sh z) : VV E 0 0 (wq (xT E) ad G sh) 24 [(0, .ref (ad l0))] [] := by
  unfold fX11_term_J24 at hf
  refine v_aload_n C 0 dX11_term_24 rfl rfl ?_
  obtain ⟨a1, qa1, hf⟩ := bn hf
  refine v_getA C h_l0 fl_X11_113 qa1 dX11_term_25 (fun h_a1 => ?_)
  refine v_aload_n C 0 dX11_term_28 rfl rfl ?_
  refine v_getI C h_l0 fl_X11_266 dX11_term_29 ?_
  refine v_aload_n C 0 dX11_term_32 rfl rfl ?_
  refine v_getI C h_l0 fl_X11_269 dX11_term_33 ?_
  obtain ⟨G2, qG2, hf⟩ := bn hf
  refine v_iast C h_a1 qG2 hC dX11_term_36 (fun hC => ?_)
  refine v_aload_n C 0 dX11_term_37 rfl rfl ?_
  refine v_dup C dX11_term_38 rfl ?_
  refine v_getI C h_l0 fl_X11_266 dX11_term_39 ?_
  refine v_iconst (v := 1) C dX11_term_42 (by decide) ?_
  refine v_iadd C dX11_term_43 ?_
  refine v_putI C h_l0 fp_X11_266 dX11_term_44 (fun G3 eG3 => ?_)
  have hf := bd_at hf eG3
  have hC : Cl sh G3 := by rw [eG3]; exact hC
  cases hf
  exact kr _ _ dX11_term_47 hC
def fX11_term (sh : Sh) (G : Hp) (l0 : Nat) : Option (Hp) := (ldA sh G l0 46 1).bind fun a1 => (asI sh G a1 (G.1 l0 42) (G.1 l0 48)).bind fun G2 => if (G2.1 l0 13) = 0 then (fX11_expression sh G2 l0).bind fun G5 => fX11_term_J24 sh G5 l0 else fX11_term_J24 sh G2 l0
set_option maxHeartbeats 4000000 in
theorem tX11_term {E : EX} {ad : Nat → Nat} {sh : Sh} {G : Hp} {l0 : Nat} {z : Hp} (C : Cx E RX11 cX11_term 1 none 5 0 0) (hC : Cl sh G) (h_l0 : sh[l0]? = some (0, 11)) (hf : fX11_term sh G l0 = some z) (kr : RCv E cX11_term ad sh z) : VV E 0 0 (wq (xT E) ad G sh) 0 [(0, .ref (ad l0))] [] := by
  unfold fX11_term at hf
  refine v_aload_n C 0 dX11_term_0 rfl rfl ?_
  obtain ⟨a1, qa1, hf⟩ := bn hf
  refine v_getA C h_l0 fl_X11_110 qa1 dX11_term_1 (fun h_a1 => ?_)
  refine v_aload_n C 0 dX11_term_4 rfl rfl ?_
  refine v_getI C h_l0 fl_X11_266 dX11_term_5 ?_
  refine v_aload_n C 0 dX11_term_8 rfl rfl ?_
  refine v_getI C h_l0 fl_X11_269 dX11_term_9 ?_
  obtain ⟨G2, qG2, hf⟩ := bn hf
  refine v_iast C h_a1 qG2 hC dX11_term_12 (fun hC => ?_)
  refine v_aload_n C 0 dX11_term_13 rfl rfl ?_
  refine v_getI C h_l0 fl_X11_227 dX11_term_14 ?_
  refine v_if_ne (tgt := 24) C dX11_term_17 (by decide) (fun c3 => ?_) (fun c3 => ?_)
  · have hf := im hf c3
    refine v_sub [0] rfl ?_
    exact tX11_term_J24 C hC h_l0 hf kr
  · have hf := ip hf c3
    refine v_aload_n C 0 dX11_term_20 rfl rfl ?_
    obtain ⟨G5, qr4, hf⟩ := bn hf
    refine v_callVv (As := []) (rest := []) C (sX11_expression h_l0 qr4) cs_X11_347 (by decide) h_l0 rfl hC rfl rfl rfl (Nat.le_of_ble_eq_true rfl) ⟨Nat.le_refl _, Nat.le_refl _⟩ dX11_term_21 (fun hC => ?_)
    refine v_sub [0] rfl ?_
    exact tX11_term_J24 C hC h_l0 hf kr
theorem sX11_term {l : Launch} {sh : Sh} {G : Hp} {l0 : Nat} {z : Hp} (h_l0 : sh[l0]? = some (0, 11)) (hf : fX11_term sh G l0 = some z) : MC l yX11_term cX11_term 1 none 5 0 0 sh sh G z (fun ad => [.ref (ad l0)]) (fun _ => none) := by
  refine MC_of rfl rfl (fun _ => Nat.le_of_ble_eq_true rfl) (fun E ad C hl hnm hC hQ => ?_)
  exact tX11_term C hC h_l0 hf (fun pc lv hd hC => v_vret C hQ (fun _ _ => rfl) hC rfl hd)
def fX11_tellLaw_J38L12 (sh : Sh) (G : Hp) (l0 : Nat) (l1 : Int32) (l2 : Int32) (l3 : Int32) : Option ((Hp × Int32) ⊕ ((Hp) ⊕ (Hp))) := if (G.1 l0 13) ≤ 0 then bd ((l3 + 1) : Int32) fun x2 => (fX11_goesOn sh G l0).bind fun G4 => (ldA sh G4 l0 43 3).bind fun a5 => (asI sh G4 a5 (G4.1 l0 42) (zb 1)).bind fun G6 => (ldA sh G6 l0 44 1).bind fun a7 => (asI sh G6 a7 (G6.1 l0 42) (G6.1 l0 48)).bind fun G8 => (fX11_expression sh G8 l0).bind fun G10 => (fX11_must sh G10 l0 13).bind fun G12 => (ldA sh G12 l0 45 1).bind fun a13 => (asI sh G12 a13 (G12.1 l0 42) (G12.1 l0 48)).bind fun G14 => if (G14.1 l0 13) = 0 then (fX11_expression sh G14 l0).bind fun G23 => (fX11_must sh G23 l0 35).bind fun G25 => (fX11_term sh G25 l0).bind fun G27 => (fX11_must sh G27 l0 36).bind fun G29 => some (.inl (G29, x2)) else (fX11_must sh G14 l0 35).bind fun G17 => (fX11_term sh G17 l0).bind fun G19 => (fX11_must sh G19 l0 36).bind fun G21 => some (.inl (G21, x2)) else some (.inr (.inr G))
set_option maxHeartbeats 4000000 in
theorem tX11_tellLaw_J38L12 {E : EX} {ad : Nat → Nat} {sh : Sh} {G : Hp} {l0 : Nat} {l1 : Int32} {l2 : Int32} {l3 : Int32} {o : (Hp × Int32) ⊕ ((Hp) ⊕ (Hp))} (C : Cx E RX11 cX11_tellLaw 4 none 6 0 0) (hC : Cl sh G) (h_l0 : sh[l0]? = some (0, 11)) (hf : fX11_tellLaw_J38L12 sh G l0 l1 l2 l3 = some o) (kb : ∀ (G2 : Hp) (b_l3 : Int32), o = .inl (G2, b_l3) → Cl sh G2 → VV E 0 0 (wq (xT E) ad G2 sh) 12 [(0, .ref (ad l0)), (1, .int l1), (2, .int l2), (3, .int b_l3)] []) (kx129 : ∀ (G2 : Hp), o = .inr (.inl G2) → Cl sh G2 → VV E 0 0 (wq (xT E) ad G2 sh) 129 [(0, .ref (ad l0)), (1, .int l1), (2, .int l2)] []) (kx45 : ∀ (G2 : Hp), o = .inr (.inr G2) → Cl sh G2 → VV E 0 0 (wq (xT E) ad G2 sh) 45 [(0, .ref (ad l0)), (1, .int l1), (2, .int l2)] []) : VV E 0 0 (wq (xT E) ad G sh) 38 [(0, .ref (ad l0)), (1, .int l1), (2, .int l2), (3, .int l3)] [] := by
  unfold fX11_tellLaw_J38L12 at hf
  refine v_aload_n C 0 dX11_tellLaw_38 rfl rfl ?_
  refine v_getI C h_l0 fl_X11_227 dX11_tellLaw_39 ?_
  refine v_if_le (tgt := 46) C dX11_tellLaw_42 (by decide) (fun c1 => ?_) (fun c1 => ?_)
  · have hf := ip hf c1
    obtain ⟨x2, ex2⟩ : ∃ x : Int32, x = (l3 + 1) := ⟨_, rfl⟩
    have hf := bd_at hf ex2
    refine v_iinc (v := x2) (j := 3) (lv2 := [(3, .int x2), (0, .ref (ad l0)), (1, .int l1), (2, .int l2)]) C dX11_tellLaw_46 rfl (by rw [ex2]; rfl) (by decide) rfl ?_
    refine v_aload_n C 1 dX11_tellLaw_49 rfl rfl ?_
    obtain ⟨G4, qr3, hf⟩ := bn hf
    refine v_callVv (As := []) (rest := []) C (sX11_goesOn h_l0 qr3) cs_X11_248 (by decide) h_l0 rfl hC rfl rfl rfl (Nat.le_of_ble_eq_true rfl) ⟨Nat.le_refl _, Nat.le_refl _⟩ dX11_tellLaw_50 (fun hC => ?_)
    refine v_aload_n C 1 dX11_tellLaw_53 rfl rfl ?_
    obtain ⟨a5, qa5, hf⟩ := bn hf
    refine v_getA C h_l0 fl_X11_100 qa5 dX11_tellLaw_54 (fun h_a5 => ?_)
    refine v_aload_n C 1 dX11_tellLaw_57 rfl rfl ?_
    refine v_getI C h_l0 fl_X11_266 dX11_tellLaw_58 ?_
    refine v_iconst (v := 1) C dX11_tellLaw_61 (by decide) ?_
    obtain ⟨G6, qG6, hf⟩ := bn hf
    refine v_zast C h_a5 qG6 hC dX11_tellLaw_62 (fun hC => ?_)
    refine v_aload_n C 1 dX11_tellLaw_63 rfl rfl ?_
    obtain ⟨a7, qa7, hf⟩ := bn hf
    refine v_getA C h_l0 fl_X11_104 qa7 dX11_tellLaw_64 (fun h_a7 => ?_)
    refine v_aload_n C 1 dX11_tellLaw_67 rfl rfl ?_
    refine v_getI C h_l0 fl_X11_266 dX11_tellLaw_68 ?_
    refine v_aload_n C 1 dX11_tellLaw_71 rfl rfl ?_
    refine v_getI C h_l0 fl_X11_269 dX11_tellLaw_72 ?_
    obtain ⟨G8, qG8, hf⟩ := bn hf
    refine v_iast C h_a7 qG8 hC dX11_tellLaw_75 (fun hC => ?_)
    refine v_aload_n C 1 dX11_tellLaw_76 rfl rfl ?_
    obtain ⟨G10, qr9, hf⟩ := bn hf
    refine v_callVv (As := []) (rest := []) C (sX11_expression h_l0 qr9) cs_X11_347 (by decide) h_l0 rfl hC rfl rfl rfl (Nat.le_of_ble_eq_true rfl) ⟨Nat.le_refl _, Nat.le_refl _⟩ dX11_tellLaw_77 (fun hC => ?_)
    refine v_aload_n C 1 dX11_tellLaw_80 rfl rfl ?_
    refine v_bipush (v := 13) C dX11_tellLaw_81 (by decide) ?_
    obtain ⟨G12, qr11, hf⟩ := bn hf
    refine v_callVv (As := [.int 13]) (rest := []) C (sX11_must h_l0 qr11) cs_X11_308 (by decide) h_l0 rfl hC rfl rfl rfl (Nat.le_of_ble_eq_true rfl) ⟨Nat.le_refl _, Nat.le_refl _⟩ dX11_tellLaw_83 (fun hC => ?_)
    refine v_aload_n C 1 dX11_tellLaw_86 rfl rfl ?_
    obtain ⟨a13, qa13, hf⟩ := bn hf
    refine v_getA C h_l0 fl_X11_107 qa13 dX11_tellLaw_87 (fun h_a13 => ?_)
    refine v_aload_n C 1 dX11_tellLaw_90 rfl rfl ?_
    refine v_getI C h_l0 fl_X11_266 dX11_tellLaw_91 ?_
    refine v_aload_n C 1 dX11_tellLaw_94 rfl rfl ?_
    refine v_getI C h_l0 fl_X11_269 dX11_tellLaw_95 ?_
    obtain ⟨G14, qG14, hf⟩ := bn hf
    refine v_iast C h_a13 qG14 hC dX11_tellLaw_98 (fun hC => ?_)
    refine v_aload_n C 1 dX11_tellLaw_99 rfl rfl ?_
    refine v_getI C h_l0 fl_X11_227 dX11_tellLaw_100 ?_
    refine v_if_ne (tgt := 110) C dX11_tellLaw_103 (by decide) (fun c15 => ?_) (fun c15 => ?_)
    · have hf := im hf c15
      refine v_aload_n C 1 dX11_tellLaw_110 rfl rfl ?_
      refine v_bipush (v := 35) C dX11_tellLaw_111 (by decide) ?_
      obtain ⟨G17, qr16, hf⟩ := bn hf
      refine v_callVv (As := [.int 35]) (rest := []) C (sX11_must h_l0 qr16) cs_X11_308 (by decide) h_l0 rfl hC rfl rfl rfl (Nat.le_of_ble_eq_true rfl) ⟨Nat.le_refl _, Nat.le_refl _⟩ dX11_tellLaw_113 (fun hC => ?_)
      refine v_aload_n C 1 dX11_tellLaw_116 rfl rfl ?_
      obtain ⟨G19, qr18, hf⟩ := bn hf
      refine v_callVv (As := []) (rest := []) C (sX11_term h_l0 qr18) cs_X11_350 (by decide) h_l0 rfl hC rfl rfl rfl (Nat.le_of_ble_eq_true rfl) ⟨Nat.le_refl _, Nat.le_refl _⟩ dX11_tellLaw_117 (fun hC => ?_)
      refine v_aload_n C 1 dX11_tellLaw_120 rfl rfl ?_
      refine v_bipush (v := 36) C dX11_tellLaw_121 (by decide) ?_
      obtain ⟨G21, qr20, hf⟩ := bn hf
      refine v_callVv (As := [.int 36]) (rest := []) C (sX11_must h_l0 qr20) cs_X11_308 (by decide) h_l0 rfl hC rfl rfl rfl (Nat.le_of_ble_eq_true rfl) ⟨Nat.le_refl _, Nat.le_refl _⟩ dX11_tellLaw_123 (fun hC => ?_)
      refine v_goto (tgt := 12) C dX11_tellLaw_126 (by decide) ?_
      cases hf
      refine v_sub [1, 2, 3, 0] rfl ?_
      exact kb _ _ rfl hC
    · have hf := ip hf c15
      refine v_aload_n C 1 dX11_tellLaw_106 rfl rfl ?_
      obtain ⟨G23, qr22, hf⟩ := bn hf
      refine v_callVv (As := []) (rest := []) C (sX11_expression h_l0 qr22) cs_X11_347 (by decide) h_l0 rfl hC rfl rfl rfl (Nat.le_of_ble_eq_true rfl) ⟨Nat.le_refl _, Nat.le_refl _⟩ dX11_tellLaw_107 (fun hC => ?_)
      refine v_aload_n C 1 dX11_tellLaw_110 rfl rfl ?_
      refine v_bipush (v := 35) C dX11_tellLaw_111 (by decide) ?_
      obtain ⟨G25, qr24, hf⟩ := bn hf
      refine v_callVv (As := [.int 35]) (rest := []) C (sX11_must h_l0 qr24) cs_X11_308 (by decide) h_l0 rfl hC rfl rfl rfl (Nat.le_of_ble_eq_true rfl) ⟨Nat.le_refl _, Nat.le_refl _⟩ dX11_tellLaw_113 (fun hC => ?_)
      refine v_aload_n C 1 dX11_tellLaw_116 rfl rfl ?_
      obtain ⟨G27, qr26, hf⟩ := bn hf
      refine v_callVv (As := []) (rest := []) C (sX11_term h_l0 qr26) cs_X11_350 (by decide) h_l0 rfl hC rfl rfl rfl (Nat.le_of_ble_eq_true rfl) ⟨Nat.le_refl _, Nat.le_refl _⟩ dX11_tellLaw_117 (fun hC => ?_)
      refine v_aload_n C 1 dX11_tellLaw_120 rfl rfl ?_
      refine v_bipush (v := 36) C dX11_tellLaw_121 (by decide) ?_
      obtain ⟨G29, qr28, hf⟩ := bn hf
      refine v_callVv (As := [.int 36]) (rest := []) C (sX11_must h_l0 qr28) cs_X11_308 (by decide) h_l0 rfl hC rfl rfl rfl (Nat.le_of_ble_eq_true rfl) ⟨Nat.le_refl _, Nat.le_refl _⟩ dX11_tellLaw_123 (fun hC => ?_)
      refine v_goto (tgt := 12) C dX11_tellLaw_126 (by decide) ?_
      cases hf
      refine v_sub [1, 2, 3, 0] rfl ?_
      exact kb _ _ rfl hC
  · have hf := im hf c1
    cases hf
    refine v_sub [0, 1, 2] rfl ?_
    exact kx45 _ rfl hC
def fX11_tellLaw_S12 (sh : Sh) (l0 : Nat) (l1 : Int32) (l2 : Int32) (G : Hp) (l3 : Int32) : Option ((Hp × Int32) ⊕ ((Hp) ⊕ (Hp))) := if (G.1 l0 13) = 0 then (fX11_is sh G l0 34).bind fun r2 => if r2 = 0 then some (.inr (.inl G)) else if l3 = 4 then (fX11_fail sh G l0 2).bind fun G6 => fX11_tellLaw_J38L12 sh G6 l0 l1 l2 l3 else fX11_tellLaw_J38L12 sh G l0 l1 l2 l3 else some (.inr (.inl G))
set_option maxHeartbeats 4000000 in
theorem tX11_tellLaw_S12 {E : EX} {ad : Nat → Nat} {sh : Sh} {G : Hp} {l0 : Nat} {l1 : Int32} {l2 : Int32} {l3 : Int32} {o : (Hp × Int32) ⊕ ((Hp) ⊕ (Hp))} (C : Cx E RX11 cX11_tellLaw 4 none 6 0 0) (hC : Cl sh G) (h_l0 : sh[l0]? = some (0, 11)) (hf : fX11_tellLaw_S12 sh l0 l1 l2 G l3 = some o) (kb : ∀ (G2 : Hp) (b_l3 : Int32), o = .inl (G2, b_l3) → Cl sh G2 → VV E 0 0 (wq (xT E) ad G2 sh) 12 [(0, .ref (ad l0)), (1, .int l1), (2, .int l2), (3, .int b_l3)] []) (kx129 : ∀ (G2 : Hp), o = .inr (.inl G2) → Cl sh G2 → VV E 0 0 (wq (xT E) ad G2 sh) 129 [(0, .ref (ad l0)), (1, .int l1), (2, .int l2)] []) (kx45 : ∀ (G2 : Hp), o = .inr (.inr G2) → Cl sh G2 → VV E 0 0 (wq (xT E) ad G2 sh) 45 [(0, .ref (ad l0)), (1, .int l1), (2, .int l2)] []) : VV E 0 0 (wq (xT E) ad G sh) 12 [(0, .ref (ad l0)), (1, .int l1), (2, .int l2), (3, .int l3)] [] := by
  unfold fX11_tellLaw_S12 at hf
  refine v_aload_n C 0 dX11_tellLaw_12 rfl rfl ?_
  refine v_getI C h_l0 fl_X11_227 dX11_tellLaw_13 ?_
  refine v_if_ne (tgt := 129) C dX11_tellLaw_16 (by decide) (fun c1 => ?_) (fun c1 => ?_)
  · have hf := im hf c1
    cases hf
    refine v_sub [0, 1, 2] rfl ?_
    exact kx129 _ rfl hC
  · have hf := ip hf c1
    refine v_aload_n C 0 dX11_tellLaw_19 rfl rfl ?_
    refine v_bipush (v := 34) C dX11_tellLaw_20 (by decide) ?_
    obtain ⟨r2, qr2, hf⟩ := bn hf
    refine v_callVi (As := [.int 34]) (rest := []) C (sX11_is h_l0 qr2) cs_X11_245 (by decide) h_l0 rfl hC rfl rfl rfl (Nat.le_of_ble_eq_true rfl) ⟨Nat.le_refl _, Nat.le_refl _⟩ dX11_tellLaw_22 (fun hC => ?_)
    refine v_if_eq (tgt := 129) C dX11_tellLaw_25 (by decide) (fun c3 => ?_) (fun c3 => ?_)
    · have hf := ip hf c3
      cases hf
      refine v_sub [0, 1, 2] rfl ?_
      exact kx129 _ rfl hC
    · have hf := im hf c3
      refine v_iload_n C 3 dX11_tellLaw_28 rfl rfl ?_
      refine v_iconst (v := 4) C dX11_tellLaw_29 (by decide) ?_
      refine v_icmp_ne (tgt := 38) C dX11_tellLaw_30 (by decide) (fun c4 => ?_) (fun c4 => ?_)
      · have hf := im hf c4
        refine v_sub [0, 1, 2, 3] rfl ?_
        exact tX11_tellLaw_J38L12 C hC h_l0 hf kb kx129 kx45
      · have hf := ip hf c4
        refine v_aload_n C 0 dX11_tellLaw_33 rfl rfl ?_
        refine v_iconst (v := 2) C dX11_tellLaw_34 (by decide) ?_
        obtain ⟨G6, qr5, hf⟩ := bn hf
        refine v_callVv (As := [.int 2]) (rest := []) C (sX11_fail h_l0 qr5) cs_X11_242 (by decide) h_l0 rfl hC rfl rfl rfl (Nat.le_of_ble_eq_true rfl) ⟨Nat.le_refl _, Nat.le_refl _⟩ dX11_tellLaw_35 (fun hC => ?_)
        refine v_sub [0, 1, 2, 3] rfl ?_
        exact tX11_tellLaw_J38L12 C hC h_l0 hf kb kx129 kx45
def fX11_tellLaw_J129 (sh : Sh) (G : Hp) (l0 : Nat) (l1 : Int32) (l2 : Int32) : Option (Hp) := (ldA sh G l0 43 3).bind fun a1 => (asI sh G a1 (G.1 l0 42) (zb 0)).bind fun G2 => (fX11_term sh G2 l0).bind fun G4 => (fX11_must sh G4 l0 4).bind fun G6 => if (G6.1 l0 13) ≤ 0 then (ldA sh G6 l0 40 1).bind fun a8 => (asI sh G6 a8 (((3 : Int32) * (G6.1 l0 19)) + l1) l2).bind fun G9 => (ldA sh G9 l0 41 1).bind fun a10 => (asI sh G9 a10 (((3 : Int32) * (G9.1 l0 19)) + l1) (G9.1 l0 42)).bind fun G11 => some G11 else some G6
set_option maxHeartbeats 4000000 in
theorem tX11_tellLaw_J129 {E : EX} {ad : Nat → Nat} {sh : Sh} {G : Hp} {l0 : Nat} {l1 : Int32} {l2 : Int32} {z : Hp} (C : Cx E RX11 cX11_tellLaw 4 none 6 0 0) (hC : Cl sh G) (h_l0 : sh[l0]? = some (0, 11)) (hf : fX11_tellLaw_J129 sh G l0 l1 l2 = some z) (kr : RCv E cX11_tellLaw ad sh z) : VV E 0 0 (wq (xT E) ad G sh) 129 [(0, .ref (ad l0)), (1, .int l1), (2, .int l2)] [] := by
  unfold fX11_tellLaw_J129 at hf
  refine v_aload_n C 0 dX11_tellLaw_129 rfl rfl ?_
  obtain ⟨a1, qa1, hf⟩ := bn hf
  refine v_getA C h_l0 fl_X11_100 qa1 dX11_tellLaw_130 (fun h_a1 => ?_)
  refine v_aload_n C 0 dX11_tellLaw_133 rfl rfl ?_
  refine v_getI C h_l0 fl_X11_266 dX11_tellLaw_134 ?_
  refine v_iconst (v := 0) C dX11_tellLaw_137 (by decide) ?_
  obtain ⟨G2, qG2, hf⟩ := bn hf
  refine v_zast C h_a1 qG2 hC dX11_tellLaw_138 (fun hC => ?_)
  refine v_aload_n C 0 dX11_tellLaw_139 rfl rfl ?_
  obtain ⟨G4, qr3, hf⟩ := bn hf
  refine v_callVv (As := []) (rest := []) C (sX11_term h_l0 qr3) cs_X11_350 (by decide) h_l0 rfl hC rfl rfl rfl (Nat.le_of_ble_eq_true rfl) ⟨Nat.le_refl _, Nat.le_refl _⟩ dX11_tellLaw_140 (fun hC => ?_)
  refine v_aload_n C 0 dX11_tellLaw_143 rfl rfl ?_
  refine v_iconst (v := 4) C dX11_tellLaw_144 (by decide) ?_
  obtain ⟨G6, qr5, hf⟩ := bn hf
  refine v_callVv (As := [.int 4]) (rest := []) C (sX11_must h_l0 qr5) cs_X11_308 (by decide) h_l0 rfl hC rfl rfl rfl (Nat.le_of_ble_eq_true rfl) ⟨Nat.le_refl _, Nat.le_refl _⟩ dX11_tellLaw_145 (fun hC => ?_)
  refine v_aload_n C 0 dX11_tellLaw_148 rfl rfl ?_
  refine v_getI C h_l0 fl_X11_227 dX11_tellLaw_149 ?_
  refine v_if_le (tgt := 156) C dX11_tellLaw_152 (by decide) (fun c7 => ?_) (fun c7 => ?_)
  · have hf := ip hf c7
    refine v_aload_n C 0 dX11_tellLaw_156 rfl rfl ?_
    obtain ⟨a8, qa8, hf⟩ := bn hf
    refine v_getA C h_l0 fl_X11_94 qa8 dX11_tellLaw_157 (fun h_a8 => ?_)
    refine v_iconst (v := 3) C dX11_tellLaw_160 (by decide) ?_
    refine v_aload_n C 0 dX11_tellLaw_161 rfl rfl ?_
    refine v_getI C h_l0 fl_X11_260 dX11_tellLaw_162 ?_
    refine v_imul C dX11_tellLaw_165 ?_
    refine v_iload_n C 1 dX11_tellLaw_166 rfl rfl ?_
    refine v_iadd C dX11_tellLaw_167 ?_
    refine v_iload_n C 2 dX11_tellLaw_168 rfl rfl ?_
    obtain ⟨G9, qG9, hf⟩ := bn hf
    refine v_iast C h_a8 qG9 hC dX11_tellLaw_169 (fun hC => ?_)
    refine v_aload_n C 0 dX11_tellLaw_170 rfl rfl ?_
    obtain ⟨a10, qa10, hf⟩ := bn hf
    refine v_getA C h_l0 fl_X11_97 qa10 dX11_tellLaw_171 (fun h_a10 => ?_)
    refine v_iconst (v := 3) C dX11_tellLaw_174 (by decide) ?_
    refine v_aload_n C 0 dX11_tellLaw_175 rfl rfl ?_
    refine v_getI C h_l0 fl_X11_260 dX11_tellLaw_176 ?_
    refine v_imul C dX11_tellLaw_179 ?_
    refine v_iload_n C 1 dX11_tellLaw_180 rfl rfl ?_
    refine v_iadd C dX11_tellLaw_181 ?_
    refine v_aload_n C 0 dX11_tellLaw_182 rfl rfl ?_
    refine v_getI C h_l0 fl_X11_266 dX11_tellLaw_183 ?_
    obtain ⟨G11, qG11, hf⟩ := bn hf
    refine v_iast C h_a10 qG11 hC dX11_tellLaw_186 (fun hC => ?_)
    cases hf
    exact kr _ _ dX11_tellLaw_187 hC
  · have hf := im hf c7
    cases hf
    exact kr _ _ dX11_tellLaw_155 hC
def fX11_tellLaw (sh : Sh) (G : Hp) (l0 : Nat) (l1 : Int32) : Option (Hp) := (fX11_must sh G l0 5).bind fun G2 => bd ((G2.1 l0 42) : Int32) fun x3 => (iter (fun s : Hp × Int32 => fX11_tellLaw_S12 sh l0 l1 x3 s.1 s.2) fuel ((G2, 0) : Hp × Int32)).bind (Sum.elim (fun u6 => bd u6 fun G5 => fX11_tellLaw_J129 sh G5 l0 l1 x3) (fun u8 => bd u8 fun G7 => some G7))
set_option maxHeartbeats 4000000 in
theorem tX11_tellLaw {E : EX} {ad : Nat → Nat} {sh : Sh} {G : Hp} {l0 : Nat} {l1 : Int32} {z : Hp} (C : Cx E RX11 cX11_tellLaw 4 none 6 0 0) (hC : Cl sh G) (h_l0 : sh[l0]? = some (0, 11)) (hf : fX11_tellLaw sh G l0 l1 = some z) (kr : RCv E cX11_tellLaw ad sh z) : VV E 0 0 (wq (xT E) ad G sh) 0 [(0, .ref (ad l0)), (1, .int l1)] [] := by
  unfold fX11_tellLaw at hf
  refine v_aload_n C 0 dX11_tellLaw_0 rfl rfl ?_
  refine v_iconst (v := 5) C dX11_tellLaw_1 (by decide) ?_
  obtain ⟨G2, qr1, hf⟩ := bn hf
  refine v_callVv (As := [.int 5]) (rest := []) C (sX11_must h_l0 qr1) cs_X11_308 (by decide) h_l0 rfl hC rfl rfl rfl (Nat.le_of_ble_eq_true rfl) ⟨Nat.le_refl _, Nat.le_refl _⟩ dX11_tellLaw_2 (fun hC => ?_)
  refine v_aload_n C 0 dX11_tellLaw_5 rfl rfl ?_
  refine v_getI C h_l0 fl_X11_266 dX11_tellLaw_6 ?_
  refine v_topi (fun x3 ex3 => ?_)
  have hf := bd_at hf ex3
  refine v_istore_n (lv2 := [(2, .int x3), (0, .ref (ad l0)), (1, .int l1)]) C dX11_tellLaw_9 rfl (by decide) rfl ?_
  refine v_iconst (v := 0) C dX11_tellLaw_10 (by decide) ?_
  refine v_istore_n (lv2 := [(3, .int 0), (2, .int x3), (0, .ref (ad l0)), (1, .int l1)]) C dX11_tellLaw_11 rfl (by decide) rfl ?_
  obtain ⟨r4, qr4, hf⟩ := bn hf
  refine v_sub [2, 3, 1, 0] rfl ?_
  refine iter_sound (P := (fun s : Hp × Int32 => Cl sh (s.1) → VV E 0 0 (wq (xT E) ad (s.1) sh) 12 [(0, .ref (ad l0)), (1, .int (l1)), (2, .int (x3)), (3, .int (s.2))] [])) (X := fun r => r = r4) (fun jsr4 jor4 hor4 jbr4 jxr4 hC => tX11_tellLaw_S12 C hC h_l0 hor4 (fun _ _ e => jbr4 _ e) ?_ ?_) fuel _ r4 qr4 rfl hC
  · intro G5 hu hC
    have e := jxr4 _ hu
    subst e
    have hf := sm_l hf
    have hf := bd_at hf (rfl : G5 = _)
    refine v_sub [0, 1, 2] rfl ?_
    exact tX11_tellLaw_J129 C hC h_l0 hf kr
  · intro G7 hu hC
    have e := jxr4 _ hu
    subst e
    have hf := sm_r hf
    have hf := bd_at hf (rfl : G7 = _)
    cases hf
    exact kr _ _ dX11_tellLaw_45 hC
theorem sX11_tellLaw {l : Launch} {sh : Sh} {G : Hp} {l0 : Nat} {l1 : Int32} {z : Hp} (h_l0 : sh[l0]? = some (0, 11)) (hf : fX11_tellLaw sh G l0 l1 = some z) : MC l yX11_tellLaw cX11_tellLaw 4 none 6 0 0 sh sh G z (fun ad => [.ref (ad l0), .int l1]) (fun _ => none) := by
  refine MC_of rfl rfl (fun _ => Nat.le_of_ble_eq_true rfl) (fun E ad C hl hnm hC hQ => ?_)
  exact tX11_tellLaw C hC h_l0 hf (fun pc lv hd hC => v_vret C hQ (fun _ _ => rfl) hC rfl hd)
def fX11_tellOne_J316 (sh : Sh) (G : Hp) (l0 : Nat) (l1 : Int32) : Option (Hp) := (fX11_fail sh G l0 1).bind fun G2 => if (G2.1 l0 13) ≤ 0 then (fX11_goesOn sh G2 l0).bind fun G5 => (fX11_tellLaw sh G5 l0 l1).bind fun G7 => some G7 else some G2
set_option maxHeartbeats 4000000 in
theorem tX11_tellOne_J316 {E : EX} {ad : Nat → Nat} {sh : Sh} {G : Hp} {l0 : Nat} {l1 : Int32} {z : Hp} (C : Cx E RX11 cX11_tellOne 2 none 7 0 0) (hC : Cl sh G) (h_l0 : sh[l0]? = some (0, 11)) (hf : fX11_tellOne_J316 sh G l0 l1 = some z) (kr : RCv E cX11_tellOne ad sh z) : VV E 0 0 (wq (xT E) ad G sh) 316 [(0, .ref (ad l0)), (1, .int l1)] [] := by
  unfold fX11_tellOne_J316 at hf
  refine v_aload_n C 0 dX11_tellOne_316 rfl rfl ?_
  refine v_iconst (v := 1) C dX11_tellOne_317 (by decide) ?_
  obtain ⟨G2, qr1, hf⟩ := bn hf
  refine v_callVv (As := [.int 1]) (rest := []) C (sX11_fail h_l0 qr1) cs_X11_242 (by decide) h_l0 rfl hC rfl rfl rfl (Nat.le_of_ble_eq_true rfl) ⟨Nat.le_refl _, Nat.le_refl _⟩ dX11_tellOne_318 (fun hC => ?_)
  refine v_aload_n C 0 dX11_tellOne_321 rfl rfl ?_
  refine v_getI C h_l0 fl_X11_227 dX11_tellOne_322 ?_
  refine v_if_le (tgt := 329) C dX11_tellOne_325 (by decide) (fun c3 => ?_) (fun c3 => ?_)
  · have hf := ip hf c3
    refine v_aload_n C 0 dX11_tellOne_329 rfl rfl ?_
    obtain ⟨G5, qr4, hf⟩ := bn hf
    refine v_callVv (As := []) (rest := []) C (sX11_goesOn h_l0 qr4) cs_X11_248 (by decide) h_l0 rfl hC rfl rfl rfl (Nat.le_of_ble_eq_true rfl) ⟨Nat.le_refl _, Nat.le_refl _⟩ dX11_tellOne_330 (fun hC => ?_)
    refine v_aload_n C 0 dX11_tellOne_333 rfl rfl ?_
    refine v_iload_n C 1 dX11_tellOne_334 rfl rfl ?_
    obtain ⟨G7, qr6, hf⟩ := bn hf
    refine v_callVv (As := [.int l1]) (rest := []) C (sX11_tellLaw h_l0 qr6) cs_X11_311 (by decide) h_l0 rfl hC rfl rfl rfl (Nat.le_of_ble_eq_true rfl) ⟨Nat.le_refl _, Nat.le_refl _⟩ dX11_tellOne_335 (fun hC => ?_)
    cases hf
    exact kr _ _ dX11_tellOne_338 hC
  · have hf := im hf c3
    cases hf
    exact kr _ _ dX11_tellOne_328 hC
def fX11_tellOne_J285 (sh : Sh) (G : Hp) (l0 : Nat) : Option (Hp) := (ldA sh G l0 5 1).bind fun a1 => (aI sh G a1 (G.1 l0 11)).bind fun v2 => bd ((v2 - 29) : Int32) fun x3 => if x3 < 0 then fX11_tellOne_J316 sh G l0 x3 else (ldA sh G l0 5 1).bind fun a5 => (aI sh G a5 (G.1 l0 11)).bind fun v6 => if v6 ≤ 31 then if (G.1 l0 13) ≤ 0 then (fX11_goesOn sh G l0).bind fun G10 => (fX11_tellLaw sh G10 l0 x3).bind fun G12 => some G12 else some G else fX11_tellOne_J316 sh G l0 x3
set_option maxHeartbeats 4000000 in
theorem tX11_tellOne_J285 {E : EX} {ad : Nat → Nat} {sh : Sh} {G : Hp} {l0 : Nat} {z : Hp} (C : Cx E RX11 cX11_tellOne 2 none 7 0 0) (hC : Cl sh G) (h_l0 : sh[l0]? = some (0, 11)) (hf : fX11_tellOne_J285 sh G l0 = some z) (kr : RCv E cX11_tellOne ad sh z) : VV E 0 0 (wq (xT E) ad G sh) 285 [(0, .ref (ad l0))] [] := by
  unfold fX11_tellOne_J285 at hf
  refine v_aload_n C 0 dX11_tellOne_285 rfl rfl ?_
  obtain ⟨a1, qa1, hf⟩ := bn hf
  refine v_getA C h_l0 fl_X11_20 qa1 dX11_tellOne_286 (fun h_a1 => ?_)
  refine v_aload_n C 0 dX11_tellOne_289 rfl rfl ?_
  refine v_getI C h_l0 fl_X11_230 dX11_tellOne_290 ?_
  obtain ⟨v2, qv2, hf⟩ := bn hf
  refine v_iald C h_a1 qv2 dX11_tellOne_293 ?_
  refine v_bipush (v := 29) C dX11_tellOne_294 (by decide) ?_
  refine v_isub C dX11_tellOne_296 ?_
  refine v_topi (fun x3 ex3 => ?_)
  have hf := bd_at hf ex3
  refine v_istore_n (lv2 := [(1, .int x3), (0, .ref (ad l0))]) C dX11_tellOne_297 rfl (by decide) rfl ?_
  refine v_iload_n C 0 dX11_tellOne_298 rfl rfl ?_
  refine v_if_lt (tgt := 316) C dX11_tellOne_299 (by decide) (fun c4 => ?_) (fun c4 => ?_)
  · have hf := ip hf c4
    refine v_sub [1, 0] rfl ?_
    exact tX11_tellOne_J316 C hC h_l0 hf kr
  · have hf := im hf c4
    refine v_aload_n C 1 dX11_tellOne_302 rfl rfl ?_
    obtain ⟨a5, qa5, hf⟩ := bn hf
    refine v_getA C h_l0 fl_X11_20 qa5 dX11_tellOne_303 (fun h_a5 => ?_)
    refine v_aload_n C 1 dX11_tellOne_306 rfl rfl ?_
    refine v_getI C h_l0 fl_X11_230 dX11_tellOne_307 ?_
    obtain ⟨v6, qv6, hf⟩ := bn hf
    refine v_iald C h_a5 qv6 dX11_tellOne_310 ?_
    refine v_bipush (v := 31) C dX11_tellOne_311 (by decide) ?_
    refine v_icmp_le (tgt := 321) C dX11_tellOne_313 (by decide) (fun c7 => ?_) (fun c7 => ?_)
    · have hf := ip hf c7
      refine v_aload_n C 1 dX11_tellOne_321 rfl rfl ?_
      refine v_getI C h_l0 fl_X11_227 dX11_tellOne_322 ?_
      refine v_if_le (tgt := 329) C dX11_tellOne_325 (by decide) (fun c8 => ?_) (fun c8 => ?_)
      · have hf := ip hf c8
        refine v_aload_n C 1 dX11_tellOne_329 rfl rfl ?_
        obtain ⟨G10, qr9, hf⟩ := bn hf
        refine v_callVv (As := []) (rest := []) C (sX11_goesOn h_l0 qr9) cs_X11_248 (by decide) h_l0 rfl hC rfl rfl rfl (Nat.le_of_ble_eq_true rfl) ⟨Nat.le_refl _, Nat.le_refl _⟩ dX11_tellOne_330 (fun hC => ?_)
        refine v_aload_n C 1 dX11_tellOne_333 rfl rfl ?_
        refine v_iload_n C 0 dX11_tellOne_334 rfl rfl ?_
        obtain ⟨G12, qr11, hf⟩ := bn hf
        refine v_callVv (As := [.int x3]) (rest := []) C (sX11_tellLaw h_l0 qr11) cs_X11_311 (by decide) h_l0 rfl hC rfl rfl rfl (Nat.le_of_ble_eq_true rfl) ⟨Nat.le_refl _, Nat.le_refl _⟩ dX11_tellOne_335 (fun hC => ?_)
        cases hf
        exact kr _ _ dX11_tellOne_338 hC
      · have hf := im hf c8
        cases hf
        exact kr _ _ dX11_tellOne_328 hC
    · have hf := im hf c7
      refine v_sub [1, 0] rfl ?_
      exact tX11_tellOne_J316 C hC h_l0 hf kr
def fX11_tellOne (sh : Sh) (G : Hp) (l0 : Nat) : Option (Hp) := (ldA sh G l0 5 1).bind fun a1 => (aI sh G a1 (G.1 l0 11)).bind fun v2 => if v2 = 20 then (ldA sh G l0 23 1).bind fun a4 => (aI sh G a4 (G.1 l0 19)).bind fun v5 => (fX11_roomFor sh G l0 v5 8).bind fun G7 => if (G7.1 l0 13) ≤ 0 then bp (fX11_named sh G7 l0) fun r9 G10 => (ldA sh G10 l0 23 1).bind fun a11 => (aI sh G10 a11 (G10.1 l0 19)).bind fun v12 => (fX11_ends sh G10 l0 r9 v12).bind fun G14 => if (G14.1 l0 13) = 0 then (ldA sh G14 l0 23 1).bind fun a16 => bd ((G14.1 l0 19) : Int32) fun x17 => (aI sh G14 a16 x17).bind fun v18 => (asI sh G14 a16 x17 (v18 + 1)).bind fun G19 => some G19 else some G14 else some G7 else if v2 = 21 then (ldA sh G l0 24 1).bind fun a21 => (aI sh G a21 (G.1 l0 19)).bind fun v22 => (fX11_roomFor sh G l0 v22 7).bind fun G24 => if (G24.1 l0 13) = 0 then (fX11_tellBeing sh G24 l0).bind fun G27 => some G27 else some G24 else if v2 = 22 then (ldA sh G l0 27 1).bind fun a29 => (aI sh G a29 (G.1 l0 19)).bind fun v30 => (fX11_roomFor sh G l0 v30 4).bind fun G32 => if (G32.1 l0 13) = 0 then (fX11_tellWay sh G32 l0).bind fun G35 => some G35 else some G32 else if v2 = 23 then (ldA sh G l0 31 1).bind fun a37 => (aI sh G a37 (G.1 l0 19)).bind fun v38 => (fX11_roomFor sh G l0 v38 4).bind fun G40 => if (G40.1 l0 13) = 0 then (fX11_tellBridge sh G40 l0).bind fun G43 => some G43 else some G40 else if v2 = 24 then fX11_tellOne_J285 sh G l0 else if v2 = 25 then fX11_tellOne_J285 sh G l0 else if v2 = 26 then fX11_tellOne_J285 sh G l0 else if v2 = 27 then fX11_tellOne_J285 sh G l0 else if v2 = 28 then fX11_tellOne_J285 sh G l0 else if v2 = 29 then fX11_tellOne_J285 sh G l0 else if v2 = 30 then fX11_tellOne_J285 sh G l0 else if v2 = 31 then fX11_tellOne_J285 sh G l0 else if v2 = 32 then (fX11_goesOn sh G l0).bind fun G54 => (ldA sh G54 l0 38 1).bind fun a55 => bp (fX11_bounded sh G54 l0 0 100) fun r56 G57 => (asI sh G57 a55 (G54.1 l0 19) r56).bind fun G58 => (fX11_must sh G58 l0 4).bind fun G60 => some G60 else if v2 = 33 then (fX11_goesOn sh G l0).bind fun G63 => (ldA sh G63 l0 39 1).bind fun a64 => bp (fX11_bounded sh G63 l0 0 9999) fun r65 G66 => (asI sh G66 a64 (G63.1 l0 19) r65).bind fun G67 => (fX11_must sh G67 l0 4).bind fun G69 => some G69 else fX11_tellOne_J285 sh G l0
set_option maxHeartbeats 4000000 in
theorem tX11_tellOne {E : EX} {ad : Nat → Nat} {sh : Sh} {G : Hp} {l0 : Nat} {z : Hp} (C : Cx E RX11 cX11_tellOne 2 none 7 0 0) (hC : Cl sh G) (h_l0 : sh[l0]? = some (0, 11)) (hf : fX11_tellOne sh G l0 = some z) (kr : RCv E cX11_tellOne ad sh z) : VV E 0 0 (wq (xT E) ad G sh) 0 [(0, .ref (ad l0))] [] := by
  unfold fX11_tellOne at hf
  refine v_aload_n C 0 dX11_tellOne_0 rfl rfl ?_
  obtain ⟨a1, qa1, hf⟩ := bn hf
  refine v_getA C h_l0 fl_X11_20 qa1 dX11_tellOne_1 (fun h_a1 => ?_)
  refine v_aload_n C 0 dX11_tellOne_4 rfl rfl ?_
  refine v_getI C h_l0 fl_X11_230 dX11_tellOne_5 ?_
  obtain ⟨v2, qv2, hf⟩ := bn hf
  refine v_iald C h_a1 qv2 dX11_tellOne_8 ?_
  by_cases c3 : v2 = 20
  · have hf := ip hf c3
    refine v_tableIn (off := 71) (tgt := 80) C dX11_tellOne_9 (by rw [c3]; decide) (by rw [c3]; decide) (by rw [c3]; decide) (by decide) ?_
    refine v_aload_n C 0 dX11_tellOne_80 rfl rfl ?_
    refine v_aload_n C 0 dX11_tellOne_81 rfl rfl ?_
    obtain ⟨a4, qa4, hf⟩ := bn hf
    refine v_getA C h_l0 fl_X11_46 qa4 dX11_tellOne_82 (fun h_a4 => ?_)
    refine v_aload_n C 0 dX11_tellOne_85 rfl rfl ?_
    refine v_getI C h_l0 fl_X11_260 dX11_tellOne_86 ?_
    obtain ⟨v5, qv5, hf⟩ := bn hf
    refine v_iald C h_a4 qv5 dX11_tellOne_89 ?_
    refine v_bipush (v := 8) C dX11_tellOne_90 (by decide) ?_
    obtain ⟨G7, qr6, hf⟩ := bn hf
    refine v_callVv (As := [.int v5, .int 8]) (rest := []) C (sX11_roomFor h_l0 qr6) cs_X11_284 (by decide) h_l0 rfl hC rfl rfl rfl (Nat.le_of_ble_eq_true rfl) ⟨Nat.le_refl _, Nat.le_refl _⟩ dX11_tellOne_92 (fun hC => ?_)
    refine v_aload_n C 0 dX11_tellOne_95 rfl rfl ?_
    refine v_getI C h_l0 fl_X11_227 dX11_tellOne_96 ?_
    refine v_if_le (tgt := 103) C dX11_tellOne_99 (by decide) (fun c8 => ?_) (fun c8 => ?_)
    · have hf := ip hf c8
      refine v_aload_n C 0 dX11_tellOne_103 rfl rfl ?_
      refine v_aload_n C 0 dX11_tellOne_104 rfl rfl ?_
      obtain ⟨r9, G10, qr9, hf⟩ := bpn hf
      refine v_callVi (As := []) (rest := [.ref (ad l0)]) C (sX11_named h_l0 qr9) cs_X11_288 (by decide) h_l0 rfl hC rfl rfl rfl (Nat.le_of_ble_eq_true rfl) ⟨Nat.le_refl _, Nat.le_refl _⟩ dX11_tellOne_105 (fun hC => ?_)
      refine v_aload_n C 0 dX11_tellOne_108 rfl rfl ?_
      obtain ⟨a11, qa11, hf⟩ := bn hf
      refine v_getA C h_l0 fl_X11_46 qa11 dX11_tellOne_109 (fun h_a11 => ?_)
      refine v_aload_n C 0 dX11_tellOne_112 rfl rfl ?_
      refine v_getI C h_l0 fl_X11_260 dX11_tellOne_113 ?_
      obtain ⟨v12, qv12, hf⟩ := bn hf
      refine v_iald C h_a11 qv12 dX11_tellOne_116 ?_
      obtain ⟨G14, qr13, hf⟩ := bn hf
      refine v_callVv (As := [.int r9, .int v12]) (rest := []) C (sX11_ends h_l0 qr13) cs_X11_292 (by decide) h_l0 rfl hC rfl rfl rfl (Nat.le_of_ble_eq_true rfl) ⟨Nat.le_refl _, Nat.le_refl _⟩ dX11_tellOne_117 (fun hC => ?_)
      refine v_aload_n C 0 dX11_tellOne_120 rfl rfl ?_
      refine v_getI C h_l0 fl_X11_227 dX11_tellOne_121 ?_
      refine v_if_ne (tgt := 338) C dX11_tellOne_124 (by decide) (fun c15 => ?_) (fun c15 => ?_)
      · have hf := im hf c15
        cases hf
        exact kr _ _ dX11_tellOne_338 hC
      · have hf := ip hf c15
        refine v_aload_n C 0 dX11_tellOne_127 rfl rfl ?_
        obtain ⟨a16, qa16, hf⟩ := bn hf
        refine v_getA C h_l0 fl_X11_46 qa16 dX11_tellOne_128 (fun h_a16 => ?_)
        refine v_aload_n C 0 dX11_tellOne_131 rfl rfl ?_
        refine v_getI C h_l0 fl_X11_260 dX11_tellOne_132 ?_
        refine v_topi (fun x17 ex17 => ?_)
        have hf := bd_at hf ex17
        refine v_dup2 C dX11_tellOne_135 rfl rfl ?_
        obtain ⟨v18, qv18, hf⟩ := bn hf
        refine v_iald C h_a16 qv18 dX11_tellOne_136 ?_
        refine v_iconst (v := 1) C dX11_tellOne_137 (by decide) ?_
        refine v_iadd C dX11_tellOne_138 ?_
        obtain ⟨G19, qG19, hf⟩ := bn hf
        refine v_iast C h_a16 qG19 hC dX11_tellOne_139 (fun hC => ?_)
        refine v_goto (tgt := 338) C dX11_tellOne_140 (by decide) ?_
        cases hf
        exact kr _ _ dX11_tellOne_338 hC
    · have hf := im hf c8
      cases hf
      exact kr _ _ dX11_tellOne_102 hC
  · have hf := im hf c3
    by_cases c20 : v2 = 21
    · have hf := ip hf c20
      refine v_tableIn (off := 134) (tgt := 143) C dX11_tellOne_9 (by rw [c20]; decide) (by rw [c20]; decide) (by rw [c20]; decide) (by decide) ?_
      refine v_aload_n C 0 dX11_tellOne_143 rfl rfl ?_
      refine v_aload_n C 0 dX11_tellOne_144 rfl rfl ?_
      obtain ⟨a21, qa21, hf⟩ := bn hf
      refine v_getA C h_l0 fl_X11_49 qa21 dX11_tellOne_145 (fun h_a21 => ?_)
      refine v_aload_n C 0 dX11_tellOne_148 rfl rfl ?_
      refine v_getI C h_l0 fl_X11_260 dX11_tellOne_149 ?_
      obtain ⟨v22, qv22, hf⟩ := bn hf
      refine v_iald C h_a21 qv22 dX11_tellOne_152 ?_
      refine v_bipush (v := 7) C dX11_tellOne_153 (by decide) ?_
      obtain ⟨G24, qr23, hf⟩ := bn hf
      refine v_callVv (As := [.int v22, .int 7]) (rest := []) C (sX11_roomFor h_l0 qr23) cs_X11_284 (by decide) h_l0 rfl hC rfl rfl rfl (Nat.le_of_ble_eq_true rfl) ⟨Nat.le_refl _, Nat.le_refl _⟩ dX11_tellOne_155 (fun hC => ?_)
      refine v_aload_n C 0 dX11_tellOne_158 rfl rfl ?_
      refine v_getI C h_l0 fl_X11_227 dX11_tellOne_159 ?_
      refine v_if_ne (tgt := 338) C dX11_tellOne_162 (by decide) (fun c25 => ?_) (fun c25 => ?_)
      · have hf := im hf c25
        cases hf
        exact kr _ _ dX11_tellOne_338 hC
      · have hf := ip hf c25
        refine v_aload_n C 0 dX11_tellOne_165 rfl rfl ?_
        obtain ⟨G27, qr26, hf⟩ := bn hf
        refine v_callVv (As := []) (rest := []) C (sX11_tellBeing h_l0 qr26) cs_X11_295 (by decide) h_l0 rfl hC rfl rfl rfl (Nat.le_of_ble_eq_true rfl) ⟨Nat.le_refl _, Nat.le_refl _⟩ dX11_tellOne_166 (fun hC => ?_)
        refine v_goto (tgt := 338) C dX11_tellOne_169 (by decide) ?_
        cases hf
        exact kr _ _ dX11_tellOne_338 hC
    · have hf := im hf c20
      by_cases c28 : v2 = 22
      · have hf := ip hf c28
        refine v_tableIn (off := 163) (tgt := 172) C dX11_tellOne_9 (by rw [c28]; decide) (by rw [c28]; decide) (by rw [c28]; decide) (by decide) ?_
        refine v_aload_n C 0 dX11_tellOne_172 rfl rfl ?_
        refine v_aload_n C 0 dX11_tellOne_173 rfl rfl ?_
        obtain ⟨a29, qa29, hf⟩ := bn hf
        refine v_getA C h_l0 fl_X11_58 qa29 dX11_tellOne_174 (fun h_a29 => ?_)
        refine v_aload_n C 0 dX11_tellOne_177 rfl rfl ?_
        refine v_getI C h_l0 fl_X11_260 dX11_tellOne_178 ?_
        obtain ⟨v30, qv30, hf⟩ := bn hf
        refine v_iald C h_a29 qv30 dX11_tellOne_181 ?_
        refine v_iconst (v := 4) C dX11_tellOne_182 (by decide) ?_
        obtain ⟨G32, qr31, hf⟩ := bn hf
        refine v_callVv (As := [.int v30, .int 4]) (rest := []) C (sX11_roomFor h_l0 qr31) cs_X11_284 (by decide) h_l0 rfl hC rfl rfl rfl (Nat.le_of_ble_eq_true rfl) ⟨Nat.le_refl _, Nat.le_refl _⟩ dX11_tellOne_183 (fun hC => ?_)
        refine v_aload_n C 0 dX11_tellOne_186 rfl rfl ?_
        refine v_getI C h_l0 fl_X11_227 dX11_tellOne_187 ?_
        refine v_if_ne (tgt := 338) C dX11_tellOne_190 (by decide) (fun c33 => ?_) (fun c33 => ?_)
        · have hf := im hf c33
          cases hf
          exact kr _ _ dX11_tellOne_338 hC
        · have hf := ip hf c33
          refine v_aload_n C 0 dX11_tellOne_193 rfl rfl ?_
          obtain ⟨G35, qr34, hf⟩ := bn hf
          refine v_callVv (As := []) (rest := []) C (sX11_tellWay h_l0 qr34) cs_X11_298 (by decide) h_l0 rfl hC rfl rfl rfl (Nat.le_of_ble_eq_true rfl) ⟨Nat.le_refl _, Nat.le_refl _⟩ dX11_tellOne_194 (fun hC => ?_)
          refine v_goto (tgt := 338) C dX11_tellOne_197 (by decide) ?_
          cases hf
          exact kr _ _ dX11_tellOne_338 hC
      · have hf := im hf c28
        by_cases c36 : v2 = 23
        · have hf := ip hf c36
          refine v_tableIn (off := 191) (tgt := 200) C dX11_tellOne_9 (by rw [c36]; decide) (by rw [c36]; decide) (by rw [c36]; decide) (by decide) ?_
          refine v_aload_n C 0 dX11_tellOne_200 rfl rfl ?_
          refine v_aload_n C 0 dX11_tellOne_201 rfl rfl ?_
          obtain ⟨a37, qa37, hf⟩ := bn hf
          refine v_getA C h_l0 fl_X11_70 qa37 dX11_tellOne_202 (fun h_a37 => ?_)
          refine v_aload_n C 0 dX11_tellOne_205 rfl rfl ?_
          refine v_getI C h_l0 fl_X11_260 dX11_tellOne_206 ?_
          obtain ⟨v38, qv38, hf⟩ := bn hf
          refine v_iald C h_a37 qv38 dX11_tellOne_209 ?_
          refine v_iconst (v := 4) C dX11_tellOne_210 (by decide) ?_
          obtain ⟨G40, qr39, hf⟩ := bn hf
          refine v_callVv (As := [.int v38, .int 4]) (rest := []) C (sX11_roomFor h_l0 qr39) cs_X11_284 (by decide) h_l0 rfl hC rfl rfl rfl (Nat.le_of_ble_eq_true rfl) ⟨Nat.le_refl _, Nat.le_refl _⟩ dX11_tellOne_211 (fun hC => ?_)
          refine v_aload_n C 0 dX11_tellOne_214 rfl rfl ?_
          refine v_getI C h_l0 fl_X11_227 dX11_tellOne_215 ?_
          refine v_if_ne (tgt := 338) C dX11_tellOne_218 (by decide) (fun c41 => ?_) (fun c41 => ?_)
          · have hf := im hf c41
            cases hf
            exact kr _ _ dX11_tellOne_338 hC
          · have hf := ip hf c41
            refine v_aload_n C 0 dX11_tellOne_221 rfl rfl ?_
            obtain ⟨G43, qr42, hf⟩ := bn hf
            refine v_callVv (As := []) (rest := []) C (sX11_tellBridge h_l0 qr42) cs_X11_301 (by decide) h_l0 rfl hC rfl rfl rfl (Nat.le_of_ble_eq_true rfl) ⟨Nat.le_refl _, Nat.le_refl _⟩ dX11_tellOne_222 (fun hC => ?_)
            refine v_goto (tgt := 338) C dX11_tellOne_225 (by decide) ?_
            cases hf
            exact kr _ _ dX11_tellOne_338 hC
        · have hf := im hf c36
          by_cases c44 : v2 = 24
          · have hf := ip hf c44
            refine v_tableIn (off := 276) (tgt := 285) C dX11_tellOne_9 (by rw [c44]; decide) (by rw [c44]; decide) (by rw [c44]; decide) (by decide) ?_
            refine v_sub [0] rfl ?_
            exact tX11_tellOne_J285 C hC h_l0 hf kr
          · have hf := im hf c44
            by_cases c45 : v2 = 25
            · have hf := ip hf c45
              refine v_tableIn (off := 276) (tgt := 285) C dX11_tellOne_9 (by rw [c45]; decide) (by rw [c45]; decide) (by rw [c45]; decide) (by decide) ?_
              refine v_sub [0] rfl ?_
              exact tX11_tellOne_J285 C hC h_l0 hf kr
            · have hf := im hf c45
              by_cases c46 : v2 = 26
              · have hf := ip hf c46
                refine v_tableIn (off := 276) (tgt := 285) C dX11_tellOne_9 (by rw [c46]; decide) (by rw [c46]; decide) (by rw [c46]; decide) (by decide) ?_
                refine v_sub [0] rfl ?_
                exact tX11_tellOne_J285 C hC h_l0 hf kr
              · have hf := im hf c46
                by_cases c47 : v2 = 27
                · have hf := ip hf c47
                  refine v_tableIn (off := 276) (tgt := 285) C dX11_tellOne_9 (by rw [c47]; decide) (by rw [c47]; decide) (by rw [c47]; decide) (by decide) ?_
                  refine v_sub [0] rfl ?_
                  exact tX11_tellOne_J285 C hC h_l0 hf kr
                · have hf := im hf c47
                  by_cases c48 : v2 = 28
                  · have hf := ip hf c48
                    refine v_tableIn (off := 276) (tgt := 285) C dX11_tellOne_9 (by rw [c48]; decide) (by rw [c48]; decide) (by rw [c48]; decide) (by decide) ?_
                    refine v_sub [0] rfl ?_
                    exact tX11_tellOne_J285 C hC h_l0 hf kr
                  · have hf := im hf c48
                    by_cases c49 : v2 = 29
                    · have hf := ip hf c49
                      refine v_tableIn (off := 276) (tgt := 285) C dX11_tellOne_9 (by rw [c49]; decide) (by rw [c49]; decide) (by rw [c49]; decide) (by decide) ?_
                      refine v_sub [0] rfl ?_
                      exact tX11_tellOne_J285 C hC h_l0 hf kr
                    · have hf := im hf c49
                      by_cases c50 : v2 = 30
                      · have hf := ip hf c50
                        refine v_tableIn (off := 276) (tgt := 285) C dX11_tellOne_9 (by rw [c50]; decide) (by rw [c50]; decide) (by rw [c50]; decide) (by decide) ?_
                        refine v_sub [0] rfl ?_
                        exact tX11_tellOne_J285 C hC h_l0 hf kr
                      · have hf := im hf c50
                        by_cases c51 : v2 = 31
                        · have hf := ip hf c51
                          refine v_tableIn (off := 276) (tgt := 285) C dX11_tellOne_9 (by rw [c51]; decide) (by rw [c51]; decide) (by rw [c51]; decide) (by decide) ?_
                          refine v_sub [0] rfl ?_
                          exact tX11_tellOne_J285 C hC h_l0 hf kr
                        · have hf := im hf c51
                          by_cases c52 : v2 = 32
                          · have hf := ip hf c52
                            refine v_tableIn (off := 219) (tgt := 228) C dX11_tellOne_9 (by rw [c52]; decide) (by rw [c52]; decide) (by rw [c52]; decide) (by decide) ?_
                            refine v_aload_n C 0 dX11_tellOne_228 rfl rfl ?_
                            obtain ⟨G54, qr53, hf⟩ := bn hf
                            refine v_callVv (As := []) (rest := []) C (sX11_goesOn h_l0 qr53) cs_X11_248 (by decide) h_l0 rfl hC rfl rfl rfl (Nat.le_of_ble_eq_true rfl) ⟨Nat.le_refl _, Nat.le_refl _⟩ dX11_tellOne_229 (fun hC => ?_)
                            refine v_aload_n C 0 dX11_tellOne_232 rfl rfl ?_
                            obtain ⟨a55, qa55, hf⟩ := bn hf
                            refine v_getA C h_l0 fl_X11_88 qa55 dX11_tellOne_233 (fun h_a55 => ?_)
                            refine v_aload_n C 0 dX11_tellOne_236 rfl rfl ?_
                            refine v_getI C h_l0 fl_X11_260 dX11_tellOne_237 ?_
                            refine v_aload_n C 0 dX11_tellOne_240 rfl rfl ?_
                            refine v_iconst (v := 0) C dX11_tellOne_241 (by decide) ?_
                            refine v_bipush (v := 100) C dX11_tellOne_242 (by decide) ?_
                            obtain ⟨r56, G57, qr56, hf⟩ := bpn hf
                            refine v_callVi (As := [.int 0, .int 100]) (rest := [.int (G54.1 l0 19), .ref (ad a55)]) C (sX11_bounded h_l0 qr56) cs_X11_304 (by decide) h_l0 rfl hC rfl rfl rfl (Nat.le_of_ble_eq_true rfl) ⟨Nat.le_refl _, Nat.le_refl _⟩ dX11_tellOne_244 (fun hC => ?_)
                            obtain ⟨G58, qG58, hf⟩ := bn hf
                            refine v_iast C h_a55 qG58 hC dX11_tellOne_247 (fun hC => ?_)
                            refine v_aload_n C 0 dX11_tellOne_248 rfl rfl ?_
                            refine v_iconst (v := 4) C dX11_tellOne_249 (by decide) ?_
                            obtain ⟨G60, qr59, hf⟩ := bn hf
                            refine v_callVv (As := [.int 4]) (rest := []) C (sX11_must h_l0 qr59) cs_X11_308 (by decide) h_l0 rfl hC rfl rfl rfl (Nat.le_of_ble_eq_true rfl) ⟨Nat.le_refl _, Nat.le_refl _⟩ dX11_tellOne_250 (fun hC => ?_)
                            refine v_goto (tgt := 338) C dX11_tellOne_253 (by decide) ?_
                            cases hf
                            exact kr _ _ dX11_tellOne_338 hC
                          · have hf := im hf c52
                            by_cases c61 : v2 = 33
                            · have hf := ip hf c61
                              refine v_tableIn (off := 247) (tgt := 256) C dX11_tellOne_9 (by rw [c61]; decide) (by rw [c61]; decide) (by rw [c61]; decide) (by decide) ?_
                              refine v_aload_n C 0 dX11_tellOne_256 rfl rfl ?_
                              obtain ⟨G63, qr62, hf⟩ := bn hf
                              refine v_callVv (As := []) (rest := []) C (sX11_goesOn h_l0 qr62) cs_X11_248 (by decide) h_l0 rfl hC rfl rfl rfl (Nat.le_of_ble_eq_true rfl) ⟨Nat.le_refl _, Nat.le_refl _⟩ dX11_tellOne_257 (fun hC => ?_)
                              refine v_aload_n C 0 dX11_tellOne_260 rfl rfl ?_
                              obtain ⟨a64, qa64, hf⟩ := bn hf
                              refine v_getA C h_l0 fl_X11_91 qa64 dX11_tellOne_261 (fun h_a64 => ?_)
                              refine v_aload_n C 0 dX11_tellOne_264 rfl rfl ?_
                              refine v_getI C h_l0 fl_X11_260 dX11_tellOne_265 ?_
                              refine v_aload_n C 0 dX11_tellOne_268 rfl rfl ?_
                              refine v_iconst (v := 0) C dX11_tellOne_269 (by decide) ?_
                              refine v_sipush (v := 9999) C dX11_tellOne_270 (by decide) ?_
                              obtain ⟨r65, G66, qr65, hf⟩ := bpn hf
                              refine v_callVi (As := [.int 0, .int 9999]) (rest := [.int (G63.1 l0 19), .ref (ad a64)]) C (sX11_bounded h_l0 qr65) cs_X11_304 (by decide) h_l0 rfl hC rfl rfl rfl (Nat.le_of_ble_eq_true rfl) ⟨Nat.le_refl _, Nat.le_refl _⟩ dX11_tellOne_273 (fun hC => ?_)
                              obtain ⟨G67, qG67, hf⟩ := bn hf
                              refine v_iast C h_a64 qG67 hC dX11_tellOne_276 (fun hC => ?_)
                              refine v_aload_n C 0 dX11_tellOne_277 rfl rfl ?_
                              refine v_iconst (v := 4) C dX11_tellOne_278 (by decide) ?_
                              obtain ⟨G69, qr68, hf⟩ := bn hf
                              refine v_callVv (As := [.int 4]) (rest := []) C (sX11_must h_l0 qr68) cs_X11_308 (by decide) h_l0 rfl hC rfl rfl rfl (Nat.le_of_ble_eq_true rfl) ⟨Nat.le_refl _, Nat.le_refl _⟩ dX11_tellOne_279 (fun hC => ?_)
                              refine v_goto (tgt := 338) C dX11_tellOne_282 (by decide) ?_
                              cases hf
                              exact kr _ _ dX11_tellOne_338 hC
                            · have hf := im hf c61
                              refine v_tableOut (tgt := 285) C dX11_tellOne_9 (tsw_out (by decide) (by decide) (fun k hk => match k, hk with | 0, _ => fun e => c3 (e.trans (by decide)) | 1, _ => fun e => c20 (e.trans (by decide)) | 2, _ => fun e => c28 (e.trans (by decide)) | 3, _ => fun e => c36 (e.trans (by decide)) | 4, _ => fun e => c44 (e.trans (by decide)) | 5, _ => fun e => c45 (e.trans (by decide)) | 6, _ => fun e => c46 (e.trans (by decide)) | 7, _ => fun e => c47 (e.trans (by decide)) | 8, _ => fun e => c48 (e.trans (by decide)) | 9, _ => fun e => c49 (e.trans (by decide)) | 10, _ => fun e => c50 (e.trans (by decide)) | 11, _ => fun e => c51 (e.trans (by decide)) | 12, _ => fun e => c52 (e.trans (by decide)) | 13, _ => fun e => c61 (e.trans (by decide)) | k + 14, hk => absurd hk (by simp only [show (Int.toNat (33 - 20 + 1)) = 14 from rfl]; omega))) (by decide) ?_
                              refine v_sub [0] rfl ?_
                              exact tX11_tellOne_J285 C hC h_l0 hf kr
theorem sX11_tellOne {l : Launch} {sh : Sh} {G : Hp} {l0 : Nat} {z : Hp} (h_l0 : sh[l0]? = some (0, 11)) (hf : fX11_tellOne sh G l0 = some z) : MC l yX11_tellOne cX11_tellOne 2 none 7 0 0 sh sh G z (fun ad => [.ref (ad l0)]) (fun _ => none) := by
  refine MC_of rfl rfl (fun _ => Nat.le_of_ble_eq_true rfl) (fun E ad C hl hnm hC hQ => ?_)
  exact tX11_tellOne C hC h_l0 hf (fun pc lv hd hC => v_vret C hQ (fun _ _ => rfl) hC rfl hd)
