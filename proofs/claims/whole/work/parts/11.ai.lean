def fX6_swapText (sh : Sh) (G : Hp) (l0 : Nat) (l1 : Nat) : Option (Nat × Hp) := (ldO sh G l0 9 8).bind fun a1 => bd (sR G l0 9 (some l1)) fun G2 => some (a1, G2)
set_option maxHeartbeats 4000000 in
theorem tX6_swapText {E : EX} {ad : Nat → Nat} {sh : Sh} {G : Hp} {l0 : Nat} {l1 : Nat} {z : Nat × Hp} (C : Cx E RX6 cX6_swapText 3 (some (.object "FirstOver$Text")) 1 0 0) (hC : Cl sh G) (h_l0 : sh[l0]? = some (0, 6)) (h_l1 : sh[l1]? = some (0, 8)) (hf : fX6_swapText sh G l0 l1 = some z) (kr : RCa E cX6_swapText ad sh (z.1) (z.2)) : VV E 0 0 (wq (xT E) ad G sh) 0 [(0, .ref (ad l0)), (1, .ref (ad l1))] [] := by
  unfold fX6_swapText at hf
  refine v_aload_n C 0 dX6_swapText_0 rfl rfl ?_
  obtain ⟨a1, qa1, hf⟩ := bn hf
  refine v_getO C h_l0 fl_X6_31 qa1 dX6_swapText_1 (fun h_a1 => ?_)
  refine v_astore_n (lv2 := [(2, .ref (ad a1)), (0, .ref (ad l0)), (1, .ref (ad l1))]) C dX6_swapText_4 rfl (by decide) rfl ?_
  refine v_aload_n C 1 dX6_swapText_5 rfl rfl ?_
  refine v_aload_n C 2 dX6_swapText_6 rfl rfl ?_
  refine v_putR C h_l0 fp_X6_31 rfl rfl h_l1 hC dX6_swapText_7 (fun G2 eG2 hC => ?_)
  have hf := bd_at hf eG2
  refine v_aload_n C 0 dX6_swapText_10 rfl rfl ?_
  cases hf
  exact kr _ _ dX6_swapText_11 hC
theorem sX6_swapText {l : Launch} {sh : Sh} {G : Hp} {l0 : Nat} {l1 : Nat} {z : Nat × Hp} (h_l0 : sh[l0]? = some (0, 6)) (h_l1 : sh[l1]? = some (0, 8)) (hf : fX6_swapText sh G l0 l1 = some z) : MC l yX6_swapText cX6_swapText 3 (some (.object "FirstOver$Text")) 1 0 0 sh sh G (z.2) (fun ad => [.ref (ad l0), .ref (ad l1)]) (fun ad => some (.ref (ad z.1))) := by
  refine MC_of rfl rfl (fun _ => Nat.le_of_ble_eq_true rfl) (fun E ad C hl hnm hC hQ => ?_)
  exact tX6_swapText C hC h_l0 h_l1 hf (fun pc lv hd hC => v_aret C hQ (fun _ _ => rfl) hC rfl hd)
def fX1_startFrom (sh : Sh) (G : Hp) (l0 : Nat) (l1 : Nat) : Option (Hp) := (ldA sh G l1 11 1).bind fun a1 => (ldA sh G l0 0 1).bind fun a2 => (cpI sh G a1 0 a2 0 4).bind fun G3 => (ldA sh G3 l0 1 1).bind fun a4 => (fJ7_fill_53178 sh G3 a4 0).bind fun G6 => (ldA sh G6 l0 2 1).bind fun a7 => (fJ7_fill_53178 sh G6 a7 0).bind fun G9 => bd (sI G9 l0 4 0) fun G10 => bd (sI G10 l0 5 0) fun G11 => bd (sI G11 l0 6 (((1 : Int32) <<< ((G11.1 l1 1) &&& 31)) - 1)) fun G12 => bd (sI G12 l0 7 0) fun G13 => bd (sI G13 l0 8 0) fun G14 => some G14
set_option maxHeartbeats 4000000 in
theorem tX1_startFrom {E : EX} {ad : Nat → Nat} {sh : Sh} {G : Hp} {l0 : Nat} {l1 : Nat} {z : Hp} (C : Cx E RX1 cX1_startFrom 2 none 2 0 0) (hC : Cl sh G) (h_l0 : sh[l0]? = some (0, 1)) (h_l1 : sh[l1]? = some (0, 8)) (hf : fX1_startFrom sh G l0 l1 = some z) (kr : RCv E cX1_startFrom ad sh z) : VV E 0 0 (wq (xT E) ad G sh) 0 [(0, .ref (ad l0)), (1, .ref (ad l1))] [] := by
  unfold fX1_startFrom at hf
  refine v_aload_n C 1 dX1_startFrom_0 rfl rfl ?_
  obtain ⟨a1, qa1, hf⟩ := bn hf
  refine v_getA C h_l1 fl_X1_24 qa1 dX1_startFrom_1 (fun h_a1 => ?_)
  refine v_iconst (v := 0) C dX1_startFrom_4 (by decide) ?_
  refine v_aload_n C 0 dX1_startFrom_5 rfl rfl ?_
  obtain ⟨a2, qa2, hf⟩ := bn hf
  refine v_getA C h_l0 fl_X1_9 qa2 dX1_startFrom_6 (fun h_a2 => ?_)
  refine v_iconst (v := 0) C dX1_startFrom_9 (by decide) ?_
  refine v_iconst (v := 4) C dX1_startFrom_10 (by decide) ?_
  obtain ⟨G3, qG3, hf⟩ := bn hf
  refine v_copyI C cp_X1_27 h_a1 h_a2 qG3 hC (by omega) (Nat.le_of_ble_eq_true rfl) dX1_startFrom_11 (fun hC => ?_)
  refine v_aload_n C 0 dX1_startFrom_14 rfl rfl ?_
  obtain ⟨a4, qa4, hf⟩ := bn hf
  refine v_getA C h_l0 fl_X1_15 qa4 dX1_startFrom_15 (fun h_a4 => ?_)
  refine v_iconst (v := 0) C dX1_startFrom_18 (by decide) ?_
  obtain ⟨G6, qr5, hf⟩ := bn hf
  refine v_callSv (As := [.ref (ad a4), .int 0]) (rest := []) C (sJ7_fill_53178 h_a4 qr5) cs_X1_33 (by decide) hC rfl rfl rfl (Nat.le_of_ble_eq_true rfl) ⟨Nat.le_refl _, Nat.le_refl _⟩ dX1_startFrom_19 (fun hC => ?_)
  refine v_aload_n C 0 dX1_startFrom_22 rfl rfl ?_
  obtain ⟨a7, qa7, hf⟩ := bn hf
  refine v_getA C h_l0 fl_X1_18 qa7 dX1_startFrom_23 (fun h_a7 => ?_)
  refine v_iconst (v := 0) C dX1_startFrom_26 (by decide) ?_
  obtain ⟨G9, qr8, hf⟩ := bn hf
  refine v_callSv (As := [.ref (ad a7), .int 0]) (rest := []) C (sJ7_fill_53178 h_a7 qr8) cs_X1_33 (by decide) hC rfl rfl rfl (Nat.le_of_ble_eq_true rfl) ⟨Nat.le_refl _, Nat.le_refl _⟩ dX1_startFrom_27 (fun hC => ?_)
  refine v_aload_n C 0 dX1_startFrom_30 rfl rfl ?_
  refine v_iconst (v := 0) C dX1_startFrom_31 (by decide) ?_
  refine v_putI C h_l0 fp_X1_39 dX1_startFrom_32 (fun G10 eG10 => ?_)
  have hf := bd_at hf eG10
  have hC : Cl sh G10 := by rw [eG10]; exact hC
  refine v_aload_n C 0 dX1_startFrom_35 rfl rfl ?_
  refine v_iconst (v := 0) C dX1_startFrom_36 (by decide) ?_
  refine v_putI C h_l0 fp_X1_43 dX1_startFrom_37 (fun G11 eG11 => ?_)
  have hf := bd_at hf eG11
  have hC : Cl sh G11 := by rw [eG11]; exact hC
  refine v_aload_n C 0 dX1_startFrom_40 rfl rfl ?_
  refine v_iconst (v := 1) C dX1_startFrom_41 (by decide) ?_
  refine v_aload_n C 1 dX1_startFrom_42 rfl rfl ?_
  refine v_getI C h_l1 fl_X1_46 dX1_startFrom_43 ?_
  refine v_ishl C dX1_startFrom_46 ?_
  refine v_iconst (v := 1) C dX1_startFrom_47 (by decide) ?_
  refine v_isub C dX1_startFrom_48 ?_
  refine v_putI C h_l0 fp_X1_49 dX1_startFrom_49 (fun G12 eG12 => ?_)
  have hf := bd_at hf eG12
  have hC : Cl sh G12 := by rw [eG12]; exact hC
  refine v_aload_n C 0 dX1_startFrom_52 rfl rfl ?_
  refine v_iconst (v := 0) C dX1_startFrom_53 (by decide) ?_
  refine v_putI C h_l0 fp_X1_52 dX1_startFrom_54 (fun G13 eG13 => ?_)
  have hf := bd_at hf eG13
  have hC : Cl sh G13 := by rw [eG13]; exact hC
  refine v_aload_n C 0 dX1_startFrom_57 rfl rfl ?_
  refine v_iconst (v := 0) C dX1_startFrom_58 (by decide) ?_
  refine v_putI C h_l0 fp_X1_55 dX1_startFrom_59 (fun G14 eG14 => ?_)
  have hf := bd_at hf eG14
  have hC : Cl sh G14 := by rw [eG14]; exact hC
  cases hf
  exact kr _ _ dX1_startFrom_62 hC
theorem sX1_startFrom {l : Launch} {sh : Sh} {G : Hp} {l0 : Nat} {l1 : Nat} {z : Hp} (h_l0 : sh[l0]? = some (0, 1)) (h_l1 : sh[l1]? = some (0, 8)) (hf : fX1_startFrom sh G l0 l1 = some z) : MC l yX1_startFrom cX1_startFrom 2 none 2 0 0 sh sh G z (fun ad => [.ref (ad l0), .ref (ad l1)]) (fun _ => none) := by
  refine MC_of rfl rfl (fun _ => Nat.le_of_ble_eq_true rfl) (fun E ad C hl hnm hC hQ => ?_)
  exact tX1_startFrom C hC h_l0 h_l1 hf (fun pc lv hd hC => v_vret C hQ (fun _ _ => rfl) hC rfl hd)
def fX10_read_J42 (sh : Sh) (G : Hp) (l0 : Nat) (l1 : Int32) (s0 : Int32) (s1 : Nat) : Option (Int32 × Hp) := bd (sI G s1 1 s0) fun G1 => if l1 = 0 then (ldO sh G1 l0 0 6).bind fun a3 => (ldO sh G1 l0 2 8).bind fun a4 => bp (fX6_swapText sh G1 a3 a4) fun r5 G6 => (ckO sh r5 8).bind fun u7 => bd (sR G6 l0 2 (some r5)) fun G8 => (ldO sh G8 l0 3 1).bind fun a9 => (ldO sh G8 l0 2 8).bind fun a10 => (fX1_startFrom sh G8 a9 a10).bind fun G12 => (ldO sh G12 l0 5 2).bind fun a13 => bd (sI G12 a13 0 0) fun G14 => (ldO sh G14 l0 8 9).bind fun a15 => bd (sI G14 a15 0 0) fun G16 => bd (sI G16 l0 7 0) fun G17 => some (l1, G17) else some (l1, G1)
set_option maxHeartbeats 4000000 in
theorem tX10_read_J42 {E : EX} {ad : Nat → Nat} {sh : Sh} {G : Hp} {l0 : Nat} {l1 : Int32} {s0 : Int32} {s1 : Nat} {z : Int32 × Hp} (C : Cx E RX10 cX10_read 2 (some .int) 37 0 0) (hC : Cl sh G) (h_l0 : sh[l0]? = some (0, 10)) (h_s1 : sh[s1]? = some (0, 10)) (hf : fX10_read_J42 sh G l0 l1 s0 s1 = some z) (kr : RCi E cX10_read ad sh (z.1) (z.2)) : VV E 0 0 (wq (xT E) ad G sh) 42 [(0, .ref (ad l0)), (1, .int l1)] [.int s0, .ref (ad s1)] := by
  unfold fX10_read_J42 at hf
  refine v_putI C h_s1 fp_X10_16 dX10_read_42 (fun G1 eG1 => ?_)
  have hf := bd_at hf eG1
  have hC : Cl sh G1 := by rw [eG1]; exact hC
  refine v_iload_n C 1 dX10_read_45 rfl rfl ?_
  refine v_if_ne (tgt := 96) C dX10_read_46 (by decide) (fun c2 => ?_) (fun c2 => ?_)
  · have hf := im hf c2
    refine v_iload_n C 1 dX10_read_96 rfl rfl ?_
    cases hf
    exact kr _ _ dX10_read_97 hC
  · have hf := ip hf c2
    refine v_aload_n C 0 dX10_read_49 rfl rfl ?_
    refine v_aload_n C 0 dX10_read_50 rfl rfl ?_
    obtain ⟨a3, qa3, hf⟩ := bn hf
    refine v_getO C h_l0 fl_X10_12 qa3 dX10_read_51 (fun h_a3 => ?_)
    refine v_aload_n C 0 dX10_read_54 rfl rfl ?_
    obtain ⟨a4, qa4, hf⟩ := bn hf
    refine v_getO C h_l0 fl_X10_23 qa4 dX10_read_55 (fun h_a4 => ?_)
    obtain ⟨r5, G6, qr5, hf⟩ := bpn hf
    obtain ⟨u7, hu7, hf⟩ := bn hf
    have h_r5 := ckO_some hu7
    refine v_callVr (As := [.ref (ad a4)]) (rest := [.ref (ad l0)]) C (sX6_swapText h_a3 h_a4 qr5) cs_X10_99 (by decide) h_a3 rfl hC rfl rfl rfl (Nat.le_of_ble_eq_true rfl) ⟨Nat.le_refl _, Nat.le_refl _⟩ h_r5 dX10_read_58 (fun hC => ?_)
    refine v_putR C h_l0 fp_X10_23 rfl rfl h_r5 hC dX10_read_61 (fun G8 eG8 hC => ?_)
    have hf := bd_at hf eG8
    refine v_aload_n C 0 dX10_read_64 rfl rfl ?_
    obtain ⟨a9, qa9, hf⟩ := bn hf
    refine v_getO C h_l0 fl_X10_30 qa9 dX10_read_65 (fun h_a9 => ?_)
    refine v_aload_n C 0 dX10_read_68 rfl rfl ?_
    obtain ⟨a10, qa10, hf⟩ := bn hf
    refine v_getO C h_l0 fl_X10_23 qa10 dX10_read_69 (fun h_a10 => ?_)
    obtain ⟨G12, qr11, hf⟩ := bn hf
    refine v_callVv (As := [.ref (ad a10)]) (rest := []) C (sX1_startFrom h_a9 h_a10 qr11) cs_X10_103 (by decide) h_a9 rfl hC rfl rfl rfl (Nat.le_of_ble_eq_true rfl) ⟨Nat.le_refl _, Nat.le_refl _⟩ dX10_read_72 (fun hC => ?_)
    refine v_aload_n C 0 dX10_read_75 rfl rfl ?_
    obtain ⟨a13, qa13, hf⟩ := bn hf
    refine v_getO C h_l0 fl_X10_44 qa13 dX10_read_76 (fun h_a13 => ?_)
    refine v_iconst (v := 0) C dX10_read_79 (by decide) ?_
    refine v_putI C h_a13 fp_X10_107 dX10_read_80 (fun G14 eG14 => ?_)
    have hf := bd_at hf eG14
    have hC : Cl sh G14 := by rw [eG14]; exact hC
    refine v_aload_n C 0 dX10_read_83 rfl rfl ?_
    obtain ⟨a15, qa15, hf⟩ := bn hf
    refine v_getO C h_l0 fl_X10_58 qa15 dX10_read_84 (fun h_a15 => ?_)
    refine v_iconst (v := 0) C dX10_read_87 (by decide) ?_
    refine v_putI C h_a15 fp_X10_110 dX10_read_88 (fun G16 eG16 => ?_)
    have hf := bd_at hf eG16
    have hC : Cl sh G16 := by rw [eG16]; exact hC
    refine v_aload_n C 0 dX10_read_91 rfl rfl ?_
    refine v_iconst (v := 0) C dX10_read_92 (by decide) ?_
    refine v_putI C h_l0 fp_X10_52 dX10_read_93 (fun G17 eG17 => ?_)
    have hf := bd_at hf eG17
    have hC : Cl sh G17 := by rw [eG17]; exact hC
    refine v_iload_n C 1 dX10_read_96 rfl rfl ?_
    cases hf
    exact kr _ _ dX10_read_97 hC
def fX10_read (sh : Sh) (G : Hp) (l0 : Nat) : Option (Int32 × Hp) := (ldO sh G l0 0 6).bind fun a1 => (fX6_start sh G a1).bind fun G3 => (ldO sh G3 l0 0 6).bind fun a4 => bp (fX6_readTells sh G3 a4) fun r5 G6 => (ldO sh G6 l0 0 6).bind fun a7 => (ldO sh G6 a7 0 7).bind fun a8 => bd (sI G6 a8 0 0) fun G9 => if r5 = 0 then fX10_read_J42 sh G9 l0 r5 (-1) l0 else (ldO sh G9 l0 0 6).bind fun a11 => fX10_read_J42 sh G9 l0 r5 (G9.1 a11 1) l0
set_option maxHeartbeats 4000000 in
theorem tX10_read {E : EX} {ad : Nat → Nat} {sh : Sh} {G : Hp} {l0 : Nat} {z : Int32 × Hp} (C : Cx E RX10 cX10_read 2 (some .int) 37 0 0) (hC : Cl sh G) (h_l0 : sh[l0]? = some (0, 10)) (hf : fX10_read sh G l0 = some z) (kr : RCi E cX10_read ad sh (z.1) (z.2)) : VV E 0 0 (wq (xT E) ad G sh) 0 [(0, .ref (ad l0))] [] := by
  unfold fX10_read at hf
  refine v_aload_n C 0 dX10_read_0 rfl rfl ?_
  obtain ⟨a1, qa1, hf⟩ := bn hf
  refine v_getO C h_l0 fl_X10_12 qa1 dX10_read_1 (fun h_a1 => ?_)
  obtain ⟨G3, qr2, hf⟩ := bn hf
  refine v_callVv (As := []) (rest := []) C (sX6_start h_a1 qr2) cs_X10_89 (by decide) h_a1 rfl hC rfl rfl rfl (Nat.le_of_ble_eq_true rfl) ⟨Nat.le_refl _, Nat.le_refl _⟩ dX10_read_4 (fun hC => ?_)
  refine v_aload_n C 0 dX10_read_7 rfl rfl ?_
  obtain ⟨a4, qa4, hf⟩ := bn hf
  refine v_getO C h_l0 fl_X10_12 qa4 dX10_read_8 (fun h_a4 => ?_)
  obtain ⟨r5, G6, qr5, hf⟩ := bpn hf
  refine v_callVi (As := []) (rest := []) C (sX6_readTells h_a4 qr5) cs_X10_92 (by decide) h_a4 rfl hC rfl rfl rfl (Nat.le_of_ble_eq_true rfl) ⟨Nat.le_refl _, Nat.le_refl _⟩ dX10_read_11 (fun hC => ?_)
  refine v_istore_n (lv2 := [(1, .int r5), (0, .ref (ad l0))]) C dX10_read_14 rfl (by decide) rfl ?_
  refine v_aload_n C 1 dX10_read_15 rfl rfl ?_
  obtain ⟨a7, qa7, hf⟩ := bn hf
  refine v_getO C h_l0 fl_X10_12 qa7 dX10_read_16 (fun h_a7 => ?_)
  obtain ⟨a8, qa8, hf⟩ := bn hf
  refine v_getO C h_a7 fl_X10_76 qa8 dX10_read_19 (fun h_a8 => ?_)
  refine v_iconst (v := 0) C dX10_read_22 (by decide) ?_
  refine v_putI C h_a8 fp_X10_80 dX10_read_23 (fun G9 eG9 => ?_)
  have hf := bd_at hf eG9
  have hC : Cl sh G9 := by rw [eG9]; exact hC
  refine v_aload_n C 1 dX10_read_26 rfl rfl ?_
  refine v_iload_n C 0 dX10_read_27 rfl rfl ?_
  refine v_if_ne (tgt := 35) C dX10_read_28 (by decide) (fun c10 => ?_) (fun c10 => ?_)
  · have hf := im hf c10
    refine v_aload_n C 1 dX10_read_35 rfl rfl ?_
    obtain ⟨a11, qa11, hf⟩ := bn hf
    refine v_getO C h_l0 fl_X10_12 qa11 dX10_read_36 (fun h_a11 => ?_)
    refine v_getI C h_a11 fl_X10_96 dX10_read_39 ?_
    refine v_sub [1, 0] rfl ?_
    exact tX10_read_J42 C hC h_l0 h_l0 hf kr
  · have hf := ip hf c10
    refine v_iconst (v := (-1)) C dX10_read_31 (by decide) ?_
    refine v_goto (tgt := 42) C dX10_read_32 (by decide) ?_
    refine v_sub [1, 0] rfl ?_
    exact tX10_read_J42 C hC h_l0 h_l0 hf kr
theorem sX10_read {l : Launch} {sh : Sh} {G : Hp} {l0 : Nat} {z : Int32 × Hp} (h_l0 : sh[l0]? = some (0, 10)) (hf : fX10_read sh G l0 = some z) : MC l yX10_read cX10_read 2 (some .int) 37 0 0 sh sh G (z.2) (fun ad => [.ref (ad l0)]) (fun _ => some (.int z.1)) := by
  refine MC_of rfl rfl (fun _ => Nat.le_of_ble_eq_true rfl) (fun E ad C hl hnm hC hQ => ?_)
  exact tX10_read C hC h_l0 hf (fun pc lv hd hC => v_iret C hQ (fun _ _ => rfl) hC rfl hd)
def fX10_restore (sh : Sh) (G : Hp) (l0 : Nat) (l1 : Int32) : Option (Int32 × Hp) := if l1 < 0 then some (0, G) else if 3 ≤ l1 then some (0, G) else if ((ush (G.1 l0 7) l1) &&& 1) = 0 then some (0, G) else (ldO sh G l0 3 1).bind fun a4 => (ldA sh G l0 6 5).bind fun a5 => (aR sh G a5 l1 1).bind fun a6 => (fX1_copyFrom sh G a4 a6).bind fun G8 => (ldO sh G8 l0 5 2).bind fun a9 => bd (sI G8 a9 0 0) fun G10 => some (1, G10)
set_option maxHeartbeats 4000000 in
theorem tX10_restore {E : EX} {ad : Nat → Nat} {sh : Sh} {G : Hp} {l0 : Nat} {l1 : Int32} {z : Int32 × Hp} (C : Cx E RX10 cX10_restore 2 (some .boolean) 2 0 0) (hC : Cl sh G) (h_l0 : sh[l0]? = some (0, 10)) (hf : fX10_restore sh G l0 l1 = some z) (kr : RCz E cX10_restore ad sh (z.1) (z.2)) : VV E 0 0 (wq (xT E) ad G sh) 0 [(0, .ref (ad l0)), (1, .int l1)] [] := by
  unfold fX10_restore at hf
  refine v_iload_n C 1 dX10_restore_0 rfl rfl ?_
  refine v_if_lt (tgt := 20) C dX10_restore_1 (by decide) (fun c1 => ?_) (fun c1 => ?_)
  · have hf := ip hf c1
    refine v_iconst (v := 0) C dX10_restore_20 (by decide) ?_
    cases hf
    exact kr _ _ dX10_restore_21 (Or.inl rfl) hC
  · have hf := im hf c1
    refine v_iload_n C 1 dX10_restore_4 rfl rfl ?_
    refine v_iconst (v := 3) C dX10_restore_5 (by decide) ?_
    refine v_icmp_ge (tgt := 20) C dX10_restore_6 (by decide) (fun c2 => ?_) (fun c2 => ?_)
    · have hf := ip hf c2
      refine v_iconst (v := 0) C dX10_restore_20 (by decide) ?_
      cases hf
      exact kr _ _ dX10_restore_21 (Or.inl rfl) hC
    · have hf := im hf c2
      refine v_aload_n C 0 dX10_restore_9 rfl rfl ?_
      refine v_getI C h_l0 fl_X10_52 dX10_restore_10 ?_
      refine v_iload_n C 1 dX10_restore_13 rfl rfl ?_
      refine v_iushr C dX10_restore_14 ?_
      refine v_iconst (v := 1) C dX10_restore_15 (by decide) ?_
      refine v_iand C dX10_restore_16 ?_
      refine v_if_ne (tgt := 22) C dX10_restore_17 (by decide) (fun c3 => ?_) (fun c3 => ?_)
      · have hf := im hf c3
        refine v_aload_n C 0 dX10_restore_22 rfl rfl ?_
        obtain ⟨a4, qa4, hf⟩ := bn hf
        refine v_getO C h_l0 fl_X10_30 qa4 dX10_restore_23 (fun h_a4 => ?_)
        refine v_aload_n C 0 dX10_restore_26 rfl rfl ?_
        obtain ⟨a5, qa5, hf⟩ := bn hf
        refine v_getA C h_l0 fl_X10_48 qa5 dX10_restore_27 (fun h_a5 => ?_)
        refine v_iload_n C 1 dX10_restore_30 rfl rfl ?_
        obtain ⟨a6, qa6, hf⟩ := bn hf
        refine v_aald C h_a5 qa6 dX10_restore_31 (fun h_a6 => ?_)
        obtain ⟨G8, qr7, hf⟩ := bn hf
        refine v_callVv (As := [.ref (ad a6)]) (rest := []) C (sX1_copyFrom h_a4 h_a6 qr7) cs_X10_315 (by decide) h_a4 rfl hC rfl rfl rfl (Nat.le_of_ble_eq_true rfl) ⟨Nat.le_refl _, Nat.le_refl _⟩ dX10_restore_32 (fun hC => ?_)
        refine v_aload_n C 0 dX10_restore_35 rfl rfl ?_
        obtain ⟨a9, qa9, hf⟩ := bn hf
        refine v_getO C h_l0 fl_X10_44 qa9 dX10_restore_36 (fun h_a9 => ?_)
        refine v_iconst (v := 0) C dX10_restore_39 (by decide) ?_
        refine v_putI C h_a9 fp_X10_107 dX10_restore_40 (fun G10 eG10 => ?_)
        have hf := bd_at hf eG10
        have hC : Cl sh G10 := by rw [eG10]; exact hC
        refine v_iconst (v := 1) C dX10_restore_43 (by decide) ?_
        cases hf
        exact kr _ _ dX10_restore_44 (Or.inr rfl) hC
      · have hf := ip hf c3
        refine v_iconst (v := 0) C dX10_restore_20 (by decide) ?_
        cases hf
        exact kr _ _ dX10_restore_21 (Or.inl rfl) hC
theorem sX10_restore {l : Launch} {sh : Sh} {G : Hp} {l0 : Nat} {l1 : Int32} {z : Int32 × Hp} (h_l0 : sh[l0]? = some (0, 10)) (hf : fX10_restore sh G l0 l1 = some z) : MC l yX10_restore cX10_restore 2 (some .boolean) 2 0 0 sh sh G (z.2) (fun ad => [.ref (ad l0), .int l1]) (fun _ => some (.int z.1)) := by
  refine MC_of rfl rfl (fun _ => Nat.le_of_ble_eq_true rfl) (fun E ad C hl hnm hC hQ => ?_)
  exact tX10_restore C hC h_l0 hf (fun pc lv hd hz hC => v_zret C hQ (fun _ _ => rfl) hC rfl hz hd)
def fX8_hasWayOrNone (sh : Sh) (G : Hp) (l0 : Nat) (l1 : Int32) : Option (Int32) := if l1 < (-1) then some 0 else if (G.1 l0 2) ≤ l1 then some 0 else some 1
set_option maxHeartbeats 4000000 in
theorem tX8_hasWayOrNone {E : EX} {ad : Nat → Nat} {sh : Sh} {G : Hp} {l0 : Nat} {l1 : Int32} {z : Int32} (C : Cx E RX8 cX8_hasWayOrNone 2 (some .boolean) 1 0 0) (hC : Cl sh G) (h_l0 : sh[l0]? = some (0, 8)) (hf : fX8_hasWayOrNone sh G l0 l1 = some z) (kr : RCz E cX8_hasWayOrNone ad sh z G) : VV E 0 0 (wq (xT E) ad G sh) 0 [(0, .ref (ad l0)), (1, .int l1)] [] := by
  unfold fX8_hasWayOrNone at hf
  refine v_iload_n C 1 dX8_hasWayOrNone_0 rfl rfl ?_
  refine v_iconst (v := (-1)) C dX8_hasWayOrNone_1 (by decide) ?_
  refine v_icmp_lt (tgt := 17) C dX8_hasWayOrNone_2 (by decide) (fun c1 => ?_) (fun c1 => ?_)
  · have hf := ip hf c1
    refine v_iconst (v := 0) C dX8_hasWayOrNone_17 (by decide) ?_
    cases hf
    exact kr _ _ dX8_hasWayOrNone_18 (Or.inl rfl) hC
  · have hf := im hf c1
    refine v_iload_n C 1 dX8_hasWayOrNone_5 rfl rfl ?_
    refine v_aload_n C 0 dX8_hasWayOrNone_6 rfl rfl ?_
    refine v_getI C h_l0 fl_X8_60 dX8_hasWayOrNone_7 ?_
    refine v_icmp_ge (tgt := 17) C dX8_hasWayOrNone_10 (by decide) (fun c2 => ?_) (fun c2 => ?_)
    · have hf := ip hf c2
      refine v_iconst (v := 0) C dX8_hasWayOrNone_17 (by decide) ?_
      cases hf
      exact kr _ _ dX8_hasWayOrNone_18 (Or.inl rfl) hC
    · have hf := im hf c2
      refine v_iconst (v := 1) C dX8_hasWayOrNone_13 (by decide) ?_
      refine v_goto (tgt := 18) C dX8_hasWayOrNone_14 (by decide) ?_
      cases hf
      exact kr _ _ dX8_hasWayOrNone_18 (Or.inr rfl) hC
theorem sX8_hasWayOrNone {l : Launch} {sh : Sh} {G : Hp} {l0 : Nat} {l1 : Int32} {z : Int32} (h_l0 : sh[l0]? = some (0, 8)) (hf : fX8_hasWayOrNone sh G l0 l1 = some z) : MC l yX8_hasWayOrNone cX8_hasWayOrNone 2 (some .boolean) 1 0 0 sh sh G G (fun ad => [.ref (ad l0), .int l1]) (fun _ => some (.int z)) := by
  refine MC_of rfl rfl (fun _ => Nat.le_of_ble_eq_true rfl) (fun E ad C hl hnm hC hQ => ?_)
  exact tX8_hasWayOrNone C hC h_l0 hf (fun pc lv hd hz hC => v_zret C hQ (fun _ _ => rfl) hC rfl hz hd)
def fX10_hasAll (sh : Sh) (G : Hp) (l0 : Nat) (l1 : Int32) (l2 : Int32) (l3 : Int32) : Option (Int32) := (ldO sh G l0 2 8).bind fun a1 => (fX8_hasBridge sh G a1 l1).bind fun r2 => if r2 = 0 then some 0 else (ldO sh G l0 2 8).bind fun a4 => (fX8_hasBeing sh G a4 l2).bind fun r5 => if r5 = 0 then some 0 else (ldO sh G l0 2 8).bind fun a7 => (fX8_hasWayOrNone sh G a7 l3).bind fun r8 => if r8 = 0 then some 0 else some 1
set_option maxHeartbeats 4000000 in
theorem tX10_hasAll {E : EX} {ad : Nat → Nat} {sh : Sh} {G : Hp} {l0 : Nat} {l1 : Int32} {l2 : Int32} {l3 : Int32} {z : Int32} (C : Cx E RX10 cX10_hasAll 4 (some .boolean) 2 0 0) (hC : Cl sh G) (h_l0 : sh[l0]? = some (0, 10)) (hf : fX10_hasAll sh G l0 l1 l2 l3 = some z) (kr : RCz E cX10_hasAll ad sh z G) : VV E 0 0 (wq (xT E) ad G sh) 0 [(0, .ref (ad l0)), (1, .int l1), (2, .int l2), (3, .int l3)] [] := by
  unfold fX10_hasAll at hf
  refine v_aload_n C 0 dX10_hasAll_0 rfl rfl ?_
  obtain ⟨a1, qa1, hf⟩ := bn hf
  refine v_getO C h_l0 fl_X10_23 qa1 dX10_hasAll_1 (fun h_a1 => ?_)
  refine v_iload_n C 1 dX10_hasAll_4 rfl rfl ?_
  obtain ⟨r2, qr2, hf⟩ := bn hf
  refine v_callVi (As := [.int l1]) (rest := []) C (sX8_hasBridge h_a1 qr2) cs_X10_143 (by decide) h_a1 rfl hC rfl rfl rfl (Nat.le_of_ble_eq_true rfl) ⟨Nat.le_refl _, Nat.le_refl _⟩ dX10_hasAll_5 (fun hC => ?_)
  refine v_if_eq (tgt := 37) C dX10_hasAll_8 (by decide) (fun c3 => ?_) (fun c3 => ?_)
  · have hf := ip hf c3
    refine v_iconst (v := 0) C dX10_hasAll_37 (by decide) ?_
    cases hf
    exact kr _ _ dX10_hasAll_38 (Or.inl rfl) hC
  · have hf := im hf c3
    refine v_aload_n C 0 dX10_hasAll_11 rfl rfl ?_
    obtain ⟨a4, qa4, hf⟩ := bn hf
    refine v_getO C h_l0 fl_X10_23 qa4 dX10_hasAll_12 (fun h_a4 => ?_)
    refine v_iload_n C 2 dX10_hasAll_15 rfl rfl ?_
    obtain ⟨r5, qr5, hf⟩ := bn hf
    refine v_callVi (As := [.int l2]) (rest := []) C (sX8_hasBeing h_a4 qr5) cs_X10_113 (by decide) h_a4 rfl hC rfl rfl rfl (Nat.le_of_ble_eq_true rfl) ⟨Nat.le_refl _, Nat.le_refl _⟩ dX10_hasAll_16 (fun hC => ?_)
    refine v_if_eq (tgt := 37) C dX10_hasAll_19 (by decide) (fun c6 => ?_) (fun c6 => ?_)
    · have hf := ip hf c6
      refine v_iconst (v := 0) C dX10_hasAll_37 (by decide) ?_
      cases hf
      exact kr _ _ dX10_hasAll_38 (Or.inl rfl) hC
    · have hf := im hf c6
      refine v_aload_n C 0 dX10_hasAll_22 rfl rfl ?_
      obtain ⟨a7, qa7, hf⟩ := bn hf
      refine v_getO C h_l0 fl_X10_23 qa7 dX10_hasAll_23 (fun h_a7 => ?_)
      refine v_iload_n C 3 dX10_hasAll_26 rfl rfl ?_
      obtain ⟨r8, qr8, hf⟩ := bn hf
      refine v_callVi (As := [.int l3]) (rest := []) C (sX8_hasWayOrNone h_a7 qr8) cs_X10_127 (by decide) h_a7 rfl hC rfl rfl rfl (Nat.le_of_ble_eq_true rfl) ⟨Nat.le_refl _, Nat.le_refl _⟩ dX10_hasAll_27 (fun hC => ?_)
      refine v_if_eq (tgt := 37) C dX10_hasAll_30 (by decide) (fun c9 => ?_) (fun c9 => ?_)
      · have hf := ip hf c9
        refine v_iconst (v := 0) C dX10_hasAll_37 (by decide) ?_
        cases hf
        exact kr _ _ dX10_hasAll_38 (Or.inl rfl) hC
      · have hf := im hf c9
        refine v_iconst (v := 1) C dX10_hasAll_33 (by decide) ?_
        refine v_goto (tgt := 38) C dX10_hasAll_34 (by decide) ?_
        cases hf
        exact kr _ _ dX10_hasAll_38 (Or.inr rfl) hC
theorem sX10_hasAll {l : Launch} {sh : Sh} {G : Hp} {l0 : Nat} {l1 : Int32} {l2 : Int32} {l3 : Int32} {z : Int32} (h_l0 : sh[l0]? = some (0, 10)) (hf : fX10_hasAll sh G l0 l1 l2 l3 = some z) : MC l yX10_hasAll cX10_hasAll 4 (some .boolean) 2 0 0 sh sh G G (fun ad => [.ref (ad l0), .int l1, .int l2, .int l3]) (fun _ => some (.int z)) := by
  refine MC_of rfl rfl (fun _ => Nat.le_of_ble_eq_true rfl) (fun E ad C hl hnm hC hQ => ?_)
  exact tX10_hasAll C hC h_l0 hf (fun pc lv hd hz hC => v_zret C hQ (fun _ _ => rfl) hC rfl hz hd)
def fX1_goOver (sh : Sh) (G : Hp) (l0 : Nat) (l1 : Int32) (l2 : Int32) : Option (Hp) := (ldA sh G l0 1 1).bind fun a1 => (asI sh G a1 l1 1).bind fun G2 => bd (sI G2 l0 6 ((G2.1 l0 6) &&& (((1 : Int32) <<< (l2 &&& 31)) ^^^ (-1)))) fun G3 => some G3
set_option maxHeartbeats 4000000 in
theorem tX1_goOver {E : EX} {ad : Nat → Nat} {sh : Sh} {G : Hp} {l0 : Nat} {l1 : Int32} {l2 : Int32} {z : Hp} (C : Cx E RX1 cX1_goOver 3 none 1 0 0) (hC : Cl sh G) (h_l0 : sh[l0]? = some (0, 1)) (hf : fX1_goOver sh G l0 l1 l2 = some z) (kr : RCv E cX1_goOver ad sh z) : VV E 0 0 (wq (xT E) ad G sh) 0 [(0, .ref (ad l0)), (1, .int l1), (2, .int l2)] [] := by
  unfold fX1_goOver at hf
  refine v_aload_n C 0 dX1_goOver_0 rfl rfl ?_
  obtain ⟨a1, qa1, hf⟩ := bn hf
  refine v_getA C h_l0 fl_X1_15 qa1 dX1_goOver_1 (fun h_a1 => ?_)
  refine v_iload_n C 1 dX1_goOver_4 rfl rfl ?_
  refine v_iconst (v := 1) C dX1_goOver_5 (by decide) ?_
  obtain ⟨G2, qG2, hf⟩ := bn hf
  refine v_iast C h_a1 qG2 hC dX1_goOver_6 (fun hC => ?_)
  refine v_aload_n C 0 dX1_goOver_7 rfl rfl ?_
  refine v_dup C dX1_goOver_8 rfl ?_
  refine v_getI C h_l0 fl_X1_49 dX1_goOver_9 ?_
  refine v_iconst (v := 1) C dX1_goOver_12 (by decide) ?_
  refine v_iload_n C 2 dX1_goOver_13 rfl rfl ?_
  refine v_ishl C dX1_goOver_14 ?_
  refine v_iconst (v := (-1)) C dX1_goOver_15 (by decide) ?_
  refine v_ixor C dX1_goOver_16 ?_
  refine v_iand C dX1_goOver_17 ?_
  refine v_putI C h_l0 fp_X1_49 dX1_goOver_18 (fun G3 eG3 => ?_)
  have hf := bd_at hf eG3
  have hC : Cl sh G3 := by rw [eG3]; exact hC
  cases hf
  exact kr _ _ dX1_goOver_21 hC
theorem sX1_goOver {l : Launch} {sh : Sh} {G : Hp} {l0 : Nat} {l1 : Int32} {l2 : Int32} {z : Hp} (h_l0 : sh[l0]? = some (0, 1)) (hf : fX1_goOver sh G l0 l1 l2 = some z) : MC l yX1_goOver cX1_goOver 3 none 1 0 0 sh sh G z (fun ad => [.ref (ad l0), .int l1, .int l2]) (fun _ => none) := by
  refine MC_of rfl rfl (fun _ => Nat.le_of_ble_eq_true rfl) (fun E ad C hl hnm hC hQ => ?_)
  exact tX1_goOver C hC h_l0 hf (fun pc lv hd hC => v_vret C hQ (fun _ _ => rfl) hC rfl hd)
def fX1_cheat (sh : Sh) (G : Hp) (l0 : Nat) (l1 : Int32) (l2 : Int32) : Option (Hp) := bd (sI G l0 5 ((G.1 l0 5) + 1)) fun G1 => (fX1_learn sh G1 l0 l2).bind fun G3 => (fX1_loseStones sh G3 l0 l1 1).bind fun G5 => some G5
set_option maxHeartbeats 4000000 in
theorem tX1_cheat {E : EX} {ad : Nat → Nat} {sh : Sh} {G : Hp} {l0 : Nat} {l1 : Int32} {l2 : Int32} {z : Hp} (C : Cx E RX1 cX1_cheat 3 none 3 0 0) (hC : Cl sh G) (h_l0 : sh[l0]? = some (0, 1)) (hf : fX1_cheat sh G l0 l1 l2 = some z) (kr : RCv E cX1_cheat ad sh z) : VV E 0 0 (wq (xT E) ad G sh) 0 [(0, .ref (ad l0)), (1, .int l1), (2, .int l2)] [] := by
  unfold fX1_cheat at hf
  refine v_aload_n C 0 dX1_cheat_0 rfl rfl ?_
  refine v_dup C dX1_cheat_1 rfl ?_
  refine v_getI C h_l0 fl_X1_43 dX1_cheat_2 ?_
  refine v_iconst (v := 1) C dX1_cheat_5 (by decide) ?_
  refine v_iadd C dX1_cheat_6 ?_
  refine v_putI C h_l0 fp_X1_43 dX1_cheat_7 (fun G1 eG1 => ?_)
  have hf := bd_at hf eG1
  have hC : Cl sh G1 := by rw [eG1]; exact hC
  refine v_aload_n C 0 dX1_cheat_10 rfl rfl ?_
  refine v_iload_n C 2 dX1_cheat_11 rfl rfl ?_
  obtain ⟨G3, qr2, hf⟩ := bn hf
  refine v_callVv (As := [.int l2]) (rest := []) C (sX1_learn h_l0 qr2) cs_X1_66 (by decide) h_l0 rfl hC rfl rfl rfl (Nat.le_of_ble_eq_true rfl) ⟨Nat.le_refl _, Nat.le_refl _⟩ dX1_cheat_12 (fun hC => ?_)
  refine v_aload_n C 0 dX1_cheat_15 rfl rfl ?_
  refine v_iload_n C 1 dX1_cheat_16 rfl rfl ?_
  refine v_iconst (v := 1) C dX1_cheat_17 (by decide) ?_
  obtain ⟨G5, qr4, hf⟩ := bn hf
  refine v_callVv (As := [.int l1, .int 1]) (rest := []) C (sX1_loseStones h_l0 qr4) cs_X1_70 (by decide) h_l0 rfl hC rfl rfl rfl (Nat.le_of_ble_eq_true rfl) ⟨Nat.le_refl _, Nat.le_refl _⟩ dX1_cheat_18 (fun hC => ?_)
  cases hf
  exact kr _ _ dX1_cheat_21 hC
theorem sX1_cheat {l : Launch} {sh : Sh} {G : Hp} {l0 : Nat} {l1 : Int32} {l2 : Int32} {z : Hp} (h_l0 : sh[l0]? = some (0, 1)) (hf : fX1_cheat sh G l0 l1 l2 = some z) : MC l yX1_cheat cX1_cheat 3 none 3 0 0 sh sh G z (fun ad => [.ref (ad l0), .int l1, .int l2]) (fun _ => none) := by
  refine MC_of rfl rfl (fun _ => Nat.le_of_ble_eq_true rfl) (fun E ad C hl hnm hC hQ => ?_)
  exact tX1_cheat C hC h_l0 hf (fun pc lv hd hC => v_vret C hQ (fun _ _ => rfl) hC rfl hd)
def fX10_send (sh : Sh) (G : Hp) (l0 : Nat) (l1 : Int32) (l2 : Int32) (l3 : Int32) : Option (Int32 × Hp) := (fX10_hasAll sh G l0 l1 l2 l3).bind fun r1 => if r1 = 0 then some ((-1), G) else (ldO sh G l0 3 1).bind fun a3 => (fX1_isThere sh G a3 l2).bind fun r4 => if r4 = 0 then some ((-2), G) else (ldO sh G l0 3 1).bind fun a6 => (ldA sh G a6 1 1).bind fun a7 => (aI sh G a7 l1).bind fun v8 => if v8 = 0 then (ldO sh G l0 5 2).bind fun a10 => (ldO sh G l0 3 1).bind fun a11 => (fX2_keep sh G a10 a11).bind fun G13 => (ldO sh G13 l0 2 8).bind fun a14 => (fX8_setOf sh G13 a14 l2 l3).bind fun r15 => (ldO sh G13 l0 3 1).bind fun a16 => (ldO sh G13 l0 2 8).bind fun a17 => (fX8_costOf sh G13 a17 l3).bind fun r18 => bd (sI G13 a16 7 ((G13.1 a16 7) + r18)) fun G19 => (ldO sh G19 l0 3 1).bind fun a20 => (ldO sh G19 l0 2 8).bind fun a21 => (fX1_takes sh G19 a20 a21 l1 r15).bind fun r22 => if r22 = 0 then some (0, G19) else (ldO sh G19 l0 3 1).bind fun a24 => (ldO sh G19 l0 2 8).bind fun a25 => (ldA sh G19 a25 6 1).bind fun a26 => (aI sh G19 a26 l2).bind fun v27 => bd (sI G19 a24 7 ((G19.1 a24 7) + v27)) fun G28 => (ldO sh G28 l0 3 1).bind fun a29 => (fX1_goOver sh G28 a29 l1 l2).bind fun G31 => if (r15 &&& 1) = 0 then (ldO sh G31 l0 3 1).bind fun a33 => (fX1_cheat sh G31 a33 l1 r15).bind fun G35 => some (2, G35) else some (1, G31) else some ((-2), G)
set_option maxHeartbeats 4000000 in
theorem tX10_send {E : EX} {ad : Nat → Nat} {sh : Sh} {G : Hp} {l0 : Nat} {l1 : Int32} {l2 : Int32} {l3 : Int32} {z : Int32 × Hp} (C : Cx E RX10 cX10_send 5 (some .int) 4 0 0) (hC : Cl sh G) (h_l0 : sh[l0]? = some (0, 10)) (hf : fX10_send sh G l0 l1 l2 l3 = some z) (kr : RCi E cX10_send ad sh (z.1) (z.2)) : VV E 0 0 (wq (xT E) ad G sh) 0 [(0, .ref (ad l0)), (1, .int l1), (2, .int l2), (3, .int l3)] [] := by
  unfold fX10_send at hf
  refine v_aload_n C 0 dX10_send_0 rfl rfl ?_
  refine v_iload_n C 1 dX10_send_1 rfl rfl ?_
  refine v_iload_n C 2 dX10_send_2 rfl rfl ?_
  refine v_iload_n C 3 dX10_send_3 rfl rfl ?_
  obtain ⟨r1, qr1, hf⟩ := bn hf
  refine v_callVi (As := [.int l1, .int l2, .int l3]) (rest := []) C (sX10_hasAll h_l0 qr1) cs_X10_179 (by decide) h_l0 rfl hC rfl rfl rfl (Nat.le_of_ble_eq_true rfl) ⟨Nat.le_refl _, Nat.le_refl _⟩ dX10_send_4 (fun hC => ?_)
  refine v_if_ne (tgt := 12) C dX10_send_7 (by decide) (fun c2 => ?_) (fun c2 => ?_)
  · have hf := im hf c2
    refine v_aload_n C 0 dX10_send_12 rfl rfl ?_
    obtain ⟨a3, qa3, hf⟩ := bn hf
    refine v_getO C h_l0 fl_X10_30 qa3 dX10_send_13 (fun h_a3 => ?_)
    refine v_iload_n C 2 dX10_send_16 rfl rfl ?_
    obtain ⟨r4, qr4, hf⟩ := bn hf
    refine v_callVi (As := [.int l2]) (rest := []) C (sX1_isThere h_a3 qr4) cs_X10_186 (by decide) h_a3 rfl hC rfl rfl rfl (Nat.le_of_ble_eq_true rfl) ⟨Nat.le_refl _, Nat.le_refl _⟩ dX10_send_17 (fun hC => ?_)
    refine v_if_eq (tgt := 35) C dX10_send_20 (by decide) (fun c5 => ?_) (fun c5 => ?_)
    · have hf := ip hf c5
      refine v_bipush (v := (-2)) C dX10_send_35 (by decide) ?_
      cases hf
      exact kr _ _ dX10_send_37 hC
    · have hf := im hf c5
      refine v_aload_n C 0 dX10_send_23 rfl rfl ?_
      obtain ⟨a6, qa6, hf⟩ := bn hf
      refine v_getO C h_l0 fl_X10_30 qa6 dX10_send_24 (fun h_a6 => ?_)
      obtain ⟨a7, qa7, hf⟩ := bn hf
      refine v_getA C h_a6 fl_X10_152 qa7 dX10_send_27 (fun h_a7 => ?_)
      refine v_iload_n C 1 dX10_send_30 rfl rfl ?_
      obtain ⟨v8, qv8, hf⟩ := bn hf
      refine v_iald C h_a7 qv8 dX10_send_31 ?_
      refine v_if_eq (tgt := 38) C dX10_send_32 (by decide) (fun c9 => ?_) (fun c9 => ?_)
      · have hf := ip hf c9
        refine v_aload_n C 0 dX10_send_38 rfl rfl ?_
        obtain ⟨a10, qa10, hf⟩ := bn hf
        refine v_getO C h_l0 fl_X10_44 qa10 dX10_send_39 (fun h_a10 => ?_)
        refine v_aload_n C 0 dX10_send_42 rfl rfl ?_
        obtain ⟨a11, qa11, hf⟩ := bn hf
        refine v_getO C h_l0 fl_X10_30 qa11 dX10_send_43 (fun h_a11 => ?_)
        obtain ⟨G13, qr12, hf⟩ := bn hf
        refine v_callVv (As := [.ref (ad a11)]) (rest := []) C (sX2_keep h_a10 h_a11 qr12) cs_X10_189 (by decide) h_a10 rfl hC rfl rfl rfl (Nat.le_of_ble_eq_true rfl) ⟨Nat.le_refl _, Nat.le_refl _⟩ dX10_send_46 (fun hC => ?_)
        refine v_aload_n C 0 dX10_send_49 rfl rfl ?_
        obtain ⟨a14, qa14, hf⟩ := bn hf
        refine v_getO C h_l0 fl_X10_23 qa14 dX10_send_50 (fun h_a14 => ?_)
        refine v_iload_n C 2 dX10_send_53 rfl rfl ?_
        refine v_iload_n C 3 dX10_send_54 rfl rfl ?_
        obtain ⟨r15, qr15, hf⟩ := bn hf
        refine v_callVi (As := [.int l2, .int l3]) (rest := []) C (sX8_setOf h_a14 qr15) cs_X10_130 (by decide) h_a14 rfl hC rfl rfl rfl (Nat.le_of_ble_eq_true rfl) ⟨Nat.le_refl _, Nat.le_refl _⟩ dX10_send_55 (fun hC => ?_)
        refine v_istore (lv2 := [(4, .int r15), (0, .ref (ad l0)), (1, .int l1), (2, .int l2), (3, .int l3)]) C dX10_send_58 (by decide) rfl ?_
        refine v_aload_n C 1 dX10_send_60 rfl rfl ?_
        obtain ⟨a16, qa16, hf⟩ := bn hf
        refine v_getO C h_l0 fl_X10_30 qa16 dX10_send_61 (fun h_a16 => ?_)
        refine v_dup C dX10_send_64 rfl ?_
        refine v_getI C h_a16 fl_X10_193 dX10_send_65 ?_
        refine v_aload_n C 1 dX10_send_68 rfl rfl ?_
        obtain ⟨a17, qa17, hf⟩ := bn hf
        refine v_getO C h_l0 fl_X10_23 qa17 dX10_send_69 (fun h_a17 => ?_)
        refine v_iload_n C 4 dX10_send_72 rfl rfl ?_
        obtain ⟨r18, qr18, hf⟩ := bn hf
        refine v_callVi (As := [.int l3]) (rest := [.int (G13.1 a16 7), .ref (ad a16)]) C (sX8_costOf h_a17 qr18) cs_X10_196 (by decide) h_a17 rfl hC rfl rfl rfl (Nat.le_of_ble_eq_true rfl) ⟨Nat.le_refl _, Nat.le_refl _⟩ dX10_send_73 (fun hC => ?_)
        refine v_iadd C dX10_send_76 ?_
        refine v_putI C h_a16 fp_X10_193 dX10_send_77 (fun G19 eG19 => ?_)
        have hf := bd_at hf eG19
        have hC : Cl sh G19 := by rw [eG19]; exact hC
        refine v_aload_n C 1 dX10_send_80 rfl rfl ?_
        obtain ⟨a20, qa20, hf⟩ := bn hf
        refine v_getO C h_l0 fl_X10_30 qa20 dX10_send_81 (fun h_a20 => ?_)
        refine v_aload_n C 1 dX10_send_84 rfl rfl ?_
        obtain ⟨a21, qa21, hf⟩ := bn hf
        refine v_getO C h_l0 fl_X10_23 qa21 dX10_send_85 (fun h_a21 => ?_)
        refine v_iload_n C 2 dX10_send_88 rfl rfl ?_
        refine v_iload C 0 dX10_send_89 rfl ?_
        obtain ⟨r22, qr22, hf⟩ := bn hf
        refine v_callVi (As := [.ref (ad a21), .int l1, .int r15]) (rest := []) C (sX1_takes h_a20 h_a21 qr22) cs_X10_200 (by decide) h_a20 rfl hC rfl rfl rfl (Nat.le_of_ble_eq_true rfl) ⟨Nat.le_refl _, Nat.le_refl _⟩ dX10_send_91 (fun hC => ?_)
        refine v_if_ne (tgt := 99) C dX10_send_94 (by decide) (fun c23 => ?_) (fun c23 => ?_)
        · have hf := im hf c23
          refine v_aload_n C 1 dX10_send_99 rfl rfl ?_
          obtain ⟨a24, qa24, hf⟩ := bn hf
          refine v_getO C h_l0 fl_X10_30 qa24 dX10_send_100 (fun h_a24 => ?_)
          refine v_dup C dX10_send_103 rfl ?_
          refine v_getI C h_a24 fl_X10_193 dX10_send_104 ?_
          refine v_aload_n C 1 dX10_send_107 rfl rfl ?_
          obtain ⟨a25, qa25, hf⟩ := bn hf
          refine v_getO C h_l0 fl_X10_23 qa25 dX10_send_108 (fun h_a25 => ?_)
          obtain ⟨a26, qa26, hf⟩ := bn hf
          refine v_getA C h_a25 fl_X10_117 qa26 dX10_send_111 (fun h_a26 => ?_)
          refine v_iload_n C 3 dX10_send_114 rfl rfl ?_
          obtain ⟨v27, qv27, hf⟩ := bn hf
          refine v_iald C h_a26 qv27 dX10_send_115 ?_
          refine v_iadd C dX10_send_116 ?_
          refine v_putI C h_a24 fp_X10_193 dX10_send_117 (fun G28 eG28 => ?_)
          have hf := bd_at hf eG28
          have hC : Cl sh G28 := by rw [eG28]; exact hC
          refine v_aload_n C 1 dX10_send_120 rfl rfl ?_
          obtain ⟨a29, qa29, hf⟩ := bn hf
          refine v_getO C h_l0 fl_X10_30 qa29 dX10_send_121 (fun h_a29 => ?_)
          refine v_iload_n C 2 dX10_send_124 rfl rfl ?_
          refine v_iload_n C 3 dX10_send_125 rfl rfl ?_
          obtain ⟨G31, qr30, hf⟩ := bn hf
          refine v_callVv (As := [.int l1, .int l2]) (rest := []) C (sX1_goOver h_a29 qr30) cs_X10_204 (by decide) h_a29 rfl hC rfl rfl rfl (Nat.le_of_ble_eq_true rfl) ⟨Nat.le_refl _, Nat.le_refl _⟩ dX10_send_126 (fun hC => ?_)
          refine v_iload C 0 dX10_send_129 rfl ?_
          refine v_iconst (v := 1) C dX10_send_131 (by decide) ?_
          refine v_iand C dX10_send_132 ?_
          refine v_if_eq (tgt := 138) C dX10_send_133 (by decide) (fun c32 => ?_) (fun c32 => ?_)
          · have hf := ip hf c32
            refine v_aload_n C 1 dX10_send_138 rfl rfl ?_
            obtain ⟨a33, qa33, hf⟩ := bn hf
            refine v_getO C h_l0 fl_X10_30 qa33 dX10_send_139 (fun h_a33 => ?_)
            refine v_iload_n C 2 dX10_send_142 rfl rfl ?_
            refine v_iload C 0 dX10_send_143 rfl ?_
            obtain ⟨G35, qr34, hf⟩ := bn hf
            refine v_callVv (As := [.int l1, .int r15]) (rest := []) C (sX1_cheat h_a33 qr34) cs_X10_208 (by decide) h_a33 rfl hC rfl rfl rfl (Nat.le_of_ble_eq_true rfl) ⟨Nat.le_refl _, Nat.le_refl _⟩ dX10_send_145 (fun hC => ?_)
            refine v_iconst (v := 2) C dX10_send_148 (by decide) ?_
            cases hf
            exact kr _ _ dX10_send_149 hC
          · have hf := im hf c32
            refine v_iconst (v := 1) C dX10_send_136 (by decide) ?_
            cases hf
            exact kr _ _ dX10_send_137 hC
        · have hf := ip hf c23
          refine v_iconst (v := 0) C dX10_send_97 (by decide) ?_
          cases hf
          exact kr _ _ dX10_send_98 hC
      · have hf := im hf c9
        refine v_bipush (v := (-2)) C dX10_send_35 (by decide) ?_
        cases hf
        exact kr _ _ dX10_send_37 hC
  · have hf := ip hf c2
    refine v_iconst (v := (-1)) C dX10_send_10 (by decide) ?_
    cases hf
    exact kr _ _ dX10_send_11 hC
theorem sX10_send {l : Launch} {sh : Sh} {G : Hp} {l0 : Nat} {l1 : Int32} {l2 : Int32} {l3 : Int32} {z : Int32 × Hp} (h_l0 : sh[l0]? = some (0, 10)) (hf : fX10_send sh G l0 l1 l2 l3 = some z) : MC l yX10_send cX10_send 5 (some .int) 4 0 0 sh sh G (z.2) (fun ad => [.ref (ad l0), .int l1, .int l2, .int l3]) (fun _ => some (.int z.1)) := by
  refine MC_of rfl rfl (fun _ => Nat.le_of_ble_eq_true rfl) (fun E ad C hl hnm hC hQ => ?_)
  exact tX10_send C hC h_l0 hf (fun pc lv hd hC => v_iret C hQ (fun _ _ => rfl) hC rfl hd)
def fX10_set (sh : Sh) (G : Hp) (l0 : Nat) (l1 : Int32) (l2 : Int32) : Option (Int32) := (ldO sh G l0 2 8).bind fun a1 => (fX8_hasBeing sh G a1 l1).bind fun r2 => if r2 = 0 then some (-1) else (ldO sh G l0 2 8).bind fun a4 => (fX8_hasWayOrNone sh G a4 l2).bind fun r5 => if r5 = 0 then some (-1) else (ldO sh G l0 2 8).bind fun a7 => (fX8_setOf sh G a7 l1 l2).bind fun r8 => some r8
set_option maxHeartbeats 4000000 in
theorem tX10_set {E : EX} {ad : Nat → Nat} {sh : Sh} {G : Hp} {l0 : Nat} {l1 : Int32} {l2 : Int32} {z : Int32} (C : Cx E RX10 cX10_set 3 (some .int) 2 0 0) (hC : Cl sh G) (h_l0 : sh[l0]? = some (0, 10)) (hf : fX10_set sh G l0 l1 l2 = some z) (kr : RCi E cX10_set ad sh z G) : VV E 0 0 (wq (xT E) ad G sh) 0 [(0, .ref (ad l0)), (1, .int l1), (2, .int l2)] [] := by
  unfold fX10_set at hf
  refine v_aload_n C 0 dX10_set_0 rfl rfl ?_
  obtain ⟨a1, qa1, hf⟩ := bn hf
  refine v_getO C h_l0 fl_X10_23 qa1 dX10_set_1 (fun h_a1 => ?_)
  refine v_iload_n C 1 dX10_set_4 rfl rfl ?_
  obtain ⟨r2, qr2, hf⟩ := bn hf
  refine v_callVi (As := [.int l1]) (rest := []) C (sX8_hasBeing h_a1 qr2) cs_X10_113 (by decide) h_a1 rfl hC rfl rfl rfl (Nat.le_of_ble_eq_true rfl) ⟨Nat.le_refl _, Nat.le_refl _⟩ dX10_set_5 (fun hC => ?_)
  refine v_if_eq (tgt := 34) C dX10_set_8 (by decide) (fun c3 => ?_) (fun c3 => ?_)
  · have hf := ip hf c3
    refine v_iconst (v := (-1)) C dX10_set_34 (by decide) ?_
    cases hf
    exact kr _ _ dX10_set_35 hC
  · have hf := im hf c3
    refine v_aload_n C 0 dX10_set_11 rfl rfl ?_
    obtain ⟨a4, qa4, hf⟩ := bn hf
    refine v_getO C h_l0 fl_X10_23 qa4 dX10_set_12 (fun h_a4 => ?_)
    refine v_iload_n C 2 dX10_set_15 rfl rfl ?_
    obtain ⟨r5, qr5, hf⟩ := bn hf
    refine v_callVi (As := [.int l2]) (rest := []) C (sX8_hasWayOrNone h_a4 qr5) cs_X10_127 (by decide) h_a4 rfl hC rfl rfl rfl (Nat.le_of_ble_eq_true rfl) ⟨Nat.le_refl _, Nat.le_refl _⟩ dX10_set_16 (fun hC => ?_)
    refine v_if_eq (tgt := 34) C dX10_set_19 (by decide) (fun c6 => ?_) (fun c6 => ?_)
    · have hf := ip hf c6
      refine v_iconst (v := (-1)) C dX10_set_34 (by decide) ?_
      cases hf
      exact kr _ _ dX10_set_35 hC
    · have hf := im hf c6
      refine v_aload_n C 0 dX10_set_22 rfl rfl ?_
      obtain ⟨a7, qa7, hf⟩ := bn hf
      refine v_getO C h_l0 fl_X10_23 qa7 dX10_set_23 (fun h_a7 => ?_)
      refine v_iload_n C 1 dX10_set_26 rfl rfl ?_
      refine v_iload_n C 2 dX10_set_27 rfl rfl ?_
      obtain ⟨r8, qr8, hf⟩ := bn hf
      refine v_callVi (As := [.int l1, .int l2]) (rest := []) C (sX8_setOf h_a7 qr8) cs_X10_130 (by decide) h_a7 rfl hC rfl rfl rfl (Nat.le_of_ble_eq_true rfl) ⟨Nat.le_refl _, Nat.le_refl _⟩ dX10_set_28 (fun hC => ?_)
      refine v_goto (tgt := 35) C dX10_set_31 (by decide) ?_
      cases hf
      exact kr _ _ dX10_set_35 hC
theorem sX10_set {l : Launch} {sh : Sh} {G : Hp} {l0 : Nat} {l1 : Int32} {l2 : Int32} {z : Int32} (h_l0 : sh[l0]? = some (0, 10)) (hf : fX10_set sh G l0 l1 l2 = some z) : MC l yX10_set cX10_set 3 (some .int) 2 0 0 sh sh G G (fun ad => [.ref (ad l0), .int l1, .int l2]) (fun _ => some (.int z)) := by
  refine MC_of rfl rfl (fun _ => Nat.le_of_ble_eq_true rfl) (fun E ad C hl hnm hC hQ => ?_)
  exact tX10_set C hC h_l0 hf (fun pc lv hd hC => v_iret C hQ (fun _ _ => rfl) hC rfl hd)
def fX0_barsWith_S25 (sh : Sh) (rc : Nat → Int32 → Int32 → Int32 → Int32 → Option (Int32)) (l0 : Nat) (l1 : Int32) (l3 : Int32) (l4 : Int32) (G : Hp) (l5 : Int32) : Option ((Int32) ⊕ ((Unit) ⊕ (Int32))) := if l4 ≤ l5 then some (.inr (.inl ())) else (rc l0 (l1 - 1) (l5 + 1) (l3 ||| ((1 : Int32) <<< (l5 &&& 31))) l4).bind fun r2 => if r2 = (-1) then bd ((l5 + 1) : Int32) fun x4 => some (.inl x4) else some (.inr (.inr r2))
set_option maxHeartbeats 4000000 in
theorem tX0_barsWith_S25 {E : EX} {ad : Nat → Nat} {sh : Sh} {G : Hp} {rc : Nat → Int32 → Int32 → Int32 → Int32 → Option (Int32)} {hr : Nat} {l0 : Nat} {l1 : Int32} {l3 : Int32} {l4 : Int32} {l5 : Int32} {o : (Int32) ⊕ ((Unit) ⊕ (Int32))} (C : Cx E RX0 cX0_barsWith 7 (some .int) (hr + 1) 0 0) (hC : Cl sh G) (hr10 : 10 ≤ hr) (hrec : ∀ (a0 : Nat) (a1 : Int32) (a2 : Int32) (a3 : Int32) (a4 : Int32) z, rc a0 a1 a2 a3 a4 = some z → sh[a0]? = some (0, 0) → MC (xl E) yX0_barsWith cX0_barsWith 7 (some .int) hr 0 0 sh sh G G (fun ad => [.ref (ad a0), .int a1, .int a2, .int a3, .int a4]) (fun _ => some (.int z))) (h_l0 : sh[l0]? = some (0, 0)) (hf : fX0_barsWith_S25 sh rc l0 l1 l3 l4 G l5 = some o) (kb : ∀ (b_l5 : Int32), o = .inl b_l5 → VV E 0 0 (wq (xT E) ad G sh) 25 [(0, .ref (ad l0)), (1, .int l1), (3, .int l3), (4, .int l4), (5, .int b_l5)] []) (kx68 : o = .inr (.inl ()) → VV E 0 0 (wq (xT E) ad G sh) 68 [(0, .ref (ad l0)), (1, .int l1), (3, .int l3), (4, .int l4)] []) (kx59 : ∀ (b_l6 : Int32), o = .inr (.inr b_l6) → VV E 0 0 (wq (xT E) ad G sh) 59 [(0, .ref (ad l0)), (1, .int l1), (3, .int l3), (4, .int l4), (6, .int b_l6)] []) : VV E 0 0 (wq (xT E) ad G sh) 25 [(0, .ref (ad l0)), (1, .int l1), (3, .int l3), (4, .int l4), (5, .int l5)] [] := by
  unfold fX0_barsWith_S25 at hf
  refine v_iload C 4 dX0_barsWith_25 rfl ?_
  refine v_iload C 3 dX0_barsWith_27 rfl ?_
  refine v_icmp_ge (tgt := 68) C dX0_barsWith_29 (by decide) (fun c1 => ?_) (fun c1 => ?_)
  · have hf := ip hf c1
    cases hf
    refine v_sub [0, 1, 2, 3] rfl ?_
    exact kx68 rfl
  · have hf := im hf c1
    refine v_aload_n C 0 dX0_barsWith_32 rfl rfl ?_
    refine v_iload_n C 1 dX0_barsWith_33 rfl rfl ?_
    refine v_iconst (v := 1) C dX0_barsWith_34 (by decide) ?_
    refine v_isub C dX0_barsWith_35 ?_
    refine v_iload C 4 dX0_barsWith_36 rfl ?_
    refine v_iconst (v := 1) C dX0_barsWith_38 (by decide) ?_
    refine v_iadd C dX0_barsWith_39 ?_
    refine v_iload_n C 2 dX0_barsWith_40 rfl rfl ?_
    refine v_iconst (v := 1) C dX0_barsWith_41 (by decide) ?_
    refine v_iload C 4 dX0_barsWith_42 rfl ?_
    refine v_ishl C dX0_barsWith_44 ?_
    refine v_ior C dX0_barsWith_45 ?_
    refine v_iload C 3 dX0_barsWith_46 rfl ?_
    obtain ⟨r2, qr2, hf⟩ := bn hf
    refine v_callVi (As := [.int (l1 - 1), .int (l5 + 1), .int (l3 ||| ((1 : Int32) <<< (l5 &&& 31))), .int l4]) (rest := []) C (hrec _ _ _ _ _ _ qr2 h_l0) cs_X0_45 (by omega) h_l0 rfl hC rfl rfl rfl (Nat.le_of_ble_eq_true rfl) ⟨Nat.le_refl _, Nat.le_refl _⟩ dX0_barsWith_48 (fun hC => ?_)
    refine v_istore (lv2 := [(6, .int r2), (0, .ref (ad l0)), (1, .int l1), (3, .int l3), (4, .int l4), (5, .int l5)]) C dX0_barsWith_51 (by decide) rfl ?_
    refine v_iload C 0 dX0_barsWith_53 rfl ?_
    refine v_iconst (v := (-1)) C dX0_barsWith_55 (by decide) ?_
    refine v_icmp_eq (tgt := 62) C dX0_barsWith_56 (by decide) (fun c3 => ?_) (fun c3 => ?_)
    · have hf := ip hf c3
      obtain ⟨x4, ex4⟩ : ∃ x : Int32, x = (l5 + 1) := ⟨_, rfl⟩
      have hf := bd_at hf ex4
      refine v_iinc (v := x4) (j := 5) (lv2 := [(5, .int x4), (6, .int r2), (0, .ref (ad l0)), (1, .int l1), (3, .int l3), (4, .int l4)]) C dX0_barsWith_62 rfl (by rw [ex4]; rfl) (by decide) rfl ?_
      refine v_goto (tgt := 25) C dX0_barsWith_65 (by decide) ?_
      cases hf
      refine v_sub [2, 3, 4, 5, 0] rfl ?_
      exact kb _ rfl
    · have hf := im hf c3
      cases hf
      refine v_sub [1, 2, 3, 4, 0] rfl ?_
      exact kx59 _ rfl
def fX0_barsWith (sh : Sh) (rc : Nat → Int32 → Int32 → Int32 → Int32 → Option (Int32)) (G : Hp) (l0 : Nat) (l1 : Int32) (l2 : Int32) (l3 : Int32) (l4 : Int32) : Option (Int32) := if 0 < l1 then (iter (fun s : Int32 => fX0_barsWith_S25 sh rc l0 l1 l3 l4 G s) fuel (l2 : Int32)).bind (Sum.elim (fun _ => some (-1)) (fun u5 => bd u5 fun x4 => some x4)) else (fX0_shutOutBy sh G l0 l3).bind fun r6 => if r6 = (G.1 l0 0) then some l3 else some (-1)
set_option maxHeartbeats 4000000 in
theorem tX0_barsWith {E : EX} {ad : Nat → Nat} {sh : Sh} {G : Hp} {rc : Nat → Int32 → Int32 → Int32 → Int32 → Option (Int32)} {hr : Nat} {l0 : Nat} {l1 : Int32} {l2 : Int32} {l3 : Int32} {l4 : Int32} {z : Int32} (C : Cx E RX0 cX0_barsWith 7 (some .int) (hr + 1) 0 0) (hC : Cl sh G) (hr10 : 10 ≤ hr) (hrec : ∀ (a0 : Nat) (a1 : Int32) (a2 : Int32) (a3 : Int32) (a4 : Int32) z, rc a0 a1 a2 a3 a4 = some z → sh[a0]? = some (0, 0) → MC (xl E) yX0_barsWith cX0_barsWith 7 (some .int) hr 0 0 sh sh G G (fun ad => [.ref (ad a0), .int a1, .int a2, .int a3, .int a4]) (fun _ => some (.int z))) (h_l0 : sh[l0]? = some (0, 0)) (hf : fX0_barsWith sh rc G l0 l1 l2 l3 l4 = some z) (kr : RCi E cX0_barsWith ad sh z G) : VV E 0 0 (wq (xT E) ad G sh) 0 [(0, .ref (ad l0)), (1, .int l1), (2, .int l2), (3, .int l3), (4, .int l4)] [] := by
  unfold fX0_barsWith at hf
  refine v_iload_n C 1 dX0_barsWith_0 rfl rfl ?_
  refine v_if_gt (tgt := 22) C dX0_barsWith_1 (by decide) (fun c1 => ?_) (fun c1 => ?_)
  · have hf := ip hf c1
    refine v_iload_n C 2 dX0_barsWith_22 rfl rfl ?_
    refine v_istore (lv2 := [(5, .int l2), (0, .ref (ad l0)), (1, .int l1), (2, .int l2), (3, .int l3), (4, .int l4)]) C dX0_barsWith_23 (by decide) rfl ?_
    obtain ⟨r2, qr2, hf⟩ := bn hf
    refine v_sub [1, 2, 4, 5, 0] rfl ?_
    refine iter_sound (P := (fun s : Int32 => VV E 0 0 (wq (xT E) ad (G) sh) 25 [(0, .ref (ad l0)), (1, .int (l1)), (3, .int (l3)), (4, .int (l4)), (5, .int (s))] [])) (X := fun r => r = r2) (fun jsr2 jor2 hor2 jbr2 jxr2 => tX0_barsWith_S25 C hC hr10 hrec h_l0 hor2 (fun _ e => jbr2 _ e) ?_ ?_) fuel _ r2 qr2 rfl
    · intro  hu
      have e := jxr2 _ hu
      subst e
      have hf := sm_l hf
      refine v_iconst (v := (-1)) C dX0_barsWith_68 (by decide) ?_
      cases hf
      exact kr _ _ dX0_barsWith_69 hC
    · intro x4 hu
      have e := jxr2 _ hu
      subst e
      have hf := sm_r hf
      have hf := bd_at hf (rfl : x4 = _)
      refine v_iload C 4 dX0_barsWith_59 rfl ?_
      cases hf
      exact kr _ _ dX0_barsWith_61 hC
  · have hf := im hf c1
    refine v_aload_n C 0 dX0_barsWith_4 rfl rfl ?_
    refine v_iload_n C 3 dX0_barsWith_5 rfl rfl ?_
    obtain ⟨r6, qr6, hf⟩ := bn hf
    refine v_callVi (As := [.int l3]) (rest := []) C (sX0_shutOutBy h_l0 qr6) cs_X0_41 (by omega) h_l0 rfl hC rfl rfl rfl (Nat.le_of_ble_eq_true rfl) ⟨Nat.le_refl _, Nat.le_refl _⟩ dX0_barsWith_6 (fun hC => ?_)
    refine v_aload_n C 0 dX0_barsWith_9 rfl rfl ?_
    refine v_getI C h_l0 fl_X0_15 dX0_barsWith_10 ?_
    refine v_icmp_ne (tgt := 20) C dX0_barsWith_13 (by decide) (fun c7 => ?_) (fun c7 => ?_)
    · have hf := im hf c7
      refine v_iconst (v := (-1)) C dX0_barsWith_20 (by decide) ?_
      cases hf
      exact kr _ _ dX0_barsWith_21 hC
    · have hf := ip hf c7
      refine v_iload_n C 3 dX0_barsWith_16 rfl rfl ?_
      refine v_goto (tgt := 21) C dX0_barsWith_17 (by decide) ?_
      cases hf
      exact kr _ _ dX0_barsWith_21 hC
theorem sX0_barsWith {l : Launch} {sh : Sh} {G : Hp} {rc : Nat → Int32 → Int32 → Int32 → Int32 → Option (Int32)} {hr : Nat} {l0 : Nat} {l1 : Int32} {l2 : Int32} {l3 : Int32} {l4 : Int32} {z : Int32} (hr10 : 10 ≤ hr) (hrec : ∀ (a0 : Nat) (a1 : Int32) (a2 : Int32) (a3 : Int32) (a4 : Int32) z, rc a0 a1 a2 a3 a4 = some z → sh[a0]? = some (0, 0) → MC l yX0_barsWith cX0_barsWith 7 (some .int) hr 0 0 sh sh G G (fun ad => [.ref (ad a0), .int a1, .int a2, .int a3, .int a4]) (fun _ => some (.int z))) (h_l0 : sh[l0]? = some (0, 0)) (hf : fX0_barsWith sh rc G l0 l1 l2 l3 l4 = some z) : MC l yX0_barsWith cX0_barsWith 7 (some .int) (hr + 1) 0 0 sh sh G G (fun ad => [.ref (ad l0), .int l1, .int l2, .int l3, .int l4]) (fun _ => some (.int z)) := by
  refine MC_of rfl rfl (fun _ => Nat.le_of_ble_eq_true rfl) (fun E ad C hl hnm hC hQ => ?_)
  exact tX0_barsWith C hC hr10 (by rw [hl]; exact hrec) h_l0 hf (fun pc lv hd hC => v_iret C hQ (fun _ _ => rfl) hC rfl hd)
def fX0_barsWith_d (sh : Sh) (G : Hp) : Nat → Nat → Int32 → Int32 → Int32 → Int32 → Option (Int32)
  | 0 => fun _ _ _ _ _ => none
  | d + 1 => fX0_barsWith sh (fX0_barsWith_d sh G d) G
theorem sX0_barsWith_e {l : Launch} {sh : Sh} {G : Hp} : ∀ (d : Nat) (l0 : Nat) (l1 : Int32) (l2 : Int32) (l3 : Int32) (l4 : Int32) (z : Int32), fX0_barsWith_d sh G d l0 l1 l2 l3 l4 = some z → sh[l0]? = some (0, 0) → MC l yX0_barsWith cX0_barsWith 7 (some .int) (10 + 1 * d) 0 0 sh sh G G (fun ad => [.ref (ad l0), .int l1, .int l2, .int l3, .int l4]) (fun _ => some (.int z)) := by
  intro d
  induction d with
  | zero => intro l0 l1 l2 l3 l4 z hf; cases hf
  | succ d ih =>
    intro l0 l1 l2 l3 l4 z hf h_l0
    have e : 10 + 1 * (d + 1) = 10 + 1 * d + 1 := by omega
    rw [e]
    exact sX0_barsWith (hr := 10 + 1 * d) (by omega) (fun a0 a1 a2 a3 a4 z hz h_l0 => ih a0 a1 a2 a3 a4 z hz h_l0) h_l0 hf
theorem sX0_barsWith_d {l : Launch} {sh : Sh} {G : Hp} {l0 : Nat} {l1 : Int32} {l2 : Int32} {l3 : Int32} {l4 : Int32} {z : Int32} (h_l0 : sh[l0]? = some (0, 0)) (hf : fX0_barsWith_d sh G 8 l0 l1 l2 l3 l4 = some z) : MC l yX0_barsWith cX0_barsWith 7 (some .int) 18 0 0 sh sh G G (fun ad => [.ref (ad l0), .int l1, .int l2, .int l3, .int l4]) (fun _ => some (.int z)) := sX0_barsWith_e 8 _ _ _ _ _ _ hf h_l0
def fX0_fewestBars_S4 (sh : Sh) (l0 : Nat) (l1 : Int32) (G : Hp) (l2 : Int32) (l3 : Int32) : Option ((Int32 × Int32) ⊕ ((Int32))) := if 3 < l3 then some (.inr l2) else if l2 = (-1) then (fX0_barsWith_d sh G 8 l0 l3 0 0 l1).bind fun r3 => bd ((l3 + 1) : Int32) fun x4 => some (.inl (r3, x4)) else some (.inr l2)
set_option maxHeartbeats 4000000 in
theorem tX0_fewestBars_S4 {E : EX} {ad : Nat → Nat} {sh : Sh} {G : Hp} {l0 : Nat} {l1 : Int32} {l2 : Int32} {l3 : Int32} {o : (Int32 × Int32) ⊕ ((Int32))} (C : Cx E RX0 cX0_fewestBars 4 (some .int) 19 0 0) (hC : Cl sh G) (h_l0 : sh[l0]? = some (0, 0)) (hf : fX0_fewestBars_S4 sh l0 l1 G l2 l3 = some o) (kb : ∀ (b_l2 : Int32) (b_l3 : Int32), o = .inl (b_l2, b_l3) → VV E 0 0 (wq (xT E) ad G sh) 4 [(0, .ref (ad l0)), (1, .int l1), (2, .int b_l2), (3, .int b_l3)] []) (kx29 : ∀ (b_l2 : Int32), o = .inr b_l2 → VV E 0 0 (wq (xT E) ad G sh) 29 [(0, .ref (ad l0)), (1, .int l1), (2, .int b_l2)] []) : VV E 0 0 (wq (xT E) ad G sh) 4 [(0, .ref (ad l0)), (1, .int l1), (2, .int l2), (3, .int l3)] [] := by
  unfold fX0_fewestBars_S4 at hf
  refine v_iload_n C 3 dX0_fewestBars_4 rfl rfl ?_
  refine v_iconst (v := 3) C dX0_fewestBars_5 (by decide) ?_
  refine v_icmp_gt (tgt := 29) C dX0_fewestBars_6 (by decide) (fun c1 => ?_) (fun c1 => ?_)
  · have hf := ip hf c1
    cases hf
    refine v_sub [0, 1, 2] rfl ?_
    exact kx29 _ rfl
  · have hf := im hf c1
    refine v_iload_n C 2 dX0_fewestBars_9 rfl rfl ?_
    refine v_iconst (v := (-1)) C dX0_fewestBars_10 (by decide) ?_
    refine v_icmp_ne (tgt := 29) C dX0_fewestBars_11 (by decide) (fun c2 => ?_) (fun c2 => ?_)
    · have hf := im hf c2
      cases hf
      refine v_sub [0, 1, 2] rfl ?_
      exact kx29 _ rfl
    · have hf := ip hf c2
      refine v_aload_n C 0 dX0_fewestBars_14 rfl rfl ?_
      refine v_iload_n C 3 dX0_fewestBars_15 rfl rfl ?_
      refine v_iconst (v := 0) C dX0_fewestBars_16 (by decide) ?_
      refine v_iconst (v := 0) C dX0_fewestBars_17 (by decide) ?_
      refine v_iload_n C 1 dX0_fewestBars_18 rfl rfl ?_
      obtain ⟨r3, qr3, hf⟩ := bn hf
      refine v_callVi (As := [.int l3, .int 0, .int 0, .int l1]) (rest := []) C (sX0_barsWith_d h_l0 qr3) cs_X0_45 (by decide) h_l0 rfl hC rfl rfl rfl (Nat.le_of_ble_eq_true rfl) ⟨Nat.le_refl _, Nat.le_refl _⟩ dX0_fewestBars_19 (fun hC => ?_)
      refine v_istore_n (lv2 := [(2, .int r3), (0, .ref (ad l0)), (1, .int l1), (3, .int l3)]) C dX0_fewestBars_22 rfl (by decide) rfl ?_
      obtain ⟨x4, ex4⟩ : ∃ x : Int32, x = (l3 + 1) := ⟨_, rfl⟩
      have hf := bd_at hf ex4
      refine v_iinc (v := x4) (j := 3) (lv2 := [(3, .int x4), (2, .int r3), (0, .ref (ad l0)), (1, .int l1)]) C dX0_fewestBars_23 rfl (by rw [ex4]; rfl) (by decide) rfl ?_
      refine v_goto (tgt := 4) C dX0_fewestBars_26 (by decide) ?_
      cases hf
      refine v_sub [2, 3, 1, 0] rfl ?_
      exact kb _ _ rfl
def fX0_fewestBars (sh : Sh) (G : Hp) (l0 : Nat) (l1 : Int32) : Option (Int32) := (iter (fun s : Int32 × Int32 => fX0_fewestBars_S4 sh l0 l1 G s.1 s.2) fuel (((-1), 0) : Int32 × Int32)).bind (fun u3 => bd u3 fun x2 => some x2)
set_option maxHeartbeats 4000000 in
theorem tX0_fewestBars {E : EX} {ad : Nat → Nat} {sh : Sh} {G : Hp} {l0 : Nat} {l1 : Int32} {z : Int32} (C : Cx E RX0 cX0_fewestBars 4 (some .int) 19 0 0) (hC : Cl sh G) (h_l0 : sh[l0]? = some (0, 0)) (hf : fX0_fewestBars sh G l0 l1 = some z) (kr : RCi E cX0_fewestBars ad sh z G) : VV E 0 0 (wq (xT E) ad G sh) 0 [(0, .ref (ad l0)), (1, .int l1)] [] := by
  unfold fX0_fewestBars at hf
  refine v_iconst (v := (-1)) C dX0_fewestBars_0 (by decide) ?_
  refine v_istore_n (lv2 := [(2, .int (-1)), (0, .ref (ad l0)), (1, .int l1)]) C dX0_fewestBars_1 rfl (by decide) rfl ?_
  refine v_iconst (v := 0) C dX0_fewestBars_2 (by decide) ?_
  refine v_istore_n (lv2 := [(3, .int 0), (2, .int (-1)), (0, .ref (ad l0)), (1, .int l1)]) C dX0_fewestBars_3 rfl (by decide) rfl ?_
  obtain ⟨r1, qr1, hf⟩ := bn hf
  refine v_sub [2, 3, 1, 0] rfl ?_
  refine iter_sound (P := (fun s : Int32 × Int32 => VV E 0 0 (wq (xT E) ad (G) sh) 4 [(0, .ref (ad l0)), (1, .int (l1)), (2, .int (s.1)), (3, .int (s.2))] [])) (X := fun r => r = r1) (fun jsr1 jor1 hor1 jbr1 jxr1 => tX0_fewestBars_S4 C hC h_l0 hor1 (fun _ _ e => jbr1 _ e) ?_) fuel _ r1 qr1 rfl
  · intro x2 hu
    have e := jxr1 _ hu
    subst e
    have hf := bd_at hf (rfl : x2 = _)
    refine v_iload_n C 2 dX0_fewestBars_29 rfl rfl ?_
    cases hf
    exact kr _ _ dX0_fewestBars_30 hC
theorem sX0_fewestBars {l : Launch} {sh : Sh} {G : Hp} {l0 : Nat} {l1 : Int32} {z : Int32} (h_l0 : sh[l0]? = some (0, 0)) (hf : fX0_fewestBars sh G l0 l1 = some z) : MC l yX0_fewestBars cX0_fewestBars 4 (some .int) 19 0 0 sh sh G G (fun ad => [.ref (ad l0), .int l1]) (fun _ => some (.int z)) := by
  refine MC_of rfl rfl (fun _ => Nat.le_of_ble_eq_true rfl) (fun E ad C hl hnm hC hQ => ?_)
  exact tX0_fewestBars C hC h_l0 hf (fun pc lv hd hC => v_iret C hQ (fun _ _ => rfl) hC rfl hd)
def fX10_bitAt_S4 (l0 : Int32) (l1 : Int32) (l2 : Int32) (l3 : Int32) : Option ((Int32 × Int32) ⊕ ((Unit) ⊕ (Int32))) := if 8 ≤ l3 then some (.inr (.inl ())) else if ((ush l0 l3) &&& 1) = 0 then bd ((l3 + 1) : Int32) fun x3 => some (.inl (l2, x3)) else if l2 = l1 then some (.inr (.inr l3)) else bd ((l2 + 1) : Int32) fun x5 => bd ((l3 + 1) : Int32) fun x6 => some (.inl (x5, x6))
set_option maxHeartbeats 4000000 in
theorem tX10_bitAt_S4 {E : EX} {ad : Nat → Nat} {sh : Sh} {G : Hp} {l0 : Int32} {l1 : Int32} {l2 : Int32} {l3 : Int32} {o : (Int32 × Int32) ⊕ ((Unit) ⊕ (Int32))} (C : Cx E RX10 cX10_bitAt 4 (some .int) 1 0 0) (hC : Cl sh G) (hf : fX10_bitAt_S4 l0 l1 l2 l3 = some o) (kb : ∀ (b_l2 : Int32) (b_l3 : Int32), o = .inl (b_l2, b_l3) → VV E 0 0 (wq (xT E) ad G sh) 4 [(0, .int l0), (1, .int l1), (2, .int b_l2), (3, .int b_l3)] []) (kx34 : o = .inr (.inl ()) → VV E 0 0 (wq (xT E) ad G sh) 34 [(0, .int l0), (1, .int l1)] []) (kx23 : ∀ (b_l3 : Int32), o = .inr (.inr b_l3) → VV E 0 0 (wq (xT E) ad G sh) 23 [(0, .int l0), (1, .int l1), (3, .int b_l3)] []) : VV E 0 0 (wq (xT E) ad G sh) 4 [(0, .int l0), (1, .int l1), (2, .int l2), (3, .int l3)] [] := by
  unfold fX10_bitAt_S4 at hf
  refine v_iload_n C 3 dX10_bitAt_4 rfl rfl ?_
  refine v_bipush (v := 8) C dX10_bitAt_5 (by decide) ?_
  refine v_icmp_ge (tgt := 34) C dX10_bitAt_7 (by decide) (fun c1 => ?_) (fun c1 => ?_)
  · have hf := ip hf c1
    cases hf
    refine v_sub [0, 1] rfl ?_
    exact kx34 rfl
  · have hf := im hf c1
    refine v_iload_n C 0 dX10_bitAt_10 rfl rfl ?_
    refine v_iload_n C 3 dX10_bitAt_11 rfl rfl ?_
    refine v_iushr C dX10_bitAt_12 ?_
    refine v_iconst (v := 1) C dX10_bitAt_13 (by decide) ?_
    refine v_iand C dX10_bitAt_14 ?_
    refine v_if_eq (tgt := 28) C dX10_bitAt_15 (by decide) (fun c2 => ?_) (fun c2 => ?_)
    · have hf := ip hf c2
      obtain ⟨x3, ex3⟩ : ∃ x : Int32, x = (l3 + 1) := ⟨_, rfl⟩
      have hf := bd_at hf ex3
      refine v_iinc (v := x3) (j := 3) (lv2 := [(3, .int x3), (0, .int l0), (1, .int l1), (2, .int l2)]) C dX10_bitAt_28 rfl (by rw [ex3]; rfl) (by decide) rfl ?_
      refine v_goto (tgt := 4) C dX10_bitAt_31 (by decide) ?_
      cases hf
      refine v_sub [1, 2, 3, 0] rfl ?_
      exact kb _ _ rfl
    · have hf := im hf c2
      refine v_iload_n C 2 dX10_bitAt_18 rfl rfl ?_
      refine v_iload_n C 1 dX10_bitAt_19 rfl rfl ?_
      refine v_icmp_ne (tgt := 25) C dX10_bitAt_20 (by decide) (fun c4 => ?_) (fun c4 => ?_)
      · have hf := im hf c4
        obtain ⟨x5, ex5⟩ : ∃ x : Int32, x = (l2 + 1) := ⟨_, rfl⟩
        have hf := bd_at hf ex5
        refine v_iinc (v := x5) (j := 2) (lv2 := [(2, .int x5), (0, .int l0), (1, .int l1), (3, .int l3)]) C dX10_bitAt_25 rfl (by rw [ex5]; rfl) (by decide) rfl ?_
        obtain ⟨x6, ex6⟩ : ∃ x : Int32, x = (l3 + 1) := ⟨_, rfl⟩
        have hf := bd_at hf ex6
        refine v_iinc (v := x6) (j := 3) (lv2 := [(3, .int x6), (2, .int x5), (0, .int l0), (1, .int l1)]) C dX10_bitAt_28 rfl (by rw [ex6]; rfl) (by decide) rfl ?_
        refine v_goto (tgt := 4) C dX10_bitAt_31 (by decide) ?_
        cases hf
        refine v_sub [2, 3, 1, 0] rfl ?_
        exact kb _ _ rfl
      · have hf := ip hf c4
        cases hf
        refine v_sub [0, 1, 3] rfl ?_
        exact kx23 _ rfl
def fX10_bitAt (l0 : Int32) (l1 : Int32) : Option (Int32) := (iter (fun s : Int32 × Int32 => fX10_bitAt_S4 l0 l1  s.1 s.2) fuel ((0, 0) : Int32 × Int32)).bind (Sum.elim (fun _ => some (-1)) (fun u4 => bd u4 fun x3 => some x3))
set_option maxHeartbeats 4000000 in
theorem tX10_bitAt {E : EX} {ad : Nat → Nat} {sh : Sh} {G : Hp} {l0 : Int32} {l1 : Int32} {z : Int32} (C : Cx E RX10 cX10_bitAt 4 (some .int) 1 0 0) (hC : Cl sh G) (hf : fX10_bitAt l0 l1 = some z) (kr : RCi E cX10_bitAt ad sh z G) : VV E 0 0 (wq (xT E) ad G sh) 0 [(0, .int l0), (1, .int l1)] [] := by
  unfold fX10_bitAt at hf
  refine v_iconst (v := 0) C dX10_bitAt_0 (by decide) ?_
  refine v_istore_n (lv2 := [(2, .int 0), (0, .int l0), (1, .int l1)]) C dX10_bitAt_1 rfl (by decide) rfl ?_
  refine v_iconst (v := 0) C dX10_bitAt_2 (by decide) ?_
  refine v_istore_n (lv2 := [(3, .int 0), (2, .int 0), (0, .int l0), (1, .int l1)]) C dX10_bitAt_3 rfl (by decide) rfl ?_
  obtain ⟨r1, qr1, hf⟩ := bn hf
  refine v_sub [2, 3, 1, 0] rfl ?_
  refine iter_sound (P := (fun s : Int32 × Int32 => VV E 0 0 (wq (xT E) ad (G) sh) 4 [(0, .int (l0)), (1, .int (l1)), (2, .int (s.1)), (3, .int (s.2))] [])) (X := fun r => r = r1) (fun jsr1 jor1 hor1 jbr1 jxr1 => tX10_bitAt_S4 C hC hor1 (fun _ _ e => jbr1 _ e) ?_ ?_) fuel _ r1 qr1 rfl
  · intro  hu
    have e := jxr1 _ hu
    subst e
    have hf := sm_l hf
    refine v_iconst (v := (-1)) C dX10_bitAt_34 (by decide) ?_
    cases hf
    exact kr _ _ dX10_bitAt_35 hC
  · intro x3 hu
    have e := jxr1 _ hu
    subst e
    have hf := sm_r hf
    have hf := bd_at hf (rfl : x3 = _)
    refine v_iload_n C 2 dX10_bitAt_23 rfl rfl ?_
    cases hf
    exact kr _ _ dX10_bitAt_24 hC
theorem sX10_bitAt {l : Launch} {sh : Sh} {G : Hp} {l0 : Int32} {l1 : Int32} {z : Int32} (hf : fX10_bitAt l0 l1 = some z) : MC l yX10_bitAt cX10_bitAt 4 (some .int) 1 0 0 sh sh G G (fun ad => [.int l0, .int l1]) (fun _ => some (.int z)) := by
  refine MC_of rfl rfl (fun _ => Nat.le_of_ble_eq_true rfl) (fun E ad C hl hnm hC hQ => ?_)
  exact tX10_bitAt C hC hf (fun pc lv hd hC => v_iret C hQ (fun _ _ => rfl) hC rfl hd)
def fX10_shuts (sh : Sh) (G : Hp) (l0 : Nat) (l1 : Int32) (l2 : Int32) : Option (Int32 × Hp) := (ldO sh G l0 2 8).bind fun a1 => (fX8_hasBridge sh G a1 l1).bind fun r2 => if r2 = 0 then some ((-1), G) else if l2 < (-1) then some ((-1), G) else if l2 < 3 then (ldO sh G l0 10 0).bind fun a6 => (ldO sh G l0 2 8).bind fun a7 => (ldO sh G l0 3 1).bind fun a8 => (fX0_gather sh G a6 a7 a8 l1).bind fun G10 => (ldO sh G10 l0 10 0).bind fun a11 => (ldO sh G10 l0 2 8).bind fun a12 => (fX0_fewestBars sh G10 a11 (G10.1 a12 0)).bind fun r13 => if r13 = (-1) then some ((-2), G10) else if l2 = (-1) then (fJ6_bitCount_0f7a4 r13).bind fun r17 => some (r17, G10) else (fX10_bitAt r13 l2).bind fun r16 => some (r16, G10) else some ((-1), G)
set_option maxHeartbeats 4000000 in
theorem tX10_shuts {E : EX} {ad : Nat → Nat} {sh : Sh} {G : Hp} {l0 : Nat} {l1 : Int32} {l2 : Int32} {z : Int32 × Hp} (C : Cx E RX10 cX10_shuts 4 (some .int) 20 0 0) (hC : Cl sh G) (h_l0 : sh[l0]? = some (0, 10)) (hf : fX10_shuts sh G l0 l1 l2 = some z) (kr : RCi E cX10_shuts ad sh (z.1) (z.2)) : VV E 0 0 (wq (xT E) ad G sh) 0 [(0, .ref (ad l0)), (1, .int l1), (2, .int l2)] [] := by
  unfold fX10_shuts at hf
  refine v_aload_n C 0 dX10_shuts_0 rfl rfl ?_
  obtain ⟨a1, qa1, hf⟩ := bn hf
  refine v_getO C h_l0 fl_X10_23 qa1 dX10_shuts_1 (fun h_a1 => ?_)
  refine v_iload_n C 1 dX10_shuts_4 rfl rfl ?_
  obtain ⟨r2, qr2, hf⟩ := bn hf
  refine v_callVi (As := [.int l1]) (rest := []) C (sX8_hasBridge h_a1 qr2) cs_X10_143 (by decide) h_a1 rfl hC rfl rfl rfl (Nat.le_of_ble_eq_true rfl) ⟨Nat.le_refl _, Nat.le_refl _⟩ dX10_shuts_5 (fun hC => ?_)
  refine v_if_eq (tgt := 21) C dX10_shuts_8 (by decide) (fun c3 => ?_) (fun c3 => ?_)
  · have hf := ip hf c3
    refine v_iconst (v := (-1)) C dX10_shuts_21 (by decide) ?_
    cases hf
    exact kr _ _ dX10_shuts_22 hC
  · have hf := im hf c3
    refine v_iload_n C 2 dX10_shuts_11 rfl rfl ?_
    refine v_iconst (v := (-1)) C dX10_shuts_12 (by decide) ?_
    refine v_icmp_lt (tgt := 21) C dX10_shuts_13 (by decide) (fun c4 => ?_) (fun c4 => ?_)
    · have hf := ip hf c4
      refine v_iconst (v := (-1)) C dX10_shuts_21 (by decide) ?_
      cases hf
      exact kr _ _ dX10_shuts_22 hC
    · have hf := im hf c4
      refine v_iload_n C 2 dX10_shuts_16 rfl rfl ?_
      refine v_iconst (v := 3) C dX10_shuts_17 (by decide) ?_
      refine v_icmp_lt (tgt := 23) C dX10_shuts_18 (by decide) (fun c5 => ?_) (fun c5 => ?_)
      · have hf := ip hf c5
        refine v_aload_n C 0 dX10_shuts_23 rfl rfl ?_
        obtain ⟨a6, qa6, hf⟩ := bn hf
        refine v_getO C h_l0 fl_X10_72 qa6 dX10_shuts_24 (fun h_a6 => ?_)
        refine v_aload_n C 0 dX10_shuts_27 rfl rfl ?_
        obtain ⟨a7, qa7, hf⟩ := bn hf
        refine v_getO C h_l0 fl_X10_23 qa7 dX10_shuts_28 (fun h_a7 => ?_)
        refine v_aload_n C 0 dX10_shuts_31 rfl rfl ?_
        obtain ⟨a8, qa8, hf⟩ := bn hf
        refine v_getO C h_l0 fl_X10_30 qa8 dX10_shuts_32 (fun h_a8 => ?_)
        refine v_iload_n C 1 dX10_shuts_35 rfl rfl ?_
        obtain ⟨G10, qr9, hf⟩ := bn hf
        refine v_callVv (As := [.ref (ad a7), .ref (ad a8), .int l1]) (rest := []) C (sX0_gather h_a6 h_a7 h_a8 qr9) cs_X10_244 (by decide) h_a6 rfl hC rfl rfl rfl (Nat.le_of_ble_eq_true rfl) ⟨Nat.le_refl _, Nat.le_refl _⟩ dX10_shuts_36 (fun hC => ?_)
        refine v_aload_n C 0 dX10_shuts_39 rfl rfl ?_
        obtain ⟨a11, qa11, hf⟩ := bn hf
        refine v_getO C h_l0 fl_X10_72 qa11 dX10_shuts_40 (fun h_a11 => ?_)
        refine v_aload_n C 0 dX10_shuts_43 rfl rfl ?_
        obtain ⟨a12, qa12, hf⟩ := bn hf
        refine v_getO C h_l0 fl_X10_23 qa12 dX10_shuts_44 (fun h_a12 => ?_)
        refine v_getI C h_a12 fl_X10_262 dX10_shuts_47 ?_
        obtain ⟨r13, qr13, hf⟩ := bn hf
        refine v_callVi (As := [.int (G10.1 a12 0)]) (rest := []) C (sX0_fewestBars h_a11 qr13) cs_X10_271 (by decide) h_a11 rfl hC rfl rfl rfl (Nat.le_of_ble_eq_true rfl) ⟨Nat.le_refl _, Nat.le_refl _⟩ dX10_shuts_50 (fun hC => ?_)
        refine v_istore_n (lv2 := [(3, .int r13), (0, .ref (ad l0)), (1, .int l1), (2, .int l2)]) C dX10_shuts_53 rfl (by decide) rfl ?_
        refine v_iload_n C 0 dX10_shuts_54 rfl rfl ?_
        refine v_iconst (v := (-1)) C dX10_shuts_55 (by decide) ?_
        refine v_icmp_ne (tgt := 62) C dX10_shuts_56 (by decide) (fun c14 => ?_) (fun c14 => ?_)
        · have hf := im hf c14
          refine v_iload_n C 3 dX10_shuts_62 rfl rfl ?_
          refine v_iconst (v := (-1)) C dX10_shuts_63 (by decide) ?_
          refine v_icmp_ne (tgt := 74) C dX10_shuts_64 (by decide) (fun c15 => ?_) (fun c15 => ?_)
          · have hf := im hf c15
            refine v_iload_n C 0 dX10_shuts_74 rfl rfl ?_
            refine v_iload_n C 3 dX10_shuts_75 rfl rfl ?_
            obtain ⟨r16, qr16, hf⟩ := bn hf
            refine v_callSi (As := [.int r13, .int l2]) (rest := []) C (sX10_bitAt  qr16) cs_X10_279 (by decide) hC rfl rfl rfl (Nat.le_of_ble_eq_true rfl) ⟨Nat.le_refl _, Nat.le_refl _⟩ dX10_shuts_76 (fun hC => ?_)
            cases hf
            exact kr _ _ dX10_shuts_79 hC
          · have hf := ip hf c15
            refine v_iload_n C 0 dX10_shuts_67 rfl rfl ?_
            obtain ⟨r17, qr17, hf⟩ := bn hf
            refine v_callSi (As := [.int r13]) (rest := []) C (sJ6_bitCount_0f7a4  qr17) cs_X10_274 (by decide) hC rfl rfl rfl (Nat.le_of_ble_eq_true rfl) ⟨Nat.le_refl _, Nat.le_refl _⟩ dX10_shuts_68 (fun hC => ?_)
            refine v_goto (tgt := 79) C dX10_shuts_71 (by decide) ?_
            cases hf
            exact kr _ _ dX10_shuts_79 hC
        · have hf := ip hf c14
          refine v_bipush (v := (-2)) C dX10_shuts_59 (by decide) ?_
          cases hf
          exact kr _ _ dX10_shuts_61 hC
      · have hf := im hf c5
        refine v_iconst (v := (-1)) C dX10_shuts_21 (by decide) ?_
        cases hf
        exact kr _ _ dX10_shuts_22 hC
theorem sX10_shuts {l : Launch} {sh : Sh} {G : Hp} {l0 : Nat} {l1 : Int32} {l2 : Int32} {z : Int32 × Hp} (h_l0 : sh[l0]? = some (0, 10)) (hf : fX10_shuts sh G l0 l1 l2 = some z) : MC l yX10_shuts cX10_shuts 4 (some .int) 20 0 0 sh sh G (z.2) (fun ad => [.ref (ad l0), .int l1, .int l2]) (fun _ => some (.int z.1)) := by
  refine MC_of rfl rfl (fun _ => Nat.le_of_ble_eq_true rfl) (fun E ad C hl hnm hC hQ => ?_)
  exact tX10_shuts C hC h_l0 hf (fun pc lv hd hC => v_iret C hQ (fun _ _ => rfl) hC rfl hd)
def fX10_stands (sh : Sh) (G : Hp) (l0 : Nat) (l1 : Int32) : Option (Int32 × Hp) := (ldO sh G l0 2 8).bind fun a1 => (fX8_hasBridge sh G a1 l1).bind fun r2 => if r2 = 0 then some ((-1), G) else (ldO sh G l0 3 1).bind fun a4 => (ldA sh G a4 1 1).bind fun a5 => (aI sh G a5 l1).bind fun v6 => if v6 = 1 then (ldO sh G l0 4 3).bind fun a8 => (ldO sh G l0 2 8).bind fun a9 => (ldO sh G l0 3 1).bind fun a10 => bp (fX3_yearsToFall sh G a8 a9 a10 l1 0) fun r11 G12 => if r11 ≤ 200 then some (r11, G12) else some ((-2), G12) else some ((-2), G)
set_option maxHeartbeats 4000000 in
theorem tX10_stands {E : EX} {ad : Nat → Nat} {sh : Sh} {G : Hp} {l0 : Nat} {l1 : Int32} {z : Int32 × Hp} (C : Cx E RX10 cX10_stands 3 (some .int) 7 0 0) (hC : Cl sh G) (h_l0 : sh[l0]? = some (0, 10)) (hf : fX10_stands sh G l0 l1 = some z) (kr : RCi E cX10_stands ad sh (z.1) (z.2)) : VV E 0 0 (wq (xT E) ad G sh) 0 [(0, .ref (ad l0)), (1, .int l1)] [] := by
  unfold fX10_stands at hf
  refine v_aload_n C 0 dX10_stands_0 rfl rfl ?_
  obtain ⟨a1, qa1, hf⟩ := bn hf
  refine v_getO C h_l0 fl_X10_23 qa1 dX10_stands_1 (fun h_a1 => ?_)
  refine v_iload_n C 1 dX10_stands_4 rfl rfl ?_
  obtain ⟨r2, qr2, hf⟩ := bn hf
  refine v_callVi (As := [.int l1]) (rest := []) C (sX8_hasBridge h_a1 qr2) cs_X10_143 (by decide) h_a1 rfl hC rfl rfl rfl (Nat.le_of_ble_eq_true rfl) ⟨Nat.le_refl _, Nat.le_refl _⟩ dX10_stands_5 (fun hC => ?_)
  refine v_if_ne (tgt := 13) C dX10_stands_8 (by decide) (fun c3 => ?_) (fun c3 => ?_)
  · have hf := im hf c3
    refine v_aload_n C 0 dX10_stands_13 rfl rfl ?_
    obtain ⟨a4, qa4, hf⟩ := bn hf
    refine v_getO C h_l0 fl_X10_30 qa4 dX10_stands_14 (fun h_a4 => ?_)
    obtain ⟨a5, qa5, hf⟩ := bn hf
    refine v_getA C h_a4 fl_X10_152 qa5 dX10_stands_17 (fun h_a5 => ?_)
    refine v_iload_n C 1 dX10_stands_20 rfl rfl ?_
    obtain ⟨v6, qv6, hf⟩ := bn hf
    refine v_iald C h_a5 qv6 dX10_stands_21 ?_
    refine v_iconst (v := 1) C dX10_stands_22 (by decide) ?_
    refine v_icmp_eq (tgt := 29) C dX10_stands_23 (by decide) (fun c7 => ?_) (fun c7 => ?_)
    · have hf := ip hf c7
      refine v_aload_n C 0 dX10_stands_29 rfl rfl ?_
      obtain ⟨a8, qa8, hf⟩ := bn hf
      refine v_getO C h_l0 fl_X10_37 qa8 dX10_stands_30 (fun h_a8 => ?_)
      refine v_aload_n C 0 dX10_stands_33 rfl rfl ?_
      obtain ⟨a9, qa9, hf⟩ := bn hf
      refine v_getO C h_l0 fl_X10_23 qa9 dX10_stands_34 (fun h_a9 => ?_)
      refine v_aload_n C 0 dX10_stands_37 rfl rfl ?_
      obtain ⟨a10, qa10, hf⟩ := bn hf
      refine v_getO C h_l0 fl_X10_30 qa10 dX10_stands_38 (fun h_a10 => ?_)
      refine v_iload_n C 1 dX10_stands_41 rfl rfl ?_
      refine v_iconst (v := 0) C dX10_stands_42 (by decide) ?_
      obtain ⟨r11, G12, qr11, hf⟩ := bpn hf
      refine v_callVi (As := [.ref (ad a9), .ref (ad a10), .int l1, .int 0]) (rest := []) C (sX3_yearsToFall h_a8 h_a9 h_a10 qr11) cs_X10_282 (by decide) h_a8 rfl hC rfl rfl rfl (Nat.le_of_ble_eq_true rfl) ⟨Nat.le_refl _, Nat.le_refl _⟩ dX10_stands_43 (fun hC => ?_)
      refine v_istore_n (lv2 := [(2, .int r11), (0, .ref (ad l0)), (1, .int l1)]) C dX10_stands_46 rfl (by decide) rfl ?_
      refine v_iload_n C 0 dX10_stands_47 rfl rfl ?_
      refine v_sipush (v := 200) C dX10_stands_48 (by decide) ?_
      refine v_icmp_le (tgt := 59) C dX10_stands_51 (by decide) (fun c13 => ?_) (fun c13 => ?_)
      · have hf := ip hf c13
        refine v_iload_n C 0 dX10_stands_59 rfl rfl ?_
        cases hf
        exact kr _ _ dX10_stands_60 hC
      · have hf := im hf c13
        refine v_bipush (v := (-2)) C dX10_stands_54 (by decide) ?_
        refine v_goto (tgt := 60) C dX10_stands_56 (by decide) ?_
        cases hf
        exact kr _ _ dX10_stands_60 hC
    · have hf := im hf c7
      refine v_bipush (v := (-2)) C dX10_stands_26 (by decide) ?_
      cases hf
      exact kr _ _ dX10_stands_28 hC
  · have hf := ip hf c3
    refine v_iconst (v := (-1)) C dX10_stands_11 (by decide) ?_
    cases hf
    exact kr _ _ dX10_stands_12 hC
theorem sX10_stands {l : Launch} {sh : Sh} {G : Hp} {l0 : Nat} {l1 : Int32} {z : Int32 × Hp} (h_l0 : sh[l0]? = some (0, 10)) (hf : fX10_stands sh G l0 l1 = some z) : MC l yX10_stands cX10_stands 3 (some .int) 7 0 0 sh sh G (z.2) (fun ad => [.ref (ad l0), .int l1]) (fun _ => some (.int z.1)) := by
  refine MC_of rfl rfl (fun _ => Nat.le_of_ble_eq_true rfl) (fun E ad C hl hnm hC hQ => ?_)
  exact tX10_stands C hC h_l0 hf (fun pc lv hd hC => v_iret C hQ (fun _ _ => rfl) hC rfl hd)
def fX10_stonesIn (sh : Sh) (G : Hp) (l0 : Nat) (l1 : Int32) (l2 : Int32) : Option (Int32 × Hp) := (ldO sh G l0 2 8).bind fun a1 => (fX8_hasBridge sh G a1 l1).bind fun r2 => if r2 = 0 then some ((-1), G) else if l2 < 0 then some ((-1), G) else if l2 ≤ 60 then (ldO sh G l0 4 3).bind fun a6 => (ldO sh G l0 2 8).bind fun a7 => (ldO sh G l0 3 1).bind fun a8 => (ldO sh G l0 2 8).bind fun a9 => bp (fX3_lookAhead sh G a6 a7 a8 l2 (G.1 a9 5)) fun r10 G11 => (ckO sh r10 1).bind fun u12 => (ldA sh G11 r10 0 1).bind fun a13 => (aI sh G11 a13 l1).bind fun v14 => some (v14, G11) else some ((-1), G)
set_option maxHeartbeats 4000000 in
theorem tX10_stonesIn {E : EX} {ad : Nat → Nat} {sh : Sh} {G : Hp} {l0 : Nat} {l1 : Int32} {l2 : Int32} {z : Int32 × Hp} (C : Cx E RX10 cX10_stonesIn 3 (some .int) 8 0 0) (hC : Cl sh G) (h_l0 : sh[l0]? = some (0, 10)) (hf : fX10_stonesIn sh G l0 l1 l2 = some z) (kr : RCi E cX10_stonesIn ad sh (z.1) (z.2)) : VV E 0 0 (wq (xT E) ad G sh) 0 [(0, .ref (ad l0)), (1, .int l1), (2, .int l2)] [] := by
  unfold fX10_stonesIn at hf
  refine v_aload_n C 0 dX10_stonesIn_0 rfl rfl ?_
  obtain ⟨a1, qa1, hf⟩ := bn hf
  refine v_getO C h_l0 fl_X10_23 qa1 dX10_stonesIn_1 (fun h_a1 => ?_)
  refine v_iload_n C 1 dX10_stonesIn_4 rfl rfl ?_
  obtain ⟨r2, qr2, hf⟩ := bn hf
  refine v_callVi (As := [.int l1]) (rest := []) C (sX8_hasBridge h_a1 qr2) cs_X10_143 (by decide) h_a1 rfl hC rfl rfl rfl (Nat.le_of_ble_eq_true rfl) ⟨Nat.le_refl _, Nat.le_refl _⟩ dX10_stonesIn_5 (fun hC => ?_)
  refine v_if_eq (tgt := 21) C dX10_stonesIn_8 (by decide) (fun c3 => ?_) (fun c3 => ?_)
  · have hf := ip hf c3
    refine v_iconst (v := (-1)) C dX10_stonesIn_21 (by decide) ?_
    cases hf
    exact kr _ _ dX10_stonesIn_22 hC
  · have hf := im hf c3
    refine v_iload_n C 2 dX10_stonesIn_11 rfl rfl ?_
    refine v_if_lt (tgt := 21) C dX10_stonesIn_12 (by decide) (fun c4 => ?_) (fun c4 => ?_)
    · have hf := ip hf c4
      refine v_iconst (v := (-1)) C dX10_stonesIn_21 (by decide) ?_
      cases hf
      exact kr _ _ dX10_stonesIn_22 hC
    · have hf := im hf c4
      refine v_iload_n C 2 dX10_stonesIn_15 rfl rfl ?_
      refine v_bipush (v := 60) C dX10_stonesIn_16 (by decide) ?_
      refine v_icmp_le (tgt := 23) C dX10_stonesIn_18 (by decide) (fun c5 => ?_) (fun c5 => ?_)
      · have hf := ip hf c5
        refine v_aload_n C 0 dX10_stonesIn_23 rfl rfl ?_
        obtain ⟨a6, qa6, hf⟩ := bn hf
        refine v_getO C h_l0 fl_X10_37 qa6 dX10_stonesIn_24 (fun h_a6 => ?_)
        refine v_aload_n C 0 dX10_stonesIn_27 rfl rfl ?_
        obtain ⟨a7, qa7, hf⟩ := bn hf
        refine v_getO C h_l0 fl_X10_23 qa7 dX10_stonesIn_28 (fun h_a7 => ?_)
        refine v_aload_n C 0 dX10_stonesIn_31 rfl rfl ?_
        obtain ⟨a8, qa8, hf⟩ := bn hf
        refine v_getO C h_l0 fl_X10_30 qa8 dX10_stonesIn_32 (fun h_a8 => ?_)
        refine v_iload_n C 2 dX10_stonesIn_35 rfl rfl ?_
        refine v_aload_n C 0 dX10_stonesIn_36 rfl rfl ?_
        obtain ⟨a9, qa9, hf⟩ := bn hf
        refine v_getO C h_l0 fl_X10_23 qa9 dX10_stonesIn_37 (fun h_a9 => ?_)
        refine v_getI C h_a9 fl_X10_214 dX10_stonesIn_40 ?_
        obtain ⟨r10, G11, qr10, hf⟩ := bpn hf
        obtain ⟨u12, hu12, hf⟩ := bn hf
        have h_r10 := ckO_some hu12
        refine v_callVr (As := [.ref (ad a7), .ref (ad a8), .int l2, .int (G.1 a9 5)]) (rest := []) C (sX3_lookAhead h_a6 h_a7 h_a8 qr10) cs_X10_291 (by decide) h_a6 rfl hC rfl rfl rfl (Nat.le_of_ble_eq_true rfl) ⟨Nat.le_refl _, Nat.le_refl _⟩ h_r10 dX10_stonesIn_43 (fun hC => ?_)
        obtain ⟨a13, qa13, hf⟩ := bn hf
        refine v_getA C h_r10 fl_X10_146 qa13 dX10_stonesIn_46 (fun h_a13 => ?_)
        refine v_iload_n C 1 dX10_stonesIn_49 rfl rfl ?_
        obtain ⟨v14, qv14, hf⟩ := bn hf
        refine v_iald C h_a13 qv14 dX10_stonesIn_50 ?_
        cases hf
        exact kr _ _ dX10_stonesIn_51 hC
      · have hf := im hf c5
        refine v_iconst (v := (-1)) C dX10_stonesIn_21 (by decide) ?_
        cases hf
        exact kr _ _ dX10_stonesIn_22 hC
theorem sX10_stonesIn {l : Launch} {sh : Sh} {G : Hp} {l0 : Nat} {l1 : Int32} {l2 : Int32} {z : Int32 × Hp} (h_l0 : sh[l0]? = some (0, 10)) (hf : fX10_stonesIn sh G l0 l1 l2 = some z) : MC l yX10_stonesIn cX10_stonesIn 3 (some .int) 8 0 0 sh sh G (z.2) (fun ad => [.ref (ad l0), .int l1, .int l2]) (fun _ => some (.int z.1)) := by
  refine MC_of rfl rfl (fun _ => Nat.le_of_ble_eq_true rfl) (fun E ad C hl hnm hC hQ => ?_)
  exact tX10_stonesIn C hC h_l0 hf (fun pc lv hd hC => v_iret C hQ (fun _ _ => rfl) hC rfl hd)
def fX9_onlyBeing_S27 (sh : Sh) (l0 : Nat) (l1 : Nat) (l2 : Int32) (l4 : Int32) (l5 : Int32) (G : Hp) (l6 : Int32) (l7 : Int32) : Option ((Int32 × Int32) ⊕ ((Int32))) := if (G.1 l1 2) ≤ l7 then some (.inr l6) else (fX8_setOf sh G l1 l5 l7).bind fun r2 => (fX9_canBe sh G l0 l1 l2 r2).bind fun r3 => bd ((l6 ||| r3) : Int32) fun x4 => bd ((l7 + 1) : Int32) fun x5 => some (.inl (x4, x5))
set_option maxHeartbeats 4000000 in
theorem tX9_onlyBeing_S27 {E : EX} {ad : Nat → Nat} {sh : Sh} {G : Hp} {l0 : Nat} {l1 : Nat} {l2 : Int32} {l4 : Int32} {l5 : Int32} {l6 : Int32} {l7 : Int32} {o : (Int32 × Int32) ⊕ ((Int32))} (C : Cx E RX9 cX9_onlyBeing 8 (some .int) 4 0 0) (hC : Cl sh G) (h_l0 : sh[l0]? = some (0, 9)) (h_l1 : sh[l1]? = some (0, 8)) (hf : fX9_onlyBeing_S27 sh l0 l1 l2 l4 l5 G l6 l7 = some o) (kb : ∀ (b_l6 : Int32) (b_l7 : Int32), o = .inl (b_l6, b_l7) → VV E 0 0 (wq (xT E) ad G sh) 27 [(0, .ref (ad l0)), (1, .ref (ad l1)), (2, .int l2), (4, .int l4), (5, .int l5), (6, .int b_l6), (7, .int b_l7)] []) (kx61 : ∀ (b_l6 : Int32), o = .inr b_l6 → VV E 0 0 (wq (xT E) ad G sh) 61 [(0, .ref (ad l0)), (1, .ref (ad l1)), (2, .int l2), (4, .int l4), (5, .int l5), (6, .int b_l6)] []) : VV E 0 0 (wq (xT E) ad G sh) 27 [(0, .ref (ad l0)), (1, .ref (ad l1)), (2, .int l2), (4, .int l4), (5, .int l5), (6, .int l6), (7, .int l7)] [] := by
  unfold fX9_onlyBeing_S27 at hf
  refine v_iload C 6 dX9_onlyBeing_27 rfl ?_
  refine v_aload_n C 1 dX9_onlyBeing_29 rfl rfl ?_
  refine v_getI C h_l1 fl_X9_46 dX9_onlyBeing_30 ?_
  refine v_icmp_ge (tgt := 61) C dX9_onlyBeing_33 (by decide) (fun c1 => ?_) (fun c1 => ?_)
  · have hf := ip hf c1
    cases hf
    refine v_sub [0, 1, 2, 3, 4, 5] rfl ?_
    exact kx61 _ rfl
  · have hf := im hf c1
    refine v_iload C 5 dX9_onlyBeing_36 rfl ?_
    refine v_aload_n C 0 dX9_onlyBeing_38 rfl rfl ?_
    refine v_aload_n C 1 dX9_onlyBeing_39 rfl rfl ?_
    refine v_iload_n C 2 dX9_onlyBeing_40 rfl rfl ?_
    refine v_aload_n C 1 dX9_onlyBeing_41 rfl rfl ?_
    refine v_iload C 4 dX9_onlyBeing_42 rfl ?_
    refine v_iload C 6 dX9_onlyBeing_44 rfl ?_
    obtain ⟨r2, qr2, hf⟩ := bn hf
    refine v_callVi (As := [.int l5, .int l7]) (rest := [.int l2, .ref (ad l1), .ref (ad l0), .int l6]) C (sX8_setOf h_l1 qr2) cs_X9_49 (by decide) h_l1 rfl hC rfl rfl rfl (Nat.le_of_ble_eq_true rfl) ⟨Nat.le_refl _, Nat.le_refl _⟩ dX9_onlyBeing_46 (fun hC => ?_)
    obtain ⟨r3, qr3, hf⟩ := bn hf
    refine v_callVi (As := [.ref (ad l1), .int l2, .int r2]) (rest := [.int l6]) C (sX9_canBe h_l0 h_l1 qr3) cs_X9_53 (by decide) h_l0 rfl hC rfl rfl rfl (Nat.le_of_ble_eq_true rfl) ⟨Nat.le_refl _, Nat.le_refl _⟩ dX9_onlyBeing_49 (fun hC => ?_)
    refine v_ior C dX9_onlyBeing_52 ?_
    refine v_topi (fun x4 ex4 => ?_)
    have hf := bd_at hf ex4
    refine v_istore (lv2 := [(6, .int x4), (0, .ref (ad l0)), (1, .ref (ad l1)), (2, .int l2), (4, .int l4), (5, .int l5), (7, .int l7)]) C dX9_onlyBeing_53 (by decide) rfl ?_
    obtain ⟨x5, ex5⟩ : ∃ x : Int32, x = (l7 + 1) := ⟨_, rfl⟩
    have hf := bd_at hf ex5
    refine v_iinc (v := x5) (j := 6) (lv2 := [(7, .int x5), (6, .int x4), (0, .ref (ad l0)), (1, .ref (ad l1)), (2, .int l2), (4, .int l4), (5, .int l5)]) C dX9_onlyBeing_55 rfl (by rw [ex5]; rfl) (by decide) rfl ?_
    refine v_goto (tgt := 27) C dX9_onlyBeing_58 (by decide) ?_
    cases hf
    refine v_sub [2, 3, 4, 5, 6, 1, 0] rfl ?_
    exact kb _ _ rfl
def fX9_onlyBeing_J76L12 (sh : Sh) (G : Hp) (l0 : Nat) (l1 : Nat) (l2 : Int32) (l4 : Int32) (l5 : Int32) (l6 : Int32) : Option ((Int32 × Int32) ⊕ ((Int32) ⊕ (Unit))) := if l6 = 0 then bd ((l5 + 1) : Int32) fun x2 => some (.inl (l4, x2)) else bd ((l5 + 1) : Int32) fun x3 => some (.inl (l5, x3))
set_option maxHeartbeats 4000000 in
theorem tX9_onlyBeing_J76L12 {E : EX} {ad : Nat → Nat} {sh : Sh} {G : Hp} {l0 : Nat} {l1 : Nat} {l2 : Int32} {l4 : Int32} {l5 : Int32} {l6 : Int32} {o : (Int32 × Int32) ⊕ ((Int32) ⊕ (Unit))} (C : Cx E RX9 cX9_onlyBeing 8 (some .int) 4 0 0) (hC : Cl sh G) (h_l0 : sh[l0]? = some (0, 9)) (h_l1 : sh[l1]? = some (0, 8)) (hf : fX9_onlyBeing_J76L12 sh G l0 l1 l2 l4 l5 l6 = some o) (kb : ∀ (b_l4 : Int32) (b_l5 : Int32), o = .inl (b_l4, b_l5) → VV E 0 0 (wq (xT E) ad G sh) 12 [(0, .ref (ad l0)), (1, .ref (ad l1)), (2, .int l2), (4, .int b_l4), (5, .int b_l5)] []) (kx96 : ∀ (b_l4 : Int32), o = .inr (.inl b_l4) → VV E 0 0 (wq (xT E) ad G sh) 96 [(0, .ref (ad l0)), (1, .ref (ad l1)), (2, .int l2), (4, .int b_l4)] []) (kx73 : o = .inr (.inr ()) → VV E 0 0 (wq (xT E) ad G sh) 73 [(0, .ref (ad l0)), (1, .ref (ad l1)), (2, .int l2)] []) : VV E 0 0 (wq (xT E) ad G sh) 76 [(0, .ref (ad l0)), (1, .ref (ad l1)), (2, .int l2), (4, .int l4), (5, .int l5), (6, .int l6)] [] := by
  unfold fX9_onlyBeing_J76L12 at hf
  refine v_iload C 5 dX9_onlyBeing_76 rfl ?_
  refine v_if_eq (tgt := 86) C dX9_onlyBeing_78 (by decide) (fun c1 => ?_) (fun c1 => ?_)
  · have hf := ip hf c1
    refine v_iload C 3 dX9_onlyBeing_86 rfl ?_
    refine v_istore (lv2 := [(4, .int l4), (0, .ref (ad l0)), (1, .ref (ad l1)), (2, .int l2), (5, .int l5), (6, .int l6)]) C dX9_onlyBeing_88 (by decide) rfl ?_
    obtain ⟨x2, ex2⟩ : ∃ x : Int32, x = (l5 + 1) := ⟨_, rfl⟩
    have hf := bd_at hf ex2
    refine v_iinc (v := x2) (j := 4) (lv2 := [(5, .int x2), (4, .int l4), (0, .ref (ad l0)), (1, .ref (ad l1)), (2, .int l2), (6, .int l6)]) C dX9_onlyBeing_90 rfl (by rw [ex2]; rfl) (by decide) rfl ?_
    refine v_goto (tgt := 12) C dX9_onlyBeing_93 (by decide) ?_
    cases hf
    refine v_sub [2, 3, 4, 1, 0] rfl ?_
    exact kb _ _ rfl
  · have hf := im hf c1
    refine v_iload C 4 dX9_onlyBeing_81 rfl ?_
    refine v_goto (tgt := 88) C dX9_onlyBeing_83 (by decide) ?_
    refine v_istore (lv2 := [(4, .int l5), (0, .ref (ad l0)), (1, .ref (ad l1)), (2, .int l2), (5, .int l5), (6, .int l6)]) C dX9_onlyBeing_88 (by decide) rfl ?_
    obtain ⟨x3, ex3⟩ : ∃ x : Int32, x = (l5 + 1) := ⟨_, rfl⟩
    have hf := bd_at hf ex3
    refine v_iinc (v := x3) (j := 4) (lv2 := [(5, .int x3), (4, .int l5), (0, .ref (ad l0)), (1, .ref (ad l1)), (2, .int l2), (6, .int l6)]) C dX9_onlyBeing_90 rfl (by rw [ex3]; rfl) (by decide) rfl ?_
    refine v_goto (tgt := 12) C dX9_onlyBeing_93 (by decide) ?_
    cases hf
    refine v_sub [2, 3, 4, 1, 0] rfl ?_
    exact kb _ _ rfl
def fX9_onlyBeing_S12 (sh : Sh) (l0 : Nat) (l1 : Nat) (l2 : Int32) (G : Hp) (l4 : Int32) (l5 : Int32) : Option ((Int32 × Int32) ⊕ ((Int32) ⊕ (Unit))) := if (G.1 l1 1) ≤ l5 then some (.inr (.inl l4)) else (iter (fun s : Int32 × Int32 => fX9_onlyBeing_S27 sh l0 l1 l2 l4 l5 G s.1 s.2) fuel ((0, (-1)) : Int32 × Int32)).bind (fun u6 => bd u6 fun x3 => if x3 = 0 then fX9_onlyBeing_J76L12 sh G l0 l1 l2 l4 l5 x3 else if l4 = (-2) then fX9_onlyBeing_J76L12 sh G l0 l1 l2 l4 l5 x3 else some (.inr (.inr ())))
set_option maxHeartbeats 4000000 in
theorem tX9_onlyBeing_S12 {E : EX} {ad : Nat → Nat} {sh : Sh} {G : Hp} {l0 : Nat} {l1 : Nat} {l2 : Int32} {l4 : Int32} {l5 : Int32} {o : (Int32 × Int32) ⊕ ((Int32) ⊕ (Unit))} (C : Cx E RX9 cX9_onlyBeing 8 (some .int) 4 0 0) (hC : Cl sh G) (h_l0 : sh[l0]? = some (0, 9)) (h_l1 : sh[l1]? = some (0, 8)) (hf : fX9_onlyBeing_S12 sh l0 l1 l2 G l4 l5 = some o) (kb : ∀ (b_l4 : Int32) (b_l5 : Int32), o = .inl (b_l4, b_l5) → VV E 0 0 (wq (xT E) ad G sh) 12 [(0, .ref (ad l0)), (1, .ref (ad l1)), (2, .int l2), (4, .int b_l4), (5, .int b_l5)] []) (kx96 : ∀ (b_l4 : Int32), o = .inr (.inl b_l4) → VV E 0 0 (wq (xT E) ad G sh) 96 [(0, .ref (ad l0)), (1, .ref (ad l1)), (2, .int l2), (4, .int b_l4)] []) (kx73 : o = .inr (.inr ()) → VV E 0 0 (wq (xT E) ad G sh) 73 [(0, .ref (ad l0)), (1, .ref (ad l1)), (2, .int l2)] []) : VV E 0 0 (wq (xT E) ad G sh) 12 [(0, .ref (ad l0)), (1, .ref (ad l1)), (2, .int l2), (4, .int l4), (5, .int l5)] [] := by
  unfold fX9_onlyBeing_S12 at hf
  refine v_iload C 4 dX9_onlyBeing_12 rfl ?_
  refine v_aload_n C 1 dX9_onlyBeing_14 rfl rfl ?_
  refine v_getI C h_l1 fl_X9_43 dX9_onlyBeing_15 ?_
  refine v_icmp_ge (tgt := 96) C dX9_onlyBeing_18 (by decide) (fun c1 => ?_) (fun c1 => ?_)
  · have hf := ip hf c1
    cases hf
    refine v_sub [0, 1, 2, 3] rfl ?_
    exact kx96 _ rfl
  · have hf := im hf c1
    refine v_iconst (v := 0) C dX9_onlyBeing_21 (by decide) ?_
    refine v_istore (lv2 := [(6, .int 0), (0, .ref (ad l0)), (1, .ref (ad l1)), (2, .int l2), (4, .int l4), (5, .int l5)]) C dX9_onlyBeing_22 (by decide) rfl ?_
    refine v_iconst (v := (-1)) C dX9_onlyBeing_24 (by decide) ?_
    refine v_istore (lv2 := [(7, .int (-1)), (6, .int 0), (0, .ref (ad l0)), (1, .ref (ad l1)), (2, .int l2), (4, .int l4), (5, .int l5)]) C dX9_onlyBeing_25 (by decide) rfl ?_
    obtain ⟨r2, qr2, hf⟩ := bn hf
    refine v_sub [2, 3, 4, 5, 6, 1, 0] rfl ?_
    refine iter_sound (P := (fun s : Int32 × Int32 => VV E 0 0 (wq (xT E) ad (G) sh) 27 [(0, .ref (ad l0)), (1, .ref (ad l1)), (2, .int (l2)), (4, .int (l4)), (5, .int (l5)), (6, .int (s.1)), (7, .int (s.2))] [])) (X := fun r => r = r2) (fun jsr2 jor2 hor2 jbr2 jxr2 => tX9_onlyBeing_S27 C hC h_l0 h_l1 hor2 (fun _ _ e => jbr2 _ e) ?_) fuel _ r2 qr2 rfl
    · intro x3 hu
      have e := jxr2 _ hu
      subst e
      have hf := bd_at hf (rfl : x3 = _)
      refine v_iload C 5 dX9_onlyBeing_61 rfl ?_
      refine v_if_eq (tgt := 76) C dX9_onlyBeing_63 (by decide) (fun c4 => ?_) (fun c4 => ?_)
      · have hf := ip hf c4
        refine v_sub [0, 1, 2, 3, 4, 5] rfl ?_
        exact tX9_onlyBeing_J76L12 C hC h_l0 h_l1 hf kb kx96 kx73
      · have hf := im hf c4
        refine v_iload C 3 dX9_onlyBeing_66 rfl ?_
        refine v_bipush (v := (-2)) C dX9_onlyBeing_68 (by decide) ?_
        refine v_icmp_eq (tgt := 76) C dX9_onlyBeing_70 (by decide) (fun c5 => ?_) (fun c5 => ?_)
        · have hf := ip hf c5
          refine v_sub [0, 1, 2, 3, 4, 5] rfl ?_
          exact tX9_onlyBeing_J76L12 C hC h_l0 h_l1 hf kb kx96 kx73
        · have hf := im hf c5
          cases hf
          refine v_sub [0, 1, 2] rfl ?_
          exact kx73 rfl
def fX9_onlyBeing (sh : Sh) (G : Hp) (l0 : Nat) (l1 : Nat) (l2 : Int32) (l3 : Int32) : Option (Int32 × Hp) := (fX9_know sh G l0 l3).bind fun G2 => (iter (fun s : Int32 × Int32 => fX9_onlyBeing_S12 sh l0 l1 l2 G2 s.1 s.2) fuel (((-2), 0) : Int32 × Int32)).bind (Sum.elim (fun u5 => bd u5 fun x4 => some (x4, G2)) (fun _ => some ((-2), G2)))
set_option maxHeartbeats 4000000 in
theorem tX9_onlyBeing {E : EX} {ad : Nat → Nat} {sh : Sh} {G : Hp} {l0 : Nat} {l1 : Nat} {l2 : Int32} {l3 : Int32} {z : Int32 × Hp} (C : Cx E RX9 cX9_onlyBeing 8 (some .int) 4 0 0) (hC : Cl sh G) (h_l0 : sh[l0]? = some (0, 9)) (h_l1 : sh[l1]? = some (0, 8)) (hf : fX9_onlyBeing sh G l0 l1 l2 l3 = some z) (kr : RCi E cX9_onlyBeing ad sh (z.1) (z.2)) : VV E 0 0 (wq (xT E) ad G sh) 0 [(0, .ref (ad l0)), (1, .ref (ad l1)), (2, .int l2), (3, .int l3)] [] := by
  unfold fX9_onlyBeing at hf
  refine v_aload_n C 0 dX9_onlyBeing_0 rfl rfl ?_
  refine v_iload_n C 3 dX9_onlyBeing_1 rfl rfl ?_
  obtain ⟨G2, qr1, hf⟩ := bn hf
  refine v_callVv (As := [.int l3]) (rest := []) C (sX9_know h_l0 qr1) cs_X9_35 (by decide) h_l0 rfl hC rfl rfl rfl (Nat.le_of_ble_eq_true rfl) ⟨Nat.le_refl _, Nat.le_refl _⟩ dX9_onlyBeing_2 (fun hC => ?_)
  refine v_bipush (v := (-2)) C dX9_onlyBeing_5 (by decide) ?_
  refine v_istore (lv2 := [(4, .int (-2)), (0, .ref (ad l0)), (1, .ref (ad l1)), (2, .int l2), (3, .int l3)]) C dX9_onlyBeing_7 (by decide) rfl ?_
  refine v_iconst (v := 0) C dX9_onlyBeing_9 (by decide) ?_
  refine v_istore (lv2 := [(5, .int 0), (4, .int (-2)), (0, .ref (ad l0)), (1, .ref (ad l1)), (2, .int l2), (3, .int l3)]) C dX9_onlyBeing_10 (by decide) rfl ?_
  obtain ⟨r3, qr3, hf⟩ := bn hf
  refine v_sub [2, 3, 4, 1, 0] rfl ?_
  refine iter_sound (P := (fun s : Int32 × Int32 => VV E 0 0 (wq (xT E) ad (G2) sh) 12 [(0, .ref (ad l0)), (1, .ref (ad l1)), (2, .int (l2)), (4, .int (s.1)), (5, .int (s.2))] [])) (X := fun r => r = r3) (fun jsr3 jor3 hor3 jbr3 jxr3 => tX9_onlyBeing_S12 C hC h_l0 h_l1 hor3 (fun _ _ e => jbr3 _ e) ?_ ?_) fuel _ r3 qr3 rfl
  · intro x4 hu
    have e := jxr3 _ hu
    subst e
    have hf := sm_l hf
    have hf := bd_at hf (rfl : x4 = _)
    refine v_iload C 3 dX9_onlyBeing_96 rfl ?_
    cases hf
    exact kr _ _ dX9_onlyBeing_98 hC
  · intro  hu
    have e := jxr3 _ hu
    subst e
    have hf := sm_r hf
    refine v_bipush (v := (-2)) C dX9_onlyBeing_73 (by decide) ?_
    cases hf
    exact kr _ _ dX9_onlyBeing_75 hC
theorem sX9_onlyBeing {l : Launch} {sh : Sh} {G : Hp} {l0 : Nat} {l1 : Nat} {l2 : Int32} {l3 : Int32} {z : Int32 × Hp} (h_l0 : sh[l0]? = some (0, 9)) (h_l1 : sh[l1]? = some (0, 8)) (hf : fX9_onlyBeing sh G l0 l1 l2 l3 = some z) : MC l yX9_onlyBeing cX9_onlyBeing 8 (some .int) 4 0 0 sh sh G (z.2) (fun ad => [.ref (ad l0), .ref (ad l1), .int l2, .int l3]) (fun _ => some (.int z.1)) := by
  refine MC_of rfl rfl (fun _ => Nat.le_of_ble_eq_true rfl) (fun E ad C hl hnm hC hQ => ?_)
  exact tX9_onlyBeing C hC h_l0 h_l1 hf (fun pc lv hd hC => v_iret C hQ (fun _ _ => rfl) hC rfl hd)
def fX10_sure (sh : Sh) (G : Hp) (l0 : Nat) (l1 : Int32) (l2 : Int32) : Option (Int32 × Hp) := (fX10_isKnown sh G l0 l1 l2).bind fun r1 => if r1 = 0 then some ((-1), G) else (ldO sh G l0 8 9).bind fun a3 => (ldO sh G l0 2 8).bind fun a4 => bp (fX9_onlyBeing sh G a3 a4 l1 l2) fun r5 G6 => some (r5, G6)
set_option maxHeartbeats 4000000 in
theorem tX10_sure {E : EX} {ad : Nat → Nat} {sh : Sh} {G : Hp} {l0 : Nat} {l1 : Int32} {l2 : Int32} {z : Int32 × Hp} (C : Cx E RX10 cX10_sure 3 (some .int) 5 0 0) (hC : Cl sh G) (h_l0 : sh[l0]? = some (0, 10)) (hf : fX10_sure sh G l0 l1 l2 = some z) (kr : RCi E cX10_sure ad sh (z.1) (z.2)) : VV E 0 0 (wq (xT E) ad G sh) 0 [(0, .ref (ad l0)), (1, .int l1), (2, .int l2)] [] := by
  unfold fX10_sure at hf
  refine v_aload_n C 0 dX10_sure_0 rfl rfl ?_
  refine v_iload_n C 1 dX10_sure_1 rfl rfl ?_
  refine v_iload_n C 2 dX10_sure_2 rfl rfl ?_
  obtain ⟨r1, qr1, hf⟩ := bn hf
  refine v_callVi (As := [.int l1, .int l2]) (rest := []) C (sX10_isKnown h_l0 qr1) cs_X10_302 (by decide) h_l0 rfl hC rfl rfl rfl (Nat.le_of_ble_eq_true rfl) ⟨Nat.le_refl _, Nat.le_refl _⟩ dX10_sure_3 (fun hC => ?_)
  refine v_if_eq (tgt := 25) C dX10_sure_6 (by decide) (fun c2 => ?_) (fun c2 => ?_)
  · have hf := ip hf c2
    refine v_iconst (v := (-1)) C dX10_sure_25 (by decide) ?_
    cases hf
    exact kr _ _ dX10_sure_26 hC
  · have hf := im hf c2
    refine v_aload_n C 0 dX10_sure_9 rfl rfl ?_
    obtain ⟨a3, qa3, hf⟩ := bn hf
    refine v_getO C h_l0 fl_X10_58 qa3 dX10_sure_10 (fun h_a3 => ?_)
    refine v_aload_n C 0 dX10_sure_13 rfl rfl ?_
    obtain ⟨a4, qa4, hf⟩ := bn hf
    refine v_getO C h_l0 fl_X10_23 qa4 dX10_sure_14 (fun h_a4 => ?_)
    refine v_iload_n C 1 dX10_sure_17 rfl rfl ?_
    refine v_iload_n C 2 dX10_sure_18 rfl rfl ?_
    obtain ⟨r5, G6, qr5, hf⟩ := bpn hf
    refine v_callVi (As := [.ref (ad a4), .int l1, .int l2]) (rest := []) C (sX9_onlyBeing h_a3 h_a4 qr5) cs_X10_309 (by decide) h_a3 rfl hC rfl rfl rfl (Nat.le_of_ble_eq_true rfl) ⟨Nat.le_refl _, Nat.le_refl _⟩ dX10_sure_19 (fun hC => ?_)
    refine v_goto (tgt := 26) C dX10_sure_22 (by decide) ?_
    cases hf
    exact kr _ _ dX10_sure_26 hC
theorem sX10_sure {l : Launch} {sh : Sh} {G : Hp} {l0 : Nat} {l1 : Int32} {l2 : Int32} {z : Int32 × Hp} (h_l0 : sh[l0]? = some (0, 10)) (hf : fX10_sure sh G l0 l1 l2 = some z) : MC l yX10_sure cX10_sure 3 (some .int) 5 0 0 sh sh G (z.2) (fun ad => [.ref (ad l0), .int l1, .int l2]) (fun _ => some (.int z.1)) := by
  refine MC_of rfl rfl (fun _ => Nat.le_of_ble_eq_true rfl) (fun E ad C hl hnm hC hQ => ?_)
  exact tX10_sure C hC h_l0 hf (fun pc lv hd hC => v_iret C hQ (fun _ _ => rfl) hC rfl hd)
