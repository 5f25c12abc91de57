def fX11_mend (sh : Sh) (G : Hp) (l0 : Nat) (l1 : Int32) : Option (Int32 × Hp) := (fX11_isBridge sh G l0 l1).bind fun r1 => if r1 = 0 then some ((-1), G) else (fX11_copies sh G l0).bind fun G4 => (ldA sh G4 l0 59 1).bind fun a5 => (aI sh G4 a5 ((4 : Int32) + l1)).bind fun v6 => if v6 = 1 then (ldA sh G4 l0 59 1).bind fun a8 => (aI sh G4 a8 l1).bind fun v9 => if v9 = 99 then some ((-2), G4) else (ldA sh G4 l0 59 1).bind fun a11 => (aI sh G4 a11 22).bind fun v12 => bp (fX11_mendsNow sh G4 l0 l1) fun r13 G14 => (asI sh G14 a11 22 (v12 + r13)).bind fun G15 => (ldA sh G15 l0 59 1).bind fun a16 => (aI sh G15 a16 l1).bind fun v17 => (asI sh G15 a16 l1 (v17 + 1)).bind fun G18 => (fX11_records sh G18 l0).bind fun G20 => (ldA sh G20 l0 58 1).bind fun a21 => (aI sh G20 a21 l1).bind fun v22 => some (v22, G20) else some ((-2), G4)
set_option maxHeartbeats 4000000 in
theorem tX11_mend {E : EX} {ad : Nat → Nat} {sh : Sh} {G : Hp} {l0 : Nat} {l1 : Int32} {z : Int32 × Hp} (C : Cx E RX11 cX11_mend 2 (some .int) 4 0 0) (hC : Cl sh G) (h_l0 : sh[l0]? = some (0, 11)) (hf : fX11_mend sh G l0 l1 = some z) (kr : RCi E cX11_mend ad sh (z.1) (z.2)) : VV E 0 0 (wq (xT E) ad G sh) 0 [(0, .ref (ad l0)), (1, .int l1)] [] := by
  unfold fX11_mend at hf
  refine v_aload_n C 0 dX11_mend_0 rfl rfl ?_
  refine v_iload_n C 1 dX11_mend_1 rfl rfl ?_
  obtain ⟨r1, qr1, hf⟩ := bn hf
  refine v_callVi (As := [.int l1]) (rest := []) C (sX11_isBridge h_l0 qr1) cs_X11_431 (by decide) h_l0 rfl hC rfl rfl rfl (Nat.le_of_ble_eq_true rfl) ⟨Nat.le_refl _, Nat.le_refl _⟩ dX11_mend_2 (fun hC => ?_)
  refine v_if_ne (tgt := 10) C dX11_mend_5 (by decide) (fun c2 => ?_) (fun c2 => ?_)
  · have hf := im hf c2
    refine v_aload_n C 0 dX11_mend_10 rfl rfl ?_
    obtain ⟨G4, qr3, hf⟩ := bn hf
    refine v_callVv (As := []) (rest := []) C (sX11_copies h_l0 qr3) cs_X11_434 (by decide) h_l0 rfl hC rfl rfl rfl (Nat.le_of_ble_eq_true rfl) ⟨Nat.le_refl _, Nat.le_refl _⟩ dX11_mend_11 (fun hC => ?_)
    refine v_aload_n C 0 dX11_mend_14 rfl rfl ?_
    obtain ⟨a5, qa5, hf⟩ := bn hf
    refine v_getA C h_l0 fl_X11_137 qa5 dX11_mend_15 (fun h_a5 => ?_)
    refine v_iconst (v := 4) C dX11_mend_18 (by decide) ?_
    refine v_iload_n C 1 dX11_mend_19 rfl rfl ?_
    refine v_iadd C dX11_mend_20 ?_
    obtain ⟨v6, qv6, hf⟩ := bn hf
    refine v_iald C h_a5 qv6 dX11_mend_21 ?_
    refine v_iconst (v := 1) C dX11_mend_22 (by decide) ?_
    refine v_icmp_ne (tgt := 37) C dX11_mend_23 (by decide) (fun c7 => ?_) (fun c7 => ?_)
    · have hf := im hf c7
      refine v_bipush (v := (-2)) C dX11_mend_37 (by decide) ?_
      cases hf
      exact kr _ _ dX11_mend_39 hC
    · have hf := ip hf c7
      refine v_aload_n C 0 dX11_mend_26 rfl rfl ?_
      obtain ⟨a8, qa8, hf⟩ := bn hf
      refine v_getA C h_l0 fl_X11_137 qa8 dX11_mend_27 (fun h_a8 => ?_)
      refine v_iload_n C 1 dX11_mend_30 rfl rfl ?_
      obtain ⟨v9, qv9, hf⟩ := bn hf
      refine v_iald C h_a8 qv9 dX11_mend_31 ?_
      refine v_bipush (v := 99) C dX11_mend_32 (by decide) ?_
      refine v_icmp_ne (tgt := 40) C dX11_mend_34 (by decide) (fun c10 => ?_) (fun c10 => ?_)
      · have hf := im hf c10
        refine v_aload_n C 0 dX11_mend_40 rfl rfl ?_
        obtain ⟨a11, qa11, hf⟩ := bn hf
        refine v_getA C h_l0 fl_X11_137 qa11 dX11_mend_41 (fun h_a11 => ?_)
        refine v_bipush (v := 22) C dX11_mend_44 (by decide) ?_
        refine v_dup2 C dX11_mend_46 rfl rfl ?_
        obtain ⟨v12, qv12, hf⟩ := bn hf
        refine v_iald C h_a11 qv12 dX11_mend_47 ?_
        refine v_aload_n C 0 dX11_mend_48 rfl rfl ?_
        refine v_iload_n C 1 dX11_mend_49 rfl rfl ?_
        obtain ⟨r13, G14, qr13, hf⟩ := bpn hf
        refine v_callVi (As := [.int l1]) (rest := [.int v12, .int 22, .ref (ad a11)]) C (sX11_mendsNow h_l0 qr13) cs_X11_437 (by decide) h_l0 rfl hC rfl rfl rfl (Nat.le_of_ble_eq_true rfl) ⟨Nat.le_refl _, Nat.le_refl _⟩ dX11_mend_50 (fun hC => ?_)
        refine v_iadd C dX11_mend_53 ?_
        obtain ⟨G15, qG15, hf⟩ := bn hf
        refine v_iast C h_a11 qG15 hC dX11_mend_54 (fun hC => ?_)
        refine v_aload_n C 0 dX11_mend_55 rfl rfl ?_
        obtain ⟨a16, qa16, hf⟩ := bn hf
        refine v_getA C h_l0 fl_X11_137 qa16 dX11_mend_56 (fun h_a16 => ?_)
        refine v_iload_n C 1 dX11_mend_59 rfl rfl ?_
        refine v_dup2 C dX11_mend_60 rfl rfl ?_
        obtain ⟨v17, qv17, hf⟩ := bn hf
        refine v_iald C h_a16 qv17 dX11_mend_61 ?_
        refine v_iconst (v := 1) C dX11_mend_62 (by decide) ?_
        refine v_iadd C dX11_mend_63 ?_
        obtain ⟨G18, qG18, hf⟩ := bn hf
        refine v_iast C h_a16 qG18 hC dX11_mend_64 (fun hC => ?_)
        refine v_aload_n C 0 dX11_mend_65 rfl rfl ?_
        obtain ⟨G20, qr19, hf⟩ := bn hf
        refine v_callVv (As := []) (rest := []) C (sX11_records h_l0 qr19) cs_X11_458 (by decide) h_l0 rfl hC rfl rfl rfl (Nat.le_of_ble_eq_true rfl) ⟨Nat.le_refl _, Nat.le_refl _⟩ dX11_mend_66 (fun hC => ?_)
        refine v_aload_n C 0 dX11_mend_69 rfl rfl ?_
        obtain ⟨a21, qa21, hf⟩ := bn hf
        refine v_getA C h_l0 fl_X11_134 qa21 dX11_mend_70 (fun h_a21 => ?_)
        refine v_iload_n C 1 dX11_mend_73 rfl rfl ?_
        obtain ⟨v22, qv22, hf⟩ := bn hf
        refine v_iald C h_a21 qv22 dX11_mend_74 ?_
        cases hf
        exact kr _ _ dX11_mend_75 hC
      · have hf := ip hf c10
        refine v_bipush (v := (-2)) C dX11_mend_37 (by decide) ?_
        cases hf
        exact kr _ _ dX11_mend_39 hC
  · have hf := ip hf c2
    refine v_iconst (v := (-1)) C dX11_mend_8 (by decide) ?_
    cases hf
    exact kr _ _ dX11_mend_9 hC
theorem sX11_mend {l : Launch} {sh : Sh} {G : Hp} {l0 : Nat} {l1 : Int32} {z : Int32 × Hp} (h_l0 : sh[l0]? = some (0, 11)) (hf : fX11_mend sh G l0 l1 = some z) : MC l yX11_mend cX11_mend 2 (some .int) 4 0 0 sh sh G (z.2) (fun ad => [.ref (ad l0), .int l1]) (fun _ => some (.int z.1)) := by
  refine MC_of rfl rfl (fun _ => Nat.le_of_ble_eq_true rfl) (fun E ad C hl hnm hC hQ => ?_)
  exact tX11_mend C hC h_l0 hf (fun pc lv hd hC => v_iret C hQ (fun _ _ => rfl) hC rfl hd)
def fX11_yearGoes_S22 (sh : Sh) (l0 : Nat) (l1 : Int32) (G : Hp) (l2 : Int32) : Option ((Hp × Int32) ⊕ ((Hp))) := (ldA sh G l0 31 1).bind fun a1 => (aI sh G a1 (G.1 l0 18)).bind fun v2 => if v2 ≤ l2 then some (.inr G) else (ldA sh G l0 63 1).bind fun a4 => (ldA sh G l0 59 1).bind fun a5 => (aI sh G a5 ((4 : Int32) + l2)).bind fun v6 => if v6 = 1 then (ldA sh G l0 59 1).bind fun a12 => (aI sh G a12 l2).bind fun v13 => bp (fX11_wearsNow sh G l0 l2) fun r14 G15 => (fX11_held ((v13 - r14) - l1) 0 99).bind fun r16 => (asI sh G15 a4 l2 r16).bind fun G17 => bd ((l2 + 1) : Int32) fun x18 => some (.inl (G17, x18)) else (ldA sh G l0 59 1).bind fun a8 => (aI sh G a8 l2).bind fun v9 => (asI sh G a4 l2 v9).bind fun G10 => bd ((l2 + 1) : Int32) fun x11 => some (.inl (G10, x11))
set_option maxHeartbeats 4000000 in
theorem tX11_yearGoes_S22 {E : EX} {ad : Nat → Nat} {sh : Sh} {G : Hp} {l0 : Nat} {l1 : Int32} {l2 : Int32} {o : (Hp × Int32) ⊕ ((Hp))} (C : Cx E RX11 cX11_yearGoes 3 none 4 0 0) (hC : Cl sh G) (h_l0 : sh[l0]? = some (0, 11)) (hf : fX11_yearGoes_S22 sh l0 l1 G l2 = some o) (kb : ∀ (G2 : Hp) (b_l2 : Int32), o = .inl (G2, b_l2) → Cl sh G2 → VV E 0 0 (wq (xT E) ad G2 sh) 22 [(0, .ref (ad l0)), (1, .int l1), (2, .int b_l2)] []) (kx88 : ∀ (G2 : Hp), o = .inr G2 → Cl sh G2 → VV E 0 0 (wq (xT E) ad G2 sh) 88 [(0, .ref (ad l0)), (1, .int l1)] []) : VV E 0 0 (wq (xT E) ad G sh) 22 [(0, .ref (ad l0)), (1, .int l1), (2, .int l2)] [] := by
  unfold fX11_yearGoes_S22 at hf
  refine v_iload_n C 2 dX11_yearGoes_22 rfl rfl ?_
  refine v_aload_n C 0 dX11_yearGoes_23 rfl rfl ?_
  obtain ⟨a1, qa1, hf⟩ := bn hf
  refine v_getA C h_l0 fl_X11_70 qa1 dX11_yearGoes_24 (fun h_a1 => ?_)
  refine v_aload_n C 0 dX11_yearGoes_27 rfl rfl ?_
  refine v_getI C h_l0 fl_X11_257 dX11_yearGoes_28 ?_
  obtain ⟨v2, qv2, hf⟩ := bn hf
  refine v_iald C h_a1 qv2 dX11_yearGoes_31 ?_
  refine v_icmp_ge (tgt := 88) C dX11_yearGoes_32 (by decide) (fun c3 => ?_) (fun c3 => ?_)
  · have hf := ip hf c3
    cases hf
    refine v_sub [0, 1] rfl ?_
    exact kx88 _ rfl hC
  · have hf := im hf c3
    refine v_aload_n C 0 dX11_yearGoes_35 rfl rfl ?_
    obtain ⟨a4, qa4, hf⟩ := bn hf
    refine v_getA C h_l0 fl_X11_143 qa4 dX11_yearGoes_36 (fun h_a4 => ?_)
    refine v_iload_n C 2 dX11_yearGoes_39 rfl rfl ?_
    refine v_aload_n C 0 dX11_yearGoes_40 rfl rfl ?_
    obtain ⟨a5, qa5, hf⟩ := bn hf
    refine v_getA C h_l0 fl_X11_137 qa5 dX11_yearGoes_41 (fun h_a5 => ?_)
    refine v_iconst (v := 4) C dX11_yearGoes_44 (by decide) ?_
    refine v_iload_n C 2 dX11_yearGoes_45 rfl rfl ?_
    refine v_iadd C dX11_yearGoes_46 ?_
    obtain ⟨v6, qv6, hf⟩ := bn hf
    refine v_iald C h_a5 qv6 dX11_yearGoes_47 ?_
    refine v_iconst (v := 1) C dX11_yearGoes_48 (by decide) ?_
    refine v_icmp_ne (tgt := 75) C dX11_yearGoes_49 (by decide) (fun c7 => ?_) (fun c7 => ?_)
    · have hf := im hf c7
      refine v_aload_n C 0 dX11_yearGoes_75 rfl rfl ?_
      obtain ⟨a8, qa8, hf⟩ := bn hf
      refine v_getA C h_l0 fl_X11_137 qa8 dX11_yearGoes_76 (fun h_a8 => ?_)
      refine v_iload_n C 2 dX11_yearGoes_79 rfl rfl ?_
      obtain ⟨v9, qv9, hf⟩ := bn hf
      refine v_iald C h_a8 qv9 dX11_yearGoes_80 ?_
      obtain ⟨G10, qG10, hf⟩ := bn hf
      refine v_iast C h_a4 qG10 hC dX11_yearGoes_81 (fun hC => ?_)
      obtain ⟨x11, ex11⟩ : ∃ x : Int32, x = (l2 + 1) := ⟨_, rfl⟩
      have hf := bd_at hf ex11
      refine v_iinc (v := x11) (j := 2) (lv2 := [(2, .int x11), (0, .ref (ad l0)), (1, .int l1)]) C dX11_yearGoes_82 rfl (by rw [ex11]; rfl) (by decide) rfl ?_
      refine v_goto (tgt := 22) C dX11_yearGoes_85 (by decide) ?_
      cases hf
      refine v_sub [1, 2, 0] rfl ?_
      exact kb _ _ rfl hC
    · have hf := ip hf c7
      refine v_aload_n C 0 dX11_yearGoes_52 rfl rfl ?_
      obtain ⟨a12, qa12, hf⟩ := bn hf
      refine v_getA C h_l0 fl_X11_137 qa12 dX11_yearGoes_53 (fun h_a12 => ?_)
      refine v_iload_n C 2 dX11_yearGoes_56 rfl rfl ?_
      obtain ⟨v13, qv13, hf⟩ := bn hf
      refine v_iald C h_a12 qv13 dX11_yearGoes_57 ?_
      refine v_aload_n C 0 dX11_yearGoes_58 rfl rfl ?_
      refine v_iload_n C 2 dX11_yearGoes_59 rfl rfl ?_
      obtain ⟨r14, G15, qr14, hf⟩ := bpn hf
      refine v_callVi (As := [.int l2]) (rest := [.int v13, .int l2, .ref (ad a4)]) C (sX11_wearsNow h_l0 qr14) cs_X11_413 (by decide) h_l0 rfl hC rfl rfl rfl (Nat.le_of_ble_eq_true rfl) ⟨Nat.le_refl _, Nat.le_refl _⟩ dX11_yearGoes_60 (fun hC => ?_)
      refine v_isub C dX11_yearGoes_63 ?_
      refine v_iload_n C 1 dX11_yearGoes_64 rfl rfl ?_
      refine v_isub C dX11_yearGoes_65 ?_
      refine v_iconst (v := 0) C dX11_yearGoes_66 (by decide) ?_
      refine v_bipush (v := 99) C dX11_yearGoes_67 (by decide) ?_
      obtain ⟨r16, qr16, hf⟩ := bn hf
      refine v_callSi (As := [.int ((v13 - r14) - l1), .int 0, .int 99]) (rest := [.int l2, .ref (ad a4)]) C (sX11_held  qr16) cs_X11_399 (by decide) hC rfl rfl rfl (Nat.le_of_ble_eq_true rfl) ⟨Nat.le_refl _, Nat.le_refl _⟩ dX11_yearGoes_69 (fun hC => ?_)
      refine v_goto (tgt := 81) C dX11_yearGoes_72 (by decide) ?_
      obtain ⟨G17, qG17, hf⟩ := bn hf
      refine v_iast C h_a4 qG17 hC dX11_yearGoes_81 (fun hC => ?_)
      obtain ⟨x18, ex18⟩ : ∃ x : Int32, x = (l2 + 1) := ⟨_, rfl⟩
      have hf := bd_at hf ex18
      refine v_iinc (v := x18) (j := 2) (lv2 := [(2, .int x18), (0, .ref (ad l0)), (1, .int l1)]) C dX11_yearGoes_82 rfl (by rw [ex18]; rfl) (by decide) rfl ?_
      refine v_goto (tgt := 22) C dX11_yearGoes_85 (by decide) ?_
      cases hf
      refine v_sub [1, 2, 0] rfl ?_
      exact kb _ _ rfl hC
def fX11_yearGoes_S90 (sh : Sh) (l0 : Nat) (G : Hp) (l2 : Int32) : Option ((Hp × Int32) ⊕ ((Hp))) := (ldA sh G l0 31 1).bind fun a1 => (aI sh G a1 (G.1 l0 18)).bind fun v2 => if v2 ≤ l2 then some (.inr G) else (ldA sh G l0 59 1).bind fun a4 => (aI sh G a4 ((4 : Int32) + l2)).bind fun v5 => if v5 = 1 then (ldA sh G l0 59 1).bind fun a7 => (ldA sh G l0 63 1).bind fun a8 => (aI sh G a8 l2).bind fun v9 => (asI sh G a7 l2 v9).bind fun G10 => (ldA sh G10 l0 59 1).bind fun a11 => bd (((8 : Int32) + l2) : Int32) fun x12 => (aI sh G10 a11 x12).bind fun v13 => (asI sh G10 a11 x12 (v13 + 1)).bind fun G14 => (ldA sh G14 l0 59 1).bind fun a15 => (aI sh G14 a15 l2).bind fun v16 => if v16 = 0 then (ldA sh G14 l0 59 1).bind fun a19 => (asI sh G14 a19 ((4 : Int32) + l2) 2).bind fun G20 => bd ((l2 + 1) : Int32) fun x21 => some (.inl (G20, x21)) else bd ((l2 + 1) : Int32) fun x18 => some (.inl (G14, x18)) else bd ((l2 + 1) : Int32) fun x22 => some (.inl (G, x22))
set_option maxHeartbeats 4000000 in
theorem tX11_yearGoes_S90 {E : EX} {ad : Nat → Nat} {sh : Sh} {G : Hp} {l0 : Nat} {l2 : Int32} {o : (Hp × Int32) ⊕ ((Hp))} (C : Cx E RX11 cX11_yearGoes 3 none 4 0 0) (hC : Cl sh G) (h_l0 : sh[l0]? = some (0, 11)) (hf : fX11_yearGoes_S90 sh l0 G l2 = some o) (kb : ∀ (G2 : Hp) (b_l2 : Int32), o = .inl (G2, b_l2) → Cl sh G2 → VV E 0 0 (wq (xT E) ad G2 sh) 90 [(0, .ref (ad l0)), (2, .int b_l2)] []) (kx167 : ∀ (G2 : Hp), o = .inr G2 → Cl sh G2 → VV E 0 0 (wq (xT E) ad G2 sh) 167 [(0, .ref (ad l0))] []) : VV E 0 0 (wq (xT E) ad G sh) 90 [(0, .ref (ad l0)), (2, .int l2)] [] := by
  unfold fX11_yearGoes_S90 at hf
  refine v_iload_n C 1 dX11_yearGoes_90 rfl rfl ?_
  refine v_aload_n C 0 dX11_yearGoes_91 rfl rfl ?_
  obtain ⟨a1, qa1, hf⟩ := bn hf
  refine v_getA C h_l0 fl_X11_70 qa1 dX11_yearGoes_92 (fun h_a1 => ?_)
  refine v_aload_n C 0 dX11_yearGoes_95 rfl rfl ?_
  refine v_getI C h_l0 fl_X11_257 dX11_yearGoes_96 ?_
  obtain ⟨v2, qv2, hf⟩ := bn hf
  refine v_iald C h_a1 qv2 dX11_yearGoes_99 ?_
  refine v_icmp_ge (tgt := 167) C dX11_yearGoes_100 (by decide) (fun c3 => ?_) (fun c3 => ?_)
  · have hf := ip hf c3
    cases hf
    refine v_sub [0] rfl ?_
    exact kx167 _ rfl hC
  · have hf := im hf c3
    refine v_aload_n C 0 dX11_yearGoes_103 rfl rfl ?_
    obtain ⟨a4, qa4, hf⟩ := bn hf
    refine v_getA C h_l0 fl_X11_137 qa4 dX11_yearGoes_104 (fun h_a4 => ?_)
    refine v_iconst (v := 4) C dX11_yearGoes_107 (by decide) ?_
    refine v_iload_n C 1 dX11_yearGoes_108 rfl rfl ?_
    refine v_iadd C dX11_yearGoes_109 ?_
    obtain ⟨v5, qv5, hf⟩ := bn hf
    refine v_iald C h_a4 qv5 dX11_yearGoes_110 ?_
    refine v_iconst (v := 1) C dX11_yearGoes_111 (by decide) ?_
    refine v_icmp_eq (tgt := 118) C dX11_yearGoes_112 (by decide) (fun c6 => ?_) (fun c6 => ?_)
    · have hf := ip hf c6
      refine v_aload_n C 0 dX11_yearGoes_118 rfl rfl ?_
      obtain ⟨a7, qa7, hf⟩ := bn hf
      refine v_getA C h_l0 fl_X11_137 qa7 dX11_yearGoes_119 (fun h_a7 => ?_)
      refine v_iload_n C 1 dX11_yearGoes_122 rfl rfl ?_
      refine v_aload_n C 0 dX11_yearGoes_123 rfl rfl ?_
      obtain ⟨a8, qa8, hf⟩ := bn hf
      refine v_getA C h_l0 fl_X11_143 qa8 dX11_yearGoes_124 (fun h_a8 => ?_)
      refine v_iload_n C 1 dX11_yearGoes_127 rfl rfl ?_
      obtain ⟨v9, qv9, hf⟩ := bn hf
      refine v_iald C h_a8 qv9 dX11_yearGoes_128 ?_
      obtain ⟨G10, qG10, hf⟩ := bn hf
      refine v_iast C h_a7 qG10 hC dX11_yearGoes_129 (fun hC => ?_)
      refine v_aload_n C 0 dX11_yearGoes_130 rfl rfl ?_
      obtain ⟨a11, qa11, hf⟩ := bn hf
      refine v_getA C h_l0 fl_X11_137 qa11 dX11_yearGoes_131 (fun h_a11 => ?_)
      refine v_bipush (v := 8) C dX11_yearGoes_134 (by decide) ?_
      refine v_iload_n C 1 dX11_yearGoes_136 rfl rfl ?_
      refine v_iadd C dX11_yearGoes_137 ?_
      refine v_topi (fun x12 ex12 => ?_)
      have hf := bd_at hf ex12
      refine v_dup2 C dX11_yearGoes_138 rfl rfl ?_
      obtain ⟨v13, qv13, hf⟩ := bn hf
      refine v_iald C h_a11 qv13 dX11_yearGoes_139 ?_
      refine v_iconst (v := 1) C dX11_yearGoes_140 (by decide) ?_
      refine v_iadd C dX11_yearGoes_141 ?_
      obtain ⟨G14, qG14, hf⟩ := bn hf
      refine v_iast C h_a11 qG14 hC dX11_yearGoes_142 (fun hC => ?_)
      refine v_aload_n C 0 dX11_yearGoes_143 rfl rfl ?_
      obtain ⟨a15, qa15, hf⟩ := bn hf
      refine v_getA C h_l0 fl_X11_137 qa15 dX11_yearGoes_144 (fun h_a15 => ?_)
      refine v_iload_n C 1 dX11_yearGoes_147 rfl rfl ?_
      obtain ⟨v16, qv16, hf⟩ := bn hf
      refine v_iald C h_a15 qv16 dX11_yearGoes_148 ?_
      refine v_if_ne (tgt := 161) C dX11_yearGoes_149 (by decide) (fun c17 => ?_) (fun c17 => ?_)
      · have hf := im hf c17
        obtain ⟨x18, ex18⟩ : ∃ x : Int32, x = (l2 + 1) := ⟨_, rfl⟩
        have hf := bd_at hf ex18
        refine v_iinc (v := x18) (j := 1) (lv2 := [(2, .int x18), (0, .ref (ad l0))]) C dX11_yearGoes_161 rfl (by rw [ex18]; rfl) (by decide) rfl ?_
        refine v_goto (tgt := 90) C dX11_yearGoes_164 (by decide) ?_
        cases hf
        refine v_sub [1, 0] rfl ?_
        exact kb _ _ rfl hC
      · have hf := ip hf c17
        refine v_aload_n C 0 dX11_yearGoes_152 rfl rfl ?_
        obtain ⟨a19, qa19, hf⟩ := bn hf
        refine v_getA C h_l0 fl_X11_137 qa19 dX11_yearGoes_153 (fun h_a19 => ?_)
        refine v_iconst (v := 4) C dX11_yearGoes_156 (by decide) ?_
        refine v_iload_n C 1 dX11_yearGoes_157 rfl rfl ?_
        refine v_iadd C dX11_yearGoes_158 ?_
        refine v_iconst (v := 2) C dX11_yearGoes_159 (by decide) ?_
        obtain ⟨G20, qG20, hf⟩ := bn hf
        refine v_iast C h_a19 qG20 hC dX11_yearGoes_160 (fun hC => ?_)
        obtain ⟨x21, ex21⟩ : ∃ x : Int32, x = (l2 + 1) := ⟨_, rfl⟩
        have hf := bd_at hf ex21
        refine v_iinc (v := x21) (j := 1) (lv2 := [(2, .int x21), (0, .ref (ad l0))]) C dX11_yearGoes_161 rfl (by rw [ex21]; rfl) (by decide) rfl ?_
        refine v_goto (tgt := 90) C dX11_yearGoes_164 (by decide) ?_
        cases hf
        refine v_sub [1, 0] rfl ?_
        exact kb _ _ rfl hC
    · have hf := im hf c6
      refine v_goto (tgt := 161) C dX11_yearGoes_115 (by decide) ?_
      obtain ⟨x22, ex22⟩ : ∃ x : Int32, x = (l2 + 1) := ⟨_, rfl⟩
      have hf := bd_at hf ex22
      refine v_iinc (v := x22) (j := 1) (lv2 := [(2, .int x22), (0, .ref (ad l0))]) C dX11_yearGoes_161 rfl (by rw [ex22]; rfl) (by decide) rfl ?_
      refine v_goto (tgt := 90) C dX11_yearGoes_164 (by decide) ?_
      cases hf
      refine v_sub [1, 0] rfl ?_
      exact kb _ _ rfl hC
def fX11_yearGoes_J19 (sh : Sh) (G : Hp) (l0 : Nat) (s0 : Int32) : Option (Hp) := (iter (fun s : Hp × Int32 => fX11_yearGoes_S22 sh l0 s0 s.1 s.2) fuel ((G, 0) : Hp × Int32)).bind (fun u9 => bd u9 fun G2 => (iter (fun s : Hp × Int32 => fX11_yearGoes_S90 sh l0 s.1 s.2) fuel ((G2, 0) : Hp × Int32)).bind (fun u8 => bd u8 fun G4 => (ldA sh G4 l0 59 1).bind fun a5 => (aI sh G4 a5 23).bind fun v6 => (asI sh G4 a5 23 (v6 + 1)).bind fun G7 => some G7))
set_option maxHeartbeats 4000000 in
theorem tX11_yearGoes_J19 {E : EX} {ad : Nat → Nat} {sh : Sh} {G : Hp} {l0 : Nat} {s0 : Int32} {z : Hp} (C : Cx E RX11 cX11_yearGoes 3 none 4 0 0) (hC : Cl sh G) (h_l0 : sh[l0]? = some (0, 11)) (hf : fX11_yearGoes_J19 sh G l0 s0 = some z) (kr : RCv E cX11_yearGoes ad sh z) : VV E 0 0 (wq (xT E) ad G sh) 19 [(0, .ref (ad l0))] [.int s0] := by
  unfold fX11_yearGoes_J19 at hf
  refine v_istore_n (lv2 := [(1, .int s0), (0, .ref (ad l0))]) C dX11_yearGoes_19 rfl (by decide) rfl ?_
  refine v_iconst (v := 0) C dX11_yearGoes_20 (by decide) ?_
  refine v_istore_n (lv2 := [(2, .int 0), (1, .int s0), (0, .ref (ad l0))]) C dX11_yearGoes_21 rfl (by decide) rfl ?_
  obtain ⟨r1, qr1, hf⟩ := bn hf
  refine v_sub [2, 1, 0] rfl ?_
  refine iter_sound (P := (fun s : Hp × Int32 => Cl sh (s.1) → VV E 0 0 (wq (xT E) ad (s.1) sh) 22 [(0, .ref (ad l0)), (1, .int (s0)), (2, .int (s.2))] [])) (X := fun r => r = r1) (fun jsr1 jor1 hor1 jbr1 jxr1 hC => tX11_yearGoes_S22 C hC h_l0 hor1 (fun _ _ e => jbr1 _ e) ?_) fuel _ r1 qr1 rfl hC
  · intro G2 hu hC
    have e := jxr1 _ hu
    subst e
    have hf := bd_at hf (rfl : G2 = _)
    refine v_iconst (v := 0) C dX11_yearGoes_88 (by decide) ?_
    refine v_istore_n (lv2 := [(2, .int 0), (0, .ref (ad l0)), (1, .int s0)]) C dX11_yearGoes_89 rfl (by decide) rfl ?_
    obtain ⟨r3, qr3, hf⟩ := bn hf
    refine v_sub [1, 0] rfl ?_
    refine iter_sound (P := (fun s : Hp × Int32 => Cl sh (s.1) → VV E 0 0 (wq (xT E) ad (s.1) sh) 90 [(0, .ref (ad l0)), (2, .int (s.2))] [])) (X := fun r => r = r3) (fun jsr3 jor3 hor3 jbr3 jxr3 hC => tX11_yearGoes_S90 C hC h_l0 hor3 (fun _ _ e => jbr3 _ e) ?_) fuel _ r3 qr3 rfl hC
    · intro G4 hu hC
      have e := jxr3 _ hu
      subst e
      have hf := bd_at hf (rfl : G4 = _)
      refine v_aload_n C 0 dX11_yearGoes_167 rfl rfl ?_
      obtain ⟨a5, qa5, hf⟩ := bn hf
      refine v_getA C h_l0 fl_X11_137 qa5 dX11_yearGoes_168 (fun h_a5 => ?_)
      refine v_bipush (v := 23) C dX11_yearGoes_171 (by decide) ?_
      refine v_dup2 C dX11_yearGoes_173 rfl rfl ?_
      obtain ⟨v6, qv6, hf⟩ := bn hf
      refine v_iald C h_a5 qv6 dX11_yearGoes_174 ?_
      refine v_iconst (v := 1) C dX11_yearGoes_175 (by decide) ?_
      refine v_iadd C dX11_yearGoes_176 ?_
      obtain ⟨G7, qG7, hf⟩ := bn hf
      refine v_iast C h_a5 qG7 hC dX11_yearGoes_177 (fun hC => ?_)
      cases hf
      exact kr _ _ dX11_yearGoes_178 hC
def fX11_yearGoes_J18 (sh : Sh) (G : Hp) (l0 : Nat) : Option (Hp) := fX11_yearGoes_J19 sh G l0 0
set_option maxHeartbeats 4000000 in
theorem tX11_yearGoes_J18 {E : EX} {ad : Nat → Nat} {sh : Sh} {G : Hp} {l0 : Nat} {z : Hp} (C : Cx E RX11 cX11_yearGoes 3 none 4 0 0) (hC : Cl sh G) (h_l0 : sh[l0]? = some (0, 11)) (hf : fX11_yearGoes_J18 sh G l0 = some z) (kr : RCv E cX11_yearGoes ad sh z) : VV E 0 0 (wq (xT E) ad G sh) 18 [(0, .ref (ad l0))] [] := by
  unfold fX11_yearGoes_J18 at hf
  refine v_iconst (v := 0) C dX11_yearGoes_18 (by decide) ?_
  refine v_sub [0] rfl ?_
  exact tX11_yearGoes_J19 C hC h_l0 hf kr
def fX11_yearGoes (sh : Sh) (G : Hp) (l0 : Nat) : Option (Hp) := if (G.1 l0 61) = 0 then (fX11_isStorm sh G l0).bind fun r2 => if r2 = 0 then fX11_yearGoes_J18 sh G l0 else fX11_yearGoes_J19 sh G l0 1 else fX11_yearGoes_J18 sh G l0
set_option maxHeartbeats 4000000 in
theorem tX11_yearGoes {E : EX} {ad : Nat → Nat} {sh : Sh} {G : Hp} {l0 : Nat} {z : Hp} (C : Cx E RX11 cX11_yearGoes 3 none 4 0 0) (hC : Cl sh G) (h_l0 : sh[l0]? = some (0, 11)) (hf : fX11_yearGoes sh G l0 = some z) (kr : RCv E cX11_yearGoes ad sh z) : VV E 0 0 (wq (xT E) ad G sh) 0 [(0, .ref (ad l0))] [] := by
  unfold fX11_yearGoes at hf
  refine v_aload_n C 0 dX11_yearGoes_0 rfl rfl ?_
  refine v_getI C h_l0 fl_X11_377 dX11_yearGoes_1 ?_
  refine v_if_ne (tgt := 18) C dX11_yearGoes_4 (by decide) (fun c1 => ?_) (fun c1 => ?_)
  · have hf := im hf c1
    refine v_sub [0] rfl ?_
    exact tX11_yearGoes_J18 C hC h_l0 hf kr
  · have hf := ip hf c1
    refine v_aload_n C 0 dX11_yearGoes_7 rfl rfl ?_
    obtain ⟨r2, qr2, hf⟩ := bn hf
    refine v_callVi (As := []) (rest := []) C (sX11_isStorm h_l0 qr2) cs_X11_409 (by decide) h_l0 rfl hC rfl rfl rfl (Nat.le_of_ble_eq_true rfl) ⟨Nat.le_refl _, Nat.le_refl _⟩ dX11_yearGoes_8 (fun hC => ?_)
    refine v_if_eq (tgt := 18) C dX11_yearGoes_11 (by decide) (fun c3 => ?_) (fun c3 => ?_)
    · have hf := ip hf c3
      refine v_sub [0] rfl ?_
      exact tX11_yearGoes_J18 C hC h_l0 hf kr
    · have hf := im hf c3
      refine v_iconst (v := 1) C dX11_yearGoes_14 (by decide) ?_
      refine v_goto (tgt := 19) C dX11_yearGoes_15 (by decide) ?_
      refine v_sub [0] rfl ?_
      exact tX11_yearGoes_J19 C hC h_l0 hf kr
theorem sX11_yearGoes {l : Launch} {sh : Sh} {G : Hp} {l0 : Nat} {z : Hp} (h_l0 : sh[l0]? = some (0, 11)) (hf : fX11_yearGoes sh G l0 = some z) : MC l yX11_yearGoes cX11_yearGoes 3 none 4 0 0 sh sh G z (fun ad => [.ref (ad l0)]) (fun _ => none) := by
  refine MC_of rfl rfl (fun _ => Nat.le_of_ble_eq_true rfl) (fun E ad C hl hnm hC hQ => ?_)
  exact tX11_yearGoes C hC h_l0 hf (fun pc lv hd hC => v_vret C hQ (fun _ _ => rfl) hC rfl hd)
def fX11_standsFor_S7 (sh : Sh) (l0 : Nat) (l1 : Int32) (G : Hp) (l2 : Int32) : Option ((Hp × Int32) ⊕ ((Hp) ⊕ (Hp × Int32))) := if 200 < l2 then some (.inr (.inl G)) else (fX11_yearGoes sh G l0).bind fun G3 => (ldA sh G3 l0 59 1).bind fun a4 => (aI sh G3 a4 ((4 : Int32) + l1)).bind fun v5 => if v5 = 2 then some (.inr (.inr (G3, l2))) else bd ((l2 + 1) : Int32) fun x7 => some (.inl (G3, x7))
set_option maxHeartbeats 4000000 in
theorem tX11_standsFor_S7 {E : EX} {ad : Nat → Nat} {sh : Sh} {G : Hp} {l0 : Nat} {l1 : Int32} {l2 : Int32} {o : (Hp × Int32) ⊕ ((Hp) ⊕ (Hp × Int32))} (C : Cx E RX11 cX11_standsFor 3 (some .int) 5 0 0) (hC : Cl sh G) (h_l0 : sh[l0]? = some (0, 11)) (hf : fX11_standsFor_S7 sh l0 l1 G l2 = some o) (kb : ∀ (G2 : Hp) (b_l2 : Int32), o = .inl (G2, b_l2) → Cl sh G2 → VV E 0 0 (wq (xT E) ad G2 sh) 7 [(0, .ref (ad l0)), (1, .int l1), (2, .int b_l2)] []) (kx38 : ∀ (G2 : Hp), o = .inr (.inl G2) → Cl sh G2 → VV E 0 0 (wq (xT E) ad G2 sh) 38 [(0, .ref (ad l0)), (1, .int l1)] []) (kx30 : ∀ (G2 : Hp) (b_l2 : Int32), o = .inr (.inr (G2, b_l2)) → Cl sh G2 → VV E 0 0 (wq (xT E) ad G2 sh) 30 [(0, .ref (ad l0)), (1, .int l1), (2, .int b_l2)] []) : VV E 0 0 (wq (xT E) ad G sh) 7 [(0, .ref (ad l0)), (1, .int l1), (2, .int l2)] [] := by
  unfold fX11_standsFor_S7 at hf
  refine v_iload_n C 2 dX11_standsFor_7 rfl rfl ?_
  refine v_sipush (v := 200) C dX11_standsFor_8 (by decide) ?_
  refine v_icmp_gt (tgt := 38) C dX11_standsFor_11 (by decide) (fun c1 => ?_) (fun c1 => ?_)
  · have hf := ip hf c1
    cases hf
    refine v_sub [0, 1] rfl ?_
    exact kx38 _ rfl hC
  · have hf := im hf c1
    refine v_aload_n C 0 dX11_standsFor_14 rfl rfl ?_
    obtain ⟨G3, qr2, hf⟩ := bn hf
    refine v_callVv (As := []) (rest := []) C (sX11_yearGoes h_l0 qr2) cs_X11_416 (by decide) h_l0 rfl hC rfl rfl rfl (Nat.le_of_ble_eq_true rfl) ⟨Nat.le_refl _, Nat.le_refl _⟩ dX11_standsFor_15 (fun hC => ?_)
    refine v_aload_n C 0 dX11_standsFor_18 rfl rfl ?_
    obtain ⟨a4, qa4, hf⟩ := bn hf
    refine v_getA C h_l0 fl_X11_137 qa4 dX11_standsFor_19 (fun h_a4 => ?_)
    refine v_iconst (v := 4) C dX11_standsFor_22 (by decide) ?_
    refine v_iload_n C 1 dX11_standsFor_23 rfl rfl ?_
    refine v_iadd C dX11_standsFor_24 ?_
    obtain ⟨v5, qv5, hf⟩ := bn hf
    refine v_iald C h_a4 qv5 dX11_standsFor_25 ?_
    refine v_iconst (v := 2) C dX11_standsFor_26 (by decide) ?_
    refine v_icmp_ne (tgt := 32) C dX11_standsFor_27 (by decide) (fun c6 => ?_) (fun c6 => ?_)
    · have hf := im hf c6
      obtain ⟨x7, ex7⟩ : ∃ x : Int32, x = (l2 + 1) := ⟨_, rfl⟩
      have hf := bd_at hf ex7
      refine v_iinc (v := x7) (j := 2) (lv2 := [(2, .int x7), (0, .ref (ad l0)), (1, .int l1)]) C dX11_standsFor_32 rfl (by rw [ex7]; rfl) (by decide) rfl ?_
      refine v_goto (tgt := 7) C dX11_standsFor_35 (by decide) ?_
      cases hf
      refine v_sub [1, 2, 0] rfl ?_
      exact kb _ _ rfl hC
    · have hf := ip hf c6
      cases hf
      refine v_sub [0, 1, 2] rfl ?_
      exact kx30 _ _ rfl hC
def fX11_standsFor (sh : Sh) (G : Hp) (l0 : Nat) (l1 : Int32) : Option (Int32 × Hp) := bd (sI G l0 61 1) fun G1 => (iter (fun s : Hp × Int32 => fX11_standsFor_S7 sh l0 l1 s.1 s.2) fuel ((G1, 1) : Hp × Int32)).bind (Sum.elim (fun u4 => bd u4 fun G3 => some (201, G3)) (fun u7 => bd u7.1 fun G5 => bd u7.2 fun x6 => some (x6, G5)))
set_option maxHeartbeats 4000000 in
theorem tX11_standsFor {E : EX} {ad : Nat → Nat} {sh : Sh} {G : Hp} {l0 : Nat} {l1 : Int32} {z : Int32 × Hp} (C : Cx E RX11 cX11_standsFor 3 (some .int) 5 0 0) (hC : Cl sh G) (h_l0 : sh[l0]? = some (0, 11)) (hf : fX11_standsFor sh G l0 l1 = some z) (kr : RCi E cX11_standsFor ad sh (z.1) (z.2)) : VV E 0 0 (wq (xT E) ad G sh) 0 [(0, .ref (ad l0)), (1, .int l1)] [] := by
  unfold fX11_standsFor at hf
  refine v_aload_n C 0 dX11_standsFor_0 rfl rfl ?_
  refine v_iconst (v := 1) C dX11_standsFor_1 (by decide) ?_
  refine v_putZ C h_l0 fp_X11_377 (Or.inr rfl) dX11_standsFor_2 (fun G1 eG1 => ?_)
  have hf := bd_at hf eG1
  have hC : Cl sh G1 := by rw [eG1]; exact hC
  refine v_iconst (v := 1) C dX11_standsFor_5 (by decide) ?_
  refine v_istore_n (lv2 := [(2, .int 1), (0, .ref (ad l0)), (1, .int l1)]) C dX11_standsFor_6 rfl (by decide) rfl ?_
  obtain ⟨r2, qr2, hf⟩ := bn hf
  refine v_sub [1, 2, 0] rfl ?_
  refine iter_sound (P := (fun s : Hp × Int32 => Cl sh (s.1) → VV E 0 0 (wq (xT E) ad (s.1) sh) 7 [(0, .ref (ad l0)), (1, .int (l1)), (2, .int (s.2))] [])) (X := fun r => r = r2) (fun jsr2 jor2 hor2 jbr2 jxr2 hC => tX11_standsFor_S7 C hC h_l0 hor2 (fun _ _ e => jbr2 _ e) ?_ ?_) fuel _ r2 qr2 rfl hC
  · intro G3 hu hC
    have e := jxr2 _ hu
    subst e
    have hf := sm_l hf
    have hf := bd_at hf (rfl : G3 = _)
    refine v_sipush (v := 201) C dX11_standsFor_38 (by decide) ?_
    cases hf
    exact kr _ _ dX11_standsFor_41 hC
  · intro G5 x6 hu hC
    have e := jxr2 _ hu
    subst e
    have hf := sm_r hf
    have hf := bd_at hf (rfl : G5 = _)
    have hf := bd_at hf (rfl : x6 = _)
    refine v_iload_n C 2 dX11_standsFor_30 rfl rfl ?_
    cases hf
    exact kr _ _ dX11_standsFor_31 hC
theorem sX11_standsFor {l : Launch} {sh : Sh} {G : Hp} {l0 : Nat} {l1 : Int32} {z : Int32 × Hp} (h_l0 : sh[l0]? = some (0, 11)) (hf : fX11_standsFor sh G l0 l1 = some z) : MC l yX11_standsFor cX11_standsFor 3 (some .int) 5 0 0 sh sh G (z.2) (fun ad => [.ref (ad l0), .int l1]) (fun _ => some (.int z.1)) := by
  refine MC_of rfl rfl (fun _ => Nat.le_of_ble_eq_true rfl) (fun E ad C hl hnm hC hQ => ?_)
  exact tX11_standsFor C hC h_l0 hf (fun pc lv hd hC => v_iret C hQ (fun _ _ => rfl) hC rfl hd)
def fX11_mendFirst_J127L19 (sh : Sh) (G : Hp) (l0 : Nat) (l1 : Int32) (l2 : Int32) (l3 : Int32) (l4 : Int32) (s0 : Int32) : Option ((Hp × Int32 × Int32 × Int32) ⊕ ((Hp × Int32 × Int32))) := if l3 < s0 then bd ((l4 + 1) : Int32) fun x2 => some (.inl (G, l4, s0, x2)) else bd ((l4 + 1) : Int32) fun x3 => some (.inl (G, l2, l3, x3))
set_option maxHeartbeats 4000000 in
theorem tX11_mendFirst_J127L19 {E : EX} {ad : Nat → Nat} {sh : Sh} {G : Hp} {l0 : Nat} {l1 : Int32} {l2 : Int32} {l3 : Int32} {l4 : Int32} {s0 : Int32} {o : (Hp × Int32 × Int32 × Int32) ⊕ ((Hp × Int32 × Int32))} (C : Cx E RX11 cX11_mendFirst 8 (some .int) 6 0 0) (hC : Cl sh G) (h_l0 : sh[l0]? = some (0, 11)) (hf : fX11_mendFirst_J127L19 sh G l0 l1 l2 l3 l4 s0 = some o) (kb : ∀ (G2 : Hp) (b_l2 : Int32) (b_l3 : Int32) (b_l4 : Int32), o = .inl (G2, b_l2, b_l3, b_l4) → Cl sh G2 → VV E 0 0 (wq (xT E) ad G2 sh) 19 [(0, .ref (ad l0)), (1, .int l1), (2, .int b_l2), (3, .int b_l3), (4, .int b_l4)] []) (kx150 : ∀ (G2 : Hp) (b_l2 : Int32) (b_l3 : Int32), o = .inr (G2, b_l2, b_l3) → Cl sh G2 → VV E 0 0 (wq (xT E) ad G2 sh) 150 [(0, .ref (ad l0)), (1, .int l1), (2, .int b_l2), (3, .int b_l3)] []) : VV E 0 0 (wq (xT E) ad G sh) 127 [(0, .ref (ad l0)), (1, .int l1), (2, .int l2), (3, .int l3), (4, .int l4)] [.int s0] := by
  unfold fX11_mendFirst_J127L19 at hf
  refine v_istore (lv2 := [(7, .int s0), (0, .ref (ad l0)), (1, .int l1), (2, .int l2), (3, .int l3), (4, .int l4)]) C dX11_mendFirst_127 (by decide) rfl ?_
  refine v_iload C 0 dX11_mendFirst_129 rfl ?_
  refine v_iload_n C 4 dX11_mendFirst_131 rfl rfl ?_
  refine v_icmp_gt (tgt := 138) C dX11_mendFirst_132 (by decide) (fun c1 => ?_) (fun c1 => ?_)
  · have hf := ip hf c1
    refine v_iload C 5 dX11_mendFirst_138 rfl ?_
    refine v_istore_n (lv2 := [(2, .int l4), (7, .int s0), (0, .ref (ad l0)), (1, .int l1), (3, .int l3), (4, .int l4)]) C dX11_mendFirst_140 rfl (by decide) rfl ?_
    refine v_iload C 1 dX11_mendFirst_141 rfl ?_
    refine v_istore_n (lv2 := [(3, .int s0), (2, .int l4), (7, .int s0), (0, .ref (ad l0)), (1, .int l1), (4, .int l4)]) C dX11_mendFirst_143 rfl (by decide) rfl ?_
    obtain ⟨x2, ex2⟩ : ∃ x : Int32, x = (l4 + 1) := ⟨_, rfl⟩
    have hf := bd_at hf ex2
    refine v_iinc (v := x2) (j := 5) (lv2 := [(4, .int x2), (3, .int s0), (2, .int l4), (7, .int s0), (0, .ref (ad l0)), (1, .int l1)]) C dX11_mendFirst_144 rfl (by rw [ex2]; rfl) (by decide) rfl ?_
    refine v_goto (tgt := 19) C dX11_mendFirst_147 (by decide) ?_
    cases hf
    refine v_sub [4, 5, 2, 1, 0] rfl ?_
    exact kb _ _ _ _ rfl hC
  · have hf := im hf c1
    refine v_goto (tgt := 144) C dX11_mendFirst_135 (by decide) ?_
    obtain ⟨x3, ex3⟩ : ∃ x : Int32, x = (l4 + 1) := ⟨_, rfl⟩
    have hf := bd_at hf ex3
    refine v_iinc (v := x3) (j := 5) (lv2 := [(4, .int x3), (7, .int s0), (0, .ref (ad l0)), (1, .int l1), (2, .int l2), (3, .int l3)]) C dX11_mendFirst_144 rfl (by rw [ex3]; rfl) (by decide) rfl ?_
    refine v_goto (tgt := 19) C dX11_mendFirst_147 (by decide) ?_
    cases hf
    refine v_sub [2, 3, 4, 5, 0] rfl ?_
    exact kb _ _ _ _ rfl hC
def fX11_mendFirst_S19 (sh : Sh) (l0 : Nat) (l1 : Int32) (G : Hp) (l2 : Int32) (l3 : Int32) (l4 : Int32) : Option ((Hp × Int32 × Int32 × Int32) ⊕ ((Hp × Int32 × Int32))) := (ldA sh G l0 31 1).bind fun a1 => (aI sh G a1 (G.1 l0 18)).bind fun v2 => if v2 ≤ l4 then some (.inr (G, l2, l3)) else (ldA sh G l0 58 1).bind fun a4 => (aI sh G a4 ((4 : Int32) + l4)).bind fun v5 => if v5 = 1 then (ldA sh G l0 58 1).bind fun a8 => (aI sh G a8 l4).bind fun v9 => if v9 = 99 then bd ((l4 + 1) : Int32) fun x24 => some (.inl (G, l2, l3, x24)) else (fX11_copies sh G l0).bind fun G12 => bp (fX11_standsFor sh G12 l0 l4) fun r13 G14 => (fX11_copies sh G14 l0).bind fun G16 => (ldA sh G16 l0 59 1).bind fun a17 => (aI sh G16 a17 l4).bind fun v18 => (asI sh G16 a17 l4 (v18 + 1)).bind fun G19 => bp (fX11_standsFor sh G19 l0 l4) fun r20 G21 => if r13 = 201 then fX11_mendFirst_J127L19 sh G21 l0 l1 l2 l3 l4 0 else if r20 = 201 then fX11_mendFirst_J127L19 sh G21 l0 l1 l2 l3 l4 999 else fX11_mendFirst_J127L19 sh G21 l0 l1 l2 l3 l4 (r20 - r13) else bd ((l4 + 1) : Int32) fun x7 => some (.inl (G, l2, l3, x7))
set_option maxHeartbeats 4000000 in
theorem tX11_mendFirst_S19 {E : EX} {ad : Nat → Nat} {sh : Sh} {G : Hp} {l0 : Nat} {l1 : Int32} {l2 : Int32} {l3 : Int32} {l4 : Int32} {o : (Hp × Int32 × Int32 × Int32) ⊕ ((Hp × Int32 × Int32))} (C : Cx E RX11 cX11_mendFirst 8 (some .int) 6 0 0) (hC : Cl sh G) (h_l0 : sh[l0]? = some (0, 11)) (hf : fX11_mendFirst_S19 sh l0 l1 G l2 l3 l4 = some o) (kb : ∀ (G2 : Hp) (b_l2 : Int32) (b_l3 : Int32) (b_l4 : Int32), o = .inl (G2, b_l2, b_l3, b_l4) → Cl sh G2 → VV E 0 0 (wq (xT E) ad G2 sh) 19 [(0, .ref (ad l0)), (1, .int l1), (2, .int b_l2), (3, .int b_l3), (4, .int b_l4)] []) (kx150 : ∀ (G2 : Hp) (b_l2 : Int32) (b_l3 : Int32), o = .inr (G2, b_l2, b_l3) → Cl sh G2 → VV E 0 0 (wq (xT E) ad G2 sh) 150 [(0, .ref (ad l0)), (1, .int l1), (2, .int b_l2), (3, .int b_l3)] []) : VV E 0 0 (wq (xT E) ad G sh) 19 [(0, .ref (ad l0)), (1, .int l1), (2, .int l2), (3, .int l3), (4, .int l4)] [] := by
  unfold fX11_mendFirst_S19 at hf
  refine v_iload C 4 dX11_mendFirst_19 rfl ?_
  refine v_aload_n C 0 dX11_mendFirst_21 rfl rfl ?_
  obtain ⟨a1, qa1, hf⟩ := bn hf
  refine v_getA C h_l0 fl_X11_70 qa1 dX11_mendFirst_22 (fun h_a1 => ?_)
  refine v_aload_n C 0 dX11_mendFirst_25 rfl rfl ?_
  refine v_getI C h_l0 fl_X11_257 dX11_mendFirst_26 ?_
  obtain ⟨v2, qv2, hf⟩ := bn hf
  refine v_iald C h_a1 qv2 dX11_mendFirst_29 ?_
  refine v_icmp_ge (tgt := 150) C dX11_mendFirst_30 (by decide) (fun c3 => ?_) (fun c3 => ?_)
  · have hf := ip hf c3
    cases hf
    refine v_sub [0, 1, 2, 3] rfl ?_
    exact kx150 _ _ _ rfl hC
  · have hf := im hf c3
    refine v_aload_n C 0 dX11_mendFirst_33 rfl rfl ?_
    obtain ⟨a4, qa4, hf⟩ := bn hf
    refine v_getA C h_l0 fl_X11_134 qa4 dX11_mendFirst_34 (fun h_a4 => ?_)
    refine v_iconst (v := 4) C dX11_mendFirst_37 (by decide) ?_
    refine v_iload C 4 dX11_mendFirst_38 rfl ?_
    refine v_iadd C dX11_mendFirst_40 ?_
    obtain ⟨v5, qv5, hf⟩ := bn hf
    refine v_iald C h_a4 qv5 dX11_mendFirst_41 ?_
    refine v_iconst (v := 1) C dX11_mendFirst_42 (by decide) ?_
    refine v_icmp_ne (tgt := 144) C dX11_mendFirst_43 (by decide) (fun c6 => ?_) (fun c6 => ?_)
    · have hf := im hf c6
      obtain ⟨x7, ex7⟩ : ∃ x : Int32, x = (l4 + 1) := ⟨_, rfl⟩
      have hf := bd_at hf ex7
      refine v_iinc (v := x7) (j := 4) (lv2 := [(4, .int x7), (0, .ref (ad l0)), (1, .int l1), (2, .int l2), (3, .int l3)]) C dX11_mendFirst_144 rfl (by rw [ex7]; rfl) (by decide) rfl ?_
      refine v_goto (tgt := 19) C dX11_mendFirst_147 (by decide) ?_
      cases hf
      refine v_sub [1, 2, 3, 4, 0] rfl ?_
      exact kb _ _ _ _ rfl hC
    · have hf := ip hf c6
      refine v_aload_n C 0 dX11_mendFirst_46 rfl rfl ?_
      obtain ⟨a8, qa8, hf⟩ := bn hf
      refine v_getA C h_l0 fl_X11_134 qa8 dX11_mendFirst_47 (fun h_a8 => ?_)
      refine v_iload C 4 dX11_mendFirst_50 rfl ?_
      obtain ⟨v9, qv9, hf⟩ := bn hf
      refine v_iald C h_a8 qv9 dX11_mendFirst_52 ?_
      refine v_bipush (v := 99) C dX11_mendFirst_53 (by decide) ?_
      refine v_icmp_ne (tgt := 61) C dX11_mendFirst_55 (by decide) (fun c10 => ?_) (fun c10 => ?_)
      · have hf := im hf c10
        refine v_aload_n C 0 dX11_mendFirst_61 rfl rfl ?_
        obtain ⟨G12, qr11, hf⟩ := bn hf
        refine v_callVv (As := []) (rest := []) C (sX11_copies h_l0 qr11) cs_X11_434 (by decide) h_l0 rfl hC rfl rfl rfl (Nat.le_of_ble_eq_true rfl) ⟨Nat.le_refl _, Nat.le_refl _⟩ dX11_mendFirst_62 (fun hC => ?_)
        refine v_aload_n C 0 dX11_mendFirst_65 rfl rfl ?_
        refine v_iload C 4 dX11_mendFirst_66 rfl ?_
        obtain ⟨r13, G14, qr13, hf⟩ := bpn hf
        refine v_callVi (As := [.int l4]) (rest := []) C (sX11_standsFor h_l0 qr13) cs_X11_506 (by decide) h_l0 rfl hC rfl rfl rfl (Nat.le_of_ble_eq_true rfl) ⟨Nat.le_refl _, Nat.le_refl _⟩ dX11_mendFirst_68 (fun hC => ?_)
        refine v_istore (lv2 := [(5, .int r13), (0, .ref (ad l0)), (1, .int l1), (2, .int l2), (3, .int l3), (4, .int l4)]) C dX11_mendFirst_71 (by decide) rfl ?_
        refine v_aload_n C 1 dX11_mendFirst_73 rfl rfl ?_
        obtain ⟨G16, qr15, hf⟩ := bn hf
        refine v_callVv (As := []) (rest := []) C (sX11_copies h_l0 qr15) cs_X11_434 (by decide) h_l0 rfl hC rfl rfl rfl (Nat.le_of_ble_eq_true rfl) ⟨Nat.le_refl _, Nat.le_refl _⟩ dX11_mendFirst_74 (fun hC => ?_)
        refine v_aload_n C 1 dX11_mendFirst_77 rfl rfl ?_
        obtain ⟨a17, qa17, hf⟩ := bn hf
        refine v_getA C h_l0 fl_X11_137 qa17 dX11_mendFirst_78 (fun h_a17 => ?_)
        refine v_iload C 5 dX11_mendFirst_81 rfl ?_
        refine v_dup2 C dX11_mendFirst_83 rfl rfl ?_
        obtain ⟨v18, qv18, hf⟩ := bn hf
        refine v_iald C h_a17 qv18 dX11_mendFirst_84 ?_
        refine v_iconst (v := 1) C dX11_mendFirst_85 (by decide) ?_
        refine v_iadd C dX11_mendFirst_86 ?_
        obtain ⟨G19, qG19, hf⟩ := bn hf
        refine v_iast C h_a17 qG19 hC dX11_mendFirst_87 (fun hC => ?_)
        refine v_aload_n C 1 dX11_mendFirst_88 rfl rfl ?_
        refine v_iload C 5 dX11_mendFirst_89 rfl ?_
        obtain ⟨r20, G21, qr20, hf⟩ := bpn hf
        refine v_callVi (As := [.int l4]) (rest := []) C (sX11_standsFor h_l0 qr20) cs_X11_506 (by decide) h_l0 rfl hC rfl rfl rfl (Nat.le_of_ble_eq_true rfl) ⟨Nat.le_refl _, Nat.le_refl _⟩ dX11_mendFirst_91 (fun hC => ?_)
        refine v_istore (lv2 := [(6, .int r20), (5, .int r13), (0, .ref (ad l0)), (1, .int l1), (2, .int l2), (3, .int l3), (4, .int l4)]) C dX11_mendFirst_94 (by decide) rfl ?_
        refine v_iload C 1 dX11_mendFirst_96 rfl ?_
        refine v_sipush (v := 201) C dX11_mendFirst_98 (by decide) ?_
        refine v_icmp_ne (tgt := 108) C dX11_mendFirst_101 (by decide) (fun c22 => ?_) (fun c22 => ?_)
        · have hf := im hf c22
          refine v_iload C 0 dX11_mendFirst_108 rfl ?_
          refine v_sipush (v := 201) C dX11_mendFirst_110 (by decide) ?_
          refine v_icmp_ne (tgt := 122) C dX11_mendFirst_113 (by decide) (fun c23 => ?_) (fun c23 => ?_)
          · have hf := im hf c23
            refine v_iload C 0 dX11_mendFirst_122 rfl ?_
            refine v_iload C 1 dX11_mendFirst_124 rfl ?_
            refine v_isub C dX11_mendFirst_126 ?_
            refine v_sub [2, 3, 4, 5, 6] rfl ?_
            exact tX11_mendFirst_J127L19 C hC h_l0 hf kb kx150
          · have hf := ip hf c23
            refine v_sipush (v := 999) C dX11_mendFirst_116 (by decide) ?_
            refine v_goto (tgt := 127) C dX11_mendFirst_119 (by decide) ?_
            refine v_sub [2, 3, 4, 5, 6] rfl ?_
            exact tX11_mendFirst_J127L19 C hC h_l0 hf kb kx150
        · have hf := ip hf c22
          refine v_iconst (v := 0) C dX11_mendFirst_104 (by decide) ?_
          refine v_goto (tgt := 127) C dX11_mendFirst_105 (by decide) ?_
          refine v_sub [2, 3, 4, 5, 6] rfl ?_
          exact tX11_mendFirst_J127L19 C hC h_l0 hf kb kx150
      · have hf := ip hf c10
        refine v_goto (tgt := 144) C dX11_mendFirst_58 (by decide) ?_
        obtain ⟨x24, ex24⟩ : ∃ x : Int32, x = (l4 + 1) := ⟨_, rfl⟩
        have hf := bd_at hf ex24
        refine v_iinc (v := x24) (j := 4) (lv2 := [(4, .int x24), (0, .ref (ad l0)), (1, .int l1), (2, .int l2), (3, .int l3)]) C dX11_mendFirst_144 rfl (by rw [ex24]; rfl) (by decide) rfl ?_
        refine v_goto (tgt := 19) C dX11_mendFirst_147 (by decide) ?_
        cases hf
        refine v_sub [1, 2, 3, 4, 0] rfl ?_
        exact kb _ _ _ _ rfl hC
def fX11_mendFirst (sh : Sh) (G : Hp) (l0 : Nat) (l1 : Int32) : Option (Int32 × Hp) := (fX11_in l1 0 1).bind fun r1 => if r1 = 0 then some ((-1), G) else (iter (fun s : Hp × Int32 × Int32 × Int32 => fX11_mendFirst_S19 sh l0 l1 s.1 s.2.1 s.2.2.1 s.2.2.2) fuel ((G, (-2), 0, 0) : Hp × Int32 × Int32 × Int32)).bind (fun u10 => bd u10.1 fun G4 => bd u10.2.1 fun x5 => bd u10.2.2 fun x6 => if x5 < 0 then some (x5, G4) else if l1 = 0 then some (x5, G4) else if x6 = 999 then some ((-3), G4) else some (x6, G4))
set_option maxHeartbeats 4000000 in
theorem tX11_mendFirst {E : EX} {ad : Nat → Nat} {sh : Sh} {G : Hp} {l0 : Nat} {l1 : Int32} {z : Int32 × Hp} (C : Cx E RX11 cX11_mendFirst 8 (some .int) 6 0 0) (hC : Cl sh G) (h_l0 : sh[l0]? = some (0, 11)) (hf : fX11_mendFirst sh G l0 l1 = some z) (kr : RCi E cX11_mendFirst ad sh (z.1) (z.2)) : VV E 0 0 (wq (xT E) ad G sh) 0 [(0, .ref (ad l0)), (1, .int l1)] [] := by
  unfold fX11_mendFirst at hf
  refine v_iload_n C 1 dX11_mendFirst_0 rfl rfl ?_
  refine v_iconst (v := 0) C dX11_mendFirst_1 (by decide) ?_
  refine v_iconst (v := 1) C dX11_mendFirst_2 (by decide) ?_
  obtain ⟨r1, qr1, hf⟩ := bn hf
  refine v_callSi (As := [.int l1, .int 0, .int 1]) (rest := []) C (sX11_in  qr1) cs_X11_370 (by decide) hC rfl rfl rfl (Nat.le_of_ble_eq_true rfl) ⟨Nat.le_refl _, Nat.le_refl _⟩ dX11_mendFirst_3 (fun hC => ?_)
  refine v_if_ne (tgt := 11) C dX11_mendFirst_6 (by decide) (fun c2 => ?_) (fun c2 => ?_)
  · have hf := im hf c2
    refine v_bipush (v := (-2)) C dX11_mendFirst_11 (by decide) ?_
    refine v_istore_n (lv2 := [(2, .int (-2)), (0, .ref (ad l0)), (1, .int l1)]) C dX11_mendFirst_13 rfl (by decide) rfl ?_
    refine v_iconst (v := 0) C dX11_mendFirst_14 (by decide) ?_
    refine v_istore_n (lv2 := [(3, .int 0), (2, .int (-2)), (0, .ref (ad l0)), (1, .int l1)]) C dX11_mendFirst_15 rfl (by decide) rfl ?_
    refine v_iconst (v := 0) C dX11_mendFirst_16 (by decide) ?_
    refine v_istore (lv2 := [(4, .int 0), (3, .int 0), (2, .int (-2)), (0, .ref (ad l0)), (1, .int l1)]) C dX11_mendFirst_17 (by decide) rfl ?_
    obtain ⟨r3, qr3, hf⟩ := bn hf
    refine v_sub [3, 4, 2, 1, 0] rfl ?_
    refine iter_sound (P := (fun s : Hp × Int32 × Int32 × Int32 => Cl sh (s.1) → VV E 0 0 (wq (xT E) ad (s.1) sh) 19 [(0, .ref (ad l0)), (1, .int (l1)), (2, .int (s.2.1)), (3, .int (s.2.2.1)), (4, .int (s.2.2.2))] [])) (X := fun r => r = r3) (fun jsr3 jor3 hor3 jbr3 jxr3 hC => tX11_mendFirst_S19 C hC h_l0 hor3 (fun _ _ _ _ e => jbr3 _ e) ?_) fuel _ r3 qr3 rfl hC
    · intro G4 x5 x6 hu hC
      have e := jxr3 _ hu
      subst e
      have hf := bd_at hf (rfl : G4 = _)
      have hf := bd_at hf (rfl : x5 = _)
      have hf := bd_at hf (rfl : x6 = _)
      refine v_iload_n C 2 dX11_mendFirst_150 rfl rfl ?_
      refine v_if_lt (tgt := 158) C dX11_mendFirst_151 (by decide) (fun c7 => ?_) (fun c7 => ?_)
      · have hf := ip hf c7
        refine v_iload_n C 2 dX11_mendFirst_158 rfl rfl ?_
        refine v_goto (tgt := 175) C dX11_mendFirst_159 (by decide) ?_
        cases hf
        exact kr _ _ dX11_mendFirst_175 hC
      · have hf := im hf c7
        refine v_iload_n C 1 dX11_mendFirst_154 rfl rfl ?_
        refine v_if_ne (tgt := 162) C dX11_mendFirst_155 (by decide) (fun c8 => ?_) (fun c8 => ?_)
        · have hf := im hf c8
          refine v_iload_n C 3 dX11_mendFirst_162 rfl rfl ?_
          refine v_sipush (v := 999) C dX11_mendFirst_163 (by decide) ?_
          refine v_icmp_ne (tgt := 174) C dX11_mendFirst_166 (by decide) (fun c9 => ?_) (fun c9 => ?_)
          · have hf := im hf c9
            refine v_iload_n C 3 dX11_mendFirst_174 rfl rfl ?_
            cases hf
            exact kr _ _ dX11_mendFirst_175 hC
          · have hf := ip hf c9
            refine v_bipush (v := (-3)) C dX11_mendFirst_169 (by decide) ?_
            refine v_goto (tgt := 175) C dX11_mendFirst_171 (by decide) ?_
            cases hf
            exact kr _ _ dX11_mendFirst_175 hC
        · have hf := ip hf c8
          refine v_iload_n C 2 dX11_mendFirst_158 rfl rfl ?_
          refine v_goto (tgt := 175) C dX11_mendFirst_159 (by decide) ?_
          cases hf
          exact kr _ _ dX11_mendFirst_175 hC
  · have hf := ip hf c2
    refine v_iconst (v := (-1)) C dX11_mendFirst_9 (by decide) ?_
    cases hf
    exact kr _ _ dX11_mendFirst_10 hC
theorem sX11_mendFirst {l : Launch} {sh : Sh} {G : Hp} {l0 : Nat} {l1 : Int32} {z : Int32 × Hp} (h_l0 : sh[l0]? = some (0, 11)) (hf : fX11_mendFirst sh G l0 l1 = some z) : MC l yX11_mendFirst cX11_mendFirst 8 (some .int) 6 0 0 sh sh G (z.2) (fun ad => [.ref (ad l0), .int l1]) (fun _ => some (.int z.1)) := by
  refine MC_of rfl rfl (fun _ => Nat.le_of_ble_eq_true rfl) (fun E ad C hl hnm hC hQ => ?_)
  exact tX11_mendFirst C hC h_l0 hf (fun pc lv hd hC => v_iret C hQ (fun _ _ => rfl) hC rfl hd)
def fX11_isLong (l0 : Int32) : Option (Int32) := (fX11_in l0 0 60).bind fun r1 => if ¬ (r1 = 0 ∨ r1 = 1) then none else some r1
set_option maxHeartbeats 4000000 in
theorem tX11_isLong {E : EX} {ad : Nat → Nat} {sh : Sh} {G : Hp} {l0 : Int32} {z : Int32} (C : Cx E RX11 cX11_isLong 1 (some .boolean) 2 0 0) (hC : Cl sh G) (hf : fX11_isLong l0 = some z) (kr : RCz E cX11_isLong ad sh z G) : VV E 0 0 (wq (xT E) ad G sh) 0 [(0, .int l0)] [] := by
  unfold fX11_isLong at hf
  refine v_iload_n C 0 dX11_isLong_0 rfl rfl ?_
  refine v_iconst (v := 0) C dX11_isLong_1 (by decide) ?_
  refine v_bipush (v := 60) C dX11_isLong_2 (by decide) ?_
  obtain ⟨r1, qr1, hf⟩ := bn hf
  refine v_callSi (As := [.int l0, .int 0, .int 60]) (rest := []) C (sX11_in  qr1) cs_X11_370 (by decide) hC rfl rfl rfl (Nat.le_of_ble_eq_true rfl) ⟨Nat.le_refl _, Nat.le_refl _⟩ dX11_isLong_4 (fun hC => ?_)
  obtain ⟨hz2, hf⟩ := iz hf
  cases hf
  exact kr _ _ dX11_isLong_7 (Classical.not_not.mp hz2) hC
theorem sX11_isLong {l : Launch} {sh : Sh} {G : Hp} {l0 : Int32} {z : Int32} (hf : fX11_isLong l0 = some z) : MC l yX11_isLong cX11_isLong 1 (some .boolean) 2 0 0 sh sh G G (fun ad => [.int l0]) (fun _ => some (.int z)) := by
  refine MC_of rfl rfl (fun _ => Nat.le_of_ble_eq_true rfl) (fun E ad C hl hnm hC hQ => ?_)
  exact tX11_isLong C hC hf (fun pc lv hd hz hC => v_zret C hQ (fun _ _ => rfl) hC rfl hz hd)
def fX11_goes_S2 (sh : Sh) (l0 : Nat) (l1 : Int32) (G : Hp) (l2 : Int32) : Option ((Hp × Int32) ⊕ ((Hp))) := if l1 ≤ l2 then some (.inr G) else (fX11_yearGoes sh G l0).bind fun G3 => bd ((l2 + 1) : Int32) fun x4 => some (.inl (G3, x4))
set_option maxHeartbeats 4000000 in
theorem tX11_goes_S2 {E : EX} {ad : Nat → Nat} {sh : Sh} {G : Hp} {l0 : Nat} {l1 : Int32} {l2 : Int32} {o : (Hp × Int32) ⊕ ((Hp))} (C : Cx E RX11 cX11_goes 3 none 5 0 0) (hC : Cl sh G) (h_l0 : sh[l0]? = some (0, 11)) (hf : fX11_goes_S2 sh l0 l1 G l2 = some o) (kb : ∀ (G2 : Hp) (b_l2 : Int32), o = .inl (G2, b_l2) → Cl sh G2 → VV E 0 0 (wq (xT E) ad G2 sh) 2 [(0, .ref (ad l0)), (1, .int l1), (2, .int b_l2)] []) (kx17 : ∀ (G2 : Hp), o = .inr G2 → Cl sh G2 → VV E 0 0 (wq (xT E) ad G2 sh) 17 [(0, .ref (ad l0)), (1, .int l1)] []) : VV E 0 0 (wq (xT E) ad G sh) 2 [(0, .ref (ad l0)), (1, .int l1), (2, .int l2)] [] := by
  unfold fX11_goes_S2 at hf
  refine v_iload_n C 2 dX11_goes_2 rfl rfl ?_
  refine v_iload_n C 1 dX11_goes_3 rfl rfl ?_
  refine v_icmp_ge (tgt := 17) C dX11_goes_4 (by decide) (fun c1 => ?_) (fun c1 => ?_)
  · have hf := ip hf c1
    cases hf
    refine v_sub [0, 1] rfl ?_
    exact kx17 _ rfl hC
  · have hf := im hf c1
    refine v_aload_n C 0 dX11_goes_7 rfl rfl ?_
    obtain ⟨G3, qr2, hf⟩ := bn hf
    refine v_callVv (As := []) (rest := []) C (sX11_yearGoes h_l0 qr2) cs_X11_416 (by decide) h_l0 rfl hC rfl rfl rfl (Nat.le_of_ble_eq_true rfl) ⟨Nat.le_refl _, Nat.le_refl _⟩ dX11_goes_8 (fun hC => ?_)
    obtain ⟨x4, ex4⟩ : ∃ x : Int32, x = (l2 + 1) := ⟨_, rfl⟩
    have hf := bd_at hf ex4
    refine v_iinc (v := x4) (j := 2) (lv2 := [(2, .int x4), (0, .ref (ad l0)), (1, .int l1)]) C dX11_goes_11 rfl (by rw [ex4]; rfl) (by decide) rfl ?_
    refine v_goto (tgt := 2) C dX11_goes_14 (by decide) ?_
    cases hf
    refine v_sub [1, 2, 0] rfl ?_
    exact kb _ _ rfl hC
def fX11_goes (sh : Sh) (G : Hp) (l0 : Nat) (l1 : Int32) : Option (Hp) := (iter (fun s : Hp × Int32 => fX11_goes_S2 sh l0 l1 s.1 s.2) fuel ((G, 0) : Hp × Int32)).bind (fun u3 => bd u3 fun G2 => some G2)
set_option maxHeartbeats 4000000 in
theorem tX11_goes {E : EX} {ad : Nat → Nat} {sh : Sh} {G : Hp} {l0 : Nat} {l1 : Int32} {z : Hp} (C : Cx E RX11 cX11_goes 3 none 5 0 0) (hC : Cl sh G) (h_l0 : sh[l0]? = some (0, 11)) (hf : fX11_goes sh G l0 l1 = some z) (kr : RCv E cX11_goes ad sh z) : VV E 0 0 (wq (xT E) ad G sh) 0 [(0, .ref (ad l0)), (1, .int l1)] [] := by
  unfold fX11_goes at hf
  refine v_iconst (v := 0) C dX11_goes_0 (by decide) ?_
  refine v_istore_n (lv2 := [(2, .int 0), (0, .ref (ad l0)), (1, .int l1)]) C dX11_goes_1 rfl (by decide) rfl ?_
  obtain ⟨r1, qr1, hf⟩ := bn hf
  refine v_sub [1, 2, 0] rfl ?_
  refine iter_sound (P := (fun s : Hp × Int32 => Cl sh (s.1) → VV E 0 0 (wq (xT E) ad (s.1) sh) 2 [(0, .ref (ad l0)), (1, .int (l1)), (2, .int (s.2))] [])) (X := fun r => r = r1) (fun jsr1 jor1 hor1 jbr1 jxr1 hC => tX11_goes_S2 C hC h_l0 hor1 (fun _ _ e => jbr1 _ e) ?_) fuel _ r1 qr1 rfl hC
  · intro G2 hu hC
    have e := jxr1 _ hu
    subst e
    have hf := bd_at hf (rfl : G2 = _)
    cases hf
    exact kr _ _ dX11_goes_17 hC
theorem sX11_goes {l : Launch} {sh : Sh} {G : Hp} {l0 : Nat} {l1 : Int32} {z : Hp} (h_l0 : sh[l0]? = some (0, 11)) (hf : fX11_goes sh G l0 l1 = some z) : MC l yX11_goes cX11_goes 3 none 5 0 0 sh sh G z (fun ad => [.ref (ad l0), .int l1]) (fun _ => none) := by
  refine MC_of rfl rfl (fun _ => Nat.le_of_ble_eq_true rfl) (fun E ad C hl hnm hC hQ => ?_)
  exact tX11_goes C hC h_l0 hf (fun pc lv hd hC => v_vret C hQ (fun _ _ => rfl) hC rfl hd)
def fX11_openIn (sh : Sh) (G : Hp) (l0 : Nat) (l1 : Int32) : Option (Int32 × Hp) := (fX11_isLong l1).bind fun r1 => if r1 = 0 then some ((-1), G) else (fX11_copies sh G l0).bind fun G4 => (fX11_goes sh G4 l0 l1).bind fun G6 => (fX11_bridgesSo sh G6 l0 1).bind fun r7 => (fX11_bits r7).bind fun r8 => some (r8, G6)
set_option maxHeartbeats 4000000 in
theorem tX11_openIn {E : EX} {ad : Nat → Nat} {sh : Sh} {G : Hp} {l0 : Nat} {l1 : Int32} {z : Int32 × Hp} (C : Cx E RX11 cX11_openIn 2 (some .int) 6 0 0) (hC : Cl sh G) (h_l0 : sh[l0]? = some (0, 11)) (hf : fX11_openIn sh G l0 l1 = some z) (kr : RCi E cX11_openIn ad sh (z.1) (z.2)) : VV E 0 0 (wq (xT E) ad G sh) 0 [(0, .ref (ad l0)), (1, .int l1)] [] := by
  unfold fX11_openIn at hf
  refine v_iload_n C 1 dX11_openIn_0 rfl rfl ?_
  obtain ⟨r1, qr1, hf⟩ := bn hf
  refine v_callSi (As := [.int l1]) (rest := []) C (sX11_isLong  qr1) cs_X11_509 (by decide) hC rfl rfl rfl (Nat.le_of_ble_eq_true rfl) ⟨Nat.le_refl _, Nat.le_refl _⟩ dX11_openIn_1 (fun hC => ?_)
  refine v_if_ne (tgt := 9) C dX11_openIn_4 (by decide) (fun c2 => ?_) (fun c2 => ?_)
  · have hf := im hf c2
    refine v_aload_n C 0 dX11_openIn_9 rfl rfl ?_
    obtain ⟨G4, qr3, hf⟩ := bn hf
    refine v_callVv (As := []) (rest := []) C (sX11_copies h_l0 qr3) cs_X11_434 (by decide) h_l0 rfl hC rfl rfl rfl (Nat.le_of_ble_eq_true rfl) ⟨Nat.le_refl _, Nat.le_refl _⟩ dX11_openIn_10 (fun hC => ?_)
    refine v_aload_n C 0 dX11_openIn_13 rfl rfl ?_
    refine v_iload_n C 1 dX11_openIn_14 rfl rfl ?_
    obtain ⟨G6, qr5, hf⟩ := bn hf
    refine v_callVv (As := [.int l1]) (rest := []) C (sX11_goes h_l0 qr5) cs_X11_461 (by decide) h_l0 rfl hC rfl rfl rfl (Nat.le_of_ble_eq_true rfl) ⟨Nat.le_refl _, Nat.le_refl _⟩ dX11_openIn_15 (fun hC => ?_)
    refine v_aload_n C 0 dX11_openIn_18 rfl rfl ?_
    refine v_iconst (v := 1) C dX11_openIn_19 (by decide) ?_
    obtain ⟨r7, qr7, hf⟩ := bn hf
    refine v_callVi (As := [.int 1]) (rest := []) C (sX11_bridgesSo h_l0 qr7) cs_X11_384 (by decide) h_l0 rfl hC rfl rfl rfl (Nat.le_of_ble_eq_true rfl) ⟨Nat.le_refl _, Nat.le_refl _⟩ dX11_openIn_20 (fun hC => ?_)
    obtain ⟨r8, qr8, hf⟩ := bn hf
    refine v_callSi (As := [.int r7]) (rest := []) C (sX11_bits  qr8) cs_X11_387 (by decide) hC rfl rfl rfl (Nat.le_of_ble_eq_true rfl) ⟨Nat.le_refl _, Nat.le_refl _⟩ dX11_openIn_23 (fun hC => ?_)
    cases hf
    exact kr _ _ dX11_openIn_26 hC
  · have hf := ip hf c2
    refine v_iconst (v := (-1)) C dX11_openIn_7 (by decide) ?_
    cases hf
    exact kr _ _ dX11_openIn_8 hC
theorem sX11_openIn {l : Launch} {sh : Sh} {G : Hp} {l0 : Nat} {l1 : Int32} {z : Int32 × Hp} (h_l0 : sh[l0]? = some (0, 11)) (hf : fX11_openIn sh G l0 l1 = some z) : MC l yX11_openIn cX11_openIn 2 (some .int) 6 0 0 sh sh G (z.2) (fun ad => [.ref (ad l0), .int l1]) (fun _ => some (.int z.1)) := by
  refine MC_of rfl rfl (fun _ => Nat.le_of_ble_eq_true rfl) (fun E ad C hl hnm hC hQ => ?_)
  exact tX11_openIn C hC h_l0 hf (fun pc lv hd hC => v_iret C hQ (fun _ _ => rfl) hC rfl hd)
def fX11_place (sh : Sh) (G : Hp) (l0 : Nat) : Option (Int32) := some (G.1 l0 17)
set_option maxHeartbeats 4000000 in
theorem tX11_place {E : EX} {ad : Nat → Nat} {sh : Sh} {G : Hp} {l0 : Nat} {z : Int32} (C : Cx E RX11 cX11_place 1 (some .int) 1 0 0) (hC : Cl sh G) (h_l0 : sh[l0]? = some (0, 11)) (hf : fX11_place sh G l0 = some z) (kr : RCi E cX11_place ad sh z G) : VV E 0 0 (wq (xT E) ad G sh) 0 [(0, .ref (ad l0))] [] := by
  unfold fX11_place at hf
  refine v_aload_n C 0 dX11_place_0 rfl rfl ?_
  refine v_getI C h_l0 fl_X11_37 dX11_place_1 ?_
  cases hf
  exact kr _ _ dX11_place_4 hC
theorem sX11_place {l : Launch} {sh : Sh} {G : Hp} {l0 : Nat} {z : Int32} (h_l0 : sh[l0]? = some (0, 11)) (hf : fX11_place sh G l0 = some z) : MC l yX11_place cX11_place 1 (some .int) 1 0 0 sh sh G G (fun ad => [.ref (ad l0)]) (fun _ => some (.int z)) := by
  refine MC_of rfl rfl (fun _ => Nat.le_of_ble_eq_true rfl) (fun E ad C hl hnm hC hQ => ?_)
  exact tX11_place C hC h_l0 hf (fun pc lv hd hC => v_iret C hQ (fun _ _ => rfl) hC rfl hd)
def fX11_plain_S44 (sh : Sh) (l0 : Nat) (l1 : Int32) (G : Hp) (l2 : Int32) : Option ((Hp × Int32) ⊕ ((Hp))) := if 3 ≤ l2 then some (.inr G) else (ldA sh G l0 40 1).bind fun a2 => (asI sh G a2 (((3 : Int32) * l1) + l2) 0).bind fun G3 => (ldA sh G3 l0 41 1).bind fun a4 => (asI sh G3 a4 (((3 : Int32) * l1) + l2) 0).bind fun G5 => bd ((l2 + 1) : Int32) fun x6 => some (.inl (G5, x6))
set_option maxHeartbeats 4000000 in
theorem tX11_plain_S44 {E : EX} {ad : Nat → Nat} {sh : Sh} {G : Hp} {l0 : Nat} {l1 : Int32} {l2 : Int32} {o : (Hp × Int32) ⊕ ((Hp))} (C : Cx E RX11 cX11_plain 3 none 1 0 0) (hC : Cl sh G) (h_l0 : sh[l0]? = some (0, 11)) (hf : fX11_plain_S44 sh l0 l1 G l2 = some o) (kb : ∀ (G2 : Hp) (b_l2 : Int32), o = .inl (G2, b_l2) → Cl sh G2 → VV E 0 0 (wq (xT E) ad G2 sh) 44 [(0, .ref (ad l0)), (1, .int l1), (2, .int b_l2)] []) (kx77 : ∀ (G2 : Hp), o = .inr G2 → Cl sh G2 → VV E 0 0 (wq (xT E) ad G2 sh) 77 [(0, .ref (ad l0)), (1, .int l1)] []) : VV E 0 0 (wq (xT E) ad G sh) 44 [(0, .ref (ad l0)), (1, .int l1), (2, .int l2)] [] := by
  unfold fX11_plain_S44 at hf
  refine v_iload_n C 2 dX11_plain_44 rfl rfl ?_
  refine v_iconst (v := 3) C dX11_plain_45 (by decide) ?_
  refine v_icmp_ge (tgt := 77) C dX11_plain_46 (by decide) (fun c1 => ?_) (fun c1 => ?_)
  · have hf := ip hf c1
    cases hf
    refine v_sub [0, 1] rfl ?_
    exact kx77 _ rfl hC
  · have hf := im hf c1
    refine v_aload_n C 0 dX11_plain_49 rfl rfl ?_
    obtain ⟨a2, qa2, hf⟩ := bn hf
    refine v_getA C h_l0 fl_X11_94 qa2 dX11_plain_50 (fun h_a2 => ?_)
    refine v_iconst (v := 3) C dX11_plain_53 (by decide) ?_
    refine v_iload_n C 1 dX11_plain_54 rfl rfl ?_
    refine v_imul C dX11_plain_55 ?_
    refine v_iload_n C 2 dX11_plain_56 rfl rfl ?_
    refine v_iadd C dX11_plain_57 ?_
    refine v_iconst (v := 0) C dX11_plain_58 (by decide) ?_
    obtain ⟨G3, qG3, hf⟩ := bn hf
    refine v_iast C h_a2 qG3 hC dX11_plain_59 (fun hC => ?_)
    refine v_aload_n C 0 dX11_plain_60 rfl rfl ?_
    obtain ⟨a4, qa4, hf⟩ := bn hf
    refine v_getA C h_l0 fl_X11_97 qa4 dX11_plain_61 (fun h_a4 => ?_)
    refine v_iconst (v := 3) C dX11_plain_64 (by decide) ?_
    refine v_iload_n C 1 dX11_plain_65 rfl rfl ?_
    refine v_imul C dX11_plain_66 ?_
    refine v_iload_n C 2 dX11_plain_67 rfl rfl ?_
    refine v_iadd C dX11_plain_68 ?_
    refine v_iconst (v := 0) C dX11_plain_69 (by decide) ?_
    obtain ⟨G5, qG5, hf⟩ := bn hf
    refine v_iast C h_a4 qG5 hC dX11_plain_70 (fun hC => ?_)
    obtain ⟨x6, ex6⟩ : ∃ x : Int32, x = (l2 + 1) := ⟨_, rfl⟩
    have hf := bd_at hf ex6
    refine v_iinc (v := x6) (j := 2) (lv2 := [(2, .int x6), (0, .ref (ad l0)), (1, .int l1)]) C dX11_plain_71 rfl (by rw [ex6]; rfl) (by decide) rfl ?_
    refine v_goto (tgt := 44) C dX11_plain_74 (by decide) ?_
    cases hf
    refine v_sub [1, 2, 0] rfl ?_
    exact kb _ _ rfl hC
def fX11_plain (sh : Sh) (G : Hp) (l0 : Nat) (l1 : Int32) : Option (Hp) := (ldA sh G l0 23 1).bind fun a1 => (asI sh G a1 l1 0).bind fun G2 => (ldA sh G2 l0 24 1).bind fun a3 => (asI sh G2 a3 l1 0).bind fun G4 => (ldA sh G4 l0 27 1).bind fun a5 => (asI sh G4 a5 l1 0).bind fun G6 => (ldA sh G6 l0 31 1).bind fun a7 => (asI sh G6 a7 l1 0).bind fun G8 => (ldA sh G8 l0 38 1).bind fun a9 => (asI sh G8 a9 l1 0).bind fun G10 => (ldA sh G10 l0 39 1).bind fun a11 => (asI sh G10 a11 l1 0).bind fun G12 => (iter (fun s : Hp × Int32 => fX11_plain_S44 sh l0 l1 s.1 s.2) fuel ((G12, 0) : Hp × Int32)).bind (fun u15 => bd u15 fun G14 => some G14)
set_option maxHeartbeats 4000000 in
theorem tX11_plain {E : EX} {ad : Nat → Nat} {sh : Sh} {G : Hp} {l0 : Nat} {l1 : Int32} {z : Hp} (C : Cx E RX11 cX11_plain 3 none 1 0 0) (hC : Cl sh G) (h_l0 : sh[l0]? = some (0, 11)) (hf : fX11_plain sh G l0 l1 = some z) (kr : RCv E cX11_plain ad sh z) : VV E 0 0 (wq (xT E) ad G sh) 0 [(0, .ref (ad l0)), (1, .int l1)] [] := by
  unfold fX11_plain at hf
  refine v_aload_n C 0 dX11_plain_0 rfl rfl ?_
  obtain ⟨a1, qa1, hf⟩ := bn hf
  refine v_getA C h_l0 fl_X11_46 qa1 dX11_plain_1 (fun h_a1 => ?_)
  refine v_iload_n C 1 dX11_plain_4 rfl rfl ?_
  refine v_iconst (v := 0) C dX11_plain_5 (by decide) ?_
  obtain ⟨G2, qG2, hf⟩ := bn hf
  refine v_iast C h_a1 qG2 hC dX11_plain_6 (fun hC => ?_)
  refine v_aload_n C 0 dX11_plain_7 rfl rfl ?_
  obtain ⟨a3, qa3, hf⟩ := bn hf
  refine v_getA C h_l0 fl_X11_49 qa3 dX11_plain_8 (fun h_a3 => ?_)
  refine v_iload_n C 1 dX11_plain_11 rfl rfl ?_
  refine v_iconst (v := 0) C dX11_plain_12 (by decide) ?_
  obtain ⟨G4, qG4, hf⟩ := bn hf
  refine v_iast C h_a3 qG4 hC dX11_plain_13 (fun hC => ?_)
  refine v_aload_n C 0 dX11_plain_14 rfl rfl ?_
  obtain ⟨a5, qa5, hf⟩ := bn hf
  refine v_getA C h_l0 fl_X11_58 qa5 dX11_plain_15 (fun h_a5 => ?_)
  refine v_iload_n C 1 dX11_plain_18 rfl rfl ?_
  refine v_iconst (v := 0) C dX11_plain_19 (by decide) ?_
  obtain ⟨G6, qG6, hf⟩ := bn hf
  refine v_iast C h_a5 qG6 hC dX11_plain_20 (fun hC => ?_)
  refine v_aload_n C 0 dX11_plain_21 rfl rfl ?_
  obtain ⟨a7, qa7, hf⟩ := bn hf
  refine v_getA C h_l0 fl_X11_70 qa7 dX11_plain_22 (fun h_a7 => ?_)
  refine v_iload_n C 1 dX11_plain_25 rfl rfl ?_
  refine v_iconst (v := 0) C dX11_plain_26 (by decide) ?_
  obtain ⟨G8, qG8, hf⟩ := bn hf
  refine v_iast C h_a7 qG8 hC dX11_plain_27 (fun hC => ?_)
  refine v_aload_n C 0 dX11_plain_28 rfl rfl ?_
  obtain ⟨a9, qa9, hf⟩ := bn hf
  refine v_getA C h_l0 fl_X11_88 qa9 dX11_plain_29 (fun h_a9 => ?_)
  refine v_iload_n C 1 dX11_plain_32 rfl rfl ?_
  refine v_iconst (v := 0) C dX11_plain_33 (by decide) ?_
  obtain ⟨G10, qG10, hf⟩ := bn hf
  refine v_iast C h_a9 qG10 hC dX11_plain_34 (fun hC => ?_)
  refine v_aload_n C 0 dX11_plain_35 rfl rfl ?_
  obtain ⟨a11, qa11, hf⟩ := bn hf
  refine v_getA C h_l0 fl_X11_91 qa11 dX11_plain_36 (fun h_a11 => ?_)
  refine v_iload_n C 1 dX11_plain_39 rfl rfl ?_
  refine v_iconst (v := 0) C dX11_plain_40 (by decide) ?_
  obtain ⟨G12, qG12, hf⟩ := bn hf
  refine v_iast C h_a11 qG12 hC dX11_plain_41 (fun hC => ?_)
  refine v_iconst (v := 0) C dX11_plain_42 (by decide) ?_
  refine v_istore_n (lv2 := [(2, .int 0), (0, .ref (ad l0)), (1, .int l1)]) C dX11_plain_43 rfl (by decide) rfl ?_
  obtain ⟨r13, qr13, hf⟩ := bn hf
  refine v_sub [1, 2, 0] rfl ?_
  refine iter_sound (P := (fun s : Hp × Int32 => Cl sh (s.1) → VV E 0 0 (wq (xT E) ad (s.1) sh) 44 [(0, .ref (ad l0)), (1, .int (l1)), (2, .int (s.2))] [])) (X := fun r => r = r13) (fun jsr13 jor13 hor13 jbr13 jxr13 hC => tX11_plain_S44 C hC h_l0 hor13 (fun _ _ e => jbr13 _ e) ?_) fuel _ r13 qr13 rfl hC
  · intro G14 hu hC
    have e := jxr13 _ hu
    subst e
    have hf := bd_at hf (rfl : G14 = _)
    cases hf
    exact kr _ _ dX11_plain_77 hC
theorem sX11_plain {l : Launch} {sh : Sh} {G : Hp} {l0 : Nat} {l1 : Int32} {z : Hp} (h_l0 : sh[l0]? = some (0, 11)) (hf : fX11_plain sh G l0 l1 = some z) : MC l yX11_plain cX11_plain 3 none 1 0 0 sh sh G z (fun ad => [.ref (ad l0), .int l1]) (fun _ => none) := by
  refine MC_of rfl rfl (fun _ => Nat.le_of_ble_eq_true rfl) (fun E ad C hl hnm hC hQ => ?_)
  exact tX11_plain C hC h_l0 hf (fun pc lv hd hC => v_vret C hQ (fun _ _ => rfl) hC rfl hd)
def fX11_byteAt (sh : Sh) (G : Hp) (l0 : Nat) (l1 : Int32) : Option (Int32) := if (G.1 l0 4) ≤ l1 then some 0 else (ldA sh G l0 3 2).bind fun a2 => (aI sh G a2 l1).bind fun v3 => some (v3 &&& 255)
set_option maxHeartbeats 4000000 in
theorem tX11_byteAt {E : EX} {ad : Nat → Nat} {sh : Sh} {G : Hp} {l0 : Nat} {l1 : Int32} {z : Int32} (C : Cx E RX11 cX11_byteAt 2 (some .int) 1 0 0) (hC : Cl sh G) (h_l0 : sh[l0]? = some (0, 11)) (hf : fX11_byteAt sh G l0 l1 = some z) (kr : RCi E cX11_byteAt ad sh z G) : VV E 0 0 (wq (xT E) ad G sh) 0 [(0, .ref (ad l0)), (1, .int l1)] [] := by
  unfold fX11_byteAt at hf
  refine v_iload_n C 1 dX11_byteAt_0 rfl rfl ?_
  refine v_aload_n C 0 dX11_byteAt_1 rfl rfl ?_
  refine v_getI C h_l0 fl_X11_196 dX11_byteAt_2 ?_
  refine v_icmp_ge (tgt := 21) C dX11_byteAt_5 (by decide) (fun c1 => ?_) (fun c1 => ?_)
  · have hf := ip hf c1
    refine v_iconst (v := 0) C dX11_byteAt_21 (by decide) ?_
    cases hf
    exact kr _ _ dX11_byteAt_22 hC
  · have hf := im hf c1
    refine v_aload_n C 0 dX11_byteAt_8 rfl rfl ?_
    obtain ⟨a2, qa2, hf⟩ := bn hf
    refine v_getA C h_l0 fl_X11_17 qa2 dX11_byteAt_9 (fun h_a2 => ?_)
    refine v_iload_n C 1 dX11_byteAt_12 rfl rfl ?_
    obtain ⟨v3, qv3, hf⟩ := bn hf
    refine v_bald C h_a2 qv3 dX11_byteAt_13 ?_
    refine v_sipush (v := 255) C dX11_byteAt_14 (by decide) ?_
    refine v_iand C dX11_byteAt_17 ?_
    refine v_goto (tgt := 22) C dX11_byteAt_18 (by decide) ?_
    cases hf
    exact kr _ _ dX11_byteAt_22 hC
theorem sX11_byteAt {l : Launch} {sh : Sh} {G : Hp} {l0 : Nat} {l1 : Int32} {z : Int32} (h_l0 : sh[l0]? = some (0, 11)) (hf : fX11_byteAt sh G l0 l1 = some z) : MC l yX11_byteAt cX11_byteAt 2 (some .int) 1 0 0 sh sh G G (fun ad => [.ref (ad l0), .int l1]) (fun _ => some (.int z)) := by
  refine MC_of rfl rfl (fun _ => Nat.le_of_ble_eq_true rfl) (fun E ad C hl hnm hC hQ => ?_)
  exact tX11_byteAt C hC h_l0 hf (fun pc lv hd hC => v_iret C hQ (fun _ _ => rfl) hC rfl hd)
def fX11_token (sh : Sh) (G : Hp) (l0 : Nat) (l1 : Int32) (l2 : Int32) (l3 : Int32) (l4 : Int64) : Option (Hp) := (ldA sh G l0 5 1).bind fun a1 => (asI sh G a1 (G.1 l0 10) l1).bind fun G2 => (ldA sh G2 l0 6 1).bind fun a3 => (asI sh G2 a3 (G2.1 l0 10) l2).bind fun G4 => (ldA sh G4 l0 7 1).bind fun a5 => (asI sh G4 a5 (G4.1 l0 10) l3).bind fun G6 => (ldA sh G6 l0 8 4).bind fun a7 => (asJ sh G6 a7 (G6.1 l0 10) l4).bind fun G8 => bd (sI G8 l0 10 ((G8.1 l0 10) + 1)) fun G9 => some G9
set_option maxHeartbeats 4000000 in
theorem tX11_token {E : EX} {ad : Nat → Nat} {sh : Sh} {G : Hp} {l0 : Nat} {l1 : Int32} {l2 : Int32} {l3 : Int32} {l4 : Int64} {z : Hp} (C : Cx E RX11 cX11_token 6 none 1 0 0) (hC : Cl sh G) (h_l0 : sh[l0]? = some (0, 11)) (hf : fX11_token sh G l0 l1 l2 l3 l4 = some z) (kr : RCv E cX11_token ad sh z) : VV E 0 0 (wq (xT E) ad G sh) 0 [(0, .ref (ad l0)), (1, .int l1), (2, .int l2), (3, .int l3), (4, .long l4)] [] := by
  unfold fX11_token at hf
  refine v_aload_n C 0 dX11_token_0 rfl rfl ?_
  obtain ⟨a1, qa1, hf⟩ := bn hf
  refine v_getA C h_l0 fl_X11_20 qa1 dX11_token_1 (fun h_a1 => ?_)
  refine v_aload_n C 0 dX11_token_4 rfl rfl ?_
  refine v_getI C h_l0 fl_X11_205 dX11_token_5 ?_
  refine v_iload_n C 1 dX11_token_8 rfl rfl ?_
  obtain ⟨G2, qG2, hf⟩ := bn hf
  refine v_iast C h_a1 qG2 hC dX11_token_9 (fun hC => ?_)
  refine v_aload_n C 0 dX11_token_10 rfl rfl ?_
  obtain ⟨a3, qa3, hf⟩ := bn hf
  refine v_getA C h_l0 fl_X11_24 qa3 dX11_token_11 (fun h_a3 => ?_)
  refine v_aload_n C 0 dX11_token_14 rfl rfl ?_
  refine v_getI C h_l0 fl_X11_205 dX11_token_15 ?_
  refine v_iload_n C 2 dX11_token_18 rfl rfl ?_
  obtain ⟨G4, qG4, hf⟩ := bn hf
  refine v_iast C h_a3 qG4 hC dX11_token_19 (fun hC => ?_)
  refine v_aload_n C 0 dX11_token_20 rfl rfl ?_
  obtain ⟨a5, qa5, hf⟩ := bn hf
  refine v_getA C h_l0 fl_X11_27 qa5 dX11_token_21 (fun h_a5 => ?_)
  refine v_aload_n C 0 dX11_token_24 rfl rfl ?_
  refine v_getI C h_l0 fl_X11_205 dX11_token_25 ?_
  refine v_iload_n C 3 dX11_token_28 rfl rfl ?_
  obtain ⟨G6, qG6, hf⟩ := bn hf
  refine v_iast C h_a5 qG6 hC dX11_token_29 (fun hC => ?_)
  refine v_aload_n C 0 dX11_token_30 rfl rfl ?_
  obtain ⟨a7, qa7, hf⟩ := bn hf
  refine v_getA C h_l0 fl_X11_30 qa7 dX11_token_31 (fun h_a7 => ?_)
  refine v_aload_n C 0 dX11_token_34 rfl rfl ?_
  refine v_getI C h_l0 fl_X11_205 dX11_token_35 ?_
  refine v_lload C 4 dX11_token_38 rfl ?_
  obtain ⟨G8, qG8, hf⟩ := bn hf
  refine v_last C h_a7 qG8 hC dX11_token_40 (fun hC => ?_)
  refine v_aload_n C 0 dX11_token_41 rfl rfl ?_
  refine v_dup C dX11_token_42 rfl ?_
  refine v_getI C h_l0 fl_X11_205 dX11_token_43 ?_
  refine v_iconst (v := 1) C dX11_token_46 (by decide) ?_
  refine v_iadd C dX11_token_47 ?_
  refine v_putI C h_l0 fp_X11_205 dX11_token_48 (fun G9 eG9 => ?_)
  have hf := bd_at hf eG9
  have hC : Cl sh G9 := by rw [eG9]; exact hC
  cases hf
  exact kr _ _ dX11_token_51 hC
theorem sX11_token {l : Launch} {sh : Sh} {G : Hp} {l0 : Nat} {l1 : Int32} {l2 : Int32} {l3 : Int32} {l4 : Int64} {z : Hp} (h_l0 : sh[l0]? = some (0, 11)) (hf : fX11_token sh G l0 l1 l2 l3 l4 = some z) : MC l yX11_token cX11_token 6 none 1 0 0 sh sh G z (fun ad => [.ref (ad l0), .int l1, .int l2, .int l3, .long l4]) (fun _ => none) := by
  refine MC_of rfl rfl (fun _ => Nat.le_of_ble_eq_true rfl) (fun E ad C hl hnm hC hQ => ?_)
  exact tX11_token C hC h_l0 hf (fun pc lv hd hC => v_vret C hQ (fun _ _ => rfl) hC rfl hd)
def fX11_isLetter (l0 : Int32) : Option (Int32) := if l0 < 97 then some 0 else if 122 < l0 then some 0 else some 1
set_option maxHeartbeats 4000000 in
theorem tX11_isLetter {E : EX} {ad : Nat → Nat} {sh : Sh} {G : Hp} {l0 : Int32} {z : Int32} (C : Cx E RX11 cX11_isLetter 1 (some .boolean) 1 0 0) (hC : Cl sh G) (hf : fX11_isLetter l0 = some z) (kr : RCz E cX11_isLetter ad sh z G) : VV E 0 0 (wq (xT E) ad G sh) 0 [(0, .int l0)] [] := by
  unfold fX11_isLetter at hf
  refine v_iload_n C 0 dX11_isLetter_0 rfl rfl ?_
  refine v_bipush (v := 97) C dX11_isLetter_1 (by decide) ?_
  refine v_icmp_lt (tgt := 16) C dX11_isLetter_3 (by decide) (fun c1 => ?_) (fun c1 => ?_)
  · have hf := ip hf c1
    refine v_iconst (v := 0) C dX11_isLetter_16 (by decide) ?_
    cases hf
    exact kr _ _ dX11_isLetter_17 (Or.inl rfl) hC
  · have hf := im hf c1
    refine v_iload_n C 0 dX11_isLetter_6 rfl rfl ?_
    refine v_bipush (v := 122) C dX11_isLetter_7 (by decide) ?_
    refine v_icmp_gt (tgt := 16) C dX11_isLetter_9 (by decide) (fun c2 => ?_) (fun c2 => ?_)
    · have hf := ip hf c2
      refine v_iconst (v := 0) C dX11_isLetter_16 (by decide) ?_
      cases hf
      exact kr _ _ dX11_isLetter_17 (Or.inl rfl) hC
    · have hf := im hf c2
      refine v_iconst (v := 1) C dX11_isLetter_12 (by decide) ?_
      refine v_goto (tgt := 17) C dX11_isLetter_13 (by decide) ?_
      cases hf
      exact kr _ _ dX11_isLetter_17 (Or.inr rfl) hC
theorem sX11_isLetter {l : Launch} {sh : Sh} {G : Hp} {l0 : Int32} {z : Int32} (hf : fX11_isLetter l0 = some z) : MC l yX11_isLetter cX11_isLetter 1 (some .boolean) 1 0 0 sh sh G G (fun ad => [.int l0]) (fun _ => some (.int z)) := by
  refine MC_of rfl rfl (fun _ => Nat.le_of_ble_eq_true rfl) (fun E ad C hl hnm hC hQ => ?_)
  exact tX11_isLetter C hC hf (fun pc lv hd hz hC => v_zret C hQ (fun _ _ => rfl) hC rfl hz hd)
def fX11_appends (l0 : Int64) (l2 : Int32) : Option (Int64) := if l2 = 0 then some l0 else some (((27 : Int64) * l0) + (Int32.toInt64 ((l2 - 97) + 1)))
set_option maxHeartbeats 4000000 in
theorem tX11_appends {E : EX} {ad : Nat → Nat} {sh : Sh} {G : Hp} {l0 : Int64} {l2 : Int32} {z : Int64} (C : Cx E RX11 cX11_appends 3 (some .long) 1 0 0) (hC : Cl sh G) (hf : fX11_appends l0 l2 = some z) (kr : RCl E cX11_appends ad sh z G) : VV E 0 0 (wq (xT E) ad G sh) 0 [(0, .long l0), (2, .int l2)] [] := by
  unfold fX11_appends at hf
  refine v_iload_n C 1 dX11_appends_0 rfl rfl ?_
  refine v_if_ne (tgt := 8) C dX11_appends_1 (by decide) (fun c1 => ?_) (fun c1 => ?_)
  · have hf := im hf c1
    refine v_ldc2 (v := 27) C dX11_appends_8 kw_895 ?_
    refine v_lload_n C 0 dX11_appends_11 rfl rfl ?_
    refine v_lmul C dX11_appends_12 ?_
    refine v_iload_n C 1 dX11_appends_13 rfl rfl ?_
    refine v_bipush (v := 97) C dX11_appends_14 (by decide) ?_
    refine v_isub C dX11_appends_16 ?_
    refine v_iconst (v := 1) C dX11_appends_17 (by decide) ?_
    refine v_iadd C dX11_appends_18 ?_
    refine v_i2l C dX11_appends_19 ?_
    refine v_ladd C dX11_appends_20 ?_
    cases hf
    exact kr _ _ dX11_appends_21 hC
  · have hf := ip hf c1
    refine v_lload_n C 0 dX11_appends_4 rfl rfl ?_
    refine v_goto (tgt := 21) C dX11_appends_5 (by decide) ?_
    cases hf
    exact kr _ _ dX11_appends_21 hC
theorem sX11_appends {l : Launch} {sh : Sh} {G : Hp} {l0 : Int64} {l2 : Int32} {z : Int64} (hf : fX11_appends l0 l2 = some z) : MC l yX11_appends cX11_appends 3 (some .long) 1 0 0 sh sh G G (fun ad => [.long l0, .int l2]) (fun _ => some (.long z)) := by
  refine MC_of rfl rfl (fun _ => Nat.le_of_ble_eq_true rfl) (fun E ad C hl hnm hC hQ => ?_)
  exact tX11_appends C hC hf (fun pc lv hd hC => v_lret C hQ (fun _ _ => rfl) hC rfl hd)
def fX11_isDigit (l0 : Int32) : Option (Int32) := if l0 < 48 then some 0 else if 57 < l0 then some 0 else some 1
set_option maxHeartbeats 4000000 in
theorem tX11_isDigit {E : EX} {ad : Nat → Nat} {sh : Sh} {G : Hp} {l0 : Int32} {z : Int32} (C : Cx E RX11 cX11_isDigit 1 (some .boolean) 1 0 0) (hC : Cl sh G) (hf : fX11_isDigit l0 = some z) (kr : RCz E cX11_isDigit ad sh z G) : VV E 0 0 (wq (xT E) ad G sh) 0 [(0, .int l0)] [] := by
  unfold fX11_isDigit at hf
  refine v_iload_n C 0 dX11_isDigit_0 rfl rfl ?_
  refine v_bipush (v := 48) C dX11_isDigit_1 (by decide) ?_
  refine v_icmp_lt (tgt := 16) C dX11_isDigit_3 (by decide) (fun c1 => ?_) (fun c1 => ?_)
  · have hf := ip hf c1
    refine v_iconst (v := 0) C dX11_isDigit_16 (by decide) ?_
    cases hf
    exact kr _ _ dX11_isDigit_17 (Or.inl rfl) hC
  · have hf := im hf c1
    refine v_iload_n C 0 dX11_isDigit_6 rfl rfl ?_
    refine v_bipush (v := 57) C dX11_isDigit_7 (by decide) ?_
    refine v_icmp_gt (tgt := 16) C dX11_isDigit_9 (by decide) (fun c2 => ?_) (fun c2 => ?_)
    · have hf := ip hf c2
      refine v_iconst (v := 0) C dX11_isDigit_16 (by decide) ?_
      cases hf
      exact kr _ _ dX11_isDigit_17 (Or.inl rfl) hC
    · have hf := im hf c2
      refine v_iconst (v := 1) C dX11_isDigit_12 (by decide) ?_
      refine v_goto (tgt := 17) C dX11_isDigit_13 (by decide) ?_
      cases hf
      exact kr _ _ dX11_isDigit_17 (Or.inr rfl) hC
theorem sX11_isDigit {l : Launch} {sh : Sh} {G : Hp} {l0 : Int32} {z : Int32} (hf : fX11_isDigit l0 = some z) : MC l yX11_isDigit cX11_isDigit 1 (some .boolean) 1 0 0 sh sh G G (fun ad => [.int l0]) (fun _ => some (.int z)) := by
  refine MC_of rfl rfl (fun _ => Nat.le_of_ble_eq_true rfl) (fun E ad C hl hnm hC hQ => ?_)
  exact tX11_isDigit C hC hf (fun pc lv hd hz hC => v_zret C hQ (fun _ _ => rfl) hC rfl hz hd)
def fX11_sign_J85 (sh : Sh) (G : Hp) (l0 : Nat) (l1 : Int32) (l2 : Int32) (l4 : Int32) : Option (Int32 × Hp) := if l2 = 60 then (fX11_token sh G l0 13 l1 0 0).bind fun G5 => some (1, G5) else (fX11_token sh G l0 l4 l1 0 0).bind fun G3 => some (1, G3)
set_option maxHeartbeats 4000000 in
theorem tX11_sign_J85 {E : EX} {ad : Nat → Nat} {sh : Sh} {G : Hp} {l0 : Nat} {l1 : Int32} {l2 : Int32} {l4 : Int32} {z : Int32 × Hp} (C : Cx E RX11 cX11_sign 5 (some .int) 2 0 0) (hC : Cl sh G) (h_l0 : sh[l0]? = some (0, 11)) (hf : fX11_sign_J85 sh G l0 l1 l2 l4 = some z) (kr : RCi E cX11_sign ad sh (z.1) (z.2)) : VV E 0 0 (wq (xT E) ad G sh) 85 [(0, .ref (ad l0)), (1, .int l1), (2, .int l2), (4, .int l4)] [] := by
  unfold fX11_sign_J85 at hf
  refine v_iload_n C 2 dX11_sign_85 rfl rfl ?_
  refine v_bipush (v := 60) C dX11_sign_86 (by decide) ?_
  refine v_icmp_ne (tgt := 95) C dX11_sign_88 (by decide) (fun c1 => ?_) (fun c1 => ?_)
  · have hf := im hf c1
    refine v_aload_n C 0 dX11_sign_95 rfl rfl ?_
    refine v_iload C 3 dX11_sign_96 rfl ?_
    refine v_iload_n C 1 dX11_sign_98 rfl rfl ?_
    refine v_iconst (v := 0) C dX11_sign_99 (by decide) ?_
    refine v_lconst (v := 0) C dX11_sign_100 (by decide) ?_
    obtain ⟨G3, qr2, hf⟩ := bn hf
    refine v_callVv (As := [.int l4, .int l1, .int 0, .long 0]) (rest := []) C (sX11_token h_l0 qr2) cs_X11_212 (by decide) h_l0 rfl hC rfl rfl rfl (Nat.le_of_ble_eq_true rfl) ⟨Nat.le_refl _, Nat.le_refl _⟩ dX11_sign_101 (fun hC => ?_)
    refine v_iconst (v := 1) C dX11_sign_104 (by decide) ?_
    cases hf
    exact kr _ _ dX11_sign_105 hC
  · have hf := ip hf c1
    refine v_bipush (v := 13) C dX11_sign_91 (by decide) ?_
    refine v_istore (lv2 := [(4, .int 13), (0, .ref (ad l0)), (1, .int l1), (2, .int l2)]) C dX11_sign_93 (by decide) rfl ?_
    refine v_aload_n C 1 dX11_sign_95 rfl rfl ?_
    refine v_iload C 0 dX11_sign_96 rfl ?_
    refine v_iload_n C 2 dX11_sign_98 rfl rfl ?_
    refine v_iconst (v := 0) C dX11_sign_99 (by decide) ?_
    refine v_lconst (v := 0) C dX11_sign_100 (by decide) ?_
    obtain ⟨G5, qr4, hf⟩ := bn hf
    refine v_callVv (As := [.int 13, .int l1, .int 0, .long 0]) (rest := []) C (sX11_token h_l0 qr4) cs_X11_212 (by decide) h_l0 rfl hC rfl rfl rfl (Nat.le_of_ble_eq_true rfl) ⟨Nat.le_refl _, Nat.le_refl _⟩ dX11_sign_101 (fun hC => ?_)
    refine v_iconst (v := 1) C dX11_sign_104 (by decide) ?_
    cases hf
    exact kr _ _ dX11_sign_105 hC
def fX11_sign_J75 (sh : Sh) (G : Hp) (l0 : Nat) (l1 : Int32) (l2 : Int32) (l4 : Int32) : Option (Int32 × Hp) := if l2 = 47 then fX11_sign_J85 sh G l0 l1 l2 15 else fX11_sign_J85 sh G l0 l1 l2 l4
set_option maxHeartbeats 4000000 in
theorem tX11_sign_J75 {E : EX} {ad : Nat → Nat} {sh : Sh} {G : Hp} {l0 : Nat} {l1 : Int32} {l2 : Int32} {l4 : Int32} {z : Int32 × Hp} (C : Cx E RX11 cX11_sign 5 (some .int) 2 0 0) (hC : Cl sh G) (h_l0 : sh[l0]? = some (0, 11)) (hf : fX11_sign_J75 sh G l0 l1 l2 l4 = some z) (kr : RCi E cX11_sign ad sh (z.1) (z.2)) : VV E 0 0 (wq (xT E) ad G sh) 75 [(0, .ref (ad l0)), (1, .int l1), (2, .int l2), (4, .int l4)] [] := by
  unfold fX11_sign_J75 at hf
  refine v_iload_n C 2 dX11_sign_75 rfl rfl ?_
  refine v_bipush (v := 47) C dX11_sign_76 (by decide) ?_
  refine v_icmp_ne (tgt := 85) C dX11_sign_78 (by decide) (fun c1 => ?_) (fun c1 => ?_)
  · have hf := im hf c1
    refine v_sub [0, 1, 2, 3] rfl ?_
    exact tX11_sign_J85 C hC h_l0 hf kr
  · have hf := ip hf c1
    refine v_bipush (v := 15) C dX11_sign_81 (by decide) ?_
    refine v_istore (lv2 := [(4, .int 15), (0, .ref (ad l0)), (1, .int l1), (2, .int l2)]) C dX11_sign_83 (by decide) rfl ?_
    refine v_sub [1, 2, 3, 0] rfl ?_
    exact tX11_sign_J85 C hC h_l0 hf kr
def fX11_sign_J65 (sh : Sh) (G : Hp) (l0 : Nat) (l1 : Int32) (l2 : Int32) (l4 : Int32) : Option (Int32 × Hp) := if l2 = 42 then fX11_sign_J75 sh G l0 l1 l2 10 else fX11_sign_J75 sh G l0 l1 l2 l4
set_option maxHeartbeats 4000000 in
theorem tX11_sign_J65 {E : EX} {ad : Nat → Nat} {sh : Sh} {G : Hp} {l0 : Nat} {l1 : Int32} {l2 : Int32} {l4 : Int32} {z : Int32 × Hp} (C : Cx E RX11 cX11_sign 5 (some .int) 2 0 0) (hC : Cl sh G) (h_l0 : sh[l0]? = some (0, 11)) (hf : fX11_sign_J65 sh G l0 l1 l2 l4 = some z) (kr : RCi E cX11_sign ad sh (z.1) (z.2)) : VV E 0 0 (wq (xT E) ad G sh) 65 [(0, .ref (ad l0)), (1, .int l1), (2, .int l2), (4, .int l4)] [] := by
  unfold fX11_sign_J65 at hf
  refine v_iload_n C 2 dX11_sign_65 rfl rfl ?_
  refine v_bipush (v := 42) C dX11_sign_66 (by decide) ?_
  refine v_icmp_ne (tgt := 75) C dX11_sign_68 (by decide) (fun c1 => ?_) (fun c1 => ?_)
  · have hf := im hf c1
    refine v_sub [0, 1, 2, 3] rfl ?_
    exact tX11_sign_J75 C hC h_l0 hf kr
  · have hf := ip hf c1
    refine v_bipush (v := 10) C dX11_sign_71 (by decide) ?_
    refine v_istore (lv2 := [(4, .int 10), (0, .ref (ad l0)), (1, .int l1), (2, .int l2)]) C dX11_sign_73 (by decide) rfl ?_
    refine v_sub [1, 2, 3, 0] rfl ?_
    exact tX11_sign_J75 C hC h_l0 hf kr
def fX11_sign_J55 (sh : Sh) (G : Hp) (l0 : Nat) (l1 : Int32) (l2 : Int32) (l4 : Int32) : Option (Int32 × Hp) := if l2 = 45 then fX11_sign_J65 sh G l0 l1 l2 9 else fX11_sign_J65 sh G l0 l1 l2 l4
set_option maxHeartbeats 4000000 in
theorem tX11_sign_J55 {E : EX} {ad : Nat → Nat} {sh : Sh} {G : Hp} {l0 : Nat} {l1 : Int32} {l2 : Int32} {l4 : Int32} {z : Int32 × Hp} (C : Cx E RX11 cX11_sign 5 (some .int) 2 0 0) (hC : Cl sh G) (h_l0 : sh[l0]? = some (0, 11)) (hf : fX11_sign_J55 sh G l0 l1 l2 l4 = some z) (kr : RCi E cX11_sign ad sh (z.1) (z.2)) : VV E 0 0 (wq (xT E) ad G sh) 55 [(0, .ref (ad l0)), (1, .int l1), (2, .int l2), (4, .int l4)] [] := by
  unfold fX11_sign_J55 at hf
  refine v_iload_n C 2 dX11_sign_55 rfl rfl ?_
  refine v_bipush (v := 45) C dX11_sign_56 (by decide) ?_
  refine v_icmp_ne (tgt := 65) C dX11_sign_58 (by decide) (fun c1 => ?_) (fun c1 => ?_)
  · have hf := im hf c1
    refine v_sub [0, 1, 2, 3] rfl ?_
    exact tX11_sign_J65 C hC h_l0 hf kr
  · have hf := ip hf c1
    refine v_bipush (v := 9) C dX11_sign_61 (by decide) ?_
    refine v_istore (lv2 := [(4, .int 9), (0, .ref (ad l0)), (1, .int l1), (2, .int l2)]) C dX11_sign_63 (by decide) rfl ?_
    refine v_sub [1, 2, 3, 0] rfl ?_
    exact tX11_sign_J65 C hC h_l0 hf kr
def fX11_sign_J43 (sh : Sh) (G : Hp) (l0 : Nat) (l1 : Int32) (l2 : Int32) (s0 : Int32) : Option (Int32 × Hp) := if l2 = 43 then fX11_sign_J55 sh G l0 l1 l2 8 else fX11_sign_J55 sh G l0 l1 l2 s0
set_option maxHeartbeats 4000000 in
theorem tX11_sign_J43 {E : EX} {ad : Nat → Nat} {sh : Sh} {G : Hp} {l0 : Nat} {l1 : Int32} {l2 : Int32} {s0 : Int32} {z : Int32 × Hp} (C : Cx E RX11 cX11_sign 5 (some .int) 2 0 0) (hC : Cl sh G) (h_l0 : sh[l0]? = some (0, 11)) (hf : fX11_sign_J43 sh G l0 l1 l2 s0 = some z) (kr : RCi E cX11_sign ad sh (z.1) (z.2)) : VV E 0 0 (wq (xT E) ad G sh) 43 [(0, .ref (ad l0)), (1, .int l1), (2, .int l2)] [.int s0] := by
  unfold fX11_sign_J43 at hf
  refine v_istore (lv2 := [(4, .int s0), (0, .ref (ad l0)), (1, .int l1), (2, .int l2)]) C dX11_sign_43 (by decide) rfl ?_
  refine v_iload_n C 3 dX11_sign_45 rfl rfl ?_
  refine v_bipush (v := 43) C dX11_sign_46 (by decide) ?_
  refine v_icmp_ne (tgt := 55) C dX11_sign_48 (by decide) (fun c1 => ?_) (fun c1 => ?_)
  · have hf := im hf c1
    refine v_sub [1, 2, 3, 0] rfl ?_
    exact tX11_sign_J55 C hC h_l0 hf kr
  · have hf := ip hf c1
    refine v_bipush (v := 8) C dX11_sign_51 (by decide) ?_
    refine v_istore (lv2 := [(4, .int 8), (0, .ref (ad l0)), (1, .int l1), (2, .int l2)]) C dX11_sign_53 (by decide) rfl ?_
    refine v_sub [1, 2, 3, 0] rfl ?_
    exact tX11_sign_J55 C hC h_l0 hf kr
def fX11_sign (sh : Sh) (G : Hp) (l0 : Nat) (l1 : Int32) (l2 : Int32) (l3 : Int32) : Option (Int32 × Hp) := if l2 = 59 then fX11_sign_J43 sh G l0 l1 l2 4 else if l2 = 61 then fX11_sign_J43 sh G l0 l1 l2 5 else if l2 = 40 then fX11_sign_J43 sh G l0 l1 l2 6 else if l2 = 41 then fX11_sign_J43 sh G l0 l1 l2 7 else fX11_sign_J43 sh G l0 l1 l2 3
set_option maxHeartbeats 4000000 in
theorem tX11_sign {E : EX} {ad : Nat → Nat} {sh : Sh} {G : Hp} {l0 : Nat} {l1 : Int32} {l2 : Int32} {l3 : Int32} {z : Int32 × Hp} (C : Cx E RX11 cX11_sign 5 (some .int) 2 0 0) (hC : Cl sh G) (h_l0 : sh[l0]? = some (0, 11)) (hf : fX11_sign sh G l0 l1 l2 l3 = some z) (kr : RCi E cX11_sign ad sh (z.1) (z.2)) : VV E 0 0 (wq (xT E) ad G sh) 0 [(0, .ref (ad l0)), (1, .int l1), (2, .int l2), (3, .int l3)] [] := by
  unfold fX11_sign at hf
  refine v_iload_n C 2 dX11_sign_0 rfl rfl ?_
  refine v_bipush (v := 59) C dX11_sign_1 (by decide) ?_
  refine v_icmp_ne (tgt := 10) C dX11_sign_3 (by decide) (fun c1 => ?_) (fun c1 => ?_)
  · have hf := im hf c1
    refine v_iload_n C 2 dX11_sign_10 rfl rfl ?_
    refine v_bipush (v := 61) C dX11_sign_11 (by decide) ?_
    refine v_icmp_ne (tgt := 20) C dX11_sign_13 (by decide) (fun c2 => ?_) (fun c2 => ?_)
    · have hf := im hf c2
      refine v_iload_n C 2 dX11_sign_20 rfl rfl ?_
      refine v_bipush (v := 40) C dX11_sign_21 (by decide) ?_
      refine v_icmp_ne (tgt := 31) C dX11_sign_23 (by decide) (fun c3 => ?_) (fun c3 => ?_)
      · have hf := im hf c3
        refine v_iload_n C 2 dX11_sign_31 rfl rfl ?_
        refine v_bipush (v := 41) C dX11_sign_32 (by decide) ?_
        refine v_icmp_ne (tgt := 42) C dX11_sign_34 (by decide) (fun c4 => ?_) (fun c4 => ?_)
        · have hf := im hf c4
          refine v_iconst (v := 3) C dX11_sign_42 (by decide) ?_
          refine v_sub [0, 1, 2] rfl ?_
          exact tX11_sign_J43 C hC h_l0 hf kr
        · have hf := ip hf c4
          refine v_bipush (v := 7) C dX11_sign_37 (by decide) ?_
          refine v_goto (tgt := 43) C dX11_sign_39 (by decide) ?_
          refine v_sub [0, 1, 2] rfl ?_
          exact tX11_sign_J43 C hC h_l0 hf kr
      · have hf := ip hf c3
        refine v_bipush (v := 6) C dX11_sign_26 (by decide) ?_
        refine v_goto (tgt := 43) C dX11_sign_28 (by decide) ?_
        refine v_sub [0, 1, 2] rfl ?_
        exact tX11_sign_J43 C hC h_l0 hf kr
    · have hf := ip hf c2
      refine v_iconst (v := 5) C dX11_sign_16 (by decide) ?_
      refine v_goto (tgt := 43) C dX11_sign_17 (by decide) ?_
      refine v_sub [0, 1, 2] rfl ?_
      exact tX11_sign_J43 C hC h_l0 hf kr
  · have hf := ip hf c1
    refine v_iconst (v := 4) C dX11_sign_6 (by decide) ?_
    refine v_goto (tgt := 43) C dX11_sign_7 (by decide) ?_
    refine v_sub [0, 1, 2] rfl ?_
    exact tX11_sign_J43 C hC h_l0 hf kr
theorem sX11_sign {l : Launch} {sh : Sh} {G : Hp} {l0 : Nat} {l1 : Int32} {l2 : Int32} {l3 : Int32} {z : Int32 × Hp} (h_l0 : sh[l0]? = some (0, 11)) (hf : fX11_sign sh G l0 l1 l2 l3 = some z) : MC l yX11_sign cX11_sign 5 (some .int) 2 0 0 sh sh G (z.2) (fun ad => [.ref (ad l0), .int l1, .int l2, .int l3]) (fun _ => some (.int z.1)) := by
  refine MC_of rfl rfl (fun _ => Nat.le_of_ble_eq_true rfl) (fun E ad C hl hnm hC hQ => ?_)
  exact tX11_sign C hC h_l0 hf (fun pc lv hd hC => v_iret C hQ (fun _ _ => rfl) hC rfl hd)
def fX11_cut_S208 (sh : Sh) (l0 : Nat) (l1 : Int32) (G : Hp) (l3 : Int32) (l4 : Int32) : Option ((Int32 × Int32) ⊕ ((Int32 × Int32))) := (fX11_byteAt sh G l0 (l1 + l3)).bind fun r1 => (fX11_isDigit r1).bind fun r2 => if r2 = 0 then some (.inr (l3, l4)) else if 4 ≤ l3 then bd ((l3 + 1) : Int32) fun x5 => some (.inl (x5, l4)) else (fX11_byteAt sh G l0 (l1 + l3)).bind fun r6 => bd (((((10 : Int32) * l4) + r6) - 48) : Int32) fun x7 => bd ((l3 + 1) : Int32) fun x8 => some (.inl (x8, x7))
set_option maxHeartbeats 4000000 in
theorem tX11_cut_S208 {E : EX} {ad : Nat → Nat} {sh : Sh} {G : Hp} {l0 : Nat} {l1 : Int32} {l3 : Int32} {l4 : Int32} {o : (Int32 × Int32) ⊕ ((Int32 × Int32))} (C : Cx E RX11 cX11_cut 8 none 3 0 0) (hC : Cl sh G) (h_l0 : sh[l0]? = some (0, 11)) (hf : fX11_cut_S208 sh l0 l1 G l3 l4 = some o) (kb : ∀ (b_l3 : Int32) (b_l4 : Int32), o = .inl (b_l3, b_l4) → VV E 0 0 (wq (xT E) ad G sh) 208 [(0, .ref (ad l0)), (1, .int l1), (3, .int b_l3), (4, .int b_l4)] []) (kx250 : ∀ (b_l3 : Int32) (b_l4 : Int32), o = .inr (b_l3, b_l4) → VV E 0 0 (wq (xT E) ad G sh) 250 [(0, .ref (ad l0)), (1, .int l1), (3, .int b_l3), (4, .int b_l4)] []) : VV E 0 0 (wq (xT E) ad G sh) 208 [(0, .ref (ad l0)), (1, .int l1), (3, .int l3), (4, .int l4)] [] := by
  unfold fX11_cut_S208 at hf
  refine v_aload_n C 0 dX11_cut_208 rfl rfl ?_
  refine v_iload_n C 1 dX11_cut_209 rfl rfl ?_
  refine v_iload_n C 2 dX11_cut_210 rfl rfl ?_
  refine v_iadd C dX11_cut_211 ?_
  obtain ⟨r1, qr1, hf⟩ := bn hf
  refine v_callVi (As := [.int (l1 + l3)]) (rest := []) C (sX11_byteAt h_l0 qr1) cs_X11_208 (by decide) h_l0 rfl hC rfl rfl rfl (Nat.le_of_ble_eq_true rfl) ⟨Nat.le_refl _, Nat.le_refl _⟩ dX11_cut_212 (fun hC => ?_)
  obtain ⟨r2, qr2, hf⟩ := bn hf
  refine v_callSi (As := [.int r1]) (rest := []) C (sX11_isDigit  qr2) cs_X11_220 (by decide) hC rfl rfl rfl (Nat.le_of_ble_eq_true rfl) ⟨Nat.le_refl _, Nat.le_refl _⟩ dX11_cut_215 (fun hC => ?_)
  refine v_if_eq (tgt := 250) C dX11_cut_218 (by decide) (fun c3 => ?_) (fun c3 => ?_)
  · have hf := ip hf c3
    cases hf
    refine v_sub [0, 1, 2, 3] rfl ?_
    exact kx250 _ _ rfl
  · have hf := im hf c3
    refine v_iload_n C 2 dX11_cut_221 rfl rfl ?_
    refine v_iconst (v := 4) C dX11_cut_222 (by decide) ?_
    refine v_icmp_ge (tgt := 244) C dX11_cut_223 (by decide) (fun c4 => ?_) (fun c4 => ?_)
    · have hf := ip hf c4
      obtain ⟨x5, ex5⟩ : ∃ x : Int32, x = (l3 + 1) := ⟨_, rfl⟩
      have hf := bd_at hf ex5
      refine v_iinc (v := x5) (j := 2) (lv2 := [(3, .int x5), (0, .ref (ad l0)), (1, .int l1), (4, .int l4)]) C dX11_cut_244 rfl (by rw [ex5]; rfl) (by decide) rfl ?_
      refine v_goto (tgt := 208) C dX11_cut_247 (by decide) ?_
      cases hf
      refine v_sub [1, 2, 0, 3] rfl ?_
      exact kb _ _ rfl
    · have hf := im hf c4
      refine v_bipush (v := 10) C dX11_cut_226 (by decide) ?_
      refine v_iload C 3 dX11_cut_228 rfl ?_
      refine v_imul C dX11_cut_230 ?_
      refine v_aload_n C 0 dX11_cut_231 rfl rfl ?_
      refine v_iload_n C 1 dX11_cut_232 rfl rfl ?_
      refine v_iload_n C 2 dX11_cut_233 rfl rfl ?_
      refine v_iadd C dX11_cut_234 ?_
      obtain ⟨r6, qr6, hf⟩ := bn hf
      refine v_callVi (As := [.int (l1 + l3)]) (rest := [.int ((10 : Int32) * l4)]) C (sX11_byteAt h_l0 qr6) cs_X11_208 (by decide) h_l0 rfl hC rfl rfl rfl (Nat.le_of_ble_eq_true rfl) ⟨Nat.le_refl _, Nat.le_refl _⟩ dX11_cut_235 (fun hC => ?_)
      refine v_iadd C dX11_cut_238 ?_
      refine v_bipush (v := 48) C dX11_cut_239 (by decide) ?_
      refine v_isub C dX11_cut_241 ?_
      refine v_topi (fun x7 ex7 => ?_)
      have hf := bd_at hf ex7
      refine v_istore (lv2 := [(4, .int x7), (0, .ref (ad l0)), (1, .int l1), (3, .int l3)]) C dX11_cut_242 (by decide) rfl ?_
      obtain ⟨x8, ex8⟩ : ∃ x : Int32, x = (l3 + 1) := ⟨_, rfl⟩
      have hf := bd_at hf ex8
      refine v_iinc (v := x8) (j := 3) (lv2 := [(3, .int x8), (4, .int x7), (0, .ref (ad l0)), (1, .int l1)]) C dX11_cut_244 rfl (by rw [ex8]; rfl) (by decide) rfl ?_
      refine v_goto (tgt := 208) C dX11_cut_247 (by decide) ?_
      cases hf
      refine v_sub [2, 3, 0, 1] rfl ?_
      exact kb _ _ rfl
def fX11_cut_J261L7 (sh : Sh) (G : Hp) (l0 : Nat) (l1 : Int32) (l3 : Int32) (l4 : Int32) (s0 : Int32) (s1 : Nat) : Option ((Hp × Int32) ⊕ ((Hp) ⊕ (Hp))) := (fX11_token sh G s1 s0 l1 l4 0).bind fun G2 => bd ((l1 + l3) : Int32) fun x3 => some (.inl (G2, x3))
set_option maxHeartbeats 4000000 in
theorem tX11_cut_J261L7 {E : EX} {ad : Nat → Nat} {sh : Sh} {G : Hp} {l0 : Nat} {l1 : Int32} {l3 : Int32} {l4 : Int32} {s0 : Int32} {s1 : Nat} {o : (Hp × Int32) ⊕ ((Hp) ⊕ (Hp))} (C : Cx E RX11 cX11_cut 8 none 3 0 0) (hC : Cl sh G) (h_l0 : sh[l0]? = some (0, 11)) (h_s1 : sh[s1]? = some (0, 11)) (hf : fX11_cut_J261L7 sh G l0 l1 l3 l4 s0 s1 = some o) (kb : ∀ (G2 : Hp) (b_l1 : Int32), o = .inl (G2, b_l1) → Cl sh G2 → VV E 0 0 (wq (xT E) ad G2 sh) 7 [(0, .ref (ad l0)), (1, .int b_l1)] []) (kx294 : ∀ (G2 : Hp), o = .inr (.inl G2) → Cl sh G2 → VV E 0 0 (wq (xT E) ad G2 sh) 294 [(0, .ref (ad l0))] []) (kx31 : ∀ (G2 : Hp), o = .inr (.inr G2) → Cl sh G2 → VV E 0 0 (wq (xT E) ad G2 sh) 31 [(0, .ref (ad l0))] []) : VV E 0 0 (wq (xT E) ad G sh) 261 [(0, .ref (ad l0)), (1, .int l1), (3, .int l3), (4, .int l4)] [.int s0, .ref (ad s1)] := by
  unfold fX11_cut_J261L7 at hf
  refine v_iload_n C 1 dX11_cut_261 rfl rfl ?_
  refine v_iload C 3 dX11_cut_262 rfl ?_
  refine v_lconst (v := 0) C dX11_cut_264 (by decide) ?_
  obtain ⟨G2, qr1, hf⟩ := bn hf
  refine v_callVv (As := [.int s0, .int l1, .int l4, .long 0]) (rest := []) C (sX11_token h_s1 qr1) cs_X11_212 (by decide) h_s1 rfl hC rfl rfl rfl (Nat.le_of_ble_eq_true rfl) ⟨Nat.le_refl _, Nat.le_refl _⟩ dX11_cut_265 (fun hC => ?_)
  refine v_iload_n C 1 dX11_cut_268 rfl rfl ?_
  refine v_iload_n C 2 dX11_cut_269 rfl rfl ?_
  refine v_iadd C dX11_cut_270 ?_
  refine v_topi (fun x3 ex3 => ?_)
  have hf := bd_at hf ex3
  refine v_istore_n (lv2 := [(1, .int x3), (0, .ref (ad l0)), (3, .int l3), (4, .int l4)]) C dX11_cut_271 rfl (by decide) rfl ?_
  refine v_goto (tgt := 291) C dX11_cut_272 (by decide) ?_
  refine v_goto (tgt := 7) C dX11_cut_291 (by decide) ?_
  cases hf
  refine v_sub [1, 0] rfl ?_
  exact kb _ _ rfl hC
def fX11_cut_S85 (sh : Sh) (l0 : Nat) (l1 : Int32) (G : Hp) (l3 : Int32) (l4 : Int64) : Option ((Int32 × Int64) ⊕ ((Int32 × Int64))) := (fX11_byteAt sh G l0 (l1 + l3)).bind fun r1 => (fX11_isLetter r1).bind fun r2 => if r2 = 0 then some (.inr (l3, l4)) else if 8 ≤ l3 then bd ((l3 + 1) : Int32) fun x5 => some (.inl (x5, l4)) else (fX11_byteAt sh G l0 (l1 + l3)).bind fun r6 => (fX11_appends l4 r6).bind fun r7 => bd ((l3 + 1) : Int32) fun x8 => some (.inl (x8, r7))
set_option maxHeartbeats 4000000 in
theorem tX11_cut_S85 {E : EX} {ad : Nat → Nat} {sh : Sh} {G : Hp} {l0 : Nat} {l1 : Int32} {l3 : Int32} {l4 : Int64} {o : (Int32 × Int64) ⊕ ((Int32 × Int64))} (C : Cx E RX11 cX11_cut 8 none 3 0 0) (hC : Cl sh G) (h_l0 : sh[l0]? = some (0, 11)) (hf : fX11_cut_S85 sh l0 l1 G l3 l4 = some o) (kb : ∀ (b_l3 : Int32) (b_l4 : Int64), o = .inl (b_l3, b_l4) → VV E 0 0 (wq (xT E) ad G sh) 85 [(0, .ref (ad l0)), (1, .int l1), (3, .int b_l3), (4, .long b_l4)] []) (kx124 : ∀ (b_l3 : Int32) (b_l4 : Int64), o = .inr (b_l3, b_l4) → VV E 0 0 (wq (xT E) ad G sh) 124 [(0, .ref (ad l0)), (1, .int l1), (3, .int b_l3), (4, .long b_l4)] []) : VV E 0 0 (wq (xT E) ad G sh) 85 [(0, .ref (ad l0)), (1, .int l1), (3, .int l3), (4, .long l4)] [] := by
  unfold fX11_cut_S85 at hf
  refine v_aload_n C 0 dX11_cut_85 rfl rfl ?_
  refine v_iload_n C 1 dX11_cut_86 rfl rfl ?_
  refine v_iload_n C 2 dX11_cut_87 rfl rfl ?_
  refine v_iadd C dX11_cut_88 ?_
  obtain ⟨r1, qr1, hf⟩ := bn hf
  refine v_callVi (As := [.int (l1 + l3)]) (rest := []) C (sX11_byteAt h_l0 qr1) cs_X11_208 (by decide) h_l0 rfl hC rfl rfl rfl (Nat.le_of_ble_eq_true rfl) ⟨Nat.le_refl _, Nat.le_refl _⟩ dX11_cut_89 (fun hC => ?_)
  obtain ⟨r2, qr2, hf⟩ := bn hf
  refine v_callSi (As := [.int r1]) (rest := []) C (sX11_isLetter  qr2) cs_X11_216 (by decide) hC rfl rfl rfl (Nat.le_of_ble_eq_true rfl) ⟨Nat.le_refl _, Nat.le_refl _⟩ dX11_cut_92 (fun hC => ?_)
  refine v_if_eq (tgt := 124) C dX11_cut_95 (by decide) (fun c3 => ?_) (fun c3 => ?_)
  · have hf := ip hf c3
    cases hf
    refine v_sub [0, 1, 2, 3] rfl ?_
    exact kx124 _ _ rfl
  · have hf := im hf c3
    refine v_iload_n C 2 dX11_cut_98 rfl rfl ?_
    refine v_bipush (v := 8) C dX11_cut_99 (by decide) ?_
    refine v_icmp_ge (tgt := 118) C dX11_cut_101 (by decide) (fun c4 => ?_) (fun c4 => ?_)
    · have hf := ip hf c4
      obtain ⟨x5, ex5⟩ : ∃ x : Int32, x = (l3 + 1) := ⟨_, rfl⟩
      have hf := bd_at hf ex5
      refine v_iinc (v := x5) (j := 2) (lv2 := [(3, .int x5), (0, .ref (ad l0)), (1, .int l1), (4, .long l4)]) C dX11_cut_118 rfl (by rw [ex5]; rfl) (by decide) rfl ?_
      refine v_goto (tgt := 85) C dX11_cut_121 (by decide) ?_
      cases hf
      refine v_sub [1, 2, 0, 3] rfl ?_
      exact kb _ _ rfl
    · have hf := im hf c4
      refine v_lload C 3 dX11_cut_104 rfl ?_
      refine v_aload_n C 0 dX11_cut_106 rfl rfl ?_
      refine v_iload_n C 1 dX11_cut_107 rfl rfl ?_
      refine v_iload_n C 2 dX11_cut_108 rfl rfl ?_
      refine v_iadd C dX11_cut_109 ?_
      obtain ⟨r6, qr6, hf⟩ := bn hf
      refine v_callVi (As := [.int (l1 + l3)]) (rest := [.long l4]) C (sX11_byteAt h_l0 qr6) cs_X11_208 (by decide) h_l0 rfl hC rfl rfl rfl (Nat.le_of_ble_eq_true rfl) ⟨Nat.le_refl _, Nat.le_refl _⟩ dX11_cut_110 (fun hC => ?_)
      obtain ⟨r7, qr7, hf⟩ := bn hf
      refine v_callSl (As := [.long l4, .int r6]) (rest := []) C (sX11_appends  qr7) cs_X11_201 (by decide) hC rfl rfl rfl (Nat.le_of_ble_eq_true rfl) ⟨Nat.le_refl _, Nat.le_refl _⟩ dX11_cut_113 (fun hC => ?_)
      refine v_lstore (lv2 := [(4, .long r7), (0, .ref (ad l0)), (1, .int l1), (3, .int l3)]) C dX11_cut_116 (by decide) rfl ?_
      obtain ⟨x8, ex8⟩ : ∃ x : Int32, x = (l3 + 1) := ⟨_, rfl⟩
      have hf := bd_at hf ex8
      refine v_iinc (v := x8) (j := 3) (lv2 := [(3, .int x8), (4, .long r7), (0, .ref (ad l0)), (1, .int l1)]) C dX11_cut_118 rfl (by rw [ex8]; rfl) (by decide) rfl ?_
      refine v_goto (tgt := 85) C dX11_cut_121 (by decide) ?_
      cases hf
      refine v_sub [2, 3, 0, 1] rfl ?_
      exact kb _ _ rfl
def fX11_cut_J179L7 (sh : Sh) (G : Hp) (l0 : Nat) (l1 : Int32) (l3 : Int32) (l4 : Int64) (l6 : Int32) : Option ((Hp × Int32) ⊕ ((Hp) ⊕ (Hp))) := (fX11_token sh G l0 l6 l1 0 l4).bind fun G2 => bd ((l1 + l3) : Int32) fun x3 => some (.inl (G2, x3))
set_option maxHeartbeats 4000000 in
theorem tX11_cut_J179L7 {E : EX} {ad : Nat → Nat} {sh : Sh} {G : Hp} {l0 : Nat} {l1 : Int32} {l3 : Int32} {l4 : Int64} {l6 : Int32} {o : (Hp × Int32) ⊕ ((Hp) ⊕ (Hp))} (C : Cx E RX11 cX11_cut 8 none 3 0 0) (hC : Cl sh G) (h_l0 : sh[l0]? = some (0, 11)) (hf : fX11_cut_J179L7 sh G l0 l1 l3 l4 l6 = some o) (kb : ∀ (G2 : Hp) (b_l1 : Int32), o = .inl (G2, b_l1) → Cl sh G2 → VV E 0 0 (wq (xT E) ad G2 sh) 7 [(0, .ref (ad l0)), (1, .int b_l1)] []) (kx294 : ∀ (G2 : Hp), o = .inr (.inl G2) → Cl sh G2 → VV E 0 0 (wq (xT E) ad G2 sh) 294 [(0, .ref (ad l0))] []) (kx31 : ∀ (G2 : Hp), o = .inr (.inr G2) → Cl sh G2 → VV E 0 0 (wq (xT E) ad G2 sh) 31 [(0, .ref (ad l0))] []) : VV E 0 0 (wq (xT E) ad G sh) 179 [(0, .ref (ad l0)), (1, .int l1), (3, .int l3), (4, .long l4), (6, .int l6)] [] := by
  unfold fX11_cut_J179L7 at hf
  refine v_aload_n C 0 dX11_cut_179 rfl rfl ?_
  refine v_iload C 4 dX11_cut_180 rfl ?_
  refine v_iload_n C 1 dX11_cut_182 rfl rfl ?_
  refine v_iconst (v := 0) C dX11_cut_183 (by decide) ?_
  refine v_lload C 3 dX11_cut_184 rfl ?_
  obtain ⟨G2, qr1, hf⟩ := bn hf
  refine v_callVv (As := [.int l6, .int l1, .int 0, .long l4]) (rest := []) C (sX11_token h_l0 qr1) cs_X11_212 (by decide) h_l0 rfl hC rfl rfl rfl (Nat.le_of_ble_eq_true rfl) ⟨Nat.le_refl _, Nat.le_refl _⟩ dX11_cut_186 (fun hC => ?_)
  refine v_iload_n C 1 dX11_cut_189 rfl rfl ?_
  refine v_iload_n C 2 dX11_cut_190 rfl rfl ?_
  refine v_iadd C dX11_cut_191 ?_
  refine v_topi (fun x3 ex3 => ?_)
  have hf := bd_at hf ex3
  refine v_istore_n (lv2 := [(1, .int x3), (0, .ref (ad l0)), (3, .int l3), (4, .long l4), (6, .int l6)]) C dX11_cut_192 rfl (by decide) rfl ?_
  refine v_goto (tgt := 291) C dX11_cut_193 (by decide) ?_
  refine v_goto (tgt := 7) C dX11_cut_291 (by decide) ?_
  cases hf
  refine v_sub [1, 0] rfl ?_
  exact kb _ _ rfl hC
def fX11_cut_S146 (sh : Sh) (l0 : Nat) (l1 : Int32) (l3 : Int32) (l4 : Int64) (G : Hp) (l6 : Int32) (l7 : Int32) : Option ((Int32 × Int32) ⊕ ((Int32))) := if 26 ≤ l7 then some (.inr l6) else (ldA sh G l0 9 4).bind fun a2 => (aJ sh G a2 l7).bind fun v3 => if (lg_cmp v3 l4) = 0 then bd (((20 : Int32) + l7) : Int32) fun x6 => bd ((l7 + 1) : Int32) fun x7 => some (.inl (x6, x7)) else bd ((l7 + 1) : Int32) fun x5 => some (.inl (l6, x5))
set_option maxHeartbeats 4000000 in
theorem tX11_cut_S146 {E : EX} {ad : Nat → Nat} {sh : Sh} {G : Hp} {l0 : Nat} {l1 : Int32} {l3 : Int32} {l4 : Int64} {l6 : Int32} {l7 : Int32} {o : (Int32 × Int32) ⊕ ((Int32))} (C : Cx E RX11 cX11_cut 8 none 3 0 0) (hC : Cl sh G) (h_l0 : sh[l0]? = some (0, 11)) (hf : fX11_cut_S146 sh l0 l1 l3 l4 G l6 l7 = some o) (kb : ∀ (b_l6 : Int32) (b_l7 : Int32), o = .inl (b_l6, b_l7) → VV E 0 0 (wq (xT E) ad G sh) 146 [(0, .ref (ad l0)), (1, .int l1), (3, .int l3), (4, .long l4), (6, .int b_l6), (7, .int b_l7)] []) (kx179 : ∀ (b_l6 : Int32), o = .inr b_l6 → VV E 0 0 (wq (xT E) ad G sh) 179 [(0, .ref (ad l0)), (1, .int l1), (3, .int l3), (4, .long l4), (6, .int b_l6)] []) : VV E 0 0 (wq (xT E) ad G sh) 146 [(0, .ref (ad l0)), (1, .int l1), (3, .int l3), (4, .long l4), (6, .int l6), (7, .int l7)] [] := by
  unfold fX11_cut_S146 at hf
  refine v_iload C 5 dX11_cut_146 rfl ?_
  refine v_bipush (v := 26) C dX11_cut_148 (by decide) ?_
  refine v_icmp_ge (tgt := 179) C dX11_cut_150 (by decide) (fun c1 => ?_) (fun c1 => ?_)
  · have hf := ip hf c1
    cases hf
    refine v_sub [0, 1, 2, 3, 4] rfl ?_
    exact kx179 _ rfl
  · have hf := im hf c1
    refine v_aload_n C 0 dX11_cut_153 rfl rfl ?_
    obtain ⟨a2, qa2, hf⟩ := bn hf
    refine v_getA C h_l0 fl_X11_34 qa2 dX11_cut_154 (fun h_a2 => ?_)
    refine v_iload C 5 dX11_cut_157 rfl ?_
    obtain ⟨v3, qv3, hf⟩ := bn hf
    refine v_lald C h_a2 qv3 dX11_cut_159 ?_
    refine v_lload C 3 dX11_cut_160 rfl ?_
    refine v_lcmp C dX11_cut_162 ?_
    refine v_if_ne (tgt := 173) C dX11_cut_163 (by decide) (fun c4 => ?_) (fun c4 => ?_)
    · have hf := im hf c4
      obtain ⟨x5, ex5⟩ : ∃ x : Int32, x = (l7 + 1) := ⟨_, rfl⟩
      have hf := bd_at hf ex5
      refine v_iinc (v := x5) (j := 5) (lv2 := [(7, .int x5), (0, .ref (ad l0)), (1, .int l1), (3, .int l3), (4, .long l4), (6, .int l6)]) C dX11_cut_173 rfl (by rw [ex5]; rfl) (by decide) rfl ?_
      refine v_goto (tgt := 146) C dX11_cut_176 (by decide) ?_
      cases hf
      refine v_sub [1, 2, 3, 4, 5, 0] rfl ?_
      exact kb _ _ rfl
    · have hf := ip hf c4
      refine v_bipush (v := 20) C dX11_cut_166 (by decide) ?_
      refine v_iload C 5 dX11_cut_168 rfl ?_
      refine v_iadd C dX11_cut_170 ?_
      refine v_topi (fun x6 ex6 => ?_)
      have hf := bd_at hf ex6
      refine v_istore (lv2 := [(6, .int x6), (0, .ref (ad l0)), (1, .int l1), (3, .int l3), (4, .long l4), (7, .int l7)]) C dX11_cut_171 (by decide) rfl ?_
      obtain ⟨x7, ex7⟩ : ∃ x : Int32, x = (l7 + 1) := ⟨_, rfl⟩
      have hf := bd_at hf ex7
      refine v_iinc (v := x7) (j := 5) (lv2 := [(7, .int x7), (6, .int x6), (0, .ref (ad l0)), (1, .int l1), (3, .int l3), (4, .long l4)]) C dX11_cut_173 rfl (by rw [ex7]; rfl) (by decide) rfl ?_
      refine v_goto (tgt := 146) C dX11_cut_176 (by decide) ?_
      cases hf
      refine v_sub [2, 3, 4, 5, 1, 0] rfl ?_
      exact kb _ _ rfl
def fX11_cut_J135L7 (sh : Sh) (G : Hp) (l0 : Nat) (l1 : Int32) (l3 : Int32) (l4 : Int64) (s0 : Int32) : Option ((Hp × Int32) ⊕ ((Hp) ⊕ (Hp))) := if 8 < l3 then fX11_cut_J179L7 sh G l0 l1 l3 l4 s0 else (iter (fun s : Int32 × Int32 => fX11_cut_S146 sh l0 l1 l3 l4 G s.1 s.2) fuel ((s0, 0) : Int32 × Int32)).bind (fun u4 => bd u4 fun x3 => fX11_cut_J179L7 sh G l0 l1 l3 l4 x3)
set_option maxHeartbeats 4000000 in
theorem tX11_cut_J135L7 {E : EX} {ad : Nat → Nat} {sh : Sh} {G : Hp} {l0 : Nat} {l1 : Int32} {l3 : Int32} {l4 : Int64} {s0 : Int32} {o : (Hp × Int32) ⊕ ((Hp) ⊕ (Hp))} (C : Cx E RX11 cX11_cut 8 none 3 0 0) (hC : Cl sh G) (h_l0 : sh[l0]? = some (0, 11)) (hf : fX11_cut_J135L7 sh G l0 l1 l3 l4 s0 = some o) (kb : ∀ (G2 : Hp) (b_l1 : Int32), o = .inl (G2, b_l1) → Cl sh G2 → VV E 0 0 (wq (xT E) ad G2 sh) 7 [(0, .ref (ad l0)), (1, .int b_l1)] []) (kx294 : ∀ (G2 : Hp), o = .inr (.inl G2) → Cl sh G2 → VV E 0 0 (wq (xT E) ad G2 sh) 294 [(0, .ref (ad l0))] []) (kx31 : ∀ (G2 : Hp), o = .inr (.inr G2) → Cl sh G2 → VV E 0 0 (wq (xT E) ad G2 sh) 31 [(0, .ref (ad l0))] []) : VV E 0 0 (wq (xT E) ad G sh) 135 [(0, .ref (ad l0)), (1, .int l1), (3, .int l3), (4, .long l4)] [.int s0] := by
  unfold fX11_cut_J135L7 at hf
  refine v_istore (lv2 := [(6, .int s0), (0, .ref (ad l0)), (1, .int l1), (3, .int l3), (4, .long l4)]) C dX11_cut_135 (by decide) rfl ?_
  refine v_iload_n C 3 dX11_cut_137 rfl rfl ?_
  refine v_bipush (v := 8) C dX11_cut_138 (by decide) ?_
  refine v_icmp_gt (tgt := 179) C dX11_cut_140 (by decide) (fun c1 => ?_) (fun c1 => ?_)
  · have hf := ip hf c1
    refine v_sub [1, 2, 3, 4, 0] rfl ?_
    exact tX11_cut_J179L7 C hC h_l0 hf kb kx294 kx31
  · have hf := im hf c1
    refine v_iconst (v := 0) C dX11_cut_143 (by decide) ?_
    refine v_istore (lv2 := [(7, .int 0), (6, .int s0), (0, .ref (ad l0)), (1, .int l1), (3, .int l3), (4, .long l4)]) C dX11_cut_144 (by decide) rfl ?_
    obtain ⟨r2, qr2, hf⟩ := bn hf
    refine v_sub [2, 3, 4, 5, 1, 0] rfl ?_
    refine iter_sound (P := (fun s : Int32 × Int32 => VV E 0 0 (wq (xT E) ad (G) sh) 146 [(0, .ref (ad l0)), (1, .int (l1)), (3, .int (l3)), (4, .long (l4)), (6, .int (s.1)), (7, .int (s.2))] [])) (X := fun r => r = r2) (fun jsr2 jor2 hor2 jbr2 jxr2 => tX11_cut_S146 C hC h_l0 hor2 (fun _ _ e => jbr2 _ e) ?_) fuel _ r2 qr2 rfl
    · intro x3 hu
      have e := jxr2 _ hu
      subst e
      have hf := bd_at hf (rfl : x3 = _)
      refine v_sub [0, 1, 2, 3, 4] rfl ?_
      exact tX11_cut_J179L7 C hC h_l0 hf kb kx294 kx31
def fX11_cut_S7 (sh : Sh) (l0 : Nat) (G : Hp) (l1 : Int32) : Option ((Hp × Int32) ⊕ ((Hp) ⊕ (Hp))) := if 400 < (G.1 l0 10) then some (.inr (.inl G)) else (fX11_byteAt sh G l0 l1).bind fun r2 => if l1 < (G.1 l0 4) then if r2 = 9 then bd ((l1 + 1) : Int32) fun x5 => some (.inl (G, x5)) else if r2 = 10 then bd ((l1 + 1) : Int32) fun x7 => some (.inl (G, x7)) else if r2 = 13 then bd ((l1 + 1) : Int32) fun x9 => some (.inl (G, x9)) else if r2 = 32 then bd ((l1 + 1) : Int32) fun x29 => some (.inl (G, x29)) else (fX11_isLetter r2).bind fun r11 => if r11 = 0 then (fX11_isDigit r2).bind fun r13 => if r13 = 0 then (fX11_byteAt sh G l0 (l1 + 1)).bind fun r15 => bp (fX11_sign sh G l0 l1 r2 r15) fun r16 G17 => bd ((l1 + r16) : Int32) fun x18 => some (.inl (G17, x18)) else (iter (fun s : Int32 × Int32 => fX11_cut_S208 sh l0 l1 G s.1 s.2) fuel ((0, 0) : Int32 × Int32)).bind (fun u23 => bd u23.1 fun x20 => bd u23.2 fun x21 => if x20 ≤ 4 then fX11_cut_J261L7 sh G l0 l1 x20 x21 2 l0 else fX11_cut_J261L7 sh G l0 l1 x20 x21 3 l0) else (iter (fun s : Int32 × Int64 => fX11_cut_S85 sh l0 l1 G s.1 s.2) fuel ((0, 0) : Int32 × Int64)).bind (fun u28 => bd u28.1 fun x25 => bd u28.2 fun x26 => if x25 ≤ 8 then fX11_cut_J135L7 sh G l0 l1 x25 x26 1 else fX11_cut_J135L7 sh G l0 l1 x25 x26 3) else some (.inr (.inr G))
set_option maxHeartbeats 4000000 in
theorem tX11_cut_S7 {E : EX} {ad : Nat → Nat} {sh : Sh} {G : Hp} {l0 : Nat} {l1 : Int32} {o : (Hp × Int32) ⊕ ((Hp) ⊕ (Hp))} (C : Cx E RX11 cX11_cut 8 none 3 0 0) (hC : Cl sh G) (h_l0 : sh[l0]? = some (0, 11)) (hf : fX11_cut_S7 sh l0 G l1 = some o) (kb : ∀ (G2 : Hp) (b_l1 : Int32), o = .inl (G2, b_l1) → Cl sh G2 → VV E 0 0 (wq (xT E) ad G2 sh) 7 [(0, .ref (ad l0)), (1, .int b_l1)] []) (kx294 : ∀ (G2 : Hp), o = .inr (.inl G2) → Cl sh G2 → VV E 0 0 (wq (xT E) ad G2 sh) 294 [(0, .ref (ad l0))] []) (kx31 : ∀ (G2 : Hp), o = .inr (.inr G2) → Cl sh G2 → VV E 0 0 (wq (xT E) ad G2 sh) 31 [(0, .ref (ad l0))] []) : VV E 0 0 (wq (xT E) ad G sh) 7 [(0, .ref (ad l0)), (1, .int l1)] [] := by
  unfold fX11_cut_S7 at hf
  refine v_aload_n C 0 dX11_cut_7 rfl rfl ?_
  refine v_getI C h_l0 fl_X11_205 dX11_cut_8 ?_
  refine v_sipush (v := 400) C dX11_cut_11 (by decide) ?_
  refine v_icmp_gt (tgt := 294) C dX11_cut_14 (by decide) (fun c1 => ?_) (fun c1 => ?_)
  · have hf := ip hf c1
    cases hf
    refine v_sub [0] rfl ?_
    exact kx294 _ rfl hC
  · have hf := im hf c1
    refine v_aload_n C 0 dX11_cut_17 rfl rfl ?_
    refine v_iload_n C 1 dX11_cut_18 rfl rfl ?_
    obtain ⟨r2, qr2, hf⟩ := bn hf
    refine v_callVi (As := [.int l1]) (rest := []) C (sX11_byteAt h_l0 qr2) cs_X11_208 (by decide) h_l0 rfl hC rfl rfl rfl (Nat.le_of_ble_eq_true rfl) ⟨Nat.le_refl _, Nat.le_refl _⟩ dX11_cut_19 (fun hC => ?_)
    refine v_istore_n (lv2 := [(2, .int r2), (0, .ref (ad l0)), (1, .int l1)]) C dX11_cut_22 rfl (by decide) rfl ?_
    refine v_iload_n C 2 dX11_cut_23 rfl rfl ?_
    refine v_aload_n C 1 dX11_cut_24 rfl rfl ?_
    refine v_getI C h_l0 fl_X11_196 dX11_cut_25 ?_
    refine v_icmp_lt (tgt := 43) C dX11_cut_28 (by decide) (fun c3 => ?_) (fun c3 => ?_)
    · have hf := ip hf c3
      refine v_iload_n C 0 dX11_cut_43 rfl rfl ?_
      refine v_bipush (v := 9) C dX11_cut_44 (by decide) ?_
      refine v_icmp_eq (tgt := 67) C dX11_cut_46 (by decide) (fun c4 => ?_) (fun c4 => ?_)
      · have hf := ip hf c4
        obtain ⟨x5, ex5⟩ : ∃ x : Int32, x = (l1 + 1) := ⟨_, rfl⟩
        have hf := bd_at hf ex5
        refine v_iinc (v := x5) (j := 2) (lv2 := [(1, .int x5), (2, .int r2), (0, .ref (ad l0))]) C dX11_cut_67 rfl (by rw [ex5]; rfl) (by decide) rfl ?_
        refine v_goto (tgt := 291) C dX11_cut_70 (by decide) ?_
        refine v_goto (tgt := 7) C dX11_cut_291 (by decide) ?_
        cases hf
        refine v_sub [2, 0] rfl ?_
        exact kb _ _ rfl hC
      · have hf := im hf c4
        refine v_iload_n C 0 dX11_cut_49 rfl rfl ?_
        refine v_bipush (v := 10) C dX11_cut_50 (by decide) ?_
        refine v_icmp_eq (tgt := 67) C dX11_cut_52 (by decide) (fun c6 => ?_) (fun c6 => ?_)
        · have hf := ip hf c6
          obtain ⟨x7, ex7⟩ : ∃ x : Int32, x = (l1 + 1) := ⟨_, rfl⟩
          have hf := bd_at hf ex7
          refine v_iinc (v := x7) (j := 2) (lv2 := [(1, .int x7), (2, .int r2), (0, .ref (ad l0))]) C dX11_cut_67 rfl (by rw [ex7]; rfl) (by decide) rfl ?_
          refine v_goto (tgt := 291) C dX11_cut_70 (by decide) ?_
          refine v_goto (tgt := 7) C dX11_cut_291 (by decide) ?_
          cases hf
          refine v_sub [2, 0] rfl ?_
          exact kb _ _ rfl hC
        · have hf := im hf c6
          refine v_iload_n C 0 dX11_cut_55 rfl rfl ?_
          refine v_bipush (v := 13) C dX11_cut_56 (by decide) ?_
          refine v_icmp_eq (tgt := 67) C dX11_cut_58 (by decide) (fun c8 => ?_) (fun c8 => ?_)
          · have hf := ip hf c8
            obtain ⟨x9, ex9⟩ : ∃ x : Int32, x = (l1 + 1) := ⟨_, rfl⟩
            have hf := bd_at hf ex9
            refine v_iinc (v := x9) (j := 2) (lv2 := [(1, .int x9), (2, .int r2), (0, .ref (ad l0))]) C dX11_cut_67 rfl (by rw [ex9]; rfl) (by decide) rfl ?_
            refine v_goto (tgt := 291) C dX11_cut_70 (by decide) ?_
            refine v_goto (tgt := 7) C dX11_cut_291 (by decide) ?_
            cases hf
            refine v_sub [2, 0] rfl ?_
            exact kb _ _ rfl hC
          · have hf := im hf c8
            refine v_iload_n C 0 dX11_cut_61 rfl rfl ?_
            refine v_bipush (v := 32) C dX11_cut_62 (by decide) ?_
            refine v_icmp_ne (tgt := 73) C dX11_cut_64 (by decide) (fun c10 => ?_) (fun c10 => ?_)
            · have hf := im hf c10
              refine v_iload_n C 0 dX11_cut_73 rfl rfl ?_
              obtain ⟨r11, qr11, hf⟩ := bn hf
              refine v_callSi (As := [.int r2]) (rest := []) C (sX11_isLetter  qr11) cs_X11_216 (by decide) hC rfl rfl rfl (Nat.le_of_ble_eq_true rfl) ⟨Nat.le_refl _, Nat.le_refl _⟩ dX11_cut_74 (fun hC => ?_)
              refine v_if_eq (tgt := 196) C dX11_cut_77 (by decide) (fun c12 => ?_) (fun c12 => ?_)
              · have hf := ip hf c12
                refine v_iload_n C 0 dX11_cut_196 rfl rfl ?_
                obtain ⟨r13, qr13, hf⟩ := bn hf
                refine v_callSi (As := [.int r2]) (rest := []) C (sX11_isDigit  qr13) cs_X11_220 (by decide) hC rfl rfl rfl (Nat.le_of_ble_eq_true rfl) ⟨Nat.le_refl _, Nat.le_refl _⟩ dX11_cut_197 (fun hC => ?_)
                refine v_if_eq (tgt := 275) C dX11_cut_200 (by decide) (fun c14 => ?_) (fun c14 => ?_)
                · have hf := ip hf c14
                  refine v_iload_n C 2 dX11_cut_275 rfl rfl ?_
                  refine v_aload_n C 1 dX11_cut_276 rfl rfl ?_
                  refine v_iload_n C 2 dX11_cut_277 rfl rfl ?_
                  refine v_iload_n C 0 dX11_cut_278 rfl rfl ?_
                  refine v_aload_n C 1 dX11_cut_279 rfl rfl ?_
                  refine v_iload_n C 2 dX11_cut_280 rfl rfl ?_
                  refine v_iconst (v := 1) C dX11_cut_281 (by decide) ?_
                  refine v_iadd C dX11_cut_282 ?_
                  obtain ⟨r15, qr15, hf⟩ := bn hf
                  refine v_callVi (As := [.int (l1 + 1)]) (rest := [.int r2, .int l1, .ref (ad l0), .int l1]) C (sX11_byteAt h_l0 qr15) cs_X11_208 (by decide) h_l0 rfl hC rfl rfl rfl (Nat.le_of_ble_eq_true rfl) ⟨Nat.le_refl _, Nat.le_refl _⟩ dX11_cut_283 (fun hC => ?_)
                  obtain ⟨r16, G17, qr16, hf⟩ := bpn hf
                  refine v_callVi (As := [.int l1, .int r2, .int r15]) (rest := [.int l1]) C (sX11_sign h_l0 qr16) cs_X11_223 (by decide) h_l0 rfl hC rfl rfl rfl (Nat.le_of_ble_eq_true rfl) ⟨Nat.le_refl _, Nat.le_refl _⟩ dX11_cut_286 (fun hC => ?_)
                  refine v_iadd C dX11_cut_289 ?_
                  refine v_topi (fun x18 ex18 => ?_)
                  have hf := bd_at hf ex18
                  refine v_istore_n (lv2 := [(1, .int x18), (2, .int r2), (0, .ref (ad l0))]) C dX11_cut_290 rfl (by decide) rfl ?_
                  refine v_goto (tgt := 7) C dX11_cut_291 (by decide) ?_
                  cases hf
                  refine v_sub [2, 0] rfl ?_
                  exact kb _ _ rfl hC
                · have hf := im hf c14
                  refine v_iconst (v := 0) C dX11_cut_203 (by decide) ?_
                  refine v_istore_n (lv2 := [(3, .int 0), (2, .int r2), (0, .ref (ad l0)), (1, .int l1)]) C dX11_cut_204 rfl (by decide) rfl ?_
                  refine v_iconst (v := 0) C dX11_cut_205 (by decide) ?_
                  refine v_istore (lv2 := [(4, .int 0), (3, .int 0), (2, .int r2), (0, .ref (ad l0)), (1, .int l1)]) C dX11_cut_206 (by decide) rfl ?_
                  obtain ⟨r19, qr19, hf⟩ := bn hf
                  refine v_sub [3, 4, 1, 0] rfl ?_
                  refine iter_sound (P := (fun s : Int32 × Int32 => VV E 0 0 (wq (xT E) ad (G) sh) 208 [(0, .ref (ad l0)), (1, .int (l1)), (3, .int (s.1)), (4, .int (s.2))] [])) (X := fun r => r = r19) (fun jsr19 jor19 hor19 jbr19 jxr19 => tX11_cut_S208 C hC h_l0 hor19 (fun _ _ e => jbr19 _ e) ?_) fuel _ r19 qr19 rfl
                  · intro x20 x21 hu
                    have e := jxr19 _ hu
                    subst e
                    have hf := bd_at hf (rfl : x20 = _)
                    have hf := bd_at hf (rfl : x21 = _)
                    refine v_aload_n C 0 dX11_cut_250 rfl rfl ?_
                    refine v_iload_n C 2 dX11_cut_251 rfl rfl ?_
                    refine v_iconst (v := 4) C dX11_cut_252 (by decide) ?_
                    refine v_icmp_le (tgt := 260) C dX11_cut_253 (by decide) (fun c22 => ?_) (fun c22 => ?_)
                    · have hf := ip hf c22
                      refine v_iconst (v := 2) C dX11_cut_260 (by decide) ?_
                      refine v_sub [0, 1, 2, 3] rfl ?_
                      exact tX11_cut_J261L7 C hC h_l0 h_l0 hf kb kx294 kx31
                    · have hf := im hf c22
                      refine v_iconst (v := 3) C dX11_cut_256 (by decide) ?_
                      refine v_goto (tgt := 261) C dX11_cut_257 (by decide) ?_
                      refine v_sub [0, 1, 2, 3] rfl ?_
                      exact tX11_cut_J261L7 C hC h_l0 h_l0 hf kb kx294 kx31
              · have hf := im hf c12
                refine v_iconst (v := 0) C dX11_cut_80 (by decide) ?_
                refine v_istore_n (lv2 := [(3, .int 0), (2, .int r2), (0, .ref (ad l0)), (1, .int l1)]) C dX11_cut_81 rfl (by decide) rfl ?_
                refine v_lconst (v := 0) C dX11_cut_82 (by decide) ?_
                refine v_lstore (lv2 := [(4, .long 0), (3, .int 0), (2, .int r2), (0, .ref (ad l0)), (1, .int l1)]) C dX11_cut_83 (by decide) rfl ?_
                obtain ⟨r24, qr24, hf⟩ := bn hf
                refine v_sub [3, 4, 1, 0] rfl ?_
                refine iter_sound (P := (fun s : Int32 × Int64 => VV E 0 0 (wq (xT E) ad (G) sh) 85 [(0, .ref (ad l0)), (1, .int (l1)), (3, .int (s.1)), (4, .long (s.2))] [])) (X := fun r => r = r24) (fun jsr24 jor24 hor24 jbr24 jxr24 => tX11_cut_S85 C hC h_l0 hor24 (fun _ _ e => jbr24 _ e) ?_) fuel _ r24 qr24 rfl
                · intro x25 x26 hu
                  have e := jxr24 _ hu
                  subst e
                  have hf := bd_at hf (rfl : x25 = _)
                  have hf := bd_at hf (rfl : x26 = _)
                  refine v_iload_n C 2 dX11_cut_124 rfl rfl ?_
                  refine v_bipush (v := 8) C dX11_cut_125 (by decide) ?_
                  refine v_icmp_le (tgt := 134) C dX11_cut_127 (by decide) (fun c27 => ?_) (fun c27 => ?_)
                  · have hf := ip hf c27
                    refine v_iconst (v := 1) C dX11_cut_134 (by decide) ?_
                    refine v_sub [0, 1, 2, 3] rfl ?_
                    exact tX11_cut_J135L7 C hC h_l0 hf kb kx294 kx31
                  · have hf := im hf c27
                    refine v_iconst (v := 3) C dX11_cut_130 (by decide) ?_
                    refine v_goto (tgt := 135) C dX11_cut_131 (by decide) ?_
                    refine v_sub [0, 1, 2, 3] rfl ?_
                    exact tX11_cut_J135L7 C hC h_l0 hf kb kx294 kx31
            · have hf := ip hf c10
              obtain ⟨x29, ex29⟩ : ∃ x : Int32, x = (l1 + 1) := ⟨_, rfl⟩
              have hf := bd_at hf ex29
              refine v_iinc (v := x29) (j := 2) (lv2 := [(1, .int x29), (2, .int r2), (0, .ref (ad l0))]) C dX11_cut_67 rfl (by rw [ex29]; rfl) (by decide) rfl ?_
              refine v_goto (tgt := 291) C dX11_cut_70 (by decide) ?_
              refine v_goto (tgt := 7) C dX11_cut_291 (by decide) ?_
              cases hf
              refine v_sub [2, 0] rfl ?_
              exact kb _ _ rfl hC
    · have hf := im hf c3
      cases hf
      refine v_sub [1] rfl ?_
      exact kx31 _ rfl hC
def fX11_cut (sh : Sh) (G : Hp) (l0 : Nat) : Option (Hp) := bd (sI G l0 10 0) fun G1 => (iter (fun s : Hp × Int32 => fX11_cut_S7 sh l0 s.1 s.2) fuel ((G1, 0) : Hp × Int32)).bind (Sum.elim (fun u4 => bd u4 fun G3 => some G3) (fun u8 => bd u8 fun G5 => (fX11_token sh G5 l0 0 (G5.1 l0 4) 0 0).bind fun G7 => some G7))
set_option maxHeartbeats 4000000 in
theorem tX11_cut {E : EX} {ad : Nat → Nat} {sh : Sh} {G : Hp} {l0 : Nat} {z : Hp} (C : Cx E RX11 cX11_cut 8 none 3 0 0) (hC : Cl sh G) (h_l0 : sh[l0]? = some (0, 11)) (hf : fX11_cut sh G l0 = some z) (kr : RCv E cX11_cut ad sh z) : VV E 0 0 (wq (xT E) ad G sh) 0 [(0, .ref (ad l0))] [] := by
  unfold fX11_cut at hf
  refine v_aload_n C 0 dX11_cut_0 rfl rfl ?_
  refine v_iconst (v := 0) C dX11_cut_1 (by decide) ?_
  refine v_putI C h_l0 fp_X11_205 dX11_cut_2 (fun G1 eG1 => ?_)
  have hf := bd_at hf eG1
  have hC : Cl sh G1 := by rw [eG1]; exact hC
  refine v_iconst (v := 0) C dX11_cut_5 (by decide) ?_
  refine v_istore_n (lv2 := [(1, .int 0), (0, .ref (ad l0))]) C dX11_cut_6 rfl (by decide) rfl ?_
  obtain ⟨r2, qr2, hf⟩ := bn hf
  refine v_sub [1, 0] rfl ?_
  refine iter_sound (P := (fun s : Hp × Int32 => Cl sh (s.1) → VV E 0 0 (wq (xT E) ad (s.1) sh) 7 [(0, .ref (ad l0)), (1, .int (s.2))] [])) (X := fun r => r = r2) (fun jsr2 jor2 hor2 jbr2 jxr2 hC => tX11_cut_S7 C hC h_l0 hor2 (fun _ _ e => jbr2 _ e) ?_ ?_) fuel _ r2 qr2 rfl hC
  · intro G3 hu hC
    have e := jxr2 _ hu
    subst e
    have hf := sm_l hf
    have hf := bd_at hf (rfl : G3 = _)
    cases hf
    exact kr _ _ dX11_cut_294 hC
  · intro G5 hu hC
    have e := jxr2 _ hu
    subst e
    have hf := sm_r hf
    have hf := bd_at hf (rfl : G5 = _)
    refine v_aload_n C 0 dX11_cut_31 rfl rfl ?_
    refine v_iconst (v := 0) C dX11_cut_32 (by decide) ?_
    refine v_aload_n C 0 dX11_cut_33 rfl rfl ?_
    refine v_getI C h_l0 fl_X11_196 dX11_cut_34 ?_
    refine v_iconst (v := 0) C dX11_cut_37 (by decide) ?_
    refine v_lconst (v := 0) C dX11_cut_38 (by decide) ?_
    obtain ⟨G7, qr6, hf⟩ := bn hf
    refine v_callVv (As := [.int 0, .int (G5.1 l0 4), .int 0, .long 0]) (rest := []) C (sX11_token h_l0 qr6) cs_X11_212 (by decide) h_l0 rfl hC rfl rfl rfl (Nat.le_of_ble_eq_true rfl) ⟨Nat.le_refl _, Nat.le_refl _⟩ dX11_cut_39 (fun hC => ?_)
    cases hf
    exact kr _ _ dX11_cut_42 hC
theorem sX11_cut {l : Launch} {sh : Sh} {G : Hp} {l0 : Nat} {z : Hp} (h_l0 : sh[l0]? = some (0, 11)) (hf : fX11_cut sh G l0 = some z) : MC l yX11_cut cX11_cut 8 none 3 0 0 sh sh G z (fun ad => [.ref (ad l0)]) (fun _ => none) := by
  refine MC_of rfl rfl (fun _ => Nat.le_of_ble_eq_true rfl) (fun E ad C hl hnm hC hQ => ?_)
  exact tX11_cut C hC h_l0 hf (fun pc lv hd hC => v_vret C hQ (fun _ _ => rfl) hC rfl hd)
