def fX11_fillsCheats_S26 (sh : Sh) (l0 : Nat) (l1 : Int32) (l2 : Int32) (G : Hp) (l3 : Int32) : Option ((Hp × Int32) ⊕ ((Hp))) := (ldA sh G l0 27 1).bind fun a1 => (aI sh G a1 (G.1 l0 18)).bind fun v2 => if v2 ≤ l3 then some (.inr G) else (fX11_setOf sh G l0 l2 l3).bind fun r4 => (fX11_isThere sh G l0 l2).bind fun r5 => if r5 = 0 then bd ((l3 + 1) : Int32) fun x7 => some (.inl (G, x7)) else (fX11_hasSoul r4).bind fun r8 => if r8 = 0 then bp (fX11_isTaken sh G l0 l1 r4) fun r11 G12 => if r11 = 0 then bd ((l3 + 1) : Int32) fun x18 => some (.inl (G12, x18)) else (ldA sh G12 l0 66 1).bind fun a14 => (asI sh G12 a14 (G12.1 l0 67) r4).bind fun G15 => bd (sI G15 l0 67 ((G15.1 l0 67) + 1)) fun G16 => bd ((l3 + 1) : Int32) fun x17 => some (.inl (G16, x17)) else bd ((l3 + 1) : Int32) fun x10 => some (.inl (G, x10))
set_option maxHeartbeats 4000000 in
theorem tX11_fillsCheats_S26 {E : EX} {ad : Nat → Nat} {sh : Sh} {G : Hp} {l0 : Nat} {l1 : Int32} {l2 : Int32} {l3 : Int32} {o : (Hp × Int32) ⊕ ((Hp))} (C : Cx E RX11 cX11_fillsCheats 5 none 3 0 0) (hC : Cl sh G) (h_l0 : sh[l0]? = some (0, 11)) (hf : fX11_fillsCheats_S26 sh l0 l1 l2 G l3 = some o) (kb : ∀ (G2 : Hp) (b_l3 : Int32), o = .inl (G2, b_l3) → Cl sh G2 → VV E 0 0 (wq (xT E) ad G2 sh) 26 [(0, .ref (ad l0)), (1, .int l1), (2, .int l2), (3, .int b_l3)] []) (kx103 : ∀ (G2 : Hp), o = .inr G2 → Cl sh G2 → VV E 0 0 (wq (xT E) ad G2 sh) 103 [(0, .ref (ad l0)), (1, .int l1), (2, .int l2)] []) : VV E 0 0 (wq (xT E) ad G sh) 26 [(0, .ref (ad l0)), (1, .int l1), (2, .int l2), (3, .int l3)] [] := by
  unfold fX11_fillsCheats_S26 at hf
  refine v_iload_n C 3 dX11_fillsCheats_26 rfl rfl ?_
  refine v_aload_n C 0 dX11_fillsCheats_27 rfl rfl ?_
  obtain ⟨a1, qa1, hf⟩ := bn hf
  refine v_getA C h_l0 fl_X11_58 qa1 dX11_fillsCheats_28 (fun h_a1 => ?_)
  refine v_aload_n C 0 dX11_fillsCheats_31 rfl rfl ?_
  refine v_getI C h_l0 fl_X11_257 dX11_fillsCheats_32 ?_
  obtain ⟨v2, qv2, hf⟩ := bn hf
  refine v_iald C h_a1 qv2 dX11_fillsCheats_35 ?_
  refine v_icmp_ge (tgt := 103) C dX11_fillsCheats_36 (by decide) (fun c3 => ?_) (fun c3 => ?_)
  · have hf := ip hf c3
    cases hf
    refine v_sub [0, 1, 2] rfl ?_
    exact kx103 _ rfl hC
  · have hf := im hf c3
    refine v_aload_n C 0 dX11_fillsCheats_39 rfl rfl ?_
    refine v_iload_n C 2 dX11_fillsCheats_40 rfl rfl ?_
    refine v_iload_n C 3 dX11_fillsCheats_41 rfl rfl ?_
    obtain ⟨r4, qr4, hf⟩ := bn hf
    refine v_callVi (As := [.int l2, .int l3]) (rest := []) C (sX11_setOf h_l0 qr4) cs_X11_428 (by decide) h_l0 rfl hC rfl rfl rfl (Nat.le_of_ble_eq_true rfl) ⟨Nat.le_refl _, Nat.le_refl _⟩ dX11_fillsCheats_42 (fun hC => ?_)
    refine v_istore (lv2 := [(4, .int r4), (0, .ref (ad l0)), (1, .int l1), (2, .int l2), (3, .int l3)]) C dX11_fillsCheats_45 (by decide) rfl ?_
    refine v_aload_n C 1 dX11_fillsCheats_47 rfl rfl ?_
    refine v_iload_n C 3 dX11_fillsCheats_48 rfl rfl ?_
    obtain ⟨r5, qr5, hf⟩ := bn hf
    refine v_callVi (As := [.int l2]) (rest := []) C (sX11_isThere h_l0 qr5) cs_X11_464 (by decide) h_l0 rfl hC rfl rfl rfl (Nat.le_of_ble_eq_true rfl) ⟨Nat.le_refl _, Nat.le_refl _⟩ dX11_fillsCheats_49 (fun hC => ?_)
    refine v_if_eq (tgt := 97) C dX11_fillsCheats_52 (by decide) (fun c6 => ?_) (fun c6 => ?_)
    · have hf := ip hf c6
      obtain ⟨x7, ex7⟩ : ∃ x : Int32, x = (l3 + 1) := ⟨_, rfl⟩
      have hf := bd_at hf ex7
      refine v_iinc (v := x7) (j := 4) (lv2 := [(3, .int x7), (4, .int r4), (0, .ref (ad l0)), (1, .int l1), (2, .int l2)]) C dX11_fillsCheats_97 rfl (by rw [ex7]; rfl) (by decide) rfl ?_
      refine v_goto (tgt := 26) C dX11_fillsCheats_100 (by decide) ?_
      cases hf
      refine v_sub [2, 3, 4, 0] rfl ?_
      exact kb _ _ rfl hC
    · have hf := im hf c6
      refine v_iload C 0 dX11_fillsCheats_55 rfl ?_
      obtain ⟨r8, qr8, hf⟩ := bn hf
      refine v_callSi (As := [.int r4]) (rest := []) C (sX11_hasSoul  qr8) cs_X11_443 (by decide) hC rfl rfl rfl (Nat.le_of_ble_eq_true rfl) ⟨Nat.le_refl _, Nat.le_refl _⟩ dX11_fillsCheats_57 (fun hC => ?_)
      refine v_if_ne (tgt := 97) C dX11_fillsCheats_60 (by decide) (fun c9 => ?_) (fun c9 => ?_)
      · have hf := im hf c9
        obtain ⟨x10, ex10⟩ : ∃ x : Int32, x = (l3 + 1) := ⟨_, rfl⟩
        have hf := bd_at hf ex10
        refine v_iinc (v := x10) (j := 4) (lv2 := [(3, .int x10), (4, .int r4), (0, .ref (ad l0)), (1, .int l1), (2, .int l2)]) C dX11_fillsCheats_97 rfl (by rw [ex10]; rfl) (by decide) rfl ?_
        refine v_goto (tgt := 26) C dX11_fillsCheats_100 (by decide) ?_
        cases hf
        refine v_sub [2, 3, 4, 0] rfl ?_
        exact kb _ _ rfl hC
      · have hf := ip hf c9
        refine v_aload_n C 1 dX11_fillsCheats_63 rfl rfl ?_
        refine v_iload_n C 2 dX11_fillsCheats_64 rfl rfl ?_
        refine v_iload C 0 dX11_fillsCheats_65 rfl ?_
        obtain ⟨r11, G12, qr11, hf⟩ := bpn hf
        refine v_callVi (As := [.int l1, .int r4]) (rest := []) C (sX11_isTaken h_l0 qr11) cs_X11_452 (by decide) h_l0 rfl hC rfl rfl rfl (Nat.le_of_ble_eq_true rfl) ⟨Nat.le_refl _, Nat.le_refl _⟩ dX11_fillsCheats_67 (fun hC => ?_)
        refine v_if_ne (tgt := 76) C dX11_fillsCheats_70 (by decide) (fun c13 => ?_) (fun c13 => ?_)
        · have hf := im hf c13
          refine v_aload_n C 1 dX11_fillsCheats_76 rfl rfl ?_
          obtain ⟨a14, qa14, hf⟩ := bn hf
          refine v_getA C h_l0 fl_X11_149 qa14 dX11_fillsCheats_77 (fun h_a14 => ?_)
          refine v_aload_n C 1 dX11_fillsCheats_80 rfl rfl ?_
          refine v_getI C h_l0 fl_X11_467 dX11_fillsCheats_81 ?_
          refine v_iload C 0 dX11_fillsCheats_84 rfl ?_
          obtain ⟨G15, qG15, hf⟩ := bn hf
          refine v_iast C h_a14 qG15 hC dX11_fillsCheats_86 (fun hC => ?_)
          refine v_aload_n C 1 dX11_fillsCheats_87 rfl rfl ?_
          refine v_dup C dX11_fillsCheats_88 rfl ?_
          refine v_getI C h_l0 fl_X11_467 dX11_fillsCheats_89 ?_
          refine v_iconst (v := 1) C dX11_fillsCheats_92 (by decide) ?_
          refine v_iadd C dX11_fillsCheats_93 ?_
          refine v_putI C h_l0 fp_X11_467 dX11_fillsCheats_94 (fun G16 eG16 => ?_)
          have hf := bd_at hf eG16
          have hC : Cl sh G16 := by rw [eG16]; exact hC
          obtain ⟨x17, ex17⟩ : ∃ x : Int32, x = (l3 + 1) := ⟨_, rfl⟩
          have hf := bd_at hf ex17
          refine v_iinc (v := x17) (j := 4) (lv2 := [(3, .int x17), (4, .int r4), (0, .ref (ad l0)), (1, .int l1), (2, .int l2)]) C dX11_fillsCheats_97 rfl (by rw [ex17]; rfl) (by decide) rfl ?_
          refine v_goto (tgt := 26) C dX11_fillsCheats_100 (by decide) ?_
          cases hf
          refine v_sub [2, 3, 4, 0] rfl ?_
          exact kb _ _ rfl hC
        · have hf := ip hf c13
          refine v_goto (tgt := 97) C dX11_fillsCheats_73 (by decide) ?_
          obtain ⟨x18, ex18⟩ : ∃ x : Int32, x = (l3 + 1) := ⟨_, rfl⟩
          have hf := bd_at hf ex18
          refine v_iinc (v := x18) (j := 4) (lv2 := [(3, .int x18), (4, .int r4), (0, .ref (ad l0)), (1, .int l1), (2, .int l2)]) C dX11_fillsCheats_97 rfl (by rw [ex18]; rfl) (by decide) rfl ?_
          refine v_goto (tgt := 26) C dX11_fillsCheats_100 (by decide) ?_
          cases hf
          refine v_sub [2, 3, 4, 0] rfl ?_
          exact kb _ _ rfl hC
def fX11_fillsCheats_S11 (sh : Sh) (l0 : Nat) (l1 : Int32) (G : Hp) (l2 : Int32) : Option ((Hp × Int32) ⊕ ((Hp))) := (ldA sh G l0 24 1).bind fun a1 => (aI sh G a1 (G.1 l0 18)).bind fun v2 => if v2 ≤ l2 then some (.inr G) else (iter (fun s : Hp × Int32 => fX11_fillsCheats_S26 sh l0 l1 l2 s.1 s.2) fuel ((G, (-1)) : Hp × Int32)).bind (fun u7 => bd u7 fun G5 => bd ((l2 + 1) : Int32) fun x6 => some (.inl (G5, x6)))
set_option maxHeartbeats 4000000 in
theorem tX11_fillsCheats_S11 {E : EX} {ad : Nat → Nat} {sh : Sh} {G : Hp} {l0 : Nat} {l1 : Int32} {l2 : Int32} {o : (Hp × Int32) ⊕ ((Hp))} (C : Cx E RX11 cX11_fillsCheats 5 none 3 0 0) (hC : Cl sh G) (h_l0 : sh[l0]? = some (0, 11)) (hf : fX11_fillsCheats_S11 sh l0 l1 G l2 = some o) (kb : ∀ (G2 : Hp) (b_l2 : Int32), o = .inl (G2, b_l2) → Cl sh G2 → VV E 0 0 (wq (xT E) ad G2 sh) 11 [(0, .ref (ad l0)), (1, .int l1), (2, .int b_l2)] []) (kx109 : ∀ (G2 : Hp), o = .inr G2 → Cl sh G2 → VV E 0 0 (wq (xT E) ad G2 sh) 109 [(0, .ref (ad l0)), (1, .int l1)] []) : VV E 0 0 (wq (xT E) ad G sh) 11 [(0, .ref (ad l0)), (1, .int l1), (2, .int l2)] [] := by
  unfold fX11_fillsCheats_S11 at hf
  refine v_iload_n C 2 dX11_fillsCheats_11 rfl rfl ?_
  refine v_aload_n C 0 dX11_fillsCheats_12 rfl rfl ?_
  obtain ⟨a1, qa1, hf⟩ := bn hf
  refine v_getA C h_l0 fl_X11_49 qa1 dX11_fillsCheats_13 (fun h_a1 => ?_)
  refine v_aload_n C 0 dX11_fillsCheats_16 rfl rfl ?_
  refine v_getI C h_l0 fl_X11_257 dX11_fillsCheats_17 ?_
  obtain ⟨v2, qv2, hf⟩ := bn hf
  refine v_iald C h_a1 qv2 dX11_fillsCheats_20 ?_
  refine v_icmp_ge (tgt := 109) C dX11_fillsCheats_21 (by decide) (fun c3 => ?_) (fun c3 => ?_)
  · have hf := ip hf c3
    cases hf
    refine v_sub [0, 1] rfl ?_
    exact kx109 _ rfl hC
  · have hf := im hf c3
    refine v_iconst (v := (-1)) C dX11_fillsCheats_24 (by decide) ?_
    refine v_istore_n (lv2 := [(3, .int (-1)), (0, .ref (ad l0)), (1, .int l1), (2, .int l2)]) C dX11_fillsCheats_25 rfl (by decide) rfl ?_
    obtain ⟨r4, qr4, hf⟩ := bn hf
    refine v_sub [1, 2, 3, 0] rfl ?_
    refine iter_sound (P := (fun s : Hp × Int32 => Cl sh (s.1) → VV E 0 0 (wq (xT E) ad (s.1) sh) 26 [(0, .ref (ad l0)), (1, .int (l1)), (2, .int (l2)), (3, .int (s.2))] [])) (X := fun r => r = r4) (fun jsr4 jor4 hor4 jbr4 jxr4 hC => tX11_fillsCheats_S26 C hC h_l0 hor4 (fun _ _ e => jbr4 _ e) ?_) fuel _ r4 qr4 rfl hC
    · intro G5 hu hC
      have e := jxr4 _ hu
      subst e
      have hf := bd_at hf (rfl : G5 = _)
      obtain ⟨x6, ex6⟩ : ∃ x : Int32, x = (l2 + 1) := ⟨_, rfl⟩
      have hf := bd_at hf ex6
      refine v_iinc (v := x6) (j := 2) (lv2 := [(2, .int x6), (0, .ref (ad l0)), (1, .int l1)]) C dX11_fillsCheats_103 rfl (by rw [ex6]; rfl) (by decide) rfl ?_
      refine v_goto (tgt := 11) C dX11_fillsCheats_106 (by decide) ?_
      cases hf
      refine v_sub [1, 2, 0] rfl ?_
      exact kb _ _ rfl hC
def fX11_fillsCheats (sh : Sh) (G : Hp) (l0 : Nat) (l1 : Int32) : Option (Hp) := (fX11_copies sh G l0).bind fun G2 => bd (sI G2 l0 67 0) fun G3 => (iter (fun s : Hp × Int32 => fX11_fillsCheats_S11 sh l0 l1 s.1 s.2) fuel ((G3, 0) : Hp × Int32)).bind (fun u6 => bd u6 fun G5 => some G5)
set_option maxHeartbeats 4000000 in
theorem tX11_fillsCheats {E : EX} {ad : Nat → Nat} {sh : Sh} {G : Hp} {l0 : Nat} {l1 : Int32} {z : Hp} (C : Cx E RX11 cX11_fillsCheats 5 none 3 0 0) (hC : Cl sh G) (h_l0 : sh[l0]? = some (0, 11)) (hf : fX11_fillsCheats sh G l0 l1 = some z) (kr : RCv E cX11_fillsCheats ad sh z) : VV E 0 0 (wq (xT E) ad G sh) 0 [(0, .ref (ad l0)), (1, .int l1)] [] := by
  unfold fX11_fillsCheats at hf
  refine v_aload_n C 0 dX11_fillsCheats_0 rfl rfl ?_
  obtain ⟨G2, qr1, hf⟩ := bn hf
  refine v_callVv (As := []) (rest := []) C (sX11_copies h_l0 qr1) cs_X11_434 (by decide) h_l0 rfl hC rfl rfl rfl (Nat.le_of_ble_eq_true rfl) ⟨Nat.le_refl _, Nat.le_refl _⟩ dX11_fillsCheats_1 (fun hC => ?_)
  refine v_aload_n C 0 dX11_fillsCheats_4 rfl rfl ?_
  refine v_iconst (v := 0) C dX11_fillsCheats_5 (by decide) ?_
  refine v_putI C h_l0 fp_X11_467 dX11_fillsCheats_6 (fun G3 eG3 => ?_)
  have hf := bd_at hf eG3
  have hC : Cl sh G3 := by rw [eG3]; exact hC
  refine v_iconst (v := 0) C dX11_fillsCheats_9 (by decide) ?_
  refine v_istore_n (lv2 := [(2, .int 0), (0, .ref (ad l0)), (1, .int l1)]) C dX11_fillsCheats_10 rfl (by decide) rfl ?_
  obtain ⟨r4, qr4, hf⟩ := bn hf
  refine v_sub [1, 2, 0] rfl ?_
  refine iter_sound (P := (fun s : Hp × Int32 => Cl sh (s.1) → VV E 0 0 (wq (xT E) ad (s.1) sh) 11 [(0, .ref (ad l0)), (1, .int (l1)), (2, .int (s.2))] [])) (X := fun r => r = r4) (fun jsr4 jor4 hor4 jbr4 jxr4 hC => tX11_fillsCheats_S11 C hC h_l0 hor4 (fun _ _ e => jbr4 _ e) ?_) fuel _ r4 qr4 rfl hC
  · intro G5 hu hC
    have e := jxr4 _ hu
    subst e
    have hf := bd_at hf (rfl : G5 = _)
    cases hf
    exact kr _ _ dX11_fillsCheats_109 hC
theorem sX11_fillsCheats {l : Launch} {sh : Sh} {G : Hp} {l0 : Nat} {l1 : Int32} {z : Hp} (h_l0 : sh[l0]? = some (0, 11)) (hf : fX11_fillsCheats sh G l0 l1 = some z) : MC l yX11_fillsCheats cX11_fillsCheats 5 none 3 0 0 sh sh G z (fun ad => [.ref (ad l0), .int l1]) (fun _ => none) := by
  refine MC_of rfl rfl (fun _ => Nat.le_of_ble_eq_true rfl) (fun E ad C hl hnm hC hQ => ?_)
  exact tX11_fillsCheats C hC h_l0 hf (fun pc lv hd hC => v_vret C hQ (fun _ _ => rfl) hC rfl hd)
def fX11_shutBy_S4 (sh : Sh) (l0 : Nat) (l1 : Int32) (G : Hp) (l2 : Int32) (l3 : Int32) : Option ((Int32 × Int32) ⊕ ((Int32))) := if (G.1 l0 67) ≤ l3 then some (.inr l2) else (ldA sh G l0 66 1).bind fun a2 => (aI sh G a2 l3).bind fun v3 => if (v3 &&& l1) = 0 then bd ((l3 + 1) : Int32) fun x5 => some (.inl (l2, x5)) else bd ((l2 + 1) : Int32) fun x6 => bd ((l3 + 1) : Int32) fun x7 => some (.inl (x6, x7))
set_option maxHeartbeats 4000000 in
theorem tX11_shutBy_S4 {E : EX} {ad : Nat → Nat} {sh : Sh} {G : Hp} {l0 : Nat} {l1 : Int32} {l2 : Int32} {l3 : Int32} {o : (Int32 × Int32) ⊕ ((Int32))} (C : Cx E RX11 cX11_shutBy 4 (some .int) 1 0 0) (hC : Cl sh G) (h_l0 : sh[l0]? = some (0, 11)) (hf : fX11_shutBy_S4 sh l0 l1 G l2 l3 = some o) (kb : ∀ (b_l2 : Int32) (b_l3 : Int32), o = .inl (b_l2, b_l3) → VV E 0 0 (wq (xT E) ad G sh) 4 [(0, .ref (ad l0)), (1, .int l1), (2, .int b_l2), (3, .int b_l3)] []) (kx32 : ∀ (b_l2 : Int32), o = .inr b_l2 → VV E 0 0 (wq (xT E) ad G sh) 32 [(0, .ref (ad l0)), (1, .int l1), (2, .int b_l2)] []) : VV E 0 0 (wq (xT E) ad G sh) 4 [(0, .ref (ad l0)), (1, .int l1), (2, .int l2), (3, .int l3)] [] := by
  unfold fX11_shutBy_S4 at hf
  refine v_iload_n C 3 dX11_shutBy_4 rfl rfl ?_
  refine v_aload_n C 0 dX11_shutBy_5 rfl rfl ?_
  refine v_getI C h_l0 fl_X11_467 dX11_shutBy_6 ?_
  refine v_icmp_ge (tgt := 32) C dX11_shutBy_9 (by decide) (fun c1 => ?_) (fun c1 => ?_)
  · have hf := ip hf c1
    cases hf
    refine v_sub [0, 1, 2] rfl ?_
    exact kx32 _ rfl
  · have hf := im hf c1
    refine v_aload_n C 0 dX11_shutBy_12 rfl rfl ?_
    obtain ⟨a2, qa2, hf⟩ := bn hf
    refine v_getA C h_l0 fl_X11_149 qa2 dX11_shutBy_13 (fun h_a2 => ?_)
    refine v_iload_n C 3 dX11_shutBy_16 rfl rfl ?_
    obtain ⟨v3, qv3, hf⟩ := bn hf
    refine v_iald C h_a2 qv3 dX11_shutBy_17 ?_
    refine v_iload_n C 1 dX11_shutBy_18 rfl rfl ?_
    refine v_iand C dX11_shutBy_19 ?_
    refine v_if_eq (tgt := 26) C dX11_shutBy_20 (by decide) (fun c4 => ?_) (fun c4 => ?_)
    · have hf := ip hf c4
      obtain ⟨x5, ex5⟩ : ∃ x : Int32, x = (l3 + 1) := ⟨_, rfl⟩
      have hf := bd_at hf ex5
      refine v_iinc (v := x5) (j := 3) (lv2 := [(3, .int x5), (0, .ref (ad l0)), (1, .int l1), (2, .int l2)]) C dX11_shutBy_26 rfl (by rw [ex5]; rfl) (by decide) rfl ?_
      refine v_goto (tgt := 4) C dX11_shutBy_29 (by decide) ?_
      cases hf
      refine v_sub [1, 2, 3, 0] rfl ?_
      exact kb _ _ rfl
    · have hf := im hf c4
      obtain ⟨x6, ex6⟩ : ∃ x : Int32, x = (l2 + 1) := ⟨_, rfl⟩
      have hf := bd_at hf ex6
      refine v_iinc (v := x6) (j := 2) (lv2 := [(2, .int x6), (0, .ref (ad l0)), (1, .int l1), (3, .int l3)]) C dX11_shutBy_23 rfl (by rw [ex6]; rfl) (by decide) rfl ?_
      obtain ⟨x7, ex7⟩ : ∃ x : Int32, x = (l3 + 1) := ⟨_, rfl⟩
      have hf := bd_at hf ex7
      refine v_iinc (v := x7) (j := 3) (lv2 := [(3, .int x7), (2, .int x6), (0, .ref (ad l0)), (1, .int l1)]) C dX11_shutBy_26 rfl (by rw [ex7]; rfl) (by decide) rfl ?_
      refine v_goto (tgt := 4) C dX11_shutBy_29 (by decide) ?_
      cases hf
      refine v_sub [2, 3, 1, 0] rfl ?_
      exact kb _ _ rfl
def fX11_shutBy (sh : Sh) (G : Hp) (l0 : Nat) (l1 : Int32) : Option (Int32) := (iter (fun s : Int32 × Int32 => fX11_shutBy_S4 sh l0 l1 G s.1 s.2) fuel ((0, 0) : Int32 × Int32)).bind (fun u3 => bd u3 fun x2 => some x2)
set_option maxHeartbeats 4000000 in
theorem tX11_shutBy {E : EX} {ad : Nat → Nat} {sh : Sh} {G : Hp} {l0 : Nat} {l1 : Int32} {z : Int32} (C : Cx E RX11 cX11_shutBy 4 (some .int) 1 0 0) (hC : Cl sh G) (h_l0 : sh[l0]? = some (0, 11)) (hf : fX11_shutBy sh G l0 l1 = some z) (kr : RCi E cX11_shutBy ad sh z G) : VV E 0 0 (wq (xT E) ad G sh) 0 [(0, .ref (ad l0)), (1, .int l1)] [] := by
  unfold fX11_shutBy at hf
  refine v_iconst (v := 0) C dX11_shutBy_0 (by decide) ?_
  refine v_istore_n (lv2 := [(2, .int 0), (0, .ref (ad l0)), (1, .int l1)]) C dX11_shutBy_1 rfl (by decide) rfl ?_
  refine v_iconst (v := 0) C dX11_shutBy_2 (by decide) ?_
  refine v_istore_n (lv2 := [(3, .int 0), (2, .int 0), (0, .ref (ad l0)), (1, .int l1)]) C dX11_shutBy_3 rfl (by decide) rfl ?_
  obtain ⟨r1, qr1, hf⟩ := bn hf
  refine v_sub [2, 3, 1, 0] rfl ?_
  refine iter_sound (P := (fun s : Int32 × Int32 => VV E 0 0 (wq (xT E) ad (G) sh) 4 [(0, .ref (ad l0)), (1, .int (l1)), (2, .int (s.1)), (3, .int (s.2))] [])) (X := fun r => r = r1) (fun jsr1 jor1 hor1 jbr1 jxr1 => tX11_shutBy_S4 C hC h_l0 hor1 (fun _ _ e => jbr1 _ e) ?_) fuel _ r1 qr1 rfl
  · intro x2 hu
    have e := jxr1 _ hu
    subst e
    have hf := bd_at hf (rfl : x2 = _)
    refine v_iload_n C 2 dX11_shutBy_32 rfl rfl ?_
    cases hf
    exact kr _ _ dX11_shutBy_33 hC
theorem sX11_shutBy {l : Launch} {sh : Sh} {G : Hp} {l0 : Nat} {l1 : Int32} {z : Int32} (h_l0 : sh[l0]? = some (0, 11)) (hf : fX11_shutBy sh G l0 l1 = some z) : MC l yX11_shutBy cX11_shutBy 4 (some .int) 1 0 0 sh sh G G (fun ad => [.ref (ad l0), .int l1]) (fun _ => some (.int z)) := by
  refine MC_of rfl rfl (fun _ => Nat.le_of_ble_eq_true rfl) (fun E ad C hl hnm hC hQ => ?_)
  exact tX11_shutBy C hC h_l0 hf (fun pc lv hd hC => v_iret C hQ (fun _ _ => rfl) hC rfl hd)
def fX11_bar_S34 (sh : Sh) (l0 : Nat) (l2 : Int32) (G : Hp) (l3 : Int32) (l4 : Int32) (l5 : Int32) : Option ((Int32 × Int32 × Int32) ⊕ ((Int32 × Int32))) := (ldA sh G l0 23 1).bind fun a1 => (aI sh G a1 (G.1 l0 18)).bind fun v2 => if v2 ≤ l5 then some (.inr (l3, l4)) else (fX11_shutBy sh G l0 ((1 : Int32) <<< (l5 &&& 31))).bind fun r4 => if l4 < r4 then (fX11_shutBy sh G l0 ((1 : Int32) <<< (l5 &&& 31))).bind fun r6 => bd ((l5 + 1) : Int32) fun x7 => some (.inl (l5, r6, x7)) else bd ((l5 + 1) : Int32) fun x8 => some (.inl (l3, l4, x8))
set_option maxHeartbeats 4000000 in
theorem tX11_bar_S34 {E : EX} {ad : Nat → Nat} {sh : Sh} {G : Hp} {l0 : Nat} {l2 : Int32} {l3 : Int32} {l4 : Int32} {l5 : Int32} {o : (Int32 × Int32 × Int32) ⊕ ((Int32 × Int32))} (C : Cx E RX11 cX11_bar 6 (some .int) 4 0 0) (hC : Cl sh G) (h_l0 : sh[l0]? = some (0, 11)) (hf : fX11_bar_S34 sh l0 l2 G l3 l4 l5 = some o) (kb : ∀ (b_l3 : Int32) (b_l4 : Int32) (b_l5 : Int32), o = .inl (b_l3, b_l4, b_l5) → VV E 0 0 (wq (xT E) ad G sh) 34 [(0, .ref (ad l0)), (2, .int l2), (3, .int b_l3), (4, .int b_l4), (5, .int b_l5)] []) (kx83 : ∀ (b_l3 : Int32) (b_l4 : Int32), o = .inr (b_l3, b_l4) → VV E 0 0 (wq (xT E) ad G sh) 83 [(0, .ref (ad l0)), (2, .int l2), (3, .int b_l3), (4, .int b_l4)] []) : VV E 0 0 (wq (xT E) ad G sh) 34 [(0, .ref (ad l0)), (2, .int l2), (3, .int l3), (4, .int l4), (5, .int l5)] [] := by
  unfold fX11_bar_S34 at hf
  refine v_iload C 4 dX11_bar_34 rfl ?_
  refine v_aload_n C 0 dX11_bar_36 rfl rfl ?_
  obtain ⟨a1, qa1, hf⟩ := bn hf
  refine v_getA C h_l0 fl_X11_46 qa1 dX11_bar_37 (fun h_a1 => ?_)
  refine v_aload_n C 0 dX11_bar_40 rfl rfl ?_
  refine v_getI C h_l0 fl_X11_257 dX11_bar_41 ?_
  obtain ⟨v2, qv2, hf⟩ := bn hf
  refine v_iald C h_a1 qv2 dX11_bar_44 ?_
  refine v_icmp_ge (tgt := 83) C dX11_bar_45 (by decide) (fun c3 => ?_) (fun c3 => ?_)
  · have hf := ip hf c3
    cases hf
    refine v_sub [0, 1, 2, 3] rfl ?_
    exact kx83 _ _ rfl
  · have hf := im hf c3
    refine v_aload_n C 0 dX11_bar_48 rfl rfl ?_
    refine v_iconst (v := 1) C dX11_bar_49 (by decide) ?_
    refine v_iload C 4 dX11_bar_50 rfl ?_
    refine v_ishl C dX11_bar_52 ?_
    obtain ⟨r4, qr4, hf⟩ := bn hf
    refine v_callVi (As := [.int ((1 : Int32) <<< (l5 &&& 31))]) (rest := []) C (sX11_shutBy h_l0 qr4) cs_X11_473 (by decide) h_l0 rfl hC rfl rfl rfl (Nat.le_of_ble_eq_true rfl) ⟨Nat.le_refl _, Nat.le_refl _⟩ dX11_bar_53 (fun hC => ?_)
    refine v_iload C 3 dX11_bar_56 rfl ?_
    refine v_icmp_gt (tgt := 64) C dX11_bar_58 (by decide) (fun c5 => ?_) (fun c5 => ?_)
    · have hf := ip hf c5
      refine v_iload C 4 dX11_bar_64 rfl ?_
      refine v_istore_n (lv2 := [(3, .int l5), (0, .ref (ad l0)), (2, .int l2), (4, .int l4), (5, .int l5)]) C dX11_bar_66 rfl (by decide) rfl ?_
      refine v_aload_n C 1 dX11_bar_67 rfl rfl ?_
      refine v_iconst (v := 1) C dX11_bar_68 (by decide) ?_
      refine v_iload C 4 dX11_bar_69 rfl ?_
      refine v_ishl C dX11_bar_71 ?_
      obtain ⟨r6, qr6, hf⟩ := bn hf
      refine v_callVi (As := [.int ((1 : Int32) <<< (l5 &&& 31))]) (rest := []) C (sX11_shutBy h_l0 qr6) cs_X11_473 (by decide) h_l0 rfl hC rfl rfl rfl (Nat.le_of_ble_eq_true rfl) ⟨Nat.le_refl _, Nat.le_refl _⟩ dX11_bar_72 (fun hC => ?_)
      refine v_istore (lv2 := [(4, .int r6), (3, .int l5), (0, .ref (ad l0)), (2, .int l2), (5, .int l5)]) C dX11_bar_75 (by decide) rfl ?_
      obtain ⟨x7, ex7⟩ : ∃ x : Int32, x = (l5 + 1) := ⟨_, rfl⟩
      have hf := bd_at hf ex7
      refine v_iinc (v := x7) (j := 4) (lv2 := [(5, .int x7), (4, .int r6), (3, .int l5), (0, .ref (ad l0)), (2, .int l2)]) C dX11_bar_77 rfl (by rw [ex7]; rfl) (by decide) rfl ?_
      refine v_goto (tgt := 34) C dX11_bar_80 (by decide) ?_
      cases hf
      refine v_sub [3, 4, 2, 1, 0] rfl ?_
      exact kb _ _ _ rfl
    · have hf := im hf c5
      refine v_goto (tgt := 77) C dX11_bar_61 (by decide) ?_
      obtain ⟨x8, ex8⟩ : ∃ x : Int32, x = (l5 + 1) := ⟨_, rfl⟩
      have hf := bd_at hf ex8
      refine v_iinc (v := x8) (j := 4) (lv2 := [(5, .int x8), (0, .ref (ad l0)), (2, .int l2), (3, .int l3), (4, .int l4)]) C dX11_bar_77 rfl (by rw [ex8]; rfl) (by decide) rfl ?_
      refine v_goto (tgt := 34) C dX11_bar_80 (by decide) ?_
      cases hf
      refine v_sub [1, 2, 3, 4, 0] rfl ?_
      exact kb _ _ _ rfl
def fX11_bar (sh : Sh) (G : Hp) (l0 : Nat) (l1 : Int32) (l2 : Int32) : Option (Int32 × Hp) := (fX11_isBridge sh G l0 l1).bind fun r1 => if r1 = 0 then some ((-1), G) else (fX11_in l2 0 1).bind fun r3 => if r3 = 0 then some ((-1), G) else (fX11_fillsCheats sh G l0 l1).bind fun G6 => (iter (fun s : Int32 × Int32 × Int32 => fX11_bar_S34 sh l0 l2 G6 s.1 s.2.1 s.2.2) fuel (((-2), (-2), 0) : Int32 × Int32 × Int32)).bind (fun u11 => bd u11.1 fun x8 => bd u11.2 fun x9 => if l2 = 0 then some (x8, G6) else some (x9, G6))
set_option maxHeartbeats 4000000 in
theorem tX11_bar {E : EX} {ad : Nat → Nat} {sh : Sh} {G : Hp} {l0 : Nat} {l1 : Int32} {l2 : Int32} {z : Int32 × Hp} (C : Cx E RX11 cX11_bar 6 (some .int) 4 0 0) (hC : Cl sh G) (h_l0 : sh[l0]? = some (0, 11)) (hf : fX11_bar sh G l0 l1 l2 = some z) (kr : RCi E cX11_bar ad sh (z.1) (z.2)) : VV E 0 0 (wq (xT E) ad G sh) 0 [(0, .ref (ad l0)), (1, .int l1), (2, .int l2)] [] := by
  unfold fX11_bar at hf
  refine v_aload_n C 0 dX11_bar_0 rfl rfl ?_
  refine v_iload_n C 1 dX11_bar_1 rfl rfl ?_
  obtain ⟨r1, qr1, hf⟩ := bn hf
  refine v_callVi (As := [.int l1]) (rest := []) C (sX11_isBridge h_l0 qr1) cs_X11_431 (by decide) h_l0 rfl hC rfl rfl rfl (Nat.le_of_ble_eq_true rfl) ⟨Nat.le_refl _, Nat.le_refl _⟩ dX11_bar_2 (fun hC => ?_)
  refine v_if_eq (tgt := 17) C dX11_bar_5 (by decide) (fun c2 => ?_) (fun c2 => ?_)
  · have hf := ip hf c2
    refine v_iconst (v := (-1)) C dX11_bar_17 (by decide) ?_
    cases hf
    exact kr _ _ dX11_bar_18 hC
  · have hf := im hf c2
    refine v_iload_n C 2 dX11_bar_8 rfl rfl ?_
    refine v_iconst (v := 0) C dX11_bar_9 (by decide) ?_
    refine v_iconst (v := 1) C dX11_bar_10 (by decide) ?_
    obtain ⟨r3, qr3, hf⟩ := bn hf
    refine v_callSi (As := [.int l2, .int 0, .int 1]) (rest := []) C (sX11_in  qr3) cs_X11_370 (by decide) hC rfl rfl rfl (Nat.le_of_ble_eq_true rfl) ⟨Nat.le_refl _, Nat.le_refl _⟩ dX11_bar_11 (fun hC => ?_)
    refine v_if_ne (tgt := 19) C dX11_bar_14 (by decide) (fun c4 => ?_) (fun c4 => ?_)
    · have hf := im hf c4
      refine v_aload_n C 0 dX11_bar_19 rfl rfl ?_
      refine v_iload_n C 1 dX11_bar_20 rfl rfl ?_
      obtain ⟨G6, qr5, hf⟩ := bn hf
      refine v_callVv (As := [.int l1]) (rest := []) C (sX11_fillsCheats h_l0 qr5) cs_X11_470 (by decide) h_l0 rfl hC rfl rfl rfl (Nat.le_of_ble_eq_true rfl) ⟨Nat.le_refl _, Nat.le_refl _⟩ dX11_bar_21 (fun hC => ?_)
      refine v_bipush (v := (-2)) C dX11_bar_24 (by decide) ?_
      refine v_istore_n (lv2 := [(3, .int (-2)), (0, .ref (ad l0)), (1, .int l1), (2, .int l2)]) C dX11_bar_26 rfl (by decide) rfl ?_
      refine v_bipush (v := (-2)) C dX11_bar_27 (by decide) ?_
      refine v_istore (lv2 := [(4, .int (-2)), (3, .int (-2)), (0, .ref (ad l0)), (1, .int l1), (2, .int l2)]) C dX11_bar_29 (by decide) rfl ?_
      refine v_iconst (v := 0) C dX11_bar_31 (by decide) ?_
      refine v_istore (lv2 := [(5, .int 0), (4, .int (-2)), (3, .int (-2)), (0, .ref (ad l0)), (1, .int l1), (2, .int l2)]) C dX11_bar_32 (by decide) rfl ?_
      obtain ⟨r7, qr7, hf⟩ := bn hf
      refine v_sub [3, 5, 2, 1, 0] rfl ?_
      refine iter_sound (P := (fun s : Int32 × Int32 × Int32 => VV E 0 0 (wq (xT E) ad (G6) sh) 34 [(0, .ref (ad l0)), (2, .int (l2)), (3, .int (s.1)), (4, .int (s.2.1)), (5, .int (s.2.2))] [])) (X := fun r => r = r7) (fun jsr7 jor7 hor7 jbr7 jxr7 => tX11_bar_S34 C hC h_l0 hor7 (fun _ _ _ e => jbr7 _ e) ?_) fuel _ r7 qr7 rfl
      · intro x8 x9 hu
        have e := jxr7 _ hu
        subst e
        have hf := bd_at hf (rfl : x8 = _)
        have hf := bd_at hf (rfl : x9 = _)
        refine v_iload_n C 1 dX11_bar_83 rfl rfl ?_
        refine v_if_ne (tgt := 91) C dX11_bar_84 (by decide) (fun c10 => ?_) (fun c10 => ?_)
        · have hf := im hf c10
          refine v_iload C 3 dX11_bar_91 rfl ?_
          cases hf
          exact kr _ _ dX11_bar_93 hC
        · have hf := ip hf c10
          refine v_iload_n C 2 dX11_bar_87 rfl rfl ?_
          refine v_goto (tgt := 93) C dX11_bar_88 (by decide) ?_
          cases hf
          exact kr _ _ dX11_bar_93 hC
    · have hf := ip hf c4
      refine v_iconst (v := (-1)) C dX11_bar_17 (by decide) ?_
      cases hf
      exact kr _ _ dX11_bar_18 hC
theorem sX11_bar {l : Launch} {sh : Sh} {G : Hp} {l0 : Nat} {l1 : Int32} {l2 : Int32} {z : Int32 × Hp} (h_l0 : sh[l0]? = some (0, 11)) (hf : fX11_bar sh G l0 l1 l2 = some z) : MC l yX11_bar cX11_bar 6 (some .int) 4 0 0 sh sh G (z.2) (fun ad => [.ref (ad l0), .int l1, .int l2]) (fun _ => some (.int z.1)) := by
  refine MC_of rfl rfl (fun _ => Nat.le_of_ble_eq_true rfl) (fun E ad C hl hnm hC hQ => ?_)
  exact tX11_bar C hC h_l0 hf (fun pc lv hd hC => v_iret C hQ (fun _ _ => rfl) hC rfl hd)
def fX11_begins_S2 (sh : Sh) (l0 : Nat) (G : Hp) (l1 : Int32) : Option ((Hp × Int32) ⊕ ((Hp))) := if 26 ≤ l1 then some (.inr G) else (ldA sh G l0 59 1).bind fun a2 => (asI sh G a2 l1 0).bind fun G3 => bd ((l1 + 1) : Int32) fun x4 => some (.inl (G3, x4))
set_option maxHeartbeats 4000000 in
theorem tX11_begins_S2 {E : EX} {ad : Nat → Nat} {sh : Sh} {G : Hp} {l0 : Nat} {l1 : Int32} {o : (Hp × Int32) ⊕ ((Hp))} (C : Cx E RX11 cX11_begins 2 none 1 0 0) (hC : Cl sh G) (h_l0 : sh[l0]? = some (0, 11)) (hf : fX11_begins_S2 sh l0 G l1 = some o) (kb : ∀ (G2 : Hp) (b_l1 : Int32), o = .inl (G2, b_l1) → Cl sh G2 → VV E 0 0 (wq (xT E) ad G2 sh) 2 [(0, .ref (ad l0)), (1, .int b_l1)] []) (kx21 : ∀ (G2 : Hp), o = .inr G2 → Cl sh G2 → VV E 0 0 (wq (xT E) ad G2 sh) 21 [(0, .ref (ad l0))] []) : VV E 0 0 (wq (xT E) ad G sh) 2 [(0, .ref (ad l0)), (1, .int l1)] [] := by
  unfold fX11_begins_S2 at hf
  refine v_iload_n C 1 dX11_begins_2 rfl rfl ?_
  refine v_bipush (v := 26) C dX11_begins_3 (by decide) ?_
  refine v_icmp_ge (tgt := 21) C dX11_begins_5 (by decide) (fun c1 => ?_) (fun c1 => ?_)
  · have hf := ip hf c1
    cases hf
    refine v_sub [0] rfl ?_
    exact kx21 _ rfl hC
  · have hf := im hf c1
    refine v_aload_n C 0 dX11_begins_8 rfl rfl ?_
    obtain ⟨a2, qa2, hf⟩ := bn hf
    refine v_getA C h_l0 fl_X11_137 qa2 dX11_begins_9 (fun h_a2 => ?_)
    refine v_iload_n C 1 dX11_begins_12 rfl rfl ?_
    refine v_iconst (v := 0) C dX11_begins_13 (by decide) ?_
    obtain ⟨G3, qG3, hf⟩ := bn hf
    refine v_iast C h_a2 qG3 hC dX11_begins_14 (fun hC => ?_)
    obtain ⟨x4, ex4⟩ : ∃ x : Int32, x = (l1 + 1) := ⟨_, rfl⟩
    have hf := bd_at hf ex4
    refine v_iinc (v := x4) (j := 1) (lv2 := [(1, .int x4), (0, .ref (ad l0))]) C dX11_begins_15 rfl (by rw [ex4]; rfl) (by decide) rfl ?_
    refine v_goto (tgt := 2) C dX11_begins_18 (by decide) ?_
    cases hf
    refine v_sub [1, 0] rfl ?_
    exact kb _ _ rfl hC
def fX11_begins_S23 (sh : Sh) (l0 : Nat) (G : Hp) (l1 : Int32) : Option ((Hp × Int32) ⊕ ((Hp))) := (ldA sh G l0 31 1).bind fun a1 => (aI sh G a1 (G.1 l0 18)).bind fun v2 => if v2 ≤ l1 then some (.inr G) else (ldA sh G l0 59 1).bind fun a4 => (ldA sh G l0 32 1).bind fun a5 => (aI sh G a5 (((4 : Int32) * (G.1 l0 18)) + l1)).bind fun v6 => (asI sh G a4 l1 v6).bind fun G7 => bd ((l1 + 1) : Int32) fun x8 => some (.inl (G7, x8))
set_option maxHeartbeats 4000000 in
theorem tX11_begins_S23 {E : EX} {ad : Nat → Nat} {sh : Sh} {G : Hp} {l0 : Nat} {l1 : Int32} {o : (Hp × Int32) ⊕ ((Hp))} (C : Cx E RX11 cX11_begins 2 none 1 0 0) (hC : Cl sh G) (h_l0 : sh[l0]? = some (0, 11)) (hf : fX11_begins_S23 sh l0 G l1 = some o) (kb : ∀ (G2 : Hp) (b_l1 : Int32), o = .inl (G2, b_l1) → Cl sh G2 → VV E 0 0 (wq (xT E) ad G2 sh) 23 [(0, .ref (ad l0)), (1, .int b_l1)] []) (kx61 : ∀ (G2 : Hp), o = .inr G2 → Cl sh G2 → VV E 0 0 (wq (xT E) ad G2 sh) 61 [(0, .ref (ad l0))] []) : VV E 0 0 (wq (xT E) ad G sh) 23 [(0, .ref (ad l0)), (1, .int l1)] [] := by
  unfold fX11_begins_S23 at hf
  refine v_iload_n C 1 dX11_begins_23 rfl rfl ?_
  refine v_aload_n C 0 dX11_begins_24 rfl rfl ?_
  obtain ⟨a1, qa1, hf⟩ := bn hf
  refine v_getA C h_l0 fl_X11_70 qa1 dX11_begins_25 (fun h_a1 => ?_)
  refine v_aload_n C 0 dX11_begins_28 rfl rfl ?_
  refine v_getI C h_l0 fl_X11_257 dX11_begins_29 ?_
  obtain ⟨v2, qv2, hf⟩ := bn hf
  refine v_iald C h_a1 qv2 dX11_begins_32 ?_
  refine v_icmp_ge (tgt := 61) C dX11_begins_33 (by decide) (fun c3 => ?_) (fun c3 => ?_)
  · have hf := ip hf c3
    cases hf
    refine v_sub [0] rfl ?_
    exact kx61 _ rfl hC
  · have hf := im hf c3
    refine v_aload_n C 0 dX11_begins_36 rfl rfl ?_
    obtain ⟨a4, qa4, hf⟩ := bn hf
    refine v_getA C h_l0 fl_X11_137 qa4 dX11_begins_37 (fun h_a4 => ?_)
    refine v_iload_n C 1 dX11_begins_40 rfl rfl ?_
    refine v_aload_n C 0 dX11_begins_41 rfl rfl ?_
    obtain ⟨a5, qa5, hf⟩ := bn hf
    refine v_getA C h_l0 fl_X11_73 qa5 dX11_begins_42 (fun h_a5 => ?_)
    refine v_iconst (v := 4) C dX11_begins_45 (by decide) ?_
    refine v_aload_n C 0 dX11_begins_46 rfl rfl ?_
    refine v_getI C h_l0 fl_X11_257 dX11_begins_47 ?_
    refine v_imul C dX11_begins_50 ?_
    refine v_iload_n C 1 dX11_begins_51 rfl rfl ?_
    refine v_iadd C dX11_begins_52 ?_
    obtain ⟨v6, qv6, hf⟩ := bn hf
    refine v_iald C h_a5 qv6 dX11_begins_53 ?_
    obtain ⟨G7, qG7, hf⟩ := bn hf
    refine v_iast C h_a4 qG7 hC dX11_begins_54 (fun hC => ?_)
    obtain ⟨x8, ex8⟩ : ∃ x : Int32, x = (l1 + 1) := ⟨_, rfl⟩
    have hf := bd_at hf ex8
    refine v_iinc (v := x8) (j := 1) (lv2 := [(1, .int x8), (0, .ref (ad l0))]) C dX11_begins_55 rfl (by rw [ex8]; rfl) (by decide) rfl ?_
    refine v_goto (tgt := 23) C dX11_begins_58 (by decide) ?_
    cases hf
    refine v_sub [1, 0] rfl ?_
    exact kb _ _ rfl hC
def fX11_begins (sh : Sh) (G : Hp) (l0 : Nat) : Option (Hp) := (iter (fun s : Hp × Int32 => fX11_begins_S2 sh l0 s.1 s.2) fuel ((G, 0) : Hp × Int32)).bind (fun u14 => bd u14 fun G2 => (iter (fun s : Hp × Int32 => fX11_begins_S23 sh l0 s.1 s.2) fuel ((G2, 0) : Hp × Int32)).bind (fun u13 => bd u13 fun G4 => (ldA sh G4 l0 59 1).bind fun a5 => (ldA sh G4 l0 24 1).bind fun a6 => (aI sh G4 a6 (G4.1 l0 18)).bind fun v7 => (asI sh G4 a5 25 (((1 : Int32) <<< (v7 &&& 31)) - 1)).bind fun G8 => (ldA sh G8 l0 39 1).bind fun a9 => (aI sh G8 a9 (G8.1 l0 18)).bind fun v10 => bd (sI G8 l0 60 v10) fun G11 => bd (sI G11 l0 61 0) fun G12 => some G12))
set_option maxHeartbeats 4000000 in
theorem tX11_begins {E : EX} {ad : Nat → Nat} {sh : Sh} {G : Hp} {l0 : Nat} {z : Hp} (C : Cx E RX11 cX11_begins 2 none 1 0 0) (hC : Cl sh G) (h_l0 : sh[l0]? = some (0, 11)) (hf : fX11_begins sh G l0 = some z) (kr : RCv E cX11_begins ad sh z) : VV E 0 0 (wq (xT E) ad G sh) 0 [(0, .ref (ad l0))] [] := by
  unfold fX11_begins at hf
  refine v_iconst (v := 0) C dX11_begins_0 (by decide) ?_
  refine v_istore_n (lv2 := [(1, .int 0), (0, .ref (ad l0))]) C dX11_begins_1 rfl (by decide) rfl ?_
  obtain ⟨r1, qr1, hf⟩ := bn hf
  refine v_sub [1, 0] rfl ?_
  refine iter_sound (P := (fun s : Hp × Int32 => Cl sh (s.1) → VV E 0 0 (wq (xT E) ad (s.1) sh) 2 [(0, .ref (ad l0)), (1, .int (s.2))] [])) (X := fun r => r = r1) (fun jsr1 jor1 hor1 jbr1 jxr1 hC => tX11_begins_S2 C hC h_l0 hor1 (fun _ _ e => jbr1 _ e) ?_) fuel _ r1 qr1 rfl hC
  · intro G2 hu hC
    have e := jxr1 _ hu
    subst e
    have hf := bd_at hf (rfl : G2 = _)
    refine v_iconst (v := 0) C dX11_begins_21 (by decide) ?_
    refine v_istore_n (lv2 := [(1, .int 0), (0, .ref (ad l0))]) C dX11_begins_22 rfl (by decide) rfl ?_
    obtain ⟨r3, qr3, hf⟩ := bn hf
    refine v_sub [1, 0] rfl ?_
    refine iter_sound (P := (fun s : Hp × Int32 => Cl sh (s.1) → VV E 0 0 (wq (xT E) ad (s.1) sh) 23 [(0, .ref (ad l0)), (1, .int (s.2))] [])) (X := fun r => r = r3) (fun jsr3 jor3 hor3 jbr3 jxr3 hC => tX11_begins_S23 C hC h_l0 hor3 (fun _ _ e => jbr3 _ e) ?_) fuel _ r3 qr3 rfl hC
    · intro G4 hu hC
      have e := jxr3 _ hu
      subst e
      have hf := bd_at hf (rfl : G4 = _)
      refine v_aload_n C 0 dX11_begins_61 rfl rfl ?_
      obtain ⟨a5, qa5, hf⟩ := bn hf
      refine v_getA C h_l0 fl_X11_137 qa5 dX11_begins_62 (fun h_a5 => ?_)
      refine v_bipush (v := 25) C dX11_begins_65 (by decide) ?_
      refine v_iconst (v := 1) C dX11_begins_67 (by decide) ?_
      refine v_aload_n C 0 dX11_begins_68 rfl rfl ?_
      obtain ⟨a6, qa6, hf⟩ := bn hf
      refine v_getA C h_l0 fl_X11_49 qa6 dX11_begins_69 (fun h_a6 => ?_)
      refine v_aload_n C 0 dX11_begins_72 rfl rfl ?_
      refine v_getI C h_l0 fl_X11_257 dX11_begins_73 ?_
      obtain ⟨v7, qv7, hf⟩ := bn hf
      refine v_iald C h_a6 qv7 dX11_begins_76 ?_
      refine v_ishl C dX11_begins_77 ?_
      refine v_iconst (v := 1) C dX11_begins_78 (by decide) ?_
      refine v_isub C dX11_begins_79 ?_
      obtain ⟨G8, qG8, hf⟩ := bn hf
      refine v_iast C h_a5 qG8 hC dX11_begins_80 (fun hC => ?_)
      refine v_aload_n C 0 dX11_begins_81 rfl rfl ?_
      refine v_aload_n C 0 dX11_begins_82 rfl rfl ?_
      obtain ⟨a9, qa9, hf⟩ := bn hf
      refine v_getA C h_l0 fl_X11_91 qa9 dX11_begins_83 (fun h_a9 => ?_)
      refine v_aload_n C 0 dX11_begins_86 rfl rfl ?_
      refine v_getI C h_l0 fl_X11_257 dX11_begins_87 ?_
      obtain ⟨v10, qv10, hf⟩ := bn hf
      refine v_iald C h_a9 qv10 dX11_begins_90 ?_
      refine v_putI C h_l0 fp_X11_374 dX11_begins_91 (fun G11 eG11 => ?_)
      have hf := bd_at hf eG11
      have hC : Cl sh G11 := by rw [eG11]; exact hC
      refine v_aload_n C 0 dX11_begins_94 rfl rfl ?_
      refine v_iconst (v := 0) C dX11_begins_95 (by decide) ?_
      refine v_putZ C h_l0 fp_X11_377 (Or.inl rfl) dX11_begins_96 (fun G12 eG12 => ?_)
      have hf := bd_at hf eG12
      have hC : Cl sh G12 := by rw [eG12]; exact hC
      cases hf
      exact kr _ _ dX11_begins_99 hC
theorem sX11_begins {l : Launch} {sh : Sh} {G : Hp} {l0 : Nat} {z : Hp} (h_l0 : sh[l0]? = some (0, 11)) (hf : fX11_begins sh G l0 = some z) : MC l yX11_begins cX11_begins 2 none 1 0 0 sh sh G z (fun ad => [.ref (ad l0)]) (fun _ => none) := by
  refine MC_of rfl rfl (fun _ => Nat.le_of_ble_eq_true rfl) (fun E ad C hl hnm hC hQ => ?_)
  exact tX11_begins C hC h_l0 hf (fun pc lv hd hC => v_vret C hQ (fun _ _ => rfl) hC rfl hd)
def fX11_being (sh : Sh) (G : Hp) (l0 : Nat) (l1 : Int32) (l2 : Int32) : Option (Int32) := (fX11_isBeing sh G l0 l1).bind fun r1 => if r1 = 0 then some (-1) else if l2 = 0 then (ldA sh G l0 25 1).bind fun a4 => (aI sh G a4 (((7 : Int32) * (G.1 l0 18)) + l1)).bind fun v5 => some v5 else if l2 = 1 then (ldA sh G l0 26 1).bind fun a7 => (aI sh G a7 (((7 : Int32) * (G.1 l0 18)) + l1)).bind fun v8 => some v8 else if l2 = 2 then (ldA sh G l0 58 1).bind fun a10 => (aI sh G a10 25).bind fun v11 => some ((v11 >>> (l1 &&& 31)) &&& 1) else some (-1)
set_option maxHeartbeats 4000000 in
theorem tX11_being {E : EX} {ad : Nat → Nat} {sh : Sh} {G : Hp} {l0 : Nat} {l1 : Int32} {l2 : Int32} {z : Int32} (C : Cx E RX11 cX11_being 3 (some .int) 3 0 0) (hC : Cl sh G) (h_l0 : sh[l0]? = some (0, 11)) (hf : fX11_being sh G l0 l1 l2 = some z) (kr : RCi E cX11_being ad sh z G) : VV E 0 0 (wq (xT E) ad G sh) 0 [(0, .ref (ad l0)), (1, .int l1), (2, .int l2)] [] := by
  unfold fX11_being at hf
  refine v_aload_n C 0 dX11_being_0 rfl rfl ?_
  refine v_iload_n C 1 dX11_being_1 rfl rfl ?_
  obtain ⟨r1, qr1, hf⟩ := bn hf
  refine v_callVi (As := [.int l1]) (rest := []) C (sX11_isBeing h_l0 qr1) cs_X11_419 (by decide) h_l0 rfl hC rfl rfl rfl (Nat.le_of_ble_eq_true rfl) ⟨Nat.le_refl _, Nat.le_refl _⟩ dX11_being_2 (fun hC => ?_)
  refine v_if_ne (tgt := 10) C dX11_being_5 (by decide) (fun c2 => ?_) (fun c2 => ?_)
  · have hf := im hf c2
    refine v_iload_n C 2 dX11_being_10 rfl rfl ?_
    by_cases c3 : l2 = 0
    · have hf := ip hf c3
      refine v_tableIn (off := 25) (tgt := 36) C dX11_being_11 (by rw [c3]; decide) (by rw [c3]; decide) (by rw [c3]; decide) (by decide) ?_
      refine v_aload_n C 0 dX11_being_36 rfl rfl ?_
      obtain ⟨a4, qa4, hf⟩ := bn hf
      refine v_getA C h_l0 fl_X11_52 qa4 dX11_being_37 (fun h_a4 => ?_)
      refine v_bipush (v := 7) C dX11_being_40 (by decide) ?_
      refine v_aload_n C 0 dX11_being_42 rfl rfl ?_
      refine v_getI C h_l0 fl_X11_257 dX11_being_43 ?_
      refine v_imul C dX11_being_46 ?_
      refine v_iload_n C 1 dX11_being_47 rfl rfl ?_
      refine v_iadd C dX11_being_48 ?_
      obtain ⟨v5, qv5, hf⟩ := bn hf
      refine v_iald C h_a4 qv5 dX11_being_49 ?_
      cases hf
      exact kr _ _ dX11_being_50 hC
    · have hf := im hf c3
      by_cases c6 : l2 = 1
      · have hf := ip hf c6
        refine v_tableIn (off := 40) (tgt := 51) C dX11_being_11 (by rw [c6]; decide) (by rw [c6]; decide) (by rw [c6]; decide) (by decide) ?_
        refine v_aload_n C 0 dX11_being_51 rfl rfl ?_
        obtain ⟨a7, qa7, hf⟩ := bn hf
        refine v_getA C h_l0 fl_X11_55 qa7 dX11_being_52 (fun h_a7 => ?_)
        refine v_bipush (v := 7) C dX11_being_55 (by decide) ?_
        refine v_aload_n C 0 dX11_being_57 rfl rfl ?_
        refine v_getI C h_l0 fl_X11_257 dX11_being_58 ?_
        refine v_imul C dX11_being_61 ?_
        refine v_iload_n C 1 dX11_being_62 rfl rfl ?_
        refine v_iadd C dX11_being_63 ?_
        obtain ⟨v8, qv8, hf⟩ := bn hf
        refine v_iald C h_a7 qv8 dX11_being_64 ?_
        cases hf
        exact kr _ _ dX11_being_65 hC
      · have hf := im hf c6
        by_cases c9 : l2 = 2
        · have hf := ip hf c9
          refine v_tableIn (off := 55) (tgt := 66) C dX11_being_11 (by rw [c9]; decide) (by rw [c9]; decide) (by rw [c9]; decide) (by decide) ?_
          refine v_aload_n C 0 dX11_being_66 rfl rfl ?_
          obtain ⟨a10, qa10, hf⟩ := bn hf
          refine v_getA C h_l0 fl_X11_134 qa10 dX11_being_67 (fun h_a10 => ?_)
          refine v_bipush (v := 25) C dX11_being_70 (by decide) ?_
          obtain ⟨v11, qv11, hf⟩ := bn hf
          refine v_iald C h_a10 qv11 dX11_being_72 ?_
          refine v_iload_n C 1 dX11_being_73 rfl rfl ?_
          refine v_ishr C dX11_being_74 ?_
          refine v_iconst (v := 1) C dX11_being_75 (by decide) ?_
          refine v_iand C dX11_being_76 ?_
          cases hf
          exact kr _ _ dX11_being_77 hC
        · have hf := im hf c9
          refine v_tableOut (tgt := 78) C dX11_being_11 (tsw_out (by decide) (by decide) (fun k hk => match k, hk with | 0, _ => fun e => c3 (e.trans (by decide)) | 1, _ => fun e => c6 (e.trans (by decide)) | 2, _ => fun e => c9 (e.trans (by decide)) | k + 3, hk => absurd hk (by simp only [show (Int.toNat (2 - 0 + 1)) = 3 from rfl]; omega))) (by decide) ?_
          refine v_iconst (v := (-1)) C dX11_being_78 (by decide) ?_
          cases hf
          exact kr _ _ dX11_being_79 hC
  · have hf := ip hf c2
    refine v_iconst (v := (-1)) C dX11_being_8 (by decide) ?_
    cases hf
    exact kr _ _ dX11_being_9 hC
theorem sX11_being {l : Launch} {sh : Sh} {G : Hp} {l0 : Nat} {l1 : Int32} {l2 : Int32} {z : Int32} (h_l0 : sh[l0]? = some (0, 11)) (hf : fX11_being sh G l0 l1 l2 = some z) : MC l yX11_being cX11_being 3 (some .int) 3 0 0 sh sh G G (fun ad => [.ref (ad l0), .int l1, .int l2]) (fun _ => some (.int z)) := by
  refine MC_of rfl rfl (fun _ => Nat.le_of_ble_eq_true rfl) (fun E ad C hl hnm hC hQ => ?_)
  exact tX11_being C hC h_l0 hf (fun pc lv hd hC => v_iret C hQ (fun _ _ => rfl) hC rfl hd)
def fX11_wearsNow (sh : Sh) (G : Hp) (l0 : Nat) (l1 : Int32) : Option (Int32 × Hp) := (fX11_looks sh G l0 l1).bind fun G2 => bp (fX11_lawTells sh G2 l0 0 1) fun r3 G4 => (fX11_held r3 0 9).bind fun r5 => some (r5, G4)
set_option maxHeartbeats 4000000 in
theorem tX11_wearsNow {E : EX} {ad : Nat → Nat} {sh : Sh} {G : Hp} {l0 : Nat} {l1 : Int32} {z : Int32 × Hp} (C : Cx E RX11 cX11_wearsNow 2 (some .int) 3 0 0) (hC : Cl sh G) (h_l0 : sh[l0]? = some (0, 11)) (hf : fX11_wearsNow sh G l0 l1 = some z) (kr : RCi E cX11_wearsNow ad sh (z.1) (z.2)) : VV E 0 0 (wq (xT E) ad G sh) 0 [(0, .ref (ad l0)), (1, .int l1)] [] := by
  unfold fX11_wearsNow at hf
  refine v_aload_n C 0 dX11_wearsNow_0 rfl rfl ?_
  refine v_iload_n C 1 dX11_wearsNow_1 rfl rfl ?_
  obtain ⟨G2, qr1, hf⟩ := bn hf
  refine v_callVv (As := [.int l1]) (rest := []) C (sX11_looks h_l0 qr1) cs_X11_393 (by decide) h_l0 rfl hC rfl rfl rfl (Nat.le_of_ble_eq_true rfl) ⟨Nat.le_refl _, Nat.le_refl _⟩ dX11_wearsNow_2 (fun hC => ?_)
  refine v_aload_n C 0 dX11_wearsNow_5 rfl rfl ?_
  refine v_iconst (v := 0) C dX11_wearsNow_6 (by decide) ?_
  refine v_iconst (v := 1) C dX11_wearsNow_7 (by decide) ?_
  obtain ⟨r3, G4, qr3, hf⟩ := bpn hf
  refine v_callVi (As := [.int 0, .int 1]) (rest := []) C (sX11_lawTells h_l0 qr3) cs_X11_396 (by decide) h_l0 rfl hC rfl rfl rfl (Nat.le_of_ble_eq_true rfl) ⟨Nat.le_refl _, Nat.le_refl _⟩ dX11_wearsNow_8 (fun hC => ?_)
  refine v_iconst (v := 0) C dX11_wearsNow_11 (by decide) ?_
  refine v_bipush (v := 9) C dX11_wearsNow_12 (by decide) ?_
  obtain ⟨r5, qr5, hf⟩ := bn hf
  refine v_callSi (As := [.int r3, .int 0, .int 9]) (rest := []) C (sX11_held  qr5) cs_X11_399 (by decide) hC rfl rfl rfl (Nat.le_of_ble_eq_true rfl) ⟨Nat.le_refl _, Nat.le_refl _⟩ dX11_wearsNow_14 (fun hC => ?_)
  cases hf
  exact kr _ _ dX11_wearsNow_17 hC
theorem sX11_wearsNow {l : Launch} {sh : Sh} {G : Hp} {l0 : Nat} {l1 : Int32} {z : Int32 × Hp} (h_l0 : sh[l0]? = some (0, 11)) (hf : fX11_wearsNow sh G l0 l1 = some z) : MC l yX11_wearsNow cX11_wearsNow 2 (some .int) 3 0 0 sh sh G (z.2) (fun ad => [.ref (ad l0), .int l1]) (fun _ => some (.int z.1)) := by
  refine MC_of rfl rfl (fun _ => Nat.le_of_ble_eq_true rfl) (fun E ad C hl hnm hC hQ => ?_)
  exact tX11_wearsNow C hC h_l0 hf (fun pc lv hd hC => v_iret C hQ (fun _ _ => rfl) hC rfl hd)
def fX11_mendsNow (sh : Sh) (G : Hp) (l0 : Nat) (l1 : Int32) : Option (Int32 × Hp) := (fX11_looks sh G l0 l1).bind fun G2 => bp (fX11_lawTells sh G2 l0 1 1) fun r3 G4 => (fX11_held r3 0 99).bind fun r5 => some (r5, G4)
set_option maxHeartbeats 4000000 in
theorem tX11_mendsNow {E : EX} {ad : Nat → Nat} {sh : Sh} {G : Hp} {l0 : Nat} {l1 : Int32} {z : Int32 × Hp} (C : Cx E RX11 cX11_mendsNow 2 (some .int) 3 0 0) (hC : Cl sh G) (h_l0 : sh[l0]? = some (0, 11)) (hf : fX11_mendsNow sh G l0 l1 = some z) (kr : RCi E cX11_mendsNow ad sh (z.1) (z.2)) : VV E 0 0 (wq (xT E) ad G sh) 0 [(0, .ref (ad l0)), (1, .int l1)] [] := by
  unfold fX11_mendsNow at hf
  refine v_aload_n C 0 dX11_mendsNow_0 rfl rfl ?_
  refine v_iload_n C 1 dX11_mendsNow_1 rfl rfl ?_
  obtain ⟨G2, qr1, hf⟩ := bn hf
  refine v_callVv (As := [.int l1]) (rest := []) C (sX11_looks h_l0 qr1) cs_X11_393 (by decide) h_l0 rfl hC rfl rfl rfl (Nat.le_of_ble_eq_true rfl) ⟨Nat.le_refl _, Nat.le_refl _⟩ dX11_mendsNow_2 (fun hC => ?_)
  refine v_aload_n C 0 dX11_mendsNow_5 rfl rfl ?_
  refine v_iconst (v := 1) C dX11_mendsNow_6 (by decide) ?_
  refine v_iconst (v := 1) C dX11_mendsNow_7 (by decide) ?_
  obtain ⟨r3, G4, qr3, hf⟩ := bpn hf
  refine v_callVi (As := [.int 1, .int 1]) (rest := []) C (sX11_lawTells h_l0 qr3) cs_X11_396 (by decide) h_l0 rfl hC rfl rfl rfl (Nat.le_of_ble_eq_true rfl) ⟨Nat.le_refl _, Nat.le_refl _⟩ dX11_mendsNow_8 (fun hC => ?_)
  refine v_iconst (v := 0) C dX11_mendsNow_11 (by decide) ?_
  refine v_bipush (v := 99) C dX11_mendsNow_12 (by decide) ?_
  obtain ⟨r5, qr5, hf⟩ := bn hf
  refine v_callSi (As := [.int r3, .int 0, .int 99]) (rest := []) C (sX11_held  qr5) cs_X11_399 (by decide) hC rfl rfl rfl (Nat.le_of_ble_eq_true rfl) ⟨Nat.le_refl _, Nat.le_refl _⟩ dX11_mendsNow_14 (fun hC => ?_)
  cases hf
  exact kr _ _ dX11_mendsNow_17 hC
theorem sX11_mendsNow {l : Launch} {sh : Sh} {G : Hp} {l0 : Nat} {l1 : Int32} {z : Int32 × Hp} (h_l0 : sh[l0]? = some (0, 11)) (hf : fX11_mendsNow sh G l0 l1 = some z) : MC l yX11_mendsNow cX11_mendsNow 2 (some .int) 3 0 0 sh sh G (z.2) (fun ad => [.ref (ad l0), .int l1]) (fun _ => some (.int z.1)) := by
  refine MC_of rfl rfl (fun _ => Nat.le_of_ble_eq_true rfl) (fun E ad C hl hnm hC hQ => ?_)
  exact tX11_mendsNow C hC h_l0 hf (fun pc lv hd hC => v_iret C hQ (fun _ _ => rfl) hC rfl hd)
def fX11_bridge (sh : Sh) (G : Hp) (l0 : Nat) (l1 : Int32) (l2 : Int32) : Option (Int32 × Hp) := (fX11_isBridge sh G l0 l1).bind fun r1 => if r1 = 0 then some ((-1), G) else (fX11_copies sh G l0).bind fun G4 => if l2 = 0 then (ldA sh G4 l0 59 1).bind fun a6 => (aI sh G4 a6 l1).bind fun v7 => some (v7, G4) else if l2 = 1 then (ldA sh G4 l0 33 1).bind fun a9 => (aI sh G4 a9 (((4 : Int32) * (G4.1 l0 18)) + l1)).bind fun v10 => some (v10, G4) else if l2 = 2 then (ldA sh G4 l0 59 1).bind fun a12 => (aI sh G4 a12 ((4 : Int32) + l1)).bind fun v13 => some (v13, G4) else if l2 = 3 then (ldA sh G4 l0 59 1).bind fun a15 => (aI sh G4 a15 ((8 : Int32) + l1)).bind fun v16 => some (v16, G4) else if l2 = 4 then bp (fX11_wearsNow sh G4 l0 l1) fun r18 G19 => some (r18, G19) else if l2 = 5 then bp (fX11_mendsNow sh G4 l0 l1) fun r21 G22 => some (r21, G22) else if l2 = 6 then bp (fX11_bothHold sh G4 l0 l1 l1) fun r24 G25 => some (r24, G25) else some ((-1), G4)
set_option maxHeartbeats 4000000 in
theorem tX11_bridge {E : EX} {ad : Nat → Nat} {sh : Sh} {G : Hp} {l0 : Nat} {l1 : Int32} {l2 : Int32} {z : Int32 × Hp} (C : Cx E RX11 cX11_bridge 3 (some .int) 4 0 0) (hC : Cl sh G) (h_l0 : sh[l0]? = some (0, 11)) (hf : fX11_bridge sh G l0 l1 l2 = some z) (kr : RCi E cX11_bridge ad sh (z.1) (z.2)) : VV E 0 0 (wq (xT E) ad G sh) 0 [(0, .ref (ad l0)), (1, .int l1), (2, .int l2)] [] := by
  unfold fX11_bridge at hf
  refine v_aload_n C 0 dX11_bridge_0 rfl rfl ?_
  refine v_iload_n C 1 dX11_bridge_1 rfl rfl ?_
  obtain ⟨r1, qr1, hf⟩ := bn hf
  refine v_callVi (As := [.int l1]) (rest := []) C (sX11_isBridge h_l0 qr1) cs_X11_431 (by decide) h_l0 rfl hC rfl rfl rfl (Nat.le_of_ble_eq_true rfl) ⟨Nat.le_refl _, Nat.le_refl _⟩ dX11_bridge_2 (fun hC => ?_)
  refine v_if_ne (tgt := 10) C dX11_bridge_5 (by decide) (fun c2 => ?_) (fun c2 => ?_)
  · have hf := im hf c2
    refine v_aload_n C 0 dX11_bridge_10 rfl rfl ?_
    obtain ⟨G4, qr3, hf⟩ := bn hf
    refine v_callVv (As := []) (rest := []) C (sX11_copies h_l0 qr3) cs_X11_434 (by decide) h_l0 rfl hC rfl rfl rfl (Nat.le_of_ble_eq_true rfl) ⟨Nat.le_refl _, Nat.le_refl _⟩ dX11_bridge_11 (fun hC => ?_)
    refine v_iload_n C 2 dX11_bridge_14 rfl rfl ?_
    by_cases c5 : l2 = 0
    · have hf := ip hf c5
      refine v_tableIn (off := 41) (tgt := 56) C dX11_bridge_15 (by rw [c5]; decide) (by rw [c5]; decide) (by rw [c5]; decide) (by decide) ?_
      refine v_aload_n C 0 dX11_bridge_56 rfl rfl ?_
      obtain ⟨a6, qa6, hf⟩ := bn hf
      refine v_getA C h_l0 fl_X11_137 qa6 dX11_bridge_57 (fun h_a6 => ?_)
      refine v_iload_n C 1 dX11_bridge_60 rfl rfl ?_
      obtain ⟨v7, qv7, hf⟩ := bn hf
      refine v_iald C h_a6 qv7 dX11_bridge_61 ?_
      cases hf
      exact kr _ _ dX11_bridge_62 hC
    · have hf := im hf c5
      by_cases c8 : l2 = 1
      · have hf := ip hf c8
        refine v_tableIn (off := 48) (tgt := 63) C dX11_bridge_15 (by rw [c8]; decide) (by rw [c8]; decide) (by rw [c8]; decide) (by decide) ?_
        refine v_aload_n C 0 dX11_bridge_63 rfl rfl ?_
        obtain ⟨a9, qa9, hf⟩ := bn hf
        refine v_getA C h_l0 fl_X11_76 qa9 dX11_bridge_64 (fun h_a9 => ?_)
        refine v_iconst (v := 4) C dX11_bridge_67 (by decide) ?_
        refine v_aload_n C 0 dX11_bridge_68 rfl rfl ?_
        refine v_getI C h_l0 fl_X11_257 dX11_bridge_69 ?_
        refine v_imul C dX11_bridge_72 ?_
        refine v_iload_n C 1 dX11_bridge_73 rfl rfl ?_
        refine v_iadd C dX11_bridge_74 ?_
        obtain ⟨v10, qv10, hf⟩ := bn hf
        refine v_iald C h_a9 qv10 dX11_bridge_75 ?_
        cases hf
        exact kr _ _ dX11_bridge_76 hC
      · have hf := im hf c8
        by_cases c11 : l2 = 2
        · have hf := ip hf c11
          refine v_tableIn (off := 62) (tgt := 77) C dX11_bridge_15 (by rw [c11]; decide) (by rw [c11]; decide) (by rw [c11]; decide) (by decide) ?_
          refine v_aload_n C 0 dX11_bridge_77 rfl rfl ?_
          obtain ⟨a12, qa12, hf⟩ := bn hf
          refine v_getA C h_l0 fl_X11_137 qa12 dX11_bridge_78 (fun h_a12 => ?_)
          refine v_iconst (v := 4) C dX11_bridge_81 (by decide) ?_
          refine v_iload_n C 1 dX11_bridge_82 rfl rfl ?_
          refine v_iadd C dX11_bridge_83 ?_
          obtain ⟨v13, qv13, hf⟩ := bn hf
          refine v_iald C h_a12 qv13 dX11_bridge_84 ?_
          cases hf
          exact kr _ _ dX11_bridge_85 hC
        · have hf := im hf c11
          by_cases c14 : l2 = 3
          · have hf := ip hf c14
            refine v_tableIn (off := 71) (tgt := 86) C dX11_bridge_15 (by rw [c14]; decide) (by rw [c14]; decide) (by rw [c14]; decide) (by decide) ?_
            refine v_aload_n C 0 dX11_bridge_86 rfl rfl ?_
            obtain ⟨a15, qa15, hf⟩ := bn hf
            refine v_getA C h_l0 fl_X11_137 qa15 dX11_bridge_87 (fun h_a15 => ?_)
            refine v_bipush (v := 8) C dX11_bridge_90 (by decide) ?_
            refine v_iload_n C 1 dX11_bridge_92 rfl rfl ?_
            refine v_iadd C dX11_bridge_93 ?_
            obtain ⟨v16, qv16, hf⟩ := bn hf
            refine v_iald C h_a15 qv16 dX11_bridge_94 ?_
            cases hf
            exact kr _ _ dX11_bridge_95 hC
          · have hf := im hf c14
            by_cases c17 : l2 = 4
            · have hf := ip hf c17
              refine v_tableIn (off := 81) (tgt := 96) C dX11_bridge_15 (by rw [c17]; decide) (by rw [c17]; decide) (by rw [c17]; decide) (by decide) ?_
              refine v_aload_n C 0 dX11_bridge_96 rfl rfl ?_
              refine v_iload_n C 1 dX11_bridge_97 rfl rfl ?_
              obtain ⟨r18, G19, qr18, hf⟩ := bpn hf
              refine v_callVi (As := [.int l1]) (rest := []) C (sX11_wearsNow h_l0 qr18) cs_X11_413 (by decide) h_l0 rfl hC rfl rfl rfl (Nat.le_of_ble_eq_true rfl) ⟨Nat.le_refl _, Nat.le_refl _⟩ dX11_bridge_98 (fun hC => ?_)
              cases hf
              exact kr _ _ dX11_bridge_101 hC
            · have hf := im hf c17
              by_cases c20 : l2 = 5
              · have hf := ip hf c20
                refine v_tableIn (off := 87) (tgt := 102) C dX11_bridge_15 (by rw [c20]; decide) (by rw [c20]; decide) (by rw [c20]; decide) (by decide) ?_
                refine v_aload_n C 0 dX11_bridge_102 rfl rfl ?_
                refine v_iload_n C 1 dX11_bridge_103 rfl rfl ?_
                obtain ⟨r21, G22, qr21, hf⟩ := bpn hf
                refine v_callVi (As := [.int l1]) (rest := []) C (sX11_mendsNow h_l0 qr21) cs_X11_437 (by decide) h_l0 rfl hC rfl rfl rfl (Nat.le_of_ble_eq_true rfl) ⟨Nat.le_refl _, Nat.le_refl _⟩ dX11_bridge_104 (fun hC => ?_)
                cases hf
                exact kr _ _ dX11_bridge_107 hC
              · have hf := im hf c20
                by_cases c23 : l2 = 6
                · have hf := ip hf c23
                  refine v_tableIn (off := 93) (tgt := 108) C dX11_bridge_15 (by rw [c23]; decide) (by rw [c23]; decide) (by rw [c23]; decide) (by decide) ?_
                  refine v_aload_n C 0 dX11_bridge_108 rfl rfl ?_
                  refine v_iload_n C 1 dX11_bridge_109 rfl rfl ?_
                  refine v_iload_n C 1 dX11_bridge_110 rfl rfl ?_
                  obtain ⟨r24, G25, qr24, hf⟩ := bpn hf
                  refine v_callVi (As := [.int l1, .int l1]) (rest := []) C (sX11_bothHold h_l0 qr24) cs_X11_440 (by decide) h_l0 rfl hC rfl rfl rfl (Nat.le_of_ble_eq_true rfl) ⟨Nat.le_refl _, Nat.le_refl _⟩ dX11_bridge_111 (fun hC => ?_)
                  cases hf
                  exact kr _ _ dX11_bridge_114 hC
                · have hf := im hf c23
                  refine v_tableOut (tgt := 115) C dX11_bridge_15 (tsw_out (by decide) (by decide) (fun k hk => match k, hk with | 0, _ => fun e => c5 (e.trans (by decide)) | 1, _ => fun e => c8 (e.trans (by decide)) | 2, _ => fun e => c11 (e.trans (by decide)) | 3, _ => fun e => c14 (e.trans (by decide)) | 4, _ => fun e => c17 (e.trans (by decide)) | 5, _ => fun e => c20 (e.trans (by decide)) | 6, _ => fun e => c23 (e.trans (by decide)) | k + 7, hk => absurd hk (by simp only [show (Int.toNat (6 - 0 + 1)) = 7 from rfl]; omega))) (by decide) ?_
                  refine v_iconst (v := (-1)) C dX11_bridge_115 (by decide) ?_
                  cases hf
                  exact kr _ _ dX11_bridge_116 hC
  · have hf := ip hf c2
    refine v_iconst (v := (-1)) C dX11_bridge_8 (by decide) ?_
    cases hf
    exact kr _ _ dX11_bridge_9 hC
theorem sX11_bridge {l : Launch} {sh : Sh} {G : Hp} {l0 : Nat} {l1 : Int32} {l2 : Int32} {z : Int32 × Hp} (h_l0 : sh[l0]? = some (0, 11)) (hf : fX11_bridge sh G l0 l1 l2 = some z) : MC l yX11_bridge cX11_bridge 3 (some .int) 4 0 0 sh sh G (z.2) (fun ad => [.ref (ad l0), .int l1, .int l2]) (fun _ => some (.int z.1)) := by
  refine MC_of rfl rfl (fun _ => Nat.le_of_ble_eq_true rfl) (fun E ad C hl hnm hC hQ => ?_)
  exact tX11_bridge C hC h_l0 hf (fun pc lv hd hC => v_iret C hQ (fun _ _ => rfl) hC rfl hd)
def fX11_cheap_J110L52 (sh : Sh) (G : Hp) (l0 : Nat) (l1 : Int32) (l2 : Int32) (l3 : Int32) (l4 : Int32) (l5 : Int32) (l6 : Int32) (l7 : Int32) (l8 : Int32) : Option ((Hp × Int32 × Int32 × Int32 × Int32) ⊕ ((Hp × Int32 × Int32 × Int32))) := (fX11_setOf sh G l0 l6 l7).bind fun r1 => bp (fX11_isTaken sh G l0 l1 r1) fun r2 G3 => if r2 = 0 then bd ((l7 + 1) : Int32) fun x6 => some (.inl (G3, l3, l4, l5, x6)) else bd ((l7 + 1) : Int32) fun x5 => some (.inl (G3, l6, l7, l8, x5))
set_option maxHeartbeats 4000000 in
theorem tX11_cheap_J110L52 {E : EX} {ad : Nat → Nat} {sh : Sh} {G : Hp} {l0 : Nat} {l1 : Int32} {l2 : Int32} {l3 : Int32} {l4 : Int32} {l5 : Int32} {l6 : Int32} {l7 : Int32} {l8 : Int32} {o : (Hp × Int32 × Int32 × Int32 × Int32) ⊕ ((Hp × Int32 × Int32 × Int32))} (C : Cx E RX11 cX11_cheap 9 (some .int) 3 0 0) (hC : Cl sh G) (h_l0 : sh[l0]? = some (0, 11)) (hf : fX11_cheap_J110L52 sh G l0 l1 l2 l3 l4 l5 l6 l7 l8 = some o) (kb : ∀ (G2 : Hp) (b_l3 : Int32) (b_l4 : Int32) (b_l5 : Int32) (b_l7 : Int32), o = .inl (G2, b_l3, b_l4, b_l5, b_l7) → Cl sh G2 → VV E 0 0 (wq (xT E) ad G2 sh) 52 [(0, .ref (ad l0)), (1, .int l1), (2, .int l2), (3, .int b_l3), (4, .int b_l4), (5, .int b_l5), (6, .int l6), (7, .int b_l7)] []) (kx146 : ∀ (G2 : Hp) (b_l3 : Int32) (b_l4 : Int32) (b_l5 : Int32), o = .inr (G2, b_l3, b_l4, b_l5) → Cl sh G2 → VV E 0 0 (wq (xT E) ad G2 sh) 146 [(0, .ref (ad l0)), (1, .int l1), (2, .int l2), (3, .int b_l3), (4, .int b_l4), (5, .int b_l5), (6, .int l6)] []) : VV E 0 0 (wq (xT E) ad G sh) 110 [(0, .ref (ad l0)), (1, .int l1), (2, .int l2), (3, .int l3), (4, .int l4), (5, .int l5), (6, .int l6), (7, .int l7), (8, .int l8)] [] := by
  unfold fX11_cheap_J110L52 at hf
  refine v_aload_n C 0 dX11_cheap_110 rfl rfl ?_
  refine v_iload_n C 1 dX11_cheap_111 rfl rfl ?_
  refine v_aload_n C 0 dX11_cheap_112 rfl rfl ?_
  refine v_iload C 6 dX11_cheap_113 rfl ?_
  refine v_iload C 7 dX11_cheap_115 rfl ?_
  obtain ⟨r1, qr1, hf⟩ := bn hf
  refine v_callVi (As := [.int l6, .int l7]) (rest := [.int l1, .ref (ad l0)]) C (sX11_setOf h_l0 qr1) cs_X11_428 (by decide) h_l0 rfl hC rfl rfl rfl (Nat.le_of_ble_eq_true rfl) ⟨Nat.le_refl _, Nat.le_refl _⟩ dX11_cheap_117 (fun hC => ?_)
  obtain ⟨r2, G3, qr2, hf⟩ := bpn hf
  refine v_callVi (As := [.int l1, .int r1]) (rest := []) C (sX11_isTaken h_l0 qr2) cs_X11_452 (by decide) h_l0 rfl hC rfl rfl rfl (Nat.le_of_ble_eq_true rfl) ⟨Nat.le_refl _, Nat.le_refl _⟩ dX11_cheap_120 (fun hC => ?_)
  refine v_if_ne (tgt := 129) C dX11_cheap_123 (by decide) (fun c4 => ?_) (fun c4 => ?_)
  · have hf := im hf c4
    refine v_iload C 6 dX11_cheap_129 rfl ?_
    refine v_istore_n (lv2 := [(3, .int l6), (0, .ref (ad l0)), (1, .int l1), (2, .int l2), (4, .int l4), (5, .int l5), (6, .int l6), (7, .int l7), (8, .int l8)]) C dX11_cheap_131 rfl (by decide) rfl ?_
    refine v_iload C 7 dX11_cheap_132 rfl ?_
    refine v_istore (lv2 := [(4, .int l7), (3, .int l6), (0, .ref (ad l0)), (1, .int l1), (2, .int l2), (5, .int l5), (6, .int l6), (7, .int l7), (8, .int l8)]) C dX11_cheap_134 (by decide) rfl ?_
    refine v_iload C 8 dX11_cheap_136 rfl ?_
    refine v_istore (lv2 := [(5, .int l8), (4, .int l7), (3, .int l6), (0, .ref (ad l0)), (1, .int l1), (2, .int l2), (6, .int l6), (7, .int l7), (8, .int l8)]) C dX11_cheap_138 (by decide) rfl ?_
    obtain ⟨x5, ex5⟩ : ∃ x : Int32, x = (l7 + 1) := ⟨_, rfl⟩
    have hf := bd_at hf ex5
    refine v_iinc (v := x5) (j := 7) (lv2 := [(7, .int x5), (5, .int l8), (4, .int l7), (3, .int l6), (0, .ref (ad l0)), (1, .int l1), (2, .int l2), (6, .int l6), (8, .int l8)]) C dX11_cheap_140 rfl (by rw [ex5]; rfl) (by decide) rfl ?_
    refine v_goto (tgt := 52) C dX11_cheap_143 (by decide) ?_
    cases hf
    refine v_sub [4, 5, 6, 3, 2, 1, 7, 0] rfl ?_
    exact kb _ _ _ _ _ rfl hC
  · have hf := ip hf c4
    refine v_goto (tgt := 140) C dX11_cheap_126 (by decide) ?_
    obtain ⟨x6, ex6⟩ : ∃ x : Int32, x = (l7 + 1) := ⟨_, rfl⟩
    have hf := bd_at hf ex6
    refine v_iinc (v := x6) (j := 7) (lv2 := [(7, .int x6), (0, .ref (ad l0)), (1, .int l1), (2, .int l2), (3, .int l3), (4, .int l4), (5, .int l5), (6, .int l6), (8, .int l8)]) C dX11_cheap_140 rfl (by rw [ex6]; rfl) (by decide) rfl ?_
    refine v_goto (tgt := 52) C dX11_cheap_143 (by decide) ?_
    cases hf
    refine v_sub [1, 2, 3, 4, 5, 6, 7, 0] rfl ?_
    exact kb _ _ _ _ _ rfl hC
def fX11_cheap_S52 (sh : Sh) (l0 : Nat) (l1 : Int32) (l2 : Int32) (l6 : Int32) (G : Hp) (l3 : Int32) (l4 : Int32) (l5 : Int32) (l7 : Int32) : Option ((Hp × Int32 × Int32 × Int32 × Int32) ⊕ ((Hp × Int32 × Int32 × Int32))) := (ldA sh G l0 27 1).bind fun a1 => (aI sh G a1 (G.1 l0 18)).bind fun v2 => if v2 ≤ l7 then some (.inr (G, l3, l4, l5)) else (ldA sh G l0 25 1).bind fun a4 => (aI sh G a4 (((7 : Int32) * (G.1 l0 18)) + l6)).bind fun v5 => (fX11_costBy sh G l0 l7).bind fun r6 => bd ((v5 + r6) : Int32) fun x7 => (fX11_isThere sh G l0 l6).bind fun r8 => if r8 = 0 then bd ((l7 + 1) : Int32) fun x10 => some (.inl (G, l3, l4, l5, x10)) else if l3 < 0 then fX11_cheap_J110L52 sh G l0 l1 l2 l3 l4 l5 l6 l7 x7 else if l5 ≤ x7 then bd ((l7 + 1) : Int32) fun x13 => some (.inl (G, l3, l4, l5, x13)) else fX11_cheap_J110L52 sh G l0 l1 l2 l3 l4 l5 l6 l7 x7
set_option maxHeartbeats 4000000 in
theorem tX11_cheap_S52 {E : EX} {ad : Nat → Nat} {sh : Sh} {G : Hp} {l0 : Nat} {l1 : Int32} {l2 : Int32} {l3 : Int32} {l4 : Int32} {l5 : Int32} {l6 : Int32} {l7 : Int32} {o : (Hp × Int32 × Int32 × Int32 × Int32) ⊕ ((Hp × Int32 × Int32 × Int32))} (C : Cx E RX11 cX11_cheap 9 (some .int) 3 0 0) (hC : Cl sh G) (h_l0 : sh[l0]? = some (0, 11)) (hf : fX11_cheap_S52 sh l0 l1 l2 l6 G l3 l4 l5 l7 = some o) (kb : ∀ (G2 : Hp) (b_l3 : Int32) (b_l4 : Int32) (b_l5 : Int32) (b_l7 : Int32), o = .inl (G2, b_l3, b_l4, b_l5, b_l7) → Cl sh G2 → VV E 0 0 (wq (xT E) ad G2 sh) 52 [(0, .ref (ad l0)), (1, .int l1), (2, .int l2), (3, .int b_l3), (4, .int b_l4), (5, .int b_l5), (6, .int l6), (7, .int b_l7)] []) (kx146 : ∀ (G2 : Hp) (b_l3 : Int32) (b_l4 : Int32) (b_l5 : Int32), o = .inr (G2, b_l3, b_l4, b_l5) → Cl sh G2 → VV E 0 0 (wq (xT E) ad G2 sh) 146 [(0, .ref (ad l0)), (1, .int l1), (2, .int l2), (3, .int b_l3), (4, .int b_l4), (5, .int b_l5), (6, .int l6)] []) : VV E 0 0 (wq (xT E) ad G sh) 52 [(0, .ref (ad l0)), (1, .int l1), (2, .int l2), (3, .int l3), (4, .int l4), (5, .int l5), (6, .int l6), (7, .int l7)] [] := by
  unfold fX11_cheap_S52 at hf
  refine v_iload C 7 dX11_cheap_52 rfl ?_
  refine v_aload_n C 0 dX11_cheap_54 rfl rfl ?_
  obtain ⟨a1, qa1, hf⟩ := bn hf
  refine v_getA C h_l0 fl_X11_58 qa1 dX11_cheap_55 (fun h_a1 => ?_)
  refine v_aload_n C 0 dX11_cheap_58 rfl rfl ?_
  refine v_getI C h_l0 fl_X11_257 dX11_cheap_59 ?_
  obtain ⟨v2, qv2, hf⟩ := bn hf
  refine v_iald C h_a1 qv2 dX11_cheap_62 ?_
  refine v_icmp_ge (tgt := 146) C dX11_cheap_63 (by decide) (fun c3 => ?_) (fun c3 => ?_)
  · have hf := ip hf c3
    cases hf
    refine v_sub [0, 1, 2, 3, 4, 5, 6] rfl ?_
    exact kx146 _ _ _ _ rfl hC
  · have hf := im hf c3
    refine v_aload_n C 0 dX11_cheap_66 rfl rfl ?_
    obtain ⟨a4, qa4, hf⟩ := bn hf
    refine v_getA C h_l0 fl_X11_52 qa4 dX11_cheap_67 (fun h_a4 => ?_)
    refine v_bipush (v := 7) C dX11_cheap_70 (by decide) ?_
    refine v_aload_n C 0 dX11_cheap_72 rfl rfl ?_
    refine v_getI C h_l0 fl_X11_257 dX11_cheap_73 ?_
    refine v_imul C dX11_cheap_76 ?_
    refine v_iload C 6 dX11_cheap_77 rfl ?_
    refine v_iadd C dX11_cheap_79 ?_
    obtain ⟨v5, qv5, hf⟩ := bn hf
    refine v_iald C h_a4 qv5 dX11_cheap_80 ?_
    refine v_aload_n C 0 dX11_cheap_81 rfl rfl ?_
    refine v_iload C 7 dX11_cheap_82 rfl ?_
    obtain ⟨r6, qr6, hf⟩ := bn hf
    refine v_callVi (As := [.int l7]) (rest := [.int v5]) C (sX11_costBy h_l0 qr6) cs_X11_449 (by decide) h_l0 rfl hC rfl rfl rfl (Nat.le_of_ble_eq_true rfl) ⟨Nat.le_refl _, Nat.le_refl _⟩ dX11_cheap_84 (fun hC => ?_)
    refine v_iadd C dX11_cheap_87 ?_
    refine v_topi (fun x7 ex7 => ?_)
    have hf := bd_at hf ex7
    refine v_istore (lv2 := [(8, .int x7), (0, .ref (ad l0)), (1, .int l1), (2, .int l2), (3, .int l3), (4, .int l4), (5, .int l5), (6, .int l6), (7, .int l7)]) C dX11_cheap_88 (by decide) rfl ?_
    refine v_aload_n C 1 dX11_cheap_90 rfl rfl ?_
    refine v_iload C 7 dX11_cheap_91 rfl ?_
    obtain ⟨r8, qr8, hf⟩ := bn hf
    refine v_callVi (As := [.int l6]) (rest := []) C (sX11_isThere h_l0 qr8) cs_X11_464 (by decide) h_l0 rfl hC rfl rfl rfl (Nat.le_of_ble_eq_true rfl) ⟨Nat.le_refl _, Nat.le_refl _⟩ dX11_cheap_93 (fun hC => ?_)
    refine v_if_eq (tgt := 140) C dX11_cheap_96 (by decide) (fun c9 => ?_) (fun c9 => ?_)
    · have hf := ip hf c9
      obtain ⟨x10, ex10⟩ : ∃ x : Int32, x = (l7 + 1) := ⟨_, rfl⟩
      have hf := bd_at hf ex10
      refine v_iinc (v := x10) (j := 8) (lv2 := [(7, .int x10), (8, .int x7), (0, .ref (ad l0)), (1, .int l1), (2, .int l2), (3, .int l3), (4, .int l4), (5, .int l5), (6, .int l6)]) C dX11_cheap_140 rfl (by rw [ex10]; rfl) (by decide) rfl ?_
      refine v_goto (tgt := 52) C dX11_cheap_143 (by decide) ?_
      cases hf
      refine v_sub [2, 3, 4, 5, 6, 7, 8, 0] rfl ?_
      exact kb _ _ _ _ _ rfl hC
    · have hf := im hf c9
      refine v_iload_n C 4 dX11_cheap_99 rfl rfl ?_
      refine v_if_lt (tgt := 110) C dX11_cheap_100 (by decide) (fun c11 => ?_) (fun c11 => ?_)
      · have hf := ip hf c11
        refine v_sub [1, 2, 3, 4, 5, 6, 7, 8, 0] rfl ?_
        exact tX11_cheap_J110L52 C hC h_l0 hf kb kx146
      · have hf := im hf c11
        refine v_iload C 0 dX11_cheap_103 rfl ?_
        refine v_iload C 6 dX11_cheap_105 rfl ?_
        refine v_icmp_ge (tgt := 140) C dX11_cheap_107 (by decide) (fun c12 => ?_) (fun c12 => ?_)
        · have hf := ip hf c12
          obtain ⟨x13, ex13⟩ : ∃ x : Int32, x = (l7 + 1) := ⟨_, rfl⟩
          have hf := bd_at hf ex13
          refine v_iinc (v := x13) (j := 8) (lv2 := [(7, .int x13), (8, .int x7), (0, .ref (ad l0)), (1, .int l1), (2, .int l2), (3, .int l3), (4, .int l4), (5, .int l5), (6, .int l6)]) C dX11_cheap_140 rfl (by rw [ex13]; rfl) (by decide) rfl ?_
          refine v_goto (tgt := 52) C dX11_cheap_143 (by decide) ?_
          cases hf
          refine v_sub [2, 3, 4, 5, 6, 7, 8, 0] rfl ?_
          exact kb _ _ _ _ _ rfl hC
        · have hf := im hf c12
          refine v_sub [1, 2, 3, 4, 5, 6, 7, 8, 0] rfl ?_
          exact tX11_cheap_J110L52 C hC h_l0 hf kb kx146
def fX11_cheap_S35 (sh : Sh) (l0 : Nat) (l1 : Int32) (l2 : Int32) (G : Hp) (l3 : Int32) (l4 : Int32) (l5 : Int32) (l6 : Int32) : Option ((Hp × Int32 × Int32 × Int32 × Int32) ⊕ ((Hp × Int32 × Int32 × Int32))) := (ldA sh G l0 24 1).bind fun a1 => (aI sh G a1 (G.1 l0 18)).bind fun v2 => if v2 ≤ l6 then some (.inr (G, l3, l4, l5)) else (iter (fun s : Hp × Int32 × Int32 × Int32 × Int32 => fX11_cheap_S52 sh l0 l1 l2 l6 s.1 s.2.1 s.2.2.1 s.2.2.2.1 s.2.2.2.2) fuel ((G, l3, l4, l5, (-1)) : Hp × Int32 × Int32 × Int32 × Int32)).bind (fun u10 => bd u10.1 fun G5 => bd u10.2.1 fun x6 => bd u10.2.2.1 fun x7 => bd u10.2.2.2 fun x8 => bd ((l6 + 1) : Int32) fun x9 => some (.inl (G5, x6, x7, x8, x9)))
set_option maxHeartbeats 4000000 in
theorem tX11_cheap_S35 {E : EX} {ad : Nat → Nat} {sh : Sh} {G : Hp} {l0 : Nat} {l1 : Int32} {l2 : Int32} {l3 : Int32} {l4 : Int32} {l5 : Int32} {l6 : Int32} {o : (Hp × Int32 × Int32 × Int32 × Int32) ⊕ ((Hp × Int32 × Int32 × Int32))} (C : Cx E RX11 cX11_cheap 9 (some .int) 3 0 0) (hC : Cl sh G) (h_l0 : sh[l0]? = some (0, 11)) (hf : fX11_cheap_S35 sh l0 l1 l2 G l3 l4 l5 l6 = some o) (kb : ∀ (G2 : Hp) (b_l3 : Int32) (b_l4 : Int32) (b_l5 : Int32) (b_l6 : Int32), o = .inl (G2, b_l3, b_l4, b_l5, b_l6) → Cl sh G2 → VV E 0 0 (wq (xT E) ad G2 sh) 35 [(0, .ref (ad l0)), (1, .int l1), (2, .int l2), (3, .int b_l3), (4, .int b_l4), (5, .int b_l5), (6, .int b_l6)] []) (kx152 : ∀ (G2 : Hp) (b_l3 : Int32) (b_l4 : Int32) (b_l5 : Int32), o = .inr (G2, b_l3, b_l4, b_l5) → Cl sh G2 → VV E 0 0 (wq (xT E) ad G2 sh) 152 [(0, .ref (ad l0)), (1, .int l1), (2, .int l2), (3, .int b_l3), (4, .int b_l4), (5, .int b_l5)] []) : VV E 0 0 (wq (xT E) ad G sh) 35 [(0, .ref (ad l0)), (1, .int l1), (2, .int l2), (3, .int l3), (4, .int l4), (5, .int l5), (6, .int l6)] [] := by
  unfold fX11_cheap_S35 at hf
  refine v_iload C 6 dX11_cheap_35 rfl ?_
  refine v_aload_n C 0 dX11_cheap_37 rfl rfl ?_
  obtain ⟨a1, qa1, hf⟩ := bn hf
  refine v_getA C h_l0 fl_X11_49 qa1 dX11_cheap_38 (fun h_a1 => ?_)
  refine v_aload_n C 0 dX11_cheap_41 rfl rfl ?_
  refine v_getI C h_l0 fl_X11_257 dX11_cheap_42 ?_
  obtain ⟨v2, qv2, hf⟩ := bn hf
  refine v_iald C h_a1 qv2 dX11_cheap_45 ?_
  refine v_icmp_ge (tgt := 152) C dX11_cheap_46 (by decide) (fun c3 => ?_) (fun c3 => ?_)
  · have hf := ip hf c3
    cases hf
    refine v_sub [0, 1, 2, 3, 4, 5] rfl ?_
    exact kx152 _ _ _ _ rfl hC
  · have hf := im hf c3
    refine v_iconst (v := (-1)) C dX11_cheap_49 (by decide) ?_
    refine v_istore (lv2 := [(7, .int (-1)), (0, .ref (ad l0)), (1, .int l1), (2, .int l2), (3, .int l3), (4, .int l4), (5, .int l5), (6, .int l6)]) C dX11_cheap_50 (by decide) rfl ?_
    obtain ⟨r4, qr4, hf⟩ := bn hf
    refine v_sub [1, 2, 3, 4, 5, 6, 7, 0] rfl ?_
    refine iter_sound (P := (fun s : Hp × Int32 × Int32 × Int32 × Int32 => Cl sh (s.1) → VV E 0 0 (wq (xT E) ad (s.1) sh) 52 [(0, .ref (ad l0)), (1, .int (l1)), (2, .int (l2)), (3, .int (s.2.1)), (4, .int (s.2.2.1)), (5, .int (s.2.2.2.1)), (6, .int (l6)), (7, .int (s.2.2.2.2))] [])) (X := fun r => r = r4) (fun jsr4 jor4 hor4 jbr4 jxr4 hC => tX11_cheap_S52 C hC h_l0 hor4 (fun _ _ _ _ _ e => jbr4 _ e) ?_) fuel _ r4 qr4 rfl hC
    · intro G5 x6 x7 x8 hu hC
      have e := jxr4 _ hu
      subst e
      have hf := bd_at hf (rfl : G5 = _)
      have hf := bd_at hf (rfl : x6 = _)
      have hf := bd_at hf (rfl : x7 = _)
      have hf := bd_at hf (rfl : x8 = _)
      obtain ⟨x9, ex9⟩ : ∃ x : Int32, x = (l6 + 1) := ⟨_, rfl⟩
      have hf := bd_at hf ex9
      refine v_iinc (v := x9) (j := 6) (lv2 := [(6, .int x9), (0, .ref (ad l0)), (1, .int l1), (2, .int l2), (3, .int x6), (4, .int x7), (5, .int x8)]) C dX11_cheap_146 rfl (by rw [ex9]; rfl) (by decide) rfl ?_
      refine v_goto (tgt := 35) C dX11_cheap_149 (by decide) ?_
      cases hf
      refine v_sub [1, 2, 3, 4, 5, 6, 0] rfl ?_
      exact kb _ _ _ _ _ rfl hC
def fX11_cheap (sh : Sh) (G : Hp) (l0 : Nat) (l1 : Int32) (l2 : Int32) : Option (Int32 × Hp) := (fX11_isBridge sh G l0 l1).bind fun r1 => if r1 = 0 then some ((-1), G) else (fX11_in l2 0 2).bind fun r3 => if r3 = 0 then some ((-1), G) else (fX11_copies sh G l0).bind fun G6 => (iter (fun s : Hp × Int32 × Int32 × Int32 × Int32 => fX11_cheap_S35 sh l0 l1 l2 s.1 s.2.1 s.2.2.1 s.2.2.2.1 s.2.2.2.2) fuel ((G6, (-2), (-1), 0, 0) : Hp × Int32 × Int32 × Int32 × Int32)).bind (fun u16 => bd u16.1 fun G8 => bd u16.2.1 fun x9 => bd u16.2.2.1 fun x10 => bd u16.2.2.2 fun x11 => if 0 ≤ x9 then if l2 = 0 then some (x11, G8) else if l2 = 1 then some (x9, G8) else if x10 = (-1) then some (9, G8) else some (x10, G8) else some ((-2), G8))
set_option maxHeartbeats 4000000 in
theorem tX11_cheap {E : EX} {ad : Nat → Nat} {sh : Sh} {G : Hp} {l0 : Nat} {l1 : Int32} {l2 : Int32} {z : Int32 × Hp} (C : Cx E RX11 cX11_cheap 9 (some .int) 3 0 0) (hC : Cl sh G) (h_l0 : sh[l0]? = some (0, 11)) (hf : fX11_cheap sh G l0 l1 l2 = some z) (kr : RCi E cX11_cheap ad sh (z.1) (z.2)) : VV E 0 0 (wq (xT E) ad G sh) 0 [(0, .ref (ad l0)), (1, .int l1), (2, .int l2)] [] := by
  unfold fX11_cheap at hf
  refine v_aload_n C 0 dX11_cheap_0 rfl rfl ?_
  refine v_iload_n C 1 dX11_cheap_1 rfl rfl ?_
  obtain ⟨r1, qr1, hf⟩ := bn hf
  refine v_callVi (As := [.int l1]) (rest := []) C (sX11_isBridge h_l0 qr1) cs_X11_431 (by decide) h_l0 rfl hC rfl rfl rfl (Nat.le_of_ble_eq_true rfl) ⟨Nat.le_refl _, Nat.le_refl _⟩ dX11_cheap_2 (fun hC => ?_)
  refine v_if_eq (tgt := 17) C dX11_cheap_5 (by decide) (fun c2 => ?_) (fun c2 => ?_)
  · have hf := ip hf c2
    refine v_iconst (v := (-1)) C dX11_cheap_17 (by decide) ?_
    cases hf
    exact kr _ _ dX11_cheap_18 hC
  · have hf := im hf c2
    refine v_iload_n C 2 dX11_cheap_8 rfl rfl ?_
    refine v_iconst (v := 0) C dX11_cheap_9 (by decide) ?_
    refine v_iconst (v := 2) C dX11_cheap_10 (by decide) ?_
    obtain ⟨r3, qr3, hf⟩ := bn hf
    refine v_callSi (As := [.int l2, .int 0, .int 2]) (rest := []) C (sX11_in  qr3) cs_X11_370 (by decide) hC rfl rfl rfl (Nat.le_of_ble_eq_true rfl) ⟨Nat.le_refl _, Nat.le_refl _⟩ dX11_cheap_11 (fun hC => ?_)
    refine v_if_ne (tgt := 19) C dX11_cheap_14 (by decide) (fun c4 => ?_) (fun c4 => ?_)
    · have hf := im hf c4
      refine v_aload_n C 0 dX11_cheap_19 rfl rfl ?_
      obtain ⟨G6, qr5, hf⟩ := bn hf
      refine v_callVv (As := []) (rest := []) C (sX11_copies h_l0 qr5) cs_X11_434 (by decide) h_l0 rfl hC rfl rfl rfl (Nat.le_of_ble_eq_true rfl) ⟨Nat.le_refl _, Nat.le_refl _⟩ dX11_cheap_20 (fun hC => ?_)
      refine v_bipush (v := (-2)) C dX11_cheap_23 (by decide) ?_
      refine v_istore_n (lv2 := [(3, .int (-2)), (0, .ref (ad l0)), (1, .int l1), (2, .int l2)]) C dX11_cheap_25 rfl (by decide) rfl ?_
      refine v_iconst (v := (-1)) C dX11_cheap_26 (by decide) ?_
      refine v_istore (lv2 := [(4, .int (-1)), (3, .int (-2)), (0, .ref (ad l0)), (1, .int l1), (2, .int l2)]) C dX11_cheap_27 (by decide) rfl ?_
      refine v_iconst (v := 0) C dX11_cheap_29 (by decide) ?_
      refine v_istore (lv2 := [(5, .int 0), (4, .int (-1)), (3, .int (-2)), (0, .ref (ad l0)), (1, .int l1), (2, .int l2)]) C dX11_cheap_30 (by decide) rfl ?_
      refine v_iconst (v := 0) C dX11_cheap_32 (by decide) ?_
      refine v_istore (lv2 := [(6, .int 0), (5, .int 0), (4, .int (-1)), (3, .int (-2)), (0, .ref (ad l0)), (1, .int l1), (2, .int l2)]) C dX11_cheap_33 (by decide) rfl ?_
      obtain ⟨r7, qr7, hf⟩ := bn hf
      refine v_sub [4, 5, 6, 3, 2, 1, 0] rfl ?_
      refine iter_sound (P := (fun s : Hp × Int32 × Int32 × Int32 × Int32 => Cl sh (s.1) → VV E 0 0 (wq (xT E) ad (s.1) sh) 35 [(0, .ref (ad l0)), (1, .int (l1)), (2, .int (l2)), (3, .int (s.2.1)), (4, .int (s.2.2.1)), (5, .int (s.2.2.2.1)), (6, .int (s.2.2.2.2))] [])) (X := fun r => r = r7) (fun jsr7 jor7 hor7 jbr7 jxr7 hC => tX11_cheap_S35 C hC h_l0 hor7 (fun _ _ _ _ _ e => jbr7 _ e) ?_) fuel _ r7 qr7 rfl hC
      · intro G8 x9 x10 x11 hu hC
        have e := jxr7 _ hu
        subst e
        have hf := bd_at hf (rfl : G8 = _)
        have hf := bd_at hf (rfl : x9 = _)
        have hf := bd_at hf (rfl : x10 = _)
        have hf := bd_at hf (rfl : x11 = _)
        refine v_iload_n C 3 dX11_cheap_152 rfl rfl ?_
        refine v_if_ge (tgt := 159) C dX11_cheap_153 (by decide) (fun c12 => ?_) (fun c12 => ?_)
        · have hf := ip hf c12
          refine v_iload_n C 2 dX11_cheap_159 rfl rfl ?_
          refine v_if_ne (tgt := 168) C dX11_cheap_160 (by decide) (fun c13 => ?_) (fun c13 => ?_)
          · have hf := im hf c13
            refine v_iload_n C 2 dX11_cheap_168 rfl rfl ?_
            refine v_iconst (v := 1) C dX11_cheap_169 (by decide) ?_
            refine v_icmp_ne (tgt := 177) C dX11_cheap_170 (by decide) (fun c14 => ?_) (fun c14 => ?_)
            · have hf := im hf c14
              refine v_iload C 4 dX11_cheap_177 rfl ?_
              refine v_iconst (v := (-1)) C dX11_cheap_179 (by decide) ?_
              refine v_icmp_ne (tgt := 188) C dX11_cheap_180 (by decide) (fun c15 => ?_) (fun c15 => ?_)
              · have hf := im hf c15
                refine v_iload C 4 dX11_cheap_188 rfl ?_
                cases hf
                exact kr _ _ dX11_cheap_190 hC
              · have hf := ip hf c15
                refine v_bipush (v := 9) C dX11_cheap_183 (by decide) ?_
                refine v_goto (tgt := 190) C dX11_cheap_185 (by decide) ?_
                cases hf
                exact kr _ _ dX11_cheap_190 hC
            · have hf := ip hf c14
              refine v_iload_n C 3 dX11_cheap_173 rfl rfl ?_
              refine v_goto (tgt := 190) C dX11_cheap_174 (by decide) ?_
              cases hf
              exact kr _ _ dX11_cheap_190 hC
          · have hf := ip hf c13
            refine v_iload C 5 dX11_cheap_163 rfl ?_
            refine v_goto (tgt := 190) C dX11_cheap_165 (by decide) ?_
            cases hf
            exact kr _ _ dX11_cheap_190 hC
        · have hf := im hf c12
          refine v_bipush (v := (-2)) C dX11_cheap_156 (by decide) ?_
          cases hf
          exact kr _ _ dX11_cheap_158 hC
    · have hf := ip hf c4
      refine v_iconst (v := (-1)) C dX11_cheap_17 (by decide) ?_
      cases hf
      exact kr _ _ dX11_cheap_18 hC
theorem sX11_cheap {l : Launch} {sh : Sh} {G : Hp} {l0 : Nat} {l1 : Int32} {l2 : Int32} {z : Int32 × Hp} (h_l0 : sh[l0]? = some (0, 11)) (hf : fX11_cheap sh G l0 l1 l2 = some z) : MC l yX11_cheap cX11_cheap 9 (some .int) 3 0 0 sh sh G (z.2) (fun ad => [.ref (ad l0), .int l1, .int l2]) (fun _ => some (.int z.1)) := by
  refine MC_of rfl rfl (fun _ => Nat.le_of_ble_eq_true rfl) (fun E ad C hl hnm hC hQ => ?_)
  exact tX11_cheap C hC h_l0 hf (fun pc lv hd hC => v_iret C hQ (fun _ _ => rfl) hC rfl hd)
def fX11_cheats (sh : Sh) (G : Hp) (l0 : Nat) (l1 : Int32) : Option (Int32 × Hp) := (fX11_isBridge sh G l0 l1).bind fun r1 => if r1 = 0 then some ((-1), G) else (fX11_fillsCheats sh G l0 l1).bind fun G4 => some ((G4.1 l0 67), G4)
set_option maxHeartbeats 4000000 in
theorem tX11_cheats {E : EX} {ad : Nat → Nat} {sh : Sh} {G : Hp} {l0 : Nat} {l1 : Int32} {z : Int32 × Hp} (C : Cx E RX11 cX11_cheats 2 (some .int) 4 0 0) (hC : Cl sh G) (h_l0 : sh[l0]? = some (0, 11)) (hf : fX11_cheats sh G l0 l1 = some z) (kr : RCi E cX11_cheats ad sh (z.1) (z.2)) : VV E 0 0 (wq (xT E) ad G sh) 0 [(0, .ref (ad l0)), (1, .int l1)] [] := by
  unfold fX11_cheats at hf
  refine v_aload_n C 0 dX11_cheats_0 rfl rfl ?_
  refine v_iload_n C 1 dX11_cheats_1 rfl rfl ?_
  obtain ⟨r1, qr1, hf⟩ := bn hf
  refine v_callVi (As := [.int l1]) (rest := []) C (sX11_isBridge h_l0 qr1) cs_X11_431 (by decide) h_l0 rfl hC rfl rfl rfl (Nat.le_of_ble_eq_true rfl) ⟨Nat.le_refl _, Nat.le_refl _⟩ dX11_cheats_2 (fun hC => ?_)
  refine v_if_ne (tgt := 10) C dX11_cheats_5 (by decide) (fun c2 => ?_) (fun c2 => ?_)
  · have hf := im hf c2
    refine v_aload_n C 0 dX11_cheats_10 rfl rfl ?_
    refine v_iload_n C 1 dX11_cheats_11 rfl rfl ?_
    obtain ⟨G4, qr3, hf⟩ := bn hf
    refine v_callVv (As := [.int l1]) (rest := []) C (sX11_fillsCheats h_l0 qr3) cs_X11_470 (by decide) h_l0 rfl hC rfl rfl rfl (Nat.le_of_ble_eq_true rfl) ⟨Nat.le_refl _, Nat.le_refl _⟩ dX11_cheats_12 (fun hC => ?_)
    refine v_aload_n C 0 dX11_cheats_15 rfl rfl ?_
    refine v_getI C h_l0 fl_X11_467 dX11_cheats_16 ?_
    cases hf
    exact kr _ _ dX11_cheats_19 hC
  · have hf := ip hf c2
    refine v_iconst (v := (-1)) C dX11_cheats_8 (by decide) ?_
    cases hf
    exact kr _ _ dX11_cheats_9 hC
theorem sX11_cheats {l : Launch} {sh : Sh} {G : Hp} {l0 : Nat} {l1 : Int32} {z : Int32 × Hp} (h_l0 : sh[l0]? = some (0, 11)) (hf : fX11_cheats sh G l0 l1 = some z) : MC l yX11_cheats cX11_cheats 2 (some .int) 4 0 0 sh sh G (z.2) (fun ad => [.ref (ad l0), .int l1]) (fun _ => some (.int z.1)) := by
  refine MC_of rfl rfl (fun _ => Nat.le_of_ble_eq_true rfl) (fun E ad C hl hnm hC hQ => ?_)
  exact tX11_cheats C hC h_l0 hf (fun pc lv hd hC => v_iret C hQ (fun _ _ => rfl) hC rfl hd)
def fX11_mixed (l0 : Int32) (l1 : Int32) : Option (Int32) := bd ((((l0 ^^^ l1) * 1103515245) + 12345) : Int32) fun x1 => some (x1 ^^^ (ush x1 15))
set_option maxHeartbeats 4000000 in
theorem tX11_mixed {E : EX} {ad : Nat → Nat} {sh : Sh} {G : Hp} {l0 : Int32} {l1 : Int32} {z : Int32} (C : Cx E RX11 cX11_mixed 3 (some .int) 1 0 0) (hC : Cl sh G) (hf : fX11_mixed l0 l1 = some z) (kr : RCi E cX11_mixed ad sh z G) : VV E 0 0 (wq (xT E) ad G sh) 0 [(0, .int l0), (1, .int l1)] [] := by
  unfold fX11_mixed at hf
  refine v_iload_n C 0 dX11_mixed_0 rfl rfl ?_
  refine v_iload_n C 1 dX11_mixed_1 rfl rfl ?_
  refine v_ixor C dX11_mixed_2 ?_
  refine v_ldcw (v := 1103515245) C dX11_mixed_3 kw_856 ?_
  refine v_imul C dX11_mixed_6 ?_
  refine v_sipush (v := 12345) C dX11_mixed_7 (by decide) ?_
  refine v_iadd C dX11_mixed_10 ?_
  refine v_topi (fun x1 ex1 => ?_)
  have hf := bd_at hf ex1
  refine v_istore_n (lv2 := [(2, .int x1), (0, .int l0), (1, .int l1)]) C dX11_mixed_11 rfl (by decide) rfl ?_
  refine v_iload_n C 0 dX11_mixed_12 rfl rfl ?_
  refine v_iload_n C 0 dX11_mixed_13 rfl rfl ?_
  refine v_bipush (v := 15) C dX11_mixed_14 (by decide) ?_
  refine v_iushr C dX11_mixed_16 ?_
  refine v_ixor C dX11_mixed_17 ?_
  cases hf
  exact kr _ _ dX11_mixed_18 hC
theorem sX11_mixed {l : Launch} {sh : Sh} {G : Hp} {l0 : Int32} {l1 : Int32} {z : Int32} (hf : fX11_mixed l0 l1 = some z) : MC l yX11_mixed cX11_mixed 3 (some .int) 1 0 0 sh sh G G (fun ad => [.int l0, .int l1]) (fun _ => some (.int z)) := by
  refine MC_of rfl rfl (fun _ => Nat.le_of_ble_eq_true rfl) (fun E ad C hl hnm hC hQ => ?_)
  exact tX11_mixed C hC hf (fun pc lv hd hC => v_iret C hQ (fun _ _ => rfl) hC rfl hd)
def fX11_isStorm (sh : Sh) (G : Hp) (l0 : Nat) : Option (Int32) := (fX11_mixed (G.1 l0 60) 109).bind fun r1 => (ldA sh G l0 59 1).bind fun a2 => (aI sh G a2 23).bind fun v3 => (fX11_mixed r1 ((4 : Int32) * v3)).bind fun r4 => (ldA sh G l0 38 1).bind fun a5 => (aI sh G a5 (G.1 l0 18)).bind fun v6 => if v6 ≤ ((ush r4 1) - (ush r4 1) / 100 * 100) then some 0 else some 1
set_option maxHeartbeats 4000000 in
theorem tX11_isStorm {E : EX} {ad : Nat → Nat} {sh : Sh} {G : Hp} {l0 : Nat} {z : Int32} (C : Cx E RX11 cX11_isStorm 1 (some .boolean) 2 0 0) (hC : Cl sh G) (h_l0 : sh[l0]? = some (0, 11)) (hf : fX11_isStorm sh G l0 = some z) (kr : RCz E cX11_isStorm ad sh z G) : VV E 0 0 (wq (xT E) ad G sh) 0 [(0, .ref (ad l0))] [] := by
  unfold fX11_isStorm at hf
  refine v_aload_n C 0 dX11_isStorm_0 rfl rfl ?_
  refine v_getI C h_l0 fl_X11_374 dX11_isStorm_1 ?_
  refine v_bipush (v := 109) C dX11_isStorm_4 (by decide) ?_
  obtain ⟨r1, qr1, hf⟩ := bn hf
  refine v_callSi (As := [.int (G.1 l0 60), .int 109]) (rest := []) C (sX11_mixed  qr1) cs_X11_381 (by decide) hC rfl rfl rfl (Nat.le_of_ble_eq_true rfl) ⟨Nat.le_refl _, Nat.le_refl _⟩ dX11_isStorm_6 (fun hC => ?_)
  refine v_iconst (v := 4) C dX11_isStorm_9 (by decide) ?_
  refine v_aload_n C 0 dX11_isStorm_10 rfl rfl ?_
  obtain ⟨a2, qa2, hf⟩ := bn hf
  refine v_getA C h_l0 fl_X11_137 qa2 dX11_isStorm_11 (fun h_a2 => ?_)
  refine v_bipush (v := 23) C dX11_isStorm_14 (by decide) ?_
  obtain ⟨v3, qv3, hf⟩ := bn hf
  refine v_iald C h_a2 qv3 dX11_isStorm_16 ?_
  refine v_imul C dX11_isStorm_17 ?_
  obtain ⟨r4, qr4, hf⟩ := bn hf
  refine v_callSi (As := [.int r1, .int ((4 : Int32) * v3)]) (rest := []) C (sX11_mixed  qr4) cs_X11_381 (by decide) hC rfl rfl rfl (Nat.le_of_ble_eq_true rfl) ⟨Nat.le_refl _, Nat.le_refl _⟩ dX11_isStorm_18 (fun hC => ?_)
  refine v_iconst (v := 1) C dX11_isStorm_21 (by decide) ?_
  refine v_iushr C dX11_isStorm_22 ?_
  refine v_bipush (v := 100) C dX11_isStorm_23 (by decide) ?_
  refine v_irem C dX11_isStorm_25 (by decide) ?_
  refine v_aload_n C 0 dX11_isStorm_26 rfl rfl ?_
  obtain ⟨a5, qa5, hf⟩ := bn hf
  refine v_getA C h_l0 fl_X11_88 qa5 dX11_isStorm_27 (fun h_a5 => ?_)
  refine v_aload_n C 0 dX11_isStorm_30 rfl rfl ?_
  refine v_getI C h_l0 fl_X11_257 dX11_isStorm_31 ?_
  obtain ⟨v6, qv6, hf⟩ := bn hf
  refine v_iald C h_a5 qv6 dX11_isStorm_34 ?_
  refine v_icmp_ge (tgt := 42) C dX11_isStorm_35 (by decide) (fun c7 => ?_) (fun c7 => ?_)
  · have hf := ip hf c7
    refine v_iconst (v := 0) C dX11_isStorm_42 (by decide) ?_
    cases hf
    exact kr _ _ dX11_isStorm_43 (Or.inl rfl) hC
  · have hf := im hf c7
    refine v_iconst (v := 1) C dX11_isStorm_38 (by decide) ?_
    refine v_goto (tgt := 43) C dX11_isStorm_39 (by decide) ?_
    cases hf
    exact kr _ _ dX11_isStorm_43 (Or.inr rfl) hC
theorem sX11_isStorm {l : Launch} {sh : Sh} {G : Hp} {l0 : Nat} {z : Int32} (h_l0 : sh[l0]? = some (0, 11)) (hf : fX11_isStorm sh G l0 = some z) : MC l yX11_isStorm cX11_isStorm 1 (some .boolean) 2 0 0 sh sh G G (fun ad => [.ref (ad l0)]) (fun _ => some (.int z)) := by
  refine MC_of rfl rfl (fun _ => Nat.le_of_ble_eq_true rfl) (fun E ad C hl hnm hC hQ => ?_)
  exact tX11_isStorm C hC h_l0 hf (fun pc lv hd hz hC => v_zret C hQ (fun _ _ => rfl) hC rfl hz hd)
def fX11_count_J219 (sh : Sh) (G : Hp) (l0 : Nat) (s0 : Int32) (s1 : Int32) : Option (Int32 × Hp) := (ldA sh G l0 77 3).bind fun a1 => (aI sh G a1 2).bind fun v2 => if v2 = 0 then some (((s1 + s0) + 0), G) else some (((s1 + s0) + 1), G)
set_option maxHeartbeats 4000000 in
theorem tX11_count_J219 {E : EX} {ad : Nat → Nat} {sh : Sh} {G : Hp} {l0 : Nat} {s0 : Int32} {s1 : Int32} {z : Int32 × Hp} (C : Cx E RX11 cX11_count 2 (some .int) 3 0 0) (hC : Cl sh G) (h_l0 : sh[l0]? = some (0, 11)) (hf : fX11_count_J219 sh G l0 s0 s1 = some z) (kr : RCi E cX11_count ad sh (z.1) (z.2)) : VV E 0 0 (wq (xT E) ad G sh) 219 [(0, .ref (ad l0))] [.int s0, .int s1] := by
  unfold fX11_count_J219 at hf
  refine v_iadd C dX11_count_219 ?_
  refine v_aload_n C 0 dX11_count_220 rfl rfl ?_
  obtain ⟨a1, qa1, hf⟩ := bn hf
  refine v_getA C h_l0 fl_X11_170 qa1 dX11_count_221 (fun h_a1 => ?_)
  refine v_iconst (v := 2) C dX11_count_224 (by decide) ?_
  obtain ⟨v2, qv2, hf⟩ := bn hf
  refine v_zald C h_a1 qv2 dX11_count_225 ?_
  refine v_if_eq (tgt := 233) C dX11_count_226 (by decide) (fun c3 => ?_) (fun c3 => ?_)
  · have hf := ip hf c3
    refine v_iconst (v := 0) C dX11_count_233 (by decide) ?_
    refine v_iadd C dX11_count_234 ?_
    cases hf
    exact kr _ _ dX11_count_235 hC
  · have hf := im hf c3
    refine v_iconst (v := 1) C dX11_count_229 (by decide) ?_
    refine v_goto (tgt := 234) C dX11_count_230 (by decide) ?_
    refine v_iadd C dX11_count_234 ?_
    cases hf
    exact kr _ _ dX11_count_235 hC
def fX11_count_J205 (sh : Sh) (G : Hp) (l0 : Nat) (s0 : Int32) : Option (Int32 × Hp) := (ldA sh G l0 77 3).bind fun a1 => (aI sh G a1 1).bind fun v2 => if v2 = 0 then fX11_count_J219 sh G l0 0 s0 else fX11_count_J219 sh G l0 1 s0
set_option maxHeartbeats 4000000 in
theorem tX11_count_J205 {E : EX} {ad : Nat → Nat} {sh : Sh} {G : Hp} {l0 : Nat} {s0 : Int32} {z : Int32 × Hp} (C : Cx E RX11 cX11_count 2 (some .int) 3 0 0) (hC : Cl sh G) (h_l0 : sh[l0]? = some (0, 11)) (hf : fX11_count_J205 sh G l0 s0 = some z) (kr : RCi E cX11_count ad sh (z.1) (z.2)) : VV E 0 0 (wq (xT E) ad G sh) 205 [(0, .ref (ad l0))] [.int s0] := by
  unfold fX11_count_J205 at hf
  refine v_aload_n C 0 dX11_count_205 rfl rfl ?_
  obtain ⟨a1, qa1, hf⟩ := bn hf
  refine v_getA C h_l0 fl_X11_170 qa1 dX11_count_206 (fun h_a1 => ?_)
  refine v_iconst (v := 1) C dX11_count_209 (by decide) ?_
  obtain ⟨v2, qv2, hf⟩ := bn hf
  refine v_zald C h_a1 qv2 dX11_count_210 ?_
  refine v_if_eq (tgt := 218) C dX11_count_211 (by decide) (fun c3 => ?_) (fun c3 => ?_)
  · have hf := ip hf c3
    refine v_iconst (v := 0) C dX11_count_218 (by decide) ?_
    refine v_sub [0] rfl ?_
    exact tX11_count_J219 C hC h_l0 hf kr
  · have hf := im hf c3
    refine v_iconst (v := 1) C dX11_count_214 (by decide) ?_
    refine v_goto (tgt := 219) C dX11_count_215 (by decide) ?_
    refine v_sub [0] rfl ?_
    exact tX11_count_J219 C hC h_l0 hf kr
def fX11_count (sh : Sh) (G : Hp) (l0 : Nat) (l1 : Int32) : Option (Int32 × Hp) := (fX11_copies sh G l0).bind fun G2 => if l1 = 0 then (ldA sh G2 l0 23 1).bind fun a4 => (aI sh G2 a4 (G2.1 l0 18)).bind fun v5 => some (v5, G2) else if l1 = 1 then (ldA sh G2 l0 24 1).bind fun a7 => (aI sh G2 a7 (G2.1 l0 18)).bind fun v8 => some (v8, G2) else if l1 = 2 then (ldA sh G2 l0 27 1).bind fun a10 => (aI sh G2 a10 (G2.1 l0 18)).bind fun v11 => some (v11, G2) else if l1 = 3 then (ldA sh G2 l0 31 1).bind fun a13 => (aI sh G2 a13 (G2.1 l0 18)).bind fun v14 => some (v14, G2) else if l1 = 4 then (ldA sh G2 l0 59 1).bind fun a16 => (aI sh G2 a16 23).bind fun v17 => some (v17, G2) else if l1 = 5 then (ldA sh G2 l0 59 1).bind fun a19 => (aI sh G2 a19 22).bind fun v20 => some (v20, G2) else if l1 = 6 then (fX11_bridgesSo sh G2 l0 1).bind fun r22 => some (r22, G2) else if l1 = 7 then (fX11_bridgesSo sh G2 l0 2).bind fun r24 => some (r24, G2) else if l1 = 8 then (ldA sh G2 l0 59 1).bind fun a26 => (aI sh G2 a26 25).bind fun v27 => some (v27, G2) else if l1 = 9 then (ldA sh G2 l0 59 1).bind fun a29 => (aI sh G2 a29 21).bind fun v30 => some (v30, G2) else if l1 = 10 then (ldA sh G2 l0 59 1).bind fun a32 => (aI sh G2 a32 24).bind fun v33 => some (v33, G2) else if l1 = 11 then some ((G2.1 l0 2), G2) else if l1 = 12 then some ((G2.1 l0 64), G2) else if l1 = 13 then some ((G2.1 l0 74), G2) else if l1 = 14 then (ldA sh G2 l0 77 3).bind fun a38 => (aI sh G2 a38 0).bind fun v39 => if v39 = 0 then fX11_count_J205 sh G2 l0 0 else fX11_count_J205 sh G2 l0 1 else if l1 = 15 then (fX11_isStorm sh G2 l0).bind fun r42 => if r42 = 0 then some (0, G2) else some (1, G2) else some ((-1), G2)
set_option maxHeartbeats 4000000 in
theorem tX11_count {E : EX} {ad : Nat → Nat} {sh : Sh} {G : Hp} {l0 : Nat} {l1 : Int32} {z : Int32 × Hp} (C : Cx E RX11 cX11_count 2 (some .int) 3 0 0) (hC : Cl sh G) (h_l0 : sh[l0]? = some (0, 11)) (hf : fX11_count sh G l0 l1 = some z) (kr : RCi E cX11_count ad sh (z.1) (z.2)) : VV E 0 0 (wq (xT E) ad G sh) 0 [(0, .ref (ad l0)), (1, .int l1)] [] := by
  unfold fX11_count at hf
  refine v_aload_n C 0 dX11_count_0 rfl rfl ?_
  obtain ⟨G2, qr1, hf⟩ := bn hf
  refine v_callVv (As := []) (rest := []) C (sX11_copies h_l0 qr1) cs_X11_434 (by decide) h_l0 rfl hC rfl rfl rfl (Nat.le_of_ble_eq_true rfl) ⟨Nat.le_refl _, Nat.le_refl _⟩ dX11_count_1 (fun hC => ?_)
  refine v_iload_n C 1 dX11_count_4 rfl rfl ?_
  by_cases c3 : l1 = 0
  · have hf := ip hf c3
    refine v_tableIn (off := 79) (tgt := 84) C dX11_count_5 (by rw [c3]; decide) (by rw [c3]; decide) (by rw [c3]; decide) (by decide) ?_
    refine v_aload_n C 0 dX11_count_84 rfl rfl ?_
    obtain ⟨a4, qa4, hf⟩ := bn hf
    refine v_getA C h_l0 fl_X11_46 qa4 dX11_count_85 (fun h_a4 => ?_)
    refine v_aload_n C 0 dX11_count_88 rfl rfl ?_
    refine v_getI C h_l0 fl_X11_257 dX11_count_89 ?_
    obtain ⟨v5, qv5, hf⟩ := bn hf
    refine v_iald C h_a4 qv5 dX11_count_92 ?_
    cases hf
    exact kr _ _ dX11_count_93 hC
  · have hf := im hf c3
    by_cases c6 : l1 = 1
    · have hf := ip hf c6
      refine v_tableIn (off := 89) (tgt := 94) C dX11_count_5 (by rw [c6]; decide) (by rw [c6]; decide) (by rw [c6]; decide) (by decide) ?_
      refine v_aload_n C 0 dX11_count_94 rfl rfl ?_
      obtain ⟨a7, qa7, hf⟩ := bn hf
      refine v_getA C h_l0 fl_X11_49 qa7 dX11_count_95 (fun h_a7 => ?_)
      refine v_aload_n C 0 dX11_count_98 rfl rfl ?_
      refine v_getI C h_l0 fl_X11_257 dX11_count_99 ?_
      obtain ⟨v8, qv8, hf⟩ := bn hf
      refine v_iald C h_a7 qv8 dX11_count_102 ?_
      cases hf
      exact kr _ _ dX11_count_103 hC
    · have hf := im hf c6
      by_cases c9 : l1 = 2
      · have hf := ip hf c9
        refine v_tableIn (off := 99) (tgt := 104) C dX11_count_5 (by rw [c9]; decide) (by rw [c9]; decide) (by rw [c9]; decide) (by decide) ?_
        refine v_aload_n C 0 dX11_count_104 rfl rfl ?_
        obtain ⟨a10, qa10, hf⟩ := bn hf
        refine v_getA C h_l0 fl_X11_58 qa10 dX11_count_105 (fun h_a10 => ?_)
        refine v_aload_n C 0 dX11_count_108 rfl rfl ?_
        refine v_getI C h_l0 fl_X11_257 dX11_count_109 ?_
        obtain ⟨v11, qv11, hf⟩ := bn hf
        refine v_iald C h_a10 qv11 dX11_count_112 ?_
        cases hf
        exact kr _ _ dX11_count_113 hC
      · have hf := im hf c9
        by_cases c12 : l1 = 3
        · have hf := ip hf c12
          refine v_tableIn (off := 109) (tgt := 114) C dX11_count_5 (by rw [c12]; decide) (by rw [c12]; decide) (by rw [c12]; decide) (by decide) ?_
          refine v_aload_n C 0 dX11_count_114 rfl rfl ?_
          obtain ⟨a13, qa13, hf⟩ := bn hf
          refine v_getA C h_l0 fl_X11_70 qa13 dX11_count_115 (fun h_a13 => ?_)
          refine v_aload_n C 0 dX11_count_118 rfl rfl ?_
          refine v_getI C h_l0 fl_X11_257 dX11_count_119 ?_
          obtain ⟨v14, qv14, hf⟩ := bn hf
          refine v_iald C h_a13 qv14 dX11_count_122 ?_
          cases hf
          exact kr _ _ dX11_count_123 hC
        · have hf := im hf c12
          by_cases c15 : l1 = 4
          · have hf := ip hf c15
            refine v_tableIn (off := 119) (tgt := 124) C dX11_count_5 (by rw [c15]; decide) (by rw [c15]; decide) (by rw [c15]; decide) (by decide) ?_
            refine v_aload_n C 0 dX11_count_124 rfl rfl ?_
            obtain ⟨a16, qa16, hf⟩ := bn hf
            refine v_getA C h_l0 fl_X11_137 qa16 dX11_count_125 (fun h_a16 => ?_)
            refine v_bipush (v := 23) C dX11_count_128 (by decide) ?_
            obtain ⟨v17, qv17, hf⟩ := bn hf
            refine v_iald C h_a16 qv17 dX11_count_130 ?_
            cases hf
            exact kr _ _ dX11_count_131 hC
          · have hf := im hf c15
            by_cases c18 : l1 = 5
            · have hf := ip hf c18
              refine v_tableIn (off := 127) (tgt := 132) C dX11_count_5 (by rw [c18]; decide) (by rw [c18]; decide) (by rw [c18]; decide) (by decide) ?_
              refine v_aload_n C 0 dX11_count_132 rfl rfl ?_
              obtain ⟨a19, qa19, hf⟩ := bn hf
              refine v_getA C h_l0 fl_X11_137 qa19 dX11_count_133 (fun h_a19 => ?_)
              refine v_bipush (v := 22) C dX11_count_136 (by decide) ?_
              obtain ⟨v20, qv20, hf⟩ := bn hf
              refine v_iald C h_a19 qv20 dX11_count_138 ?_
              cases hf
              exact kr _ _ dX11_count_139 hC
            · have hf := im hf c18
              by_cases c21 : l1 = 6
              · have hf := ip hf c21
                refine v_tableIn (off := 135) (tgt := 140) C dX11_count_5 (by rw [c21]; decide) (by rw [c21]; decide) (by rw [c21]; decide) (by decide) ?_
                refine v_aload_n C 0 dX11_count_140 rfl rfl ?_
                refine v_iconst (v := 1) C dX11_count_141 (by decide) ?_
                obtain ⟨r22, qr22, hf⟩ := bn hf
                refine v_callVi (As := [.int 1]) (rest := []) C (sX11_bridgesSo h_l0 qr22) cs_X11_384 (by decide) h_l0 rfl hC rfl rfl rfl (Nat.le_of_ble_eq_true rfl) ⟨Nat.le_refl _, Nat.le_refl _⟩ dX11_count_142 (fun hC => ?_)
                cases hf
                exact kr _ _ dX11_count_145 hC
              · have hf := im hf c21
                by_cases c23 : l1 = 7
                · have hf := ip hf c23
                  refine v_tableIn (off := 141) (tgt := 146) C dX11_count_5 (by rw [c23]; decide) (by rw [c23]; decide) (by rw [c23]; decide) (by decide) ?_
                  refine v_aload_n C 0 dX11_count_146 rfl rfl ?_
                  refine v_iconst (v := 2) C dX11_count_147 (by decide) ?_
                  obtain ⟨r24, qr24, hf⟩ := bn hf
                  refine v_callVi (As := [.int 2]) (rest := []) C (sX11_bridgesSo h_l0 qr24) cs_X11_384 (by decide) h_l0 rfl hC rfl rfl rfl (Nat.le_of_ble_eq_true rfl) ⟨Nat.le_refl _, Nat.le_refl _⟩ dX11_count_148 (fun hC => ?_)
                  cases hf
                  exact kr _ _ dX11_count_151 hC
                · have hf := im hf c23
                  by_cases c25 : l1 = 8
                  · have hf := ip hf c25
                    refine v_tableIn (off := 147) (tgt := 152) C dX11_count_5 (by rw [c25]; decide) (by rw [c25]; decide) (by rw [c25]; decide) (by decide) ?_
                    refine v_aload_n C 0 dX11_count_152 rfl rfl ?_
                    obtain ⟨a26, qa26, hf⟩ := bn hf
                    refine v_getA C h_l0 fl_X11_137 qa26 dX11_count_153 (fun h_a26 => ?_)
                    refine v_bipush (v := 25) C dX11_count_156 (by decide) ?_
                    obtain ⟨v27, qv27, hf⟩ := bn hf
                    refine v_iald C h_a26 qv27 dX11_count_158 ?_
                    cases hf
                    exact kr _ _ dX11_count_159 hC
                  · have hf := im hf c25
                    by_cases c28 : l1 = 9
                    · have hf := ip hf c28
                      refine v_tableIn (off := 155) (tgt := 160) C dX11_count_5 (by rw [c28]; decide) (by rw [c28]; decide) (by rw [c28]; decide) (by decide) ?_
                      refine v_aload_n C 0 dX11_count_160 rfl rfl ?_
                      obtain ⟨a29, qa29, hf⟩ := bn hf
                      refine v_getA C h_l0 fl_X11_137 qa29 dX11_count_161 (fun h_a29 => ?_)
                      refine v_bipush (v := 21) C dX11_count_164 (by decide) ?_
                      obtain ⟨v30, qv30, hf⟩ := bn hf
                      refine v_iald C h_a29 qv30 dX11_count_166 ?_
                      cases hf
                      exact kr _ _ dX11_count_167 hC
                    · have hf := im hf c28
                      by_cases c31 : l1 = 10
                      · have hf := ip hf c31
                        refine v_tableIn (off := 163) (tgt := 168) C dX11_count_5 (by rw [c31]; decide) (by rw [c31]; decide) (by rw [c31]; decide) (by decide) ?_
                        refine v_aload_n C 0 dX11_count_168 rfl rfl ?_
                        obtain ⟨a32, qa32, hf⟩ := bn hf
                        refine v_getA C h_l0 fl_X11_137 qa32 dX11_count_169 (fun h_a32 => ?_)
                        refine v_bipush (v := 24) C dX11_count_172 (by decide) ?_
                        obtain ⟨v33, qv33, hf⟩ := bn hf
                        refine v_iald C h_a32 qv33 dX11_count_174 ?_
                        cases hf
                        exact kr _ _ dX11_count_175 hC
                      · have hf := im hf c31
                        by_cases c34 : l1 = 11
                        · have hf := ip hf c34
                          refine v_tableIn (off := 171) (tgt := 176) C dX11_count_5 (by rw [c34]; decide) (by rw [c34]; decide) (by rw [c34]; decide) (by decide) ?_
                          refine v_aload_n C 0 dX11_count_176 rfl rfl ?_
                          refine v_getI C h_l0 fl_X11_190 dX11_count_177 ?_
                          cases hf
                          exact kr _ _ dX11_count_180 hC
                        · have hf := im hf c34
                          by_cases c35 : l1 = 12
                          · have hf := ip hf c35
                            refine v_tableIn (off := 176) (tgt := 181) C dX11_count_5 (by rw [c35]; decide) (by rw [c35]; decide) (by rw [c35]; decide) (by decide) ?_
                            refine v_aload_n C 0 dX11_count_181 rfl rfl ?_
                            refine v_getI C h_l0 fl_X11_278 dX11_count_182 ?_
                            cases hf
                            exact kr _ _ dX11_count_185 hC
                          · have hf := im hf c35
                            by_cases c36 : l1 = 13
                            · have hf := ip hf c36
                              refine v_tableIn (off := 181) (tgt := 186) C dX11_count_5 (by rw [c36]; decide) (by rw [c36]; decide) (by rw [c36]; decide) (by decide) ?_
                              refine v_aload_n C 0 dX11_count_186 rfl rfl ?_
                              refine v_getI C h_l0 fl_X11_281 dX11_count_187 ?_
                              cases hf
                              exact kr _ _ dX11_count_190 hC
                            · have hf := im hf c36
                              by_cases c37 : l1 = 14
                              · have hf := ip hf c37
                                refine v_tableIn (off := 186) (tgt := 191) C dX11_count_5 (by rw [c37]; decide) (by rw [c37]; decide) (by rw [c37]; decide) (by decide) ?_
                                refine v_aload_n C 0 dX11_count_191 rfl rfl ?_
                                obtain ⟨a38, qa38, hf⟩ := bn hf
                                refine v_getA C h_l0 fl_X11_170 qa38 dX11_count_192 (fun h_a38 => ?_)
                                refine v_iconst (v := 0) C dX11_count_195 (by decide) ?_
                                obtain ⟨v39, qv39, hf⟩ := bn hf
                                refine v_zald C h_a38 qv39 dX11_count_196 ?_
                                refine v_if_eq (tgt := 204) C dX11_count_197 (by decide) (fun c40 => ?_) (fun c40 => ?_)
                                · have hf := ip hf c40
                                  refine v_iconst (v := 0) C dX11_count_204 (by decide) ?_
                                  refine v_sub [0] rfl ?_
                                  exact tX11_count_J205 C hC h_l0 hf kr
                                · have hf := im hf c40
                                  refine v_iconst (v := 1) C dX11_count_200 (by decide) ?_
                                  refine v_goto (tgt := 205) C dX11_count_201 (by decide) ?_
                                  refine v_sub [0] rfl ?_
                                  exact tX11_count_J205 C hC h_l0 hf kr
                              · have hf := im hf c37
                                by_cases c41 : l1 = 15
                                · have hf := ip hf c41
                                  refine v_tableIn (off := 231) (tgt := 236) C dX11_count_5 (by rw [c41]; decide) (by rw [c41]; decide) (by rw [c41]; decide) (by decide) ?_
                                  refine v_aload_n C 0 dX11_count_236 rfl rfl ?_
                                  obtain ⟨r42, qr42, hf⟩ := bn hf
                                  refine v_callVi (As := []) (rest := []) C (sX11_isStorm h_l0 qr42) cs_X11_409 (by decide) h_l0 rfl hC rfl rfl rfl (Nat.le_of_ble_eq_true rfl) ⟨Nat.le_refl _, Nat.le_refl _⟩ dX11_count_237 (fun hC => ?_)
                                  refine v_if_eq (tgt := 247) C dX11_count_240 (by decide) (fun c43 => ?_) (fun c43 => ?_)
                                  · have hf := ip hf c43
                                    refine v_iconst (v := 0) C dX11_count_247 (by decide) ?_
                                    cases hf
                                    exact kr _ _ dX11_count_248 hC
                                  · have hf := im hf c43
                                    refine v_iconst (v := 1) C dX11_count_243 (by decide) ?_
                                    refine v_goto (tgt := 248) C dX11_count_244 (by decide) ?_
                                    cases hf
                                    exact kr _ _ dX11_count_248 hC
                                · have hf := im hf c41
                                  refine v_tableOut (tgt := 249) C dX11_count_5 (tsw_out (by decide) (by decide) (fun k hk => match k, hk with | 0, _ => fun e => c3 (e.trans (by decide)) | 1, _ => fun e => c6 (e.trans (by decide)) | 2, _ => fun e => c9 (e.trans (by decide)) | 3, _ => fun e => c12 (e.trans (by decide)) | 4, _ => fun e => c15 (e.trans (by decide)) | 5, _ => fun e => c18 (e.trans (by decide)) | 6, _ => fun e => c21 (e.trans (by decide)) | 7, _ => fun e => c23 (e.trans (by decide)) | 8, _ => fun e => c25 (e.trans (by decide)) | 9, _ => fun e => c28 (e.trans (by decide)) | 10, _ => fun e => c31 (e.trans (by decide)) | 11, _ => fun e => c34 (e.trans (by decide)) | 12, _ => fun e => c35 (e.trans (by decide)) | 13, _ => fun e => c36 (e.trans (by decide)) | 14, _ => fun e => c37 (e.trans (by decide)) | 15, _ => fun e => c41 (e.trans (by decide)) | k + 16, hk => absurd hk (by simp only [show (Int.toNat (15 - 0 + 1)) = 16 from rfl]; omega))) (by decide) ?_
                                  refine v_iconst (v := (-1)) C dX11_count_249 (by decide) ?_
                                  cases hf
                                  exact kr _ _ dX11_count_250 hC
theorem sX11_count {l : Launch} {sh : Sh} {G : Hp} {l0 : Nat} {l1 : Int32} {z : Int32 × Hp} (h_l0 : sh[l0]? = some (0, 11)) (hf : fX11_count sh G l0 l1 = some z) : MC l yX11_count cX11_count 2 (some .int) 3 0 0 sh sh G (z.2) (fun ad => [.ref (ad l0), .int l1]) (fun _ => some (.int z.1)) := by
  refine MC_of rfl rfl (fun _ => Nat.le_of_ble_eq_true rfl) (fun E ad C hl hnm hC hQ => ?_)
  exact tX11_count C hC h_l0 hf (fun pc lv hd hC => v_iret C hQ (fun _ _ => rfl) hC rfl hd)
