def fX0_shutOutBy_S4 (sh : Sh) (l0 : Nat) (l1 : Int32) (G : Hp) (l2 : Int32) (l3 : Int32) : Option ((Int32 × Int32) ⊕ ((Int32))) := if (G.1 l0 0) ≤ l3 then some (.inr l2) else (ldA sh G l0 1 1).bind fun a2 => (aI sh G a2 l3).bind fun v3 => if (v3 &&& l1) = 0 then bd ((l3 + 1) : Int32) fun x5 => some (.inl (l2, x5)) else bd ((l2 + 1) : Int32) fun x6 => bd ((l3 + 1) : Int32) fun x7 => some (.inl (x6, x7))
set_option maxHeartbeats 4000000 in
theorem tX0_shutOutBy_S4 {E : EX} {ad : Nat → Nat} {sh : Sh} {G : Hp} {l0 : Nat} {l1 : Int32} {l2 : Int32} {l3 : Int32} {o : (Int32 × Int32) ⊕ ((Int32))} (C : Cx E RX0 cX0_shutOutBy 4 (some .int) 1 0 0) (hC : Cl sh G) (h_l0 : sh[l0]? = some (0, 0)) (hf : fX0_shutOutBy_S4 sh l0 l1 G l2 l3 = some o) (kb : ∀ (b_l2 : Int32) (b_l3 : Int32), o = .inl (b_l2, b_l3) → VV E 0 0 (wq (xT E) ad G sh) 4 [(0, .ref (ad l0)), (1, .int l1), (2, .int b_l2), (3, .int b_l3)] []) (kx32 : ∀ (b_l2 : Int32), o = .inr b_l2 → VV E 0 0 (wq (xT E) ad G sh) 32 [(0, .ref (ad l0)), (1, .int l1), (2, .int b_l2)] []) : VV E 0 0 (wq (xT E) ad G sh) 4 [(0, .ref (ad l0)), (1, .int l1), (2, .int l2), (3, .int l3)] [] := by
  unfold fX0_shutOutBy_S4 at hf
  refine v_iload_n C 3 dX0_shutOutBy_4 rfl rfl ?_
  refine v_aload_n C 0 dX0_shutOutBy_5 rfl rfl ?_
  refine v_getI C h_l0 fl_X0_15 dX0_shutOutBy_6 ?_
  refine v_icmp_ge (tgt := 32) C dX0_shutOutBy_9 (by decide) (fun c1 => ?_) (fun c1 => ?_)
  · have hf := ip hf c1
    cases hf
    refine v_sub [0, 1, 2] rfl ?_
    exact kx32 _ rfl
  · have hf := im hf c1
    refine v_aload_n C 0 dX0_shutOutBy_12 rfl rfl ?_
    obtain ⟨a2, qa2, hf⟩ := bn hf
    refine v_getA C h_l0 fl_X0_9 qa2 dX0_shutOutBy_13 (fun h_a2 => ?_)
    refine v_iload_n C 3 dX0_shutOutBy_16 rfl rfl ?_
    obtain ⟨v3, qv3, hf⟩ := bn hf
    refine v_iald C h_a2 qv3 dX0_shutOutBy_17 ?_
    refine v_iload_n C 1 dX0_shutOutBy_18 rfl rfl ?_
    refine v_iand C dX0_shutOutBy_19 ?_
    refine v_if_eq (tgt := 26) C dX0_shutOutBy_20 (by decide) (fun c4 => ?_) (fun c4 => ?_)
    · have hf := ip hf c4
      obtain ⟨x5, ex5⟩ : ∃ x : Int32, x = (l3 + 1) := ⟨_, rfl⟩
      have hf := bd_at hf ex5
      refine v_iinc (v := x5) (j := 3) (lv2 := [(3, .int x5), (0, .ref (ad l0)), (1, .int l1), (2, .int l2)]) C dX0_shutOutBy_26 rfl (by rw [ex5]; rfl) (by decide) rfl ?_
      refine v_goto (tgt := 4) C dX0_shutOutBy_29 (by decide) ?_
      cases hf
      refine v_sub [1, 2, 3, 0] rfl ?_
      exact kb _ _ rfl
    · have hf := im hf c4
      obtain ⟨x6, ex6⟩ : ∃ x : Int32, x = (l2 + 1) := ⟨_, rfl⟩
      have hf := bd_at hf ex6
      refine v_iinc (v := x6) (j := 2) (lv2 := [(2, .int x6), (0, .ref (ad l0)), (1, .int l1), (3, .int l3)]) C dX0_shutOutBy_23 rfl (by rw [ex6]; rfl) (by decide) rfl ?_
      obtain ⟨x7, ex7⟩ : ∃ x : Int32, x = (l3 + 1) := ⟨_, rfl⟩
      have hf := bd_at hf ex7
      refine v_iinc (v := x7) (j := 3) (lv2 := [(3, .int x7), (2, .int x6), (0, .ref (ad l0)), (1, .int l1)]) C dX0_shutOutBy_26 rfl (by rw [ex7]; rfl) (by decide) rfl ?_
      refine v_goto (tgt := 4) C dX0_shutOutBy_29 (by decide) ?_
      cases hf
      refine v_sub [2, 3, 1, 0] rfl ?_
      exact kb _ _ rfl
def fX0_shutOutBy (sh : Sh) (G : Hp) (l0 : Nat) (l1 : Int32) : Option (Int32) := (iter (fun s : Int32 × Int32 => fX0_shutOutBy_S4 sh l0 l1 G s.1 s.2) fuel ((0, 0) : Int32 × Int32)).bind (fun u3 => bd u3 fun x2 => some x2)
set_option maxHeartbeats 4000000 in
theorem tX0_shutOutBy {E : EX} {ad : Nat → Nat} {sh : Sh} {G : Hp} {l0 : Nat} {l1 : Int32} {z : Int32} (C : Cx E RX0 cX0_shutOutBy 4 (some .int) 1 0 0) (hC : Cl sh G) (h_l0 : sh[l0]? = some (0, 0)) (hf : fX0_shutOutBy sh G l0 l1 = some z) (kr : RCi E cX0_shutOutBy ad sh z G) : VV E 0 0 (wq (xT E) ad G sh) 0 [(0, .ref (ad l0)), (1, .int l1)] [] := by
  unfold fX0_shutOutBy at hf
  refine v_iconst (v := 0) C dX0_shutOutBy_0 (by decide) ?_
  refine v_istore_n (lv2 := [(2, .int 0), (0, .ref (ad l0)), (1, .int l1)]) C dX0_shutOutBy_1 rfl (by decide) rfl ?_
  refine v_iconst (v := 0) C dX0_shutOutBy_2 (by decide) ?_
  refine v_istore_n (lv2 := [(3, .int 0), (2, .int 0), (0, .ref (ad l0)), (1, .int l1)]) C dX0_shutOutBy_3 rfl (by decide) rfl ?_
  obtain ⟨r1, qr1, hf⟩ := bn hf
  refine v_sub [2, 3, 1, 0] rfl ?_
  refine iter_sound (P := (fun s : Int32 × Int32 => VV E 0 0 (wq (xT E) ad (G) sh) 4 [(0, .ref (ad l0)), (1, .int (l1)), (2, .int (s.1)), (3, .int (s.2))] [])) (X := fun r => r = r1) (fun jsr1 jor1 hor1 jbr1 jxr1 => tX0_shutOutBy_S4 C hC h_l0 hor1 (fun _ _ e => jbr1 _ e) ?_) fuel _ r1 qr1 rfl
  · intro x2 hu
    have e := jxr1 _ hu
    subst e
    have hf := bd_at hf (rfl : x2 = _)
    refine v_iload_n C 2 dX0_shutOutBy_32 rfl rfl ?_
    cases hf
    exact kr _ _ dX0_shutOutBy_33 hC
theorem sX0_shutOutBy {l : Launch} {sh : Sh} {G : Hp} {l0 : Nat} {l1 : Int32} {z : Int32} (h_l0 : sh[l0]? = some (0, 0)) (hf : fX0_shutOutBy sh G l0 l1 = some z) : MC l yX0_shutOutBy cX0_shutOutBy 4 (some .int) 1 0 0 sh sh G G (fun ad => [.ref (ad l0), .int l1]) (fun _ => some (.int z)) := by
  refine MC_of rfl rfl (fun _ => Nat.le_of_ble_eq_true rfl) (fun E ad C hl hnm hC hQ => ?_)
  exact tX0_shutOutBy C hC h_l0 hf (fun pc lv hd hC => v_iret C hQ (fun _ _ => rfl) hC rfl hd)
def fX0_traitToBar_S4 (sh : Sh) (l0 : Nat) (l1 : Int32) (G : Hp) (l2 : Int32) (l3 : Int32) : Option ((Int32 × Int32) ⊕ ((Int32))) := if l1 ≤ l3 then some (.inr l2) else (fX0_shutOutBy sh G l0 ((1 : Int32) <<< (l3 &&& 31))).bind fun r2 => (fX0_shutOutBy sh G l0 ((1 : Int32) <<< (l2 &&& 31))).bind fun r3 => if r2 ≤ r3 then bd ((l3 + 1) : Int32) fun x5 => some (.inl (l2, x5)) else bd ((l3 + 1) : Int32) fun x6 => some (.inl (l3, x6))
set_option maxHeartbeats 4000000 in
theorem tX0_traitToBar_S4 {E : EX} {ad : Nat → Nat} {sh : Sh} {G : Hp} {l0 : Nat} {l1 : Int32} {l2 : Int32} {l3 : Int32} {o : (Int32 × Int32) ⊕ ((Int32))} (C : Cx E RX0 cX0_traitToBar 4 (some .int) 2 0 0) (hC : Cl sh G) (h_l0 : sh[l0]? = some (0, 0)) (hf : fX0_traitToBar_S4 sh l0 l1 G l2 l3 = some o) (kb : ∀ (b_l2 : Int32) (b_l3 : Int32), o = .inl (b_l2, b_l3) → VV E 0 0 (wq (xT E) ad G sh) 4 [(0, .ref (ad l0)), (1, .int l1), (2, .int b_l2), (3, .int b_l3)] []) (kx34 : ∀ (b_l2 : Int32), o = .inr b_l2 → VV E 0 0 (wq (xT E) ad G sh) 34 [(0, .ref (ad l0)), (1, .int l1), (2, .int b_l2)] []) : VV E 0 0 (wq (xT E) ad G sh) 4 [(0, .ref (ad l0)), (1, .int l1), (2, .int l2), (3, .int l3)] [] := by
  unfold fX0_traitToBar_S4 at hf
  refine v_iload_n C 3 dX0_traitToBar_4 rfl rfl ?_
  refine v_iload_n C 1 dX0_traitToBar_5 rfl rfl ?_
  refine v_icmp_ge (tgt := 34) C dX0_traitToBar_6 (by decide) (fun c1 => ?_) (fun c1 => ?_)
  · have hf := ip hf c1
    cases hf
    refine v_sub [0, 1, 2] rfl ?_
    exact kx34 _ rfl
  · have hf := im hf c1
    refine v_aload_n C 0 dX0_traitToBar_9 rfl rfl ?_
    refine v_iconst (v := 1) C dX0_traitToBar_10 (by decide) ?_
    refine v_iload_n C 3 dX0_traitToBar_11 rfl rfl ?_
    refine v_ishl C dX0_traitToBar_12 ?_
    obtain ⟨r2, qr2, hf⟩ := bn hf
    refine v_callVi (As := [.int ((1 : Int32) <<< (l3 &&& 31))]) (rest := []) C (sX0_shutOutBy h_l0 qr2) cs_X0_41 (by decide) h_l0 rfl hC rfl rfl rfl (Nat.le_of_ble_eq_true rfl) ⟨Nat.le_refl _, Nat.le_refl _⟩ dX0_traitToBar_13 (fun hC => ?_)
    refine v_aload_n C 0 dX0_traitToBar_16 rfl rfl ?_
    refine v_iconst (v := 1) C dX0_traitToBar_17 (by decide) ?_
    refine v_iload_n C 2 dX0_traitToBar_18 rfl rfl ?_
    refine v_ishl C dX0_traitToBar_19 ?_
    obtain ⟨r3, qr3, hf⟩ := bn hf
    refine v_callVi (As := [.int ((1 : Int32) <<< (l2 &&& 31))]) (rest := [.int r2]) C (sX0_shutOutBy h_l0 qr3) cs_X0_41 (by decide) h_l0 rfl hC rfl rfl rfl (Nat.le_of_ble_eq_true rfl) ⟨Nat.le_refl _, Nat.le_refl _⟩ dX0_traitToBar_20 (fun hC => ?_)
    refine v_icmp_le (tgt := 28) C dX0_traitToBar_23 (by decide) (fun c4 => ?_) (fun c4 => ?_)
    · have hf := ip hf c4
      obtain ⟨x5, ex5⟩ : ∃ x : Int32, x = (l3 + 1) := ⟨_, rfl⟩
      have hf := bd_at hf ex5
      refine v_iinc (v := x5) (j := 3) (lv2 := [(3, .int x5), (0, .ref (ad l0)), (1, .int l1), (2, .int l2)]) C dX0_traitToBar_28 rfl (by rw [ex5]; rfl) (by decide) rfl ?_
      refine v_goto (tgt := 4) C dX0_traitToBar_31 (by decide) ?_
      cases hf
      refine v_sub [1, 2, 3, 0] rfl ?_
      exact kb _ _ rfl
    · have hf := im hf c4
      refine v_iload_n C 3 dX0_traitToBar_26 rfl rfl ?_
      refine v_istore_n (lv2 := [(2, .int l3), (0, .ref (ad l0)), (1, .int l1), (3, .int l3)]) C dX0_traitToBar_27 rfl (by decide) rfl ?_
      obtain ⟨x6, ex6⟩ : ∃ x : Int32, x = (l3 + 1) := ⟨_, rfl⟩
      have hf := bd_at hf ex6
      refine v_iinc (v := x6) (j := 3) (lv2 := [(3, .int x6), (2, .int l3), (0, .ref (ad l0)), (1, .int l1)]) C dX0_traitToBar_28 rfl (by rw [ex6]; rfl) (by decide) rfl ?_
      refine v_goto (tgt := 4) C dX0_traitToBar_31 (by decide) ?_
      cases hf
      refine v_sub [2, 3, 1, 0] rfl ?_
      exact kb _ _ rfl
def fX0_traitToBar (sh : Sh) (G : Hp) (l0 : Nat) (l1 : Int32) : Option (Int32) := (iter (fun s : Int32 × Int32 => fX0_traitToBar_S4 sh l0 l1 G s.1 s.2) fuel ((0, 1) : Int32 × Int32)).bind (fun u3 => bd u3 fun x2 => some x2)
set_option maxHeartbeats 4000000 in
theorem tX0_traitToBar {E : EX} {ad : Nat → Nat} {sh : Sh} {G : Hp} {l0 : Nat} {l1 : Int32} {z : Int32} (C : Cx E RX0 cX0_traitToBar 4 (some .int) 2 0 0) (hC : Cl sh G) (h_l0 : sh[l0]? = some (0, 0)) (hf : fX0_traitToBar sh G l0 l1 = some z) (kr : RCi E cX0_traitToBar ad sh z G) : VV E 0 0 (wq (xT E) ad G sh) 0 [(0, .ref (ad l0)), (1, .int l1)] [] := by
  unfold fX0_traitToBar at hf
  refine v_iconst (v := 0) C dX0_traitToBar_0 (by decide) ?_
  refine v_istore_n (lv2 := [(2, .int 0), (0, .ref (ad l0)), (1, .int l1)]) C dX0_traitToBar_1 rfl (by decide) rfl ?_
  refine v_iconst (v := 1) C dX0_traitToBar_2 (by decide) ?_
  refine v_istore_n (lv2 := [(3, .int 1), (2, .int 0), (0, .ref (ad l0)), (1, .int l1)]) C dX0_traitToBar_3 rfl (by decide) rfl ?_
  obtain ⟨r1, qr1, hf⟩ := bn hf
  refine v_sub [2, 3, 1, 0] rfl ?_
  refine iter_sound (P := (fun s : Int32 × Int32 => VV E 0 0 (wq (xT E) ad (G) sh) 4 [(0, .ref (ad l0)), (1, .int (l1)), (2, .int (s.1)), (3, .int (s.2))] [])) (X := fun r => r = r1) (fun jsr1 jor1 hor1 jbr1 jxr1 => tX0_traitToBar_S4 C hC h_l0 hor1 (fun _ _ e => jbr1 _ e) ?_) fuel _ r1 qr1 rfl
  · intro x2 hu
    have e := jxr1 _ hu
    subst e
    have hf := bd_at hf (rfl : x2 = _)
    refine v_iload_n C 2 dX0_traitToBar_34 rfl rfl ?_
    cases hf
    exact kr _ _ dX0_traitToBar_35 hC
theorem sX0_traitToBar {l : Launch} {sh : Sh} {G : Hp} {l0 : Nat} {l1 : Int32} {z : Int32} (h_l0 : sh[l0]? = some (0, 0)) (hf : fX0_traitToBar sh G l0 l1 = some z) : MC l yX0_traitToBar cX0_traitToBar 4 (some .int) 2 0 0 sh sh G G (fun ad => [.ref (ad l0), .int l1]) (fun _ => some (.int z)) := by
  refine MC_of rfl rfl (fun _ => Nat.le_of_ble_eq_true rfl) (fun E ad C hl hnm hC hQ => ?_)
  exact tX0_traitToBar C hC h_l0 hf (fun pc lv hd hC => v_iret C hQ (fun _ _ => rfl) hC rfl hd)
def fX10_bar (sh : Sh) (G : Hp) (l0 : Nat) (l1 : Int32) (l2 : Int32) : Option (Int32 × Hp) := (ldO sh G l0 2 8).bind fun a1 => (fX8_hasBridge sh G a1 l1).bind fun r2 => if r2 = 0 then some ((-1), G) else if l2 < 0 then some ((-1), G) else if l2 ≤ 1 then (ldO sh G l0 2 8).bind fun a6 => if (G.1 a6 0) = 0 then some ((-2), G) else (ldO sh G l0 10 0).bind fun a8 => (ldO sh G l0 2 8).bind fun a9 => (ldO sh G l0 3 1).bind fun a10 => (fX0_gather sh G a8 a9 a10 l1).bind fun G12 => (ldO sh G12 l0 10 0).bind fun a13 => (ldO sh G12 l0 2 8).bind fun a14 => (fX0_traitToBar sh G12 a13 (G12.1 a14 0)).bind fun r15 => if l2 = 0 then some (r15, G12) else (ldO sh G12 l0 10 0).bind fun a17 => (fX0_shutOutBy sh G12 a17 ((1 : Int32) <<< (r15 &&& 31))).bind fun r18 => some (r18, G12) else some ((-1), G)
set_option maxHeartbeats 4000000 in
theorem tX10_bar {E : EX} {ad : Nat → Nat} {sh : Sh} {G : Hp} {l0 : Nat} {l1 : Int32} {l2 : Int32} {z : Int32 × Hp} (C : Cx E RX10 cX10_bar 4 (some .int) 5 0 0) (hC : Cl sh G) (h_l0 : sh[l0]? = some (0, 10)) (hf : fX10_bar sh G l0 l1 l2 = some z) (kr : RCi E cX10_bar ad sh (z.1) (z.2)) : VV E 0 0 (wq (xT E) ad G sh) 0 [(0, .ref (ad l0)), (1, .int l1), (2, .int l2)] [] := by
  unfold fX10_bar at hf
  refine v_aload_n C 0 dX10_bar_0 rfl rfl ?_
  obtain ⟨a1, qa1, hf⟩ := bn hf
  refine v_getO C h_l0 fl_X10_23 qa1 dX10_bar_1 (fun h_a1 => ?_)
  refine v_iload_n C 1 dX10_bar_4 rfl rfl ?_
  obtain ⟨r2, qr2, hf⟩ := bn hf
  refine v_callVi (As := [.int l1]) (rest := []) C (sX8_hasBridge h_a1 qr2) cs_X10_143 (by decide) h_a1 rfl hC rfl rfl rfl (Nat.le_of_ble_eq_true rfl) ⟨Nat.le_refl _, Nat.le_refl _⟩ dX10_bar_5 (fun hC => ?_)
  refine v_if_eq (tgt := 20) C dX10_bar_8 (by decide) (fun c3 => ?_) (fun c3 => ?_)
  · have hf := ip hf c3
    refine v_iconst (v := (-1)) C dX10_bar_20 (by decide) ?_
    cases hf
    exact kr _ _ dX10_bar_21 hC
  · have hf := im hf c3
    refine v_iload_n C 2 dX10_bar_11 rfl rfl ?_
    refine v_if_lt (tgt := 20) C dX10_bar_12 (by decide) (fun c4 => ?_) (fun c4 => ?_)
    · have hf := ip hf c4
      refine v_iconst (v := (-1)) C dX10_bar_20 (by decide) ?_
      cases hf
      exact kr _ _ dX10_bar_21 hC
    · have hf := im hf c4
      refine v_iload_n C 2 dX10_bar_15 rfl rfl ?_
      refine v_iconst (v := 1) C dX10_bar_16 (by decide) ?_
      refine v_icmp_le (tgt := 22) C dX10_bar_17 (by decide) (fun c5 => ?_) (fun c5 => ?_)
      · have hf := ip hf c5
        refine v_aload_n C 0 dX10_bar_22 rfl rfl ?_
        obtain ⟨a6, qa6, hf⟩ := bn hf
        refine v_getO C h_l0 fl_X10_23 qa6 dX10_bar_23 (fun h_a6 => ?_)
        refine v_getI C h_a6 fl_X10_262 dX10_bar_26 ?_
        refine v_if_ne (tgt := 35) C dX10_bar_29 (by decide) (fun c7 => ?_) (fun c7 => ?_)
        · have hf := im hf c7
          refine v_aload_n C 0 dX10_bar_35 rfl rfl ?_
          obtain ⟨a8, qa8, hf⟩ := bn hf
          refine v_getO C h_l0 fl_X10_72 qa8 dX10_bar_36 (fun h_a8 => ?_)
          refine v_aload_n C 0 dX10_bar_39 rfl rfl ?_
          obtain ⟨a9, qa9, hf⟩ := bn hf
          refine v_getO C h_l0 fl_X10_23 qa9 dX10_bar_40 (fun h_a9 => ?_)
          refine v_aload_n C 0 dX10_bar_43 rfl rfl ?_
          obtain ⟨a10, qa10, hf⟩ := bn hf
          refine v_getO C h_l0 fl_X10_30 qa10 dX10_bar_44 (fun h_a10 => ?_)
          refine v_iload_n C 1 dX10_bar_47 rfl rfl ?_
          obtain ⟨G12, qr11, hf⟩ := bn hf
          refine v_callVv (As := [.ref (ad a9), .ref (ad a10), .int l1]) (rest := []) C (sX0_gather h_a8 h_a9 h_a10 qr11) cs_X10_244 (by decide) h_a8 rfl hC rfl rfl rfl (Nat.le_of_ble_eq_true rfl) ⟨Nat.le_refl _, Nat.le_refl _⟩ dX10_bar_48 (fun hC => ?_)
          refine v_aload_n C 0 dX10_bar_51 rfl rfl ?_
          obtain ⟨a13, qa13, hf⟩ := bn hf
          refine v_getO C h_l0 fl_X10_72 qa13 dX10_bar_52 (fun h_a13 => ?_)
          refine v_aload_n C 0 dX10_bar_55 rfl rfl ?_
          obtain ⟨a14, qa14, hf⟩ := bn hf
          refine v_getO C h_l0 fl_X10_23 qa14 dX10_bar_56 (fun h_a14 => ?_)
          refine v_getI C h_a14 fl_X10_262 dX10_bar_59 ?_
          obtain ⟨r15, qr15, hf⟩ := bn hf
          refine v_callVi (As := [.int (G12.1 a14 0)]) (rest := []) C (sX0_traitToBar h_a13 qr15) cs_X10_265 (by decide) h_a13 rfl hC rfl rfl rfl (Nat.le_of_ble_eq_true rfl) ⟨Nat.le_refl _, Nat.le_refl _⟩ dX10_bar_62 (fun hC => ?_)
          refine v_istore_n (lv2 := [(3, .int r15), (0, .ref (ad l0)), (1, .int l1), (2, .int l2)]) C dX10_bar_65 rfl (by decide) rfl ?_
          refine v_iload_n C 3 dX10_bar_66 rfl rfl ?_
          refine v_if_ne (tgt := 74) C dX10_bar_67 (by decide) (fun c16 => ?_) (fun c16 => ?_)
          · have hf := im hf c16
            refine v_aload_n C 1 dX10_bar_74 rfl rfl ?_
            obtain ⟨a17, qa17, hf⟩ := bn hf
            refine v_getO C h_l0 fl_X10_72 qa17 dX10_bar_75 (fun h_a17 => ?_)
            refine v_iconst (v := 1) C dX10_bar_78 (by decide) ?_
            refine v_iload_n C 0 dX10_bar_79 rfl rfl ?_
            refine v_ishl C dX10_bar_80 ?_
            obtain ⟨r18, qr18, hf⟩ := bn hf
            refine v_callVi (As := [.int ((1 : Int32) <<< (r15 &&& 31))]) (rest := []) C (sX0_shutOutBy h_a17 qr18) cs_X10_268 (by decide) h_a17 rfl hC rfl rfl rfl (Nat.le_of_ble_eq_true rfl) ⟨Nat.le_refl _, Nat.le_refl _⟩ dX10_bar_81 (fun hC => ?_)
            cases hf
            exact kr _ _ dX10_bar_84 hC
          · have hf := ip hf c16
            refine v_iload_n C 0 dX10_bar_70 rfl rfl ?_
            refine v_goto (tgt := 84) C dX10_bar_71 (by decide) ?_
            cases hf
            exact kr _ _ dX10_bar_84 hC
        · have hf := ip hf c7
          refine v_bipush (v := (-2)) C dX10_bar_32 (by decide) ?_
          cases hf
          exact kr _ _ dX10_bar_34 hC
      · have hf := im hf c5
        refine v_iconst (v := (-1)) C dX10_bar_20 (by decide) ?_
        cases hf
        exact kr _ _ dX10_bar_21 hC
theorem sX10_bar {l : Launch} {sh : Sh} {G : Hp} {l0 : Nat} {l1 : Int32} {l2 : Int32} {z : Int32 × Hp} (h_l0 : sh[l0]? = some (0, 10)) (hf : fX10_bar sh G l0 l1 l2 = some z) : MC l yX10_bar cX10_bar 4 (some .int) 5 0 0 sh sh G (z.2) (fun ad => [.ref (ad l0), .int l1, .int l2]) (fun _ => some (.int z.1)) := by
  refine MC_of rfl rfl (fun _ => Nat.le_of_ble_eq_true rfl) (fun E ad C hl hnm hC hQ => ?_)
  exact tX10_bar C hC h_l0 hf (fun pc lv hd hC => v_iret C hQ (fun _ _ => rfl) hC rfl hd)
def fX10_being (sh : Sh) (G : Hp) (l0 : Nat) (l1 : Int32) (l2 : Int32) : Option (Int32) := (ldO sh G l0 2 8).bind fun a1 => (fX8_hasBeing sh G a1 l1).bind fun r2 => if r2 = 0 then some (-1) else if l2 = 0 then (ldO sh G l0 2 8).bind fun a5 => (ldA sh G a5 6 1).bind fun a6 => (aI sh G a6 l1).bind fun v7 => some v7 else if l2 = 1 then (ldO sh G l0 2 8).bind fun a9 => (ldA sh G a9 7 1).bind fun a10 => (aI sh G a10 l1).bind fun v11 => some v11 else if l2 = 2 then (ldO sh G l0 3 1).bind fun a13 => some ((ush (G.1 a13 6) l1) &&& 1) else some (-1)
set_option maxHeartbeats 4000000 in
theorem tX10_being {E : EX} {ad : Nat → Nat} {sh : Sh} {G : Hp} {l0 : Nat} {l1 : Int32} {l2 : Int32} {z : Int32} (C : Cx E RX10 cX10_being 3 (some .int) 2 0 0) (hC : Cl sh G) (h_l0 : sh[l0]? = some (0, 10)) (hf : fX10_being sh G l0 l1 l2 = some z) (kr : RCi E cX10_being ad sh z G) : VV E 0 0 (wq (xT E) ad G sh) 0 [(0, .ref (ad l0)), (1, .int l1), (2, .int l2)] [] := by
  unfold fX10_being at hf
  refine v_aload_n C 0 dX10_being_0 rfl rfl ?_
  obtain ⟨a1, qa1, hf⟩ := bn hf
  refine v_getO C h_l0 fl_X10_23 qa1 dX10_being_1 (fun h_a1 => ?_)
  refine v_iload_n C 1 dX10_being_4 rfl rfl ?_
  obtain ⟨r2, qr2, hf⟩ := bn hf
  refine v_callVi (As := [.int l1]) (rest := []) C (sX8_hasBeing h_a1 qr2) cs_X10_113 (by decide) h_a1 rfl hC rfl rfl rfl (Nat.le_of_ble_eq_true rfl) ⟨Nat.le_refl _, Nat.le_refl _⟩ dX10_being_5 (fun hC => ?_)
  refine v_if_ne (tgt := 13) C dX10_being_8 (by decide) (fun c3 => ?_) (fun c3 => ?_)
  · have hf := im hf c3
    refine v_iload_n C 2 dX10_being_13 rfl rfl ?_
    by_cases c4 : l2 = 0
    · have hf := ip hf c4
      refine v_tableIn (off := 26) (tgt := 40) C dX10_being_14 (by rw [c4]; decide) (by rw [c4]; decide) (by rw [c4]; decide) (by decide) ?_
      refine v_aload_n C 0 dX10_being_40 rfl rfl ?_
      obtain ⟨a5, qa5, hf⟩ := bn hf
      refine v_getO C h_l0 fl_X10_23 qa5 dX10_being_41 (fun h_a5 => ?_)
      obtain ⟨a6, qa6, hf⟩ := bn hf
      refine v_getA C h_a5 fl_X10_117 qa6 dX10_being_44 (fun h_a6 => ?_)
      refine v_iload_n C 1 dX10_being_47 rfl rfl ?_
      obtain ⟨v7, qv7, hf⟩ := bn hf
      refine v_iald C h_a6 qv7 dX10_being_48 ?_
      cases hf
      exact kr _ _ dX10_being_49 hC
    · have hf := im hf c4
      by_cases c8 : l2 = 1
      · have hf := ip hf c8
        refine v_tableIn (off := 36) (tgt := 50) C dX10_being_14 (by rw [c8]; decide) (by rw [c8]; decide) (by rw [c8]; decide) (by decide) ?_
        refine v_aload_n C 0 dX10_being_50 rfl rfl ?_
        obtain ⟨a9, qa9, hf⟩ := bn hf
        refine v_getO C h_l0 fl_X10_23 qa9 dX10_being_51 (fun h_a9 => ?_)
        obtain ⟨a10, qa10, hf⟩ := bn hf
        refine v_getA C h_a9 fl_X10_121 qa10 dX10_being_54 (fun h_a10 => ?_)
        refine v_iload_n C 1 dX10_being_57 rfl rfl ?_
        obtain ⟨v11, qv11, hf⟩ := bn hf
        refine v_iald C h_a10 qv11 dX10_being_58 ?_
        cases hf
        exact kr _ _ dX10_being_59 hC
      · have hf := im hf c8
        by_cases c12 : l2 = 2
        · have hf := ip hf c12
          refine v_tableIn (off := 46) (tgt := 60) C dX10_being_14 (by rw [c12]; decide) (by rw [c12]; decide) (by rw [c12]; decide) (by decide) ?_
          refine v_aload_n C 0 dX10_being_60 rfl rfl ?_
          obtain ⟨a13, qa13, hf⟩ := bn hf
          refine v_getO C h_l0 fl_X10_30 qa13 dX10_being_61 (fun h_a13 => ?_)
          refine v_getI C h_a13 fl_X10_124 dX10_being_64 ?_
          refine v_iload_n C 1 dX10_being_67 rfl rfl ?_
          refine v_iushr C dX10_being_68 ?_
          refine v_iconst (v := 1) C dX10_being_69 (by decide) ?_
          refine v_iand C dX10_being_70 ?_
          cases hf
          exact kr _ _ dX10_being_71 hC
        · have hf := im hf c12
          refine v_tableOut (tgt := 72) C dX10_being_14 (tsw_out (by decide) (by decide) (fun k hk => match k, hk with | 0, _ => fun e => c4 (e.trans (by decide)) | 1, _ => fun e => c8 (e.trans (by decide)) | 2, _ => fun e => c12 (e.trans (by decide)) | k + 3, hk => absurd hk (by simp only [show (Int.toNat (2 - 0 + 1)) = 3 from rfl]; omega))) (by decide) ?_
          refine v_iconst (v := (-1)) C dX10_being_72 (by decide) ?_
          cases hf
          exact kr _ _ dX10_being_73 hC
  · have hf := ip hf c3
    refine v_iconst (v := (-1)) C dX10_being_11 (by decide) ?_
    cases hf
    exact kr _ _ dX10_being_12 hC
theorem sX10_being {l : Launch} {sh : Sh} {G : Hp} {l0 : Nat} {l1 : Int32} {l2 : Int32} {z : Int32} (h_l0 : sh[l0]? = some (0, 10)) (hf : fX10_being sh G l0 l1 l2 = some z) : MC l yX10_being cX10_being 3 (some .int) 2 0 0 sh sh G G (fun ad => [.ref (ad l0), .int l1, .int l2]) (fun _ => some (.int z)) := by
  refine MC_of rfl rfl (fun _ => Nat.le_of_ble_eq_true rfl) (fun E ad C hl hnm hC hQ => ?_)
  exact tX10_being C hC h_l0 hf (fun pc lv hd hC => v_iret C hQ (fun _ _ => rfl) hC rfl hd)
def fX3_wearsOf (sh : Sh) (G : Hp) (l0 : Nat) (l1 : Nat) (l2 : Nat) (l3 : Int32) : Option (Int32 × Hp) := (fX3_lookAt sh G l0 l1 l2 l3).bind fun G2 => (ldO sh G2 l1 14 4).bind fun a3 => (ldA sh G2 l0 0 1).bind fun a4 => bp (fX4_valueBy sh G2 a3 a4) fun r5 G6 => (fX3_heldTo 9 r5).bind fun r7 => some (r7, G6)
set_option maxHeartbeats 4000000 in
theorem tX3_wearsOf {E : EX} {ad : Nat → Nat} {sh : Sh} {G : Hp} {l0 : Nat} {l1 : Nat} {l2 : Nat} {l3 : Int32} {z : Int32 × Hp} (C : Cx E RX3 cX3_wearsOf 4 (some .int) 4 0 0) (hC : Cl sh G) (h_l0 : sh[l0]? = some (0, 3)) (h_l1 : sh[l1]? = some (0, 8)) (h_l2 : sh[l2]? = some (0, 1)) (hf : fX3_wearsOf sh G l0 l1 l2 l3 = some z) (kr : RCi E cX3_wearsOf ad sh (z.1) (z.2)) : VV E 0 0 (wq (xT E) ad G sh) 0 [(0, .ref (ad l0)), (1, .ref (ad l1)), (2, .ref (ad l2)), (3, .int l3)] [] := by
  unfold fX3_wearsOf at hf
  refine v_aload_n C 0 dX3_wearsOf_0 rfl rfl ?_
  refine v_aload_n C 1 dX3_wearsOf_1 rfl rfl ?_
  refine v_aload_n C 2 dX3_wearsOf_2 rfl rfl ?_
  refine v_iload_n C 3 dX3_wearsOf_3 rfl rfl ?_
  obtain ⟨G2, qr1, hf⟩ := bn hf
  refine v_callVv (As := [.ref (ad l1), .ref (ad l2), .int l3]) (rest := []) C (sX3_lookAt h_l0 h_l1 h_l2 qr1) cs_X3_25 (by decide) h_l0 rfl hC rfl rfl rfl (Nat.le_of_ble_eq_true rfl) ⟨Nat.le_refl _, Nat.le_refl _⟩ dX3_wearsOf_4 (fun hC => ?_)
  refine v_bipush (v := 9) C dX3_wearsOf_7 (by decide) ?_
  refine v_aload_n C 1 dX3_wearsOf_9 rfl rfl ?_
  obtain ⟨a3, qa3, hf⟩ := bn hf
  refine v_getO C h_l1 fl_X3_29 qa3 dX3_wearsOf_10 (fun h_a3 => ?_)
  refine v_aload_n C 0 dX3_wearsOf_13 rfl rfl ?_
  obtain ⟨a4, qa4, hf⟩ := bn hf
  refine v_getA C h_l0 fl_X3_9 qa4 dX3_wearsOf_14 (fun h_a4 => ?_)
  obtain ⟨r5, G6, qr5, hf⟩ := bpn hf
  refine v_callVi (As := [.ref (ad a4)]) (rest := [.int 9]) C (sX4_valueBy h_a3 h_a4 qr5) cs_X3_35 (by decide) h_a3 rfl hC rfl rfl rfl (Nat.le_of_ble_eq_true rfl) ⟨Nat.le_refl _, Nat.le_refl _⟩ dX3_wearsOf_17 (fun hC => ?_)
  obtain ⟨r7, qr7, hf⟩ := bn hf
  refine v_callSi (As := [.int 9, .int r5]) (rest := []) C (sX3_heldTo  qr7) cs_X3_41 (by decide) hC rfl rfl rfl (Nat.le_of_ble_eq_true rfl) ⟨Nat.le_refl _, Nat.le_refl _⟩ dX3_wearsOf_20 (fun hC => ?_)
  cases hf
  exact kr _ _ dX3_wearsOf_23 hC
theorem sX3_wearsOf {l : Launch} {sh : Sh} {G : Hp} {l0 : Nat} {l1 : Nat} {l2 : Nat} {l3 : Int32} {z : Int32 × Hp} (h_l0 : sh[l0]? = some (0, 3)) (h_l1 : sh[l1]? = some (0, 8)) (h_l2 : sh[l2]? = some (0, 1)) (hf : fX3_wearsOf sh G l0 l1 l2 l3 = some z) : MC l yX3_wearsOf cX3_wearsOf 4 (some .int) 4 0 0 sh sh G (z.2) (fun ad => [.ref (ad l0), .ref (ad l1), .ref (ad l2), .int l3]) (fun _ => some (.int z.1)) := by
  refine MC_of rfl rfl (fun _ => Nat.le_of_ble_eq_true rfl) (fun E ad C hl hnm hC hQ => ?_)
  exact tX3_wearsOf C hC h_l0 h_l1 h_l2 hf (fun pc lv hd hC => v_iret C hQ (fun _ _ => rfl) hC rfl hd)
def fX3_mendsOf (sh : Sh) (G : Hp) (l0 : Nat) (l1 : Nat) (l2 : Nat) (l3 : Int32) : Option (Int32 × Hp) := (fX3_lookAt sh G l0 l1 l2 l3).bind fun G2 => (ldO sh G2 l1 15 4).bind fun a3 => (ldA sh G2 l0 0 1).bind fun a4 => bp (fX4_valueBy sh G2 a3 a4) fun r5 G6 => (fX3_heldTo 99 r5).bind fun r7 => some (r7, G6)
set_option maxHeartbeats 4000000 in
theorem tX3_mendsOf {E : EX} {ad : Nat → Nat} {sh : Sh} {G : Hp} {l0 : Nat} {l1 : Nat} {l2 : Nat} {l3 : Int32} {z : Int32 × Hp} (C : Cx E RX3 cX3_mendsOf 4 (some .int) 4 0 0) (hC : Cl sh G) (h_l0 : sh[l0]? = some (0, 3)) (h_l1 : sh[l1]? = some (0, 8)) (h_l2 : sh[l2]? = some (0, 1)) (hf : fX3_mendsOf sh G l0 l1 l2 l3 = some z) (kr : RCi E cX3_mendsOf ad sh (z.1) (z.2)) : VV E 0 0 (wq (xT E) ad G sh) 0 [(0, .ref (ad l0)), (1, .ref (ad l1)), (2, .ref (ad l2)), (3, .int l3)] [] := by
  unfold fX3_mendsOf at hf
  refine v_aload_n C 0 dX3_mendsOf_0 rfl rfl ?_
  refine v_aload_n C 1 dX3_mendsOf_1 rfl rfl ?_
  refine v_aload_n C 2 dX3_mendsOf_2 rfl rfl ?_
  refine v_iload_n C 3 dX3_mendsOf_3 rfl rfl ?_
  obtain ⟨G2, qr1, hf⟩ := bn hf
  refine v_callVv (As := [.ref (ad l1), .ref (ad l2), .int l3]) (rest := []) C (sX3_lookAt h_l0 h_l1 h_l2 qr1) cs_X3_25 (by decide) h_l0 rfl hC rfl rfl rfl (Nat.le_of_ble_eq_true rfl) ⟨Nat.le_refl _, Nat.le_refl _⟩ dX3_mendsOf_4 (fun hC => ?_)
  refine v_bipush (v := 99) C dX3_mendsOf_7 (by decide) ?_
  refine v_aload_n C 1 dX3_mendsOf_9 rfl rfl ?_
  obtain ⟨a3, qa3, hf⟩ := bn hf
  refine v_getO C h_l1 fl_X3_45 qa3 dX3_mendsOf_10 (fun h_a3 => ?_)
  refine v_aload_n C 0 dX3_mendsOf_13 rfl rfl ?_
  obtain ⟨a4, qa4, hf⟩ := bn hf
  refine v_getA C h_l0 fl_X3_9 qa4 dX3_mendsOf_14 (fun h_a4 => ?_)
  obtain ⟨r5, G6, qr5, hf⟩ := bpn hf
  refine v_callVi (As := [.ref (ad a4)]) (rest := [.int 99]) C (sX4_valueBy h_a3 h_a4 qr5) cs_X3_35 (by decide) h_a3 rfl hC rfl rfl rfl (Nat.le_of_ble_eq_true rfl) ⟨Nat.le_refl _, Nat.le_refl _⟩ dX3_mendsOf_17 (fun hC => ?_)
  obtain ⟨r7, qr7, hf⟩ := bn hf
  refine v_callSi (As := [.int 99, .int r5]) (rest := []) C (sX3_heldTo  qr7) cs_X3_41 (by decide) hC rfl rfl rfl (Nat.le_of_ble_eq_true rfl) ⟨Nat.le_refl _, Nat.le_refl _⟩ dX3_mendsOf_20 (fun hC => ?_)
  cases hf
  exact kr _ _ dX3_mendsOf_23 hC
theorem sX3_mendsOf {l : Launch} {sh : Sh} {G : Hp} {l0 : Nat} {l1 : Nat} {l2 : Nat} {l3 : Int32} {z : Int32 × Hp} (h_l0 : sh[l0]? = some (0, 3)) (h_l1 : sh[l1]? = some (0, 8)) (h_l2 : sh[l2]? = some (0, 1)) (hf : fX3_mendsOf sh G l0 l1 l2 l3 = some z) : MC l yX3_mendsOf cX3_mendsOf 4 (some .int) 4 0 0 sh sh G (z.2) (fun ad => [.ref (ad l0), .ref (ad l1), .ref (ad l2), .int l3]) (fun _ => some (.int z.1)) := by
  refine MC_of rfl rfl (fun _ => Nat.le_of_ble_eq_true rfl) (fun E ad C hl hnm hC hQ => ?_)
  exact tX3_mendsOf C hC h_l0 h_l1 h_l2 hf (fun pc lv hd hC => v_iret C hQ (fun _ _ => rfl) hC rfl hd)
def fX10_bridge (sh : Sh) (G : Hp) (l0 : Nat) (l1 : Int32) (l2 : Int32) : Option (Int32 × Hp) := (ldO sh G l0 2 8).bind fun a1 => (fX8_hasBridge sh G a1 l1).bind fun r2 => if r2 = 0 then some ((-1), G) else if l2 = 0 then (ldO sh G l0 3 1).bind fun a5 => (ldA sh G a5 0 1).bind fun a6 => (aI sh G a6 l1).bind fun v7 => some (v7, G) else if l2 = 1 then (ldO sh G l0 2 8).bind fun a9 => (ldA sh G a9 12 1).bind fun a10 => (aI sh G a10 l1).bind fun v11 => some (v11, G) else if l2 = 2 then (ldO sh G l0 3 1).bind fun a13 => (ldA sh G a13 1 1).bind fun a14 => (aI sh G a14 l1).bind fun v15 => some (v15, G) else if l2 = 3 then (ldO sh G l0 3 1).bind fun a17 => (ldA sh G a17 2 1).bind fun a18 => (aI sh G a18 l1).bind fun v19 => some (v19, G) else if l2 = 4 then (ldO sh G l0 4 3).bind fun a21 => (ldO sh G l0 2 8).bind fun a22 => (ldO sh G l0 3 1).bind fun a23 => bp (fX3_wearsOf sh G a21 a22 a23 l1) fun r24 G25 => some (r24, G25) else if l2 = 5 then (ldO sh G l0 4 3).bind fun a27 => (ldO sh G l0 2 8).bind fun a28 => (ldO sh G l0 3 1).bind fun a29 => bp (fX3_mendsOf sh G a27 a28 a29 l1) fun r30 G31 => some (r30, G31) else if l2 = 6 then (ldO sh G l0 2 8).bind fun a33 => (fX8_setsOfBoth sh G a33 l1 l1).bind fun r34 => some (r34, G) else some ((-1), G)
set_option maxHeartbeats 4000000 in
theorem tX10_bridge {E : EX} {ad : Nat → Nat} {sh : Sh} {G : Hp} {l0 : Nat} {l1 : Int32} {l2 : Int32} {z : Int32 × Hp} (C : Cx E RX10 cX10_bridge 3 (some .int) 5 0 0) (hC : Cl sh G) (h_l0 : sh[l0]? = some (0, 10)) (hf : fX10_bridge sh G l0 l1 l2 = some z) (kr : RCi E cX10_bridge ad sh (z.1) (z.2)) : VV E 0 0 (wq (xT E) ad G sh) 0 [(0, .ref (ad l0)), (1, .int l1), (2, .int l2)] [] := by
  unfold fX10_bridge at hf
  refine v_aload_n C 0 dX10_bridge_0 rfl rfl ?_
  obtain ⟨a1, qa1, hf⟩ := bn hf
  refine v_getO C h_l0 fl_X10_23 qa1 dX10_bridge_1 (fun h_a1 => ?_)
  refine v_iload_n C 1 dX10_bridge_4 rfl rfl ?_
  obtain ⟨r2, qr2, hf⟩ := bn hf
  refine v_callVi (As := [.int l1]) (rest := []) C (sX8_hasBridge h_a1 qr2) cs_X10_143 (by decide) h_a1 rfl hC rfl rfl rfl (Nat.le_of_ble_eq_true rfl) ⟨Nat.le_refl _, Nat.le_refl _⟩ dX10_bridge_5 (fun hC => ?_)
  refine v_if_ne (tgt := 13) C dX10_bridge_8 (by decide) (fun c3 => ?_) (fun c3 => ?_)
  · have hf := im hf c3
    refine v_iload_n C 2 dX10_bridge_13 rfl rfl ?_
    by_cases c4 : l2 = 0
    · have hf := ip hf c4
      refine v_tableIn (off := 42) (tgt := 56) C dX10_bridge_14 (by rw [c4]; decide) (by rw [c4]; decide) (by rw [c4]; decide) (by decide) ?_
      refine v_aload_n C 0 dX10_bridge_56 rfl rfl ?_
      obtain ⟨a5, qa5, hf⟩ := bn hf
      refine v_getO C h_l0 fl_X10_30 qa5 dX10_bridge_57 (fun h_a5 => ?_)
      obtain ⟨a6, qa6, hf⟩ := bn hf
      refine v_getA C h_a5 fl_X10_146 qa6 dX10_bridge_60 (fun h_a6 => ?_)
      refine v_iload_n C 1 dX10_bridge_63 rfl rfl ?_
      obtain ⟨v7, qv7, hf⟩ := bn hf
      refine v_iald C h_a6 qv7 dX10_bridge_64 ?_
      cases hf
      exact kr _ _ dX10_bridge_65 hC
    · have hf := im hf c4
      by_cases c8 : l2 = 1
      · have hf := ip hf c8
        refine v_tableIn (off := 52) (tgt := 66) C dX10_bridge_14 (by rw [c8]; decide) (by rw [c8]; decide) (by rw [c8]; decide) (by decide) ?_
        refine v_aload_n C 0 dX10_bridge_66 rfl rfl ?_
        obtain ⟨a9, qa9, hf⟩ := bn hf
        refine v_getO C h_l0 fl_X10_23 qa9 dX10_bridge_67 (fun h_a9 => ?_)
        obtain ⟨a10, qa10, hf⟩ := bn hf
        refine v_getA C h_a9 fl_X10_149 qa10 dX10_bridge_70 (fun h_a10 => ?_)
        refine v_iload_n C 1 dX10_bridge_73 rfl rfl ?_
        obtain ⟨v11, qv11, hf⟩ := bn hf
        refine v_iald C h_a10 qv11 dX10_bridge_74 ?_
        cases hf
        exact kr _ _ dX10_bridge_75 hC
      · have hf := im hf c8
        by_cases c12 : l2 = 2
        · have hf := ip hf c12
          refine v_tableIn (off := 62) (tgt := 76) C dX10_bridge_14 (by rw [c12]; decide) (by rw [c12]; decide) (by rw [c12]; decide) (by decide) ?_
          refine v_aload_n C 0 dX10_bridge_76 rfl rfl ?_
          obtain ⟨a13, qa13, hf⟩ := bn hf
          refine v_getO C h_l0 fl_X10_30 qa13 dX10_bridge_77 (fun h_a13 => ?_)
          obtain ⟨a14, qa14, hf⟩ := bn hf
          refine v_getA C h_a13 fl_X10_152 qa14 dX10_bridge_80 (fun h_a14 => ?_)
          refine v_iload_n C 1 dX10_bridge_83 rfl rfl ?_
          obtain ⟨v15, qv15, hf⟩ := bn hf
          refine v_iald C h_a14 qv15 dX10_bridge_84 ?_
          cases hf
          exact kr _ _ dX10_bridge_85 hC
        · have hf := im hf c12
          by_cases c16 : l2 = 3
          · have hf := ip hf c16
            refine v_tableIn (off := 72) (tgt := 86) C dX10_bridge_14 (by rw [c16]; decide) (by rw [c16]; decide) (by rw [c16]; decide) (by decide) ?_
            refine v_aload_n C 0 dX10_bridge_86 rfl rfl ?_
            obtain ⟨a17, qa17, hf⟩ := bn hf
            refine v_getO C h_l0 fl_X10_30 qa17 dX10_bridge_87 (fun h_a17 => ?_)
            obtain ⟨a18, qa18, hf⟩ := bn hf
            refine v_getA C h_a17 fl_X10_155 qa18 dX10_bridge_90 (fun h_a18 => ?_)
            refine v_iload_n C 1 dX10_bridge_93 rfl rfl ?_
            obtain ⟨v19, qv19, hf⟩ := bn hf
            refine v_iald C h_a18 qv19 dX10_bridge_94 ?_
            cases hf
            exact kr _ _ dX10_bridge_95 hC
          · have hf := im hf c16
            by_cases c20 : l2 = 4
            · have hf := ip hf c20
              refine v_tableIn (off := 82) (tgt := 96) C dX10_bridge_14 (by rw [c20]; decide) (by rw [c20]; decide) (by rw [c20]; decide) (by decide) ?_
              refine v_aload_n C 0 dX10_bridge_96 rfl rfl ?_
              obtain ⟨a21, qa21, hf⟩ := bn hf
              refine v_getO C h_l0 fl_X10_37 qa21 dX10_bridge_97 (fun h_a21 => ?_)
              refine v_aload_n C 0 dX10_bridge_100 rfl rfl ?_
              obtain ⟨a22, qa22, hf⟩ := bn hf
              refine v_getO C h_l0 fl_X10_23 qa22 dX10_bridge_101 (fun h_a22 => ?_)
              refine v_aload_n C 0 dX10_bridge_104 rfl rfl ?_
              obtain ⟨a23, qa23, hf⟩ := bn hf
              refine v_getO C h_l0 fl_X10_30 qa23 dX10_bridge_105 (fun h_a23 => ?_)
              refine v_iload_n C 1 dX10_bridge_108 rfl rfl ?_
              obtain ⟨r24, G25, qr24, hf⟩ := bpn hf
              refine v_callVi (As := [.ref (ad a22), .ref (ad a23), .int l1]) (rest := []) C (sX3_wearsOf h_a21 h_a22 h_a23 qr24) cs_X10_158 (by decide) h_a21 rfl hC rfl rfl rfl (Nat.le_of_ble_eq_true rfl) ⟨Nat.le_refl _, Nat.le_refl _⟩ dX10_bridge_109 (fun hC => ?_)
              cases hf
              exact kr _ _ dX10_bridge_112 hC
            · have hf := im hf c20
              by_cases c26 : l2 = 5
              · have hf := ip hf c26
                refine v_tableIn (off := 99) (tgt := 113) C dX10_bridge_14 (by rw [c26]; decide) (by rw [c26]; decide) (by rw [c26]; decide) (by decide) ?_
                refine v_aload_n C 0 dX10_bridge_113 rfl rfl ?_
                obtain ⟨a27, qa27, hf⟩ := bn hf
                refine v_getO C h_l0 fl_X10_37 qa27 dX10_bridge_114 (fun h_a27 => ?_)
                refine v_aload_n C 0 dX10_bridge_117 rfl rfl ?_
                obtain ⟨a28, qa28, hf⟩ := bn hf
                refine v_getO C h_l0 fl_X10_23 qa28 dX10_bridge_118 (fun h_a28 => ?_)
                refine v_aload_n C 0 dX10_bridge_121 rfl rfl ?_
                obtain ⟨a29, qa29, hf⟩ := bn hf
                refine v_getO C h_l0 fl_X10_30 qa29 dX10_bridge_122 (fun h_a29 => ?_)
                refine v_iload_n C 1 dX10_bridge_125 rfl rfl ?_
                obtain ⟨r30, G31, qr30, hf⟩ := bpn hf
                refine v_callVi (As := [.ref (ad a28), .ref (ad a29), .int l1]) (rest := []) C (sX3_mendsOf h_a27 h_a28 h_a29 qr30) cs_X10_162 (by decide) h_a27 rfl hC rfl rfl rfl (Nat.le_of_ble_eq_true rfl) ⟨Nat.le_refl _, Nat.le_refl _⟩ dX10_bridge_126 (fun hC => ?_)
                cases hf
                exact kr _ _ dX10_bridge_129 hC
              · have hf := im hf c26
                by_cases c32 : l2 = 6
                · have hf := ip hf c32
                  refine v_tableIn (off := 116) (tgt := 130) C dX10_bridge_14 (by rw [c32]; decide) (by rw [c32]; decide) (by rw [c32]; decide) (by decide) ?_
                  refine v_aload_n C 0 dX10_bridge_130 rfl rfl ?_
                  obtain ⟨a33, qa33, hf⟩ := bn hf
                  refine v_getO C h_l0 fl_X10_23 qa33 dX10_bridge_131 (fun h_a33 => ?_)
                  refine v_iload_n C 1 dX10_bridge_134 rfl rfl ?_
                  refine v_iload_n C 1 dX10_bridge_135 rfl rfl ?_
                  obtain ⟨r34, qr34, hf⟩ := bn hf
                  refine v_callVi (As := [.int l1, .int l1]) (rest := []) C (sX8_setsOfBoth h_a33 qr34) cs_X10_165 (by decide) h_a33 rfl hC rfl rfl rfl (Nat.le_of_ble_eq_true rfl) ⟨Nat.le_refl _, Nat.le_refl _⟩ dX10_bridge_136 (fun hC => ?_)
                  cases hf
                  exact kr _ _ dX10_bridge_139 hC
                · have hf := im hf c32
                  refine v_tableOut (tgt := 140) C dX10_bridge_14 (tsw_out (by decide) (by decide) (fun k hk => match k, hk with | 0, _ => fun e => c4 (e.trans (by decide)) | 1, _ => fun e => c8 (e.trans (by decide)) | 2, _ => fun e => c12 (e.trans (by decide)) | 3, _ => fun e => c16 (e.trans (by decide)) | 4, _ => fun e => c20 (e.trans (by decide)) | 5, _ => fun e => c26 (e.trans (by decide)) | 6, _ => fun e => c32 (e.trans (by decide)) | k + 7, hk => absurd hk (by simp only [show (Int.toNat (6 - 0 + 1)) = 7 from rfl]; omega))) (by decide) ?_
                  refine v_iconst (v := (-1)) C dX10_bridge_140 (by decide) ?_
                  cases hf
                  exact kr _ _ dX10_bridge_141 hC
  · have hf := ip hf c3
    refine v_iconst (v := (-1)) C dX10_bridge_11 (by decide) ?_
    cases hf
    exact kr _ _ dX10_bridge_12 hC
theorem sX10_bridge {l : Launch} {sh : Sh} {G : Hp} {l0 : Nat} {l1 : Int32} {l2 : Int32} {z : Int32 × Hp} (h_l0 : sh[l0]? = some (0, 10)) (hf : fX10_bridge sh G l0 l1 l2 = some z) : MC l yX10_bridge cX10_bridge 3 (some .int) 5 0 0 sh sh G (z.2) (fun ad => [.ref (ad l0), .int l1, .int l2]) (fun _ => some (.int z.1)) := by
  refine MC_of rfl rfl (fun _ => Nat.le_of_ble_eq_true rfl) (fun E ad C hl hnm hC hQ => ?_)
  exact tX10_bridge C hC h_l0 hf (fun pc lv hd hC => v_iret C hQ (fun _ _ => rfl) hC rfl hd)
def fX5_findCheapest_S9 (sh : Sh) (l0 : Nat) (l1 : Nat) (l2 : Nat) (l3 : Int32) (G : Hp) (l4 : Int32) : Option ((Hp × Int32) ⊕ ((Hp))) := if (G.1 l1 1) ≤ l4 then some (.inr G) else (fX5_cheapestWay sh G l1 l2 l3 l4).bind fun r2 => (ldA sh G l1 6 1).bind fun a3 => (aI sh G a3 l4).bind fun v4 => (fX8_costOf sh G l1 r2).bind fun r5 => bd ((v4 + r5) : Int32) fun x6 => if r2 = (-2) then bd ((l4 + 1) : Int32) fun x8 => some (.inl (G, x8)) else (fX1_isThere sh G l2 l4).bind fun r9 => if r9 = 0 then bd ((l4 + 1) : Int32) fun x11 => some (.inl (G, x11)) else if (G.1 l0 0) ≤ x6 then bd ((l4 + 1) : Int32) fun x13 => some (.inl (G, x13)) else bd (sI G l0 0 x6) fun G14 => bd (sI G14 l0 1 l4) fun G15 => bd (sI G15 l0 2 r2) fun G16 => bd ((l4 + 1) : Int32) fun x17 => some (.inl (G16, x17))
set_option maxHeartbeats 4000000 in
theorem tX5_findCheapest_S9 {E : EX} {ad : Nat → Nat} {sh : Sh} {G : Hp} {l0 : Nat} {l1 : Nat} {l2 : Nat} {l3 : Int32} {l4 : Int32} {o : (Hp × Int32) ⊕ ((Hp))} (C : Cx E RX5 cX5_findCheapest 7 (some .boolean) 5 0 0) (hC : Cl sh G) (h_l0 : sh[l0]? = some (0, 5)) (h_l1 : sh[l1]? = some (0, 8)) (h_l2 : sh[l2]? = some (0, 1)) (hf : fX5_findCheapest_S9 sh l0 l1 l2 l3 G l4 = some o) (kb : ∀ (G2 : Hp) (b_l4 : Int32), o = .inl (G2, b_l4) → Cl sh G2 → VV E 0 0 (wq (xT E) ad G2 sh) 9 [(0, .ref (ad l0)), (1, .ref (ad l1)), (2, .ref (ad l2)), (3, .int l3), (4, .int b_l4)] []) (kx93 : ∀ (G2 : Hp), o = .inr G2 → Cl sh G2 → VV E 0 0 (wq (xT E) ad G2 sh) 93 [(0, .ref (ad l0)), (1, .ref (ad l1)), (2, .ref (ad l2)), (3, .int l3)] []) : VV E 0 0 (wq (xT E) ad G sh) 9 [(0, .ref (ad l0)), (1, .ref (ad l1)), (2, .ref (ad l2)), (3, .int l3), (4, .int l4)] [] := by
  unfold fX5_findCheapest_S9 at hf
  refine v_iload C 4 dX5_findCheapest_9 rfl ?_
  refine v_aload_n C 1 dX5_findCheapest_11 rfl rfl ?_
  refine v_getI C h_l1 fl_X5_46 dX5_findCheapest_12 ?_
  refine v_icmp_ge (tgt := 93) C dX5_findCheapest_15 (by decide) (fun c1 => ?_) (fun c1 => ?_)
  · have hf := ip hf c1
    cases hf
    refine v_sub [0, 1, 2, 3] rfl ?_
    exact kx93 _ rfl hC
  · have hf := im hf c1
    refine v_aload_n C 1 dX5_findCheapest_18 rfl rfl ?_
    refine v_aload_n C 2 dX5_findCheapest_19 rfl rfl ?_
    refine v_iload_n C 3 dX5_findCheapest_20 rfl rfl ?_
    refine v_iload C 4 dX5_findCheapest_21 rfl ?_
    obtain ⟨r2, qr2, hf⟩ := bn hf
    refine v_callSi (As := [.ref (ad l1), .ref (ad l2), .int l3, .int l4]) (rest := []) C (sX5_cheapestWay h_l1 h_l2 qr2) cs_X5_51 (by decide) hC rfl rfl rfl (Nat.le_of_ble_eq_true rfl) ⟨Nat.le_refl _, Nat.le_refl _⟩ dX5_findCheapest_23 (fun hC => ?_)
    refine v_istore (lv2 := [(5, .int r2), (0, .ref (ad l0)), (1, .ref (ad l1)), (2, .ref (ad l2)), (3, .int l3), (4, .int l4)]) C dX5_findCheapest_26 (by decide) rfl ?_
    refine v_aload_n C 2 dX5_findCheapest_28 rfl rfl ?_
    obtain ⟨a3, qa3, hf⟩ := bn hf
    refine v_getA C h_l1 fl_X5_55 qa3 dX5_findCheapest_29 (fun h_a3 => ?_)
    refine v_iload C 5 dX5_findCheapest_32 rfl ?_
    obtain ⟨v4, qv4, hf⟩ := bn hf
    refine v_iald C h_a3 qv4 dX5_findCheapest_34 ?_
    refine v_aload_n C 2 dX5_findCheapest_35 rfl rfl ?_
    refine v_iload C 0 dX5_findCheapest_36 rfl ?_
    obtain ⟨r5, qr5, hf⟩ := bn hf
    refine v_callVi (As := [.int r2]) (rest := [.int v4]) C (sX8_costOf h_l1 qr5) cs_X5_58 (by decide) h_l1 rfl hC rfl rfl rfl (Nat.le_of_ble_eq_true rfl) ⟨Nat.le_refl _, Nat.le_refl _⟩ dX5_findCheapest_38 (fun hC => ?_)
    refine v_iadd C dX5_findCheapest_41 ?_
    refine v_topi (fun x6 ex6 => ?_)
    have hf := bd_at hf ex6
    refine v_istore (lv2 := [(6, .int x6), (5, .int r2), (0, .ref (ad l0)), (1, .ref (ad l1)), (2, .ref (ad l2)), (3, .int l3), (4, .int l4)]) C dX5_findCheapest_42 (by decide) rfl ?_
    refine v_iload C 1 dX5_findCheapest_44 rfl ?_
    refine v_bipush (v := (-2)) C dX5_findCheapest_46 (by decide) ?_
    refine v_icmp_eq (tgt := 87) C dX5_findCheapest_48 (by decide) (fun c7 => ?_) (fun c7 => ?_)
    · have hf := ip hf c7
      obtain ⟨x8, ex8⟩ : ∃ x : Int32, x = (l4 + 1) := ⟨_, rfl⟩
      have hf := bd_at hf ex8
      refine v_iinc (v := x8) (j := 6) (lv2 := [(4, .int x8), (6, .int x6), (5, .int r2), (0, .ref (ad l0)), (1, .ref (ad l1)), (2, .ref (ad l2)), (3, .int l3)]) C dX5_findCheapest_87 rfl (by rw [ex8]; rfl) (by decide) rfl ?_
      refine v_goto (tgt := 9) C dX5_findCheapest_90 (by decide) ?_
      cases hf
      refine v_sub [3, 4, 5, 6, 0] rfl ?_
      exact kb _ _ rfl hC
    · have hf := im hf c7
      refine v_aload_n C 4 dX5_findCheapest_51 rfl rfl ?_
      refine v_iload C 6 dX5_findCheapest_52 rfl ?_
      obtain ⟨r9, qr9, hf⟩ := bn hf
      refine v_callVi (As := [.int l4]) (rest := []) C (sX1_isThere h_l2 qr9) cs_X5_62 (by decide) h_l2 rfl hC rfl rfl rfl (Nat.le_of_ble_eq_true rfl) ⟨Nat.le_refl _, Nat.le_refl _⟩ dX5_findCheapest_54 (fun hC => ?_)
      refine v_if_eq (tgt := 87) C dX5_findCheapest_57 (by decide) (fun c10 => ?_) (fun c10 => ?_)
      · have hf := ip hf c10
        obtain ⟨x11, ex11⟩ : ∃ x : Int32, x = (l4 + 1) := ⟨_, rfl⟩
        have hf := bd_at hf ex11
        refine v_iinc (v := x11) (j := 6) (lv2 := [(4, .int x11), (6, .int x6), (5, .int r2), (0, .ref (ad l0)), (1, .ref (ad l1)), (2, .ref (ad l2)), (3, .int l3)]) C dX5_findCheapest_87 rfl (by rw [ex11]; rfl) (by decide) rfl ?_
        refine v_goto (tgt := 9) C dX5_findCheapest_90 (by decide) ?_
        cases hf
        refine v_sub [3, 4, 5, 6, 0] rfl ?_
        exact kb _ _ rfl hC
      · have hf := im hf c10
        refine v_iload C 0 dX5_findCheapest_60 rfl ?_
        refine v_aload_n C 2 dX5_findCheapest_62 rfl rfl ?_
        refine v_getI C h_l0 fl_X5_42 dX5_findCheapest_63 ?_
        refine v_icmp_ge (tgt := 87) C dX5_findCheapest_66 (by decide) (fun c12 => ?_) (fun c12 => ?_)
        · have hf := ip hf c12
          obtain ⟨x13, ex13⟩ : ∃ x : Int32, x = (l4 + 1) := ⟨_, rfl⟩
          have hf := bd_at hf ex13
          refine v_iinc (v := x13) (j := 6) (lv2 := [(4, .int x13), (6, .int x6), (5, .int r2), (0, .ref (ad l0)), (1, .ref (ad l1)), (2, .ref (ad l2)), (3, .int l3)]) C dX5_findCheapest_87 rfl (by rw [ex13]; rfl) (by decide) rfl ?_
          refine v_goto (tgt := 9) C dX5_findCheapest_90 (by decide) ?_
          cases hf
          refine v_sub [3, 4, 5, 6, 0] rfl ?_
          exact kb _ _ rfl hC
        · have hf := im hf c12
          refine v_aload_n C 2 dX5_findCheapest_69 rfl rfl ?_
          refine v_iload C 0 dX5_findCheapest_70 rfl ?_
          refine v_putI C h_l0 fp_X5_42 dX5_findCheapest_72 (fun G14 eG14 => ?_)
          have hf := bd_at hf eG14
          have hC : Cl sh G14 := by rw [eG14]; exact hC
          refine v_aload_n C 2 dX5_findCheapest_75 rfl rfl ?_
          refine v_iload C 6 dX5_findCheapest_76 rfl ?_
          refine v_putI C h_l0 fp_X5_66 dX5_findCheapest_78 (fun G15 eG15 => ?_)
          have hf := bd_at hf eG15
          have hC : Cl sh G15 := by rw [eG15]; exact hC
          refine v_aload_n C 2 dX5_findCheapest_81 rfl rfl ?_
          refine v_iload C 1 dX5_findCheapest_82 rfl ?_
          refine v_putI C h_l0 fp_X5_69 dX5_findCheapest_84 (fun G16 eG16 => ?_)
          have hf := bd_at hf eG16
          have hC : Cl sh G16 := by rw [eG16]; exact hC
          obtain ⟨x17, ex17⟩ : ∃ x : Int32, x = (l4 + 1) := ⟨_, rfl⟩
          have hf := bd_at hf ex17
          refine v_iinc (v := x17) (j := 6) (lv2 := [(4, .int x17), (6, .int x6), (5, .int r2), (0, .ref (ad l0)), (1, .ref (ad l1)), (2, .ref (ad l2)), (3, .int l3)]) C dX5_findCheapest_87 rfl (by rw [ex17]; rfl) (by decide) rfl ?_
          refine v_goto (tgt := 9) C dX5_findCheapest_90 (by decide) ?_
          cases hf
          refine v_sub [3, 4, 5, 6, 0] rfl ?_
          exact kb _ _ rfl hC
def fX5_findCheapest (sh : Sh) (G : Hp) (l0 : Nat) (l1 : Nat) (l2 : Nat) (l3 : Int32) : Option (Int32 × Hp) := bd (sI G l0 0 1000000) fun G1 => (iter (fun s : Hp × Int32 => fX5_findCheapest_S9 sh l0 l1 l2 l3 s.1 s.2) fuel ((G1, 0) : Hp × Int32)).bind (fun u5 => bd u5 fun G3 => if 1000000 ≤ (G3.1 l0 0) then some (0, G3) else some (1, G3))
set_option maxHeartbeats 4000000 in
theorem tX5_findCheapest {E : EX} {ad : Nat → Nat} {sh : Sh} {G : Hp} {l0 : Nat} {l1 : Nat} {l2 : Nat} {l3 : Int32} {z : Int32 × Hp} (C : Cx E RX5 cX5_findCheapest 7 (some .boolean) 5 0 0) (hC : Cl sh G) (h_l0 : sh[l0]? = some (0, 5)) (h_l1 : sh[l1]? = some (0, 8)) (h_l2 : sh[l2]? = some (0, 1)) (hf : fX5_findCheapest sh G l0 l1 l2 l3 = some z) (kr : RCz E cX5_findCheapest ad sh (z.1) (z.2)) : VV E 0 0 (wq (xT E) ad G sh) 0 [(0, .ref (ad l0)), (1, .ref (ad l1)), (2, .ref (ad l2)), (3, .int l3)] [] := by
  unfold fX5_findCheapest at hf
  refine v_aload_n C 0 dX5_findCheapest_0 rfl rfl ?_
  refine v_ldc (v := 1000000) C dX5_findCheapest_1 kw_74 ?_
  refine v_putI C h_l0 fp_X5_42 dX5_findCheapest_3 (fun G1 eG1 => ?_)
  have hf := bd_at hf eG1
  have hC : Cl sh G1 := by rw [eG1]; exact hC
  refine v_iconst (v := 0) C dX5_findCheapest_6 (by decide) ?_
  refine v_istore (lv2 := [(4, .int 0), (0, .ref (ad l0)), (1, .ref (ad l1)), (2, .ref (ad l2)), (3, .int l3)]) C dX5_findCheapest_7 (by decide) rfl ?_
  obtain ⟨r2, qr2, hf⟩ := bn hf
  refine v_sub [1, 2, 3, 4, 0] rfl ?_
  refine iter_sound (P := (fun s : Hp × Int32 => Cl sh (s.1) → VV E 0 0 (wq (xT E) ad (s.1) sh) 9 [(0, .ref (ad l0)), (1, .ref (ad l1)), (2, .ref (ad l2)), (3, .int (l3)), (4, .int (s.2))] [])) (X := fun r => r = r2) (fun jsr2 jor2 hor2 jbr2 jxr2 hC => tX5_findCheapest_S9 C hC h_l0 h_l1 h_l2 hor2 (fun _ _ e => jbr2 _ e) ?_) fuel _ r2 qr2 rfl hC
  · intro G3 hu hC
    have e := jxr2 _ hu
    subst e
    have hf := bd_at hf (rfl : G3 = _)
    refine v_aload_n C 0 dX5_findCheapest_93 rfl rfl ?_
    refine v_getI C h_l0 fl_X5_42 dX5_findCheapest_94 ?_
    refine v_ldc (v := 1000000) C dX5_findCheapest_97 kw_74 ?_
    refine v_icmp_ge (tgt := 106) C dX5_findCheapest_99 (by decide) (fun c4 => ?_) (fun c4 => ?_)
    · have hf := ip hf c4
      refine v_iconst (v := 0) C dX5_findCheapest_106 (by decide) ?_
      cases hf
      exact kr _ _ dX5_findCheapest_107 (Or.inl rfl) hC
    · have hf := im hf c4
      refine v_iconst (v := 1) C dX5_findCheapest_102 (by decide) ?_
      refine v_goto (tgt := 107) C dX5_findCheapest_103 (by decide) ?_
      cases hf
      exact kr _ _ dX5_findCheapest_107 (Or.inr rfl) hC
theorem sX5_findCheapest {l : Launch} {sh : Sh} {G : Hp} {l0 : Nat} {l1 : Nat} {l2 : Nat} {l3 : Int32} {z : Int32 × Hp} (h_l0 : sh[l0]? = some (0, 5)) (h_l1 : sh[l1]? = some (0, 8)) (h_l2 : sh[l2]? = some (0, 1)) (hf : fX5_findCheapest sh G l0 l1 l2 l3 = some z) : MC l yX5_findCheapest cX5_findCheapest 7 (some .boolean) 5 0 0 sh sh G (z.2) (fun ad => [.ref (ad l0), .ref (ad l1), .ref (ad l2), .int l3]) (fun _ => some (.int z.1)) := by
  refine MC_of rfl rfl (fun _ => Nat.le_of_ble_eq_true rfl) (fun E ad C hl hnm hC hQ => ?_)
  exact tX5_findCheapest C hC h_l0 h_l1 h_l2 hf (fun pc lv hd hz hC => v_zret C hQ (fun _ _ => rfl) hC rfl hz hd)
def fX10_cheap (sh : Sh) (G : Hp) (l0 : Nat) (l1 : Int32) (l2 : Int32) : Option (Int32 × Hp) := (ldO sh G l0 2 8).bind fun a1 => (fX8_hasBridge sh G a1 l1).bind fun r2 => if r2 = 0 then some ((-1), G) else if l2 < 0 then some ((-1), G) else if l2 ≤ 2 then (ldO sh G l0 9 5).bind fun a6 => (ldO sh G l0 2 8).bind fun a7 => (ldO sh G l0 3 1).bind fun a8 => bp (fX5_findCheapest sh G a6 a7 a8 l1) fun r9 G10 => if r9 = 0 then some ((-2), G10) else if l2 = 0 then (ldO sh G10 l0 9 5).bind fun a13 => some ((G10.1 a13 0), G10) else if l2 = 1 then (ldO sh G10 l0 9 5).bind fun a15 => some ((G10.1 a15 1), G10) else (ldO sh G10 l0 9 5).bind fun a16 => (fX10_wayTold (G10.1 a16 2)).bind fun r17 => some (r17, G10) else some ((-1), G)
set_option maxHeartbeats 4000000 in
theorem tX10_cheap {E : EX} {ad : Nat → Nat} {sh : Sh} {G : Hp} {l0 : Nat} {l1 : Int32} {l2 : Int32} {z : Int32 × Hp} (C : Cx E RX10 cX10_cheap 3 (some .int) 6 0 0) (hC : Cl sh G) (h_l0 : sh[l0]? = some (0, 10)) (hf : fX10_cheap sh G l0 l1 l2 = some z) (kr : RCi E cX10_cheap ad sh (z.1) (z.2)) : VV E 0 0 (wq (xT E) ad G sh) 0 [(0, .ref (ad l0)), (1, .int l1), (2, .int l2)] [] := by
  unfold fX10_cheap at hf
  refine v_aload_n C 0 dX10_cheap_0 rfl rfl ?_
  obtain ⟨a1, qa1, hf⟩ := bn hf
  refine v_getO C h_l0 fl_X10_23 qa1 dX10_cheap_1 (fun h_a1 => ?_)
  refine v_iload_n C 1 dX10_cheap_4 rfl rfl ?_
  obtain ⟨r2, qr2, hf⟩ := bn hf
  refine v_callVi (As := [.int l1]) (rest := []) C (sX8_hasBridge h_a1 qr2) cs_X10_143 (by decide) h_a1 rfl hC rfl rfl rfl (Nat.le_of_ble_eq_true rfl) ⟨Nat.le_refl _, Nat.le_refl _⟩ dX10_cheap_5 (fun hC => ?_)
  refine v_if_eq (tgt := 20) C dX10_cheap_8 (by decide) (fun c3 => ?_) (fun c3 => ?_)
  · have hf := ip hf c3
    refine v_iconst (v := (-1)) C dX10_cheap_20 (by decide) ?_
    cases hf
    exact kr _ _ dX10_cheap_21 hC
  · have hf := im hf c3
    refine v_iload_n C 2 dX10_cheap_11 rfl rfl ?_
    refine v_if_lt (tgt := 20) C dX10_cheap_12 (by decide) (fun c4 => ?_) (fun c4 => ?_)
    · have hf := ip hf c4
      refine v_iconst (v := (-1)) C dX10_cheap_20 (by decide) ?_
      cases hf
      exact kr _ _ dX10_cheap_21 hC
    · have hf := im hf c4
      refine v_iload_n C 2 dX10_cheap_15 rfl rfl ?_
      refine v_iconst (v := 2) C dX10_cheap_16 (by decide) ?_
      refine v_icmp_le (tgt := 22) C dX10_cheap_17 (by decide) (fun c5 => ?_) (fun c5 => ?_)
      · have hf := ip hf c5
        refine v_aload_n C 0 dX10_cheap_22 rfl rfl ?_
        obtain ⟨a6, qa6, hf⟩ := bn hf
        refine v_getO C h_l0 fl_X10_65 qa6 dX10_cheap_23 (fun h_a6 => ?_)
        refine v_aload_n C 0 dX10_cheap_26 rfl rfl ?_
        obtain ⟨a7, qa7, hf⟩ := bn hf
        refine v_getO C h_l0 fl_X10_23 qa7 dX10_cheap_27 (fun h_a7 => ?_)
        refine v_aload_n C 0 dX10_cheap_30 rfl rfl ?_
        obtain ⟨a8, qa8, hf⟩ := bn hf
        refine v_getO C h_l0 fl_X10_30 qa8 dX10_cheap_31 (fun h_a8 => ?_)
        refine v_iload_n C 1 dX10_cheap_34 rfl rfl ?_
        obtain ⟨r9, G10, qr9, hf⟩ := bpn hf
        refine v_callVi (As := [.ref (ad a7), .ref (ad a8), .int l1]) (rest := []) C (sX5_findCheapest h_a6 h_a7 h_a8 qr9) cs_X10_228 (by decide) h_a6 rfl hC rfl rfl rfl (Nat.le_of_ble_eq_true rfl) ⟨Nat.le_refl _, Nat.le_refl _⟩ dX10_cheap_35 (fun hC => ?_)
        refine v_if_ne (tgt := 44) C dX10_cheap_38 (by decide) (fun c11 => ?_) (fun c11 => ?_)
        · have hf := im hf c11
          refine v_iload_n C 2 dX10_cheap_44 rfl rfl ?_
          by_cases c12 : l2 = 0
          · have hf := ip hf c12
            refine v_lookup (off := 27) (tgt := 72) C dX10_cheap_45 (by decide) (by rw [c12]; decide) (by decide) ?_
            refine v_aload_n C 0 dX10_cheap_72 rfl rfl ?_
            obtain ⟨a13, qa13, hf⟩ := bn hf
            refine v_getO C h_l0 fl_X10_65 qa13 dX10_cheap_73 (fun h_a13 => ?_)
            refine v_getI C h_a13 fl_X10_232 dX10_cheap_76 ?_
            cases hf
            exact kr _ _ dX10_cheap_79 hC
          · have hf := im hf c12
            by_cases c14 : l2 = 1
            · have hf := ip hf c14
              refine v_lookup (off := 35) (tgt := 80) C dX10_cheap_45 (by decide) (by rw [c14]; decide) (by decide) ?_
              refine v_aload_n C 0 dX10_cheap_80 rfl rfl ?_
              obtain ⟨a15, qa15, hf⟩ := bn hf
              refine v_getO C h_l0 fl_X10_65 qa15 dX10_cheap_81 (fun h_a15 => ?_)
              refine v_getI C h_a15 fl_X10_235 dX10_cheap_84 ?_
              cases hf
              exact kr _ _ dX10_cheap_87 hC
            · have hf := im hf c14
              refine v_lookup (off := 43) (tgt := 88) C dX10_cheap_45 (by decide) (by simp [Op.lookupswitch.offset, lsw_n2 0 c12 (by decide), lsw_n2 1 c14 (by decide)]) (by decide) ?_
              refine v_aload_n C 0 dX10_cheap_88 rfl rfl ?_
              obtain ⟨a16, qa16, hf⟩ := bn hf
              refine v_getO C h_l0 fl_X10_65 qa16 dX10_cheap_89 (fun h_a16 => ?_)
              refine v_getI C h_a16 fl_X10_238 dX10_cheap_92 ?_
              obtain ⟨r17, qr17, hf⟩ := bn hf
              refine v_callSi (As := [.int (G10.1 a16 2)]) (rest := []) C (sX10_wayTold  qr17) cs_X10_241 (by decide) hC rfl rfl rfl (Nat.le_of_ble_eq_true rfl) ⟨Nat.le_refl _, Nat.le_refl _⟩ dX10_cheap_95 (fun hC => ?_)
              cases hf
              exact kr _ _ dX10_cheap_98 hC
        · have hf := ip hf c11
          refine v_bipush (v := (-2)) C dX10_cheap_41 (by decide) ?_
          cases hf
          exact kr _ _ dX10_cheap_43 hC
      · have hf := im hf c5
        refine v_iconst (v := (-1)) C dX10_cheap_20 (by decide) ?_
        cases hf
        exact kr _ _ dX10_cheap_21 hC
theorem sX10_cheap {l : Launch} {sh : Sh} {G : Hp} {l0 : Nat} {l1 : Int32} {l2 : Int32} {z : Int32 × Hp} (h_l0 : sh[l0]? = some (0, 10)) (hf : fX10_cheap sh G l0 l1 l2 = some z) : MC l yX10_cheap cX10_cheap 3 (some .int) 6 0 0 sh sh G (z.2) (fun ad => [.ref (ad l0), .int l1, .int l2]) (fun _ => some (.int z.1)) := by
  refine MC_of rfl rfl (fun _ => Nat.le_of_ble_eq_true rfl) (fun E ad C hl hnm hC hQ => ?_)
  exact tX10_cheap C hC h_l0 hf (fun pc lv hd hC => v_iret C hQ (fun _ _ => rfl) hC rfl hd)
def fX10_cheats (sh : Sh) (G : Hp) (l0 : Nat) (l1 : Int32) : Option (Int32 × Hp) := (ldO sh G l0 2 8).bind fun a1 => (fX8_hasBridge sh G a1 l1).bind fun r2 => if r2 = 0 then some ((-1), G) else (ldO sh G l0 10 0).bind fun a4 => (ldO sh G l0 2 8).bind fun a5 => (ldO sh G l0 3 1).bind fun a6 => (fX0_gather sh G a4 a5 a6 l1).bind fun G8 => (ldO sh G8 l0 10 0).bind fun a9 => some ((G8.1 a9 0), G8)
set_option maxHeartbeats 4000000 in
theorem tX10_cheats {E : EX} {ad : Nat → Nat} {sh : Sh} {G : Hp} {l0 : Nat} {l1 : Int32} {z : Int32 × Hp} (C : Cx E RX10 cX10_cheats 2 (some .int) 5 0 0) (hC : Cl sh G) (h_l0 : sh[l0]? = some (0, 10)) (hf : fX10_cheats sh G l0 l1 = some z) (kr : RCi E cX10_cheats ad sh (z.1) (z.2)) : VV E 0 0 (wq (xT E) ad G sh) 0 [(0, .ref (ad l0)), (1, .int l1)] [] := by
  unfold fX10_cheats at hf
  refine v_aload_n C 0 dX10_cheats_0 rfl rfl ?_
  obtain ⟨a1, qa1, hf⟩ := bn hf
  refine v_getO C h_l0 fl_X10_23 qa1 dX10_cheats_1 (fun h_a1 => ?_)
  refine v_iload_n C 1 dX10_cheats_4 rfl rfl ?_
  obtain ⟨r2, qr2, hf⟩ := bn hf
  refine v_callVi (As := [.int l1]) (rest := []) C (sX8_hasBridge h_a1 qr2) cs_X10_143 (by decide) h_a1 rfl hC rfl rfl rfl (Nat.le_of_ble_eq_true rfl) ⟨Nat.le_refl _, Nat.le_refl _⟩ dX10_cheats_5 (fun hC => ?_)
  refine v_if_ne (tgt := 13) C dX10_cheats_8 (by decide) (fun c3 => ?_) (fun c3 => ?_)
  · have hf := im hf c3
    refine v_aload_n C 0 dX10_cheats_13 rfl rfl ?_
    obtain ⟨a4, qa4, hf⟩ := bn hf
    refine v_getO C h_l0 fl_X10_72 qa4 dX10_cheats_14 (fun h_a4 => ?_)
    refine v_aload_n C 0 dX10_cheats_17 rfl rfl ?_
    obtain ⟨a5, qa5, hf⟩ := bn hf
    refine v_getO C h_l0 fl_X10_23 qa5 dX10_cheats_18 (fun h_a5 => ?_)
    refine v_aload_n C 0 dX10_cheats_21 rfl rfl ?_
    obtain ⟨a6, qa6, hf⟩ := bn hf
    refine v_getO C h_l0 fl_X10_30 qa6 dX10_cheats_22 (fun h_a6 => ?_)
    refine v_iload_n C 1 dX10_cheats_25 rfl rfl ?_
    obtain ⟨G8, qr7, hf⟩ := bn hf
    refine v_callVv (As := [.ref (ad a5), .ref (ad a6), .int l1]) (rest := []) C (sX0_gather h_a4 h_a5 h_a6 qr7) cs_X10_244 (by decide) h_a4 rfl hC rfl rfl rfl (Nat.le_of_ble_eq_true rfl) ⟨Nat.le_refl _, Nat.le_refl _⟩ dX10_cheats_26 (fun hC => ?_)
    refine v_aload_n C 0 dX10_cheats_29 rfl rfl ?_
    obtain ⟨a9, qa9, hf⟩ := bn hf
    refine v_getO C h_l0 fl_X10_72 qa9 dX10_cheats_30 (fun h_a9 => ?_)
    refine v_getI C h_a9 fl_X10_248 dX10_cheats_33 ?_
    cases hf
    exact kr _ _ dX10_cheats_36 hC
  · have hf := ip hf c3
    refine v_iconst (v := (-1)) C dX10_cheats_11 (by decide) ?_
    cases hf
    exact kr _ _ dX10_cheats_12 hC
theorem sX10_cheats {l : Launch} {sh : Sh} {G : Hp} {l0 : Nat} {l1 : Int32} {z : Int32 × Hp} (h_l0 : sh[l0]? = some (0, 10)) (hf : fX10_cheats sh G l0 l1 = some z) : MC l yX10_cheats cX10_cheats 2 (some .int) 5 0 0 sh sh G (z.2) (fun ad => [.ref (ad l0), .int l1]) (fun _ => some (.int z.1)) := by
  refine MC_of rfl rfl (fun _ => Nat.le_of_ble_eq_true rfl) (fun E ad C hl hnm hC hQ => ?_)
  exact tX10_cheats C hC h_l0 hf (fun pc lv hd hC => v_iret C hQ (fun _ _ => rfl) hC rfl hd)
def fX3_stirred (l0 : Int32) (l1 : Int32) : Option (Int32) := bd ((((l0 ^^^ l1) * 1103515245) + 12345) : Int32) fun x1 => some (x1 ^^^ (ush x1 15))
set_option maxHeartbeats 4000000 in
theorem tX3_stirred {E : EX} {ad : Nat → Nat} {sh : Sh} {G : Hp} {l0 : Int32} {l1 : Int32} {z : Int32} (C : Cx E RX3 cX3_stirred 3 (some .int) 1 0 0) (hC : Cl sh G) (hf : fX3_stirred l0 l1 = some z) (kr : RCi E cX3_stirred ad sh z G) : VV E 0 0 (wq (xT E) ad G sh) 0 [(0, .int l0), (1, .int l1)] [] := by
  unfold fX3_stirred at hf
  refine v_iload_n C 0 dX3_stirred_0 rfl rfl ?_
  refine v_iload_n C 1 dX3_stirred_1 rfl rfl ?_
  refine v_ixor C dX3_stirred_2 ?_
  refine v_ldc (v := 1103515245) C dX3_stirred_3 kw_313 ?_
  refine v_imul C dX3_stirred_5 ?_
  refine v_sipush (v := 12345) C dX3_stirred_6 (by decide) ?_
  refine v_iadd C dX3_stirred_9 ?_
  refine v_topi (fun x1 ex1 => ?_)
  have hf := bd_at hf ex1
  refine v_istore_n (lv2 := [(2, .int x1), (0, .int l0), (1, .int l1)]) C dX3_stirred_10 rfl (by decide) rfl ?_
  refine v_iload_n C 0 dX3_stirred_11 rfl rfl ?_
  refine v_iload_n C 0 dX3_stirred_12 rfl rfl ?_
  refine v_bipush (v := 15) C dX3_stirred_13 (by decide) ?_
  refine v_iushr C dX3_stirred_15 ?_
  refine v_ixor C dX3_stirred_16 ?_
  cases hf
  exact kr _ _ dX3_stirred_17 hC
theorem sX3_stirred {l : Launch} {sh : Sh} {G : Hp} {l0 : Int32} {l1 : Int32} {z : Int32} (hf : fX3_stirred l0 l1 = some z) : MC l yX3_stirred cX3_stirred 3 (some .int) 1 0 0 sh sh G G (fun ad => [.int l0, .int l1]) (fun _ => some (.int z)) := by
  refine MC_of rfl rfl (fun _ => Nat.le_of_ble_eq_true rfl) (fun E ad C hl hnm hC hQ => ?_)
  exact tX3_stirred C hC hf (fun pc lv hd hC => v_iret C hQ (fun _ _ => rfl) hC rfl hd)
def fX3_lot (l0 : Int32) (l1 : Int32) (l2 : Int32) : Option (Int32) := (fX3_stirred l1 109).bind fun r1 => (fX3_stirred r1 l2).bind fun r2 => if l0 ≤ 0 then some 0 else if l0 = 0 then none else some ((ush r2 1) - (ush r2 1) / l0 * l0)
set_option maxHeartbeats 4000000 in
theorem tX3_lot {E : EX} {ad : Nat → Nat} {sh : Sh} {G : Hp} {l0 : Int32} {l1 : Int32} {l2 : Int32} {z : Int32} (C : Cx E RX3 cX3_lot 4 (some .int) 2 0 0) (hC : Cl sh G) (hf : fX3_lot l0 l1 l2 = some z) (kr : RCi E cX3_lot ad sh z G) : VV E 0 0 (wq (xT E) ad G sh) 0 [(0, .int l0), (1, .int l1), (2, .int l2)] [] := by
  unfold fX3_lot at hf
  refine v_iload_n C 1 dX3_lot_0 rfl rfl ?_
  refine v_bipush (v := 109) C dX3_lot_1 (by decide) ?_
  obtain ⟨r1, qr1, hf⟩ := bn hf
  refine v_callSi (As := [.int l1, .int 109]) (rest := []) C (sX3_stirred  qr1) cs_X3_127 (by decide) hC rfl rfl rfl (Nat.le_of_ble_eq_true rfl) ⟨Nat.le_refl _, Nat.le_refl _⟩ dX3_lot_3 (fun hC => ?_)
  refine v_iload_n C 2 dX3_lot_6 rfl rfl ?_
  obtain ⟨r2, qr2, hf⟩ := bn hf
  refine v_callSi (As := [.int r1, .int l2]) (rest := []) C (sX3_stirred  qr2) cs_X3_127 (by decide) hC rfl rfl rfl (Nat.le_of_ble_eq_true rfl) ⟨Nat.le_refl _, Nat.le_refl _⟩ dX3_lot_7 (fun hC => ?_)
  refine v_istore_n (lv2 := [(3, .int r2), (0, .int l0), (1, .int l1), (2, .int l2)]) C dX3_lot_10 rfl (by decide) rfl ?_
  refine v_iload_n C 1 dX3_lot_11 rfl rfl ?_
  refine v_if_le (tgt := 23) C dX3_lot_12 (by decide) (fun c3 => ?_) (fun c3 => ?_)
  · have hf := ip hf c3
    refine v_iconst (v := 0) C dX3_lot_23 (by decide) ?_
    cases hf
    exact kr _ _ dX3_lot_24 hC
  · have hf := im hf c3
    refine v_iload_n C 0 dX3_lot_15 rfl rfl ?_
    refine v_iconst (v := 1) C dX3_lot_16 (by decide) ?_
    refine v_iushr C dX3_lot_17 ?_
    refine v_iload_n C 1 dX3_lot_18 rfl rfl ?_
    obtain ⟨hz4, hf⟩ := iz hf
    refine v_irem C dX3_lot_19 hz4 ?_
    refine v_goto (tgt := 24) C dX3_lot_20 (by decide) ?_
    cases hf
    exact kr _ _ dX3_lot_24 hC
theorem sX3_lot {l : Launch} {sh : Sh} {G : Hp} {l0 : Int32} {l1 : Int32} {l2 : Int32} {z : Int32} (hf : fX3_lot l0 l1 l2 = some z) : MC l yX3_lot cX3_lot 4 (some .int) 2 0 0 sh sh G G (fun ad => [.int l0, .int l1, .int l2]) (fun _ => some (.int z)) := by
  refine MC_of rfl rfl (fun _ => Nat.le_of_ble_eq_true rfl) (fun E ad C hl hnm hC hQ => ?_)
  exact tX3_lot C hC hf (fun pc lv hd hC => v_iret C hQ (fun _ _ => rfl) hC rfl hd)
def fX3_isStorm (l0 : Int32) (l1 : Int32) (l2 : Int32) : Option (Int32) := (fX3_lot 100 l1 ((4 : Int32) * l2)).bind fun r1 => if l0 ≤ r1 then some 0 else some 1
set_option maxHeartbeats 4000000 in
theorem tX3_isStorm {E : EX} {ad : Nat → Nat} {sh : Sh} {G : Hp} {l0 : Int32} {l1 : Int32} {l2 : Int32} {z : Int32} (C : Cx E RX3 cX3_isStorm 3 (some .boolean) 3 0 0) (hC : Cl sh G) (hf : fX3_isStorm l0 l1 l2 = some z) (kr : RCz E cX3_isStorm ad sh z G) : VV E 0 0 (wq (xT E) ad G sh) 0 [(0, .int l0), (1, .int l1), (2, .int l2)] [] := by
  unfold fX3_isStorm at hf
  refine v_bipush (v := 100) C dX3_isStorm_0 (by decide) ?_
  refine v_iload_n C 1 dX3_isStorm_2 rfl rfl ?_
  refine v_iconst (v := 4) C dX3_isStorm_3 (by decide) ?_
  refine v_iload_n C 2 dX3_isStorm_4 rfl rfl ?_
  refine v_imul C dX3_isStorm_5 ?_
  obtain ⟨r1, qr1, hf⟩ := bn hf
  refine v_callSi (As := [.int 100, .int l1, .int ((4 : Int32) * l2)]) (rest := []) C (sX3_lot  qr1) cs_X3_123 (by decide) hC rfl rfl rfl (Nat.le_of_ble_eq_true rfl) ⟨Nat.le_refl _, Nat.le_refl _⟩ dX3_isStorm_6 (fun hC => ?_)
  refine v_iload_n C 0 dX3_isStorm_9 rfl rfl ?_
  refine v_icmp_ge (tgt := 17) C dX3_isStorm_10 (by decide) (fun c2 => ?_) (fun c2 => ?_)
  · have hf := ip hf c2
    refine v_iconst (v := 0) C dX3_isStorm_17 (by decide) ?_
    cases hf
    exact kr _ _ dX3_isStorm_18 (Or.inl rfl) hC
  · have hf := im hf c2
    refine v_iconst (v := 1) C dX3_isStorm_13 (by decide) ?_
    refine v_goto (tgt := 18) C dX3_isStorm_14 (by decide) ?_
    cases hf
    exact kr _ _ dX3_isStorm_18 (Or.inr rfl) hC
theorem sX3_isStorm {l : Launch} {sh : Sh} {G : Hp} {l0 : Int32} {l1 : Int32} {l2 : Int32} {z : Int32} (hf : fX3_isStorm l0 l1 l2 = some z) : MC l yX3_isStorm cX3_isStorm 3 (some .boolean) 3 0 0 sh sh G G (fun ad => [.int l0, .int l1, .int l2]) (fun _ => some (.int z)) := by
  refine MC_of rfl rfl (fun _ => Nat.le_of_ble_eq_true rfl) (fun E ad C hl hnm hC hQ => ?_)
  exact tX3_isStorm C hC hf (fun pc lv hd hz hC => v_zret C hQ (fun _ _ => rfl) hC rfl hz hd)
def fX10_count (sh : Sh) (G : Hp) (l0 : Nat) (l1 : Int32) : Option (Int32) := if l1 = 0 then (ldO sh G l0 2 8).bind fun a2 => some (G.1 a2 0) else if l1 = 1 then (ldO sh G l0 2 8).bind fun a4 => some (G.1 a4 1) else if l1 = 2 then (ldO sh G l0 2 8).bind fun a6 => some (G.1 a6 2) else if l1 = 3 then (ldO sh G l0 2 8).bind fun a8 => some (G.1 a8 3) else if l1 = 4 then (ldO sh G l0 3 1).bind fun a10 => some (G.1 a10 8) else if l1 = 5 then (ldO sh G l0 3 1).bind fun a12 => some (G.1 a12 7) else if l1 = 6 then (ldO sh G l0 3 1).bind fun a14 => (fX1_bridgesOf sh G a14 1).bind fun r15 => some r15 else if l1 = 7 then (ldO sh G l0 3 1).bind fun a17 => (fX1_bridgesOf sh G a17 2).bind fun r18 => some r18 else if l1 = 8 then (ldO sh G l0 3 1).bind fun a20 => some (G.1 a20 6) else if l1 = 9 then (ldO sh G l0 3 1).bind fun a22 => some (G.1 a22 4) else if l1 = 10 then (ldO sh G l0 3 1).bind fun a24 => some (G.1 a24 5) else if l1 = 11 then (ldO sh G l0 0 6).bind fun a26 => (ldO sh G a26 0 7).bind fun a27 => some (G.1 a27 0) else if l1 = 12 then (ldO sh G l0 5 2).bind fun a29 => some (G.1 a29 0) else if l1 = 13 then (ldO sh G l0 8 9).bind fun a31 => some (G.1 a31 0) else if l1 = 14 then (fJ6_bitCount_0f7a4 (G.1 l0 7)).bind fun r33 => some r33 else if l1 = 15 then (ldO sh G l0 2 8).bind fun a35 => (ldO sh G l0 2 8).bind fun a36 => (ldO sh G l0 3 1).bind fun a37 => (fX3_isStorm (G.1 a35 4) (G.1 a36 5) (G.1 a37 8)).bind fun r38 => if r38 = 0 then some 0 else some 1 else some (-1)
set_option maxHeartbeats 4000000 in
theorem tX10_count {E : EX} {ad : Nat → Nat} {sh : Sh} {G : Hp} {l0 : Nat} {l1 : Int32} {z : Int32} (C : Cx E RX10 cX10_count 2 (some .int) 4 0 0) (hC : Cl sh G) (h_l0 : sh[l0]? = some (0, 10)) (hf : fX10_count sh G l0 l1 = some z) (kr : RCi E cX10_count ad sh z G) : VV E 0 0 (wq (xT E) ad G sh) 0 [(0, .ref (ad l0)), (1, .int l1)] [] := by
  unfold fX10_count at hf
  refine v_iload_n C 1 dX10_count_0 rfl rfl ?_
  by_cases c1 : l1 = 0
  · have hf := ip hf c1
    refine v_tableIn (off := 79) (tgt := 80) C dX10_count_1 (by rw [c1]; decide) (by rw [c1]; decide) (by rw [c1]; decide) (by decide) ?_
    refine v_aload_n C 0 dX10_count_80 rfl rfl ?_
    obtain ⟨a2, qa2, hf⟩ := bn hf
    refine v_getO C h_l0 fl_X10_23 qa2 dX10_count_81 (fun h_a2 => ?_)
    refine v_getI C h_a2 fl_X10_262 dX10_count_84 ?_
    cases hf
    exact kr _ _ dX10_count_87 hC
  · have hf := im hf c1
    by_cases c3 : l1 = 1
    · have hf := ip hf c3
      refine v_tableIn (off := 87) (tgt := 88) C dX10_count_1 (by rw [c3]; decide) (by rw [c3]; decide) (by rw [c3]; decide) (by decide) ?_
      refine v_aload_n C 0 dX10_count_88 rfl rfl ?_
      obtain ⟨a4, qa4, hf⟩ := bn hf
      refine v_getO C h_l0 fl_X10_23 qa4 dX10_count_89 (fun h_a4 => ?_)
      refine v_getI C h_a4 fl_X10_318 dX10_count_92 ?_
      cases hf
      exact kr _ _ dX10_count_95 hC
    · have hf := im hf c3
      by_cases c5 : l1 = 2
      · have hf := ip hf c5
        refine v_tableIn (off := 95) (tgt := 96) C dX10_count_1 (by rw [c5]; decide) (by rw [c5]; decide) (by rw [c5]; decide) (by decide) ?_
        refine v_aload_n C 0 dX10_count_96 rfl rfl ?_
        obtain ⟨a6, qa6, hf⟩ := bn hf
        refine v_getO C h_l0 fl_X10_23 qa6 dX10_count_97 (fun h_a6 => ?_)
        refine v_getI C h_a6 fl_X10_321 dX10_count_100 ?_
        cases hf
        exact kr _ _ dX10_count_103 hC
      · have hf := im hf c5
        by_cases c7 : l1 = 3
        · have hf := ip hf c7
          refine v_tableIn (off := 103) (tgt := 104) C dX10_count_1 (by rw [c7]; decide) (by rw [c7]; decide) (by rw [c7]; decide) (by decide) ?_
          refine v_aload_n C 0 dX10_count_104 rfl rfl ?_
          obtain ⟨a8, qa8, hf⟩ := bn hf
          refine v_getO C h_l0 fl_X10_23 qa8 dX10_count_105 (fun h_a8 => ?_)
          refine v_getI C h_a8 fl_X10_285 dX10_count_108 ?_
          cases hf
          exact kr _ _ dX10_count_111 hC
        · have hf := im hf c7
          by_cases c9 : l1 = 4
          · have hf := ip hf c9
            refine v_tableIn (off := 111) (tgt := 112) C dX10_count_1 (by rw [c9]; decide) (by rw [c9]; decide) (by rw [c9]; decide) (by decide) ?_
            refine v_aload_n C 0 dX10_count_112 rfl rfl ?_
            obtain ⟨a10, qa10, hf⟩ := bn hf
            refine v_getO C h_l0 fl_X10_30 qa10 dX10_count_113 (fun h_a10 => ?_)
            refine v_getI C h_a10 fl_X10_221 dX10_count_116 ?_
            cases hf
            exact kr _ _ dX10_count_119 hC
          · have hf := im hf c9
            by_cases c11 : l1 = 5
            · have hf := ip hf c11
              refine v_tableIn (off := 119) (tgt := 120) C dX10_count_1 (by rw [c11]; decide) (by rw [c11]; decide) (by rw [c11]; decide) (by decide) ?_
              refine v_aload_n C 0 dX10_count_120 rfl rfl ?_
              obtain ⟨a12, qa12, hf⟩ := bn hf
              refine v_getO C h_l0 fl_X10_30 qa12 dX10_count_121 (fun h_a12 => ?_)
              refine v_getI C h_a12 fl_X10_193 dX10_count_124 ?_
              cases hf
              exact kr _ _ dX10_count_127 hC
            · have hf := im hf c11
              by_cases c13 : l1 = 6
              · have hf := ip hf c13
                refine v_tableIn (off := 127) (tgt := 128) C dX10_count_1 (by rw [c13]; decide) (by rw [c13]; decide) (by rw [c13]; decide) (by decide) ?_
                refine v_aload_n C 0 dX10_count_128 rfl rfl ?_
                obtain ⟨a14, qa14, hf⟩ := bn hf
                refine v_getO C h_l0 fl_X10_30 qa14 dX10_count_129 (fun h_a14 => ?_)
                refine v_iconst (v := 1) C dX10_count_132 (by decide) ?_
                obtain ⟨r15, qr15, hf⟩ := bn hf
                refine v_callVi (As := [.int 1]) (rest := []) C (sX1_bridgesOf h_a14 qr15) cs_X10_324 (by decide) h_a14 rfl hC rfl rfl rfl (Nat.le_of_ble_eq_true rfl) ⟨Nat.le_refl _, Nat.le_refl _⟩ dX10_count_133 (fun hC => ?_)
                cases hf
                exact kr _ _ dX10_count_136 hC
              · have hf := im hf c13
                by_cases c16 : l1 = 7
                · have hf := ip hf c16
                  refine v_tableIn (off := 136) (tgt := 137) C dX10_count_1 (by rw [c16]; decide) (by rw [c16]; decide) (by rw [c16]; decide) (by decide) ?_
                  refine v_aload_n C 0 dX10_count_137 rfl rfl ?_
                  obtain ⟨a17, qa17, hf⟩ := bn hf
                  refine v_getO C h_l0 fl_X10_30 qa17 dX10_count_138 (fun h_a17 => ?_)
                  refine v_iconst (v := 2) C dX10_count_141 (by decide) ?_
                  obtain ⟨r18, qr18, hf⟩ := bn hf
                  refine v_callVi (As := [.int 2]) (rest := []) C (sX1_bridgesOf h_a17 qr18) cs_X10_324 (by decide) h_a17 rfl hC rfl rfl rfl (Nat.le_of_ble_eq_true rfl) ⟨Nat.le_refl _, Nat.le_refl _⟩ dX10_count_142 (fun hC => ?_)
                  cases hf
                  exact kr _ _ dX10_count_145 hC
                · have hf := im hf c16
                  by_cases c19 : l1 = 8
                  · have hf := ip hf c19
                    refine v_tableIn (off := 145) (tgt := 146) C dX10_count_1 (by rw [c19]; decide) (by rw [c19]; decide) (by rw [c19]; decide) (by decide) ?_
                    refine v_aload_n C 0 dX10_count_146 rfl rfl ?_
                    obtain ⟨a20, qa20, hf⟩ := bn hf
                    refine v_getO C h_l0 fl_X10_30 qa20 dX10_count_147 (fun h_a20 => ?_)
                    refine v_getI C h_a20 fl_X10_124 dX10_count_150 ?_
                    cases hf
                    exact kr _ _ dX10_count_153 hC
                  · have hf := im hf c19
                    by_cases c21 : l1 = 9
                    · have hf := ip hf c21
                      refine v_tableIn (off := 153) (tgt := 154) C dX10_count_1 (by rw [c21]; decide) (by rw [c21]; decide) (by rw [c21]; decide) (by decide) ?_
                      refine v_aload_n C 0 dX10_count_154 rfl rfl ?_
                      obtain ⟨a22, qa22, hf⟩ := bn hf
                      refine v_getO C h_l0 fl_X10_30 qa22 dX10_count_155 (fun h_a22 => ?_)
                      refine v_getI C h_a22 fl_X10_327 dX10_count_158 ?_
                      cases hf
                      exact kr _ _ dX10_count_161 hC
                    · have hf := im hf c21
                      by_cases c23 : l1 = 10
                      · have hf := ip hf c23
                        refine v_tableIn (off := 161) (tgt := 162) C dX10_count_1 (by rw [c23]; decide) (by rw [c23]; decide) (by rw [c23]; decide) (by decide) ?_
                        refine v_aload_n C 0 dX10_count_162 rfl rfl ?_
                        obtain ⟨a24, qa24, hf⟩ := bn hf
                        refine v_getO C h_l0 fl_X10_30 qa24 dX10_count_163 (fun h_a24 => ?_)
                        refine v_getI C h_a24 fl_X10_330 dX10_count_166 ?_
                        cases hf
                        exact kr _ _ dX10_count_169 hC
                      · have hf := im hf c23
                        by_cases c25 : l1 = 11
                        · have hf := ip hf c25
                          refine v_tableIn (off := 169) (tgt := 170) C dX10_count_1 (by rw [c25]; decide) (by rw [c25]; decide) (by rw [c25]; decide) (by decide) ?_
                          refine v_aload_n C 0 dX10_count_170 rfl rfl ?_
                          obtain ⟨a26, qa26, hf⟩ := bn hf
                          refine v_getO C h_l0 fl_X10_12 qa26 dX10_count_171 (fun h_a26 => ?_)
                          obtain ⟨a27, qa27, hf⟩ := bn hf
                          refine v_getO C h_a26 fl_X10_76 qa27 dX10_count_174 (fun h_a27 => ?_)
                          refine v_getI C h_a27 fl_X10_80 dX10_count_177 ?_
                          cases hf
                          exact kr _ _ dX10_count_180 hC
                        · have hf := im hf c25
                          by_cases c28 : l1 = 12
                          · have hf := ip hf c28
                            refine v_tableIn (off := 180) (tgt := 181) C dX10_count_1 (by rw [c28]; decide) (by rw [c28]; decide) (by rw [c28]; decide) (by decide) ?_
                            refine v_aload_n C 0 dX10_count_181 rfl rfl ?_
                            obtain ⟨a29, qa29, hf⟩ := bn hf
                            refine v_getO C h_l0 fl_X10_44 qa29 dX10_count_182 (fun h_a29 => ?_)
                            refine v_getI C h_a29 fl_X10_107 dX10_count_185 ?_
                            cases hf
                            exact kr _ _ dX10_count_188 hC
                          · have hf := im hf c28
                            by_cases c30 : l1 = 13
                            · have hf := ip hf c30
                              refine v_tableIn (off := 188) (tgt := 189) C dX10_count_1 (by rw [c30]; decide) (by rw [c30]; decide) (by rw [c30]; decide) (by decide) ?_
                              refine v_aload_n C 0 dX10_count_189 rfl rfl ?_
                              obtain ⟨a31, qa31, hf⟩ := bn hf
                              refine v_getO C h_l0 fl_X10_58 qa31 dX10_count_190 (fun h_a31 => ?_)
                              refine v_getI C h_a31 fl_X10_110 dX10_count_193 ?_
                              cases hf
                              exact kr _ _ dX10_count_196 hC
                            · have hf := im hf c30
                              by_cases c32 : l1 = 14
                              · have hf := ip hf c32
                                refine v_tableIn (off := 196) (tgt := 197) C dX10_count_1 (by rw [c32]; decide) (by rw [c32]; decide) (by rw [c32]; decide) (by decide) ?_
                                refine v_aload_n C 0 dX10_count_197 rfl rfl ?_
                                refine v_getI C h_l0 fl_X10_52 dX10_count_198 ?_
                                obtain ⟨r33, qr33, hf⟩ := bn hf
                                refine v_callSi (As := [.int (G.1 l0 7)]) (rest := []) C (sJ6_bitCount_0f7a4  qr33) cs_X10_274 (by decide) hC rfl rfl rfl (Nat.le_of_ble_eq_true rfl) ⟨Nat.le_refl _, Nat.le_refl _⟩ dX10_count_201 (fun hC => ?_)
                                cases hf
                                exact kr _ _ dX10_count_204 hC
                              · have hf := im hf c32
                                by_cases c34 : l1 = 15
                                · have hf := ip hf c34
                                  refine v_tableIn (off := 204) (tgt := 205) C dX10_count_1 (by rw [c34]; decide) (by rw [c34]; decide) (by rw [c34]; decide) (by decide) ?_
                                  refine v_aload_n C 0 dX10_count_205 rfl rfl ?_
                                  obtain ⟨a35, qa35, hf⟩ := bn hf
                                  refine v_getO C h_l0 fl_X10_23 qa35 dX10_count_206 (fun h_a35 => ?_)
                                  refine v_getI C h_a35 fl_X10_333 dX10_count_209 ?_
                                  refine v_aload_n C 0 dX10_count_212 rfl rfl ?_
                                  obtain ⟨a36, qa36, hf⟩ := bn hf
                                  refine v_getO C h_l0 fl_X10_23 qa36 dX10_count_213 (fun h_a36 => ?_)
                                  refine v_getI C h_a36 fl_X10_214 dX10_count_216 ?_
                                  refine v_aload_n C 0 dX10_count_219 rfl rfl ?_
                                  obtain ⟨a37, qa37, hf⟩ := bn hf
                                  refine v_getO C h_l0 fl_X10_30 qa37 dX10_count_220 (fun h_a37 => ?_)
                                  refine v_getI C h_a37 fl_X10_221 dX10_count_223 ?_
                                  obtain ⟨r38, qr38, hf⟩ := bn hf
                                  refine v_callSi (As := [.int (G.1 a35 4), .int (G.1 a36 5), .int (G.1 a37 8)]) (rest := []) C (sX3_isStorm  qr38) cs_X10_336 (by decide) hC rfl rfl rfl (Nat.le_of_ble_eq_true rfl) ⟨Nat.le_refl _, Nat.le_refl _⟩ dX10_count_226 (fun hC => ?_)
                                  refine v_if_eq (tgt := 236) C dX10_count_229 (by decide) (fun c39 => ?_) (fun c39 => ?_)
                                  · have hf := ip hf c39
                                    refine v_iconst (v := 0) C dX10_count_236 (by decide) ?_
                                    cases hf
                                    exact kr _ _ dX10_count_237 hC
                                  · have hf := im hf c39
                                    refine v_iconst (v := 1) C dX10_count_232 (by decide) ?_
                                    refine v_goto (tgt := 237) C dX10_count_233 (by decide) ?_
                                    cases hf
                                    exact kr _ _ dX10_count_237 hC
                                · have hf := im hf c34
                                  refine v_tableOut (tgt := 238) C dX10_count_1 (tsw_out (by decide) (by decide) (fun k hk => match k, hk with | 0, _ => fun e => c1 (e.trans (by decide)) | 1, _ => fun e => c3 (e.trans (by decide)) | 2, _ => fun e => c5 (e.trans (by decide)) | 3, _ => fun e => c7 (e.trans (by decide)) | 4, _ => fun e => c9 (e.trans (by decide)) | 5, _ => fun e => c11 (e.trans (by decide)) | 6, _ => fun e => c13 (e.trans (by decide)) | 7, _ => fun e => c16 (e.trans (by decide)) | 8, _ => fun e => c19 (e.trans (by decide)) | 9, _ => fun e => c21 (e.trans (by decide)) | 10, _ => fun e => c23 (e.trans (by decide)) | 11, _ => fun e => c25 (e.trans (by decide)) | 12, _ => fun e => c28 (e.trans (by decide)) | 13, _ => fun e => c30 (e.trans (by decide)) | 14, _ => fun e => c32 (e.trans (by decide)) | 15, _ => fun e => c34 (e.trans (by decide)) | k + 16, hk => absurd hk (by simp only [show (Int.toNat (15 - 0 + 1)) = 16 from rfl]; omega))) (by decide) ?_
                                  refine v_iconst (v := (-1)) C dX10_count_238 (by decide) ?_
                                  cases hf
                                  exact kr _ _ dX10_count_239 hC
theorem sX10_count {l : Launch} {sh : Sh} {G : Hp} {l0 : Nat} {l1 : Int32} {z : Int32} (h_l0 : sh[l0]? = some (0, 10)) (hf : fX10_count sh G l0 l1 = some z) : MC l yX10_count cX10_count 2 (some .int) 4 0 0 sh sh G G (fun ad => [.ref (ad l0), .int l1]) (fun _ => some (.int z)) := by
  refine MC_of rfl rfl (fun _ => Nat.le_of_ble_eq_true rfl) (fun E ad C hl hnm hC hQ => ?_)
  exact tX10_count C hC h_l0 hf (fun pc lv hd hC => v_iret C hQ (fun _ _ => rfl) hC rfl hd)
def fX7_put_S3 (sh : Sh) (l0 : Nat) (l1 : Int32) (G : Hp) (l2 : Int32) : Option ((Hp × Int32) ⊕ ((Hp))) := if l2 < 0 then some (.inr G) else (ldA sh G l0 5 2).bind fun a2 => if (nI (ln sh a2)) ≤ (G.1 l0 0) then bd ((l2 + (-8)) : Int32) fun x4 => some (.inl (G, x4)) else (ldA sh G l0 5 2).bind fun a5 => (asI sh G a5 (G.1 l0 0) (Int8.toInt32 (Int32.toInt8 (Int8.toInt32 (Int32.toInt8 (ush l1 l2)))))).bind fun G6 => bd (sI G6 l0 0 ((G6.1 l0 0) + 1)) fun G7 => bd ((l2 + (-8)) : Int32) fun x8 => some (.inl (G7, x8))
set_option maxHeartbeats 4000000 in
theorem tX7_put_S3 {E : EX} {ad : Nat → Nat} {sh : Sh} {G : Hp} {l0 : Nat} {l1 : Int32} {l2 : Int32} {o : (Hp × Int32) ⊕ ((Hp))} (C : Cx E RX7 cX7_put 3 none 1 0 0) (hC : Cl sh G) (h_l0 : sh[l0]? = some (0, 7)) (hf : fX7_put_S3 sh l0 l1 G l2 = some o) (kb : ∀ (G2 : Hp) (b_l2 : Int32), o = .inl (G2, b_l2) → Cl sh G2 → VV E 0 0 (wq (xT E) ad G2 sh) 3 [(0, .ref (ad l0)), (1, .int l1), (2, .int b_l2)] []) (kx48 : ∀ (G2 : Hp), o = .inr G2 → Cl sh G2 → VV E 0 0 (wq (xT E) ad G2 sh) 48 [(0, .ref (ad l0)), (1, .int l1)] []) : VV E 0 0 (wq (xT E) ad G sh) 3 [(0, .ref (ad l0)), (1, .int l1), (2, .int l2)] [] := by
  unfold fX7_put_S3 at hf
  refine v_iload_n C 2 dX7_put_3 rfl rfl ?_
  refine v_if_lt (tgt := 48) C dX7_put_4 (by decide) (fun c1 => ?_) (fun c1 => ?_)
  · have hf := ip hf c1
    cases hf
    refine v_sub [0, 1] rfl ?_
    exact kx48 _ rfl hC
  · have hf := im hf c1
    refine v_aload_n C 0 dX7_put_7 rfl rfl ?_
    refine v_getI C h_l0 fl_X7_49 dX7_put_8 ?_
    refine v_aload_n C 0 dX7_put_11 rfl rfl ?_
    obtain ⟨a2, qa2, hf⟩ := bn hf
    refine v_getA C h_l0 fl_X7_25 qa2 dX7_put_12 (fun h_a2 => ?_)
    refine v_alen C h_a2 (by decide) dX7_put_15 ?_
    refine v_icmp_ge (tgt := 42) C dX7_put_16 (by decide) (fun c3 => ?_) (fun c3 => ?_)
    · have hf := ip hf c3
      obtain ⟨x4, ex4⟩ : ∃ x : Int32, x = (l2 + (-8)) := ⟨_, rfl⟩
      have hf := bd_at hf ex4
      refine v_iinc (v := x4) (j := 2) (lv2 := [(2, .int x4), (0, .ref (ad l0)), (1, .int l1)]) C dX7_put_42 rfl (by rw [ex4]; rfl) (by decide) rfl ?_
      refine v_goto (tgt := 3) C dX7_put_45 (by decide) ?_
      cases hf
      refine v_sub [1, 2, 0] rfl ?_
      exact kb _ _ rfl hC
    · have hf := im hf c3
      refine v_aload_n C 0 dX7_put_19 rfl rfl ?_
      obtain ⟨a5, qa5, hf⟩ := bn hf
      refine v_getA C h_l0 fl_X7_25 qa5 dX7_put_20 (fun h_a5 => ?_)
      refine v_aload_n C 0 dX7_put_23 rfl rfl ?_
      refine v_getI C h_l0 fl_X7_49 dX7_put_24 ?_
      refine v_iload_n C 1 dX7_put_27 rfl rfl ?_
      refine v_iload_n C 2 dX7_put_28 rfl rfl ?_
      refine v_iushr C dX7_put_29 ?_
      refine v_i2b C dX7_put_30 ?_
      obtain ⟨G6, qG6, hf⟩ := bn hf
      refine v_bast C h_a5 qG6 hC dX7_put_31 (fun hC => ?_)
      refine v_aload_n C 0 dX7_put_32 rfl rfl ?_
      refine v_dup C dX7_put_33 rfl ?_
      refine v_getI C h_l0 fl_X7_49 dX7_put_34 ?_
      refine v_iconst (v := 1) C dX7_put_37 (by decide) ?_
      refine v_iadd C dX7_put_38 ?_
      refine v_putI C h_l0 fp_X7_49 dX7_put_39 (fun G7 eG7 => ?_)
      have hf := bd_at hf eG7
      have hC : Cl sh G7 := by rw [eG7]; exact hC
      obtain ⟨x8, ex8⟩ : ∃ x : Int32, x = (l2 + (-8)) := ⟨_, rfl⟩
      have hf := bd_at hf ex8
      refine v_iinc (v := x8) (j := 2) (lv2 := [(2, .int x8), (0, .ref (ad l0)), (1, .int l1)]) C dX7_put_42 rfl (by rw [ex8]; rfl) (by decide) rfl ?_
      refine v_goto (tgt := 3) C dX7_put_45 (by decide) ?_
      cases hf
      refine v_sub [1, 2, 0] rfl ?_
      exact kb _ _ rfl hC
def fX7_put (sh : Sh) (G : Hp) (l0 : Nat) (l1 : Int32) : Option (Hp) := (iter (fun s : Hp × Int32 => fX7_put_S3 sh l0 l1 s.1 s.2) fuel ((G, 24) : Hp × Int32)).bind (fun u3 => bd u3 fun G2 => some G2)
set_option maxHeartbeats 4000000 in
theorem tX7_put {E : EX} {ad : Nat → Nat} {sh : Sh} {G : Hp} {l0 : Nat} {l1 : Int32} {z : Hp} (C : Cx E RX7 cX7_put 3 none 1 0 0) (hC : Cl sh G) (h_l0 : sh[l0]? = some (0, 7)) (hf : fX7_put sh G l0 l1 = some z) (kr : RCv E cX7_put ad sh z) : VV E 0 0 (wq (xT E) ad G sh) 0 [(0, .ref (ad l0)), (1, .int l1)] [] := by
  unfold fX7_put at hf
  refine v_bipush (v := 24) C dX7_put_0 (by decide) ?_
  refine v_istore_n (lv2 := [(2, .int 24), (0, .ref (ad l0)), (1, .int l1)]) C dX7_put_2 rfl (by decide) rfl ?_
  obtain ⟨r1, qr1, hf⟩ := bn hf
  refine v_sub [1, 2, 0] rfl ?_
  refine iter_sound (P := (fun s : Hp × Int32 => Cl sh (s.1) → VV E 0 0 (wq (xT E) ad (s.1) sh) 3 [(0, .ref (ad l0)), (1, .int (l1)), (2, .int (s.2))] [])) (X := fun r => r = r1) (fun jsr1 jor1 hor1 jbr1 jxr1 hC => tX7_put_S3 C hC h_l0 hor1 (fun _ _ e => jbr1 _ e) ?_) fuel _ r1 qr1 rfl hC
  · intro G2 hu hC
    have e := jxr1 _ hu
    subst e
    have hf := bd_at hf (rfl : G2 = _)
    cases hf
    exact kr _ _ dX7_put_48 hC
theorem sX7_put {l : Launch} {sh : Sh} {G : Hp} {l0 : Nat} {l1 : Int32} {z : Hp} (h_l0 : sh[l0]? = some (0, 7)) (hf : fX7_put sh G l0 l1 = some z) : MC l yX7_put cX7_put 3 none 1 0 0 sh sh G z (fun ad => [.ref (ad l0), .int l1]) (fun _ => none) := by
  refine MC_of rfl rfl (fun _ => Nat.le_of_ble_eq_true rfl) (fun E ad C hl hnm hC hQ => ?_)
  exact tX7_put C hC h_l0 hf (fun pc lv hd hC => v_vret C hQ (fun _ _ => rfl) hC rfl hd)
def fX10_feed (sh : Sh) (G : Hp) (l0 : Nat) (l1 : Int32) (l2 : Int32) (l3 : Int32) (l4 : Int32) (l5 : Int32) : Option (Int32 × Hp) := (ldO sh G l0 0 6).bind fun a1 => (ldO sh G a1 0 7).bind fun a2 => if (G.1 a2 0) ≤ 1980 then (fX7_put sh G a2 l1).bind fun G5 => (fX7_put sh G5 a2 l2).bind fun G7 => (fX7_put sh G7 a2 l3).bind fun G9 => (fX7_put sh G9 a2 l4).bind fun G11 => (fX7_put sh G11 a2 l5).bind fun G13 => some ((G13.1 a2 0), G13) else some ((-1), G)
set_option maxHeartbeats 4000000 in
theorem tX10_feed {E : EX} {ad : Nat → Nat} {sh : Sh} {G : Hp} {l0 : Nat} {l1 : Int32} {l2 : Int32} {l3 : Int32} {l4 : Int32} {l5 : Int32} {z : Int32 × Hp} (C : Cx E RX10 cX10_feed 7 (some .int) 2 0 0) (hC : Cl sh G) (h_l0 : sh[l0]? = some (0, 10)) (hf : fX10_feed sh G l0 l1 l2 l3 l4 l5 = some z) (kr : RCi E cX10_feed ad sh (z.1) (z.2)) : VV E 0 0 (wq (xT E) ad G sh) 0 [(0, .ref (ad l0)), (1, .int l1), (2, .int l2), (3, .int l3), (4, .int l4), (5, .int l5)] [] := by
  unfold fX10_feed at hf
  refine v_aload_n C 0 dX10_feed_0 rfl rfl ?_
  obtain ⟨a1, qa1, hf⟩ := bn hf
  refine v_getO C h_l0 fl_X10_12 qa1 dX10_feed_1 (fun h_a1 => ?_)
  obtain ⟨a2, qa2, hf⟩ := bn hf
  refine v_getO C h_a1 fl_X10_76 qa2 dX10_feed_4 (fun h_a2 => ?_)
  refine v_astore (lv2 := [(6, .ref (ad a2)), (0, .ref (ad l0)), (1, .int l1), (2, .int l2), (3, .int l3), (4, .int l4), (5, .int l5)]) C dX10_feed_7 (by decide) rfl ?_
  refine v_aload C 0 dX10_feed_9 rfl ?_
  refine v_getI C h_a2 fl_X10_80 dX10_feed_11 ?_
  refine v_sipush (v := 1980) C dX10_feed_14 (by decide) ?_
  refine v_icmp_le (tgt := 22) C dX10_feed_17 (by decide) (fun c3 => ?_) (fun c3 => ?_)
  · have hf := ip hf c3
    refine v_aload C 0 dX10_feed_22 rfl ?_
    refine v_iload_n C 2 dX10_feed_24 rfl rfl ?_
    obtain ⟨G5, qr4, hf⟩ := bn hf
    refine v_callVv (As := [.int l1]) (rest := []) C (sX7_put h_a2 qr4) cs_X10_85 (by decide) h_a2 rfl hC rfl rfl rfl (Nat.le_of_ble_eq_true rfl) ⟨Nat.le_refl _, Nat.le_refl _⟩ dX10_feed_25 (fun hC => ?_)
    refine v_aload C 0 dX10_feed_28 rfl ?_
    refine v_iload_n C 3 dX10_feed_30 rfl rfl ?_
    obtain ⟨G7, qr6, hf⟩ := bn hf
    refine v_callVv (As := [.int l2]) (rest := []) C (sX7_put h_a2 qr6) cs_X10_85 (by decide) h_a2 rfl hC rfl rfl rfl (Nat.le_of_ble_eq_true rfl) ⟨Nat.le_refl _, Nat.le_refl _⟩ dX10_feed_31 (fun hC => ?_)
    refine v_aload C 0 dX10_feed_34 rfl ?_
    refine v_iload_n C 4 dX10_feed_36 rfl rfl ?_
    obtain ⟨G9, qr8, hf⟩ := bn hf
    refine v_callVv (As := [.int l3]) (rest := []) C (sX7_put h_a2 qr8) cs_X10_85 (by decide) h_a2 rfl hC rfl rfl rfl (Nat.le_of_ble_eq_true rfl) ⟨Nat.le_refl _, Nat.le_refl _⟩ dX10_feed_37 (fun hC => ?_)
    refine v_aload C 0 dX10_feed_40 rfl ?_
    refine v_iload C 5 dX10_feed_42 rfl ?_
    obtain ⟨G11, qr10, hf⟩ := bn hf
    refine v_callVv (As := [.int l4]) (rest := []) C (sX7_put h_a2 qr10) cs_X10_85 (by decide) h_a2 rfl hC rfl rfl rfl (Nat.le_of_ble_eq_true rfl) ⟨Nat.le_refl _, Nat.le_refl _⟩ dX10_feed_44 (fun hC => ?_)
    refine v_aload C 0 dX10_feed_47 rfl ?_
    refine v_iload C 6 dX10_feed_49 rfl ?_
    obtain ⟨G13, qr12, hf⟩ := bn hf
    refine v_callVv (As := [.int l5]) (rest := []) C (sX7_put h_a2 qr12) cs_X10_85 (by decide) h_a2 rfl hC rfl rfl rfl (Nat.le_of_ble_eq_true rfl) ⟨Nat.le_refl _, Nat.le_refl _⟩ dX10_feed_51 (fun hC => ?_)
    refine v_aload C 0 dX10_feed_54 rfl ?_
    refine v_getI C h_a2 fl_X10_80 dX10_feed_56 ?_
    cases hf
    exact kr _ _ dX10_feed_59 hC
  · have hf := im hf c3
    refine v_iconst (v := (-1)) C dX10_feed_20 (by decide) ?_
    cases hf
    exact kr _ _ dX10_feed_21 hC
theorem sX10_feed {l : Launch} {sh : Sh} {G : Hp} {l0 : Nat} {l1 : Int32} {l2 : Int32} {l3 : Int32} {l4 : Int32} {l5 : Int32} {z : Int32 × Hp} (h_l0 : sh[l0]? = some (0, 10)) (hf : fX10_feed sh G l0 l1 l2 l3 l4 l5 = some z) : MC l yX10_feed cX10_feed 7 (some .int) 2 0 0 sh sh G (z.2) (fun ad => [.ref (ad l0), .int l1, .int l2, .int l3, .int l4, .int l5]) (fun _ => some (.int z.1)) := by
  refine MC_of rfl rfl (fun _ => Nat.le_of_ble_eq_true rfl) (fun E ad C hl hnm hC hQ => ?_)
  exact tX10_feed C hC h_l0 hf (fun pc lv hd hC => v_iret C hQ (fun _ _ => rfl) hC rfl hd)
def fX10_forget (sh : Sh) (G : Hp) (l0 : Nat) : Option (Int32 × Hp) := (ldO sh G l0 8 9).bind fun a1 => bd ((G.1 a1 0) : Int32) fun x2 => (ldO sh G l0 8 9).bind fun a3 => bd (sI G a3 0 0) fun G4 => some (x2, G4)
set_option maxHeartbeats 4000000 in
theorem tX10_forget {E : EX} {ad : Nat → Nat} {sh : Sh} {G : Hp} {l0 : Nat} {z : Int32 × Hp} (C : Cx E RX10 cX10_forget 2 (some .int) 1 0 0) (hC : Cl sh G) (h_l0 : sh[l0]? = some (0, 10)) (hf : fX10_forget sh G l0 = some z) (kr : RCi E cX10_forget ad sh (z.1) (z.2)) : VV E 0 0 (wq (xT E) ad G sh) 0 [(0, .ref (ad l0))] [] := by
  unfold fX10_forget at hf
  refine v_aload_n C 0 dX10_forget_0 rfl rfl ?_
  obtain ⟨a1, qa1, hf⟩ := bn hf
  refine v_getO C h_l0 fl_X10_58 qa1 dX10_forget_1 (fun h_a1 => ?_)
  refine v_getI C h_a1 fl_X10_110 dX10_forget_4 ?_
  refine v_topi (fun x2 ex2 => ?_)
  have hf := bd_at hf ex2
  refine v_istore_n (lv2 := [(1, .int x2), (0, .ref (ad l0))]) C dX10_forget_7 rfl (by decide) rfl ?_
  refine v_aload_n C 1 dX10_forget_8 rfl rfl ?_
  obtain ⟨a3, qa3, hf⟩ := bn hf
  refine v_getO C h_l0 fl_X10_58 qa3 dX10_forget_9 (fun h_a3 => ?_)
  refine v_iconst (v := 0) C dX10_forget_12 (by decide) ?_
  refine v_putI C h_a3 fp_X10_110 dX10_forget_13 (fun G4 eG4 => ?_)
  have hf := bd_at hf eG4
  have hC : Cl sh G4 := by rw [eG4]; exact hC
  refine v_iload_n C 0 dX10_forget_16 rfl rfl ?_
  cases hf
  exact kr _ _ dX10_forget_17 hC
theorem sX10_forget {l : Launch} {sh : Sh} {G : Hp} {l0 : Nat} {z : Int32 × Hp} (h_l0 : sh[l0]? = some (0, 10)) (hf : fX10_forget sh G l0 = some z) : MC l yX10_forget cX10_forget 2 (some .int) 1 0 0 sh sh G (z.2) (fun ad => [.ref (ad l0)]) (fun _ => some (.int z.1)) := by
  refine MC_of rfl rfl (fun _ => Nat.le_of_ble_eq_true rfl) (fun E ad C hl hnm hC hQ => ?_)
  exact tX10_forget C hC h_l0 hf (fun pc lv hd hC => v_iret C hQ (fun _ _ => rfl) hC rfl hd)
