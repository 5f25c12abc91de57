def fX11_went_S16 (sh : Sh) (l0 : Nat) (l1 : Int32) (l2 : Int32) (G : Hp) (l3 : Int32) (l4 : Int32) : Option ((Hp × Int32 × Int32) ⊕ ((Hp × Int32))) := (ldA sh G l0 24 1).bind fun a1 => (aI sh G a1 (G.1 l0 18)).bind fun v2 => if v2 ≤ l4 then some (.inr (G, l3)) else bp (fX11_wentBy sh G l0 l1 l2 l4) fun r4 G5 => bd ((l3 + r4) : Int32) fun x6 => bd ((l4 + 1) : Int32) fun x7 => some (.inl (G5, x6, x7))
set_option maxHeartbeats 4000000 in
theorem tX11_went_S16 {E : EX} {ad : Nat → Nat} {sh : Sh} {G : Hp} {l0 : Nat} {l1 : Int32} {l2 : Int32} {l3 : Int32} {l4 : Int32} {o : (Hp × Int32 × Int32) ⊕ ((Hp × Int32))} (C : Cx E RX11 cX11_went 5 (some .int) 4 0 0) (hC : Cl sh G) (h_l0 : sh[l0]? = some (0, 11)) (hf : fX11_went_S16 sh l0 l1 l2 G l3 l4 = some o) (kb : ∀ (G2 : Hp) (b_l3 : Int32) (b_l4 : Int32), o = .inl (G2, b_l3, b_l4) → Cl sh G2 → VV E 0 0 (wq (xT E) ad G2 sh) 16 [(0, .ref (ad l0)), (1, .int l1), (2, .int l2), (3, .int b_l3), (4, .int b_l4)] []) (kx47 : ∀ (G2 : Hp) (b_l3 : Int32), o = .inr (G2, b_l3) → Cl sh G2 → VV E 0 0 (wq (xT E) ad G2 sh) 47 [(0, .ref (ad l0)), (1, .int l1), (2, .int l2), (3, .int b_l3)] []) : VV E 0 0 (wq (xT E) ad G sh) 16 [(0, .ref (ad l0)), (1, .int l1), (2, .int l2), (3, .int l3), (4, .int l4)] [] := by
  unfold fX11_went_S16 at hf
  refine v_iload C 4 dX11_went_16 rfl ?_
  refine v_aload_n C 0 dX11_went_18 rfl rfl ?_
  obtain ⟨a1, qa1, hf⟩ := bn hf
  refine v_getA C h_l0 fl_X11_49 qa1 dX11_went_19 (fun h_a1 => ?_)
  refine v_aload_n C 0 dX11_went_22 rfl rfl ?_
  refine v_getI C h_l0 fl_X11_257 dX11_went_23 ?_
  obtain ⟨v2, qv2, hf⟩ := bn hf
  refine v_iald C h_a1 qv2 dX11_went_26 ?_
  refine v_icmp_ge (tgt := 47) C dX11_went_27 (by decide) (fun c3 => ?_) (fun c3 => ?_)
  · have hf := ip hf c3
    cases hf
    refine v_sub [0, 1, 2, 3] rfl ?_
    exact kx47 _ _ rfl hC
  · have hf := im hf c3
    refine v_iload_n C 3 dX11_went_30 rfl rfl ?_
    refine v_aload_n C 0 dX11_went_31 rfl rfl ?_
    refine v_iload_n C 1 dX11_went_32 rfl rfl ?_
    refine v_iload_n C 2 dX11_went_33 rfl rfl ?_
    refine v_iload C 4 dX11_went_34 rfl ?_
    obtain ⟨r4, G5, qr4, hf⟩ := bpn hf
    refine v_callVi (As := [.int l1, .int l2, .int l4]) (rest := [.int l3]) C (sX11_wentBy h_l0 qr4) cs_X11_518 (by decide) h_l0 rfl hC rfl rfl rfl (Nat.le_of_ble_eq_true rfl) ⟨Nat.le_refl _, Nat.le_refl _⟩ dX11_went_36 (fun hC => ?_)
    refine v_iadd C dX11_went_39 ?_
    refine v_topi (fun x6 ex6 => ?_)
    have hf := bd_at hf ex6
    refine v_istore_n (lv2 := [(3, .int x6), (0, .ref (ad l0)), (1, .int l1), (2, .int l2), (4, .int l4)]) C dX11_went_40 rfl (by decide) rfl ?_
    obtain ⟨x7, ex7⟩ : ∃ x : Int32, x = (l4 + 1) := ⟨_, rfl⟩
    have hf := bd_at hf ex7
    refine v_iinc (v := x7) (j := 4) (lv2 := [(4, .int x7), (3, .int x6), (0, .ref (ad l0)), (1, .int l1), (2, .int l2)]) C dX11_went_41 rfl (by rw [ex7]; rfl) (by decide) rfl ?_
    refine v_goto (tgt := 16) C dX11_went_44 (by decide) ?_
    cases hf
    refine v_sub [2, 3, 4, 1, 0] rfl ?_
    exact kb _ _ _ rfl hC
def fX11_went (sh : Sh) (G : Hp) (l0 : Nat) (l1 : Int32) (l2 : Int32) : Option (Int32 × Hp) := (fX11_isKnown sh G l0 l1 l2).bind fun r1 => if r1 = 0 then some ((-1), G) else (iter (fun s : Hp × Int32 × Int32 => fX11_went_S16 sh l0 l1 l2 s.1 s.2.1 s.2.2) fuel ((G, 0, 0) : Hp × Int32 × Int32)).bind (fun u6 => bd u6.1 fun G4 => bd u6.2 fun x5 => some (x5, G4))
set_option maxHeartbeats 4000000 in
theorem tX11_went {E : EX} {ad : Nat → Nat} {sh : Sh} {G : Hp} {l0 : Nat} {l1 : Int32} {l2 : Int32} {z : Int32 × Hp} (C : Cx E RX11 cX11_went 5 (some .int) 4 0 0) (hC : Cl sh G) (h_l0 : sh[l0]? = some (0, 11)) (hf : fX11_went sh G l0 l1 l2 = some z) (kr : RCi E cX11_went ad sh (z.1) (z.2)) : VV E 0 0 (wq (xT E) ad G sh) 0 [(0, .ref (ad l0)), (1, .int l1), (2, .int l2)] [] := by
  unfold fX11_went at hf
  refine v_aload_n C 0 dX11_went_0 rfl rfl ?_
  refine v_iload_n C 1 dX11_went_1 rfl rfl ?_
  refine v_iload_n C 2 dX11_went_2 rfl rfl ?_
  obtain ⟨r1, qr1, hf⟩ := bn hf
  refine v_callVi (As := [.int l1, .int l2]) (rest := []) C (sX11_isKnown h_l0 qr1) cs_X11_515 (by decide) h_l0 rfl hC rfl rfl rfl (Nat.le_of_ble_eq_true rfl) ⟨Nat.le_refl _, Nat.le_refl _⟩ dX11_went_3 (fun hC => ?_)
  refine v_if_ne (tgt := 11) C dX11_went_6 (by decide) (fun c2 => ?_) (fun c2 => ?_)
  · have hf := im hf c2
    refine v_iconst (v := 0) C dX11_went_11 (by decide) ?_
    refine v_istore_n (lv2 := [(3, .int 0), (0, .ref (ad l0)), (1, .int l1), (2, .int l2)]) C dX11_went_12 rfl (by decide) rfl ?_
    refine v_iconst (v := 0) C dX11_went_13 (by decide) ?_
    refine v_istore (lv2 := [(4, .int 0), (3, .int 0), (0, .ref (ad l0)), (1, .int l1), (2, .int l2)]) C dX11_went_14 (by decide) rfl ?_
    obtain ⟨r3, qr3, hf⟩ := bn hf
    refine v_sub [2, 3, 4, 1, 0] rfl ?_
    refine iter_sound (P := (fun s : Hp × Int32 × Int32 => Cl sh (s.1) → VV E 0 0 (wq (xT E) ad (s.1) sh) 16 [(0, .ref (ad l0)), (1, .int (l1)), (2, .int (l2)), (3, .int (s.2.1)), (4, .int (s.2.2))] [])) (X := fun r => r = r3) (fun jsr3 jor3 hor3 jbr3 jxr3 hC => tX11_went_S16 C hC h_l0 hor3 (fun _ _ _ e => jbr3 _ e) ?_) fuel _ r3 qr3 rfl hC
    · intro G4 x5 hu hC
      have e := jxr3 _ hu
      subst e
      have hf := bd_at hf (rfl : G4 = _)
      have hf := bd_at hf (rfl : x5 = _)
      refine v_iload_n C 3 dX11_went_47 rfl rfl ?_
      cases hf
      exact kr _ _ dX11_went_48 hC
  · have hf := ip hf c2
    refine v_iconst (v := (-1)) C dX11_went_9 (by decide) ?_
    cases hf
    exact kr _ _ dX11_went_10 hC
theorem sX11_went {l : Launch} {sh : Sh} {G : Hp} {l0 : Nat} {l1 : Int32} {l2 : Int32} {z : Int32 × Hp} (h_l0 : sh[l0]? = some (0, 11)) (hf : fX11_went sh G l0 l1 l2 = some z) : MC l yX11_went cX11_went 5 (some .int) 4 0 0 sh sh G (z.2) (fun ad => [.ref (ad l0), .int l1, .int l2]) (fun _ => some (.int z.1)) := by
  refine MC_of rfl rfl (fun _ => Nat.le_of_ble_eq_true rfl) (fun E ad C hl hnm hC hQ => ?_)
  exact tX11_went C hC h_l0 hf (fun pc lv hd hC => v_iret C hQ (fun _ _ => rfl) hC rfl hd)
def fX11_havingBy_S23 (sh : Sh) (l0 : Nat) (l1 : Int32) (l2 : Int32) (l3 : Int32) (l5 : Int32) (G : Hp) (l4 : Int32) (l6 : Int32) : Option ((Hp × Int32 × Int32) ⊕ ((Hp × Int32))) := (ldA sh G l0 27 1).bind fun a1 => (aI sh G a1 (G.1 l0 18)).bind fun v2 => if v2 ≤ l6 then some (.inr (G, l4)) else (fX11_setOf sh G l0 l5 l6).bind fun r4 => if ((r4 >>> (l3 &&& 31)) &&& 1) = 1 then (fX11_setOf sh G l0 l5 l6).bind fun r7 => bp (fX11_isSo sh G l0 l1 r7 l2) fun r8 G9 => if r8 = 0 then bd ((l6 + 1) : Int32) fun x11 => some (.inl (G9, l4, x11)) else bd ((l4 + 1) : Int32) fun x12 => bd ((l6 + 1) : Int32) fun x13 => some (.inl (G9, x12, x13)) else bd ((l6 + 1) : Int32) fun x6 => some (.inl (G, l4, x6))
set_option maxHeartbeats 4000000 in
theorem tX11_havingBy_S23 {E : EX} {ad : Nat → Nat} {sh : Sh} {G : Hp} {l0 : Nat} {l1 : Int32} {l2 : Int32} {l3 : Int32} {l4 : Int32} {l5 : Int32} {l6 : Int32} {o : (Hp × Int32 × Int32) ⊕ ((Hp × Int32))} (C : Cx E RX11 cX11_havingBy 7 (some .int) 3 0 0) (hC : Cl sh G) (h_l0 : sh[l0]? = some (0, 11)) (hf : fX11_havingBy_S23 sh l0 l1 l2 l3 l5 G l4 l6 = some o) (kb : ∀ (G2 : Hp) (b_l4 : Int32) (b_l6 : Int32), o = .inl (G2, b_l4, b_l6) → Cl sh G2 → VV E 0 0 (wq (xT E) ad G2 sh) 23 [(0, .ref (ad l0)), (1, .int l1), (2, .int l2), (3, .int l3), (4, .int b_l4), (5, .int l5), (6, .int b_l6)] []) (kx79 : ∀ (G2 : Hp) (b_l4 : Int32), o = .inr (G2, b_l4) → Cl sh G2 → VV E 0 0 (wq (xT E) ad G2 sh) 79 [(0, .ref (ad l0)), (1, .int l1), (2, .int l2), (3, .int l3), (4, .int b_l4), (5, .int l5)] []) : VV E 0 0 (wq (xT E) ad G sh) 23 [(0, .ref (ad l0)), (1, .int l1), (2, .int l2), (3, .int l3), (4, .int l4), (5, .int l5), (6, .int l6)] [] := by
  unfold fX11_havingBy_S23 at hf
  refine v_iload C 6 dX11_havingBy_23 rfl ?_
  refine v_aload_n C 0 dX11_havingBy_25 rfl rfl ?_
  obtain ⟨a1, qa1, hf⟩ := bn hf
  refine v_getA C h_l0 fl_X11_58 qa1 dX11_havingBy_26 (fun h_a1 => ?_)
  refine v_aload_n C 0 dX11_havingBy_29 rfl rfl ?_
  refine v_getI C h_l0 fl_X11_257 dX11_havingBy_30 ?_
  obtain ⟨v2, qv2, hf⟩ := bn hf
  refine v_iald C h_a1 qv2 dX11_havingBy_33 ?_
  refine v_icmp_ge (tgt := 79) C dX11_havingBy_34 (by decide) (fun c3 => ?_) (fun c3 => ?_)
  · have hf := ip hf c3
    cases hf
    refine v_sub [0, 1, 2, 3, 4, 5] rfl ?_
    exact kx79 _ _ rfl hC
  · have hf := im hf c3
    refine v_aload_n C 0 dX11_havingBy_37 rfl rfl ?_
    refine v_iload C 5 dX11_havingBy_38 rfl ?_
    refine v_iload C 6 dX11_havingBy_40 rfl ?_
    obtain ⟨r4, qr4, hf⟩ := bn hf
    refine v_callVi (As := [.int l5, .int l6]) (rest := []) C (sX11_setOf h_l0 qr4) cs_X11_428 (by decide) h_l0 rfl hC rfl rfl rfl (Nat.le_of_ble_eq_true rfl) ⟨Nat.le_refl _, Nat.le_refl _⟩ dX11_havingBy_42 (fun hC => ?_)
    refine v_iload_n C 3 dX11_havingBy_45 rfl rfl ?_
    refine v_ishr C dX11_havingBy_46 ?_
    refine v_iconst (v := 1) C dX11_havingBy_47 (by decide) ?_
    refine v_iand C dX11_havingBy_48 ?_
    refine v_iconst (v := 1) C dX11_havingBy_49 (by decide) ?_
    refine v_icmp_ne (tgt := 73) C dX11_havingBy_50 (by decide) (fun c5 => ?_) (fun c5 => ?_)
    · have hf := im hf c5
      obtain ⟨x6, ex6⟩ : ∃ x : Int32, x = (l6 + 1) := ⟨_, rfl⟩
      have hf := bd_at hf ex6
      refine v_iinc (v := x6) (j := 6) (lv2 := [(6, .int x6), (0, .ref (ad l0)), (1, .int l1), (2, .int l2), (3, .int l3), (4, .int l4), (5, .int l5)]) C dX11_havingBy_73 rfl (by rw [ex6]; rfl) (by decide) rfl ?_
      refine v_goto (tgt := 23) C dX11_havingBy_76 (by decide) ?_
      cases hf
      refine v_sub [1, 2, 3, 4, 5, 6, 0] rfl ?_
      exact kb _ _ _ rfl hC
    · have hf := ip hf c5
      refine v_aload_n C 0 dX11_havingBy_53 rfl rfl ?_
      refine v_iload_n C 1 dX11_havingBy_54 rfl rfl ?_
      refine v_aload_n C 0 dX11_havingBy_55 rfl rfl ?_
      refine v_iload C 5 dX11_havingBy_56 rfl ?_
      refine v_iload C 6 dX11_havingBy_58 rfl ?_
      obtain ⟨r7, qr7, hf⟩ := bn hf
      refine v_callVi (As := [.int l5, .int l6]) (rest := [.int l1, .ref (ad l0)]) C (sX11_setOf h_l0 qr7) cs_X11_428 (by decide) h_l0 rfl hC rfl rfl rfl (Nat.le_of_ble_eq_true rfl) ⟨Nat.le_refl _, Nat.le_refl _⟩ dX11_havingBy_60 (fun hC => ?_)
      refine v_iload_n C 2 dX11_havingBy_63 rfl rfl ?_
      obtain ⟨r8, G9, qr8, hf⟩ := bpn hf
      refine v_callVi (As := [.int l1, .int r7, .int l2]) (rest := []) C (sX11_isSo h_l0 qr8) cs_X11_512 (by decide) h_l0 rfl hC rfl rfl rfl (Nat.le_of_ble_eq_true rfl) ⟨Nat.le_refl _, Nat.le_refl _⟩ dX11_havingBy_64 (fun hC => ?_)
      refine v_if_eq (tgt := 73) C dX11_havingBy_67 (by decide) (fun c10 => ?_) (fun c10 => ?_)
      · have hf := ip hf c10
        obtain ⟨x11, ex11⟩ : ∃ x : Int32, x = (l6 + 1) := ⟨_, rfl⟩
        have hf := bd_at hf ex11
        refine v_iinc (v := x11) (j := 6) (lv2 := [(6, .int x11), (0, .ref (ad l0)), (1, .int l1), (2, .int l2), (3, .int l3), (4, .int l4), (5, .int l5)]) C dX11_havingBy_73 rfl (by rw [ex11]; rfl) (by decide) rfl ?_
        refine v_goto (tgt := 23) C dX11_havingBy_76 (by decide) ?_
        cases hf
        refine v_sub [1, 2, 3, 4, 5, 6, 0] rfl ?_
        exact kb _ _ _ rfl hC
      · have hf := im hf c10
        obtain ⟨x12, ex12⟩ : ∃ x : Int32, x = (l4 + 1) := ⟨_, rfl⟩
        have hf := bd_at hf ex12
        refine v_iinc (v := x12) (j := 4) (lv2 := [(4, .int x12), (0, .ref (ad l0)), (1, .int l1), (2, .int l2), (3, .int l3), (5, .int l5), (6, .int l6)]) C dX11_havingBy_70 rfl (by rw [ex12]; rfl) (by decide) rfl ?_
        obtain ⟨x13, ex13⟩ : ∃ x : Int32, x = (l6 + 1) := ⟨_, rfl⟩
        have hf := bd_at hf ex13
        refine v_iinc (v := x13) (j := 6) (lv2 := [(6, .int x13), (4, .int x12), (0, .ref (ad l0)), (1, .int l1), (2, .int l2), (3, .int l3), (5, .int l5)]) C dX11_havingBy_73 rfl (by rw [ex13]; rfl) (by decide) rfl ?_
        refine v_goto (tgt := 23) C dX11_havingBy_76 (by decide) ?_
        cases hf
        refine v_sub [2, 3, 4, 5, 1, 6, 0] rfl ?_
        exact kb _ _ _ rfl hC
def fX11_havingBy_S6 (sh : Sh) (l0 : Nat) (l1 : Int32) (l2 : Int32) (l3 : Int32) (G : Hp) (l4 : Int32) (l5 : Int32) : Option ((Hp × Int32 × Int32) ⊕ ((Hp × Int32))) := (ldA sh G l0 24 1).bind fun a1 => (aI sh G a1 (G.1 l0 18)).bind fun v2 => if v2 ≤ l5 then some (.inr (G, l4)) else (iter (fun s : Hp × Int32 × Int32 => fX11_havingBy_S23 sh l0 l1 l2 l3 l5 s.1 s.2.1 s.2.2) fuel ((G, l4, (-1)) : Hp × Int32 × Int32)).bind (fun u8 => bd u8.1 fun G5 => bd u8.2 fun x6 => bd ((l5 + 1) : Int32) fun x7 => some (.inl (G5, x6, x7)))
set_option maxHeartbeats 4000000 in
theorem tX11_havingBy_S6 {E : EX} {ad : Nat → Nat} {sh : Sh} {G : Hp} {l0 : Nat} {l1 : Int32} {l2 : Int32} {l3 : Int32} {l4 : Int32} {l5 : Int32} {o : (Hp × Int32 × Int32) ⊕ ((Hp × Int32))} (C : Cx E RX11 cX11_havingBy 7 (some .int) 3 0 0) (hC : Cl sh G) (h_l0 : sh[l0]? = some (0, 11)) (hf : fX11_havingBy_S6 sh l0 l1 l2 l3 G l4 l5 = some o) (kb : ∀ (G2 : Hp) (b_l4 : Int32) (b_l5 : Int32), o = .inl (G2, b_l4, b_l5) → Cl sh G2 → VV E 0 0 (wq (xT E) ad G2 sh) 6 [(0, .ref (ad l0)), (1, .int l1), (2, .int l2), (3, .int l3), (4, .int b_l4), (5, .int b_l5)] []) (kx85 : ∀ (G2 : Hp) (b_l4 : Int32), o = .inr (G2, b_l4) → Cl sh G2 → VV E 0 0 (wq (xT E) ad G2 sh) 85 [(0, .ref (ad l0)), (1, .int l1), (2, .int l2), (3, .int l3), (4, .int b_l4)] []) : VV E 0 0 (wq (xT E) ad G sh) 6 [(0, .ref (ad l0)), (1, .int l1), (2, .int l2), (3, .int l3), (4, .int l4), (5, .int l5)] [] := by
  unfold fX11_havingBy_S6 at hf
  refine v_iload C 5 dX11_havingBy_6 rfl ?_
  refine v_aload_n C 0 dX11_havingBy_8 rfl rfl ?_
  obtain ⟨a1, qa1, hf⟩ := bn hf
  refine v_getA C h_l0 fl_X11_49 qa1 dX11_havingBy_9 (fun h_a1 => ?_)
  refine v_aload_n C 0 dX11_havingBy_12 rfl rfl ?_
  refine v_getI C h_l0 fl_X11_257 dX11_havingBy_13 ?_
  obtain ⟨v2, qv2, hf⟩ := bn hf
  refine v_iald C h_a1 qv2 dX11_havingBy_16 ?_
  refine v_icmp_ge (tgt := 85) C dX11_havingBy_17 (by decide) (fun c3 => ?_) (fun c3 => ?_)
  · have hf := ip hf c3
    cases hf
    refine v_sub [0, 1, 2, 3, 4] rfl ?_
    exact kx85 _ _ rfl hC
  · have hf := im hf c3
    refine v_iconst (v := (-1)) C dX11_havingBy_20 (by decide) ?_
    refine v_istore (lv2 := [(6, .int (-1)), (0, .ref (ad l0)), (1, .int l1), (2, .int l2), (3, .int l3), (4, .int l4), (5, .int l5)]) C dX11_havingBy_21 (by decide) rfl ?_
    obtain ⟨r4, qr4, hf⟩ := bn hf
    refine v_sub [1, 2, 3, 4, 5, 6, 0] rfl ?_
    refine iter_sound (P := (fun s : Hp × Int32 × Int32 => Cl sh (s.1) → VV E 0 0 (wq (xT E) ad (s.1) sh) 23 [(0, .ref (ad l0)), (1, .int (l1)), (2, .int (l2)), (3, .int (l3)), (4, .int (s.2.1)), (5, .int (l5)), (6, .int (s.2.2))] [])) (X := fun r => r = r4) (fun jsr4 jor4 hor4 jbr4 jxr4 hC => tX11_havingBy_S23 C hC h_l0 hor4 (fun _ _ _ e => jbr4 _ e) ?_) fuel _ r4 qr4 rfl hC
    · intro G5 x6 hu hC
      have e := jxr4 _ hu
      subst e
      have hf := bd_at hf (rfl : G5 = _)
      have hf := bd_at hf (rfl : x6 = _)
      obtain ⟨x7, ex7⟩ : ∃ x : Int32, x = (l5 + 1) := ⟨_, rfl⟩
      have hf := bd_at hf ex7
      refine v_iinc (v := x7) (j := 5) (lv2 := [(5, .int x7), (0, .ref (ad l0)), (1, .int l1), (2, .int l2), (3, .int l3), (4, .int x6)]) C dX11_havingBy_79 rfl (by rw [ex7]; rfl) (by decide) rfl ?_
      refine v_goto (tgt := 6) C dX11_havingBy_82 (by decide) ?_
      cases hf
      refine v_sub [1, 2, 3, 4, 5, 0] rfl ?_
      exact kb _ _ _ rfl hC
def fX11_havingBy (sh : Sh) (G : Hp) (l0 : Nat) (l1 : Int32) (l2 : Int32) (l3 : Int32) : Option (Int32 × Hp) := (iter (fun s : Hp × Int32 × Int32 => fX11_havingBy_S6 sh l0 l1 l2 l3 s.1 s.2.1 s.2.2) fuel ((G, 0, 0) : Hp × Int32 × Int32)).bind (fun u4 => bd u4.1 fun G2 => bd u4.2 fun x3 => some (x3, G2))
set_option maxHeartbeats 4000000 in
theorem tX11_havingBy {E : EX} {ad : Nat → Nat} {sh : Sh} {G : Hp} {l0 : Nat} {l1 : Int32} {l2 : Int32} {l3 : Int32} {z : Int32 × Hp} (C : Cx E RX11 cX11_havingBy 7 (some .int) 3 0 0) (hC : Cl sh G) (h_l0 : sh[l0]? = some (0, 11)) (hf : fX11_havingBy sh G l0 l1 l2 l3 = some z) (kr : RCi E cX11_havingBy ad sh (z.1) (z.2)) : VV E 0 0 (wq (xT E) ad G sh) 0 [(0, .ref (ad l0)), (1, .int l1), (2, .int l2), (3, .int l3)] [] := by
  unfold fX11_havingBy at hf
  refine v_iconst (v := 0) C dX11_havingBy_0 (by decide) ?_
  refine v_istore (lv2 := [(4, .int 0), (0, .ref (ad l0)), (1, .int l1), (2, .int l2), (3, .int l3)]) C dX11_havingBy_1 (by decide) rfl ?_
  refine v_iconst (v := 0) C dX11_havingBy_3 (by decide) ?_
  refine v_istore (lv2 := [(5, .int 0), (4, .int 0), (0, .ref (ad l0)), (1, .int l1), (2, .int l2), (3, .int l3)]) C dX11_havingBy_4 (by decide) rfl ?_
  obtain ⟨r1, qr1, hf⟩ := bn hf
  refine v_sub [2, 3, 4, 5, 1, 0] rfl ?_
  refine iter_sound (P := (fun s : Hp × Int32 × Int32 => Cl sh (s.1) → VV E 0 0 (wq (xT E) ad (s.1) sh) 6 [(0, .ref (ad l0)), (1, .int (l1)), (2, .int (l2)), (3, .int (l3)), (4, .int (s.2.1)), (5, .int (s.2.2))] [])) (X := fun r => r = r1) (fun jsr1 jor1 hor1 jbr1 jxr1 hC => tX11_havingBy_S6 C hC h_l0 hor1 (fun _ _ _ e => jbr1 _ e) ?_) fuel _ r1 qr1 rfl hC
  · intro G2 x3 hu hC
    have e := jxr1 _ hu
    subst e
    have hf := bd_at hf (rfl : G2 = _)
    have hf := bd_at hf (rfl : x3 = _)
    refine v_iload C 4 dX11_havingBy_85 rfl ?_
    cases hf
    exact kr _ _ dX11_havingBy_87 hC
theorem sX11_havingBy {l : Launch} {sh : Sh} {G : Hp} {l0 : Nat} {l1 : Int32} {l2 : Int32} {l3 : Int32} {z : Int32 × Hp} (h_l0 : sh[l0]? = some (0, 11)) (hf : fX11_havingBy sh G l0 l1 l2 l3 = some z) : MC l yX11_havingBy cX11_havingBy 7 (some .int) 3 0 0 sh sh G (z.2) (fun ad => [.ref (ad l0), .int l1, .int l2, .int l3]) (fun _ => some (.int z.1)) := by
  refine MC_of rfl rfl (fun _ => Nat.le_of_ble_eq_true rfl) (fun E ad C hl hnm hC hQ => ?_)
  exact tX11_havingBy C hC h_l0 hf (fun pc lv hd hC => v_iret C hQ (fun _ _ => rfl) hC rfl hd)
def fX11_ask_J74L28 (sh : Sh) (G : Hp) (l0 : Nat) (l1 : Int32) (l2 : Int32) (l3 : Int32) (l4 : Int32) (l5 : Int32) (l6 : Int32) (s0 : Int32) : Option ((Hp × Int32 × Int32 × Int32) ⊕ ((Hp × Int32))) := if l4 < 0 then bd ((l6 + 1) : Int32) fun x2 => some (.inl (G, l6, s0, x2)) else if s0 < l5 then bd ((l6 + 1) : Int32) fun x4 => some (.inl (G, l6, s0, x4)) else bd ((l6 + 1) : Int32) fun x5 => some (.inl (G, l4, l5, x5))
set_option maxHeartbeats 4000000 in
theorem tX11_ask_J74L28 {E : EX} {ad : Nat → Nat} {sh : Sh} {G : Hp} {l0 : Nat} {l1 : Int32} {l2 : Int32} {l3 : Int32} {l4 : Int32} {l5 : Int32} {l6 : Int32} {s0 : Int32} {o : (Hp × Int32 × Int32 × Int32) ⊕ ((Hp × Int32))} (C : Cx E RX11 cX11_ask 9 (some .int) 5 0 0) (hC : Cl sh G) (h_l0 : sh[l0]? = some (0, 11)) (hf : fX11_ask_J74L28 sh G l0 l1 l2 l3 l4 l5 l6 s0 = some o) (kb : ∀ (G2 : Hp) (b_l4 : Int32) (b_l5 : Int32) (b_l6 : Int32), o = .inl (G2, b_l4, b_l5, b_l6) → Cl sh G2 → VV E 0 0 (wq (xT E) ad G2 sh) 28 [(0, .ref (ad l0)), (1, .int l1), (2, .int l2), (3, .int l3), (4, .int b_l4), (5, .int b_l5), (6, .int b_l6)] []) (kx105 : ∀ (G2 : Hp) (b_l4 : Int32), o = .inr (G2, b_l4) → Cl sh G2 → VV E 0 0 (wq (xT E) ad G2 sh) 105 [(0, .ref (ad l0)), (1, .int l1), (2, .int l2), (3, .int l3), (4, .int b_l4)] []) : VV E 0 0 (wq (xT E) ad G sh) 74 [(0, .ref (ad l0)), (1, .int l1), (2, .int l2), (3, .int l3), (4, .int l4), (5, .int l5), (6, .int l6)] [.int s0] := by
  unfold fX11_ask_J74L28 at hf
  refine v_istore (lv2 := [(8, .int s0), (0, .ref (ad l0)), (1, .int l1), (2, .int l2), (3, .int l3), (4, .int l4), (5, .int l5), (6, .int l6)]) C dX11_ask_74 (by decide) rfl ?_
  refine v_iload C 5 dX11_ask_76 rfl ?_
  refine v_if_lt (tgt := 91) C dX11_ask_78 (by decide) (fun c1 => ?_) (fun c1 => ?_)
  · have hf := ip hf c1
    refine v_iload C 7 dX11_ask_91 rfl ?_
    refine v_istore (lv2 := [(4, .int l6), (8, .int s0), (0, .ref (ad l0)), (1, .int l1), (2, .int l2), (3, .int l3), (5, .int l5), (6, .int l6)]) C dX11_ask_93 (by decide) rfl ?_
    refine v_iload C 1 dX11_ask_95 rfl ?_
    refine v_istore (lv2 := [(5, .int s0), (4, .int l6), (8, .int s0), (0, .ref (ad l0)), (1, .int l1), (2, .int l2), (3, .int l3), (6, .int l6)]) C dX11_ask_97 (by decide) rfl ?_
    obtain ⟨x2, ex2⟩ : ∃ x : Int32, x = (l6 + 1) := ⟨_, rfl⟩
    have hf := bd_at hf ex2
    refine v_iinc (v := x2) (j := 7) (lv2 := [(6, .int x2), (5, .int s0), (4, .int l6), (8, .int s0), (0, .ref (ad l0)), (1, .int l1), (2, .int l2), (3, .int l3)]) C dX11_ask_99 rfl (by rw [ex2]; rfl) (by decide) rfl ?_
    refine v_goto (tgt := 28) C dX11_ask_102 (by decide) ?_
    cases hf
    refine v_sub [4, 5, 6, 7, 2, 1, 0] rfl ?_
    exact kb _ _ _ _ rfl hC
  · have hf := im hf c1
    refine v_iload C 0 dX11_ask_81 rfl ?_
    refine v_iload C 6 dX11_ask_83 rfl ?_
    refine v_icmp_lt (tgt := 91) C dX11_ask_85 (by decide) (fun c3 => ?_) (fun c3 => ?_)
    · have hf := ip hf c3
      refine v_iload C 7 dX11_ask_91 rfl ?_
      refine v_istore (lv2 := [(4, .int l6), (8, .int s0), (0, .ref (ad l0)), (1, .int l1), (2, .int l2), (3, .int l3), (5, .int l5), (6, .int l6)]) C dX11_ask_93 (by decide) rfl ?_
      refine v_iload C 1 dX11_ask_95 rfl ?_
      refine v_istore (lv2 := [(5, .int s0), (4, .int l6), (8, .int s0), (0, .ref (ad l0)), (1, .int l1), (2, .int l2), (3, .int l3), (6, .int l6)]) C dX11_ask_97 (by decide) rfl ?_
      obtain ⟨x4, ex4⟩ : ∃ x : Int32, x = (l6 + 1) := ⟨_, rfl⟩
      have hf := bd_at hf ex4
      refine v_iinc (v := x4) (j := 7) (lv2 := [(6, .int x4), (5, .int s0), (4, .int l6), (8, .int s0), (0, .ref (ad l0)), (1, .int l1), (2, .int l2), (3, .int l3)]) C dX11_ask_99 rfl (by rw [ex4]; rfl) (by decide) rfl ?_
      refine v_goto (tgt := 28) C dX11_ask_102 (by decide) ?_
      cases hf
      refine v_sub [4, 5, 6, 7, 2, 1, 0] rfl ?_
      exact kb _ _ _ _ rfl hC
    · have hf := im hf c3
      refine v_goto (tgt := 99) C dX11_ask_88 (by decide) ?_
      obtain ⟨x5, ex5⟩ : ∃ x : Int32, x = (l6 + 1) := ⟨_, rfl⟩
      have hf := bd_at hf ex5
      refine v_iinc (v := x5) (j := 7) (lv2 := [(6, .int x5), (8, .int s0), (0, .ref (ad l0)), (1, .int l1), (2, .int l2), (3, .int l3), (4, .int l4), (5, .int l5)]) C dX11_ask_99 rfl (by rw [ex5]; rfl) (by decide) rfl ?_
      refine v_goto (tgt := 28) C dX11_ask_102 (by decide) ?_
      cases hf
      refine v_sub [2, 3, 4, 5, 6, 7, 0] rfl ?_
      exact kb _ _ _ _ rfl hC
def fX11_ask_S28 (sh : Sh) (l0 : Nat) (l1 : Int32) (l2 : Int32) (l3 : Int32) (G : Hp) (l4 : Int32) (l5 : Int32) (l6 : Int32) : Option ((Hp × Int32 × Int32 × Int32) ⊕ ((Hp × Int32))) := (ldA sh G l0 23 1).bind fun a1 => (aI sh G a1 (G.1 l0 18)).bind fun v2 => if v2 ≤ l6 then some (.inr (G, l4)) else if l3 ≤ 0 then some (.inr (G, l4)) else bp (fX11_havingBy sh G l0 l1 l2 l6) fun r5 G6 => if r5 ≤ (l3 - r5) then fX11_ask_J74L28 sh G6 l0 l1 l2 l3 l4 l5 l6 (l3 - r5) else fX11_ask_J74L28 sh G6 l0 l1 l2 l3 l4 l5 l6 r5
set_option maxHeartbeats 4000000 in
theorem tX11_ask_S28 {E : EX} {ad : Nat → Nat} {sh : Sh} {G : Hp} {l0 : Nat} {l1 : Int32} {l2 : Int32} {l3 : Int32} {l4 : Int32} {l5 : Int32} {l6 : Int32} {o : (Hp × Int32 × Int32 × Int32) ⊕ ((Hp × Int32))} (C : Cx E RX11 cX11_ask 9 (some .int) 5 0 0) (hC : Cl sh G) (h_l0 : sh[l0]? = some (0, 11)) (hf : fX11_ask_S28 sh l0 l1 l2 l3 G l4 l5 l6 = some o) (kb : ∀ (G2 : Hp) (b_l4 : Int32) (b_l5 : Int32) (b_l6 : Int32), o = .inl (G2, b_l4, b_l5, b_l6) → Cl sh G2 → VV E 0 0 (wq (xT E) ad G2 sh) 28 [(0, .ref (ad l0)), (1, .int l1), (2, .int l2), (3, .int l3), (4, .int b_l4), (5, .int b_l5), (6, .int b_l6)] []) (kx105 : ∀ (G2 : Hp) (b_l4 : Int32), o = .inr (G2, b_l4) → Cl sh G2 → VV E 0 0 (wq (xT E) ad G2 sh) 105 [(0, .ref (ad l0)), (1, .int l1), (2, .int l2), (3, .int l3), (4, .int b_l4)] []) : VV E 0 0 (wq (xT E) ad G sh) 28 [(0, .ref (ad l0)), (1, .int l1), (2, .int l2), (3, .int l3), (4, .int l4), (5, .int l5), (6, .int l6)] [] := by
  unfold fX11_ask_S28 at hf
  refine v_iload C 6 dX11_ask_28 rfl ?_
  refine v_aload_n C 0 dX11_ask_30 rfl rfl ?_
  obtain ⟨a1, qa1, hf⟩ := bn hf
  refine v_getA C h_l0 fl_X11_46 qa1 dX11_ask_31 (fun h_a1 => ?_)
  refine v_aload_n C 0 dX11_ask_34 rfl rfl ?_
  refine v_getI C h_l0 fl_X11_257 dX11_ask_35 ?_
  obtain ⟨v2, qv2, hf⟩ := bn hf
  refine v_iald C h_a1 qv2 dX11_ask_38 ?_
  refine v_icmp_ge (tgt := 105) C dX11_ask_39 (by decide) (fun c3 => ?_) (fun c3 => ?_)
  · have hf := ip hf c3
    cases hf
    refine v_sub [0, 1, 2, 3, 4] rfl ?_
    exact kx105 _ _ rfl hC
  · have hf := im hf c3
    refine v_iload_n C 3 dX11_ask_42 rfl rfl ?_
    refine v_if_le (tgt := 105) C dX11_ask_43 (by decide) (fun c4 => ?_) (fun c4 => ?_)
    · have hf := ip hf c4
      cases hf
      refine v_sub [0, 1, 2, 3, 4] rfl ?_
      exact kx105 _ _ rfl hC
    · have hf := im hf c4
      refine v_aload_n C 0 dX11_ask_46 rfl rfl ?_
      refine v_iload_n C 1 dX11_ask_47 rfl rfl ?_
      refine v_iload_n C 2 dX11_ask_48 rfl rfl ?_
      refine v_iload C 6 dX11_ask_49 rfl ?_
      obtain ⟨r5, G6, qr5, hf⟩ := bpn hf
      refine v_callVi (As := [.int l1, .int l2, .int l6]) (rest := []) C (sX11_havingBy h_l0 qr5) cs_X11_524 (by decide) h_l0 rfl hC rfl rfl rfl (Nat.le_of_ble_eq_true rfl) ⟨Nat.le_refl _, Nat.le_refl _⟩ dX11_ask_51 (fun hC => ?_)
      refine v_istore (lv2 := [(7, .int r5), (0, .ref (ad l0)), (1, .int l1), (2, .int l2), (3, .int l3), (4, .int l4), (5, .int l5), (6, .int l6)]) C dX11_ask_54 (by decide) rfl ?_
      refine v_iload C 0 dX11_ask_56 rfl ?_
      refine v_iload_n C 4 dX11_ask_58 rfl rfl ?_
      refine v_iload C 0 dX11_ask_59 rfl ?_
      refine v_isub C dX11_ask_61 ?_
      refine v_icmp_le (tgt := 70) C dX11_ask_62 (by decide) (fun c7 => ?_) (fun c7 => ?_)
      · have hf := ip hf c7
        refine v_iload_n C 4 dX11_ask_70 rfl rfl ?_
        refine v_iload C 0 dX11_ask_71 rfl ?_
        refine v_isub C dX11_ask_73 ?_
        refine v_sub [1, 2, 3, 4, 5, 6, 7] rfl ?_
        exact tX11_ask_J74L28 C hC h_l0 hf kb kx105
      · have hf := im hf c7
        refine v_iload C 0 dX11_ask_65 rfl ?_
        refine v_goto (tgt := 74) C dX11_ask_67 (by decide) ?_
        refine v_sub [1, 2, 3, 4, 5, 6, 7] rfl ?_
        exact tX11_ask_J74L28 C hC h_l0 hf kb kx105
def fX11_ask (sh : Sh) (G : Hp) (l0 : Nat) (l1 : Int32) (l2 : Int32) : Option (Int32 × Hp) := (fX11_isKnown sh G l0 l1 l2).bind fun r1 => if r1 = 0 then some ((-1), G) else bp (fX11_went sh G l0 l1 l2) fun r3 G4 => (iter (fun s : Hp × Int32 × Int32 × Int32 => fX11_ask_S28 sh l0 l1 l2 r3 s.1 s.2.1 s.2.2.1 s.2.2.2) fuel ((G4, (-2), 0, 0) : Hp × Int32 × Int32 × Int32)).bind (fun u8 => bd u8.1 fun G6 => bd u8.2 fun x7 => some (x7, G6))
set_option maxHeartbeats 4000000 in
theorem tX11_ask {E : EX} {ad : Nat → Nat} {sh : Sh} {G : Hp} {l0 : Nat} {l1 : Int32} {l2 : Int32} {z : Int32 × Hp} (C : Cx E RX11 cX11_ask 9 (some .int) 5 0 0) (hC : Cl sh G) (h_l0 : sh[l0]? = some (0, 11)) (hf : fX11_ask sh G l0 l1 l2 = some z) (kr : RCi E cX11_ask ad sh (z.1) (z.2)) : VV E 0 0 (wq (xT E) ad G sh) 0 [(0, .ref (ad l0)), (1, .int l1), (2, .int l2)] [] := by
  unfold fX11_ask at hf
  refine v_aload_n C 0 dX11_ask_0 rfl rfl ?_
  refine v_iload_n C 1 dX11_ask_1 rfl rfl ?_
  refine v_iload_n C 2 dX11_ask_2 rfl rfl ?_
  obtain ⟨r1, qr1, hf⟩ := bn hf
  refine v_callVi (As := [.int l1, .int l2]) (rest := []) C (sX11_isKnown h_l0 qr1) cs_X11_515 (by decide) h_l0 rfl hC rfl rfl rfl (Nat.le_of_ble_eq_true rfl) ⟨Nat.le_refl _, Nat.le_refl _⟩ dX11_ask_3 (fun hC => ?_)
  refine v_if_ne (tgt := 11) C dX11_ask_6 (by decide) (fun c2 => ?_) (fun c2 => ?_)
  · have hf := im hf c2
    refine v_aload_n C 0 dX11_ask_11 rfl rfl ?_
    refine v_iload_n C 1 dX11_ask_12 rfl rfl ?_
    refine v_iload_n C 2 dX11_ask_13 rfl rfl ?_
    obtain ⟨r3, G4, qr3, hf⟩ := bpn hf
    refine v_callVi (As := [.int l1, .int l2]) (rest := []) C (sX11_went h_l0 qr3) cs_X11_521 (by decide) h_l0 rfl hC rfl rfl rfl (Nat.le_of_ble_eq_true rfl) ⟨Nat.le_refl _, Nat.le_refl _⟩ dX11_ask_14 (fun hC => ?_)
    refine v_istore_n (lv2 := [(3, .int r3), (0, .ref (ad l0)), (1, .int l1), (2, .int l2)]) C dX11_ask_17 rfl (by decide) rfl ?_
    refine v_bipush (v := (-2)) C dX11_ask_18 (by decide) ?_
    refine v_istore (lv2 := [(4, .int (-2)), (3, .int r3), (0, .ref (ad l0)), (1, .int l1), (2, .int l2)]) C dX11_ask_20 (by decide) rfl ?_
    refine v_iconst (v := 0) C dX11_ask_22 (by decide) ?_
    refine v_istore (lv2 := [(5, .int 0), (4, .int (-2)), (3, .int r3), (0, .ref (ad l0)), (1, .int l1), (2, .int l2)]) C dX11_ask_23 (by decide) rfl ?_
    refine v_iconst (v := 0) C dX11_ask_25 (by decide) ?_
    refine v_istore (lv2 := [(6, .int 0), (5, .int 0), (4, .int (-2)), (3, .int r3), (0, .ref (ad l0)), (1, .int l1), (2, .int l2)]) C dX11_ask_26 (by decide) rfl ?_
    obtain ⟨r5, qr5, hf⟩ := bn hf
    refine v_sub [4, 5, 6, 3, 2, 1, 0] rfl ?_
    refine iter_sound (P := (fun s : Hp × Int32 × Int32 × Int32 => Cl sh (s.1) → VV E 0 0 (wq (xT E) ad (s.1) sh) 28 [(0, .ref (ad l0)), (1, .int (l1)), (2, .int (l2)), (3, .int (r3)), (4, .int (s.2.1)), (5, .int (s.2.2.1)), (6, .int (s.2.2.2))] [])) (X := fun r => r = r5) (fun jsr5 jor5 hor5 jbr5 jxr5 hC => tX11_ask_S28 C hC h_l0 hor5 (fun _ _ _ _ e => jbr5 _ e) ?_) fuel _ r5 qr5 rfl hC
    · intro G6 x7 hu hC
      have e := jxr5 _ hu
      subst e
      have hf := bd_at hf (rfl : G6 = _)
      have hf := bd_at hf (rfl : x7 = _)
      refine v_iload C 4 dX11_ask_105 rfl ?_
      cases hf
      exact kr _ _ dX11_ask_107 hC
  · have hf := ip hf c2
    refine v_iconst (v := (-1)) C dX11_ask_9 (by decide) ?_
    cases hf
    exact kr _ _ dX11_ask_10 hC
theorem sX11_ask {l : Launch} {sh : Sh} {G : Hp} {l0 : Nat} {l1 : Int32} {l2 : Int32} {z : Int32 × Hp} (h_l0 : sh[l0]? = some (0, 11)) (hf : fX11_ask sh G l0 l1 l2 = some z) : MC l yX11_ask cX11_ask 9 (some .int) 5 0 0 sh sh G (z.2) (fun ad => [.ref (ad l0), .int l1, .int l2]) (fun _ => some (.int z.1)) := by
  refine MC_of rfl rfl (fun _ => Nat.le_of_ble_eq_true rfl) (fun E ad C hl hnm hC hQ => ?_)
  exact tX11_ask C hC h_l0 hf (fun pc lv hd hC => v_iret C hQ (fun _ _ => rfl) hC rfl hd)
def fX11_isBeing (sh : Sh) (G : Hp) (l0 : Nat) (l1 : Int32) : Option (Int32) := (ldA sh G l0 24 1).bind fun a1 => (aI sh G a1 (G.1 l0 18)).bind fun v2 => (fX11_in l1 0 (v2 - 1)).bind fun r3 => if ¬ (r3 = 0 ∨ r3 = 1) then none else some r3
set_option maxHeartbeats 4000000 in
theorem tX11_isBeing {E : EX} {ad : Nat → Nat} {sh : Sh} {G : Hp} {l0 : Nat} {l1 : Int32} {z : Int32} (C : Cx E RX11 cX11_isBeing 2 (some .boolean) 2 0 0) (hC : Cl sh G) (h_l0 : sh[l0]? = some (0, 11)) (hf : fX11_isBeing sh G l0 l1 = some z) (kr : RCz E cX11_isBeing ad sh z G) : VV E 0 0 (wq (xT E) ad G sh) 0 [(0, .ref (ad l0)), (1, .int l1)] [] := by
  unfold fX11_isBeing at hf
  refine v_iload_n C 1 dX11_isBeing_0 rfl rfl ?_
  refine v_iconst (v := 0) C dX11_isBeing_1 (by decide) ?_
  refine v_aload_n C 0 dX11_isBeing_2 rfl rfl ?_
  obtain ⟨a1, qa1, hf⟩ := bn hf
  refine v_getA C h_l0 fl_X11_49 qa1 dX11_isBeing_3 (fun h_a1 => ?_)
  refine v_aload_n C 0 dX11_isBeing_6 rfl rfl ?_
  refine v_getI C h_l0 fl_X11_257 dX11_isBeing_7 ?_
  obtain ⟨v2, qv2, hf⟩ := bn hf
  refine v_iald C h_a1 qv2 dX11_isBeing_10 ?_
  refine v_iconst (v := 1) C dX11_isBeing_11 (by decide) ?_
  refine v_isub C dX11_isBeing_12 ?_
  obtain ⟨r3, qr3, hf⟩ := bn hf
  refine v_callSi (As := [.int l1, .int 0, .int (v2 - 1)]) (rest := []) C (sX11_in  qr3) cs_X11_370 (by decide) hC rfl rfl rfl (Nat.le_of_ble_eq_true rfl) ⟨Nat.le_refl _, Nat.le_refl _⟩ dX11_isBeing_13 (fun hC => ?_)
  obtain ⟨hz4, hf⟩ := iz hf
  cases hf
  exact kr _ _ dX11_isBeing_16 (Classical.not_not.mp hz4) hC
theorem sX11_isBeing {l : Launch} {sh : Sh} {G : Hp} {l0 : Nat} {l1 : Int32} {z : Int32} (h_l0 : sh[l0]? = some (0, 11)) (hf : fX11_isBeing sh G l0 l1 = some z) : MC l yX11_isBeing cX11_isBeing 2 (some .boolean) 2 0 0 sh sh G G (fun ad => [.ref (ad l0), .int l1]) (fun _ => some (.int z)) := by
  refine MC_of rfl rfl (fun _ => Nat.le_of_ble_eq_true rfl) (fun E ad C hl hnm hC hQ => ?_)
  exact tX11_isBeing C hC h_l0 hf (fun pc lv hd hz hC => v_zret C hQ (fun _ _ => rfl) hC rfl hz hd)
def fX11_bridgesSo_S4 (sh : Sh) (l0 : Nat) (l1 : Int32) (G : Hp) (l2 : Int32) (l3 : Int32) : Option ((Int32 × Int32) ⊕ ((Int32))) := (ldA sh G l0 31 1).bind fun a1 => (aI sh G a1 (G.1 l0 18)).bind fun v2 => if v2 ≤ l3 then some (.inr l2) else (ldA sh G l0 59 1).bind fun a4 => (aI sh G a4 ((4 : Int32) + l3)).bind fun v5 => if v5 = l1 then bd ((l2 ||| ((1 : Int32) <<< (l3 &&& 31))) : Int32) fun x8 => bd ((l3 + 1) : Int32) fun x9 => some (.inl (x8, x9)) else bd ((l3 + 1) : Int32) fun x7 => some (.inl (l2, x7))
set_option maxHeartbeats 4000000 in
theorem tX11_bridgesSo_S4 {E : EX} {ad : Nat → Nat} {sh : Sh} {G : Hp} {l0 : Nat} {l1 : Int32} {l2 : Int32} {l3 : Int32} {o : (Int32 × Int32) ⊕ ((Int32))} (C : Cx E RX11 cX11_bridgesSo 4 (some .int) 1 0 0) (hC : Cl sh G) (h_l0 : sh[l0]? = some (0, 11)) (hf : fX11_bridgesSo_S4 sh l0 l1 G l2 l3 = some o) (kb : ∀ (b_l2 : Int32) (b_l3 : Int32), o = .inl (b_l2, b_l3) → VV E 0 0 (wq (xT E) ad G sh) 4 [(0, .ref (ad l0)), (1, .int l1), (2, .int b_l2), (3, .int b_l3)] []) (kx41 : ∀ (b_l2 : Int32), o = .inr b_l2 → VV E 0 0 (wq (xT E) ad G sh) 41 [(0, .ref (ad l0)), (1, .int l1), (2, .int b_l2)] []) : VV E 0 0 (wq (xT E) ad G sh) 4 [(0, .ref (ad l0)), (1, .int l1), (2, .int l2), (3, .int l3)] [] := by
  unfold fX11_bridgesSo_S4 at hf
  refine v_iload_n C 3 dX11_bridgesSo_4 rfl rfl ?_
  refine v_aload_n C 0 dX11_bridgesSo_5 rfl rfl ?_
  obtain ⟨a1, qa1, hf⟩ := bn hf
  refine v_getA C h_l0 fl_X11_70 qa1 dX11_bridgesSo_6 (fun h_a1 => ?_)
  refine v_aload_n C 0 dX11_bridgesSo_9 rfl rfl ?_
  refine v_getI C h_l0 fl_X11_257 dX11_bridgesSo_10 ?_
  obtain ⟨v2, qv2, hf⟩ := bn hf
  refine v_iald C h_a1 qv2 dX11_bridgesSo_13 ?_
  refine v_icmp_ge (tgt := 41) C dX11_bridgesSo_14 (by decide) (fun c3 => ?_) (fun c3 => ?_)
  · have hf := ip hf c3
    cases hf
    refine v_sub [0, 1, 2] rfl ?_
    exact kx41 _ rfl
  · have hf := im hf c3
    refine v_aload_n C 0 dX11_bridgesSo_17 rfl rfl ?_
    obtain ⟨a4, qa4, hf⟩ := bn hf
    refine v_getA C h_l0 fl_X11_137 qa4 dX11_bridgesSo_18 (fun h_a4 => ?_)
    refine v_iconst (v := 4) C dX11_bridgesSo_21 (by decide) ?_
    refine v_iload_n C 3 dX11_bridgesSo_22 rfl rfl ?_
    refine v_iadd C dX11_bridgesSo_23 ?_
    obtain ⟨v5, qv5, hf⟩ := bn hf
    refine v_iald C h_a4 qv5 dX11_bridgesSo_24 ?_
    refine v_iload_n C 1 dX11_bridgesSo_25 rfl rfl ?_
    refine v_icmp_ne (tgt := 35) C dX11_bridgesSo_26 (by decide) (fun c6 => ?_) (fun c6 => ?_)
    · have hf := im hf c6
      obtain ⟨x7, ex7⟩ : ∃ x : Int32, x = (l3 + 1) := ⟨_, rfl⟩
      have hf := bd_at hf ex7
      refine v_iinc (v := x7) (j := 3) (lv2 := [(3, .int x7), (0, .ref (ad l0)), (1, .int l1), (2, .int l2)]) C dX11_bridgesSo_35 rfl (by rw [ex7]; rfl) (by decide) rfl ?_
      refine v_goto (tgt := 4) C dX11_bridgesSo_38 (by decide) ?_
      cases hf
      refine v_sub [1, 2, 3, 0] rfl ?_
      exact kb _ _ rfl
    · have hf := ip hf c6
      refine v_iload_n C 2 dX11_bridgesSo_29 rfl rfl ?_
      refine v_iconst (v := 1) C dX11_bridgesSo_30 (by decide) ?_
      refine v_iload_n C 3 dX11_bridgesSo_31 rfl rfl ?_
      refine v_ishl C dX11_bridgesSo_32 ?_
      refine v_ior C dX11_bridgesSo_33 ?_
      refine v_topi (fun x8 ex8 => ?_)
      have hf := bd_at hf ex8
      refine v_istore_n (lv2 := [(2, .int x8), (0, .ref (ad l0)), (1, .int l1), (3, .int l3)]) C dX11_bridgesSo_34 rfl (by decide) rfl ?_
      obtain ⟨x9, ex9⟩ : ∃ x : Int32, x = (l3 + 1) := ⟨_, rfl⟩
      have hf := bd_at hf ex9
      refine v_iinc (v := x9) (j := 3) (lv2 := [(3, .int x9), (2, .int x8), (0, .ref (ad l0)), (1, .int l1)]) C dX11_bridgesSo_35 rfl (by rw [ex9]; rfl) (by decide) rfl ?_
      refine v_goto (tgt := 4) C dX11_bridgesSo_38 (by decide) ?_
      cases hf
      refine v_sub [2, 3, 1, 0] rfl ?_
      exact kb _ _ rfl
def fX11_bridgesSo (sh : Sh) (G : Hp) (l0 : Nat) (l1 : Int32) : Option (Int32) := (iter (fun s : Int32 × Int32 => fX11_bridgesSo_S4 sh l0 l1 G s.1 s.2) fuel ((0, 0) : Int32 × Int32)).bind (fun u3 => bd u3 fun x2 => some x2)
set_option maxHeartbeats 4000000 in
theorem tX11_bridgesSo {E : EX} {ad : Nat → Nat} {sh : Sh} {G : Hp} {l0 : Nat} {l1 : Int32} {z : Int32} (C : Cx E RX11 cX11_bridgesSo 4 (some .int) 1 0 0) (hC : Cl sh G) (h_l0 : sh[l0]? = some (0, 11)) (hf : fX11_bridgesSo sh G l0 l1 = some z) (kr : RCi E cX11_bridgesSo ad sh z G) : VV E 0 0 (wq (xT E) ad G sh) 0 [(0, .ref (ad l0)), (1, .int l1)] [] := by
  unfold fX11_bridgesSo at hf
  refine v_iconst (v := 0) C dX11_bridgesSo_0 (by decide) ?_
  refine v_istore_n (lv2 := [(2, .int 0), (0, .ref (ad l0)), (1, .int l1)]) C dX11_bridgesSo_1 rfl (by decide) rfl ?_
  refine v_iconst (v := 0) C dX11_bridgesSo_2 (by decide) ?_
  refine v_istore_n (lv2 := [(3, .int 0), (2, .int 0), (0, .ref (ad l0)), (1, .int l1)]) C dX11_bridgesSo_3 rfl (by decide) rfl ?_
  obtain ⟨r1, qr1, hf⟩ := bn hf
  refine v_sub [2, 3, 1, 0] rfl ?_
  refine iter_sound (P := (fun s : Int32 × Int32 => VV E 0 0 (wq (xT E) ad (G) sh) 4 [(0, .ref (ad l0)), (1, .int (l1)), (2, .int (s.1)), (3, .int (s.2))] [])) (X := fun r => r = r1) (fun jsr1 jor1 hor1 jbr1 jxr1 => tX11_bridgesSo_S4 C hC h_l0 hor1 (fun _ _ e => jbr1 _ e) ?_) fuel _ r1 qr1 rfl
  · intro x2 hu
    have e := jxr1 _ hu
    subst e
    have hf := bd_at hf (rfl : x2 = _)
    refine v_iload_n C 2 dX11_bridgesSo_41 rfl rfl ?_
    cases hf
    exact kr _ _ dX11_bridgesSo_42 hC
theorem sX11_bridgesSo {l : Launch} {sh : Sh} {G : Hp} {l0 : Nat} {l1 : Int32} {z : Int32} (h_l0 : sh[l0]? = some (0, 11)) (hf : fX11_bridgesSo sh G l0 l1 = some z) : MC l yX11_bridgesSo cX11_bridgesSo 4 (some .int) 1 0 0 sh sh G G (fun ad => [.ref (ad l0), .int l1]) (fun _ => some (.int z)) := by
  refine MC_of rfl rfl (fun _ => Nat.le_of_ble_eq_true rfl) (fun E ad C hl hnm hC hQ => ?_)
  exact tX11_bridgesSo C hC h_l0 hf (fun pc lv hd hC => v_iret C hQ (fun _ _ => rfl) hC rfl hd)
def fX11_bits_S4 (l0 : Int32) (l1 : Int32) (l2 : Int32) : Option ((Int32 × Int32) ⊕ ((Int32))) := if 8 ≤ l2 then some (.inr l1) else bd ((l1 + ((l0 >>> (l2 &&& 31)) &&& 1)) : Int32) fun x2 => bd ((l2 + 1) : Int32) fun x3 => some (.inl (x2, x3))
set_option maxHeartbeats 4000000 in
theorem tX11_bits_S4 {E : EX} {ad : Nat → Nat} {sh : Sh} {G : Hp} {l0 : Int32} {l1 : Int32} {l2 : Int32} {o : (Int32 × Int32) ⊕ ((Int32))} (C : Cx E RX11 cX11_bits 3 (some .int) 1 0 0) (hC : Cl sh G) (hf : fX11_bits_S4 l0 l1 l2 = some o) (kb : ∀ (b_l1 : Int32) (b_l2 : Int32), o = .inl (b_l1, b_l2) → VV E 0 0 (wq (xT E) ad G sh) 4 [(0, .int l0), (1, .int b_l1), (2, .int b_l2)] []) (kx24 : ∀ (b_l1 : Int32), o = .inr b_l1 → VV E 0 0 (wq (xT E) ad G sh) 24 [(0, .int l0), (1, .int b_l1)] []) : VV E 0 0 (wq (xT E) ad G sh) 4 [(0, .int l0), (1, .int l1), (2, .int l2)] [] := by
  unfold fX11_bits_S4 at hf
  refine v_iload_n C 2 dX11_bits_4 rfl rfl ?_
  refine v_bipush (v := 8) C dX11_bits_5 (by decide) ?_
  refine v_icmp_ge (tgt := 24) C dX11_bits_7 (by decide) (fun c1 => ?_) (fun c1 => ?_)
  · have hf := ip hf c1
    cases hf
    refine v_sub [0, 1] rfl ?_
    exact kx24 _ rfl
  · have hf := im hf c1
    refine v_iload_n C 1 dX11_bits_10 rfl rfl ?_
    refine v_iload_n C 0 dX11_bits_11 rfl rfl ?_
    refine v_iload_n C 2 dX11_bits_12 rfl rfl ?_
    refine v_ishr C dX11_bits_13 ?_
    refine v_iconst (v := 1) C dX11_bits_14 (by decide) ?_
    refine v_iand C dX11_bits_15 ?_
    refine v_iadd C dX11_bits_16 ?_
    refine v_topi (fun x2 ex2 => ?_)
    have hf := bd_at hf ex2
    refine v_istore_n (lv2 := [(1, .int x2), (0, .int l0), (2, .int l2)]) C dX11_bits_17 rfl (by decide) rfl ?_
    obtain ⟨x3, ex3⟩ : ∃ x : Int32, x = (l2 + 1) := ⟨_, rfl⟩
    have hf := bd_at hf ex3
    refine v_iinc (v := x3) (j := 2) (lv2 := [(2, .int x3), (1, .int x2), (0, .int l0)]) C dX11_bits_18 rfl (by rw [ex3]; rfl) (by decide) rfl ?_
    refine v_goto (tgt := 4) C dX11_bits_21 (by decide) ?_
    cases hf
    refine v_sub [2, 1, 0] rfl ?_
    exact kb _ _ rfl
def fX11_bits (l0 : Int32) : Option (Int32) := (iter (fun s : Int32 × Int32 => fX11_bits_S4 l0  s.1 s.2) fuel ((0, 0) : Int32 × Int32)).bind (fun u3 => bd u3 fun x2 => some x2)
set_option maxHeartbeats 4000000 in
theorem tX11_bits {E : EX} {ad : Nat → Nat} {sh : Sh} {G : Hp} {l0 : Int32} {z : Int32} (C : Cx E RX11 cX11_bits 3 (some .int) 1 0 0) (hC : Cl sh G) (hf : fX11_bits l0 = some z) (kr : RCi E cX11_bits ad sh z G) : VV E 0 0 (wq (xT E) ad G sh) 0 [(0, .int l0)] [] := by
  unfold fX11_bits at hf
  refine v_iconst (v := 0) C dX11_bits_0 (by decide) ?_
  refine v_istore_n (lv2 := [(1, .int 0), (0, .int l0)]) C dX11_bits_1 rfl (by decide) rfl ?_
  refine v_iconst (v := 0) C dX11_bits_2 (by decide) ?_
  refine v_istore_n (lv2 := [(2, .int 0), (1, .int 0), (0, .int l0)]) C dX11_bits_3 rfl (by decide) rfl ?_
  obtain ⟨r1, qr1, hf⟩ := bn hf
  refine v_sub [2, 1, 0] rfl ?_
  refine iter_sound (P := (fun s : Int32 × Int32 => VV E 0 0 (wq (xT E) ad (G) sh) 4 [(0, .int (l0)), (1, .int (s.1)), (2, .int (s.2))] [])) (X := fun r => r = r1) (fun jsr1 jor1 hor1 jbr1 jxr1 => tX11_bits_S4 C hC hor1 (fun _ _ e => jbr1 _ e) ?_) fuel _ r1 qr1 rfl
  · intro x2 hu
    have e := jxr1 _ hu
    subst e
    have hf := bd_at hf (rfl : x2 = _)
    refine v_iload_n C 1 dX11_bits_24 rfl rfl ?_
    cases hf
    exact kr _ _ dX11_bits_25 hC
theorem sX11_bits {l : Launch} {sh : Sh} {G : Hp} {l0 : Int32} {z : Int32} (hf : fX11_bits l0 = some z) : MC l yX11_bits cX11_bits 3 (some .int) 1 0 0 sh sh G G (fun ad => [.int l0]) (fun _ => some (.int z)) := by
  refine MC_of rfl rfl (fun _ => Nat.le_of_ble_eq_true rfl) (fun E ad C hl hnm hC hQ => ?_)
  exact tX11_bits C hC hf (fun pc lv hd hC => v_iret C hQ (fun _ _ => rfl) hC rfl hd)
def fX11_looks (sh : Sh) (G : Hp) (l0 : Nat) (l1 : Int32) : Option (Hp) := (ldA sh G l0 55 1).bind fun a1 => (ldA sh G l0 59 1).bind fun a2 => (aI sh G a2 l1).bind fun v3 => (asI sh G a1 0 v3).bind fun G4 => (ldA sh G4 l0 55 1).bind fun a5 => (ldA sh G4 l0 33 1).bind fun a6 => (aI sh G4 a6 (((4 : Int32) * (G4.1 l0 18)) + l1)).bind fun v7 => (asI sh G4 a5 1 v7).bind fun G8 => (ldA sh G8 l0 55 1).bind fun a9 => (ldA sh G8 l0 59 1).bind fun a10 => (aI sh G8 a10 23).bind fun v11 => (asI sh G8 a9 2 v11).bind fun G12 => (ldA sh G12 l0 55 1).bind fun a13 => (ldA sh G12 l0 59 1).bind fun a14 => (aI sh G12 a14 ((8 : Int32) + l1)).bind fun v15 => (asI sh G12 a13 3 v15).bind fun G16 => (ldA sh G16 l0 55 1).bind fun a17 => (asI sh G16 a17 4 l1).bind fun G18 => (ldA sh G18 l0 55 1).bind fun a19 => (asI sh G18 a19 5 0).bind fun G20 => (ldA sh G20 l0 55 1).bind fun a21 => (asI sh G20 a21 6 0).bind fun G22 => (ldA sh G22 l0 55 1).bind fun a23 => (fX11_bridgesSo sh G22 l0 1).bind fun r24 => (fX11_bits r24).bind fun r25 => (asI sh G22 a23 7 r25).bind fun G26 => (ldA sh G26 l0 55 1).bind fun a27 => (ldA sh G26 l0 59 1).bind fun a28 => (aI sh G26 a28 21).bind fun v29 => (asI sh G26 a27 8 v29).bind fun G30 => some G30
set_option maxHeartbeats 4000000 in
theorem tX11_looks {E : EX} {ad : Nat → Nat} {sh : Sh} {G : Hp} {l0 : Nat} {l1 : Int32} {z : Hp} (C : Cx E RX11 cX11_looks 2 none 2 0 0) (hC : Cl sh G) (h_l0 : sh[l0]? = some (0, 11)) (hf : fX11_looks sh G l0 l1 = some z) (kr : RCv E cX11_looks ad sh z) : VV E 0 0 (wq (xT E) ad G sh) 0 [(0, .ref (ad l0)), (1, .int l1)] [] := by
  unfold fX11_looks at hf
  refine v_aload_n C 0 dX11_looks_0 rfl rfl ?_
  obtain ⟨a1, qa1, hf⟩ := bn hf
  refine v_getA C h_l0 fl_X11_128 qa1 dX11_looks_1 (fun h_a1 => ?_)
  refine v_iconst (v := 0) C dX11_looks_4 (by decide) ?_
  refine v_aload_n C 0 dX11_looks_5 rfl rfl ?_
  obtain ⟨a2, qa2, hf⟩ := bn hf
  refine v_getA C h_l0 fl_X11_137 qa2 dX11_looks_6 (fun h_a2 => ?_)
  refine v_iload_n C 1 dX11_looks_9 rfl rfl ?_
  obtain ⟨v3, qv3, hf⟩ := bn hf
  refine v_iald C h_a2 qv3 dX11_looks_10 ?_
  obtain ⟨G4, qG4, hf⟩ := bn hf
  refine v_iast C h_a1 qG4 hC dX11_looks_11 (fun hC => ?_)
  refine v_aload_n C 0 dX11_looks_12 rfl rfl ?_
  obtain ⟨a5, qa5, hf⟩ := bn hf
  refine v_getA C h_l0 fl_X11_128 qa5 dX11_looks_13 (fun h_a5 => ?_)
  refine v_iconst (v := 1) C dX11_looks_16 (by decide) ?_
  refine v_aload_n C 0 dX11_looks_17 rfl rfl ?_
  obtain ⟨a6, qa6, hf⟩ := bn hf
  refine v_getA C h_l0 fl_X11_76 qa6 dX11_looks_18 (fun h_a6 => ?_)
  refine v_iconst (v := 4) C dX11_looks_21 (by decide) ?_
  refine v_aload_n C 0 dX11_looks_22 rfl rfl ?_
  refine v_getI C h_l0 fl_X11_257 dX11_looks_23 ?_
  refine v_imul C dX11_looks_26 ?_
  refine v_iload_n C 1 dX11_looks_27 rfl rfl ?_
  refine v_iadd C dX11_looks_28 ?_
  obtain ⟨v7, qv7, hf⟩ := bn hf
  refine v_iald C h_a6 qv7 dX11_looks_29 ?_
  obtain ⟨G8, qG8, hf⟩ := bn hf
  refine v_iast C h_a5 qG8 hC dX11_looks_30 (fun hC => ?_)
  refine v_aload_n C 0 dX11_looks_31 rfl rfl ?_
  obtain ⟨a9, qa9, hf⟩ := bn hf
  refine v_getA C h_l0 fl_X11_128 qa9 dX11_looks_32 (fun h_a9 => ?_)
  refine v_iconst (v := 2) C dX11_looks_35 (by decide) ?_
  refine v_aload_n C 0 dX11_looks_36 rfl rfl ?_
  obtain ⟨a10, qa10, hf⟩ := bn hf
  refine v_getA C h_l0 fl_X11_137 qa10 dX11_looks_37 (fun h_a10 => ?_)
  refine v_bipush (v := 23) C dX11_looks_40 (by decide) ?_
  obtain ⟨v11, qv11, hf⟩ := bn hf
  refine v_iald C h_a10 qv11 dX11_looks_42 ?_
  obtain ⟨G12, qG12, hf⟩ := bn hf
  refine v_iast C h_a9 qG12 hC dX11_looks_43 (fun hC => ?_)
  refine v_aload_n C 0 dX11_looks_44 rfl rfl ?_
  obtain ⟨a13, qa13, hf⟩ := bn hf
  refine v_getA C h_l0 fl_X11_128 qa13 dX11_looks_45 (fun h_a13 => ?_)
  refine v_iconst (v := 3) C dX11_looks_48 (by decide) ?_
  refine v_aload_n C 0 dX11_looks_49 rfl rfl ?_
  obtain ⟨a14, qa14, hf⟩ := bn hf
  refine v_getA C h_l0 fl_X11_137 qa14 dX11_looks_50 (fun h_a14 => ?_)
  refine v_bipush (v := 8) C dX11_looks_53 (by decide) ?_
  refine v_iload_n C 1 dX11_looks_55 rfl rfl ?_
  refine v_iadd C dX11_looks_56 ?_
  obtain ⟨v15, qv15, hf⟩ := bn hf
  refine v_iald C h_a14 qv15 dX11_looks_57 ?_
  obtain ⟨G16, qG16, hf⟩ := bn hf
  refine v_iast C h_a13 qG16 hC dX11_looks_58 (fun hC => ?_)
  refine v_aload_n C 0 dX11_looks_59 rfl rfl ?_
  obtain ⟨a17, qa17, hf⟩ := bn hf
  refine v_getA C h_l0 fl_X11_128 qa17 dX11_looks_60 (fun h_a17 => ?_)
  refine v_iconst (v := 4) C dX11_looks_63 (by decide) ?_
  refine v_iload_n C 1 dX11_looks_64 rfl rfl ?_
  obtain ⟨G18, qG18, hf⟩ := bn hf
  refine v_iast C h_a17 qG18 hC dX11_looks_65 (fun hC => ?_)
  refine v_aload_n C 0 dX11_looks_66 rfl rfl ?_
  obtain ⟨a19, qa19, hf⟩ := bn hf
  refine v_getA C h_l0 fl_X11_128 qa19 dX11_looks_67 (fun h_a19 => ?_)
  refine v_iconst (v := 5) C dX11_looks_70 (by decide) ?_
  refine v_iconst (v := 0) C dX11_looks_71 (by decide) ?_
  obtain ⟨G20, qG20, hf⟩ := bn hf
  refine v_iast C h_a19 qG20 hC dX11_looks_72 (fun hC => ?_)
  refine v_aload_n C 0 dX11_looks_73 rfl rfl ?_
  obtain ⟨a21, qa21, hf⟩ := bn hf
  refine v_getA C h_l0 fl_X11_128 qa21 dX11_looks_74 (fun h_a21 => ?_)
  refine v_bipush (v := 6) C dX11_looks_77 (by decide) ?_
  refine v_iconst (v := 0) C dX11_looks_79 (by decide) ?_
  obtain ⟨G22, qG22, hf⟩ := bn hf
  refine v_iast C h_a21 qG22 hC dX11_looks_80 (fun hC => ?_)
  refine v_aload_n C 0 dX11_looks_81 rfl rfl ?_
  obtain ⟨a23, qa23, hf⟩ := bn hf
  refine v_getA C h_l0 fl_X11_128 qa23 dX11_looks_82 (fun h_a23 => ?_)
  refine v_bipush (v := 7) C dX11_looks_85 (by decide) ?_
  refine v_aload_n C 0 dX11_looks_87 rfl rfl ?_
  refine v_iconst (v := 1) C dX11_looks_88 (by decide) ?_
  obtain ⟨r24, qr24, hf⟩ := bn hf
  refine v_callVi (As := [.int 1]) (rest := [.int 7, .ref (ad a23)]) C (sX11_bridgesSo h_l0 qr24) cs_X11_384 (by decide) h_l0 rfl hC rfl rfl rfl (Nat.le_of_ble_eq_true rfl) ⟨Nat.le_refl _, Nat.le_refl _⟩ dX11_looks_89 (fun hC => ?_)
  obtain ⟨r25, qr25, hf⟩ := bn hf
  refine v_callSi (As := [.int r24]) (rest := [.int 7, .ref (ad a23)]) C (sX11_bits  qr25) cs_X11_387 (by decide) hC rfl rfl rfl (Nat.le_of_ble_eq_true rfl) ⟨Nat.le_refl _, Nat.le_refl _⟩ dX11_looks_92 (fun hC => ?_)
  obtain ⟨G26, qG26, hf⟩ := bn hf
  refine v_iast C h_a23 qG26 hC dX11_looks_95 (fun hC => ?_)
  refine v_aload_n C 0 dX11_looks_96 rfl rfl ?_
  obtain ⟨a27, qa27, hf⟩ := bn hf
  refine v_getA C h_l0 fl_X11_128 qa27 dX11_looks_97 (fun h_a27 => ?_)
  refine v_bipush (v := 8) C dX11_looks_100 (by decide) ?_
  refine v_aload_n C 0 dX11_looks_102 rfl rfl ?_
  obtain ⟨a28, qa28, hf⟩ := bn hf
  refine v_getA C h_l0 fl_X11_137 qa28 dX11_looks_103 (fun h_a28 => ?_)
  refine v_bipush (v := 21) C dX11_looks_106 (by decide) ?_
  obtain ⟨v29, qv29, hf⟩ := bn hf
  refine v_iald C h_a28 qv29 dX11_looks_108 ?_
  obtain ⟨G30, qG30, hf⟩ := bn hf
  refine v_iast C h_a27 qG30 hC dX11_looks_109 (fun hC => ?_)
  cases hf
  exact kr _ _ dX11_looks_110 hC
theorem sX11_looks {l : Launch} {sh : Sh} {G : Hp} {l0 : Nat} {l1 : Int32} {z : Hp} (h_l0 : sh[l0]? = some (0, 11)) (hf : fX11_looks sh G l0 l1 = some z) : MC l yX11_looks cX11_looks 2 none 2 0 0 sh sh G z (fun ad => [.ref (ad l0), .int l1]) (fun _ => none) := by
  refine MC_of rfl rfl (fun _ => Nat.le_of_ble_eq_true rfl) (fun E ad C hl hnm hC hQ => ?_)
  exact tX11_looks C hC h_l0 hf (fun pc lv hd hC => v_vret C hQ (fun _ _ => rfl) hC rfl hd)
def fX11_termOf_J104L5 (sh : Sh) (G : Hp) (l0 : Nat) (l2 : Int32) (l3 : Int32) (l4 : Int32) (l5 : Int32) (l6 : Int32) (l7 : Int32) : Option ((Hp × Int32 × Int32) ⊕ ((Hp) ⊕ (Hp))) := (ldA sh G l0 56 1).bind fun a1 => if l5 = 2 then (asI sh G a1 (l3 - 1) (l6 + l7)).bind fun G12 => bd ((l4 + 1) : Int32) fun x13 => some (.inl (G12, l3, x13)) else if l5 = 3 then (asI sh G a1 (l3 - 1) (l6 - l7)).bind fun G10 => bd ((l4 + 1) : Int32) fun x11 => some (.inl (G10, l3, x11)) else if l5 = 4 then (asI sh G a1 (l3 - 1) (l6 * l7)).bind fun G8 => bd ((l4 + 1) : Int32) fun x9 => some (.inl (G8, l3, x9)) else if l7 = 0 then none else (asI sh G a1 (l3 - 1) (l6 / l7)).bind fun G6 => bd ((l4 + 1) : Int32) fun x7 => some (.inl (G6, l3, x7))
set_option maxHeartbeats 4000000 in
theorem tX11_termOf_J104L5 {E : EX} {ad : Nat → Nat} {sh : Sh} {G : Hp} {l0 : Nat} {l2 : Int32} {l3 : Int32} {l4 : Int32} {l5 : Int32} {l6 : Int32} {l7 : Int32} {o : (Hp × Int32 × Int32) ⊕ ((Hp) ⊕ (Hp))} (C : Cx E RX11 cX11_termOf 8 (some .int) 1 0 0) (hC : Cl sh G) (h_l0 : sh[l0]? = some (0, 11)) (hf : fX11_termOf_J104L5 sh G l0 l2 l3 l4 l5 l6 l7 = some o) (kb : ∀ (G2 : Hp) (b_l3 : Int32) (b_l4 : Int32), o = .inl (G2, b_l3, b_l4) → Cl sh G2 → VV E 0 0 (wq (xT E) ad G2 sh) 5 [(0, .ref (ad l0)), (2, .int l2), (3, .int b_l3), (4, .int b_l4)] []) (kx165 : ∀ (G2 : Hp), o = .inr (.inl G2) → Cl sh G2 → VV E 0 0 (wq (xT E) ad G2 sh) 165 [(0, .ref (ad l0)), (2, .int l2)] []) (kx97 : ∀ (G2 : Hp), o = .inr (.inr G2) → Cl sh G2 → VV E 0 0 (wq (xT E) ad G2 sh) 97 [(0, .ref (ad l0)), (2, .int l2)] []) : VV E 0 0 (wq (xT E) ad G sh) 104 [(0, .ref (ad l0)), (2, .int l2), (3, .int l3), (4, .int l4), (5, .int l5), (6, .int l6), (7, .int l7)] [] := by
  unfold fX11_termOf_J104L5 at hf
  refine v_aload_n C 0 dX11_termOf_104 rfl rfl ?_
  obtain ⟨a1, qa1, hf⟩ := bn hf
  refine v_getA C h_l0 fl_X11_131 qa1 dX11_termOf_105 (fun h_a1 => ?_)
  refine v_iload_n C 2 dX11_termOf_108 rfl rfl ?_
  refine v_iconst (v := 1) C dX11_termOf_109 (by decide) ?_
  refine v_isub C dX11_termOf_110 ?_
  refine v_iload C 4 dX11_termOf_111 rfl ?_
  refine v_iconst (v := 2) C dX11_termOf_113 (by decide) ?_
  refine v_icmp_ne (tgt := 125) C dX11_termOf_114 (by decide) (fun c2 => ?_) (fun c2 => ?_)
  · have hf := im hf c2
    refine v_iload C 4 dX11_termOf_125 rfl ?_
    refine v_iconst (v := 3) C dX11_termOf_127 (by decide) ?_
    refine v_icmp_ne (tgt := 139) C dX11_termOf_128 (by decide) (fun c3 => ?_) (fun c3 => ?_)
    · have hf := im hf c3
      refine v_iload C 4 dX11_termOf_139 rfl ?_
      refine v_iconst (v := 4) C dX11_termOf_141 (by decide) ?_
      refine v_icmp_ne (tgt := 153) C dX11_termOf_142 (by decide) (fun c4 => ?_) (fun c4 => ?_)
      · have hf := im hf c4
        refine v_iload C 5 dX11_termOf_153 rfl ?_
        refine v_iload C 6 dX11_termOf_155 rfl ?_
        obtain ⟨hz5, hf⟩ := iz hf
        refine v_idiv C dX11_termOf_157 hz5 ?_
        obtain ⟨G6, qG6, hf⟩ := bn hf
        refine v_iast C h_a1 qG6 hC dX11_termOf_158 (fun hC => ?_)
        obtain ⟨x7, ex7⟩ : ∃ x : Int32, x = (l4 + 1) := ⟨_, rfl⟩
        have hf := bd_at hf ex7
        refine v_iinc (v := x7) (j := 3) (lv2 := [(4, .int x7), (0, .ref (ad l0)), (2, .int l2), (3, .int l3), (5, .int l5), (6, .int l6), (7, .int l7)]) C dX11_termOf_159 rfl (by rw [ex7]; rfl) (by decide) rfl ?_
        refine v_goto (tgt := 5) C dX11_termOf_162 (by decide) ?_
        cases hf
        refine v_sub [1, 2, 3, 0] rfl ?_
        exact kb _ _ _ rfl hC
      · have hf := ip hf c4
        refine v_iload C 5 dX11_termOf_145 rfl ?_
        refine v_iload C 6 dX11_termOf_147 rfl ?_
        refine v_imul C dX11_termOf_149 ?_
        refine v_goto (tgt := 158) C dX11_termOf_150 (by decide) ?_
        obtain ⟨G8, qG8, hf⟩ := bn hf
        refine v_iast C h_a1 qG8 hC dX11_termOf_158 (fun hC => ?_)
        obtain ⟨x9, ex9⟩ : ∃ x : Int32, x = (l4 + 1) := ⟨_, rfl⟩
        have hf := bd_at hf ex9
        refine v_iinc (v := x9) (j := 3) (lv2 := [(4, .int x9), (0, .ref (ad l0)), (2, .int l2), (3, .int l3), (5, .int l5), (6, .int l6), (7, .int l7)]) C dX11_termOf_159 rfl (by rw [ex9]; rfl) (by decide) rfl ?_
        refine v_goto (tgt := 5) C dX11_termOf_162 (by decide) ?_
        cases hf
        refine v_sub [1, 2, 3, 0] rfl ?_
        exact kb _ _ _ rfl hC
    · have hf := ip hf c3
      refine v_iload C 5 dX11_termOf_131 rfl ?_
      refine v_iload C 6 dX11_termOf_133 rfl ?_
      refine v_isub C dX11_termOf_135 ?_
      refine v_goto (tgt := 158) C dX11_termOf_136 (by decide) ?_
      obtain ⟨G10, qG10, hf⟩ := bn hf
      refine v_iast C h_a1 qG10 hC dX11_termOf_158 (fun hC => ?_)
      obtain ⟨x11, ex11⟩ : ∃ x : Int32, x = (l4 + 1) := ⟨_, rfl⟩
      have hf := bd_at hf ex11
      refine v_iinc (v := x11) (j := 3) (lv2 := [(4, .int x11), (0, .ref (ad l0)), (2, .int l2), (3, .int l3), (5, .int l5), (6, .int l6), (7, .int l7)]) C dX11_termOf_159 rfl (by rw [ex11]; rfl) (by decide) rfl ?_
      refine v_goto (tgt := 5) C dX11_termOf_162 (by decide) ?_
      cases hf
      refine v_sub [1, 2, 3, 0] rfl ?_
      exact kb _ _ _ rfl hC
  · have hf := ip hf c2
    refine v_iload C 5 dX11_termOf_117 rfl ?_
    refine v_iload C 6 dX11_termOf_119 rfl ?_
    refine v_iadd C dX11_termOf_121 ?_
    refine v_goto (tgt := 158) C dX11_termOf_122 (by decide) ?_
    obtain ⟨G12, qG12, hf⟩ := bn hf
    refine v_iast C h_a1 qG12 hC dX11_termOf_158 (fun hC => ?_)
    obtain ⟨x13, ex13⟩ : ∃ x : Int32, x = (l4 + 1) := ⟨_, rfl⟩
    have hf := bd_at hf ex13
    refine v_iinc (v := x13) (j := 3) (lv2 := [(4, .int x13), (0, .ref (ad l0)), (2, .int l2), (3, .int l3), (5, .int l5), (6, .int l6), (7, .int l7)]) C dX11_termOf_159 rfl (by rw [ex13]; rfl) (by decide) rfl ?_
    refine v_goto (tgt := 5) C dX11_termOf_162 (by decide) ?_
    cases hf
    refine v_sub [1, 2, 3, 0] rfl ?_
    exact kb _ _ _ rfl hC
def fX11_termOf_S5 (sh : Sh) (l0 : Nat) (l2 : Int32) (G : Hp) (l3 : Int32) (l4 : Int32) : Option ((Hp × Int32 × Int32) ⊕ ((Hp) ⊕ (Hp))) := if l2 ≤ l4 then some (.inr (.inl G)) else (ldA sh G l0 49 1).bind fun a2 => (aI sh G a2 l4).bind fun v3 => if 2 ≤ v3 then bd ((l3 + (-1)) : Int32) fun x5 => (ldA sh G l0 56 1).bind fun a6 => (aI sh G a6 (x5 - 1)).bind fun v7 => (ldA sh G l0 56 1).bind fun a8 => (aI sh G a8 x5).bind fun v9 => if v3 = 5 then if v9 = 0 then some (.inr (.inr G)) else fX11_termOf_J104L5 sh G l0 l2 x5 l4 v3 v7 v9 else fX11_termOf_J104L5 sh G l0 l2 x5 l4 v3 v7 v9 else (ldA sh G l0 56 1).bind fun a12 => if v3 = 0 then (ldA sh G l0 50 1).bind fun a21 => (aI sh G a21 l4).bind fun v22 => (asI sh G a12 l3 v22).bind fun G23 => bd ((l3 + 1) : Int32) fun x24 => bd ((l4 + 1) : Int32) fun x25 => some (.inl (G23, x24, x25)) else (ldA sh G l0 55 1).bind fun a14 => (ldA sh G l0 50 1).bind fun a15 => (aI sh G a15 l4).bind fun v16 => (aI sh G a14 v16).bind fun v17 => (asI sh G a12 l3 v17).bind fun G18 => bd ((l3 + 1) : Int32) fun x19 => bd ((l4 + 1) : Int32) fun x20 => some (.inl (G18, x19, x20))
set_option maxHeartbeats 4000000 in
theorem tX11_termOf_S5 {E : EX} {ad : Nat → Nat} {sh : Sh} {G : Hp} {l0 : Nat} {l2 : Int32} {l3 : Int32} {l4 : Int32} {o : (Hp × Int32 × Int32) ⊕ ((Hp) ⊕ (Hp))} (C : Cx E RX11 cX11_termOf 8 (some .int) 1 0 0) (hC : Cl sh G) (h_l0 : sh[l0]? = some (0, 11)) (hf : fX11_termOf_S5 sh l0 l2 G l3 l4 = some o) (kb : ∀ (G2 : Hp) (b_l3 : Int32) (b_l4 : Int32), o = .inl (G2, b_l3, b_l4) → Cl sh G2 → VV E 0 0 (wq (xT E) ad G2 sh) 5 [(0, .ref (ad l0)), (2, .int l2), (3, .int b_l3), (4, .int b_l4)] []) (kx165 : ∀ (G2 : Hp), o = .inr (.inl G2) → Cl sh G2 → VV E 0 0 (wq (xT E) ad G2 sh) 165 [(0, .ref (ad l0)), (2, .int l2)] []) (kx97 : ∀ (G2 : Hp), o = .inr (.inr G2) → Cl sh G2 → VV E 0 0 (wq (xT E) ad G2 sh) 97 [(0, .ref (ad l0)), (2, .int l2)] []) : VV E 0 0 (wq (xT E) ad G sh) 5 [(0, .ref (ad l0)), (2, .int l2), (3, .int l3), (4, .int l4)] [] := by
  unfold fX11_termOf_S5 at hf
  refine v_iload C 3 dX11_termOf_5 rfl ?_
  refine v_iload_n C 1 dX11_termOf_7 rfl rfl ?_
  refine v_icmp_ge (tgt := 165) C dX11_termOf_8 (by decide) (fun c1 => ?_) (fun c1 => ?_)
  · have hf := ip hf c1
    cases hf
    refine v_sub [0, 1] rfl ?_
    exact kx165 _ rfl hC
  · have hf := im hf c1
    refine v_aload_n C 0 dX11_termOf_11 rfl rfl ?_
    obtain ⟨a2, qa2, hf⟩ := bn hf
    refine v_getA C h_l0 fl_X11_116 qa2 dX11_termOf_12 (fun h_a2 => ?_)
    refine v_iload C 3 dX11_termOf_15 rfl ?_
    obtain ⟨v3, qv3, hf⟩ := bn hf
    refine v_iald C h_a2 qv3 dX11_termOf_17 ?_
    refine v_istore (lv2 := [(5, .int v3), (0, .ref (ad l0)), (2, .int l2), (3, .int l3), (4, .int l4)]) C dX11_termOf_18 (by decide) rfl ?_
    refine v_iload C 0 dX11_termOf_20 rfl ?_
    refine v_iconst (v := 2) C dX11_termOf_22 (by decide) ?_
    refine v_icmp_ge (tgt := 65) C dX11_termOf_23 (by decide) (fun c4 => ?_) (fun c4 => ?_)
    · have hf := ip hf c4
      obtain ⟨x5, ex5⟩ : ∃ x : Int32, x = (l3 + (-1)) := ⟨_, rfl⟩
      have hf := bd_at hf ex5
      refine v_iinc (v := x5) (j := 3) (lv2 := [(3, .int x5), (5, .int v3), (0, .ref (ad l0)), (2, .int l2), (4, .int l4)]) C dX11_termOf_65 rfl (by rw [ex5]; rfl) (by decide) rfl ?_
      refine v_aload_n C 2 dX11_termOf_68 rfl rfl ?_
      obtain ⟨a6, qa6, hf⟩ := bn hf
      refine v_getA C h_l0 fl_X11_131 qa6 dX11_termOf_69 (fun h_a6 => ?_)
      refine v_iload_n C 0 dX11_termOf_72 rfl rfl ?_
      refine v_iconst (v := 1) C dX11_termOf_73 (by decide) ?_
      refine v_isub C dX11_termOf_74 ?_
      obtain ⟨v7, qv7, hf⟩ := bn hf
      refine v_iald C h_a6 qv7 dX11_termOf_75 ?_
      refine v_istore (lv2 := [(6, .int v7), (3, .int x5), (5, .int v3), (0, .ref (ad l0)), (2, .int l2), (4, .int l4)]) C dX11_termOf_76 (by decide) rfl ?_
      refine v_aload_n C 3 dX11_termOf_78 rfl rfl ?_
      obtain ⟨a8, qa8, hf⟩ := bn hf
      refine v_getA C h_l0 fl_X11_131 qa8 dX11_termOf_79 (fun h_a8 => ?_)
      refine v_iload_n C 1 dX11_termOf_82 rfl rfl ?_
      obtain ⟨v9, qv9, hf⟩ := bn hf
      refine v_iald C h_a8 qv9 dX11_termOf_83 ?_
      refine v_istore (lv2 := [(7, .int v9), (6, .int v7), (3, .int x5), (5, .int v3), (0, .ref (ad l0)), (2, .int l2), (4, .int l4)]) C dX11_termOf_84 (by decide) rfl ?_
      refine v_iload C 3 dX11_termOf_86 rfl ?_
      refine v_iconst (v := 5) C dX11_termOf_88 (by decide) ?_
      refine v_icmp_ne (tgt := 104) C dX11_termOf_89 (by decide) (fun c10 => ?_) (fun c10 => ?_)
      · have hf := im hf c10
        refine v_sub [4, 5, 2, 6, 3, 1, 0] rfl ?_
        exact tX11_termOf_J104L5 C hC h_l0 hf kb kx165 kx97
      · have hf := ip hf c10
        refine v_iload C 0 dX11_termOf_92 rfl ?_
        refine v_if_ne (tgt := 104) C dX11_termOf_94 (by decide) (fun c11 => ?_) (fun c11 => ?_)
        · have hf := im hf c11
          refine v_sub [4, 5, 2, 6, 3, 1, 0] rfl ?_
          exact tX11_termOf_J104L5 C hC h_l0 hf kb kx165 kx97
        · have hf := ip hf c11
          cases hf
          refine v_sub [4, 5] rfl ?_
          exact kx97 _ rfl hC
    · have hf := im hf c4
      refine v_aload_n C 1 dX11_termOf_26 rfl rfl ?_
      obtain ⟨a12, qa12, hf⟩ := bn hf
      refine v_getA C h_l0 fl_X11_131 qa12 dX11_termOf_27 (fun h_a12 => ?_)
      refine v_iload_n C 3 dX11_termOf_30 rfl rfl ?_
      refine v_iload C 0 dX11_termOf_31 rfl ?_
      refine v_if_ne (tgt := 46) C dX11_termOf_33 (by decide) (fun c13 => ?_) (fun c13 => ?_)
      · have hf := im hf c13
        refine v_aload_n C 1 dX11_termOf_46 rfl rfl ?_
        obtain ⟨a14, qa14, hf⟩ := bn hf
        refine v_getA C h_l0 fl_X11_128 qa14 dX11_termOf_47 (fun h_a14 => ?_)
        refine v_aload_n C 1 dX11_termOf_50 rfl rfl ?_
        obtain ⟨a15, qa15, hf⟩ := bn hf
        refine v_getA C h_l0 fl_X11_119 qa15 dX11_termOf_51 (fun h_a15 => ?_)
        refine v_iload C 4 dX11_termOf_54 rfl ?_
        obtain ⟨v16, qv16, hf⟩ := bn hf
        refine v_iald C h_a15 qv16 dX11_termOf_56 ?_
        obtain ⟨v17, qv17, hf⟩ := bn hf
        refine v_iald C h_a14 qv17 dX11_termOf_57 ?_
        obtain ⟨G18, qG18, hf⟩ := bn hf
        refine v_iast C h_a12 qG18 hC dX11_termOf_58 (fun hC => ?_)
        obtain ⟨x19, ex19⟩ : ∃ x : Int32, x = (l3 + 1) := ⟨_, rfl⟩
        have hf := bd_at hf ex19
        refine v_iinc (v := x19) (j := 3) (lv2 := [(3, .int x19), (5, .int v3), (0, .ref (ad l0)), (2, .int l2), (4, .int l4)]) C dX11_termOf_59 rfl (by rw [ex19]; rfl) (by decide) rfl ?_
        refine v_goto (tgt := 159) C dX11_termOf_62 (by decide) ?_
        obtain ⟨x20, ex20⟩ : ∃ x : Int32, x = (l4 + 1) := ⟨_, rfl⟩
        have hf := bd_at hf ex20
        refine v_iinc (v := x20) (j := 4) (lv2 := [(4, .int x20), (3, .int x19), (5, .int v3), (0, .ref (ad l0)), (2, .int l2)]) C dX11_termOf_159 rfl (by rw [ex20]; rfl) (by decide) rfl ?_
        refine v_goto (tgt := 5) C dX11_termOf_162 (by decide) ?_
        cases hf
        refine v_sub [3, 4, 1, 0] rfl ?_
        exact kb _ _ _ rfl hC
      · have hf := ip hf c13
        refine v_aload_n C 1 dX11_termOf_36 rfl rfl ?_
        obtain ⟨a21, qa21, hf⟩ := bn hf
        refine v_getA C h_l0 fl_X11_119 qa21 dX11_termOf_37 (fun h_a21 => ?_)
        refine v_iload C 4 dX11_termOf_40 rfl ?_
        obtain ⟨v22, qv22, hf⟩ := bn hf
        refine v_iald C h_a21 qv22 dX11_termOf_42 ?_
        refine v_goto (tgt := 58) C dX11_termOf_43 (by decide) ?_
        obtain ⟨G23, qG23, hf⟩ := bn hf
        refine v_iast C h_a12 qG23 hC dX11_termOf_58 (fun hC => ?_)
        obtain ⟨x24, ex24⟩ : ∃ x : Int32, x = (l3 + 1) := ⟨_, rfl⟩
        have hf := bd_at hf ex24
        refine v_iinc (v := x24) (j := 3) (lv2 := [(3, .int x24), (5, .int v3), (0, .ref (ad l0)), (2, .int l2), (4, .int l4)]) C dX11_termOf_59 rfl (by rw [ex24]; rfl) (by decide) rfl ?_
        refine v_goto (tgt := 159) C dX11_termOf_62 (by decide) ?_
        obtain ⟨x25, ex25⟩ : ∃ x : Int32, x = (l4 + 1) := ⟨_, rfl⟩
        have hf := bd_at hf ex25
        refine v_iinc (v := x25) (j := 4) (lv2 := [(4, .int x25), (3, .int x24), (5, .int v3), (0, .ref (ad l0)), (2, .int l2)]) C dX11_termOf_159 rfl (by rw [ex25]; rfl) (by decide) rfl ?_
        refine v_goto (tgt := 5) C dX11_termOf_162 (by decide) ?_
        cases hf
        refine v_sub [3, 4, 1, 0] rfl ?_
        exact kb _ _ _ rfl hC
def fX11_termOf (sh : Sh) (G : Hp) (l0 : Nat) (l1 : Int32) (l2 : Int32) : Option (Int32 × Hp) := (iter (fun s : Hp × Int32 × Int32 => fX11_termOf_S5 sh l0 l2 s.1 s.2.1 s.2.2) fuel ((G, 0, l1) : Hp × Int32 × Int32)).bind (Sum.elim (fun u5 => bd u5 fun G2 => (ldA sh G2 l0 56 1).bind fun a3 => (aI sh G2 a3 0).bind fun v4 => some (v4, G2)) (fun u8 => bd u8 fun G6 => bd (sI G6 l0 57 1) fun G7 => some (0, G7)))
set_option maxHeartbeats 4000000 in
theorem tX11_termOf {E : EX} {ad : Nat → Nat} {sh : Sh} {G : Hp} {l0 : Nat} {l1 : Int32} {l2 : Int32} {z : Int32 × Hp} (C : Cx E RX11 cX11_termOf 8 (some .int) 1 0 0) (hC : Cl sh G) (h_l0 : sh[l0]? = some (0, 11)) (hf : fX11_termOf sh G l0 l1 l2 = some z) (kr : RCi E cX11_termOf ad sh (z.1) (z.2)) : VV E 0 0 (wq (xT E) ad G sh) 0 [(0, .ref (ad l0)), (1, .int l1), (2, .int l2)] [] := by
  unfold fX11_termOf at hf
  refine v_iconst (v := 0) C dX11_termOf_0 (by decide) ?_
  refine v_istore_n (lv2 := [(3, .int 0), (0, .ref (ad l0)), (1, .int l1), (2, .int l2)]) C dX11_termOf_1 rfl (by decide) rfl ?_
  refine v_iload_n C 2 dX11_termOf_2 rfl rfl ?_
  refine v_istore (lv2 := [(4, .int l1), (3, .int 0), (0, .ref (ad l0)), (1, .int l1), (2, .int l2)]) C dX11_termOf_3 (by decide) rfl ?_
  obtain ⟨r1, qr1, hf⟩ := bn hf
  refine v_sub [2, 4, 1, 0] rfl ?_
  refine iter_sound (P := (fun s : Hp × Int32 × Int32 => Cl sh (s.1) → VV E 0 0 (wq (xT E) ad (s.1) sh) 5 [(0, .ref (ad l0)), (2, .int (l2)), (3, .int (s.2.1)), (4, .int (s.2.2))] [])) (X := fun r => r = r1) (fun jsr1 jor1 hor1 jbr1 jxr1 hC => tX11_termOf_S5 C hC h_l0 hor1 (fun _ _ _ e => jbr1 _ e) ?_ ?_) fuel _ r1 qr1 rfl hC
  · intro G2 hu hC
    have e := jxr1 _ hu
    subst e
    have hf := sm_l hf
    have hf := bd_at hf (rfl : G2 = _)
    refine v_aload_n C 0 dX11_termOf_165 rfl rfl ?_
    obtain ⟨a3, qa3, hf⟩ := bn hf
    refine v_getA C h_l0 fl_X11_131 qa3 dX11_termOf_166 (fun h_a3 => ?_)
    refine v_iconst (v := 0) C dX11_termOf_169 (by decide) ?_
    obtain ⟨v4, qv4, hf⟩ := bn hf
    refine v_iald C h_a3 qv4 dX11_termOf_170 ?_
    cases hf
    exact kr _ _ dX11_termOf_171 hC
  · intro G6 hu hC
    have e := jxr1 _ hu
    subst e
    have hf := sm_r hf
    have hf := bd_at hf (rfl : G6 = _)
    refine v_aload_n C 0 dX11_termOf_97 rfl rfl ?_
    refine v_iconst (v := 1) C dX11_termOf_98 (by decide) ?_
    refine v_putZ C h_l0 fp_X11_366 (Or.inr rfl) dX11_termOf_99 (fun G7 eG7 => ?_)
    have hf := bd_at hf eG7
    have hC : Cl sh G7 := by rw [eG7]; exact hC
    refine v_iconst (v := 0) C dX11_termOf_102 (by decide) ?_
    cases hf
    exact kr _ _ dX11_termOf_103 hC
theorem sX11_termOf {l : Launch} {sh : Sh} {G : Hp} {l0 : Nat} {l1 : Int32} {l2 : Int32} {z : Int32 × Hp} (h_l0 : sh[l0]? = some (0, 11)) (hf : fX11_termOf sh G l0 l1 l2 = some z) : MC l yX11_termOf cX11_termOf 8 (some .int) 1 0 0 sh sh G (z.2) (fun ad => [.ref (ad l0), .int l1, .int l2]) (fun _ => some (.int z.1)) := by
  refine MC_of rfl rfl (fun _ => Nat.le_of_ble_eq_true rfl) (fun E ad C hl hnm hC hQ => ?_)
  exact tX11_termOf C hC h_l0 hf (fun pc lv hd hC => v_iret C hQ (fun _ _ => rfl) hC rfl hd)
def fX11_lawTells_S39 (sh : Sh) (l0 : Nat) (l3 : Int32) (G : Hp) (l4 : Int32) : Option ((Hp × Int32) ⊕ ((Hp) ⊕ (Hp × Int32) ⊕ (Hp))) := (ldA sh G l0 41 1).bind fun a1 => (aI sh G a1 l3).bind fun v2 => if v2 ≤ l4 then some (.inr (.inl G)) else (ldA sh G l0 43 3).bind fun a4 => (aI sh G a4 l4).bind fun v5 => if v5 = 0 then some (.inr (.inr (.inl (G, l4)))) else (ldA sh G l0 44 1).bind fun a7 => (aI sh G a7 l4).bind fun v8 => (ldA sh G l0 45 1).bind fun a9 => (aI sh G a9 l4).bind fun v10 => bp (fX11_termOf sh G l0 v8 v10) fun r11 G12 => (ldA sh G12 l0 45 1).bind fun a13 => (aI sh G12 a13 l4).bind fun v14 => (ldA sh G12 l0 46 1).bind fun a15 => (aI sh G12 a15 l4).bind fun v16 => bp (fX11_termOf sh G12 l0 v14 v16) fun r17 G18 => if (G18.1 l0 57) = 0 then if r11 < r17 then some (.inr (.inr (.inl (G18, l4)))) else bd ((l4 + 1) : Int32) fun x21 => some (.inl (G18, x21)) else some (.inr (.inr (.inr G18)))
set_option maxHeartbeats 4000000 in
theorem tX11_lawTells_S39 {E : EX} {ad : Nat → Nat} {sh : Sh} {G : Hp} {l0 : Nat} {l3 : Int32} {l4 : Int32} {o : (Hp × Int32) ⊕ ((Hp) ⊕ (Hp × Int32) ⊕ (Hp))} (C : Cx E RX11 cX11_lawTells 7 (some .int) 2 0 0) (hC : Cl sh G) (h_l0 : sh[l0]? = some (0, 11)) (hf : fX11_lawTells_S39 sh l0 l3 G l4 = some o) (kb : ∀ (G2 : Hp) (b_l4 : Int32), o = .inl (G2, b_l4) → Cl sh G2 → VV E 0 0 (wq (xT E) ad G2 sh) 39 [(0, .ref (ad l0)), (3, .int l3), (4, .int b_l4)] []) (kx159 : ∀ (G2 : Hp), o = .inr (.inl G2) → Cl sh G2 → VV E 0 0 (wq (xT E) ad G2 sh) 159 [(0, .ref (ad l0)), (3, .int l3)] []) (kx119 : ∀ (G2 : Hp) (b_l4 : Int32), o = .inr (.inr (.inl (G2, b_l4))) → Cl sh G2 → VV E 0 0 (wq (xT E) ad G2 sh) 119 [(0, .ref (ad l0)), (3, .int l3), (4, .int b_l4)] []) (kx107 : ∀ (G2 : Hp), o = .inr (.inr (.inr G2)) → Cl sh G2 → VV E 0 0 (wq (xT E) ad G2 sh) 107 [(0, .ref (ad l0)), (3, .int l3)] []) : VV E 0 0 (wq (xT E) ad G sh) 39 [(0, .ref (ad l0)), (3, .int l3), (4, .int l4)] [] := by
  unfold fX11_lawTells_S39 at hf
  refine v_iload C 2 dX11_lawTells_39 rfl ?_
  refine v_aload_n C 0 dX11_lawTells_41 rfl rfl ?_
  obtain ⟨a1, qa1, hf⟩ := bn hf
  refine v_getA C h_l0 fl_X11_97 qa1 dX11_lawTells_42 (fun h_a1 => ?_)
  refine v_iload_n C 1 dX11_lawTells_45 rfl rfl ?_
  obtain ⟨v2, qv2, hf⟩ := bn hf
  refine v_iald C h_a1 qv2 dX11_lawTells_46 ?_
  refine v_icmp_ge (tgt := 159) C dX11_lawTells_47 (by decide) (fun c3 => ?_) (fun c3 => ?_)
  · have hf := ip hf c3
    cases hf
    refine v_sub [0, 1] rfl ?_
    exact kx159 _ rfl hC
  · have hf := im hf c3
    refine v_aload_n C 0 dX11_lawTells_50 rfl rfl ?_
    obtain ⟨a4, qa4, hf⟩ := bn hf
    refine v_getA C h_l0 fl_X11_100 qa4 dX11_lawTells_51 (fun h_a4 => ?_)
    refine v_iload C 2 dX11_lawTells_54 rfl ?_
    obtain ⟨v5, qv5, hf⟩ := bn hf
    refine v_zald C h_a4 qv5 dX11_lawTells_56 ?_
    refine v_if_eq (tgt := 119) C dX11_lawTells_57 (by decide) (fun c6 => ?_) (fun c6 => ?_)
    · have hf := ip hf c6
      cases hf
      refine v_sub [0, 1, 2] rfl ?_
      exact kx119 _ _ rfl hC
    · have hf := im hf c6
      refine v_aload_n C 0 dX11_lawTells_60 rfl rfl ?_
      refine v_aload_n C 0 dX11_lawTells_61 rfl rfl ?_
      obtain ⟨a7, qa7, hf⟩ := bn hf
      refine v_getA C h_l0 fl_X11_104 qa7 dX11_lawTells_62 (fun h_a7 => ?_)
      refine v_iload C 2 dX11_lawTells_65 rfl ?_
      obtain ⟨v8, qv8, hf⟩ := bn hf
      refine v_iald C h_a7 qv8 dX11_lawTells_67 ?_
      refine v_aload_n C 0 dX11_lawTells_68 rfl rfl ?_
      obtain ⟨a9, qa9, hf⟩ := bn hf
      refine v_getA C h_l0 fl_X11_107 qa9 dX11_lawTells_69 (fun h_a9 => ?_)
      refine v_iload C 2 dX11_lawTells_72 rfl ?_
      obtain ⟨v10, qv10, hf⟩ := bn hf
      refine v_iald C h_a9 qv10 dX11_lawTells_74 ?_
      obtain ⟨r11, G12, qr11, hf⟩ := bpn hf
      refine v_callVi (As := [.int v8, .int v10]) (rest := []) C (sX11_termOf h_l0 qr11) cs_X11_390 (by decide) h_l0 rfl hC rfl rfl rfl (Nat.le_of_ble_eq_true rfl) ⟨Nat.le_refl _, Nat.le_refl _⟩ dX11_lawTells_75 (fun hC => ?_)
      refine v_istore (lv2 := [(5, .int r11), (0, .ref (ad l0)), (3, .int l3), (4, .int l4)]) C dX11_lawTells_78 (by decide) rfl ?_
      refine v_aload_n C 1 dX11_lawTells_80 rfl rfl ?_
      refine v_aload_n C 1 dX11_lawTells_81 rfl rfl ?_
      obtain ⟨a13, qa13, hf⟩ := bn hf
      refine v_getA C h_l0 fl_X11_107 qa13 dX11_lawTells_82 (fun h_a13 => ?_)
      refine v_iload C 3 dX11_lawTells_85 rfl ?_
      obtain ⟨v14, qv14, hf⟩ := bn hf
      refine v_iald C h_a13 qv14 dX11_lawTells_87 ?_
      refine v_aload_n C 1 dX11_lawTells_88 rfl rfl ?_
      obtain ⟨a15, qa15, hf⟩ := bn hf
      refine v_getA C h_l0 fl_X11_110 qa15 dX11_lawTells_89 (fun h_a15 => ?_)
      refine v_iload C 3 dX11_lawTells_92 rfl ?_
      obtain ⟨v16, qv16, hf⟩ := bn hf
      refine v_iald C h_a15 qv16 dX11_lawTells_94 ?_
      obtain ⟨r17, G18, qr17, hf⟩ := bpn hf
      refine v_callVi (As := [.int v14, .int v16]) (rest := []) C (sX11_termOf h_l0 qr17) cs_X11_390 (by decide) h_l0 rfl hC rfl rfl rfl (Nat.le_of_ble_eq_true rfl) ⟨Nat.le_refl _, Nat.le_refl _⟩ dX11_lawTells_95 (fun hC => ?_)
      refine v_istore (lv2 := [(6, .int r17), (5, .int r11), (0, .ref (ad l0)), (3, .int l3), (4, .int l4)]) C dX11_lawTells_98 (by decide) rfl ?_
      refine v_aload_n C 2 dX11_lawTells_100 rfl rfl ?_
      refine v_getI C h_l0 fl_X11_366 dX11_lawTells_101 ?_
      refine v_if_eq (tgt := 109) C dX11_lawTells_104 (by decide) (fun c19 => ?_) (fun c19 => ?_)
      · have hf := ip hf c19
        refine v_iload C 1 dX11_lawTells_109 rfl ?_
        refine v_iload C 0 dX11_lawTells_111 rfl ?_
        refine v_icmp_lt (tgt := 119) C dX11_lawTells_113 (by decide) (fun c20 => ?_) (fun c20 => ?_)
        · have hf := ip hf c20
          cases hf
          refine v_sub [2, 3, 4] rfl ?_
          exact kx119 _ _ rfl hC
        · have hf := im hf c20
          refine v_goto (tgt := 153) C dX11_lawTells_116 (by decide) ?_
          obtain ⟨x21, ex21⟩ : ∃ x : Int32, x = (l4 + 1) := ⟨_, rfl⟩
          have hf := bd_at hf ex21
          refine v_iinc (v := x21) (j := 4) (lv2 := [(4, .int x21), (6, .int r17), (5, .int r11), (0, .ref (ad l0)), (3, .int l3)]) C dX11_lawTells_153 rfl (by rw [ex21]; rfl) (by decide) rfl ?_
          refine v_goto (tgt := 39) C dX11_lawTells_156 (by decide) ?_
          cases hf
          refine v_sub [3, 4, 0] rfl ?_
          exact kb _ _ rfl hC
      · have hf := im hf c19
        cases hf
        refine v_sub [2, 3] rfl ?_
        exact kx107 _ rfl hC
def fX11_lawTells_J119 (sh : Sh) (G : Hp) (l0 : Nat) (l4 : Int32) : Option (Int32 × Hp) := (ldA sh G l0 46 1).bind fun a1 => (aI sh G a1 l4).bind fun v2 => (ldA sh G l0 47 1).bind fun a3 => (aI sh G a3 l4).bind fun v4 => bp (fX11_termOf sh G l0 v2 v4) fun r5 G6 => if (G6.1 l0 57) = 0 then some (r5, G6) else some (0, G6)
set_option maxHeartbeats 4000000 in
theorem tX11_lawTells_J119 {E : EX} {ad : Nat → Nat} {sh : Sh} {G : Hp} {l0 : Nat} {l4 : Int32} {z : Int32 × Hp} (C : Cx E RX11 cX11_lawTells 7 (some .int) 2 0 0) (hC : Cl sh G) (h_l0 : sh[l0]? = some (0, 11)) (hf : fX11_lawTells_J119 sh G l0 l4 = some z) (kr : RCi E cX11_lawTells ad sh (z.1) (z.2)) : VV E 0 0 (wq (xT E) ad G sh) 119 [(0, .ref (ad l0)), (4, .int l4)] [] := by
  unfold fX11_lawTells_J119 at hf
  refine v_aload_n C 0 dX11_lawTells_119 rfl rfl ?_
  refine v_aload_n C 0 dX11_lawTells_120 rfl rfl ?_
  obtain ⟨a1, qa1, hf⟩ := bn hf
  refine v_getA C h_l0 fl_X11_110 qa1 dX11_lawTells_121 (fun h_a1 => ?_)
  refine v_iload C 1 dX11_lawTells_124 rfl ?_
  obtain ⟨v2, qv2, hf⟩ := bn hf
  refine v_iald C h_a1 qv2 dX11_lawTells_126 ?_
  refine v_aload_n C 0 dX11_lawTells_127 rfl rfl ?_
  obtain ⟨a3, qa3, hf⟩ := bn hf
  refine v_getA C h_l0 fl_X11_113 qa3 dX11_lawTells_128 (fun h_a3 => ?_)
  refine v_iload C 1 dX11_lawTells_131 rfl ?_
  obtain ⟨v4, qv4, hf⟩ := bn hf
  refine v_iald C h_a3 qv4 dX11_lawTells_133 ?_
  obtain ⟨r5, G6, qr5, hf⟩ := bpn hf
  refine v_callVi (As := [.int v2, .int v4]) (rest := []) C (sX11_termOf h_l0 qr5) cs_X11_390 (by decide) h_l0 rfl hC rfl rfl rfl (Nat.le_of_ble_eq_true rfl) ⟨Nat.le_refl _, Nat.le_refl _⟩ dX11_lawTells_134 (fun hC => ?_)
  refine v_istore (lv2 := [(5, .int r5), (0, .ref (ad l0)), (4, .int l4)]) C dX11_lawTells_137 (by decide) rfl ?_
  refine v_aload_n C 1 dX11_lawTells_139 rfl rfl ?_
  refine v_getI C h_l0 fl_X11_366 dX11_lawTells_140 ?_
  refine v_if_eq (tgt := 150) C dX11_lawTells_143 (by decide) (fun c7 => ?_) (fun c7 => ?_)
  · have hf := ip hf c7
    refine v_iload C 0 dX11_lawTells_150 rfl ?_
    cases hf
    exact kr _ _ dX11_lawTells_152 hC
  · have hf := im hf c7
    refine v_iconst (v := 0) C dX11_lawTells_146 (by decide) ?_
    refine v_goto (tgt := 152) C dX11_lawTells_147 (by decide) ?_
    cases hf
    exact kr _ _ dX11_lawTells_152 hC
def fX11_lawTells (sh : Sh) (G : Hp) (l0 : Nat) (l1 : Int32) (l2 : Int32) : Option (Int32 × Hp) := bd ((((3 : Int32) * (G.1 l0 18)) + l1) : Int32) fun x1 => (ldA sh G l0 40 1).bind fun a2 => (aI sh G a2 x1).bind fun v3 => (ldA sh G l0 41 1).bind fun a4 => (aI sh G a4 x1).bind fun v5 => if v3 = v5 then some (l2, G) else bd (sI G l0 57 0) fun G7 => (ldA sh G7 l0 40 1).bind fun a8 => (aI sh G7 a8 x1).bind fun v9 => (iter (fun s : Hp × Int32 => fX11_lawTells_S39 sh l0 x1 s.1 s.2) fuel ((G7, v9) : Hp × Int32)).bind (Sum.elim (fun u12 => bd u12 fun G11 => some (0, G11)) (Sum.elim (fun u15 => bd u15.1 fun G13 => bd u15.2 fun x14 => fX11_lawTells_J119 sh G13 l0 x14) (fun u17 => bd u17 fun G16 => some (0, G16))))
set_option maxHeartbeats 4000000 in
theorem tX11_lawTells {E : EX} {ad : Nat → Nat} {sh : Sh} {G : Hp} {l0 : Nat} {l1 : Int32} {l2 : Int32} {z : Int32 × Hp} (C : Cx E RX11 cX11_lawTells 7 (some .int) 2 0 0) (hC : Cl sh G) (h_l0 : sh[l0]? = some (0, 11)) (hf : fX11_lawTells sh G l0 l1 l2 = some z) (kr : RCi E cX11_lawTells ad sh (z.1) (z.2)) : VV E 0 0 (wq (xT E) ad G sh) 0 [(0, .ref (ad l0)), (1, .int l1), (2, .int l2)] [] := by
  unfold fX11_lawTells at hf
  refine v_iconst (v := 3) C dX11_lawTells_0 (by decide) ?_
  refine v_aload_n C 0 dX11_lawTells_1 rfl rfl ?_
  refine v_getI C h_l0 fl_X11_257 dX11_lawTells_2 ?_
  refine v_imul C dX11_lawTells_5 ?_
  refine v_iload_n C 1 dX11_lawTells_6 rfl rfl ?_
  refine v_iadd C dX11_lawTells_7 ?_
  refine v_topi (fun x1 ex1 => ?_)
  have hf := bd_at hf ex1
  refine v_istore_n (lv2 := [(3, .int x1), (0, .ref (ad l0)), (1, .int l1), (2, .int l2)]) C dX11_lawTells_8 rfl (by decide) rfl ?_
  refine v_aload_n C 1 dX11_lawTells_9 rfl rfl ?_
  obtain ⟨a2, qa2, hf⟩ := bn hf
  refine v_getA C h_l0 fl_X11_94 qa2 dX11_lawTells_10 (fun h_a2 => ?_)
  refine v_iload_n C 0 dX11_lawTells_13 rfl rfl ?_
  obtain ⟨v3, qv3, hf⟩ := bn hf
  refine v_iald C h_a2 qv3 dX11_lawTells_14 ?_
  refine v_aload_n C 1 dX11_lawTells_15 rfl rfl ?_
  obtain ⟨a4, qa4, hf⟩ := bn hf
  refine v_getA C h_l0 fl_X11_97 qa4 dX11_lawTells_16 (fun h_a4 => ?_)
  refine v_iload_n C 0 dX11_lawTells_19 rfl rfl ?_
  obtain ⟨v5, qv5, hf⟩ := bn hf
  refine v_iald C h_a4 qv5 dX11_lawTells_20 ?_
  refine v_icmp_ne (tgt := 26) C dX11_lawTells_21 (by decide) (fun c6 => ?_) (fun c6 => ?_)
  · have hf := im hf c6
    refine v_aload_n C 1 dX11_lawTells_26 rfl rfl ?_
    refine v_iconst (v := 0) C dX11_lawTells_27 (by decide) ?_
    refine v_putZ C h_l0 fp_X11_366 (Or.inl rfl) dX11_lawTells_28 (fun G7 eG7 => ?_)
    have hf := bd_at hf eG7
    have hC : Cl sh G7 := by rw [eG7]; exact hC
    refine v_aload_n C 1 dX11_lawTells_31 rfl rfl ?_
    obtain ⟨a8, qa8, hf⟩ := bn hf
    refine v_getA C h_l0 fl_X11_94 qa8 dX11_lawTells_32 (fun h_a8 => ?_)
    refine v_iload_n C 0 dX11_lawTells_35 rfl rfl ?_
    obtain ⟨v9, qv9, hf⟩ := bn hf
    refine v_iald C h_a8 qv9 dX11_lawTells_36 ?_
    refine v_istore (lv2 := [(4, .int v9), (3, .int x1), (0, .ref (ad l0)), (1, .int l1), (2, .int l2)]) C dX11_lawTells_37 (by decide) rfl ?_
    obtain ⟨r10, qr10, hf⟩ := bn hf
    refine v_sub [2, 1, 0] rfl ?_
    refine iter_sound (P := (fun s : Hp × Int32 => Cl sh (s.1) → VV E 0 0 (wq (xT E) ad (s.1) sh) 39 [(0, .ref (ad l0)), (3, .int (x1)), (4, .int (s.2))] [])) (X := fun r => r = r10) (fun jsr10 jor10 hor10 jbr10 jxr10 hC => tX11_lawTells_S39 C hC h_l0 hor10 (fun _ _ e => jbr10 _ e) ?_ ?_ ?_) fuel _ r10 qr10 rfl hC
    · intro G11 hu hC
      have e := jxr10 _ hu
      subst e
      have hf := sm_l hf
      have hf := bd_at hf (rfl : G11 = _)
      refine v_iconst (v := 0) C dX11_lawTells_159 (by decide) ?_
      cases hf
      exact kr _ _ dX11_lawTells_160 hC
    · intro G13 x14 hu hC
      have e := jxr10 _ hu
      subst e
      have hf := sm_r hf
      have hf := sm_l hf
      have hf := bd_at hf (rfl : G13 = _)
      have hf := bd_at hf (rfl : x14 = _)
      refine v_sub [0, 2] rfl ?_
      exact tX11_lawTells_J119 C hC h_l0 hf kr
    · intro G16 hu hC
      have e := jxr10 _ hu
      subst e
      have hf := sm_r hf
      have hf := sm_r hf
      have hf := bd_at hf (rfl : G16 = _)
      refine v_iconst (v := 0) C dX11_lawTells_107 (by decide) ?_
      cases hf
      exact kr _ _ dX11_lawTells_108 hC
  · have hf := ip hf c6
    refine v_iload_n C 3 dX11_lawTells_24 rfl rfl ?_
    cases hf
    exact kr _ _ dX11_lawTells_25 hC
theorem sX11_lawTells {l : Launch} {sh : Sh} {G : Hp} {l0 : Nat} {l1 : Int32} {l2 : Int32} {z : Int32 × Hp} (h_l0 : sh[l0]? = some (0, 11)) (hf : fX11_lawTells sh G l0 l1 l2 = some z) : MC l yX11_lawTells cX11_lawTells 7 (some .int) 2 0 0 sh sh G (z.2) (fun ad => [.ref (ad l0), .int l1, .int l2]) (fun _ => some (.int z.1)) := by
  refine MC_of rfl rfl (fun _ => Nat.le_of_ble_eq_true rfl) (fun E ad C hl hnm hC hQ => ?_)
  exact tX11_lawTells C hC h_l0 hf (fun pc lv hd hC => v_iret C hQ (fun _ _ => rfl) hC rfl hd)
def fX11_held (l0 : Int32) (l1 : Int32) (l2 : Int32) : Option (Int32) := if l1 ≤ l0 then if l0 ≤ l2 then some l0 else some l2 else some l1
set_option maxHeartbeats 4000000 in
theorem tX11_held {E : EX} {ad : Nat → Nat} {sh : Sh} {G : Hp} {l0 : Int32} {l1 : Int32} {l2 : Int32} {z : Int32} (C : Cx E RX11 cX11_held 3 (some .int) 1 0 0) (hC : Cl sh G) (hf : fX11_held l0 l1 l2 = some z) (kr : RCi E cX11_held ad sh z G) : VV E 0 0 (wq (xT E) ad G sh) 0 [(0, .int l0), (1, .int l1), (2, .int l2)] [] := by
  unfold fX11_held at hf
  refine v_iload_n C 0 dX11_held_0 rfl rfl ?_
  refine v_iload_n C 1 dX11_held_1 rfl rfl ?_
  refine v_icmp_ge (tgt := 9) C dX11_held_2 (by decide) (fun c1 => ?_) (fun c1 => ?_)
  · have hf := ip hf c1
    refine v_iload_n C 0 dX11_held_9 rfl rfl ?_
    refine v_iload_n C 2 dX11_held_10 rfl rfl ?_
    refine v_icmp_le (tgt := 18) C dX11_held_11 (by decide) (fun c2 => ?_) (fun c2 => ?_)
    · have hf := ip hf c2
      refine v_iload_n C 0 dX11_held_18 rfl rfl ?_
      cases hf
      exact kr _ _ dX11_held_19 hC
    · have hf := im hf c2
      refine v_iload_n C 2 dX11_held_14 rfl rfl ?_
      refine v_goto (tgt := 19) C dX11_held_15 (by decide) ?_
      cases hf
      exact kr _ _ dX11_held_19 hC
  · have hf := im hf c1
    refine v_iload_n C 1 dX11_held_5 rfl rfl ?_
    refine v_goto (tgt := 19) C dX11_held_6 (by decide) ?_
    cases hf
    exact kr _ _ dX11_held_19 hC
theorem sX11_held {l : Launch} {sh : Sh} {G : Hp} {l0 : Int32} {l1 : Int32} {l2 : Int32} {z : Int32} (hf : fX11_held l0 l1 l2 = some z) : MC l yX11_held cX11_held 3 (some .int) 1 0 0 sh sh G G (fun ad => [.int l0, .int l1, .int l2]) (fun _ => some (.int z)) := by
  refine MC_of rfl rfl (fun _ => Nat.le_of_ble_eq_true rfl) (fun E ad C hl hnm hC hQ => ?_)
  exact tX11_held C hC hf (fun pc lv hd hC => v_iret C hQ (fun _ _ => rfl) hC rfl hd)
def fX11_asks (sh : Sh) (G : Hp) (l0 : Nat) (l1 : Int32) (l2 : Int32) : Option (Int32 × Hp) := (fX11_isBridge sh G l0 l1).bind fun r1 => if r1 = 0 then some ((-1), G) else (fX11_isBeing sh G l0 l2).bind fun r3 => if r3 = 0 then some ((-1), G) else (fX11_copies sh G l0).bind fun G6 => (fX11_looks sh G6 l0 l1).bind fun G8 => (ldA sh G8 l0 55 1).bind fun a9 => (ldA sh G8 l0 25 1).bind fun a10 => (aI sh G8 a10 (((7 : Int32) * (G8.1 l0 18)) + l2)).bind fun v11 => (asI sh G8 a9 5 v11).bind fun G12 => (ldA sh G12 l0 55 1).bind fun a13 => (ldA sh G12 l0 26 1).bind fun a14 => (aI sh G12 a14 (((7 : Int32) * (G12.1 l0 18)) + l2)).bind fun v15 => (fX11_bits v15).bind fun r16 => (asI sh G12 a13 6 r16).bind fun G17 => (ldA sh G17 l0 55 1).bind fun a18 => (aI sh G17 a18 5).bind fun v19 => bp (fX11_lawTells sh G17 l0 2 v19) fun r20 G21 => (fX11_held r20 0 99).bind fun r22 => some (r22, G21)
set_option maxHeartbeats 4000000 in
theorem tX11_asks {E : EX} {ad : Nat → Nat} {sh : Sh} {G : Hp} {l0 : Nat} {l1 : Int32} {l2 : Int32} {z : Int32 × Hp} (C : Cx E RX11 cX11_asks 3 (some .int) 3 0 0) (hC : Cl sh G) (h_l0 : sh[l0]? = some (0, 11)) (hf : fX11_asks sh G l0 l1 l2 = some z) (kr : RCi E cX11_asks ad sh (z.1) (z.2)) : VV E 0 0 (wq (xT E) ad G sh) 0 [(0, .ref (ad l0)), (1, .int l1), (2, .int l2)] [] := by
  unfold fX11_asks at hf
  refine v_aload_n C 0 dX11_asks_0 rfl rfl ?_
  refine v_iload_n C 1 dX11_asks_1 rfl rfl ?_
  obtain ⟨r1, qr1, hf⟩ := bn hf
  refine v_callVi (As := [.int l1]) (rest := []) C (sX11_isBridge h_l0 qr1) cs_X11_431 (by decide) h_l0 rfl hC rfl rfl rfl (Nat.le_of_ble_eq_true rfl) ⟨Nat.le_refl _, Nat.le_refl _⟩ dX11_asks_2 (fun hC => ?_)
  refine v_if_eq (tgt := 16) C dX11_asks_5 (by decide) (fun c2 => ?_) (fun c2 => ?_)
  · have hf := ip hf c2
    refine v_iconst (v := (-1)) C dX11_asks_16 (by decide) ?_
    cases hf
    exact kr _ _ dX11_asks_17 hC
  · have hf := im hf c2
    refine v_aload_n C 0 dX11_asks_8 rfl rfl ?_
    refine v_iload_n C 2 dX11_asks_9 rfl rfl ?_
    obtain ⟨r3, qr3, hf⟩ := bn hf
    refine v_callVi (As := [.int l2]) (rest := []) C (sX11_isBeing h_l0 qr3) cs_X11_419 (by decide) h_l0 rfl hC rfl rfl rfl (Nat.le_of_ble_eq_true rfl) ⟨Nat.le_refl _, Nat.le_refl _⟩ dX11_asks_10 (fun hC => ?_)
    refine v_if_ne (tgt := 18) C dX11_asks_13 (by decide) (fun c4 => ?_) (fun c4 => ?_)
    · have hf := im hf c4
      refine v_aload_n C 0 dX11_asks_18 rfl rfl ?_
      obtain ⟨G6, qr5, hf⟩ := bn hf
      refine v_callVv (As := []) (rest := []) C (sX11_copies h_l0 qr5) cs_X11_434 (by decide) h_l0 rfl hC rfl rfl rfl (Nat.le_of_ble_eq_true rfl) ⟨Nat.le_refl _, Nat.le_refl _⟩ dX11_asks_19 (fun hC => ?_)
      refine v_aload_n C 0 dX11_asks_22 rfl rfl ?_
      refine v_iload_n C 1 dX11_asks_23 rfl rfl ?_
      obtain ⟨G8, qr7, hf⟩ := bn hf
      refine v_callVv (As := [.int l1]) (rest := []) C (sX11_looks h_l0 qr7) cs_X11_393 (by decide) h_l0 rfl hC rfl rfl rfl (Nat.le_of_ble_eq_true rfl) ⟨Nat.le_refl _, Nat.le_refl _⟩ dX11_asks_24 (fun hC => ?_)
      refine v_aload_n C 0 dX11_asks_27 rfl rfl ?_
      obtain ⟨a9, qa9, hf⟩ := bn hf
      refine v_getA C h_l0 fl_X11_128 qa9 dX11_asks_28 (fun h_a9 => ?_)
      refine v_iconst (v := 5) C dX11_asks_31 (by decide) ?_
      refine v_aload_n C 0 dX11_asks_32 rfl rfl ?_
      obtain ⟨a10, qa10, hf⟩ := bn hf
      refine v_getA C h_l0 fl_X11_52 qa10 dX11_asks_33 (fun h_a10 => ?_)
      refine v_bipush (v := 7) C dX11_asks_36 (by decide) ?_
      refine v_aload_n C 0 dX11_asks_38 rfl rfl ?_
      refine v_getI C h_l0 fl_X11_257 dX11_asks_39 ?_
      refine v_imul C dX11_asks_42 ?_
      refine v_iload_n C 2 dX11_asks_43 rfl rfl ?_
      refine v_iadd C dX11_asks_44 ?_
      obtain ⟨v11, qv11, hf⟩ := bn hf
      refine v_iald C h_a10 qv11 dX11_asks_45 ?_
      obtain ⟨G12, qG12, hf⟩ := bn hf
      refine v_iast C h_a9 qG12 hC dX11_asks_46 (fun hC => ?_)
      refine v_aload_n C 0 dX11_asks_47 rfl rfl ?_
      obtain ⟨a13, qa13, hf⟩ := bn hf
      refine v_getA C h_l0 fl_X11_128 qa13 dX11_asks_48 (fun h_a13 => ?_)
      refine v_bipush (v := 6) C dX11_asks_51 (by decide) ?_
      refine v_aload_n C 0 dX11_asks_53 rfl rfl ?_
      obtain ⟨a14, qa14, hf⟩ := bn hf
      refine v_getA C h_l0 fl_X11_55 qa14 dX11_asks_54 (fun h_a14 => ?_)
      refine v_bipush (v := 7) C dX11_asks_57 (by decide) ?_
      refine v_aload_n C 0 dX11_asks_59 rfl rfl ?_
      refine v_getI C h_l0 fl_X11_257 dX11_asks_60 ?_
      refine v_imul C dX11_asks_63 ?_
      refine v_iload_n C 2 dX11_asks_64 rfl rfl ?_
      refine v_iadd C dX11_asks_65 ?_
      obtain ⟨v15, qv15, hf⟩ := bn hf
      refine v_iald C h_a14 qv15 dX11_asks_66 ?_
      obtain ⟨r16, qr16, hf⟩ := bn hf
      refine v_callSi (As := [.int v15]) (rest := [.int 6, .ref (ad a13)]) C (sX11_bits  qr16) cs_X11_387 (by decide) hC rfl rfl rfl (Nat.le_of_ble_eq_true rfl) ⟨Nat.le_refl _, Nat.le_refl _⟩ dX11_asks_67 (fun hC => ?_)
      obtain ⟨G17, qG17, hf⟩ := bn hf
      refine v_iast C h_a13 qG17 hC dX11_asks_70 (fun hC => ?_)
      refine v_aload_n C 0 dX11_asks_71 rfl rfl ?_
      refine v_iconst (v := 2) C dX11_asks_72 (by decide) ?_
      refine v_aload_n C 0 dX11_asks_73 rfl rfl ?_
      obtain ⟨a18, qa18, hf⟩ := bn hf
      refine v_getA C h_l0 fl_X11_128 qa18 dX11_asks_74 (fun h_a18 => ?_)
      refine v_iconst (v := 5) C dX11_asks_77 (by decide) ?_
      obtain ⟨v19, qv19, hf⟩ := bn hf
      refine v_iald C h_a18 qv19 dX11_asks_78 ?_
      obtain ⟨r20, G21, qr20, hf⟩ := bpn hf
      refine v_callVi (As := [.int 2, .int v19]) (rest := []) C (sX11_lawTells h_l0 qr20) cs_X11_396 (by decide) h_l0 rfl hC rfl rfl rfl (Nat.le_of_ble_eq_true rfl) ⟨Nat.le_refl _, Nat.le_refl _⟩ dX11_asks_79 (fun hC => ?_)
      refine v_iconst (v := 0) C dX11_asks_82 (by decide) ?_
      refine v_bipush (v := 99) C dX11_asks_83 (by decide) ?_
      obtain ⟨r22, qr22, hf⟩ := bn hf
      refine v_callSi (As := [.int r20, .int 0, .int 99]) (rest := []) C (sX11_held  qr22) cs_X11_399 (by decide) hC rfl rfl rfl (Nat.le_of_ble_eq_true rfl) ⟨Nat.le_refl _, Nat.le_refl _⟩ dX11_asks_85 (fun hC => ?_)
      cases hf
      exact kr _ _ dX11_asks_88 hC
    · have hf := ip hf c4
      refine v_iconst (v := (-1)) C dX11_asks_16 (by decide) ?_
      cases hf
      exact kr _ _ dX11_asks_17 hC
theorem sX11_asks {l : Launch} {sh : Sh} {G : Hp} {l0 : Nat} {l1 : Int32} {l2 : Int32} {z : Int32 × Hp} (h_l0 : sh[l0]? = some (0, 11)) (hf : fX11_asks sh G l0 l1 l2 = some z) : MC l yX11_asks cX11_asks 3 (some .int) 3 0 0 sh sh G (z.2) (fun ad => [.ref (ad l0), .int l1, .int l2]) (fun _ => some (.int z.1)) := by
  refine MC_of rfl rfl (fun _ => Nat.le_of_ble_eq_true rfl) (fun E ad C hl hnm hC hQ => ?_)
  exact tX11_asks C hC h_l0 hf (fun pc lv hd hC => v_iret C hQ (fun _ _ => rfl) hC rfl hd)
def fX11_back (sh : Sh) (G : Hp) (l0 : Nat) (l1 : Int32) : Option (Int32 × Hp) := if l1 < 0 then some ((-1), G) else if l1 ≤ (G.1 l0 2) then bd (sI G l0 2 ((G.1 l0 2) - l1)) fun G3 => some ((G3.1 l0 2), G3) else some ((-1), G)
set_option maxHeartbeats 4000000 in
theorem tX11_back {E : EX} {ad : Nat → Nat} {sh : Sh} {G : Hp} {l0 : Nat} {l1 : Int32} {z : Int32 × Hp} (C : Cx E RX11 cX11_back 2 (some .int) 1 0 0) (hC : Cl sh G) (h_l0 : sh[l0]? = some (0, 11)) (hf : fX11_back sh G l0 l1 = some z) (kr : RCi E cX11_back ad sh (z.1) (z.2)) : VV E 0 0 (wq (xT E) ad G sh) 0 [(0, .ref (ad l0)), (1, .int l1)] [] := by
  unfold fX11_back at hf
  refine v_iload_n C 1 dX11_back_0 rfl rfl ?_
  refine v_if_lt (tgt := 12) C dX11_back_1 (by decide) (fun c1 => ?_) (fun c1 => ?_)
  · have hf := ip hf c1
    refine v_iconst (v := (-1)) C dX11_back_12 (by decide) ?_
    cases hf
    exact kr _ _ dX11_back_13 hC
  · have hf := im hf c1
    refine v_iload_n C 1 dX11_back_4 rfl rfl ?_
    refine v_aload_n C 0 dX11_back_5 rfl rfl ?_
    refine v_getI C h_l0 fl_X11_190 dX11_back_6 ?_
    refine v_icmp_le (tgt := 14) C dX11_back_9 (by decide) (fun c2 => ?_) (fun c2 => ?_)
    · have hf := ip hf c2
      refine v_aload_n C 0 dX11_back_14 rfl rfl ?_
      refine v_dup C dX11_back_15 rfl ?_
      refine v_getI C h_l0 fl_X11_190 dX11_back_16 ?_
      refine v_iload_n C 1 dX11_back_19 rfl rfl ?_
      refine v_isub C dX11_back_20 ?_
      refine v_putI C h_l0 fp_X11_190 dX11_back_21 (fun G3 eG3 => ?_)
      have hf := bd_at hf eG3
      have hC : Cl sh G3 := by rw [eG3]; exact hC
      refine v_aload_n C 0 dX11_back_24 rfl rfl ?_
      refine v_getI C h_l0 fl_X11_190 dX11_back_25 ?_
      cases hf
      exact kr _ _ dX11_back_28 hC
    · have hf := im hf c2
      refine v_iconst (v := (-1)) C dX11_back_12 (by decide) ?_
      cases hf
      exact kr _ _ dX11_back_13 hC
theorem sX11_back {l : Launch} {sh : Sh} {G : Hp} {l0 : Nat} {l1 : Int32} {z : Int32 × Hp} (h_l0 : sh[l0]? = some (0, 11)) (hf : fX11_back sh G l0 l1 = some z) : MC l yX11_back cX11_back 2 (some .int) 1 0 0 sh sh G (z.2) (fun ad => [.ref (ad l0), .int l1]) (fun _ => some (.int z.1)) := by
  refine MC_of rfl rfl (fun _ => Nat.le_of_ble_eq_true rfl) (fun E ad C hl hnm hC hQ => ?_)
  exact tX11_back C hC h_l0 hf (fun pc lv hd hC => v_iret C hQ (fun _ _ => rfl) hC rfl hd)
