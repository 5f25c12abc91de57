def fX9_traitToAsk_S27 (sh : Sh) (l0 : Nat) (l1 : Nat) (l2 : Int32) (l4 : Int32) (G : Hp) (l5 : Int32) (l6 : Int32) (l7 : Int32) : Option ((Int32 × Int32 × Int32) ⊕ ((Int32))) := if (G.1 l1 0) ≤ l7 then some (.inr l5) else if l4 ≤ 0 then some (.inr l5) else (fX9_countWith sh G l0 l1 l2 ((1 : Int32) <<< (l7 &&& 31))).bind fun r3 => bd ((imax r3 (l4 - r3)) : Int32) fun x4 => if l6 ≤ x4 then bd ((l7 + 1) : Int32) fun x6 => some (.inl (l5, l6, x6)) else bd ((l7 + 1) : Int32) fun x7 => some (.inl (l7, x4, x7))
set_option maxHeartbeats 4000000 in
theorem tX9_traitToAsk_S27 {E : EX} {ad : Nat → Nat} {sh : Sh} {G : Hp} {l0 : Nat} {l1 : Nat} {l2 : Int32} {l4 : Int32} {l5 : Int32} {l6 : Int32} {l7 : Int32} {o : (Int32 × Int32 × Int32) ⊕ ((Int32))} (C : Cx E RX9 cX9_traitToAsk 10 (some .int) 5 0 0) (hC : Cl sh G) (h_l0 : sh[l0]? = some (0, 9)) (h_l1 : sh[l1]? = some (0, 8)) (hf : fX9_traitToAsk_S27 sh l0 l1 l2 l4 G l5 l6 l7 = some o) (kb : ∀ (b_l5 : Int32) (b_l6 : Int32) (b_l7 : Int32), o = .inl (b_l5, b_l6, b_l7) → VV E 0 0 (wq (xT E) ad G sh) 27 [(0, .ref (ad l0)), (1, .ref (ad l1)), (2, .int l2), (4, .int l4), (5, .int b_l5), (6, .int b_l6), (7, .int b_l7)] []) (kx86 : ∀ (b_l5 : Int32), o = .inr b_l5 → VV E 0 0 (wq (xT E) ad G sh) 86 [(0, .ref (ad l0)), (1, .ref (ad l1)), (2, .int l2), (4, .int l4), (5, .int b_l5)] []) : VV E 0 0 (wq (xT E) ad G sh) 27 [(0, .ref (ad l0)), (1, .ref (ad l1)), (2, .int l2), (4, .int l4), (5, .int l5), (6, .int l6), (7, .int l7)] [] := by
  unfold fX9_traitToAsk_S27 at hf
  refine v_iload C 6 dX9_traitToAsk_27 rfl ?_
  refine v_aload_n C 1 dX9_traitToAsk_29 rfl rfl ?_
  refine v_getI C h_l1 fl_X9_57 dX9_traitToAsk_30 ?_
  refine v_icmp_ge (tgt := 86) C dX9_traitToAsk_33 (by decide) (fun c1 => ?_) (fun c1 => ?_)
  · have hf := ip hf c1
    cases hf
    refine v_sub [0, 1, 2, 3, 4] rfl ?_
    exact kx86 _ rfl
  · have hf := im hf c1
    refine v_iload C 3 dX9_traitToAsk_36 rfl ?_
    refine v_if_le (tgt := 86) C dX9_traitToAsk_38 (by decide) (fun c2 => ?_) (fun c2 => ?_)
    · have hf := ip hf c2
      cases hf
      refine v_sub [0, 1, 2, 3, 4] rfl ?_
      exact kx86 _ rfl
    · have hf := im hf c2
      refine v_aload_n C 0 dX9_traitToAsk_41 rfl rfl ?_
      refine v_aload_n C 1 dX9_traitToAsk_42 rfl rfl ?_
      refine v_iload_n C 2 dX9_traitToAsk_43 rfl rfl ?_
      refine v_iconst (v := 1) C dX9_traitToAsk_44 (by decide) ?_
      refine v_iload C 6 dX9_traitToAsk_45 rfl ?_
      refine v_ishl C dX9_traitToAsk_47 ?_
      obtain ⟨r3, qr3, hf⟩ := bn hf
      refine v_callVi (As := [.ref (ad l1), .int l2, .int ((1 : Int32) <<< (l7 &&& 31))]) (rest := []) C (sX9_countWith h_l0 h_l1 qr3) cs_X9_39 (by decide) h_l0 rfl hC rfl rfl rfl (Nat.le_of_ble_eq_true rfl) ⟨Nat.le_refl _, Nat.le_refl _⟩ dX9_traitToAsk_48 (fun hC => ?_)
      refine v_istore (lv2 := [(8, .int r3), (0, .ref (ad l0)), (1, .ref (ad l1)), (2, .int l2), (4, .int l4), (5, .int l5), (6, .int l6), (7, .int l7)]) C dX9_traitToAsk_51 (by decide) rfl ?_
      refine v_iload C 0 dX9_traitToAsk_53 rfl ?_
      refine v_iload C 4 dX9_traitToAsk_55 rfl ?_
      refine v_iload C 0 dX9_traitToAsk_57 rfl ?_
      refine v_isub C dX9_traitToAsk_59 ?_
      refine v_nmax C mw_X9_59 (by omega) (Nat.le_of_ble_eq_true rfl) ⟨Nat.le_refl _, Nat.le_refl _⟩ dX9_traitToAsk_60 ?_
      refine v_topi (fun x4 ex4 => ?_)
      have hf := bd_at hf ex4
      refine v_istore (lv2 := [(9, .int x4), (8, .int r3), (0, .ref (ad l0)), (1, .ref (ad l1)), (2, .int l2), (4, .int l4), (5, .int l5), (6, .int l6), (7, .int l7)]) C dX9_traitToAsk_63 (by decide) rfl ?_
      refine v_iload C 0 dX9_traitToAsk_65 rfl ?_
      refine v_iload C 7 dX9_traitToAsk_67 rfl ?_
      refine v_icmp_ge (tgt := 80) C dX9_traitToAsk_69 (by decide) (fun c5 => ?_) (fun c5 => ?_)
      · have hf := ip hf c5
        obtain ⟨x6, ex6⟩ : ∃ x : Int32, x = (l7 + 1) := ⟨_, rfl⟩
        have hf := bd_at hf ex6
        refine v_iinc (v := x6) (j := 8) (lv2 := [(7, .int x6), (9, .int x4), (8, .int r3), (0, .ref (ad l0)), (1, .ref (ad l1)), (2, .int l2), (4, .int l4), (5, .int l5), (6, .int l6)]) C dX9_traitToAsk_80 rfl (by rw [ex6]; rfl) (by decide) rfl ?_
        refine v_goto (tgt := 27) C dX9_traitToAsk_83 (by decide) ?_
        cases hf
        refine v_sub [3, 4, 5, 6, 7, 8, 0] rfl ?_
        exact kb _ _ _ rfl
      · have hf := im hf c5
        refine v_iload C 0 dX9_traitToAsk_72 rfl ?_
        refine v_istore (lv2 := [(6, .int x4), (9, .int x4), (8, .int r3), (0, .ref (ad l0)), (1, .ref (ad l1)), (2, .int l2), (4, .int l4), (5, .int l5), (7, .int l7)]) C dX9_traitToAsk_74 (by decide) rfl ?_
        refine v_iload C 8 dX9_traitToAsk_76 rfl ?_
        refine v_istore (lv2 := [(5, .int l7), (6, .int x4), (9, .int x4), (8, .int r3), (0, .ref (ad l0)), (1, .ref (ad l1)), (2, .int l2), (4, .int l4), (7, .int l7)]) C dX9_traitToAsk_78 (by decide) rfl ?_
        obtain ⟨x7, ex7⟩ : ∃ x : Int32, x = (l7 + 1) := ⟨_, rfl⟩
        have hf := bd_at hf ex7
        refine v_iinc (v := x7) (j := 8) (lv2 := [(7, .int x7), (5, .int l7), (6, .int x4), (9, .int x4), (8, .int r3), (0, .ref (ad l0)), (1, .ref (ad l1)), (2, .int l2), (4, .int l4)]) C dX9_traitToAsk_80 rfl (by rw [ex7]; rfl) (by decide) rfl ?_
        refine v_goto (tgt := 27) C dX9_traitToAsk_83 (by decide) ?_
        cases hf
        refine v_sub [5, 6, 7, 8, 1, 2, 0] rfl ?_
        exact kb _ _ _ rfl
def fX9_traitToAsk (sh : Sh) (G : Hp) (l0 : Nat) (l1 : Nat) (l2 : Int32) (l3 : Int32) : Option (Int32 × Hp) := (fX9_know sh G l0 l3).bind fun G2 => (fX9_countWith sh G2 l0 l1 l2 0).bind fun r3 => bd ((r3 + 1) : Int32) fun x4 => (iter (fun s : Int32 × Int32 × Int32 => fX9_traitToAsk_S27 sh l0 l1 l2 r3 G2 s.1 s.2.1 s.2.2) fuel (((-2), x4, 0) : Int32 × Int32 × Int32)).bind (fun u7 => bd u7 fun x6 => some (x6, G2))
set_option maxHeartbeats 4000000 in
theorem tX9_traitToAsk {E : EX} {ad : Nat → Nat} {sh : Sh} {G : Hp} {l0 : Nat} {l1 : Nat} {l2 : Int32} {l3 : Int32} {z : Int32 × Hp} (C : Cx E RX9 cX9_traitToAsk 10 (some .int) 5 0 0) (hC : Cl sh G) (h_l0 : sh[l0]? = some (0, 9)) (h_l1 : sh[l1]? = some (0, 8)) (hf : fX9_traitToAsk sh G l0 l1 l2 l3 = some z) (kr : RCi E cX9_traitToAsk ad sh (z.1) (z.2)) : VV E 0 0 (wq (xT E) ad G sh) 0 [(0, .ref (ad l0)), (1, .ref (ad l1)), (2, .int l2), (3, .int l3)] [] := by
  unfold fX9_traitToAsk at hf
  refine v_aload_n C 0 dX9_traitToAsk_0 rfl rfl ?_
  refine v_iload_n C 3 dX9_traitToAsk_1 rfl rfl ?_
  obtain ⟨G2, qr1, hf⟩ := bn hf
  refine v_callVv (As := [.int l3]) (rest := []) C (sX9_know h_l0 qr1) cs_X9_35 (by decide) h_l0 rfl hC rfl rfl rfl (Nat.le_of_ble_eq_true rfl) ⟨Nat.le_refl _, Nat.le_refl _⟩ dX9_traitToAsk_2 (fun hC => ?_)
  refine v_aload_n C 0 dX9_traitToAsk_5 rfl rfl ?_
  refine v_aload_n C 1 dX9_traitToAsk_6 rfl rfl ?_
  refine v_iload_n C 2 dX9_traitToAsk_7 rfl rfl ?_
  refine v_iconst (v := 0) C dX9_traitToAsk_8 (by decide) ?_
  obtain ⟨r3, qr3, hf⟩ := bn hf
  refine v_callVi (As := [.ref (ad l1), .int l2, .int 0]) (rest := []) C (sX9_countWith h_l0 h_l1 qr3) cs_X9_39 (by decide) h_l0 rfl hC rfl rfl rfl (Nat.le_of_ble_eq_true rfl) ⟨Nat.le_refl _, Nat.le_refl _⟩ dX9_traitToAsk_9 (fun hC => ?_)
  refine v_istore (lv2 := [(4, .int r3), (0, .ref (ad l0)), (1, .ref (ad l1)), (2, .int l2), (3, .int l3)]) C dX9_traitToAsk_12 (by decide) rfl ?_
  refine v_bipush (v := (-2)) C dX9_traitToAsk_14 (by decide) ?_
  refine v_istore (lv2 := [(5, .int (-2)), (4, .int r3), (0, .ref (ad l0)), (1, .ref (ad l1)), (2, .int l2), (3, .int l3)]) C dX9_traitToAsk_16 (by decide) rfl ?_
  refine v_iload C 1 dX9_traitToAsk_18 rfl ?_
  refine v_iconst (v := 1) C dX9_traitToAsk_20 (by decide) ?_
  refine v_iadd C dX9_traitToAsk_21 ?_
  refine v_topi (fun x4 ex4 => ?_)
  have hf := bd_at hf ex4
  refine v_istore (lv2 := [(6, .int x4), (5, .int (-2)), (4, .int r3), (0, .ref (ad l0)), (1, .ref (ad l1)), (2, .int l2), (3, .int l3)]) C dX9_traitToAsk_22 (by decide) rfl ?_
  refine v_iconst (v := 0) C dX9_traitToAsk_24 (by decide) ?_
  refine v_istore (lv2 := [(7, .int 0), (6, .int x4), (5, .int (-2)), (4, .int r3), (0, .ref (ad l0)), (1, .ref (ad l1)), (2, .int l2), (3, .int l3)]) C dX9_traitToAsk_25 (by decide) rfl ?_
  obtain ⟨r5, qr5, hf⟩ := bn hf
  refine v_sub [4, 5, 6, 3, 2, 1, 0] rfl ?_
  refine iter_sound (P := (fun s : Int32 × Int32 × Int32 => VV E 0 0 (wq (xT E) ad (G2) sh) 27 [(0, .ref (ad l0)), (1, .ref (ad l1)), (2, .int (l2)), (4, .int (r3)), (5, .int (s.1)), (6, .int (s.2.1)), (7, .int (s.2.2))] [])) (X := fun r => r = r5) (fun jsr5 jor5 hor5 jbr5 jxr5 => tX9_traitToAsk_S27 C hC h_l0 h_l1 hor5 (fun _ _ _ e => jbr5 _ e) ?_) fuel _ r5 qr5 rfl
  · intro x6 hu
    have e := jxr5 _ hu
    subst e
    have hf := bd_at hf (rfl : x6 = _)
    refine v_iload C 4 dX9_traitToAsk_86 rfl ?_
    cases hf
    exact kr _ _ dX9_traitToAsk_88 hC
theorem sX9_traitToAsk {l : Launch} {sh : Sh} {G : Hp} {l0 : Nat} {l1 : Nat} {l2 : Int32} {l3 : Int32} {z : Int32 × Hp} (h_l0 : sh[l0]? = some (0, 9)) (h_l1 : sh[l1]? = some (0, 8)) (hf : fX9_traitToAsk sh G l0 l1 l2 l3 = some z) : MC l yX9_traitToAsk cX9_traitToAsk 10 (some .int) 5 0 0 sh sh G (z.2) (fun ad => [.ref (ad l0), .ref (ad l1), .int l2, .int l3]) (fun _ => some (.int z.1)) := by
  refine MC_of rfl rfl (fun _ => Nat.le_of_ble_eq_true rfl) (fun E ad C hl hnm hC hQ => ?_)
  exact tX9_traitToAsk C hC h_l0 h_l1 hf (fun pc lv hd hC => v_iret C hQ (fun _ _ => rfl) hC rfl hd)
def fX10_ask (sh : Sh) (G : Hp) (l0 : Nat) (l1 : Int32) (l2 : Int32) : Option (Int32 × Hp) := (fX10_isKnown sh G l0 l1 l2).bind fun r1 => if r1 = 0 then some ((-1), G) else (ldO sh G l0 8 9).bind fun a3 => (ldO sh G l0 2 8).bind fun a4 => bp (fX9_traitToAsk sh G a3 a4 l1 l2) fun r5 G6 => some (r5, G6)
set_option maxHeartbeats 4000000 in
theorem tX10_ask {E : EX} {ad : Nat → Nat} {sh : Sh} {G : Hp} {l0 : Nat} {l1 : Int32} {l2 : Int32} {z : Int32 × Hp} (C : Cx E RX10 cX10_ask 3 (some .int) 6 0 0) (hC : Cl sh G) (h_l0 : sh[l0]? = some (0, 10)) (hf : fX10_ask sh G l0 l1 l2 = some z) (kr : RCi E cX10_ask ad sh (z.1) (z.2)) : VV E 0 0 (wq (xT E) ad G sh) 0 [(0, .ref (ad l0)), (1, .int l1), (2, .int l2)] [] := by
  unfold fX10_ask at hf
  refine v_aload_n C 0 dX10_ask_0 rfl rfl ?_
  refine v_iload_n C 1 dX10_ask_1 rfl rfl ?_
  refine v_iload_n C 2 dX10_ask_2 rfl rfl ?_
  obtain ⟨r1, qr1, hf⟩ := bn hf
  refine v_callVi (As := [.int l1, .int l2]) (rest := []) C (sX10_isKnown h_l0 qr1) cs_X10_302 (by decide) h_l0 rfl hC rfl rfl rfl (Nat.le_of_ble_eq_true rfl) ⟨Nat.le_refl _, Nat.le_refl _⟩ dX10_ask_3 (fun hC => ?_)
  refine v_if_eq (tgt := 25) C dX10_ask_6 (by decide) (fun c2 => ?_) (fun c2 => ?_)
  · have hf := ip hf c2
    refine v_iconst (v := (-1)) C dX10_ask_25 (by decide) ?_
    cases hf
    exact kr _ _ dX10_ask_26 hC
  · have hf := im hf c2
    refine v_aload_n C 0 dX10_ask_9 rfl rfl ?_
    obtain ⟨a3, qa3, hf⟩ := bn hf
    refine v_getO C h_l0 fl_X10_58 qa3 dX10_ask_10 (fun h_a3 => ?_)
    refine v_aload_n C 0 dX10_ask_13 rfl rfl ?_
    obtain ⟨a4, qa4, hf⟩ := bn hf
    refine v_getO C h_l0 fl_X10_23 qa4 dX10_ask_14 (fun h_a4 => ?_)
    refine v_iload_n C 1 dX10_ask_17 rfl rfl ?_
    refine v_iload_n C 2 dX10_ask_18 rfl rfl ?_
    obtain ⟨r5, G6, qr5, hf⟩ := bpn hf
    refine v_callVi (As := [.ref (ad a4), .int l1, .int l2]) (rest := []) C (sX9_traitToAsk h_a3 h_a4 qr5) cs_X10_312 (by decide) h_a3 rfl hC rfl rfl rfl (Nat.le_of_ble_eq_true rfl) ⟨Nat.le_refl _, Nat.le_refl _⟩ dX10_ask_19 (fun hC => ?_)
    refine v_goto (tgt := 26) C dX10_ask_22 (by decide) ?_
    cases hf
    exact kr _ _ dX10_ask_26 hC
theorem sX10_ask {l : Launch} {sh : Sh} {G : Hp} {l0 : Nat} {l1 : Int32} {l2 : Int32} {z : Int32 × Hp} (h_l0 : sh[l0]? = some (0, 10)) (hf : fX10_ask sh G l0 l1 l2 = some z) : MC l yX10_ask cX10_ask 3 (some .int) 6 0 0 sh sh G (z.2) (fun ad => [.ref (ad l0), .int l1, .int l2]) (fun _ => some (.int z.1)) := by
  refine MC_of rfl rfl (fun _ => Nat.le_of_ble_eq_true rfl) (fun E ad C hl hnm hC hQ => ?_)
  exact tX10_ask C hC h_l0 hf (fun pc lv hd hC => v_iret C hQ (fun _ _ => rfl) hC rfl hd)
def fX8_hasBeing (sh : Sh) (G : Hp) (l0 : Nat) (l1 : Int32) : Option (Int32) := if l1 < 0 then some 0 else if (G.1 l0 1) ≤ l1 then some 0 else some 1
set_option maxHeartbeats 4000000 in
theorem tX8_hasBeing {E : EX} {ad : Nat → Nat} {sh : Sh} {G : Hp} {l0 : Nat} {l1 : Int32} {z : Int32} (C : Cx E RX8 cX8_hasBeing 2 (some .boolean) 1 0 0) (hC : Cl sh G) (h_l0 : sh[l0]? = some (0, 8)) (hf : fX8_hasBeing sh G l0 l1 = some z) (kr : RCz E cX8_hasBeing ad sh z G) : VV E 0 0 (wq (xT E) ad G sh) 0 [(0, .ref (ad l0)), (1, .int l1)] [] := by
  unfold fX8_hasBeing at hf
  refine v_iload_n C 1 dX8_hasBeing_0 rfl rfl ?_
  refine v_if_lt (tgt := 16) C dX8_hasBeing_1 (by decide) (fun c1 => ?_) (fun c1 => ?_)
  · have hf := ip hf c1
    refine v_iconst (v := 0) C dX8_hasBeing_16 (by decide) ?_
    cases hf
    exact kr _ _ dX8_hasBeing_17 (Or.inl rfl) hC
  · have hf := im hf c1
    refine v_iload_n C 1 dX8_hasBeing_4 rfl rfl ?_
    refine v_aload_n C 0 dX8_hasBeing_5 rfl rfl ?_
    refine v_getI C h_l0 fl_X8_57 dX8_hasBeing_6 ?_
    refine v_icmp_ge (tgt := 16) C dX8_hasBeing_9 (by decide) (fun c2 => ?_) (fun c2 => ?_)
    · have hf := ip hf c2
      refine v_iconst (v := 0) C dX8_hasBeing_16 (by decide) ?_
      cases hf
      exact kr _ _ dX8_hasBeing_17 (Or.inl rfl) hC
    · have hf := im hf c2
      refine v_iconst (v := 1) C dX8_hasBeing_12 (by decide) ?_
      refine v_goto (tgt := 17) C dX8_hasBeing_13 (by decide) ?_
      cases hf
      exact kr _ _ dX8_hasBeing_17 (Or.inr rfl) hC
theorem sX8_hasBeing {l : Launch} {sh : Sh} {G : Hp} {l0 : Nat} {l1 : Int32} {z : Int32} (h_l0 : sh[l0]? = some (0, 8)) (hf : fX8_hasBeing sh G l0 l1 = some z) : MC l yX8_hasBeing cX8_hasBeing 2 (some .boolean) 1 0 0 sh sh G G (fun ad => [.ref (ad l0), .int l1]) (fun _ => some (.int z)) := by
  refine MC_of rfl rfl (fun _ => Nat.le_of_ble_eq_true rfl) (fun E ad C hl hnm hC hQ => ?_)
  exact tX8_hasBeing C hC h_l0 hf (fun pc lv hd hz hC => v_zret C hQ (fun _ _ => rfl) hC rfl hz hd)
def fX1_bridgesOf_S4 (sh : Sh) (l0 : Nat) (l1 : Int32) (G : Hp) (l2 : Int32) (l3 : Int32) : Option ((Int32 × Int32) ⊕ ((Int32))) := if 4 ≤ l3 then some (.inr l2) else (ldA sh G l0 1 1).bind fun a2 => (aI sh G a2 l3).bind fun v3 => if v3 = l1 then bd ((l2 ||| ((1 : Int32) <<< (l3 &&& 31))) : Int32) fun x6 => bd ((l3 + 1) : Int32) fun x7 => some (.inl (x6, x7)) else bd ((l3 + 1) : Int32) fun x5 => some (.inl (l2, x5))
set_option maxHeartbeats 4000000 in
theorem tX1_bridgesOf_S4 {E : EX} {ad : Nat → Nat} {sh : Sh} {G : Hp} {l0 : Nat} {l1 : Int32} {l2 : Int32} {l3 : Int32} {o : (Int32 × Int32) ⊕ ((Int32))} (C : Cx E RX1 cX1_bridgesOf 4 (some .int) 1 0 0) (hC : Cl sh G) (h_l0 : sh[l0]? = some (0, 1)) (hf : fX1_bridgesOf_S4 sh l0 l1 G l2 l3 = some o) (kb : ∀ (b_l2 : Int32) (b_l3 : Int32), o = .inl (b_l2, b_l3) → VV E 0 0 (wq (xT E) ad G sh) 4 [(0, .ref (ad l0)), (1, .int l1), (2, .int b_l2), (3, .int b_l3)] []) (kx31 : ∀ (b_l2 : Int32), o = .inr b_l2 → VV E 0 0 (wq (xT E) ad G sh) 31 [(0, .ref (ad l0)), (1, .int l1), (2, .int b_l2)] []) : VV E 0 0 (wq (xT E) ad G sh) 4 [(0, .ref (ad l0)), (1, .int l1), (2, .int l2), (3, .int l3)] [] := by
  unfold fX1_bridgesOf_S4 at hf
  refine v_iload_n C 3 dX1_bridgesOf_4 rfl rfl ?_
  refine v_iconst (v := 4) C dX1_bridgesOf_5 (by decide) ?_
  refine v_icmp_ge (tgt := 31) C dX1_bridgesOf_6 (by decide) (fun c1 => ?_) (fun c1 => ?_)
  · have hf := ip hf c1
    cases hf
    refine v_sub [0, 1, 2] rfl ?_
    exact kx31 _ rfl
  · have hf := im hf c1
    refine v_aload_n C 0 dX1_bridgesOf_9 rfl rfl ?_
    obtain ⟨a2, qa2, hf⟩ := bn hf
    refine v_getA C h_l0 fl_X1_15 qa2 dX1_bridgesOf_10 (fun h_a2 => ?_)
    refine v_iload_n C 3 dX1_bridgesOf_13 rfl rfl ?_
    obtain ⟨v3, qv3, hf⟩ := bn hf
    refine v_iald C h_a2 qv3 dX1_bridgesOf_14 ?_
    refine v_iload_n C 1 dX1_bridgesOf_15 rfl rfl ?_
    refine v_icmp_ne (tgt := 25) C dX1_bridgesOf_16 (by decide) (fun c4 => ?_) (fun c4 => ?_)
    · have hf := im hf c4
      obtain ⟨x5, ex5⟩ : ∃ x : Int32, x = (l3 + 1) := ⟨_, rfl⟩
      have hf := bd_at hf ex5
      refine v_iinc (v := x5) (j := 3) (lv2 := [(3, .int x5), (0, .ref (ad l0)), (1, .int l1), (2, .int l2)]) C dX1_bridgesOf_25 rfl (by rw [ex5]; rfl) (by decide) rfl ?_
      refine v_goto (tgt := 4) C dX1_bridgesOf_28 (by decide) ?_
      cases hf
      refine v_sub [1, 2, 3, 0] rfl ?_
      exact kb _ _ rfl
    · have hf := ip hf c4
      refine v_iload_n C 2 dX1_bridgesOf_19 rfl rfl ?_
      refine v_iconst (v := 1) C dX1_bridgesOf_20 (by decide) ?_
      refine v_iload_n C 3 dX1_bridgesOf_21 rfl rfl ?_
      refine v_ishl C dX1_bridgesOf_22 ?_
      refine v_ior C dX1_bridgesOf_23 ?_
      refine v_topi (fun x6 ex6 => ?_)
      have hf := bd_at hf ex6
      refine v_istore_n (lv2 := [(2, .int x6), (0, .ref (ad l0)), (1, .int l1), (3, .int l3)]) C dX1_bridgesOf_24 rfl (by decide) rfl ?_
      obtain ⟨x7, ex7⟩ : ∃ x : Int32, x = (l3 + 1) := ⟨_, rfl⟩
      have hf := bd_at hf ex7
      refine v_iinc (v := x7) (j := 3) (lv2 := [(3, .int x7), (2, .int x6), (0, .ref (ad l0)), (1, .int l1)]) C dX1_bridgesOf_25 rfl (by rw [ex7]; rfl) (by decide) rfl ?_
      refine v_goto (tgt := 4) C dX1_bridgesOf_28 (by decide) ?_
      cases hf
      refine v_sub [2, 3, 1, 0] rfl ?_
      exact kb _ _ rfl
def fX1_bridgesOf (sh : Sh) (G : Hp) (l0 : Nat) (l1 : Int32) : Option (Int32) := (iter (fun s : Int32 × Int32 => fX1_bridgesOf_S4 sh l0 l1 G s.1 s.2) fuel ((0, 0) : Int32 × Int32)).bind (fun u3 => bd u3 fun x2 => some x2)
set_option maxHeartbeats 4000000 in
theorem tX1_bridgesOf {E : EX} {ad : Nat → Nat} {sh : Sh} {G : Hp} {l0 : Nat} {l1 : Int32} {z : Int32} (C : Cx E RX1 cX1_bridgesOf 4 (some .int) 1 0 0) (hC : Cl sh G) (h_l0 : sh[l0]? = some (0, 1)) (hf : fX1_bridgesOf sh G l0 l1 = some z) (kr : RCi E cX1_bridgesOf ad sh z G) : VV E 0 0 (wq (xT E) ad G sh) 0 [(0, .ref (ad l0)), (1, .int l1)] [] := by
  unfold fX1_bridgesOf at hf
  refine v_iconst (v := 0) C dX1_bridgesOf_0 (by decide) ?_
  refine v_istore_n (lv2 := [(2, .int 0), (0, .ref (ad l0)), (1, .int l1)]) C dX1_bridgesOf_1 rfl (by decide) rfl ?_
  refine v_iconst (v := 0) C dX1_bridgesOf_2 (by decide) ?_
  refine v_istore_n (lv2 := [(3, .int 0), (2, .int 0), (0, .ref (ad l0)), (1, .int l1)]) C dX1_bridgesOf_3 rfl (by decide) rfl ?_
  obtain ⟨r1, qr1, hf⟩ := bn hf
  refine v_sub [2, 3, 1, 0] rfl ?_
  refine iter_sound (P := (fun s : Int32 × Int32 => VV E 0 0 (wq (xT E) ad (G) sh) 4 [(0, .ref (ad l0)), (1, .int (l1)), (2, .int (s.1)), (3, .int (s.2))] [])) (X := fun r => r = r1) (fun jsr1 jor1 hor1 jbr1 jxr1 => tX1_bridgesOf_S4 C hC h_l0 hor1 (fun _ _ e => jbr1 _ e) ?_) fuel _ r1 qr1 rfl
  · intro x2 hu
    have e := jxr1 _ hu
    subst e
    have hf := bd_at hf (rfl : x2 = _)
    refine v_iload_n C 2 dX1_bridgesOf_31 rfl rfl ?_
    cases hf
    exact kr _ _ dX1_bridgesOf_32 hC
theorem sX1_bridgesOf {l : Launch} {sh : Sh} {G : Hp} {l0 : Nat} {l1 : Int32} {z : Int32} (h_l0 : sh[l0]? = some (0, 1)) (hf : fX1_bridgesOf sh G l0 l1 = some z) : MC l yX1_bridgesOf cX1_bridgesOf 4 (some .int) 1 0 0 sh sh G G (fun ad => [.ref (ad l0), .int l1]) (fun _ => some (.int z)) := by
  refine MC_of rfl rfl (fun _ => Nat.le_of_ble_eq_true rfl) (fun E ad C hl hnm hC hQ => ?_)
  exact tX1_bridgesOf C hC h_l0 hf (fun pc lv hd hC => v_iret C hQ (fun _ _ => rfl) hC rfl hd)
def fJ6_bitCount_0f7a4 (l0 : Int32) : Option (Int32) := bd ((l0 - ((ush l0 1) &&& 1431655765)) : Int32) fun x1 => bd (((x1 &&& 858993459) + ((ush x1 2) &&& 858993459)) : Int32) fun x2 => bd (((x2 + (ush x2 4)) &&& 252645135) : Int32) fun x3 => bd ((x3 + (ush x3 8)) : Int32) fun x4 => bd ((x4 + (ush x4 16)) : Int32) fun x5 => some (x5 &&& 63)
set_option maxHeartbeats 4000000 in
theorem tJ6_bitCount_0f7a4 {E : EX} {ad : Nat → Nat} {sh : Sh} {G : Hp} {l0 : Int32} {z : Int32} (C : Cx E RJ6 cJ6_bitCount_0f7a4 1 (some .int) 1 0 0) (hC : Cl sh G) (hf : fJ6_bitCount_0f7a4 l0 = some z) (kr : RCi E cJ6_bitCount_0f7a4 ad sh z G) : VV E 0 0 (wq (xT E) ad G sh) 0 [(0, .int l0)] [] := by
  unfold fJ6_bitCount_0f7a4 at hf
  refine v_iload_n C 0 dJ6_bitCount_0f7a4_0 rfl rfl ?_
  refine v_iload_n C 0 dJ6_bitCount_0f7a4_1 rfl rfl ?_
  refine v_iconst (v := 1) C dJ6_bitCount_0f7a4_2 (by decide) ?_
  refine v_iushr C dJ6_bitCount_0f7a4_3 ?_
  refine v_ldcw (v := 1431655765) C dJ6_bitCount_0f7a4_4 kw_193 ?_
  refine v_iand C dJ6_bitCount_0f7a4_7 ?_
  refine v_isub C dJ6_bitCount_0f7a4_8 ?_
  refine v_topi (fun x1 ex1 => ?_)
  have hf := bd_at hf ex1
  refine v_istore_n (lv2 := [(0, .int x1)]) C dJ6_bitCount_0f7a4_9 rfl (by decide) rfl ?_
  refine v_iload_n C 0 dJ6_bitCount_0f7a4_10 rfl rfl ?_
  refine v_ldcw (v := 858993459) C dJ6_bitCount_0f7a4_11 kw_194 ?_
  refine v_iand C dJ6_bitCount_0f7a4_14 ?_
  refine v_iload_n C 0 dJ6_bitCount_0f7a4_15 rfl rfl ?_
  refine v_iconst (v := 2) C dJ6_bitCount_0f7a4_16 (by decide) ?_
  refine v_iushr C dJ6_bitCount_0f7a4_17 ?_
  refine v_ldcw (v := 858993459) C dJ6_bitCount_0f7a4_18 kw_194 ?_
  refine v_iand C dJ6_bitCount_0f7a4_21 ?_
  refine v_iadd C dJ6_bitCount_0f7a4_22 ?_
  refine v_topi (fun x2 ex2 => ?_)
  have hf := bd_at hf ex2
  refine v_istore_n (lv2 := [(0, .int x2)]) C dJ6_bitCount_0f7a4_23 rfl (by decide) rfl ?_
  refine v_iload_n C 0 dJ6_bitCount_0f7a4_24 rfl rfl ?_
  refine v_iload_n C 0 dJ6_bitCount_0f7a4_25 rfl rfl ?_
  refine v_iconst (v := 4) C dJ6_bitCount_0f7a4_26 (by decide) ?_
  refine v_iushr C dJ6_bitCount_0f7a4_27 ?_
  refine v_iadd C dJ6_bitCount_0f7a4_28 ?_
  refine v_ldcw (v := 252645135) C dJ6_bitCount_0f7a4_29 kw_195 ?_
  refine v_iand C dJ6_bitCount_0f7a4_32 ?_
  refine v_topi (fun x3 ex3 => ?_)
  have hf := bd_at hf ex3
  refine v_istore_n (lv2 := [(0, .int x3)]) C dJ6_bitCount_0f7a4_33 rfl (by decide) rfl ?_
  refine v_iload_n C 0 dJ6_bitCount_0f7a4_34 rfl rfl ?_
  refine v_iload_n C 0 dJ6_bitCount_0f7a4_35 rfl rfl ?_
  refine v_bipush (v := 8) C dJ6_bitCount_0f7a4_36 (by decide) ?_
  refine v_iushr C dJ6_bitCount_0f7a4_38 ?_
  refine v_iadd C dJ6_bitCount_0f7a4_39 ?_
  refine v_topi (fun x4 ex4 => ?_)
  have hf := bd_at hf ex4
  refine v_istore_n (lv2 := [(0, .int x4)]) C dJ6_bitCount_0f7a4_40 rfl (by decide) rfl ?_
  refine v_iload_n C 0 dJ6_bitCount_0f7a4_41 rfl rfl ?_
  refine v_iload_n C 0 dJ6_bitCount_0f7a4_42 rfl rfl ?_
  refine v_bipush (v := 16) C dJ6_bitCount_0f7a4_43 (by decide) ?_
  refine v_iushr C dJ6_bitCount_0f7a4_45 ?_
  refine v_iadd C dJ6_bitCount_0f7a4_46 ?_
  refine v_topi (fun x5 ex5 => ?_)
  have hf := bd_at hf ex5
  refine v_istore_n (lv2 := [(0, .int x5)]) C dJ6_bitCount_0f7a4_47 rfl (by decide) rfl ?_
  refine v_iload_n C 0 dJ6_bitCount_0f7a4_48 rfl rfl ?_
  refine v_bipush (v := 63) C dJ6_bitCount_0f7a4_49 (by decide) ?_
  refine v_iand C dJ6_bitCount_0f7a4_51 ?_
  cases hf
  exact kr _ _ dJ6_bitCount_0f7a4_52 hC
theorem sJ6_bitCount_0f7a4 {l : Launch} {sh : Sh} {G : Hp} {l0 : Int32} {z : Int32} (hf : fJ6_bitCount_0f7a4 l0 = some z) : MC l yJ6_bitCount_0f7a4 cJ6_bitCount_0f7a4 1 (some .int) 1 0 0 sh sh G G (fun ad => [.int l0]) (fun _ => some (.int z)) := by
  refine MC_of rfl rfl (fun _ => Nat.le_of_ble_eq_true rfl) (fun E ad C hl hnm hC hQ => ?_)
  exact tJ6_bitCount_0f7a4 C hC hf (fun pc lv hd hC => v_iret C hQ (fun _ _ => rfl) hC rfl hd)
def fX1_countOpen (sh : Sh) (G : Hp) (l0 : Nat) : Option (Int32) := (fX1_bridgesOf sh G l0 1).bind fun r1 => (fJ6_bitCount_0f7a4 r1).bind fun r2 => some r2
set_option maxHeartbeats 4000000 in
theorem tX1_countOpen {E : EX} {ad : Nat → Nat} {sh : Sh} {G : Hp} {l0 : Nat} {z : Int32} (C : Cx E RX1 cX1_countOpen 1 (some .int) 2 0 0) (hC : Cl sh G) (h_l0 : sh[l0]? = some (0, 1)) (hf : fX1_countOpen sh G l0 = some z) (kr : RCi E cX1_countOpen ad sh z G) : VV E 0 0 (wq (xT E) ad G sh) 0 [(0, .ref (ad l0))] [] := by
  unfold fX1_countOpen at hf
  refine v_aload_n C 0 dX1_countOpen_0 rfl rfl ?_
  refine v_iconst (v := 1) C dX1_countOpen_1 (by decide) ?_
  obtain ⟨r1, qr1, hf⟩ := bn hf
  refine v_callVi (As := [.int 1]) (rest := []) C (sX1_bridgesOf h_l0 qr1) cs_X1_80 (by decide) h_l0 rfl hC rfl rfl rfl (Nat.le_of_ble_eq_true rfl) ⟨Nat.le_refl _, Nat.le_refl _⟩ dX1_countOpen_2 (fun hC => ?_)
  obtain ⟨r2, qr2, hf⟩ := bn hf
  refine v_callSi (As := [.int r1]) (rest := []) C (sJ6_bitCount_0f7a4  qr2) cs_X1_84 (by decide) hC rfl rfl rfl (Nat.le_of_ble_eq_true rfl) ⟨Nat.le_refl _, Nat.le_refl _⟩ dX1_countOpen_5 (fun hC => ?_)
  cases hf
  exact kr _ _ dX1_countOpen_8 hC
theorem sX1_countOpen {l : Launch} {sh : Sh} {G : Hp} {l0 : Nat} {z : Int32} (h_l0 : sh[l0]? = some (0, 1)) (hf : fX1_countOpen sh G l0 = some z) : MC l yX1_countOpen cX1_countOpen 1 (some .int) 2 0 0 sh sh G G (fun ad => [.ref (ad l0)]) (fun _ => some (.int z)) := by
  refine MC_of rfl rfl (fun _ => Nat.le_of_ble_eq_true rfl) (fun E ad C hl hnm hC hQ => ?_)
  exact tX1_countOpen C hC h_l0 hf (fun pc lv hd hC => v_iret C hQ (fun _ _ => rfl) hC rfl hd)
def fX3_lookAt (sh : Sh) (G : Hp) (l0 : Nat) (l1 : Nat) (l2 : Nat) (l3 : Int32) : Option (Hp) := (ldA sh G l0 0 1).bind fun a1 => (ldA sh G l2 0 1).bind fun a2 => (aI sh G a2 l3).bind fun v3 => (asI sh G a1 0 v3).bind fun G4 => (ldA sh G4 l0 0 1).bind fun a5 => (ldA sh G4 l1 12 1).bind fun a6 => (aI sh G4 a6 l3).bind fun v7 => (asI sh G4 a5 1 v7).bind fun G8 => (ldA sh G8 l0 0 1).bind fun a9 => (asI sh G8 a9 2 (G8.1 l2 8)).bind fun G10 => (ldA sh G10 l0 0 1).bind fun a11 => (ldA sh G10 l2 2 1).bind fun a12 => (aI sh G10 a12 l3).bind fun v13 => (asI sh G10 a11 3 v13).bind fun G14 => (ldA sh G14 l0 0 1).bind fun a15 => (asI sh G14 a15 4 l3).bind fun G16 => (ldA sh G16 l0 0 1).bind fun a17 => (asI sh G16 a17 5 0).bind fun G18 => (ldA sh G18 l0 0 1).bind fun a19 => (asI sh G18 a19 6 0).bind fun G20 => (ldA sh G20 l0 0 1).bind fun a21 => (fX1_countOpen sh G20 l2).bind fun r22 => (asI sh G20 a21 7 r22).bind fun G23 => (ldA sh G23 l0 0 1).bind fun a24 => (asI sh G23 a24 8 (G23.1 l2 4)).bind fun G25 => some G25
set_option maxHeartbeats 4000000 in
theorem tX3_lookAt {E : EX} {ad : Nat → Nat} {sh : Sh} {G : Hp} {l0 : Nat} {l1 : Nat} {l2 : Nat} {l3 : Int32} {z : Hp} (C : Cx E RX3 cX3_lookAt 4 none 3 0 0) (hC : Cl sh G) (h_l0 : sh[l0]? = some (0, 3)) (h_l1 : sh[l1]? = some (0, 8)) (h_l2 : sh[l2]? = some (0, 1)) (hf : fX3_lookAt sh G l0 l1 l2 l3 = some z) (kr : RCv E cX3_lookAt ad sh z) : VV E 0 0 (wq (xT E) ad G sh) 0 [(0, .ref (ad l0)), (1, .ref (ad l1)), (2, .ref (ad l2)), (3, .int l3)] [] := by
  unfold fX3_lookAt at hf
  refine v_aload_n C 0 dX3_lookAt_0 rfl rfl ?_
  obtain ⟨a1, qa1, hf⟩ := bn hf
  refine v_getA C h_l0 fl_X3_9 qa1 dX3_lookAt_1 (fun h_a1 => ?_)
  refine v_iconst (v := 0) C dX3_lookAt_4 (by decide) ?_
  refine v_aload_n C 2 dX3_lookAt_5 rfl rfl ?_
  obtain ⟨a2, qa2, hf⟩ := bn hf
  refine v_getA C h_l2 fl_X3_63 qa2 dX3_lookAt_6 (fun h_a2 => ?_)
  refine v_iload_n C 3 dX3_lookAt_9 rfl rfl ?_
  obtain ⟨v3, qv3, hf⟩ := bn hf
  refine v_iald C h_a2 qv3 dX3_lookAt_10 ?_
  obtain ⟨G4, qG4, hf⟩ := bn hf
  refine v_iast C h_a1 qG4 hC dX3_lookAt_11 (fun hC => ?_)
  refine v_aload_n C 0 dX3_lookAt_12 rfl rfl ?_
  obtain ⟨a5, qa5, hf⟩ := bn hf
  refine v_getA C h_l0 fl_X3_9 qa5 dX3_lookAt_13 (fun h_a5 => ?_)
  refine v_iconst (v := 1) C dX3_lookAt_16 (by decide) ?_
  refine v_aload_n C 1 dX3_lookAt_17 rfl rfl ?_
  obtain ⟨a6, qa6, hf⟩ := bn hf
  refine v_getA C h_l1 fl_X3_66 qa6 dX3_lookAt_18 (fun h_a6 => ?_)
  refine v_iload_n C 3 dX3_lookAt_21 rfl rfl ?_
  obtain ⟨v7, qv7, hf⟩ := bn hf
  refine v_iald C h_a6 qv7 dX3_lookAt_22 ?_
  obtain ⟨G8, qG8, hf⟩ := bn hf
  refine v_iast C h_a5 qG8 hC dX3_lookAt_23 (fun hC => ?_)
  refine v_aload_n C 0 dX3_lookAt_24 rfl rfl ?_
  obtain ⟨a9, qa9, hf⟩ := bn hf
  refine v_getA C h_l0 fl_X3_9 qa9 dX3_lookAt_25 (fun h_a9 => ?_)
  refine v_iconst (v := 2) C dX3_lookAt_28 (by decide) ?_
  refine v_aload_n C 2 dX3_lookAt_29 rfl rfl ?_
  refine v_getI C h_l2 fl_X3_69 dX3_lookAt_30 ?_
  obtain ⟨G10, qG10, hf⟩ := bn hf
  refine v_iast C h_a9 qG10 hC dX3_lookAt_33 (fun hC => ?_)
  refine v_aload_n C 0 dX3_lookAt_34 rfl rfl ?_
  obtain ⟨a11, qa11, hf⟩ := bn hf
  refine v_getA C h_l0 fl_X3_9 qa11 dX3_lookAt_35 (fun h_a11 => ?_)
  refine v_iconst (v := 3) C dX3_lookAt_38 (by decide) ?_
  refine v_aload_n C 2 dX3_lookAt_39 rfl rfl ?_
  obtain ⟨a12, qa12, hf⟩ := bn hf
  refine v_getA C h_l2 fl_X3_73 qa12 dX3_lookAt_40 (fun h_a12 => ?_)
  refine v_iload_n C 3 dX3_lookAt_43 rfl rfl ?_
  obtain ⟨v13, qv13, hf⟩ := bn hf
  refine v_iald C h_a12 qv13 dX3_lookAt_44 ?_
  obtain ⟨G14, qG14, hf⟩ := bn hf
  refine v_iast C h_a11 qG14 hC dX3_lookAt_45 (fun hC => ?_)
  refine v_aload_n C 0 dX3_lookAt_46 rfl rfl ?_
  obtain ⟨a15, qa15, hf⟩ := bn hf
  refine v_getA C h_l0 fl_X3_9 qa15 dX3_lookAt_47 (fun h_a15 => ?_)
  refine v_iconst (v := 4) C dX3_lookAt_50 (by decide) ?_
  refine v_iload_n C 3 dX3_lookAt_51 rfl rfl ?_
  obtain ⟨G16, qG16, hf⟩ := bn hf
  refine v_iast C h_a15 qG16 hC dX3_lookAt_52 (fun hC => ?_)
  refine v_aload_n C 0 dX3_lookAt_53 rfl rfl ?_
  obtain ⟨a17, qa17, hf⟩ := bn hf
  refine v_getA C h_l0 fl_X3_9 qa17 dX3_lookAt_54 (fun h_a17 => ?_)
  refine v_iconst (v := 5) C dX3_lookAt_57 (by decide) ?_
  refine v_iconst (v := 0) C dX3_lookAt_58 (by decide) ?_
  obtain ⟨G18, qG18, hf⟩ := bn hf
  refine v_iast C h_a17 qG18 hC dX3_lookAt_59 (fun hC => ?_)
  refine v_aload_n C 0 dX3_lookAt_60 rfl rfl ?_
  obtain ⟨a19, qa19, hf⟩ := bn hf
  refine v_getA C h_l0 fl_X3_9 qa19 dX3_lookAt_61 (fun h_a19 => ?_)
  refine v_bipush (v := 6) C dX3_lookAt_64 (by decide) ?_
  refine v_iconst (v := 0) C dX3_lookAt_66 (by decide) ?_
  obtain ⟨G20, qG20, hf⟩ := bn hf
  refine v_iast C h_a19 qG20 hC dX3_lookAt_67 (fun hC => ?_)
  refine v_aload_n C 0 dX3_lookAt_68 rfl rfl ?_
  obtain ⟨a21, qa21, hf⟩ := bn hf
  refine v_getA C h_l0 fl_X3_9 qa21 dX3_lookAt_69 (fun h_a21 => ?_)
  refine v_bipush (v := 7) C dX3_lookAt_72 (by decide) ?_
  refine v_aload_n C 2 dX3_lookAt_74 rfl rfl ?_
  obtain ⟨r22, qr22, hf⟩ := bn hf
  refine v_callVi (As := []) (rest := [.int 7, .ref (ad a21)]) C (sX1_countOpen h_l2 qr22) cs_X3_76 (by decide) h_l2 rfl hC rfl rfl rfl (Nat.le_of_ble_eq_true rfl) ⟨Nat.le_refl _, Nat.le_refl _⟩ dX3_lookAt_75 (fun hC => ?_)
  obtain ⟨G23, qG23, hf⟩ := bn hf
  refine v_iast C h_a21 qG23 hC dX3_lookAt_78 (fun hC => ?_)
  refine v_aload_n C 0 dX3_lookAt_79 rfl rfl ?_
  obtain ⟨a24, qa24, hf⟩ := bn hf
  refine v_getA C h_l0 fl_X3_9 qa24 dX3_lookAt_80 (fun h_a24 => ?_)
  refine v_bipush (v := 8) C dX3_lookAt_83 (by decide) ?_
  refine v_aload_n C 2 dX3_lookAt_85 rfl rfl ?_
  refine v_getI C h_l2 fl_X3_80 dX3_lookAt_86 ?_
  obtain ⟨G25, qG25, hf⟩ := bn hf
  refine v_iast C h_a24 qG25 hC dX3_lookAt_89 (fun hC => ?_)
  cases hf
  exact kr _ _ dX3_lookAt_90 hC
theorem sX3_lookAt {l : Launch} {sh : Sh} {G : Hp} {l0 : Nat} {l1 : Nat} {l2 : Nat} {l3 : Int32} {z : Hp} (h_l0 : sh[l0]? = some (0, 3)) (h_l1 : sh[l1]? = some (0, 8)) (h_l2 : sh[l2]? = some (0, 1)) (hf : fX3_lookAt sh G l0 l1 l2 l3 = some z) : MC l yX3_lookAt cX3_lookAt 4 none 3 0 0 sh sh G z (fun ad => [.ref (ad l0), .ref (ad l1), .ref (ad l2), .int l3]) (fun _ => none) := by
  refine MC_of rfl rfl (fun _ => Nat.le_of_ble_eq_true rfl) (fun E ad C hl hnm hC hQ => ?_)
  exact tX3_lookAt C hC h_l0 h_l1 h_l2 hf (fun pc lv hd hC => v_vret C hQ (fun _ _ => rfl) hC rfl hd)
def fX4_varOf (sh : Sh) (G : Hp) (l0 : Int32) (l1 : Nat) : Option (Int32) := bd ((((-1) : Int32) - l0) : Int32) fun x1 => if x1 < 0 then some 0 else if (nI (ln sh l1)) ≤ x1 then some 0 else (aI sh G l1 x1).bind fun v4 => some v4
set_option maxHeartbeats 4000000 in
theorem tX4_varOf {E : EX} {ad : Nat → Nat} {sh : Sh} {G : Hp} {l0 : Int32} {l1 : Nat} {z : Int32} (C : Cx E RX4 cX4_varOf 3 (some .int) 1 0 0) (hC : Cl sh G) (h_l1 : tg sh l1 1) (hf : fX4_varOf sh G l0 l1 = some z) (kr : RCi E cX4_varOf ad sh z G) : VV E 0 0 (wq (xT E) ad G sh) 0 [(0, .int l0), (1, .ref (ad l1))] [] := by
  unfold fX4_varOf at hf
  refine v_iconst (v := (-1)) C dX4_varOf_0 (by decide) ?_
  refine v_iload_n C 0 dX4_varOf_1 rfl rfl ?_
  refine v_isub C dX4_varOf_2 ?_
  refine v_topi (fun x1 ex1 => ?_)
  have hf := bd_at hf ex1
  refine v_istore_n (lv2 := [(2, .int x1), (0, .int l0), (1, .ref (ad l1))]) C dX4_varOf_3 rfl (by decide) rfl ?_
  refine v_iload_n C 0 dX4_varOf_4 rfl rfl ?_
  refine v_if_lt (tgt := 20) C dX4_varOf_5 (by decide) (fun c2 => ?_) (fun c2 => ?_)
  · have hf := ip hf c2
    refine v_iconst (v := 0) C dX4_varOf_20 (by decide) ?_
    cases hf
    exact kr _ _ dX4_varOf_21 hC
  · have hf := im hf c2
    refine v_iload_n C 0 dX4_varOf_8 rfl rfl ?_
    refine v_aload_n C 2 dX4_varOf_9 rfl rfl ?_
    refine v_alen C h_l1 (by decide) dX4_varOf_10 ?_
    refine v_icmp_ge (tgt := 20) C dX4_varOf_11 (by decide) (fun c3 => ?_) (fun c3 => ?_)
    · have hf := ip hf c3
      refine v_iconst (v := 0) C dX4_varOf_20 (by decide) ?_
      cases hf
      exact kr _ _ dX4_varOf_21 hC
    · have hf := im hf c3
      refine v_aload_n C 2 dX4_varOf_14 rfl rfl ?_
      refine v_iload_n C 0 dX4_varOf_15 rfl rfl ?_
      obtain ⟨v4, qv4, hf⟩ := bn hf
      refine v_iald C h_l1 qv4 dX4_varOf_16 ?_
      refine v_goto (tgt := 21) C dX4_varOf_17 (by decide) ?_
      cases hf
      exact kr _ _ dX4_varOf_21 hC
theorem sX4_varOf {l : Launch} {sh : Sh} {G : Hp} {l0 : Int32} {l1 : Nat} {z : Int32} (h_l1 : tg sh l1 1) (hf : fX4_varOf sh G l0 l1 = some z) : MC l yX4_varOf cX4_varOf 3 (some .int) 1 0 0 sh sh G G (fun ad => [.int l0, .ref (ad l1)]) (fun _ => some (.int z)) := by
  refine MC_of rfl rfl (fun _ => Nat.le_of_ble_eq_true rfl) (fun E ad C hl hnm hC hQ => ?_)
  exact tX4_varOf C hC h_l1 hf (fun pc lv hd hC => v_iret C hQ (fun _ _ => rfl) hC rfl hd)
def fX4_join (l0 : Int32) (l1 : Int32) (l2 : Int32) : Option (Int32) := if l0 = (-13) then some (l1 * l2) else if l0 = (-12) then some (l1 - l2) else if l0 = (-11) then some (l1 + l2) else if l2 = 0 then some 0 else if l2 = 0 then none else some (l1 / l2)
set_option maxHeartbeats 4000000 in
theorem tX4_join {E : EX} {ad : Nat → Nat} {sh : Sh} {G : Hp} {l0 : Int32} {l1 : Int32} {l2 : Int32} {z : Int32} (C : Cx E RX4 cX4_join 3 (some .int) 1 0 0) (hC : Cl sh G) (hf : fX4_join l0 l1 l2 = some z) (kr : RCi E cX4_join ad sh z G) : VV E 0 0 (wq (xT E) ad G sh) 0 [(0, .int l0), (1, .int l1), (2, .int l2)] [] := by
  unfold fX4_join at hf
  refine v_iload_n C 0 dX4_join_0 rfl rfl ?_
  by_cases c1 : l0 = (-13)
  · have hf := ip hf c1
    refine v_tableIn (off := 35) (tgt := 36) C dX4_join_1 (by rw [c1]; decide) (by rw [c1]; decide) (by rw [c1]; decide) (by decide) ?_
    refine v_iload_n C 1 dX4_join_36 rfl rfl ?_
    refine v_iload_n C 2 dX4_join_37 rfl rfl ?_
    refine v_imul C dX4_join_38 ?_
    cases hf
    exact kr _ _ dX4_join_39 hC
  · have hf := im hf c1
    by_cases c2 : l0 = (-12)
    · have hf := ip hf c2
      refine v_tableIn (off := 31) (tgt := 32) C dX4_join_1 (by rw [c2]; decide) (by rw [c2]; decide) (by rw [c2]; decide) (by decide) ?_
      refine v_iload_n C 1 dX4_join_32 rfl rfl ?_
      refine v_iload_n C 2 dX4_join_33 rfl rfl ?_
      refine v_isub C dX4_join_34 ?_
      cases hf
      exact kr _ _ dX4_join_35 hC
    · have hf := im hf c2
      by_cases c3 : l0 = (-11)
      · have hf := ip hf c3
        refine v_tableIn (off := 27) (tgt := 28) C dX4_join_1 (by rw [c3]; decide) (by rw [c3]; decide) (by rw [c3]; decide) (by decide) ?_
        refine v_iload_n C 1 dX4_join_28 rfl rfl ?_
        refine v_iload_n C 2 dX4_join_29 rfl rfl ?_
        refine v_iadd C dX4_join_30 ?_
        cases hf
        exact kr _ _ dX4_join_31 hC
      · have hf := im hf c3
        refine v_tableOut (tgt := 40) C dX4_join_1 (tsw_out (by decide) (by decide) (fun k hk => match k, hk with | 0, _ => fun e => c1 (e.trans (by decide)) | 1, _ => fun e => c2 (e.trans (by decide)) | 2, _ => fun e => c3 (e.trans (by decide)) | k + 3, hk => absurd hk (by simp only [show (Int.toNat ((-11) - (-13) + 1)) = 3 from rfl]; omega))) (by decide) ?_
        refine v_iload_n C 2 dX4_join_40 rfl rfl ?_
        refine v_if_ne (tgt := 48) C dX4_join_41 (by decide) (fun c4 => ?_) (fun c4 => ?_)
        · have hf := im hf c4
          refine v_iload_n C 1 dX4_join_48 rfl rfl ?_
          refine v_iload_n C 2 dX4_join_49 rfl rfl ?_
          obtain ⟨hz5, hf⟩ := iz hf
          refine v_idiv C dX4_join_50 hz5 ?_
          cases hf
          exact kr _ _ dX4_join_51 hC
        · have hf := ip hf c4
          refine v_iconst (v := 0) C dX4_join_44 (by decide) ?_
          refine v_goto (tgt := 51) C dX4_join_45 (by decide) ?_
          cases hf
          exact kr _ _ dX4_join_51 hC
theorem sX4_join {l : Launch} {sh : Sh} {G : Hp} {l0 : Int32} {l1 : Int32} {l2 : Int32} {z : Int32} (hf : fX4_join l0 l1 l2 = some z) : MC l yX4_join cX4_join 3 (some .int) 1 0 0 sh sh G G (fun ad => [.int l0, .int l1, .int l2]) (fun _ => some (.int z)) := by
  refine MC_of rfl rfl (fun _ => Nat.le_of_ble_eq_true rfl) (fun E ad C hl hnm hC hQ => ?_)
  exact tX4_join C hC hf (fun pc lv hd hC => v_iret C hQ (fun _ _ => rfl) hC rfl hd)
def fX4_partBy_J126L34 (sh : Sh) (G : Hp) (l0 : Nat) (l1 : Int32) (l2 : Nat) (l3 : Int32) (l4 : Int32) (l5 : Int32) : Option ((Hp × Int32 × Int32) ⊕ ((Hp × Int32) ⊕ (Hp))) := (ldA sh G l0 4 1).bind fun a1 => (ldA sh G l0 4 1).bind fun a2 => (aI sh G a2 (l3 - 1)).bind fun v3 => (ldA sh G l0 4 1).bind fun a4 => (aI sh G a4 l3).bind fun v5 => (fX4_join l5 v3 v5).bind fun r6 => (asI sh G a1 (l3 - 1) r6).bind fun G7 => bd ((l4 + 1) : Int32) fun x8 => some (.inl (G7, l3, x8))
set_option maxHeartbeats 4000000 in
theorem tX4_partBy_J126L34 {E : EX} {ad : Nat → Nat} {sh : Sh} {G : Hp} {l0 : Nat} {l1 : Int32} {l2 : Nat} {l3 : Int32} {l4 : Int32} {l5 : Int32} {o : (Hp × Int32 × Int32) ⊕ ((Hp × Int32) ⊕ (Hp))} (C : Cx E RX4 cX4_partBy 6 (some .long) 2 0 0) (hC : Cl sh G) (h_l0 : sh[l0]? = some (0, 4)) (h_l2 : tg sh l2 1) (hf : fX4_partBy_J126L34 sh G l0 l1 l2 l3 l4 l5 = some o) (kb : ∀ (G2 : Hp) (b_l3 : Int32) (b_l4 : Int32), o = .inl (G2, b_l3, b_l4) → Cl sh G2 → VV E 0 0 (wq (xT E) ad G2 sh) 34 [(0, .ref (ad l0)), (1, .int l1), (2, .ref (ad l2)), (3, .int b_l3), (4, .int b_l4)] []) (kx159 : ∀ (G2 : Hp) (b_l3 : Int32), o = .inr (.inl (G2, b_l3)) → Cl sh G2 → VV E 0 0 (wq (xT E) ad G2 sh) 159 [(0, .ref (ad l0)), (1, .int l1), (2, .ref (ad l2)), (3, .int b_l3)] []) (kx122 : ∀ (G2 : Hp), o = .inr (.inr G2) → Cl sh G2 → VV E 0 0 (wq (xT E) ad G2 sh) 122 [(0, .ref (ad l0)), (1, .int l1), (2, .ref (ad l2))] []) : VV E 0 0 (wq (xT E) ad G sh) 126 [(0, .ref (ad l0)), (1, .int l1), (2, .ref (ad l2)), (3, .int l3), (4, .int l4), (5, .int l5)] [] := by
  unfold fX4_partBy_J126L34 at hf
  refine v_aload_n C 0 dX4_partBy_126 rfl rfl ?_
  obtain ⟨a1, qa1, hf⟩ := bn hf
  refine v_getA C h_l0 fl_X4_20 qa1 dX4_partBy_127 (fun h_a1 => ?_)
  refine v_iload_n C 3 dX4_partBy_130 rfl rfl ?_
  refine v_iconst (v := 1) C dX4_partBy_131 (by decide) ?_
  refine v_isub C dX4_partBy_132 ?_
  refine v_iload C 5 dX4_partBy_133 rfl ?_
  refine v_aload_n C 0 dX4_partBy_135 rfl rfl ?_
  obtain ⟨a2, qa2, hf⟩ := bn hf
  refine v_getA C h_l0 fl_X4_20 qa2 dX4_partBy_136 (fun h_a2 => ?_)
  refine v_iload_n C 3 dX4_partBy_139 rfl rfl ?_
  refine v_iconst (v := 1) C dX4_partBy_140 (by decide) ?_
  refine v_isub C dX4_partBy_141 ?_
  obtain ⟨v3, qv3, hf⟩ := bn hf
  refine v_iald C h_a2 qv3 dX4_partBy_142 ?_
  refine v_aload_n C 0 dX4_partBy_143 rfl rfl ?_
  obtain ⟨a4, qa4, hf⟩ := bn hf
  refine v_getA C h_l0 fl_X4_20 qa4 dX4_partBy_144 (fun h_a4 => ?_)
  refine v_iload_n C 3 dX4_partBy_147 rfl rfl ?_
  obtain ⟨v5, qv5, hf⟩ := bn hf
  refine v_iald C h_a4 qv5 dX4_partBy_148 ?_
  obtain ⟨r6, qr6, hf⟩ := bn hf
  refine v_callSi (As := [.int l5, .int v3, .int v5]) (rest := [.int (l3 - 1), .ref (ad a1)]) C (sX4_join  qr6) cs_X4_54 (by decide) hC rfl rfl rfl (Nat.le_of_ble_eq_true rfl) ⟨Nat.le_refl _, Nat.le_refl _⟩ dX4_partBy_149 (fun hC => ?_)
  obtain ⟨G7, qG7, hf⟩ := bn hf
  refine v_iast C h_a1 qG7 hC dX4_partBy_152 (fun hC => ?_)
  obtain ⟨x8, ex8⟩ : ∃ x : Int32, x = (l4 + 1) := ⟨_, rfl⟩
  have hf := bd_at hf ex8
  refine v_iinc (v := x8) (j := 4) (lv2 := [(4, .int x8), (0, .ref (ad l0)), (1, .int l1), (2, .ref (ad l2)), (3, .int l3), (5, .int l5)]) C dX4_partBy_153 rfl (by rw [ex8]; rfl) (by decide) rfl ?_
  refine v_goto (tgt := 34) C dX4_partBy_156 (by decide) ?_
  cases hf
  refine v_sub [1, 2, 3, 4, 0] rfl ?_
  exact kb _ _ _ rfl hC
def fX4_partBy_S34 (sh : Sh) (l0 : Nat) (l1 : Int32) (l2 : Nat) (G : Hp) (l3 : Int32) (l4 : Int32) : Option ((Hp × Int32 × Int32) ⊕ ((Hp × Int32) ⊕ (Hp))) := (ldA sh G l0 2 1).bind fun a1 => (aI sh G a1 l1).bind fun v2 => if v2 ≤ l4 then some (.inr (.inl (G, l3))) else (ldA sh G l0 0 1).bind fun a4 => (aI sh G a4 l4).bind fun v5 => if v5 ≤ (-11) then if l3 < 2 then bd ((l4 + 1) : Int32) fun x8 => some (.inl (G, l3, x8)) else bd ((l3 + (-1)) : Int32) fun x9 => if v5 = (-14) then (ldA sh G l0 4 1).bind fun a11 => (aI sh G a11 x9).bind fun v12 => if v12 = 0 then some (.inr (.inr G)) else fX4_partBy_J126L34 sh G l0 l1 l2 x9 l4 v5 else fX4_partBy_J126L34 sh G l0 l1 l2 x9 l4 v5 else (ldA sh G l0 4 1).bind fun a14 => if (nI (ln sh a14)) ≤ l3 then bd ((l4 + 1) : Int32) fun x16 => some (.inl (G, l3, x16)) else (ldA sh G l0 4 1).bind fun a17 => if v5 < 0 then (fX4_varOf sh G v5 l2).bind fun r19 => (asI sh G a17 l3 r19).bind fun G20 => bd ((l3 + 1) : Int32) fun x21 => bd ((l4 + 1) : Int32) fun x22 => some (.inl (G20, x21, x22)) else (asI sh G a17 l3 v5).bind fun G23 => bd ((l3 + 1) : Int32) fun x24 => bd ((l4 + 1) : Int32) fun x25 => some (.inl (G23, x24, x25))
set_option maxHeartbeats 4000000 in
theorem tX4_partBy_S34 {E : EX} {ad : Nat → Nat} {sh : Sh} {G : Hp} {l0 : Nat} {l1 : Int32} {l2 : Nat} {l3 : Int32} {l4 : Int32} {o : (Hp × Int32 × Int32) ⊕ ((Hp × Int32) ⊕ (Hp))} (C : Cx E RX4 cX4_partBy 6 (some .long) 2 0 0) (hC : Cl sh G) (h_l0 : sh[l0]? = some (0, 4)) (h_l2 : tg sh l2 1) (hf : fX4_partBy_S34 sh l0 l1 l2 G l3 l4 = some o) (kb : ∀ (G2 : Hp) (b_l3 : Int32) (b_l4 : Int32), o = .inl (G2, b_l3, b_l4) → Cl sh G2 → VV E 0 0 (wq (xT E) ad G2 sh) 34 [(0, .ref (ad l0)), (1, .int l1), (2, .ref (ad l2)), (3, .int b_l3), (4, .int b_l4)] []) (kx159 : ∀ (G2 : Hp) (b_l3 : Int32), o = .inr (.inl (G2, b_l3)) → Cl sh G2 → VV E 0 0 (wq (xT E) ad G2 sh) 159 [(0, .ref (ad l0)), (1, .int l1), (2, .ref (ad l2)), (3, .int b_l3)] []) (kx122 : ∀ (G2 : Hp), o = .inr (.inr G2) → Cl sh G2 → VV E 0 0 (wq (xT E) ad G2 sh) 122 [(0, .ref (ad l0)), (1, .int l1), (2, .ref (ad l2))] []) : VV E 0 0 (wq (xT E) ad G sh) 34 [(0, .ref (ad l0)), (1, .int l1), (2, .ref (ad l2)), (3, .int l3), (4, .int l4)] [] := by
  unfold fX4_partBy_S34 at hf
  refine v_iload C 4 dX4_partBy_34 rfl ?_
  refine v_aload_n C 0 dX4_partBy_36 rfl rfl ?_
  obtain ⟨a1, qa1, hf⟩ := bn hf
  refine v_getA C h_l0 fl_X4_17 qa1 dX4_partBy_37 (fun h_a1 => ?_)
  refine v_iload_n C 1 dX4_partBy_40 rfl rfl ?_
  obtain ⟨v2, qv2, hf⟩ := bn hf
  refine v_iald C h_a1 qv2 dX4_partBy_41 ?_
  refine v_icmp_ge (tgt := 159) C dX4_partBy_42 (by decide) (fun c3 => ?_) (fun c3 => ?_)
  · have hf := ip hf c3
    cases hf
    refine v_sub [0, 1, 2, 3] rfl ?_
    exact kx159 _ _ rfl hC
  · have hf := im hf c3
    refine v_aload_n C 0 dX4_partBy_45 rfl rfl ?_
    obtain ⟨a4, qa4, hf⟩ := bn hf
    refine v_getA C h_l0 fl_X4_11 qa4 dX4_partBy_46 (fun h_a4 => ?_)
    refine v_iload C 4 dX4_partBy_49 rfl ?_
    obtain ⟨v5, qv5, hf⟩ := bn hf
    refine v_iald C h_a4 qv5 dX4_partBy_51 ?_
    refine v_istore (lv2 := [(5, .int v5), (0, .ref (ad l0)), (1, .int l1), (2, .ref (ad l2)), (3, .int l3), (4, .int l4)]) C dX4_partBy_52 (by decide) rfl ?_
    refine v_iload C 0 dX4_partBy_54 rfl ?_
    refine v_bipush (v := (-11)) C dX4_partBy_56 (by decide) ?_
    refine v_icmp_le (tgt := 98) C dX4_partBy_58 (by decide) (fun c6 => ?_) (fun c6 => ?_)
    · have hf := ip hf c6
      refine v_iload_n C 4 dX4_partBy_98 rfl rfl ?_
      refine v_iconst (v := 2) C dX4_partBy_99 (by decide) ?_
      refine v_icmp_lt (tgt := 153) C dX4_partBy_100 (by decide) (fun c7 => ?_) (fun c7 => ?_)
      · have hf := ip hf c7
        obtain ⟨x8, ex8⟩ : ∃ x : Int32, x = (l4 + 1) := ⟨_, rfl⟩
        have hf := bd_at hf ex8
        refine v_iinc (v := x8) (j := 5) (lv2 := [(4, .int x8), (5, .int v5), (0, .ref (ad l0)), (1, .int l1), (2, .ref (ad l2)), (3, .int l3)]) C dX4_partBy_153 rfl (by rw [ex8]; rfl) (by decide) rfl ?_
        refine v_goto (tgt := 34) C dX4_partBy_156 (by decide) ?_
        cases hf
        refine v_sub [2, 3, 4, 5, 0] rfl ?_
        exact kb _ _ _ rfl hC
      · have hf := im hf c7
        obtain ⟨x9, ex9⟩ : ∃ x : Int32, x = (l3 + (-1)) := ⟨_, rfl⟩
        have hf := bd_at hf ex9
        refine v_iinc (v := x9) (j := 4) (lv2 := [(3, .int x9), (5, .int v5), (0, .ref (ad l0)), (1, .int l1), (2, .ref (ad l2)), (4, .int l4)]) C dX4_partBy_103 rfl (by rw [ex9]; rfl) (by decide) rfl ?_
        refine v_iload C 1 dX4_partBy_106 rfl ?_
        refine v_bipush (v := (-14)) C dX4_partBy_108 (by decide) ?_
        refine v_icmp_ne (tgt := 126) C dX4_partBy_110 (by decide) (fun c10 => ?_) (fun c10 => ?_)
        · have hf := im hf c10
          refine v_sub [2, 3, 4, 0, 5, 1] rfl ?_
          exact tX4_partBy_J126L34 C hC h_l0 h_l2 hf kb kx159 kx122
        · have hf := ip hf c10
          refine v_aload_n C 2 dX4_partBy_113 rfl rfl ?_
          obtain ⟨a11, qa11, hf⟩ := bn hf
          refine v_getA C h_l0 fl_X4_20 qa11 dX4_partBy_114 (fun h_a11 => ?_)
          refine v_iload_n C 0 dX4_partBy_117 rfl rfl ?_
          obtain ⟨v12, qv12, hf⟩ := bn hf
          refine v_iald C h_a11 qv12 dX4_partBy_118 ?_
          refine v_if_ne (tgt := 126) C dX4_partBy_119 (by decide) (fun c13 => ?_) (fun c13 => ?_)
          · have hf := im hf c13
            refine v_sub [2, 3, 4, 0, 5, 1] rfl ?_
            exact tX4_partBy_J126L34 C hC h_l0 h_l2 hf kb kx159 kx122
          · have hf := ip hf c13
            cases hf
            refine v_sub [2, 3, 4] rfl ?_
            exact kx122 _ rfl hC
    · have hf := im hf c6
      refine v_iload_n C 4 dX4_partBy_61 rfl rfl ?_
      refine v_aload_n C 1 dX4_partBy_62 rfl rfl ?_
      obtain ⟨a14, qa14, hf⟩ := bn hf
      refine v_getA C h_l0 fl_X4_20 qa14 dX4_partBy_63 (fun h_a14 => ?_)
      refine v_alen C h_a14 (by decide) dX4_partBy_66 ?_
      refine v_icmp_ge (tgt := 153) C dX4_partBy_67 (by decide) (fun c15 => ?_) (fun c15 => ?_)
      · have hf := ip hf c15
        obtain ⟨x16, ex16⟩ : ∃ x : Int32, x = (l4 + 1) := ⟨_, rfl⟩
        have hf := bd_at hf ex16
        refine v_iinc (v := x16) (j := 5) (lv2 := [(4, .int x16), (5, .int v5), (0, .ref (ad l0)), (1, .int l1), (2, .ref (ad l2)), (3, .int l3)]) C dX4_partBy_153 rfl (by rw [ex16]; rfl) (by decide) rfl ?_
        refine v_goto (tgt := 34) C dX4_partBy_156 (by decide) ?_
        cases hf
        refine v_sub [2, 3, 4, 5, 0] rfl ?_
        exact kb _ _ _ rfl hC
      · have hf := im hf c15
        refine v_aload_n C 1 dX4_partBy_70 rfl rfl ?_
        obtain ⟨a17, qa17, hf⟩ := bn hf
        refine v_getA C h_l0 fl_X4_20 qa17 dX4_partBy_71 (fun h_a17 => ?_)
        refine v_iload_n C 4 dX4_partBy_74 rfl rfl ?_
        refine v_iload C 0 dX4_partBy_75 rfl ?_
        refine v_if_lt (tgt := 85) C dX4_partBy_77 (by decide) (fun c18 => ?_) (fun c18 => ?_)
        · have hf := ip hf c18
          refine v_iload C 0 dX4_partBy_85 rfl ?_
          refine v_aload_n C 3 dX4_partBy_87 rfl rfl ?_
          obtain ⟨r19, qr19, hf⟩ := bn hf
          refine v_callSi (As := [.int v5, .ref (ad l2)]) (rest := [.int l3, .ref (ad a17)]) C (sX4_varOf h_l2 qr19) cs_X4_50 (by decide) hC rfl rfl rfl (Nat.le_of_ble_eq_true rfl) ⟨Nat.le_refl _, Nat.le_refl _⟩ dX4_partBy_88 (fun hC => ?_)
          obtain ⟨G20, qG20, hf⟩ := bn hf
          refine v_iast C h_a17 qG20 hC dX4_partBy_91 (fun hC => ?_)
          obtain ⟨x21, ex21⟩ : ∃ x : Int32, x = (l3 + 1) := ⟨_, rfl⟩
          have hf := bd_at hf ex21
          refine v_iinc (v := x21) (j := 4) (lv2 := [(3, .int x21), (5, .int v5), (0, .ref (ad l0)), (1, .int l1), (2, .ref (ad l2)), (4, .int l4)]) C dX4_partBy_92 rfl (by rw [ex21]; rfl) (by decide) rfl ?_
          refine v_goto (tgt := 153) C dX4_partBy_95 (by decide) ?_
          obtain ⟨x22, ex22⟩ : ∃ x : Int32, x = (l4 + 1) := ⟨_, rfl⟩
          have hf := bd_at hf ex22
          refine v_iinc (v := x22) (j := 5) (lv2 := [(4, .int x22), (3, .int x21), (5, .int v5), (0, .ref (ad l0)), (1, .int l1), (2, .ref (ad l2))]) C dX4_partBy_153 rfl (by rw [ex22]; rfl) (by decide) rfl ?_
          refine v_goto (tgt := 34) C dX4_partBy_156 (by decide) ?_
          cases hf
          refine v_sub [3, 4, 5, 1, 0] rfl ?_
          exact kb _ _ _ rfl hC
        · have hf := im hf c18
          refine v_iload C 0 dX4_partBy_80 rfl ?_
          refine v_goto (tgt := 91) C dX4_partBy_82 (by decide) ?_
          obtain ⟨G23, qG23, hf⟩ := bn hf
          refine v_iast C h_a17 qG23 hC dX4_partBy_91 (fun hC => ?_)
          obtain ⟨x24, ex24⟩ : ∃ x : Int32, x = (l3 + 1) := ⟨_, rfl⟩
          have hf := bd_at hf ex24
          refine v_iinc (v := x24) (j := 4) (lv2 := [(3, .int x24), (5, .int v5), (0, .ref (ad l0)), (1, .int l1), (2, .ref (ad l2)), (4, .int l4)]) C dX4_partBy_92 rfl (by rw [ex24]; rfl) (by decide) rfl ?_
          refine v_goto (tgt := 153) C dX4_partBy_95 (by decide) ?_
          obtain ⟨x25, ex25⟩ : ∃ x : Int32, x = (l4 + 1) := ⟨_, rfl⟩
          have hf := bd_at hf ex25
          refine v_iinc (v := x25) (j := 5) (lv2 := [(4, .int x25), (3, .int x24), (5, .int v5), (0, .ref (ad l0)), (1, .int l1), (2, .ref (ad l2))]) C dX4_partBy_153 rfl (by rw [ex25]; rfl) (by decide) rfl ?_
          refine v_goto (tgt := 34) C dX4_partBy_156 (by decide) ?_
          cases hf
          refine v_sub [3, 4, 5, 1, 0] rfl ?_
          exact kb _ _ _ rfl hC
def fX4_partBy_J32 (sh : Sh) (G : Hp) (l0 : Nat) (l1 : Int32) (l2 : Nat) (l3 : Int32) (s0 : Int32) : Option (Int64 × Hp) := (iter (fun s : Hp × Int32 × Int32 => fX4_partBy_S34 sh l0 l1 l2 s.1 s.2.1 s.2.2) fuel ((G, l3, s0) : Hp × Int32 × Int32)).bind (Sum.elim (fun u7 => bd u7.1 fun G2 => bd u7.2 fun x3 => if x3 ≤ 0 then some (0, G2) else (ldA sh G2 l0 4 1).bind fun a5 => (aI sh G2 a5 (x3 - 1)).bind fun v6 => some ((Int32.toInt64 v6), G2)) (fun u9 => bd u9 fun G8 => some ((-9223372036854775808), G8)))
set_option maxHeartbeats 4000000 in
theorem tX4_partBy_J32 {E : EX} {ad : Nat → Nat} {sh : Sh} {G : Hp} {l0 : Nat} {l1 : Int32} {l2 : Nat} {l3 : Int32} {s0 : Int32} {z : Int64 × Hp} (C : Cx E RX4 cX4_partBy 6 (some .long) 2 0 0) (hC : Cl sh G) (h_l0 : sh[l0]? = some (0, 4)) (h_l2 : tg sh l2 1) (hf : fX4_partBy_J32 sh G l0 l1 l2 l3 s0 = some z) (kr : RCl E cX4_partBy ad sh (z.1) (z.2)) : VV E 0 0 (wq (xT E) ad G sh) 32 [(0, .ref (ad l0)), (1, .int l1), (2, .ref (ad l2)), (3, .int l3)] [.int s0] := by
  unfold fX4_partBy_J32 at hf
  refine v_istore (lv2 := [(4, .int s0), (0, .ref (ad l0)), (1, .int l1), (2, .ref (ad l2)), (3, .int l3)]) C dX4_partBy_32 (by decide) rfl ?_
  obtain ⟨r1, qr1, hf⟩ := bn hf
  refine v_sub [1, 2, 3, 4, 0] rfl ?_
  refine iter_sound (P := (fun s : Hp × Int32 × Int32 => Cl sh (s.1) → VV E 0 0 (wq (xT E) ad (s.1) sh) 34 [(0, .ref (ad l0)), (1, .int (l1)), (2, .ref (ad l2)), (3, .int (s.2.1)), (4, .int (s.2.2))] [])) (X := fun r => r = r1) (fun jsr1 jor1 hor1 jbr1 jxr1 hC => tX4_partBy_S34 C hC h_l0 h_l2 hor1 (fun _ _ _ e => jbr1 _ e) ?_ ?_) fuel _ r1 qr1 rfl hC
  · intro G2 x3 hu hC
    have e := jxr1 _ hu
    subst e
    have hf := sm_l hf
    have hf := bd_at hf (rfl : G2 = _)
    have hf := bd_at hf (rfl : x3 = _)
    refine v_iload_n C 3 dX4_partBy_159 rfl rfl ?_
    refine v_if_le (tgt := 175) C dX4_partBy_160 (by decide) (fun c4 => ?_) (fun c4 => ?_)
    · have hf := ip hf c4
      refine v_lconst (v := 0) C dX4_partBy_175 (by decide) ?_
      cases hf
      exact kr _ _ dX4_partBy_176 hC
    · have hf := im hf c4
      refine v_aload_n C 0 dX4_partBy_163 rfl rfl ?_
      obtain ⟨a5, qa5, hf⟩ := bn hf
      refine v_getA C h_l0 fl_X4_20 qa5 dX4_partBy_164 (fun h_a5 => ?_)
      refine v_iload_n C 3 dX4_partBy_167 rfl rfl ?_
      refine v_iconst (v := 1) C dX4_partBy_168 (by decide) ?_
      refine v_isub C dX4_partBy_169 ?_
      obtain ⟨v6, qv6, hf⟩ := bn hf
      refine v_iald C h_a5 qv6 dX4_partBy_170 ?_
      refine v_i2l C dX4_partBy_171 ?_
      refine v_goto (tgt := 176) C dX4_partBy_172 (by decide) ?_
      cases hf
      exact kr _ _ dX4_partBy_176 hC
  · intro G8 hu hC
    have e := jxr1 _ hu
    subst e
    have hf := sm_r hf
    have hf := bd_at hf (rfl : G8 = _)
    refine v_ldc2 (v := (-9223372036854775808)) C dX4_partBy_122 kw_225 ?_
    cases hf
    exact kr _ _ dX4_partBy_125 hC
def fX4_partBy (sh : Sh) (G : Hp) (l0 : Nat) (l1 : Int32) (l2 : Nat) : Option (Int64 × Hp) := if l1 < 0 then some (0, G) else if l1 < (G.1 l0 3) then if l1 = 0 then fX4_partBy_J32 sh G l0 l1 l2 0 0 else (ldA sh G l0 2 1).bind fun a4 => (aI sh G a4 (l1 - 1)).bind fun v5 => fX4_partBy_J32 sh G l0 l1 l2 0 v5 else some (0, G)
set_option maxHeartbeats 4000000 in
theorem tX4_partBy {E : EX} {ad : Nat → Nat} {sh : Sh} {G : Hp} {l0 : Nat} {l1 : Int32} {l2 : Nat} {z : Int64 × Hp} (C : Cx E RX4 cX4_partBy 6 (some .long) 2 0 0) (hC : Cl sh G) (h_l0 : sh[l0]? = some (0, 4)) (h_l2 : tg sh l2 1) (hf : fX4_partBy sh G l0 l1 l2 = some z) (kr : RCl E cX4_partBy ad sh (z.1) (z.2)) : VV E 0 0 (wq (xT E) ad G sh) 0 [(0, .ref (ad l0)), (1, .int l1), (2, .ref (ad l2))] [] := by
  unfold fX4_partBy at hf
  refine v_iload_n C 1 dX4_partBy_0 rfl rfl ?_
  refine v_if_lt (tgt := 12) C dX4_partBy_1 (by decide) (fun c1 => ?_) (fun c1 => ?_)
  · have hf := ip hf c1
    refine v_lconst (v := 0) C dX4_partBy_12 (by decide) ?_
    cases hf
    exact kr _ _ dX4_partBy_13 hC
  · have hf := im hf c1
    refine v_iload_n C 1 dX4_partBy_4 rfl rfl ?_
    refine v_aload_n C 0 dX4_partBy_5 rfl rfl ?_
    refine v_getI C h_l0 fl_X4_27 dX4_partBy_6 ?_
    refine v_icmp_lt (tgt := 14) C dX4_partBy_9 (by decide) (fun c2 => ?_) (fun c2 => ?_)
    · have hf := ip hf c2
      refine v_iconst (v := 0) C dX4_partBy_14 (by decide) ?_
      refine v_istore_n (lv2 := [(3, .int 0), (0, .ref (ad l0)), (1, .int l1), (2, .ref (ad l2))]) C dX4_partBy_15 rfl (by decide) rfl ?_
      refine v_iload_n C 2 dX4_partBy_16 rfl rfl ?_
      refine v_if_ne (tgt := 24) C dX4_partBy_17 (by decide) (fun c3 => ?_) (fun c3 => ?_)
      · have hf := im hf c3
        refine v_aload_n C 1 dX4_partBy_24 rfl rfl ?_
        obtain ⟨a4, qa4, hf⟩ := bn hf
        refine v_getA C h_l0 fl_X4_17 qa4 dX4_partBy_25 (fun h_a4 => ?_)
        refine v_iload_n C 2 dX4_partBy_28 rfl rfl ?_
        refine v_iconst (v := 1) C dX4_partBy_29 (by decide) ?_
        refine v_isub C dX4_partBy_30 ?_
        obtain ⟨v5, qv5, hf⟩ := bn hf
        refine v_iald C h_a4 qv5 dX4_partBy_31 ?_
        refine v_sub [1, 2, 3, 0] rfl ?_
        exact tX4_partBy_J32 C hC h_l0 h_l2 hf kr
      · have hf := ip hf c3
        refine v_iconst (v := 0) C dX4_partBy_20 (by decide) ?_
        refine v_goto (tgt := 32) C dX4_partBy_21 (by decide) ?_
        refine v_sub [1, 2, 3, 0] rfl ?_
        exact tX4_partBy_J32 C hC h_l0 h_l2 hf kr
    · have hf := im hf c2
      refine v_lconst (v := 0) C dX4_partBy_12 (by decide) ?_
      cases hf
      exact kr _ _ dX4_partBy_13 hC
theorem sX4_partBy {l : Launch} {sh : Sh} {G : Hp} {l0 : Nat} {l1 : Int32} {l2 : Nat} {z : Int64 × Hp} (h_l0 : sh[l0]? = some (0, 4)) (h_l2 : tg sh l2 1) (hf : fX4_partBy sh G l0 l1 l2 = some z) : MC l yX4_partBy cX4_partBy 6 (some .long) 2 0 0 sh sh G (z.2) (fun ad => [.ref (ad l0), .int l1, .ref (ad l2)]) (fun _ => some (.long z.1)) := by
  refine MC_of rfl rfl (fun _ => Nat.le_of_ble_eq_true rfl) (fun E ad C hl hnm hC hQ => ?_)
  exact tX4_partBy C hC h_l0 h_l2 hf (fun pc lv hd hC => v_lret C hQ (fun _ _ => rfl) hC rfl hd)
def fX4_intOf (l0 : Int64) : Option (Int32) := if (lg_cmp l0 (-9223372036854775808)) = 0 then some 0 else some (Int64.toInt32 l0)
set_option maxHeartbeats 4000000 in
theorem tX4_intOf {E : EX} {ad : Nat → Nat} {sh : Sh} {G : Hp} {l0 : Int64} {z : Int32} (C : Cx E RX4 cX4_intOf 2 (some .int) 1 0 0) (hC : Cl sh G) (hf : fX4_intOf l0 = some z) (kr : RCi E cX4_intOf ad sh z G) : VV E 0 0 (wq (xT E) ad G sh) 0 [(0, .long l0)] [] := by
  unfold fX4_intOf at hf
  refine v_lload_n C 0 dX4_intOf_0 rfl rfl ?_
  refine v_ldc2 (v := (-9223372036854775808)) C dX4_intOf_1 kw_225 ?_
  refine v_lcmp C dX4_intOf_4 ?_
  refine v_if_ne (tgt := 12) C dX4_intOf_5 (by decide) (fun c1 => ?_) (fun c1 => ?_)
  · have hf := im hf c1
    refine v_lload_n C 0 dX4_intOf_12 rfl rfl ?_
    refine v_l2i C dX4_intOf_13 ?_
    cases hf
    exact kr _ _ dX4_intOf_14 hC
  · have hf := ip hf c1
    refine v_iconst (v := 0) C dX4_intOf_8 (by decide) ?_
    refine v_goto (tgt := 14) C dX4_intOf_9 (by decide) ?_
    cases hf
    exact kr _ _ dX4_intOf_14 hC
theorem sX4_intOf {l : Launch} {sh : Sh} {G : Hp} {l0 : Int64} {z : Int32} (hf : fX4_intOf l0 = some z) : MC l yX4_intOf cX4_intOf 2 (some .int) 1 0 0 sh sh G G (fun ad => [.long l0]) (fun _ => some (.int z)) := by
  refine MC_of rfl rfl (fun _ => Nat.le_of_ble_eq_true rfl) (fun E ad C hl hnm hC hQ => ?_)
  exact tX4_intOf C hC hf (fun pc lv hd hC => v_iret C hQ (fun _ _ => rfl) hC rfl hd)
def fX4_valueBy_S2 (sh : Sh) (l0 : Nat) (l1 : Nat) (G : Hp) (l2 : Int32) : Option ((Hp × Int32) ⊕ ((Hp × Int32) ⊕ (Hp) ⊕ (Hp × Int32))) := if (G.1 l0 3) ≤ (l2 + 2) then some (.inr (.inl (G, l2))) else bp (fX4_partBy sh G l0 l2 l1) fun r2 G3 => bp (fX4_partBy sh G3 l0 (l2 + 1) l1) fun r4 G5 => if (lg_cmp r2 (-9223372036854775808)) = 0 then some (.inr (.inr (.inl G5))) else if (lg_cmp r4 (-9223372036854775808)) = 0 then some (.inr (.inr (.inl G5))) else if 0 ≤ (lg_cmp r2 r4) then bd ((l2 + 3) : Int32) fun x9 => some (.inl (G5, x9)) else some (.inr (.inr (.inr (G5, l2))))
set_option maxHeartbeats 4000000 in
theorem tX4_valueBy_S2 {E : EX} {ad : Nat → Nat} {sh : Sh} {G : Hp} {l0 : Nat} {l1 : Nat} {l2 : Int32} {o : (Hp × Int32) ⊕ ((Hp × Int32) ⊕ (Hp) ⊕ (Hp × Int32))} (C : Cx E RX4 cX4_valueBy 7 (some .int) 3 0 0) (hC : Cl sh G) (h_l0 : sh[l0]? = some (0, 4)) (h_l1 : tg sh l1 1) (hf : fX4_valueBy_S2 sh l0 l1 G l2 = some o) (kb : ∀ (G2 : Hp) (b_l2 : Int32), o = .inl (G2, b_l2) → Cl sh G2 → VV E 0 0 (wq (xT E) ad G2 sh) 2 [(0, .ref (ad l0)), (1, .ref (ad l1)), (2, .int b_l2)] []) (kx73 : ∀ (G2 : Hp) (b_l2 : Int32), o = .inr (.inl (G2, b_l2)) → Cl sh G2 → VV E 0 0 (wq (xT E) ad G2 sh) 73 [(0, .ref (ad l0)), (1, .ref (ad l1)), (2, .int b_l2)] []) (kx46 : ∀ (G2 : Hp), o = .inr (.inr (.inl G2)) → Cl sh G2 → VV E 0 0 (wq (xT E) ad G2 sh) 46 [(0, .ref (ad l0)), (1, .ref (ad l1))] []) (kx55 : ∀ (G2 : Hp) (b_l2 : Int32), o = .inr (.inr (.inr (G2, b_l2))) → Cl sh G2 → VV E 0 0 (wq (xT E) ad G2 sh) 55 [(0, .ref (ad l0)), (1, .ref (ad l1)), (2, .int b_l2)] []) : VV E 0 0 (wq (xT E) ad G sh) 2 [(0, .ref (ad l0)), (1, .ref (ad l1)), (2, .int l2)] [] := by
  unfold fX4_valueBy_S2 at hf
  refine v_iload_n C 2 dX4_valueBy_2 rfl rfl ?_
  refine v_iconst (v := 2) C dX4_valueBy_3 (by decide) ?_
  refine v_iadd C dX4_valueBy_4 ?_
  refine v_aload_n C 0 dX4_valueBy_5 rfl rfl ?_
  refine v_getI C h_l0 fl_X4_27 dX4_valueBy_6 ?_
  refine v_icmp_ge (tgt := 73) C dX4_valueBy_9 (by decide) (fun c1 => ?_) (fun c1 => ?_)
  · have hf := ip hf c1
    cases hf
    refine v_sub [0, 1, 2] rfl ?_
    exact kx73 _ _ rfl hC
  · have hf := im hf c1
    refine v_aload_n C 0 dX4_valueBy_12 rfl rfl ?_
    refine v_iload_n C 2 dX4_valueBy_13 rfl rfl ?_
    refine v_aload_n C 1 dX4_valueBy_14 rfl rfl ?_
    obtain ⟨r2, G3, qr2, hf⟩ := bpn hf
    refine v_callVl (As := [.int l2, .ref (ad l1)]) (rest := []) C (sX4_partBy h_l0 h_l1 qr2) cs_X4_40 (by decide) h_l0 rfl hC rfl rfl rfl (Nat.le_of_ble_eq_true rfl) ⟨Nat.le_refl _, Nat.le_refl _⟩ dX4_valueBy_15 (fun hC => ?_)
    refine v_lstore_n (lv2 := [(3, .long r2), (0, .ref (ad l0)), (1, .ref (ad l1)), (2, .int l2)]) C dX4_valueBy_18 rfl (by decide) rfl ?_
    refine v_aload_n C 1 dX4_valueBy_19 rfl rfl ?_
    refine v_iload_n C 3 dX4_valueBy_20 rfl rfl ?_
    refine v_iconst (v := 1) C dX4_valueBy_21 (by decide) ?_
    refine v_iadd C dX4_valueBy_22 ?_
    refine v_aload_n C 2 dX4_valueBy_23 rfl rfl ?_
    obtain ⟨r4, G5, qr4, hf⟩ := bpn hf
    refine v_callVl (As := [.int (l2 + 1), .ref (ad l1)]) (rest := []) C (sX4_partBy h_l0 h_l1 qr4) cs_X4_40 (by decide) h_l0 rfl hC rfl rfl rfl (Nat.le_of_ble_eq_true rfl) ⟨Nat.le_refl _, Nat.le_refl _⟩ dX4_valueBy_24 (fun hC => ?_)
    refine v_lstore (lv2 := [(5, .long r4), (3, .long r2), (0, .ref (ad l0)), (1, .ref (ad l1)), (2, .int l2)]) C dX4_valueBy_27 (by decide) rfl ?_
    refine v_lload_n C 1 dX4_valueBy_29 rfl rfl ?_
    refine v_ldc2 (v := (-9223372036854775808)) C dX4_valueBy_30 kw_225 ?_
    refine v_lcmp C dX4_valueBy_33 ?_
    refine v_if_eq (tgt := 46) C dX4_valueBy_34 (by decide) (fun c6 => ?_) (fun c6 => ?_)
    · have hf := ip hf c6
      cases hf
      refine v_sub [2, 3] rfl ?_
      exact kx46 _ rfl hC
    · have hf := im hf c6
      refine v_lload C 0 dX4_valueBy_37 rfl ?_
      refine v_ldc2 (v := (-9223372036854775808)) C dX4_valueBy_39 kw_225 ?_
      refine v_lcmp C dX4_valueBy_42 ?_
      refine v_if_ne (tgt := 48) C dX4_valueBy_43 (by decide) (fun c7 => ?_) (fun c7 => ?_)
      · have hf := im hf c7
        refine v_lload_n C 1 dX4_valueBy_48 rfl rfl ?_
        refine v_lload C 0 dX4_valueBy_49 rfl ?_
        refine v_lcmp C dX4_valueBy_51 ?_
        refine v_if_ge (tgt := 67) C dX4_valueBy_52 (by decide) (fun c8 => ?_) (fun c8 => ?_)
        · have hf := ip hf c8
          obtain ⟨x9, ex9⟩ : ∃ x : Int32, x = (l2 + 3) := ⟨_, rfl⟩
          have hf := bd_at hf ex9
          refine v_iinc (v := x9) (j := 4) (lv2 := [(2, .int x9), (5, .long r4), (3, .long r2), (0, .ref (ad l0)), (1, .ref (ad l1))]) C dX4_valueBy_67 rfl (by rw [ex9]; rfl) (by decide) rfl ?_
          refine v_goto (tgt := 2) C dX4_valueBy_70 (by decide) ?_
          cases hf
          refine v_sub [3, 4, 0] rfl ?_
          exact kb _ _ rfl hC
        · have hf := im hf c8
          cases hf
          refine v_sub [2, 3, 4] rfl ?_
          exact kx55 _ _ rfl hC
      · have hf := ip hf c7
        cases hf
        refine v_sub [2, 3] rfl ?_
        exact kx46 _ rfl hC
def fX4_valueBy (sh : Sh) (G : Hp) (l0 : Nat) (l1 : Nat) : Option (Int32 × Hp) := (iter (fun s : Hp × Int32 => fX4_valueBy_S2 sh l0 l1 s.1 s.2) fuel ((G, 0) : Hp × Int32)).bind (Sum.elim (fun u7 => bd u7.1 fun G2 => bd u7.2 fun x3 => bp (fX4_partBy sh G2 l0 x3 l1) fun r4 G5 => (fX4_intOf r4).bind fun r6 => some (r6, G5)) (Sum.elim (fun u9 => bd u9 fun G8 => some (0, G8)) (fun u15 => bd u15.1 fun G10 => bd u15.2 fun x11 => bp (fX4_partBy sh G10 l0 (x11 + 2) l1) fun r12 G13 => (fX4_intOf r12).bind fun r14 => some (r14, G13))))
set_option maxHeartbeats 4000000 in
theorem tX4_valueBy {E : EX} {ad : Nat → Nat} {sh : Sh} {G : Hp} {l0 : Nat} {l1 : Nat} {z : Int32 × Hp} (C : Cx E RX4 cX4_valueBy 7 (some .int) 3 0 0) (hC : Cl sh G) (h_l0 : sh[l0]? = some (0, 4)) (h_l1 : tg sh l1 1) (hf : fX4_valueBy sh G l0 l1 = some z) (kr : RCi E cX4_valueBy ad sh (z.1) (z.2)) : VV E 0 0 (wq (xT E) ad G sh) 0 [(0, .ref (ad l0)), (1, .ref (ad l1))] [] := by
  unfold fX4_valueBy at hf
  refine v_iconst (v := 0) C dX4_valueBy_0 (by decide) ?_
  refine v_istore_n (lv2 := [(2, .int 0), (0, .ref (ad l0)), (1, .ref (ad l1))]) C dX4_valueBy_1 rfl (by decide) rfl ?_
  obtain ⟨r1, qr1, hf⟩ := bn hf
  refine v_sub [1, 2, 0] rfl ?_
  refine iter_sound (P := (fun s : Hp × Int32 => Cl sh (s.1) → VV E 0 0 (wq (xT E) ad (s.1) sh) 2 [(0, .ref (ad l0)), (1, .ref (ad l1)), (2, .int (s.2))] [])) (X := fun r => r = r1) (fun jsr1 jor1 hor1 jbr1 jxr1 hC => tX4_valueBy_S2 C hC h_l0 h_l1 hor1 (fun _ _ e => jbr1 _ e) ?_ ?_ ?_) fuel _ r1 qr1 rfl hC
  · intro G2 x3 hu hC
    have e := jxr1 _ hu
    subst e
    have hf := sm_l hf
    have hf := bd_at hf (rfl : G2 = _)
    have hf := bd_at hf (rfl : x3 = _)
    refine v_aload_n C 0 dX4_valueBy_73 rfl rfl ?_
    refine v_iload_n C 2 dX4_valueBy_74 rfl rfl ?_
    refine v_aload_n C 1 dX4_valueBy_75 rfl rfl ?_
    obtain ⟨r4, G5, qr4, hf⟩ := bpn hf
    refine v_callVl (As := [.int x3, .ref (ad l1)]) (rest := []) C (sX4_partBy h_l0 h_l1 qr4) cs_X4_40 (by decide) h_l0 rfl hC rfl rfl rfl (Nat.le_of_ble_eq_true rfl) ⟨Nat.le_refl _, Nat.le_refl _⟩ dX4_valueBy_76 (fun hC => ?_)
    obtain ⟨r6, qr6, hf⟩ := bn hf
    refine v_callSi (As := [.long r4]) (rest := []) C (sX4_intOf  qr6) cs_X4_46 (by decide) hC rfl rfl rfl (Nat.le_of_ble_eq_true rfl) ⟨Nat.le_refl _, Nat.le_refl _⟩ dX4_valueBy_79 (fun hC => ?_)
    cases hf
    exact kr _ _ dX4_valueBy_82 hC
  · intro G8 hu hC
    have e := jxr1 _ hu
    subst e
    have hf := sm_r hf
    have hf := sm_l hf
    have hf := bd_at hf (rfl : G8 = _)
    refine v_iconst (v := 0) C dX4_valueBy_46 (by decide) ?_
    cases hf
    exact kr _ _ dX4_valueBy_47 hC
  · intro G10 x11 hu hC
    have e := jxr1 _ hu
    subst e
    have hf := sm_r hf
    have hf := sm_r hf
    have hf := bd_at hf (rfl : G10 = _)
    have hf := bd_at hf (rfl : x11 = _)
    refine v_aload_n C 0 dX4_valueBy_55 rfl rfl ?_
    refine v_iload_n C 2 dX4_valueBy_56 rfl rfl ?_
    refine v_iconst (v := 2) C dX4_valueBy_57 (by decide) ?_
    refine v_iadd C dX4_valueBy_58 ?_
    refine v_aload_n C 1 dX4_valueBy_59 rfl rfl ?_
    obtain ⟨r12, G13, qr12, hf⟩ := bpn hf
    refine v_callVl (As := [.int (x11 + 2), .ref (ad l1)]) (rest := []) C (sX4_partBy h_l0 h_l1 qr12) cs_X4_40 (by decide) h_l0 rfl hC rfl rfl rfl (Nat.le_of_ble_eq_true rfl) ⟨Nat.le_refl _, Nat.le_refl _⟩ dX4_valueBy_60 (fun hC => ?_)
    obtain ⟨r14, qr14, hf⟩ := bn hf
    refine v_callSi (As := [.long r12]) (rest := []) C (sX4_intOf  qr14) cs_X4_46 (by decide) hC rfl rfl rfl (Nat.le_of_ble_eq_true rfl) ⟨Nat.le_refl _, Nat.le_refl _⟩ dX4_valueBy_63 (fun hC => ?_)
    cases hf
    exact kr _ _ dX4_valueBy_66 hC
theorem sX4_valueBy {l : Launch} {sh : Sh} {G : Hp} {l0 : Nat} {l1 : Nat} {z : Int32 × Hp} (h_l0 : sh[l0]? = some (0, 4)) (h_l1 : tg sh l1 1) (hf : fX4_valueBy sh G l0 l1 = some z) : MC l yX4_valueBy cX4_valueBy 7 (some .int) 3 0 0 sh sh G (z.2) (fun ad => [.ref (ad l0), .ref (ad l1)]) (fun _ => some (.int z.1)) := by
  refine MC_of rfl rfl (fun _ => Nat.le_of_ble_eq_true rfl) (fun E ad C hl hnm hC hQ => ?_)
  exact tX4_valueBy C hC h_l0 h_l1 hf (fun pc lv hd hC => v_iret C hQ (fun _ _ => rfl) hC rfl hd)
def fX3_heldTo (l0 : Int32) (l1 : Int32) : Option (Int32) := some (imax 0 (imin l0 l1))
set_option maxHeartbeats 4000000 in
theorem tX3_heldTo {E : EX} {ad : Nat → Nat} {sh : Sh} {G : Hp} {l0 : Int32} {l1 : Int32} {z : Int32} (C : Cx E RX3 cX3_heldTo 2 (some .int) 2 0 0) (hC : Cl sh G) (hf : fX3_heldTo l0 l1 = some z) (kr : RCi E cX3_heldTo ad sh z G) : VV E 0 0 (wq (xT E) ad G sh) 0 [(0, .int l0), (1, .int l1)] [] := by
  unfold fX3_heldTo at hf
  refine v_iconst (v := 0) C dX3_heldTo_0 (by decide) ?_
  refine v_iload_n C 0 dX3_heldTo_1 rfl rfl ?_
  refine v_iload_n C 1 dX3_heldTo_2 rfl rfl ?_
  refine v_nmin C mw_X3_83 (by omega) (Nat.le_of_ble_eq_true rfl) ⟨Nat.le_refl _, Nat.le_refl _⟩ dX3_heldTo_3 ?_
  refine v_nmax C mw_X3_88 (by omega) (Nat.le_of_ble_eq_true rfl) ⟨Nat.le_refl _, Nat.le_refl _⟩ dX3_heldTo_6 ?_
  cases hf
  exact kr _ _ dX3_heldTo_9 hC
theorem sX3_heldTo {l : Launch} {sh : Sh} {G : Hp} {l0 : Int32} {l1 : Int32} {z : Int32} (hf : fX3_heldTo l0 l1 = some z) : MC l yX3_heldTo cX3_heldTo 2 (some .int) 2 0 0 sh sh G G (fun ad => [.int l0, .int l1]) (fun _ => some (.int z)) := by
  refine MC_of rfl rfl (fun _ => Nat.le_of_ble_eq_true rfl) (fun E ad C hl hnm hC hQ => ?_)
  exact tX3_heldTo C hC hf (fun pc lv hd hC => v_iret C hQ (fun _ _ => rfl) hC rfl hd)
def fX3_asksOf (sh : Sh) (G : Hp) (l0 : Nat) (l1 : Nat) (l2 : Nat) (l3 : Int32) (l4 : Int32) : Option (Int32 × Hp) := (fX3_lookAt sh G l0 l1 l2 l3).bind fun G2 => (ldA sh G2 l0 0 1).bind fun a3 => (ldA sh G2 l1 6 1).bind fun a4 => (aI sh G2 a4 l4).bind fun v5 => (asI sh G2 a3 5 v5).bind fun G6 => (ldA sh G6 l0 0 1).bind fun a7 => (ldA sh G6 l1 7 1).bind fun a8 => (aI sh G6 a8 l4).bind fun v9 => (fJ6_bitCount_0f7a4 v9).bind fun r10 => (asI sh G6 a7 6 r10).bind fun G11 => (ldO sh G11 l1 16 4).bind fun a12 => (ldA sh G11 l0 0 1).bind fun a13 => bp (fX4_valueBy sh G11 a12 a13) fun r14 G15 => (fX3_heldTo 99 r14).bind fun r16 => some (r16, G15)
set_option maxHeartbeats 4000000 in
theorem tX3_asksOf {E : EX} {ad : Nat → Nat} {sh : Sh} {G : Hp} {l0 : Nat} {l1 : Nat} {l2 : Nat} {l3 : Int32} {l4 : Int32} {z : Int32 × Hp} (C : Cx E RX3 cX3_asksOf 5 (some .int) 4 0 0) (hC : Cl sh G) (h_l0 : sh[l0]? = some (0, 3)) (h_l1 : sh[l1]? = some (0, 8)) (h_l2 : sh[l2]? = some (0, 1)) (hf : fX3_asksOf sh G l0 l1 l2 l3 l4 = some z) (kr : RCi E cX3_asksOf ad sh (z.1) (z.2)) : VV E 0 0 (wq (xT E) ad G sh) 0 [(0, .ref (ad l0)), (1, .ref (ad l1)), (2, .ref (ad l2)), (3, .int l3), (4, .int l4)] [] := by
  unfold fX3_asksOf at hf
  refine v_aload_n C 0 dX3_asksOf_0 rfl rfl ?_
  refine v_aload_n C 1 dX3_asksOf_1 rfl rfl ?_
  refine v_aload_n C 2 dX3_asksOf_2 rfl rfl ?_
  refine v_iload_n C 3 dX3_asksOf_3 rfl rfl ?_
  obtain ⟨G2, qr1, hf⟩ := bn hf
  refine v_callVv (As := [.ref (ad l1), .ref (ad l2), .int l3]) (rest := []) C (sX3_lookAt h_l0 h_l1 h_l2 qr1) cs_X3_25 (by decide) h_l0 rfl hC rfl rfl rfl (Nat.le_of_ble_eq_true rfl) ⟨Nat.le_refl _, Nat.le_refl _⟩ dX3_asksOf_4 (fun hC => ?_)
  refine v_aload_n C 0 dX3_asksOf_7 rfl rfl ?_
  obtain ⟨a3, qa3, hf⟩ := bn hf
  refine v_getA C h_l0 fl_X3_9 qa3 dX3_asksOf_8 (fun h_a3 => ?_)
  refine v_iconst (v := 5) C dX3_asksOf_11 (by decide) ?_
  refine v_aload_n C 1 dX3_asksOf_12 rfl rfl ?_
  obtain ⟨a4, qa4, hf⟩ := bn hf
  refine v_getA C h_l1 fl_X3_48 qa4 dX3_asksOf_13 (fun h_a4 => ?_)
  refine v_iload C 4 dX3_asksOf_16 rfl ?_
  obtain ⟨v5, qv5, hf⟩ := bn hf
  refine v_iald C h_a4 qv5 dX3_asksOf_18 ?_
  obtain ⟨G6, qG6, hf⟩ := bn hf
  refine v_iast C h_a3 qG6 hC dX3_asksOf_19 (fun hC => ?_)
  refine v_aload_n C 0 dX3_asksOf_20 rfl rfl ?_
  obtain ⟨a7, qa7, hf⟩ := bn hf
  refine v_getA C h_l0 fl_X3_9 qa7 dX3_asksOf_21 (fun h_a7 => ?_)
  refine v_bipush (v := 6) C dX3_asksOf_24 (by decide) ?_
  refine v_aload_n C 1 dX3_asksOf_26 rfl rfl ?_
  obtain ⟨a8, qa8, hf⟩ := bn hf
  refine v_getA C h_l1 fl_X3_51 qa8 dX3_asksOf_27 (fun h_a8 => ?_)
  refine v_iload C 4 dX3_asksOf_30 rfl ?_
  obtain ⟨v9, qv9, hf⟩ := bn hf
  refine v_iald C h_a8 qv9 dX3_asksOf_32 ?_
  obtain ⟨r10, qr10, hf⟩ := bn hf
  refine v_callSi (As := [.int v9]) (rest := [.int 6, .ref (ad a7)]) C (sJ6_bitCount_0f7a4  qr10) cs_X3_54 (by decide) hC rfl rfl rfl (Nat.le_of_ble_eq_true rfl) ⟨Nat.le_refl _, Nat.le_refl _⟩ dX3_asksOf_33 (fun hC => ?_)
  obtain ⟨G11, qG11, hf⟩ := bn hf
  refine v_iast C h_a7 qG11 hC dX3_asksOf_36 (fun hC => ?_)
  refine v_bipush (v := 99) C dX3_asksOf_37 (by decide) ?_
  refine v_aload_n C 1 dX3_asksOf_39 rfl rfl ?_
  obtain ⟨a12, qa12, hf⟩ := bn hf
  refine v_getO C h_l1 fl_X3_60 qa12 dX3_asksOf_40 (fun h_a12 => ?_)
  refine v_aload_n C 0 dX3_asksOf_43 rfl rfl ?_
  obtain ⟨a13, qa13, hf⟩ := bn hf
  refine v_getA C h_l0 fl_X3_9 qa13 dX3_asksOf_44 (fun h_a13 => ?_)
  obtain ⟨r14, G15, qr14, hf⟩ := bpn hf
  refine v_callVi (As := [.ref (ad a13)]) (rest := [.int 99]) C (sX4_valueBy h_a12 h_a13 qr14) cs_X3_35 (by decide) h_a12 rfl hC rfl rfl rfl (Nat.le_of_ble_eq_true rfl) ⟨Nat.le_refl _, Nat.le_refl _⟩ dX3_asksOf_47 (fun hC => ?_)
  obtain ⟨r16, qr16, hf⟩ := bn hf
  refine v_callSi (As := [.int 99, .int r14]) (rest := []) C (sX3_heldTo  qr16) cs_X3_41 (by decide) hC rfl rfl rfl (Nat.le_of_ble_eq_true rfl) ⟨Nat.le_refl _, Nat.le_refl _⟩ dX3_asksOf_50 (fun hC => ?_)
  cases hf
  exact kr _ _ dX3_asksOf_53 hC
theorem sX3_asksOf {l : Launch} {sh : Sh} {G : Hp} {l0 : Nat} {l1 : Nat} {l2 : Nat} {l3 : Int32} {l4 : Int32} {z : Int32 × Hp} (h_l0 : sh[l0]? = some (0, 3)) (h_l1 : sh[l1]? = some (0, 8)) (h_l2 : sh[l2]? = some (0, 1)) (hf : fX3_asksOf sh G l0 l1 l2 l3 l4 = some z) : MC l yX3_asksOf cX3_asksOf 5 (some .int) 4 0 0 sh sh G (z.2) (fun ad => [.ref (ad l0), .ref (ad l1), .ref (ad l2), .int l3, .int l4]) (fun _ => some (.int z.1)) := by
  refine MC_of rfl rfl (fun _ => Nat.le_of_ble_eq_true rfl) (fun E ad C hl hnm hC hQ => ?_)
  exact tX3_asksOf C hC h_l0 h_l1 h_l2 hf (fun pc lv hd hC => v_iret C hQ (fun _ _ => rfl) hC rfl hd)
def fX10_asks (sh : Sh) (G : Hp) (l0 : Nat) (l1 : Int32) (l2 : Int32) : Option (Int32 × Hp) := (ldO sh G l0 2 8).bind fun a1 => (fX8_hasBridge sh G a1 l1).bind fun r2 => if r2 = 0 then some ((-1), G) else (ldO sh G l0 2 8).bind fun a4 => (fX8_hasBeing sh G a4 l2).bind fun r5 => if r5 = 0 then some ((-1), G) else (ldO sh G l0 4 3).bind fun a7 => (ldO sh G l0 2 8).bind fun a8 => (ldO sh G l0 3 1).bind fun a9 => bp (fX3_asksOf sh G a7 a8 a9 l1 l2) fun r10 G11 => some (r10, G11)
set_option maxHeartbeats 4000000 in
theorem tX10_asks {E : EX} {ad : Nat → Nat} {sh : Sh} {G : Hp} {l0 : Nat} {l1 : Int32} {l2 : Int32} {z : Int32 × Hp} (C : Cx E RX10 cX10_asks 3 (some .int) 5 0 0) (hC : Cl sh G) (h_l0 : sh[l0]? = some (0, 10)) (hf : fX10_asks sh G l0 l1 l2 = some z) (kr : RCi E cX10_asks ad sh (z.1) (z.2)) : VV E 0 0 (wq (xT E) ad G sh) 0 [(0, .ref (ad l0)), (1, .int l1), (2, .int l2)] [] := by
  unfold fX10_asks at hf
  refine v_aload_n C 0 dX10_asks_0 rfl rfl ?_
  obtain ⟨a1, qa1, hf⟩ := bn hf
  refine v_getO C h_l0 fl_X10_23 qa1 dX10_asks_1 (fun h_a1 => ?_)
  refine v_iload_n C 1 dX10_asks_4 rfl rfl ?_
  obtain ⟨r2, qr2, hf⟩ := bn hf
  refine v_callVi (As := [.int l1]) (rest := []) C (sX8_hasBridge h_a1 qr2) cs_X10_143 (by decide) h_a1 rfl hC rfl rfl rfl (Nat.le_of_ble_eq_true rfl) ⟨Nat.le_refl _, Nat.le_refl _⟩ dX10_asks_5 (fun hC => ?_)
  refine v_if_eq (tgt := 42) C dX10_asks_8 (by decide) (fun c3 => ?_) (fun c3 => ?_)
  · have hf := ip hf c3
    refine v_iconst (v := (-1)) C dX10_asks_42 (by decide) ?_
    cases hf
    exact kr _ _ dX10_asks_43 hC
  · have hf := im hf c3
    refine v_aload_n C 0 dX10_asks_11 rfl rfl ?_
    obtain ⟨a4, qa4, hf⟩ := bn hf
    refine v_getO C h_l0 fl_X10_23 qa4 dX10_asks_12 (fun h_a4 => ?_)
    refine v_iload_n C 2 dX10_asks_15 rfl rfl ?_
    obtain ⟨r5, qr5, hf⟩ := bn hf
    refine v_callVi (As := [.int l2]) (rest := []) C (sX8_hasBeing h_a4 qr5) cs_X10_113 (by decide) h_a4 rfl hC rfl rfl rfl (Nat.le_of_ble_eq_true rfl) ⟨Nat.le_refl _, Nat.le_refl _⟩ dX10_asks_16 (fun hC => ?_)
    refine v_if_eq (tgt := 42) C dX10_asks_19 (by decide) (fun c6 => ?_) (fun c6 => ?_)
    · have hf := ip hf c6
      refine v_iconst (v := (-1)) C dX10_asks_42 (by decide) ?_
      cases hf
      exact kr _ _ dX10_asks_43 hC
    · have hf := im hf c6
      refine v_aload_n C 0 dX10_asks_22 rfl rfl ?_
      obtain ⟨a7, qa7, hf⟩ := bn hf
      refine v_getO C h_l0 fl_X10_37 qa7 dX10_asks_23 (fun h_a7 => ?_)
      refine v_aload_n C 0 dX10_asks_26 rfl rfl ?_
      obtain ⟨a8, qa8, hf⟩ := bn hf
      refine v_getO C h_l0 fl_X10_23 qa8 dX10_asks_27 (fun h_a8 => ?_)
      refine v_aload_n C 0 dX10_asks_30 rfl rfl ?_
      obtain ⟨a9, qa9, hf⟩ := bn hf
      refine v_getO C h_l0 fl_X10_30 qa9 dX10_asks_31 (fun h_a9 => ?_)
      refine v_iload_n C 1 dX10_asks_34 rfl rfl ?_
      refine v_iload_n C 2 dX10_asks_35 rfl rfl ?_
      obtain ⟨r10, G11, qr10, hf⟩ := bpn hf
      refine v_callVi (As := [.ref (ad a8), .ref (ad a9), .int l1, .int l2]) (rest := []) C (sX3_asksOf h_a7 h_a8 h_a9 qr10) cs_X10_168 (by decide) h_a7 rfl hC rfl rfl rfl (Nat.le_of_ble_eq_true rfl) ⟨Nat.le_refl _, Nat.le_refl _⟩ dX10_asks_36 (fun hC => ?_)
      refine v_goto (tgt := 43) C dX10_asks_39 (by decide) ?_
      cases hf
      exact kr _ _ dX10_asks_43 hC
theorem sX10_asks {l : Launch} {sh : Sh} {G : Hp} {l0 : Nat} {l1 : Int32} {l2 : Int32} {z : Int32 × Hp} (h_l0 : sh[l0]? = some (0, 10)) (hf : fX10_asks sh G l0 l1 l2 = some z) : MC l yX10_asks cX10_asks 3 (some .int) 5 0 0 sh sh G (z.2) (fun ad => [.ref (ad l0), .int l1, .int l2]) (fun _ => some (.int z.1)) := by
  refine MC_of rfl rfl (fun _ => Nat.le_of_ble_eq_true rfl) (fun E ad C hl hnm hC hQ => ?_)
  exact tX10_asks C hC h_l0 hf (fun pc lv hd hC => v_iret C hQ (fun _ _ => rfl) hC rfl hd)
def fX10_back (sh : Sh) (G : Hp) (l0 : Nat) (l1 : Int32) : Option (Int32 × Hp) := if l1 < 0 then some ((-1), G) else (ldO sh G l0 0 6).bind fun a2 => (ldO sh G a2 0 7).bind fun a3 => if l1 ≤ (G.1 a3 0) then (ldO sh G l0 0 6).bind fun a5 => (ldO sh G a5 0 7).bind fun a6 => bd (sI G a6 0 ((G.1 a6 0) - l1)) fun G7 => (ldO sh G7 l0 0 6).bind fun a8 => (ldO sh G7 a8 0 7).bind fun a9 => some ((G7.1 a9 0), G7) else some ((-1), G)
set_option maxHeartbeats 4000000 in
theorem tX10_back {E : EX} {ad : Nat → Nat} {sh : Sh} {G : Hp} {l0 : Nat} {l1 : Int32} {z : Int32 × Hp} (C : Cx E RX10 cX10_back 2 (some .int) 1 0 0) (hC : Cl sh G) (h_l0 : sh[l0]? = some (0, 10)) (hf : fX10_back sh G l0 l1 = some z) (kr : RCi E cX10_back ad sh (z.1) (z.2)) : VV E 0 0 (wq (xT E) ad G sh) 0 [(0, .ref (ad l0)), (1, .int l1)] [] := by
  unfold fX10_back at hf
  refine v_iload_n C 1 dX10_back_0 rfl rfl ?_
  refine v_if_lt (tgt := 18) C dX10_back_1 (by decide) (fun c1 => ?_) (fun c1 => ?_)
  · have hf := ip hf c1
    refine v_iconst (v := (-1)) C dX10_back_18 (by decide) ?_
    cases hf
    exact kr _ _ dX10_back_19 hC
  · have hf := im hf c1
    refine v_iload_n C 1 dX10_back_4 rfl rfl ?_
    refine v_aload_n C 0 dX10_back_5 rfl rfl ?_
    obtain ⟨a2, qa2, hf⟩ := bn hf
    refine v_getO C h_l0 fl_X10_12 qa2 dX10_back_6 (fun h_a2 => ?_)
    obtain ⟨a3, qa3, hf⟩ := bn hf
    refine v_getO C h_a2 fl_X10_76 qa3 dX10_back_9 (fun h_a3 => ?_)
    refine v_getI C h_a3 fl_X10_80 dX10_back_12 ?_
    refine v_icmp_le (tgt := 20) C dX10_back_15 (by decide) (fun c4 => ?_) (fun c4 => ?_)
    · have hf := ip hf c4
      refine v_aload_n C 0 dX10_back_20 rfl rfl ?_
      obtain ⟨a5, qa5, hf⟩ := bn hf
      refine v_getO C h_l0 fl_X10_12 qa5 dX10_back_21 (fun h_a5 => ?_)
      obtain ⟨a6, qa6, hf⟩ := bn hf
      refine v_getO C h_a5 fl_X10_76 qa6 dX10_back_24 (fun h_a6 => ?_)
      refine v_dup C dX10_back_27 rfl ?_
      refine v_getI C h_a6 fl_X10_80 dX10_back_28 ?_
      refine v_iload_n C 1 dX10_back_31 rfl rfl ?_
      refine v_isub C dX10_back_32 ?_
      refine v_putI C h_a6 fp_X10_80 dX10_back_33 (fun G7 eG7 => ?_)
      have hf := bd_at hf eG7
      have hC : Cl sh G7 := by rw [eG7]; exact hC
      refine v_aload_n C 0 dX10_back_36 rfl rfl ?_
      obtain ⟨a8, qa8, hf⟩ := bn hf
      refine v_getO C h_l0 fl_X10_12 qa8 dX10_back_37 (fun h_a8 => ?_)
      obtain ⟨a9, qa9, hf⟩ := bn hf
      refine v_getO C h_a8 fl_X10_76 qa9 dX10_back_40 (fun h_a9 => ?_)
      refine v_getI C h_a9 fl_X10_80 dX10_back_43 ?_
      cases hf
      exact kr _ _ dX10_back_46 hC
    · have hf := im hf c4
      refine v_iconst (v := (-1)) C dX10_back_18 (by decide) ?_
      cases hf
      exact kr _ _ dX10_back_19 hC
theorem sX10_back {l : Launch} {sh : Sh} {G : Hp} {l0 : Nat} {l1 : Int32} {z : Int32 × Hp} (h_l0 : sh[l0]? = some (0, 10)) (hf : fX10_back sh G l0 l1 = some z) : MC l yX10_back cX10_back 2 (some .int) 1 0 0 sh sh G (z.2) (fun ad => [.ref (ad l0), .int l1]) (fun _ => some (.int z.1)) := by
  refine MC_of rfl rfl (fun _ => Nat.le_of_ble_eq_true rfl) (fun E ad C hl hnm hC hQ => ?_)
  exact tX10_back C hC h_l0 hf (fun pc lv hd hC => v_iret C hQ (fun _ _ => rfl) hC rfl hd)
def fX0_gather_S20 (sh : Sh) (l0 : Nat) (l1 : Nat) (l2 : Nat) (l3 : Int32) (l4 : Int32) (G : Hp) (l5 : Int32) : Option ((Hp × Int32) ⊕ ((Hp))) := if (G.1 l1 2) ≤ l5 then some (.inr G) else (fX1_isThere sh G l2 l4).bind fun r2 => if r2 = 0 then some (.inr G) else (fX8_setOf sh G l1 l4 l5).bind fun r4 => if (r4 &&& 1) = 0 then (ldA sh G l0 1 1).bind fun a7 => if (nI (ln sh a7)) ≤ (G.1 l0 0) then bd ((l5 + 1) : Int32) fun x9 => some (.inl (G, x9)) else (fX1_takes sh G l2 l1 l3 r4).bind fun r10 => if r10 = 0 then bd ((l5 + 1) : Int32) fun x12 => some (.inl (G, x12)) else (ldA sh G l0 1 1).bind fun a13 => (asI sh G a13 (G.1 l0 0) r4).bind fun G14 => bd (sI G14 l0 0 ((G14.1 l0 0) + 1)) fun G15 => bd ((l5 + 1) : Int32) fun x16 => some (.inl (G15, x16)) else bd ((l5 + 1) : Int32) fun x6 => some (.inl (G, x6))
set_option maxHeartbeats 4000000 in
theorem tX0_gather_S20 {E : EX} {ad : Nat → Nat} {sh : Sh} {G : Hp} {l0 : Nat} {l1 : Nat} {l2 : Nat} {l3 : Int32} {l4 : Int32} {l5 : Int32} {o : (Hp × Int32) ⊕ ((Hp))} (C : Cx E RX0 cX0_gather 7 none 4 0 0) (hC : Cl sh G) (h_l0 : sh[l0]? = some (0, 0)) (h_l1 : sh[l1]? = some (0, 8)) (h_l2 : sh[l2]? = some (0, 1)) (hf : fX0_gather_S20 sh l0 l1 l2 l3 l4 G l5 = some o) (kb : ∀ (G2 : Hp) (b_l5 : Int32), o = .inl (G2, b_l5) → Cl sh G2 → VV E 0 0 (wq (xT E) ad G2 sh) 20 [(0, .ref (ad l0)), (1, .ref (ad l1)), (2, .ref (ad l2)), (3, .int l3), (4, .int l4), (5, .int b_l5)] []) (kx105 : ∀ (G2 : Hp), o = .inr G2 → Cl sh G2 → VV E 0 0 (wq (xT E) ad G2 sh) 105 [(0, .ref (ad l0)), (1, .ref (ad l1)), (2, .ref (ad l2)), (3, .int l3), (4, .int l4)] []) : VV E 0 0 (wq (xT E) ad G sh) 20 [(0, .ref (ad l0)), (1, .ref (ad l1)), (2, .ref (ad l2)), (3, .int l3), (4, .int l4), (5, .int l5)] [] := by
  unfold fX0_gather_S20 at hf
  refine v_iload C 5 dX0_gather_20 rfl ?_
  refine v_aload_n C 1 dX0_gather_22 rfl rfl ?_
  refine v_getI C h_l1 fl_X0_24 dX0_gather_23 ?_
  refine v_icmp_ge (tgt := 105) C dX0_gather_26 (by decide) (fun c1 => ?_) (fun c1 => ?_)
  · have hf := ip hf c1
    cases hf
    refine v_sub [0, 1, 2, 3, 4] rfl ?_
    exact kx105 _ rfl hC
  · have hf := im hf c1
    refine v_aload_n C 2 dX0_gather_29 rfl rfl ?_
    refine v_iload C 4 dX0_gather_30 rfl ?_
    obtain ⟨r2, qr2, hf⟩ := bn hf
    refine v_callVi (As := [.int l4]) (rest := []) C (sX1_isThere h_l2 qr2) cs_X0_27 (by decide) h_l2 rfl hC rfl rfl rfl (Nat.le_of_ble_eq_true rfl) ⟨Nat.le_refl _, Nat.le_refl _⟩ dX0_gather_32 (fun hC => ?_)
    refine v_if_eq (tgt := 105) C dX0_gather_35 (by decide) (fun c3 => ?_) (fun c3 => ?_)
    · have hf := ip hf c3
      cases hf
      refine v_sub [0, 1, 2, 3, 4] rfl ?_
      exact kx105 _ rfl hC
    · have hf := im hf c3
      refine v_aload_n C 1 dX0_gather_38 rfl rfl ?_
      refine v_iload C 4 dX0_gather_39 rfl ?_
      refine v_iload C 5 dX0_gather_41 rfl ?_
      obtain ⟨r4, qr4, hf⟩ := bn hf
      refine v_callVi (As := [.int l4, .int l5]) (rest := []) C (sX8_setOf h_l1 qr4) cs_X0_33 (by decide) h_l1 rfl hC rfl rfl rfl (Nat.le_of_ble_eq_true rfl) ⟨Nat.le_refl _, Nat.le_refl _⟩ dX0_gather_43 (fun hC => ?_)
      refine v_istore (lv2 := [(6, .int r4), (0, .ref (ad l0)), (1, .ref (ad l1)), (2, .ref (ad l2)), (3, .int l3), (4, .int l4), (5, .int l5)]) C dX0_gather_46 (by decide) rfl ?_
      refine v_iload C 0 dX0_gather_48 rfl ?_
      refine v_iconst (v := 1) C dX0_gather_50 (by decide) ?_
      refine v_iand C dX0_gather_51 ?_
      refine v_if_ne (tgt := 99) C dX0_gather_52 (by decide) (fun c5 => ?_) (fun c5 => ?_)
      · have hf := im hf c5
        obtain ⟨x6, ex6⟩ : ∃ x : Int32, x = (l5 + 1) := ⟨_, rfl⟩
        have hf := bd_at hf ex6
        refine v_iinc (v := x6) (j := 6) (lv2 := [(5, .int x6), (6, .int r4), (0, .ref (ad l0)), (1, .ref (ad l1)), (2, .ref (ad l2)), (3, .int l3), (4, .int l4)]) C dX0_gather_99 rfl (by rw [ex6]; rfl) (by decide) rfl ?_
        refine v_goto (tgt := 20) C dX0_gather_102 (by decide) ?_
        cases hf
        refine v_sub [2, 3, 4, 5, 6, 0] rfl ?_
        exact kb _ _ rfl hC
      · have hf := ip hf c5
        refine v_aload_n C 1 dX0_gather_55 rfl rfl ?_
        refine v_getI C h_l0 fl_X0_15 dX0_gather_56 ?_
        refine v_aload_n C 1 dX0_gather_59 rfl rfl ?_
        obtain ⟨a7, qa7, hf⟩ := bn hf
        refine v_getA C h_l0 fl_X0_9 qa7 dX0_gather_60 (fun h_a7 => ?_)
        refine v_alen C h_a7 (by decide) dX0_gather_63 ?_
        refine v_icmp_ge (tgt := 99) C dX0_gather_64 (by decide) (fun c8 => ?_) (fun c8 => ?_)
        · have hf := ip hf c8
          obtain ⟨x9, ex9⟩ : ∃ x : Int32, x = (l5 + 1) := ⟨_, rfl⟩
          have hf := bd_at hf ex9
          refine v_iinc (v := x9) (j := 6) (lv2 := [(5, .int x9), (6, .int r4), (0, .ref (ad l0)), (1, .ref (ad l1)), (2, .ref (ad l2)), (3, .int l3), (4, .int l4)]) C dX0_gather_99 rfl (by rw [ex9]; rfl) (by decide) rfl ?_
          refine v_goto (tgt := 20) C dX0_gather_102 (by decide) ?_
          cases hf
          refine v_sub [2, 3, 4, 5, 6, 0] rfl ?_
          exact kb _ _ rfl hC
        · have hf := im hf c8
          refine v_aload_n C 3 dX0_gather_67 rfl rfl ?_
          refine v_aload_n C 2 dX0_gather_68 rfl rfl ?_
          refine v_iload_n C 4 dX0_gather_69 rfl rfl ?_
          refine v_iload C 0 dX0_gather_70 rfl ?_
          obtain ⟨r10, qr10, hf⟩ := bn hf
          refine v_callVi (As := [.ref (ad l1), .int l3, .int r4]) (rest := []) C (sX1_takes h_l2 h_l1 qr10) cs_X0_37 (by decide) h_l2 rfl hC rfl rfl rfl (Nat.le_of_ble_eq_true rfl) ⟨Nat.le_refl _, Nat.le_refl _⟩ dX0_gather_72 (fun hC => ?_)
          refine v_if_eq (tgt := 99) C dX0_gather_75 (by decide) (fun c11 => ?_) (fun c11 => ?_)
          · have hf := ip hf c11
            obtain ⟨x12, ex12⟩ : ∃ x : Int32, x = (l5 + 1) := ⟨_, rfl⟩
            have hf := bd_at hf ex12
            refine v_iinc (v := x12) (j := 6) (lv2 := [(5, .int x12), (6, .int r4), (0, .ref (ad l0)), (1, .ref (ad l1)), (2, .ref (ad l2)), (3, .int l3), (4, .int l4)]) C dX0_gather_99 rfl (by rw [ex12]; rfl) (by decide) rfl ?_
            refine v_goto (tgt := 20) C dX0_gather_102 (by decide) ?_
            cases hf
            refine v_sub [2, 3, 4, 5, 6, 0] rfl ?_
            exact kb _ _ rfl hC
          · have hf := im hf c11
            refine v_aload_n C 1 dX0_gather_78 rfl rfl ?_
            obtain ⟨a13, qa13, hf⟩ := bn hf
            refine v_getA C h_l0 fl_X0_9 qa13 dX0_gather_79 (fun h_a13 => ?_)
            refine v_aload_n C 1 dX0_gather_82 rfl rfl ?_
            refine v_getI C h_l0 fl_X0_15 dX0_gather_83 ?_
            refine v_iload C 0 dX0_gather_86 rfl ?_
            obtain ⟨G14, qG14, hf⟩ := bn hf
            refine v_iast C h_a13 qG14 hC dX0_gather_88 (fun hC => ?_)
            refine v_aload_n C 1 dX0_gather_89 rfl rfl ?_
            refine v_dup C dX0_gather_90 rfl ?_
            refine v_getI C h_l0 fl_X0_15 dX0_gather_91 ?_
            refine v_iconst (v := 1) C dX0_gather_94 (by decide) ?_
            refine v_iadd C dX0_gather_95 ?_
            refine v_putI C h_l0 fp_X0_15 dX0_gather_96 (fun G15 eG15 => ?_)
            have hf := bd_at hf eG15
            have hC : Cl sh G15 := by rw [eG15]; exact hC
            obtain ⟨x16, ex16⟩ : ∃ x : Int32, x = (l5 + 1) := ⟨_, rfl⟩
            have hf := bd_at hf ex16
            refine v_iinc (v := x16) (j := 6) (lv2 := [(5, .int x16), (6, .int r4), (0, .ref (ad l0)), (1, .ref (ad l1)), (2, .ref (ad l2)), (3, .int l3), (4, .int l4)]) C dX0_gather_99 rfl (by rw [ex16]; rfl) (by decide) rfl ?_
            refine v_goto (tgt := 20) C dX0_gather_102 (by decide) ?_
            cases hf
            refine v_sub [2, 3, 4, 5, 6, 0] rfl ?_
            exact kb _ _ rfl hC
def fX0_gather_S8 (sh : Sh) (l0 : Nat) (l1 : Nat) (l2 : Nat) (l3 : Int32) (G : Hp) (l4 : Int32) : Option ((Hp × Int32) ⊕ ((Hp))) := if (G.1 l1 1) ≤ l4 then some (.inr G) else (iter (fun s : Hp × Int32 => fX0_gather_S20 sh l0 l1 l2 l3 l4 s.1 s.2) fuel ((G, (-1)) : Hp × Int32)).bind (fun u5 => bd u5 fun G3 => bd ((l4 + 1) : Int32) fun x4 => some (.inl (G3, x4)))
set_option maxHeartbeats 4000000 in
theorem tX0_gather_S8 {E : EX} {ad : Nat → Nat} {sh : Sh} {G : Hp} {l0 : Nat} {l1 : Nat} {l2 : Nat} {l3 : Int32} {l4 : Int32} {o : (Hp × Int32) ⊕ ((Hp))} (C : Cx E RX0 cX0_gather 7 none 4 0 0) (hC : Cl sh G) (h_l0 : sh[l0]? = some (0, 0)) (h_l1 : sh[l1]? = some (0, 8)) (h_l2 : sh[l2]? = some (0, 1)) (hf : fX0_gather_S8 sh l0 l1 l2 l3 G l4 = some o) (kb : ∀ (G2 : Hp) (b_l4 : Int32), o = .inl (G2, b_l4) → Cl sh G2 → VV E 0 0 (wq (xT E) ad G2 sh) 8 [(0, .ref (ad l0)), (1, .ref (ad l1)), (2, .ref (ad l2)), (3, .int l3), (4, .int b_l4)] []) (kx111 : ∀ (G2 : Hp), o = .inr G2 → Cl sh G2 → VV E 0 0 (wq (xT E) ad G2 sh) 111 [(0, .ref (ad l0)), (1, .ref (ad l1)), (2, .ref (ad l2)), (3, .int l3)] []) : VV E 0 0 (wq (xT E) ad G sh) 8 [(0, .ref (ad l0)), (1, .ref (ad l1)), (2, .ref (ad l2)), (3, .int l3), (4, .int l4)] [] := by
  unfold fX0_gather_S8 at hf
  refine v_iload C 4 dX0_gather_8 rfl ?_
  refine v_aload_n C 1 dX0_gather_10 rfl rfl ?_
  refine v_getI C h_l1 fl_X0_19 dX0_gather_11 ?_
  refine v_icmp_ge (tgt := 111) C dX0_gather_14 (by decide) (fun c1 => ?_) (fun c1 => ?_)
  · have hf := ip hf c1
    cases hf
    refine v_sub [0, 1, 2, 3] rfl ?_
    exact kx111 _ rfl hC
  · have hf := im hf c1
    refine v_iconst (v := (-1)) C dX0_gather_17 (by decide) ?_
    refine v_istore (lv2 := [(5, .int (-1)), (0, .ref (ad l0)), (1, .ref (ad l1)), (2, .ref (ad l2)), (3, .int l3), (4, .int l4)]) C dX0_gather_18 (by decide) rfl ?_
    obtain ⟨r2, qr2, hf⟩ := bn hf
    refine v_sub [1, 2, 3, 4, 5, 0] rfl ?_
    refine iter_sound (P := (fun s : Hp × Int32 => Cl sh (s.1) → VV E 0 0 (wq (xT E) ad (s.1) sh) 20 [(0, .ref (ad l0)), (1, .ref (ad l1)), (2, .ref (ad l2)), (3, .int (l3)), (4, .int (l4)), (5, .int (s.2))] [])) (X := fun r => r = r2) (fun jsr2 jor2 hor2 jbr2 jxr2 hC => tX0_gather_S20 C hC h_l0 h_l1 h_l2 hor2 (fun _ _ e => jbr2 _ e) ?_) fuel _ r2 qr2 rfl hC
    · intro G3 hu hC
      have e := jxr2 _ hu
      subst e
      have hf := bd_at hf (rfl : G3 = _)
      obtain ⟨x4, ex4⟩ : ∃ x : Int32, x = (l4 + 1) := ⟨_, rfl⟩
      have hf := bd_at hf ex4
      refine v_iinc (v := x4) (j := 4) (lv2 := [(4, .int x4), (0, .ref (ad l0)), (1, .ref (ad l1)), (2, .ref (ad l2)), (3, .int l3)]) C dX0_gather_105 rfl (by rw [ex4]; rfl) (by decide) rfl ?_
      refine v_goto (tgt := 8) C dX0_gather_108 (by decide) ?_
      cases hf
      refine v_sub [1, 2, 3, 4, 0] rfl ?_
      exact kb _ _ rfl hC
def fX0_gather (sh : Sh) (G : Hp) (l0 : Nat) (l1 : Nat) (l2 : Nat) (l3 : Int32) : Option (Hp) := bd (sI G l0 0 0) fun G1 => (iter (fun s : Hp × Int32 => fX0_gather_S8 sh l0 l1 l2 l3 s.1 s.2) fuel ((G1, 0) : Hp × Int32)).bind (fun u4 => bd u4 fun G3 => some G3)
set_option maxHeartbeats 4000000 in
theorem tX0_gather {E : EX} {ad : Nat → Nat} {sh : Sh} {G : Hp} {l0 : Nat} {l1 : Nat} {l2 : Nat} {l3 : Int32} {z : Hp} (C : Cx E RX0 cX0_gather 7 none 4 0 0) (hC : Cl sh G) (h_l0 : sh[l0]? = some (0, 0)) (h_l1 : sh[l1]? = some (0, 8)) (h_l2 : sh[l2]? = some (0, 1)) (hf : fX0_gather sh G l0 l1 l2 l3 = some z) (kr : RCv E cX0_gather ad sh z) : VV E 0 0 (wq (xT E) ad G sh) 0 [(0, .ref (ad l0)), (1, .ref (ad l1)), (2, .ref (ad l2)), (3, .int l3)] [] := by
  unfold fX0_gather at hf
  refine v_aload_n C 0 dX0_gather_0 rfl rfl ?_
  refine v_iconst (v := 0) C dX0_gather_1 (by decide) ?_
  refine v_putI C h_l0 fp_X0_15 dX0_gather_2 (fun G1 eG1 => ?_)
  have hf := bd_at hf eG1
  have hC : Cl sh G1 := by rw [eG1]; exact hC
  refine v_iconst (v := 0) C dX0_gather_5 (by decide) ?_
  refine v_istore (lv2 := [(4, .int 0), (0, .ref (ad l0)), (1, .ref (ad l1)), (2, .ref (ad l2)), (3, .int l3)]) C dX0_gather_6 (by decide) rfl ?_
  obtain ⟨r2, qr2, hf⟩ := bn hf
  refine v_sub [1, 2, 3, 4, 0] rfl ?_
  refine iter_sound (P := (fun s : Hp × Int32 => Cl sh (s.1) → VV E 0 0 (wq (xT E) ad (s.1) sh) 8 [(0, .ref (ad l0)), (1, .ref (ad l1)), (2, .ref (ad l2)), (3, .int (l3)), (4, .int (s.2))] [])) (X := fun r => r = r2) (fun jsr2 jor2 hor2 jbr2 jxr2 hC => tX0_gather_S8 C hC h_l0 h_l1 h_l2 hor2 (fun _ _ e => jbr2 _ e) ?_) fuel _ r2 qr2 rfl hC
  · intro G3 hu hC
    have e := jxr2 _ hu
    subst e
    have hf := bd_at hf (rfl : G3 = _)
    cases hf
    exact kr _ _ dX0_gather_111 hC
theorem sX0_gather {l : Launch} {sh : Sh} {G : Hp} {l0 : Nat} {l1 : Nat} {l2 : Nat} {l3 : Int32} {z : Hp} (h_l0 : sh[l0]? = some (0, 0)) (h_l1 : sh[l1]? = some (0, 8)) (h_l2 : sh[l2]? = some (0, 1)) (hf : fX0_gather sh G l0 l1 l2 l3 = some z) : MC l yX0_gather cX0_gather 7 none 4 0 0 sh sh G z (fun ad => [.ref (ad l0), .ref (ad l1), .ref (ad l2), .int l3]) (fun _ => none) := by
  refine MC_of rfl rfl (fun _ => Nat.le_of_ble_eq_true rfl) (fun E ad C hl hnm hC hQ => ?_)
  exact tX0_gather C hC h_l0 h_l1 h_l2 hf (fun pc lv hd hC => v_vret C hQ (fun _ _ => rfl) hC rfl hd)
