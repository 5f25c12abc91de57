def fX6_readBeing_S70 (sh : Sh) (l0 : Nat) (G : Hp) (l1 : Int32) (l2 : Int32) : Option ((Hp × Int32 × Int32) ⊕ ((Hp × Int32) ⊕ (Hp))) := if 400 ≤ l2 then some (.inr (.inl (G, l1))) else if (G.1 l0 5) = 1 then bp (fX6_readTraitName sh G l0) fun r3 G4 => if r3 = 0 then some (.inr (.inr G4)) else bd ((l1 ||| ((1 : Int32) <<< ((G4.1 l0 8) &&& 31))) : Int32) fun x6 => bd ((l2 + 1) : Int32) fun x7 => some (.inl (G4, x6, x7)) else some (.inr (.inl (G, l1)))
set_option maxHeartbeats 4000000 in
theorem tX6_readBeing_S70 {E : EX} {ad : Nat → Nat} {sh : Sh} {G : Hp} {l0 : Nat} {l1 : Int32} {l2 : Int32} {o : (Hp × Int32 × Int32) ⊕ ((Hp × Int32) ⊕ (Hp))} (C : Cx E RX6 cX6_readBeing 3 (some .boolean) 3 0 0) (hC : Cl sh G) (h_l0 : sh[l0]? = some (0, 6)) (hf : fX6_readBeing_S70 sh l0 G l1 l2 = some o) (kb : ∀ (G2 : Hp) (b_l1 : Int32) (b_l2 : Int32), o = .inl (G2, b_l1, b_l2) → Cl sh G2 → VV E 0 0 (wq (xT E) ad G2 sh) 70 [(0, .ref (ad l0)), (1, .int b_l1), (2, .int b_l2)] []) (kx109 : ∀ (G2 : Hp) (b_l1 : Int32), o = .inr (.inl (G2, b_l1)) → Cl sh G2 → VV E 0 0 (wq (xT E) ad G2 sh) 109 [(0, .ref (ad l0)), (1, .int b_l1)] []) (kx92 : ∀ (G2 : Hp), o = .inr (.inr G2) → Cl sh G2 → VV E 0 0 (wq (xT E) ad G2 sh) 92 [(0, .ref (ad l0))] []) : VV E 0 0 (wq (xT E) ad G sh) 70 [(0, .ref (ad l0)), (1, .int l1), (2, .int l2)] [] := by
  unfold fX6_readBeing_S70 at hf
  refine v_iload_n C 2 dX6_readBeing_70 rfl rfl ?_
  refine v_sipush (v := 400) C dX6_readBeing_71 (by decide) ?_
  refine v_icmp_ge (tgt := 109) C dX6_readBeing_74 (by decide) (fun c1 => ?_) (fun c1 => ?_)
  · have hf := ip hf c1
    cases hf
    refine v_sub [0, 1] rfl ?_
    exact kx109 _ _ rfl hC
  · have hf := im hf c1
    refine v_aload_n C 0 dX6_readBeing_77 rfl rfl ?_
    refine v_getI C h_l0 fl_X6_65 dX6_readBeing_78 ?_
    refine v_iconst (v := 1) C dX6_readBeing_81 (by decide) ?_
    refine v_icmp_ne (tgt := 109) C dX6_readBeing_82 (by decide) (fun c2 => ?_) (fun c2 => ?_)
    · have hf := im hf c2
      cases hf
      refine v_sub [0, 1] rfl ?_
      exact kx109 _ _ rfl hC
    · have hf := ip hf c2
      refine v_aload_n C 0 dX6_readBeing_85 rfl rfl ?_
      obtain ⟨r3, G4, qr3, hf⟩ := bpn hf
      refine v_callVi (As := []) (rest := []) C (sX6_readTraitName h_l0 qr3) cs_X6_139 (by decide) h_l0 rfl hC rfl rfl rfl (Nat.le_of_ble_eq_true rfl) ⟨Nat.le_refl _, Nat.le_refl _⟩ dX6_readBeing_86 (fun hC => ?_)
      refine v_if_ne (tgt := 94) C dX6_readBeing_89 (by decide) (fun c5 => ?_) (fun c5 => ?_)
      · have hf := im hf c5
        refine v_iload_n C 1 dX6_readBeing_94 rfl rfl ?_
        refine v_iconst (v := 1) C dX6_readBeing_95 (by decide) ?_
        refine v_aload_n C 0 dX6_readBeing_96 rfl rfl ?_
        refine v_getI C h_l0 fl_X6_142 dX6_readBeing_97 ?_
        refine v_ishl C dX6_readBeing_100 ?_
        refine v_ior C dX6_readBeing_101 ?_
        refine v_topi (fun x6 ex6 => ?_)
        have hf := bd_at hf ex6
        refine v_istore_n (lv2 := [(1, .int x6), (0, .ref (ad l0)), (2, .int l2)]) C dX6_readBeing_102 rfl (by decide) rfl ?_
        obtain ⟨x7, ex7⟩ : ∃ x : Int32, x = (l2 + 1) := ⟨_, rfl⟩
        have hf := bd_at hf ex7
        refine v_iinc (v := x7) (j := 2) (lv2 := [(2, .int x7), (1, .int x6), (0, .ref (ad l0))]) C dX6_readBeing_103 rfl (by rw [ex7]; rfl) (by decide) rfl ?_
        refine v_goto (tgt := 70) C dX6_readBeing_106 (by decide) ?_
        cases hf
        refine v_sub [2, 1, 0] rfl ?_
        exact kb _ _ _ rfl hC
      · have hf := ip hf c5
        cases hf
        refine v_sub [0] rfl ?_
        exact kx92 _ rfl hC
def fX6_readBeing_J109 (sh : Sh) (G : Hp) (l0 : Nat) (l1 : Int32) : Option (Int32 × Hp) := (ldO sh G l0 9 8).bind fun a1 => (ldA sh G a1 7 1).bind fun a2 => (ldO sh G l0 9 8).bind fun a3 => (asI sh G a2 (G.1 a3 1) l1).bind fun G4 => (ldO sh G4 l0 9 8).bind fun a5 => bd (sI G4 a5 1 ((G4.1 a5 1) + 1)) fun G6 => bp (fX6_pass sh G6 l0 59) fun r7 G8 => if ¬ (r7 = 0 ∨ r7 = 1) then none else some (r7, G8)
set_option maxHeartbeats 4000000 in
theorem tX6_readBeing_J109 {E : EX} {ad : Nat → Nat} {sh : Sh} {G : Hp} {l0 : Nat} {l1 : Int32} {z : Int32 × Hp} (C : Cx E RX6 cX6_readBeing 3 (some .boolean) 3 0 0) (hC : Cl sh G) (h_l0 : sh[l0]? = some (0, 6)) (hf : fX6_readBeing_J109 sh G l0 l1 = some z) (kr : RCz E cX6_readBeing ad sh (z.1) (z.2)) : VV E 0 0 (wq (xT E) ad G sh) 109 [(0, .ref (ad l0)), (1, .int l1)] [] := by
  unfold fX6_readBeing_J109 at hf
  refine v_aload_n C 0 dX6_readBeing_109 rfl rfl ?_
  obtain ⟨a1, qa1, hf⟩ := bn hf
  refine v_getO C h_l0 fl_X6_31 qa1 dX6_readBeing_110 (fun h_a1 => ?_)
  obtain ⟨a2, qa2, hf⟩ := bn hf
  refine v_getA C h_a1 fl_X6_145 qa2 dX6_readBeing_113 (fun h_a2 => ?_)
  refine v_aload_n C 0 dX6_readBeing_116 rfl rfl ?_
  obtain ⟨a3, qa3, hf⟩ := bn hf
  refine v_getO C h_l0 fl_X6_31 qa3 dX6_readBeing_117 (fun h_a3 => ?_)
  refine v_getI C h_a3 fl_X6_126 dX6_readBeing_120 ?_
  refine v_iload_n C 1 dX6_readBeing_123 rfl rfl ?_
  obtain ⟨G4, qG4, hf⟩ := bn hf
  refine v_iast C h_a2 qG4 hC dX6_readBeing_124 (fun hC => ?_)
  refine v_aload_n C 0 dX6_readBeing_125 rfl rfl ?_
  obtain ⟨a5, qa5, hf⟩ := bn hf
  refine v_getO C h_l0 fl_X6_31 qa5 dX6_readBeing_126 (fun h_a5 => ?_)
  refine v_dup C dX6_readBeing_129 rfl ?_
  refine v_getI C h_a5 fl_X6_126 dX6_readBeing_130 ?_
  refine v_iconst (v := 1) C dX6_readBeing_133 (by decide) ?_
  refine v_iadd C dX6_readBeing_134 ?_
  refine v_putI C h_a5 fp_X6_126 dX6_readBeing_135 (fun G6 eG6 => ?_)
  have hf := bd_at hf eG6
  have hC : Cl sh G6 := by rw [eG6]; exact hC
  refine v_aload_n C 0 dX6_readBeing_138 rfl rfl ?_
  refine v_bipush (v := 59) C dX6_readBeing_139 (by decide) ?_
  obtain ⟨r7, G8, qr7, hf⟩ := bpn hf
  refine v_callVi (As := [.int 59]) (rest := []) C (sX6_pass h_l0 qr7) cs_X6_116 (by decide) h_l0 rfl hC rfl rfl rfl (Nat.le_of_ble_eq_true rfl) ⟨Nat.le_refl _, Nat.le_refl _⟩ dX6_readBeing_141 (fun hC => ?_)
  obtain ⟨hz9, hf⟩ := iz hf
  cases hf
  exact kr _ _ dX6_readBeing_144 (Classical.not_not.mp hz9) hC
def fX6_readBeing (sh : Sh) (G : Hp) (l0 : Nat) : Option (Int32 × Hp) := (ldO sh G l0 9 8).bind fun a1 => if (G.1 a1 1) < 7 then bp (fX6_pass sh G l0 257) fun r3 G4 => if r3 = 0 then some (0, G4) else bp (fX6_readNewName sh G4 l0) fun r6 G7 => if r6 = 0 then some (0, G7) else bp (fX6_readNumber sh G7 l0 0 99) fun r9 G10 => if r9 = 0 then some (0, G10) else (ldO sh G10 l0 9 8).bind fun a12 => (ldA sh G10 a12 6 1).bind fun a13 => (ldO sh G10 l0 9 8).bind fun a14 => (asI sh G10 a13 (G10.1 a14 1) (G10.1 l0 7)).bind fun G15 => (iter (fun s : Hp × Int32 × Int32 => fX6_readBeing_S70 sh l0 s.1 s.2.1 s.2.2) fuel ((G15, 0, 0) : Hp × Int32 × Int32)).bind (Sum.elim (fun u19 => bd u19.1 fun G17 => bd u19.2 fun x18 => fX6_readBeing_J109 sh G17 l0 x18) (fun u21 => bd u21 fun G20 => some (0, G20))) else bp (fX6_refuse sh G l0 2) fun r22 G23 => if ¬ (r22 = 0 ∨ r22 = 1) then none else some (r22, G23)
set_option maxHeartbeats 4000000 in
theorem tX6_readBeing {E : EX} {ad : Nat → Nat} {sh : Sh} {G : Hp} {l0 : Nat} {z : Int32 × Hp} (C : Cx E RX6 cX6_readBeing 3 (some .boolean) 3 0 0) (hC : Cl sh G) (h_l0 : sh[l0]? = some (0, 6)) (hf : fX6_readBeing sh G l0 = some z) (kr : RCz E cX6_readBeing ad sh (z.1) (z.2)) : VV E 0 0 (wq (xT E) ad G sh) 0 [(0, .ref (ad l0))] [] := by
  unfold fX6_readBeing at hf
  refine v_aload_n C 0 dX6_readBeing_0 rfl rfl ?_
  obtain ⟨a1, qa1, hf⟩ := bn hf
  refine v_getO C h_l0 fl_X6_31 qa1 dX6_readBeing_1 (fun h_a1 => ?_)
  refine v_getI C h_a1 fl_X6_126 dX6_readBeing_4 ?_
  refine v_bipush (v := 7) C dX6_readBeing_7 (by decide) ?_
  refine v_icmp_lt (tgt := 18) C dX6_readBeing_9 (by decide) (fun c2 => ?_) (fun c2 => ?_)
  · have hf := ip hf c2
    refine v_aload_n C 0 dX6_readBeing_18 rfl rfl ?_
    refine v_sipush (v := 257) C dX6_readBeing_19 (by decide) ?_
    obtain ⟨r3, G4, qr3, hf⟩ := bpn hf
    refine v_callVi (As := [.int 257]) (rest := []) C (sX6_pass h_l0 qr3) cs_X6_116 (by decide) h_l0 rfl hC rfl rfl rfl (Nat.le_of_ble_eq_true rfl) ⟨Nat.le_refl _, Nat.le_refl _⟩ dX6_readBeing_22 (fun hC => ?_)
    refine v_if_eq (tgt := 45) C dX6_readBeing_25 (by decide) (fun c5 => ?_) (fun c5 => ?_)
    · have hf := ip hf c5
      refine v_iconst (v := 0) C dX6_readBeing_45 (by decide) ?_
      cases hf
      exact kr _ _ dX6_readBeing_46 (Or.inl rfl) hC
    · have hf := im hf c5
      refine v_aload_n C 0 dX6_readBeing_28 rfl rfl ?_
      obtain ⟨r6, G7, qr6, hf⟩ := bpn hf
      refine v_callVi (As := []) (rest := []) C (sX6_readNewName h_l0 qr6) cs_X6_123 (by decide) h_l0 rfl hC rfl rfl rfl (Nat.le_of_ble_eq_true rfl) ⟨Nat.le_refl _, Nat.le_refl _⟩ dX6_readBeing_29 (fun hC => ?_)
      refine v_if_eq (tgt := 45) C dX6_readBeing_32 (by decide) (fun c8 => ?_) (fun c8 => ?_)
      · have hf := ip hf c8
        refine v_iconst (v := 0) C dX6_readBeing_45 (by decide) ?_
        cases hf
        exact kr _ _ dX6_readBeing_46 (Or.inl rfl) hC
      · have hf := im hf c8
        refine v_aload_n C 0 dX6_readBeing_35 rfl rfl ?_
        refine v_iconst (v := 0) C dX6_readBeing_36 (by decide) ?_
        refine v_bipush (v := 99) C dX6_readBeing_37 (by decide) ?_
        obtain ⟨r9, G10, qr9, hf⟩ := bpn hf
        refine v_callVi (As := [.int 0, .int 99]) (rest := []) C (sX6_readNumber h_l0 qr9) cs_X6_129 (by decide) h_l0 rfl hC rfl rfl rfl (Nat.le_of_ble_eq_true rfl) ⟨Nat.le_refl _, Nat.le_refl _⟩ dX6_readBeing_39 (fun hC => ?_)
        refine v_if_ne (tgt := 47) C dX6_readBeing_42 (by decide) (fun c11 => ?_) (fun c11 => ?_)
        · have hf := im hf c11
          refine v_aload_n C 0 dX6_readBeing_47 rfl rfl ?_
          obtain ⟨a12, qa12, hf⟩ := bn hf
          refine v_getO C h_l0 fl_X6_31 qa12 dX6_readBeing_48 (fun h_a12 => ?_)
          obtain ⟨a13, qa13, hf⟩ := bn hf
          refine v_getA C h_a12 fl_X6_133 qa13 dX6_readBeing_51 (fun h_a13 => ?_)
          refine v_aload_n C 0 dX6_readBeing_54 rfl rfl ?_
          obtain ⟨a14, qa14, hf⟩ := bn hf
          refine v_getO C h_l0 fl_X6_31 qa14 dX6_readBeing_55 (fun h_a14 => ?_)
          refine v_getI C h_a14 fl_X6_126 dX6_readBeing_58 ?_
          refine v_aload_n C 0 dX6_readBeing_61 rfl rfl ?_
          refine v_getI C h_l0 fl_X6_136 dX6_readBeing_62 ?_
          obtain ⟨G15, qG15, hf⟩ := bn hf
          refine v_iast C h_a13 qG15 hC dX6_readBeing_65 (fun hC => ?_)
          refine v_iconst (v := 0) C dX6_readBeing_66 (by decide) ?_
          refine v_istore_n (lv2 := [(1, .int 0), (0, .ref (ad l0))]) C dX6_readBeing_67 rfl (by decide) rfl ?_
          refine v_iconst (v := 0) C dX6_readBeing_68 (by decide) ?_
          refine v_istore_n (lv2 := [(2, .int 0), (1, .int 0), (0, .ref (ad l0))]) C dX6_readBeing_69 rfl (by decide) rfl ?_
          obtain ⟨r16, qr16, hf⟩ := bn hf
          refine v_sub [2, 1, 0] rfl ?_
          refine iter_sound (P := (fun s : Hp × Int32 × Int32 => Cl sh (s.1) → VV E 0 0 (wq (xT E) ad (s.1) sh) 70 [(0, .ref (ad l0)), (1, .int (s.2.1)), (2, .int (s.2.2))] [])) (X := fun r => r = r16) (fun jsr16 jor16 hor16 jbr16 jxr16 hC => tX6_readBeing_S70 C hC h_l0 hor16 (fun _ _ _ e => jbr16 _ e) ?_ ?_) fuel _ r16 qr16 rfl hC
          · intro G17 x18 hu hC
            have e := jxr16 _ hu
            subst e
            have hf := sm_l hf
            have hf := bd_at hf (rfl : G17 = _)
            have hf := bd_at hf (rfl : x18 = _)
            refine v_sub [0, 1] rfl ?_
            exact tX6_readBeing_J109 C hC h_l0 hf kr
          · intro G20 hu hC
            have e := jxr16 _ hu
            subst e
            have hf := sm_r hf
            have hf := bd_at hf (rfl : G20 = _)
            refine v_iconst (v := 0) C dX6_readBeing_92 (by decide) ?_
            cases hf
            exact kr _ _ dX6_readBeing_93 (Or.inl rfl) hC
        · have hf := ip hf c11
          refine v_iconst (v := 0) C dX6_readBeing_45 (by decide) ?_
          cases hf
          exact kr _ _ dX6_readBeing_46 (Or.inl rfl) hC
  · have hf := im hf c2
    refine v_aload_n C 0 dX6_readBeing_12 rfl rfl ?_
    refine v_iconst (v := 2) C dX6_readBeing_13 (by decide) ?_
    obtain ⟨r22, G23, qr22, hf⟩ := bpn hf
    refine v_callVi (As := [.int 2]) (rest := []) C (sX6_refuse h_l0 qr22) cs_X6_97 (by decide) h_l0 rfl hC rfl rfl rfl (Nat.le_of_ble_eq_true rfl) ⟨Nat.le_refl _, Nat.le_refl _⟩ dX6_readBeing_14 (fun hC => ?_)
    obtain ⟨hz24, hf⟩ := iz hf
    cases hf
    exact kr _ _ dX6_readBeing_17 (Classical.not_not.mp hz24) hC
theorem sX6_readBeing {l : Launch} {sh : Sh} {G : Hp} {l0 : Nat} {z : Int32 × Hp} (h_l0 : sh[l0]? = some (0, 6)) (hf : fX6_readBeing sh G l0 = some z) : MC l yX6_readBeing cX6_readBeing 3 (some .boolean) 3 0 0 sh sh G (z.2) (fun ad => [.ref (ad l0)]) (fun _ => some (.int z.1)) := by
  refine MC_of rfl rfl (fun _ => Nat.le_of_ble_eq_true rfl) (fun E ad C hl hnm hC hQ => ?_)
  exact tX6_readBeing C hC h_l0 hf (fun pc lv hd hz hC => v_zret C hQ (fun _ _ => rfl) hC rfl hz hd)
def fX6_readWay_J161L71 (sh : Sh) (G : Hp) (l0 : Nat) (l2 : Int32) (l3 : Int32) (l4 : Int32) (l5 : Int32) (s0 : Int32) : Option ((Hp × Int32 × Int32 × Int32) ⊕ ((Hp × Int32 × Int32) ⊕ (Hp))) := if l4 = 0 then bd ((l2 ||| l5) : Int32) fun x2 => bd ((l3 + 1) : Int32) fun x3 => some (.inl (G, s0, x2, x3)) else bd ((l2 &&& (l5 ^^^ (-1))) : Int32) fun x4 => bd ((l3 + 1) : Int32) fun x5 => some (.inl (G, s0, x4, x5))
set_option maxHeartbeats 4000000 in
theorem tX6_readWay_J161L71 {E : EX} {ad : Nat → Nat} {sh : Sh} {G : Hp} {l0 : Nat} {l2 : Int32} {l3 : Int32} {l4 : Int32} {l5 : Int32} {s0 : Int32} {o : (Hp × Int32 × Int32 × Int32) ⊕ ((Hp × Int32 × Int32) ⊕ (Hp))} (C : Cx E RX6 cX6_readWay 6 (some .boolean) 3 0 0) (hC : Cl sh G) (h_l0 : sh[l0]? = some (0, 6)) (hf : fX6_readWay_J161L71 sh G l0 l2 l3 l4 l5 s0 = some o) (kb : ∀ (G2 : Hp) (b_l1 : Int32) (b_l2 : Int32) (b_l3 : Int32), o = .inl (G2, b_l1, b_l2, b_l3) → Cl sh G2 → VV E 0 0 (wq (xT E) ad G2 sh) 71 [(0, .ref (ad l0)), (1, .int b_l1), (2, .int b_l2), (3, .int b_l3)] []) (kx187 : ∀ (G2 : Hp) (b_l1 : Int32) (b_l2 : Int32), o = .inr (.inl (G2, b_l1, b_l2)) → Cl sh G2 → VV E 0 0 (wq (xT E) ad G2 sh) 187 [(0, .ref (ad l0)), (1, .int b_l1), (2, .int b_l2)] []) (kx133 : ∀ (G2 : Hp), o = .inr (.inr G2) → Cl sh G2 → VV E 0 0 (wq (xT E) ad G2 sh) 133 [(0, .ref (ad l0))] []) : VV E 0 0 (wq (xT E) ad G sh) 161 [(0, .ref (ad l0)), (2, .int l2), (3, .int l3), (4, .int l4), (5, .int l5)] [.int s0] := by
  unfold fX6_readWay_J161L71 at hf
  refine v_istore_n (lv2 := [(1, .int s0), (0, .ref (ad l0)), (2, .int l2), (3, .int l3), (4, .int l4), (5, .int l5)]) C dX6_readWay_161 rfl (by decide) rfl ?_
  refine v_iload C 4 dX6_readWay_162 rfl ?_
  refine v_if_eq (tgt := 176) C dX6_readWay_164 (by decide) (fun c1 => ?_) (fun c1 => ?_)
  · have hf := ip hf c1
    refine v_iload_n C 2 dX6_readWay_176 rfl rfl ?_
    refine v_iload C 5 dX6_readWay_177 rfl ?_
    refine v_ior C dX6_readWay_179 ?_
    refine v_topi (fun x2 ex2 => ?_)
    have hf := bd_at hf ex2
    refine v_istore_n (lv2 := [(2, .int x2), (1, .int s0), (0, .ref (ad l0)), (3, .int l3), (4, .int l4), (5, .int l5)]) C dX6_readWay_180 rfl (by decide) rfl ?_
    obtain ⟨x3, ex3⟩ : ∃ x : Int32, x = (l3 + 1) := ⟨_, rfl⟩
    have hf := bd_at hf ex3
    refine v_iinc (v := x3) (j := 3) (lv2 := [(3, .int x3), (2, .int x2), (1, .int s0), (0, .ref (ad l0)), (4, .int l4), (5, .int l5)]) C dX6_readWay_181 rfl (by rw [ex3]; rfl) (by decide) rfl ?_
    refine v_goto (tgt := 71) C dX6_readWay_184 (by decide) ?_
    cases hf
    refine v_sub [3, 2, 1, 0] rfl ?_
    exact kb _ _ _ _ rfl hC
  · have hf := im hf c1
    refine v_iload_n C 2 dX6_readWay_167 rfl rfl ?_
    refine v_iload C 5 dX6_readWay_168 rfl ?_
    refine v_iconst (v := (-1)) C dX6_readWay_170 (by decide) ?_
    refine v_ixor C dX6_readWay_171 ?_
    refine v_iand C dX6_readWay_172 ?_
    refine v_goto (tgt := 180) C dX6_readWay_173 (by decide) ?_
    refine v_topi (fun x4 ex4 => ?_)
    have hf := bd_at hf ex4
    refine v_istore_n (lv2 := [(2, .int x4), (1, .int s0), (0, .ref (ad l0)), (3, .int l3), (4, .int l4), (5, .int l5)]) C dX6_readWay_180 rfl (by decide) rfl ?_
    obtain ⟨x5, ex5⟩ : ∃ x : Int32, x = (l3 + 1) := ⟨_, rfl⟩
    have hf := bd_at hf ex5
    refine v_iinc (v := x5) (j := 3) (lv2 := [(3, .int x5), (2, .int x4), (1, .int s0), (0, .ref (ad l0)), (4, .int l4), (5, .int l5)]) C dX6_readWay_181 rfl (by rw [ex5]; rfl) (by decide) rfl ?_
    refine v_goto (tgt := 71) C dX6_readWay_184 (by decide) ?_
    cases hf
    refine v_sub [3, 2, 1, 0] rfl ?_
    exact kb _ _ _ _ rfl hC
def fX6_readWay_J113L71 (sh : Sh) (G : Hp) (l0 : Nat) (l1 : Int32) (l2 : Int32) (l3 : Int32) (s0 : Int32) : Option ((Hp × Int32 × Int32 × Int32) ⊕ ((Hp × Int32 × Int32) ⊕ (Hp))) := bp (fX6_pass sh G l0 (G.1 l0 5)) fun r1 G2 => if r1 = 0 then some (.inr (.inr G2)) else bp (fX6_readTraitName sh G2 l0) fun r4 G5 => if r4 = 0 then some (.inr (.inr G5)) else bd (((1 : Int32) <<< ((G5.1 l0 8) &&& 31)) : Int32) fun x7 => if s0 = 0 then fX6_readWay_J161L71 sh G5 l0 l2 l3 s0 x7 (l1 &&& (x7 ^^^ (-1))) else fX6_readWay_J161L71 sh G5 l0 l2 l3 s0 x7 (l1 ||| x7)
set_option maxHeartbeats 4000000 in
theorem tX6_readWay_J113L71 {E : EX} {ad : Nat → Nat} {sh : Sh} {G : Hp} {l0 : Nat} {l1 : Int32} {l2 : Int32} {l3 : Int32} {s0 : Int32} {o : (Hp × Int32 × Int32 × Int32) ⊕ ((Hp × Int32 × Int32) ⊕ (Hp))} (C : Cx E RX6 cX6_readWay 6 (some .boolean) 3 0 0) (hC : Cl sh G) (h_l0 : sh[l0]? = some (0, 6)) (hf : fX6_readWay_J113L71 sh G l0 l1 l2 l3 s0 = some o) (kb : ∀ (G2 : Hp) (b_l1 : Int32) (b_l2 : Int32) (b_l3 : Int32), o = .inl (G2, b_l1, b_l2, b_l3) → Cl sh G2 → VV E 0 0 (wq (xT E) ad G2 sh) 71 [(0, .ref (ad l0)), (1, .int b_l1), (2, .int b_l2), (3, .int b_l3)] []) (kx187 : ∀ (G2 : Hp) (b_l1 : Int32) (b_l2 : Int32), o = .inr (.inl (G2, b_l1, b_l2)) → Cl sh G2 → VV E 0 0 (wq (xT E) ad G2 sh) 187 [(0, .ref (ad l0)), (1, .int b_l1), (2, .int b_l2)] []) (kx133 : ∀ (G2 : Hp), o = .inr (.inr G2) → Cl sh G2 → VV E 0 0 (wq (xT E) ad G2 sh) 133 [(0, .ref (ad l0))] []) : VV E 0 0 (wq (xT E) ad G sh) 113 [(0, .ref (ad l0)), (1, .int l1), (2, .int l2), (3, .int l3)] [.int s0] := by
  unfold fX6_readWay_J113L71 at hf
  refine v_istore (lv2 := [(4, .int s0), (0, .ref (ad l0)), (1, .int l1), (2, .int l2), (3, .int l3)]) C dX6_readWay_113 (by decide) rfl ?_
  refine v_aload_n C 1 dX6_readWay_115 rfl rfl ?_
  refine v_aload_n C 1 dX6_readWay_116 rfl rfl ?_
  refine v_getI C h_l0 fl_X6_65 dX6_readWay_117 ?_
  obtain ⟨r1, G2, qr1, hf⟩ := bpn hf
  refine v_callVi (As := [.int (G.1 l0 5)]) (rest := []) C (sX6_pass h_l0 qr1) cs_X6_116 (by decide) h_l0 rfl hC rfl rfl rfl (Nat.le_of_ble_eq_true rfl) ⟨Nat.le_refl _, Nat.le_refl _⟩ dX6_readWay_120 (fun hC => ?_)
  refine v_if_eq (tgt := 133) C dX6_readWay_123 (by decide) (fun c3 => ?_) (fun c3 => ?_)
  · have hf := ip hf c3
    cases hf
    refine v_sub [1] rfl ?_
    exact kx133 _ rfl hC
  · have hf := im hf c3
    refine v_aload_n C 1 dX6_readWay_126 rfl rfl ?_
    obtain ⟨r4, G5, qr4, hf⟩ := bpn hf
    refine v_callVi (As := []) (rest := []) C (sX6_readTraitName h_l0 qr4) cs_X6_139 (by decide) h_l0 rfl hC rfl rfl rfl (Nat.le_of_ble_eq_true rfl) ⟨Nat.le_refl _, Nat.le_refl _⟩ dX6_readWay_127 (fun hC => ?_)
    refine v_if_ne (tgt := 135) C dX6_readWay_130 (by decide) (fun c6 => ?_) (fun c6 => ?_)
    · have hf := im hf c6
      refine v_iconst (v := 1) C dX6_readWay_135 (by decide) ?_
      refine v_aload_n C 1 dX6_readWay_136 rfl rfl ?_
      refine v_getI C h_l0 fl_X6_142 dX6_readWay_137 ?_
      refine v_ishl C dX6_readWay_140 ?_
      refine v_topi (fun x7 ex7 => ?_)
      have hf := bd_at hf ex7
      refine v_istore (lv2 := [(5, .int x7), (4, .int s0), (0, .ref (ad l0)), (1, .int l1), (2, .int l2), (3, .int l3)]) C dX6_readWay_141 (by decide) rfl ?_
      refine v_iload C 1 dX6_readWay_143 rfl ?_
      refine v_if_eq (tgt := 155) C dX6_readWay_145 (by decide) (fun c8 => ?_) (fun c8 => ?_)
      · have hf := ip hf c8
        refine v_iload_n C 3 dX6_readWay_155 rfl rfl ?_
        refine v_iload C 0 dX6_readWay_156 rfl ?_
        refine v_iconst (v := (-1)) C dX6_readWay_158 (by decide) ?_
        refine v_ixor C dX6_readWay_159 ?_
        refine v_iand C dX6_readWay_160 ?_
        refine v_sub [2, 4, 5, 1, 0] rfl ?_
        exact tX6_readWay_J161L71 C hC h_l0 hf kb kx187 kx133
      · have hf := im hf c8
        refine v_iload_n C 3 dX6_readWay_148 rfl rfl ?_
        refine v_iload C 0 dX6_readWay_149 rfl ?_
        refine v_ior C dX6_readWay_151 ?_
        refine v_goto (tgt := 161) C dX6_readWay_152 (by decide) ?_
        refine v_sub [2, 4, 5, 1, 0] rfl ?_
        exact tX6_readWay_J161L71 C hC h_l0 hf kb kx187 kx133
    · have hf := ip hf c6
      cases hf
      refine v_sub [1] rfl ?_
      exact kx133 _ rfl hC
def fX6_readWay_J98L71 (sh : Sh) (G : Hp) (l0 : Nat) (l1 : Int32) (l2 : Int32) (l3 : Int32) : Option ((Hp × Int32 × Int32 × Int32) ⊕ ((Hp × Int32 × Int32) ⊕ (Hp))) := if (G.1 l0 5) = 265 then fX6_readWay_J113L71 sh G l0 l1 l2 l3 1 else fX6_readWay_J113L71 sh G l0 l1 l2 l3 0
set_option maxHeartbeats 4000000 in
theorem tX6_readWay_J98L71 {E : EX} {ad : Nat → Nat} {sh : Sh} {G : Hp} {l0 : Nat} {l1 : Int32} {l2 : Int32} {l3 : Int32} {o : (Hp × Int32 × Int32 × Int32) ⊕ ((Hp × Int32 × Int32) ⊕ (Hp))} (C : Cx E RX6 cX6_readWay 6 (some .boolean) 3 0 0) (hC : Cl sh G) (h_l0 : sh[l0]? = some (0, 6)) (hf : fX6_readWay_J98L71 sh G l0 l1 l2 l3 = some o) (kb : ∀ (G2 : Hp) (b_l1 : Int32) (b_l2 : Int32) (b_l3 : Int32), o = .inl (G2, b_l1, b_l2, b_l3) → Cl sh G2 → VV E 0 0 (wq (xT E) ad G2 sh) 71 [(0, .ref (ad l0)), (1, .int b_l1), (2, .int b_l2), (3, .int b_l3)] []) (kx187 : ∀ (G2 : Hp) (b_l1 : Int32) (b_l2 : Int32), o = .inr (.inl (G2, b_l1, b_l2)) → Cl sh G2 → VV E 0 0 (wq (xT E) ad G2 sh) 187 [(0, .ref (ad l0)), (1, .int b_l1), (2, .int b_l2)] []) (kx133 : ∀ (G2 : Hp), o = .inr (.inr G2) → Cl sh G2 → VV E 0 0 (wq (xT E) ad G2 sh) 133 [(0, .ref (ad l0))] []) : VV E 0 0 (wq (xT E) ad G sh) 98 [(0, .ref (ad l0)), (1, .int l1), (2, .int l2), (3, .int l3)] [] := by
  unfold fX6_readWay_J98L71 at hf
  refine v_aload_n C 0 dX6_readWay_98 rfl rfl ?_
  refine v_getI C h_l0 fl_X6_65 dX6_readWay_99 ?_
  refine v_sipush (v := 265) C dX6_readWay_102 (by decide) ?_
  refine v_icmp_ne (tgt := 112) C dX6_readWay_105 (by decide) (fun c1 => ?_) (fun c1 => ?_)
  · have hf := im hf c1
    refine v_iconst (v := 0) C dX6_readWay_112 (by decide) ?_
    refine v_sub [0, 1, 2, 3] rfl ?_
    exact tX6_readWay_J113L71 C hC h_l0 hf kb kx187 kx133
  · have hf := ip hf c1
    refine v_iconst (v := 1) C dX6_readWay_108 (by decide) ?_
    refine v_goto (tgt := 113) C dX6_readWay_109 (by decide) ?_
    refine v_sub [0, 1, 2, 3] rfl ?_
    exact tX6_readWay_J113L71 C hC h_l0 hf kb kx187 kx133
def fX6_readWay_S71 (sh : Sh) (l0 : Nat) (G : Hp) (l1 : Int32) (l2 : Int32) (l3 : Int32) : Option ((Hp × Int32 × Int32 × Int32) ⊕ ((Hp × Int32 × Int32) ⊕ (Hp))) := if 400 ≤ l3 then some (.inr (.inl (G, l1, l2))) else if (G.1 l0 5) = 265 then fX6_readWay_J98L71 sh G l0 l1 l2 l3 else if (G.1 l0 5) = 266 then fX6_readWay_J98L71 sh G l0 l1 l2 l3 else some (.inr (.inl (G, l1, l2)))
set_option maxHeartbeats 4000000 in
theorem tX6_readWay_S71 {E : EX} {ad : Nat → Nat} {sh : Sh} {G : Hp} {l0 : Nat} {l1 : Int32} {l2 : Int32} {l3 : Int32} {o : (Hp × Int32 × Int32 × Int32) ⊕ ((Hp × Int32 × Int32) ⊕ (Hp))} (C : Cx E RX6 cX6_readWay 6 (some .boolean) 3 0 0) (hC : Cl sh G) (h_l0 : sh[l0]? = some (0, 6)) (hf : fX6_readWay_S71 sh l0 G l1 l2 l3 = some o) (kb : ∀ (G2 : Hp) (b_l1 : Int32) (b_l2 : Int32) (b_l3 : Int32), o = .inl (G2, b_l1, b_l2, b_l3) → Cl sh G2 → VV E 0 0 (wq (xT E) ad G2 sh) 71 [(0, .ref (ad l0)), (1, .int b_l1), (2, .int b_l2), (3, .int b_l3)] []) (kx187 : ∀ (G2 : Hp) (b_l1 : Int32) (b_l2 : Int32), o = .inr (.inl (G2, b_l1, b_l2)) → Cl sh G2 → VV E 0 0 (wq (xT E) ad G2 sh) 187 [(0, .ref (ad l0)), (1, .int b_l1), (2, .int b_l2)] []) (kx133 : ∀ (G2 : Hp), o = .inr (.inr G2) → Cl sh G2 → VV E 0 0 (wq (xT E) ad G2 sh) 133 [(0, .ref (ad l0))] []) : VV E 0 0 (wq (xT E) ad G sh) 71 [(0, .ref (ad l0)), (1, .int l1), (2, .int l2), (3, .int l3)] [] := by
  unfold fX6_readWay_S71 at hf
  refine v_iload_n C 3 dX6_readWay_71 rfl rfl ?_
  refine v_sipush (v := 400) C dX6_readWay_72 (by decide) ?_
  refine v_icmp_ge (tgt := 187) C dX6_readWay_75 (by decide) (fun c1 => ?_) (fun c1 => ?_)
  · have hf := ip hf c1
    cases hf
    refine v_sub [0, 1, 2] rfl ?_
    exact kx187 _ _ _ rfl hC
  · have hf := im hf c1
    refine v_aload_n C 0 dX6_readWay_78 rfl rfl ?_
    refine v_getI C h_l0 fl_X6_65 dX6_readWay_79 ?_
    refine v_sipush (v := 265) C dX6_readWay_82 (by decide) ?_
    refine v_icmp_eq (tgt := 98) C dX6_readWay_85 (by decide) (fun c2 => ?_) (fun c2 => ?_)
    · have hf := ip hf c2
      refine v_sub [0, 1, 2, 3] rfl ?_
      exact tX6_readWay_J98L71 C hC h_l0 hf kb kx187 kx133
    · have hf := im hf c2
      refine v_aload_n C 0 dX6_readWay_88 rfl rfl ?_
      refine v_getI C h_l0 fl_X6_65 dX6_readWay_89 ?_
      refine v_sipush (v := 266) C dX6_readWay_92 (by decide) ?_
      refine v_icmp_ne (tgt := 187) C dX6_readWay_95 (by decide) (fun c3 => ?_) (fun c3 => ?_)
      · have hf := im hf c3
        cases hf
        refine v_sub [0, 1, 2] rfl ?_
        exact kx187 _ _ _ rfl hC
      · have hf := ip hf c3
        refine v_sub [0, 1, 2, 3] rfl ?_
        exact tX6_readWay_J98L71 C hC h_l0 hf kb kx187 kx133
def fX6_readWay_J187 (sh : Sh) (G : Hp) (l0 : Nat) (l1 : Int32) (l2 : Int32) : Option (Int32 × Hp) := (ldO sh G l0 9 8).bind fun a1 => (ldA sh G a1 9 1).bind fun a2 => (ldO sh G l0 9 8).bind fun a3 => (asI sh G a2 (G.1 a3 2) l1).bind fun G4 => (ldO sh G4 l0 9 8).bind fun a5 => (ldA sh G4 a5 10 1).bind fun a6 => (ldO sh G4 l0 9 8).bind fun a7 => (asI sh G4 a6 (G4.1 a7 2) l2).bind fun G8 => (ldO sh G8 l0 9 8).bind fun a9 => bd (sI G8 a9 2 ((G8.1 a9 2) + 1)) fun G10 => bp (fX6_pass sh G10 l0 59) fun r11 G12 => if ¬ (r11 = 0 ∨ r11 = 1) then none else some (r11, G12)
set_option maxHeartbeats 4000000 in
theorem tX6_readWay_J187 {E : EX} {ad : Nat → Nat} {sh : Sh} {G : Hp} {l0 : Nat} {l1 : Int32} {l2 : Int32} {z : Int32 × Hp} (C : Cx E RX6 cX6_readWay 6 (some .boolean) 3 0 0) (hC : Cl sh G) (h_l0 : sh[l0]? = some (0, 6)) (hf : fX6_readWay_J187 sh G l0 l1 l2 = some z) (kr : RCz E cX6_readWay ad sh (z.1) (z.2)) : VV E 0 0 (wq (xT E) ad G sh) 187 [(0, .ref (ad l0)), (1, .int l1), (2, .int l2)] [] := by
  unfold fX6_readWay_J187 at hf
  refine v_aload_n C 0 dX6_readWay_187 rfl rfl ?_
  obtain ⟨a1, qa1, hf⟩ := bn hf
  refine v_getO C h_l0 fl_X6_31 qa1 dX6_readWay_188 (fun h_a1 => ?_)
  obtain ⟨a2, qa2, hf⟩ := bn hf
  refine v_getA C h_a1 fl_X6_154 qa2 dX6_readWay_191 (fun h_a2 => ?_)
  refine v_aload_n C 0 dX6_readWay_194 rfl rfl ?_
  obtain ⟨a3, qa3, hf⟩ := bn hf
  refine v_getO C h_l0 fl_X6_31 qa3 dX6_readWay_195 (fun h_a3 => ?_)
  refine v_getI C h_a3 fl_X6_148 dX6_readWay_198 ?_
  refine v_iload_n C 1 dX6_readWay_201 rfl rfl ?_
  obtain ⟨G4, qG4, hf⟩ := bn hf
  refine v_iast C h_a2 qG4 hC dX6_readWay_202 (fun hC => ?_)
  refine v_aload_n C 0 dX6_readWay_203 rfl rfl ?_
  obtain ⟨a5, qa5, hf⟩ := bn hf
  refine v_getO C h_l0 fl_X6_31 qa5 dX6_readWay_204 (fun h_a5 => ?_)
  obtain ⟨a6, qa6, hf⟩ := bn hf
  refine v_getA C h_a5 fl_X6_157 qa6 dX6_readWay_207 (fun h_a6 => ?_)
  refine v_aload_n C 0 dX6_readWay_210 rfl rfl ?_
  obtain ⟨a7, qa7, hf⟩ := bn hf
  refine v_getO C h_l0 fl_X6_31 qa7 dX6_readWay_211 (fun h_a7 => ?_)
  refine v_getI C h_a7 fl_X6_148 dX6_readWay_214 ?_
  refine v_iload_n C 2 dX6_readWay_217 rfl rfl ?_
  obtain ⟨G8, qG8, hf⟩ := bn hf
  refine v_iast C h_a6 qG8 hC dX6_readWay_218 (fun hC => ?_)
  refine v_aload_n C 0 dX6_readWay_219 rfl rfl ?_
  obtain ⟨a9, qa9, hf⟩ := bn hf
  refine v_getO C h_l0 fl_X6_31 qa9 dX6_readWay_220 (fun h_a9 => ?_)
  refine v_dup C dX6_readWay_223 rfl ?_
  refine v_getI C h_a9 fl_X6_148 dX6_readWay_224 ?_
  refine v_iconst (v := 1) C dX6_readWay_227 (by decide) ?_
  refine v_iadd C dX6_readWay_228 ?_
  refine v_putI C h_a9 fp_X6_148 dX6_readWay_229 (fun G10 eG10 => ?_)
  have hf := bd_at hf eG10
  have hC : Cl sh G10 := by rw [eG10]; exact hC
  refine v_aload_n C 0 dX6_readWay_232 rfl rfl ?_
  refine v_bipush (v := 59) C dX6_readWay_233 (by decide) ?_
  obtain ⟨r11, G12, qr11, hf⟩ := bpn hf
  refine v_callVi (As := [.int 59]) (rest := []) C (sX6_pass h_l0 qr11) cs_X6_116 (by decide) h_l0 rfl hC rfl rfl rfl (Nat.le_of_ble_eq_true rfl) ⟨Nat.le_refl _, Nat.le_refl _⟩ dX6_readWay_235 (fun hC => ?_)
  obtain ⟨hz13, hf⟩ := iz hf
  cases hf
  exact kr _ _ dX6_readWay_238 (Classical.not_not.mp hz13) hC
def fX6_readWay (sh : Sh) (G : Hp) (l0 : Nat) : Option (Int32 × Hp) := (ldO sh G l0 9 8).bind fun a1 => if (G.1 a1 2) < 4 then bp (fX6_pass sh G l0 258) fun r3 G4 => if r3 = 0 then some (0, G4) else bp (fX6_readNewName sh G4 l0) fun r6 G7 => if r6 = 0 then some (0, G7) else bp (fX6_readNumber sh G7 l0 0 99) fun r9 G10 => if r9 = 0 then some (0, G10) else (ldO sh G10 l0 9 8).bind fun a12 => (ldA sh G10 a12 8 1).bind fun a13 => (ldO sh G10 l0 9 8).bind fun a14 => (asI sh G10 a13 (G10.1 a14 2) (G10.1 l0 7)).bind fun G15 => (iter (fun s : Hp × Int32 × Int32 × Int32 => fX6_readWay_S71 sh l0 s.1 s.2.1 s.2.2.1 s.2.2.2) fuel ((G15, 0, 0, 0) : Hp × Int32 × Int32 × Int32)).bind (Sum.elim (fun u20 => bd u20.1 fun G17 => bd u20.2.1 fun x18 => bd u20.2.2 fun x19 => fX6_readWay_J187 sh G17 l0 x18 x19) (fun u22 => bd u22 fun G21 => some (0, G21))) else bp (fX6_refuse sh G l0 2) fun r23 G24 => if ¬ (r23 = 0 ∨ r23 = 1) then none else some (r23, G24)
set_option maxHeartbeats 4000000 in
theorem tX6_readWay {E : EX} {ad : Nat → Nat} {sh : Sh} {G : Hp} {l0 : Nat} {z : Int32 × Hp} (C : Cx E RX6 cX6_readWay 6 (some .boolean) 3 0 0) (hC : Cl sh G) (h_l0 : sh[l0]? = some (0, 6)) (hf : fX6_readWay sh G l0 = some z) (kr : RCz E cX6_readWay ad sh (z.1) (z.2)) : VV E 0 0 (wq (xT E) ad G sh) 0 [(0, .ref (ad l0))] [] := by
  unfold fX6_readWay at hf
  refine v_aload_n C 0 dX6_readWay_0 rfl rfl ?_
  obtain ⟨a1, qa1, hf⟩ := bn hf
  refine v_getO C h_l0 fl_X6_31 qa1 dX6_readWay_1 (fun h_a1 => ?_)
  refine v_getI C h_a1 fl_X6_148 dX6_readWay_4 ?_
  refine v_iconst (v := 4) C dX6_readWay_7 (by decide) ?_
  refine v_icmp_lt (tgt := 17) C dX6_readWay_8 (by decide) (fun c2 => ?_) (fun c2 => ?_)
  · have hf := ip hf c2
    refine v_aload_n C 0 dX6_readWay_17 rfl rfl ?_
    refine v_sipush (v := 258) C dX6_readWay_18 (by decide) ?_
    obtain ⟨r3, G4, qr3, hf⟩ := bpn hf
    refine v_callVi (As := [.int 258]) (rest := []) C (sX6_pass h_l0 qr3) cs_X6_116 (by decide) h_l0 rfl hC rfl rfl rfl (Nat.le_of_ble_eq_true rfl) ⟨Nat.le_refl _, Nat.le_refl _⟩ dX6_readWay_21 (fun hC => ?_)
    refine v_if_eq (tgt := 44) C dX6_readWay_24 (by decide) (fun c5 => ?_) (fun c5 => ?_)
    · have hf := ip hf c5
      refine v_iconst (v := 0) C dX6_readWay_44 (by decide) ?_
      cases hf
      exact kr _ _ dX6_readWay_45 (Or.inl rfl) hC
    · have hf := im hf c5
      refine v_aload_n C 0 dX6_readWay_27 rfl rfl ?_
      obtain ⟨r6, G7, qr6, hf⟩ := bpn hf
      refine v_callVi (As := []) (rest := []) C (sX6_readNewName h_l0 qr6) cs_X6_123 (by decide) h_l0 rfl hC rfl rfl rfl (Nat.le_of_ble_eq_true rfl) ⟨Nat.le_refl _, Nat.le_refl _⟩ dX6_readWay_28 (fun hC => ?_)
      refine v_if_eq (tgt := 44) C dX6_readWay_31 (by decide) (fun c8 => ?_) (fun c8 => ?_)
      · have hf := ip hf c8
        refine v_iconst (v := 0) C dX6_readWay_44 (by decide) ?_
        cases hf
        exact kr _ _ dX6_readWay_45 (Or.inl rfl) hC
      · have hf := im hf c8
        refine v_aload_n C 0 dX6_readWay_34 rfl rfl ?_
        refine v_iconst (v := 0) C dX6_readWay_35 (by decide) ?_
        refine v_bipush (v := 99) C dX6_readWay_36 (by decide) ?_
        obtain ⟨r9, G10, qr9, hf⟩ := bpn hf
        refine v_callVi (As := [.int 0, .int 99]) (rest := []) C (sX6_readNumber h_l0 qr9) cs_X6_129 (by decide) h_l0 rfl hC rfl rfl rfl (Nat.le_of_ble_eq_true rfl) ⟨Nat.le_refl _, Nat.le_refl _⟩ dX6_readWay_38 (fun hC => ?_)
        refine v_if_ne (tgt := 46) C dX6_readWay_41 (by decide) (fun c11 => ?_) (fun c11 => ?_)
        · have hf := im hf c11
          refine v_aload_n C 0 dX6_readWay_46 rfl rfl ?_
          obtain ⟨a12, qa12, hf⟩ := bn hf
          refine v_getO C h_l0 fl_X6_31 qa12 dX6_readWay_47 (fun h_a12 => ?_)
          obtain ⟨a13, qa13, hf⟩ := bn hf
          refine v_getA C h_a12 fl_X6_151 qa13 dX6_readWay_50 (fun h_a13 => ?_)
          refine v_aload_n C 0 dX6_readWay_53 rfl rfl ?_
          obtain ⟨a14, qa14, hf⟩ := bn hf
          refine v_getO C h_l0 fl_X6_31 qa14 dX6_readWay_54 (fun h_a14 => ?_)
          refine v_getI C h_a14 fl_X6_148 dX6_readWay_57 ?_
          refine v_aload_n C 0 dX6_readWay_60 rfl rfl ?_
          refine v_getI C h_l0 fl_X6_136 dX6_readWay_61 ?_
          obtain ⟨G15, qG15, hf⟩ := bn hf
          refine v_iast C h_a13 qG15 hC dX6_readWay_64 (fun hC => ?_)
          refine v_iconst (v := 0) C dX6_readWay_65 (by decide) ?_
          refine v_istore_n (lv2 := [(1, .int 0), (0, .ref (ad l0))]) C dX6_readWay_66 rfl (by decide) rfl ?_
          refine v_iconst (v := 0) C dX6_readWay_67 (by decide) ?_
          refine v_istore_n (lv2 := [(2, .int 0), (1, .int 0), (0, .ref (ad l0))]) C dX6_readWay_68 rfl (by decide) rfl ?_
          refine v_iconst (v := 0) C dX6_readWay_69 (by decide) ?_
          refine v_istore_n (lv2 := [(3, .int 0), (2, .int 0), (1, .int 0), (0, .ref (ad l0))]) C dX6_readWay_70 rfl (by decide) rfl ?_
          obtain ⟨r16, qr16, hf⟩ := bn hf
          refine v_sub [3, 2, 1, 0] rfl ?_
          refine iter_sound (P := (fun s : Hp × Int32 × Int32 × Int32 => Cl sh (s.1) → VV E 0 0 (wq (xT E) ad (s.1) sh) 71 [(0, .ref (ad l0)), (1, .int (s.2.1)), (2, .int (s.2.2.1)), (3, .int (s.2.2.2))] [])) (X := fun r => r = r16) (fun jsr16 jor16 hor16 jbr16 jxr16 hC => tX6_readWay_S71 C hC h_l0 hor16 (fun _ _ _ _ e => jbr16 _ e) ?_ ?_) fuel _ r16 qr16 rfl hC
          · intro G17 x18 x19 hu hC
            have e := jxr16 _ hu
            subst e
            have hf := sm_l hf
            have hf := bd_at hf (rfl : G17 = _)
            have hf := bd_at hf (rfl : x18 = _)
            have hf := bd_at hf (rfl : x19 = _)
            refine v_sub [0, 1, 2] rfl ?_
            exact tX6_readWay_J187 C hC h_l0 hf kr
          · intro G21 hu hC
            have e := jxr16 _ hu
            subst e
            have hf := sm_r hf
            have hf := bd_at hf (rfl : G21 = _)
            refine v_iconst (v := 0) C dX6_readWay_133 (by decide) ?_
            cases hf
            exact kr _ _ dX6_readWay_134 (Or.inl rfl) hC
        · have hf := ip hf c11
          refine v_iconst (v := 0) C dX6_readWay_44 (by decide) ?_
          cases hf
          exact kr _ _ dX6_readWay_45 (Or.inl rfl) hC
  · have hf := im hf c2
    refine v_aload_n C 0 dX6_readWay_11 rfl rfl ?_
    refine v_iconst (v := 2) C dX6_readWay_12 (by decide) ?_
    obtain ⟨r23, G24, qr23, hf⟩ := bpn hf
    refine v_callVi (As := [.int 2]) (rest := []) C (sX6_refuse h_l0 qr23) cs_X6_97 (by decide) h_l0 rfl hC rfl rfl rfl (Nat.le_of_ble_eq_true rfl) ⟨Nat.le_refl _, Nat.le_refl _⟩ dX6_readWay_13 (fun hC => ?_)
    obtain ⟨hz25, hf⟩ := iz hf
    cases hf
    exact kr _ _ dX6_readWay_16 (Classical.not_not.mp hz25) hC
theorem sX6_readWay {l : Launch} {sh : Sh} {G : Hp} {l0 : Nat} {z : Int32 × Hp} (h_l0 : sh[l0]? = some (0, 6)) (hf : fX6_readWay sh G l0 = some z) : MC l yX6_readWay cX6_readWay 6 (some .boolean) 3 0 0 sh sh G (z.2) (fun ad => [.ref (ad l0)]) (fun _ => some (.int z.1)) := by
  refine MC_of rfl rfl (fun _ => Nat.le_of_ble_eq_true rfl) (fun E ad C hl hnm hC hQ => ?_)
  exact tX6_readWay C hC h_l0 hf (fun pc lv hd hz hC => v_zret C hQ (fun _ _ => rfl) hC rfl hz hd)
def fX8_setsWith (sh : Sh) (G : Hp) (l0 : Int32) (l1 : Int32) : Option (Int64) := if 6 ≤ l0 then if ((ush l1 (l0 - 6)) &&& 1) = 0 then some 0 else some (-1) else if 0 ≤ l0 then (aSW l0).bind fun v7 => some v7 else some 0
set_option maxHeartbeats 4000000 in
theorem tX8_setsWith {E : EX} {ad : Nat → Nat} {sh : Sh} {G : Hp} {l0 : Int32} {l1 : Int32} {z : Int64} (C : Cx E RX8 cX8_setsWith 2 (some .long) 1 0 0) (hC : Cl sh G) (hf : fX8_setsWith sh G l0 l1 = some z) (kr : RCl E cX8_setsWith ad sh z G) : VV E 0 0 (wq (xT E) ad G sh) 0 [(0, .int l0), (1, .int l1)] [] := by
  unfold fX8_setsWith at hf
  refine v_iload_n C 0 dX8_setsWith_0 rfl rfl ?_
  refine v_getSW C kw_518 dX8_setsWith_1 (fun t1 h_t1 => ?_)
  refine v_swlen C h_t1 dX8_setsWith_4 ?_
  refine v_icmp_ge (tgt := 22) C dX8_setsWith_5 (by decide) (fun c2 => ?_) (fun c2 => ?_)
  · have hf := ip hf c2
    refine v_iload_n C 1 dX8_setsWith_22 rfl rfl ?_
    refine v_iload_n C 0 dX8_setsWith_23 rfl rfl ?_
    refine v_getSW C kw_518 dX8_setsWith_24 (fun t3 h_t3 => ?_)
    refine v_swlen C h_t3 dX8_setsWith_27 ?_
    refine v_isub C dX8_setsWith_28 ?_
    refine v_iushr C dX8_setsWith_29 ?_
    refine v_iconst (v := 1) C dX8_setsWith_30 (by decide) ?_
    refine v_iand C dX8_setsWith_31 ?_
    refine v_if_eq (tgt := 41) C dX8_setsWith_32 (by decide) (fun c4 => ?_) (fun c4 => ?_)
    · have hf := ip hf c4
      refine v_lconst (v := 0) C dX8_setsWith_41 (by decide) ?_
      cases hf
      exact kr _ _ dX8_setsWith_42 hC
    · have hf := im hf c4
      refine v_ldc2 (v := (-1)) C dX8_setsWith_35 kw_7 ?_
      refine v_goto (tgt := 42) C dX8_setsWith_38 (by decide) ?_
      cases hf
      exact kr _ _ dX8_setsWith_42 hC
  · have hf := im hf c2
    refine v_iload_n C 0 dX8_setsWith_8 rfl rfl ?_
    refine v_if_ge (tgt := 16) C dX8_setsWith_9 (by decide) (fun c5 => ?_) (fun c5 => ?_)
    · have hf := ip hf c5
      refine v_getSW C kw_518 dX8_setsWith_16 (fun t6 h_t6 => ?_)
      refine v_iload_n C 0 dX8_setsWith_19 rfl rfl ?_
      obtain ⟨v7, qv7, hf⟩ := bn hf
      refine v_swld C h_t6 qv7 dX8_setsWith_20 ?_
      cases hf
      exact kr _ _ dX8_setsWith_21 hC
    · have hf := im hf c5
      refine v_lconst (v := 0) C dX8_setsWith_12 (by decide) ?_
      refine v_goto (tgt := 21) C dX8_setsWith_13 (by decide) ?_
      cases hf
      exact kr _ _ dX8_setsWith_21 hC
theorem sX8_setsWith {l : Launch} {sh : Sh} {G : Hp} {l0 : Int32} {l1 : Int32} {z : Int64} (hf : fX8_setsWith sh G l0 l1 = some z) : MC l yX8_setsWith cX8_setsWith 2 (some .long) 1 0 0 sh sh G G (fun ad => [.int l0, .int l1]) (fun _ => some (.long z)) := by
  refine MC_of rfl rfl (fun _ => Nat.le_of_ble_eq_true rfl) (fun E ad C hl hnm hC hQ => ?_)
  exact tX8_setsWith C hC hf (fun pc lv hd hC => v_lret C hQ (fun _ _ => rfl) hC rfl hd)
def fX6_pushTable_S11 (sh : Sh) (l0 : Nat) (G : Hp) (l1 : Int32) : Option ((Hp × Int32) ⊕ ((Hp))) := if 4 ≤ l1 then some (.inr G) else (ldA sh G l0 14 4).bind fun a2 => (fX8_setsWith sh G (G.1 l0 8) l1).bind fun r3 => (asJ sh G a2 (((G.1 l0 15) * 4) + l1) r3).bind fun G4 => bd ((l1 + 1) : Int32) fun x5 => some (.inl (G4, x5))
set_option maxHeartbeats 4000000 in
theorem tX6_pushTable_S11 {E : EX} {ad : Nat → Nat} {sh : Sh} {G : Hp} {l0 : Nat} {l1 : Int32} {o : (Hp × Int32) ⊕ ((Hp))} (C : Cx E RX6 cX6_pushTable 2 none 2 0 0) (hC : Cl sh G) (h_l0 : sh[l0]? = some (0, 6)) (hf : fX6_pushTable_S11 sh l0 G l1 = some o) (kb : ∀ (G2 : Hp) (b_l1 : Int32), o = .inl (G2, b_l1) → Cl sh G2 → VV E 0 0 (wq (xT E) ad G2 sh) 11 [(0, .ref (ad l0)), (1, .int b_l1)] []) (kx43 : ∀ (G2 : Hp), o = .inr G2 → Cl sh G2 → VV E 0 0 (wq (xT E) ad G2 sh) 43 [(0, .ref (ad l0))] []) : VV E 0 0 (wq (xT E) ad G sh) 11 [(0, .ref (ad l0)), (1, .int l1)] [] := by
  unfold fX6_pushTable_S11 at hf
  refine v_iload_n C 1 dX6_pushTable_11 rfl rfl ?_
  refine v_iconst (v := 4) C dX6_pushTable_12 (by decide) ?_
  refine v_icmp_ge (tgt := 43) C dX6_pushTable_13 (by decide) (fun c1 => ?_) (fun c1 => ?_)
  · have hf := ip hf c1
    cases hf
    refine v_sub [0] rfl ?_
    exact kx43 _ rfl hC
  · have hf := im hf c1
    refine v_aload_n C 0 dX6_pushTable_16 rfl rfl ?_
    obtain ⟨a2, qa2, hf⟩ := bn hf
    refine v_getA C h_l0 fl_X6_27 qa2 dX6_pushTable_17 (fun h_a2 => ?_)
    refine v_aload_n C 0 dX6_pushTable_20 rfl rfl ?_
    refine v_getI C h_l0 fl_X6_169 dX6_pushTable_21 ?_
    refine v_iconst (v := 4) C dX6_pushTable_24 (by decide) ?_
    refine v_imul C dX6_pushTable_25 ?_
    refine v_iload_n C 1 dX6_pushTable_26 rfl rfl ?_
    refine v_iadd C dX6_pushTable_27 ?_
    refine v_aload_n C 0 dX6_pushTable_28 rfl rfl ?_
    refine v_getI C h_l0 fl_X6_142 dX6_pushTable_29 ?_
    refine v_iload_n C 1 dX6_pushTable_32 rfl rfl ?_
    obtain ⟨r3, qr3, hf⟩ := bn hf
    refine v_callSl (As := [.int (G.1 l0 8), .int l1]) (rest := [.int (((G.1 l0 15) * 4) + l1), .ref (ad a2)]) C (sX8_setsWith  qr3) cs_X6_210 (by decide) hC rfl rfl rfl (Nat.le_of_ble_eq_true rfl) ⟨Nat.le_refl _, Nat.le_refl _⟩ dX6_pushTable_33 (fun hC => ?_)
    obtain ⟨G4, qG4, hf⟩ := bn hf
    refine v_last C h_a2 qG4 hC dX6_pushTable_36 (fun hC => ?_)
    obtain ⟨x5, ex5⟩ : ∃ x : Int32, x = (l1 + 1) := ⟨_, rfl⟩
    have hf := bd_at hf ex5
    refine v_iinc (v := x5) (j := 1) (lv2 := [(1, .int x5), (0, .ref (ad l0))]) C dX6_pushTable_37 rfl (by rw [ex5]; rfl) (by decide) rfl ?_
    refine v_goto (tgt := 11) C dX6_pushTable_40 (by decide) ?_
    cases hf
    refine v_sub [1, 0] rfl ?_
    exact kb _ _ rfl hC
def fX6_pushTable (sh : Sh) (G : Hp) (l0 : Nat) : Option (Hp) := if 15 ≤ (G.1 l0 15) then some G else (iter (fun s : Hp × Int32 => fX6_pushTable_S11 sh l0 s.1 s.2) fuel ((G, 0) : Hp × Int32)).bind (fun u5 => bd u5 fun G3 => bd (sI G3 l0 15 ((G3.1 l0 15) + 1)) fun G4 => some G4)
set_option maxHeartbeats 4000000 in
theorem tX6_pushTable {E : EX} {ad : Nat → Nat} {sh : Sh} {G : Hp} {l0 : Nat} {z : Hp} (C : Cx E RX6 cX6_pushTable 2 none 2 0 0) (hC : Cl sh G) (h_l0 : sh[l0]? = some (0, 6)) (hf : fX6_pushTable sh G l0 = some z) (kr : RCv E cX6_pushTable ad sh z) : VV E 0 0 (wq (xT E) ad G sh) 0 [(0, .ref (ad l0))] [] := by
  unfold fX6_pushTable at hf
  refine v_aload_n C 0 dX6_pushTable_0 rfl rfl ?_
  refine v_getI C h_l0 fl_X6_169 dX6_pushTable_1 ?_
  refine v_bipush (v := 15) C dX6_pushTable_4 (by decide) ?_
  refine v_icmp_ge (tgt := 53) C dX6_pushTable_6 (by decide) (fun c1 => ?_) (fun c1 => ?_)
  · have hf := ip hf c1
    cases hf
    exact kr _ _ dX6_pushTable_53 hC
  · have hf := im hf c1
    refine v_iconst (v := 0) C dX6_pushTable_9 (by decide) ?_
    refine v_istore_n (lv2 := [(1, .int 0), (0, .ref (ad l0))]) C dX6_pushTable_10 rfl (by decide) rfl ?_
    obtain ⟨r2, qr2, hf⟩ := bn hf
    refine v_sub [1, 0] rfl ?_
    refine iter_sound (P := (fun s : Hp × Int32 => Cl sh (s.1) → VV E 0 0 (wq (xT E) ad (s.1) sh) 11 [(0, .ref (ad l0)), (1, .int (s.2))] [])) (X := fun r => r = r2) (fun jsr2 jor2 hor2 jbr2 jxr2 hC => tX6_pushTable_S11 C hC h_l0 hor2 (fun _ _ e => jbr2 _ e) ?_) fuel _ r2 qr2 rfl hC
    · intro G3 hu hC
      have e := jxr2 _ hu
      subst e
      have hf := bd_at hf (rfl : G3 = _)
      refine v_aload_n C 0 dX6_pushTable_43 rfl rfl ?_
      refine v_dup C dX6_pushTable_44 rfl ?_
      refine v_getI C h_l0 fl_X6_169 dX6_pushTable_45 ?_
      refine v_iconst (v := 1) C dX6_pushTable_48 (by decide) ?_
      refine v_iadd C dX6_pushTable_49 ?_
      refine v_putI C h_l0 fp_X6_169 dX6_pushTable_50 (fun G4 eG4 => ?_)
      have hf := bd_at hf eG4
      have hC : Cl sh G4 := by rw [eG4]; exact hC
      cases hf
      exact kr _ _ dX6_pushTable_53 hC
theorem sX6_pushTable {l : Launch} {sh : Sh} {G : Hp} {l0 : Nat} {z : Hp} (h_l0 : sh[l0]? = some (0, 6)) (hf : fX6_pushTable sh G l0 = some z) : MC l yX6_pushTable cX6_pushTable 2 none 2 0 0 sh sh G z (fun ad => [.ref (ad l0)]) (fun _ => none) := by
  refine MC_of rfl rfl (fun _ => Nat.le_of_ble_eq_true rfl) (fun E ad C hl hnm hC hQ => ?_)
  exact tX6_pushTable C hC h_l0 hf (fun pc lv hd hC => v_vret C hQ (fun _ _ => rfl) hC rfl hd)
def fX6_turnTable_S17 (sh : Sh) (l0 : Nat) (G : Hp) (l1 : Int32) : Option ((Hp × Int32) ⊕ ((Hp))) := if ((G.1 l0 15) * 4) ≤ l1 then some (.inr G) else (ldA sh G l0 14 4).bind fun a2 => (ldA sh G l0 14 4).bind fun a3 => (aJ sh G a3 l1).bind fun v4 => (asJ sh G a2 l1 (v4 ^^^ (-1))).bind fun G5 => bd ((l1 + 1) : Int32) fun x6 => some (.inl (G5, x6))
set_option maxHeartbeats 4000000 in
theorem tX6_turnTable_S17 {E : EX} {ad : Nat → Nat} {sh : Sh} {G : Hp} {l0 : Nat} {l1 : Int32} {o : (Hp × Int32) ⊕ ((Hp))} (C : Cx E RX6 cX6_turnTable 2 none 1 0 0) (hC : Cl sh G) (h_l0 : sh[l0]? = some (0, 6)) (hf : fX6_turnTable_S17 sh l0 G l1 = some o) (kb : ∀ (G2 : Hp) (b_l1 : Int32), o = .inl (G2, b_l1) → Cl sh G2 → VV E 0 0 (wq (xT E) ad G2 sh) 17 [(0, .ref (ad l0)), (1, .int b_l1)] []) (kx49 : ∀ (G2 : Hp), o = .inr G2 → Cl sh G2 → VV E 0 0 (wq (xT E) ad G2 sh) 49 [(0, .ref (ad l0))] []) : VV E 0 0 (wq (xT E) ad G sh) 17 [(0, .ref (ad l0)), (1, .int l1)] [] := by
  unfold fX6_turnTable_S17 at hf
  refine v_iload_n C 1 dX6_turnTable_17 rfl rfl ?_
  refine v_aload_n C 0 dX6_turnTable_18 rfl rfl ?_
  refine v_getI C h_l0 fl_X6_169 dX6_turnTable_19 ?_
  refine v_iconst (v := 4) C dX6_turnTable_22 (by decide) ?_
  refine v_imul C dX6_turnTable_23 ?_
  refine v_icmp_ge (tgt := 49) C dX6_turnTable_24 (by decide) (fun c1 => ?_) (fun c1 => ?_)
  · have hf := ip hf c1
    cases hf
    refine v_sub [0] rfl ?_
    exact kx49 _ rfl hC
  · have hf := im hf c1
    refine v_aload_n C 0 dX6_turnTable_27 rfl rfl ?_
    obtain ⟨a2, qa2, hf⟩ := bn hf
    refine v_getA C h_l0 fl_X6_27 qa2 dX6_turnTable_28 (fun h_a2 => ?_)
    refine v_iload_n C 1 dX6_turnTable_31 rfl rfl ?_
    refine v_aload_n C 0 dX6_turnTable_32 rfl rfl ?_
    obtain ⟨a3, qa3, hf⟩ := bn hf
    refine v_getA C h_l0 fl_X6_27 qa3 dX6_turnTable_33 (fun h_a3 => ?_)
    refine v_iload_n C 1 dX6_turnTable_36 rfl rfl ?_
    obtain ⟨v4, qv4, hf⟩ := bn hf
    refine v_lald C h_a3 qv4 dX6_turnTable_37 ?_
    refine v_ldc2 (v := (-1)) C dX6_turnTable_38 kw_524 ?_
    refine v_lxor C dX6_turnTable_41 ?_
    obtain ⟨G5, qG5, hf⟩ := bn hf
    refine v_last C h_a2 qG5 hC dX6_turnTable_42 (fun hC => ?_)
    obtain ⟨x6, ex6⟩ : ∃ x : Int32, x = (l1 + 1) := ⟨_, rfl⟩
    have hf := bd_at hf ex6
    refine v_iinc (v := x6) (j := 1) (lv2 := [(1, .int x6), (0, .ref (ad l0))]) C dX6_turnTable_43 rfl (by rw [ex6]; rfl) (by decide) rfl ?_
    refine v_goto (tgt := 17) C dX6_turnTable_46 (by decide) ?_
    cases hf
    refine v_sub [1, 0] rfl ?_
    exact kb _ _ rfl hC
def fX6_turnTable (sh : Sh) (G : Hp) (l0 : Nat) : Option (Hp) := if (G.1 l0 15) < 1 then some G else bd ((((G.1 l0 15) - 1) * 4) : Int32) fun x2 => (iter (fun s : Hp × Int32 => fX6_turnTable_S17 sh l0 s.1 s.2) fuel ((G, x2) : Hp × Int32)).bind (fun u5 => bd u5 fun G4 => some G4)
set_option maxHeartbeats 4000000 in
theorem tX6_turnTable {E : EX} {ad : Nat → Nat} {sh : Sh} {G : Hp} {l0 : Nat} {z : Hp} (C : Cx E RX6 cX6_turnTable 2 none 1 0 0) (hC : Cl sh G) (h_l0 : sh[l0]? = some (0, 6)) (hf : fX6_turnTable sh G l0 = some z) (kr : RCv E cX6_turnTable ad sh z) : VV E 0 0 (wq (xT E) ad G sh) 0 [(0, .ref (ad l0))] [] := by
  unfold fX6_turnTable at hf
  refine v_aload_n C 0 dX6_turnTable_0 rfl rfl ?_
  refine v_getI C h_l0 fl_X6_169 dX6_turnTable_1 ?_
  refine v_iconst (v := 1) C dX6_turnTable_4 (by decide) ?_
  refine v_icmp_lt (tgt := 49) C dX6_turnTable_5 (by decide) (fun c1 => ?_) (fun c1 => ?_)
  · have hf := ip hf c1
    cases hf
    exact kr _ _ dX6_turnTable_49 hC
  · have hf := im hf c1
    refine v_aload_n C 0 dX6_turnTable_8 rfl rfl ?_
    refine v_getI C h_l0 fl_X6_169 dX6_turnTable_9 ?_
    refine v_iconst (v := 1) C dX6_turnTable_12 (by decide) ?_
    refine v_isub C dX6_turnTable_13 ?_
    refine v_iconst (v := 4) C dX6_turnTable_14 (by decide) ?_
    refine v_imul C dX6_turnTable_15 ?_
    refine v_topi (fun x2 ex2 => ?_)
    have hf := bd_at hf ex2
    refine v_istore_n (lv2 := [(1, .int x2), (0, .ref (ad l0))]) C dX6_turnTable_16 rfl (by decide) rfl ?_
    obtain ⟨r3, qr3, hf⟩ := bn hf
    refine v_sub [1, 0] rfl ?_
    refine iter_sound (P := (fun s : Hp × Int32 => Cl sh (s.1) → VV E 0 0 (wq (xT E) ad (s.1) sh) 17 [(0, .ref (ad l0)), (1, .int (s.2))] [])) (X := fun r => r = r3) (fun jsr3 jor3 hor3 jbr3 jxr3 hC => tX6_turnTable_S17 C hC h_l0 hor3 (fun _ _ e => jbr3 _ e) ?_) fuel _ r3 qr3 rfl hC
    · intro G4 hu hC
      have e := jxr3 _ hu
      subst e
      have hf := bd_at hf (rfl : G4 = _)
      cases hf
      exact kr _ _ dX6_turnTable_49 hC
theorem sX6_turnTable {l : Launch} {sh : Sh} {G : Hp} {l0 : Nat} {z : Hp} (h_l0 : sh[l0]? = some (0, 6)) (hf : fX6_turnTable sh G l0 = some z) : MC l yX6_turnTable cX6_turnTable 2 none 1 0 0 sh sh G z (fun ad => [.ref (ad l0)]) (fun _ => none) := by
  refine MC_of rfl rfl (fun _ => Nat.le_of_ble_eq_true rfl) (fun E ad C hl hnm hC hQ => ?_)
  exact tX6_turnTable C hC h_l0 hf (fun pc lv hd hC => v_vret C hQ (fun _ _ => rfl) hC rfl hd)
def fX6_readNot_S4 (sh : Sh) (rc : Hp → Nat → Int32 → Int32 → Option (Int32 × Hp)) (l0 : Nat) (l1 : Int32) (G : Hp) (l2 : Int32) (l3 : Int32) : Option ((Hp × Int32 × Int32) ⊕ ((Hp × Int32) ⊕ (Hp) ⊕ (Hp))) := if 6 < l3 then some (.inr (.inl (G, l2))) else if (G.1 l0 5) = 269 then if l3 = 6 then some (.inr (.inr (.inl G))) else bp (fX6_pass sh G l0 269) fun r4 G5 => if r4 = 0 then some (.inr (.inr (.inr G5))) else if l2 = 0 then bd ((l3 + 1) : Int32) fun x9 => some (.inl (G5, 1, x9)) else bd ((l3 + 1) : Int32) fun x8 => some (.inl (G5, 0, x8)) else some (.inr (.inl (G, l2)))
set_option maxHeartbeats 4000000 in
theorem tX6_readNot_S4 {E : EX} {ad : Nat → Nat} {sh : Sh} {G : Hp} {rc : Hp → Nat → Int32 → Int32 → Option (Int32 × Hp)} {hr : Nat} {l0 : Nat} {l1 : Int32} {l2 : Int32} {l3 : Int32} {o : (Hp × Int32 × Int32) ⊕ ((Hp × Int32) ⊕ (Hp) ⊕ (Hp))} (C : Cx E RX6 cX6_readNot 4 (some .boolean) (hr + 1) 0 0) (hC : Cl sh G) (hr10 : 10 ≤ hr) (hrec : ∀ (G : Hp) (a0 : Nat) (a1 : Int32) (a2 : Int32) z, rc G a0 a1 a2 = some z → sh[a0]? = some (0, 6) → MC (xl E) yX6_readEither cX6_readEither 4 (some .boolean) hr 0 0 sh sh G (z.2) (fun ad => [.ref (ad a0), .int a1, .int a2]) (fun _ => some (.int z.1))) (h_l0 : sh[l0]? = some (0, 6)) (hf : fX6_readNot_S4 sh rc l0 l1 G l2 l3 = some o) (kb : ∀ (G2 : Hp) (b_l2 : Int32) (b_l3 : Int32), o = .inl (G2, b_l2, b_l3) → Cl sh G2 → VV E 0 0 (wq (xT E) ad G2 sh) 4 [(0, .ref (ad l0)), (1, .int l1), (2, .int b_l2), (3, .int b_l3)] []) (kx60 : ∀ (G2 : Hp) (b_l2 : Int32), o = .inr (.inl (G2, b_l2)) → Cl sh G2 → VV E 0 0 (wq (xT E) ad G2 sh) 60 [(0, .ref (ad l0)), (1, .int l1), (2, .int b_l2)] []) (kx26 : ∀ (G2 : Hp), o = .inr (.inr (.inl G2)) → Cl sh G2 → VV E 0 0 (wq (xT E) ad G2 sh) 26 [(0, .ref (ad l0)), (1, .int l1)] []) (kx42 : ∀ (G2 : Hp), o = .inr (.inr (.inr G2)) → Cl sh G2 → VV E 0 0 (wq (xT E) ad G2 sh) 42 [(0, .ref (ad l0)), (1, .int l1)] []) : VV E 0 0 (wq (xT E) ad G sh) 4 [(0, .ref (ad l0)), (1, .int l1), (2, .int l2), (3, .int l3)] [] := by
  unfold fX6_readNot_S4 at hf
  refine v_iload_n C 3 dX6_readNot_4 rfl rfl ?_
  refine v_bipush (v := 6) C dX6_readNot_5 (by decide) ?_
  refine v_icmp_gt (tgt := 60) C dX6_readNot_7 (by decide) (fun c1 => ?_) (fun c1 => ?_)
  · have hf := ip hf c1
    cases hf
    refine v_sub [0, 1, 2] rfl ?_
    exact kx60 _ _ rfl hC
  · have hf := im hf c1
    refine v_aload_n C 0 dX6_readNot_10 rfl rfl ?_
    refine v_getI C h_l0 fl_X6_65 dX6_readNot_11 ?_
    refine v_sipush (v := 269) C dX6_readNot_14 (by decide) ?_
    refine v_icmp_ne (tgt := 60) C dX6_readNot_17 (by decide) (fun c2 => ?_) (fun c2 => ?_)
    · have hf := im hf c2
      cases hf
      refine v_sub [0, 1, 2] rfl ?_
      exact kx60 _ _ rfl hC
    · have hf := ip hf c2
      refine v_iload_n C 3 dX6_readNot_20 rfl rfl ?_
      refine v_bipush (v := 6) C dX6_readNot_21 (by decide) ?_
      refine v_icmp_ne (tgt := 32) C dX6_readNot_23 (by decide) (fun c3 => ?_) (fun c3 => ?_)
      · have hf := im hf c3
        refine v_aload_n C 0 dX6_readNot_32 rfl rfl ?_
        refine v_sipush (v := 269) C dX6_readNot_33 (by decide) ?_
        obtain ⟨r4, G5, qr4, hf⟩ := bpn hf
        refine v_callVi (As := [.int 269]) (rest := []) C (sX6_pass h_l0 qr4) cs_X6_116 (by omega) h_l0 rfl hC rfl rfl rfl (Nat.le_of_ble_eq_true rfl) ⟨Nat.le_refl _, Nat.le_refl _⟩ dX6_readNot_36 (fun hC => ?_)
        refine v_if_ne (tgt := 44) C dX6_readNot_39 (by decide) (fun c6 => ?_) (fun c6 => ?_)
        · have hf := im hf c6
          refine v_iload_n C 2 dX6_readNot_44 rfl rfl ?_
          refine v_if_ne (tgt := 52) C dX6_readNot_45 (by decide) (fun c7 => ?_) (fun c7 => ?_)
          · have hf := im hf c7
            refine v_iconst (v := 0) C dX6_readNot_52 (by decide) ?_
            refine v_istore_n (lv2 := [(2, .int 0), (0, .ref (ad l0)), (1, .int l1), (3, .int l3)]) C dX6_readNot_53 rfl (by decide) rfl ?_
            obtain ⟨x8, ex8⟩ : ∃ x : Int32, x = (l3 + 1) := ⟨_, rfl⟩
            have hf := bd_at hf ex8
            refine v_iinc (v := x8) (j := 3) (lv2 := [(3, .int x8), (2, .int 0), (0, .ref (ad l0)), (1, .int l1)]) C dX6_readNot_54 rfl (by rw [ex8]; rfl) (by decide) rfl ?_
            refine v_goto (tgt := 4) C dX6_readNot_57 (by decide) ?_
            cases hf
            refine v_sub [2, 3, 1, 0] rfl ?_
            exact kb _ _ _ rfl hC
          · have hf := ip hf c7
            refine v_iconst (v := 1) C dX6_readNot_48 (by decide) ?_
            refine v_goto (tgt := 53) C dX6_readNot_49 (by decide) ?_
            refine v_istore_n (lv2 := [(2, .int 1), (0, .ref (ad l0)), (1, .int l1), (3, .int l3)]) C dX6_readNot_53 rfl (by decide) rfl ?_
            obtain ⟨x9, ex9⟩ : ∃ x : Int32, x = (l3 + 1) := ⟨_, rfl⟩
            have hf := bd_at hf ex9
            refine v_iinc (v := x9) (j := 3) (lv2 := [(3, .int x9), (2, .int 1), (0, .ref (ad l0)), (1, .int l1)]) C dX6_readNot_54 rfl (by rw [ex9]; rfl) (by decide) rfl ?_
            refine v_goto (tgt := 4) C dX6_readNot_57 (by decide) ?_
            cases hf
            refine v_sub [2, 3, 1, 0] rfl ?_
            exact kb _ _ _ rfl hC
        · have hf := ip hf c6
          cases hf
          refine v_sub [0, 1] rfl ?_
          exact kx42 _ rfl hC
      · have hf := ip hf c3
        cases hf
        refine v_sub [0, 1] rfl ?_
        exact kx26 _ rfl hC
def fX6_readNot_J60 (sh : Sh) (rc : Hp → Nat → Int32 → Int32 → Option (Int32 × Hp)) (G : Hp) (l0 : Nat) (l1 : Int32) (l2 : Int32) : Option (Int32 × Hp) := if (G.1 l0 5) = 40 then if l1 < 6 then bp (fX6_pass sh G l0 40) fun r11 G12 => if r11 = 0 then some (0, G12) else bp (rc G12 l0 (l1 + 1) 41) fun r14 G15 => if r14 = 0 then some (0, G15) else if l2 = 0 then some (1, G15) else (fX6_turnTable sh G15 l0).bind fun G19 => some (1, G19) else bp (fX6_refuse sh G l0 2) fun r20 G21 => if ¬ (r20 = 0 ∨ r20 = 1) then none else some (r20, G21) else bp (fX6_readTraitName sh G l0) fun r2 G3 => if r2 = 0 then some (0, G3) else (fX6_pushTable sh G3 l0).bind fun G6 => if l2 = 0 then some (1, G6) else (fX6_turnTable sh G6 l0).bind fun G9 => some (1, G9)
set_option maxHeartbeats 4000000 in
theorem tX6_readNot_J60 {E : EX} {ad : Nat → Nat} {sh : Sh} {G : Hp} {rc : Hp → Nat → Int32 → Int32 → Option (Int32 × Hp)} {hr : Nat} {l0 : Nat} {l1 : Int32} {l2 : Int32} {z : Int32 × Hp} (C : Cx E RX6 cX6_readNot 4 (some .boolean) (hr + 1) 0 0) (hC : Cl sh G) (hr10 : 10 ≤ hr) (hrec : ∀ (G : Hp) (a0 : Nat) (a1 : Int32) (a2 : Int32) z, rc G a0 a1 a2 = some z → sh[a0]? = some (0, 6) → MC (xl E) yX6_readEither cX6_readEither 4 (some .boolean) hr 0 0 sh sh G (z.2) (fun ad => [.ref (ad a0), .int a1, .int a2]) (fun _ => some (.int z.1))) (h_l0 : sh[l0]? = some (0, 6)) (hf : fX6_readNot_J60 sh rc G l0 l1 l2 = some z) (kr : RCz E cX6_readNot ad sh (z.1) (z.2)) : VV E 0 0 (wq (xT E) ad G sh) 60 [(0, .ref (ad l0)), (1, .int l1), (2, .int l2)] [] := by
  unfold fX6_readNot_J60 at hf
  refine v_aload_n C 0 dX6_readNot_60 rfl rfl ?_
  refine v_getI C h_l0 fl_X6_65 dX6_readNot_61 ?_
  refine v_bipush (v := 40) C dX6_readNot_64 (by decide) ?_
  refine v_icmp_ne (tgt := 104) C dX6_readNot_66 (by decide) (fun c1 => ?_) (fun c1 => ?_)
  · have hf := im hf c1
    refine v_aload_n C 0 dX6_readNot_104 rfl rfl ?_
    obtain ⟨r2, G3, qr2, hf⟩ := bpn hf
    refine v_callVi (As := []) (rest := []) C (sX6_readTraitName h_l0 qr2) cs_X6_139 (by omega) h_l0 rfl hC rfl rfl rfl (Nat.le_of_ble_eq_true rfl) ⟨Nat.le_refl _, Nat.le_refl _⟩ dX6_readNot_105 (fun hC => ?_)
    refine v_if_ne (tgt := 113) C dX6_readNot_108 (by decide) (fun c4 => ?_) (fun c4 => ?_)
    · have hf := im hf c4
      refine v_aload_n C 0 dX6_readNot_113 rfl rfl ?_
      obtain ⟨G6, qr5, hf⟩ := bn hf
      refine v_callVv (As := []) (rest := []) C (sX6_pushTable h_l0 qr5) cs_X6_204 (by omega) h_l0 rfl hC rfl rfl rfl (Nat.le_of_ble_eq_true rfl) ⟨Nat.le_refl _, Nat.le_refl _⟩ dX6_readNot_114 (fun hC => ?_)
      refine v_iload_n C 2 dX6_readNot_117 rfl rfl ?_
      refine v_if_eq (tgt := 125) C dX6_readNot_118 (by decide) (fun c7 => ?_) (fun c7 => ?_)
      · have hf := ip hf c7
        refine v_iconst (v := 1) C dX6_readNot_125 (by decide) ?_
        cases hf
        exact kr _ _ dX6_readNot_126 (Or.inr rfl) hC
      · have hf := im hf c7
        refine v_aload_n C 0 dX6_readNot_121 rfl rfl ?_
        obtain ⟨G9, qr8, hf⟩ := bn hf
        refine v_callVv (As := []) (rest := []) C (sX6_turnTable h_l0 qr8) cs_X6_207 (by omega) h_l0 rfl hC rfl rfl rfl (Nat.le_of_ble_eq_true rfl) ⟨Nat.le_refl _, Nat.le_refl _⟩ dX6_readNot_122 (fun hC => ?_)
        refine v_iconst (v := 1) C dX6_readNot_125 (by decide) ?_
        cases hf
        exact kr _ _ dX6_readNot_126 (Or.inr rfl) hC
    · have hf := ip hf c4
      refine v_iconst (v := 0) C dX6_readNot_111 (by decide) ?_
      cases hf
      exact kr _ _ dX6_readNot_112 (Or.inl rfl) hC
  · have hf := ip hf c1
    refine v_iload_n C 1 dX6_readNot_69 rfl rfl ?_
    refine v_bipush (v := 6) C dX6_readNot_70 (by decide) ?_
    refine v_icmp_lt (tgt := 81) C dX6_readNot_72 (by decide) (fun c10 => ?_) (fun c10 => ?_)
    · have hf := ip hf c10
      refine v_aload_n C 0 dX6_readNot_81 rfl rfl ?_
      refine v_bipush (v := 40) C dX6_readNot_82 (by decide) ?_
      obtain ⟨r11, G12, qr11, hf⟩ := bpn hf
      refine v_callVi (As := [.int 40]) (rest := []) C (sX6_pass h_l0 qr11) cs_X6_116 (by omega) h_l0 rfl hC rfl rfl rfl (Nat.le_of_ble_eq_true rfl) ⟨Nat.le_refl _, Nat.le_refl _⟩ dX6_readNot_84 (fun hC => ?_)
      refine v_if_eq (tgt := 102) C dX6_readNot_87 (by decide) (fun c13 => ?_) (fun c13 => ?_)
      · have hf := ip hf c13
        refine v_iconst (v := 0) C dX6_readNot_102 (by decide) ?_
        cases hf
        exact kr _ _ dX6_readNot_103 (Or.inl rfl) hC
      · have hf := im hf c13
        refine v_aload_n C 0 dX6_readNot_90 rfl rfl ?_
        refine v_iload_n C 1 dX6_readNot_91 rfl rfl ?_
        refine v_iconst (v := 1) C dX6_readNot_92 (by decide) ?_
        refine v_iadd C dX6_readNot_93 ?_
        refine v_bipush (v := 41) C dX6_readNot_94 (by decide) ?_
        obtain ⟨r14, G15, qr14, hf⟩ := bpn hf
        refine v_callVi (As := [.int (l1 + 1), .int 41]) (rest := []) C (hrec _ _ _ _ _ qr14 h_l0) cs_X6_172 (by omega) h_l0 rfl hC rfl rfl rfl (Nat.le_of_ble_eq_true rfl) ⟨Nat.le_refl _, Nat.le_refl _⟩ dX6_readNot_96 (fun hC => ?_)
        refine v_if_ne (tgt := 117) C dX6_readNot_99 (by decide) (fun c16 => ?_) (fun c16 => ?_)
        · have hf := im hf c16
          refine v_iload_n C 2 dX6_readNot_117 rfl rfl ?_
          refine v_if_eq (tgt := 125) C dX6_readNot_118 (by decide) (fun c17 => ?_) (fun c17 => ?_)
          · have hf := ip hf c17
            refine v_iconst (v := 1) C dX6_readNot_125 (by decide) ?_
            cases hf
            exact kr _ _ dX6_readNot_126 (Or.inr rfl) hC
          · have hf := im hf c17
            refine v_aload_n C 0 dX6_readNot_121 rfl rfl ?_
            obtain ⟨G19, qr18, hf⟩ := bn hf
            refine v_callVv (As := []) (rest := []) C (sX6_turnTable h_l0 qr18) cs_X6_207 (by omega) h_l0 rfl hC rfl rfl rfl (Nat.le_of_ble_eq_true rfl) ⟨Nat.le_refl _, Nat.le_refl _⟩ dX6_readNot_122 (fun hC => ?_)
            refine v_iconst (v := 1) C dX6_readNot_125 (by decide) ?_
            cases hf
            exact kr _ _ dX6_readNot_126 (Or.inr rfl) hC
        · have hf := ip hf c16
          refine v_iconst (v := 0) C dX6_readNot_102 (by decide) ?_
          cases hf
          exact kr _ _ dX6_readNot_103 (Or.inl rfl) hC
    · have hf := im hf c10
      refine v_aload_n C 0 dX6_readNot_75 rfl rfl ?_
      refine v_iconst (v := 2) C dX6_readNot_76 (by decide) ?_
      obtain ⟨r20, G21, qr20, hf⟩ := bpn hf
      refine v_callVi (As := [.int 2]) (rest := []) C (sX6_refuse h_l0 qr20) cs_X6_97 (by omega) h_l0 rfl hC rfl rfl rfl (Nat.le_of_ble_eq_true rfl) ⟨Nat.le_refl _, Nat.le_refl _⟩ dX6_readNot_77 (fun hC => ?_)
      obtain ⟨hz22, hf⟩ := iz hf
      cases hf
      exact kr _ _ dX6_readNot_80 (Classical.not_not.mp hz22) hC
def fX6_readNot (sh : Sh) (rc : Hp → Nat → Int32 → Int32 → Option (Int32 × Hp)) (G : Hp) (l0 : Nat) (l1 : Int32) : Option (Int32 × Hp) := (iter (fun s : Hp × Int32 × Int32 => fX6_readNot_S4 sh rc l0 l1 s.1 s.2.1 s.2.2) fuel ((G, 0, 0) : Hp × Int32 × Int32)).bind (Sum.elim (fun u4 => bd u4.1 fun G2 => bd u4.2 fun x3 => fX6_readNot_J60 sh rc G2 l0 l1 x3) (Sum.elim (fun u9 => bd u9 fun G5 => bp (fX6_refuse sh G5 l0 2) fun r6 G7 => if ¬ (r6 = 0 ∨ r6 = 1) then none else some (r6, G7)) (fun u11 => bd u11 fun G10 => some (0, G10))))
set_option maxHeartbeats 4000000 in
theorem tX6_readNot {E : EX} {ad : Nat → Nat} {sh : Sh} {G : Hp} {rc : Hp → Nat → Int32 → Int32 → Option (Int32 × Hp)} {hr : Nat} {l0 : Nat} {l1 : Int32} {z : Int32 × Hp} (C : Cx E RX6 cX6_readNot 4 (some .boolean) (hr + 1) 0 0) (hC : Cl sh G) (hr10 : 10 ≤ hr) (hrec : ∀ (G : Hp) (a0 : Nat) (a1 : Int32) (a2 : Int32) z, rc G a0 a1 a2 = some z → sh[a0]? = some (0, 6) → MC (xl E) yX6_readEither cX6_readEither 4 (some .boolean) hr 0 0 sh sh G (z.2) (fun ad => [.ref (ad a0), .int a1, .int a2]) (fun _ => some (.int z.1))) (h_l0 : sh[l0]? = some (0, 6)) (hf : fX6_readNot sh rc G l0 l1 = some z) (kr : RCz E cX6_readNot ad sh (z.1) (z.2)) : VV E 0 0 (wq (xT E) ad G sh) 0 [(0, .ref (ad l0)), (1, .int l1)] [] := by
  unfold fX6_readNot at hf
  refine v_iconst (v := 0) C dX6_readNot_0 (by decide) ?_
  refine v_istore_n (lv2 := [(2, .int 0), (0, .ref (ad l0)), (1, .int l1)]) C dX6_readNot_1 rfl (by decide) rfl ?_
  refine v_iconst (v := 0) C dX6_readNot_2 (by decide) ?_
  refine v_istore_n (lv2 := [(3, .int 0), (2, .int 0), (0, .ref (ad l0)), (1, .int l1)]) C dX6_readNot_3 rfl (by decide) rfl ?_
  obtain ⟨r1, qr1, hf⟩ := bn hf
  refine v_sub [2, 3, 1, 0] rfl ?_
  refine iter_sound (P := (fun s : Hp × Int32 × Int32 => Cl sh (s.1) → VV E 0 0 (wq (xT E) ad (s.1) sh) 4 [(0, .ref (ad l0)), (1, .int (l1)), (2, .int (s.2.1)), (3, .int (s.2.2))] [])) (X := fun r => r = r1) (fun jsr1 jor1 hor1 jbr1 jxr1 hC => tX6_readNot_S4 C hC hr10 hrec h_l0 hor1 (fun _ _ _ e => jbr1 _ e) ?_ ?_ ?_) fuel _ r1 qr1 rfl hC
  · intro G2 x3 hu hC
    have e := jxr1 _ hu
    subst e
    have hf := sm_l hf
    have hf := bd_at hf (rfl : G2 = _)
    have hf := bd_at hf (rfl : x3 = _)
    refine v_sub [0, 1, 2] rfl ?_
    exact tX6_readNot_J60 C hC hr10 hrec h_l0 hf kr
  · intro G5 hu hC
    have e := jxr1 _ hu
    subst e
    have hf := sm_r hf
    have hf := sm_l hf
    have hf := bd_at hf (rfl : G5 = _)
    refine v_aload_n C 0 dX6_readNot_26 rfl rfl ?_
    refine v_iconst (v := 2) C dX6_readNot_27 (by decide) ?_
    obtain ⟨r6, G7, qr6, hf⟩ := bpn hf
    refine v_callVi (As := [.int 2]) (rest := []) C (sX6_refuse h_l0 qr6) cs_X6_97 (by omega) h_l0 rfl hC rfl rfl rfl (Nat.le_of_ble_eq_true rfl) ⟨Nat.le_refl _, Nat.le_refl _⟩ dX6_readNot_28 (fun hC => ?_)
    obtain ⟨hz8, hf⟩ := iz hf
    cases hf
    exact kr _ _ dX6_readNot_31 (Classical.not_not.mp hz8) hC
  · intro G10 hu hC
    have e := jxr1 _ hu
    subst e
    have hf := sm_r hf
    have hf := sm_r hf
    have hf := bd_at hf (rfl : G10 = _)
    refine v_iconst (v := 0) C dX6_readNot_42 (by decide) ?_
    cases hf
    exact kr _ _ dX6_readNot_43 (Or.inl rfl) hC
theorem sX6_readNot {l : Launch} {sh : Sh} {G : Hp} {rc : Hp → Nat → Int32 → Int32 → Option (Int32 × Hp)} {hr : Nat} {l0 : Nat} {l1 : Int32} {z : Int32 × Hp} (hr10 : 10 ≤ hr) (hrec : ∀ (G : Hp) (a0 : Nat) (a1 : Int32) (a2 : Int32) z, rc G a0 a1 a2 = some z → sh[a0]? = some (0, 6) → MC l yX6_readEither cX6_readEither 4 (some .boolean) hr 0 0 sh sh G (z.2) (fun ad => [.ref (ad a0), .int a1, .int a2]) (fun _ => some (.int z.1))) (h_l0 : sh[l0]? = some (0, 6)) (hf : fX6_readNot sh rc G l0 l1 = some z) : MC l yX6_readNot cX6_readNot 4 (some .boolean) (hr + 1) 0 0 sh sh G (z.2) (fun ad => [.ref (ad l0), .int l1]) (fun _ => some (.int z.1)) := by
  refine MC_of rfl rfl (fun _ => Nat.le_of_ble_eq_true rfl) (fun E ad C hl hnm hC hQ => ?_)
  exact tX6_readNot C hC hr10 (by rw [hl]; exact hrec) h_l0 hf (fun pc lv hd hz hC => v_zret C hQ (fun _ _ => rfl) hC rfl hz hd)
def fX6_joinTables_S27 (sh : Sh) (l0 : Nat) (l1 : Int32) (G : Hp) (l2 : Int32) : Option ((Hp × Int32) ⊕ ((Hp))) := if ((G.1 l0 15) * 4) ≤ l2 then some (.inr G) else (ldA sh G l0 14 4).bind fun a2 => (aJ sh G a2 (l2 + 4)).bind fun v3 => (ldA sh G l0 14 4).bind fun a4 => if l1 = 0 then (ldA sh G l0 14 4).bind fun a6 => (aJ sh G a6 l2).bind fun v7 => (asJ sh G a4 l2 (v7 ||| v3)).bind fun G8 => bd ((l2 + 1) : Int32) fun x9 => some (.inl (G8, x9)) else (ldA sh G l0 14 4).bind fun a10 => (aJ sh G a10 l2).bind fun v11 => (asJ sh G a4 l2 (v11 &&& v3)).bind fun G12 => bd ((l2 + 1) : Int32) fun x13 => some (.inl (G12, x13))
set_option maxHeartbeats 4000000 in
theorem tX6_joinTables_S27 {E : EX} {ad : Nat → Nat} {sh : Sh} {G : Hp} {l0 : Nat} {l1 : Int32} {l2 : Int32} {o : (Hp × Int32) ⊕ ((Hp))} (C : Cx E RX6 cX6_joinTables 5 none 1 0 0) (hC : Cl sh G) (h_l0 : sh[l0]? = some (0, 6)) (hf : fX6_joinTables_S27 sh l0 l1 G l2 = some o) (kb : ∀ (G2 : Hp) (b_l2 : Int32), o = .inl (G2, b_l2) → Cl sh G2 → VV E 0 0 (wq (xT E) ad G2 sh) 27 [(0, .ref (ad l0)), (1, .int l1), (2, .int b_l2)] []) (kx81 : ∀ (G2 : Hp), o = .inr G2 → Cl sh G2 → VV E 0 0 (wq (xT E) ad G2 sh) 81 [(0, .ref (ad l0)), (1, .int l1)] []) : VV E 0 0 (wq (xT E) ad G sh) 27 [(0, .ref (ad l0)), (1, .int l1), (2, .int l2)] [] := by
  unfold fX6_joinTables_S27 at hf
  refine v_iload_n C 2 dX6_joinTables_27 rfl rfl ?_
  refine v_aload_n C 0 dX6_joinTables_28 rfl rfl ?_
  refine v_getI C h_l0 fl_X6_169 dX6_joinTables_29 ?_
  refine v_iconst (v := 4) C dX6_joinTables_32 (by decide) ?_
  refine v_imul C dX6_joinTables_33 ?_
  refine v_icmp_ge (tgt := 81) C dX6_joinTables_34 (by decide) (fun c1 => ?_) (fun c1 => ?_)
  · have hf := ip hf c1
    cases hf
    refine v_sub [0, 1] rfl ?_
    exact kx81 _ rfl hC
  · have hf := im hf c1
    refine v_aload_n C 0 dX6_joinTables_37 rfl rfl ?_
    obtain ⟨a2, qa2, hf⟩ := bn hf
    refine v_getA C h_l0 fl_X6_27 qa2 dX6_joinTables_38 (fun h_a2 => ?_)
    refine v_iload_n C 2 dX6_joinTables_41 rfl rfl ?_
    refine v_iconst (v := 4) C dX6_joinTables_42 (by decide) ?_
    refine v_iadd C dX6_joinTables_43 ?_
    obtain ⟨v3, qv3, hf⟩ := bn hf
    refine v_lald C h_a2 qv3 dX6_joinTables_44 ?_
    refine v_lstore_n (lv2 := [(3, .long v3), (0, .ref (ad l0)), (1, .int l1), (2, .int l2)]) C dX6_joinTables_45 rfl (by decide) rfl ?_
    refine v_aload_n C 1 dX6_joinTables_46 rfl rfl ?_
    obtain ⟨a4, qa4, hf⟩ := bn hf
    refine v_getA C h_l0 fl_X6_27 qa4 dX6_joinTables_47 (fun h_a4 => ?_)
    refine v_iload_n C 3 dX6_joinTables_50 rfl rfl ?_
    refine v_iload_n C 2 dX6_joinTables_51 rfl rfl ?_
    refine v_if_eq (tgt := 66) C dX6_joinTables_52 (by decide) (fun c5 => ?_) (fun c5 => ?_)
    · have hf := ip hf c5
      refine v_aload_n C 1 dX6_joinTables_66 rfl rfl ?_
      obtain ⟨a6, qa6, hf⟩ := bn hf
      refine v_getA C h_l0 fl_X6_27 qa6 dX6_joinTables_67 (fun h_a6 => ?_)
      refine v_iload_n C 3 dX6_joinTables_70 rfl rfl ?_
      obtain ⟨v7, qv7, hf⟩ := bn hf
      refine v_lald C h_a6 qv7 dX6_joinTables_71 ?_
      refine v_lload_n C 0 dX6_joinTables_72 rfl rfl ?_
      refine v_lor C dX6_joinTables_73 ?_
      obtain ⟨G8, qG8, hf⟩ := bn hf
      refine v_last C h_a4 qG8 hC dX6_joinTables_74 (fun hC => ?_)
      obtain ⟨x9, ex9⟩ : ∃ x : Int32, x = (l2 + 1) := ⟨_, rfl⟩
      have hf := bd_at hf ex9
      refine v_iinc (v := x9) (j := 3) (lv2 := [(2, .int x9), (3, .long v3), (0, .ref (ad l0)), (1, .int l1)]) C dX6_joinTables_75 rfl (by rw [ex9]; rfl) (by decide) rfl ?_
      refine v_goto (tgt := 27) C dX6_joinTables_78 (by decide) ?_
      cases hf
      refine v_sub [2, 3, 0] rfl ?_
      exact kb _ _ rfl hC
    · have hf := im hf c5
      refine v_aload_n C 1 dX6_joinTables_55 rfl rfl ?_
      obtain ⟨a10, qa10, hf⟩ := bn hf
      refine v_getA C h_l0 fl_X6_27 qa10 dX6_joinTables_56 (fun h_a10 => ?_)
      refine v_iload_n C 3 dX6_joinTables_59 rfl rfl ?_
      obtain ⟨v11, qv11, hf⟩ := bn hf
      refine v_lald C h_a10 qv11 dX6_joinTables_60 ?_
      refine v_lload_n C 0 dX6_joinTables_61 rfl rfl ?_
      refine v_land C dX6_joinTables_62 ?_
      refine v_goto (tgt := 74) C dX6_joinTables_63 (by decide) ?_
      obtain ⟨G12, qG12, hf⟩ := bn hf
      refine v_last C h_a4 qG12 hC dX6_joinTables_74 (fun hC => ?_)
      obtain ⟨x13, ex13⟩ : ∃ x : Int32, x = (l2 + 1) := ⟨_, rfl⟩
      have hf := bd_at hf ex13
      refine v_iinc (v := x13) (j := 3) (lv2 := [(2, .int x13), (3, .long v3), (0, .ref (ad l0)), (1, .int l1)]) C dX6_joinTables_75 rfl (by rw [ex13]; rfl) (by decide) rfl ?_
      refine v_goto (tgt := 27) C dX6_joinTables_78 (by decide) ?_
      cases hf
      refine v_sub [2, 3, 0] rfl ?_
      exact kb _ _ rfl hC
def fX6_joinTables (sh : Sh) (G : Hp) (l0 : Nat) (l1 : Int32) : Option (Hp) := if (G.1 l0 15) < 2 then some G else bd (sI G l0 15 ((G.1 l0 15) - 1)) fun G2 => bd ((((G2.1 l0 15) - 1) * 4) : Int32) fun x3 => (iter (fun s : Hp × Int32 => fX6_joinTables_S27 sh l0 l1 s.1 s.2) fuel ((G2, x3) : Hp × Int32)).bind (fun u6 => bd u6 fun G5 => some G5)
set_option maxHeartbeats 4000000 in
theorem tX6_joinTables {E : EX} {ad : Nat → Nat} {sh : Sh} {G : Hp} {l0 : Nat} {l1 : Int32} {z : Hp} (C : Cx E RX6 cX6_joinTables 5 none 1 0 0) (hC : Cl sh G) (h_l0 : sh[l0]? = some (0, 6)) (hf : fX6_joinTables sh G l0 l1 = some z) (kr : RCv E cX6_joinTables ad sh z) : VV E 0 0 (wq (xT E) ad G sh) 0 [(0, .ref (ad l0)), (1, .int l1)] [] := by
  unfold fX6_joinTables at hf
  refine v_aload_n C 0 dX6_joinTables_0 rfl rfl ?_
  refine v_getI C h_l0 fl_X6_169 dX6_joinTables_1 ?_
  refine v_iconst (v := 2) C dX6_joinTables_4 (by decide) ?_
  refine v_icmp_lt (tgt := 81) C dX6_joinTables_5 (by decide) (fun c1 => ?_) (fun c1 => ?_)
  · have hf := ip hf c1
    cases hf
    exact kr _ _ dX6_joinTables_81 hC
  · have hf := im hf c1
    refine v_aload_n C 0 dX6_joinTables_8 rfl rfl ?_
    refine v_dup C dX6_joinTables_9 rfl ?_
    refine v_getI C h_l0 fl_X6_169 dX6_joinTables_10 ?_
    refine v_iconst (v := 1) C dX6_joinTables_13 (by decide) ?_
    refine v_isub C dX6_joinTables_14 ?_
    refine v_putI C h_l0 fp_X6_169 dX6_joinTables_15 (fun G2 eG2 => ?_)
    have hf := bd_at hf eG2
    have hC : Cl sh G2 := by rw [eG2]; exact hC
    refine v_aload_n C 0 dX6_joinTables_18 rfl rfl ?_
    refine v_getI C h_l0 fl_X6_169 dX6_joinTables_19 ?_
    refine v_iconst (v := 1) C dX6_joinTables_22 (by decide) ?_
    refine v_isub C dX6_joinTables_23 ?_
    refine v_iconst (v := 4) C dX6_joinTables_24 (by decide) ?_
    refine v_imul C dX6_joinTables_25 ?_
    refine v_topi (fun x3 ex3 => ?_)
    have hf := bd_at hf ex3
    refine v_istore_n (lv2 := [(2, .int x3), (0, .ref (ad l0)), (1, .int l1)]) C dX6_joinTables_26 rfl (by decide) rfl ?_
    obtain ⟨r4, qr4, hf⟩ := bn hf
    refine v_sub [1, 2, 0] rfl ?_
    refine iter_sound (P := (fun s : Hp × Int32 => Cl sh (s.1) → VV E 0 0 (wq (xT E) ad (s.1) sh) 27 [(0, .ref (ad l0)), (1, .int (l1)), (2, .int (s.2))] [])) (X := fun r => r = r4) (fun jsr4 jor4 hor4 jbr4 jxr4 hC => tX6_joinTables_S27 C hC h_l0 hor4 (fun _ _ e => jbr4 _ e) ?_) fuel _ r4 qr4 rfl hC
    · intro G5 hu hC
      have e := jxr4 _ hu
      subst e
      have hf := bd_at hf (rfl : G5 = _)
      cases hf
      exact kr _ _ dX6_joinTables_81 hC
theorem sX6_joinTables {l : Launch} {sh : Sh} {G : Hp} {l0 : Nat} {l1 : Int32} {z : Hp} (h_l0 : sh[l0]? = some (0, 6)) (hf : fX6_joinTables sh G l0 l1 = some z) : MC l yX6_joinTables cX6_joinTables 5 none 1 0 0 sh sh G z (fun ad => [.ref (ad l0), .int l1]) (fun _ => none) := by
  refine MC_of rfl rfl (fun _ => Nat.le_of_ble_eq_true rfl) (fun E ad C hl hnm hC hQ => ?_)
  exact tX6_joinTables C hC h_l0 hf (fun pc lv hd hC => v_vret C hQ (fun _ _ => rfl) hC rfl hd)
def fX6_readBoth_S12 (sh : Sh) (rc : Hp → Nat → Int32 → Int32 → Option (Int32 × Hp)) (l0 : Nat) (l1 : Int32) (G : Hp) (l2 : Int32) : Option ((Hp × Int32) ⊕ ((Hp) ⊕ (Hp))) := if 400 ≤ l2 then some (.inr (.inl G)) else if (G.1 l0 5) = 268 then bp (fX6_pass sh G l0 268) fun r3 G4 => if r3 = 0 then some (.inr (.inr G4)) else bp (fX6_readNot sh rc G4 l0 l1) fun r6 G7 => if r6 = 0 then some (.inr (.inr G7)) else (fX6_joinTables sh G7 l0 1).bind fun G10 => bd ((l2 + 1) : Int32) fun x11 => some (.inl (G10, x11)) else some (.inr (.inl G))
set_option maxHeartbeats 4000000 in
theorem tX6_readBoth_S12 {E : EX} {ad : Nat → Nat} {sh : Sh} {G : Hp} {rc : Hp → Nat → Int32 → Int32 → Option (Int32 × Hp)} {hr : Nat} {l0 : Nat} {l1 : Int32} {l2 : Int32} {o : (Hp × Int32) ⊕ ((Hp) ⊕ (Hp))} (C : Cx E RX6 cX6_readBoth 3 (some .boolean) (hr + 2) 0 0) (hC : Cl sh G) (hr10 : 10 ≤ hr) (hrec : ∀ (G : Hp) (a0 : Nat) (a1 : Int32) (a2 : Int32) z, rc G a0 a1 a2 = some z → sh[a0]? = some (0, 6) → MC (xl E) yX6_readEither cX6_readEither 4 (some .boolean) hr 0 0 sh sh G (z.2) (fun ad => [.ref (ad a0), .int a1, .int a2]) (fun _ => some (.int z.1))) (h_l0 : sh[l0]? = some (0, 6)) (hf : fX6_readBoth_S12 sh rc l0 l1 G l2 = some o) (kb : ∀ (G2 : Hp) (b_l2 : Int32), o = .inl (G2, b_l2) → Cl sh G2 → VV E 0 0 (wq (xT E) ad G2 sh) 12 [(0, .ref (ad l0)), (1, .int l1), (2, .int b_l2)] []) (kx60 : ∀ (G2 : Hp), o = .inr (.inl G2) → Cl sh G2 → VV E 0 0 (wq (xT E) ad G2 sh) 60 [(0, .ref (ad l0)), (1, .int l1)] []) (kx47 : ∀ (G2 : Hp), o = .inr (.inr G2) → Cl sh G2 → VV E 0 0 (wq (xT E) ad G2 sh) 47 [(0, .ref (ad l0)), (1, .int l1)] []) : VV E 0 0 (wq (xT E) ad G sh) 12 [(0, .ref (ad l0)), (1, .int l1), (2, .int l2)] [] := by
  unfold fX6_readBoth_S12 at hf
  refine v_iload_n C 2 dX6_readBoth_12 rfl rfl ?_
  refine v_sipush (v := 400) C dX6_readBoth_13 (by decide) ?_
  refine v_icmp_ge (tgt := 60) C dX6_readBoth_16 (by decide) (fun c1 => ?_) (fun c1 => ?_)
  · have hf := ip hf c1
    cases hf
    refine v_sub [0, 1] rfl ?_
    exact kx60 _ rfl hC
  · have hf := im hf c1
    refine v_aload_n C 0 dX6_readBoth_19 rfl rfl ?_
    refine v_getI C h_l0 fl_X6_65 dX6_readBoth_20 ?_
    refine v_sipush (v := 268) C dX6_readBoth_23 (by decide) ?_
    refine v_icmp_ne (tgt := 60) C dX6_readBoth_26 (by decide) (fun c2 => ?_) (fun c2 => ?_)
    · have hf := im hf c2
      cases hf
      refine v_sub [0, 1] rfl ?_
      exact kx60 _ rfl hC
    · have hf := ip hf c2
      refine v_aload_n C 0 dX6_readBoth_29 rfl rfl ?_
      refine v_sipush (v := 268) C dX6_readBoth_30 (by decide) ?_
      obtain ⟨r3, G4, qr3, hf⟩ := bpn hf
      refine v_callVi (As := [.int 268]) (rest := []) C (sX6_pass h_l0 qr3) cs_X6_116 (by omega) h_l0 rfl hC rfl rfl rfl (Nat.le_of_ble_eq_true rfl) ⟨Nat.le_refl _, Nat.le_refl _⟩ dX6_readBoth_33 (fun hC => ?_)
      refine v_if_eq (tgt := 47) C dX6_readBoth_36 (by decide) (fun c5 => ?_) (fun c5 => ?_)
      · have hf := ip hf c5
        cases hf
        refine v_sub [0, 1] rfl ?_
        exact kx47 _ rfl hC
      · have hf := im hf c5
        refine v_aload_n C 0 dX6_readBoth_39 rfl rfl ?_
        refine v_iload_n C 1 dX6_readBoth_40 rfl rfl ?_
        obtain ⟨r6, G7, qr6, hf⟩ := bpn hf
        refine v_callVi (As := [.int l1]) (rest := []) C (sX6_readNot hr10 hrec h_l0 qr6) cs_X6_201 (by omega) h_l0 rfl hC rfl rfl rfl (Nat.le_of_ble_eq_true rfl) ⟨Nat.le_refl _, Nat.le_refl _⟩ dX6_readBoth_41 (fun hC => ?_)
        refine v_if_ne (tgt := 49) C dX6_readBoth_44 (by decide) (fun c8 => ?_) (fun c8 => ?_)
        · have hf := im hf c8
          refine v_aload_n C 0 dX6_readBoth_49 rfl rfl ?_
          refine v_iconst (v := 1) C dX6_readBoth_50 (by decide) ?_
          obtain ⟨G10, qr9, hf⟩ := bn hf
          refine v_callVv (As := [.int 1]) (rest := []) C (sX6_joinTables h_l0 qr9) cs_X6_197 (by omega) h_l0 rfl hC rfl rfl rfl (Nat.le_of_ble_eq_true rfl) ⟨Nat.le_refl _, Nat.le_refl _⟩ dX6_readBoth_51 (fun hC => ?_)
          obtain ⟨x11, ex11⟩ : ∃ x : Int32, x = (l2 + 1) := ⟨_, rfl⟩
          have hf := bd_at hf ex11
          refine v_iinc (v := x11) (j := 2) (lv2 := [(2, .int x11), (0, .ref (ad l0)), (1, .int l1)]) C dX6_readBoth_54 rfl (by rw [ex11]; rfl) (by decide) rfl ?_
          refine v_goto (tgt := 12) C dX6_readBoth_57 (by decide) ?_
          cases hf
          refine v_sub [1, 2, 0] rfl ?_
          exact kb _ _ rfl hC
        · have hf := ip hf c8
          cases hf
          refine v_sub [0, 1] rfl ?_
          exact kx47 _ rfl hC
def fX6_readBoth (sh : Sh) (rc : Hp → Nat → Int32 → Int32 → Option (Int32 × Hp)) (G : Hp) (l0 : Nat) (l1 : Int32) : Option (Int32 × Hp) := bp (fX6_readNot sh rc G l0 l1) fun r1 G2 => if r1 = 0 then some (0, G2) else (iter (fun s : Hp × Int32 => fX6_readBoth_S12 sh rc l0 l1 s.1 s.2) fuel ((G2, 0) : Hp × Int32)).bind (Sum.elim (fun u6 => bd u6 fun G5 => some (1, G5)) (fun u8 => bd u8 fun G7 => some (0, G7)))
set_option maxHeartbeats 4000000 in
theorem tX6_readBoth {E : EX} {ad : Nat → Nat} {sh : Sh} {G : Hp} {rc : Hp → Nat → Int32 → Int32 → Option (Int32 × Hp)} {hr : Nat} {l0 : Nat} {l1 : Int32} {z : Int32 × Hp} (C : Cx E RX6 cX6_readBoth 3 (some .boolean) (hr + 2) 0 0) (hC : Cl sh G) (hr10 : 10 ≤ hr) (hrec : ∀ (G : Hp) (a0 : Nat) (a1 : Int32) (a2 : Int32) z, rc G a0 a1 a2 = some z → sh[a0]? = some (0, 6) → MC (xl E) yX6_readEither cX6_readEither 4 (some .boolean) hr 0 0 sh sh G (z.2) (fun ad => [.ref (ad a0), .int a1, .int a2]) (fun _ => some (.int z.1))) (h_l0 : sh[l0]? = some (0, 6)) (hf : fX6_readBoth sh rc G l0 l1 = some z) (kr : RCz E cX6_readBoth ad sh (z.1) (z.2)) : VV E 0 0 (wq (xT E) ad G sh) 0 [(0, .ref (ad l0)), (1, .int l1)] [] := by
  unfold fX6_readBoth at hf
  refine v_aload_n C 0 dX6_readBoth_0 rfl rfl ?_
  refine v_iload_n C 1 dX6_readBoth_1 rfl rfl ?_
  obtain ⟨r1, G2, qr1, hf⟩ := bpn hf
  refine v_callVi (As := [.int l1]) (rest := []) C (sX6_readNot hr10 hrec h_l0 qr1) cs_X6_201 (by omega) h_l0 rfl hC rfl rfl rfl (Nat.le_of_ble_eq_true rfl) ⟨Nat.le_refl _, Nat.le_refl _⟩ dX6_readBoth_2 (fun hC => ?_)
  refine v_if_ne (tgt := 10) C dX6_readBoth_5 (by decide) (fun c3 => ?_) (fun c3 => ?_)
  · have hf := im hf c3
    refine v_iconst (v := 0) C dX6_readBoth_10 (by decide) ?_
    refine v_istore_n (lv2 := [(2, .int 0), (0, .ref (ad l0)), (1, .int l1)]) C dX6_readBoth_11 rfl (by decide) rfl ?_
    obtain ⟨r4, qr4, hf⟩ := bn hf
    refine v_sub [1, 2, 0] rfl ?_
    refine iter_sound (P := (fun s : Hp × Int32 => Cl sh (s.1) → VV E 0 0 (wq (xT E) ad (s.1) sh) 12 [(0, .ref (ad l0)), (1, .int (l1)), (2, .int (s.2))] [])) (X := fun r => r = r4) (fun jsr4 jor4 hor4 jbr4 jxr4 hC => tX6_readBoth_S12 C hC hr10 hrec h_l0 hor4 (fun _ _ e => jbr4 _ e) ?_ ?_) fuel _ r4 qr4 rfl hC
    · intro G5 hu hC
      have e := jxr4 _ hu
      subst e
      have hf := sm_l hf
      have hf := bd_at hf (rfl : G5 = _)
      refine v_iconst (v := 1) C dX6_readBoth_60 (by decide) ?_
      cases hf
      exact kr _ _ dX6_readBoth_61 (Or.inr rfl) hC
    · intro G7 hu hC
      have e := jxr4 _ hu
      subst e
      have hf := sm_r hf
      have hf := bd_at hf (rfl : G7 = _)
      refine v_iconst (v := 0) C dX6_readBoth_47 (by decide) ?_
      cases hf
      exact kr _ _ dX6_readBoth_48 (Or.inl rfl) hC
  · have hf := ip hf c3
    refine v_iconst (v := 0) C dX6_readBoth_8 (by decide) ?_
    cases hf
    exact kr _ _ dX6_readBoth_9 (Or.inl rfl) hC
theorem sX6_readBoth {l : Launch} {sh : Sh} {G : Hp} {rc : Hp → Nat → Int32 → Int32 → Option (Int32 × Hp)} {hr : Nat} {l0 : Nat} {l1 : Int32} {z : Int32 × Hp} (hr10 : 10 ≤ hr) (hrec : ∀ (G : Hp) (a0 : Nat) (a1 : Int32) (a2 : Int32) z, rc G a0 a1 a2 = some z → sh[a0]? = some (0, 6) → MC l yX6_readEither cX6_readEither 4 (some .boolean) hr 0 0 sh sh G (z.2) (fun ad => [.ref (ad a0), .int a1, .int a2]) (fun _ => some (.int z.1))) (h_l0 : sh[l0]? = some (0, 6)) (hf : fX6_readBoth sh rc G l0 l1 = some z) : MC l yX6_readBoth cX6_readBoth 3 (some .boolean) (hr + 2) 0 0 sh sh G (z.2) (fun ad => [.ref (ad l0), .int l1]) (fun _ => some (.int z.1)) := by
  refine MC_of rfl rfl (fun _ => Nat.le_of_ble_eq_true rfl) (fun E ad C hl hnm hC hQ => ?_)
  exact tX6_readBoth C hC hr10 (by rw [hl]; exact hrec) h_l0 hf (fun pc lv hd hz hC => v_zret C hQ (fun _ _ => rfl) hC rfl hz hd)
def fX6_readEither_S12 (sh : Sh) (rc : Hp → Nat → Int32 → Int32 → Option (Int32 × Hp)) (l0 : Nat) (l1 : Int32) (l2 : Int32) (G : Hp) (l3 : Int32) : Option ((Hp × Int32) ⊕ ((Hp) ⊕ (Hp))) := if 400 ≤ l3 then some (.inr (.inl G)) else if (G.1 l0 5) = 267 then bp (fX6_pass sh G l0 267) fun r3 G4 => if r3 = 0 then some (.inr (.inr G4)) else bp (fX6_readBoth sh rc G4 l0 l1) fun r6 G7 => if r6 = 0 then some (.inr (.inr G7)) else (fX6_joinTables sh G7 l0 0).bind fun G10 => bd ((l3 + 1) : Int32) fun x11 => some (.inl (G10, x11)) else some (.inr (.inl G))
set_option maxHeartbeats 4000000 in
theorem tX6_readEither_S12 {E : EX} {ad : Nat → Nat} {sh : Sh} {G : Hp} {rc : Hp → Nat → Int32 → Int32 → Option (Int32 × Hp)} {hr : Nat} {l0 : Nat} {l1 : Int32} {l2 : Int32} {l3 : Int32} {o : (Hp × Int32) ⊕ ((Hp) ⊕ (Hp))} (C : Cx E RX6 cX6_readEither 4 (some .boolean) (hr + 3) 0 0) (hC : Cl sh G) (hr10 : 10 ≤ hr) (hrec : ∀ (G : Hp) (a0 : Nat) (a1 : Int32) (a2 : Int32) z, rc G a0 a1 a2 = some z → sh[a0]? = some (0, 6) → MC (xl E) yX6_readEither cX6_readEither 4 (some .boolean) hr 0 0 sh sh G (z.2) (fun ad => [.ref (ad a0), .int a1, .int a2]) (fun _ => some (.int z.1))) (h_l0 : sh[l0]? = some (0, 6)) (hf : fX6_readEither_S12 sh rc l0 l1 l2 G l3 = some o) (kb : ∀ (G2 : Hp) (b_l3 : Int32), o = .inl (G2, b_l3) → Cl sh G2 → VV E 0 0 (wq (xT E) ad G2 sh) 12 [(0, .ref (ad l0)), (1, .int l1), (2, .int l2), (3, .int b_l3)] []) (kx60 : ∀ (G2 : Hp), o = .inr (.inl G2) → Cl sh G2 → VV E 0 0 (wq (xT E) ad G2 sh) 60 [(0, .ref (ad l0)), (1, .int l1), (2, .int l2)] []) (kx47 : ∀ (G2 : Hp), o = .inr (.inr G2) → Cl sh G2 → VV E 0 0 (wq (xT E) ad G2 sh) 47 [(0, .ref (ad l0)), (1, .int l1), (2, .int l2)] []) : VV E 0 0 (wq (xT E) ad G sh) 12 [(0, .ref (ad l0)), (1, .int l1), (2, .int l2), (3, .int l3)] [] := by
  unfold fX6_readEither_S12 at hf
  refine v_iload_n C 3 dX6_readEither_12 rfl rfl ?_
  refine v_sipush (v := 400) C dX6_readEither_13 (by decide) ?_
  refine v_icmp_ge (tgt := 60) C dX6_readEither_16 (by decide) (fun c1 => ?_) (fun c1 => ?_)
  · have hf := ip hf c1
    cases hf
    refine v_sub [0, 1, 2] rfl ?_
    exact kx60 _ rfl hC
  · have hf := im hf c1
    refine v_aload_n C 0 dX6_readEither_19 rfl rfl ?_
    refine v_getI C h_l0 fl_X6_65 dX6_readEither_20 ?_
    refine v_sipush (v := 267) C dX6_readEither_23 (by decide) ?_
    refine v_icmp_ne (tgt := 60) C dX6_readEither_26 (by decide) (fun c2 => ?_) (fun c2 => ?_)
    · have hf := im hf c2
      cases hf
      refine v_sub [0, 1, 2] rfl ?_
      exact kx60 _ rfl hC
    · have hf := ip hf c2
      refine v_aload_n C 0 dX6_readEither_29 rfl rfl ?_
      refine v_sipush (v := 267) C dX6_readEither_30 (by decide) ?_
      obtain ⟨r3, G4, qr3, hf⟩ := bpn hf
      refine v_callVi (As := [.int 267]) (rest := []) C (sX6_pass h_l0 qr3) cs_X6_116 (by omega) h_l0 rfl hC rfl rfl rfl (Nat.le_of_ble_eq_true rfl) ⟨Nat.le_refl _, Nat.le_refl _⟩ dX6_readEither_33 (fun hC => ?_)
      refine v_if_eq (tgt := 47) C dX6_readEither_36 (by decide) (fun c5 => ?_) (fun c5 => ?_)
      · have hf := ip hf c5
        cases hf
        refine v_sub [0, 1, 2] rfl ?_
        exact kx47 _ rfl hC
      · have hf := im hf c5
        refine v_aload_n C 0 dX6_readEither_39 rfl rfl ?_
        refine v_iload_n C 1 dX6_readEither_40 rfl rfl ?_
        obtain ⟨r6, G7, qr6, hf⟩ := bpn hf
        refine v_callVi (As := [.int l1]) (rest := []) C (sX6_readBoth hr10 hrec h_l0 qr6) cs_X6_194 (by omega) h_l0 rfl hC rfl rfl rfl (Nat.le_of_ble_eq_true rfl) ⟨Nat.le_refl _, Nat.le_refl _⟩ dX6_readEither_41 (fun hC => ?_)
        refine v_if_ne (tgt := 49) C dX6_readEither_44 (by decide) (fun c8 => ?_) (fun c8 => ?_)
        · have hf := im hf c8
          refine v_aload_n C 0 dX6_readEither_49 rfl rfl ?_
          refine v_iconst (v := 0) C dX6_readEither_50 (by decide) ?_
          obtain ⟨G10, qr9, hf⟩ := bn hf
          refine v_callVv (As := [.int 0]) (rest := []) C (sX6_joinTables h_l0 qr9) cs_X6_197 (by omega) h_l0 rfl hC rfl rfl rfl (Nat.le_of_ble_eq_true rfl) ⟨Nat.le_refl _, Nat.le_refl _⟩ dX6_readEither_51 (fun hC => ?_)
          obtain ⟨x11, ex11⟩ : ∃ x : Int32, x = (l3 + 1) := ⟨_, rfl⟩
          have hf := bd_at hf ex11
          refine v_iinc (v := x11) (j := 3) (lv2 := [(3, .int x11), (0, .ref (ad l0)), (1, .int l1), (2, .int l2)]) C dX6_readEither_54 rfl (by rw [ex11]; rfl) (by decide) rfl ?_
          refine v_goto (tgt := 12) C dX6_readEither_57 (by decide) ?_
          cases hf
          refine v_sub [1, 2, 3, 0] rfl ?_
          exact kb _ _ rfl hC
        · have hf := ip hf c8
          cases hf
          refine v_sub [0, 1, 2] rfl ?_
          exact kx47 _ rfl hC
def fX6_readEither (sh : Sh) (rc : Hp → Nat → Int32 → Int32 → Option (Int32 × Hp)) (G : Hp) (l0 : Nat) (l1 : Int32) (l2 : Int32) : Option (Int32 × Hp) := bp (fX6_readBoth sh rc G l0 l1) fun r1 G2 => if r1 = 0 then some (0, G2) else (iter (fun s : Hp × Int32 => fX6_readEither_S12 sh rc l0 l1 l2 s.1 s.2) fuel ((G2, 0) : Hp × Int32)).bind (Sum.elim (fun u9 => bd u9 fun G5 => bp (fX6_pass sh G5 l0 l2) fun r6 G7 => if ¬ (r6 = 0 ∨ r6 = 1) then none else some (r6, G7)) (fun u11 => bd u11 fun G10 => some (0, G10)))
set_option maxHeartbeats 4000000 in
theorem tX6_readEither {E : EX} {ad : Nat → Nat} {sh : Sh} {G : Hp} {rc : Hp → Nat → Int32 → Int32 → Option (Int32 × Hp)} {hr : Nat} {l0 : Nat} {l1 : Int32} {l2 : Int32} {z : Int32 × Hp} (C : Cx E RX6 cX6_readEither 4 (some .boolean) (hr + 3) 0 0) (hC : Cl sh G) (hr10 : 10 ≤ hr) (hrec : ∀ (G : Hp) (a0 : Nat) (a1 : Int32) (a2 : Int32) z, rc G a0 a1 a2 = some z → sh[a0]? = some (0, 6) → MC (xl E) yX6_readEither cX6_readEither 4 (some .boolean) hr 0 0 sh sh G (z.2) (fun ad => [.ref (ad a0), .int a1, .int a2]) (fun _ => some (.int z.1))) (h_l0 : sh[l0]? = some (0, 6)) (hf : fX6_readEither sh rc G l0 l1 l2 = some z) (kr : RCz E cX6_readEither ad sh (z.1) (z.2)) : VV E 0 0 (wq (xT E) ad G sh) 0 [(0, .ref (ad l0)), (1, .int l1), (2, .int l2)] [] := by
  unfold fX6_readEither at hf
  refine v_aload_n C 0 dX6_readEither_0 rfl rfl ?_
  refine v_iload_n C 1 dX6_readEither_1 rfl rfl ?_
  obtain ⟨r1, G2, qr1, hf⟩ := bpn hf
  refine v_callVi (As := [.int l1]) (rest := []) C (sX6_readBoth hr10 hrec h_l0 qr1) cs_X6_194 (by omega) h_l0 rfl hC rfl rfl rfl (Nat.le_of_ble_eq_true rfl) ⟨Nat.le_refl _, Nat.le_refl _⟩ dX6_readEither_2 (fun hC => ?_)
  refine v_if_ne (tgt := 10) C dX6_readEither_5 (by decide) (fun c3 => ?_) (fun c3 => ?_)
  · have hf := im hf c3
    refine v_iconst (v := 0) C dX6_readEither_10 (by decide) ?_
    refine v_istore_n (lv2 := [(3, .int 0), (0, .ref (ad l0)), (1, .int l1), (2, .int l2)]) C dX6_readEither_11 rfl (by decide) rfl ?_
    obtain ⟨r4, qr4, hf⟩ := bn hf
    refine v_sub [1, 2, 3, 0] rfl ?_
    refine iter_sound (P := (fun s : Hp × Int32 => Cl sh (s.1) → VV E 0 0 (wq (xT E) ad (s.1) sh) 12 [(0, .ref (ad l0)), (1, .int (l1)), (2, .int (l2)), (3, .int (s.2))] [])) (X := fun r => r = r4) (fun jsr4 jor4 hor4 jbr4 jxr4 hC => tX6_readEither_S12 C hC hr10 hrec h_l0 hor4 (fun _ _ e => jbr4 _ e) ?_ ?_) fuel _ r4 qr4 rfl hC
    · intro G5 hu hC
      have e := jxr4 _ hu
      subst e
      have hf := sm_l hf
      have hf := bd_at hf (rfl : G5 = _)
      refine v_aload_n C 0 dX6_readEither_60 rfl rfl ?_
      refine v_iload_n C 2 dX6_readEither_61 rfl rfl ?_
      obtain ⟨r6, G7, qr6, hf⟩ := bpn hf
      refine v_callVi (As := [.int l2]) (rest := []) C (sX6_pass h_l0 qr6) cs_X6_116 (by omega) h_l0 rfl hC rfl rfl rfl (Nat.le_of_ble_eq_true rfl) ⟨Nat.le_refl _, Nat.le_refl _⟩ dX6_readEither_62 (fun hC => ?_)
      obtain ⟨hz8, hf⟩ := iz hf
      cases hf
      exact kr _ _ dX6_readEither_65 (Classical.not_not.mp hz8) hC
    · intro G10 hu hC
      have e := jxr4 _ hu
      subst e
      have hf := sm_r hf
      have hf := bd_at hf (rfl : G10 = _)
      refine v_iconst (v := 0) C dX6_readEither_47 (by decide) ?_
      cases hf
      exact kr _ _ dX6_readEither_48 (Or.inl rfl) hC
  · have hf := ip hf c3
    refine v_iconst (v := 0) C dX6_readEither_8 (by decide) ?_
    cases hf
    exact kr _ _ dX6_readEither_9 (Or.inl rfl) hC
theorem sX6_readEither {l : Launch} {sh : Sh} {G : Hp} {rc : Hp → Nat → Int32 → Int32 → Option (Int32 × Hp)} {hr : Nat} {l0 : Nat} {l1 : Int32} {l2 : Int32} {z : Int32 × Hp} (hr10 : 10 ≤ hr) (hrec : ∀ (G : Hp) (a0 : Nat) (a1 : Int32) (a2 : Int32) z, rc G a0 a1 a2 = some z → sh[a0]? = some (0, 6) → MC l yX6_readEither cX6_readEither 4 (some .boolean) hr 0 0 sh sh G (z.2) (fun ad => [.ref (ad a0), .int a1, .int a2]) (fun _ => some (.int z.1))) (h_l0 : sh[l0]? = some (0, 6)) (hf : fX6_readEither sh rc G l0 l1 l2 = some z) : MC l yX6_readEither cX6_readEither 4 (some .boolean) (hr + 3) 0 0 sh sh G (z.2) (fun ad => [.ref (ad l0), .int l1, .int l2]) (fun _ => some (.int z.1)) := by
  refine MC_of rfl rfl (fun _ => Nat.le_of_ble_eq_true rfl) (fun E ad C hl hnm hC hQ => ?_)
  exact tX6_readEither C hC hr10 (by rw [hl]; exact hrec) h_l0 hf (fun pc lv hd hz hC => v_zret C hQ (fun _ _ => rfl) hC rfl hz hd)
def fX6_readEither_d (sh : Sh) : Nat → Hp → Nat → Int32 → Int32 → Option (Int32 × Hp)
  | 0 => fun _ _ _ _ => none
  | d + 1 => fX6_readEither sh (fX6_readEither_d sh d)
theorem sX6_readEither_e {l : Launch} {sh : Sh} : ∀ (d : Nat) (G : Hp) (l0 : Nat) (l1 : Int32) (l2 : Int32) (z : Int32 × Hp), fX6_readEither_d sh d G l0 l1 l2 = some z → sh[l0]? = some (0, 6) → MC l yX6_readEither cX6_readEither 4 (some .boolean) (10 + 3 * d) 0 0 sh sh G (z.2) (fun ad => [.ref (ad l0), .int l1, .int l2]) (fun _ => some (.int z.1)) := by
  intro d
  induction d with
  | zero => intro G l0 l1 l2 z hf; cases hf
  | succ d ih =>
    intro G l0 l1 l2 z hf h_l0
    have e : 10 + 3 * (d + 1) = 10 + 3 * d + 3 := by omega
    rw [e]
    exact sX6_readEither (hr := 10 + 3 * d) (by omega) (fun G a0 a1 a2 z hz h_l0 => ih G a0 a1 a2 z hz h_l0) h_l0 hf
theorem sX6_readEither_d {l : Launch} {sh : Sh} {G : Hp} {l0 : Nat} {l1 : Int32} {l2 : Int32} {z : Int32 × Hp} (h_l0 : sh[l0]? = some (0, 6)) (hf : fX6_readEither_d sh 8 G l0 l1 l2 = some z) : MC l yX6_readEither cX6_readEither 4 (some .boolean) 34 0 0 sh sh G (z.2) (fun ad => [.ref (ad l0), .int l1, .int l2]) (fun _ => some (.int z.1)) := sX6_readEither_e 8 _ _ _ _ _ hf h_l0
