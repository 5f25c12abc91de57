def fX7_isLetter (l0 : Int32) : Option (Int32) := if l0 < 97 then some 0 else if 122 < l0 then some 0 else some 1
set_option maxHeartbeats 4000000 in
theorem tX7_isLetter {E : EX} {ad : Nat → Nat} {sh : Sh} {G : Hp} {l0 : Int32} {z : Int32} (C : Cx E RX7 cX7_isLetter 1 (some .boolean) 1 0 0) (hC : Cl sh G) (hf : fX7_isLetter l0 = some z) (kr : RCz E cX7_isLetter ad sh z G) : VV E 0 0 (wq (xT E) ad G sh) 0 [(0, .int l0)] [] := by
  unfold fX7_isLetter at hf
  refine v_iload_n C 0 dX7_isLetter_0 rfl rfl ?_
  refine v_bipush (v := 97) C dX7_isLetter_1 (by decide) ?_
  refine v_icmp_lt (tgt := 16) C dX7_isLetter_3 (by decide) (fun c1 => ?_) (fun c1 => ?_)
  · have hf := ip hf c1
    refine v_iconst (v := 0) C dX7_isLetter_16 (by decide) ?_
    cases hf
    exact kr _ _ dX7_isLetter_17 (Or.inl rfl) hC
  · have hf := im hf c1
    refine v_iload_n C 0 dX7_isLetter_6 rfl rfl ?_
    refine v_bipush (v := 122) C dX7_isLetter_7 (by decide) ?_
    refine v_icmp_gt (tgt := 16) C dX7_isLetter_9 (by decide) (fun c2 => ?_) (fun c2 => ?_)
    · have hf := ip hf c2
      refine v_iconst (v := 0) C dX7_isLetter_16 (by decide) ?_
      cases hf
      exact kr _ _ dX7_isLetter_17 (Or.inl rfl) hC
    · have hf := im hf c2
      refine v_iconst (v := 1) C dX7_isLetter_12 (by decide) ?_
      refine v_goto (tgt := 17) C dX7_isLetter_13 (by decide) ?_
      cases hf
      exact kr _ _ dX7_isLetter_17 (Or.inr rfl) hC
theorem sX7_isLetter {l : Launch} {sh : Sh} {G : Hp} {l0 : Int32} {z : Int32} (hf : fX7_isLetter l0 = some z) : MC l yX7_isLetter cX7_isLetter 1 (some .boolean) 1 0 0 sh sh G G (fun ad => [.int l0]) (fun _ => some (.int z)) := by
  refine MC_of rfl rfl (fun _ => Nat.le_of_ble_eq_true rfl) (fun E ad C hl hnm hC hQ => ?_)
  exact tX7_isLetter C hC hf (fun pc lv hd hz hC => v_zret C hQ (fun _ _ => rfl) hC rfl hz hd)
def fX7_withLetter (l0 : Int64) (l2 : Int32) : Option (Int64) := some ((l0 * 32) + (Int32.toInt64 ((l2 - 97) + 1)))
set_option maxHeartbeats 4000000 in
theorem tX7_withLetter {E : EX} {ad : Nat → Nat} {sh : Sh} {G : Hp} {l0 : Int64} {l2 : Int32} {z : Int64} (C : Cx E RX7 cX7_withLetter 3 (some .long) 1 0 0) (hC : Cl sh G) (hf : fX7_withLetter l0 l2 = some z) (kr : RCl E cX7_withLetter ad sh z G) : VV E 0 0 (wq (xT E) ad G sh) 0 [(0, .long l0), (2, .int l2)] [] := by
  unfold fX7_withLetter at hf
  refine v_lload_n C 0 dX7_withLetter_0 rfl rfl ?_
  refine v_ldc2 (v := 32) C dX7_withLetter_1 kw_421 ?_
  refine v_lmul C dX7_withLetter_4 ?_
  refine v_iload_n C 1 dX7_withLetter_5 rfl rfl ?_
  refine v_bipush (v := 97) C dX7_withLetter_6 (by decide) ?_
  refine v_isub C dX7_withLetter_8 ?_
  refine v_iconst (v := 1) C dX7_withLetter_9 (by decide) ?_
  refine v_iadd C dX7_withLetter_10 ?_
  refine v_i2l C dX7_withLetter_11 ?_
  refine v_ladd C dX7_withLetter_12 ?_
  cases hf
  exact kr _ _ dX7_withLetter_13 hC
theorem sX7_withLetter {l : Launch} {sh : Sh} {G : Hp} {l0 : Int64} {l2 : Int32} {z : Int64} (hf : fX7_withLetter l0 l2 = some z) : MC l yX7_withLetter cX7_withLetter 3 (some .long) 1 0 0 sh sh G G (fun ad => [.long l0, .int l2]) (fun _ => some (.long z)) := by
  refine MC_of rfl rfl (fun _ => Nat.le_of_ble_eq_true rfl) (fun E ad C hl hnm hC hQ => ?_)
  exact tX7_withLetter C hC hf (fun pc lv hd hC => v_lret C hQ (fun _ _ => rfl) hC rfl hd)
def fX7_kindOf_S2 (sh : Sh) (l0 : Nat) (l1 : Int64) (G : Hp) (l3 : Int32) : Option ((Int32) ⊕ ((Unit) ⊕ (Int32))) := if 26 ≤ l3 then some (.inr (.inl ())) else (ldA sh G l0 4 4).bind fun a2 => (aJ sh G a2 l3).bind fun v3 => if (lg_cmp v3 l1) = 0 then some (.inr (.inr l3)) else bd ((l3 + 1) : Int32) fun x5 => some (.inl x5)
set_option maxHeartbeats 4000000 in
theorem tX7_kindOf_S2 {E : EX} {ad : Nat → Nat} {sh : Sh} {G : Hp} {l0 : Nat} {l1 : Int64} {l3 : Int32} {o : (Int32) ⊕ ((Unit) ⊕ (Int32))} (C : Cx E RX7 cX7_kindOf 4 (some .int) 1 0 0) (hC : Cl sh G) (h_l0 : sh[l0]? = some (0, 7)) (hf : fX7_kindOf_S2 sh l0 l1 G l3 = some o) (kb : ∀ (b_l3 : Int32), o = .inl b_l3 → VV E 0 0 (wq (xT E) ad G sh) 2 [(0, .ref (ad l0)), (1, .long l1), (3, .int b_l3)] []) (kx31 : o = .inr (.inl ()) → VV E 0 0 (wq (xT E) ad G sh) 31 [(0, .ref (ad l0)), (1, .long l1)] []) (kx19 : ∀ (b_l3 : Int32), o = .inr (.inr b_l3) → VV E 0 0 (wq (xT E) ad G sh) 19 [(0, .ref (ad l0)), (1, .long l1), (3, .int b_l3)] []) : VV E 0 0 (wq (xT E) ad G sh) 2 [(0, .ref (ad l0)), (1, .long l1), (3, .int l3)] [] := by
  unfold fX7_kindOf_S2 at hf
  refine v_iload_n C 2 dX7_kindOf_2 rfl rfl ?_
  refine v_bipush (v := 26) C dX7_kindOf_3 (by decide) ?_
  refine v_icmp_ge (tgt := 31) C dX7_kindOf_5 (by decide) (fun c1 => ?_) (fun c1 => ?_)
  · have hf := ip hf c1
    cases hf
    refine v_sub [0, 1] rfl ?_
    exact kx31 rfl
  · have hf := im hf c1
    refine v_aload_n C 0 dX7_kindOf_8 rfl rfl ?_
    obtain ⟨a2, qa2, hf⟩ := bn hf
    refine v_getA C h_l0 fl_X7_22 qa2 dX7_kindOf_9 (fun h_a2 => ?_)
    refine v_iload_n C 2 dX7_kindOf_12 rfl rfl ?_
    obtain ⟨v3, qv3, hf⟩ := bn hf
    refine v_lald C h_a2 qv3 dX7_kindOf_13 ?_
    refine v_lload_n C 1 dX7_kindOf_14 rfl rfl ?_
    refine v_lcmp C dX7_kindOf_15 ?_
    refine v_if_ne (tgt := 25) C dX7_kindOf_16 (by decide) (fun c4 => ?_) (fun c4 => ?_)
    · have hf := im hf c4
      obtain ⟨x5, ex5⟩ : ∃ x : Int32, x = (l3 + 1) := ⟨_, rfl⟩
      have hf := bd_at hf ex5
      refine v_iinc (v := x5) (j := 2) (lv2 := [(3, .int x5), (0, .ref (ad l0)), (1, .long l1)]) C dX7_kindOf_25 rfl (by rw [ex5]; rfl) (by decide) rfl ?_
      refine v_goto (tgt := 2) C dX7_kindOf_28 (by decide) ?_
      cases hf
      refine v_sub [1, 2, 0] rfl ?_
      exact kb _ rfl
    · have hf := ip hf c4
      cases hf
      refine v_sub [0, 1, 2] rfl ?_
      exact kx19 _ rfl
def fX7_kindOf (sh : Sh) (G : Hp) (l0 : Nat) (l1 : Int64) : Option (Int32) := (iter (fun s : Int32 => fX7_kindOf_S2 sh l0 l1 G s) fuel (0 : Int32)).bind (Sum.elim (fun _ => some 1) (fun u4 => bd u4 fun x3 => some ((256 : Int32) + x3)))
set_option maxHeartbeats 4000000 in
theorem tX7_kindOf {E : EX} {ad : Nat → Nat} {sh : Sh} {G : Hp} {l0 : Nat} {l1 : Int64} {z : Int32} (C : Cx E RX7 cX7_kindOf 4 (some .int) 1 0 0) (hC : Cl sh G) (h_l0 : sh[l0]? = some (0, 7)) (hf : fX7_kindOf sh G l0 l1 = some z) (kr : RCi E cX7_kindOf ad sh z G) : VV E 0 0 (wq (xT E) ad G sh) 0 [(0, .ref (ad l0)), (1, .long l1)] [] := by
  unfold fX7_kindOf at hf
  refine v_iconst (v := 0) C dX7_kindOf_0 (by decide) ?_
  refine v_istore_n (lv2 := [(3, .int 0), (0, .ref (ad l0)), (1, .long l1)]) C dX7_kindOf_1 rfl (by decide) rfl ?_
  obtain ⟨r1, qr1, hf⟩ := bn hf
  refine v_sub [1, 2, 0] rfl ?_
  refine iter_sound (P := (fun s : Int32 => VV E 0 0 (wq (xT E) ad (G) sh) 2 [(0, .ref (ad l0)), (1, .long (l1)), (3, .int (s))] [])) (X := fun r => r = r1) (fun jsr1 jor1 hor1 jbr1 jxr1 => tX7_kindOf_S2 C hC h_l0 hor1 (fun _ e => jbr1 _ e) ?_ ?_) fuel _ r1 qr1 rfl
  · intro  hu
    have e := jxr1 _ hu
    subst e
    have hf := sm_l hf
    refine v_iconst (v := 1) C dX7_kindOf_31 (by decide) ?_
    cases hf
    exact kr _ _ dX7_kindOf_32 hC
  · intro x3 hu
    have e := jxr1 _ hu
    subst e
    have hf := sm_r hf
    have hf := bd_at hf (rfl : x3 = _)
    refine v_sipush (v := 256) C dX7_kindOf_19 (by decide) ?_
    refine v_iload_n C 2 dX7_kindOf_22 rfl rfl ?_
    refine v_iadd C dX7_kindOf_23 ?_
    cases hf
    exact kr _ _ dX7_kindOf_24 hC
theorem sX7_kindOf {l : Launch} {sh : Sh} {G : Hp} {l0 : Nat} {l1 : Int64} {z : Int32} (h_l0 : sh[l0]? = some (0, 7)) (hf : fX7_kindOf sh G l0 l1 = some z) : MC l yX7_kindOf cX7_kindOf 4 (some .int) 1 0 0 sh sh G G (fun ad => [.ref (ad l0), .long l1]) (fun _ => some (.int z)) := by
  refine MC_of rfl rfl (fun _ => Nat.le_of_ble_eq_true rfl) (fun E ad C hl hnm hC hQ => ?_)
  exact tX7_kindOf C hC h_l0 hf (fun pc lv hd hC => v_iret C hQ (fun _ _ => rfl) hC rfl hd)
def fX7_cutWord_S4 (sh : Sh) (l0 : Nat) (l1 : Int32) (G : Hp) (l2 : Int32) (l3 : Int64) : Option ((Hp × Int32 × Int64) ⊕ ((Hp × Int32 × Int64))) := if (G.1 l0 0) ≤ (G.1 l0 6) then some (.inr (G, l2, l3)) else (ldA sh G l0 5 2).bind fun a2 => (aI sh G a2 (G.1 l0 6)).bind fun v3 => (fX7_isLetter v3).bind fun r4 => if r4 = 0 then some (.inr (G, l2, l3)) else (ldA sh G l0 5 2).bind fun a6 => (aI sh G a6 (G.1 l0 6)).bind fun v7 => (fX7_withLetter l3 v7).bind fun r8 => bd ((l2 + 1) : Int32) fun x9 => bd (sI G l0 6 ((G.1 l0 6) + 1)) fun G10 => some (.inl (G10, x9, r8))
set_option maxHeartbeats 4000000 in
theorem tX7_cutWord_S4 {E : EX} {ad : Nat → Nat} {sh : Sh} {G : Hp} {l0 : Nat} {l1 : Int32} {l2 : Int32} {l3 : Int64} {o : (Hp × Int32 × Int64) ⊕ ((Hp × Int32 × Int64))} (C : Cx E RX7 cX7_cutWord 5 none 2 0 0) (hC : Cl sh G) (h_l0 : sh[l0]? = some (0, 7)) (hf : fX7_cutWord_S4 sh l0 l1 G l2 l3 = some o) (kb : ∀ (G2 : Hp) (b_l2 : Int32) (b_l3 : Int64), o = .inl (G2, b_l2, b_l3) → Cl sh G2 → VV E 0 0 (wq (xT E) ad G2 sh) 4 [(0, .ref (ad l0)), (1, .int l1), (2, .int b_l2), (3, .long b_l3)] []) (kx60 : ∀ (G2 : Hp) (b_l2 : Int32) (b_l3 : Int64), o = .inr (G2, b_l2, b_l3) → Cl sh G2 → VV E 0 0 (wq (xT E) ad G2 sh) 60 [(0, .ref (ad l0)), (1, .int l1), (2, .int b_l2), (3, .long b_l3)] []) : VV E 0 0 (wq (xT E) ad G sh) 4 [(0, .ref (ad l0)), (1, .int l1), (2, .int l2), (3, .long l3)] [] := by
  unfold fX7_cutWord_S4 at hf
  refine v_aload_n C 0 dX7_cutWord_4 rfl rfl ?_
  refine v_getI C h_l0 fl_X7_52 dX7_cutWord_5 ?_
  refine v_aload_n C 0 dX7_cutWord_8 rfl rfl ?_
  refine v_getI C h_l0 fl_X7_49 dX7_cutWord_9 ?_
  refine v_icmp_ge (tgt := 60) C dX7_cutWord_12 (by decide) (fun c1 => ?_) (fun c1 => ?_)
  · have hf := ip hf c1
    cases hf
    refine v_sub [0, 1, 2, 3] rfl ?_
    exact kx60 _ _ _ rfl hC
  · have hf := im hf c1
    refine v_aload_n C 0 dX7_cutWord_15 rfl rfl ?_
    obtain ⟨a2, qa2, hf⟩ := bn hf
    refine v_getA C h_l0 fl_X7_25 qa2 dX7_cutWord_16 (fun h_a2 => ?_)
    refine v_aload_n C 0 dX7_cutWord_19 rfl rfl ?_
    refine v_getI C h_l0 fl_X7_52 dX7_cutWord_20 ?_
    obtain ⟨v3, qv3, hf⟩ := bn hf
    refine v_bald C h_a2 qv3 dX7_cutWord_23 ?_
    obtain ⟨r4, qr4, hf⟩ := bn hf
    refine v_callSi (As := [.int v3]) (rest := []) C (sX7_isLetter  qr4) cs_X7_41 (by decide) hC rfl rfl rfl (Nat.le_of_ble_eq_true rfl) ⟨Nat.le_refl _, Nat.le_refl _⟩ dX7_cutWord_24 (fun hC => ?_)
    refine v_if_eq (tgt := 60) C dX7_cutWord_27 (by decide) (fun c5 => ?_) (fun c5 => ?_)
    · have hf := ip hf c5
      cases hf
      refine v_sub [0, 1, 2, 3] rfl ?_
      exact kx60 _ _ _ rfl hC
    · have hf := im hf c5
      refine v_lload_n C 3 dX7_cutWord_30 rfl rfl ?_
      refine v_aload_n C 0 dX7_cutWord_31 rfl rfl ?_
      obtain ⟨a6, qa6, hf⟩ := bn hf
      refine v_getA C h_l0 fl_X7_25 qa6 dX7_cutWord_32 (fun h_a6 => ?_)
      refine v_aload_n C 0 dX7_cutWord_35 rfl rfl ?_
      refine v_getI C h_l0 fl_X7_52 dX7_cutWord_36 ?_
      obtain ⟨v7, qv7, hf⟩ := bn hf
      refine v_bald C h_a6 qv7 dX7_cutWord_39 ?_
      obtain ⟨r8, qr8, hf⟩ := bn hf
      refine v_callSl (As := [.long l3, .int v7]) (rest := []) C (sX7_withLetter  qr8) cs_X7_45 (by decide) hC rfl rfl rfl (Nat.le_of_ble_eq_true rfl) ⟨Nat.le_refl _, Nat.le_refl _⟩ dX7_cutWord_40 (fun hC => ?_)
      refine v_lstore_n (lv2 := [(3, .long r8), (0, .ref (ad l0)), (1, .int l1), (2, .int l2)]) C dX7_cutWord_43 rfl (by decide) rfl ?_
      obtain ⟨x9, ex9⟩ : ∃ x : Int32, x = (l2 + 1) := ⟨_, rfl⟩
      have hf := bd_at hf ex9
      refine v_iinc (v := x9) (j := 3) (lv2 := [(2, .int x9), (3, .long r8), (0, .ref (ad l0)), (1, .int l1)]) C dX7_cutWord_44 rfl (by rw [ex9]; rfl) (by decide) rfl ?_
      refine v_aload_n C 2 dX7_cutWord_47 rfl rfl ?_
      refine v_dup C dX7_cutWord_48 rfl ?_
      refine v_getI C h_l0 fl_X7_52 dX7_cutWord_49 ?_
      refine v_iconst (v := 1) C dX7_cutWord_52 (by decide) ?_
      refine v_iadd C dX7_cutWord_53 ?_
      refine v_putI C h_l0 fp_X7_52 dX7_cutWord_54 (fun G10 eG10 => ?_)
      have hf := bd_at hf eG10
      have hC : Cl sh G10 := by rw [eG10]; exact hC
      refine v_goto (tgt := 4) C dX7_cutWord_57 (by decide) ?_
      cases hf
      refine v_sub [2, 3, 0, 1] rfl ?_
      exact kb _ _ _ rfl hC
def fX7_cutWord_J60 (sh : Sh) (G : Hp) (l0 : Nat) (l1 : Int32) (l2 : Int32) (l3 : Int64) : Option (Hp) := (ldA sh G l0 3 4).bind fun a1 => (asJ sh G a1 l1 l3).bind fun G2 => (ldA sh G2 l0 1 1).bind fun a3 => if l2 ≤ 8 then (fX7_kindOf sh G2 l0 l3).bind fun r5 => (asI sh G2 a3 l1 r5).bind fun G6 => some G6 else (asI sh G2 a3 l1 3).bind fun G7 => some G7
set_option maxHeartbeats 4000000 in
theorem tX7_cutWord_J60 {E : EX} {ad : Nat → Nat} {sh : Sh} {G : Hp} {l0 : Nat} {l1 : Int32} {l2 : Int32} {l3 : Int64} {z : Hp} (C : Cx E RX7 cX7_cutWord 5 none 2 0 0) (hC : Cl sh G) (h_l0 : sh[l0]? = some (0, 7)) (hf : fX7_cutWord_J60 sh G l0 l1 l2 l3 = some z) (kr : RCv E cX7_cutWord ad sh z) : VV E 0 0 (wq (xT E) ad G sh) 60 [(0, .ref (ad l0)), (1, .int l1), (2, .int l2), (3, .long l3)] [] := by
  unfold fX7_cutWord_J60 at hf
  refine v_aload_n C 0 dX7_cutWord_60 rfl rfl ?_
  obtain ⟨a1, qa1, hf⟩ := bn hf
  refine v_getA C h_l0 fl_X7_18 qa1 dX7_cutWord_61 (fun h_a1 => ?_)
  refine v_iload_n C 1 dX7_cutWord_64 rfl rfl ?_
  refine v_lload_n C 3 dX7_cutWord_65 rfl rfl ?_
  obtain ⟨G2, qG2, hf⟩ := bn hf
  refine v_last C h_a1 qG2 hC dX7_cutWord_66 (fun hC => ?_)
  refine v_aload_n C 0 dX7_cutWord_67 rfl rfl ?_
  obtain ⟨a3, qa3, hf⟩ := bn hf
  refine v_getA C h_l0 fl_X7_9 qa3 dX7_cutWord_68 (fun h_a3 => ?_)
  refine v_iload_n C 1 dX7_cutWord_71 rfl rfl ?_
  refine v_iload_n C 2 dX7_cutWord_72 rfl rfl ?_
  refine v_bipush (v := 8) C dX7_cutWord_73 (by decide) ?_
  refine v_icmp_le (tgt := 82) C dX7_cutWord_75 (by decide) (fun c4 => ?_) (fun c4 => ?_)
  · have hf := ip hf c4
    refine v_aload_n C 0 dX7_cutWord_82 rfl rfl ?_
    refine v_lload_n C 3 dX7_cutWord_83 rfl rfl ?_
    obtain ⟨r5, qr5, hf⟩ := bn hf
    refine v_callVi (As := [.long l3]) (rest := [.int l1, .ref (ad a3)]) C (sX7_kindOf h_l0 qr5) cs_X7_74 (by decide) h_l0 rfl hC rfl rfl rfl (Nat.le_of_ble_eq_true rfl) ⟨Nat.le_refl _, Nat.le_refl _⟩ dX7_cutWord_84 (fun hC => ?_)
    obtain ⟨G6, qG6, hf⟩ := bn hf
    refine v_iast C h_a3 qG6 hC dX7_cutWord_87 (fun hC => ?_)
    cases hf
    exact kr _ _ dX7_cutWord_88 hC
  · have hf := im hf c4
    refine v_iconst (v := 3) C dX7_cutWord_78 (by decide) ?_
    refine v_goto (tgt := 87) C dX7_cutWord_79 (by decide) ?_
    obtain ⟨G7, qG7, hf⟩ := bn hf
    refine v_iast C h_a3 qG7 hC dX7_cutWord_87 (fun hC => ?_)
    cases hf
    exact kr _ _ dX7_cutWord_88 hC
def fX7_cutWord (sh : Sh) (G : Hp) (l0 : Nat) (l1 : Int32) : Option (Hp) := (iter (fun s : Hp × Int32 × Int64 => fX7_cutWord_S4 sh l0 l1 s.1 s.2.1 s.2.2) fuel ((G, 0, 0) : Hp × Int32 × Int64)).bind (fun u5 => bd u5.1 fun G2 => bd u5.2.1 fun x3 => bd u5.2.2 fun x4 => fX7_cutWord_J60 sh G2 l0 l1 x3 x4)
set_option maxHeartbeats 4000000 in
theorem tX7_cutWord {E : EX} {ad : Nat → Nat} {sh : Sh} {G : Hp} {l0 : Nat} {l1 : Int32} {z : Hp} (C : Cx E RX7 cX7_cutWord 5 none 2 0 0) (hC : Cl sh G) (h_l0 : sh[l0]? = some (0, 7)) (hf : fX7_cutWord sh G l0 l1 = some z) (kr : RCv E cX7_cutWord ad sh z) : VV E 0 0 (wq (xT E) ad G sh) 0 [(0, .ref (ad l0)), (1, .int l1)] [] := by
  unfold fX7_cutWord at hf
  refine v_iconst (v := 0) C dX7_cutWord_0 (by decide) ?_
  refine v_istore_n (lv2 := [(2, .int 0), (0, .ref (ad l0)), (1, .int l1)]) C dX7_cutWord_1 rfl (by decide) rfl ?_
  refine v_lconst (v := 0) C dX7_cutWord_2 (by decide) ?_
  refine v_lstore_n (lv2 := [(3, .long 0), (2, .int 0), (0, .ref (ad l0)), (1, .int l1)]) C dX7_cutWord_3 rfl (by decide) rfl ?_
  obtain ⟨r1, qr1, hf⟩ := bn hf
  refine v_sub [2, 3, 1, 0] rfl ?_
  refine iter_sound (P := (fun s : Hp × Int32 × Int64 => Cl sh (s.1) → VV E 0 0 (wq (xT E) ad (s.1) sh) 4 [(0, .ref (ad l0)), (1, .int (l1)), (2, .int (s.2.1)), (3, .long (s.2.2))] [])) (X := fun r => r = r1) (fun jsr1 jor1 hor1 jbr1 jxr1 hC => tX7_cutWord_S4 C hC h_l0 hor1 (fun _ _ _ e => jbr1 _ e) ?_) fuel _ r1 qr1 rfl hC
  · intro G2 x3 x4 hu hC
    have e := jxr1 _ hu
    subst e
    have hf := bd_at hf (rfl : G2 = _)
    have hf := bd_at hf (rfl : x3 = _)
    have hf := bd_at hf (rfl : x4 = _)
    refine v_sub [0, 1, 2, 3] rfl ?_
    exact tX7_cutWord_J60 C hC h_l0 hf kr
theorem sX7_cutWord {l : Launch} {sh : Sh} {G : Hp} {l0 : Nat} {l1 : Int32} {z : Hp} (h_l0 : sh[l0]? = some (0, 7)) (hf : fX7_cutWord sh G l0 l1 = some z) : MC l yX7_cutWord cX7_cutWord 5 none 2 0 0 sh sh G z (fun ad => [.ref (ad l0), .int l1]) (fun _ => none) := by
  refine MC_of rfl rfl (fun _ => Nat.le_of_ble_eq_true rfl) (fun E ad C hl hnm hC hQ => ?_)
  exact tX7_cutWord C hC h_l0 hf (fun pc lv hd hC => v_vret C hQ (fun _ _ => rfl) hC rfl hd)
def fX7_isDigit (l0 : Int32) : Option (Int32) := if l0 < 48 then some 0 else if 57 < l0 then some 0 else some 1
set_option maxHeartbeats 4000000 in
theorem tX7_isDigit {E : EX} {ad : Nat → Nat} {sh : Sh} {G : Hp} {l0 : Int32} {z : Int32} (C : Cx E RX7 cX7_isDigit 1 (some .boolean) 1 0 0) (hC : Cl sh G) (hf : fX7_isDigit l0 = some z) (kr : RCz E cX7_isDigit ad sh z G) : VV E 0 0 (wq (xT E) ad G sh) 0 [(0, .int l0)] [] := by
  unfold fX7_isDigit at hf
  refine v_iload_n C 0 dX7_isDigit_0 rfl rfl ?_
  refine v_bipush (v := 48) C dX7_isDigit_1 (by decide) ?_
  refine v_icmp_lt (tgt := 16) C dX7_isDigit_3 (by decide) (fun c1 => ?_) (fun c1 => ?_)
  · have hf := ip hf c1
    refine v_iconst (v := 0) C dX7_isDigit_16 (by decide) ?_
    cases hf
    exact kr _ _ dX7_isDigit_17 (Or.inl rfl) hC
  · have hf := im hf c1
    refine v_iload_n C 0 dX7_isDigit_6 rfl rfl ?_
    refine v_bipush (v := 57) C dX7_isDigit_7 (by decide) ?_
    refine v_icmp_gt (tgt := 16) C dX7_isDigit_9 (by decide) (fun c2 => ?_) (fun c2 => ?_)
    · have hf := ip hf c2
      refine v_iconst (v := 0) C dX7_isDigit_16 (by decide) ?_
      cases hf
      exact kr _ _ dX7_isDigit_17 (Or.inl rfl) hC
    · have hf := im hf c2
      refine v_iconst (v := 1) C dX7_isDigit_12 (by decide) ?_
      refine v_goto (tgt := 17) C dX7_isDigit_13 (by decide) ?_
      cases hf
      exact kr _ _ dX7_isDigit_17 (Or.inr rfl) hC
theorem sX7_isDigit {l : Launch} {sh : Sh} {G : Hp} {l0 : Int32} {z : Int32} (hf : fX7_isDigit l0 = some z) : MC l yX7_isDigit cX7_isDigit 1 (some .boolean) 1 0 0 sh sh G G (fun ad => [.int l0]) (fun _ => some (.int z)) := by
  refine MC_of rfl rfl (fun _ => Nat.le_of_ble_eq_true rfl) (fun E ad C hl hnm hC hQ => ?_)
  exact tX7_isDigit C hC hf (fun pc lv hd hz hC => v_zret C hQ (fun _ _ => rfl) hC rfl hz hd)
def fX7_cutNumber_S4 (sh : Sh) (l0 : Nat) (l1 : Int32) (G : Hp) (l2 : Int32) (l3 : Int32) : Option ((Hp × Int32 × Int32) ⊕ ((Hp × Int32 × Int32))) := if (G.1 l0 0) ≤ (G.1 l0 6) then some (.inr (G, l2, l3)) else (ldA sh G l0 5 2).bind fun a2 => (aI sh G a2 (G.1 l0 6)).bind fun v3 => (fX7_isDigit v3).bind fun r4 => if r4 = 0 then some (.inr (G, l2, l3)) else (ldA sh G l0 5 2).bind fun a6 => (aI sh G a6 (G.1 l0 6)).bind fun v7 => bd (((l3 * 10) + (v7 - 48)) : Int32) fun x8 => bd ((l2 + 1) : Int32) fun x9 => bd (sI G l0 6 ((G.1 l0 6) + 1)) fun G10 => some (.inl (G10, x9, x8))
set_option maxHeartbeats 4000000 in
theorem tX7_cutNumber_S4 {E : EX} {ad : Nat → Nat} {sh : Sh} {G : Hp} {l0 : Nat} {l1 : Int32} {l2 : Int32} {l3 : Int32} {o : (Hp × Int32 × Int32) ⊕ ((Hp × Int32 × Int32))} (C : Cx E RX7 cX7_cutNumber 4 none 2 0 0) (hC : Cl sh G) (h_l0 : sh[l0]? = some (0, 7)) (hf : fX7_cutNumber_S4 sh l0 l1 G l2 l3 = some o) (kb : ∀ (G2 : Hp) (b_l2 : Int32) (b_l3 : Int32), o = .inl (G2, b_l2, b_l3) → Cl sh G2 → VV E 0 0 (wq (xT E) ad G2 sh) 4 [(0, .ref (ad l0)), (1, .int l1), (2, .int b_l2), (3, .int b_l3)] []) (kx64 : ∀ (G2 : Hp) (b_l2 : Int32) (b_l3 : Int32), o = .inr (G2, b_l2, b_l3) → Cl sh G2 → VV E 0 0 (wq (xT E) ad G2 sh) 64 [(0, .ref (ad l0)), (1, .int l1), (2, .int b_l2), (3, .int b_l3)] []) : VV E 0 0 (wq (xT E) ad G sh) 4 [(0, .ref (ad l0)), (1, .int l1), (2, .int l2), (3, .int l3)] [] := by
  unfold fX7_cutNumber_S4 at hf
  refine v_aload_n C 0 dX7_cutNumber_4 rfl rfl ?_
  refine v_getI C h_l0 fl_X7_52 dX7_cutNumber_5 ?_
  refine v_aload_n C 0 dX7_cutNumber_8 rfl rfl ?_
  refine v_getI C h_l0 fl_X7_49 dX7_cutNumber_9 ?_
  refine v_icmp_ge (tgt := 64) C dX7_cutNumber_12 (by decide) (fun c1 => ?_) (fun c1 => ?_)
  · have hf := ip hf c1
    cases hf
    refine v_sub [0, 1, 2, 3] rfl ?_
    exact kx64 _ _ _ rfl hC
  · have hf := im hf c1
    refine v_aload_n C 0 dX7_cutNumber_15 rfl rfl ?_
    obtain ⟨a2, qa2, hf⟩ := bn hf
    refine v_getA C h_l0 fl_X7_25 qa2 dX7_cutNumber_16 (fun h_a2 => ?_)
    refine v_aload_n C 0 dX7_cutNumber_19 rfl rfl ?_
    refine v_getI C h_l0 fl_X7_52 dX7_cutNumber_20 ?_
    obtain ⟨v3, qv3, hf⟩ := bn hf
    refine v_bald C h_a2 qv3 dX7_cutNumber_23 ?_
    obtain ⟨r4, qr4, hf⟩ := bn hf
    refine v_callSi (As := [.int v3]) (rest := []) C (sX7_isDigit  qr4) cs_X7_65 (by decide) hC rfl rfl rfl (Nat.le_of_ble_eq_true rfl) ⟨Nat.le_refl _, Nat.le_refl _⟩ dX7_cutNumber_24 (fun hC => ?_)
    refine v_if_eq (tgt := 64) C dX7_cutNumber_27 (by decide) (fun c5 => ?_) (fun c5 => ?_)
    · have hf := ip hf c5
      cases hf
      refine v_sub [0, 1, 2, 3] rfl ?_
      exact kx64 _ _ _ rfl hC
    · have hf := im hf c5
      refine v_iload_n C 3 dX7_cutNumber_30 rfl rfl ?_
      refine v_bipush (v := 10) C dX7_cutNumber_31 (by decide) ?_
      refine v_imul C dX7_cutNumber_33 ?_
      refine v_aload_n C 0 dX7_cutNumber_34 rfl rfl ?_
      obtain ⟨a6, qa6, hf⟩ := bn hf
      refine v_getA C h_l0 fl_X7_25 qa6 dX7_cutNumber_35 (fun h_a6 => ?_)
      refine v_aload_n C 0 dX7_cutNumber_38 rfl rfl ?_
      refine v_getI C h_l0 fl_X7_52 dX7_cutNumber_39 ?_
      obtain ⟨v7, qv7, hf⟩ := bn hf
      refine v_bald C h_a6 qv7 dX7_cutNumber_42 ?_
      refine v_bipush (v := 48) C dX7_cutNumber_43 (by decide) ?_
      refine v_isub C dX7_cutNumber_45 ?_
      refine v_iadd C dX7_cutNumber_46 ?_
      refine v_topi (fun x8 ex8 => ?_)
      have hf := bd_at hf ex8
      refine v_istore_n (lv2 := [(3, .int x8), (0, .ref (ad l0)), (1, .int l1), (2, .int l2)]) C dX7_cutNumber_47 rfl (by decide) rfl ?_
      obtain ⟨x9, ex9⟩ : ∃ x : Int32, x = (l2 + 1) := ⟨_, rfl⟩
      have hf := bd_at hf ex9
      refine v_iinc (v := x9) (j := 3) (lv2 := [(2, .int x9), (3, .int x8), (0, .ref (ad l0)), (1, .int l1)]) C dX7_cutNumber_48 rfl (by rw [ex9]; rfl) (by decide) rfl ?_
      refine v_aload_n C 2 dX7_cutNumber_51 rfl rfl ?_
      refine v_dup C dX7_cutNumber_52 rfl ?_
      refine v_getI C h_l0 fl_X7_52 dX7_cutNumber_53 ?_
      refine v_iconst (v := 1) C dX7_cutNumber_56 (by decide) ?_
      refine v_iadd C dX7_cutNumber_57 ?_
      refine v_putI C h_l0 fp_X7_52 dX7_cutNumber_58 (fun G10 eG10 => ?_)
      have hf := bd_at hf eG10
      have hC : Cl sh G10 := by rw [eG10]; exact hC
      refine v_goto (tgt := 4) C dX7_cutNumber_61 (by decide) ?_
      cases hf
      refine v_sub [2, 3, 0, 1] rfl ?_
      exact kb _ _ _ rfl hC
def fX7_cutNumber_J64 (sh : Sh) (G : Hp) (l0 : Nat) (l1 : Int32) (l2 : Int32) (l3 : Int32) : Option (Hp) := (ldA sh G l0 3 4).bind fun a1 => (asJ sh G a1 l1 (Int32.toInt64 l3)).bind fun G2 => (ldA sh G2 l0 1 1).bind fun a3 => if l2 ≤ 4 then (asI sh G2 a3 l1 2).bind fun G5 => some G5 else (asI sh G2 a3 l1 3).bind fun G6 => some G6
set_option maxHeartbeats 4000000 in
theorem tX7_cutNumber_J64 {E : EX} {ad : Nat → Nat} {sh : Sh} {G : Hp} {l0 : Nat} {l1 : Int32} {l2 : Int32} {l3 : Int32} {z : Hp} (C : Cx E RX7 cX7_cutNumber 4 none 2 0 0) (hC : Cl sh G) (h_l0 : sh[l0]? = some (0, 7)) (hf : fX7_cutNumber_J64 sh G l0 l1 l2 l3 = some z) (kr : RCv E cX7_cutNumber ad sh z) : VV E 0 0 (wq (xT E) ad G sh) 64 [(0, .ref (ad l0)), (1, .int l1), (2, .int l2), (3, .int l3)] [] := by
  unfold fX7_cutNumber_J64 at hf
  refine v_aload_n C 0 dX7_cutNumber_64 rfl rfl ?_
  obtain ⟨a1, qa1, hf⟩ := bn hf
  refine v_getA C h_l0 fl_X7_18 qa1 dX7_cutNumber_65 (fun h_a1 => ?_)
  refine v_iload_n C 1 dX7_cutNumber_68 rfl rfl ?_
  refine v_iload_n C 3 dX7_cutNumber_69 rfl rfl ?_
  refine v_i2l C dX7_cutNumber_70 ?_
  obtain ⟨G2, qG2, hf⟩ := bn hf
  refine v_last C h_a1 qG2 hC dX7_cutNumber_71 (fun hC => ?_)
  refine v_aload_n C 0 dX7_cutNumber_72 rfl rfl ?_
  obtain ⟨a3, qa3, hf⟩ := bn hf
  refine v_getA C h_l0 fl_X7_9 qa3 dX7_cutNumber_73 (fun h_a3 => ?_)
  refine v_iload_n C 1 dX7_cutNumber_76 rfl rfl ?_
  refine v_iload_n C 2 dX7_cutNumber_77 rfl rfl ?_
  refine v_iconst (v := 4) C dX7_cutNumber_78 (by decide) ?_
  refine v_icmp_le (tgt := 86) C dX7_cutNumber_79 (by decide) (fun c4 => ?_) (fun c4 => ?_)
  · have hf := ip hf c4
    refine v_iconst (v := 2) C dX7_cutNumber_86 (by decide) ?_
    obtain ⟨G5, qG5, hf⟩ := bn hf
    refine v_iast C h_a3 qG5 hC dX7_cutNumber_87 (fun hC => ?_)
    cases hf
    exact kr _ _ dX7_cutNumber_88 hC
  · have hf := im hf c4
    refine v_iconst (v := 3) C dX7_cutNumber_82 (by decide) ?_
    refine v_goto (tgt := 87) C dX7_cutNumber_83 (by decide) ?_
    obtain ⟨G6, qG6, hf⟩ := bn hf
    refine v_iast C h_a3 qG6 hC dX7_cutNumber_87 (fun hC => ?_)
    cases hf
    exact kr _ _ dX7_cutNumber_88 hC
def fX7_cutNumber (sh : Sh) (G : Hp) (l0 : Nat) (l1 : Int32) : Option (Hp) := (iter (fun s : Hp × Int32 × Int32 => fX7_cutNumber_S4 sh l0 l1 s.1 s.2.1 s.2.2) fuel ((G, 0, 0) : Hp × Int32 × Int32)).bind (fun u5 => bd u5.1 fun G2 => bd u5.2.1 fun x3 => bd u5.2.2 fun x4 => fX7_cutNumber_J64 sh G2 l0 l1 x3 x4)
set_option maxHeartbeats 4000000 in
theorem tX7_cutNumber {E : EX} {ad : Nat → Nat} {sh : Sh} {G : Hp} {l0 : Nat} {l1 : Int32} {z : Hp} (C : Cx E RX7 cX7_cutNumber 4 none 2 0 0) (hC : Cl sh G) (h_l0 : sh[l0]? = some (0, 7)) (hf : fX7_cutNumber sh G l0 l1 = some z) (kr : RCv E cX7_cutNumber ad sh z) : VV E 0 0 (wq (xT E) ad G sh) 0 [(0, .ref (ad l0)), (1, .int l1)] [] := by
  unfold fX7_cutNumber at hf
  refine v_iconst (v := 0) C dX7_cutNumber_0 (by decide) ?_
  refine v_istore_n (lv2 := [(2, .int 0), (0, .ref (ad l0)), (1, .int l1)]) C dX7_cutNumber_1 rfl (by decide) rfl ?_
  refine v_iconst (v := 0) C dX7_cutNumber_2 (by decide) ?_
  refine v_istore_n (lv2 := [(3, .int 0), (2, .int 0), (0, .ref (ad l0)), (1, .int l1)]) C dX7_cutNumber_3 rfl (by decide) rfl ?_
  obtain ⟨r1, qr1, hf⟩ := bn hf
  refine v_sub [2, 3, 1, 0] rfl ?_
  refine iter_sound (P := (fun s : Hp × Int32 × Int32 => Cl sh (s.1) → VV E 0 0 (wq (xT E) ad (s.1) sh) 4 [(0, .ref (ad l0)), (1, .int (l1)), (2, .int (s.2.1)), (3, .int (s.2.2))] [])) (X := fun r => r = r1) (fun jsr1 jor1 hor1 jbr1 jxr1 hC => tX7_cutNumber_S4 C hC h_l0 hor1 (fun _ _ _ e => jbr1 _ e) ?_) fuel _ r1 qr1 rfl hC
  · intro G2 x3 x4 hu hC
    have e := jxr1 _ hu
    subst e
    have hf := bd_at hf (rfl : G2 = _)
    have hf := bd_at hf (rfl : x3 = _)
    have hf := bd_at hf (rfl : x4 = _)
    refine v_sub [0, 1, 2, 3] rfl ?_
    exact tX7_cutNumber_J64 C hC h_l0 hf kr
theorem sX7_cutNumber {l : Launch} {sh : Sh} {G : Hp} {l0 : Nat} {l1 : Int32} {z : Hp} (h_l0 : sh[l0]? = some (0, 7)) (hf : fX7_cutNumber sh G l0 l1 = some z) : MC l yX7_cutNumber cX7_cutNumber 4 none 2 0 0 sh sh G z (fun ad => [.ref (ad l0), .int l1]) (fun _ => none) := by
  refine MC_of rfl rfl (fun _ => Nat.le_of_ble_eq_true rfl) (fun E ad C hl hnm hC hQ => ?_)
  exact tX7_cutNumber C hC h_l0 hf (fun pc lv hd hC => v_vret C hQ (fun _ _ => rfl) hC rfl hd)
def fX7_isSign (l0 : Int32) : Option (Int32) := if l0 = 40 then some 1 else if l0 = 41 then some 1 else if l0 = 42 then some 1 else if l0 = 43 then some 1 else if l0 = 44 then some 0 else if l0 = 45 then some 1 else if l0 = 46 then some 0 else if l0 = 47 then some 1 else if l0 = 48 then some 0 else if l0 = 49 then some 0 else if l0 = 50 then some 0 else if l0 = 51 then some 0 else if l0 = 52 then some 0 else if l0 = 53 then some 0 else if l0 = 54 then some 0 else if l0 = 55 then some 0 else if l0 = 56 then some 0 else if l0 = 57 then some 0 else if l0 = 58 then some 0 else if l0 = 59 then some 1 else if l0 = 60 then some 1 else if l0 = 61 then some 1 else some 0
set_option maxHeartbeats 4000000 in
theorem tX7_isSign {E : EX} {ad : Nat → Nat} {sh : Sh} {G : Hp} {l0 : Int32} {z : Int32} (C : Cx E RX7 cX7_isSign 1 (some .boolean) 1 0 0) (hC : Cl sh G) (hf : fX7_isSign l0 = some z) (kr : RCz E cX7_isSign ad sh z G) : VV E 0 0 (wq (xT E) ad G sh) 0 [(0, .int l0)] [] := by
  unfold fX7_isSign at hf
  refine v_iload_n C 0 dX7_isSign_0 rfl rfl ?_
  by_cases c1 : l0 = 40
  · have hf := ip hf c1
    refine v_tableIn (off := 103) (tgt := 104) C dX7_isSign_1 (by rw [c1]; decide) (by rw [c1]; decide) (by rw [c1]; decide) (by decide) ?_
    refine v_iconst (v := 1) C dX7_isSign_104 (by decide) ?_
    cases hf
    exact kr _ _ dX7_isSign_105 (Or.inr rfl) hC
  · have hf := im hf c1
    by_cases c2 : l0 = 41
    · have hf := ip hf c2
      refine v_tableIn (off := 103) (tgt := 104) C dX7_isSign_1 (by rw [c2]; decide) (by rw [c2]; decide) (by rw [c2]; decide) (by decide) ?_
      refine v_iconst (v := 1) C dX7_isSign_104 (by decide) ?_
      cases hf
      exact kr _ _ dX7_isSign_105 (Or.inr rfl) hC
    · have hf := im hf c2
      by_cases c3 : l0 = 42
      · have hf := ip hf c3
        refine v_tableIn (off := 103) (tgt := 104) C dX7_isSign_1 (by rw [c3]; decide) (by rw [c3]; decide) (by rw [c3]; decide) (by decide) ?_
        refine v_iconst (v := 1) C dX7_isSign_104 (by decide) ?_
        cases hf
        exact kr _ _ dX7_isSign_105 (Or.inr rfl) hC
      · have hf := im hf c3
        by_cases c4 : l0 = 43
        · have hf := ip hf c4
          refine v_tableIn (off := 103) (tgt := 104) C dX7_isSign_1 (by rw [c4]; decide) (by rw [c4]; decide) (by rw [c4]; decide) (by decide) ?_
          refine v_iconst (v := 1) C dX7_isSign_104 (by decide) ?_
          cases hf
          exact kr _ _ dX7_isSign_105 (Or.inr rfl) hC
        · have hf := im hf c4
          by_cases c5 : l0 = 44
          · have hf := ip hf c5
            refine v_tableIn (off := 105) (tgt := 106) C dX7_isSign_1 (by rw [c5]; decide) (by rw [c5]; decide) (by rw [c5]; decide) (by decide) ?_
            refine v_iconst (v := 0) C dX7_isSign_106 (by decide) ?_
            cases hf
            exact kr _ _ dX7_isSign_107 (Or.inl rfl) hC
          · have hf := im hf c5
            by_cases c6 : l0 = 45
            · have hf := ip hf c6
              refine v_tableIn (off := 103) (tgt := 104) C dX7_isSign_1 (by rw [c6]; decide) (by rw [c6]; decide) (by rw [c6]; decide) (by decide) ?_
              refine v_iconst (v := 1) C dX7_isSign_104 (by decide) ?_
              cases hf
              exact kr _ _ dX7_isSign_105 (Or.inr rfl) hC
            · have hf := im hf c6
              by_cases c7 : l0 = 46
              · have hf := ip hf c7
                refine v_tableIn (off := 105) (tgt := 106) C dX7_isSign_1 (by rw [c7]; decide) (by rw [c7]; decide) (by rw [c7]; decide) (by decide) ?_
                refine v_iconst (v := 0) C dX7_isSign_106 (by decide) ?_
                cases hf
                exact kr _ _ dX7_isSign_107 (Or.inl rfl) hC
              · have hf := im hf c7
                by_cases c8 : l0 = 47
                · have hf := ip hf c8
                  refine v_tableIn (off := 103) (tgt := 104) C dX7_isSign_1 (by rw [c8]; decide) (by rw [c8]; decide) (by rw [c8]; decide) (by decide) ?_
                  refine v_iconst (v := 1) C dX7_isSign_104 (by decide) ?_
                  cases hf
                  exact kr _ _ dX7_isSign_105 (Or.inr rfl) hC
                · have hf := im hf c8
                  by_cases c9 : l0 = 48
                  · have hf := ip hf c9
                    refine v_tableIn (off := 105) (tgt := 106) C dX7_isSign_1 (by rw [c9]; decide) (by rw [c9]; decide) (by rw [c9]; decide) (by decide) ?_
                    refine v_iconst (v := 0) C dX7_isSign_106 (by decide) ?_
                    cases hf
                    exact kr _ _ dX7_isSign_107 (Or.inl rfl) hC
                  · have hf := im hf c9
                    by_cases c10 : l0 = 49
                    · have hf := ip hf c10
                      refine v_tableIn (off := 105) (tgt := 106) C dX7_isSign_1 (by rw [c10]; decide) (by rw [c10]; decide) (by rw [c10]; decide) (by decide) ?_
                      refine v_iconst (v := 0) C dX7_isSign_106 (by decide) ?_
                      cases hf
                      exact kr _ _ dX7_isSign_107 (Or.inl rfl) hC
                    · have hf := im hf c10
                      by_cases c11 : l0 = 50
                      · have hf := ip hf c11
                        refine v_tableIn (off := 105) (tgt := 106) C dX7_isSign_1 (by rw [c11]; decide) (by rw [c11]; decide) (by rw [c11]; decide) (by decide) ?_
                        refine v_iconst (v := 0) C dX7_isSign_106 (by decide) ?_
                        cases hf
                        exact kr _ _ dX7_isSign_107 (Or.inl rfl) hC
                      · have hf := im hf c11
                        by_cases c12 : l0 = 51
                        · have hf := ip hf c12
                          refine v_tableIn (off := 105) (tgt := 106) C dX7_isSign_1 (by rw [c12]; decide) (by rw [c12]; decide) (by rw [c12]; decide) (by decide) ?_
                          refine v_iconst (v := 0) C dX7_isSign_106 (by decide) ?_
                          cases hf
                          exact kr _ _ dX7_isSign_107 (Or.inl rfl) hC
                        · have hf := im hf c12
                          by_cases c13 : l0 = 52
                          · have hf := ip hf c13
                            refine v_tableIn (off := 105) (tgt := 106) C dX7_isSign_1 (by rw [c13]; decide) (by rw [c13]; decide) (by rw [c13]; decide) (by decide) ?_
                            refine v_iconst (v := 0) C dX7_isSign_106 (by decide) ?_
                            cases hf
                            exact kr _ _ dX7_isSign_107 (Or.inl rfl) hC
                          · have hf := im hf c13
                            by_cases c14 : l0 = 53
                            · have hf := ip hf c14
                              refine v_tableIn (off := 105) (tgt := 106) C dX7_isSign_1 (by rw [c14]; decide) (by rw [c14]; decide) (by rw [c14]; decide) (by decide) ?_
                              refine v_iconst (v := 0) C dX7_isSign_106 (by decide) ?_
                              cases hf
                              exact kr _ _ dX7_isSign_107 (Or.inl rfl) hC
                            · have hf := im hf c14
                              by_cases c15 : l0 = 54
                              · have hf := ip hf c15
                                refine v_tableIn (off := 105) (tgt := 106) C dX7_isSign_1 (by rw [c15]; decide) (by rw [c15]; decide) (by rw [c15]; decide) (by decide) ?_
                                refine v_iconst (v := 0) C dX7_isSign_106 (by decide) ?_
                                cases hf
                                exact kr _ _ dX7_isSign_107 (Or.inl rfl) hC
                              · have hf := im hf c15
                                by_cases c16 : l0 = 55
                                · have hf := ip hf c16
                                  refine v_tableIn (off := 105) (tgt := 106) C dX7_isSign_1 (by rw [c16]; decide) (by rw [c16]; decide) (by rw [c16]; decide) (by decide) ?_
                                  refine v_iconst (v := 0) C dX7_isSign_106 (by decide) ?_
                                  cases hf
                                  exact kr _ _ dX7_isSign_107 (Or.inl rfl) hC
                                · have hf := im hf c16
                                  by_cases c17 : l0 = 56
                                  · have hf := ip hf c17
                                    refine v_tableIn (off := 105) (tgt := 106) C dX7_isSign_1 (by rw [c17]; decide) (by rw [c17]; decide) (by rw [c17]; decide) (by decide) ?_
                                    refine v_iconst (v := 0) C dX7_isSign_106 (by decide) ?_
                                    cases hf
                                    exact kr _ _ dX7_isSign_107 (Or.inl rfl) hC
                                  · have hf := im hf c17
                                    by_cases c18 : l0 = 57
                                    · have hf := ip hf c18
                                      refine v_tableIn (off := 105) (tgt := 106) C dX7_isSign_1 (by rw [c18]; decide) (by rw [c18]; decide) (by rw [c18]; decide) (by decide) ?_
                                      refine v_iconst (v := 0) C dX7_isSign_106 (by decide) ?_
                                      cases hf
                                      exact kr _ _ dX7_isSign_107 (Or.inl rfl) hC
                                    · have hf := im hf c18
                                      by_cases c19 : l0 = 58
                                      · have hf := ip hf c19
                                        refine v_tableIn (off := 105) (tgt := 106) C dX7_isSign_1 (by rw [c19]; decide) (by rw [c19]; decide) (by rw [c19]; decide) (by decide) ?_
                                        refine v_iconst (v := 0) C dX7_isSign_106 (by decide) ?_
                                        cases hf
                                        exact kr _ _ dX7_isSign_107 (Or.inl rfl) hC
                                      · have hf := im hf c19
                                        by_cases c20 : l0 = 59
                                        · have hf := ip hf c20
                                          refine v_tableIn (off := 103) (tgt := 104) C dX7_isSign_1 (by rw [c20]; decide) (by rw [c20]; decide) (by rw [c20]; decide) (by decide) ?_
                                          refine v_iconst (v := 1) C dX7_isSign_104 (by decide) ?_
                                          cases hf
                                          exact kr _ _ dX7_isSign_105 (Or.inr rfl) hC
                                        · have hf := im hf c20
                                          by_cases c21 : l0 = 60
                                          · have hf := ip hf c21
                                            refine v_tableIn (off := 103) (tgt := 104) C dX7_isSign_1 (by rw [c21]; decide) (by rw [c21]; decide) (by rw [c21]; decide) (by decide) ?_
                                            refine v_iconst (v := 1) C dX7_isSign_104 (by decide) ?_
                                            cases hf
                                            exact kr _ _ dX7_isSign_105 (Or.inr rfl) hC
                                          · have hf := im hf c21
                                            by_cases c22 : l0 = 61
                                            · have hf := ip hf c22
                                              refine v_tableIn (off := 103) (tgt := 104) C dX7_isSign_1 (by rw [c22]; decide) (by rw [c22]; decide) (by rw [c22]; decide) (by decide) ?_
                                              refine v_iconst (v := 1) C dX7_isSign_104 (by decide) ?_
                                              cases hf
                                              exact kr _ _ dX7_isSign_105 (Or.inr rfl) hC
                                            · have hf := im hf c22
                                              refine v_tableOut (tgt := 106) C dX7_isSign_1 (tsw_out (by decide) (by decide) (fun k hk => match k, hk with | 0, _ => fun e => c1 (e.trans (by decide)) | 1, _ => fun e => c2 (e.trans (by decide)) | 2, _ => fun e => c3 (e.trans (by decide)) | 3, _ => fun e => c4 (e.trans (by decide)) | 4, _ => fun e => c5 (e.trans (by decide)) | 5, _ => fun e => c6 (e.trans (by decide)) | 6, _ => fun e => c7 (e.trans (by decide)) | 7, _ => fun e => c8 (e.trans (by decide)) | 8, _ => fun e => c9 (e.trans (by decide)) | 9, _ => fun e => c10 (e.trans (by decide)) | 10, _ => fun e => c11 (e.trans (by decide)) | 11, _ => fun e => c12 (e.trans (by decide)) | 12, _ => fun e => c13 (e.trans (by decide)) | 13, _ => fun e => c14 (e.trans (by decide)) | 14, _ => fun e => c15 (e.trans (by decide)) | 15, _ => fun e => c16 (e.trans (by decide)) | 16, _ => fun e => c17 (e.trans (by decide)) | 17, _ => fun e => c18 (e.trans (by decide)) | 18, _ => fun e => c19 (e.trans (by decide)) | 19, _ => fun e => c20 (e.trans (by decide)) | 20, _ => fun e => c21 (e.trans (by decide)) | 21, _ => fun e => c22 (e.trans (by decide)) | k + 22, hk => absurd hk (by simp only [show (Int.toNat (61 - 40 + 1)) = 22 from rfl]; omega))) (by decide) ?_
                                              refine v_iconst (v := 0) C dX7_isSign_106 (by decide) ?_
                                              cases hf
                                              exact kr _ _ dX7_isSign_107 (Or.inl rfl) hC
theorem sX7_isSign {l : Launch} {sh : Sh} {G : Hp} {l0 : Int32} {z : Int32} (hf : fX7_isSign l0 = some z) : MC l yX7_isSign cX7_isSign 1 (some .boolean) 1 0 0 sh sh G G (fun ad => [.int l0]) (fun _ => some (.int z)) := by
  refine MC_of rfl rfl (fun _ => Nat.le_of_ble_eq_true rfl) (fun E ad C hl hnm hC hQ => ?_)
  exact tX7_isSign C hC hf (fun pc lv hd hz hC => v_zret C hQ (fun _ _ => rfl) hC rfl hz hd)
def fX7_cutOne (sh : Sh) (G : Hp) (l0 : Nat) (l1 : Int32) : Option (Hp) := (ldA sh G l0 5 2).bind fun a1 => (aI sh G a1 (G.1 l0 6)).bind fun v2 => (fX7_isLetter v2).bind fun r3 => if r3 = 0 then (fX7_isDigit v2).bind fun r5 => if r5 = 0 then (ldA sh G l0 1 1).bind fun a7 => (fX7_isSign v2).bind fun r8 => if r8 = 0 then (asI sh G a7 l1 3).bind fun G10 => bd (sI G10 l0 6 ((G10.1 l0 6) + 1)) fun G11 => some G11 else (asI sh G a7 l1 v2).bind fun G12 => bd (sI G12 l0 6 ((G12.1 l0 6) + 1)) fun G13 => some G13 else (fX7_cutNumber sh G l0 l1).bind fun G15 => some G15 else (fX7_cutWord sh G l0 l1).bind fun G17 => some G17
set_option maxHeartbeats 4000000 in
theorem tX7_cutOne {E : EX} {ad : Nat → Nat} {sh : Sh} {G : Hp} {l0 : Nat} {l1 : Int32} {z : Hp} (C : Cx E RX7 cX7_cutOne 3 none 3 0 0) (hC : Cl sh G) (h_l0 : sh[l0]? = some (0, 7)) (hf : fX7_cutOne sh G l0 l1 = some z) (kr : RCv E cX7_cutOne ad sh z) : VV E 0 0 (wq (xT E) ad G sh) 0 [(0, .ref (ad l0)), (1, .int l1)] [] := by
  unfold fX7_cutOne at hf
  refine v_aload_n C 0 dX7_cutOne_0 rfl rfl ?_
  obtain ⟨a1, qa1, hf⟩ := bn hf
  refine v_getA C h_l0 fl_X7_25 qa1 dX7_cutOne_1 (fun h_a1 => ?_)
  refine v_aload_n C 0 dX7_cutOne_4 rfl rfl ?_
  refine v_getI C h_l0 fl_X7_52 dX7_cutOne_5 ?_
  obtain ⟨v2, qv2, hf⟩ := bn hf
  refine v_bald C h_a1 qv2 dX7_cutOne_8 ?_
  refine v_istore_n (lv2 := [(2, .int v2), (0, .ref (ad l0)), (1, .int l1)]) C dX7_cutOne_9 rfl (by decide) rfl ?_
  refine v_iload_n C 0 dX7_cutOne_10 rfl rfl ?_
  obtain ⟨r3, qr3, hf⟩ := bn hf
  refine v_callSi (As := [.int v2]) (rest := []) C (sX7_isLetter  qr3) cs_X7_41 (by decide) hC rfl rfl rfl (Nat.le_of_ble_eq_true rfl) ⟨Nat.le_refl _, Nat.le_refl _⟩ dX7_cutOne_11 (fun hC => ?_)
  refine v_if_eq (tgt := 25) C dX7_cutOne_14 (by decide) (fun c4 => ?_) (fun c4 => ?_)
  · have hf := ip hf c4
    refine v_iload_n C 0 dX7_cutOne_25 rfl rfl ?_
    obtain ⟨r5, qr5, hf⟩ := bn hf
    refine v_callSi (As := [.int v2]) (rest := []) C (sX7_isDigit  qr5) cs_X7_65 (by decide) hC rfl rfl rfl (Nat.le_of_ble_eq_true rfl) ⟨Nat.le_refl _, Nat.le_refl _⟩ dX7_cutOne_26 (fun hC => ?_)
    refine v_if_eq (tgt := 40) C dX7_cutOne_29 (by decide) (fun c6 => ?_) (fun c6 => ?_)
    · have hf := ip hf c6
      refine v_aload_n C 1 dX7_cutOne_40 rfl rfl ?_
      obtain ⟨a7, qa7, hf⟩ := bn hf
      refine v_getA C h_l0 fl_X7_9 qa7 dX7_cutOne_41 (fun h_a7 => ?_)
      refine v_iload_n C 2 dX7_cutOne_44 rfl rfl ?_
      refine v_iload_n C 0 dX7_cutOne_45 rfl rfl ?_
      obtain ⟨r8, qr8, hf⟩ := bn hf
      refine v_callSi (As := [.int v2]) (rest := [.int l1, .ref (ad a7)]) C (sX7_isSign  qr8) cs_X7_71 (by decide) hC rfl rfl rfl (Nat.le_of_ble_eq_true rfl) ⟨Nat.le_refl _, Nat.le_refl _⟩ dX7_cutOne_46 (fun hC => ?_)
      refine v_if_eq (tgt := 56) C dX7_cutOne_49 (by decide) (fun c9 => ?_) (fun c9 => ?_)
      · have hf := ip hf c9
        refine v_iconst (v := 3) C dX7_cutOne_56 (by decide) ?_
        obtain ⟨G10, qG10, hf⟩ := bn hf
        refine v_iast C h_a7 qG10 hC dX7_cutOne_57 (fun hC => ?_)
        refine v_aload_n C 1 dX7_cutOne_58 rfl rfl ?_
        refine v_dup C dX7_cutOne_59 rfl ?_
        refine v_getI C h_l0 fl_X7_52 dX7_cutOne_60 ?_
        refine v_iconst (v := 1) C dX7_cutOne_63 (by decide) ?_
        refine v_iadd C dX7_cutOne_64 ?_
        refine v_putI C h_l0 fp_X7_52 dX7_cutOne_65 (fun G11 eG11 => ?_)
        have hf := bd_at hf eG11
        have hC : Cl sh G11 := by rw [eG11]; exact hC
        cases hf
        exact kr _ _ dX7_cutOne_68 hC
      · have hf := im hf c9
        refine v_iload_n C 0 dX7_cutOne_52 rfl rfl ?_
        refine v_goto (tgt := 57) C dX7_cutOne_53 (by decide) ?_
        obtain ⟨G12, qG12, hf⟩ := bn hf
        refine v_iast C h_a7 qG12 hC dX7_cutOne_57 (fun hC => ?_)
        refine v_aload_n C 1 dX7_cutOne_58 rfl rfl ?_
        refine v_dup C dX7_cutOne_59 rfl ?_
        refine v_getI C h_l0 fl_X7_52 dX7_cutOne_60 ?_
        refine v_iconst (v := 1) C dX7_cutOne_63 (by decide) ?_
        refine v_iadd C dX7_cutOne_64 ?_
        refine v_putI C h_l0 fp_X7_52 dX7_cutOne_65 (fun G13 eG13 => ?_)
        have hf := bd_at hf eG13
        have hC : Cl sh G13 := by rw [eG13]; exact hC
        cases hf
        exact kr _ _ dX7_cutOne_68 hC
    · have hf := im hf c6
      refine v_aload_n C 1 dX7_cutOne_32 rfl rfl ?_
      refine v_iload_n C 2 dX7_cutOne_33 rfl rfl ?_
      obtain ⟨G15, qr14, hf⟩ := bn hf
      refine v_callVv (As := [.int l1]) (rest := []) C (sX7_cutNumber h_l0 qr14) cs_X7_68 (by decide) h_l0 rfl hC rfl rfl rfl (Nat.le_of_ble_eq_true rfl) ⟨Nat.le_refl _, Nat.le_refl _⟩ dX7_cutOne_34 (fun hC => ?_)
      refine v_goto (tgt := 68) C dX7_cutOne_37 (by decide) ?_
      cases hf
      exact kr _ _ dX7_cutOne_68 hC
  · have hf := im hf c4
    refine v_aload_n C 1 dX7_cutOne_17 rfl rfl ?_
    refine v_iload_n C 2 dX7_cutOne_18 rfl rfl ?_
    obtain ⟨G17, qr16, hf⟩ := bn hf
    refine v_callVv (As := [.int l1]) (rest := []) C (sX7_cutWord h_l0 qr16) cs_X7_62 (by decide) h_l0 rfl hC rfl rfl rfl (Nat.le_of_ble_eq_true rfl) ⟨Nat.le_refl _, Nat.le_refl _⟩ dX7_cutOne_19 (fun hC => ?_)
    refine v_goto (tgt := 68) C dX7_cutOne_22 (by decide) ?_
    cases hf
    exact kr _ _ dX7_cutOne_68 hC
theorem sX7_cutOne {l : Launch} {sh : Sh} {G : Hp} {l0 : Nat} {l1 : Int32} {z : Hp} (h_l0 : sh[l0]? = some (0, 7)) (hf : fX7_cutOne sh G l0 l1 = some z) : MC l yX7_cutOne cX7_cutOne 3 none 3 0 0 sh sh G z (fun ad => [.ref (ad l0), .int l1]) (fun _ => none) := by
  refine MC_of rfl rfl (fun _ => Nat.le_of_ble_eq_true rfl) (fun E ad C hl hnm hC hQ => ?_)
  exact tX7_cutOne C hC h_l0 hf (fun pc lv hd hC => v_vret C hQ (fun _ _ => rfl) hC rfl hd)
def fX7_cut_S11 (sh : Sh) (l0 : Nat) (G : Hp) (l1 : Int32) : Option ((Hp × Int32) ⊕ ((Hp × Int32))) := if 400 < l1 then some (.inr (G, l1)) else if (G.1 l0 0) ≤ (G.1 l0 6) then some (.inr (G, l1)) else (ldA sh G l0 2 1).bind fun a3 => (asI sh G a3 l1 (G.1 l0 6)).bind fun G4 => (fX7_cutOne sh G4 l0 l1).bind fun G6 => (fX7_skipBlanks sh G6 l0).bind fun G8 => bd ((l1 + 1) : Int32) fun x9 => some (.inl (G8, x9))
set_option maxHeartbeats 4000000 in
theorem tX7_cut_S11 {E : EX} {ad : Nat → Nat} {sh : Sh} {G : Hp} {l0 : Nat} {l1 : Int32} {o : (Hp × Int32) ⊕ ((Hp × Int32))} (C : Cx E RX7 cX7_cut 2 none 4 0 0) (hC : Cl sh G) (h_l0 : sh[l0]? = some (0, 7)) (hf : fX7_cut_S11 sh l0 G l1 = some o) (kb : ∀ (G2 : Hp) (b_l1 : Int32), o = .inl (G2, b_l1) → Cl sh G2 → VV E 0 0 (wq (xT E) ad G2 sh) 11 [(0, .ref (ad l0)), (1, .int b_l1)] []) (kx54 : ∀ (G2 : Hp) (b_l1 : Int32), o = .inr (G2, b_l1) → Cl sh G2 → VV E 0 0 (wq (xT E) ad G2 sh) 54 [(0, .ref (ad l0)), (1, .int b_l1)] []) : VV E 0 0 (wq (xT E) ad G sh) 11 [(0, .ref (ad l0)), (1, .int l1)] [] := by
  unfold fX7_cut_S11 at hf
  refine v_iload_n C 1 dX7_cut_11 rfl rfl ?_
  refine v_sipush (v := 400) C dX7_cut_12 (by decide) ?_
  refine v_icmp_gt (tgt := 54) C dX7_cut_15 (by decide) (fun c1 => ?_) (fun c1 => ?_)
  · have hf := ip hf c1
    cases hf
    refine v_sub [0, 1] rfl ?_
    exact kx54 _ _ rfl hC
  · have hf := im hf c1
    refine v_aload_n C 0 dX7_cut_18 rfl rfl ?_
    refine v_getI C h_l0 fl_X7_52 dX7_cut_19 ?_
    refine v_aload_n C 0 dX7_cut_22 rfl rfl ?_
    refine v_getI C h_l0 fl_X7_49 dX7_cut_23 ?_
    refine v_icmp_ge (tgt := 54) C dX7_cut_26 (by decide) (fun c2 => ?_) (fun c2 => ?_)
    · have hf := ip hf c2
      cases hf
      refine v_sub [0, 1] rfl ?_
      exact kx54 _ _ rfl hC
    · have hf := im hf c2
      refine v_aload_n C 0 dX7_cut_29 rfl rfl ?_
      obtain ⟨a3, qa3, hf⟩ := bn hf
      refine v_getA C h_l0 fl_X7_15 qa3 dX7_cut_30 (fun h_a3 => ?_)
      refine v_iload_n C 1 dX7_cut_33 rfl rfl ?_
      refine v_aload_n C 0 dX7_cut_34 rfl rfl ?_
      refine v_getI C h_l0 fl_X7_52 dX7_cut_35 ?_
      obtain ⟨G4, qG4, hf⟩ := bn hf
      refine v_iast C h_a3 qG4 hC dX7_cut_38 (fun hC => ?_)
      refine v_aload_n C 0 dX7_cut_39 rfl rfl ?_
      refine v_iload_n C 1 dX7_cut_40 rfl rfl ?_
      obtain ⟨G6, qr5, hf⟩ := bn hf
      refine v_callVv (As := [.int l1]) (rest := []) C (sX7_cutOne h_l0 qr5) cs_X7_58 (by decide) h_l0 rfl hC rfl rfl rfl (Nat.le_of_ble_eq_true rfl) ⟨Nat.le_refl _, Nat.le_refl _⟩ dX7_cut_41 (fun hC => ?_)
      refine v_aload_n C 0 dX7_cut_44 rfl rfl ?_
      obtain ⟨G8, qr7, hf⟩ := bn hf
      refine v_callVv (As := []) (rest := []) C (sX7_skipBlanks h_l0 qr7) cs_X7_55 (by decide) h_l0 rfl hC rfl rfl rfl (Nat.le_of_ble_eq_true rfl) ⟨Nat.le_refl _, Nat.le_refl _⟩ dX7_cut_45 (fun hC => ?_)
      obtain ⟨x9, ex9⟩ : ∃ x : Int32, x = (l1 + 1) := ⟨_, rfl⟩
      have hf := bd_at hf ex9
      refine v_iinc (v := x9) (j := 1) (lv2 := [(1, .int x9), (0, .ref (ad l0))]) C dX7_cut_48 rfl (by rw [ex9]; rfl) (by decide) rfl ?_
      refine v_goto (tgt := 11) C dX7_cut_51 (by decide) ?_
      cases hf
      refine v_sub [1, 0] rfl ?_
      exact kb _ _ rfl hC
def fX7_cut_J54 (sh : Sh) (G : Hp) (l0 : Nat) (l1 : Int32) : Option (Hp) := (ldA sh G l0 1 1).bind fun a1 => (asI sh G a1 l1 0).bind fun G2 => (ldA sh G2 l0 2 1).bind fun a3 => (asI sh G2 a3 l1 (G2.1 l0 0)).bind fun G4 => some G4
set_option maxHeartbeats 4000000 in
theorem tX7_cut_J54 {E : EX} {ad : Nat → Nat} {sh : Sh} {G : Hp} {l0 : Nat} {l1 : Int32} {z : Hp} (C : Cx E RX7 cX7_cut 2 none 4 0 0) (hC : Cl sh G) (h_l0 : sh[l0]? = some (0, 7)) (hf : fX7_cut_J54 sh G l0 l1 = some z) (kr : RCv E cX7_cut ad sh z) : VV E 0 0 (wq (xT E) ad G sh) 54 [(0, .ref (ad l0)), (1, .int l1)] [] := by
  unfold fX7_cut_J54 at hf
  refine v_aload_n C 0 dX7_cut_54 rfl rfl ?_
  obtain ⟨a1, qa1, hf⟩ := bn hf
  refine v_getA C h_l0 fl_X7_9 qa1 dX7_cut_55 (fun h_a1 => ?_)
  refine v_iload_n C 1 dX7_cut_58 rfl rfl ?_
  refine v_iconst (v := 0) C dX7_cut_59 (by decide) ?_
  obtain ⟨G2, qG2, hf⟩ := bn hf
  refine v_iast C h_a1 qG2 hC dX7_cut_60 (fun hC => ?_)
  refine v_aload_n C 0 dX7_cut_61 rfl rfl ?_
  obtain ⟨a3, qa3, hf⟩ := bn hf
  refine v_getA C h_l0 fl_X7_15 qa3 dX7_cut_62 (fun h_a3 => ?_)
  refine v_iload_n C 1 dX7_cut_65 rfl rfl ?_
  refine v_aload_n C 0 dX7_cut_66 rfl rfl ?_
  refine v_getI C h_l0 fl_X7_49 dX7_cut_67 ?_
  obtain ⟨G4, qG4, hf⟩ := bn hf
  refine v_iast C h_a3 qG4 hC dX7_cut_70 (fun hC => ?_)
  cases hf
  exact kr _ _ dX7_cut_71 hC
def fX7_cut (sh : Sh) (G : Hp) (l0 : Nat) : Option (Hp) := bd (sI G l0 6 0) fun G1 => (fX7_skipBlanks sh G1 l0).bind fun G3 => (iter (fun s : Hp × Int32 => fX7_cut_S11 sh l0 s.1 s.2) fuel ((G3, 0) : Hp × Int32)).bind (fun u7 => bd u7.1 fun G5 => bd u7.2 fun x6 => fX7_cut_J54 sh G5 l0 x6)
set_option maxHeartbeats 4000000 in
theorem tX7_cut {E : EX} {ad : Nat → Nat} {sh : Sh} {G : Hp} {l0 : Nat} {z : Hp} (C : Cx E RX7 cX7_cut 2 none 4 0 0) (hC : Cl sh G) (h_l0 : sh[l0]? = some (0, 7)) (hf : fX7_cut sh G l0 = some z) (kr : RCv E cX7_cut ad sh z) : VV E 0 0 (wq (xT E) ad G sh) 0 [(0, .ref (ad l0))] [] := by
  unfold fX7_cut at hf
  refine v_aload_n C 0 dX7_cut_0 rfl rfl ?_
  refine v_iconst (v := 0) C dX7_cut_1 (by decide) ?_
  refine v_putI C h_l0 fp_X7_52 dX7_cut_2 (fun G1 eG1 => ?_)
  have hf := bd_at hf eG1
  have hC : Cl sh G1 := by rw [eG1]; exact hC
  refine v_aload_n C 0 dX7_cut_5 rfl rfl ?_
  obtain ⟨G3, qr2, hf⟩ := bn hf
  refine v_callVv (As := []) (rest := []) C (sX7_skipBlanks h_l0 qr2) cs_X7_55 (by decide) h_l0 rfl hC rfl rfl rfl (Nat.le_of_ble_eq_true rfl) ⟨Nat.le_refl _, Nat.le_refl _⟩ dX7_cut_6 (fun hC => ?_)
  refine v_iconst (v := 0) C dX7_cut_9 (by decide) ?_
  refine v_istore_n (lv2 := [(1, .int 0), (0, .ref (ad l0))]) C dX7_cut_10 rfl (by decide) rfl ?_
  obtain ⟨r4, qr4, hf⟩ := bn hf
  refine v_sub [1, 0] rfl ?_
  refine iter_sound (P := (fun s : Hp × Int32 => Cl sh (s.1) → VV E 0 0 (wq (xT E) ad (s.1) sh) 11 [(0, .ref (ad l0)), (1, .int (s.2))] [])) (X := fun r => r = r4) (fun jsr4 jor4 hor4 jbr4 jxr4 hC => tX7_cut_S11 C hC h_l0 hor4 (fun _ _ e => jbr4 _ e) ?_) fuel _ r4 qr4 rfl hC
  · intro G5 x6 hu hC
    have e := jxr4 _ hu
    subst e
    have hf := bd_at hf (rfl : G5 = _)
    have hf := bd_at hf (rfl : x6 = _)
    refine v_sub [0, 1] rfl ?_
    exact tX7_cut_J54 C hC h_l0 hf kr
theorem sX7_cut {l : Launch} {sh : Sh} {G : Hp} {l0 : Nat} {z : Hp} (h_l0 : sh[l0]? = some (0, 7)) (hf : fX7_cut sh G l0 = some z) : MC l yX7_cut cX7_cut 2 none 4 0 0 sh sh G z (fun ad => [.ref (ad l0)]) (fun _ => none) := by
  refine MC_of rfl rfl (fun _ => Nat.le_of_ble_eq_true rfl) (fun E ad C hl hnm hC hQ => ?_)
  exact tX7_cut C hC h_l0 hf (fun pc lv hd hC => v_vret C hQ (fun _ _ => rfl) hC rfl hd)
def fX6_start (sh : Sh) (G : Hp) (l0 : Nat) : Option (Hp) := (ldO sh G l0 9 8).bind fun a1 => (fX8_clear sh G a1).bind fun G3 => (ldO sh G3 l0 0 7).bind fun a4 => (fX7_cut sh G3 a4).bind fun G6 => bd (sI G6 l0 2 0) fun G7 => bd (sI G7 l0 3 0) fun G8 => bd (sI G8 l0 12 0) fun G9 => bd (sI G9 l0 6 0) fun G10 => (ldO sh G10 l0 0 7).bind fun a11 => (ldA sh G10 a11 1 1).bind fun a12 => (aI sh G10 a12 0).bind fun v13 => bd (sI G10 l0 5 v13) fun G14 => some G14
set_option maxHeartbeats 4000000 in
theorem tX6_start {E : EX} {ad : Nat → Nat} {sh : Sh} {G : Hp} {l0 : Nat} {z : Hp} (C : Cx E RX6 cX6_start 1 none 5 0 0) (hC : Cl sh G) (h_l0 : sh[l0]? = some (0, 6)) (hf : fX6_start sh G l0 = some z) (kr : RCv E cX6_start ad sh z) : VV E 0 0 (wq (xT E) ad G sh) 0 [(0, .ref (ad l0))] [] := by
  unfold fX6_start at hf
  refine v_aload_n C 0 dX6_start_0 rfl rfl ?_
  obtain ⟨a1, qa1, hf⟩ := bn hf
  refine v_getO C h_l0 fl_X6_31 qa1 dX6_start_1 (fun h_a1 => ?_)
  obtain ⟨G3, qr2, hf⟩ := bn hf
  refine v_callVv (As := []) (rest := []) C (sX8_clear h_a1 qr2) cs_X6_42 (by decide) h_a1 rfl hC rfl rfl rfl (Nat.le_of_ble_eq_true rfl) ⟨Nat.le_refl _, Nat.le_refl _⟩ dX6_start_4 (fun hC => ?_)
  refine v_aload_n C 0 dX6_start_7 rfl rfl ?_
  obtain ⟨a4, qa4, hf⟩ := bn hf
  refine v_getO C h_l0 fl_X6_14 qa4 dX6_start_8 (fun h_a4 => ?_)
  obtain ⟨G6, qr5, hf⟩ := bn hf
  refine v_callVv (As := []) (rest := []) C (sX7_cut h_a4 qr5) cs_X6_45 (by decide) h_a4 rfl hC rfl rfl rfl (Nat.le_of_ble_eq_true rfl) ⟨Nat.le_refl _, Nat.le_refl _⟩ dX6_start_11 (fun hC => ?_)
  refine v_aload_n C 0 dX6_start_14 rfl rfl ?_
  refine v_iconst (v := 0) C dX6_start_15 (by decide) ?_
  refine v_putI C h_l0 fp_X6_48 dX6_start_16 (fun G7 eG7 => ?_)
  have hf := bd_at hf eG7
  have hC : Cl sh G7 := by rw [eG7]; exact hC
  refine v_aload_n C 0 dX6_start_19 rfl rfl ?_
  refine v_iconst (v := 0) C dX6_start_20 (by decide) ?_
  refine v_putI C h_l0 fp_X6_52 dX6_start_21 (fun G8 eG8 => ?_)
  have hf := bd_at hf eG8
  have hC : Cl sh G8 := by rw [eG8]; exact hC
  refine v_aload_n C 0 dX6_start_24 rfl rfl ?_
  refine v_iconst (v := 0) C dX6_start_25 (by decide) ?_
  refine v_putI C h_l0 fp_X6_55 dX6_start_26 (fun G9 eG9 => ?_)
  have hf := bd_at hf eG9
  have hC : Cl sh G9 := by rw [eG9]; exact hC
  refine v_aload_n C 0 dX6_start_29 rfl rfl ?_
  refine v_iconst (v := 0) C dX6_start_30 (by decide) ?_
  refine v_putI C h_l0 fp_X6_58 dX6_start_31 (fun G10 eG10 => ?_)
  have hf := bd_at hf eG10
  have hC : Cl sh G10 := by rw [eG10]; exact hC
  refine v_aload_n C 0 dX6_start_34 rfl rfl ?_
  refine v_aload_n C 0 dX6_start_35 rfl rfl ?_
  obtain ⟨a11, qa11, hf⟩ := bn hf
  refine v_getO C h_l0 fl_X6_14 qa11 dX6_start_36 (fun h_a11 => ?_)
  obtain ⟨a12, qa12, hf⟩ := bn hf
  refine v_getA C h_a11 fl_X6_61 qa12 dX6_start_39 (fun h_a12 => ?_)
  refine v_iconst (v := 0) C dX6_start_42 (by decide) ?_
  obtain ⟨v13, qv13, hf⟩ := bn hf
  refine v_iald C h_a12 qv13 dX6_start_43 ?_
  refine v_putI C h_l0 fp_X6_65 dX6_start_44 (fun G14 eG14 => ?_)
  have hf := bd_at hf eG14
  have hC : Cl sh G14 := by rw [eG14]; exact hC
  cases hf
  exact kr _ _ dX6_start_47 hC
theorem sX6_start {l : Launch} {sh : Sh} {G : Hp} {l0 : Nat} {z : Hp} (h_l0 : sh[l0]? = some (0, 6)) (hf : fX6_start sh G l0 = some z) : MC l yX6_start cX6_start 1 none 5 0 0 sh sh G z (fun ad => [.ref (ad l0)]) (fun _ => none) := by
  refine MC_of rfl rfl (fun _ => Nat.le_of_ble_eq_true rfl) (fun E ad C hl hnm hC hQ => ?_)
  exact tX6_start C hC h_l0 hf (fun pc lv hd hC => v_vret C hQ (fun _ _ => rfl) hC rfl hd)
def fX6_refuse (sh : Sh) (G : Hp) (l0 : Nat) (l1 : Int32) : Option (Int32 × Hp) := bd (sI G l0 2 l1) fun G1 => some (0, G1)
set_option maxHeartbeats 4000000 in
theorem tX6_refuse {E : EX} {ad : Nat → Nat} {sh : Sh} {G : Hp} {l0 : Nat} {l1 : Int32} {z : Int32 × Hp} (C : Cx E RX6 cX6_refuse 2 (some .boolean) 1 0 0) (hC : Cl sh G) (h_l0 : sh[l0]? = some (0, 6)) (hf : fX6_refuse sh G l0 l1 = some z) (kr : RCz E cX6_refuse ad sh (z.1) (z.2)) : VV E 0 0 (wq (xT E) ad G sh) 0 [(0, .ref (ad l0)), (1, .int l1)] [] := by
  unfold fX6_refuse at hf
  refine v_aload_n C 0 dX6_refuse_0 rfl rfl ?_
  refine v_iload_n C 1 dX6_refuse_1 rfl rfl ?_
  refine v_putI C h_l0 fp_X6_48 dX6_refuse_2 (fun G1 eG1 => ?_)
  have hf := bd_at hf eG1
  have hC : Cl sh G1 := by rw [eG1]; exact hC
  refine v_iconst (v := 0) C dX6_refuse_5 (by decide) ?_
  cases hf
  exact kr _ _ dX6_refuse_6 (Or.inl rfl) hC
theorem sX6_refuse {l : Launch} {sh : Sh} {G : Hp} {l0 : Nat} {l1 : Int32} {z : Int32 × Hp} (h_l0 : sh[l0]? = some (0, 6)) (hf : fX6_refuse sh G l0 l1 = some z) : MC l yX6_refuse cX6_refuse 2 (some .boolean) 1 0 0 sh sh G (z.2) (fun ad => [.ref (ad l0), .int l1]) (fun _ => some (.int z.1)) := by
  refine MC_of rfl rfl (fun _ => Nat.le_of_ble_eq_true rfl) (fun E ad C hl hnm hC hQ => ?_)
  exact tX6_refuse C hC h_l0 hf (fun pc lv hd hz hC => v_zret C hQ (fun _ _ => rfl) hC rfl hz hd)
def fX6_pass_J18 (sh : Sh) (G : Hp) (l0 : Nat) (l1 : Int32) : Option (Int32 × Hp) := if (G.1 l0 5) = l1 then bd (sI G l0 2 2) fun G2 => some (0, G2) else bd (sI G l0 2 1) fun G3 => some (0, G3)
set_option maxHeartbeats 4000000 in
theorem tX6_pass_J18 {E : EX} {ad : Nat → Nat} {sh : Sh} {G : Hp} {l0 : Nat} {l1 : Int32} {z : Int32 × Hp} (C : Cx E RX6 cX6_pass 2 (some .boolean) 1 0 0) (hC : Cl sh G) (h_l0 : sh[l0]? = some (0, 6)) (hf : fX6_pass_J18 sh G l0 l1 = some z) (kr : RCz E cX6_pass ad sh (z.1) (z.2)) : VV E 0 0 (wq (xT E) ad G sh) 18 [(0, .ref (ad l0)), (1, .int l1)] [] := by
  unfold fX6_pass_J18 at hf
  refine v_aload_n C 0 dX6_pass_18 rfl rfl ?_
  refine v_aload_n C 0 dX6_pass_19 rfl rfl ?_
  refine v_getI C h_l0 fl_X6_65 dX6_pass_20 ?_
  refine v_iload_n C 1 dX6_pass_23 rfl rfl ?_
  refine v_icmp_eq (tgt := 31) C dX6_pass_24 (by decide) (fun c1 => ?_) (fun c1 => ?_)
  · have hf := ip hf c1
    refine v_iconst (v := 2) C dX6_pass_31 (by decide) ?_
    refine v_putI C h_l0 fp_X6_48 dX6_pass_32 (fun G2 eG2 => ?_)
    have hf := bd_at hf eG2
    have hC : Cl sh G2 := by rw [eG2]; exact hC
    refine v_iconst (v := 0) C dX6_pass_35 (by decide) ?_
    cases hf
    exact kr _ _ dX6_pass_36 (Or.inl rfl) hC
  · have hf := im hf c1
    refine v_iconst (v := 1) C dX6_pass_27 (by decide) ?_
    refine v_goto (tgt := 32) C dX6_pass_28 (by decide) ?_
    refine v_putI C h_l0 fp_X6_48 dX6_pass_32 (fun G3 eG3 => ?_)
    have hf := bd_at hf eG3
    have hC : Cl sh G3 := by rw [eG3]; exact hC
    refine v_iconst (v := 0) C dX6_pass_35 (by decide) ?_
    cases hf
    exact kr _ _ dX6_pass_36 (Or.inl rfl) hC
def fX6_pass (sh : Sh) (G : Hp) (l0 : Nat) (l1 : Int32) : Option (Int32 × Hp) := if (G.1 l0 5) = l1 then if (G.1 l0 6) < 400 then bd (sI G l0 6 ((G.1 l0 6) + 1)) fun G3 => (ldO sh G3 l0 0 7).bind fun a4 => (ldA sh G3 a4 1 1).bind fun a5 => (aI sh G3 a5 (G3.1 l0 6)).bind fun v6 => bd (sI G3 l0 5 v6) fun G7 => some (1, G7) else fX6_pass_J18 sh G l0 l1 else fX6_pass_J18 sh G l0 l1
set_option maxHeartbeats 4000000 in
theorem tX6_pass {E : EX} {ad : Nat → Nat} {sh : Sh} {G : Hp} {l0 : Nat} {l1 : Int32} {z : Int32 × Hp} (C : Cx E RX6 cX6_pass 2 (some .boolean) 1 0 0) (hC : Cl sh G) (h_l0 : sh[l0]? = some (0, 6)) (hf : fX6_pass sh G l0 l1 = some z) (kr : RCz E cX6_pass ad sh (z.1) (z.2)) : VV E 0 0 (wq (xT E) ad G sh) 0 [(0, .ref (ad l0)), (1, .int l1)] [] := by
  unfold fX6_pass at hf
  refine v_aload_n C 0 dX6_pass_0 rfl rfl ?_
  refine v_getI C h_l0 fl_X6_65 dX6_pass_1 ?_
  refine v_iload_n C 1 dX6_pass_4 rfl rfl ?_
  refine v_icmp_ne (tgt := 18) C dX6_pass_5 (by decide) (fun c1 => ?_) (fun c1 => ?_)
  · have hf := im hf c1
    refine v_sub [0, 1] rfl ?_
    exact tX6_pass_J18 C hC h_l0 hf kr
  · have hf := ip hf c1
    refine v_aload_n C 0 dX6_pass_8 rfl rfl ?_
    refine v_getI C h_l0 fl_X6_58 dX6_pass_9 ?_
    refine v_sipush (v := 400) C dX6_pass_12 (by decide) ?_
    refine v_icmp_lt (tgt := 37) C dX6_pass_15 (by decide) (fun c2 => ?_) (fun c2 => ?_)
    · have hf := ip hf c2
      refine v_aload_n C 0 dX6_pass_37 rfl rfl ?_
      refine v_dup C dX6_pass_38 rfl ?_
      refine v_getI C h_l0 fl_X6_58 dX6_pass_39 ?_
      refine v_iconst (v := 1) C dX6_pass_42 (by decide) ?_
      refine v_iadd C dX6_pass_43 ?_
      refine v_putI C h_l0 fp_X6_58 dX6_pass_44 (fun G3 eG3 => ?_)
      have hf := bd_at hf eG3
      have hC : Cl sh G3 := by rw [eG3]; exact hC
      refine v_aload_n C 0 dX6_pass_47 rfl rfl ?_
      refine v_aload_n C 0 dX6_pass_48 rfl rfl ?_
      obtain ⟨a4, qa4, hf⟩ := bn hf
      refine v_getO C h_l0 fl_X6_14 qa4 dX6_pass_49 (fun h_a4 => ?_)
      obtain ⟨a5, qa5, hf⟩ := bn hf
      refine v_getA C h_a4 fl_X6_61 qa5 dX6_pass_52 (fun h_a5 => ?_)
      refine v_aload_n C 0 dX6_pass_55 rfl rfl ?_
      refine v_getI C h_l0 fl_X6_58 dX6_pass_56 ?_
      obtain ⟨v6, qv6, hf⟩ := bn hf
      refine v_iald C h_a5 qv6 dX6_pass_59 ?_
      refine v_putI C h_l0 fp_X6_65 dX6_pass_60 (fun G7 eG7 => ?_)
      have hf := bd_at hf eG7
      have hC : Cl sh G7 := by rw [eG7]; exact hC
      refine v_iconst (v := 1) C dX6_pass_63 (by decide) ?_
      cases hf
      exact kr _ _ dX6_pass_64 (Or.inr rfl) hC
    · have hf := im hf c2
      refine v_sub [0, 1] rfl ?_
      exact tX6_pass_J18 C hC h_l0 hf kr
theorem sX6_pass {l : Launch} {sh : Sh} {G : Hp} {l0 : Nat} {l1 : Int32} {z : Int32 × Hp} (h_l0 : sh[l0]? = some (0, 6)) (hf : fX6_pass sh G l0 l1 = some z) : MC l yX6_pass cX6_pass 2 (some .boolean) 1 0 0 sh sh G (z.2) (fun ad => [.ref (ad l0), .int l1]) (fun _ => some (.int z.1)) := by
  refine MC_of rfl rfl (fun _ => Nat.le_of_ble_eq_true rfl) (fun E ad C hl hnm hC hQ => ?_)
  exact tX6_pass C hC h_l0 hf (fun pc lv hd hz hC => v_zret C hQ (fun _ _ => rfl) hC rfl hz hd)
def fX6_valueHere (sh : Sh) (G : Hp) (l0 : Nat) : Option (Int64) := (ldO sh G l0 0 7).bind fun a1 => (ldA sh G a1 3 4).bind fun a2 => (aJ sh G a2 (G.1 l0 6)).bind fun v3 => some v3
set_option maxHeartbeats 4000000 in
theorem tX6_valueHere {E : EX} {ad : Nat → Nat} {sh : Sh} {G : Hp} {l0 : Nat} {z : Int64} (C : Cx E RX6 cX6_valueHere 1 (some .long) 1 0 0) (hC : Cl sh G) (h_l0 : sh[l0]? = some (0, 6)) (hf : fX6_valueHere sh G l0 = some z) (kr : RCl E cX6_valueHere ad sh z G) : VV E 0 0 (wq (xT E) ad G sh) 0 [(0, .ref (ad l0))] [] := by
  unfold fX6_valueHere at hf
  refine v_aload_n C 0 dX6_valueHere_0 rfl rfl ?_
  obtain ⟨a1, qa1, hf⟩ := bn hf
  refine v_getO C h_l0 fl_X6_14 qa1 dX6_valueHere_1 (fun h_a1 => ?_)
  obtain ⟨a2, qa2, hf⟩ := bn hf
  refine v_getA C h_a1 fl_X6_110 qa2 dX6_valueHere_4 (fun h_a2 => ?_)
  refine v_aload_n C 0 dX6_valueHere_7 rfl rfl ?_
  refine v_getI C h_l0 fl_X6_58 dX6_valueHere_8 ?_
  obtain ⟨v3, qv3, hf⟩ := bn hf
  refine v_lald C h_a2 qv3 dX6_valueHere_11 ?_
  cases hf
  exact kr _ _ dX6_valueHere_12 hC
theorem sX6_valueHere {l : Launch} {sh : Sh} {G : Hp} {l0 : Nat} {z : Int64} (h_l0 : sh[l0]? = some (0, 6)) (hf : fX6_valueHere sh G l0 = some z) : MC l yX6_valueHere cX6_valueHere 1 (some .long) 1 0 0 sh sh G G (fun ad => [.ref (ad l0)]) (fun _ => some (.long z)) := by
  refine MC_of rfl rfl (fun _ => Nat.le_of_ble_eq_true rfl) (fun E ad C hl hnm hC hQ => ?_)
  exact tX6_valueHere C hC h_l0 hf (fun pc lv hd hC => v_lret C hQ (fun _ _ => rfl) hC rfl hd)
def fX6_note (sh : Sh) (G : Hp) (l0 : Nat) (l1 : Int32) : Option (Hp) := if (G.1 l0 3) = 0 then bd (sI G l0 3 l1) fun G2 => (ldO sh G2 l0 0 7).bind fun a3 => (ldA sh G2 a3 2 1).bind fun a4 => (aI sh G2 a4 (G2.1 l0 6)).bind fun v5 => bd (sI G2 l0 4 v5) fun G6 => some G6 else some G
set_option maxHeartbeats 4000000 in
theorem tX6_note {E : EX} {ad : Nat → Nat} {sh : Sh} {G : Hp} {l0 : Nat} {l1 : Int32} {z : Hp} (C : Cx E RX6 cX6_note 2 none 1 0 0) (hC : Cl sh G) (h_l0 : sh[l0]? = some (0, 6)) (hf : fX6_note sh G l0 l1 = some z) (kr : RCv E cX6_note ad sh z) : VV E 0 0 (wq (xT E) ad G sh) 0 [(0, .ref (ad l0)), (1, .int l1)] [] := by
  unfold fX6_note at hf
  refine v_aload_n C 0 dX6_note_0 rfl rfl ?_
  refine v_getI C h_l0 fl_X6_52 dX6_note_1 ?_
  refine v_if_ne (tgt := 28) C dX6_note_4 (by decide) (fun c1 => ?_) (fun c1 => ?_)
  · have hf := im hf c1
    cases hf
    exact kr _ _ dX6_note_28 hC
  · have hf := ip hf c1
    refine v_aload_n C 0 dX6_note_7 rfl rfl ?_
    refine v_iload_n C 1 dX6_note_8 rfl rfl ?_
    refine v_putI C h_l0 fp_X6_52 dX6_note_9 (fun G2 eG2 => ?_)
    have hf := bd_at hf eG2
    have hC : Cl sh G2 := by rw [eG2]; exact hC
    refine v_aload_n C 0 dX6_note_12 rfl rfl ?_
    refine v_aload_n C 0 dX6_note_13 rfl rfl ?_
    obtain ⟨a3, qa3, hf⟩ := bn hf
    refine v_getO C h_l0 fl_X6_14 qa3 dX6_note_14 (fun h_a3 => ?_)
    obtain ⟨a4, qa4, hf⟩ := bn hf
    refine v_getA C h_a3 fl_X6_104 qa4 dX6_note_17 (fun h_a4 => ?_)
    refine v_aload_n C 0 dX6_note_20 rfl rfl ?_
    refine v_getI C h_l0 fl_X6_58 dX6_note_21 ?_
    obtain ⟨v5, qv5, hf⟩ := bn hf
    refine v_iald C h_a4 qv5 dX6_note_24 ?_
    refine v_putI C h_l0 fp_X6_101 dX6_note_25 (fun G6 eG6 => ?_)
    have hf := bd_at hf eG6
    have hC : Cl sh G6 := by rw [eG6]; exact hC
    cases hf
    exact kr _ _ dX6_note_28 hC
theorem sX6_note {l : Launch} {sh : Sh} {G : Hp} {l0 : Nat} {l1 : Int32} {z : Hp} (h_l0 : sh[l0]? = some (0, 6)) (hf : fX6_note sh G l0 l1 = some z) : MC l yX6_note cX6_note 2 none 1 0 0 sh sh G z (fun ad => [.ref (ad l0), .int l1]) (fun _ => none) := by
  refine MC_of rfl rfl (fun _ => Nat.le_of_ble_eq_true rfl) (fun E ad C hl hnm hC hQ => ?_)
  exact tX6_note C hC h_l0 hf (fun pc lv hd hC => v_vret C hQ (fun _ _ => rfl) hC rfl hd)
def fX6_readNewName_S15 (sh : Sh) (l0 : Nat) (l1 : Int64) (G : Hp) (l3 : Int32) : Option ((Hp × Int32) ⊕ ((Hp))) := if (G.1 l0 12) ≤ l3 then some (.inr G) else (ldA sh G l0 11 4).bind fun a2 => (aJ sh G a2 l3).bind fun v3 => if (lg_cmp v3 l1) = 0 then (fX6_note sh G l0 3).bind fun G7 => bd ((l3 + 1) : Int32) fun x8 => some (.inl (G7, x8)) else bd ((l3 + 1) : Int32) fun x5 => some (.inl (G, x5))
set_option maxHeartbeats 4000000 in
theorem tX6_readNewName_S15 {E : EX} {ad : Nat → Nat} {sh : Sh} {G : Hp} {l0 : Nat} {l1 : Int64} {l3 : Int32} {o : (Hp × Int32) ⊕ ((Hp))} (C : Cx E RX6 cX6_readNewName 4 (some .boolean) 2 0 0) (hC : Cl sh G) (h_l0 : sh[l0]? = some (0, 6)) (hf : fX6_readNewName_S15 sh l0 l1 G l3 = some o) (kb : ∀ (G2 : Hp) (b_l3 : Int32), o = .inl (G2, b_l3) → Cl sh G2 → VV E 0 0 (wq (xT E) ad G2 sh) 15 [(0, .ref (ad l0)), (1, .long l1), (3, .int b_l3)] []) (kx45 : ∀ (G2 : Hp), o = .inr G2 → Cl sh G2 → VV E 0 0 (wq (xT E) ad G2 sh) 45 [(0, .ref (ad l0)), (1, .long l1)] []) : VV E 0 0 (wq (xT E) ad G sh) 15 [(0, .ref (ad l0)), (1, .long l1), (3, .int l3)] [] := by
  unfold fX6_readNewName_S15 at hf
  refine v_iload_n C 2 dX6_readNewName_15 rfl rfl ?_
  refine v_aload_n C 0 dX6_readNewName_16 rfl rfl ?_
  refine v_getI C h_l0 fl_X6_55 dX6_readNewName_17 ?_
  refine v_icmp_ge (tgt := 45) C dX6_readNewName_20 (by decide) (fun c1 => ?_) (fun c1 => ?_)
  · have hf := ip hf c1
    cases hf
    refine v_sub [0, 1] rfl ?_
    exact kx45 _ rfl hC
  · have hf := im hf c1
    refine v_aload_n C 0 dX6_readNewName_23 rfl rfl ?_
    obtain ⟨a2, qa2, hf⟩ := bn hf
    refine v_getA C h_l0 fl_X6_18 qa2 dX6_readNewName_24 (fun h_a2 => ?_)
    refine v_iload_n C 2 dX6_readNewName_27 rfl rfl ?_
    obtain ⟨v3, qv3, hf⟩ := bn hf
    refine v_lald C h_a2 qv3 dX6_readNewName_28 ?_
    refine v_lload_n C 1 dX6_readNewName_29 rfl rfl ?_
    refine v_lcmp C dX6_readNewName_30 ?_
    refine v_if_ne (tgt := 39) C dX6_readNewName_31 (by decide) (fun c4 => ?_) (fun c4 => ?_)
    · have hf := im hf c4
      obtain ⟨x5, ex5⟩ : ∃ x : Int32, x = (l3 + 1) := ⟨_, rfl⟩
      have hf := bd_at hf ex5
      refine v_iinc (v := x5) (j := 2) (lv2 := [(3, .int x5), (0, .ref (ad l0)), (1, .long l1)]) C dX6_readNewName_39 rfl (by rw [ex5]; rfl) (by decide) rfl ?_
      refine v_goto (tgt := 15) C dX6_readNewName_42 (by decide) ?_
      cases hf
      refine v_sub [1, 2, 0] rfl ?_
      exact kb _ _ rfl hC
    · have hf := ip hf c4
      refine v_aload_n C 0 dX6_readNewName_34 rfl rfl ?_
      refine v_iconst (v := 3) C dX6_readNewName_35 (by decide) ?_
      obtain ⟨G7, qr6, hf⟩ := bn hf
      refine v_callVv (As := [.int 3]) (rest := []) C (sX6_note h_l0 qr6) cs_X6_190 (by decide) h_l0 rfl hC rfl rfl rfl (Nat.le_of_ble_eq_true rfl) ⟨Nat.le_refl _, Nat.le_refl _⟩ dX6_readNewName_36 (fun hC => ?_)
      obtain ⟨x8, ex8⟩ : ∃ x : Int32, x = (l3 + 1) := ⟨_, rfl⟩
      have hf := bd_at hf ex8
      refine v_iinc (v := x8) (j := 2) (lv2 := [(3, .int x8), (0, .ref (ad l0)), (1, .long l1)]) C dX6_readNewName_39 rfl (by rw [ex8]; rfl) (by decide) rfl ?_
      refine v_goto (tgt := 15) C dX6_readNewName_42 (by decide) ?_
      cases hf
      refine v_sub [1, 2, 0] rfl ?_
      exact kb _ _ rfl hC
def fX6_readNewName (sh : Sh) (G : Hp) (l0 : Nat) : Option (Int32 × Hp) := (fX6_valueHere sh G l0).bind fun r1 => if (G.1 l0 5) = 1 then (iter (fun s : Hp × Int32 => fX6_readNewName_S15 sh l0 r1 s.1 s.2) fuel ((G, 0) : Hp × Int32)).bind (fun u19 => bd u19 fun G7 => (ldA sh G7 l0 11 4).bind fun a8 => if (nI (ln sh a8)) ≤ (G7.1 l0 12) then bp (fX6_pass sh G7 l0 1) fun r10 G11 => if ¬ (r10 = 0 ∨ r10 = 1) then none else some (r10, G11) else (ldA sh G7 l0 11 4).bind fun a13 => (asJ sh G7 a13 (G7.1 l0 12) r1).bind fun G14 => bd (sI G14 l0 12 ((G14.1 l0 12) + 1)) fun G15 => bp (fX6_pass sh G15 l0 1) fun r16 G17 => if ¬ (r16 = 0 ∨ r16 = 1) then none else some (r16, G17)) else bp (fX6_pass sh G l0 1) fun r3 G4 => if ¬ (r3 = 0 ∨ r3 = 1) then none else some (r3, G4)
set_option maxHeartbeats 4000000 in
theorem tX6_readNewName {E : EX} {ad : Nat → Nat} {sh : Sh} {G : Hp} {l0 : Nat} {z : Int32 × Hp} (C : Cx E RX6 cX6_readNewName 4 (some .boolean) 2 0 0) (hC : Cl sh G) (h_l0 : sh[l0]? = some (0, 6)) (hf : fX6_readNewName sh G l0 = some z) (kr : RCz E cX6_readNewName ad sh (z.1) (z.2)) : VV E 0 0 (wq (xT E) ad G sh) 0 [(0, .ref (ad l0))] [] := by
  unfold fX6_readNewName at hf
  refine v_aload_n C 0 dX6_readNewName_0 rfl rfl ?_
  obtain ⟨r1, qr1, hf⟩ := bn hf
  refine v_callVl (As := []) (rest := []) C (sX6_valueHere h_l0 qr1) cs_X6_119 (by decide) h_l0 rfl hC rfl rfl rfl (Nat.le_of_ble_eq_true rfl) ⟨Nat.le_refl _, Nat.le_refl _⟩ dX6_readNewName_1 (fun hC => ?_)
  refine v_lstore_n (lv2 := [(1, .long r1), (0, .ref (ad l0))]) C dX6_readNewName_4 rfl (by decide) rfl ?_
  refine v_aload_n C 1 dX6_readNewName_5 rfl rfl ?_
  refine v_getI C h_l0 fl_X6_65 dX6_readNewName_6 ?_
  refine v_iconst (v := 1) C dX6_readNewName_9 (by decide) ?_
  refine v_icmp_ne (tgt := 77) C dX6_readNewName_10 (by decide) (fun c2 => ?_) (fun c2 => ?_)
  · have hf := im hf c2
    refine v_aload_n C 1 dX6_readNewName_77 rfl rfl ?_
    refine v_iconst (v := 1) C dX6_readNewName_78 (by decide) ?_
    obtain ⟨r3, G4, qr3, hf⟩ := bpn hf
    refine v_callVi (As := [.int 1]) (rest := []) C (sX6_pass h_l0 qr3) cs_X6_116 (by decide) h_l0 rfl hC rfl rfl rfl (Nat.le_of_ble_eq_true rfl) ⟨Nat.le_refl _, Nat.le_refl _⟩ dX6_readNewName_79 (fun hC => ?_)
    obtain ⟨hz5, hf⟩ := iz hf
    cases hf
    exact kr _ _ dX6_readNewName_82 (Classical.not_not.mp hz5) hC
  · have hf := ip hf c2
    refine v_iconst (v := 0) C dX6_readNewName_13 (by decide) ?_
    refine v_istore_n (lv2 := [(3, .int 0), (1, .long r1), (0, .ref (ad l0))]) C dX6_readNewName_14 rfl (by decide) rfl ?_
    obtain ⟨r6, qr6, hf⟩ := bn hf
    refine v_sub [2, 1, 0] rfl ?_
    refine iter_sound (P := (fun s : Hp × Int32 => Cl sh (s.1) → VV E 0 0 (wq (xT E) ad (s.1) sh) 15 [(0, .ref (ad l0)), (1, .long (r1)), (3, .int (s.2))] [])) (X := fun r => r = r6) (fun jsr6 jor6 hor6 jbr6 jxr6 hC => tX6_readNewName_S15 C hC h_l0 hor6 (fun _ _ e => jbr6 _ e) ?_) fuel _ r6 qr6 rfl hC
    · intro G7 hu hC
      have e := jxr6 _ hu
      subst e
      have hf := bd_at hf (rfl : G7 = _)
      refine v_aload_n C 0 dX6_readNewName_45 rfl rfl ?_
      refine v_getI C h_l0 fl_X6_55 dX6_readNewName_46 ?_
      refine v_aload_n C 0 dX6_readNewName_49 rfl rfl ?_
      obtain ⟨a8, qa8, hf⟩ := bn hf
      refine v_getA C h_l0 fl_X6_18 qa8 dX6_readNewName_50 (fun h_a8 => ?_)
      refine v_alen C h_a8 (by decide) dX6_readNewName_53 ?_
      refine v_icmp_ge (tgt := 77) C dX6_readNewName_54 (by decide) (fun c9 => ?_) (fun c9 => ?_)
      · have hf := ip hf c9
        refine v_aload_n C 0 dX6_readNewName_77 rfl rfl ?_
        refine v_iconst (v := 1) C dX6_readNewName_78 (by decide) ?_
        obtain ⟨r10, G11, qr10, hf⟩ := bpn hf
        refine v_callVi (As := [.int 1]) (rest := []) C (sX6_pass h_l0 qr10) cs_X6_116 (by decide) h_l0 rfl hC rfl rfl rfl (Nat.le_of_ble_eq_true rfl) ⟨Nat.le_refl _, Nat.le_refl _⟩ dX6_readNewName_79 (fun hC => ?_)
        obtain ⟨hz12, hf⟩ := iz hf
        cases hf
        exact kr _ _ dX6_readNewName_82 (Classical.not_not.mp hz12) hC
      · have hf := im hf c9
        refine v_aload_n C 0 dX6_readNewName_57 rfl rfl ?_
        obtain ⟨a13, qa13, hf⟩ := bn hf
        refine v_getA C h_l0 fl_X6_18 qa13 dX6_readNewName_58 (fun h_a13 => ?_)
        refine v_aload_n C 0 dX6_readNewName_61 rfl rfl ?_
        refine v_getI C h_l0 fl_X6_55 dX6_readNewName_62 ?_
        refine v_lload_n C 1 dX6_readNewName_65 rfl rfl ?_
        obtain ⟨G14, qG14, hf⟩ := bn hf
        refine v_last C h_a13 qG14 hC dX6_readNewName_66 (fun hC => ?_)
        refine v_aload_n C 0 dX6_readNewName_67 rfl rfl ?_
        refine v_dup C dX6_readNewName_68 rfl ?_
        refine v_getI C h_l0 fl_X6_55 dX6_readNewName_69 ?_
        refine v_iconst (v := 1) C dX6_readNewName_72 (by decide) ?_
        refine v_iadd C dX6_readNewName_73 ?_
        refine v_putI C h_l0 fp_X6_55 dX6_readNewName_74 (fun G15 eG15 => ?_)
        have hf := bd_at hf eG15
        have hC : Cl sh G15 := by rw [eG15]; exact hC
        refine v_aload_n C 0 dX6_readNewName_77 rfl rfl ?_
        refine v_iconst (v := 1) C dX6_readNewName_78 (by decide) ?_
        obtain ⟨r16, G17, qr16, hf⟩ := bpn hf
        refine v_callVi (As := [.int 1]) (rest := []) C (sX6_pass h_l0 qr16) cs_X6_116 (by decide) h_l0 rfl hC rfl rfl rfl (Nat.le_of_ble_eq_true rfl) ⟨Nat.le_refl _, Nat.le_refl _⟩ dX6_readNewName_79 (fun hC => ?_)
        obtain ⟨hz18, hf⟩ := iz hf
        cases hf
        exact kr _ _ dX6_readNewName_82 (Classical.not_not.mp hz18) hC
theorem sX6_readNewName {l : Launch} {sh : Sh} {G : Hp} {l0 : Nat} {z : Int32 × Hp} (h_l0 : sh[l0]? = some (0, 6)) (hf : fX6_readNewName sh G l0 = some z) : MC l yX6_readNewName cX6_readNewName 4 (some .boolean) 2 0 0 sh sh G (z.2) (fun ad => [.ref (ad l0)]) (fun _ => some (.int z.1)) := by
  refine MC_of rfl rfl (fun _ => Nat.le_of_ble_eq_true rfl) (fun E ad C hl hnm hC hQ => ?_)
  exact tX6_readNewName C hC h_l0 hf (fun pc lv hd hz hC => v_zret C hQ (fun _ _ => rfl) hC rfl hz hd)
def fX6_readTrait (sh : Sh) (G : Hp) (l0 : Nat) : Option (Int32 × Hp) := (ldO sh G l0 9 8).bind fun a1 => if (G.1 a1 0) < 8 then bp (fX6_pass sh G l0 256) fun r3 G4 => if r3 = 0 then some (0, G4) else (fX6_valueHere sh G4 l0).bind fun r6 => bp (fX6_readNewName sh G4 l0) fun r7 G8 => if r7 = 0 then some (0, G8) else (ldA sh G8 l0 13 4).bind fun a10 => (ldO sh G8 l0 9 8).bind fun a11 => (asJ sh G8 a10 (G8.1 a11 0) r6).bind fun G12 => (ldO sh G12 l0 9 8).bind fun a13 => bd (sI G12 a13 0 ((G12.1 a13 0) + 1)) fun G14 => bp (fX6_pass sh G14 l0 59) fun r15 G16 => if ¬ (r15 = 0 ∨ r15 = 1) then none else some (r15, G16) else bp (fX6_refuse sh G l0 2) fun r18 G19 => if ¬ (r18 = 0 ∨ r18 = 1) then none else some (r18, G19)
set_option maxHeartbeats 4000000 in
theorem tX6_readTrait {E : EX} {ad : Nat → Nat} {sh : Sh} {G : Hp} {l0 : Nat} {z : Int32 × Hp} (C : Cx E RX6 cX6_readTrait 3 (some .boolean) 3 0 0) (hC : Cl sh G) (h_l0 : sh[l0]? = some (0, 6)) (hf : fX6_readTrait sh G l0 = some z) (kr : RCz E cX6_readTrait ad sh (z.1) (z.2)) : VV E 0 0 (wq (xT E) ad G sh) 0 [(0, .ref (ad l0))] [] := by
  unfold fX6_readTrait at hf
  refine v_aload_n C 0 dX6_readTrait_0 rfl rfl ?_
  obtain ⟨a1, qa1, hf⟩ := bn hf
  refine v_getO C h_l0 fl_X6_31 qa1 dX6_readTrait_1 (fun h_a1 => ?_)
  refine v_getI C h_a1 fl_X6_113 dX6_readTrait_4 ?_
  refine v_bipush (v := 8) C dX6_readTrait_7 (by decide) ?_
  refine v_icmp_lt (tgt := 18) C dX6_readTrait_9 (by decide) (fun c2 => ?_) (fun c2 => ?_)
  · have hf := ip hf c2
    refine v_aload_n C 0 dX6_readTrait_18 rfl rfl ?_
    refine v_sipush (v := 256) C dX6_readTrait_19 (by decide) ?_
    obtain ⟨r3, G4, qr3, hf⟩ := bpn hf
    refine v_callVi (As := [.int 256]) (rest := []) C (sX6_pass h_l0 qr3) cs_X6_116 (by decide) h_l0 rfl hC rfl rfl rfl (Nat.le_of_ble_eq_true rfl) ⟨Nat.le_refl _, Nat.le_refl _⟩ dX6_readTrait_22 (fun hC => ?_)
    refine v_if_ne (tgt := 30) C dX6_readTrait_25 (by decide) (fun c5 => ?_) (fun c5 => ?_)
    · have hf := im hf c5
      refine v_aload_n C 0 dX6_readTrait_30 rfl rfl ?_
      obtain ⟨r6, qr6, hf⟩ := bn hf
      refine v_callVl (As := []) (rest := []) C (sX6_valueHere h_l0 qr6) cs_X6_119 (by decide) h_l0 rfl hC rfl rfl rfl (Nat.le_of_ble_eq_true rfl) ⟨Nat.le_refl _, Nat.le_refl _⟩ dX6_readTrait_31 (fun hC => ?_)
      refine v_lstore_n (lv2 := [(1, .long r6), (0, .ref (ad l0))]) C dX6_readTrait_34 rfl (by decide) rfl ?_
      refine v_aload_n C 1 dX6_readTrait_35 rfl rfl ?_
      obtain ⟨r7, G8, qr7, hf⟩ := bpn hf
      refine v_callVi (As := []) (rest := []) C (sX6_readNewName h_l0 qr7) cs_X6_123 (by decide) h_l0 rfl hC rfl rfl rfl (Nat.le_of_ble_eq_true rfl) ⟨Nat.le_refl _, Nat.le_refl _⟩ dX6_readTrait_36 (fun hC => ?_)
      refine v_if_ne (tgt := 44) C dX6_readTrait_39 (by decide) (fun c9 => ?_) (fun c9 => ?_)
      · have hf := im hf c9
        refine v_aload_n C 1 dX6_readTrait_44 rfl rfl ?_
        obtain ⟨a10, qa10, hf⟩ := bn hf
        refine v_getA C h_l0 fl_X6_22 qa10 dX6_readTrait_45 (fun h_a10 => ?_)
        refine v_aload_n C 1 dX6_readTrait_48 rfl rfl ?_
        obtain ⟨a11, qa11, hf⟩ := bn hf
        refine v_getO C h_l0 fl_X6_31 qa11 dX6_readTrait_49 (fun h_a11 => ?_)
        refine v_getI C h_a11 fl_X6_113 dX6_readTrait_52 ?_
        refine v_lload_n C 0 dX6_readTrait_55 rfl rfl ?_
        obtain ⟨G12, qG12, hf⟩ := bn hf
        refine v_last C h_a10 qG12 hC dX6_readTrait_56 (fun hC => ?_)
        refine v_aload_n C 1 dX6_readTrait_57 rfl rfl ?_
        obtain ⟨a13, qa13, hf⟩ := bn hf
        refine v_getO C h_l0 fl_X6_31 qa13 dX6_readTrait_58 (fun h_a13 => ?_)
        refine v_dup C dX6_readTrait_61 rfl ?_
        refine v_getI C h_a13 fl_X6_113 dX6_readTrait_62 ?_
        refine v_iconst (v := 1) C dX6_readTrait_65 (by decide) ?_
        refine v_iadd C dX6_readTrait_66 ?_
        refine v_putI C h_a13 fp_X6_113 dX6_readTrait_67 (fun G14 eG14 => ?_)
        have hf := bd_at hf eG14
        have hC : Cl sh G14 := by rw [eG14]; exact hC
        refine v_aload_n C 1 dX6_readTrait_70 rfl rfl ?_
        refine v_bipush (v := 59) C dX6_readTrait_71 (by decide) ?_
        obtain ⟨r15, G16, qr15, hf⟩ := bpn hf
        refine v_callVi (As := [.int 59]) (rest := []) C (sX6_pass h_l0 qr15) cs_X6_116 (by decide) h_l0 rfl hC rfl rfl rfl (Nat.le_of_ble_eq_true rfl) ⟨Nat.le_refl _, Nat.le_refl _⟩ dX6_readTrait_73 (fun hC => ?_)
        obtain ⟨hz17, hf⟩ := iz hf
        cases hf
        exact kr _ _ dX6_readTrait_76 (Classical.not_not.mp hz17) hC
      · have hf := ip hf c9
        refine v_iconst (v := 0) C dX6_readTrait_42 (by decide) ?_
        cases hf
        exact kr _ _ dX6_readTrait_43 (Or.inl rfl) hC
    · have hf := ip hf c5
      refine v_iconst (v := 0) C dX6_readTrait_28 (by decide) ?_
      cases hf
      exact kr _ _ dX6_readTrait_29 (Or.inl rfl) hC
  · have hf := im hf c2
    refine v_aload_n C 0 dX6_readTrait_12 rfl rfl ?_
    refine v_iconst (v := 2) C dX6_readTrait_13 (by decide) ?_
    obtain ⟨r18, G19, qr18, hf⟩ := bpn hf
    refine v_callVi (As := [.int 2]) (rest := []) C (sX6_refuse h_l0 qr18) cs_X6_97 (by decide) h_l0 rfl hC rfl rfl rfl (Nat.le_of_ble_eq_true rfl) ⟨Nat.le_refl _, Nat.le_refl _⟩ dX6_readTrait_14 (fun hC => ?_)
    obtain ⟨hz20, hf⟩ := iz hf
    cases hf
    exact kr _ _ dX6_readTrait_17 (Classical.not_not.mp hz20) hC
theorem sX6_readTrait {l : Launch} {sh : Sh} {G : Hp} {l0 : Nat} {z : Int32 × Hp} (h_l0 : sh[l0]? = some (0, 6)) (hf : fX6_readTrait sh G l0 = some z) : MC l yX6_readTrait cX6_readTrait 3 (some .boolean) 3 0 0 sh sh G (z.2) (fun ad => [.ref (ad l0)]) (fun _ => some (.int z.1)) := by
  refine MC_of rfl rfl (fun _ => Nat.le_of_ble_eq_true rfl) (fun E ad C hl hnm hC hQ => ?_)
  exact tX6_readTrait C hC h_l0 hf (fun pc lv hd hz hC => v_zret C hQ (fun _ _ => rfl) hC rfl hz hd)
def fX6_readNumber (sh : Sh) (G : Hp) (l0 : Nat) (l1 : Int32) (l2 : Int32) : Option (Int32 × Hp) := (fX6_valueHere sh G l0).bind fun r1 => bd (sI G l0 7 (Int64.toInt32 r1)) fun G2 => if (G2.1 l0 5) = 2 then if (G2.1 l0 7) < l1 then (fX6_note sh G2 l0 5).bind fun G9 => bp (fX6_pass sh G9 l0 2) fun r10 G11 => if ¬ (r10 = 0 ∨ r10 = 1) then none else some (r10, G11) else if (G2.1 l0 7) ≤ l2 then bp (fX6_pass sh G2 l0 2) fun r14 G15 => if ¬ (r14 = 0 ∨ r14 = 1) then none else some (r14, G15) else (fX6_note sh G2 l0 5).bind fun G18 => bp (fX6_pass sh G18 l0 2) fun r19 G20 => if ¬ (r19 = 0 ∨ r19 = 1) then none else some (r19, G20) else bp (fX6_pass sh G2 l0 2) fun r4 G5 => if ¬ (r4 = 0 ∨ r4 = 1) then none else some (r4, G5)
set_option maxHeartbeats 4000000 in
theorem tX6_readNumber {E : EX} {ad : Nat → Nat} {sh : Sh} {G : Hp} {l0 : Nat} {l1 : Int32} {l2 : Int32} {z : Int32 × Hp} (C : Cx E RX6 cX6_readNumber 3 (some .boolean) 2 0 0) (hC : Cl sh G) (h_l0 : sh[l0]? = some (0, 6)) (hf : fX6_readNumber sh G l0 l1 l2 = some z) (kr : RCz E cX6_readNumber ad sh (z.1) (z.2)) : VV E 0 0 (wq (xT E) ad G sh) 0 [(0, .ref (ad l0)), (1, .int l1), (2, .int l2)] [] := by
  unfold fX6_readNumber at hf
  refine v_aload_n C 0 dX6_readNumber_0 rfl rfl ?_
  refine v_aload_n C 0 dX6_readNumber_1 rfl rfl ?_
  obtain ⟨r1, qr1, hf⟩ := bn hf
  refine v_callVl (As := []) (rest := [.ref (ad l0)]) C (sX6_valueHere h_l0 qr1) cs_X6_119 (by decide) h_l0 rfl hC rfl rfl rfl (Nat.le_of_ble_eq_true rfl) ⟨Nat.le_refl _, Nat.le_refl _⟩ dX6_readNumber_2 (fun hC => ?_)
  refine v_l2i C dX6_readNumber_5 ?_
  refine v_putI C h_l0 fp_X6_136 dX6_readNumber_6 (fun G2 eG2 => ?_)
  have hf := bd_at hf eG2
  have hC : Cl sh G2 := by rw [eG2]; exact hC
  refine v_aload_n C 0 dX6_readNumber_9 rfl rfl ?_
  refine v_getI C h_l0 fl_X6_65 dX6_readNumber_10 ?_
  refine v_iconst (v := 2) C dX6_readNumber_13 (by decide) ?_
  refine v_icmp_ne (tgt := 38) C dX6_readNumber_14 (by decide) (fun c3 => ?_) (fun c3 => ?_)
  · have hf := im hf c3
    refine v_aload_n C 0 dX6_readNumber_38 rfl rfl ?_
    refine v_iconst (v := 2) C dX6_readNumber_39 (by decide) ?_
    obtain ⟨r4, G5, qr4, hf⟩ := bpn hf
    refine v_callVi (As := [.int 2]) (rest := []) C (sX6_pass h_l0 qr4) cs_X6_116 (by decide) h_l0 rfl hC rfl rfl rfl (Nat.le_of_ble_eq_true rfl) ⟨Nat.le_refl _, Nat.le_refl _⟩ dX6_readNumber_40 (fun hC => ?_)
    obtain ⟨hz6, hf⟩ := iz hf
    cases hf
    exact kr _ _ dX6_readNumber_43 (Classical.not_not.mp hz6) hC
  · have hf := ip hf c3
    refine v_aload_n C 0 dX6_readNumber_17 rfl rfl ?_
    refine v_getI C h_l0 fl_X6_136 dX6_readNumber_18 ?_
    refine v_iload_n C 1 dX6_readNumber_21 rfl rfl ?_
    refine v_icmp_lt (tgt := 33) C dX6_readNumber_22 (by decide) (fun c7 => ?_) (fun c7 => ?_)
    · have hf := ip hf c7
      refine v_aload_n C 0 dX6_readNumber_33 rfl rfl ?_
      refine v_iconst (v := 5) C dX6_readNumber_34 (by decide) ?_
      obtain ⟨G9, qr8, hf⟩ := bn hf
      refine v_callVv (As := [.int 5]) (rest := []) C (sX6_note h_l0 qr8) cs_X6_190 (by decide) h_l0 rfl hC rfl rfl rfl (Nat.le_of_ble_eq_true rfl) ⟨Nat.le_refl _, Nat.le_refl _⟩ dX6_readNumber_35 (fun hC => ?_)
      refine v_aload_n C 0 dX6_readNumber_38 rfl rfl ?_
      refine v_iconst (v := 2) C dX6_readNumber_39 (by decide) ?_
      obtain ⟨r10, G11, qr10, hf⟩ := bpn hf
      refine v_callVi (As := [.int 2]) (rest := []) C (sX6_pass h_l0 qr10) cs_X6_116 (by decide) h_l0 rfl hC rfl rfl rfl (Nat.le_of_ble_eq_true rfl) ⟨Nat.le_refl _, Nat.le_refl _⟩ dX6_readNumber_40 (fun hC => ?_)
      obtain ⟨hz12, hf⟩ := iz hf
      cases hf
      exact kr _ _ dX6_readNumber_43 (Classical.not_not.mp hz12) hC
    · have hf := im hf c7
      refine v_aload_n C 0 dX6_readNumber_25 rfl rfl ?_
      refine v_getI C h_l0 fl_X6_136 dX6_readNumber_26 ?_
      refine v_iload_n C 2 dX6_readNumber_29 rfl rfl ?_
      refine v_icmp_le (tgt := 38) C dX6_readNumber_30 (by decide) (fun c13 => ?_) (fun c13 => ?_)
      · have hf := ip hf c13
        refine v_aload_n C 0 dX6_readNumber_38 rfl rfl ?_
        refine v_iconst (v := 2) C dX6_readNumber_39 (by decide) ?_
        obtain ⟨r14, G15, qr14, hf⟩ := bpn hf
        refine v_callVi (As := [.int 2]) (rest := []) C (sX6_pass h_l0 qr14) cs_X6_116 (by decide) h_l0 rfl hC rfl rfl rfl (Nat.le_of_ble_eq_true rfl) ⟨Nat.le_refl _, Nat.le_refl _⟩ dX6_readNumber_40 (fun hC => ?_)
        obtain ⟨hz16, hf⟩ := iz hf
        cases hf
        exact kr _ _ dX6_readNumber_43 (Classical.not_not.mp hz16) hC
      · have hf := im hf c13
        refine v_aload_n C 0 dX6_readNumber_33 rfl rfl ?_
        refine v_iconst (v := 5) C dX6_readNumber_34 (by decide) ?_
        obtain ⟨G18, qr17, hf⟩ := bn hf
        refine v_callVv (As := [.int 5]) (rest := []) C (sX6_note h_l0 qr17) cs_X6_190 (by decide) h_l0 rfl hC rfl rfl rfl (Nat.le_of_ble_eq_true rfl) ⟨Nat.le_refl _, Nat.le_refl _⟩ dX6_readNumber_35 (fun hC => ?_)
        refine v_aload_n C 0 dX6_readNumber_38 rfl rfl ?_
        refine v_iconst (v := 2) C dX6_readNumber_39 (by decide) ?_
        obtain ⟨r19, G20, qr19, hf⟩ := bpn hf
        refine v_callVi (As := [.int 2]) (rest := []) C (sX6_pass h_l0 qr19) cs_X6_116 (by decide) h_l0 rfl hC rfl rfl rfl (Nat.le_of_ble_eq_true rfl) ⟨Nat.le_refl _, Nat.le_refl _⟩ dX6_readNumber_40 (fun hC => ?_)
        obtain ⟨hz21, hf⟩ := iz hf
        cases hf
        exact kr _ _ dX6_readNumber_43 (Classical.not_not.mp hz21) hC
theorem sX6_readNumber {l : Launch} {sh : Sh} {G : Hp} {l0 : Nat} {l1 : Int32} {l2 : Int32} {z : Int32 × Hp} (h_l0 : sh[l0]? = some (0, 6)) (hf : fX6_readNumber sh G l0 l1 l2 = some z) : MC l yX6_readNumber cX6_readNumber 3 (some .boolean) 2 0 0 sh sh G (z.2) (fun ad => [.ref (ad l0), .int l1, .int l2]) (fun _ => some (.int z.1)) := by
  refine MC_of rfl rfl (fun _ => Nat.le_of_ble_eq_true rfl) (fun E ad C hl hnm hC hQ => ?_)
  exact tX6_readNumber C hC h_l0 hf (fun pc lv hd hz hC => v_zret C hQ (fun _ _ => rfl) hC rfl hz hd)
def fX6_readTraitName_S15 (sh : Sh) (l0 : Nat) (G : Hp) (l1 : Int32) : Option ((Hp × Int32) ⊕ ((Hp))) := if l1 < 0 then some (.inr G) else (ldA sh G l0 13 4).bind fun a2 => (aJ sh G a2 l1).bind fun v3 => (fX6_valueHere sh G l0).bind fun r4 => if (lg_cmp v3 r4) = 0 then bd (sI G l0 8 l1) fun G7 => bd ((l1 + (-1)) : Int32) fun x8 => some (.inl (G7, x8)) else bd ((l1 + (-1)) : Int32) fun x6 => some (.inl (G, x6))
set_option maxHeartbeats 4000000 in
theorem tX6_readTraitName_S15 {E : EX} {ad : Nat → Nat} {sh : Sh} {G : Hp} {l0 : Nat} {l1 : Int32} {o : (Hp × Int32) ⊕ ((Hp))} (C : Cx E RX6 cX6_readTraitName 2 (some .boolean) 2 0 0) (hC : Cl sh G) (h_l0 : sh[l0]? = some (0, 6)) (hf : fX6_readTraitName_S15 sh l0 G l1 = some o) (kb : ∀ (G2 : Hp) (b_l1 : Int32), o = .inl (G2, b_l1) → Cl sh G2 → VV E 0 0 (wq (xT E) ad G2 sh) 15 [(0, .ref (ad l0)), (1, .int b_l1)] []) (kx44 : ∀ (G2 : Hp), o = .inr G2 → Cl sh G2 → VV E 0 0 (wq (xT E) ad G2 sh) 44 [(0, .ref (ad l0))] []) : VV E 0 0 (wq (xT E) ad G sh) 15 [(0, .ref (ad l0)), (1, .int l1)] [] := by
  unfold fX6_readTraitName_S15 at hf
  refine v_iload_n C 1 dX6_readTraitName_15 rfl rfl ?_
  refine v_if_lt (tgt := 44) C dX6_readTraitName_16 (by decide) (fun c1 => ?_) (fun c1 => ?_)
  · have hf := ip hf c1
    cases hf
    refine v_sub [0] rfl ?_
    exact kx44 _ rfl hC
  · have hf := im hf c1
    refine v_aload_n C 0 dX6_readTraitName_19 rfl rfl ?_
    obtain ⟨a2, qa2, hf⟩ := bn hf
    refine v_getA C h_l0 fl_X6_22 qa2 dX6_readTraitName_20 (fun h_a2 => ?_)
    refine v_iload_n C 1 dX6_readTraitName_23 rfl rfl ?_
    obtain ⟨v3, qv3, hf⟩ := bn hf
    refine v_lald C h_a2 qv3 dX6_readTraitName_24 ?_
    refine v_aload_n C 0 dX6_readTraitName_25 rfl rfl ?_
    obtain ⟨r4, qr4, hf⟩ := bn hf
    refine v_callVl (As := []) (rest := [.long v3]) C (sX6_valueHere h_l0 qr4) cs_X6_119 (by decide) h_l0 rfl hC rfl rfl rfl (Nat.le_of_ble_eq_true rfl) ⟨Nat.le_refl _, Nat.le_refl _⟩ dX6_readTraitName_26 (fun hC => ?_)
    refine v_lcmp C dX6_readTraitName_29 ?_
    refine v_if_ne (tgt := 38) C dX6_readTraitName_30 (by decide) (fun c5 => ?_) (fun c5 => ?_)
    · have hf := im hf c5
      obtain ⟨x6, ex6⟩ : ∃ x : Int32, x = (l1 + (-1)) := ⟨_, rfl⟩
      have hf := bd_at hf ex6
      refine v_iinc (v := x6) (j := 1) (lv2 := [(1, .int x6), (0, .ref (ad l0))]) C dX6_readTraitName_38 rfl (by rw [ex6]; rfl) (by decide) rfl ?_
      refine v_goto (tgt := 15) C dX6_readTraitName_41 (by decide) ?_
      cases hf
      refine v_sub [1, 0] rfl ?_
      exact kb _ _ rfl hC
    · have hf := ip hf c5
      refine v_aload_n C 0 dX6_readTraitName_33 rfl rfl ?_
      refine v_iload_n C 1 dX6_readTraitName_34 rfl rfl ?_
      refine v_putI C h_l0 fp_X6_142 dX6_readTraitName_35 (fun G7 eG7 => ?_)
      have hf := bd_at hf eG7
      have hC : Cl sh G7 := by rw [eG7]; exact hC
      obtain ⟨x8, ex8⟩ : ∃ x : Int32, x = (l1 + (-1)) := ⟨_, rfl⟩
      have hf := bd_at hf ex8
      refine v_iinc (v := x8) (j := 1) (lv2 := [(1, .int x8), (0, .ref (ad l0))]) C dX6_readTraitName_38 rfl (by rw [ex8]; rfl) (by decide) rfl ?_
      refine v_goto (tgt := 15) C dX6_readTraitName_41 (by decide) ?_
      cases hf
      refine v_sub [1, 0] rfl ?_
      exact kb _ _ rfl hC
def fX6_readTraitName (sh : Sh) (G : Hp) (l0 : Nat) : Option (Int32 × Hp) := bd (sI G l0 8 (-1)) fun G1 => (ldO sh G1 l0 9 8).bind fun a2 => bd (((G1.1 a2 0) - 1) : Int32) fun x3 => (iter (fun s : Hp × Int32 => fX6_readTraitName_S15 sh l0 s.1 s.2) fuel ((G1, x3) : Hp × Int32)).bind (fun u20 => bd u20 fun G5 => if (G5.1 l0 8) = (-1) then bd (sI G5 l0 8 0) fun G10 => if (G10.1 l0 5) = 1 then (fX6_note sh G10 l0 4).bind fun G16 => bp (fX6_pass sh G16 l0 1) fun r17 G18 => if ¬ (r17 = 0 ∨ r17 = 1) then none else some (r17, G18) else bp (fX6_pass sh G10 l0 1) fun r12 G13 => if ¬ (r12 = 0 ∨ r12 = 1) then none else some (r12, G13) else bp (fX6_pass sh G5 l0 1) fun r7 G8 => if ¬ (r7 = 0 ∨ r7 = 1) then none else some (r7, G8))
set_option maxHeartbeats 4000000 in
theorem tX6_readTraitName {E : EX} {ad : Nat → Nat} {sh : Sh} {G : Hp} {l0 : Nat} {z : Int32 × Hp} (C : Cx E RX6 cX6_readTraitName 2 (some .boolean) 2 0 0) (hC : Cl sh G) (h_l0 : sh[l0]? = some (0, 6)) (hf : fX6_readTraitName sh G l0 = some z) (kr : RCz E cX6_readTraitName ad sh (z.1) (z.2)) : VV E 0 0 (wq (xT E) ad G sh) 0 [(0, .ref (ad l0))] [] := by
  unfold fX6_readTraitName at hf
  refine v_aload_n C 0 dX6_readTraitName_0 rfl rfl ?_
  refine v_iconst (v := (-1)) C dX6_readTraitName_1 (by decide) ?_
  refine v_putI C h_l0 fp_X6_142 dX6_readTraitName_2 (fun G1 eG1 => ?_)
  have hf := bd_at hf eG1
  have hC : Cl sh G1 := by rw [eG1]; exact hC
  refine v_aload_n C 0 dX6_readTraitName_5 rfl rfl ?_
  obtain ⟨a2, qa2, hf⟩ := bn hf
  refine v_getO C h_l0 fl_X6_31 qa2 dX6_readTraitName_6 (fun h_a2 => ?_)
  refine v_getI C h_a2 fl_X6_113 dX6_readTraitName_9 ?_
  refine v_iconst (v := 1) C dX6_readTraitName_12 (by decide) ?_
  refine v_isub C dX6_readTraitName_13 ?_
  refine v_topi (fun x3 ex3 => ?_)
  have hf := bd_at hf ex3
  refine v_istore_n (lv2 := [(1, .int x3), (0, .ref (ad l0))]) C dX6_readTraitName_14 rfl (by decide) rfl ?_
  obtain ⟨r4, qr4, hf⟩ := bn hf
  refine v_sub [1, 0] rfl ?_
  refine iter_sound (P := (fun s : Hp × Int32 => Cl sh (s.1) → VV E 0 0 (wq (xT E) ad (s.1) sh) 15 [(0, .ref (ad l0)), (1, .int (s.2))] [])) (X := fun r => r = r4) (fun jsr4 jor4 hor4 jbr4 jxr4 hC => tX6_readTraitName_S15 C hC h_l0 hor4 (fun _ _ e => jbr4 _ e) ?_) fuel _ r4 qr4 rfl hC
  · intro G5 hu hC
    have e := jxr4 _ hu
    subst e
    have hf := bd_at hf (rfl : G5 = _)
    refine v_aload_n C 0 dX6_readTraitName_44 rfl rfl ?_
    refine v_getI C h_l0 fl_X6_142 dX6_readTraitName_45 ?_
    refine v_iconst (v := (-1)) C dX6_readTraitName_48 (by decide) ?_
    refine v_icmp_ne (tgt := 70) C dX6_readTraitName_49 (by decide) (fun c6 => ?_) (fun c6 => ?_)
    · have hf := im hf c6
      refine v_aload_n C 0 dX6_readTraitName_70 rfl rfl ?_
      refine v_iconst (v := 1) C dX6_readTraitName_71 (by decide) ?_
      obtain ⟨r7, G8, qr7, hf⟩ := bpn hf
      refine v_callVi (As := [.int 1]) (rest := []) C (sX6_pass h_l0 qr7) cs_X6_116 (by decide) h_l0 rfl hC rfl rfl rfl (Nat.le_of_ble_eq_true rfl) ⟨Nat.le_refl _, Nat.le_refl _⟩ dX6_readTraitName_72 (fun hC => ?_)
      obtain ⟨hz9, hf⟩ := iz hf
      cases hf
      exact kr _ _ dX6_readTraitName_75 (Classical.not_not.mp hz9) hC
    · have hf := ip hf c6
      refine v_aload_n C 0 dX6_readTraitName_52 rfl rfl ?_
      refine v_iconst (v := 0) C dX6_readTraitName_53 (by decide) ?_
      refine v_putI C h_l0 fp_X6_142 dX6_readTraitName_54 (fun G10 eG10 => ?_)
      have hf := bd_at hf eG10
      have hC : Cl sh G10 := by rw [eG10]; exact hC
      refine v_aload_n C 0 dX6_readTraitName_57 rfl rfl ?_
      refine v_getI C h_l0 fl_X6_65 dX6_readTraitName_58 ?_
      refine v_iconst (v := 1) C dX6_readTraitName_61 (by decide) ?_
      refine v_icmp_ne (tgt := 70) C dX6_readTraitName_62 (by decide) (fun c11 => ?_) (fun c11 => ?_)
      · have hf := im hf c11
        refine v_aload_n C 0 dX6_readTraitName_70 rfl rfl ?_
        refine v_iconst (v := 1) C dX6_readTraitName_71 (by decide) ?_
        obtain ⟨r12, G13, qr12, hf⟩ := bpn hf
        refine v_callVi (As := [.int 1]) (rest := []) C (sX6_pass h_l0 qr12) cs_X6_116 (by decide) h_l0 rfl hC rfl rfl rfl (Nat.le_of_ble_eq_true rfl) ⟨Nat.le_refl _, Nat.le_refl _⟩ dX6_readTraitName_72 (fun hC => ?_)
        obtain ⟨hz14, hf⟩ := iz hf
        cases hf
        exact kr _ _ dX6_readTraitName_75 (Classical.not_not.mp hz14) hC
      · have hf := ip hf c11
        refine v_aload_n C 0 dX6_readTraitName_65 rfl rfl ?_
        refine v_iconst (v := 4) C dX6_readTraitName_66 (by decide) ?_
        obtain ⟨G16, qr15, hf⟩ := bn hf
        refine v_callVv (As := [.int 4]) (rest := []) C (sX6_note h_l0 qr15) cs_X6_190 (by decide) h_l0 rfl hC rfl rfl rfl (Nat.le_of_ble_eq_true rfl) ⟨Nat.le_refl _, Nat.le_refl _⟩ dX6_readTraitName_67 (fun hC => ?_)
        refine v_aload_n C 0 dX6_readTraitName_70 rfl rfl ?_
        refine v_iconst (v := 1) C dX6_readTraitName_71 (by decide) ?_
        obtain ⟨r17, G18, qr17, hf⟩ := bpn hf
        refine v_callVi (As := [.int 1]) (rest := []) C (sX6_pass h_l0 qr17) cs_X6_116 (by decide) h_l0 rfl hC rfl rfl rfl (Nat.le_of_ble_eq_true rfl) ⟨Nat.le_refl _, Nat.le_refl _⟩ dX6_readTraitName_72 (fun hC => ?_)
        obtain ⟨hz19, hf⟩ := iz hf
        cases hf
        exact kr _ _ dX6_readTraitName_75 (Classical.not_not.mp hz19) hC
theorem sX6_readTraitName {l : Launch} {sh : Sh} {G : Hp} {l0 : Nat} {z : Int32 × Hp} (h_l0 : sh[l0]? = some (0, 6)) (hf : fX6_readTraitName sh G l0 = some z) : MC l yX6_readTraitName cX6_readTraitName 2 (some .boolean) 2 0 0 sh sh G (z.2) (fun ad => [.ref (ad l0)]) (fun _ => some (.int z.1)) := by
  refine MC_of rfl rfl (fun _ => Nat.le_of_ble_eq_true rfl) (fun E ad C hl hnm hC hQ => ?_)
  exact tX6_readTraitName C hC h_l0 hf (fun pc lv hd hz hC => v_zret C hQ (fun _ _ => rfl) hC rfl hz hd)
