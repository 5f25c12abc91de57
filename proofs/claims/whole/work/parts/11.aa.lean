def fX8_hasBridge (sh : Sh) (G : Hp) (l0 : Nat) (l1 : Int32) : Option (Int32) := if l1 < 0 then some 0 else if (G.1 l0 3) ≤ l1 then some 0 else some 1
set_option maxHeartbeats 4000000 in
theorem tX8_hasBridge {E : EX} {ad : Nat → Nat} {sh : Sh} {G : Hp} {l0 : Nat} {l1 : Int32} {z : Int32} (C : Cx E RX8 cX8_hasBridge 2 (some .boolean) 1 0 0) (hC : Cl sh G) (h_l0 : sh[l0]? = some (0, 8)) (hf : fX8_hasBridge sh G l0 l1 = some z) (kr : RCz E cX8_hasBridge ad sh z G) : VV E 0 0 (wq (xT E) ad G sh) 0 [(0, .ref (ad l0)), (1, .int l1)] [] := by
  unfold fX8_hasBridge at hf
  refine v_iload_n C 1 dX8_hasBridge_0 rfl rfl ?_
  refine v_if_lt (tgt := 16) C dX8_hasBridge_1 (by decide) (fun c1 => ?_) (fun c1 => ?_)
  · have hf := ip hf c1
    refine v_iconst (v := 0) C dX8_hasBridge_16 (by decide) ?_
    cases hf
    exact kr _ _ dX8_hasBridge_17 (Or.inl rfl) hC
  · have hf := im hf c1
    refine v_iload_n C 1 dX8_hasBridge_4 rfl rfl ?_
    refine v_aload_n C 0 dX8_hasBridge_5 rfl rfl ?_
    refine v_getI C h_l0 fl_X8_63 dX8_hasBridge_6 ?_
    refine v_icmp_ge (tgt := 16) C dX8_hasBridge_9 (by decide) (fun c2 => ?_) (fun c2 => ?_)
    · have hf := ip hf c2
      refine v_iconst (v := 0) C dX8_hasBridge_16 (by decide) ?_
      cases hf
      exact kr _ _ dX8_hasBridge_17 (Or.inl rfl) hC
    · have hf := im hf c2
      refine v_iconst (v := 1) C dX8_hasBridge_12 (by decide) ?_
      refine v_goto (tgt := 17) C dX8_hasBridge_13 (by decide) ?_
      cases hf
      exact kr _ _ dX8_hasBridge_17 (Or.inr rfl) hC
theorem sX8_hasBridge {l : Launch} {sh : Sh} {G : Hp} {l0 : Nat} {l1 : Int32} {z : Int32} (h_l0 : sh[l0]? = some (0, 8)) (hf : fX8_hasBridge sh G l0 l1 = some z) : MC l yX8_hasBridge cX8_hasBridge 2 (some .boolean) 1 0 0 sh sh G G (fun ad => [.ref (ad l0), .int l1]) (fun _ => some (.int z)) := by
  refine MC_of rfl rfl (fun _ => Nat.le_of_ble_eq_true rfl) (fun E ad C hl hnm hC hQ => ?_)
  exact tX8_hasBridge C hC h_l0 hf (fun pc lv hd hz hC => v_zret C hQ (fun _ _ => rfl) hC rfl hz hd)
def fX8_setCount (sh : Sh) (G : Hp) (l0 : Nat) : Option (Int32) := some ((1 : Int32) <<< ((G.1 l0 0) &&& 31))
set_option maxHeartbeats 4000000 in
theorem tX8_setCount {E : EX} {ad : Nat → Nat} {sh : Sh} {G : Hp} {l0 : Nat} {z : Int32} (C : Cx E RX8 cX8_setCount 1 (some .int) 1 0 0) (hC : Cl sh G) (h_l0 : sh[l0]? = some (0, 8)) (hf : fX8_setCount sh G l0 = some z) (kr : RCi E cX8_setCount ad sh z G) : VV E 0 0 (wq (xT E) ad G sh) 0 [(0, .ref (ad l0))] [] := by
  unfold fX8_setCount at hf
  refine v_iconst (v := 1) C dX8_setCount_0 (by decide) ?_
  refine v_aload_n C 0 dX8_setCount_1 rfl rfl ?_
  refine v_getI C h_l0 fl_X8_53 dX8_setCount_2 ?_
  refine v_ishl C dX8_setCount_5 ?_
  cases hf
  exact kr _ _ dX8_setCount_6 hC
theorem sX8_setCount {l : Launch} {sh : Sh} {G : Hp} {l0 : Nat} {z : Int32} (h_l0 : sh[l0]? = some (0, 8)) (hf : fX8_setCount sh G l0 = some z) : MC l yX8_setCount cX8_setCount 1 (some .int) 1 0 0 sh sh G G (fun ad => [.ref (ad l0)]) (fun _ => some (.int z)) := by
  refine MC_of rfl rfl (fun _ => Nat.le_of_ble_eq_true rfl) (fun E ad C hl hnm hC hQ => ?_)
  exact tX8_setCount C hC h_l0 hf (fun pc lv hd hC => v_iret C hQ (fun _ _ => rfl) hC rfl hd)
def fX8_setsThere (sh : Sh) (G : Hp) (l0 : Nat) (l1 : Int32) : Option (Int64) := (fX8_setCount sh G l0).bind fun r1 => bd ((r1 - (l1 * 64)) : Int32) fun x2 => if 0 < x2 then if x2 < 64 then some ((lsh 1 x2) - 1) else some (-1) else some 0
set_option maxHeartbeats 4000000 in
theorem tX8_setsThere {E : EX} {ad : Nat → Nat} {sh : Sh} {G : Hp} {l0 : Nat} {l1 : Int32} {z : Int64} (C : Cx E RX8 cX8_setsThere 3 (some .long) 2 0 0) (hC : Cl sh G) (h_l0 : sh[l0]? = some (0, 8)) (hf : fX8_setsThere sh G l0 l1 = some z) (kr : RCl E cX8_setsThere ad sh z G) : VV E 0 0 (wq (xT E) ad G sh) 0 [(0, .ref (ad l0)), (1, .int l1)] [] := by
  unfold fX8_setsThere at hf
  refine v_aload_n C 0 dX8_setsThere_0 rfl rfl ?_
  obtain ⟨r1, qr1, hf⟩ := bn hf
  refine v_callVi (As := []) (rest := []) C (sX8_setCount h_l0 qr1) cs_X8_90 (by decide) h_l0 rfl hC rfl rfl rfl (Nat.le_of_ble_eq_true rfl) ⟨Nat.le_refl _, Nat.le_refl _⟩ dX8_setsThere_1 (fun hC => ?_)
  refine v_iload_n C 1 dX8_setsThere_4 rfl rfl ?_
  refine v_bipush (v := 64) C dX8_setsThere_5 (by decide) ?_
  refine v_imul C dX8_setsThere_7 ?_
  refine v_isub C dX8_setsThere_8 ?_
  refine v_topi (fun x2 ex2 => ?_)
  have hf := bd_at hf ex2
  refine v_istore_n (lv2 := [(2, .int x2), (0, .ref (ad l0)), (1, .int l1)]) C dX8_setsThere_9 rfl (by decide) rfl ?_
  refine v_iload_n C 0 dX8_setsThere_10 rfl rfl ?_
  refine v_if_gt (tgt := 16) C dX8_setsThere_11 (by decide) (fun c3 => ?_) (fun c3 => ?_)
  · have hf := ip hf c3
    refine v_iload_n C 0 dX8_setsThere_16 rfl rfl ?_
    refine v_bipush (v := 64) C dX8_setsThere_17 (by decide) ?_
    refine v_icmp_lt (tgt := 28) C dX8_setsThere_19 (by decide) (fun c4 => ?_) (fun c4 => ?_)
    · have hf := ip hf c4
      refine v_lconst (v := 1) C dX8_setsThere_28 (by decide) ?_
      refine v_iload_n C 0 dX8_setsThere_29 rfl rfl ?_
      refine v_lshl C dX8_setsThere_30 ?_
      refine v_lconst (v := 1) C dX8_setsThere_31 (by decide) ?_
      refine v_lsub C dX8_setsThere_32 ?_
      cases hf
      exact kr _ _ dX8_setsThere_33 hC
    · have hf := im hf c4
      refine v_ldc2 (v := (-1)) C dX8_setsThere_22 kw_7 ?_
      refine v_goto (tgt := 33) C dX8_setsThere_25 (by decide) ?_
      cases hf
      exact kr _ _ dX8_setsThere_33 hC
  · have hf := im hf c3
    refine v_lconst (v := 0) C dX8_setsThere_14 (by decide) ?_
    cases hf
    exact kr _ _ dX8_setsThere_15 hC
theorem sX8_setsThere {l : Launch} {sh : Sh} {G : Hp} {l0 : Nat} {l1 : Int32} {z : Int64} (h_l0 : sh[l0]? = some (0, 8)) (hf : fX8_setsThere sh G l0 l1 = some z) : MC l yX8_setsThere cX8_setsThere 3 (some .long) 2 0 0 sh sh G G (fun ad => [.ref (ad l0), .int l1]) (fun _ => some (.long z)) := by
  refine MC_of rfl rfl (fun _ => Nat.le_of_ble_eq_true rfl) (fun E ad C hl hnm hC hQ => ?_)
  exact tX8_setsThere C hC h_l0 hf (fun pc lv hd hC => v_lret C hQ (fun _ _ => rfl) hC rfl hd)
def fJ13_bitCount_95d88 (l0 : Int64) : Option (Int32) := bd ((l0 - ((lush l0 1) &&& 6148914691236517205)) : Int64) fun x1 => bd (((x1 &&& 3689348814741910323) + ((lush x1 2) &&& 3689348814741910323)) : Int64) fun x2 => bd (((x2 + (lush x2 4)) &&& 1085102592571150095) : Int64) fun x3 => bd ((x3 + (lush x3 8)) : Int64) fun x4 => bd ((x4 + (lush x4 16)) : Int64) fun x5 => bd ((x5 + (lush x5 32)) : Int64) fun x6 => some ((Int64.toInt32 x6) &&& 127)
set_option maxHeartbeats 4000000 in
theorem tJ13_bitCount_95d88 {E : EX} {ad : Nat → Nat} {sh : Sh} {G : Hp} {l0 : Int64} {z : Int32} (C : Cx E RJ13 cJ13_bitCount_95d88 2 (some .int) 1 0 0) (hC : Cl sh G) (hf : fJ13_bitCount_95d88 l0 = some z) (kr : RCi E cJ13_bitCount_95d88 ad sh z G) : VV E 0 0 (wq (xT E) ad G sh) 0 [(0, .long l0)] [] := by
  unfold fJ13_bitCount_95d88 at hf
  refine v_lload_n C 0 dJ13_bitCount_95d88_0 rfl rfl ?_
  refine v_lload_n C 0 dJ13_bitCount_95d88_1 rfl rfl ?_
  refine v_iconst (v := 1) C dJ13_bitCount_95d88_2 (by decide) ?_
  refine v_lushr C dJ13_bitCount_95d88_3 ?_
  refine v_ldc2 (v := 6148914691236517205) C dJ13_bitCount_95d88_4 kw_8 ?_
  refine v_land C dJ13_bitCount_95d88_7 ?_
  refine v_lsub C dJ13_bitCount_95d88_8 ?_
  refine v_topl (fun x1 ex1 => ?_)
  have hf := bd_at hf ex1
  refine v_lstore_n (lv2 := [(0, .long x1)]) C dJ13_bitCount_95d88_9 rfl (by decide) rfl ?_
  refine v_lload_n C 0 dJ13_bitCount_95d88_10 rfl rfl ?_
  refine v_ldc2 (v := 3689348814741910323) C dJ13_bitCount_95d88_11 kw_9 ?_
  refine v_land C dJ13_bitCount_95d88_14 ?_
  refine v_lload_n C 0 dJ13_bitCount_95d88_15 rfl rfl ?_
  refine v_iconst (v := 2) C dJ13_bitCount_95d88_16 (by decide) ?_
  refine v_lushr C dJ13_bitCount_95d88_17 ?_
  refine v_ldc2 (v := 3689348814741910323) C dJ13_bitCount_95d88_18 kw_9 ?_
  refine v_land C dJ13_bitCount_95d88_21 ?_
  refine v_ladd C dJ13_bitCount_95d88_22 ?_
  refine v_topl (fun x2 ex2 => ?_)
  have hf := bd_at hf ex2
  refine v_lstore_n (lv2 := [(0, .long x2)]) C dJ13_bitCount_95d88_23 rfl (by decide) rfl ?_
  refine v_lload_n C 0 dJ13_bitCount_95d88_24 rfl rfl ?_
  refine v_lload_n C 0 dJ13_bitCount_95d88_25 rfl rfl ?_
  refine v_iconst (v := 4) C dJ13_bitCount_95d88_26 (by decide) ?_
  refine v_lushr C dJ13_bitCount_95d88_27 ?_
  refine v_ladd C dJ13_bitCount_95d88_28 ?_
  refine v_ldc2 (v := 1085102592571150095) C dJ13_bitCount_95d88_29 kw_10 ?_
  refine v_land C dJ13_bitCount_95d88_32 ?_
  refine v_topl (fun x3 ex3 => ?_)
  have hf := bd_at hf ex3
  refine v_lstore_n (lv2 := [(0, .long x3)]) C dJ13_bitCount_95d88_33 rfl (by decide) rfl ?_
  refine v_lload_n C 0 dJ13_bitCount_95d88_34 rfl rfl ?_
  refine v_lload_n C 0 dJ13_bitCount_95d88_35 rfl rfl ?_
  refine v_bipush (v := 8) C dJ13_bitCount_95d88_36 (by decide) ?_
  refine v_lushr C dJ13_bitCount_95d88_38 ?_
  refine v_ladd C dJ13_bitCount_95d88_39 ?_
  refine v_topl (fun x4 ex4 => ?_)
  have hf := bd_at hf ex4
  refine v_lstore_n (lv2 := [(0, .long x4)]) C dJ13_bitCount_95d88_40 rfl (by decide) rfl ?_
  refine v_lload_n C 0 dJ13_bitCount_95d88_41 rfl rfl ?_
  refine v_lload_n C 0 dJ13_bitCount_95d88_42 rfl rfl ?_
  refine v_bipush (v := 16) C dJ13_bitCount_95d88_43 (by decide) ?_
  refine v_lushr C dJ13_bitCount_95d88_45 ?_
  refine v_ladd C dJ13_bitCount_95d88_46 ?_
  refine v_topl (fun x5 ex5 => ?_)
  have hf := bd_at hf ex5
  refine v_lstore_n (lv2 := [(0, .long x5)]) C dJ13_bitCount_95d88_47 rfl (by decide) rfl ?_
  refine v_lload_n C 0 dJ13_bitCount_95d88_48 rfl rfl ?_
  refine v_lload_n C 0 dJ13_bitCount_95d88_49 rfl rfl ?_
  refine v_bipush (v := 32) C dJ13_bitCount_95d88_50 (by decide) ?_
  refine v_lushr C dJ13_bitCount_95d88_52 ?_
  refine v_ladd C dJ13_bitCount_95d88_53 ?_
  refine v_topl (fun x6 ex6 => ?_)
  have hf := bd_at hf ex6
  refine v_lstore_n (lv2 := [(0, .long x6)]) C dJ13_bitCount_95d88_54 rfl (by decide) rfl ?_
  refine v_lload_n C 0 dJ13_bitCount_95d88_55 rfl rfl ?_
  refine v_l2i C dJ13_bitCount_95d88_56 ?_
  refine v_bipush (v := 127) C dJ13_bitCount_95d88_57 (by decide) ?_
  refine v_iand C dJ13_bitCount_95d88_59 ?_
  cases hf
  exact kr _ _ dJ13_bitCount_95d88_60 hC
theorem sJ13_bitCount_95d88 {l : Launch} {sh : Sh} {G : Hp} {l0 : Int64} {z : Int32} (hf : fJ13_bitCount_95d88 l0 = some z) : MC l yJ13_bitCount_95d88 cJ13_bitCount_95d88 2 (some .int) 1 0 0 sh sh G G (fun ad => [.long l0]) (fun _ => some (.int z)) := by
  refine MC_of rfl rfl (fun _ => Nat.le_of_ble_eq_true rfl) (fun E ad C hl hnm hC hQ => ?_)
  exact tJ13_bitCount_95d88 C hC hf (fun pc lv hd hC => v_iret C hQ (fun _ _ => rfl) hC rfl hd)
def fX8_setsOfBoth_S23 (sh : Sh) (l0 : Nat) (l1 : Int32) (l2 : Int32) (G : Hp) (l3 : Int32) (l4 : Int32) : Option ((Int32 × Int32) ⊕ ((Int32))) := if 4 ≤ l4 then some (.inr l3) else (ldA sh G l0 13 4).bind fun a2 => (aJ sh G a2 ((l1 * 4) + l4)).bind fun v3 => (ldA sh G l0 13 4).bind fun a4 => (aJ sh G a4 ((l2 * 4) + l4)).bind fun v5 => bd ((v3 &&& v5) : Int64) fun x6 => (fX8_setsThere sh G l0 l4).bind fun r7 => (fJ13_bitCount_95d88 (x6 &&& r7)).bind fun r8 => bd ((l3 + r8) : Int32) fun x9 => bd ((l4 + 1) : Int32) fun x10 => some (.inl (x9, x10))
set_option maxHeartbeats 4000000 in
theorem tX8_setsOfBoth_S23 {E : EX} {ad : Nat → Nat} {sh : Sh} {G : Hp} {l0 : Nat} {l1 : Int32} {l2 : Int32} {l3 : Int32} {l4 : Int32} {o : (Int32 × Int32) ⊕ ((Int32))} (C : Cx E RX8 cX8_setsOfBoth 7 (some .int) 3 0 0) (hC : Cl sh G) (h_l0 : sh[l0]? = some (0, 8)) (hf : fX8_setsOfBoth_S23 sh l0 l1 l2 G l3 l4 = some o) (kb : ∀ (b_l3 : Int32) (b_l4 : Int32), o = .inl (b_l3, b_l4) → VV E 0 0 (wq (xT E) ad G sh) 23 [(0, .ref (ad l0)), (1, .int l1), (2, .int l2), (3, .int b_l3), (4, .int b_l4)] []) (kx75 : ∀ (b_l3 : Int32), o = .inr b_l3 → VV E 0 0 (wq (xT E) ad G sh) 75 [(0, .ref (ad l0)), (1, .int l1), (2, .int l2), (3, .int b_l3)] []) : VV E 0 0 (wq (xT E) ad G sh) 23 [(0, .ref (ad l0)), (1, .int l1), (2, .int l2), (3, .int l3), (4, .int l4)] [] := by
  unfold fX8_setsOfBoth_S23 at hf
  refine v_iload C 4 dX8_setsOfBoth_23 rfl ?_
  refine v_iconst (v := 4) C dX8_setsOfBoth_25 (by decide) ?_
  refine v_icmp_ge (tgt := 75) C dX8_setsOfBoth_26 (by decide) (fun c1 => ?_) (fun c1 => ?_)
  · have hf := ip hf c1
    cases hf
    refine v_sub [0, 1, 2, 3] rfl ?_
    exact kx75 _ rfl
  · have hf := im hf c1
    refine v_aload_n C 0 dX8_setsOfBoth_29 rfl rfl ?_
    obtain ⟨a2, qa2, hf⟩ := bn hf
    refine v_getA C h_l0 fl_X8_33 qa2 dX8_setsOfBoth_30 (fun h_a2 => ?_)
    refine v_iload_n C 1 dX8_setsOfBoth_33 rfl rfl ?_
    refine v_iconst (v := 4) C dX8_setsOfBoth_34 (by decide) ?_
    refine v_imul C dX8_setsOfBoth_35 ?_
    refine v_iload C 4 dX8_setsOfBoth_36 rfl ?_
    refine v_iadd C dX8_setsOfBoth_38 ?_
    obtain ⟨v3, qv3, hf⟩ := bn hf
    refine v_lald C h_a2 qv3 dX8_setsOfBoth_39 ?_
    refine v_aload_n C 0 dX8_setsOfBoth_40 rfl rfl ?_
    obtain ⟨a4, qa4, hf⟩ := bn hf
    refine v_getA C h_l0 fl_X8_33 qa4 dX8_setsOfBoth_41 (fun h_a4 => ?_)
    refine v_iload_n C 2 dX8_setsOfBoth_44 rfl rfl ?_
    refine v_iconst (v := 4) C dX8_setsOfBoth_45 (by decide) ?_
    refine v_imul C dX8_setsOfBoth_46 ?_
    refine v_iload C 4 dX8_setsOfBoth_47 rfl ?_
    refine v_iadd C dX8_setsOfBoth_49 ?_
    obtain ⟨v5, qv5, hf⟩ := bn hf
    refine v_lald C h_a4 qv5 dX8_setsOfBoth_50 ?_
    refine v_land C dX8_setsOfBoth_51 ?_
    refine v_topl (fun x6 ex6 => ?_)
    have hf := bd_at hf ex6
    refine v_lstore (lv2 := [(5, .long x6), (0, .ref (ad l0)), (1, .int l1), (2, .int l2), (3, .int l3), (4, .int l4)]) C dX8_setsOfBoth_52 (by decide) rfl ?_
    refine v_iload_n C 4 dX8_setsOfBoth_54 rfl rfl ?_
    refine v_lload C 0 dX8_setsOfBoth_55 rfl ?_
    refine v_aload_n C 1 dX8_setsOfBoth_57 rfl rfl ?_
    refine v_iload C 5 dX8_setsOfBoth_58 rfl ?_
    obtain ⟨r7, qr7, hf⟩ := bn hf
    refine v_callVl (As := [.int l4]) (rest := [.long x6, .int l3]) C (sX8_setsThere h_l0 qr7) cs_X8_80 (by decide) h_l0 rfl hC rfl rfl rfl (Nat.le_of_ble_eq_true rfl) ⟨Nat.le_refl _, Nat.le_refl _⟩ dX8_setsOfBoth_60 (fun hC => ?_)
    refine v_land C dX8_setsOfBoth_63 ?_
    obtain ⟨r8, qr8, hf⟩ := bn hf
    refine v_callSi (As := [.long (x6 &&& r7)]) (rest := [.int l3]) C (sJ13_bitCount_95d88  qr8) cs_X8_84 (by decide) hC rfl rfl rfl (Nat.le_of_ble_eq_true rfl) ⟨Nat.le_refl _, Nat.le_refl _⟩ dX8_setsOfBoth_64 (fun hC => ?_)
    refine v_iadd C dX8_setsOfBoth_67 ?_
    refine v_topi (fun x9 ex9 => ?_)
    have hf := bd_at hf ex9
    refine v_istore_n (lv2 := [(3, .int x9), (5, .long x6), (0, .ref (ad l0)), (1, .int l1), (2, .int l2), (4, .int l4)]) C dX8_setsOfBoth_68 rfl (by decide) rfl ?_
    obtain ⟨x10, ex10⟩ : ∃ x : Int32, x = (l4 + 1) := ⟨_, rfl⟩
    have hf := bd_at hf ex10
    refine v_iinc (v := x10) (j := 5) (lv2 := [(4, .int x10), (3, .int x9), (5, .long x6), (0, .ref (ad l0)), (1, .int l1), (2, .int l2)]) C dX8_setsOfBoth_69 rfl (by rw [ex10]; rfl) (by decide) rfl ?_
    refine v_goto (tgt := 23) C dX8_setsOfBoth_72 (by decide) ?_
    cases hf
    refine v_sub [3, 4, 5, 1, 0] rfl ?_
    exact kb _ _ rfl
def fX8_setsOfBoth (sh : Sh) (G : Hp) (l0 : Nat) (l1 : Int32) (l2 : Int32) : Option (Int32) := (fX8_hasBridge sh G l0 l1).bind fun r1 => if r1 = 0 then some 0 else (fX8_hasBridge sh G l0 l2).bind fun r3 => if r3 = 0 then some 0 else (iter (fun s : Int32 × Int32 => fX8_setsOfBoth_S23 sh l0 l1 l2 G s.1 s.2) fuel ((0, 0) : Int32 × Int32)).bind (fun u7 => bd u7 fun x6 => some x6)
set_option maxHeartbeats 4000000 in
theorem tX8_setsOfBoth {E : EX} {ad : Nat → Nat} {sh : Sh} {G : Hp} {l0 : Nat} {l1 : Int32} {l2 : Int32} {z : Int32} (C : Cx E RX8 cX8_setsOfBoth 7 (some .int) 3 0 0) (hC : Cl sh G) (h_l0 : sh[l0]? = some (0, 8)) (hf : fX8_setsOfBoth sh G l0 l1 l2 = some z) (kr : RCi E cX8_setsOfBoth ad sh z G) : VV E 0 0 (wq (xT E) ad G sh) 0 [(0, .ref (ad l0)), (1, .int l1), (2, .int l2)] [] := by
  unfold fX8_setsOfBoth at hf
  refine v_aload_n C 0 dX8_setsOfBoth_0 rfl rfl ?_
  refine v_iload_n C 1 dX8_setsOfBoth_1 rfl rfl ?_
  obtain ⟨r1, qr1, hf⟩ := bn hf
  refine v_callVi (As := [.int l1]) (rest := []) C (sX8_hasBridge h_l0 qr1) cs_X8_76 (by decide) h_l0 rfl hC rfl rfl rfl (Nat.le_of_ble_eq_true rfl) ⟨Nat.le_refl _, Nat.le_refl _⟩ dX8_setsOfBoth_2 (fun hC => ?_)
  refine v_if_eq (tgt := 16) C dX8_setsOfBoth_5 (by decide) (fun c2 => ?_) (fun c2 => ?_)
  · have hf := ip hf c2
    refine v_iconst (v := 0) C dX8_setsOfBoth_16 (by decide) ?_
    cases hf
    exact kr _ _ dX8_setsOfBoth_17 hC
  · have hf := im hf c2
    refine v_aload_n C 0 dX8_setsOfBoth_8 rfl rfl ?_
    refine v_iload_n C 2 dX8_setsOfBoth_9 rfl rfl ?_
    obtain ⟨r3, qr3, hf⟩ := bn hf
    refine v_callVi (As := [.int l2]) (rest := []) C (sX8_hasBridge h_l0 qr3) cs_X8_76 (by decide) h_l0 rfl hC rfl rfl rfl (Nat.le_of_ble_eq_true rfl) ⟨Nat.le_refl _, Nat.le_refl _⟩ dX8_setsOfBoth_10 (fun hC => ?_)
    refine v_if_ne (tgt := 18) C dX8_setsOfBoth_13 (by decide) (fun c4 => ?_) (fun c4 => ?_)
    · have hf := im hf c4
      refine v_iconst (v := 0) C dX8_setsOfBoth_18 (by decide) ?_
      refine v_istore_n (lv2 := [(3, .int 0), (0, .ref (ad l0)), (1, .int l1), (2, .int l2)]) C dX8_setsOfBoth_19 rfl (by decide) rfl ?_
      refine v_iconst (v := 0) C dX8_setsOfBoth_20 (by decide) ?_
      refine v_istore (lv2 := [(4, .int 0), (3, .int 0), (0, .ref (ad l0)), (1, .int l1), (2, .int l2)]) C dX8_setsOfBoth_21 (by decide) rfl ?_
      obtain ⟨r5, qr5, hf⟩ := bn hf
      refine v_sub [2, 3, 4, 1, 0] rfl ?_
      refine iter_sound (P := (fun s : Int32 × Int32 => VV E 0 0 (wq (xT E) ad (G) sh) 23 [(0, .ref (ad l0)), (1, .int (l1)), (2, .int (l2)), (3, .int (s.1)), (4, .int (s.2))] [])) (X := fun r => r = r5) (fun jsr5 jor5 hor5 jbr5 jxr5 => tX8_setsOfBoth_S23 C hC h_l0 hor5 (fun _ _ e => jbr5 _ e) ?_) fuel _ r5 qr5 rfl
      · intro x6 hu
        have e := jxr5 _ hu
        subst e
        have hf := bd_at hf (rfl : x6 = _)
        refine v_iload_n C 3 dX8_setsOfBoth_75 rfl rfl ?_
        cases hf
        exact kr _ _ dX8_setsOfBoth_76 hC
    · have hf := ip hf c4
      refine v_iconst (v := 0) C dX8_setsOfBoth_16 (by decide) ?_
      cases hf
      exact kr _ _ dX8_setsOfBoth_17 hC
theorem sX8_setsOfBoth {l : Launch} {sh : Sh} {G : Hp} {l0 : Nat} {l1 : Int32} {l2 : Int32} {z : Int32} (h_l0 : sh[l0]? = some (0, 8)) (hf : fX8_setsOfBoth sh G l0 l1 l2 = some z) : MC l yX8_setsOfBoth cX8_setsOfBoth 7 (some .int) 3 0 0 sh sh G G (fun ad => [.ref (ad l0), .int l1, .int l2]) (fun _ => some (.int z)) := by
  refine MC_of rfl rfl (fun _ => Nat.le_of_ble_eq_true rfl) (fun E ad C hl hnm hC hQ => ?_)
  exact tX8_setsOfBoth C hC h_l0 hf (fun pc lv hd hC => v_iret C hQ (fun _ _ => rfl) hC rfl hd)
def fX10_alike (sh : Sh) (G : Hp) (l0 : Nat) (l1 : Int32) (l2 : Int32) (l3 : Int32) : Option (Int32) := (ldO sh G l0 2 8).bind fun a1 => (fX8_hasBridge sh G a1 l1).bind fun r2 => if r2 = 0 then some (-1) else (ldO sh G l0 2 8).bind fun a4 => (fX8_hasBridge sh G a4 l2).bind fun r5 => if r5 = 0 then some (-1) else if l3 < 0 then some (-1) else if l3 ≤ 1 then (ldO sh G l0 2 8).bind fun a9 => (fX8_setsOfBoth sh G a9 l1 l2).bind fun r10 => if l3 = 1 then some r10 else (ldO sh G l0 2 8).bind fun a12 => (fX8_setsOfBoth sh G a12 l1 l1).bind fun r13 => if r10 = r13 then (ldO sh G l0 2 8).bind fun a16 => (fX8_setsOfBoth sh G a16 l2 l2).bind fun r17 => if r10 = r17 then some 1 else some 0 else some 0 else some (-1)
set_option maxHeartbeats 4000000 in
theorem tX10_alike {E : EX} {ad : Nat → Nat} {sh : Sh} {G : Hp} {l0 : Nat} {l1 : Int32} {l2 : Int32} {l3 : Int32} {z : Int32} (C : Cx E RX10 cX10_alike 6 (some .int) 4 0 0) (hC : Cl sh G) (h_l0 : sh[l0]? = some (0, 10)) (hf : fX10_alike sh G l0 l1 l2 l3 = some z) (kr : RCi E cX10_alike ad sh z G) : VV E 0 0 (wq (xT E) ad G sh) 0 [(0, .ref (ad l0)), (1, .int l1), (2, .int l2), (3, .int l3)] [] := by
  unfold fX10_alike at hf
  refine v_aload_n C 0 dX10_alike_0 rfl rfl ?_
  obtain ⟨a1, qa1, hf⟩ := bn hf
  refine v_getO C h_l0 fl_X10_23 qa1 dX10_alike_1 (fun h_a1 => ?_)
  refine v_iload_n C 1 dX10_alike_4 rfl rfl ?_
  obtain ⟨r2, qr2, hf⟩ := bn hf
  refine v_callVi (As := [.int l1]) (rest := []) C (sX8_hasBridge h_a1 qr2) cs_X10_143 (by decide) h_a1 rfl hC rfl rfl rfl (Nat.le_of_ble_eq_true rfl) ⟨Nat.le_refl _, Nat.le_refl _⟩ dX10_alike_5 (fun hC => ?_)
  refine v_if_eq (tgt := 31) C dX10_alike_8 (by decide) (fun c3 => ?_) (fun c3 => ?_)
  · have hf := ip hf c3
    refine v_iconst (v := (-1)) C dX10_alike_31 (by decide) ?_
    cases hf
    exact kr _ _ dX10_alike_32 hC
  · have hf := im hf c3
    refine v_aload_n C 0 dX10_alike_11 rfl rfl ?_
    obtain ⟨a4, qa4, hf⟩ := bn hf
    refine v_getO C h_l0 fl_X10_23 qa4 dX10_alike_12 (fun h_a4 => ?_)
    refine v_iload_n C 2 dX10_alike_15 rfl rfl ?_
    obtain ⟨r5, qr5, hf⟩ := bn hf
    refine v_callVi (As := [.int l2]) (rest := []) C (sX8_hasBridge h_a4 qr5) cs_X10_143 (by decide) h_a4 rfl hC rfl rfl rfl (Nat.le_of_ble_eq_true rfl) ⟨Nat.le_refl _, Nat.le_refl _⟩ dX10_alike_16 (fun hC => ?_)
    refine v_if_eq (tgt := 31) C dX10_alike_19 (by decide) (fun c6 => ?_) (fun c6 => ?_)
    · have hf := ip hf c6
      refine v_iconst (v := (-1)) C dX10_alike_31 (by decide) ?_
      cases hf
      exact kr _ _ dX10_alike_32 hC
    · have hf := im hf c6
      refine v_iload_n C 3 dX10_alike_22 rfl rfl ?_
      refine v_if_lt (tgt := 31) C dX10_alike_23 (by decide) (fun c7 => ?_) (fun c7 => ?_)
      · have hf := ip hf c7
        refine v_iconst (v := (-1)) C dX10_alike_31 (by decide) ?_
        cases hf
        exact kr _ _ dX10_alike_32 hC
      · have hf := im hf c7
        refine v_iload_n C 3 dX10_alike_26 rfl rfl ?_
        refine v_iconst (v := 1) C dX10_alike_27 (by decide) ?_
        refine v_icmp_le (tgt := 33) C dX10_alike_28 (by decide) (fun c8 => ?_) (fun c8 => ?_)
        · have hf := ip hf c8
          refine v_aload_n C 0 dX10_alike_33 rfl rfl ?_
          obtain ⟨a9, qa9, hf⟩ := bn hf
          refine v_getO C h_l0 fl_X10_23 qa9 dX10_alike_34 (fun h_a9 => ?_)
          refine v_iload_n C 1 dX10_alike_37 rfl rfl ?_
          refine v_iload_n C 2 dX10_alike_38 rfl rfl ?_
          obtain ⟨r10, qr10, hf⟩ := bn hf
          refine v_callVi (As := [.int l1, .int l2]) (rest := []) C (sX8_setsOfBoth h_a9 qr10) cs_X10_165 (by decide) h_a9 rfl hC rfl rfl rfl (Nat.le_of_ble_eq_true rfl) ⟨Nat.le_refl _, Nat.le_refl _⟩ dX10_alike_39 (fun hC => ?_)
          refine v_istore (lv2 := [(4, .int r10), (0, .ref (ad l0)), (1, .int l1), (2, .int l2), (3, .int l3)]) C dX10_alike_42 (by decide) rfl ?_
          refine v_iload_n C 4 dX10_alike_44 rfl rfl ?_
          refine v_iconst (v := 1) C dX10_alike_45 (by decide) ?_
          refine v_icmp_ne (tgt := 52) C dX10_alike_46 (by decide) (fun c11 => ?_) (fun c11 => ?_)
          · have hf := im hf c11
            refine v_iload C 0 dX10_alike_52 rfl ?_
            refine v_aload_n C 1 dX10_alike_54 rfl rfl ?_
            obtain ⟨a12, qa12, hf⟩ := bn hf
            refine v_getO C h_l0 fl_X10_23 qa12 dX10_alike_55 (fun h_a12 => ?_)
            refine v_iload_n C 2 dX10_alike_58 rfl rfl ?_
            refine v_iload_n C 2 dX10_alike_59 rfl rfl ?_
            obtain ⟨r13, qr13, hf⟩ := bn hf
            refine v_callVi (As := [.int l1, .int l1]) (rest := [.int r10]) C (sX8_setsOfBoth h_a12 qr13) cs_X10_165 (by decide) h_a12 rfl hC rfl rfl rfl (Nat.le_of_ble_eq_true rfl) ⟨Nat.le_refl _, Nat.le_refl _⟩ dX10_alike_60 (fun hC => ?_)
            refine v_icmp_ne (tgt := 84) C dX10_alike_63 (by decide) (fun c14 => ?_) (fun c14 => ?_)
            · have hf := im hf c14
              refine v_iconst (v := 0) C dX10_alike_84 (by decide) ?_
              refine v_istore (lv2 := [(5, .int 0), (4, .int r10), (0, .ref (ad l0)), (1, .int l1), (2, .int l2), (3, .int l3)]) C dX10_alike_85 (by decide) rfl ?_
              refine v_iload C 0 dX10_alike_87 rfl ?_
              refine v_if_eq (tgt := 96) C dX10_alike_89 (by decide) (fun _ => ?_) (fun c15 => absurd (by decide) c15)
              refine v_iconst (v := 0) C dX10_alike_96 (by decide) ?_
              cases hf
              exact kr _ _ dX10_alike_97 hC
            · have hf := ip hf c14
              refine v_iload C 0 dX10_alike_66 rfl ?_
              refine v_aload_n C 1 dX10_alike_68 rfl rfl ?_
              obtain ⟨a16, qa16, hf⟩ := bn hf
              refine v_getO C h_l0 fl_X10_23 qa16 dX10_alike_69 (fun h_a16 => ?_)
              refine v_iload_n C 3 dX10_alike_72 rfl rfl ?_
              refine v_iload_n C 3 dX10_alike_73 rfl rfl ?_
              obtain ⟨r17, qr17, hf⟩ := bn hf
              refine v_callVi (As := [.int l2, .int l2]) (rest := [.int r10]) C (sX8_setsOfBoth h_a16 qr17) cs_X10_165 (by decide) h_a16 rfl hC rfl rfl rfl (Nat.le_of_ble_eq_true rfl) ⟨Nat.le_refl _, Nat.le_refl _⟩ dX10_alike_74 (fun hC => ?_)
              refine v_icmp_ne (tgt := 84) C dX10_alike_77 (by decide) (fun c18 => ?_) (fun c18 => ?_)
              · have hf := im hf c18
                refine v_iconst (v := 0) C dX10_alike_84 (by decide) ?_
                refine v_istore (lv2 := [(5, .int 0), (4, .int r10), (0, .ref (ad l0)), (1, .int l1), (2, .int l2), (3, .int l3)]) C dX10_alike_85 (by decide) rfl ?_
                refine v_iload C 0 dX10_alike_87 rfl ?_
                refine v_if_eq (tgt := 96) C dX10_alike_89 (by decide) (fun _ => ?_) (fun c19 => absurd (by decide) c19)
                refine v_iconst (v := 0) C dX10_alike_96 (by decide) ?_
                cases hf
                exact kr _ _ dX10_alike_97 hC
              · have hf := ip hf c18
                refine v_iconst (v := 1) C dX10_alike_80 (by decide) ?_
                refine v_goto (tgt := 85) C dX10_alike_81 (by decide) ?_
                refine v_istore (lv2 := [(5, .int 1), (4, .int r10), (0, .ref (ad l0)), (1, .int l1), (2, .int l2), (3, .int l3)]) C dX10_alike_85 (by decide) rfl ?_
                refine v_iload C 0 dX10_alike_87 rfl ?_
                refine v_if_eq (tgt := 96) C dX10_alike_89 (by decide) (fun c20 => absurd c20 (by decide)) (fun _ => ?_)
                refine v_iconst (v := 1) C dX10_alike_92 (by decide) ?_
                refine v_goto (tgt := 97) C dX10_alike_93 (by decide) ?_
                cases hf
                exact kr _ _ dX10_alike_97 hC
          · have hf := ip hf c11
            refine v_iload C 0 dX10_alike_49 rfl ?_
            cases hf
            exact kr _ _ dX10_alike_51 hC
        · have hf := im hf c8
          refine v_iconst (v := (-1)) C dX10_alike_31 (by decide) ?_
          cases hf
          exact kr _ _ dX10_alike_32 hC
theorem sX10_alike {l : Launch} {sh : Sh} {G : Hp} {l0 : Nat} {l1 : Int32} {l2 : Int32} {l3 : Int32} {z : Int32} (h_l0 : sh[l0]? = some (0, 10)) (hf : fX10_alike sh G l0 l1 l2 l3 = some z) : MC l yX10_alike cX10_alike 6 (some .int) 4 0 0 sh sh G G (fun ad => [.ref (ad l0), .int l1, .int l2, .int l3]) (fun _ => some (.int z)) := by
  refine MC_of rfl rfl (fun _ => Nat.le_of_ble_eq_true rfl) (fun E ad C hl hnm hC hQ => ?_)
  exact tX10_alike C hC h_l0 hf (fun pc lv hd hC => v_iret C hQ (fun _ _ => rfl) hC rfl hd)
def fX1_copyFrom (sh : Sh) (G : Hp) (l0 : Nat) (l1 : Nat) : Option (Hp) := (ldA sh G l1 0 1).bind fun a1 => (ldA sh G l0 0 1).bind fun a2 => (cpI sh G a1 0 a2 0 4).bind fun G3 => (ldA sh G3 l1 1 1).bind fun a4 => (ldA sh G3 l0 1 1).bind fun a5 => (cpI sh G3 a4 0 a5 0 4).bind fun G6 => (ldA sh G6 l1 2 1).bind fun a7 => (ldA sh G6 l0 2 1).bind fun a8 => (cpI sh G6 a7 0 a8 0 4).bind fun G9 => (ldA sh G9 l1 3 1).bind fun a10 => (ldA sh G9 l0 3 1).bind fun a11 => (cpI sh G9 a10 0 a11 0 9).bind fun G12 => bd (sI G12 l0 4 (G12.1 l1 4)) fun G13 => bd (sI G13 l0 5 (G13.1 l1 5)) fun G14 => bd (sI G14 l0 6 (G14.1 l1 6)) fun G15 => bd (sI G15 l0 7 (G15.1 l1 7)) fun G16 => bd (sI G16 l0 8 (G16.1 l1 8)) fun G17 => some G17
set_option maxHeartbeats 4000000 in
theorem tX1_copyFrom {E : EX} {ad : Nat → Nat} {sh : Sh} {G : Hp} {l0 : Nat} {l1 : Nat} {z : Hp} (C : Cx E RX1 cX1_copyFrom 2 none 1 0 0) (hC : Cl sh G) (h_l0 : sh[l0]? = some (0, 1)) (h_l1 : sh[l1]? = some (0, 1)) (hf : fX1_copyFrom sh G l0 l1 = some z) (kr : RCv E cX1_copyFrom ad sh z) : VV E 0 0 (wq (xT E) ad G sh) 0 [(0, .ref (ad l0)), (1, .ref (ad l1))] [] := by
  unfold fX1_copyFrom at hf
  refine v_aload_n C 1 dX1_copyFrom_0 rfl rfl ?_
  obtain ⟨a1, qa1, hf⟩ := bn hf
  refine v_getA C h_l1 fl_X1_9 qa1 dX1_copyFrom_1 (fun h_a1 => ?_)
  refine v_iconst (v := 0) C dX1_copyFrom_4 (by decide) ?_
  refine v_aload_n C 0 dX1_copyFrom_5 rfl rfl ?_
  obtain ⟨a2, qa2, hf⟩ := bn hf
  refine v_getA C h_l0 fl_X1_9 qa2 dX1_copyFrom_6 (fun h_a2 => ?_)
  refine v_iconst (v := 0) C dX1_copyFrom_9 (by decide) ?_
  refine v_iconst (v := 4) C dX1_copyFrom_10 (by decide) ?_
  obtain ⟨G3, qG3, hf⟩ := bn hf
  refine v_copyI C cp_X1_27 h_a1 h_a2 qG3 hC (by omega) (Nat.le_of_ble_eq_true rfl) dX1_copyFrom_11 (fun hC => ?_)
  refine v_aload_n C 1 dX1_copyFrom_14 rfl rfl ?_
  obtain ⟨a4, qa4, hf⟩ := bn hf
  refine v_getA C h_l1 fl_X1_15 qa4 dX1_copyFrom_15 (fun h_a4 => ?_)
  refine v_iconst (v := 0) C dX1_copyFrom_18 (by decide) ?_
  refine v_aload_n C 0 dX1_copyFrom_19 rfl rfl ?_
  obtain ⟨a5, qa5, hf⟩ := bn hf
  refine v_getA C h_l0 fl_X1_15 qa5 dX1_copyFrom_20 (fun h_a5 => ?_)
  refine v_iconst (v := 0) C dX1_copyFrom_23 (by decide) ?_
  refine v_iconst (v := 4) C dX1_copyFrom_24 (by decide) ?_
  obtain ⟨G6, qG6, hf⟩ := bn hf
  refine v_copyI C cp_X1_27 h_a4 h_a5 qG6 hC (by omega) (Nat.le_of_ble_eq_true rfl) dX1_copyFrom_25 (fun hC => ?_)
  refine v_aload_n C 1 dX1_copyFrom_28 rfl rfl ?_
  obtain ⟨a7, qa7, hf⟩ := bn hf
  refine v_getA C h_l1 fl_X1_18 qa7 dX1_copyFrom_29 (fun h_a7 => ?_)
  refine v_iconst (v := 0) C dX1_copyFrom_32 (by decide) ?_
  refine v_aload_n C 0 dX1_copyFrom_33 rfl rfl ?_
  obtain ⟨a8, qa8, hf⟩ := bn hf
  refine v_getA C h_l0 fl_X1_18 qa8 dX1_copyFrom_34 (fun h_a8 => ?_)
  refine v_iconst (v := 0) C dX1_copyFrom_37 (by decide) ?_
  refine v_iconst (v := 4) C dX1_copyFrom_38 (by decide) ?_
  obtain ⟨G9, qG9, hf⟩ := bn hf
  refine v_copyI C cp_X1_27 h_a7 h_a8 qG9 hC (by omega) (Nat.le_of_ble_eq_true rfl) dX1_copyFrom_39 (fun hC => ?_)
  refine v_aload_n C 1 dX1_copyFrom_42 rfl rfl ?_
  obtain ⟨a10, qa10, hf⟩ := bn hf
  refine v_getA C h_l1 fl_X1_21 qa10 dX1_copyFrom_43 (fun h_a10 => ?_)
  refine v_iconst (v := 0) C dX1_copyFrom_46 (by decide) ?_
  refine v_aload_n C 0 dX1_copyFrom_47 rfl rfl ?_
  obtain ⟨a11, qa11, hf⟩ := bn hf
  refine v_getA C h_l0 fl_X1_21 qa11 dX1_copyFrom_48 (fun h_a11 => ?_)
  refine v_iconst (v := 0) C dX1_copyFrom_51 (by decide) ?_
  refine v_bipush (v := 9) C dX1_copyFrom_52 (by decide) ?_
  obtain ⟨G12, qG12, hf⟩ := bn hf
  refine v_copyI C cp_X1_27 h_a10 h_a11 qG12 hC (by omega) (Nat.le_of_ble_eq_true rfl) dX1_copyFrom_54 (fun hC => ?_)
  refine v_aload_n C 0 dX1_copyFrom_57 rfl rfl ?_
  refine v_aload_n C 1 dX1_copyFrom_58 rfl rfl ?_
  refine v_getI C h_l1 fl_X1_39 dX1_copyFrom_59 ?_
  refine v_putI C h_l0 fp_X1_39 dX1_copyFrom_62 (fun G13 eG13 => ?_)
  have hf := bd_at hf eG13
  have hC : Cl sh G13 := by rw [eG13]; exact hC
  refine v_aload_n C 0 dX1_copyFrom_65 rfl rfl ?_
  refine v_aload_n C 1 dX1_copyFrom_66 rfl rfl ?_
  refine v_getI C h_l1 fl_X1_43 dX1_copyFrom_67 ?_
  refine v_putI C h_l0 fp_X1_43 dX1_copyFrom_70 (fun G14 eG14 => ?_)
  have hf := bd_at hf eG14
  have hC : Cl sh G14 := by rw [eG14]; exact hC
  refine v_aload_n C 0 dX1_copyFrom_73 rfl rfl ?_
  refine v_aload_n C 1 dX1_copyFrom_74 rfl rfl ?_
  refine v_getI C h_l1 fl_X1_49 dX1_copyFrom_75 ?_
  refine v_putI C h_l0 fp_X1_49 dX1_copyFrom_78 (fun G15 eG15 => ?_)
  have hf := bd_at hf eG15
  have hC : Cl sh G15 := by rw [eG15]; exact hC
  refine v_aload_n C 0 dX1_copyFrom_81 rfl rfl ?_
  refine v_aload_n C 1 dX1_copyFrom_82 rfl rfl ?_
  refine v_getI C h_l1 fl_X1_52 dX1_copyFrom_83 ?_
  refine v_putI C h_l0 fp_X1_52 dX1_copyFrom_86 (fun G16 eG16 => ?_)
  have hf := bd_at hf eG16
  have hC : Cl sh G16 := by rw [eG16]; exact hC
  refine v_aload_n C 0 dX1_copyFrom_89 rfl rfl ?_
  refine v_aload_n C 1 dX1_copyFrom_90 rfl rfl ?_
  refine v_getI C h_l1 fl_X1_55 dX1_copyFrom_91 ?_
  refine v_putI C h_l0 fp_X1_55 dX1_copyFrom_94 (fun G17 eG17 => ?_)
  have hf := bd_at hf eG17
  have hC : Cl sh G17 := by rw [eG17]; exact hC
  cases hf
  exact kr _ _ dX1_copyFrom_97 hC
theorem sX1_copyFrom {l : Launch} {sh : Sh} {G : Hp} {l0 : Nat} {l1 : Nat} {z : Hp} (h_l0 : sh[l0]? = some (0, 1)) (h_l1 : sh[l1]? = some (0, 1)) (hf : fX1_copyFrom sh G l0 l1 = some z) : MC l yX1_copyFrom cX1_copyFrom 2 none 1 0 0 sh sh G z (fun ad => [.ref (ad l0), .ref (ad l1)]) (fun _ => none) := by
  refine MC_of rfl rfl (fun _ => Nat.le_of_ble_eq_true rfl) (fun E ad C hl hnm hC hQ => ?_)
  exact tX1_copyFrom C hC h_l0 h_l1 hf (fun pc lv hd hC => v_vret C hQ (fun _ _ => rfl) hC rfl hd)
def fJ7_rangeCheck_23922 (l0 : Int32) (l1 : Int32) (l2 : Int32) : Option (Unit) := if l1 ≤ l2 then if 0 ≤ l1 then if l2 ≤ l0 then some () else none else none else none
set_option maxHeartbeats 4000000 in
theorem tJ7_rangeCheck_23922 {E : EX} {ad : Nat → Nat} {sh : Sh} {G : Hp} {l0 : Int32} {l1 : Int32} {l2 : Int32} {z : Unit} (C : Cx E RJ7 cJ7_rangeCheck_23922 3 none 1 0 0) (hC : Cl sh G) (hf : fJ7_rangeCheck_23922 l0 l1 l2 = some z) (kr : RCv E cJ7_rangeCheck_23922 ad sh G) : VV E 0 0 (wq (xT E) ad G sh) 0 [(0, .int l0), (1, .int l1), (2, .int l2)] [] := by
  unfold fJ7_rangeCheck_23922 at hf
  refine v_iload_n C 1 dJ7_rangeCheck_23922_0 rfl rfl ?_
  refine v_iload_n C 2 dJ7_rangeCheck_23922_1 rfl rfl ?_
  refine v_icmp_le (tgt := 46) C dJ7_rangeCheck_23922_2 (by decide) (fun c1 => ?_) (fun c1 => ?_)
  · have hf := ip hf c1
    refine v_iload_n C 1 dJ7_rangeCheck_23922_46 rfl rfl ?_
    refine v_if_ge (tgt := 59) C dJ7_rangeCheck_23922_47 (by decide) (fun c2 => ?_) (fun c2 => ?_)
    · have hf := ip hf c2
      refine v_iload_n C 2 dJ7_rangeCheck_23922_59 rfl rfl ?_
      refine v_iload_n C 0 dJ7_rangeCheck_23922_60 rfl rfl ?_
      refine v_icmp_le (tgt := 73) C dJ7_rangeCheck_23922_61 (by decide) (fun c3 => ?_) (fun c3 => ?_)
      · have hf := ip hf c3
        cases hf
        exact kr _ _ dJ7_rangeCheck_23922_73 hC
      · have hf := im hf c3
        cases hf
    · have hf := im hf c2
      cases hf
  · have hf := im hf c1
    cases hf
theorem sJ7_rangeCheck_23922 {l : Launch} {sh : Sh} {G : Hp} {l0 : Int32} {l1 : Int32} {l2 : Int32} {z : Unit} (hf : fJ7_rangeCheck_23922 l0 l1 l2 = some z) : MC l yJ7_rangeCheck_23922 cJ7_rangeCheck_23922 3 none 1 0 0 sh sh G G (fun ad => [.int l0, .int l1, .int l2]) (fun _ => none) := by
  refine MC_of rfl rfl (fun _ => Nat.le_of_ble_eq_true rfl) (fun E ad C hl hnm hC hQ => ?_)
  exact tJ7_rangeCheck_23922 C hC hf (fun pc lv hd hC => v_vret C hQ (fun _ _ => rfl) hC rfl hd)
def fJ7_fill_fda19_S10 (sh : Sh) (l0 : Nat) (l2 : Int32) (l3 : Int32) (G : Hp) (l4 : Int32) : Option ((Hp × Int32) ⊕ ((Hp))) := if l2 ≤ l4 then some (.inr G) else (asI sh G l0 l4 l3).bind fun G2 => bd ((l4 + 1) : Int32) fun x3 => some (.inl (G2, x3))
set_option maxHeartbeats 4000000 in
theorem tJ7_fill_fda19_S10 {E : EX} {ad : Nat → Nat} {sh : Sh} {G : Hp} {l0 : Nat} {l2 : Int32} {l3 : Int32} {l4 : Int32} {o : (Hp × Int32) ⊕ ((Hp))} (C : Cx E RJ7 cJ7_fill_fda19 5 none 2 0 0) (hC : Cl sh G) (h_l0 : tg sh l0 1) (hf : fJ7_fill_fda19_S10 sh l0 l2 l3 G l4 = some o) (kb : ∀ (G2 : Hp) (b_l4 : Int32), o = .inl (G2, b_l4) → Cl sh G2 → VV E 0 0 (wq (xT E) ad G2 sh) 10 [(0, .ref (ad l0)), (2, .int l2), (3, .int l3), (4, .int b_l4)] []) (kx27 : ∀ (G2 : Hp), o = .inr G2 → Cl sh G2 → VV E 0 0 (wq (xT E) ad G2 sh) 27 [(0, .ref (ad l0)), (2, .int l2), (3, .int l3)] []) : VV E 0 0 (wq (xT E) ad G sh) 10 [(0, .ref (ad l0)), (2, .int l2), (3, .int l3), (4, .int l4)] [] := by
  unfold fJ7_fill_fda19_S10 at hf
  refine v_iload C 3 dJ7_fill_fda19_10 rfl ?_
  refine v_iload_n C 1 dJ7_fill_fda19_12 rfl rfl ?_
  refine v_icmp_ge (tgt := 27) C dJ7_fill_fda19_13 (by decide) (fun c1 => ?_) (fun c1 => ?_)
  · have hf := ip hf c1
    cases hf
    refine v_sub [0, 1, 2] rfl ?_
    exact kx27 _ rfl hC
  · have hf := im hf c1
    refine v_aload_n C 0 dJ7_fill_fda19_16 rfl rfl ?_
    refine v_iload C 3 dJ7_fill_fda19_17 rfl ?_
    refine v_iload_n C 2 dJ7_fill_fda19_19 rfl rfl ?_
    obtain ⟨G2, qG2, hf⟩ := bn hf
    refine v_iast C h_l0 qG2 hC dJ7_fill_fda19_20 (fun hC => ?_)
    obtain ⟨x3, ex3⟩ : ∃ x : Int32, x = (l4 + 1) := ⟨_, rfl⟩
    have hf := bd_at hf ex3
    refine v_iinc (v := x3) (j := 3) (lv2 := [(4, .int x3), (0, .ref (ad l0)), (2, .int l2), (3, .int l3)]) C dJ7_fill_fda19_21 rfl (by rw [ex3]; rfl) (by decide) rfl ?_
    refine v_goto (tgt := 10) C dJ7_fill_fda19_24 (by decide) ?_
    cases hf
    refine v_sub [1, 2, 3, 0] rfl ?_
    exact kb _ _ rfl hC
def fJ7_fill_fda19 (sh : Sh) (G : Hp) (l0 : Nat) (l1 : Int32) (l2 : Int32) (l3 : Int32) : Option (Hp) := (fJ7_rangeCheck_23922 (nI (ln sh l0)) l1 l2).bind fun r1 => (iter (fun s : Hp × Int32 => fJ7_fill_fda19_S10 sh l0 l2 l3 s.1 s.2) fuel ((G, l1) : Hp × Int32)).bind (fun u4 => bd u4 fun G3 => some G3)
set_option maxHeartbeats 4000000 in
theorem tJ7_fill_fda19 {E : EX} {ad : Nat → Nat} {sh : Sh} {G : Hp} {l0 : Nat} {l1 : Int32} {l2 : Int32} {l3 : Int32} {z : Hp} (C : Cx E RJ7 cJ7_fill_fda19 5 none 2 0 0) (hC : Cl sh G) (h_l0 : tg sh l0 1) (hf : fJ7_fill_fda19 sh G l0 l1 l2 l3 = some z) (kr : RCv E cJ7_fill_fda19 ad sh z) : VV E 0 0 (wq (xT E) ad G sh) 0 [(0, .ref (ad l0)), (1, .int l1), (2, .int l2), (3, .int l3)] [] := by
  unfold fJ7_fill_fda19 at hf
  refine v_aload_n C 0 dJ7_fill_fda19_0 rfl rfl ?_
  refine v_alen C h_l0 (by decide) dJ7_fill_fda19_1 ?_
  refine v_iload_n C 1 dJ7_fill_fda19_2 rfl rfl ?_
  refine v_iload_n C 2 dJ7_fill_fda19_3 rfl rfl ?_
  obtain ⟨r1, qr1, hf⟩ := bn hf
  refine v_callSv (As := [.int (nI (ln sh l0)), .int l1, .int l2]) (rest := []) C (sJ7_rangeCheck_23922  qr1) cs_J7_13 (by decide) hC rfl rfl rfl (Nat.le_of_ble_eq_true rfl) ⟨Nat.le_refl _, Nat.le_refl _⟩ dJ7_fill_fda19_4 (fun hC => ?_)
  refine v_iload_n C 1 dJ7_fill_fda19_7 rfl rfl ?_
  refine v_istore (lv2 := [(4, .int l1), (0, .ref (ad l0)), (1, .int l1), (2, .int l2), (3, .int l3)]) C dJ7_fill_fda19_8 (by decide) rfl ?_
  obtain ⟨r2, qr2, hf⟩ := bn hf
  refine v_sub [1, 3, 4, 0] rfl ?_
  refine iter_sound (P := (fun s : Hp × Int32 => Cl sh (s.1) → VV E 0 0 (wq (xT E) ad (s.1) sh) 10 [(0, .ref (ad l0)), (2, .int (l2)), (3, .int (l3)), (4, .int (s.2))] [])) (X := fun r => r = r2) (fun jsr2 jor2 hor2 jbr2 jxr2 hC => tJ7_fill_fda19_S10 C hC h_l0 hor2 (fun _ _ e => jbr2 _ e) ?_) fuel _ r2 qr2 rfl hC
  · intro G3 hu hC
    have e := jxr2 _ hu
    subst e
    have hf := bd_at hf (rfl : G3 = _)
    cases hf
    exact kr _ _ dJ7_fill_fda19_27 hC
theorem sJ7_fill_fda19 {l : Launch} {sh : Sh} {G : Hp} {l0 : Nat} {l1 : Int32} {l2 : Int32} {l3 : Int32} {z : Hp} (h_l0 : tg sh l0 1) (hf : fJ7_fill_fda19 sh G l0 l1 l2 l3 = some z) : MC l yJ7_fill_fda19 cJ7_fill_fda19 5 none 2 0 0 sh sh G z (fun ad => [.ref (ad l0), .int l1, .int l2, .int l3]) (fun _ => none) := by
  refine MC_of rfl rfl (fun _ => Nat.le_of_ble_eq_true rfl) (fun E ad C hl hnm hC hQ => ?_)
  exact tJ7_fill_fda19 C hC h_l0 hf (fun pc lv hd hC => v_vret C hQ (fun _ _ => rfl) hC rfl hd)
def fJ7_fill_53178_S5 (sh : Sh) (l0 : Nat) (l1 : Int32) (l3 : Int32) (G : Hp) (l2 : Int32) : Option ((Hp × Int32) ⊕ ((Hp))) := if l3 ≤ l2 then some (.inr G) else (asI sh G l0 l2 l1).bind fun G2 => bd ((l2 + 1) : Int32) fun x3 => some (.inl (G2, x3))
set_option maxHeartbeats 4000000 in
theorem tJ7_fill_53178_S5 {E : EX} {ad : Nat → Nat} {sh : Sh} {G : Hp} {l0 : Nat} {l1 : Int32} {l2 : Int32} {l3 : Int32} {o : (Hp × Int32) ⊕ ((Hp))} (C : Cx E RJ7 cJ7_fill_53178 4 none 1 0 0) (hC : Cl sh G) (h_l0 : tg sh l0 1) (hf : fJ7_fill_53178_S5 sh l0 l1 l3 G l2 = some o) (kb : ∀ (G2 : Hp) (b_l2 : Int32), o = .inl (G2, b_l2) → Cl sh G2 → VV E 0 0 (wq (xT E) ad G2 sh) 5 [(0, .ref (ad l0)), (1, .int l1), (2, .int b_l2), (3, .int l3)] []) (kx20 : ∀ (G2 : Hp), o = .inr G2 → Cl sh G2 → VV E 0 0 (wq (xT E) ad G2 sh) 20 [(0, .ref (ad l0)), (1, .int l1), (3, .int l3)] []) : VV E 0 0 (wq (xT E) ad G sh) 5 [(0, .ref (ad l0)), (1, .int l1), (2, .int l2), (3, .int l3)] [] := by
  unfold fJ7_fill_53178_S5 at hf
  refine v_iload_n C 2 dJ7_fill_53178_5 rfl rfl ?_
  refine v_iload_n C 3 dJ7_fill_53178_6 rfl rfl ?_
  refine v_icmp_ge (tgt := 20) C dJ7_fill_53178_7 (by decide) (fun c1 => ?_) (fun c1 => ?_)
  · have hf := ip hf c1
    cases hf
    refine v_sub [0, 1, 3] rfl ?_
    exact kx20 _ rfl hC
  · have hf := im hf c1
    refine v_aload_n C 0 dJ7_fill_53178_10 rfl rfl ?_
    refine v_iload_n C 2 dJ7_fill_53178_11 rfl rfl ?_
    refine v_iload_n C 1 dJ7_fill_53178_12 rfl rfl ?_
    obtain ⟨G2, qG2, hf⟩ := bn hf
    refine v_iast C h_l0 qG2 hC dJ7_fill_53178_13 (fun hC => ?_)
    obtain ⟨x3, ex3⟩ : ∃ x : Int32, x = (l2 + 1) := ⟨_, rfl⟩
    have hf := bd_at hf ex3
    refine v_iinc (v := x3) (j := 2) (lv2 := [(2, .int x3), (0, .ref (ad l0)), (1, .int l1), (3, .int l3)]) C dJ7_fill_53178_14 rfl (by rw [ex3]; rfl) (by decide) rfl ?_
    refine v_goto (tgt := 5) C dJ7_fill_53178_17 (by decide) ?_
    cases hf
    refine v_sub [1, 2, 0, 3] rfl ?_
    exact kb _ _ rfl hC
def fJ7_fill_53178 (sh : Sh) (G : Hp) (l0 : Nat) (l1 : Int32) : Option (Hp) := bd ((nI (ln sh l0)) : Int32) fun x1 => (iter (fun s : Hp × Int32 => fJ7_fill_53178_S5 sh l0 l1 x1 s.1 s.2) fuel ((G, 0) : Hp × Int32)).bind (fun u4 => bd u4 fun G3 => some G3)
set_option maxHeartbeats 4000000 in
theorem tJ7_fill_53178 {E : EX} {ad : Nat → Nat} {sh : Sh} {G : Hp} {l0 : Nat} {l1 : Int32} {z : Hp} (C : Cx E RJ7 cJ7_fill_53178 4 none 1 0 0) (hC : Cl sh G) (h_l0 : tg sh l0 1) (hf : fJ7_fill_53178 sh G l0 l1 = some z) (kr : RCv E cJ7_fill_53178 ad sh z) : VV E 0 0 (wq (xT E) ad G sh) 0 [(0, .ref (ad l0)), (1, .int l1)] [] := by
  unfold fJ7_fill_53178 at hf
  refine v_iconst (v := 0) C dJ7_fill_53178_0 (by decide) ?_
  refine v_istore_n (lv2 := [(2, .int 0), (0, .ref (ad l0)), (1, .int l1)]) C dJ7_fill_53178_1 rfl (by decide) rfl ?_
  refine v_aload_n C 1 dJ7_fill_53178_2 rfl rfl ?_
  refine v_alen C h_l0 (by decide) dJ7_fill_53178_3 ?_
  refine v_topi (fun x1 ex1 => ?_)
  have hf := bd_at hf ex1
  refine v_istore_n (lv2 := [(3, .int x1), (2, .int 0), (0, .ref (ad l0)), (1, .int l1)]) C dJ7_fill_53178_4 rfl (by decide) rfl ?_
  obtain ⟨r2, qr2, hf⟩ := bn hf
  refine v_sub [2, 3, 1, 0] rfl ?_
  refine iter_sound (P := (fun s : Hp × Int32 => Cl sh (s.1) → VV E 0 0 (wq (xT E) ad (s.1) sh) 5 [(0, .ref (ad l0)), (1, .int (l1)), (2, .int (s.2)), (3, .int (x1))] [])) (X := fun r => r = r2) (fun jsr2 jor2 hor2 jbr2 jxr2 hC => tJ7_fill_53178_S5 C hC h_l0 hor2 (fun _ _ e => jbr2 _ e) ?_) fuel _ r2 qr2 rfl hC
  · intro G3 hu hC
    have e := jxr2 _ hu
    subst e
    have hf := bd_at hf (rfl : G3 = _)
    cases hf
    exact kr _ _ dJ7_fill_53178_20 hC
theorem sJ7_fill_53178 {l : Launch} {sh : Sh} {G : Hp} {l0 : Nat} {l1 : Int32} {z : Hp} (h_l0 : tg sh l0 1) (hf : fJ7_fill_53178 sh G l0 l1 = some z) : MC l yJ7_fill_53178 cJ7_fill_53178 4 none 1 0 0 sh sh G z (fun ad => [.ref (ad l0), .int l1]) (fun _ => none) := by
  refine MC_of rfl rfl (fun _ => Nat.le_of_ble_eq_true rfl) (fun E ad C hl hnm hC hQ => ?_)
  exact tJ7_fill_53178 C hC h_l0 hf (fun pc lv hd hC => v_vret C hQ (fun _ _ => rfl) hC rfl hd)
def fX8_costOf (sh : Sh) (G : Hp) (l0 : Nat) (l1 : Int32) : Option (Int32) := if 0 ≤ l1 then (ldA sh G l0 8 1).bind fun a2 => (aI sh G a2 l1).bind fun v3 => some v3 else some 0
set_option maxHeartbeats 4000000 in
theorem tX8_costOf {E : EX} {ad : Nat → Nat} {sh : Sh} {G : Hp} {l0 : Nat} {l1 : Int32} {z : Int32} (C : Cx E RX8 cX8_costOf 2 (some .int) 1 0 0) (hC : Cl sh G) (h_l0 : sh[l0]? = some (0, 8)) (hf : fX8_costOf sh G l0 l1 = some z) (kr : RCi E cX8_costOf ad sh z G) : VV E 0 0 (wq (xT E) ad G sh) 0 [(0, .ref (ad l0)), (1, .int l1)] [] := by
  unfold fX8_costOf at hf
  refine v_iload_n C 1 dX8_costOf_0 rfl rfl ?_
  refine v_if_ge (tgt := 8) C dX8_costOf_1 (by decide) (fun c1 => ?_) (fun c1 => ?_)
  · have hf := ip hf c1
    refine v_aload_n C 0 dX8_costOf_8 rfl rfl ?_
    obtain ⟨a2, qa2, hf⟩ := bn hf
    refine v_getA C h_l0 fl_X8_18 qa2 dX8_costOf_9 (fun h_a2 => ?_)
    refine v_iload_n C 1 dX8_costOf_12 rfl rfl ?_
    obtain ⟨v3, qv3, hf⟩ := bn hf
    refine v_iald C h_a2 qv3 dX8_costOf_13 ?_
    cases hf
    exact kr _ _ dX8_costOf_14 hC
  · have hf := im hf c1
    refine v_iconst (v := 0) C dX8_costOf_4 (by decide) ?_
    refine v_goto (tgt := 14) C dX8_costOf_5 (by decide) ?_
    cases hf
    exact kr _ _ dX8_costOf_14 hC
theorem sX8_costOf {l : Launch} {sh : Sh} {G : Hp} {l0 : Nat} {l1 : Int32} {z : Int32} (h_l0 : sh[l0]? = some (0, 8)) (hf : fX8_costOf sh G l0 l1 = some z) : MC l yX8_costOf cX8_costOf 2 (some .int) 1 0 0 sh sh G G (fun ad => [.ref (ad l0), .int l1]) (fun _ => some (.int z)) := by
  refine MC_of rfl rfl (fun _ => Nat.le_of_ble_eq_true rfl) (fun E ad C hl hnm hC hQ => ?_)
  exact tX8_costOf C hC h_l0 hf (fun pc lv hd hC => v_iret C hQ (fun _ _ => rfl) hC rfl hd)
def fX8_setOf (sh : Sh) (G : Hp) (l0 : Nat) (l1 : Int32) (l2 : Int32) : Option (Int32) := if 0 ≤ l2 then (ldA sh G l0 7 1).bind fun a2 => (aI sh G a2 l1).bind fun v3 => (ldA sh G l0 9 1).bind fun a4 => (aI sh G a4 l2).bind fun v5 => (ldA sh G l0 10 1).bind fun a6 => (aI sh G a6 l2).bind fun v7 => some ((v3 ||| v5) &&& (v7 ^^^ (-1))) else (ldA sh G l0 7 1).bind fun a8 => (aI sh G a8 l1).bind fun v9 => some v9
set_option maxHeartbeats 4000000 in
theorem tX8_setOf {E : EX} {ad : Nat → Nat} {sh : Sh} {G : Hp} {l0 : Nat} {l1 : Int32} {l2 : Int32} {z : Int32} (C : Cx E RX8 cX8_setOf 3 (some .int) 1 0 0) (hC : Cl sh G) (h_l0 : sh[l0]? = some (0, 8)) (hf : fX8_setOf sh G l0 l1 l2 = some z) (kr : RCi E cX8_setOf ad sh z G) : VV E 0 0 (wq (xT E) ad G sh) 0 [(0, .ref (ad l0)), (1, .int l1), (2, .int l2)] [] := by
  unfold fX8_setOf at hf
  refine v_iload_n C 2 dX8_setOf_0 rfl rfl ?_
  refine v_if_ge (tgt := 13) C dX8_setOf_1 (by decide) (fun c1 => ?_) (fun c1 => ?_)
  · have hf := ip hf c1
    refine v_aload_n C 0 dX8_setOf_13 rfl rfl ?_
    obtain ⟨a2, qa2, hf⟩ := bn hf
    refine v_getA C h_l0 fl_X8_15 qa2 dX8_setOf_14 (fun h_a2 => ?_)
    refine v_iload_n C 1 dX8_setOf_17 rfl rfl ?_
    obtain ⟨v3, qv3, hf⟩ := bn hf
    refine v_iald C h_a2 qv3 dX8_setOf_18 ?_
    refine v_aload_n C 0 dX8_setOf_19 rfl rfl ?_
    obtain ⟨a4, qa4, hf⟩ := bn hf
    refine v_getA C h_l0 fl_X8_21 qa4 dX8_setOf_20 (fun h_a4 => ?_)
    refine v_iload_n C 2 dX8_setOf_23 rfl rfl ?_
    obtain ⟨v5, qv5, hf⟩ := bn hf
    refine v_iald C h_a4 qv5 dX8_setOf_24 ?_
    refine v_ior C dX8_setOf_25 ?_
    refine v_aload_n C 0 dX8_setOf_26 rfl rfl ?_
    obtain ⟨a6, qa6, hf⟩ := bn hf
    refine v_getA C h_l0 fl_X8_24 qa6 dX8_setOf_27 (fun h_a6 => ?_)
    refine v_iload_n C 2 dX8_setOf_30 rfl rfl ?_
    obtain ⟨v7, qv7, hf⟩ := bn hf
    refine v_iald C h_a6 qv7 dX8_setOf_31 ?_
    refine v_iconst (v := (-1)) C dX8_setOf_32 (by decide) ?_
    refine v_ixor C dX8_setOf_33 ?_
    refine v_iand C dX8_setOf_34 ?_
    cases hf
    exact kr _ _ dX8_setOf_35 hC
  · have hf := im hf c1
    refine v_aload_n C 0 dX8_setOf_4 rfl rfl ?_
    obtain ⟨a8, qa8, hf⟩ := bn hf
    refine v_getA C h_l0 fl_X8_15 qa8 dX8_setOf_5 (fun h_a8 => ?_)
    refine v_iload_n C 1 dX8_setOf_8 rfl rfl ?_
    obtain ⟨v9, qv9, hf⟩ := bn hf
    refine v_iald C h_a8 qv9 dX8_setOf_9 ?_
    refine v_goto (tgt := 35) C dX8_setOf_10 (by decide) ?_
    cases hf
    exact kr _ _ dX8_setOf_35 hC
theorem sX8_setOf {l : Launch} {sh : Sh} {G : Hp} {l0 : Nat} {l1 : Int32} {l2 : Int32} {z : Int32} (h_l0 : sh[l0]? = some (0, 8)) (hf : fX8_setOf sh G l0 l1 l2 = some z) : MC l yX8_setOf cX8_setOf 3 (some .int) 1 0 0 sh sh G G (fun ad => [.ref (ad l0), .int l1, .int l2]) (fun _ => some (.int z)) := by
  refine MC_of rfl rfl (fun _ => Nat.le_of_ble_eq_true rfl) (fun E ad C hl hnm hC hQ => ?_)
  exact tX8_setOf C hC h_l0 hf (fun pc lv hd hC => v_iret C hQ (fun _ _ => rfl) hC rfl hd)
def fX8_clauseHolds (sh : Sh) (G : Hp) (l0 : Nat) (l1 : Int32) (l2 : Int32) : Option (Int32) := (fX8_hasBridge sh G l0 l1).bind fun r1 => if r1 = 0 then some 0 else if l2 < 0 then some 0 else if l2 < 256 then (ldA sh G l0 13 4).bind fun a5 => (aJ sh G a5 ((l1 * 4) + (ush l2 6))).bind fun v6 => if (lg_cmp ((lush v6 (l2 &&& 63)) &&& 1) 0) = 0 then some 0 else some 1 else some 0
set_option maxHeartbeats 4000000 in
theorem tX8_clauseHolds {E : EX} {ad : Nat → Nat} {sh : Sh} {G : Hp} {l0 : Nat} {l1 : Int32} {l2 : Int32} {z : Int32} (C : Cx E RX8 cX8_clauseHolds 3 (some .boolean) 2 0 0) (hC : Cl sh G) (h_l0 : sh[l0]? = some (0, 8)) (hf : fX8_clauseHolds sh G l0 l1 l2 = some z) (kr : RCz E cX8_clauseHolds ad sh z G) : VV E 0 0 (wq (xT E) ad G sh) 0 [(0, .ref (ad l0)), (1, .int l1), (2, .int l2)] [] := by
  unfold fX8_clauseHolds at hf
  refine v_aload_n C 0 dX8_clauseHolds_0 rfl rfl ?_
  refine v_iload_n C 1 dX8_clauseHolds_1 rfl rfl ?_
  obtain ⟨r1, qr1, hf⟩ := bn hf
  refine v_callVi (As := [.int l1]) (rest := []) C (sX8_hasBridge h_l0 qr1) cs_X8_76 (by decide) h_l0 rfl hC rfl rfl rfl (Nat.le_of_ble_eq_true rfl) ⟨Nat.le_refl _, Nat.le_refl _⟩ dX8_clauseHolds_2 (fun hC => ?_)
  refine v_if_eq (tgt := 19) C dX8_clauseHolds_5 (by decide) (fun c2 => ?_) (fun c2 => ?_)
  · have hf := ip hf c2
    refine v_iconst (v := 0) C dX8_clauseHolds_19 (by decide) ?_
    cases hf
    exact kr _ _ dX8_clauseHolds_20 (Or.inl rfl) hC
  · have hf := im hf c2
    refine v_iload_n C 2 dX8_clauseHolds_8 rfl rfl ?_
    refine v_if_lt (tgt := 19) C dX8_clauseHolds_9 (by decide) (fun c3 => ?_) (fun c3 => ?_)
    · have hf := ip hf c3
      refine v_iconst (v := 0) C dX8_clauseHolds_19 (by decide) ?_
      cases hf
      exact kr _ _ dX8_clauseHolds_20 (Or.inl rfl) hC
    · have hf := im hf c3
      refine v_iload_n C 2 dX8_clauseHolds_12 rfl rfl ?_
      refine v_sipush (v := 256) C dX8_clauseHolds_13 (by decide) ?_
      refine v_icmp_lt (tgt := 21) C dX8_clauseHolds_16 (by decide) (fun c4 => ?_) (fun c4 => ?_)
      · have hf := ip hf c4
        refine v_aload_n C 0 dX8_clauseHolds_21 rfl rfl ?_
        obtain ⟨a5, qa5, hf⟩ := bn hf
        refine v_getA C h_l0 fl_X8_33 qa5 dX8_clauseHolds_22 (fun h_a5 => ?_)
        refine v_iload_n C 1 dX8_clauseHolds_25 rfl rfl ?_
        refine v_iconst (v := 4) C dX8_clauseHolds_26 (by decide) ?_
        refine v_imul C dX8_clauseHolds_27 ?_
        refine v_iload_n C 2 dX8_clauseHolds_28 rfl rfl ?_
        refine v_bipush (v := 6) C dX8_clauseHolds_29 (by decide) ?_
        refine v_iushr C dX8_clauseHolds_31 ?_
        refine v_iadd C dX8_clauseHolds_32 ?_
        obtain ⟨v6, qv6, hf⟩ := bn hf
        refine v_lald C h_a5 qv6 dX8_clauseHolds_33 ?_
        refine v_iload_n C 2 dX8_clauseHolds_34 rfl rfl ?_
        refine v_bipush (v := 63) C dX8_clauseHolds_35 (by decide) ?_
        refine v_iand C dX8_clauseHolds_37 ?_
        refine v_lushr C dX8_clauseHolds_38 ?_
        refine v_lconst (v := 1) C dX8_clauseHolds_39 (by decide) ?_
        refine v_land C dX8_clauseHolds_40 ?_
        refine v_lconst (v := 0) C dX8_clauseHolds_41 (by decide) ?_
        refine v_lcmp C dX8_clauseHolds_42 ?_
        refine v_if_eq (tgt := 50) C dX8_clauseHolds_43 (by decide) (fun c7 => ?_) (fun c7 => ?_)
        · have hf := ip hf c7
          refine v_iconst (v := 0) C dX8_clauseHolds_50 (by decide) ?_
          cases hf
          exact kr _ _ dX8_clauseHolds_51 (Or.inl rfl) hC
        · have hf := im hf c7
          refine v_iconst (v := 1) C dX8_clauseHolds_46 (by decide) ?_
          refine v_goto (tgt := 51) C dX8_clauseHolds_47 (by decide) ?_
          cases hf
          exact kr _ _ dX8_clauseHolds_51 (Or.inr rfl) hC
      · have hf := im hf c4
        refine v_iconst (v := 0) C dX8_clauseHolds_19 (by decide) ?_
        cases hf
        exact kr _ _ dX8_clauseHolds_20 (Or.inl rfl) hC
theorem sX8_clauseHolds {l : Launch} {sh : Sh} {G : Hp} {l0 : Nat} {l1 : Int32} {l2 : Int32} {z : Int32} (h_l0 : sh[l0]? = some (0, 8)) (hf : fX8_clauseHolds sh G l0 l1 l2 = some z) : MC l yX8_clauseHolds cX8_clauseHolds 3 (some .boolean) 2 0 0 sh sh G G (fun ad => [.ref (ad l0), .int l1, .int l2]) (fun _ => some (.int z)) := by
  refine MC_of rfl rfl (fun _ => Nat.le_of_ble_eq_true rfl) (fun E ad C hl hnm hC hQ => ?_)
  exact tX8_clauseHolds C hC h_l0 hf (fun pc lv hd hz hC => v_zret C hQ (fun _ _ => rfl) hC rfl hz hd)
def fX1_hasLearnt_S2 (sh : Sh) (l0 : Nat) (l1 : Int32) (G : Hp) (l2 : Int32) : Option ((Int32) ⊕ ((Unit) ⊕ (Unit))) := if (G.1 l0 4) ≤ l2 then some (.inr (.inl ())) else (ldA sh G l0 3 1).bind fun a2 => (aI sh G a2 l2).bind fun v3 => if v3 = l1 then some (.inr (.inr ())) else bd ((l2 + 1) : Int32) fun x5 => some (.inl x5)
set_option maxHeartbeats 4000000 in
theorem tX1_hasLearnt_S2 {E : EX} {ad : Nat → Nat} {sh : Sh} {G : Hp} {l0 : Nat} {l1 : Int32} {l2 : Int32} {o : (Int32) ⊕ ((Unit) ⊕ (Unit))} (C : Cx E RX1 cX1_hasLearnt 3 (some .boolean) 1 0 0) (hC : Cl sh G) (h_l0 : sh[l0]? = some (0, 1)) (hf : fX1_hasLearnt_S2 sh l0 l1 G l2 = some o) (kb : ∀ (b_l2 : Int32), o = .inl b_l2 → VV E 0 0 (wq (xT E) ad G sh) 2 [(0, .ref (ad l0)), (1, .int l1), (2, .int b_l2)] []) (kx28 : o = .inr (.inl ()) → VV E 0 0 (wq (xT E) ad G sh) 28 [(0, .ref (ad l0)), (1, .int l1)] []) (kx20 : o = .inr (.inr ()) → VV E 0 0 (wq (xT E) ad G sh) 20 [(0, .ref (ad l0)), (1, .int l1)] []) : VV E 0 0 (wq (xT E) ad G sh) 2 [(0, .ref (ad l0)), (1, .int l1), (2, .int l2)] [] := by
  unfold fX1_hasLearnt_S2 at hf
  refine v_iload_n C 2 dX1_hasLearnt_2 rfl rfl ?_
  refine v_aload_n C 0 dX1_hasLearnt_3 rfl rfl ?_
  refine v_getI C h_l0 fl_X1_39 dX1_hasLearnt_4 ?_
  refine v_icmp_ge (tgt := 28) C dX1_hasLearnt_7 (by decide) (fun c1 => ?_) (fun c1 => ?_)
  · have hf := ip hf c1
    cases hf
    refine v_sub [0, 1] rfl ?_
    exact kx28 rfl
  · have hf := im hf c1
    refine v_aload_n C 0 dX1_hasLearnt_10 rfl rfl ?_
    obtain ⟨a2, qa2, hf⟩ := bn hf
    refine v_getA C h_l0 fl_X1_21 qa2 dX1_hasLearnt_11 (fun h_a2 => ?_)
    refine v_iload_n C 2 dX1_hasLearnt_14 rfl rfl ?_
    obtain ⟨v3, qv3, hf⟩ := bn hf
    refine v_iald C h_a2 qv3 dX1_hasLearnt_15 ?_
    refine v_iload_n C 1 dX1_hasLearnt_16 rfl rfl ?_
    refine v_icmp_ne (tgt := 22) C dX1_hasLearnt_17 (by decide) (fun c4 => ?_) (fun c4 => ?_)
    · have hf := im hf c4
      obtain ⟨x5, ex5⟩ : ∃ x : Int32, x = (l2 + 1) := ⟨_, rfl⟩
      have hf := bd_at hf ex5
      refine v_iinc (v := x5) (j := 2) (lv2 := [(2, .int x5), (0, .ref (ad l0)), (1, .int l1)]) C dX1_hasLearnt_22 rfl (by rw [ex5]; rfl) (by decide) rfl ?_
      refine v_goto (tgt := 2) C dX1_hasLearnt_25 (by decide) ?_
      cases hf
      refine v_sub [1, 2, 0] rfl ?_
      exact kb _ rfl
    · have hf := ip hf c4
      cases hf
      refine v_sub [0, 1] rfl ?_
      exact kx20 rfl
def fX1_hasLearnt (sh : Sh) (G : Hp) (l0 : Nat) (l1 : Int32) : Option (Int32) := (iter (fun s : Int32 => fX1_hasLearnt_S2 sh l0 l1 G s) fuel (0 : Int32)).bind (Sum.elim (fun _ => some 0) (fun _ => some 1))
set_option maxHeartbeats 4000000 in
theorem tX1_hasLearnt {E : EX} {ad : Nat → Nat} {sh : Sh} {G : Hp} {l0 : Nat} {l1 : Int32} {z : Int32} (C : Cx E RX1 cX1_hasLearnt 3 (some .boolean) 1 0 0) (hC : Cl sh G) (h_l0 : sh[l0]? = some (0, 1)) (hf : fX1_hasLearnt sh G l0 l1 = some z) (kr : RCz E cX1_hasLearnt ad sh z G) : VV E 0 0 (wq (xT E) ad G sh) 0 [(0, .ref (ad l0)), (1, .int l1)] [] := by
  unfold fX1_hasLearnt at hf
  refine v_iconst (v := 0) C dX1_hasLearnt_0 (by decide) ?_
  refine v_istore_n (lv2 := [(2, .int 0), (0, .ref (ad l0)), (1, .int l1)]) C dX1_hasLearnt_1 rfl (by decide) rfl ?_
  obtain ⟨r1, qr1, hf⟩ := bn hf
  refine v_sub [1, 2, 0] rfl ?_
  refine iter_sound (P := (fun s : Int32 => VV E 0 0 (wq (xT E) ad (G) sh) 2 [(0, .ref (ad l0)), (1, .int (l1)), (2, .int (s))] [])) (X := fun r => r = r1) (fun jsr1 jor1 hor1 jbr1 jxr1 => tX1_hasLearnt_S2 C hC h_l0 hor1 (fun _ e => jbr1 _ e) ?_ ?_) fuel _ r1 qr1 rfl
  · intro  hu
    have e := jxr1 _ hu
    subst e
    have hf := sm_l hf
    refine v_iconst (v := 0) C dX1_hasLearnt_28 (by decide) ?_
    cases hf
    exact kr _ _ dX1_hasLearnt_29 (Or.inl rfl) hC
  · intro  hu
    have e := jxr1 _ hu
    subst e
    have hf := sm_r hf
    refine v_iconst (v := 1) C dX1_hasLearnt_20 (by decide) ?_
    cases hf
    exact kr _ _ dX1_hasLearnt_21 (Or.inr rfl) hC
theorem sX1_hasLearnt {l : Launch} {sh : Sh} {G : Hp} {l0 : Nat} {l1 : Int32} {z : Int32} (h_l0 : sh[l0]? = some (0, 1)) (hf : fX1_hasLearnt sh G l0 l1 = some z) : MC l yX1_hasLearnt cX1_hasLearnt 3 (some .boolean) 1 0 0 sh sh G G (fun ad => [.ref (ad l0), .int l1]) (fun _ => some (.int z)) := by
  refine MC_of rfl rfl (fun _ => Nat.le_of_ble_eq_true rfl) (fun E ad C hl hnm hC hQ => ?_)
  exact tX1_hasLearnt C hC h_l0 hf (fun pc lv hd hz hC => v_zret C hQ (fun _ _ => rfl) hC rfl hz hd)
def fX1_takes (sh : Sh) (G : Hp) (l0 : Nat) (l1 : Nat) (l2 : Int32) (l3 : Int32) : Option (Int32) := (fX8_clauseHolds sh G l1 l2 l3).bind fun r1 => if r1 = 0 then some 0 else (fX1_hasLearnt sh G l0 l3).bind fun r3 => if r3 = 0 then some 1 else some 0
set_option maxHeartbeats 4000000 in
theorem tX1_takes {E : EX} {ad : Nat → Nat} {sh : Sh} {G : Hp} {l0 : Nat} {l1 : Nat} {l2 : Int32} {l3 : Int32} {z : Int32} (C : Cx E RX1 cX1_takes 4 (some .boolean) 3 0 0) (hC : Cl sh G) (h_l0 : sh[l0]? = some (0, 1)) (h_l1 : sh[l1]? = some (0, 8)) (hf : fX1_takes sh G l0 l1 l2 l3 = some z) (kr : RCz E cX1_takes ad sh z G) : VV E 0 0 (wq (xT E) ad G sh) 0 [(0, .ref (ad l0)), (1, .ref (ad l1)), (2, .int l2), (3, .int l3)] [] := by
  unfold fX1_takes at hf
  refine v_aload_n C 1 dX1_takes_0 rfl rfl ?_
  refine v_iload_n C 2 dX1_takes_1 rfl rfl ?_
  refine v_iload_n C 3 dX1_takes_2 rfl rfl ?_
  obtain ⟨r1, qr1, hf⟩ := bn hf
  refine v_callVi (As := [.int l2, .int l3]) (rest := []) C (sX8_clauseHolds h_l1 qr1) cs_X1_58 (by decide) h_l1 rfl hC rfl rfl rfl (Nat.le_of_ble_eq_true rfl) ⟨Nat.le_refl _, Nat.le_refl _⟩ dX1_takes_3 (fun hC => ?_)
  refine v_if_eq (tgt := 21) C dX1_takes_6 (by decide) (fun c2 => ?_) (fun c2 => ?_)
  · have hf := ip hf c2
    refine v_iconst (v := 0) C dX1_takes_21 (by decide) ?_
    cases hf
    exact kr _ _ dX1_takes_22 (Or.inl rfl) hC
  · have hf := im hf c2
    refine v_aload_n C 0 dX1_takes_9 rfl rfl ?_
    refine v_iload_n C 3 dX1_takes_10 rfl rfl ?_
    obtain ⟨r3, qr3, hf⟩ := bn hf
    refine v_callVi (As := [.int l3]) (rest := []) C (sX1_hasLearnt h_l0 qr3) cs_X1_62 (by decide) h_l0 rfl hC rfl rfl rfl (Nat.le_of_ble_eq_true rfl) ⟨Nat.le_refl _, Nat.le_refl _⟩ dX1_takes_11 (fun hC => ?_)
    refine v_if_ne (tgt := 21) C dX1_takes_14 (by decide) (fun c4 => ?_) (fun c4 => ?_)
    · have hf := im hf c4
      refine v_iconst (v := 0) C dX1_takes_21 (by decide) ?_
      cases hf
      exact kr _ _ dX1_takes_22 (Or.inl rfl) hC
    · have hf := ip hf c4
      refine v_iconst (v := 1) C dX1_takes_17 (by decide) ?_
      refine v_goto (tgt := 22) C dX1_takes_18 (by decide) ?_
      cases hf
      exact kr _ _ dX1_takes_22 (Or.inr rfl) hC
theorem sX1_takes {l : Launch} {sh : Sh} {G : Hp} {l0 : Nat} {l1 : Nat} {l2 : Int32} {l3 : Int32} {z : Int32} (h_l0 : sh[l0]? = some (0, 1)) (h_l1 : sh[l1]? = some (0, 8)) (hf : fX1_takes sh G l0 l1 l2 l3 = some z) : MC l yX1_takes cX1_takes 4 (some .boolean) 3 0 0 sh sh G G (fun ad => [.ref (ad l0), .ref (ad l1), .int l2, .int l3]) (fun _ => some (.int z)) := by
  refine MC_of rfl rfl (fun _ => Nat.le_of_ble_eq_true rfl) (fun E ad C hl hnm hC hQ => ?_)
  exact tX1_takes C hC h_l0 h_l1 hf (fun pc lv hd hz hC => v_zret C hQ (fun _ _ => rfl) hC rfl hz hd)
def fX5_cheapestWay_J43L7 (sh : Sh) (G : Hp) (l0 : Nat) (l1 : Nat) (l2 : Int32) (l3 : Int32) (l4 : Int32) (l5 : Int32) (s0 : Int32) : Option ((Int32 × Int32) ⊕ ((Int32))) := if s0 = 0 then bd ((l5 + 1) : Int32) fun x2 => some (.inl (l4, x2)) else (fX8_setOf sh G l0 l3 l5).bind fun r3 => (fX1_takes sh G l1 l0 l2 r3).bind fun r4 => if r4 = 0 then bd ((l5 + 1) : Int32) fun x6 => some (.inl (l4, x6)) else bd ((l5 + 1) : Int32) fun x7 => some (.inl (l5, x7))
set_option maxHeartbeats 4000000 in
theorem tX5_cheapestWay_J43L7 {E : EX} {ad : Nat → Nat} {sh : Sh} {G : Hp} {l0 : Nat} {l1 : Nat} {l2 : Int32} {l3 : Int32} {l4 : Int32} {l5 : Int32} {s0 : Int32} {o : (Int32 × Int32) ⊕ ((Int32))} (C : Cx E RX5 cX5_cheapestWay 7 (some .int) 4 0 0) (hC : Cl sh G) (h_l0 : sh[l0]? = some (0, 8)) (h_l1 : sh[l1]? = some (0, 1)) (hf : fX5_cheapestWay_J43L7 sh G l0 l1 l2 l3 l4 l5 s0 = some o) (kb : ∀ (b_l4 : Int32) (b_l5 : Int32), o = .inl (b_l4, b_l5) → VV E 0 0 (wq (xT E) ad G sh) 7 [(0, .ref (ad l0)), (1, .ref (ad l1)), (2, .int l2), (3, .int l3), (4, .int b_l4), (5, .int b_l5)] []) (kx76 : ∀ (b_l4 : Int32), o = .inr b_l4 → VV E 0 0 (wq (xT E) ad G sh) 76 [(0, .ref (ad l0)), (1, .ref (ad l1)), (2, .int l2), (3, .int l3), (4, .int b_l4)] []) : VV E 0 0 (wq (xT E) ad G sh) 43 [(0, .ref (ad l0)), (1, .ref (ad l1)), (2, .int l2), (3, .int l3), (4, .int l4), (5, .int l5)] [.int s0] := by
  unfold fX5_cheapestWay_J43L7 at hf
  refine v_istore (lv2 := [(6, .int s0), (0, .ref (ad l0)), (1, .ref (ad l1)), (2, .int l2), (3, .int l3), (4, .int l4), (5, .int l5)]) C dX5_cheapestWay_43 (by decide) rfl ?_
  refine v_iload C 0 dX5_cheapestWay_45 rfl ?_
  refine v_if_eq (tgt := 70) C dX5_cheapestWay_47 (by decide) (fun c1 => ?_) (fun c1 => ?_)
  · have hf := ip hf c1
    obtain ⟨x2, ex2⟩ : ∃ x : Int32, x = (l5 + 1) := ⟨_, rfl⟩
    have hf := bd_at hf ex2
    refine v_iinc (v := x2) (j := 6) (lv2 := [(5, .int x2), (6, .int s0), (0, .ref (ad l0)), (1, .ref (ad l1)), (2, .int l2), (3, .int l3), (4, .int l4)]) C dX5_cheapestWay_70 rfl (by rw [ex2]; rfl) (by decide) rfl ?_
    refine v_goto (tgt := 7) C dX5_cheapestWay_73 (by decide) ?_
    cases hf
    refine v_sub [2, 3, 4, 5, 6, 0] rfl ?_
    exact kb _ _ rfl
  · have hf := im hf c1
    refine v_aload_n C 2 dX5_cheapestWay_50 rfl rfl ?_
    refine v_aload_n C 1 dX5_cheapestWay_51 rfl rfl ?_
    refine v_iload_n C 3 dX5_cheapestWay_52 rfl rfl ?_
    refine v_aload_n C 1 dX5_cheapestWay_53 rfl rfl ?_
    refine v_iload_n C 4 dX5_cheapestWay_54 rfl rfl ?_
    refine v_iload C 6 dX5_cheapestWay_55 rfl ?_
    obtain ⟨r3, qr3, hf⟩ := bn hf
    refine v_callVi (As := [.int l3, .int l5]) (rest := [.int l2, .ref (ad l0), .ref (ad l1)]) C (sX8_setOf h_l0 qr3) cs_X5_75 (by decide) h_l0 rfl hC rfl rfl rfl (Nat.le_of_ble_eq_true rfl) ⟨Nat.le_refl _, Nat.le_refl _⟩ dX5_cheapestWay_57 (fun hC => ?_)
    obtain ⟨r4, qr4, hf⟩ := bn hf
    refine v_callVi (As := [.ref (ad l0), .int l2, .int r3]) (rest := []) C (sX1_takes h_l1 h_l0 qr4) cs_X5_79 (by decide) h_l1 rfl hC rfl rfl rfl (Nat.le_of_ble_eq_true rfl) ⟨Nat.le_refl _, Nat.le_refl _⟩ dX5_cheapestWay_60 (fun hC => ?_)
    refine v_if_eq (tgt := 70) C dX5_cheapestWay_63 (by decide) (fun c5 => ?_) (fun c5 => ?_)
    · have hf := ip hf c5
      obtain ⟨x6, ex6⟩ : ∃ x : Int32, x = (l5 + 1) := ⟨_, rfl⟩
      have hf := bd_at hf ex6
      refine v_iinc (v := x6) (j := 6) (lv2 := [(5, .int x6), (6, .int s0), (0, .ref (ad l0)), (1, .ref (ad l1)), (2, .int l2), (3, .int l3), (4, .int l4)]) C dX5_cheapestWay_70 rfl (by rw [ex6]; rfl) (by decide) rfl ?_
      refine v_goto (tgt := 7) C dX5_cheapestWay_73 (by decide) ?_
      cases hf
      refine v_sub [2, 3, 4, 5, 6, 0] rfl ?_
      exact kb _ _ rfl
    · have hf := im hf c5
      refine v_iload C 6 dX5_cheapestWay_66 rfl ?_
      refine v_istore (lv2 := [(4, .int l5), (6, .int s0), (0, .ref (ad l0)), (1, .ref (ad l1)), (2, .int l2), (3, .int l3), (5, .int l5)]) C dX5_cheapestWay_68 (by decide) rfl ?_
      obtain ⟨x7, ex7⟩ : ∃ x : Int32, x = (l5 + 1) := ⟨_, rfl⟩
      have hf := bd_at hf ex7
      refine v_iinc (v := x7) (j := 6) (lv2 := [(5, .int x7), (4, .int l5), (6, .int s0), (0, .ref (ad l0)), (1, .ref (ad l1)), (2, .int l2), (3, .int l3)]) C dX5_cheapestWay_70 rfl (by rw [ex7]; rfl) (by decide) rfl ?_
      refine v_goto (tgt := 7) C dX5_cheapestWay_73 (by decide) ?_
      cases hf
      refine v_sub [3, 4, 5, 6, 1, 0] rfl ?_
      exact kb _ _ rfl
def fX5_cheapestWay_J38L7 (sh : Sh) (G : Hp) (l0 : Nat) (l1 : Nat) (l2 : Int32) (l3 : Int32) (l4 : Int32) (l5 : Int32) : Option ((Int32 × Int32) ⊕ ((Int32))) := fX5_cheapestWay_J43L7 sh G l0 l1 l2 l3 l4 l5 1
set_option maxHeartbeats 4000000 in
theorem tX5_cheapestWay_J38L7 {E : EX} {ad : Nat → Nat} {sh : Sh} {G : Hp} {l0 : Nat} {l1 : Nat} {l2 : Int32} {l3 : Int32} {l4 : Int32} {l5 : Int32} {o : (Int32 × Int32) ⊕ ((Int32))} (C : Cx E RX5 cX5_cheapestWay 7 (some .int) 4 0 0) (hC : Cl sh G) (h_l0 : sh[l0]? = some (0, 8)) (h_l1 : sh[l1]? = some (0, 1)) (hf : fX5_cheapestWay_J38L7 sh G l0 l1 l2 l3 l4 l5 = some o) (kb : ∀ (b_l4 : Int32) (b_l5 : Int32), o = .inl (b_l4, b_l5) → VV E 0 0 (wq (xT E) ad G sh) 7 [(0, .ref (ad l0)), (1, .ref (ad l1)), (2, .int l2), (3, .int l3), (4, .int b_l4), (5, .int b_l5)] []) (kx76 : ∀ (b_l4 : Int32), o = .inr b_l4 → VV E 0 0 (wq (xT E) ad G sh) 76 [(0, .ref (ad l0)), (1, .ref (ad l1)), (2, .int l2), (3, .int l3), (4, .int b_l4)] []) : VV E 0 0 (wq (xT E) ad G sh) 38 [(0, .ref (ad l0)), (1, .ref (ad l1)), (2, .int l2), (3, .int l3), (4, .int l4), (5, .int l5)] [] := by
  unfold fX5_cheapestWay_J38L7 at hf
  refine v_iconst (v := 1) C dX5_cheapestWay_38 (by decide) ?_
  refine v_goto (tgt := 43) C dX5_cheapestWay_39 (by decide) ?_
  refine v_sub [0, 1, 2, 3, 4, 5] rfl ?_
  exact tX5_cheapestWay_J43L7 C hC h_l0 h_l1 hf kb kx76
def fX5_cheapestWay_S7 (sh : Sh) (l0 : Nat) (l1 : Nat) (l2 : Int32) (l3 : Int32) (G : Hp) (l4 : Int32) (l5 : Int32) : Option ((Int32 × Int32) ⊕ ((Int32))) := if (G.1 l0 2) ≤ l5 then some (.inr l4) else if l4 = (-2) then fX5_cheapestWay_J38L7 sh G l0 l1 l2 l3 l4 l5 else (fX8_costOf sh G l0 l5).bind fun r3 => (fX8_costOf sh G l0 l4).bind fun r4 => if r4 ≤ r3 then fX5_cheapestWay_J43L7 sh G l0 l1 l2 l3 l4 l5 0 else fX5_cheapestWay_J38L7 sh G l0 l1 l2 l3 l4 l5
set_option maxHeartbeats 4000000 in
theorem tX5_cheapestWay_S7 {E : EX} {ad : Nat → Nat} {sh : Sh} {G : Hp} {l0 : Nat} {l1 : Nat} {l2 : Int32} {l3 : Int32} {l4 : Int32} {l5 : Int32} {o : (Int32 × Int32) ⊕ ((Int32))} (C : Cx E RX5 cX5_cheapestWay 7 (some .int) 4 0 0) (hC : Cl sh G) (h_l0 : sh[l0]? = some (0, 8)) (h_l1 : sh[l1]? = some (0, 1)) (hf : fX5_cheapestWay_S7 sh l0 l1 l2 l3 G l4 l5 = some o) (kb : ∀ (b_l4 : Int32) (b_l5 : Int32), o = .inl (b_l4, b_l5) → VV E 0 0 (wq (xT E) ad G sh) 7 [(0, .ref (ad l0)), (1, .ref (ad l1)), (2, .int l2), (3, .int l3), (4, .int b_l4), (5, .int b_l5)] []) (kx76 : ∀ (b_l4 : Int32), o = .inr b_l4 → VV E 0 0 (wq (xT E) ad G sh) 76 [(0, .ref (ad l0)), (1, .ref (ad l1)), (2, .int l2), (3, .int l3), (4, .int b_l4)] []) : VV E 0 0 (wq (xT E) ad G sh) 7 [(0, .ref (ad l0)), (1, .ref (ad l1)), (2, .int l2), (3, .int l3), (4, .int l4), (5, .int l5)] [] := by
  unfold fX5_cheapestWay_S7 at hf
  refine v_iload C 5 dX5_cheapestWay_7 rfl ?_
  refine v_aload_n C 0 dX5_cheapestWay_9 rfl rfl ?_
  refine v_getI C h_l0 fl_X5_72 dX5_cheapestWay_10 ?_
  refine v_icmp_ge (tgt := 76) C dX5_cheapestWay_13 (by decide) (fun c1 => ?_) (fun c1 => ?_)
  · have hf := ip hf c1
    cases hf
    refine v_sub [0, 1, 2, 3, 4] rfl ?_
    exact kx76 _ rfl
  · have hf := im hf c1
    refine v_iload C 4 dX5_cheapestWay_16 rfl ?_
    refine v_bipush (v := (-2)) C dX5_cheapestWay_18 (by decide) ?_
    refine v_icmp_eq (tgt := 38) C dX5_cheapestWay_20 (by decide) (fun c2 => ?_) (fun c2 => ?_)
    · have hf := ip hf c2
      refine v_sub [0, 1, 2, 3, 4, 5] rfl ?_
      exact tX5_cheapestWay_J38L7 C hC h_l0 h_l1 hf kb kx76
    · have hf := im hf c2
      refine v_aload_n C 0 dX5_cheapestWay_23 rfl rfl ?_
      refine v_iload C 5 dX5_cheapestWay_24 rfl ?_
      obtain ⟨r3, qr3, hf⟩ := bn hf
      refine v_callVi (As := [.int l5]) (rest := []) C (sX8_costOf h_l0 qr3) cs_X5_58 (by decide) h_l0 rfl hC rfl rfl rfl (Nat.le_of_ble_eq_true rfl) ⟨Nat.le_refl _, Nat.le_refl _⟩ dX5_cheapestWay_26 (fun hC => ?_)
      refine v_aload_n C 0 dX5_cheapestWay_29 rfl rfl ?_
      refine v_iload C 4 dX5_cheapestWay_30 rfl ?_
      obtain ⟨r4, qr4, hf⟩ := bn hf
      refine v_callVi (As := [.int l4]) (rest := [.int r3]) C (sX8_costOf h_l0 qr4) cs_X5_58 (by decide) h_l0 rfl hC rfl rfl rfl (Nat.le_of_ble_eq_true rfl) ⟨Nat.le_refl _, Nat.le_refl _⟩ dX5_cheapestWay_32 (fun hC => ?_)
      refine v_icmp_ge (tgt := 42) C dX5_cheapestWay_35 (by decide) (fun c5 => ?_) (fun c5 => ?_)
      · have hf := ip hf c5
        refine v_iconst (v := 0) C dX5_cheapestWay_42 (by decide) ?_
        refine v_sub [0, 1, 2, 3, 4, 5] rfl ?_
        exact tX5_cheapestWay_J43L7 C hC h_l0 h_l1 hf kb kx76
      · have hf := im hf c5
        refine v_sub [0, 1, 2, 3, 4, 5] rfl ?_
        exact tX5_cheapestWay_J38L7 C hC h_l0 h_l1 hf kb kx76
def fX5_cheapestWay (sh : Sh) (G : Hp) (l0 : Nat) (l1 : Nat) (l2 : Int32) (l3 : Int32) : Option (Int32) := (iter (fun s : Int32 × Int32 => fX5_cheapestWay_S7 sh l0 l1 l2 l3 G s.1 s.2) fuel (((-2), (-1)) : Int32 × Int32)).bind (fun u3 => bd u3 fun x2 => some x2)
set_option maxHeartbeats 4000000 in
theorem tX5_cheapestWay {E : EX} {ad : Nat → Nat} {sh : Sh} {G : Hp} {l0 : Nat} {l1 : Nat} {l2 : Int32} {l3 : Int32} {z : Int32} (C : Cx E RX5 cX5_cheapestWay 7 (some .int) 4 0 0) (hC : Cl sh G) (h_l0 : sh[l0]? = some (0, 8)) (h_l1 : sh[l1]? = some (0, 1)) (hf : fX5_cheapestWay sh G l0 l1 l2 l3 = some z) (kr : RCi E cX5_cheapestWay ad sh z G) : VV E 0 0 (wq (xT E) ad G sh) 0 [(0, .ref (ad l0)), (1, .ref (ad l1)), (2, .int l2), (3, .int l3)] [] := by
  unfold fX5_cheapestWay at hf
  refine v_bipush (v := (-2)) C dX5_cheapestWay_0 (by decide) ?_
  refine v_istore (lv2 := [(4, .int (-2)), (0, .ref (ad l0)), (1, .ref (ad l1)), (2, .int l2), (3, .int l3)]) C dX5_cheapestWay_2 (by decide) rfl ?_
  refine v_iconst (v := (-1)) C dX5_cheapestWay_4 (by decide) ?_
  refine v_istore (lv2 := [(5, .int (-1)), (4, .int (-2)), (0, .ref (ad l0)), (1, .ref (ad l1)), (2, .int l2), (3, .int l3)]) C dX5_cheapestWay_5 (by decide) rfl ?_
  obtain ⟨r1, qr1, hf⟩ := bn hf
  refine v_sub [2, 3, 4, 5, 1, 0] rfl ?_
  refine iter_sound (P := (fun s : Int32 × Int32 => VV E 0 0 (wq (xT E) ad (G) sh) 7 [(0, .ref (ad l0)), (1, .ref (ad l1)), (2, .int (l2)), (3, .int (l3)), (4, .int (s.1)), (5, .int (s.2))] [])) (X := fun r => r = r1) (fun jsr1 jor1 hor1 jbr1 jxr1 => tX5_cheapestWay_S7 C hC h_l0 h_l1 hor1 (fun _ _ e => jbr1 _ e) ?_) fuel _ r1 qr1 rfl
  · intro x2 hu
    have e := jxr1 _ hu
    subst e
    have hf := bd_at hf (rfl : x2 = _)
    refine v_iload C 4 dX5_cheapestWay_76 rfl ?_
    cases hf
    exact kr _ _ dX5_cheapestWay_78 hC
theorem sX5_cheapestWay {l : Launch} {sh : Sh} {G : Hp} {l0 : Nat} {l1 : Nat} {l2 : Int32} {l3 : Int32} {z : Int32} (h_l0 : sh[l0]? = some (0, 8)) (h_l1 : sh[l1]? = some (0, 1)) (hf : fX5_cheapestWay sh G l0 l1 l2 l3 = some z) : MC l yX5_cheapestWay cX5_cheapestWay 7 (some .int) 4 0 0 sh sh G G (fun ad => [.ref (ad l0), .ref (ad l1), .int l2, .int l3]) (fun _ => some (.int z)) := by
  refine MC_of rfl rfl (fun _ => Nat.le_of_ble_eq_true rfl) (fun E ad C hl hnm hC hQ => ?_)
  exact tX5_cheapestWay C hC h_l0 h_l1 hf (fun pc lv hd hC => v_iret C hQ (fun _ _ => rfl) hC rfl hd)
def fX5_lookUpPrices_S11 (sh : Sh) (l0 : Nat) (l1 : Nat) (l2 : Int32) (G : Hp) (l3 : Int32) : Option ((Hp × Int32) ⊕ ((Hp))) := if (G.1 l1 1) ≤ l3 then some (.inr G) else (ldO sh G l0 6 1).bind fun a2 => (fX5_cheapestWay sh G l1 a2 l2 l3).bind fun r3 => if r3 = (-2) then bd ((l3 + 1) : Int32) fun x5 => some (.inl (G, x5)) else (ldA sh G l0 10 1).bind fun a6 => (ldA sh G l1 6 1).bind fun a7 => (aI sh G a7 l3).bind fun v8 => (fX8_costOf sh G l1 r3).bind fun r9 => (asI sh G a6 l3 (v8 + r9)).bind fun G10 => bd ((l3 + 1) : Int32) fun x11 => some (.inl (G10, x11))
set_option maxHeartbeats 4000000 in
theorem tX5_lookUpPrices_S11 {E : EX} {ad : Nat → Nat} {sh : Sh} {G : Hp} {l0 : Nat} {l1 : Nat} {l2 : Int32} {l3 : Int32} {o : (Hp × Int32) ⊕ ((Hp))} (C : Cx E RX5 cX5_lookUpPrices 5 none 5 0 0) (hC : Cl sh G) (h_l0 : sh[l0]? = some (0, 5)) (h_l1 : sh[l1]? = some (0, 8)) (hf : fX5_lookUpPrices_S11 sh l0 l1 l2 G l3 = some o) (kb : ∀ (G2 : Hp) (b_l3 : Int32), o = .inl (G2, b_l3) → Cl sh G2 → VV E 0 0 (wq (xT E) ad G2 sh) 11 [(0, .ref (ad l0)), (1, .ref (ad l1)), (2, .int l2), (3, .int b_l3)] []) (kx63 : ∀ (G2 : Hp), o = .inr G2 → Cl sh G2 → VV E 0 0 (wq (xT E) ad G2 sh) 63 [(0, .ref (ad l0)), (1, .ref (ad l1)), (2, .int l2)] []) : VV E 0 0 (wq (xT E) ad G sh) 11 [(0, .ref (ad l0)), (1, .ref (ad l1)), (2, .int l2), (3, .int l3)] [] := by
  unfold fX5_lookUpPrices_S11 at hf
  refine v_iload_n C 3 dX5_lookUpPrices_11 rfl rfl ?_
  refine v_aload_n C 1 dX5_lookUpPrices_12 rfl rfl ?_
  refine v_getI C h_l1 fl_X5_46 dX5_lookUpPrices_13 ?_
  refine v_icmp_ge (tgt := 63) C dX5_lookUpPrices_16 (by decide) (fun c1 => ?_) (fun c1 => ?_)
  · have hf := ip hf c1
    cases hf
    refine v_sub [0, 1, 2] rfl ?_
    exact kx63 _ rfl hC
  · have hf := im hf c1
    refine v_aload_n C 1 dX5_lookUpPrices_19 rfl rfl ?_
    refine v_aload_n C 0 dX5_lookUpPrices_20 rfl rfl ?_
    obtain ⟨a2, qa2, hf⟩ := bn hf
    refine v_getO C h_l0 fl_X5_21 qa2 dX5_lookUpPrices_21 (fun h_a2 => ?_)
    refine v_iload_n C 2 dX5_lookUpPrices_24 rfl rfl ?_
    refine v_iload_n C 3 dX5_lookUpPrices_25 rfl rfl ?_
    obtain ⟨r3, qr3, hf⟩ := bn hf
    refine v_callSi (As := [.ref (ad l1), .ref (ad a2), .int l2, .int l3]) (rest := []) C (sX5_cheapestWay h_l1 h_a2 qr3) cs_X5_51 (by decide) hC rfl rfl rfl (Nat.le_of_ble_eq_true rfl) ⟨Nat.le_refl _, Nat.le_refl _⟩ dX5_lookUpPrices_26 (fun hC => ?_)
    refine v_istore (lv2 := [(4, .int r3), (0, .ref (ad l0)), (1, .ref (ad l1)), (2, .int l2), (3, .int l3)]) C dX5_lookUpPrices_29 (by decide) rfl ?_
    refine v_iload C 0 dX5_lookUpPrices_31 rfl ?_
    refine v_bipush (v := (-2)) C dX5_lookUpPrices_33 (by decide) ?_
    refine v_icmp_eq (tgt := 57) C dX5_lookUpPrices_35 (by decide) (fun c4 => ?_) (fun c4 => ?_)
    · have hf := ip hf c4
      obtain ⟨x5, ex5⟩ : ∃ x : Int32, x = (l3 + 1) := ⟨_, rfl⟩
      have hf := bd_at hf ex5
      refine v_iinc (v := x5) (j := 4) (lv2 := [(3, .int x5), (4, .int r3), (0, .ref (ad l0)), (1, .ref (ad l1)), (2, .int l2)]) C dX5_lookUpPrices_57 rfl (by rw [ex5]; rfl) (by decide) rfl ?_
      refine v_goto (tgt := 11) C dX5_lookUpPrices_60 (by decide) ?_
      cases hf
      refine v_sub [2, 3, 4, 0] rfl ?_
      exact kb _ _ rfl hC
    · have hf := im hf c4
      refine v_aload_n C 1 dX5_lookUpPrices_38 rfl rfl ?_
      obtain ⟨a6, qa6, hf⟩ := bn hf
      refine v_getA C h_l0 fl_X5_35 qa6 dX5_lookUpPrices_39 (fun h_a6 => ?_)
      refine v_iload_n C 4 dX5_lookUpPrices_42 rfl rfl ?_
      refine v_aload_n C 2 dX5_lookUpPrices_43 rfl rfl ?_
      obtain ⟨a7, qa7, hf⟩ := bn hf
      refine v_getA C h_l1 fl_X5_55 qa7 dX5_lookUpPrices_44 (fun h_a7 => ?_)
      refine v_iload_n C 4 dX5_lookUpPrices_47 rfl rfl ?_
      obtain ⟨v8, qv8, hf⟩ := bn hf
      refine v_iald C h_a7 qv8 dX5_lookUpPrices_48 ?_
      refine v_aload_n C 2 dX5_lookUpPrices_49 rfl rfl ?_
      refine v_iload C 0 dX5_lookUpPrices_50 rfl ?_
      obtain ⟨r9, qr9, hf⟩ := bn hf
      refine v_callVi (As := [.int r3]) (rest := [.int v8, .int l3, .ref (ad a6)]) C (sX8_costOf h_l1 qr9) cs_X5_58 (by decide) h_l1 rfl hC rfl rfl rfl (Nat.le_of_ble_eq_true rfl) ⟨Nat.le_refl _, Nat.le_refl _⟩ dX5_lookUpPrices_52 (fun hC => ?_)
      refine v_iadd C dX5_lookUpPrices_55 ?_
      obtain ⟨G10, qG10, hf⟩ := bn hf
      refine v_iast C h_a6 qG10 hC dX5_lookUpPrices_56 (fun hC => ?_)
      obtain ⟨x11, ex11⟩ : ∃ x : Int32, x = (l3 + 1) := ⟨_, rfl⟩
      have hf := bd_at hf ex11
      refine v_iinc (v := x11) (j := 4) (lv2 := [(3, .int x11), (4, .int r3), (0, .ref (ad l0)), (1, .ref (ad l1)), (2, .int l2)]) C dX5_lookUpPrices_57 rfl (by rw [ex11]; rfl) (by decide) rfl ?_
      refine v_goto (tgt := 11) C dX5_lookUpPrices_60 (by decide) ?_
      cases hf
      refine v_sub [2, 3, 4, 0] rfl ?_
      exact kb _ _ rfl hC
def fX5_lookUpPrices (sh : Sh) (G : Hp) (l0 : Nat) (l1 : Nat) (l2 : Int32) : Option (Hp) := (ldA sh G l0 10 1).bind fun a1 => (fJ7_fill_53178 sh G a1 1000000).bind fun G3 => (iter (fun s : Hp × Int32 => fX5_lookUpPrices_S11 sh l0 l1 l2 s.1 s.2) fuel ((G3, 0) : Hp × Int32)).bind (fun u6 => bd u6 fun G5 => some G5)
set_option maxHeartbeats 4000000 in
theorem tX5_lookUpPrices {E : EX} {ad : Nat → Nat} {sh : Sh} {G : Hp} {l0 : Nat} {l1 : Nat} {l2 : Int32} {z : Hp} (C : Cx E RX5 cX5_lookUpPrices 5 none 5 0 0) (hC : Cl sh G) (h_l0 : sh[l0]? = some (0, 5)) (h_l1 : sh[l1]? = some (0, 8)) (hf : fX5_lookUpPrices sh G l0 l1 l2 = some z) (kr : RCv E cX5_lookUpPrices ad sh z) : VV E 0 0 (wq (xT E) ad G sh) 0 [(0, .ref (ad l0)), (1, .ref (ad l1)), (2, .int l2)] [] := by
  unfold fX5_lookUpPrices at hf
  refine v_aload_n C 0 dX5_lookUpPrices_0 rfl rfl ?_
  obtain ⟨a1, qa1, hf⟩ := bn hf
  refine v_getA C h_l0 fl_X5_35 qa1 dX5_lookUpPrices_1 (fun h_a1 => ?_)
  refine v_ldc (v := 1000000) C dX5_lookUpPrices_4 kw_74 ?_
  obtain ⟨G3, qr2, hf⟩ := bn hf
  refine v_callSv (As := [.ref (ad a1), .int 1000000]) (rest := []) C (sJ7_fill_53178 h_a1 qr2) cs_X5_132 (by decide) hC rfl rfl rfl (Nat.le_of_ble_eq_true rfl) ⟨Nat.le_refl _, Nat.le_refl _⟩ dX5_lookUpPrices_6 (fun hC => ?_)
  refine v_iconst (v := 0) C dX5_lookUpPrices_9 (by decide) ?_
  refine v_istore_n (lv2 := [(3, .int 0), (0, .ref (ad l0)), (1, .ref (ad l1)), (2, .int l2)]) C dX5_lookUpPrices_10 rfl (by decide) rfl ?_
  obtain ⟨r4, qr4, hf⟩ := bn hf
  refine v_sub [1, 2, 3, 0] rfl ?_
  refine iter_sound (P := (fun s : Hp × Int32 => Cl sh (s.1) → VV E 0 0 (wq (xT E) ad (s.1) sh) 11 [(0, .ref (ad l0)), (1, .ref (ad l1)), (2, .int (l2)), (3, .int (s.2))] [])) (X := fun r => r = r4) (fun jsr4 jor4 hor4 jbr4 jxr4 hC => tX5_lookUpPrices_S11 C hC h_l0 h_l1 hor4 (fun _ _ e => jbr4 _ e) ?_) fuel _ r4 qr4 rfl hC
  · intro G5 hu hC
    have e := jxr4 _ hu
    subst e
    have hf := bd_at hf (rfl : G5 = _)
    cases hf
    exact kr _ _ dX5_lookUpPrices_63 hC
theorem sX5_lookUpPrices {l : Launch} {sh : Sh} {G : Hp} {l0 : Nat} {l1 : Nat} {l2 : Int32} {z : Hp} (h_l0 : sh[l0]? = some (0, 5)) (h_l1 : sh[l1]? = some (0, 8)) (hf : fX5_lookUpPrices sh G l0 l1 l2 = some z) : MC l yX5_lookUpPrices cX5_lookUpPrices 5 none 5 0 0 sh sh G z (fun ad => [.ref (ad l0), .ref (ad l1), .int l2]) (fun _ => none) := by
  refine MC_of rfl rfl (fun _ => Nat.le_of_ble_eq_true rfl) (fun E ad C hl hnm hC hQ => ?_)
  exact tX5_lookUpPrices C hC h_l0 h_l1 hf (fun pc lv hd hC => v_vret C hQ (fun _ _ => rfl) hC rfl hd)
def fX5_leastFrom_S6 (sh : Sh) (l0 : Nat) (l1 : Int32) (l2 : Int32) (G : Hp) (l3 : Int32) (l4 : Int32) : Option ((Int32 × Int32) ⊕ ((Int32))) := if 7 ≤ l4 then some (.inr l3) else if ((ush l2 l4) &&& 1) = 0 then bd ((l4 + 1) : Int32) fun x3 => some (.inl (l3, x3)) else (ldA sh G l0 11 1).bind fun a4 => (aI sh G a4 (((l1 + 1) * 128) + (l2 &&& (((1 : Int32) <<< (l4 &&& 31)) ^^^ (-1))))).bind fun v5 => (ldA sh G l0 10 1).bind fun a6 => (aI sh G a6 l4).bind fun v7 => bd ((imin l3 (v7 + v5)) : Int32) fun x8 => bd ((l4 + 1) : Int32) fun x9 => some (.inl (x8, x9))
set_option maxHeartbeats 4000000 in
theorem tX5_leastFrom_S6 {E : EX} {ad : Nat → Nat} {sh : Sh} {G : Hp} {l0 : Nat} {l1 : Int32} {l2 : Int32} {l3 : Int32} {l4 : Int32} {o : (Int32 × Int32) ⊕ ((Int32))} (C : Cx E RX5 cX5_leastFrom 6 (some .int) 2 0 0) (hC : Cl sh G) (h_l0 : sh[l0]? = some (0, 5)) (hf : fX5_leastFrom_S6 sh l0 l1 l2 G l3 l4 = some o) (kb : ∀ (b_l3 : Int32) (b_l4 : Int32), o = .inl (b_l3, b_l4) → VV E 0 0 (wq (xT E) ad G sh) 6 [(0, .ref (ad l0)), (1, .int l1), (2, .int l2), (3, .int b_l3), (4, .int b_l4)] []) (kx66 : ∀ (b_l3 : Int32), o = .inr b_l3 → VV E 0 0 (wq (xT E) ad G sh) 66 [(0, .ref (ad l0)), (1, .int l1), (2, .int l2), (3, .int b_l3)] []) : VV E 0 0 (wq (xT E) ad G sh) 6 [(0, .ref (ad l0)), (1, .int l1), (2, .int l2), (3, .int l3), (4, .int l4)] [] := by
  unfold fX5_leastFrom_S6 at hf
  refine v_iload C 4 dX5_leastFrom_6 rfl ?_
  refine v_bipush (v := 7) C dX5_leastFrom_8 (by decide) ?_
  refine v_icmp_ge (tgt := 66) C dX5_leastFrom_10 (by decide) (fun c1 => ?_) (fun c1 => ?_)
  · have hf := ip hf c1
    cases hf
    refine v_sub [0, 1, 2, 3] rfl ?_
    exact kx66 _ rfl
  · have hf := im hf c1
    refine v_iload_n C 2 dX5_leastFrom_13 rfl rfl ?_
    refine v_iload C 4 dX5_leastFrom_14 rfl ?_
    refine v_iushr C dX5_leastFrom_16 ?_
    refine v_iconst (v := 1) C dX5_leastFrom_17 (by decide) ?_
    refine v_iand C dX5_leastFrom_18 ?_
    refine v_if_eq (tgt := 60) C dX5_leastFrom_19 (by decide) (fun c2 => ?_) (fun c2 => ?_)
    · have hf := ip hf c2
      obtain ⟨x3, ex3⟩ : ∃ x : Int32, x = (l4 + 1) := ⟨_, rfl⟩
      have hf := bd_at hf ex3
      refine v_iinc (v := x3) (j := 4) (lv2 := [(4, .int x3), (0, .ref (ad l0)), (1, .int l1), (2, .int l2), (3, .int l3)]) C dX5_leastFrom_60 rfl (by rw [ex3]; rfl) (by decide) rfl ?_
      refine v_goto (tgt := 6) C dX5_leastFrom_63 (by decide) ?_
      cases hf
      refine v_sub [1, 2, 3, 4, 0] rfl ?_
      exact kb _ _ rfl
    · have hf := im hf c2
      refine v_aload_n C 0 dX5_leastFrom_22 rfl rfl ?_
      obtain ⟨a4, qa4, hf⟩ := bn hf
      refine v_getA C h_l0 fl_X5_38 qa4 dX5_leastFrom_23 (fun h_a4 => ?_)
      refine v_iload_n C 1 dX5_leastFrom_26 rfl rfl ?_
      refine v_iconst (v := 1) C dX5_leastFrom_27 (by decide) ?_
      refine v_iadd C dX5_leastFrom_28 ?_
      refine v_sipush (v := 128) C dX5_leastFrom_29 (by decide) ?_
      refine v_imul C dX5_leastFrom_32 ?_
      refine v_iload_n C 2 dX5_leastFrom_33 rfl rfl ?_
      refine v_iconst (v := 1) C dX5_leastFrom_34 (by decide) ?_
      refine v_iload C 4 dX5_leastFrom_35 rfl ?_
      refine v_ishl C dX5_leastFrom_37 ?_
      refine v_iconst (v := (-1)) C dX5_leastFrom_38 (by decide) ?_
      refine v_ixor C dX5_leastFrom_39 ?_
      refine v_iand C dX5_leastFrom_40 ?_
      refine v_iadd C dX5_leastFrom_41 ?_
      obtain ⟨v5, qv5, hf⟩ := bn hf
      refine v_iald C h_a4 qv5 dX5_leastFrom_42 ?_
      refine v_istore (lv2 := [(5, .int v5), (0, .ref (ad l0)), (1, .int l1), (2, .int l2), (3, .int l3), (4, .int l4)]) C dX5_leastFrom_43 (by decide) rfl ?_
      refine v_iload_n C 4 dX5_leastFrom_45 rfl rfl ?_
      refine v_aload_n C 1 dX5_leastFrom_46 rfl rfl ?_
      obtain ⟨a6, qa6, hf⟩ := bn hf
      refine v_getA C h_l0 fl_X5_35 qa6 dX5_leastFrom_47 (fun h_a6 => ?_)
      refine v_iload C 5 dX5_leastFrom_50 rfl ?_
      obtain ⟨v7, qv7, hf⟩ := bn hf
      refine v_iald C h_a6 qv7 dX5_leastFrom_52 ?_
      refine v_iload C 0 dX5_leastFrom_53 rfl ?_
      refine v_iadd C dX5_leastFrom_55 ?_
      refine v_nmin C mw_X5_135 (by omega) (Nat.le_of_ble_eq_true rfl) ⟨Nat.le_refl _, Nat.le_refl _⟩ dX5_leastFrom_56 ?_
      refine v_topi (fun x8 ex8 => ?_)
      have hf := bd_at hf ex8
      refine v_istore_n (lv2 := [(3, .int x8), (5, .int v5), (0, .ref (ad l0)), (1, .int l1), (2, .int l2), (4, .int l4)]) C dX5_leastFrom_59 rfl (by decide) rfl ?_
      obtain ⟨x9, ex9⟩ : ∃ x : Int32, x = (l4 + 1) := ⟨_, rfl⟩
      have hf := bd_at hf ex9
      refine v_iinc (v := x9) (j := 5) (lv2 := [(4, .int x9), (3, .int x8), (5, .int v5), (0, .ref (ad l0)), (1, .int l1), (2, .int l2)]) C dX5_leastFrom_60 rfl (by rw [ex9]; rfl) (by decide) rfl ?_
      refine v_goto (tgt := 6) C dX5_leastFrom_63 (by decide) ?_
      cases hf
      refine v_sub [3, 4, 5, 1, 0] rfl ?_
      exact kb _ _ rfl
def fX5_leastFrom (sh : Sh) (G : Hp) (l0 : Nat) (l1 : Int32) (l2 : Int32) : Option (Int32) := (iter (fun s : Int32 × Int32 => fX5_leastFrom_S6 sh l0 l1 l2 G s.1 s.2) fuel ((1000000, 0) : Int32 × Int32)).bind (fun u3 => bd u3 fun x2 => some x2)
set_option maxHeartbeats 4000000 in
theorem tX5_leastFrom {E : EX} {ad : Nat → Nat} {sh : Sh} {G : Hp} {l0 : Nat} {l1 : Int32} {l2 : Int32} {z : Int32} (C : Cx E RX5 cX5_leastFrom 6 (some .int) 2 0 0) (hC : Cl sh G) (h_l0 : sh[l0]? = some (0, 5)) (hf : fX5_leastFrom sh G l0 l1 l2 = some z) (kr : RCi E cX5_leastFrom ad sh z G) : VV E 0 0 (wq (xT E) ad G sh) 0 [(0, .ref (ad l0)), (1, .int l1), (2, .int l2)] [] := by
  unfold fX5_leastFrom at hf
  refine v_ldc (v := 1000000) C dX5_leastFrom_0 kw_74 ?_
  refine v_istore_n (lv2 := [(3, .int 1000000), (0, .ref (ad l0)), (1, .int l1), (2, .int l2)]) C dX5_leastFrom_2 rfl (by decide) rfl ?_
  refine v_iconst (v := 0) C dX5_leastFrom_3 (by decide) ?_
  refine v_istore (lv2 := [(4, .int 0), (3, .int 1000000), (0, .ref (ad l0)), (1, .int l1), (2, .int l2)]) C dX5_leastFrom_4 (by decide) rfl ?_
  obtain ⟨r1, qr1, hf⟩ := bn hf
  refine v_sub [2, 3, 4, 1, 0] rfl ?_
  refine iter_sound (P := (fun s : Int32 × Int32 => VV E 0 0 (wq (xT E) ad (G) sh) 6 [(0, .ref (ad l0)), (1, .int (l1)), (2, .int (l2)), (3, .int (s.1)), (4, .int (s.2))] [])) (X := fun r => r = r1) (fun jsr1 jor1 hor1 jbr1 jxr1 => tX5_leastFrom_S6 C hC h_l0 hor1 (fun _ _ e => jbr1 _ e) ?_) fuel _ r1 qr1 rfl
  · intro x2 hu
    have e := jxr1 _ hu
    subst e
    have hf := bd_at hf (rfl : x2 = _)
    refine v_iload_n C 3 dX5_leastFrom_66 rfl rfl ?_
    cases hf
    exact kr _ _ dX5_leastFrom_67 hC
theorem sX5_leastFrom {l : Launch} {sh : Sh} {G : Hp} {l0 : Nat} {l1 : Int32} {l2 : Int32} {z : Int32} (h_l0 : sh[l0]? = some (0, 5)) (hf : fX5_leastFrom sh G l0 l1 l2 = some z) : MC l yX5_leastFrom cX5_leastFrom 6 (some .int) 2 0 0 sh sh G G (fun ad => [.ref (ad l0), .int l1, .int l2]) (fun _ => some (.int z)) := by
  refine MC_of rfl rfl (fun _ => Nat.le_of_ble_eq_true rfl) (fun E ad C hl hnm hC hQ => ?_)
  exact tX5_leastFrom C hC h_l0 hf (fun pc lv hd hC => v_iret C hQ (fun _ _ => rfl) hC rfl hd)
def fX5_pairOf (l0 : Int32) (l1 : Int32) : Option (Int32) := some (((l0 * 5) + l1) + 1)
set_option maxHeartbeats 4000000 in
theorem tX5_pairOf {E : EX} {ad : Nat → Nat} {sh : Sh} {G : Hp} {l0 : Int32} {l1 : Int32} {z : Int32} (C : Cx E RX5 cX5_pairOf 2 (some .int) 1 0 0) (hC : Cl sh G) (hf : fX5_pairOf l0 l1 = some z) (kr : RCi E cX5_pairOf ad sh z G) : VV E 0 0 (wq (xT E) ad G sh) 0 [(0, .int l0), (1, .int l1)] [] := by
  unfold fX5_pairOf at hf
  refine v_iload_n C 0 dX5_pairOf_0 rfl rfl ?_
  refine v_iconst (v := 5) C dX5_pairOf_1 (by decide) ?_
  refine v_imul C dX5_pairOf_2 ?_
  refine v_iload_n C 1 dX5_pairOf_3 rfl rfl ?_
  refine v_iadd C dX5_pairOf_4 ?_
  refine v_iconst (v := 1) C dX5_pairOf_5 (by decide) ?_
  refine v_iadd C dX5_pairOf_6 ?_
  cases hf
  exact kr _ _ dX5_pairOf_7 hC
theorem sX5_pairOf {l : Launch} {sh : Sh} {G : Hp} {l0 : Int32} {l1 : Int32} {z : Int32} (hf : fX5_pairOf l0 l1 = some z) : MC l yX5_pairOf cX5_pairOf 2 (some .int) 1 0 0 sh sh G G (fun ad => [.int l0, .int l1]) (fun _ => some (.int z)) := by
  refine MC_of rfl rfl (fun _ => Nat.le_of_ble_eq_true rfl) (fun E ad C hl hnm hC hQ => ?_)
  exact tX5_pairOf C hC hf (fun pc lv hd hC => v_iret C hQ (fun _ _ => rfl) hC rfl hd)
def fX5_isFirstToItsSet_J43L2 (sh : Sh) (G : Hp) (l0 : Nat) (l1 : Int32) (l2 : Int32) (l3 : Int32) (s0 : Int32) : Option ((Int32) ⊕ ((Unit) ⊕ (Unit))) := if s0 = 0 then bd ((l3 + 1) : Int32) fun x2 => some (.inl x2) else (fX8_setOf sh G l0 l1 l3).bind fun r3 => (fX8_setOf sh G l0 l1 l2).bind fun r4 => if r3 = r4 then some (.inr (.inr ())) else bd ((l3 + 1) : Int32) fun x6 => some (.inl x6)
set_option maxHeartbeats 4000000 in
theorem tX5_isFirstToItsSet_J43L2 {E : EX} {ad : Nat → Nat} {sh : Sh} {G : Hp} {l0 : Nat} {l1 : Int32} {l2 : Int32} {l3 : Int32} {s0 : Int32} {o : (Int32) ⊕ ((Unit) ⊕ (Unit))} (C : Cx E RX5 cX5_isFirstToItsSet 6 (some .boolean) 2 0 0) (hC : Cl sh G) (h_l0 : sh[l0]? = some (0, 8)) (hf : fX5_isFirstToItsSet_J43L2 sh G l0 l1 l2 l3 s0 = some o) (kb : ∀ (b_l3 : Int32), o = .inl b_l3 → VV E 0 0 (wq (xT E) ad G sh) 2 [(0, .ref (ad l0)), (1, .int l1), (2, .int l2), (3, .int b_l3)] []) (kx73 : o = .inr (.inl ()) → VV E 0 0 (wq (xT E) ad G sh) 73 [(0, .ref (ad l0)), (1, .int l1), (2, .int l2)] []) (kx65 : o = .inr (.inr ()) → VV E 0 0 (wq (xT E) ad G sh) 65 [(0, .ref (ad l0)), (1, .int l1), (2, .int l2)] []) : VV E 0 0 (wq (xT E) ad G sh) 43 [(0, .ref (ad l0)), (1, .int l1), (2, .int l2), (3, .int l3)] [.int s0] := by
  unfold fX5_isFirstToItsSet_J43L2 at hf
  refine v_istore (lv2 := [(5, .int s0), (0, .ref (ad l0)), (1, .int l1), (2, .int l2), (3, .int l3)]) C dX5_isFirstToItsSet_43 (by decide) rfl ?_
  refine v_iload C 0 dX5_isFirstToItsSet_45 rfl ?_
  refine v_if_eq (tgt := 67) C dX5_isFirstToItsSet_47 (by decide) (fun c1 => ?_) (fun c1 => ?_)
  · have hf := ip hf c1
    obtain ⟨x2, ex2⟩ : ∃ x : Int32, x = (l3 + 1) := ⟨_, rfl⟩
    have hf := bd_at hf ex2
    refine v_iinc (v := x2) (j := 4) (lv2 := [(3, .int x2), (5, .int s0), (0, .ref (ad l0)), (1, .int l1), (2, .int l2)]) C dX5_isFirstToItsSet_67 rfl (by rw [ex2]; rfl) (by decide) rfl ?_
    refine v_goto (tgt := 2) C dX5_isFirstToItsSet_70 (by decide) ?_
    cases hf
    refine v_sub [2, 3, 4, 0] rfl ?_
    exact kb _ rfl
  · have hf := im hf c1
    refine v_aload_n C 1 dX5_isFirstToItsSet_50 rfl rfl ?_
    refine v_iload_n C 2 dX5_isFirstToItsSet_51 rfl rfl ?_
    refine v_iload_n C 4 dX5_isFirstToItsSet_52 rfl rfl ?_
    obtain ⟨r3, qr3, hf⟩ := bn hf
    refine v_callVi (As := [.int l1, .int l3]) (rest := []) C (sX8_setOf h_l0 qr3) cs_X5_75 (by decide) h_l0 rfl hC rfl rfl rfl (Nat.le_of_ble_eq_true rfl) ⟨Nat.le_refl _, Nat.le_refl _⟩ dX5_isFirstToItsSet_53 (fun hC => ?_)
    refine v_aload_n C 1 dX5_isFirstToItsSet_56 rfl rfl ?_
    refine v_iload_n C 2 dX5_isFirstToItsSet_57 rfl rfl ?_
    refine v_iload_n C 3 dX5_isFirstToItsSet_58 rfl rfl ?_
    obtain ⟨r4, qr4, hf⟩ := bn hf
    refine v_callVi (As := [.int l1, .int l2]) (rest := [.int r3]) C (sX8_setOf h_l0 qr4) cs_X5_75 (by decide) h_l0 rfl hC rfl rfl rfl (Nat.le_of_ble_eq_true rfl) ⟨Nat.le_refl _, Nat.le_refl _⟩ dX5_isFirstToItsSet_59 (fun hC => ?_)
    refine v_icmp_ne (tgt := 67) C dX5_isFirstToItsSet_62 (by decide) (fun c5 => ?_) (fun c5 => ?_)
    · have hf := im hf c5
      obtain ⟨x6, ex6⟩ : ∃ x : Int32, x = (l3 + 1) := ⟨_, rfl⟩
      have hf := bd_at hf ex6
      refine v_iinc (v := x6) (j := 4) (lv2 := [(3, .int x6), (5, .int s0), (0, .ref (ad l0)), (1, .int l1), (2, .int l2)]) C dX5_isFirstToItsSet_67 rfl (by rw [ex6]; rfl) (by decide) rfl ?_
      refine v_goto (tgt := 2) C dX5_isFirstToItsSet_70 (by decide) ?_
      cases hf
      refine v_sub [2, 3, 4, 0] rfl ?_
      exact kb _ rfl
    · have hf := ip hf c5
      cases hf
      refine v_sub [1, 2, 3] rfl ?_
      exact kx65 rfl
def fX5_isFirstToItsSet_J38L2 (sh : Sh) (G : Hp) (l0 : Nat) (l1 : Int32) (l2 : Int32) (l3 : Int32) : Option ((Int32) ⊕ ((Unit) ⊕ (Unit))) := fX5_isFirstToItsSet_J43L2 sh G l0 l1 l2 l3 1
set_option maxHeartbeats 4000000 in
theorem tX5_isFirstToItsSet_J38L2 {E : EX} {ad : Nat → Nat} {sh : Sh} {G : Hp} {l0 : Nat} {l1 : Int32} {l2 : Int32} {l3 : Int32} {o : (Int32) ⊕ ((Unit) ⊕ (Unit))} (C : Cx E RX5 cX5_isFirstToItsSet 6 (some .boolean) 2 0 0) (hC : Cl sh G) (h_l0 : sh[l0]? = some (0, 8)) (hf : fX5_isFirstToItsSet_J38L2 sh G l0 l1 l2 l3 = some o) (kb : ∀ (b_l3 : Int32), o = .inl b_l3 → VV E 0 0 (wq (xT E) ad G sh) 2 [(0, .ref (ad l0)), (1, .int l1), (2, .int l2), (3, .int b_l3)] []) (kx73 : o = .inr (.inl ()) → VV E 0 0 (wq (xT E) ad G sh) 73 [(0, .ref (ad l0)), (1, .int l1), (2, .int l2)] []) (kx65 : o = .inr (.inr ()) → VV E 0 0 (wq (xT E) ad G sh) 65 [(0, .ref (ad l0)), (1, .int l1), (2, .int l2)] []) : VV E 0 0 (wq (xT E) ad G sh) 38 [(0, .ref (ad l0)), (1, .int l1), (2, .int l2), (3, .int l3)] [] := by
  unfold fX5_isFirstToItsSet_J38L2 at hf
  refine v_iconst (v := 1) C dX5_isFirstToItsSet_38 (by decide) ?_
  refine v_goto (tgt := 43) C dX5_isFirstToItsSet_39 (by decide) ?_
  refine v_sub [0, 1, 2, 3] rfl ?_
  exact tX5_isFirstToItsSet_J43L2 C hC h_l0 hf kb kx73 kx65
def fX5_isFirstToItsSet_J42L2 (sh : Sh) (G : Hp) (l0 : Nat) (l1 : Int32) (l2 : Int32) (l3 : Int32) : Option ((Int32) ⊕ ((Unit) ⊕ (Unit))) := fX5_isFirstToItsSet_J43L2 sh G l0 l1 l2 l3 0
set_option maxHeartbeats 4000000 in
theorem tX5_isFirstToItsSet_J42L2 {E : EX} {ad : Nat → Nat} {sh : Sh} {G : Hp} {l0 : Nat} {l1 : Int32} {l2 : Int32} {l3 : Int32} {o : (Int32) ⊕ ((Unit) ⊕ (Unit))} (C : Cx E RX5 cX5_isFirstToItsSet 6 (some .boolean) 2 0 0) (hC : Cl sh G) (h_l0 : sh[l0]? = some (0, 8)) (hf : fX5_isFirstToItsSet_J42L2 sh G l0 l1 l2 l3 = some o) (kb : ∀ (b_l3 : Int32), o = .inl b_l3 → VV E 0 0 (wq (xT E) ad G sh) 2 [(0, .ref (ad l0)), (1, .int l1), (2, .int l2), (3, .int b_l3)] []) (kx73 : o = .inr (.inl ()) → VV E 0 0 (wq (xT E) ad G sh) 73 [(0, .ref (ad l0)), (1, .int l1), (2, .int l2)] []) (kx65 : o = .inr (.inr ()) → VV E 0 0 (wq (xT E) ad G sh) 65 [(0, .ref (ad l0)), (1, .int l1), (2, .int l2)] []) : VV E 0 0 (wq (xT E) ad G sh) 42 [(0, .ref (ad l0)), (1, .int l1), (2, .int l2), (3, .int l3)] [] := by
  unfold fX5_isFirstToItsSet_J42L2 at hf
  refine v_iconst (v := 0) C dX5_isFirstToItsSet_42 (by decide) ?_
  refine v_sub [0, 1, 2, 3] rfl ?_
  exact tX5_isFirstToItsSet_J43L2 C hC h_l0 hf kb kx73 kx65
def fX5_isFirstToItsSet_S2 (sh : Sh) (l0 : Nat) (l1 : Int32) (l2 : Int32) (G : Hp) (l3 : Int32) : Option ((Int32) ⊕ ((Unit) ⊕ (Unit))) := if (G.1 l0 2) ≤ l3 then some (.inr (.inl ())) else (fX8_costOf sh G l0 l3).bind fun r2 => (fX8_costOf sh G l0 l2).bind fun r3 => bd ((r2 - r3) : Int32) fun x4 => if x4 < 0 then fX5_isFirstToItsSet_J38L2 sh G l0 l1 l2 l3 else if x4 = 0 then if l2 ≤ l3 then fX5_isFirstToItsSet_J42L2 sh G l0 l1 l2 l3 else fX5_isFirstToItsSet_J38L2 sh G l0 l1 l2 l3 else fX5_isFirstToItsSet_J42L2 sh G l0 l1 l2 l3
set_option maxHeartbeats 4000000 in
theorem tX5_isFirstToItsSet_S2 {E : EX} {ad : Nat → Nat} {sh : Sh} {G : Hp} {l0 : Nat} {l1 : Int32} {l2 : Int32} {l3 : Int32} {o : (Int32) ⊕ ((Unit) ⊕ (Unit))} (C : Cx E RX5 cX5_isFirstToItsSet 6 (some .boolean) 2 0 0) (hC : Cl sh G) (h_l0 : sh[l0]? = some (0, 8)) (hf : fX5_isFirstToItsSet_S2 sh l0 l1 l2 G l3 = some o) (kb : ∀ (b_l3 : Int32), o = .inl b_l3 → VV E 0 0 (wq (xT E) ad G sh) 2 [(0, .ref (ad l0)), (1, .int l1), (2, .int l2), (3, .int b_l3)] []) (kx73 : o = .inr (.inl ()) → VV E 0 0 (wq (xT E) ad G sh) 73 [(0, .ref (ad l0)), (1, .int l1), (2, .int l2)] []) (kx65 : o = .inr (.inr ()) → VV E 0 0 (wq (xT E) ad G sh) 65 [(0, .ref (ad l0)), (1, .int l1), (2, .int l2)] []) : VV E 0 0 (wq (xT E) ad G sh) 2 [(0, .ref (ad l0)), (1, .int l1), (2, .int l2), (3, .int l3)] [] := by
  unfold fX5_isFirstToItsSet_S2 at hf
  refine v_iload_n C 3 dX5_isFirstToItsSet_2 rfl rfl ?_
  refine v_aload_n C 0 dX5_isFirstToItsSet_3 rfl rfl ?_
  refine v_getI C h_l0 fl_X5_72 dX5_isFirstToItsSet_4 ?_
  refine v_icmp_ge (tgt := 73) C dX5_isFirstToItsSet_7 (by decide) (fun c1 => ?_) (fun c1 => ?_)
  · have hf := ip hf c1
    cases hf
    refine v_sub [0, 1, 2] rfl ?_
    exact kx73 rfl
  · have hf := im hf c1
    refine v_aload_n C 0 dX5_isFirstToItsSet_10 rfl rfl ?_
    refine v_iload_n C 3 dX5_isFirstToItsSet_11 rfl rfl ?_
    obtain ⟨r2, qr2, hf⟩ := bn hf
    refine v_callVi (As := [.int l3]) (rest := []) C (sX8_costOf h_l0 qr2) cs_X5_58 (by decide) h_l0 rfl hC rfl rfl rfl (Nat.le_of_ble_eq_true rfl) ⟨Nat.le_refl _, Nat.le_refl _⟩ dX5_isFirstToItsSet_12 (fun hC => ?_)
    refine v_aload_n C 0 dX5_isFirstToItsSet_15 rfl rfl ?_
    refine v_iload_n C 2 dX5_isFirstToItsSet_16 rfl rfl ?_
    obtain ⟨r3, qr3, hf⟩ := bn hf
    refine v_callVi (As := [.int l2]) (rest := [.int r2]) C (sX8_costOf h_l0 qr3) cs_X5_58 (by decide) h_l0 rfl hC rfl rfl rfl (Nat.le_of_ble_eq_true rfl) ⟨Nat.le_refl _, Nat.le_refl _⟩ dX5_isFirstToItsSet_17 (fun hC => ?_)
    refine v_isub C dX5_isFirstToItsSet_20 ?_
    refine v_topi (fun x4 ex4 => ?_)
    have hf := bd_at hf ex4
    refine v_istore (lv2 := [(4, .int x4), (0, .ref (ad l0)), (1, .int l1), (2, .int l2), (3, .int l3)]) C dX5_isFirstToItsSet_21 (by decide) rfl ?_
    refine v_iload C 0 dX5_isFirstToItsSet_23 rfl ?_
    refine v_if_lt (tgt := 38) C dX5_isFirstToItsSet_25 (by decide) (fun c5 => ?_) (fun c5 => ?_)
    · have hf := ip hf c5
      refine v_sub [1, 2, 3, 4] rfl ?_
      exact tX5_isFirstToItsSet_J38L2 C hC h_l0 hf kb kx73 kx65
    · have hf := im hf c5
      refine v_iload C 0 dX5_isFirstToItsSet_28 rfl ?_
      refine v_if_ne (tgt := 42) C dX5_isFirstToItsSet_30 (by decide) (fun c6 => ?_) (fun c6 => ?_)
      · have hf := im hf c6
        refine v_sub [1, 2, 3, 4] rfl ?_
        exact tX5_isFirstToItsSet_J42L2 C hC h_l0 hf kb kx73 kx65
      · have hf := ip hf c6
        refine v_iload_n C 4 dX5_isFirstToItsSet_33 rfl rfl ?_
        refine v_iload_n C 3 dX5_isFirstToItsSet_34 rfl rfl ?_
        refine v_icmp_ge (tgt := 42) C dX5_isFirstToItsSet_35 (by decide) (fun c7 => ?_) (fun c7 => ?_)
        · have hf := ip hf c7
          refine v_sub [1, 2, 3, 4] rfl ?_
          exact tX5_isFirstToItsSet_J42L2 C hC h_l0 hf kb kx73 kx65
        · have hf := im hf c7
          refine v_sub [1, 2, 3, 4] rfl ?_
          exact tX5_isFirstToItsSet_J38L2 C hC h_l0 hf kb kx73 kx65
def fX5_isFirstToItsSet (sh : Sh) (G : Hp) (l0 : Nat) (l1 : Int32) (l2 : Int32) : Option (Int32) := (iter (fun s : Int32 => fX5_isFirstToItsSet_S2 sh l0 l1 l2 G s) fuel ((-1) : Int32)).bind (Sum.elim (fun _ => some 1) (fun _ => some 0))
set_option maxHeartbeats 4000000 in
theorem tX5_isFirstToItsSet {E : EX} {ad : Nat → Nat} {sh : Sh} {G : Hp} {l0 : Nat} {l1 : Int32} {l2 : Int32} {z : Int32} (C : Cx E RX5 cX5_isFirstToItsSet 6 (some .boolean) 2 0 0) (hC : Cl sh G) (h_l0 : sh[l0]? = some (0, 8)) (hf : fX5_isFirstToItsSet sh G l0 l1 l2 = some z) (kr : RCz E cX5_isFirstToItsSet ad sh z G) : VV E 0 0 (wq (xT E) ad G sh) 0 [(0, .ref (ad l0)), (1, .int l1), (2, .int l2)] [] := by
  unfold fX5_isFirstToItsSet at hf
  refine v_iconst (v := (-1)) C dX5_isFirstToItsSet_0 (by decide) ?_
  refine v_istore_n (lv2 := [(3, .int (-1)), (0, .ref (ad l0)), (1, .int l1), (2, .int l2)]) C dX5_isFirstToItsSet_1 rfl (by decide) rfl ?_
  obtain ⟨r1, qr1, hf⟩ := bn hf
  refine v_sub [1, 2, 3, 0] rfl ?_
  refine iter_sound (P := (fun s : Int32 => VV E 0 0 (wq (xT E) ad (G) sh) 2 [(0, .ref (ad l0)), (1, .int (l1)), (2, .int (l2)), (3, .int (s))] [])) (X := fun r => r = r1) (fun jsr1 jor1 hor1 jbr1 jxr1 => tX5_isFirstToItsSet_S2 C hC h_l0 hor1 (fun _ e => jbr1 _ e) ?_ ?_) fuel _ r1 qr1 rfl
  · intro  hu
    have e := jxr1 _ hu
    subst e
    have hf := sm_l hf
    refine v_iconst (v := 1) C dX5_isFirstToItsSet_73 (by decide) ?_
    cases hf
    exact kr _ _ dX5_isFirstToItsSet_74 (Or.inr rfl) hC
  · intro  hu
    have e := jxr1 _ hu
    subst e
    have hf := sm_r hf
    refine v_iconst (v := 0) C dX5_isFirstToItsSet_65 (by decide) ?_
    cases hf
    exact kr _ _ dX5_isFirstToItsSet_66 (Or.inl rfl) hC
theorem sX5_isFirstToItsSet {l : Launch} {sh : Sh} {G : Hp} {l0 : Nat} {l1 : Int32} {l2 : Int32} {z : Int32} (h_l0 : sh[l0]? = some (0, 8)) (hf : fX5_isFirstToItsSet sh G l0 l1 l2 = some z) : MC l yX5_isFirstToItsSet cX5_isFirstToItsSet 6 (some .boolean) 2 0 0 sh sh G G (fun ad => [.ref (ad l0), .int l1, .int l2]) (fun _ => some (.int z)) := by
  refine MC_of rfl rfl (fun _ => Nat.le_of_ble_eq_true rfl) (fun E ad C hl hnm hC hQ => ?_)
  exact tX5_isFirstToItsSet C hC h_l0 hf (fun pc lv hd hz hC => v_zret C hQ (fun _ _ => rfl) hC rfl hz hd)
