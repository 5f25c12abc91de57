def fX6_readBridge (sh : Sh) (G : Hp) (l0 : Nat) : Option (Int32 × Hp) := (ldO sh G l0 9 8).bind fun a1 => if (G.1 a1 3) < 4 then bp (fX6_pass sh G l0 259) fun r3 G4 => if r3 = 0 then some (0, G4) else bp (fX6_readNewName sh G4 l0) fun r6 G7 => if r6 = 0 then some (0, G7) else bp (fX6_readNumber sh G7 l0 1 99) fun r9 G10 => if r9 = 0 then some (0, G10) else (ldO sh G10 l0 9 8).bind fun a12 => (ldA sh G10 a12 11 1).bind fun a13 => (ldO sh G10 l0 9 8).bind fun a14 => (asI sh G10 a13 (G10.1 a14 3) (G10.1 l0 7)).bind fun G15 => bp (fX6_readNumber sh G15 l0 0 99) fun r16 G17 => if r16 = 0 then some (0, G17) else (ldO sh G17 l0 9 8).bind fun a19 => (ldA sh G17 a19 12 1).bind fun a20 => (ldO sh G17 l0 9 8).bind fun a21 => (asI sh G17 a20 (G17.1 a21 3) (G17.1 l0 7)).bind fun G22 => bd (sI G22 l0 15 0) fun G23 => bp (fX6_pass sh G23 l0 61) fun r24 G25 => if r24 = 0 then some (0, G25) else bp (fX6_readEither_d sh 8 G25 l0 0 59) fun r27 G28 => if r27 = 0 then some (0, G28) else (ldA sh G28 l0 14 4).bind fun a30 => (ldO sh G28 l0 9 8).bind fun a31 => (ldA sh G28 a31 13 4).bind fun a32 => (ldO sh G28 l0 9 8).bind fun a33 => (cpJ sh G28 a30 0 a32 ((G28.1 a33 3) * 4) 4).bind fun G34 => (ldO sh G34 l0 9 8).bind fun a35 => bd (sI G34 a35 3 ((G34.1 a35 3) + 1)) fun G36 => some (1, G36) else bp (fX6_refuse sh G l0 2) fun r37 G38 => if ¬ (r37 = 0 ∨ r37 = 1) then none else some (r37, G38)
set_option maxHeartbeats 4000000 in
theorem tX6_readBridge {E : EX} {ad : Nat → Nat} {sh : Sh} {G : Hp} {l0 : Nat} {z : Int32 × Hp} (C : Cx E RX6 cX6_readBridge 1 (some .boolean) 35 0 0) (hC : Cl sh G) (h_l0 : sh[l0]? = some (0, 6)) (hf : fX6_readBridge sh G l0 = some z) (kr : RCz E cX6_readBridge ad sh (z.1) (z.2)) : VV E 0 0 (wq (xT E) ad G sh) 0 [(0, .ref (ad l0))] [] := by
  unfold fX6_readBridge at hf
  refine v_aload_n C 0 dX6_readBridge_0 rfl rfl ?_
  obtain ⟨a1, qa1, hf⟩ := bn hf
  refine v_getO C h_l0 fl_X6_31 qa1 dX6_readBridge_1 (fun h_a1 => ?_)
  refine v_getI C h_a1 fl_X6_160 dX6_readBridge_4 ?_
  refine v_iconst (v := 4) C dX6_readBridge_7 (by decide) ?_
  refine v_icmp_lt (tgt := 17) C dX6_readBridge_8 (by decide) (fun c2 => ?_) (fun c2 => ?_)
  · have hf := ip hf c2
    refine v_aload_n C 0 dX6_readBridge_17 rfl rfl ?_
    refine v_sipush (v := 259) C dX6_readBridge_18 (by decide) ?_
    obtain ⟨r3, G4, qr3, hf⟩ := bpn hf
    refine v_callVi (As := [.int 259]) (rest := []) C (sX6_pass h_l0 qr3) cs_X6_116 (by decide) h_l0 rfl hC rfl rfl rfl (Nat.le_of_ble_eq_true rfl) ⟨Nat.le_refl _, Nat.le_refl _⟩ dX6_readBridge_21 (fun hC => ?_)
    refine v_if_eq (tgt := 44) C dX6_readBridge_24 (by decide) (fun c5 => ?_) (fun c5 => ?_)
    · have hf := ip hf c5
      refine v_iconst (v := 0) C dX6_readBridge_44 (by decide) ?_
      cases hf
      exact kr _ _ dX6_readBridge_45 (Or.inl rfl) hC
    · have hf := im hf c5
      refine v_aload_n C 0 dX6_readBridge_27 rfl rfl ?_
      obtain ⟨r6, G7, qr6, hf⟩ := bpn hf
      refine v_callVi (As := []) (rest := []) C (sX6_readNewName h_l0 qr6) cs_X6_123 (by decide) h_l0 rfl hC rfl rfl rfl (Nat.le_of_ble_eq_true rfl) ⟨Nat.le_refl _, Nat.le_refl _⟩ dX6_readBridge_28 (fun hC => ?_)
      refine v_if_eq (tgt := 44) C dX6_readBridge_31 (by decide) (fun c8 => ?_) (fun c8 => ?_)
      · have hf := ip hf c8
        refine v_iconst (v := 0) C dX6_readBridge_44 (by decide) ?_
        cases hf
        exact kr _ _ dX6_readBridge_45 (Or.inl rfl) hC
      · have hf := im hf c8
        refine v_aload_n C 0 dX6_readBridge_34 rfl rfl ?_
        refine v_iconst (v := 1) C dX6_readBridge_35 (by decide) ?_
        refine v_bipush (v := 99) C dX6_readBridge_36 (by decide) ?_
        obtain ⟨r9, G10, qr9, hf⟩ := bpn hf
        refine v_callVi (As := [.int 1, .int 99]) (rest := []) C (sX6_readNumber h_l0 qr9) cs_X6_129 (by decide) h_l0 rfl hC rfl rfl rfl (Nat.le_of_ble_eq_true rfl) ⟨Nat.le_refl _, Nat.le_refl _⟩ dX6_readBridge_38 (fun hC => ?_)
        refine v_if_ne (tgt := 46) C dX6_readBridge_41 (by decide) (fun c11 => ?_) (fun c11 => ?_)
        · have hf := im hf c11
          refine v_aload_n C 0 dX6_readBridge_46 rfl rfl ?_
          obtain ⟨a12, qa12, hf⟩ := bn hf
          refine v_getO C h_l0 fl_X6_31 qa12 dX6_readBridge_47 (fun h_a12 => ?_)
          obtain ⟨a13, qa13, hf⟩ := bn hf
          refine v_getA C h_a12 fl_X6_163 qa13 dX6_readBridge_50 (fun h_a13 => ?_)
          refine v_aload_n C 0 dX6_readBridge_53 rfl rfl ?_
          obtain ⟨a14, qa14, hf⟩ := bn hf
          refine v_getO C h_l0 fl_X6_31 qa14 dX6_readBridge_54 (fun h_a14 => ?_)
          refine v_getI C h_a14 fl_X6_160 dX6_readBridge_57 ?_
          refine v_aload_n C 0 dX6_readBridge_60 rfl rfl ?_
          refine v_getI C h_l0 fl_X6_136 dX6_readBridge_61 ?_
          obtain ⟨G15, qG15, hf⟩ := bn hf
          refine v_iast C h_a13 qG15 hC dX6_readBridge_64 (fun hC => ?_)
          refine v_aload_n C 0 dX6_readBridge_65 rfl rfl ?_
          refine v_iconst (v := 0) C dX6_readBridge_66 (by decide) ?_
          refine v_bipush (v := 99) C dX6_readBridge_67 (by decide) ?_
          obtain ⟨r16, G17, qr16, hf⟩ := bpn hf
          refine v_callVi (As := [.int 0, .int 99]) (rest := []) C (sX6_readNumber h_l0 qr16) cs_X6_129 (by decide) h_l0 rfl hC rfl rfl rfl (Nat.le_of_ble_eq_true rfl) ⟨Nat.le_refl _, Nat.le_refl _⟩ dX6_readBridge_69 (fun hC => ?_)
          refine v_if_ne (tgt := 77) C dX6_readBridge_72 (by decide) (fun c18 => ?_) (fun c18 => ?_)
          · have hf := im hf c18
            refine v_aload_n C 0 dX6_readBridge_77 rfl rfl ?_
            obtain ⟨a19, qa19, hf⟩ := bn hf
            refine v_getO C h_l0 fl_X6_31 qa19 dX6_readBridge_78 (fun h_a19 => ?_)
            obtain ⟨a20, qa20, hf⟩ := bn hf
            refine v_getA C h_a19 fl_X6_166 qa20 dX6_readBridge_81 (fun h_a20 => ?_)
            refine v_aload_n C 0 dX6_readBridge_84 rfl rfl ?_
            obtain ⟨a21, qa21, hf⟩ := bn hf
            refine v_getO C h_l0 fl_X6_31 qa21 dX6_readBridge_85 (fun h_a21 => ?_)
            refine v_getI C h_a21 fl_X6_160 dX6_readBridge_88 ?_
            refine v_aload_n C 0 dX6_readBridge_91 rfl rfl ?_
            refine v_getI C h_l0 fl_X6_136 dX6_readBridge_92 ?_
            obtain ⟨G22, qG22, hf⟩ := bn hf
            refine v_iast C h_a20 qG22 hC dX6_readBridge_95 (fun hC => ?_)
            refine v_aload_n C 0 dX6_readBridge_96 rfl rfl ?_
            refine v_iconst (v := 0) C dX6_readBridge_97 (by decide) ?_
            refine v_putI C h_l0 fp_X6_169 dX6_readBridge_98 (fun G23 eG23 => ?_)
            have hf := bd_at hf eG23
            have hC : Cl sh G23 := by rw [eG23]; exact hC
            refine v_aload_n C 0 dX6_readBridge_101 rfl rfl ?_
            refine v_bipush (v := 61) C dX6_readBridge_102 (by decide) ?_
            obtain ⟨r24, G25, qr24, hf⟩ := bpn hf
            refine v_callVi (As := [.int 61]) (rest := []) C (sX6_pass h_l0 qr24) cs_X6_116 (by decide) h_l0 rfl hC rfl rfl rfl (Nat.le_of_ble_eq_true rfl) ⟨Nat.le_refl _, Nat.le_refl _⟩ dX6_readBridge_104 (fun hC => ?_)
            refine v_if_eq (tgt := 120) C dX6_readBridge_107 (by decide) (fun c26 => ?_) (fun c26 => ?_)
            · have hf := ip hf c26
              refine v_iconst (v := 0) C dX6_readBridge_120 (by decide) ?_
              cases hf
              exact kr _ _ dX6_readBridge_121 (Or.inl rfl) hC
            · have hf := im hf c26
              refine v_aload_n C 0 dX6_readBridge_110 rfl rfl ?_
              refine v_iconst (v := 0) C dX6_readBridge_111 (by decide) ?_
              refine v_bipush (v := 59) C dX6_readBridge_112 (by decide) ?_
              obtain ⟨r27, G28, qr27, hf⟩ := bpn hf
              refine v_callVi (As := [.int 0, .int 59]) (rest := []) C (sX6_readEither_d h_l0 qr27) cs_X6_172 (by decide) h_l0 rfl hC rfl rfl rfl (Nat.le_of_ble_eq_true rfl) ⟨Nat.le_refl _, Nat.le_refl _⟩ dX6_readBridge_114 (fun hC => ?_)
              refine v_if_ne (tgt := 122) C dX6_readBridge_117 (by decide) (fun c29 => ?_) (fun c29 => ?_)
              · have hf := im hf c29
                refine v_aload_n C 0 dX6_readBridge_122 rfl rfl ?_
                obtain ⟨a30, qa30, hf⟩ := bn hf
                refine v_getA C h_l0 fl_X6_27 qa30 dX6_readBridge_123 (fun h_a30 => ?_)
                refine v_iconst (v := 0) C dX6_readBridge_126 (by decide) ?_
                refine v_aload_n C 0 dX6_readBridge_127 rfl rfl ?_
                obtain ⟨a31, qa31, hf⟩ := bn hf
                refine v_getO C h_l0 fl_X6_31 qa31 dX6_readBridge_128 (fun h_a31 => ?_)
                obtain ⟨a32, qa32, hf⟩ := bn hf
                refine v_getA C h_a31 fl_X6_175 qa32 dX6_readBridge_131 (fun h_a32 => ?_)
                refine v_aload_n C 0 dX6_readBridge_134 rfl rfl ?_
                obtain ⟨a33, qa33, hf⟩ := bn hf
                refine v_getO C h_l0 fl_X6_31 qa33 dX6_readBridge_135 (fun h_a33 => ?_)
                refine v_getI C h_a33 fl_X6_160 dX6_readBridge_138 ?_
                refine v_iconst (v := 4) C dX6_readBridge_141 (by decide) ?_
                refine v_imul C dX6_readBridge_142 ?_
                refine v_iconst (v := 4) C dX6_readBridge_143 (by decide) ?_
                obtain ⟨G34, qG34, hf⟩ := bn hf
                refine v_copyJ C cp_X6_178 h_a30 h_a32 qG34 hC (by omega) (Nat.le_of_ble_eq_true rfl) dX6_readBridge_144 (fun hC => ?_)
                refine v_aload_n C 0 dX6_readBridge_147 rfl rfl ?_
                obtain ⟨a35, qa35, hf⟩ := bn hf
                refine v_getO C h_l0 fl_X6_31 qa35 dX6_readBridge_148 (fun h_a35 => ?_)
                refine v_dup C dX6_readBridge_151 rfl ?_
                refine v_getI C h_a35 fl_X6_160 dX6_readBridge_152 ?_
                refine v_iconst (v := 1) C dX6_readBridge_155 (by decide) ?_
                refine v_iadd C dX6_readBridge_156 ?_
                refine v_putI C h_a35 fp_X6_160 dX6_readBridge_157 (fun G36 eG36 => ?_)
                have hf := bd_at hf eG36
                have hC : Cl sh G36 := by rw [eG36]; exact hC
                refine v_iconst (v := 1) C dX6_readBridge_160 (by decide) ?_
                cases hf
                exact kr _ _ dX6_readBridge_161 (Or.inr rfl) hC
              · have hf := ip hf c29
                refine v_iconst (v := 0) C dX6_readBridge_120 (by decide) ?_
                cases hf
                exact kr _ _ dX6_readBridge_121 (Or.inl rfl) hC
          · have hf := ip hf c18
            refine v_iconst (v := 0) C dX6_readBridge_75 (by decide) ?_
            cases hf
            exact kr _ _ dX6_readBridge_76 (Or.inl rfl) hC
        · have hf := ip hf c11
          refine v_iconst (v := 0) C dX6_readBridge_44 (by decide) ?_
          cases hf
          exact kr _ _ dX6_readBridge_45 (Or.inl rfl) hC
  · have hf := im hf c2
    refine v_aload_n C 0 dX6_readBridge_11 rfl rfl ?_
    refine v_iconst (v := 2) C dX6_readBridge_12 (by decide) ?_
    obtain ⟨r37, G38, qr37, hf⟩ := bpn hf
    refine v_callVi (As := [.int 2]) (rest := []) C (sX6_refuse h_l0 qr37) cs_X6_97 (by decide) h_l0 rfl hC rfl rfl rfl (Nat.le_of_ble_eq_true rfl) ⟨Nat.le_refl _, Nat.le_refl _⟩ dX6_readBridge_13 (fun hC => ?_)
    obtain ⟨hz39, hf⟩ := iz hf
    cases hf
    exact kr _ _ dX6_readBridge_16 (Classical.not_not.mp hz39) hC
theorem sX6_readBridge {l : Launch} {sh : Sh} {G : Hp} {l0 : Nat} {z : Int32 × Hp} (h_l0 : sh[l0]? = some (0, 6)) (hf : fX6_readBridge sh G l0 = some z) : MC l yX6_readBridge cX6_readBridge 1 (some .boolean) 35 0 0 sh sh G (z.2) (fun ad => [.ref (ad l0)]) (fun _ => some (.int z.1)) := by
  refine MC_of rfl rfl (fun _ => Nat.le_of_ble_eq_true rfl) (fun E ad C hl hnm hC hQ => ?_)
  exact tX6_readBridge C hC h_l0 hf (fun pc lv hd hz hC => v_zret C hQ (fun _ _ => rfl) hC rfl hz hd)
def fX6_readUnit (sh : Sh) (rc : Hp → Nat → Int32 → Int32 → Option (Int32 × Hp)) (G : Hp) (l0 : Nat) (l1 : Int32) : Option (Int32 × Hp) := if (G.1 l0 5) = 40 then if l1 < 6 then bp (fX6_pass sh G l0 40) fun r21 G22 => if r21 = 0 then some (0, G22) else bp (rc G22 l0 (l1 + 1) 41) fun r24 G25 => if r24 = 0 then some (0, G25) else some (1, G25) else bp (fX6_refuse sh G l0 2) fun r27 G28 => if ¬ (r27 = 0 ∨ r27 = 1) then none else some (r27, G28) else if (G.1 l0 5) = 2 then (ldO sh G l0 10 4).bind fun a13 => (fX6_valueHere sh G l0).bind fun r14 => (fX4_addStep sh G a13 (Int64.toInt32 r14)).bind fun G16 => bp (fX6_pass sh G16 l0 2) fun r17 G18 => if ¬ (r17 = 0 ∨ r17 = 1) then none else some (r17, G18) else if 273 ≤ (G.1 l0 5) then (ldO sh G l0 10 4).bind fun a4 => (fX4_addStep sh G a4 (((-1) : Int32) - ((G.1 l0 5) - 273))).bind fun G6 => bp (fX6_pass sh G6 l0 (G6.1 l0 5)) fun r7 G8 => if ¬ (r7 = 0 ∨ r7 = 1) then none else some (r7, G8) else bp (fX6_refuse sh G l0 1) fun r10 G11 => if ¬ (r10 = 0 ∨ r10 = 1) then none else some (r10, G11)
set_option maxHeartbeats 4000000 in
theorem tX6_readUnit {E : EX} {ad : Nat → Nat} {sh : Sh} {G : Hp} {rc : Hp → Nat → Int32 → Int32 → Option (Int32 × Hp)} {hr : Nat} {l0 : Nat} {l1 : Int32} {z : Int32 × Hp} (C : Cx E RX6 cX6_readUnit 2 (some .boolean) (hr + 1) 0 0) (hC : Cl sh G) (hr10 : 10 ≤ hr) (hrec : ∀ (G : Hp) (a0 : Nat) (a1 : Int32) (a2 : Int32) z, rc G a0 a1 a2 = some z → sh[a0]? = some (0, 6) → MC (xl E) yX6_readSum cX6_readSum 5 (some .boolean) hr 0 0 sh sh G (z.2) (fun ad => [.ref (ad a0), .int a1, .int a2]) (fun _ => some (.int z.1))) (h_l0 : sh[l0]? = some (0, 6)) (hf : fX6_readUnit sh rc G l0 l1 = some z) (kr : RCz E cX6_readUnit ad sh (z.1) (z.2)) : VV E 0 0 (wq (xT E) ad G sh) 0 [(0, .ref (ad l0)), (1, .int l1)] [] := by
  unfold fX6_readUnit at hf
  refine v_aload_n C 0 dX6_readUnit_0 rfl rfl ?_
  refine v_getI C h_l0 fl_X6_65 dX6_readUnit_1 ?_
  refine v_bipush (v := 40) C dX6_readUnit_4 (by decide) ?_
  refine v_icmp_ne (tgt := 48) C dX6_readUnit_6 (by decide) (fun c1 => ?_) (fun c1 => ?_)
  · have hf := im hf c1
    refine v_aload_n C 0 dX6_readUnit_48 rfl rfl ?_
    refine v_getI C h_l0 fl_X6_65 dX6_readUnit_49 ?_
    refine v_iconst (v := 2) C dX6_readUnit_52 (by decide) ?_
    refine v_icmp_ne (tgt := 74) C dX6_readUnit_53 (by decide) (fun c2 => ?_) (fun c2 => ?_)
    · have hf := im hf c2
      refine v_aload_n C 0 dX6_readUnit_74 rfl rfl ?_
      refine v_getI C h_l0 fl_X6_65 dX6_readUnit_75 ?_
      refine v_sipush (v := 273) C dX6_readUnit_78 (by decide) ?_
      refine v_icmp_ge (tgt := 90) C dX6_readUnit_81 (by decide) (fun c3 => ?_) (fun c3 => ?_)
      · have hf := ip hf c3
        refine v_aload_n C 0 dX6_readUnit_90 rfl rfl ?_
        obtain ⟨a4, qa4, hf⟩ := bn hf
        refine v_getO C h_l0 fl_X6_39 qa4 dX6_readUnit_91 (fun h_a4 => ?_)
        refine v_iconst (v := (-1)) C dX6_readUnit_94 (by decide) ?_
        refine v_aload_n C 0 dX6_readUnit_95 rfl rfl ?_
        refine v_getI C h_l0 fl_X6_65 dX6_readUnit_96 ?_
        refine v_sipush (v := 273) C dX6_readUnit_99 (by decide) ?_
        refine v_isub C dX6_readUnit_102 ?_
        refine v_isub C dX6_readUnit_103 ?_
        obtain ⟨G6, qr5, hf⟩ := bn hf
        refine v_callVv (As := [.int (((-1) : Int32) - ((G.1 l0 5) - 273))]) (rest := []) C (sX4_addStep h_a4 qr5) cs_X6_225 (by omega) h_a4 rfl hC rfl rfl rfl (Nat.le_of_ble_eq_true rfl) ⟨Nat.le_refl _, Nat.le_refl _⟩ dX6_readUnit_104 (fun hC => ?_)
        refine v_aload_n C 0 dX6_readUnit_107 rfl rfl ?_
        refine v_aload_n C 0 dX6_readUnit_108 rfl rfl ?_
        refine v_getI C h_l0 fl_X6_65 dX6_readUnit_109 ?_
        obtain ⟨r7, G8, qr7, hf⟩ := bpn hf
        refine v_callVi (As := [.int (G6.1 l0 5)]) (rest := []) C (sX6_pass h_l0 qr7) cs_X6_116 (by omega) h_l0 rfl hC rfl rfl rfl (Nat.le_of_ble_eq_true rfl) ⟨Nat.le_refl _, Nat.le_refl _⟩ dX6_readUnit_112 (fun hC => ?_)
        obtain ⟨hz9, hf⟩ := iz hf
        cases hf
        exact kr _ _ dX6_readUnit_115 (Classical.not_not.mp hz9) hC
      · have hf := im hf c3
        refine v_aload_n C 0 dX6_readUnit_84 rfl rfl ?_
        refine v_iconst (v := 1) C dX6_readUnit_85 (by decide) ?_
        obtain ⟨r10, G11, qr10, hf⟩ := bpn hf
        refine v_callVi (As := [.int 1]) (rest := []) C (sX6_refuse h_l0 qr10) cs_X6_97 (by omega) h_l0 rfl hC rfl rfl rfl (Nat.le_of_ble_eq_true rfl) ⟨Nat.le_refl _, Nat.le_refl _⟩ dX6_readUnit_86 (fun hC => ?_)
        obtain ⟨hz12, hf⟩ := iz hf
        cases hf
        exact kr _ _ dX6_readUnit_89 (Classical.not_not.mp hz12) hC
    · have hf := ip hf c2
      refine v_aload_n C 0 dX6_readUnit_56 rfl rfl ?_
      obtain ⟨a13, qa13, hf⟩ := bn hf
      refine v_getO C h_l0 fl_X6_39 qa13 dX6_readUnit_57 (fun h_a13 => ?_)
      refine v_aload_n C 0 dX6_readUnit_60 rfl rfl ?_
      obtain ⟨r14, qr14, hf⟩ := bn hf
      refine v_callVl (As := []) (rest := [.ref (ad a13)]) C (sX6_valueHere h_l0 qr14) cs_X6_119 (by omega) h_l0 rfl hC rfl rfl rfl (Nat.le_of_ble_eq_true rfl) ⟨Nat.le_refl _, Nat.le_refl _⟩ dX6_readUnit_61 (fun hC => ?_)
      refine v_l2i C dX6_readUnit_64 ?_
      obtain ⟨G16, qr15, hf⟩ := bn hf
      refine v_callVv (As := [.int (Int64.toInt32 r14)]) (rest := []) C (sX4_addStep h_a13 qr15) cs_X6_225 (by omega) h_a13 rfl hC rfl rfl rfl (Nat.le_of_ble_eq_true rfl) ⟨Nat.le_refl _, Nat.le_refl _⟩ dX6_readUnit_65 (fun hC => ?_)
      refine v_aload_n C 0 dX6_readUnit_68 rfl rfl ?_
      refine v_iconst (v := 2) C dX6_readUnit_69 (by decide) ?_
      obtain ⟨r17, G18, qr17, hf⟩ := bpn hf
      refine v_callVi (As := [.int 2]) (rest := []) C (sX6_pass h_l0 qr17) cs_X6_116 (by omega) h_l0 rfl hC rfl rfl rfl (Nat.le_of_ble_eq_true rfl) ⟨Nat.le_refl _, Nat.le_refl _⟩ dX6_readUnit_70 (fun hC => ?_)
      obtain ⟨hz19, hf⟩ := iz hf
      cases hf
      exact kr _ _ dX6_readUnit_73 (Classical.not_not.mp hz19) hC
  · have hf := ip hf c1
    refine v_iload_n C 1 dX6_readUnit_9 rfl rfl ?_
    refine v_bipush (v := 6) C dX6_readUnit_10 (by decide) ?_
    refine v_icmp_lt (tgt := 21) C dX6_readUnit_12 (by decide) (fun c20 => ?_) (fun c20 => ?_)
    · have hf := ip hf c20
      refine v_aload_n C 0 dX6_readUnit_21 rfl rfl ?_
      refine v_bipush (v := 40) C dX6_readUnit_22 (by decide) ?_
      obtain ⟨r21, G22, qr21, hf⟩ := bpn hf
      refine v_callVi (As := [.int 40]) (rest := []) C (sX6_pass h_l0 qr21) cs_X6_116 (by omega) h_l0 rfl hC rfl rfl rfl (Nat.le_of_ble_eq_true rfl) ⟨Nat.le_refl _, Nat.le_refl _⟩ dX6_readUnit_24 (fun hC => ?_)
      refine v_if_eq (tgt := 46) C dX6_readUnit_27 (by decide) (fun c23 => ?_) (fun c23 => ?_)
      · have hf := ip hf c23
        refine v_iconst (v := 0) C dX6_readUnit_46 (by decide) ?_
        cases hf
        exact kr _ _ dX6_readUnit_47 (Or.inl rfl) hC
      · have hf := im hf c23
        refine v_aload_n C 0 dX6_readUnit_30 rfl rfl ?_
        refine v_iload_n C 1 dX6_readUnit_31 rfl rfl ?_
        refine v_iconst (v := 1) C dX6_readUnit_32 (by decide) ?_
        refine v_iadd C dX6_readUnit_33 ?_
        refine v_bipush (v := 41) C dX6_readUnit_34 (by decide) ?_
        obtain ⟨r24, G25, qr24, hf⟩ := bpn hf
        refine v_callVi (As := [.int (l1 + 1), .int 41]) (rest := []) C (hrec _ _ _ _ _ qr24 h_l0) cs_X6_219 (by omega) h_l0 rfl hC rfl rfl rfl (Nat.le_of_ble_eq_true rfl) ⟨Nat.le_refl _, Nat.le_refl _⟩ dX6_readUnit_36 (fun hC => ?_)
        refine v_if_eq (tgt := 46) C dX6_readUnit_39 (by decide) (fun c26 => ?_) (fun c26 => ?_)
        · have hf := ip hf c26
          refine v_iconst (v := 0) C dX6_readUnit_46 (by decide) ?_
          cases hf
          exact kr _ _ dX6_readUnit_47 (Or.inl rfl) hC
        · have hf := im hf c26
          refine v_iconst (v := 1) C dX6_readUnit_42 (by decide) ?_
          refine v_goto (tgt := 47) C dX6_readUnit_43 (by decide) ?_
          cases hf
          exact kr _ _ dX6_readUnit_47 (Or.inr rfl) hC
    · have hf := im hf c20
      refine v_aload_n C 0 dX6_readUnit_15 rfl rfl ?_
      refine v_iconst (v := 2) C dX6_readUnit_16 (by decide) ?_
      obtain ⟨r27, G28, qr27, hf⟩ := bpn hf
      refine v_callVi (As := [.int 2]) (rest := []) C (sX6_refuse h_l0 qr27) cs_X6_97 (by omega) h_l0 rfl hC rfl rfl rfl (Nat.le_of_ble_eq_true rfl) ⟨Nat.le_refl _, Nat.le_refl _⟩ dX6_readUnit_17 (fun hC => ?_)
      obtain ⟨hz29, hf⟩ := iz hf
      cases hf
      exact kr _ _ dX6_readUnit_20 (Classical.not_not.mp hz29) hC
theorem sX6_readUnit {l : Launch} {sh : Sh} {G : Hp} {rc : Hp → Nat → Int32 → Int32 → Option (Int32 × Hp)} {hr : Nat} {l0 : Nat} {l1 : Int32} {z : Int32 × Hp} (hr10 : 10 ≤ hr) (hrec : ∀ (G : Hp) (a0 : Nat) (a1 : Int32) (a2 : Int32) z, rc G a0 a1 a2 = some z → sh[a0]? = some (0, 6) → MC l yX6_readSum cX6_readSum 5 (some .boolean) hr 0 0 sh sh G (z.2) (fun ad => [.ref (ad a0), .int a1, .int a2]) (fun _ => some (.int z.1))) (h_l0 : sh[l0]? = some (0, 6)) (hf : fX6_readUnit sh rc G l0 l1 = some z) : MC l yX6_readUnit cX6_readUnit 2 (some .boolean) (hr + 1) 0 0 sh sh G (z.2) (fun ad => [.ref (ad l0), .int l1]) (fun _ => some (.int z.1)) := by
  refine MC_of rfl rfl (fun _ => Nat.le_of_ble_eq_true rfl) (fun E ad C hl hnm hC hQ => ?_)
  exact tX6_readUnit C hC hr10 (by rw [hl]; exact hrec) h_l0 hf (fun pc lv hd hz hC => v_zret C hQ (fun _ _ => rfl) hC rfl hz hd)
def fX6_readProduct_J53L12 (sh : Sh) (rc : Hp → Nat → Int32 → Int32 → Option (Int32 × Hp)) (G : Hp) (l0 : Nat) (l1 : Int32) (l2 : Int32) (s0 : Int32) : Option ((Hp × Int32) ⊕ ((Hp) ⊕ (Hp))) := bp (fX6_pass sh G l0 (G.1 l0 5)) fun r1 G2 => if r1 = 0 then some (.inr (.inr G2)) else bp (fX6_readUnit sh rc G2 l0 l1) fun r4 G5 => if r4 = 0 then some (.inr (.inr G5)) else (ldO sh G5 l0 10 4).bind fun a7 => (fX4_addStep sh G5 a7 s0).bind fun G9 => bd ((l2 + 1) : Int32) fun x10 => some (.inl (G9, x10))
set_option maxHeartbeats 4000000 in
theorem tX6_readProduct_J53L12 {E : EX} {ad : Nat → Nat} {sh : Sh} {G : Hp} {rc : Hp → Nat → Int32 → Int32 → Option (Int32 × Hp)} {hr : Nat} {l0 : Nat} {l1 : Int32} {l2 : Int32} {s0 : Int32} {o : (Hp × Int32) ⊕ ((Hp) ⊕ (Hp))} (C : Cx E RX6 cX6_readProduct 4 (some .boolean) (hr + 2) 0 0) (hC : Cl sh G) (hr10 : 10 ≤ hr) (hrec : ∀ (G : Hp) (a0 : Nat) (a1 : Int32) (a2 : Int32) z, rc G a0 a1 a2 = some z → sh[a0]? = some (0, 6) → MC (xl E) yX6_readSum cX6_readSum 5 (some .boolean) hr 0 0 sh sh G (z.2) (fun ad => [.ref (ad a0), .int a1, .int a2]) (fun _ => some (.int z.1))) (h_l0 : sh[l0]? = some (0, 6)) (hf : fX6_readProduct_J53L12 sh rc G l0 l1 l2 s0 = some o) (kb : ∀ (G2 : Hp) (b_l2 : Int32), o = .inl (G2, b_l2) → Cl sh G2 → VV E 0 0 (wq (xT E) ad G2 sh) 12 [(0, .ref (ad l0)), (1, .int l1), (2, .int b_l2)] []) (kx89 : ∀ (G2 : Hp), o = .inr (.inl G2) → Cl sh G2 → VV E 0 0 (wq (xT E) ad G2 sh) 89 [(0, .ref (ad l0)), (1, .int l1)] []) (kx73 : ∀ (G2 : Hp), o = .inr (.inr G2) → Cl sh G2 → VV E 0 0 (wq (xT E) ad G2 sh) 73 [(0, .ref (ad l0)), (1, .int l1)] []) : VV E 0 0 (wq (xT E) ad G sh) 53 [(0, .ref (ad l0)), (1, .int l1), (2, .int l2)] [.int s0] := by
  unfold fX6_readProduct_J53L12 at hf
  refine v_istore_n (lv2 := [(3, .int s0), (0, .ref (ad l0)), (1, .int l1), (2, .int l2)]) C dX6_readProduct_53 rfl (by decide) rfl ?_
  refine v_aload_n C 1 dX6_readProduct_54 rfl rfl ?_
  refine v_aload_n C 1 dX6_readProduct_55 rfl rfl ?_
  refine v_getI C h_l0 fl_X6_65 dX6_readProduct_56 ?_
  obtain ⟨r1, G2, qr1, hf⟩ := bpn hf
  refine v_callVi (As := [.int (G.1 l0 5)]) (rest := []) C (sX6_pass h_l0 qr1) cs_X6_116 (by omega) h_l0 rfl hC rfl rfl rfl (Nat.le_of_ble_eq_true rfl) ⟨Nat.le_refl _, Nat.le_refl _⟩ dX6_readProduct_59 (fun hC => ?_)
  refine v_if_eq (tgt := 73) C dX6_readProduct_62 (by decide) (fun c3 => ?_) (fun c3 => ?_)
  · have hf := ip hf c3
    cases hf
    refine v_sub [1, 2] rfl ?_
    exact kx73 _ rfl hC
  · have hf := im hf c3
    refine v_aload_n C 1 dX6_readProduct_65 rfl rfl ?_
    refine v_iload_n C 2 dX6_readProduct_66 rfl rfl ?_
    obtain ⟨r4, G5, qr4, hf⟩ := bpn hf
    refine v_callVi (As := [.int l1]) (rest := []) C (sX6_readUnit hr10 hrec h_l0 qr4) cs_X6_231 (by omega) h_l0 rfl hC rfl rfl rfl (Nat.le_of_ble_eq_true rfl) ⟨Nat.le_refl _, Nat.le_refl _⟩ dX6_readProduct_67 (fun hC => ?_)
    refine v_if_ne (tgt := 75) C dX6_readProduct_70 (by decide) (fun c6 => ?_) (fun c6 => ?_)
    · have hf := im hf c6
      refine v_aload_n C 1 dX6_readProduct_75 rfl rfl ?_
      obtain ⟨a7, qa7, hf⟩ := bn hf
      refine v_getO C h_l0 fl_X6_39 qa7 dX6_readProduct_76 (fun h_a7 => ?_)
      refine v_iload_n C 0 dX6_readProduct_79 rfl rfl ?_
      obtain ⟨G9, qr8, hf⟩ := bn hf
      refine v_callVv (As := [.int s0]) (rest := []) C (sX4_addStep h_a7 qr8) cs_X6_225 (by omega) h_a7 rfl hC rfl rfl rfl (Nat.le_of_ble_eq_true rfl) ⟨Nat.le_refl _, Nat.le_refl _⟩ dX6_readProduct_80 (fun hC => ?_)
      obtain ⟨x10, ex10⟩ : ∃ x : Int32, x = (l2 + 1) := ⟨_, rfl⟩
      have hf := bd_at hf ex10
      refine v_iinc (v := x10) (j := 3) (lv2 := [(2, .int x10), (3, .int s0), (0, .ref (ad l0)), (1, .int l1)]) C dX6_readProduct_83 rfl (by rw [ex10]; rfl) (by decide) rfl ?_
      refine v_goto (tgt := 12) C dX6_readProduct_86 (by decide) ?_
      cases hf
      refine v_sub [2, 3, 0] rfl ?_
      exact kb _ _ rfl hC
    · have hf := ip hf c6
      cases hf
      refine v_sub [1, 2] rfl ?_
      exact kx73 _ rfl hC
def fX6_readProduct_J37L12 (sh : Sh) (rc : Hp → Nat → Int32 → Int32 → Option (Int32 × Hp)) (G : Hp) (l0 : Nat) (l1 : Int32) (l2 : Int32) : Option ((Hp × Int32) ⊕ ((Hp) ⊕ (Hp))) := if (G.1 l0 5) = 42 then fX6_readProduct_J53L12 sh rc G l0 l1 l2 (-13) else fX6_readProduct_J53L12 sh rc G l0 l1 l2 (-14)
set_option maxHeartbeats 4000000 in
theorem tX6_readProduct_J37L12 {E : EX} {ad : Nat → Nat} {sh : Sh} {G : Hp} {rc : Hp → Nat → Int32 → Int32 → Option (Int32 × Hp)} {hr : Nat} {l0 : Nat} {l1 : Int32} {l2 : Int32} {o : (Hp × Int32) ⊕ ((Hp) ⊕ (Hp))} (C : Cx E RX6 cX6_readProduct 4 (some .boolean) (hr + 2) 0 0) (hC : Cl sh G) (hr10 : 10 ≤ hr) (hrec : ∀ (G : Hp) (a0 : Nat) (a1 : Int32) (a2 : Int32) z, rc G a0 a1 a2 = some z → sh[a0]? = some (0, 6) → MC (xl E) yX6_readSum cX6_readSum 5 (some .boolean) hr 0 0 sh sh G (z.2) (fun ad => [.ref (ad a0), .int a1, .int a2]) (fun _ => some (.int z.1))) (h_l0 : sh[l0]? = some (0, 6)) (hf : fX6_readProduct_J37L12 sh rc G l0 l1 l2 = some o) (kb : ∀ (G2 : Hp) (b_l2 : Int32), o = .inl (G2, b_l2) → Cl sh G2 → VV E 0 0 (wq (xT E) ad G2 sh) 12 [(0, .ref (ad l0)), (1, .int l1), (2, .int b_l2)] []) (kx89 : ∀ (G2 : Hp), o = .inr (.inl G2) → Cl sh G2 → VV E 0 0 (wq (xT E) ad G2 sh) 89 [(0, .ref (ad l0)), (1, .int l1)] []) (kx73 : ∀ (G2 : Hp), o = .inr (.inr G2) → Cl sh G2 → VV E 0 0 (wq (xT E) ad G2 sh) 73 [(0, .ref (ad l0)), (1, .int l1)] []) : VV E 0 0 (wq (xT E) ad G sh) 37 [(0, .ref (ad l0)), (1, .int l1), (2, .int l2)] [] := by
  unfold fX6_readProduct_J37L12 at hf
  refine v_aload_n C 0 dX6_readProduct_37 rfl rfl ?_
  refine v_getI C h_l0 fl_X6_65 dX6_readProduct_38 ?_
  refine v_bipush (v := 42) C dX6_readProduct_41 (by decide) ?_
  refine v_icmp_ne (tgt := 51) C dX6_readProduct_43 (by decide) (fun c1 => ?_) (fun c1 => ?_)
  · have hf := im hf c1
    refine v_bipush (v := (-14)) C dX6_readProduct_51 (by decide) ?_
    refine v_sub [0, 1, 2] rfl ?_
    exact tX6_readProduct_J53L12 C hC hr10 hrec h_l0 hf kb kx89 kx73
  · have hf := ip hf c1
    refine v_bipush (v := (-13)) C dX6_readProduct_46 (by decide) ?_
    refine v_goto (tgt := 53) C dX6_readProduct_48 (by decide) ?_
    refine v_sub [0, 1, 2] rfl ?_
    exact tX6_readProduct_J53L12 C hC hr10 hrec h_l0 hf kb kx89 kx73
def fX6_readProduct_S12 (sh : Sh) (rc : Hp → Nat → Int32 → Int32 → Option (Int32 × Hp)) (l0 : Nat) (l1 : Int32) (G : Hp) (l2 : Int32) : Option ((Hp × Int32) ⊕ ((Hp) ⊕ (Hp))) := if 400 ≤ l2 then some (.inr (.inl G)) else if (G.1 l0 5) = 42 then fX6_readProduct_J37L12 sh rc G l0 l1 l2 else if (G.1 l0 5) = 47 then fX6_readProduct_J37L12 sh rc G l0 l1 l2 else some (.inr (.inl G))
set_option maxHeartbeats 4000000 in
theorem tX6_readProduct_S12 {E : EX} {ad : Nat → Nat} {sh : Sh} {G : Hp} {rc : Hp → Nat → Int32 → Int32 → Option (Int32 × Hp)} {hr : Nat} {l0 : Nat} {l1 : Int32} {l2 : Int32} {o : (Hp × Int32) ⊕ ((Hp) ⊕ (Hp))} (C : Cx E RX6 cX6_readProduct 4 (some .boolean) (hr + 2) 0 0) (hC : Cl sh G) (hr10 : 10 ≤ hr) (hrec : ∀ (G : Hp) (a0 : Nat) (a1 : Int32) (a2 : Int32) z, rc G a0 a1 a2 = some z → sh[a0]? = some (0, 6) → MC (xl E) yX6_readSum cX6_readSum 5 (some .boolean) hr 0 0 sh sh G (z.2) (fun ad => [.ref (ad a0), .int a1, .int a2]) (fun _ => some (.int z.1))) (h_l0 : sh[l0]? = some (0, 6)) (hf : fX6_readProduct_S12 sh rc l0 l1 G l2 = some o) (kb : ∀ (G2 : Hp) (b_l2 : Int32), o = .inl (G2, b_l2) → Cl sh G2 → VV E 0 0 (wq (xT E) ad G2 sh) 12 [(0, .ref (ad l0)), (1, .int l1), (2, .int b_l2)] []) (kx89 : ∀ (G2 : Hp), o = .inr (.inl G2) → Cl sh G2 → VV E 0 0 (wq (xT E) ad G2 sh) 89 [(0, .ref (ad l0)), (1, .int l1)] []) (kx73 : ∀ (G2 : Hp), o = .inr (.inr G2) → Cl sh G2 → VV E 0 0 (wq (xT E) ad G2 sh) 73 [(0, .ref (ad l0)), (1, .int l1)] []) : VV E 0 0 (wq (xT E) ad G sh) 12 [(0, .ref (ad l0)), (1, .int l1), (2, .int l2)] [] := by
  unfold fX6_readProduct_S12 at hf
  refine v_iload_n C 2 dX6_readProduct_12 rfl rfl ?_
  refine v_sipush (v := 400) C dX6_readProduct_13 (by decide) ?_
  refine v_icmp_ge (tgt := 89) C dX6_readProduct_16 (by decide) (fun c1 => ?_) (fun c1 => ?_)
  · have hf := ip hf c1
    cases hf
    refine v_sub [0, 1] rfl ?_
    exact kx89 _ rfl hC
  · have hf := im hf c1
    refine v_aload_n C 0 dX6_readProduct_19 rfl rfl ?_
    refine v_getI C h_l0 fl_X6_65 dX6_readProduct_20 ?_
    refine v_bipush (v := 42) C dX6_readProduct_23 (by decide) ?_
    refine v_icmp_eq (tgt := 37) C dX6_readProduct_25 (by decide) (fun c2 => ?_) (fun c2 => ?_)
    · have hf := ip hf c2
      refine v_sub [0, 1, 2] rfl ?_
      exact tX6_readProduct_J37L12 C hC hr10 hrec h_l0 hf kb kx89 kx73
    · have hf := im hf c2
      refine v_aload_n C 0 dX6_readProduct_28 rfl rfl ?_
      refine v_getI C h_l0 fl_X6_65 dX6_readProduct_29 ?_
      refine v_bipush (v := 47) C dX6_readProduct_32 (by decide) ?_
      refine v_icmp_ne (tgt := 89) C dX6_readProduct_34 (by decide) (fun c3 => ?_) (fun c3 => ?_)
      · have hf := im hf c3
        cases hf
        refine v_sub [0, 1] rfl ?_
        exact kx89 _ rfl hC
      · have hf := ip hf c3
        refine v_sub [0, 1, 2] rfl ?_
        exact tX6_readProduct_J37L12 C hC hr10 hrec h_l0 hf kb kx89 kx73
def fX6_readProduct (sh : Sh) (rc : Hp → Nat → Int32 → Int32 → Option (Int32 × Hp)) (G : Hp) (l0 : Nat) (l1 : Int32) : Option (Int32 × Hp) := bp (fX6_readUnit sh rc G l0 l1) fun r1 G2 => if r1 = 0 then some (0, G2) else (iter (fun s : Hp × Int32 => fX6_readProduct_S12 sh rc l0 l1 s.1 s.2) fuel ((G2, 0) : Hp × Int32)).bind (Sum.elim (fun u6 => bd u6 fun G5 => some (1, G5)) (fun u8 => bd u8 fun G7 => some (0, G7)))
set_option maxHeartbeats 4000000 in
theorem tX6_readProduct {E : EX} {ad : Nat → Nat} {sh : Sh} {G : Hp} {rc : Hp → Nat → Int32 → Int32 → Option (Int32 × Hp)} {hr : Nat} {l0 : Nat} {l1 : Int32} {z : Int32 × Hp} (C : Cx E RX6 cX6_readProduct 4 (some .boolean) (hr + 2) 0 0) (hC : Cl sh G) (hr10 : 10 ≤ hr) (hrec : ∀ (G : Hp) (a0 : Nat) (a1 : Int32) (a2 : Int32) z, rc G a0 a1 a2 = some z → sh[a0]? = some (0, 6) → MC (xl E) yX6_readSum cX6_readSum 5 (some .boolean) hr 0 0 sh sh G (z.2) (fun ad => [.ref (ad a0), .int a1, .int a2]) (fun _ => some (.int z.1))) (h_l0 : sh[l0]? = some (0, 6)) (hf : fX6_readProduct sh rc G l0 l1 = some z) (kr : RCz E cX6_readProduct ad sh (z.1) (z.2)) : VV E 0 0 (wq (xT E) ad G sh) 0 [(0, .ref (ad l0)), (1, .int l1)] [] := by
  unfold fX6_readProduct at hf
  refine v_aload_n C 0 dX6_readProduct_0 rfl rfl ?_
  refine v_iload_n C 1 dX6_readProduct_1 rfl rfl ?_
  obtain ⟨r1, G2, qr1, hf⟩ := bpn hf
  refine v_callVi (As := [.int l1]) (rest := []) C (sX6_readUnit hr10 hrec h_l0 qr1) cs_X6_231 (by omega) h_l0 rfl hC rfl rfl rfl (Nat.le_of_ble_eq_true rfl) ⟨Nat.le_refl _, Nat.le_refl _⟩ dX6_readProduct_2 (fun hC => ?_)
  refine v_if_ne (tgt := 10) C dX6_readProduct_5 (by decide) (fun c3 => ?_) (fun c3 => ?_)
  · have hf := im hf c3
    refine v_iconst (v := 0) C dX6_readProduct_10 (by decide) ?_
    refine v_istore_n (lv2 := [(2, .int 0), (0, .ref (ad l0)), (1, .int l1)]) C dX6_readProduct_11 rfl (by decide) rfl ?_
    obtain ⟨r4, qr4, hf⟩ := bn hf
    refine v_sub [1, 2, 0] rfl ?_
    refine iter_sound (P := (fun s : Hp × Int32 => Cl sh (s.1) → VV E 0 0 (wq (xT E) ad (s.1) sh) 12 [(0, .ref (ad l0)), (1, .int (l1)), (2, .int (s.2))] [])) (X := fun r => r = r4) (fun jsr4 jor4 hor4 jbr4 jxr4 hC => tX6_readProduct_S12 C hC hr10 hrec h_l0 hor4 (fun _ _ e => jbr4 _ e) ?_ ?_) fuel _ r4 qr4 rfl hC
    · intro G5 hu hC
      have e := jxr4 _ hu
      subst e
      have hf := sm_l hf
      have hf := bd_at hf (rfl : G5 = _)
      refine v_iconst (v := 1) C dX6_readProduct_89 (by decide) ?_
      cases hf
      exact kr _ _ dX6_readProduct_90 (Or.inr rfl) hC
    · intro G7 hu hC
      have e := jxr4 _ hu
      subst e
      have hf := sm_r hf
      have hf := bd_at hf (rfl : G7 = _)
      refine v_iconst (v := 0) C dX6_readProduct_73 (by decide) ?_
      cases hf
      exact kr _ _ dX6_readProduct_74 (Or.inl rfl) hC
  · have hf := ip hf c3
    refine v_iconst (v := 0) C dX6_readProduct_8 (by decide) ?_
    cases hf
    exact kr _ _ dX6_readProduct_9 (Or.inl rfl) hC
theorem sX6_readProduct {l : Launch} {sh : Sh} {G : Hp} {rc : Hp → Nat → Int32 → Int32 → Option (Int32 × Hp)} {hr : Nat} {l0 : Nat} {l1 : Int32} {z : Int32 × Hp} (hr10 : 10 ≤ hr) (hrec : ∀ (G : Hp) (a0 : Nat) (a1 : Int32) (a2 : Int32) z, rc G a0 a1 a2 = some z → sh[a0]? = some (0, 6) → MC l yX6_readSum cX6_readSum 5 (some .boolean) hr 0 0 sh sh G (z.2) (fun ad => [.ref (ad a0), .int a1, .int a2]) (fun _ => some (.int z.1))) (h_l0 : sh[l0]? = some (0, 6)) (hf : fX6_readProduct sh rc G l0 l1 = some z) : MC l yX6_readProduct cX6_readProduct 4 (some .boolean) (hr + 2) 0 0 sh sh G (z.2) (fun ad => [.ref (ad l0), .int l1]) (fun _ => some (.int z.1)) := by
  refine MC_of rfl rfl (fun _ => Nat.le_of_ble_eq_true rfl) (fun E ad C hl hnm hC hQ => ?_)
  exact tX6_readProduct C hC hr10 (by rw [hl]; exact hrec) h_l0 hf (fun pc lv hd hz hC => v_zret C hQ (fun _ _ => rfl) hC rfl hz hd)
def fX6_readSum_J53L12 (sh : Sh) (rc : Hp → Nat → Int32 → Int32 → Option (Int32 × Hp)) (G : Hp) (l0 : Nat) (l1 : Int32) (l2 : Int32) (l3 : Int32) (s0 : Int32) : Option ((Hp × Int32) ⊕ ((Hp) ⊕ (Hp))) := bp (fX6_pass sh G l0 (G.1 l0 5)) fun r1 G2 => if r1 = 0 then some (.inr (.inr G2)) else bp (fX6_readProduct sh rc G2 l0 l1) fun r4 G5 => if r4 = 0 then some (.inr (.inr G5)) else (ldO sh G5 l0 10 4).bind fun a7 => (fX4_addStep sh G5 a7 s0).bind fun G9 => bd ((l3 + 1) : Int32) fun x10 => some (.inl (G9, x10))
set_option maxHeartbeats 4000000 in
theorem tX6_readSum_J53L12 {E : EX} {ad : Nat → Nat} {sh : Sh} {G : Hp} {rc : Hp → Nat → Int32 → Int32 → Option (Int32 × Hp)} {hr : Nat} {l0 : Nat} {l1 : Int32} {l2 : Int32} {l3 : Int32} {s0 : Int32} {o : (Hp × Int32) ⊕ ((Hp) ⊕ (Hp))} (C : Cx E RX6 cX6_readSum 5 (some .boolean) (hr + 3) 0 0) (hC : Cl sh G) (hr10 : 10 ≤ hr) (hrec : ∀ (G : Hp) (a0 : Nat) (a1 : Int32) (a2 : Int32) z, rc G a0 a1 a2 = some z → sh[a0]? = some (0, 6) → MC (xl E) yX6_readSum cX6_readSum 5 (some .boolean) hr 0 0 sh sh G (z.2) (fun ad => [.ref (ad a0), .int a1, .int a2]) (fun _ => some (.int z.1))) (h_l0 : sh[l0]? = some (0, 6)) (hf : fX6_readSum_J53L12 sh rc G l0 l1 l2 l3 s0 = some o) (kb : ∀ (G2 : Hp) (b_l3 : Int32), o = .inl (G2, b_l3) → Cl sh G2 → VV E 0 0 (wq (xT E) ad G2 sh) 12 [(0, .ref (ad l0)), (1, .int l1), (2, .int l2), (3, .int b_l3)] []) (kx91 : ∀ (G2 : Hp), o = .inr (.inl G2) → Cl sh G2 → VV E 0 0 (wq (xT E) ad G2 sh) 91 [(0, .ref (ad l0)), (1, .int l1), (2, .int l2)] []) (kx74 : ∀ (G2 : Hp), o = .inr (.inr G2) → Cl sh G2 → VV E 0 0 (wq (xT E) ad G2 sh) 74 [(0, .ref (ad l0)), (1, .int l1), (2, .int l2)] []) : VV E 0 0 (wq (xT E) ad G sh) 53 [(0, .ref (ad l0)), (1, .int l1), (2, .int l2), (3, .int l3)] [.int s0] := by
  unfold fX6_readSum_J53L12 at hf
  refine v_istore (lv2 := [(4, .int s0), (0, .ref (ad l0)), (1, .int l1), (2, .int l2), (3, .int l3)]) C dX6_readSum_53 (by decide) rfl ?_
  refine v_aload_n C 1 dX6_readSum_55 rfl rfl ?_
  refine v_aload_n C 1 dX6_readSum_56 rfl rfl ?_
  refine v_getI C h_l0 fl_X6_65 dX6_readSum_57 ?_
  obtain ⟨r1, G2, qr1, hf⟩ := bpn hf
  refine v_callVi (As := [.int (G.1 l0 5)]) (rest := []) C (sX6_pass h_l0 qr1) cs_X6_116 (by omega) h_l0 rfl hC rfl rfl rfl (Nat.le_of_ble_eq_true rfl) ⟨Nat.le_refl _, Nat.le_refl _⟩ dX6_readSum_60 (fun hC => ?_)
  refine v_if_eq (tgt := 74) C dX6_readSum_63 (by decide) (fun c3 => ?_) (fun c3 => ?_)
  · have hf := ip hf c3
    cases hf
    refine v_sub [1, 2, 3] rfl ?_
    exact kx74 _ rfl hC
  · have hf := im hf c3
    refine v_aload_n C 1 dX6_readSum_66 rfl rfl ?_
    refine v_iload_n C 2 dX6_readSum_67 rfl rfl ?_
    obtain ⟨r4, G5, qr4, hf⟩ := bpn hf
    refine v_callVi (As := [.int l1]) (rest := []) C (sX6_readProduct hr10 hrec h_l0 qr4) cs_X6_222 (by omega) h_l0 rfl hC rfl rfl rfl (Nat.le_of_ble_eq_true rfl) ⟨Nat.le_refl _, Nat.le_refl _⟩ dX6_readSum_68 (fun hC => ?_)
    refine v_if_ne (tgt := 76) C dX6_readSum_71 (by decide) (fun c6 => ?_) (fun c6 => ?_)
    · have hf := im hf c6
      refine v_aload_n C 1 dX6_readSum_76 rfl rfl ?_
      obtain ⟨a7, qa7, hf⟩ := bn hf
      refine v_getO C h_l0 fl_X6_39 qa7 dX6_readSum_77 (fun h_a7 => ?_)
      refine v_iload C 0 dX6_readSum_80 rfl ?_
      obtain ⟨G9, qr8, hf⟩ := bn hf
      refine v_callVv (As := [.int s0]) (rest := []) C (sX4_addStep h_a7 qr8) cs_X6_225 (by omega) h_a7 rfl hC rfl rfl rfl (Nat.le_of_ble_eq_true rfl) ⟨Nat.le_refl _, Nat.le_refl _⟩ dX6_readSum_82 (fun hC => ?_)
      obtain ⟨x10, ex10⟩ : ∃ x : Int32, x = (l3 + 1) := ⟨_, rfl⟩
      have hf := bd_at hf ex10
      refine v_iinc (v := x10) (j := 4) (lv2 := [(3, .int x10), (4, .int s0), (0, .ref (ad l0)), (1, .int l1), (2, .int l2)]) C dX6_readSum_85 rfl (by rw [ex10]; rfl) (by decide) rfl ?_
      refine v_goto (tgt := 12) C dX6_readSum_88 (by decide) ?_
      cases hf
      refine v_sub [2, 3, 4, 0] rfl ?_
      exact kb _ _ rfl hC
    · have hf := ip hf c6
      cases hf
      refine v_sub [1, 2, 3] rfl ?_
      exact kx74 _ rfl hC
def fX6_readSum_J37L12 (sh : Sh) (rc : Hp → Nat → Int32 → Int32 → Option (Int32 × Hp)) (G : Hp) (l0 : Nat) (l1 : Int32) (l2 : Int32) (l3 : Int32) : Option ((Hp × Int32) ⊕ ((Hp) ⊕ (Hp))) := if (G.1 l0 5) = 43 then fX6_readSum_J53L12 sh rc G l0 l1 l2 l3 (-11) else fX6_readSum_J53L12 sh rc G l0 l1 l2 l3 (-12)
set_option maxHeartbeats 4000000 in
theorem tX6_readSum_J37L12 {E : EX} {ad : Nat → Nat} {sh : Sh} {G : Hp} {rc : Hp → Nat → Int32 → Int32 → Option (Int32 × Hp)} {hr : Nat} {l0 : Nat} {l1 : Int32} {l2 : Int32} {l3 : Int32} {o : (Hp × Int32) ⊕ ((Hp) ⊕ (Hp))} (C : Cx E RX6 cX6_readSum 5 (some .boolean) (hr + 3) 0 0) (hC : Cl sh G) (hr10 : 10 ≤ hr) (hrec : ∀ (G : Hp) (a0 : Nat) (a1 : Int32) (a2 : Int32) z, rc G a0 a1 a2 = some z → sh[a0]? = some (0, 6) → MC (xl E) yX6_readSum cX6_readSum 5 (some .boolean) hr 0 0 sh sh G (z.2) (fun ad => [.ref (ad a0), .int a1, .int a2]) (fun _ => some (.int z.1))) (h_l0 : sh[l0]? = some (0, 6)) (hf : fX6_readSum_J37L12 sh rc G l0 l1 l2 l3 = some o) (kb : ∀ (G2 : Hp) (b_l3 : Int32), o = .inl (G2, b_l3) → Cl sh G2 → VV E 0 0 (wq (xT E) ad G2 sh) 12 [(0, .ref (ad l0)), (1, .int l1), (2, .int l2), (3, .int b_l3)] []) (kx91 : ∀ (G2 : Hp), o = .inr (.inl G2) → Cl sh G2 → VV E 0 0 (wq (xT E) ad G2 sh) 91 [(0, .ref (ad l0)), (1, .int l1), (2, .int l2)] []) (kx74 : ∀ (G2 : Hp), o = .inr (.inr G2) → Cl sh G2 → VV E 0 0 (wq (xT E) ad G2 sh) 74 [(0, .ref (ad l0)), (1, .int l1), (2, .int l2)] []) : VV E 0 0 (wq (xT E) ad G sh) 37 [(0, .ref (ad l0)), (1, .int l1), (2, .int l2), (3, .int l3)] [] := by
  unfold fX6_readSum_J37L12 at hf
  refine v_aload_n C 0 dX6_readSum_37 rfl rfl ?_
  refine v_getI C h_l0 fl_X6_65 dX6_readSum_38 ?_
  refine v_bipush (v := 43) C dX6_readSum_41 (by decide) ?_
  refine v_icmp_ne (tgt := 51) C dX6_readSum_43 (by decide) (fun c1 => ?_) (fun c1 => ?_)
  · have hf := im hf c1
    refine v_bipush (v := (-12)) C dX6_readSum_51 (by decide) ?_
    refine v_sub [0, 1, 2, 3] rfl ?_
    exact tX6_readSum_J53L12 C hC hr10 hrec h_l0 hf kb kx91 kx74
  · have hf := ip hf c1
    refine v_bipush (v := (-11)) C dX6_readSum_46 (by decide) ?_
    refine v_goto (tgt := 53) C dX6_readSum_48 (by decide) ?_
    refine v_sub [0, 1, 2, 3] rfl ?_
    exact tX6_readSum_J53L12 C hC hr10 hrec h_l0 hf kb kx91 kx74
def fX6_readSum_S12 (sh : Sh) (rc : Hp → Nat → Int32 → Int32 → Option (Int32 × Hp)) (l0 : Nat) (l1 : Int32) (l2 : Int32) (G : Hp) (l3 : Int32) : Option ((Hp × Int32) ⊕ ((Hp) ⊕ (Hp))) := if 400 ≤ l3 then some (.inr (.inl G)) else if (G.1 l0 5) = 43 then fX6_readSum_J37L12 sh rc G l0 l1 l2 l3 else if (G.1 l0 5) = 45 then fX6_readSum_J37L12 sh rc G l0 l1 l2 l3 else some (.inr (.inl G))
set_option maxHeartbeats 4000000 in
theorem tX6_readSum_S12 {E : EX} {ad : Nat → Nat} {sh : Sh} {G : Hp} {rc : Hp → Nat → Int32 → Int32 → Option (Int32 × Hp)} {hr : Nat} {l0 : Nat} {l1 : Int32} {l2 : Int32} {l3 : Int32} {o : (Hp × Int32) ⊕ ((Hp) ⊕ (Hp))} (C : Cx E RX6 cX6_readSum 5 (some .boolean) (hr + 3) 0 0) (hC : Cl sh G) (hr10 : 10 ≤ hr) (hrec : ∀ (G : Hp) (a0 : Nat) (a1 : Int32) (a2 : Int32) z, rc G a0 a1 a2 = some z → sh[a0]? = some (0, 6) → MC (xl E) yX6_readSum cX6_readSum 5 (some .boolean) hr 0 0 sh sh G (z.2) (fun ad => [.ref (ad a0), .int a1, .int a2]) (fun _ => some (.int z.1))) (h_l0 : sh[l0]? = some (0, 6)) (hf : fX6_readSum_S12 sh rc l0 l1 l2 G l3 = some o) (kb : ∀ (G2 : Hp) (b_l3 : Int32), o = .inl (G2, b_l3) → Cl sh G2 → VV E 0 0 (wq (xT E) ad G2 sh) 12 [(0, .ref (ad l0)), (1, .int l1), (2, .int l2), (3, .int b_l3)] []) (kx91 : ∀ (G2 : Hp), o = .inr (.inl G2) → Cl sh G2 → VV E 0 0 (wq (xT E) ad G2 sh) 91 [(0, .ref (ad l0)), (1, .int l1), (2, .int l2)] []) (kx74 : ∀ (G2 : Hp), o = .inr (.inr G2) → Cl sh G2 → VV E 0 0 (wq (xT E) ad G2 sh) 74 [(0, .ref (ad l0)), (1, .int l1), (2, .int l2)] []) : VV E 0 0 (wq (xT E) ad G sh) 12 [(0, .ref (ad l0)), (1, .int l1), (2, .int l2), (3, .int l3)] [] := by
  unfold fX6_readSum_S12 at hf
  refine v_iload_n C 3 dX6_readSum_12 rfl rfl ?_
  refine v_sipush (v := 400) C dX6_readSum_13 (by decide) ?_
  refine v_icmp_ge (tgt := 91) C dX6_readSum_16 (by decide) (fun c1 => ?_) (fun c1 => ?_)
  · have hf := ip hf c1
    cases hf
    refine v_sub [0, 1, 2] rfl ?_
    exact kx91 _ rfl hC
  · have hf := im hf c1
    refine v_aload_n C 0 dX6_readSum_19 rfl rfl ?_
    refine v_getI C h_l0 fl_X6_65 dX6_readSum_20 ?_
    refine v_bipush (v := 43) C dX6_readSum_23 (by decide) ?_
    refine v_icmp_eq (tgt := 37) C dX6_readSum_25 (by decide) (fun c2 => ?_) (fun c2 => ?_)
    · have hf := ip hf c2
      refine v_sub [0, 1, 2, 3] rfl ?_
      exact tX6_readSum_J37L12 C hC hr10 hrec h_l0 hf kb kx91 kx74
    · have hf := im hf c2
      refine v_aload_n C 0 dX6_readSum_28 rfl rfl ?_
      refine v_getI C h_l0 fl_X6_65 dX6_readSum_29 ?_
      refine v_bipush (v := 45) C dX6_readSum_32 (by decide) ?_
      refine v_icmp_ne (tgt := 91) C dX6_readSum_34 (by decide) (fun c3 => ?_) (fun c3 => ?_)
      · have hf := im hf c3
        cases hf
        refine v_sub [0, 1, 2] rfl ?_
        exact kx91 _ rfl hC
      · have hf := ip hf c3
        refine v_sub [0, 1, 2, 3] rfl ?_
        exact tX6_readSum_J37L12 C hC hr10 hrec h_l0 hf kb kx91 kx74
def fX6_readSum_J91 (sh : Sh) (rc : Hp → Nat → Int32 → Int32 → Option (Int32 × Hp)) (G : Hp) (l0 : Nat) (l1 : Int32) (l2 : Int32) : Option (Int32 × Hp) := if l1 = 0 then (ldO sh G l0 10 4).bind fun a5 => (fX4_endPart sh G a5).bind fun G7 => bp (fX6_pass sh G7 l0 l2) fun r8 G9 => if ¬ (r8 = 0 ∨ r8 = 1) then none else some (r8, G9) else bp (fX6_pass sh G l0 l2) fun r2 G3 => if ¬ (r2 = 0 ∨ r2 = 1) then none else some (r2, G3)
set_option maxHeartbeats 4000000 in
theorem tX6_readSum_J91 {E : EX} {ad : Nat → Nat} {sh : Sh} {G : Hp} {rc : Hp → Nat → Int32 → Int32 → Option (Int32 × Hp)} {hr : Nat} {l0 : Nat} {l1 : Int32} {l2 : Int32} {z : Int32 × Hp} (C : Cx E RX6 cX6_readSum 5 (some .boolean) (hr + 3) 0 0) (hC : Cl sh G) (hr10 : 10 ≤ hr) (hrec : ∀ (G : Hp) (a0 : Nat) (a1 : Int32) (a2 : Int32) z, rc G a0 a1 a2 = some z → sh[a0]? = some (0, 6) → MC (xl E) yX6_readSum cX6_readSum 5 (some .boolean) hr 0 0 sh sh G (z.2) (fun ad => [.ref (ad a0), .int a1, .int a2]) (fun _ => some (.int z.1))) (h_l0 : sh[l0]? = some (0, 6)) (hf : fX6_readSum_J91 sh rc G l0 l1 l2 = some z) (kr : RCz E cX6_readSum ad sh (z.1) (z.2)) : VV E 0 0 (wq (xT E) ad G sh) 91 [(0, .ref (ad l0)), (1, .int l1), (2, .int l2)] [] := by
  unfold fX6_readSum_J91 at hf
  refine v_iload_n C 1 dX6_readSum_91 rfl rfl ?_
  refine v_if_ne (tgt := 102) C dX6_readSum_92 (by decide) (fun c1 => ?_) (fun c1 => ?_)
  · have hf := im hf c1
    refine v_aload_n C 0 dX6_readSum_102 rfl rfl ?_
    refine v_iload_n C 2 dX6_readSum_103 rfl rfl ?_
    obtain ⟨r2, G3, qr2, hf⟩ := bpn hf
    refine v_callVi (As := [.int l2]) (rest := []) C (sX6_pass h_l0 qr2) cs_X6_116 (by omega) h_l0 rfl hC rfl rfl rfl (Nat.le_of_ble_eq_true rfl) ⟨Nat.le_refl _, Nat.le_refl _⟩ dX6_readSum_104 (fun hC => ?_)
    obtain ⟨hz4, hf⟩ := iz hf
    cases hf
    exact kr _ _ dX6_readSum_107 (Classical.not_not.mp hz4) hC
  · have hf := ip hf c1
    refine v_aload_n C 0 dX6_readSum_95 rfl rfl ?_
    obtain ⟨a5, qa5, hf⟩ := bn hf
    refine v_getO C h_l0 fl_X6_39 qa5 dX6_readSum_96 (fun h_a5 => ?_)
    obtain ⟨G7, qr6, hf⟩ := bn hf
    refine v_callVv (As := []) (rest := []) C (sX4_endPart h_a5 qr6) cs_X6_228 (by omega) h_a5 rfl hC rfl rfl rfl (Nat.le_of_ble_eq_true rfl) ⟨Nat.le_refl _, Nat.le_refl _⟩ dX6_readSum_99 (fun hC => ?_)
    refine v_aload_n C 0 dX6_readSum_102 rfl rfl ?_
    refine v_iload_n C 2 dX6_readSum_103 rfl rfl ?_
    obtain ⟨r8, G9, qr8, hf⟩ := bpn hf
    refine v_callVi (As := [.int l2]) (rest := []) C (sX6_pass h_l0 qr8) cs_X6_116 (by omega) h_l0 rfl hC rfl rfl rfl (Nat.le_of_ble_eq_true rfl) ⟨Nat.le_refl _, Nat.le_refl _⟩ dX6_readSum_104 (fun hC => ?_)
    obtain ⟨hz10, hf⟩ := iz hf
    cases hf
    exact kr _ _ dX6_readSum_107 (Classical.not_not.mp hz10) hC
def fX6_readSum (sh : Sh) (rc : Hp → Nat → Int32 → Int32 → Option (Int32 × Hp)) (G : Hp) (l0 : Nat) (l1 : Int32) (l2 : Int32) : Option (Int32 × Hp) := bp (fX6_readProduct sh rc G l0 l1) fun r1 G2 => if r1 = 0 then some (0, G2) else (iter (fun s : Hp × Int32 => fX6_readSum_S12 sh rc l0 l1 l2 s.1 s.2) fuel ((G2, 0) : Hp × Int32)).bind (Sum.elim (fun u6 => bd u6 fun G5 => fX6_readSum_J91 sh rc G5 l0 l1 l2) (fun u8 => bd u8 fun G7 => some (0, G7)))
set_option maxHeartbeats 4000000 in
theorem tX6_readSum {E : EX} {ad : Nat → Nat} {sh : Sh} {G : Hp} {rc : Hp → Nat → Int32 → Int32 → Option (Int32 × Hp)} {hr : Nat} {l0 : Nat} {l1 : Int32} {l2 : Int32} {z : Int32 × Hp} (C : Cx E RX6 cX6_readSum 5 (some .boolean) (hr + 3) 0 0) (hC : Cl sh G) (hr10 : 10 ≤ hr) (hrec : ∀ (G : Hp) (a0 : Nat) (a1 : Int32) (a2 : Int32) z, rc G a0 a1 a2 = some z → sh[a0]? = some (0, 6) → MC (xl E) yX6_readSum cX6_readSum 5 (some .boolean) hr 0 0 sh sh G (z.2) (fun ad => [.ref (ad a0), .int a1, .int a2]) (fun _ => some (.int z.1))) (h_l0 : sh[l0]? = some (0, 6)) (hf : fX6_readSum sh rc G l0 l1 l2 = some z) (kr : RCz E cX6_readSum ad sh (z.1) (z.2)) : VV E 0 0 (wq (xT E) ad G sh) 0 [(0, .ref (ad l0)), (1, .int l1), (2, .int l2)] [] := by
  unfold fX6_readSum at hf
  refine v_aload_n C 0 dX6_readSum_0 rfl rfl ?_
  refine v_iload_n C 1 dX6_readSum_1 rfl rfl ?_
  obtain ⟨r1, G2, qr1, hf⟩ := bpn hf
  refine v_callVi (As := [.int l1]) (rest := []) C (sX6_readProduct hr10 hrec h_l0 qr1) cs_X6_222 (by omega) h_l0 rfl hC rfl rfl rfl (Nat.le_of_ble_eq_true rfl) ⟨Nat.le_refl _, Nat.le_refl _⟩ dX6_readSum_2 (fun hC => ?_)
  refine v_if_ne (tgt := 10) C dX6_readSum_5 (by decide) (fun c3 => ?_) (fun c3 => ?_)
  · have hf := im hf c3
    refine v_iconst (v := 0) C dX6_readSum_10 (by decide) ?_
    refine v_istore_n (lv2 := [(3, .int 0), (0, .ref (ad l0)), (1, .int l1), (2, .int l2)]) C dX6_readSum_11 rfl (by decide) rfl ?_
    obtain ⟨r4, qr4, hf⟩ := bn hf
    refine v_sub [1, 2, 3, 0] rfl ?_
    refine iter_sound (P := (fun s : Hp × Int32 => Cl sh (s.1) → VV E 0 0 (wq (xT E) ad (s.1) sh) 12 [(0, .ref (ad l0)), (1, .int (l1)), (2, .int (l2)), (3, .int (s.2))] [])) (X := fun r => r = r4) (fun jsr4 jor4 hor4 jbr4 jxr4 hC => tX6_readSum_S12 C hC hr10 hrec h_l0 hor4 (fun _ _ e => jbr4 _ e) ?_ ?_) fuel _ r4 qr4 rfl hC
    · intro G5 hu hC
      have e := jxr4 _ hu
      subst e
      have hf := sm_l hf
      have hf := bd_at hf (rfl : G5 = _)
      refine v_sub [0, 1, 2] rfl ?_
      exact tX6_readSum_J91 C hC hr10 hrec h_l0 hf kr
    · intro G7 hu hC
      have e := jxr4 _ hu
      subst e
      have hf := sm_r hf
      have hf := bd_at hf (rfl : G7 = _)
      refine v_iconst (v := 0) C dX6_readSum_74 (by decide) ?_
      cases hf
      exact kr _ _ dX6_readSum_75 (Or.inl rfl) hC
  · have hf := ip hf c3
    refine v_iconst (v := 0) C dX6_readSum_8 (by decide) ?_
    cases hf
    exact kr _ _ dX6_readSum_9 (Or.inl rfl) hC
theorem sX6_readSum {l : Launch} {sh : Sh} {G : Hp} {rc : Hp → Nat → Int32 → Int32 → Option (Int32 × Hp)} {hr : Nat} {l0 : Nat} {l1 : Int32} {l2 : Int32} {z : Int32 × Hp} (hr10 : 10 ≤ hr) (hrec : ∀ (G : Hp) (a0 : Nat) (a1 : Int32) (a2 : Int32) z, rc G a0 a1 a2 = some z → sh[a0]? = some (0, 6) → MC l yX6_readSum cX6_readSum 5 (some .boolean) hr 0 0 sh sh G (z.2) (fun ad => [.ref (ad a0), .int a1, .int a2]) (fun _ => some (.int z.1))) (h_l0 : sh[l0]? = some (0, 6)) (hf : fX6_readSum sh rc G l0 l1 l2 = some z) : MC l yX6_readSum cX6_readSum 5 (some .boolean) (hr + 3) 0 0 sh sh G (z.2) (fun ad => [.ref (ad l0), .int l1, .int l2]) (fun _ => some (.int z.1)) := by
  refine MC_of rfl rfl (fun _ => Nat.le_of_ble_eq_true rfl) (fun E ad C hl hnm hC hQ => ?_)
  exact tX6_readSum C hC hr10 (by rw [hl]; exact hrec) h_l0 hf (fun pc lv hd hz hC => v_zret C hQ (fun _ _ => rfl) hC rfl hz hd)
def fX6_readSum_d (sh : Sh) : Nat → Hp → Nat → Int32 → Int32 → Option (Int32 × Hp)
  | 0 => fun _ _ _ _ => none
  | d + 1 => fX6_readSum sh (fX6_readSum_d sh d)
theorem sX6_readSum_e {l : Launch} {sh : Sh} : ∀ (d : Nat) (G : Hp) (l0 : Nat) (l1 : Int32) (l2 : Int32) (z : Int32 × Hp), fX6_readSum_d sh d G l0 l1 l2 = some z → sh[l0]? = some (0, 6) → MC l yX6_readSum cX6_readSum 5 (some .boolean) (10 + 3 * d) 0 0 sh sh G (z.2) (fun ad => [.ref (ad l0), .int l1, .int l2]) (fun _ => some (.int z.1)) := by
  intro d
  induction d with
  | zero => intro G l0 l1 l2 z hf; cases hf
  | succ d ih =>
    intro G l0 l1 l2 z hf h_l0
    have e : 10 + 3 * (d + 1) = 10 + 3 * d + 3 := by omega
    rw [e]
    exact sX6_readSum (hr := 10 + 3 * d) (by omega) (fun G a0 a1 a2 z hz h_l0 => ih G a0 a1 a2 z hz h_l0) h_l0 hf
theorem sX6_readSum_d {l : Launch} {sh : Sh} {G : Hp} {l0 : Nat} {l1 : Int32} {l2 : Int32} {z : Int32 × Hp} (h_l0 : sh[l0]? = some (0, 6)) (hf : fX6_readSum_d sh 8 G l0 l1 l2 = some z) : MC l yX6_readSum cX6_readSum 5 (some .boolean) 34 0 0 sh sh G (z.2) (fun ad => [.ref (ad l0), .int l1, .int l2]) (fun _ => some (.int z.1)) := sX6_readSum_e 8 _ _ _ _ _ hf h_l0
def fX6_readLaw_S36 (sh : Sh) (l0 : Nat) (G : Hp) (l2 : Int32) : Option ((Hp × Int32) ⊕ ((Hp) ⊕ (Hp) ⊕ (Hp))) := if 4 < l2 then some (.inr (.inl G)) else if (G.1 l0 5) = 270 then if l2 = 4 then some (.inr (.inr (.inl G))) else bp (fX6_pass sh G l0 270) fun r4 G5 => if r4 = 0 then some (.inr (.inr (.inr G5))) else bp (fX6_readSum_d sh 8 G5 l0 0 60) fun r7 G8 => if r7 = 0 then some (.inr (.inr (.inr G8))) else bp (fX6_readSum_d sh 8 G8 l0 0 271) fun r10 G11 => if r10 = 0 then some (.inr (.inr (.inr G11))) else bp (fX6_readSum_d sh 8 G11 l0 0 272) fun r13 G14 => if r13 = 0 then some (.inr (.inr (.inr G14))) else bd ((l2 + 1) : Int32) fun x16 => some (.inl (G14, x16)) else some (.inr (.inl G))
set_option maxHeartbeats 4000000 in
theorem tX6_readLaw_S36 {E : EX} {ad : Nat → Nat} {sh : Sh} {G : Hp} {l0 : Nat} {l2 : Int32} {o : (Hp × Int32) ⊕ ((Hp) ⊕ (Hp) ⊕ (Hp))} (C : Cx E RX6 cX6_readLaw 3 (some .boolean) 35 0 0) (hC : Cl sh G) (h_l0 : sh[l0]? = some (0, 6)) (hf : fX6_readLaw_S36 sh l0 G l2 = some o) (kb : ∀ (G2 : Hp) (b_l2 : Int32), o = .inl (G2, b_l2) → Cl sh G2 → VV E 0 0 (wq (xT E) ad G2 sh) 36 [(0, .ref (ad l0)), (2, .int b_l2)] []) (kx112 : ∀ (G2 : Hp), o = .inr (.inl G2) → Cl sh G2 → VV E 0 0 (wq (xT E) ad G2 sh) 112 [(0, .ref (ad l0))] []) (kx56 : ∀ (G2 : Hp), o = .inr (.inr (.inl G2)) → Cl sh G2 → VV E 0 0 (wq (xT E) ad G2 sh) 56 [(0, .ref (ad l0))] []) (kx104 : ∀ (G2 : Hp), o = .inr (.inr (.inr G2)) → Cl sh G2 → VV E 0 0 (wq (xT E) ad G2 sh) 104 [(0, .ref (ad l0))] []) : VV E 0 0 (wq (xT E) ad G sh) 36 [(0, .ref (ad l0)), (2, .int l2)] [] := by
  unfold fX6_readLaw_S36 at hf
  refine v_iload_n C 1 dX6_readLaw_36 rfl rfl ?_
  refine v_iconst (v := 4) C dX6_readLaw_37 (by decide) ?_
  refine v_icmp_gt (tgt := 112) C dX6_readLaw_38 (by decide) (fun c1 => ?_) (fun c1 => ?_)
  · have hf := ip hf c1
    cases hf
    refine v_sub [0] rfl ?_
    exact kx112 _ rfl hC
  · have hf := im hf c1
    refine v_aload_n C 0 dX6_readLaw_41 rfl rfl ?_
    refine v_getI C h_l0 fl_X6_65 dX6_readLaw_42 ?_
    refine v_sipush (v := 270) C dX6_readLaw_45 (by decide) ?_
    refine v_icmp_ne (tgt := 112) C dX6_readLaw_48 (by decide) (fun c2 => ?_) (fun c2 => ?_)
    · have hf := im hf c2
      cases hf
      refine v_sub [0] rfl ?_
      exact kx112 _ rfl hC
    · have hf := ip hf c2
      refine v_iload_n C 1 dX6_readLaw_51 rfl rfl ?_
      refine v_iconst (v := 4) C dX6_readLaw_52 (by decide) ?_
      refine v_icmp_ne (tgt := 62) C dX6_readLaw_53 (by decide) (fun c3 => ?_) (fun c3 => ?_)
      · have hf := im hf c3
        refine v_aload_n C 0 dX6_readLaw_62 rfl rfl ?_
        refine v_sipush (v := 270) C dX6_readLaw_63 (by decide) ?_
        obtain ⟨r4, G5, qr4, hf⟩ := bpn hf
        refine v_callVi (As := [.int 270]) (rest := []) C (sX6_pass h_l0 qr4) cs_X6_116 (by decide) h_l0 rfl hC rfl rfl rfl (Nat.le_of_ble_eq_true rfl) ⟨Nat.le_refl _, Nat.le_refl _⟩ dX6_readLaw_66 (fun hC => ?_)
        refine v_if_eq (tgt := 104) C dX6_readLaw_69 (by decide) (fun c6 => ?_) (fun c6 => ?_)
        · have hf := ip hf c6
          cases hf
          refine v_sub [0] rfl ?_
          exact kx104 _ rfl hC
        · have hf := im hf c6
          refine v_aload_n C 0 dX6_readLaw_72 rfl rfl ?_
          refine v_iconst (v := 0) C dX6_readLaw_73 (by decide) ?_
          refine v_bipush (v := 60) C dX6_readLaw_74 (by decide) ?_
          obtain ⟨r7, G8, qr7, hf⟩ := bpn hf
          refine v_callVi (As := [.int 0, .int 60]) (rest := []) C (sX6_readSum_d h_l0 qr7) cs_X6_219 (by decide) h_l0 rfl hC rfl rfl rfl (Nat.le_of_ble_eq_true rfl) ⟨Nat.le_refl _, Nat.le_refl _⟩ dX6_readLaw_76 (fun hC => ?_)
          refine v_if_eq (tgt := 104) C dX6_readLaw_79 (by decide) (fun c9 => ?_) (fun c9 => ?_)
          · have hf := ip hf c9
            cases hf
            refine v_sub [0] rfl ?_
            exact kx104 _ rfl hC
          · have hf := im hf c9
            refine v_aload_n C 0 dX6_readLaw_82 rfl rfl ?_
            refine v_iconst (v := 0) C dX6_readLaw_83 (by decide) ?_
            refine v_sipush (v := 271) C dX6_readLaw_84 (by decide) ?_
            obtain ⟨r10, G11, qr10, hf⟩ := bpn hf
            refine v_callVi (As := [.int 0, .int 271]) (rest := []) C (sX6_readSum_d h_l0 qr10) cs_X6_219 (by decide) h_l0 rfl hC rfl rfl rfl (Nat.le_of_ble_eq_true rfl) ⟨Nat.le_refl _, Nat.le_refl _⟩ dX6_readLaw_87 (fun hC => ?_)
            refine v_if_eq (tgt := 104) C dX6_readLaw_90 (by decide) (fun c12 => ?_) (fun c12 => ?_)
            · have hf := ip hf c12
              cases hf
              refine v_sub [0] rfl ?_
              exact kx104 _ rfl hC
            · have hf := im hf c12
              refine v_aload_n C 0 dX6_readLaw_93 rfl rfl ?_
              refine v_iconst (v := 0) C dX6_readLaw_94 (by decide) ?_
              refine v_sipush (v := 272) C dX6_readLaw_95 (by decide) ?_
              obtain ⟨r13, G14, qr13, hf⟩ := bpn hf
              refine v_callVi (As := [.int 0, .int 272]) (rest := []) C (sX6_readSum_d h_l0 qr13) cs_X6_219 (by decide) h_l0 rfl hC rfl rfl rfl (Nat.le_of_ble_eq_true rfl) ⟨Nat.le_refl _, Nat.le_refl _⟩ dX6_readLaw_98 (fun hC => ?_)
              refine v_if_ne (tgt := 106) C dX6_readLaw_101 (by decide) (fun c15 => ?_) (fun c15 => ?_)
              · have hf := im hf c15
                obtain ⟨x16, ex16⟩ : ∃ x : Int32, x = (l2 + 1) := ⟨_, rfl⟩
                have hf := bd_at hf ex16
                refine v_iinc (v := x16) (j := 1) (lv2 := [(2, .int x16), (0, .ref (ad l0))]) C dX6_readLaw_106 rfl (by rw [ex16]; rfl) (by decide) rfl ?_
                refine v_goto (tgt := 36) C dX6_readLaw_109 (by decide) ?_
                cases hf
                refine v_sub [1, 0] rfl ?_
                exact kb _ _ rfl hC
              · have hf := ip hf c15
                cases hf
                refine v_sub [0] rfl ?_
                exact kx104 _ rfl hC
      · have hf := ip hf c3
        cases hf
        refine v_sub [0] rfl ?_
        exact kx56 _ rfl hC
def fX6_readLaw (sh : Sh) (G : Hp) (l0 : Nat) (l1 : Nat) : Option (Int32 × Hp) := bp (fX6_pass sh G l0 (G.1 l0 5)) fun r1 G2 => if r1 = 0 then some (0, G2) else bp (fX6_pass sh G2 l0 61) fun r4 G5 => if r4 = 0 then some (0, G5) else bd (sR G5 l0 10 (some l1)) fun G7 => (ldO sh G7 l0 10 4).bind fun a8 => (fX4_clear sh G7 a8).bind fun G10 => (iter (fun s : Hp × Int32 => fX6_readLaw_S36 sh l0 s.1 s.2) fuel ((G10, 0) : Hp × Int32)).bind (Sum.elim (fun u16 => bd u16 fun G12 => bp (fX6_readSum_d sh 8 G12 l0 0 59) fun r13 G14 => if ¬ (r13 = 0 ∨ r13 = 1) then none else some (r13, G14)) (Sum.elim (fun u21 => bd u21 fun G17 => bp (fX6_refuse sh G17 l0 2) fun r18 G19 => if ¬ (r18 = 0 ∨ r18 = 1) then none else some (r18, G19)) (fun u23 => bd u23 fun G22 => some (0, G22))))
set_option maxHeartbeats 4000000 in
theorem tX6_readLaw {E : EX} {ad : Nat → Nat} {sh : Sh} {G : Hp} {l0 : Nat} {l1 : Nat} {z : Int32 × Hp} (C : Cx E RX6 cX6_readLaw 3 (some .boolean) 35 0 0) (hC : Cl sh G) (h_l0 : sh[l0]? = some (0, 6)) (h_l1 : sh[l1]? = some (0, 4)) (hf : fX6_readLaw sh G l0 l1 = some z) (kr : RCz E cX6_readLaw ad sh (z.1) (z.2)) : VV E 0 0 (wq (xT E) ad G sh) 0 [(0, .ref (ad l0)), (1, .ref (ad l1))] [] := by
  unfold fX6_readLaw at hf
  refine v_aload_n C 0 dX6_readLaw_0 rfl rfl ?_
  refine v_aload_n C 0 dX6_readLaw_1 rfl rfl ?_
  refine v_getI C h_l0 fl_X6_65 dX6_readLaw_2 ?_
  obtain ⟨r1, G2, qr1, hf⟩ := bpn hf
  refine v_callVi (As := [.int (G.1 l0 5)]) (rest := []) C (sX6_pass h_l0 qr1) cs_X6_116 (by decide) h_l0 rfl hC rfl rfl rfl (Nat.le_of_ble_eq_true rfl) ⟨Nat.le_refl _, Nat.le_refl _⟩ dX6_readLaw_5 (fun hC => ?_)
  refine v_if_eq (tgt := 20) C dX6_readLaw_8 (by decide) (fun c3 => ?_) (fun c3 => ?_)
  · have hf := ip hf c3
    refine v_iconst (v := 0) C dX6_readLaw_20 (by decide) ?_
    cases hf
    exact kr _ _ dX6_readLaw_21 (Or.inl rfl) hC
  · have hf := im hf c3
    refine v_aload_n C 0 dX6_readLaw_11 rfl rfl ?_
    refine v_bipush (v := 61) C dX6_readLaw_12 (by decide) ?_
    obtain ⟨r4, G5, qr4, hf⟩ := bpn hf
    refine v_callVi (As := [.int 61]) (rest := []) C (sX6_pass h_l0 qr4) cs_X6_116 (by decide) h_l0 rfl hC rfl rfl rfl (Nat.le_of_ble_eq_true rfl) ⟨Nat.le_refl _, Nat.le_refl _⟩ dX6_readLaw_14 (fun hC => ?_)
    refine v_if_ne (tgt := 22) C dX6_readLaw_17 (by decide) (fun c6 => ?_) (fun c6 => ?_)
    · have hf := im hf c6
      refine v_aload_n C 0 dX6_readLaw_22 rfl rfl ?_
      refine v_aload_n C 1 dX6_readLaw_23 rfl rfl ?_
      refine v_putR C h_l0 fp_X6_39 rfl rfl h_l1 hC dX6_readLaw_24 (fun G7 eG7 hC => ?_)
      have hf := bd_at hf eG7
      refine v_aload_n C 0 dX6_readLaw_27 rfl rfl ?_
      obtain ⟨a8, qa8, hf⟩ := bn hf
      refine v_getO C h_l0 fl_X6_39 qa8 dX6_readLaw_28 (fun h_a8 => ?_)
      obtain ⟨G10, qr9, hf⟩ := bn hf
      refine v_callVv (As := []) (rest := []) C (sX4_clear h_a8 qr9) cs_X6_216 (by decide) h_a8 rfl hC rfl rfl rfl (Nat.le_of_ble_eq_true rfl) ⟨Nat.le_refl _, Nat.le_refl _⟩ dX6_readLaw_31 (fun hC => ?_)
      refine v_iconst (v := 0) C dX6_readLaw_34 (by decide) ?_
      refine v_istore_n (lv2 := [(2, .int 0), (0, .ref (ad l0)), (1, .ref (ad l1))]) C dX6_readLaw_35 rfl (by decide) rfl ?_
      obtain ⟨r11, qr11, hf⟩ := bn hf
      refine v_sub [1, 0] rfl ?_
      refine iter_sound (P := (fun s : Hp × Int32 => Cl sh (s.1) → VV E 0 0 (wq (xT E) ad (s.1) sh) 36 [(0, .ref (ad l0)), (2, .int (s.2))] [])) (X := fun r => r = r11) (fun jsr11 jor11 hor11 jbr11 jxr11 hC => tX6_readLaw_S36 C hC h_l0 hor11 (fun _ _ e => jbr11 _ e) ?_ ?_ ?_) fuel _ r11 qr11 rfl hC
      · intro G12 hu hC
        have e := jxr11 _ hu
        subst e
        have hf := sm_l hf
        have hf := bd_at hf (rfl : G12 = _)
        refine v_aload_n C 0 dX6_readLaw_112 rfl rfl ?_
        refine v_iconst (v := 0) C dX6_readLaw_113 (by decide) ?_
        refine v_bipush (v := 59) C dX6_readLaw_114 (by decide) ?_
        obtain ⟨r13, G14, qr13, hf⟩ := bpn hf
        refine v_callVi (As := [.int 0, .int 59]) (rest := []) C (sX6_readSum_d h_l0 qr13) cs_X6_219 (by decide) h_l0 rfl hC rfl rfl rfl (Nat.le_of_ble_eq_true rfl) ⟨Nat.le_refl _, Nat.le_refl _⟩ dX6_readLaw_116 (fun hC => ?_)
        obtain ⟨hz15, hf⟩ := iz hf
        cases hf
        exact kr _ _ dX6_readLaw_119 (Classical.not_not.mp hz15) hC
      · intro G17 hu hC
        have e := jxr11 _ hu
        subst e
        have hf := sm_r hf
        have hf := sm_l hf
        have hf := bd_at hf (rfl : G17 = _)
        refine v_aload_n C 0 dX6_readLaw_56 rfl rfl ?_
        refine v_iconst (v := 2) C dX6_readLaw_57 (by decide) ?_
        obtain ⟨r18, G19, qr18, hf⟩ := bpn hf
        refine v_callVi (As := [.int 2]) (rest := []) C (sX6_refuse h_l0 qr18) cs_X6_97 (by decide) h_l0 rfl hC rfl rfl rfl (Nat.le_of_ble_eq_true rfl) ⟨Nat.le_refl _, Nat.le_refl _⟩ dX6_readLaw_58 (fun hC => ?_)
        obtain ⟨hz20, hf⟩ := iz hf
        cases hf
        exact kr _ _ dX6_readLaw_61 (Classical.not_not.mp hz20) hC
      · intro G22 hu hC
        have e := jxr11 _ hu
        subst e
        have hf := sm_r hf
        have hf := sm_r hf
        have hf := bd_at hf (rfl : G22 = _)
        refine v_iconst (v := 0) C dX6_readLaw_104 (by decide) ?_
        cases hf
        exact kr _ _ dX6_readLaw_105 (Or.inl rfl) hC
    · have hf := ip hf c6
      refine v_iconst (v := 0) C dX6_readLaw_20 (by decide) ?_
      cases hf
      exact kr _ _ dX6_readLaw_21 (Or.inl rfl) hC
theorem sX6_readLaw {l : Launch} {sh : Sh} {G : Hp} {l0 : Nat} {l1 : Nat} {z : Int32 × Hp} (h_l0 : sh[l0]? = some (0, 6)) (h_l1 : sh[l1]? = some (0, 4)) (hf : fX6_readLaw sh G l0 l1 = some z) : MC l yX6_readLaw cX6_readLaw 3 (some .boolean) 35 0 0 sh sh G (z.2) (fun ad => [.ref (ad l0), .ref (ad l1)]) (fun _ => some (.int z.1)) := by
  refine MC_of rfl rfl (fun _ => Nat.le_of_ble_eq_true rfl) (fun E ad C hl hnm hC hQ => ?_)
  exact tX6_readLaw C hC h_l0 h_l1 hf (fun pc lv hd hz hC => v_zret C hQ (fun _ _ => rfl) hC rfl hz hd)
def fX6_readStorm (sh : Sh) (G : Hp) (l0 : Nat) : Option (Int32 × Hp) := bp (fX6_pass sh G l0 263) fun r1 G2 => if r1 = 0 then some (0, G2) else bp (fX6_readNumber sh G2 l0 0 100) fun r4 G5 => if r4 = 0 then some (0, G5) else (ldO sh G5 l0 9 8).bind fun a7 => bd (sI G5 a7 4 (G5.1 l0 7)) fun G8 => bp (fX6_pass sh G8 l0 59) fun r9 G10 => if ¬ (r9 = 0 ∨ r9 = 1) then none else some (r9, G10)
set_option maxHeartbeats 4000000 in
theorem tX6_readStorm {E : EX} {ad : Nat → Nat} {sh : Sh} {G : Hp} {l0 : Nat} {z : Int32 × Hp} (C : Cx E RX6 cX6_readStorm 1 (some .boolean) 3 0 0) (hC : Cl sh G) (h_l0 : sh[l0]? = some (0, 6)) (hf : fX6_readStorm sh G l0 = some z) (kr : RCz E cX6_readStorm ad sh (z.1) (z.2)) : VV E 0 0 (wq (xT E) ad G sh) 0 [(0, .ref (ad l0))] [] := by
  unfold fX6_readStorm at hf
  refine v_aload_n C 0 dX6_readStorm_0 rfl rfl ?_
  refine v_sipush (v := 263) C dX6_readStorm_1 (by decide) ?_
  obtain ⟨r1, G2, qr1, hf⟩ := bpn hf
  refine v_callVi (As := [.int 263]) (rest := []) C (sX6_pass h_l0 qr1) cs_X6_116 (by decide) h_l0 rfl hC rfl rfl rfl (Nat.le_of_ble_eq_true rfl) ⟨Nat.le_refl _, Nat.le_refl _⟩ dX6_readStorm_4 (fun hC => ?_)
  refine v_if_eq (tgt := 20) C dX6_readStorm_7 (by decide) (fun c3 => ?_) (fun c3 => ?_)
  · have hf := ip hf c3
    refine v_iconst (v := 0) C dX6_readStorm_20 (by decide) ?_
    cases hf
    exact kr _ _ dX6_readStorm_21 (Or.inl rfl) hC
  · have hf := im hf c3
    refine v_aload_n C 0 dX6_readStorm_10 rfl rfl ?_
    refine v_iconst (v := 0) C dX6_readStorm_11 (by decide) ?_
    refine v_bipush (v := 100) C dX6_readStorm_12 (by decide) ?_
    obtain ⟨r4, G5, qr4, hf⟩ := bpn hf
    refine v_callVi (As := [.int 0, .int 100]) (rest := []) C (sX6_readNumber h_l0 qr4) cs_X6_129 (by decide) h_l0 rfl hC rfl rfl rfl (Nat.le_of_ble_eq_true rfl) ⟨Nat.le_refl _, Nat.le_refl _⟩ dX6_readStorm_14 (fun hC => ?_)
    refine v_if_ne (tgt := 22) C dX6_readStorm_17 (by decide) (fun c6 => ?_) (fun c6 => ?_)
    · have hf := im hf c6
      refine v_aload_n C 0 dX6_readStorm_22 rfl rfl ?_
      obtain ⟨a7, qa7, hf⟩ := bn hf
      refine v_getO C h_l0 fl_X6_31 qa7 dX6_readStorm_23 (fun h_a7 => ?_)
      refine v_aload_n C 0 dX6_readStorm_26 rfl rfl ?_
      refine v_getI C h_l0 fl_X6_136 dX6_readStorm_27 ?_
      refine v_putI C h_a7 fp_X6_184 dX6_readStorm_30 (fun G8 eG8 => ?_)
      have hf := bd_at hf eG8
      have hC : Cl sh G8 := by rw [eG8]; exact hC
      refine v_aload_n C 0 dX6_readStorm_33 rfl rfl ?_
      refine v_bipush (v := 59) C dX6_readStorm_34 (by decide) ?_
      obtain ⟨r9, G10, qr9, hf⟩ := bpn hf
      refine v_callVi (As := [.int 59]) (rest := []) C (sX6_pass h_l0 qr9) cs_X6_116 (by decide) h_l0 rfl hC rfl rfl rfl (Nat.le_of_ble_eq_true rfl) ⟨Nat.le_refl _, Nat.le_refl _⟩ dX6_readStorm_36 (fun hC => ?_)
      obtain ⟨hz11, hf⟩ := iz hf
      cases hf
      exact kr _ _ dX6_readStorm_39 (Classical.not_not.mp hz11) hC
    · have hf := ip hf c6
      refine v_iconst (v := 0) C dX6_readStorm_20 (by decide) ?_
      cases hf
      exact kr _ _ dX6_readStorm_21 (Or.inl rfl) hC
theorem sX6_readStorm {l : Launch} {sh : Sh} {G : Hp} {l0 : Nat} {z : Int32 × Hp} (h_l0 : sh[l0]? = some (0, 6)) (hf : fX6_readStorm sh G l0 = some z) : MC l yX6_readStorm cX6_readStorm 1 (some .boolean) 3 0 0 sh sh G (z.2) (fun ad => [.ref (ad l0)]) (fun _ => some (.int z.1)) := by
  refine MC_of rfl rfl (fun _ => Nat.le_of_ble_eq_true rfl) (fun E ad C hl hnm hC hQ => ?_)
  exact tX6_readStorm C hC h_l0 hf (fun pc lv hd hz hC => v_zret C hQ (fun _ _ => rfl) hC rfl hz hd)
def fX6_readSeed (sh : Sh) (G : Hp) (l0 : Nat) : Option (Int32 × Hp) := bp (fX6_pass sh G l0 264) fun r1 G2 => if r1 = 0 then some (0, G2) else bp (fX6_readNumber sh G2 l0 0 9999) fun r4 G5 => if r4 = 0 then some (0, G5) else (ldO sh G5 l0 9 8).bind fun a7 => bd (sI G5 a7 5 (G5.1 l0 7)) fun G8 => bp (fX6_pass sh G8 l0 59) fun r9 G10 => if ¬ (r9 = 0 ∨ r9 = 1) then none else some (r9, G10)
set_option maxHeartbeats 4000000 in
theorem tX6_readSeed {E : EX} {ad : Nat → Nat} {sh : Sh} {G : Hp} {l0 : Nat} {z : Int32 × Hp} (C : Cx E RX6 cX6_readSeed 1 (some .boolean) 3 0 0) (hC : Cl sh G) (h_l0 : sh[l0]? = some (0, 6)) (hf : fX6_readSeed sh G l0 = some z) (kr : RCz E cX6_readSeed ad sh (z.1) (z.2)) : VV E 0 0 (wq (xT E) ad G sh) 0 [(0, .ref (ad l0))] [] := by
  unfold fX6_readSeed at hf
  refine v_aload_n C 0 dX6_readSeed_0 rfl rfl ?_
  refine v_sipush (v := 264) C dX6_readSeed_1 (by decide) ?_
  obtain ⟨r1, G2, qr1, hf⟩ := bpn hf
  refine v_callVi (As := [.int 264]) (rest := []) C (sX6_pass h_l0 qr1) cs_X6_116 (by decide) h_l0 rfl hC rfl rfl rfl (Nat.le_of_ble_eq_true rfl) ⟨Nat.le_refl _, Nat.le_refl _⟩ dX6_readSeed_4 (fun hC => ?_)
  refine v_if_eq (tgt := 21) C dX6_readSeed_7 (by decide) (fun c3 => ?_) (fun c3 => ?_)
  · have hf := ip hf c3
    refine v_iconst (v := 0) C dX6_readSeed_21 (by decide) ?_
    cases hf
    exact kr _ _ dX6_readSeed_22 (Or.inl rfl) hC
  · have hf := im hf c3
    refine v_aload_n C 0 dX6_readSeed_10 rfl rfl ?_
    refine v_iconst (v := 0) C dX6_readSeed_11 (by decide) ?_
    refine v_sipush (v := 9999) C dX6_readSeed_12 (by decide) ?_
    obtain ⟨r4, G5, qr4, hf⟩ := bpn hf
    refine v_callVi (As := [.int 0, .int 9999]) (rest := []) C (sX6_readNumber h_l0 qr4) cs_X6_129 (by decide) h_l0 rfl hC rfl rfl rfl (Nat.le_of_ble_eq_true rfl) ⟨Nat.le_refl _, Nat.le_refl _⟩ dX6_readSeed_15 (fun hC => ?_)
    refine v_if_ne (tgt := 23) C dX6_readSeed_18 (by decide) (fun c6 => ?_) (fun c6 => ?_)
    · have hf := im hf c6
      refine v_aload_n C 0 dX6_readSeed_23 rfl rfl ?_
      obtain ⟨a7, qa7, hf⟩ := bn hf
      refine v_getO C h_l0 fl_X6_31 qa7 dX6_readSeed_24 (fun h_a7 => ?_)
      refine v_aload_n C 0 dX6_readSeed_27 rfl rfl ?_
      refine v_getI C h_l0 fl_X6_136 dX6_readSeed_28 ?_
      refine v_putI C h_a7 fp_X6_187 dX6_readSeed_31 (fun G8 eG8 => ?_)
      have hf := bd_at hf eG8
      have hC : Cl sh G8 := by rw [eG8]; exact hC
      refine v_aload_n C 0 dX6_readSeed_34 rfl rfl ?_
      refine v_bipush (v := 59) C dX6_readSeed_35 (by decide) ?_
      obtain ⟨r9, G10, qr9, hf⟩ := bpn hf
      refine v_callVi (As := [.int 59]) (rest := []) C (sX6_pass h_l0 qr9) cs_X6_116 (by decide) h_l0 rfl hC rfl rfl rfl (Nat.le_of_ble_eq_true rfl) ⟨Nat.le_refl _, Nat.le_refl _⟩ dX6_readSeed_37 (fun hC => ?_)
      obtain ⟨hz11, hf⟩ := iz hf
      cases hf
      exact kr _ _ dX6_readSeed_40 (Classical.not_not.mp hz11) hC
    · have hf := ip hf c6
      refine v_iconst (v := 0) C dX6_readSeed_21 (by decide) ?_
      cases hf
      exact kr _ _ dX6_readSeed_22 (Or.inl rfl) hC
theorem sX6_readSeed {l : Launch} {sh : Sh} {G : Hp} {l0 : Nat} {z : Int32 × Hp} (h_l0 : sh[l0]? = some (0, 6)) (hf : fX6_readSeed sh G l0 = some z) : MC l yX6_readSeed cX6_readSeed 1 (some .boolean) 3 0 0 sh sh G (z.2) (fun ad => [.ref (ad l0)]) (fun _ => some (.int z.1)) := by
  refine MC_of rfl rfl (fun _ => Nat.le_of_ble_eq_true rfl) (fun E ad C hl hnm hC hQ => ?_)
  exact tX6_readSeed C hC h_l0 hf (fun pc lv hd hz hC => v_zret C hQ (fun _ _ => rfl) hC rfl hz hd)
def fX6_readTells_S4 (sh : Sh) (l0 : Nat) (G : Hp) (l1 : Int32) (l2 : Int32) : Option ((Hp × Int32 × Int32) ⊕ ((Hp × Int32))) := if 400 < l2 then some (.inr (G, l1)) else if l1 = 0 then some (.inr (G, l1)) else if (G.1 l0 5) = 0 then some (.inr (G, l1)) else bd ((G.1 l0 5) : Int32) fun x4 => if x4 = 256 then bp (fX6_readTrait sh G l0) fun r6 G7 => bd ((l2 + 1) : Int32) fun x8 => some (.inl (G7, r6, x8)) else if x4 = 257 then bp (fX6_readBeing sh G l0) fun r10 G11 => bd ((l2 + 1) : Int32) fun x12 => some (.inl (G11, r10, x12)) else if x4 = 258 then bp (fX6_readWay sh G l0) fun r14 G15 => bd ((l2 + 1) : Int32) fun x16 => some (.inl (G15, r14, x16)) else if x4 = 259 then bp (fX6_readBridge sh G l0) fun r18 G19 => bd ((l2 + 1) : Int32) fun x20 => some (.inl (G19, r18, x20)) else if x4 = 260 then (ldO sh G l0 9 8).bind fun a22 => (ldO sh G a22 14 4).bind fun a23 => bp (fX6_readLaw sh G l0 a23) fun r24 G25 => bd ((l2 + 1) : Int32) fun x26 => some (.inl (G25, r24, x26)) else if x4 = 261 then (ldO sh G l0 9 8).bind fun a28 => (ldO sh G a28 15 4).bind fun a29 => bp (fX6_readLaw sh G l0 a29) fun r30 G31 => bd ((l2 + 1) : Int32) fun x32 => some (.inl (G31, r30, x32)) else if x4 = 262 then (ldO sh G l0 9 8).bind fun a34 => (ldO sh G a34 16 4).bind fun a35 => bp (fX6_readLaw sh G l0 a35) fun r36 G37 => bd ((l2 + 1) : Int32) fun x38 => some (.inl (G37, r36, x38)) else if x4 = 263 then bp (fX6_readStorm sh G l0) fun r40 G41 => bd ((l2 + 1) : Int32) fun x42 => some (.inl (G41, r40, x42)) else if x4 = 264 then bp (fX6_readSeed sh G l0) fun r44 G45 => bd ((l2 + 1) : Int32) fun x46 => some (.inl (G45, r44, x46)) else bp (fX6_refuse sh G l0 1) fun r47 G48 => bd ((l2 + 1) : Int32) fun x49 => some (.inl (G48, r47, x49))
set_option maxHeartbeats 4000000 in
theorem tX6_readTells_S4 {E : EX} {ad : Nat → Nat} {sh : Sh} {G : Hp} {l0 : Nat} {l1 : Int32} {l2 : Int32} {o : (Hp × Int32 × Int32) ⊕ ((Hp × Int32))} (C : Cx E RX6 cX6_readTells 3 (some .int) 36 0 0) (hC : Cl sh G) (h_l0 : sh[l0]? = some (0, 6)) (hf : fX6_readTells_S4 sh l0 G l1 l2 = some o) (kb : ∀ (G2 : Hp) (b_l1 : Int32) (b_l2 : Int32), o = .inl (G2, b_l1, b_l2) → Cl sh G2 → VV E 0 0 (wq (xT E) ad G2 sh) 4 [(0, .ref (ad l0)), (1, .int b_l1), (2, .int b_l2)] []) (kx181 : ∀ (G2 : Hp) (b_l1 : Int32), o = .inr (G2, b_l1) → Cl sh G2 → VV E 0 0 (wq (xT E) ad G2 sh) 181 [(0, .ref (ad l0)), (1, .int b_l1)] []) : VV E 0 0 (wq (xT E) ad G sh) 4 [(0, .ref (ad l0)), (1, .int l1), (2, .int l2)] [] := by
  unfold fX6_readTells_S4 at hf
  refine v_iload_n C 2 dX6_readTells_4 rfl rfl ?_
  refine v_sipush (v := 400) C dX6_readTells_5 (by decide) ?_
  refine v_icmp_gt (tgt := 181) C dX6_readTells_8 (by decide) (fun c1 => ?_) (fun c1 => ?_)
  · have hf := ip hf c1
    cases hf
    refine v_sub [0, 1] rfl ?_
    exact kx181 _ _ rfl hC
  · have hf := im hf c1
    refine v_iload_n C 1 dX6_readTells_11 rfl rfl ?_
    refine v_if_eq (tgt := 181) C dX6_readTells_12 (by decide) (fun c2 => ?_) (fun c2 => ?_)
    · have hf := ip hf c2
      cases hf
      refine v_sub [0, 1] rfl ?_
      exact kx181 _ _ rfl hC
    · have hf := im hf c2
      refine v_aload_n C 0 dX6_readTells_15 rfl rfl ?_
      refine v_getI C h_l0 fl_X6_65 dX6_readTells_16 ?_
      refine v_if_eq (tgt := 181) C dX6_readTells_19 (by decide) (fun c3 => ?_) (fun c3 => ?_)
      · have hf := ip hf c3
        cases hf
        refine v_sub [0, 1] rfl ?_
        exact kx181 _ _ rfl hC
      · have hf := im hf c3
        refine v_aload_n C 0 dX6_readTells_22 rfl rfl ?_
        refine v_getI C h_l0 fl_X6_65 dX6_readTells_23 ?_
        refine v_topi (fun x4 ex4 => ?_)
        have hf := bd_at hf ex4
        by_cases c5 : x4 = 256
        · have hf := ip hf c5
          refine v_tableIn (off := 50) (tgt := 76) C dX6_readTells_26 (by rw [c5]; decide) (by rw [c5]; decide) (by rw [c5]; decide) (by decide) ?_
          refine v_aload_n C 0 dX6_readTells_76 rfl rfl ?_
          obtain ⟨r6, G7, qr6, hf⟩ := bpn hf
          refine v_callVi (As := []) (rest := []) C (sX6_readTrait h_l0 qr6) cs_X6_68 (by decide) h_l0 rfl hC rfl rfl rfl (Nat.le_of_ble_eq_true rfl) ⟨Nat.le_refl _, Nat.le_refl _⟩ dX6_readTells_77 (fun hC => ?_)
          refine v_istore_n (lv2 := [(1, .int r6), (0, .ref (ad l0)), (2, .int l2)]) C dX6_readTells_80 rfl (by decide) rfl ?_
          refine v_goto (tgt := 175) C dX6_readTells_81 (by decide) ?_
          obtain ⟨x8, ex8⟩ : ∃ x : Int32, x = (l2 + 1) := ⟨_, rfl⟩
          have hf := bd_at hf ex8
          refine v_iinc (v := x8) (j := 2) (lv2 := [(2, .int x8), (1, .int r6), (0, .ref (ad l0))]) C dX6_readTells_175 rfl (by rw [ex8]; rfl) (by decide) rfl ?_
          refine v_goto (tgt := 4) C dX6_readTells_178 (by decide) ?_
          cases hf
          refine v_sub [2, 1, 0] rfl ?_
          exact kb _ _ _ rfl hC
        · have hf := im hf c5
          by_cases c9 : x4 = 257
          · have hf := ip hf c9
            refine v_tableIn (off := 58) (tgt := 84) C dX6_readTells_26 (by rw [c9]; decide) (by rw [c9]; decide) (by rw [c9]; decide) (by decide) ?_
            refine v_aload_n C 0 dX6_readTells_84 rfl rfl ?_
            obtain ⟨r10, G11, qr10, hf⟩ := bpn hf
            refine v_callVi (As := []) (rest := []) C (sX6_readBeing h_l0 qr10) cs_X6_72 (by decide) h_l0 rfl hC rfl rfl rfl (Nat.le_of_ble_eq_true rfl) ⟨Nat.le_refl _, Nat.le_refl _⟩ dX6_readTells_85 (fun hC => ?_)
            refine v_istore_n (lv2 := [(1, .int r10), (0, .ref (ad l0)), (2, .int l2)]) C dX6_readTells_88 rfl (by decide) rfl ?_
            refine v_goto (tgt := 175) C dX6_readTells_89 (by decide) ?_
            obtain ⟨x12, ex12⟩ : ∃ x : Int32, x = (l2 + 1) := ⟨_, rfl⟩
            have hf := bd_at hf ex12
            refine v_iinc (v := x12) (j := 2) (lv2 := [(2, .int x12), (1, .int r10), (0, .ref (ad l0))]) C dX6_readTells_175 rfl (by rw [ex12]; rfl) (by decide) rfl ?_
            refine v_goto (tgt := 4) C dX6_readTells_178 (by decide) ?_
            cases hf
            refine v_sub [2, 1, 0] rfl ?_
            exact kb _ _ _ rfl hC
          · have hf := im hf c9
            by_cases c13 : x4 = 258
            · have hf := ip hf c13
              refine v_tableIn (off := 66) (tgt := 92) C dX6_readTells_26 (by rw [c13]; decide) (by rw [c13]; decide) (by rw [c13]; decide) (by decide) ?_
              refine v_aload_n C 0 dX6_readTells_92 rfl rfl ?_
              obtain ⟨r14, G15, qr14, hf⟩ := bpn hf
              refine v_callVi (As := []) (rest := []) C (sX6_readWay h_l0 qr14) cs_X6_75 (by decide) h_l0 rfl hC rfl rfl rfl (Nat.le_of_ble_eq_true rfl) ⟨Nat.le_refl _, Nat.le_refl _⟩ dX6_readTells_93 (fun hC => ?_)
              refine v_istore_n (lv2 := [(1, .int r14), (0, .ref (ad l0)), (2, .int l2)]) C dX6_readTells_96 rfl (by decide) rfl ?_
              refine v_goto (tgt := 175) C dX6_readTells_97 (by decide) ?_
              obtain ⟨x16, ex16⟩ : ∃ x : Int32, x = (l2 + 1) := ⟨_, rfl⟩
              have hf := bd_at hf ex16
              refine v_iinc (v := x16) (j := 2) (lv2 := [(2, .int x16), (1, .int r14), (0, .ref (ad l0))]) C dX6_readTells_175 rfl (by rw [ex16]; rfl) (by decide) rfl ?_
              refine v_goto (tgt := 4) C dX6_readTells_178 (by decide) ?_
              cases hf
              refine v_sub [2, 1, 0] rfl ?_
              exact kb _ _ _ rfl hC
            · have hf := im hf c13
              by_cases c17 : x4 = 259
              · have hf := ip hf c17
                refine v_tableIn (off := 74) (tgt := 100) C dX6_readTells_26 (by rw [c17]; decide) (by rw [c17]; decide) (by rw [c17]; decide) (by decide) ?_
                refine v_aload_n C 0 dX6_readTells_100 rfl rfl ?_
                obtain ⟨r18, G19, qr18, hf⟩ := bpn hf
                refine v_callVi (As := []) (rest := []) C (sX6_readBridge h_l0 qr18) cs_X6_78 (by decide) h_l0 rfl hC rfl rfl rfl (Nat.le_of_ble_eq_true rfl) ⟨Nat.le_refl _, Nat.le_refl _⟩ dX6_readTells_101 (fun hC => ?_)
                refine v_istore_n (lv2 := [(1, .int r18), (0, .ref (ad l0)), (2, .int l2)]) C dX6_readTells_104 rfl (by decide) rfl ?_
                refine v_goto (tgt := 175) C dX6_readTells_105 (by decide) ?_
                obtain ⟨x20, ex20⟩ : ∃ x : Int32, x = (l2 + 1) := ⟨_, rfl⟩
                have hf := bd_at hf ex20
                refine v_iinc (v := x20) (j := 2) (lv2 := [(2, .int x20), (1, .int r18), (0, .ref (ad l0))]) C dX6_readTells_175 rfl (by rw [ex20]; rfl) (by decide) rfl ?_
                refine v_goto (tgt := 4) C dX6_readTells_178 (by decide) ?_
                cases hf
                refine v_sub [2, 1, 0] rfl ?_
                exact kb _ _ _ rfl hC
              · have hf := im hf c17
                by_cases c21 : x4 = 260
                · have hf := ip hf c21
                  refine v_tableIn (off := 82) (tgt := 108) C dX6_readTells_26 (by rw [c21]; decide) (by rw [c21]; decide) (by rw [c21]; decide) (by decide) ?_
                  refine v_aload_n C 0 dX6_readTells_108 rfl rfl ?_
                  refine v_aload_n C 0 dX6_readTells_109 rfl rfl ?_
                  obtain ⟨a22, qa22, hf⟩ := bn hf
                  refine v_getO C h_l0 fl_X6_31 qa22 dX6_readTells_110 (fun h_a22 => ?_)
                  obtain ⟨a23, qa23, hf⟩ := bn hf
                  refine v_getO C h_a22 fl_X6_35 qa23 dX6_readTells_113 (fun h_a23 => ?_)
                  obtain ⟨r24, G25, qr24, hf⟩ := bpn hf
                  refine v_callVi (As := [.ref (ad a23)]) (rest := []) C (sX6_readLaw h_l0 h_a23 qr24) cs_X6_81 (by decide) h_l0 rfl hC rfl rfl rfl (Nat.le_of_ble_eq_true rfl) ⟨Nat.le_refl _, Nat.le_refl _⟩ dX6_readTells_116 (fun hC => ?_)
                  refine v_istore_n (lv2 := [(1, .int r24), (0, .ref (ad l0)), (2, .int l2)]) C dX6_readTells_119 rfl (by decide) rfl ?_
                  refine v_goto (tgt := 175) C dX6_readTells_120 (by decide) ?_
                  obtain ⟨x26, ex26⟩ : ∃ x : Int32, x = (l2 + 1) := ⟨_, rfl⟩
                  have hf := bd_at hf ex26
                  refine v_iinc (v := x26) (j := 2) (lv2 := [(2, .int x26), (1, .int r24), (0, .ref (ad l0))]) C dX6_readTells_175 rfl (by rw [ex26]; rfl) (by decide) rfl ?_
                  refine v_goto (tgt := 4) C dX6_readTells_178 (by decide) ?_
                  cases hf
                  refine v_sub [2, 1, 0] rfl ?_
                  exact kb _ _ _ rfl hC
                · have hf := im hf c21
                  by_cases c27 : x4 = 261
                  · have hf := ip hf c27
                    refine v_tableIn (off := 97) (tgt := 123) C dX6_readTells_26 (by rw [c27]; decide) (by rw [c27]; decide) (by rw [c27]; decide) (by decide) ?_
                    refine v_aload_n C 0 dX6_readTells_123 rfl rfl ?_
                    refine v_aload_n C 0 dX6_readTells_124 rfl rfl ?_
                    obtain ⟨a28, qa28, hf⟩ := bn hf
                    refine v_getO C h_l0 fl_X6_31 qa28 dX6_readTells_125 (fun h_a28 => ?_)
                    obtain ⟨a29, qa29, hf⟩ := bn hf
                    refine v_getO C h_a28 fl_X6_85 qa29 dX6_readTells_128 (fun h_a29 => ?_)
                    obtain ⟨r30, G31, qr30, hf⟩ := bpn hf
                    refine v_callVi (As := [.ref (ad a29)]) (rest := []) C (sX6_readLaw h_l0 h_a29 qr30) cs_X6_81 (by decide) h_l0 rfl hC rfl rfl rfl (Nat.le_of_ble_eq_true rfl) ⟨Nat.le_refl _, Nat.le_refl _⟩ dX6_readTells_131 (fun hC => ?_)
                    refine v_istore_n (lv2 := [(1, .int r30), (0, .ref (ad l0)), (2, .int l2)]) C dX6_readTells_134 rfl (by decide) rfl ?_
                    refine v_goto (tgt := 175) C dX6_readTells_135 (by decide) ?_
                    obtain ⟨x32, ex32⟩ : ∃ x : Int32, x = (l2 + 1) := ⟨_, rfl⟩
                    have hf := bd_at hf ex32
                    refine v_iinc (v := x32) (j := 2) (lv2 := [(2, .int x32), (1, .int r30), (0, .ref (ad l0))]) C dX6_readTells_175 rfl (by rw [ex32]; rfl) (by decide) rfl ?_
                    refine v_goto (tgt := 4) C dX6_readTells_178 (by decide) ?_
                    cases hf
                    refine v_sub [2, 1, 0] rfl ?_
                    exact kb _ _ _ rfl hC
                  · have hf := im hf c27
                    by_cases c33 : x4 = 262
                    · have hf := ip hf c33
                      refine v_tableIn (off := 112) (tgt := 138) C dX6_readTells_26 (by rw [c33]; decide) (by rw [c33]; decide) (by rw [c33]; decide) (by decide) ?_
                      refine v_aload_n C 0 dX6_readTells_138 rfl rfl ?_
                      refine v_aload_n C 0 dX6_readTells_139 rfl rfl ?_
                      obtain ⟨a34, qa34, hf⟩ := bn hf
                      refine v_getO C h_l0 fl_X6_31 qa34 dX6_readTells_140 (fun h_a34 => ?_)
                      obtain ⟨a35, qa35, hf⟩ := bn hf
                      refine v_getO C h_a34 fl_X6_88 qa35 dX6_readTells_143 (fun h_a35 => ?_)
                      obtain ⟨r36, G37, qr36, hf⟩ := bpn hf
                      refine v_callVi (As := [.ref (ad a35)]) (rest := []) C (sX6_readLaw h_l0 h_a35 qr36) cs_X6_81 (by decide) h_l0 rfl hC rfl rfl rfl (Nat.le_of_ble_eq_true rfl) ⟨Nat.le_refl _, Nat.le_refl _⟩ dX6_readTells_146 (fun hC => ?_)
                      refine v_istore_n (lv2 := [(1, .int r36), (0, .ref (ad l0)), (2, .int l2)]) C dX6_readTells_149 rfl (by decide) rfl ?_
                      refine v_goto (tgt := 175) C dX6_readTells_150 (by decide) ?_
                      obtain ⟨x38, ex38⟩ : ∃ x : Int32, x = (l2 + 1) := ⟨_, rfl⟩
                      have hf := bd_at hf ex38
                      refine v_iinc (v := x38) (j := 2) (lv2 := [(2, .int x38), (1, .int r36), (0, .ref (ad l0))]) C dX6_readTells_175 rfl (by rw [ex38]; rfl) (by decide) rfl ?_
                      refine v_goto (tgt := 4) C dX6_readTells_178 (by decide) ?_
                      cases hf
                      refine v_sub [2, 1, 0] rfl ?_
                      exact kb _ _ _ rfl hC
                    · have hf := im hf c33
                      by_cases c39 : x4 = 263
                      · have hf := ip hf c39
                        refine v_tableIn (off := 127) (tgt := 153) C dX6_readTells_26 (by rw [c39]; decide) (by rw [c39]; decide) (by rw [c39]; decide) (by decide) ?_
                        refine v_aload_n C 0 dX6_readTells_153 rfl rfl ?_
                        obtain ⟨r40, G41, qr40, hf⟩ := bpn hf
                        refine v_callVi (As := []) (rest := []) C (sX6_readStorm h_l0 qr40) cs_X6_91 (by decide) h_l0 rfl hC rfl rfl rfl (Nat.le_of_ble_eq_true rfl) ⟨Nat.le_refl _, Nat.le_refl _⟩ dX6_readTells_154 (fun hC => ?_)
                        refine v_istore_n (lv2 := [(1, .int r40), (0, .ref (ad l0)), (2, .int l2)]) C dX6_readTells_157 rfl (by decide) rfl ?_
                        refine v_goto (tgt := 175) C dX6_readTells_158 (by decide) ?_
                        obtain ⟨x42, ex42⟩ : ∃ x : Int32, x = (l2 + 1) := ⟨_, rfl⟩
                        have hf := bd_at hf ex42
                        refine v_iinc (v := x42) (j := 2) (lv2 := [(2, .int x42), (1, .int r40), (0, .ref (ad l0))]) C dX6_readTells_175 rfl (by rw [ex42]; rfl) (by decide) rfl ?_
                        refine v_goto (tgt := 4) C dX6_readTells_178 (by decide) ?_
                        cases hf
                        refine v_sub [2, 1, 0] rfl ?_
                        exact kb _ _ _ rfl hC
                      · have hf := im hf c39
                        by_cases c43 : x4 = 264
                        · have hf := ip hf c43
                          refine v_tableIn (off := 135) (tgt := 161) C dX6_readTells_26 (by rw [c43]; decide) (by rw [c43]; decide) (by rw [c43]; decide) (by decide) ?_
                          refine v_aload_n C 0 dX6_readTells_161 rfl rfl ?_
                          obtain ⟨r44, G45, qr44, hf⟩ := bpn hf
                          refine v_callVi (As := []) (rest := []) C (sX6_readSeed h_l0 qr44) cs_X6_94 (by decide) h_l0 rfl hC rfl rfl rfl (Nat.le_of_ble_eq_true rfl) ⟨Nat.le_refl _, Nat.le_refl _⟩ dX6_readTells_162 (fun hC => ?_)
                          refine v_istore_n (lv2 := [(1, .int r44), (0, .ref (ad l0)), (2, .int l2)]) C dX6_readTells_165 rfl (by decide) rfl ?_
                          refine v_goto (tgt := 175) C dX6_readTells_166 (by decide) ?_
                          obtain ⟨x46, ex46⟩ : ∃ x : Int32, x = (l2 + 1) := ⟨_, rfl⟩
                          have hf := bd_at hf ex46
                          refine v_iinc (v := x46) (j := 2) (lv2 := [(2, .int x46), (1, .int r44), (0, .ref (ad l0))]) C dX6_readTells_175 rfl (by rw [ex46]; rfl) (by decide) rfl ?_
                          refine v_goto (tgt := 4) C dX6_readTells_178 (by decide) ?_
                          cases hf
                          refine v_sub [2, 1, 0] rfl ?_
                          exact kb _ _ _ rfl hC
                        · have hf := im hf c43
                          refine v_tableOut (tgt := 169) C dX6_readTells_26 (tsw_out (by decide) (by decide) (fun k hk => match k, hk with | 0, _ => fun e => c5 (e.trans (by decide)) | 1, _ => fun e => c9 (e.trans (by decide)) | 2, _ => fun e => c13 (e.trans (by decide)) | 3, _ => fun e => c17 (e.trans (by decide)) | 4, _ => fun e => c21 (e.trans (by decide)) | 5, _ => fun e => c27 (e.trans (by decide)) | 6, _ => fun e => c33 (e.trans (by decide)) | 7, _ => fun e => c39 (e.trans (by decide)) | 8, _ => fun e => c43 (e.trans (by decide)) | k + 9, hk => absurd hk (by simp only [show (Int.toNat (264 - 256 + 1)) = 9 from rfl]; omega))) (by decide) ?_
                          refine v_aload_n C 0 dX6_readTells_169 rfl rfl ?_
                          refine v_iconst (v := 1) C dX6_readTells_170 (by decide) ?_
                          obtain ⟨r47, G48, qr47, hf⟩ := bpn hf
                          refine v_callVi (As := [.int 1]) (rest := []) C (sX6_refuse h_l0 qr47) cs_X6_97 (by decide) h_l0 rfl hC rfl rfl rfl (Nat.le_of_ble_eq_true rfl) ⟨Nat.le_refl _, Nat.le_refl _⟩ dX6_readTells_171 (fun hC => ?_)
                          refine v_istore_n (lv2 := [(1, .int r47), (0, .ref (ad l0)), (2, .int l2)]) C dX6_readTells_174 rfl (by decide) rfl ?_
                          obtain ⟨x49, ex49⟩ : ∃ x : Int32, x = (l2 + 1) := ⟨_, rfl⟩
                          have hf := bd_at hf ex49
                          refine v_iinc (v := x49) (j := 2) (lv2 := [(2, .int x49), (1, .int r47), (0, .ref (ad l0))]) C dX6_readTells_175 rfl (by rw [ex49]; rfl) (by decide) rfl ?_
                          refine v_goto (tgt := 4) C dX6_readTells_178 (by decide) ?_
                          cases hf
                          refine v_sub [2, 1, 0] rfl ?_
                          exact kb _ _ _ rfl hC
def fX6_readTells_J193 (sh : Sh) (G : Hp) (l0 : Nat) (l1 : Int32) : Option (Int32 × Hp) := if l1 = 0 then (ldO sh G l0 0 7).bind fun a2 => (ldA sh G a2 2 1).bind fun a3 => (aI sh G a3 (G.1 l0 6)).bind fun v4 => bd (sI G l0 1 v4) fun G5 => some ((G5.1 l0 2), G5) else bd (sI G l0 1 (G.1 l0 4)) fun G6 => some ((G6.1 l0 2), G6)
set_option maxHeartbeats 4000000 in
theorem tX6_readTells_J193 {E : EX} {ad : Nat → Nat} {sh : Sh} {G : Hp} {l0 : Nat} {l1 : Int32} {z : Int32 × Hp} (C : Cx E RX6 cX6_readTells 3 (some .int) 36 0 0) (hC : Cl sh G) (h_l0 : sh[l0]? = some (0, 6)) (hf : fX6_readTells_J193 sh G l0 l1 = some z) (kr : RCi E cX6_readTells ad sh (z.1) (z.2)) : VV E 0 0 (wq (xT E) ad G sh) 193 [(0, .ref (ad l0)), (1, .int l1)] [] := by
  unfold fX6_readTells_J193 at hf
  refine v_aload_n C 0 dX6_readTells_193 rfl rfl ?_
  refine v_iload_n C 1 dX6_readTells_194 rfl rfl ?_
  refine v_if_eq (tgt := 205) C dX6_readTells_195 (by decide) (fun c1 => ?_) (fun c1 => ?_)
  · have hf := ip hf c1
    refine v_aload_n C 0 dX6_readTells_205 rfl rfl ?_
    obtain ⟨a2, qa2, hf⟩ := bn hf
    refine v_getO C h_l0 fl_X6_14 qa2 dX6_readTells_206 (fun h_a2 => ?_)
    obtain ⟨a3, qa3, hf⟩ := bn hf
    refine v_getA C h_a2 fl_X6_104 qa3 dX6_readTells_209 (fun h_a3 => ?_)
    refine v_aload_n C 0 dX6_readTells_212 rfl rfl ?_
    refine v_getI C h_l0 fl_X6_58 dX6_readTells_213 ?_
    obtain ⟨v4, qv4, hf⟩ := bn hf
    refine v_iald C h_a3 qv4 dX6_readTells_216 ?_
    refine v_putI C h_l0 fp_X6_107 dX6_readTells_217 (fun G5 eG5 => ?_)
    have hf := bd_at hf eG5
    have hC : Cl sh G5 := by rw [eG5]; exact hC
    refine v_aload_n C 0 dX6_readTells_220 rfl rfl ?_
    refine v_getI C h_l0 fl_X6_48 dX6_readTells_221 ?_
    cases hf
    exact kr _ _ dX6_readTells_224 hC
  · have hf := im hf c1
    refine v_aload_n C 0 dX6_readTells_198 rfl rfl ?_
    refine v_getI C h_l0 fl_X6_101 dX6_readTells_199 ?_
    refine v_goto (tgt := 217) C dX6_readTells_202 (by decide) ?_
    refine v_putI C h_l0 fp_X6_107 dX6_readTells_217 (fun G6 eG6 => ?_)
    have hf := bd_at hf eG6
    have hC : Cl sh G6 := by rw [eG6]; exact hC
    refine v_aload_n C 0 dX6_readTells_220 rfl rfl ?_
    refine v_getI C h_l0 fl_X6_48 dX6_readTells_221 ?_
    cases hf
    exact kr _ _ dX6_readTells_224 hC
def fX6_readTells_J181 (sh : Sh) (G : Hp) (l0 : Nat) (l1 : Int32) : Option (Int32 × Hp) := if l1 = 0 then fX6_readTells_J193 sh G l0 l1 else bd (sI G l0 2 (G.1 l0 3)) fun G2 => fX6_readTells_J193 sh G2 l0 l1
set_option maxHeartbeats 4000000 in
theorem tX6_readTells_J181 {E : EX} {ad : Nat → Nat} {sh : Sh} {G : Hp} {l0 : Nat} {l1 : Int32} {z : Int32 × Hp} (C : Cx E RX6 cX6_readTells 3 (some .int) 36 0 0) (hC : Cl sh G) (h_l0 : sh[l0]? = some (0, 6)) (hf : fX6_readTells_J181 sh G l0 l1 = some z) (kr : RCi E cX6_readTells ad sh (z.1) (z.2)) : VV E 0 0 (wq (xT E) ad G sh) 181 [(0, .ref (ad l0)), (1, .int l1)] [] := by
  unfold fX6_readTells_J181 at hf
  refine v_iload_n C 1 dX6_readTells_181 rfl rfl ?_
  refine v_if_eq (tgt := 193) C dX6_readTells_182 (by decide) (fun c1 => ?_) (fun c1 => ?_)
  · have hf := ip hf c1
    refine v_sub [0, 1] rfl ?_
    exact tX6_readTells_J193 C hC h_l0 hf kr
  · have hf := im hf c1
    refine v_aload_n C 0 dX6_readTells_185 rfl rfl ?_
    refine v_aload_n C 0 dX6_readTells_186 rfl rfl ?_
    refine v_getI C h_l0 fl_X6_52 dX6_readTells_187 ?_
    refine v_putI C h_l0 fp_X6_48 dX6_readTells_190 (fun G2 eG2 => ?_)
    have hf := bd_at hf eG2
    have hC : Cl sh G2 := by rw [eG2]; exact hC
    refine v_sub [0, 1] rfl ?_
    exact tX6_readTells_J193 C hC h_l0 hf kr
def fX6_readTells (sh : Sh) (G : Hp) (l0 : Nat) : Option (Int32 × Hp) := (iter (fun s : Hp × Int32 × Int32 => fX6_readTells_S4 sh l0 s.1 s.2.1 s.2.2) fuel ((G, 1, 0) : Hp × Int32 × Int32)).bind (fun u4 => bd u4.1 fun G2 => bd u4.2 fun x3 => fX6_readTells_J181 sh G2 l0 x3)
set_option maxHeartbeats 4000000 in
theorem tX6_readTells {E : EX} {ad : Nat → Nat} {sh : Sh} {G : Hp} {l0 : Nat} {z : Int32 × Hp} (C : Cx E RX6 cX6_readTells 3 (some .int) 36 0 0) (hC : Cl sh G) (h_l0 : sh[l0]? = some (0, 6)) (hf : fX6_readTells sh G l0 = some z) (kr : RCi E cX6_readTells ad sh (z.1) (z.2)) : VV E 0 0 (wq (xT E) ad G sh) 0 [(0, .ref (ad l0))] [] := by
  unfold fX6_readTells at hf
  refine v_iconst (v := 1) C dX6_readTells_0 (by decide) ?_
  refine v_istore_n (lv2 := [(1, .int 1), (0, .ref (ad l0))]) C dX6_readTells_1 rfl (by decide) rfl ?_
  refine v_iconst (v := 0) C dX6_readTells_2 (by decide) ?_
  refine v_istore_n (lv2 := [(2, .int 0), (1, .int 1), (0, .ref (ad l0))]) C dX6_readTells_3 rfl (by decide) rfl ?_
  obtain ⟨r1, qr1, hf⟩ := bn hf
  refine v_sub [2, 1, 0] rfl ?_
  refine iter_sound (P := (fun s : Hp × Int32 × Int32 => Cl sh (s.1) → VV E 0 0 (wq (xT E) ad (s.1) sh) 4 [(0, .ref (ad l0)), (1, .int (s.2.1)), (2, .int (s.2.2))] [])) (X := fun r => r = r1) (fun jsr1 jor1 hor1 jbr1 jxr1 hC => tX6_readTells_S4 C hC h_l0 hor1 (fun _ _ _ e => jbr1 _ e) ?_) fuel _ r1 qr1 rfl hC
  · intro G2 x3 hu hC
    have e := jxr1 _ hu
    subst e
    have hf := bd_at hf (rfl : G2 = _)
    have hf := bd_at hf (rfl : x3 = _)
    refine v_sub [0, 1] rfl ?_
    exact tX6_readTells_J181 C hC h_l0 hf kr
theorem sX6_readTells {l : Launch} {sh : Sh} {G : Hp} {l0 : Nat} {z : Int32 × Hp} (h_l0 : sh[l0]? = some (0, 6)) (hf : fX6_readTells sh G l0 = some z) : MC l yX6_readTells cX6_readTells 3 (some .int) 36 0 0 sh sh G (z.2) (fun ad => [.ref (ad l0)]) (fun _ => some (.int z.1)) := by
  refine MC_of rfl rfl (fun _ => Nat.le_of_ble_eq_true rfl) (fun E ad C hl hnm hC hQ => ?_)
  exact tX6_readTells C hC h_l0 hf (fun pc lv hd hC => v_iret C hQ (fun _ _ => rfl) hC rfl hd)
