def fX5_lookUpWays_S12 (sh : Sh) (l0 : Nat) (l1 : Nat) (l2 : Int32) (G : Hp) (l3 : Int32) : Option ((Hp × Int32) ⊕ ((Hp))) := if (G.1 l1 2) ≤ l3 then some (.inr G) else (ldA sh G l0 9 3).bind fun a2 => (fX5_pairOf l2 l3).bind fun r3 => (fX5_isFirstToItsSet sh G l1 l2 l3).bind fun r4 => (asI sh G a2 r3 (zb r4)).bind fun G5 => bd ((l3 + 1) : Int32) fun x6 => some (.inl (G5, x6))
set_option maxHeartbeats 4000000 in
theorem tX5_lookUpWays_S12 {E : EX} {ad : Nat → Nat} {sh : Sh} {G : Hp} {l0 : Nat} {l1 : Nat} {l2 : Int32} {l3 : Int32} {o : (Hp × Int32) ⊕ ((Hp))} (C : Cx E RX5 cX5_lookUpWays 4 none 3 0 0) (hC : Cl sh G) (h_l0 : sh[l0]? = some (0, 5)) (h_l1 : sh[l1]? = some (0, 8)) (hf : fX5_lookUpWays_S12 sh l0 l1 l2 G l3 = some o) (kb : ∀ (G2 : Hp) (b_l3 : Int32), o = .inl (G2, b_l3) → Cl sh G2 → VV E 0 0 (wq (xT E) ad G2 sh) 12 [(0, .ref (ad l0)), (1, .ref (ad l1)), (2, .int l2), (3, .int b_l3)] []) (kx42 : ∀ (G2 : Hp), o = .inr G2 → Cl sh G2 → VV E 0 0 (wq (xT E) ad G2 sh) 42 [(0, .ref (ad l0)), (1, .ref (ad l1)), (2, .int l2)] []) : VV E 0 0 (wq (xT E) ad G sh) 12 [(0, .ref (ad l0)), (1, .ref (ad l1)), (2, .int l2), (3, .int l3)] [] := by
  unfold fX5_lookUpWays_S12 at hf
  refine v_iload_n C 3 dX5_lookUpWays_12 rfl rfl ?_
  refine v_aload_n C 1 dX5_lookUpWays_13 rfl rfl ?_
  refine v_getI C h_l1 fl_X5_72 dX5_lookUpWays_14 ?_
  refine v_icmp_ge (tgt := 42) C dX5_lookUpWays_17 (by decide) (fun c1 => ?_) (fun c1 => ?_)
  · have hf := ip hf c1
    cases hf
    refine v_sub [0, 1, 2] rfl ?_
    exact kx42 _ rfl hC
  · have hf := im hf c1
    refine v_aload_n C 0 dX5_lookUpWays_20 rfl rfl ?_
    obtain ⟨a2, qa2, hf⟩ := bn hf
    refine v_getA C h_l0 fl_X5_31 qa2 dX5_lookUpWays_21 (fun h_a2 => ?_)
    refine v_iload_n C 2 dX5_lookUpWays_24 rfl rfl ?_
    refine v_iload_n C 3 dX5_lookUpWays_25 rfl rfl ?_
    obtain ⟨r3, qr3, hf⟩ := bn hf
    refine v_callSi (As := [.int l2, .int l3]) (rest := [.ref (ad a2)]) C (sX5_pairOf  qr3) cs_X5_126 (by decide) hC rfl rfl rfl (Nat.le_of_ble_eq_true rfl) ⟨Nat.le_refl _, Nat.le_refl _⟩ dX5_lookUpWays_26 (fun hC => ?_)
    refine v_aload_n C 1 dX5_lookUpWays_29 rfl rfl ?_
    refine v_iload_n C 2 dX5_lookUpWays_30 rfl rfl ?_
    refine v_iload_n C 3 dX5_lookUpWays_31 rfl rfl ?_
    obtain ⟨r4, qr4, hf⟩ := bn hf
    refine v_callSi (As := [.ref (ad l1), .int l2, .int l3]) (rest := [.int r3, .ref (ad a2)]) C (sX5_isFirstToItsSet h_l1 qr4) cs_X5_129 (by decide) hC rfl rfl rfl (Nat.le_of_ble_eq_true rfl) ⟨Nat.le_refl _, Nat.le_refl _⟩ dX5_lookUpWays_32 (fun hC => ?_)
    obtain ⟨G5, qG5, hf⟩ := bn hf
    refine v_zast C h_a2 qG5 hC dX5_lookUpWays_35 (fun hC => ?_)
    obtain ⟨x6, ex6⟩ : ∃ x : Int32, x = (l3 + 1) := ⟨_, rfl⟩
    have hf := bd_at hf ex6
    refine v_iinc (v := x6) (j := 3) (lv2 := [(3, .int x6), (0, .ref (ad l0)), (1, .ref (ad l1)), (2, .int l2)]) C dX5_lookUpWays_36 rfl (by rw [ex6]; rfl) (by decide) rfl ?_
    refine v_goto (tgt := 12) C dX5_lookUpWays_39 (by decide) ?_
    cases hf
    refine v_sub [1, 2, 3, 0] rfl ?_
    exact kb _ _ rfl hC
def fX5_lookUpWays_S2 (sh : Sh) (l0 : Nat) (l1 : Nat) (G : Hp) (l2 : Int32) : Option ((Hp × Int32) ⊕ ((Hp))) := if (G.1 l1 1) ≤ l2 then some (.inr G) else (iter (fun s : Hp × Int32 => fX5_lookUpWays_S12 sh l0 l1 l2 s.1 s.2) fuel ((G, (-1)) : Hp × Int32)).bind (fun u5 => bd u5 fun G3 => bd ((l2 + 1) : Int32) fun x4 => some (.inl (G3, x4)))
set_option maxHeartbeats 4000000 in
theorem tX5_lookUpWays_S2 {E : EX} {ad : Nat → Nat} {sh : Sh} {G : Hp} {l0 : Nat} {l1 : Nat} {l2 : Int32} {o : (Hp × Int32) ⊕ ((Hp))} (C : Cx E RX5 cX5_lookUpWays 4 none 3 0 0) (hC : Cl sh G) (h_l0 : sh[l0]? = some (0, 5)) (h_l1 : sh[l1]? = some (0, 8)) (hf : fX5_lookUpWays_S2 sh l0 l1 G l2 = some o) (kb : ∀ (G2 : Hp) (b_l2 : Int32), o = .inl (G2, b_l2) → Cl sh G2 → VV E 0 0 (wq (xT E) ad G2 sh) 2 [(0, .ref (ad l0)), (1, .ref (ad l1)), (2, .int b_l2)] []) (kx48 : ∀ (G2 : Hp), o = .inr G2 → Cl sh G2 → VV E 0 0 (wq (xT E) ad G2 sh) 48 [(0, .ref (ad l0)), (1, .ref (ad l1))] []) : VV E 0 0 (wq (xT E) ad G sh) 2 [(0, .ref (ad l0)), (1, .ref (ad l1)), (2, .int l2)] [] := by
  unfold fX5_lookUpWays_S2 at hf
  refine v_iload_n C 2 dX5_lookUpWays_2 rfl rfl ?_
  refine v_aload_n C 1 dX5_lookUpWays_3 rfl rfl ?_
  refine v_getI C h_l1 fl_X5_46 dX5_lookUpWays_4 ?_
  refine v_icmp_ge (tgt := 48) C dX5_lookUpWays_7 (by decide) (fun c1 => ?_) (fun c1 => ?_)
  · have hf := ip hf c1
    cases hf
    refine v_sub [0, 1] rfl ?_
    exact kx48 _ rfl hC
  · have hf := im hf c1
    refine v_iconst (v := (-1)) C dX5_lookUpWays_10 (by decide) ?_
    refine v_istore_n (lv2 := [(3, .int (-1)), (0, .ref (ad l0)), (1, .ref (ad l1)), (2, .int l2)]) C dX5_lookUpWays_11 rfl (by decide) rfl ?_
    obtain ⟨r2, qr2, hf⟩ := bn hf
    refine v_sub [1, 2, 3, 0] rfl ?_
    refine iter_sound (P := (fun s : Hp × Int32 => Cl sh (s.1) → VV E 0 0 (wq (xT E) ad (s.1) sh) 12 [(0, .ref (ad l0)), (1, .ref (ad l1)), (2, .int (l2)), (3, .int (s.2))] [])) (X := fun r => r = r2) (fun jsr2 jor2 hor2 jbr2 jxr2 hC => tX5_lookUpWays_S12 C hC h_l0 h_l1 hor2 (fun _ _ e => jbr2 _ e) ?_) fuel _ r2 qr2 rfl hC
    · intro G3 hu hC
      have e := jxr2 _ hu
      subst e
      have hf := bd_at hf (rfl : G3 = _)
      obtain ⟨x4, ex4⟩ : ∃ x : Int32, x = (l2 + 1) := ⟨_, rfl⟩
      have hf := bd_at hf ex4
      refine v_iinc (v := x4) (j := 2) (lv2 := [(2, .int x4), (0, .ref (ad l0)), (1, .ref (ad l1))]) C dX5_lookUpWays_42 rfl (by rw [ex4]; rfl) (by decide) rfl ?_
      refine v_goto (tgt := 2) C dX5_lookUpWays_45 (by decide) ?_
      cases hf
      refine v_sub [1, 2, 0] rfl ?_
      exact kb _ _ rfl hC
def fX5_lookUpWays (sh : Sh) (G : Hp) (l0 : Nat) (l1 : Nat) : Option (Hp) := (iter (fun s : Hp × Int32 => fX5_lookUpWays_S2 sh l0 l1 s.1 s.2) fuel ((G, 0) : Hp × Int32)).bind (fun u3 => bd u3 fun G2 => some G2)
set_option maxHeartbeats 4000000 in
theorem tX5_lookUpWays {E : EX} {ad : Nat → Nat} {sh : Sh} {G : Hp} {l0 : Nat} {l1 : Nat} {z : Hp} (C : Cx E RX5 cX5_lookUpWays 4 none 3 0 0) (hC : Cl sh G) (h_l0 : sh[l0]? = some (0, 5)) (h_l1 : sh[l1]? = some (0, 8)) (hf : fX5_lookUpWays sh G l0 l1 = some z) (kr : RCv E cX5_lookUpWays ad sh z) : VV E 0 0 (wq (xT E) ad G sh) 0 [(0, .ref (ad l0)), (1, .ref (ad l1))] [] := by
  unfold fX5_lookUpWays at hf
  refine v_iconst (v := 0) C dX5_lookUpWays_0 (by decide) ?_
  refine v_istore_n (lv2 := [(2, .int 0), (0, .ref (ad l0)), (1, .ref (ad l1))]) C dX5_lookUpWays_1 rfl (by decide) rfl ?_
  obtain ⟨r1, qr1, hf⟩ := bn hf
  refine v_sub [1, 2, 0] rfl ?_
  refine iter_sound (P := (fun s : Hp × Int32 => Cl sh (s.1) → VV E 0 0 (wq (xT E) ad (s.1) sh) 2 [(0, .ref (ad l0)), (1, .ref (ad l1)), (2, .int (s.2))] [])) (X := fun r => r = r1) (fun jsr1 jor1 hor1 jbr1 jxr1 hC => tX5_lookUpWays_S2 C hC h_l0 h_l1 hor1 (fun _ _ e => jbr1 _ e) ?_) fuel _ r1 qr1 rfl hC
  · intro G2 hu hC
    have e := jxr1 _ hu
    subst e
    have hf := bd_at hf (rfl : G2 = _)
    cases hf
    exact kr _ _ dX5_lookUpWays_48 hC
theorem sX5_lookUpWays {l : Launch} {sh : Sh} {G : Hp} {l0 : Nat} {l1 : Nat} {z : Hp} (h_l0 : sh[l0]? = some (0, 5)) (h_l1 : sh[l1]? = some (0, 8)) (hf : fX5_lookUpWays sh G l0 l1 = some z) : MC l yX5_lookUpWays cX5_lookUpWays 4 none 3 0 0 sh sh G z (fun ad => [.ref (ad l0), .ref (ad l1)]) (fun _ => none) := by
  refine MC_of rfl rfl (fun _ => Nat.le_of_ble_eq_true rfl) (fun E ad C hl hnm hC hQ => ?_)
  exact tX5_lookUpWays C hC h_l0 h_l1 hf (fun pc lv hd hC => v_vret C hQ (fun _ _ => rfl) hC rfl hd)
def fX1_isThere (sh : Sh) (G : Hp) (l0 : Nat) (l1 : Int32) : Option (Int32) := if ((ush (G.1 l0 6) l1) &&& 1) = 0 then some 0 else some 1
set_option maxHeartbeats 4000000 in
theorem tX1_isThere {E : EX} {ad : Nat → Nat} {sh : Sh} {G : Hp} {l0 : Nat} {l1 : Int32} {z : Int32} (C : Cx E RX1 cX1_isThere 2 (some .boolean) 1 0 0) (hC : Cl sh G) (h_l0 : sh[l0]? = some (0, 1)) (hf : fX1_isThere sh G l0 l1 = some z) (kr : RCz E cX1_isThere ad sh z G) : VV E 0 0 (wq (xT E) ad G sh) 0 [(0, .ref (ad l0)), (1, .int l1)] [] := by
  unfold fX1_isThere at hf
  refine v_aload_n C 0 dX1_isThere_0 rfl rfl ?_
  refine v_getI C h_l0 fl_X1_49 dX1_isThere_1 ?_
  refine v_iload_n C 1 dX1_isThere_4 rfl rfl ?_
  refine v_iushr C dX1_isThere_5 ?_
  refine v_iconst (v := 1) C dX1_isThere_6 (by decide) ?_
  refine v_iand C dX1_isThere_7 ?_
  refine v_if_eq (tgt := 15) C dX1_isThere_8 (by decide) (fun c1 => ?_) (fun c1 => ?_)
  · have hf := ip hf c1
    refine v_iconst (v := 0) C dX1_isThere_15 (by decide) ?_
    cases hf
    exact kr _ _ dX1_isThere_16 (Or.inl rfl) hC
  · have hf := im hf c1
    refine v_iconst (v := 1) C dX1_isThere_11 (by decide) ?_
    refine v_goto (tgt := 16) C dX1_isThere_12 (by decide) ?_
    cases hf
    exact kr _ _ dX1_isThere_16 (Or.inr rfl) hC
theorem sX1_isThere {l : Launch} {sh : Sh} {G : Hp} {l0 : Nat} {l1 : Int32} {z : Int32} (h_l0 : sh[l0]? = some (0, 1)) (hf : fX1_isThere sh G l0 l1 = some z) : MC l yX1_isThere cX1_isThere 2 (some .boolean) 1 0 0 sh sh G G (fun ad => [.ref (ad l0), .int l1]) (fun _ => some (.int z)) := by
  refine MC_of rfl rfl (fun _ => Nat.le_of_ble_eq_true rfl) (fun E ad C hl hnm hC hQ => ?_)
  exact tX1_isThere C hC h_l0 hf (fun pc lv hd hz hC => v_zret C hQ (fun _ _ => rfl) hC rfl hz hd)
def fX1_learn (sh : Sh) (G : Hp) (l0 : Nat) (l1 : Int32) : Option (Hp) := (ldA sh G l0 3 1).bind fun a1 => if (nI (ln sh a1)) ≤ (G.1 l0 4) then some G else (ldA sh G l0 3 1).bind fun a3 => (asI sh G a3 (G.1 l0 4) l1).bind fun G4 => bd (sI G4 l0 4 ((G4.1 l0 4) + 1)) fun G5 => some G5
set_option maxHeartbeats 4000000 in
theorem tX1_learn {E : EX} {ad : Nat → Nat} {sh : Sh} {G : Hp} {l0 : Nat} {l1 : Int32} {z : Hp} (C : Cx E RX1 cX1_learn 2 none 1 0 0) (hC : Cl sh G) (h_l0 : sh[l0]? = some (0, 1)) (hf : fX1_learn sh G l0 l1 = some z) (kr : RCv E cX1_learn ad sh z) : VV E 0 0 (wq (xT E) ad G sh) 0 [(0, .ref (ad l0)), (1, .int l1)] [] := by
  unfold fX1_learn at hf
  refine v_aload_n C 0 dX1_learn_0 rfl rfl ?_
  refine v_getI C h_l0 fl_X1_39 dX1_learn_1 ?_
  refine v_aload_n C 0 dX1_learn_4 rfl rfl ?_
  obtain ⟨a1, qa1, hf⟩ := bn hf
  refine v_getA C h_l0 fl_X1_21 qa1 dX1_learn_5 (fun h_a1 => ?_)
  refine v_alen C h_a1 (by decide) dX1_learn_8 ?_
  refine v_icmp_ge (tgt := 32) C dX1_learn_9 (by decide) (fun c2 => ?_) (fun c2 => ?_)
  · have hf := ip hf c2
    cases hf
    exact kr _ _ dX1_learn_32 hC
  · have hf := im hf c2
    refine v_aload_n C 0 dX1_learn_12 rfl rfl ?_
    obtain ⟨a3, qa3, hf⟩ := bn hf
    refine v_getA C h_l0 fl_X1_21 qa3 dX1_learn_13 (fun h_a3 => ?_)
    refine v_aload_n C 0 dX1_learn_16 rfl rfl ?_
    refine v_getI C h_l0 fl_X1_39 dX1_learn_17 ?_
    refine v_iload_n C 1 dX1_learn_20 rfl rfl ?_
    obtain ⟨G4, qG4, hf⟩ := bn hf
    refine v_iast C h_a3 qG4 hC dX1_learn_21 (fun hC => ?_)
    refine v_aload_n C 0 dX1_learn_22 rfl rfl ?_
    refine v_dup C dX1_learn_23 rfl ?_
    refine v_getI C h_l0 fl_X1_39 dX1_learn_24 ?_
    refine v_iconst (v := 1) C dX1_learn_27 (by decide) ?_
    refine v_iadd C dX1_learn_28 ?_
    refine v_putI C h_l0 fp_X1_39 dX1_learn_29 (fun G5 eG5 => ?_)
    have hf := bd_at hf eG5
    have hC : Cl sh G5 := by rw [eG5]; exact hC
    cases hf
    exact kr _ _ dX1_learn_32 hC
theorem sX1_learn {l : Launch} {sh : Sh} {G : Hp} {l0 : Nat} {l1 : Int32} {z : Hp} (h_l0 : sh[l0]? = some (0, 1)) (hf : fX1_learn sh G l0 l1 = some z) : MC l yX1_learn cX1_learn 2 none 1 0 0 sh sh G z (fun ad => [.ref (ad l0), .int l1]) (fun _ => none) := by
  refine MC_of rfl rfl (fun _ => Nat.le_of_ble_eq_true rfl) (fun E ad C hl hnm hC hQ => ?_)
  exact tX1_learn C hC h_l0 hf (fun pc lv hd hC => v_vret C hQ (fun _ _ => rfl) hC rfl hd)
def fX5_chooseBehind_J56 (sh : Sh) (rc : Hp → Nat → Nat → Int32 → Int32 → Option (Hp)) (G : Hp) (l0 : Nat) (l1 : Nat) (l2 : Int32) (l3 : Int32) (l5 : Int32) (l6 : Int32) : Option (Hp) := (rc G l0 l1 (l2 + 1) l3).bind fun G2 => (ldO sh G2 l0 6 1).bind fun a3 => bd (sI G2 a3 6 l5) fun G4 => (ldO sh G4 l0 6 1).bind fun a5 => bd (sI G4 a5 4 l6) fun G6 => some G6
set_option maxHeartbeats 4000000 in
theorem tX5_chooseBehind_J56 {E : EX} {ad : Nat → Nat} {sh : Sh} {G : Hp} {rc : Hp → Nat → Nat → Int32 → Int32 → Option (Hp)} {hr : Nat} {l0 : Nat} {l1 : Nat} {l2 : Int32} {l3 : Int32} {l5 : Int32} {l6 : Int32} {z : Hp} (C : Cx E RX5 cX5_chooseBehind 7 none (hr + 1) 0 0) (hC : Cl sh G) (hr10 : 10 ≤ hr) (hrec : ∀ (G : Hp) (a0 : Nat) (a1 : Nat) (a2 : Int32) (a3 : Int32) z, rc G a0 a1 a2 a3 = some z → sh[a0]? = some (0, 5) → sh[a1]? = some (0, 8) → MC (xl E) yX5_choose cX5_choose 10 none hr 0 0 sh sh G z (fun ad => [.ref (ad a0), .ref (ad a1), .int a2, .int a3]) (fun _ => none)) (h_l0 : sh[l0]? = some (0, 5)) (h_l1 : sh[l1]? = some (0, 8)) (hf : fX5_chooseBehind_J56 sh rc G l0 l1 l2 l3 l5 l6 = some z) (kr : RCv E cX5_chooseBehind ad sh z) : VV E 0 0 (wq (xT E) ad G sh) 56 [(0, .ref (ad l0)), (1, .ref (ad l1)), (2, .int l2), (3, .int l3), (5, .int l5), (6, .int l6)] [] := by
  unfold fX5_chooseBehind_J56 at hf
  refine v_aload_n C 0 dX5_chooseBehind_56 rfl rfl ?_
  refine v_aload_n C 1 dX5_chooseBehind_57 rfl rfl ?_
  refine v_iload_n C 2 dX5_chooseBehind_58 rfl rfl ?_
  refine v_iconst (v := 1) C dX5_chooseBehind_59 (by decide) ?_
  refine v_iadd C dX5_chooseBehind_60 ?_
  refine v_iload_n C 3 dX5_chooseBehind_61 rfl rfl ?_
  obtain ⟨G2, qr1, hf⟩ := bn hf
  refine v_callVv (As := [.ref (ad l1), .int (l2 + 1), .int l3]) (rest := []) C (hrec _ _ _ _ _ _ qr1 h_l0 h_l1) cs_X5_122 (by omega) h_l0 rfl hC rfl rfl rfl (Nat.le_of_ble_eq_true rfl) ⟨Nat.le_refl _, Nat.le_refl _⟩ dX5_chooseBehind_62 (fun hC => ?_)
  refine v_aload_n C 0 dX5_chooseBehind_65 rfl rfl ?_
  obtain ⟨a3, qa3, hf⟩ := bn hf
  refine v_getO C h_l0 fl_X5_21 qa3 dX5_chooseBehind_66 (fun h_a3 => ?_)
  refine v_iload C 4 dX5_chooseBehind_69 rfl ?_
  refine v_putI C h_a3 fp_X5_115 dX5_chooseBehind_71 (fun G4 eG4 => ?_)
  have hf := bd_at hf eG4
  have hC : Cl sh G4 := by rw [eG4]; exact hC
  refine v_aload_n C 0 dX5_chooseBehind_74 rfl rfl ?_
  obtain ⟨a5, qa5, hf⟩ := bn hf
  refine v_getO C h_l0 fl_X5_21 qa5 dX5_chooseBehind_75 (fun h_a5 => ?_)
  refine v_iload C 5 dX5_chooseBehind_78 rfl ?_
  refine v_putI C h_a5 fp_X5_144 dX5_chooseBehind_80 (fun G6 eG6 => ?_)
  have hf := bd_at hf eG6
  have hC : Cl sh G6 := by rw [eG6]; exact hC
  cases hf
  exact kr _ _ dX5_chooseBehind_83 hC
def fX5_chooseBehind (sh : Sh) (rc : Hp → Nat → Nat → Int32 → Int32 → Option (Hp)) (G : Hp) (l0 : Nat) (l1 : Nat) (l2 : Int32) (l3 : Int32) (l4 : Int32) : Option (Hp) := (ldO sh G l0 6 1).bind fun a1 => bd ((G.1 a1 6) : Int32) fun x2 => (ldO sh G l0 6 1).bind fun a3 => bd ((G.1 a3 4) : Int32) fun x4 => (ldO sh G l0 6 1).bind fun a5 => (ldA sh G l0 7 1).bind fun a6 => (aI sh G a6 l2).bind fun v7 => bd (sI G a5 6 ((G.1 a5 6) &&& (((1 : Int32) <<< (v7 &&& 31)) ^^^ (-1)))) fun G8 => if (l4 &&& 1) = 0 then (ldO sh G8 l0 6 1).bind fun a10 => (fX1_learn sh G8 a10 l4).bind fun G12 => fX5_chooseBehind_J56 sh rc G12 l0 l1 l2 l3 x2 x4 else fX5_chooseBehind_J56 sh rc G8 l0 l1 l2 l3 x2 x4
set_option maxHeartbeats 4000000 in
theorem tX5_chooseBehind {E : EX} {ad : Nat → Nat} {sh : Sh} {G : Hp} {rc : Hp → Nat → Nat → Int32 → Int32 → Option (Hp)} {hr : Nat} {l0 : Nat} {l1 : Nat} {l2 : Int32} {l3 : Int32} {l4 : Int32} {z : Hp} (C : Cx E RX5 cX5_chooseBehind 7 none (hr + 1) 0 0) (hC : Cl sh G) (hr10 : 10 ≤ hr) (hrec : ∀ (G : Hp) (a0 : Nat) (a1 : Nat) (a2 : Int32) (a3 : Int32) z, rc G a0 a1 a2 a3 = some z → sh[a0]? = some (0, 5) → sh[a1]? = some (0, 8) → MC (xl E) yX5_choose cX5_choose 10 none hr 0 0 sh sh G z (fun ad => [.ref (ad a0), .ref (ad a1), .int a2, .int a3]) (fun _ => none)) (h_l0 : sh[l0]? = some (0, 5)) (h_l1 : sh[l1]? = some (0, 8)) (hf : fX5_chooseBehind sh rc G l0 l1 l2 l3 l4 = some z) (kr : RCv E cX5_chooseBehind ad sh z) : VV E 0 0 (wq (xT E) ad G sh) 0 [(0, .ref (ad l0)), (1, .ref (ad l1)), (2, .int l2), (3, .int l3), (4, .int l4)] [] := by
  unfold fX5_chooseBehind at hf
  refine v_aload_n C 0 dX5_chooseBehind_0 rfl rfl ?_
  obtain ⟨a1, qa1, hf⟩ := bn hf
  refine v_getO C h_l0 fl_X5_21 qa1 dX5_chooseBehind_1 (fun h_a1 => ?_)
  refine v_getI C h_a1 fl_X5_115 dX5_chooseBehind_4 ?_
  refine v_topi (fun x2 ex2 => ?_)
  have hf := bd_at hf ex2
  refine v_istore (lv2 := [(5, .int x2), (0, .ref (ad l0)), (1, .ref (ad l1)), (2, .int l2), (3, .int l3), (4, .int l4)]) C dX5_chooseBehind_7 (by decide) rfl ?_
  refine v_aload_n C 1 dX5_chooseBehind_9 rfl rfl ?_
  obtain ⟨a3, qa3, hf⟩ := bn hf
  refine v_getO C h_l0 fl_X5_21 qa3 dX5_chooseBehind_10 (fun h_a3 => ?_)
  refine v_getI C h_a3 fl_X5_144 dX5_chooseBehind_13 ?_
  refine v_topi (fun x4 ex4 => ?_)
  have hf := bd_at hf ex4
  refine v_istore (lv2 := [(6, .int x4), (5, .int x2), (0, .ref (ad l0)), (1, .ref (ad l1)), (2, .int l2), (3, .int l3), (4, .int l4)]) C dX5_chooseBehind_16 (by decide) rfl ?_
  refine v_aload_n C 2 dX5_chooseBehind_18 rfl rfl ?_
  obtain ⟨a5, qa5, hf⟩ := bn hf
  refine v_getO C h_l0 fl_X5_21 qa5 dX5_chooseBehind_19 (fun h_a5 => ?_)
  refine v_dup C dX5_chooseBehind_22 rfl ?_
  refine v_getI C h_a5 fl_X5_115 dX5_chooseBehind_23 ?_
  refine v_iconst (v := 1) C dX5_chooseBehind_26 (by decide) ?_
  refine v_aload_n C 2 dX5_chooseBehind_27 rfl rfl ?_
  obtain ⟨a6, qa6, hf⟩ := bn hf
  refine v_getA C h_l0 fl_X5_25 qa6 dX5_chooseBehind_28 (fun h_a6 => ?_)
  refine v_iload_n C 4 dX5_chooseBehind_31 rfl rfl ?_
  obtain ⟨v7, qv7, hf⟩ := bn hf
  refine v_iald C h_a6 qv7 dX5_chooseBehind_32 ?_
  refine v_ishl C dX5_chooseBehind_33 ?_
  refine v_iconst (v := (-1)) C dX5_chooseBehind_34 (by decide) ?_
  refine v_ixor C dX5_chooseBehind_35 ?_
  refine v_iand C dX5_chooseBehind_36 ?_
  refine v_putI C h_a5 fp_X5_115 dX5_chooseBehind_37 (fun G8 eG8 => ?_)
  have hf := bd_at hf eG8
  have hC : Cl sh G8 := by rw [eG8]; exact hC
  refine v_iload C 6 dX5_chooseBehind_40 rfl ?_
  refine v_iconst (v := 1) C dX5_chooseBehind_42 (by decide) ?_
  refine v_iand C dX5_chooseBehind_43 ?_
  refine v_if_ne (tgt := 56) C dX5_chooseBehind_44 (by decide) (fun c9 => ?_) (fun c9 => ?_)
  · have hf := im hf c9
    refine v_sub [2, 3, 4, 5, 1, 0] rfl ?_
    exact tX5_chooseBehind_J56 C hC hr10 hrec h_l0 h_l1 hf kr
  · have hf := ip hf c9
    refine v_aload_n C 2 dX5_chooseBehind_47 rfl rfl ?_
    obtain ⟨a10, qa10, hf⟩ := bn hf
    refine v_getO C h_l0 fl_X5_21 qa10 dX5_chooseBehind_48 (fun h_a10 => ?_)
    refine v_iload C 6 dX5_chooseBehind_51 rfl ?_
    obtain ⟨G12, qr11, hf⟩ := bn hf
    refine v_callVv (As := [.int l4]) (rest := []) C (sX1_learn h_a10 qr11) cs_X5_147 (by omega) h_a10 rfl hC rfl rfl rfl (Nat.le_of_ble_eq_true rfl) ⟨Nat.le_refl _, Nat.le_refl _⟩ dX5_chooseBehind_53 (fun hC => ?_)
    refine v_sub [2, 3, 4, 5, 1, 0] rfl ?_
    exact tX5_chooseBehind_J56 C hC hr10 hrec h_l0 h_l1 hf kr
theorem sX5_chooseBehind {l : Launch} {sh : Sh} {G : Hp} {rc : Hp → Nat → Nat → Int32 → Int32 → Option (Hp)} {hr : Nat} {l0 : Nat} {l1 : Nat} {l2 : Int32} {l3 : Int32} {l4 : Int32} {z : Hp} (hr10 : 10 ≤ hr) (hrec : ∀ (G : Hp) (a0 : Nat) (a1 : Nat) (a2 : Int32) (a3 : Int32) z, rc G a0 a1 a2 a3 = some z → sh[a0]? = some (0, 5) → sh[a1]? = some (0, 8) → MC l yX5_choose cX5_choose 10 none hr 0 0 sh sh G z (fun ad => [.ref (ad a0), .ref (ad a1), .int a2, .int a3]) (fun _ => none)) (h_l0 : sh[l0]? = some (0, 5)) (h_l1 : sh[l1]? = some (0, 8)) (hf : fX5_chooseBehind sh rc G l0 l1 l2 l3 l4 = some z) : MC l yX5_chooseBehind cX5_chooseBehind 7 none (hr + 1) 0 0 sh sh G z (fun ad => [.ref (ad l0), .ref (ad l1), .int l2, .int l3, .int l4]) (fun _ => none) := by
  refine MC_of rfl rfl (fun _ => Nat.le_of_ble_eq_true rfl) (fun E ad C hl hnm hC hQ => ?_)
  exact tX5_chooseBehind C hC hr10 (by rw [hl]; exact hrec) h_l0 h_l1 hf (fun pc lv hd hC => v_vret C hQ (fun _ _ => rfl) hC rfl hd)
def fX5_choose_J189L108 (sh : Sh) (rc : Hp → Nat → Nat → Int32 → Int32 → Option (Hp)) (G : Hp) (l0 : Nat) (l1 : Nat) (l2 : Int32) (l3 : Int32) (l4 : Int32) (l5 : Int32) (l6 : Int32) (l7 : Int32) (l8 : Int32) (s0 : Int32) : Option ((Hp × Int32) ⊕ ((Hp))) := if s0 = 0 then bd ((l6 + 1) : Int32) fun x2 => some (.inl (G, x2)) else (ldO sh G l0 6 1).bind fun a3 => (fX1_takes sh G a3 l1 l2 l8).bind fun r4 => if r4 = 0 then bd ((l6 + 1) : Int32) fun x6 => some (.inl (G, x6)) else (ldA sh G l0 7 1).bind fun a7 => (asI sh G a7 l2 l4).bind fun G8 => (ldA sh G8 l0 8 1).bind fun a9 => (asI sh G8 a9 l2 l6).bind fun G10 => (fX5_chooseBehind sh rc G10 l0 l1 l2 l7 l8).bind fun G12 => bd ((l6 + 1) : Int32) fun x13 => some (.inl (G12, x13))
set_option maxHeartbeats 4000000 in
theorem tX5_choose_J189L108 {E : EX} {ad : Nat → Nat} {sh : Sh} {G : Hp} {rc : Hp → Nat → Nat → Int32 → Int32 → Option (Hp)} {hr : Nat} {l0 : Nat} {l1 : Nat} {l2 : Int32} {l3 : Int32} {l4 : Int32} {l5 : Int32} {l6 : Int32} {l7 : Int32} {l8 : Int32} {s0 : Int32} {o : (Hp × Int32) ⊕ ((Hp))} (C : Cx E RX5 cX5_choose 10 none (hr + 2) 0 0) (hC : Cl sh G) (hr10 : 10 ≤ hr) (hrec : ∀ (G : Hp) (a0 : Nat) (a1 : Nat) (a2 : Int32) (a3 : Int32) z, rc G a0 a1 a2 a3 = some z → sh[a0]? = some (0, 5) → sh[a1]? = some (0, 8) → MC (xl E) yX5_choose cX5_choose 10 none hr 0 0 sh sh G z (fun ad => [.ref (ad a0), .ref (ad a1), .int a2, .int a3]) (fun _ => none)) (h_l0 : sh[l0]? = some (0, 5)) (h_l1 : sh[l1]? = some (0, 8)) (hf : fX5_choose_J189L108 sh rc G l0 l1 l2 l3 l4 l5 l6 l7 l8 s0 = some o) (kb : ∀ (G2 : Hp) (b_l6 : Int32), o = .inl (G2, b_l6) → Cl sh G2 → VV E 0 0 (wq (xT E) ad G2 sh) 108 [(0, .ref (ad l0)), (1, .ref (ad l1)), (2, .int l2), (3, .int l3), (4, .int l4), (5, .int l5), (6, .int b_l6)] []) (kx242 : ∀ (G2 : Hp), o = .inr G2 → Cl sh G2 → VV E 0 0 (wq (xT E) ad G2 sh) 242 [(0, .ref (ad l0)), (1, .ref (ad l1)), (2, .int l2), (3, .int l3), (4, .int l4), (5, .int l5)] []) : VV E 0 0 (wq (xT E) ad G sh) 189 [(0, .ref (ad l0)), (1, .ref (ad l1)), (2, .int l2), (3, .int l3), (4, .int l4), (5, .int l5), (6, .int l6), (7, .int l7), (8, .int l8)] [.int s0] := by
  unfold fX5_choose_J189L108 at hf
  refine v_istore (lv2 := [(9, .int s0), (0, .ref (ad l0)), (1, .ref (ad l1)), (2, .int l2), (3, .int l3), (4, .int l4), (5, .int l5), (6, .int l6), (7, .int l7), (8, .int l8)]) C dX5_choose_189 (by decide) rfl ?_
  refine v_iload C 0 dX5_choose_191 rfl ?_
  refine v_if_eq (tgt := 236) C dX5_choose_193 (by decide) (fun c1 => ?_) (fun c1 => ?_)
  · have hf := ip hf c1
    obtain ⟨x2, ex2⟩ : ∃ x : Int32, x = (l6 + 1) := ⟨_, rfl⟩
    have hf := bd_at hf ex2
    refine v_iinc (v := x2) (j := 7) (lv2 := [(6, .int x2), (9, .int s0), (0, .ref (ad l0)), (1, .ref (ad l1)), (2, .int l2), (3, .int l3), (4, .int l4), (5, .int l5), (7, .int l7), (8, .int l8)]) C dX5_choose_236 rfl (by rw [ex2]; rfl) (by decide) rfl ?_
    refine v_goto (tgt := 108) C dX5_choose_239 (by decide) ?_
    cases hf
    refine v_sub [2, 3, 4, 5, 6, 7, 0] rfl ?_
    exact kb _ _ rfl hC
  · have hf := im hf c1
    refine v_aload_n C 1 dX5_choose_196 rfl rfl ?_
    obtain ⟨a3, qa3, hf⟩ := bn hf
    refine v_getO C h_l0 fl_X5_21 qa3 dX5_choose_197 (fun h_a3 => ?_)
    refine v_aload_n C 2 dX5_choose_200 rfl rfl ?_
    refine v_iload_n C 3 dX5_choose_201 rfl rfl ?_
    refine v_iload C 9 dX5_choose_202 rfl ?_
    obtain ⟨r4, qr4, hf⟩ := bn hf
    refine v_callVi (As := [.ref (ad l1), .int l2, .int l8]) (rest := []) C (sX1_takes h_a3 h_l1 qr4) cs_X5_79 (by omega) h_a3 rfl hC rfl rfl rfl (Nat.le_of_ble_eq_true rfl) ⟨Nat.le_refl _, Nat.le_refl _⟩ dX5_choose_204 (fun hC => ?_)
    refine v_if_eq (tgt := 236) C dX5_choose_207 (by decide) (fun c5 => ?_) (fun c5 => ?_)
    · have hf := ip hf c5
      obtain ⟨x6, ex6⟩ : ∃ x : Int32, x = (l6 + 1) := ⟨_, rfl⟩
      have hf := bd_at hf ex6
      refine v_iinc (v := x6) (j := 7) (lv2 := [(6, .int x6), (9, .int s0), (0, .ref (ad l0)), (1, .ref (ad l1)), (2, .int l2), (3, .int l3), (4, .int l4), (5, .int l5), (7, .int l7), (8, .int l8)]) C dX5_choose_236 rfl (by rw [ex6]; rfl) (by decide) rfl ?_
      refine v_goto (tgt := 108) C dX5_choose_239 (by decide) ?_
      cases hf
      refine v_sub [2, 3, 4, 5, 6, 7, 0] rfl ?_
      exact kb _ _ rfl hC
    · have hf := im hf c5
      refine v_aload_n C 1 dX5_choose_210 rfl rfl ?_
      obtain ⟨a7, qa7, hf⟩ := bn hf
      refine v_getA C h_l0 fl_X5_25 qa7 dX5_choose_211 (fun h_a7 => ?_)
      refine v_iload_n C 3 dX5_choose_214 rfl rfl ?_
      refine v_iload C 5 dX5_choose_215 rfl ?_
      obtain ⟨G8, qG8, hf⟩ := bn hf
      refine v_iast C h_a7 qG8 hC dX5_choose_217 (fun hC => ?_)
      refine v_aload_n C 1 dX5_choose_218 rfl rfl ?_
      obtain ⟨a9, qa9, hf⟩ := bn hf
      refine v_getA C h_l0 fl_X5_28 qa9 dX5_choose_219 (fun h_a9 => ?_)
      refine v_iload_n C 3 dX5_choose_222 rfl rfl ?_
      refine v_iload C 7 dX5_choose_223 rfl ?_
      obtain ⟨G10, qG10, hf⟩ := bn hf
      refine v_iast C h_a9 qG10 hC dX5_choose_225 (fun hC => ?_)
      refine v_aload_n C 1 dX5_choose_226 rfl rfl ?_
      refine v_aload_n C 2 dX5_choose_227 rfl rfl ?_
      refine v_iload_n C 3 dX5_choose_228 rfl rfl ?_
      refine v_iload C 8 dX5_choose_229 rfl ?_
      refine v_iload C 9 dX5_choose_231 rfl ?_
      obtain ⟨G12, qr11, hf⟩ := bn hf
      refine v_callVv (As := [.ref (ad l1), .int l2, .int l7, .int l8]) (rest := []) C (sX5_chooseBehind hr10 hrec h_l0 h_l1 qr11) cs_X5_140 (by omega) h_l0 rfl hC rfl rfl rfl (Nat.le_of_ble_eq_true rfl) ⟨Nat.le_refl _, Nat.le_refl _⟩ dX5_choose_233 (fun hC => ?_)
      obtain ⟨x13, ex13⟩ : ∃ x : Int32, x = (l6 + 1) := ⟨_, rfl⟩
      have hf := bd_at hf ex13
      refine v_iinc (v := x13) (j := 7) (lv2 := [(6, .int x13), (9, .int s0), (0, .ref (ad l0)), (1, .ref (ad l1)), (2, .int l2), (3, .int l3), (4, .int l4), (5, .int l5), (7, .int l7), (8, .int l8)]) C dX5_choose_236 rfl (by rw [ex13]; rfl) (by decide) rfl ?_
      refine v_goto (tgt := 108) C dX5_choose_239 (by decide) ?_
      cases hf
      refine v_sub [2, 3, 4, 5, 6, 7, 0] rfl ?_
      exact kb _ _ rfl hC
def fX5_choose_J188L108 (sh : Sh) (rc : Hp → Nat → Nat → Int32 → Int32 → Option (Hp)) (G : Hp) (l0 : Nat) (l1 : Nat) (l2 : Int32) (l3 : Int32) (l4 : Int32) (l5 : Int32) (l6 : Int32) (l7 : Int32) (l8 : Int32) : Option ((Hp × Int32) ⊕ ((Hp))) := fX5_choose_J189L108 sh rc G l0 l1 l2 l3 l4 l5 l6 l7 l8 0
set_option maxHeartbeats 4000000 in
theorem tX5_choose_J188L108 {E : EX} {ad : Nat → Nat} {sh : Sh} {G : Hp} {rc : Hp → Nat → Nat → Int32 → Int32 → Option (Hp)} {hr : Nat} {l0 : Nat} {l1 : Nat} {l2 : Int32} {l3 : Int32} {l4 : Int32} {l5 : Int32} {l6 : Int32} {l7 : Int32} {l8 : Int32} {o : (Hp × Int32) ⊕ ((Hp))} (C : Cx E RX5 cX5_choose 10 none (hr + 2) 0 0) (hC : Cl sh G) (hr10 : 10 ≤ hr) (hrec : ∀ (G : Hp) (a0 : Nat) (a1 : Nat) (a2 : Int32) (a3 : Int32) z, rc G a0 a1 a2 a3 = some z → sh[a0]? = some (0, 5) → sh[a1]? = some (0, 8) → MC (xl E) yX5_choose cX5_choose 10 none hr 0 0 sh sh G z (fun ad => [.ref (ad a0), .ref (ad a1), .int a2, .int a3]) (fun _ => none)) (h_l0 : sh[l0]? = some (0, 5)) (h_l1 : sh[l1]? = some (0, 8)) (hf : fX5_choose_J188L108 sh rc G l0 l1 l2 l3 l4 l5 l6 l7 l8 = some o) (kb : ∀ (G2 : Hp) (b_l6 : Int32), o = .inl (G2, b_l6) → Cl sh G2 → VV E 0 0 (wq (xT E) ad G2 sh) 108 [(0, .ref (ad l0)), (1, .ref (ad l1)), (2, .int l2), (3, .int l3), (4, .int l4), (5, .int l5), (6, .int b_l6)] []) (kx242 : ∀ (G2 : Hp), o = .inr G2 → Cl sh G2 → VV E 0 0 (wq (xT E) ad G2 sh) 242 [(0, .ref (ad l0)), (1, .ref (ad l1)), (2, .int l2), (3, .int l3), (4, .int l4), (5, .int l5)] []) : VV E 0 0 (wq (xT E) ad G sh) 188 [(0, .ref (ad l0)), (1, .ref (ad l1)), (2, .int l2), (3, .int l3), (4, .int l4), (5, .int l5), (6, .int l6), (7, .int l7), (8, .int l8)] [] := by
  unfold fX5_choose_J188L108 at hf
  refine v_iconst (v := 0) C dX5_choose_188 (by decide) ?_
  refine v_sub [0, 1, 2, 3, 4, 5, 6, 7, 8] rfl ?_
  exact tX5_choose_J189L108 C hC hr10 hrec h_l0 h_l1 hf kb kx242
def fX5_choose_S108 (sh : Sh) (rc : Hp → Nat → Nat → Int32 → Int32 → Option (Hp)) (l0 : Nat) (l1 : Nat) (l2 : Int32) (l3 : Int32) (l4 : Int32) (l5 : Int32) (G : Hp) (l6 : Int32) : Option ((Hp × Int32) ⊕ ((Hp))) := if (G.1 l1 2) ≤ l6 then some (.inr G) else (ldO sh G l0 6 1).bind fun a2 => (fX1_isThere sh G a2 l4).bind fun r3 => if r3 = 0 then some (.inr G) else (ldA sh G l1 6 1).bind fun a5 => (aI sh G a5 l4).bind fun v6 => (fX8_costOf sh G l1 l6).bind fun r7 => bd (((l3 + v6) + r7) : Int32) fun x8 => (fX8_setOf sh G l1 l4 l6).bind fun r9 => (ldA sh G l0 9 3).bind fun a10 => (fX5_pairOf l4 l6).bind fun r11 => (aI sh G a10 r11).bind fun v12 => if v12 = 0 then fX5_choose_J188L108 sh rc G l0 l1 l2 l3 l4 l5 l6 x8 r9 else if (G.1 l0 3) ≤ (x8 + l5) then fX5_choose_J188L108 sh rc G l0 l1 l2 l3 l4 l5 l6 x8 r9 else fX5_choose_J189L108 sh rc G l0 l1 l2 l3 l4 l5 l6 x8 r9 1
set_option maxHeartbeats 4000000 in
theorem tX5_choose_S108 {E : EX} {ad : Nat → Nat} {sh : Sh} {G : Hp} {rc : Hp → Nat → Nat → Int32 → Int32 → Option (Hp)} {hr : Nat} {l0 : Nat} {l1 : Nat} {l2 : Int32} {l3 : Int32} {l4 : Int32} {l5 : Int32} {l6 : Int32} {o : (Hp × Int32) ⊕ ((Hp))} (C : Cx E RX5 cX5_choose 10 none (hr + 2) 0 0) (hC : Cl sh G) (hr10 : 10 ≤ hr) (hrec : ∀ (G : Hp) (a0 : Nat) (a1 : Nat) (a2 : Int32) (a3 : Int32) z, rc G a0 a1 a2 a3 = some z → sh[a0]? = some (0, 5) → sh[a1]? = some (0, 8) → MC (xl E) yX5_choose cX5_choose 10 none hr 0 0 sh sh G z (fun ad => [.ref (ad a0), .ref (ad a1), .int a2, .int a3]) (fun _ => none)) (h_l0 : sh[l0]? = some (0, 5)) (h_l1 : sh[l1]? = some (0, 8)) (hf : fX5_choose_S108 sh rc l0 l1 l2 l3 l4 l5 G l6 = some o) (kb : ∀ (G2 : Hp) (b_l6 : Int32), o = .inl (G2, b_l6) → Cl sh G2 → VV E 0 0 (wq (xT E) ad G2 sh) 108 [(0, .ref (ad l0)), (1, .ref (ad l1)), (2, .int l2), (3, .int l3), (4, .int l4), (5, .int l5), (6, .int b_l6)] []) (kx242 : ∀ (G2 : Hp), o = .inr G2 → Cl sh G2 → VV E 0 0 (wq (xT E) ad G2 sh) 242 [(0, .ref (ad l0)), (1, .ref (ad l1)), (2, .int l2), (3, .int l3), (4, .int l4), (5, .int l5)] []) : VV E 0 0 (wq (xT E) ad G sh) 108 [(0, .ref (ad l0)), (1, .ref (ad l1)), (2, .int l2), (3, .int l3), (4, .int l4), (5, .int l5), (6, .int l6)] [] := by
  unfold fX5_choose_S108 at hf
  refine v_iload C 6 dX5_choose_108 rfl ?_
  refine v_aload_n C 1 dX5_choose_110 rfl rfl ?_
  refine v_getI C h_l1 fl_X5_72 dX5_choose_111 ?_
  refine v_icmp_ge (tgt := 242) C dX5_choose_114 (by decide) (fun c1 => ?_) (fun c1 => ?_)
  · have hf := ip hf c1
    cases hf
    refine v_sub [0, 1, 2, 3, 4, 5] rfl ?_
    exact kx242 _ rfl hC
  · have hf := im hf c1
    refine v_aload_n C 0 dX5_choose_117 rfl rfl ?_
    obtain ⟨a2, qa2, hf⟩ := bn hf
    refine v_getO C h_l0 fl_X5_21 qa2 dX5_choose_118 (fun h_a2 => ?_)
    refine v_iload C 4 dX5_choose_121 rfl ?_
    obtain ⟨r3, qr3, hf⟩ := bn hf
    refine v_callVi (As := [.int l4]) (rest := []) C (sX1_isThere h_a2 qr3) cs_X5_62 (by omega) h_a2 rfl hC rfl rfl rfl (Nat.le_of_ble_eq_true rfl) ⟨Nat.le_refl _, Nat.le_refl _⟩ dX5_choose_123 (fun hC => ?_)
    refine v_if_eq (tgt := 242) C dX5_choose_126 (by decide) (fun c4 => ?_) (fun c4 => ?_)
    · have hf := ip hf c4
      cases hf
      refine v_sub [0, 1, 2, 3, 4, 5] rfl ?_
      exact kx242 _ rfl hC
    · have hf := im hf c4
      refine v_iload_n C 3 dX5_choose_129 rfl rfl ?_
      refine v_aload_n C 1 dX5_choose_130 rfl rfl ?_
      obtain ⟨a5, qa5, hf⟩ := bn hf
      refine v_getA C h_l1 fl_X5_55 qa5 dX5_choose_131 (fun h_a5 => ?_)
      refine v_iload C 4 dX5_choose_134 rfl ?_
      obtain ⟨v6, qv6, hf⟩ := bn hf
      refine v_iald C h_a5 qv6 dX5_choose_136 ?_
      refine v_iadd C dX5_choose_137 ?_
      refine v_aload_n C 1 dX5_choose_138 rfl rfl ?_
      refine v_iload C 6 dX5_choose_139 rfl ?_
      obtain ⟨r7, qr7, hf⟩ := bn hf
      refine v_callVi (As := [.int l6]) (rest := [.int (l3 + v6)]) C (sX8_costOf h_l1 qr7) cs_X5_58 (by omega) h_l1 rfl hC rfl rfl rfl (Nat.le_of_ble_eq_true rfl) ⟨Nat.le_refl _, Nat.le_refl _⟩ dX5_choose_141 (fun hC => ?_)
      refine v_iadd C dX5_choose_144 ?_
      refine v_topi (fun x8 ex8 => ?_)
      have hf := bd_at hf ex8
      refine v_istore (lv2 := [(7, .int x8), (0, .ref (ad l0)), (1, .ref (ad l1)), (2, .int l2), (3, .int l3), (4, .int l4), (5, .int l5), (6, .int l6)]) C dX5_choose_145 (by decide) rfl ?_
      refine v_aload_n C 2 dX5_choose_147 rfl rfl ?_
      refine v_iload C 5 dX5_choose_148 rfl ?_
      refine v_iload C 7 dX5_choose_150 rfl ?_
      obtain ⟨r9, qr9, hf⟩ := bn hf
      refine v_callVi (As := [.int l4, .int l6]) (rest := []) C (sX8_setOf h_l1 qr9) cs_X5_75 (by omega) h_l1 rfl hC rfl rfl rfl (Nat.le_of_ble_eq_true rfl) ⟨Nat.le_refl _, Nat.le_refl _⟩ dX5_choose_152 (fun hC => ?_)
      refine v_istore (lv2 := [(8, .int r9), (7, .int x8), (0, .ref (ad l0)), (1, .ref (ad l1)), (2, .int l2), (3, .int l3), (4, .int l4), (5, .int l5), (6, .int l6)]) C dX5_choose_155 (by decide) rfl ?_
      refine v_aload_n C 2 dX5_choose_157 rfl rfl ?_
      obtain ⟨a10, qa10, hf⟩ := bn hf
      refine v_getA C h_l0 fl_X5_31 qa10 dX5_choose_158 (fun h_a10 => ?_)
      refine v_iload C 6 dX5_choose_161 rfl ?_
      refine v_iload C 8 dX5_choose_163 rfl ?_
      obtain ⟨r11, qr11, hf⟩ := bn hf
      refine v_callSi (As := [.int l4, .int l6]) (rest := [.ref (ad a10)]) C (sX5_pairOf  qr11) cs_X5_126 (by omega) hC rfl rfl rfl (Nat.le_of_ble_eq_true rfl) ⟨Nat.le_refl _, Nat.le_refl _⟩ dX5_choose_165 (fun hC => ?_)
      obtain ⟨v12, qv12, hf⟩ := bn hf
      refine v_zald C h_a10 qv12 dX5_choose_168 ?_
      refine v_if_eq (tgt := 188) C dX5_choose_169 (by decide) (fun c13 => ?_) (fun c13 => ?_)
      · have hf := ip hf c13
        refine v_sub [2, 3, 4, 5, 6, 7, 8, 1, 0] rfl ?_
        exact tX5_choose_J188L108 C hC hr10 hrec h_l0 h_l1 hf kb kx242
      · have hf := im hf c13
        refine v_iload C 1 dX5_choose_172 rfl ?_
        refine v_iload C 7 dX5_choose_174 rfl ?_
        refine v_iadd C dX5_choose_176 ?_
        refine v_aload_n C 2 dX5_choose_177 rfl rfl ?_
        refine v_getI C h_l0 fl_X5_87 dX5_choose_178 ?_
        refine v_icmp_ge (tgt := 188) C dX5_choose_181 (by decide) (fun c14 => ?_) (fun c14 => ?_)
        · have hf := ip hf c14
          refine v_sub [2, 3, 4, 5, 6, 7, 8, 1, 0] rfl ?_
          exact tX5_choose_J188L108 C hC hr10 hrec h_l0 h_l1 hf kb kx242
        · have hf := im hf c14
          refine v_iconst (v := 1) C dX5_choose_184 (by decide) ?_
          refine v_goto (tgt := 189) C dX5_choose_185 (by decide) ?_
          refine v_sub [2, 3, 4, 5, 6, 7, 8, 1, 0] rfl ?_
          exact tX5_choose_J189L108 C hC hr10 hrec h_l0 h_l1 hf kb kx242
def fX5_choose_S67 (sh : Sh) (rc : Hp → Nat → Nat → Int32 → Int32 → Option (Hp)) (l0 : Nat) (l1 : Nat) (l2 : Int32) (l3 : Int32) (G : Hp) (l4 : Int32) : Option ((Hp × Int32) ⊕ ((Hp))) := if (G.1 l1 1) ≤ l4 then some (.inr G) else (ldA sh G l0 11 1).bind fun a2 => (ldO sh G l0 6 1).bind fun a3 => (aI sh G a2 (((l2 + 1) * 128) + ((G.1 a3 6) &&& (((1 : Int32) <<< (l4 &&& 31)) ^^^ (-1))))).bind fun v4 => (iter (fun s : Hp × Int32 => fX5_choose_S108 sh rc l0 l1 l2 l3 l4 v4 s.1 s.2) fuel ((G, (-1)) : Hp × Int32)).bind (fun u8 => bd u8 fun G6 => bd ((l4 + 1) : Int32) fun x7 => some (.inl (G6, x7)))
set_option maxHeartbeats 4000000 in
theorem tX5_choose_S67 {E : EX} {ad : Nat → Nat} {sh : Sh} {G : Hp} {rc : Hp → Nat → Nat → Int32 → Int32 → Option (Hp)} {hr : Nat} {l0 : Nat} {l1 : Nat} {l2 : Int32} {l3 : Int32} {l4 : Int32} {o : (Hp × Int32) ⊕ ((Hp))} (C : Cx E RX5 cX5_choose 10 none (hr + 2) 0 0) (hC : Cl sh G) (hr10 : 10 ≤ hr) (hrec : ∀ (G : Hp) (a0 : Nat) (a1 : Nat) (a2 : Int32) (a3 : Int32) z, rc G a0 a1 a2 a3 = some z → sh[a0]? = some (0, 5) → sh[a1]? = some (0, 8) → MC (xl E) yX5_choose cX5_choose 10 none hr 0 0 sh sh G z (fun ad => [.ref (ad a0), .ref (ad a1), .int a2, .int a3]) (fun _ => none)) (h_l0 : sh[l0]? = some (0, 5)) (h_l1 : sh[l1]? = some (0, 8)) (hf : fX5_choose_S67 sh rc l0 l1 l2 l3 G l4 = some o) (kb : ∀ (G2 : Hp) (b_l4 : Int32), o = .inl (G2, b_l4) → Cl sh G2 → VV E 0 0 (wq (xT E) ad G2 sh) 67 [(0, .ref (ad l0)), (1, .ref (ad l1)), (2, .int l2), (3, .int l3), (4, .int b_l4)] []) (kx248 : ∀ (G2 : Hp), o = .inr G2 → Cl sh G2 → VV E 0 0 (wq (xT E) ad G2 sh) 248 [(0, .ref (ad l0)), (1, .ref (ad l1)), (2, .int l2), (3, .int l3)] []) : VV E 0 0 (wq (xT E) ad G sh) 67 [(0, .ref (ad l0)), (1, .ref (ad l1)), (2, .int l2), (3, .int l3), (4, .int l4)] [] := by
  unfold fX5_choose_S67 at hf
  refine v_iload C 4 dX5_choose_67 rfl ?_
  refine v_aload_n C 1 dX5_choose_69 rfl rfl ?_
  refine v_getI C h_l1 fl_X5_46 dX5_choose_70 ?_
  refine v_icmp_ge (tgt := 248) C dX5_choose_73 (by decide) (fun c1 => ?_) (fun c1 => ?_)
  · have hf := ip hf c1
    cases hf
    refine v_sub [0, 1, 2, 3] rfl ?_
    exact kx248 _ rfl hC
  · have hf := im hf c1
    refine v_aload_n C 0 dX5_choose_76 rfl rfl ?_
    obtain ⟨a2, qa2, hf⟩ := bn hf
    refine v_getA C h_l0 fl_X5_38 qa2 dX5_choose_77 (fun h_a2 => ?_)
    refine v_iload_n C 2 dX5_choose_80 rfl rfl ?_
    refine v_iconst (v := 1) C dX5_choose_81 (by decide) ?_
    refine v_iadd C dX5_choose_82 ?_
    refine v_sipush (v := 128) C dX5_choose_83 (by decide) ?_
    refine v_imul C dX5_choose_86 ?_
    refine v_aload_n C 0 dX5_choose_87 rfl rfl ?_
    obtain ⟨a3, qa3, hf⟩ := bn hf
    refine v_getO C h_l0 fl_X5_21 qa3 dX5_choose_88 (fun h_a3 => ?_)
    refine v_getI C h_a3 fl_X5_115 dX5_choose_91 ?_
    refine v_iconst (v := 1) C dX5_choose_94 (by decide) ?_
    refine v_iload C 4 dX5_choose_95 rfl ?_
    refine v_ishl C dX5_choose_97 ?_
    refine v_iconst (v := (-1)) C dX5_choose_98 (by decide) ?_
    refine v_ixor C dX5_choose_99 ?_
    refine v_iand C dX5_choose_100 ?_
    refine v_iadd C dX5_choose_101 ?_
    obtain ⟨v4, qv4, hf⟩ := bn hf
    refine v_iald C h_a2 qv4 dX5_choose_102 ?_
    refine v_istore (lv2 := [(5, .int v4), (0, .ref (ad l0)), (1, .ref (ad l1)), (2, .int l2), (3, .int l3), (4, .int l4)]) C dX5_choose_103 (by decide) rfl ?_
    refine v_iconst (v := (-1)) C dX5_choose_105 (by decide) ?_
    refine v_istore (lv2 := [(6, .int (-1)), (5, .int v4), (0, .ref (ad l0)), (1, .ref (ad l1)), (2, .int l2), (3, .int l3), (4, .int l4)]) C dX5_choose_106 (by decide) rfl ?_
    obtain ⟨r5, qr5, hf⟩ := bn hf
    refine v_sub [2, 3, 4, 5, 6, 1, 0] rfl ?_
    refine iter_sound (P := (fun s : Hp × Int32 => Cl sh (s.1) → VV E 0 0 (wq (xT E) ad (s.1) sh) 108 [(0, .ref (ad l0)), (1, .ref (ad l1)), (2, .int (l2)), (3, .int (l3)), (4, .int (l4)), (5, .int (v4)), (6, .int (s.2))] [])) (X := fun r => r = r5) (fun jsr5 jor5 hor5 jbr5 jxr5 hC => tX5_choose_S108 C hC hr10 hrec h_l0 h_l1 hor5 (fun _ _ e => jbr5 _ e) ?_) fuel _ r5 qr5 rfl hC
    · intro G6 hu hC
      have e := jxr5 _ hu
      subst e
      have hf := bd_at hf (rfl : G6 = _)
      obtain ⟨x7, ex7⟩ : ∃ x : Int32, x = (l4 + 1) := ⟨_, rfl⟩
      have hf := bd_at hf ex7
      refine v_iinc (v := x7) (j := 4) (lv2 := [(4, .int x7), (0, .ref (ad l0)), (1, .ref (ad l1)), (2, .int l2), (3, .int l3), (5, .int v4)]) C dX5_choose_242 rfl (by rw [ex7]; rfl) (by decide) rfl ?_
      refine v_goto (tgt := 67) C dX5_choose_245 (by decide) ?_
      cases hf
      refine v_sub [1, 2, 3, 4, 0] rfl ?_
      exact kb _ _ rfl hC
def fX5_choose (sh : Sh) (rc : Hp → Nat → Nat → Int32 → Int32 → Option (Hp)) (G : Hp) (l0 : Nat) (l1 : Nat) (l2 : Int32) (l3 : Int32) : Option (Hp) := if l2 < (G.1 l1 3) then (ldO sh G l0 6 1).bind fun a2 => (ldA sh G a2 1 1).bind fun a3 => (aI sh G a3 l2).bind fun v4 => if v4 = 0 then (iter (fun s : Hp × Int32 => fX5_choose_S67 sh rc l0 l1 l2 l3 s.1 s.2) fuel ((G, 0) : Hp × Int32)).bind (fun u8 => bd u8 fun G7 => some G7) else (rc G l0 l1 (l2 + 1) l3).bind fun G10 => some G10 else bd (sI G l0 3 l3) fun G11 => (ldA sh G11 l0 7 1).bind fun a12 => (ldA sh G11 l0 4 1).bind fun a13 => (cpI sh G11 a12 0 a13 0 4).bind fun G14 => (ldA sh G14 l0 8 1).bind fun a15 => (ldA sh G14 l0 5 1).bind fun a16 => (cpI sh G14 a15 0 a16 0 4).bind fun G17 => some G17
set_option maxHeartbeats 4000000 in
theorem tX5_choose {E : EX} {ad : Nat → Nat} {sh : Sh} {G : Hp} {rc : Hp → Nat → Nat → Int32 → Int32 → Option (Hp)} {hr : Nat} {l0 : Nat} {l1 : Nat} {l2 : Int32} {l3 : Int32} {z : Hp} (C : Cx E RX5 cX5_choose 10 none (hr + 2) 0 0) (hC : Cl sh G) (hr10 : 10 ≤ hr) (hrec : ∀ (G : Hp) (a0 : Nat) (a1 : Nat) (a2 : Int32) (a3 : Int32) z, rc G a0 a1 a2 a3 = some z → sh[a0]? = some (0, 5) → sh[a1]? = some (0, 8) → MC (xl E) yX5_choose cX5_choose 10 none hr 0 0 sh sh G z (fun ad => [.ref (ad a0), .ref (ad a1), .int a2, .int a3]) (fun _ => none)) (h_l0 : sh[l0]? = some (0, 5)) (h_l1 : sh[l1]? = some (0, 8)) (hf : fX5_choose sh rc G l0 l1 l2 l3 = some z) (kr : RCv E cX5_choose ad sh z) : VV E 0 0 (wq (xT E) ad G sh) 0 [(0, .ref (ad l0)), (1, .ref (ad l1)), (2, .int l2), (3, .int l3)] [] := by
  unfold fX5_choose at hf
  refine v_iload_n C 2 dX5_choose_0 rfl rfl ?_
  refine v_aload_n C 1 dX5_choose_1 rfl rfl ?_
  refine v_getI C h_l1 fl_X5_90 dX5_choose_2 ?_
  refine v_icmp_lt (tgt := 42) C dX5_choose_5 (by decide) (fun c1 => ?_) (fun c1 => ?_)
  · have hf := ip hf c1
    refine v_aload_n C 0 dX5_choose_42 rfl rfl ?_
    obtain ⟨a2, qa2, hf⟩ := bn hf
    refine v_getO C h_l0 fl_X5_21 qa2 dX5_choose_43 (fun h_a2 => ?_)
    obtain ⟨a3, qa3, hf⟩ := bn hf
    refine v_getA C h_a2 fl_X5_99 qa3 dX5_choose_46 (fun h_a3 => ?_)
    refine v_iload_n C 2 dX5_choose_49 rfl rfl ?_
    obtain ⟨v4, qv4, hf⟩ := bn hf
    refine v_iald C h_a3 qv4 dX5_choose_50 ?_
    refine v_if_eq (tgt := 64) C dX5_choose_51 (by decide) (fun c5 => ?_) (fun c5 => ?_)
    · have hf := ip hf c5
      refine v_iconst (v := 0) C dX5_choose_64 (by decide) ?_
      refine v_istore (lv2 := [(4, .int 0), (0, .ref (ad l0)), (1, .ref (ad l1)), (2, .int l2), (3, .int l3)]) C dX5_choose_65 (by decide) rfl ?_
      obtain ⟨r6, qr6, hf⟩ := bn hf
      refine v_sub [1, 2, 3, 4, 0] rfl ?_
      refine iter_sound (P := (fun s : Hp × Int32 => Cl sh (s.1) → VV E 0 0 (wq (xT E) ad (s.1) sh) 67 [(0, .ref (ad l0)), (1, .ref (ad l1)), (2, .int (l2)), (3, .int (l3)), (4, .int (s.2))] [])) (X := fun r => r = r6) (fun jsr6 jor6 hor6 jbr6 jxr6 hC => tX5_choose_S67 C hC hr10 hrec h_l0 h_l1 hor6 (fun _ _ e => jbr6 _ e) ?_) fuel _ r6 qr6 rfl hC
      · intro G7 hu hC
        have e := jxr6 _ hu
        subst e
        have hf := bd_at hf (rfl : G7 = _)
        cases hf
        exact kr _ _ dX5_choose_248 hC
    · have hf := im hf c5
      refine v_aload_n C 0 dX5_choose_54 rfl rfl ?_
      refine v_aload_n C 1 dX5_choose_55 rfl rfl ?_
      refine v_iload_n C 2 dX5_choose_56 rfl rfl ?_
      refine v_iconst (v := 1) C dX5_choose_57 (by decide) ?_
      refine v_iadd C dX5_choose_58 ?_
      refine v_iload_n C 3 dX5_choose_59 rfl rfl ?_
      obtain ⟨G10, qr9, hf⟩ := bn hf
      refine v_callVv (As := [.ref (ad l1), .int (l2 + 1), .int l3]) (rest := []) C (hrec _ _ _ _ _ _ qr9 h_l0 h_l1) cs_X5_122 (by omega) h_l0 rfl hC rfl rfl rfl (Nat.le_of_ble_eq_true rfl) ⟨Nat.le_refl _, Nat.le_refl _⟩ dX5_choose_60 (fun hC => ?_)
      cases hf
      exact kr _ _ dX5_choose_63 hC
  · have hf := im hf c1
    refine v_aload_n C 0 dX5_choose_8 rfl rfl ?_
    refine v_iload_n C 3 dX5_choose_9 rfl rfl ?_
    refine v_putI C h_l0 fp_X5_87 dX5_choose_10 (fun G11 eG11 => ?_)
    have hf := bd_at hf eG11
    have hC : Cl sh G11 := by rw [eG11]; exact hC
    refine v_aload_n C 0 dX5_choose_13 rfl rfl ?_
    obtain ⟨a12, qa12, hf⟩ := bn hf
    refine v_getA C h_l0 fl_X5_25 qa12 dX5_choose_14 (fun h_a12 => ?_)
    refine v_iconst (v := 0) C dX5_choose_17 (by decide) ?_
    refine v_aload_n C 0 dX5_choose_18 rfl rfl ?_
    obtain ⟨a13, qa13, hf⟩ := bn hf
    refine v_getA C h_l0 fl_X5_9 qa13 dX5_choose_19 (fun h_a13 => ?_)
    refine v_iconst (v := 0) C dX5_choose_22 (by decide) ?_
    refine v_iconst (v := 4) C dX5_choose_23 (by decide) ?_
    obtain ⟨G14, qG14, hf⟩ := bn hf
    refine v_copyI C cp_X5_109 h_a12 h_a13 qG14 hC (by omega) (Nat.le_of_ble_eq_true rfl) dX5_choose_24 (fun hC => ?_)
    refine v_aload_n C 0 dX5_choose_27 rfl rfl ?_
    obtain ⟨a15, qa15, hf⟩ := bn hf
    refine v_getA C h_l0 fl_X5_28 qa15 dX5_choose_28 (fun h_a15 => ?_)
    refine v_iconst (v := 0) C dX5_choose_31 (by decide) ?_
    refine v_aload_n C 0 dX5_choose_32 rfl rfl ?_
    obtain ⟨a16, qa16, hf⟩ := bn hf
    refine v_getA C h_l0 fl_X5_15 qa16 dX5_choose_33 (fun h_a16 => ?_)
    refine v_iconst (v := 0) C dX5_choose_36 (by decide) ?_
    refine v_iconst (v := 4) C dX5_choose_37 (by decide) ?_
    obtain ⟨G17, qG17, hf⟩ := bn hf
    refine v_copyI C cp_X5_109 h_a15 h_a16 qG17 hC (by omega) (Nat.le_of_ble_eq_true rfl) dX5_choose_38 (fun hC => ?_)
    cases hf
    exact kr _ _ dX5_choose_41 hC
theorem sX5_choose {l : Launch} {sh : Sh} {G : Hp} {rc : Hp → Nat → Nat → Int32 → Int32 → Option (Hp)} {hr : Nat} {l0 : Nat} {l1 : Nat} {l2 : Int32} {l3 : Int32} {z : Hp} (hr10 : 10 ≤ hr) (hrec : ∀ (G : Hp) (a0 : Nat) (a1 : Nat) (a2 : Int32) (a3 : Int32) z, rc G a0 a1 a2 a3 = some z → sh[a0]? = some (0, 5) → sh[a1]? = some (0, 8) → MC l yX5_choose cX5_choose 10 none hr 0 0 sh sh G z (fun ad => [.ref (ad a0), .ref (ad a1), .int a2, .int a3]) (fun _ => none)) (h_l0 : sh[l0]? = some (0, 5)) (h_l1 : sh[l1]? = some (0, 8)) (hf : fX5_choose sh rc G l0 l1 l2 l3 = some z) : MC l yX5_choose cX5_choose 10 none (hr + 2) 0 0 sh sh G z (fun ad => [.ref (ad l0), .ref (ad l1), .int l2, .int l3]) (fun _ => none) := by
  refine MC_of rfl rfl (fun _ => Nat.le_of_ble_eq_true rfl) (fun E ad C hl hnm hC hQ => ?_)
  exact tX5_choose C hC hr10 (by rw [hl]; exact hrec) h_l0 h_l1 hf (fun pc lv hd hC => v_vret C hQ (fun _ _ => rfl) hC rfl hd)
def fX5_choose_d (sh : Sh) : Nat → Hp → Nat → Nat → Int32 → Int32 → Option (Hp)
  | 0 => fun _ _ _ _ _ => none
  | d + 1 => fX5_choose sh (fX5_choose_d sh d)
theorem sX5_choose_e {l : Launch} {sh : Sh} : ∀ (d : Nat) (G : Hp) (l0 : Nat) (l1 : Nat) (l2 : Int32) (l3 : Int32) (z : Hp), fX5_choose_d sh d G l0 l1 l2 l3 = some z → sh[l0]? = some (0, 5) → sh[l1]? = some (0, 8) → MC l yX5_choose cX5_choose 10 none (10 + 2 * d) 0 0 sh sh G z (fun ad => [.ref (ad l0), .ref (ad l1), .int l2, .int l3]) (fun _ => none) := by
  intro d
  induction d with
  | zero => intro G l0 l1 l2 l3 z hf; cases hf
  | succ d ih =>
    intro G l0 l1 l2 l3 z hf h_l0 h_l1
    have e : 10 + 2 * (d + 1) = 10 + 2 * d + 2 := by omega
    rw [e]
    exact sX5_choose (hr := 10 + 2 * d) (by omega) (fun G a0 a1 a2 a3 z hz h_l0 h_l1 => ih G a0 a1 a2 a3 z hz h_l0 h_l1) h_l0 h_l1 hf
theorem sX5_choose_d {l : Launch} {sh : Sh} {G : Hp} {l0 : Nat} {l1 : Nat} {l2 : Int32} {l3 : Int32} {z : Hp} (h_l0 : sh[l0]? = some (0, 5)) (h_l1 : sh[l1]? = some (0, 8)) (hf : fX5_choose_d sh 8 G l0 l1 l2 l3 = some z) : MC l yX5_choose cX5_choose 10 none 26 0 0 sh sh G z (fun ad => [.ref (ad l0), .ref (ad l1), .int l2, .int l3]) (fun _ => none) := sX5_choose_e 8 _ _ _ _ _ _ hf h_l0 h_l1
def fX5_findForAll_S83 (sh : Sh) (l0 : Nat) (l1 : Nat) (l3 : Int32) (l4 : Int32) (G : Hp) (l5 : Int32) : Option ((Hp × Int32) ⊕ ((Hp))) := if l3 ≤ l5 then some (.inr G) else (ldA sh G l0 11 1).bind fun a2 => (fX5_leastFrom sh G l0 l4 l5).bind fun r3 => (asI sh G a2 ((l4 * 128) + l5) r3).bind fun G4 => bd ((l5 + 1) : Int32) fun x5 => some (.inl (G4, x5))
set_option maxHeartbeats 4000000 in
theorem tX5_findForAll_S83 {E : EX} {ad : Nat → Nat} {sh : Sh} {G : Hp} {l0 : Nat} {l1 : Nat} {l3 : Int32} {l4 : Int32} {l5 : Int32} {o : (Hp × Int32) ⊕ ((Hp))} (C : Cx E RX5 cX5_findForAll 6 (some .boolean) 27 0 0) (hC : Cl sh G) (h_l0 : sh[l0]? = some (0, 5)) (h_l1 : sh[l1]? = some (0, 8)) (hf : fX5_findForAll_S83 sh l0 l1 l3 l4 G l5 = some o) (kb : ∀ (G2 : Hp) (b_l5 : Int32), o = .inl (G2, b_l5) → Cl sh G2 → VV E 0 0 (wq (xT E) ad G2 sh) 83 [(0, .ref (ad l0)), (1, .ref (ad l1)), (3, .int l3), (4, .int l4), (5, .int b_l5)] []) (kx117 : ∀ (G2 : Hp), o = .inr G2 → Cl sh G2 → VV E 0 0 (wq (xT E) ad G2 sh) 117 [(0, .ref (ad l0)), (1, .ref (ad l1)), (3, .int l3), (4, .int l4)] []) : VV E 0 0 (wq (xT E) ad G sh) 83 [(0, .ref (ad l0)), (1, .ref (ad l1)), (3, .int l3), (4, .int l4), (5, .int l5)] [] := by
  unfold fX5_findForAll_S83 at hf
  refine v_iload C 4 dX5_findForAll_83 rfl ?_
  refine v_iload_n C 2 dX5_findForAll_85 rfl rfl ?_
  refine v_icmp_ge (tgt := 117) C dX5_findForAll_86 (by decide) (fun c1 => ?_) (fun c1 => ?_)
  · have hf := ip hf c1
    cases hf
    refine v_sub [0, 1, 2, 3] rfl ?_
    exact kx117 _ rfl hC
  · have hf := im hf c1
    refine v_aload_n C 0 dX5_findForAll_89 rfl rfl ?_
    obtain ⟨a2, qa2, hf⟩ := bn hf
    refine v_getA C h_l0 fl_X5_38 qa2 dX5_findForAll_90 (fun h_a2 => ?_)
    refine v_iload C 3 dX5_findForAll_93 rfl ?_
    refine v_sipush (v := 128) C dX5_findForAll_95 (by decide) ?_
    refine v_imul C dX5_findForAll_98 ?_
    refine v_iload C 4 dX5_findForAll_99 rfl ?_
    refine v_iadd C dX5_findForAll_101 ?_
    refine v_aload_n C 0 dX5_findForAll_102 rfl rfl ?_
    refine v_iload C 3 dX5_findForAll_103 rfl ?_
    refine v_iload C 4 dX5_findForAll_105 rfl ?_
    obtain ⟨r3, qr3, hf⟩ := bn hf
    refine v_callVi (As := [.int l4, .int l5]) (rest := [.int ((l4 * 128) + l5), .ref (ad a2)]) C (sX5_leastFrom h_l0 qr3) cs_X5_106 (by decide) h_l0 rfl hC rfl rfl rfl (Nat.le_of_ble_eq_true rfl) ⟨Nat.le_refl _, Nat.le_refl _⟩ dX5_findForAll_107 (fun hC => ?_)
    obtain ⟨G4, qG4, hf⟩ := bn hf
    refine v_iast C h_a2 qG4 hC dX5_findForAll_110 (fun hC => ?_)
    obtain ⟨x5, ex5⟩ : ∃ x : Int32, x = (l5 + 1) := ⟨_, rfl⟩
    have hf := bd_at hf ex5
    refine v_iinc (v := x5) (j := 4) (lv2 := [(5, .int x5), (0, .ref (ad l0)), (1, .ref (ad l1)), (3, .int l3), (4, .int l4)]) C dX5_findForAll_111 rfl (by rw [ex5]; rfl) (by decide) rfl ?_
    refine v_goto (tgt := 83) C dX5_findForAll_114 (by decide) ?_
    cases hf
    refine v_sub [1, 2, 3, 4, 0] rfl ?_
    exact kb _ _ rfl hC
def fX5_findForAll_S55 (sh : Sh) (l0 : Nat) (l1 : Nat) (l3 : Int32) (G : Hp) (l4 : Int32) : Option ((Hp × Int32) ⊕ ((Hp))) := if l4 < 0 then some (.inr G) else (ldO sh G l0 6 1).bind fun a2 => (ldA sh G a2 1 1).bind fun a3 => (aI sh G a3 l4).bind fun v4 => if v4 = 0 then (fX5_lookUpPrices sh G l0 l1 l4).bind fun G11 => (iter (fun s : Hp × Int32 => fX5_findForAll_S83 sh l0 l1 l3 l4 s.1 s.2) fuel ((G11, 0) : Hp × Int32)).bind (fun u15 => bd u15 fun G13 => bd ((l4 + (-1)) : Int32) fun x14 => some (.inl (G13, x14))) else (ldA sh G l0 11 1).bind fun a6 => (ldA sh G l0 11 1).bind fun a7 => (cpI sh G a6 ((l4 + 1) * 128) a7 (l4 * 128) l3).bind fun G8 => bd ((l4 + (-1)) : Int32) fun x9 => some (.inl (G8, x9))
set_option maxHeartbeats 4000000 in
theorem tX5_findForAll_S55 {E : EX} {ad : Nat → Nat} {sh : Sh} {G : Hp} {l0 : Nat} {l1 : Nat} {l3 : Int32} {l4 : Int32} {o : (Hp × Int32) ⊕ ((Hp))} (C : Cx E RX5 cX5_findForAll 6 (some .boolean) 27 0 0) (hC : Cl sh G) (h_l0 : sh[l0]? = some (0, 5)) (h_l1 : sh[l1]? = some (0, 8)) (hf : fX5_findForAll_S55 sh l0 l1 l3 G l4 = some o) (kb : ∀ (G2 : Hp) (b_l4 : Int32), o = .inl (G2, b_l4) → Cl sh G2 → VV E 0 0 (wq (xT E) ad G2 sh) 55 [(0, .ref (ad l0)), (1, .ref (ad l1)), (3, .int l3), (4, .int b_l4)] []) (kx152 : ∀ (G2 : Hp), o = .inr G2 → Cl sh G2 → VV E 0 0 (wq (xT E) ad G2 sh) 152 [(0, .ref (ad l0)), (1, .ref (ad l1)), (3, .int l3)] []) : VV E 0 0 (wq (xT E) ad G sh) 55 [(0, .ref (ad l0)), (1, .ref (ad l1)), (3, .int l3), (4, .int l4)] [] := by
  unfold fX5_findForAll_S55 at hf
  refine v_iload C 3 dX5_findForAll_55 rfl ?_
  refine v_if_lt (tgt := 152) C dX5_findForAll_57 (by decide) (fun c1 => ?_) (fun c1 => ?_)
  · have hf := ip hf c1
    cases hf
    refine v_sub [0, 1, 2] rfl ?_
    exact kx152 _ rfl hC
  · have hf := im hf c1
    refine v_aload_n C 0 dX5_findForAll_60 rfl rfl ?_
    obtain ⟨a2, qa2, hf⟩ := bn hf
    refine v_getO C h_l0 fl_X5_21 qa2 dX5_findForAll_61 (fun h_a2 => ?_)
    obtain ⟨a3, qa3, hf⟩ := bn hf
    refine v_getA C h_a2 fl_X5_99 qa3 dX5_findForAll_64 (fun h_a3 => ?_)
    refine v_iload C 3 dX5_findForAll_67 rfl ?_
    obtain ⟨v4, qv4, hf⟩ := bn hf
    refine v_iald C h_a3 qv4 dX5_findForAll_69 ?_
    refine v_if_ne (tgt := 120) C dX5_findForAll_70 (by decide) (fun c5 => ?_) (fun c5 => ?_)
    · have hf := im hf c5
      refine v_aload_n C 0 dX5_findForAll_120 rfl rfl ?_
      obtain ⟨a6, qa6, hf⟩ := bn hf
      refine v_getA C h_l0 fl_X5_38 qa6 dX5_findForAll_121 (fun h_a6 => ?_)
      refine v_iload C 3 dX5_findForAll_124 rfl ?_
      refine v_iconst (v := 1) C dX5_findForAll_126 (by decide) ?_
      refine v_iadd C dX5_findForAll_127 ?_
      refine v_sipush (v := 128) C dX5_findForAll_128 (by decide) ?_
      refine v_imul C dX5_findForAll_131 ?_
      refine v_aload_n C 0 dX5_findForAll_132 rfl rfl ?_
      obtain ⟨a7, qa7, hf⟩ := bn hf
      refine v_getA C h_l0 fl_X5_38 qa7 dX5_findForAll_133 (fun h_a7 => ?_)
      refine v_iload C 3 dX5_findForAll_136 rfl ?_
      refine v_sipush (v := 128) C dX5_findForAll_138 (by decide) ?_
      refine v_imul C dX5_findForAll_141 ?_
      refine v_iload_n C 2 dX5_findForAll_142 rfl rfl ?_
      obtain ⟨G8, qG8, hf⟩ := bn hf
      refine v_copyI C cp_X5_109 h_a6 h_a7 qG8 hC (by omega) (Nat.le_of_ble_eq_true rfl) dX5_findForAll_143 (fun hC => ?_)
      obtain ⟨x9, ex9⟩ : ∃ x : Int32, x = (l4 + (-1)) := ⟨_, rfl⟩
      have hf := bd_at hf ex9
      refine v_iinc (v := x9) (j := 3) (lv2 := [(4, .int x9), (0, .ref (ad l0)), (1, .ref (ad l1)), (3, .int l3)]) C dX5_findForAll_146 rfl (by rw [ex9]; rfl) (by decide) rfl ?_
      refine v_goto (tgt := 55) C dX5_findForAll_149 (by decide) ?_
      cases hf
      refine v_sub [1, 2, 3, 0] rfl ?_
      exact kb _ _ rfl hC
    · have hf := ip hf c5
      refine v_aload_n C 0 dX5_findForAll_73 rfl rfl ?_
      refine v_aload_n C 1 dX5_findForAll_74 rfl rfl ?_
      refine v_iload C 3 dX5_findForAll_75 rfl ?_
      obtain ⟨G11, qr10, hf⟩ := bn hf
      refine v_callVv (As := [.ref (ad l1), .int l4]) (rest := []) C (sX5_lookUpPrices h_l0 h_l1 qr10) cs_X5_102 (by decide) h_l0 rfl hC rfl rfl rfl (Nat.le_of_ble_eq_true rfl) ⟨Nat.le_refl _, Nat.le_refl _⟩ dX5_findForAll_77 (fun hC => ?_)
      refine v_iconst (v := 0) C dX5_findForAll_80 (by decide) ?_
      refine v_istore (lv2 := [(5, .int 0), (0, .ref (ad l0)), (1, .ref (ad l1)), (3, .int l3), (4, .int l4)]) C dX5_findForAll_81 (by decide) rfl ?_
      obtain ⟨r12, qr12, hf⟩ := bn hf
      refine v_sub [1, 2, 3, 4, 0] rfl ?_
      refine iter_sound (P := (fun s : Hp × Int32 => Cl sh (s.1) → VV E 0 0 (wq (xT E) ad (s.1) sh) 83 [(0, .ref (ad l0)), (1, .ref (ad l1)), (3, .int (l3)), (4, .int (l4)), (5, .int (s.2))] [])) (X := fun r => r = r12) (fun jsr12 jor12 hor12 jbr12 jxr12 hC => tX5_findForAll_S83 C hC h_l0 h_l1 hor12 (fun _ _ e => jbr12 _ e) ?_) fuel _ r12 qr12 rfl hC
      · intro G13 hu hC
        have e := jxr12 _ hu
        subst e
        have hf := bd_at hf (rfl : G13 = _)
        refine v_goto (tgt := 146) C dX5_findForAll_117 (by decide) ?_
        obtain ⟨x14, ex14⟩ : ∃ x : Int32, x = (l4 + (-1)) := ⟨_, rfl⟩
        have hf := bd_at hf ex14
        refine v_iinc (v := x14) (j := 3) (lv2 := [(4, .int x14), (0, .ref (ad l0)), (1, .ref (ad l1)), (3, .int l3)]) C dX5_findForAll_146 rfl (by rw [ex14]; rfl) (by decide) rfl ?_
        refine v_goto (tgt := 55) C dX5_findForAll_149 (by decide) ?_
        cases hf
        refine v_sub [1, 2, 3, 0] rfl ?_
        exact kb _ _ rfl hC
def fX5_findForAll (sh : Sh) (G : Hp) (l0 : Nat) (l1 : Nat) (l2 : Nat) : Option (Int32 × Hp) := (ldO sh G l0 6 1).bind fun a1 => (fX1_copyFrom sh G a1 l2).bind fun G3 => bd (sI G3 l0 3 1000000) fun G4 => bd (((1 : Int32) <<< ((G4.1 l1 1) &&& 31)) : Int32) fun x5 => (ldA sh G4 l0 11 1).bind fun a6 => (fJ7_fill_fda19 sh G4 a6 ((G4.1 l1 3) * 128) (((G4.1 l1 3) * 128) + x5) 0).bind fun G8 => bd (((G8.1 l1 3) - 1) : Int32) fun x9 => (iter (fun s : Hp × Int32 => fX5_findForAll_S55 sh l0 l1 x5 s.1 s.2) fuel ((G8, x9) : Hp × Int32)).bind (fun u22 => bd u22 fun G11 => (ldA sh G11 l0 11 1).bind fun a12 => (ldO sh G11 l0 6 1).bind fun a13 => (aI sh G11 a12 (G11.1 a13 6)).bind fun v14 => if 1000000 ≤ v14 then if 1000000 ≤ (G11.1 l0 3) then some (0, G11) else some (1, G11) else (fX5_lookUpWays sh G11 l0 l1).bind fun G18 => (fX5_choose_d sh 8 G18 l0 l1 0 0).bind fun G20 => if 1000000 ≤ (G20.1 l0 3) then some (0, G20) else some (1, G20))
set_option maxHeartbeats 4000000 in
theorem tX5_findForAll {E : EX} {ad : Nat → Nat} {sh : Sh} {G : Hp} {l0 : Nat} {l1 : Nat} {l2 : Nat} {z : Int32 × Hp} (C : Cx E RX5 cX5_findForAll 6 (some .boolean) 27 0 0) (hC : Cl sh G) (h_l0 : sh[l0]? = some (0, 5)) (h_l1 : sh[l1]? = some (0, 8)) (h_l2 : sh[l2]? = some (0, 1)) (hf : fX5_findForAll sh G l0 l1 l2 = some z) (kr : RCz E cX5_findForAll ad sh (z.1) (z.2)) : VV E 0 0 (wq (xT E) ad G sh) 0 [(0, .ref (ad l0)), (1, .ref (ad l1)), (2, .ref (ad l2))] [] := by
  unfold fX5_findForAll at hf
  refine v_aload_n C 0 dX5_findForAll_0 rfl rfl ?_
  obtain ⟨a1, qa1, hf⟩ := bn hf
  refine v_getO C h_l0 fl_X5_21 qa1 dX5_findForAll_1 (fun h_a1 => ?_)
  refine v_aload_n C 2 dX5_findForAll_4 rfl rfl ?_
  obtain ⟨G3, qr2, hf⟩ := bn hf
  refine v_callVv (As := [.ref (ad l2)]) (rest := []) C (sX1_copyFrom h_a1 h_l2 qr2) cs_X5_83 (by decide) h_a1 rfl hC rfl rfl rfl (Nat.le_of_ble_eq_true rfl) ⟨Nat.le_refl _, Nat.le_refl _⟩ dX5_findForAll_5 (fun hC => ?_)
  refine v_aload_n C 0 dX5_findForAll_8 rfl rfl ?_
  refine v_ldc (v := 1000000) C dX5_findForAll_9 kw_74 ?_
  refine v_putI C h_l0 fp_X5_87 dX5_findForAll_11 (fun G4 eG4 => ?_)
  have hf := bd_at hf eG4
  have hC : Cl sh G4 := by rw [eG4]; exact hC
  refine v_iconst (v := 1) C dX5_findForAll_14 (by decide) ?_
  refine v_aload_n C 1 dX5_findForAll_15 rfl rfl ?_
  refine v_getI C h_l1 fl_X5_46 dX5_findForAll_16 ?_
  refine v_ishl C dX5_findForAll_19 ?_
  refine v_topi (fun x5 ex5 => ?_)
  have hf := bd_at hf ex5
  refine v_istore_n (lv2 := [(3, .int x5), (0, .ref (ad l0)), (1, .ref (ad l1)), (2, .ref (ad l2))]) C dX5_findForAll_20 rfl (by decide) rfl ?_
  refine v_aload_n C 1 dX5_findForAll_21 rfl rfl ?_
  obtain ⟨a6, qa6, hf⟩ := bn hf
  refine v_getA C h_l0 fl_X5_38 qa6 dX5_findForAll_22 (fun h_a6 => ?_)
  refine v_aload_n C 2 dX5_findForAll_25 rfl rfl ?_
  refine v_getI C h_l1 fl_X5_90 dX5_findForAll_26 ?_
  refine v_sipush (v := 128) C dX5_findForAll_29 (by decide) ?_
  refine v_imul C dX5_findForAll_32 ?_
  refine v_aload_n C 2 dX5_findForAll_33 rfl rfl ?_
  refine v_getI C h_l1 fl_X5_90 dX5_findForAll_34 ?_
  refine v_sipush (v := 128) C dX5_findForAll_37 (by decide) ?_
  refine v_imul C dX5_findForAll_40 ?_
  refine v_iload_n C 0 dX5_findForAll_41 rfl rfl ?_
  refine v_iadd C dX5_findForAll_42 ?_
  refine v_iconst (v := 0) C dX5_findForAll_43 (by decide) ?_
  obtain ⟨G8, qr7, hf⟩ := bn hf
  refine v_callSv (As := [.ref (ad a6), .int ((G4.1 l1 3) * 128), .int (((G4.1 l1 3) * 128) + x5), .int 0]) (rest := []) C (sJ7_fill_fda19 h_a6 qr7) cs_X5_93 (by decide) hC rfl rfl rfl (Nat.le_of_ble_eq_true rfl) ⟨Nat.le_refl _, Nat.le_refl _⟩ dX5_findForAll_44 (fun hC => ?_)
  refine v_aload_n C 2 dX5_findForAll_47 rfl rfl ?_
  refine v_getI C h_l1 fl_X5_90 dX5_findForAll_48 ?_
  refine v_iconst (v := 1) C dX5_findForAll_51 (by decide) ?_
  refine v_isub C dX5_findForAll_52 ?_
  refine v_topi (fun x9 ex9 => ?_)
  have hf := bd_at hf ex9
  refine v_istore (lv2 := [(4, .int x9), (3, .int x5), (0, .ref (ad l0)), (1, .ref (ad l1)), (2, .ref (ad l2))]) C dX5_findForAll_53 (by decide) rfl ?_
  obtain ⟨r10, qr10, hf⟩ := bn hf
  refine v_sub [2, 3, 1, 0] rfl ?_
  refine iter_sound (P := (fun s : Hp × Int32 => Cl sh (s.1) → VV E 0 0 (wq (xT E) ad (s.1) sh) 55 [(0, .ref (ad l0)), (1, .ref (ad l1)), (3, .int (x5)), (4, .int (s.2))] [])) (X := fun r => r = r10) (fun jsr10 jor10 hor10 jbr10 jxr10 hC => tX5_findForAll_S55 C hC h_l0 h_l1 hor10 (fun _ _ e => jbr10 _ e) ?_) fuel _ r10 qr10 rfl hC
  · intro G11 hu hC
    have e := jxr10 _ hu
    subst e
    have hf := bd_at hf (rfl : G11 = _)
    refine v_aload_n C 0 dX5_findForAll_152 rfl rfl ?_
    obtain ⟨a12, qa12, hf⟩ := bn hf
    refine v_getA C h_l0 fl_X5_38 qa12 dX5_findForAll_153 (fun h_a12 => ?_)
    refine v_aload_n C 0 dX5_findForAll_156 rfl rfl ?_
    obtain ⟨a13, qa13, hf⟩ := bn hf
    refine v_getO C h_l0 fl_X5_21 qa13 dX5_findForAll_157 (fun h_a13 => ?_)
    refine v_getI C h_a13 fl_X5_115 dX5_findForAll_160 ?_
    obtain ⟨v14, qv14, hf⟩ := bn hf
    refine v_iald C h_a12 qv14 dX5_findForAll_163 ?_
    refine v_ldc (v := 1000000) C dX5_findForAll_164 kw_74 ?_
    refine v_icmp_ge (tgt := 181) C dX5_findForAll_166 (by decide) (fun c15 => ?_) (fun c15 => ?_)
    · have hf := ip hf c15
      refine v_aload_n C 0 dX5_findForAll_181 rfl rfl ?_
      refine v_getI C h_l0 fl_X5_87 dX5_findForAll_182 ?_
      refine v_ldc (v := 1000000) C dX5_findForAll_185 kw_74 ?_
      refine v_icmp_ge (tgt := 194) C dX5_findForAll_187 (by decide) (fun c16 => ?_) (fun c16 => ?_)
      · have hf := ip hf c16
        refine v_iconst (v := 0) C dX5_findForAll_194 (by decide) ?_
        cases hf
        exact kr _ _ dX5_findForAll_195 (Or.inl rfl) hC
      · have hf := im hf c16
        refine v_iconst (v := 1) C dX5_findForAll_190 (by decide) ?_
        refine v_goto (tgt := 195) C dX5_findForAll_191 (by decide) ?_
        cases hf
        exact kr _ _ dX5_findForAll_195 (Or.inr rfl) hC
    · have hf := im hf c15
      refine v_aload_n C 0 dX5_findForAll_169 rfl rfl ?_
      refine v_aload_n C 1 dX5_findForAll_170 rfl rfl ?_
      obtain ⟨G18, qr17, hf⟩ := bn hf
      refine v_callVv (As := [.ref (ad l1)]) (rest := []) C (sX5_lookUpWays h_l0 h_l1 qr17) cs_X5_118 (by decide) h_l0 rfl hC rfl rfl rfl (Nat.le_of_ble_eq_true rfl) ⟨Nat.le_refl _, Nat.le_refl _⟩ dX5_findForAll_171 (fun hC => ?_)
      refine v_aload_n C 0 dX5_findForAll_174 rfl rfl ?_
      refine v_aload_n C 1 dX5_findForAll_175 rfl rfl ?_
      refine v_iconst (v := 0) C dX5_findForAll_176 (by decide) ?_
      refine v_iconst (v := 0) C dX5_findForAll_177 (by decide) ?_
      obtain ⟨G20, qr19, hf⟩ := bn hf
      refine v_callVv (As := [.ref (ad l1), .int 0, .int 0]) (rest := []) C (sX5_choose_d h_l0 h_l1 qr19) cs_X5_122 (by decide) h_l0 rfl hC rfl rfl rfl (Nat.le_of_ble_eq_true rfl) ⟨Nat.le_refl _, Nat.le_refl _⟩ dX5_findForAll_178 (fun hC => ?_)
      refine v_aload_n C 0 dX5_findForAll_181 rfl rfl ?_
      refine v_getI C h_l0 fl_X5_87 dX5_findForAll_182 ?_
      refine v_ldc (v := 1000000) C dX5_findForAll_185 kw_74 ?_
      refine v_icmp_ge (tgt := 194) C dX5_findForAll_187 (by decide) (fun c21 => ?_) (fun c21 => ?_)
      · have hf := ip hf c21
        refine v_iconst (v := 0) C dX5_findForAll_194 (by decide) ?_
        cases hf
        exact kr _ _ dX5_findForAll_195 (Or.inl rfl) hC
      · have hf := im hf c21
        refine v_iconst (v := 1) C dX5_findForAll_190 (by decide) ?_
        refine v_goto (tgt := 195) C dX5_findForAll_191 (by decide) ?_
        cases hf
        exact kr _ _ dX5_findForAll_195 (Or.inr rfl) hC
theorem sX5_findForAll {l : Launch} {sh : Sh} {G : Hp} {l0 : Nat} {l1 : Nat} {l2 : Nat} {z : Int32 × Hp} (h_l0 : sh[l0]? = some (0, 5)) (h_l1 : sh[l1]? = some (0, 8)) (h_l2 : sh[l2]? = some (0, 1)) (hf : fX5_findForAll sh G l0 l1 l2 = some z) : MC l yX5_findForAll cX5_findForAll 6 (some .boolean) 27 0 0 sh sh G (z.2) (fun ad => [.ref (ad l0), .ref (ad l1), .ref (ad l2)]) (fun _ => some (.int z.1)) := by
  refine MC_of rfl rfl (fun _ => Nat.le_of_ble_eq_true rfl) (fun E ad C hl hnm hC hQ => ?_)
  exact tX5_findForAll C hC h_l0 h_l1 h_l2 hf (fun pc lv hd hz hC => v_zret C hQ (fun _ _ => rfl) hC rfl hz hd)
def fX10_wayTold (l0 : Int32) : Option (Int32) := if l0 = (-1) then some 9 else some l0
set_option maxHeartbeats 4000000 in
theorem tX10_wayTold {E : EX} {ad : Nat → Nat} {sh : Sh} {G : Hp} {l0 : Int32} {z : Int32} (C : Cx E RX10 cX10_wayTold 1 (some .int) 1 0 0) (hC : Cl sh G) (hf : fX10_wayTold l0 = some z) (kr : RCi E cX10_wayTold ad sh z G) : VV E 0 0 (wq (xT E) ad G sh) 0 [(0, .int l0)] [] := by
  unfold fX10_wayTold at hf
  refine v_iload_n C 0 dX10_wayTold_0 rfl rfl ?_
  refine v_iconst (v := (-1)) C dX10_wayTold_1 (by decide) ?_
  refine v_icmp_ne (tgt := 10) C dX10_wayTold_2 (by decide) (fun c1 => ?_) (fun c1 => ?_)
  · have hf := im hf c1
    refine v_iload_n C 0 dX10_wayTold_10 rfl rfl ?_
    cases hf
    exact kr _ _ dX10_wayTold_11 hC
  · have hf := ip hf c1
    refine v_bipush (v := 9) C dX10_wayTold_5 (by decide) ?_
    refine v_goto (tgt := 11) C dX10_wayTold_7 (by decide) ?_
    cases hf
    exact kr _ _ dX10_wayTold_11 hC
theorem sX10_wayTold {l : Launch} {sh : Sh} {G : Hp} {l0 : Int32} {z : Int32} (hf : fX10_wayTold l0 = some z) : MC l yX10_wayTold cX10_wayTold 1 (some .int) 1 0 0 sh sh G G (fun ad => [.int l0]) (fun _ => some (.int z)) := by
  refine MC_of rfl rfl (fun _ => Nat.le_of_ble_eq_true rfl) (fun E ad C hl hnm hC hQ => ?_)
  exact tX10_wayTold C hC hf (fun pc lv hd hC => v_iret C hQ (fun _ _ => rfl) hC rfl hd)
def fX10_all (sh : Sh) (G : Hp) (l0 : Nat) (l1 : Int32) (l2 : Int32) : Option (Int32 × Hp) := if l1 = (-1) then (ldO sh G l0 9 5).bind fun a25 => (ldO sh G l0 2 8).bind fun a26 => (ldO sh G l0 3 1).bind fun a27 => bp (fX5_findForAll sh G a25 a26 a27) fun r28 G29 => if r28 = 0 then some ((-2), G29) else (ldO sh G29 l0 9 5).bind fun a31 => some ((G29.1 a31 3), G29) else (ldO sh G l0 2 8).bind fun a2 => (fX8_hasBridge sh G a2 l1).bind fun r3 => if r3 = 0 then some ((-1), G) else if l2 < 0 then some ((-1), G) else if l2 ≤ 1 then (ldO sh G l0 3 1).bind fun a7 => (ldA sh G a7 1 1).bind fun a8 => (aI sh G a8 l1).bind fun v9 => if v9 = 0 then (ldO sh G l0 9 5).bind fun a11 => (ldO sh G l0 2 8).bind fun a12 => (ldO sh G l0 3 1).bind fun a13 => bp (fX5_findForAll sh G a11 a12 a13) fun r14 G15 => if r14 = 0 then some ((-2), G15) else if l2 = 0 then (ldO sh G15 l0 9 5).bind fun a22 => (ldA sh G15 a22 4 1).bind fun a23 => (aI sh G15 a23 l1).bind fun v24 => some (v24, G15) else (ldO sh G15 l0 9 5).bind fun a18 => (ldA sh G15 a18 5 1).bind fun a19 => (aI sh G15 a19 l1).bind fun v20 => (fX10_wayTold v20).bind fun r21 => some (r21, G15) else some ((-3), G) else some ((-1), G)
set_option maxHeartbeats 4000000 in
theorem tX10_all {E : EX} {ad : Nat → Nat} {sh : Sh} {G : Hp} {l0 : Nat} {l1 : Int32} {l2 : Int32} {z : Int32 × Hp} (C : Cx E RX10 cX10_all 3 (some .int) 28 0 0) (hC : Cl sh G) (h_l0 : sh[l0]? = some (0, 10)) (hf : fX10_all sh G l0 l1 l2 = some z) (kr : RCi E cX10_all ad sh (z.1) (z.2)) : VV E 0 0 (wq (xT E) ad G sh) 0 [(0, .ref (ad l0)), (1, .int l1), (2, .int l2)] [] := by
  unfold fX10_all at hf
  refine v_iload_n C 1 dX10_all_0 rfl rfl ?_
  refine v_iconst (v := (-1)) C dX10_all_1 (by decide) ?_
  refine v_icmp_ne (tgt := 36) C dX10_all_2 (by decide) (fun c1 => ?_) (fun c1 => ?_)
  · have hf := im hf c1
    refine v_aload_n C 0 dX10_all_36 rfl rfl ?_
    obtain ⟨a2, qa2, hf⟩ := bn hf
    refine v_getO C h_l0 fl_X10_23 qa2 dX10_all_37 (fun h_a2 => ?_)
    refine v_iload_n C 1 dX10_all_40 rfl rfl ?_
    obtain ⟨r3, qr3, hf⟩ := bn hf
    refine v_callVi (As := [.int l1]) (rest := []) C (sX8_hasBridge h_a2 qr3) cs_X10_143 (by decide) h_a2 rfl hC rfl rfl rfl (Nat.le_of_ble_eq_true rfl) ⟨Nat.le_refl _, Nat.le_refl _⟩ dX10_all_41 (fun hC => ?_)
    refine v_if_eq (tgt := 56) C dX10_all_44 (by decide) (fun c4 => ?_) (fun c4 => ?_)
    · have hf := ip hf c4
      refine v_iconst (v := (-1)) C dX10_all_56 (by decide) ?_
      cases hf
      exact kr _ _ dX10_all_57 hC
    · have hf := im hf c4
      refine v_iload_n C 2 dX10_all_47 rfl rfl ?_
      refine v_if_lt (tgt := 56) C dX10_all_48 (by decide) (fun c5 => ?_) (fun c5 => ?_)
      · have hf := ip hf c5
        refine v_iconst (v := (-1)) C dX10_all_56 (by decide) ?_
        cases hf
        exact kr _ _ dX10_all_57 hC
      · have hf := im hf c5
        refine v_iload_n C 2 dX10_all_51 rfl rfl ?_
        refine v_iconst (v := 1) C dX10_all_52 (by decide) ?_
        refine v_icmp_le (tgt := 58) C dX10_all_53 (by decide) (fun c6 => ?_) (fun c6 => ?_)
        · have hf := ip hf c6
          refine v_aload_n C 0 dX10_all_58 rfl rfl ?_
          obtain ⟨a7, qa7, hf⟩ := bn hf
          refine v_getO C h_l0 fl_X10_30 qa7 dX10_all_59 (fun h_a7 => ?_)
          obtain ⟨a8, qa8, hf⟩ := bn hf
          refine v_getA C h_a7 fl_X10_152 qa8 dX10_all_62 (fun h_a8 => ?_)
          refine v_iload_n C 1 dX10_all_65 rfl rfl ?_
          obtain ⟨v9, qv9, hf⟩ := bn hf
          refine v_iald C h_a8 qv9 dX10_all_66 ?_
          refine v_if_eq (tgt := 73) C dX10_all_67 (by decide) (fun c10 => ?_) (fun c10 => ?_)
          · have hf := ip hf c10
            refine v_aload_n C 0 dX10_all_73 rfl rfl ?_
            obtain ⟨a11, qa11, hf⟩ := bn hf
            refine v_getO C h_l0 fl_X10_65 qa11 dX10_all_74 (fun h_a11 => ?_)
            refine v_aload_n C 0 dX10_all_77 rfl rfl ?_
            obtain ⟨a12, qa12, hf⟩ := bn hf
            refine v_getO C h_l0 fl_X10_23 qa12 dX10_all_78 (fun h_a12 => ?_)
            refine v_aload_n C 0 dX10_all_81 rfl rfl ?_
            obtain ⟨a13, qa13, hf⟩ := bn hf
            refine v_getO C h_l0 fl_X10_30 qa13 dX10_all_82 (fun h_a13 => ?_)
            obtain ⟨r14, G15, qr14, hf⟩ := bpn hf
            refine v_callVi (As := [.ref (ad a12), .ref (ad a13)]) (rest := []) C (sX5_findForAll h_a11 h_a12 h_a13 qr14) cs_X10_249 (by decide) h_a11 rfl hC rfl rfl rfl (Nat.le_of_ble_eq_true rfl) ⟨Nat.le_refl _, Nat.le_refl _⟩ dX10_all_85 (fun hC => ?_)
            refine v_if_ne (tgt := 94) C dX10_all_88 (by decide) (fun c16 => ?_) (fun c16 => ?_)
            · have hf := im hf c16
              refine v_iload_n C 2 dX10_all_94 rfl rfl ?_
              refine v_if_ne (tgt := 110) C dX10_all_95 (by decide) (fun c17 => ?_) (fun c17 => ?_)
              · have hf := im hf c17
                refine v_aload_n C 0 dX10_all_110 rfl rfl ?_
                obtain ⟨a18, qa18, hf⟩ := bn hf
                refine v_getO C h_l0 fl_X10_65 qa18 dX10_all_111 (fun h_a18 => ?_)
                obtain ⟨a19, qa19, hf⟩ := bn hf
                refine v_getA C h_a18 fl_X10_259 qa19 dX10_all_114 (fun h_a19 => ?_)
                refine v_iload_n C 1 dX10_all_117 rfl rfl ?_
                obtain ⟨v20, qv20, hf⟩ := bn hf
                refine v_iald C h_a19 qv20 dX10_all_118 ?_
                obtain ⟨r21, qr21, hf⟩ := bn hf
                refine v_callSi (As := [.int v20]) (rest := []) C (sX10_wayTold  qr21) cs_X10_241 (by decide) hC rfl rfl rfl (Nat.le_of_ble_eq_true rfl) ⟨Nat.le_refl _, Nat.le_refl _⟩ dX10_all_119 (fun hC => ?_)
                cases hf
                exact kr _ _ dX10_all_122 hC
              · have hf := ip hf c17
                refine v_aload_n C 0 dX10_all_98 rfl rfl ?_
                obtain ⟨a22, qa22, hf⟩ := bn hf
                refine v_getO C h_l0 fl_X10_65 qa22 dX10_all_99 (fun h_a22 => ?_)
                obtain ⟨a23, qa23, hf⟩ := bn hf
                refine v_getA C h_a22 fl_X10_256 qa23 dX10_all_102 (fun h_a23 => ?_)
                refine v_iload_n C 1 dX10_all_105 rfl rfl ?_
                obtain ⟨v24, qv24, hf⟩ := bn hf
                refine v_iald C h_a23 qv24 dX10_all_106 ?_
                refine v_goto (tgt := 122) C dX10_all_107 (by decide) ?_
                cases hf
                exact kr _ _ dX10_all_122 hC
            · have hf := ip hf c16
              refine v_bipush (v := (-2)) C dX10_all_91 (by decide) ?_
              cases hf
              exact kr _ _ dX10_all_93 hC
          · have hf := im hf c10
            refine v_bipush (v := (-3)) C dX10_all_70 (by decide) ?_
            cases hf
            exact kr _ _ dX10_all_72 hC
        · have hf := im hf c6
          refine v_iconst (v := (-1)) C dX10_all_56 (by decide) ?_
          cases hf
          exact kr _ _ dX10_all_57 hC
  · have hf := ip hf c1
    refine v_aload_n C 0 dX10_all_5 rfl rfl ?_
    obtain ⟨a25, qa25, hf⟩ := bn hf
    refine v_getO C h_l0 fl_X10_65 qa25 dX10_all_6 (fun h_a25 => ?_)
    refine v_aload_n C 0 dX10_all_9 rfl rfl ?_
    obtain ⟨a26, qa26, hf⟩ := bn hf
    refine v_getO C h_l0 fl_X10_23 qa26 dX10_all_10 (fun h_a26 => ?_)
    refine v_aload_n C 0 dX10_all_13 rfl rfl ?_
    obtain ⟨a27, qa27, hf⟩ := bn hf
    refine v_getO C h_l0 fl_X10_30 qa27 dX10_all_14 (fun h_a27 => ?_)
    obtain ⟨r28, G29, qr28, hf⟩ := bpn hf
    refine v_callVi (As := [.ref (ad a26), .ref (ad a27)]) (rest := []) C (sX5_findForAll h_a25 h_a26 h_a27 qr28) cs_X10_249 (by decide) h_a25 rfl hC rfl rfl rfl (Nat.le_of_ble_eq_true rfl) ⟨Nat.le_refl _, Nat.le_refl _⟩ dX10_all_17 (fun hC => ?_)
    refine v_if_eq (tgt := 33) C dX10_all_20 (by decide) (fun c30 => ?_) (fun c30 => ?_)
    · have hf := ip hf c30
      refine v_bipush (v := (-2)) C dX10_all_33 (by decide) ?_
      cases hf
      exact kr _ _ dX10_all_35 hC
    · have hf := im hf c30
      refine v_aload_n C 0 dX10_all_23 rfl rfl ?_
      obtain ⟨a31, qa31, hf⟩ := bn hf
      refine v_getO C h_l0 fl_X10_65 qa31 dX10_all_24 (fun h_a31 => ?_)
      refine v_getI C h_a31 fl_X10_253 dX10_all_27 ?_
      refine v_goto (tgt := 35) C dX10_all_30 (by decide) ?_
      cases hf
      exact kr _ _ dX10_all_35 hC
theorem sX10_all {l : Launch} {sh : Sh} {G : Hp} {l0 : Nat} {l1 : Int32} {l2 : Int32} {z : Int32 × Hp} (h_l0 : sh[l0]? = some (0, 10)) (hf : fX10_all sh G l0 l1 l2 = some z) : MC l yX10_all cX10_all 3 (some .int) 28 0 0 sh sh G (z.2) (fun ad => [.ref (ad l0), .int l1, .int l2]) (fun _ => some (.int z.1)) := by
  refine MC_of rfl rfl (fun _ => Nat.le_of_ble_eq_true rfl) (fun E ad C hl hnm hC hQ => ?_)
  exact tX10_all C hC h_l0 hf (fun pc lv hd hC => v_iret C hQ (fun _ _ => rfl) hC rfl hd)
def fX10_isKnown (sh : Sh) (G : Hp) (l0 : Nat) (l1 : Int32) (l2 : Int32) : Option (Int32) := (ldO sh G l0 2 8).bind fun a1 => (fX8_hasBridge sh G a1 l1).bind fun r2 => if r2 = 0 then some 0 else if l2 < 0 then some 0 else (ldO sh G l0 8 9).bind fun a5 => if (G.1 a5 0) < l2 then some 0 else some 1
set_option maxHeartbeats 4000000 in
theorem tX10_isKnown {E : EX} {ad : Nat → Nat} {sh : Sh} {G : Hp} {l0 : Nat} {l1 : Int32} {l2 : Int32} {z : Int32} (C : Cx E RX10 cX10_isKnown 3 (some .boolean) 2 0 0) (hC : Cl sh G) (h_l0 : sh[l0]? = some (0, 10)) (hf : fX10_isKnown sh G l0 l1 l2 = some z) (kr : RCz E cX10_isKnown ad sh z G) : VV E 0 0 (wq (xT E) ad G sh) 0 [(0, .ref (ad l0)), (1, .int l1), (2, .int l2)] [] := by
  unfold fX10_isKnown at hf
  refine v_aload_n C 0 dX10_isKnown_0 rfl rfl ?_
  obtain ⟨a1, qa1, hf⟩ := bn hf
  refine v_getO C h_l0 fl_X10_23 qa1 dX10_isKnown_1 (fun h_a1 => ?_)
  refine v_iload_n C 1 dX10_isKnown_4 rfl rfl ?_
  obtain ⟨r2, qr2, hf⟩ := bn hf
  refine v_callVi (As := [.int l1]) (rest := []) C (sX8_hasBridge h_a1 qr2) cs_X10_143 (by decide) h_a1 rfl hC rfl rfl rfl (Nat.le_of_ble_eq_true rfl) ⟨Nat.le_refl _, Nat.le_refl _⟩ dX10_isKnown_5 (fun hC => ?_)
  refine v_if_eq (tgt := 30) C dX10_isKnown_8 (by decide) (fun c3 => ?_) (fun c3 => ?_)
  · have hf := ip hf c3
    refine v_iconst (v := 0) C dX10_isKnown_30 (by decide) ?_
    cases hf
    exact kr _ _ dX10_isKnown_31 (Or.inl rfl) hC
  · have hf := im hf c3
    refine v_iload_n C 2 dX10_isKnown_11 rfl rfl ?_
    refine v_if_lt (tgt := 30) C dX10_isKnown_12 (by decide) (fun c4 => ?_) (fun c4 => ?_)
    · have hf := ip hf c4
      refine v_iconst (v := 0) C dX10_isKnown_30 (by decide) ?_
      cases hf
      exact kr _ _ dX10_isKnown_31 (Or.inl rfl) hC
    · have hf := im hf c4
      refine v_iload_n C 2 dX10_isKnown_15 rfl rfl ?_
      refine v_aload_n C 0 dX10_isKnown_16 rfl rfl ?_
      obtain ⟨a5, qa5, hf⟩ := bn hf
      refine v_getO C h_l0 fl_X10_58 qa5 dX10_isKnown_17 (fun h_a5 => ?_)
      refine v_getI C h_a5 fl_X10_110 dX10_isKnown_20 ?_
      refine v_icmp_gt (tgt := 30) C dX10_isKnown_23 (by decide) (fun c6 => ?_) (fun c6 => ?_)
      · have hf := ip hf c6
        refine v_iconst (v := 0) C dX10_isKnown_30 (by decide) ?_
        cases hf
        exact kr _ _ dX10_isKnown_31 (Or.inl rfl) hC
      · have hf := im hf c6
        refine v_iconst (v := 1) C dX10_isKnown_26 (by decide) ?_
        refine v_goto (tgt := 31) C dX10_isKnown_27 (by decide) ?_
        cases hf
        exact kr _ _ dX10_isKnown_31 (Or.inr rfl) hC
theorem sX10_isKnown {l : Launch} {sh : Sh} {G : Hp} {l0 : Nat} {l1 : Int32} {l2 : Int32} {z : Int32} (h_l0 : sh[l0]? = some (0, 10)) (hf : fX10_isKnown sh G l0 l1 l2 = some z) : MC l yX10_isKnown cX10_isKnown 3 (some .boolean) 2 0 0 sh sh G G (fun ad => [.ref (ad l0), .int l1, .int l2]) (fun _ => some (.int z)) := by
  refine MC_of rfl rfl (fun _ => Nat.le_of_ble_eq_true rfl) (fun E ad C hl hnm hC hQ => ?_)
  exact tX10_isKnown C hC h_l0 hf (fun pc lv hd hz hC => v_zret C hQ (fun _ _ => rfl) hC rfl hz hd)
def fX9_know_S12 (sh : Sh) (l0 : Nat) (l1 : Int32) (G : Hp) (l2 : Int32) : Option ((Hp × Int32) ⊕ ((Hp))) := if l1 ≤ l2 then some (.inr G) else if (G.1 l0 0) ≤ l2 then some (.inr G) else (ldA sh G l0 2 3).bind fun a3 => (aI sh G a3 l2).bind fun v4 => if v4 = 0 then (ldA sh G l0 1 1).bind fun a6 => (aI sh G a6 l2).bind fun v7 => bd (sI G l0 4 ((G.1 l0 4) ||| ((1 : Int32) <<< (v7 &&& 31)))) fun G8 => bd ((l2 + 1) : Int32) fun x9 => some (.inl (G8, x9)) else (ldA sh G l0 1 1).bind fun a10 => (aI sh G a10 l2).bind fun v11 => bd (sI G l0 3 ((G.1 l0 3) ||| ((1 : Int32) <<< (v11 &&& 31)))) fun G12 => bd ((l2 + 1) : Int32) fun x13 => some (.inl (G12, x13))
set_option maxHeartbeats 4000000 in
theorem tX9_know_S12 {E : EX} {ad : Nat → Nat} {sh : Sh} {G : Hp} {l0 : Nat} {l1 : Int32} {l2 : Int32} {o : (Hp × Int32) ⊕ ((Hp))} (C : Cx E RX9 cX9_know 3 none 1 0 0) (hC : Cl sh G) (h_l0 : sh[l0]? = some (0, 9)) (hf : fX9_know_S12 sh l0 l1 G l2 = some o) (kb : ∀ (G2 : Hp) (b_l2 : Int32), o = .inl (G2, b_l2) → Cl sh G2 → VV E 0 0 (wq (xT E) ad G2 sh) 12 [(0, .ref (ad l0)), (1, .int l1), (2, .int b_l2)] []) (kx77 : ∀ (G2 : Hp), o = .inr G2 → Cl sh G2 → VV E 0 0 (wq (xT E) ad G2 sh) 77 [(0, .ref (ad l0)), (1, .int l1)] []) : VV E 0 0 (wq (xT E) ad G sh) 12 [(0, .ref (ad l0)), (1, .int l1), (2, .int l2)] [] := by
  unfold fX9_know_S12 at hf
  refine v_iload_n C 2 dX9_know_12 rfl rfl ?_
  refine v_iload_n C 1 dX9_know_13 rfl rfl ?_
  refine v_icmp_ge (tgt := 77) C dX9_know_14 (by decide) (fun c1 => ?_) (fun c1 => ?_)
  · have hf := ip hf c1
    cases hf
    refine v_sub [0, 1] rfl ?_
    exact kx77 _ rfl hC
  · have hf := im hf c1
    refine v_iload_n C 2 dX9_know_17 rfl rfl ?_
    refine v_aload_n C 0 dX9_know_18 rfl rfl ?_
    refine v_getI C h_l0 fl_X9_19 dX9_know_19 ?_
    refine v_icmp_ge (tgt := 77) C dX9_know_22 (by decide) (fun c2 => ?_) (fun c2 => ?_)
    · have hf := ip hf c2
      cases hf
      refine v_sub [0, 1] rfl ?_
      exact kx77 _ rfl hC
    · have hf := im hf c2
      refine v_aload_n C 0 dX9_know_25 rfl rfl ?_
      obtain ⟨a3, qa3, hf⟩ := bn hf
      refine v_getA C h_l0 fl_X9_15 qa3 dX9_know_26 (fun h_a3 => ?_)
      refine v_iload_n C 2 dX9_know_29 rfl rfl ?_
      obtain ⟨v4, qv4, hf⟩ := bn hf
      refine v_zald C h_a3 qv4 dX9_know_30 ?_
      refine v_if_eq (tgt := 54) C dX9_know_31 (by decide) (fun c5 => ?_) (fun c5 => ?_)
      · have hf := ip hf c5
        refine v_aload_n C 0 dX9_know_54 rfl rfl ?_
        refine v_dup C dX9_know_55 rfl ?_
        refine v_getI C h_l0 fl_X9_26 dX9_know_56 ?_
        refine v_iconst (v := 1) C dX9_know_59 (by decide) ?_
        refine v_aload_n C 0 dX9_know_60 rfl rfl ?_
        obtain ⟨a6, qa6, hf⟩ := bn hf
        refine v_getA C h_l0 fl_X9_9 qa6 dX9_know_61 (fun h_a6 => ?_)
        refine v_iload_n C 2 dX9_know_64 rfl rfl ?_
        obtain ⟨v7, qv7, hf⟩ := bn hf
        refine v_iald C h_a6 qv7 dX9_know_65 ?_
        refine v_ishl C dX9_know_66 ?_
        refine v_ior C dX9_know_67 ?_
        refine v_putI C h_l0 fp_X9_26 dX9_know_68 (fun G8 eG8 => ?_)
        have hf := bd_at hf eG8
        have hC : Cl sh G8 := by rw [eG8]; exact hC
        obtain ⟨x9, ex9⟩ : ∃ x : Int32, x = (l2 + 1) := ⟨_, rfl⟩
        have hf := bd_at hf ex9
        refine v_iinc (v := x9) (j := 2) (lv2 := [(2, .int x9), (0, .ref (ad l0)), (1, .int l1)]) C dX9_know_71 rfl (by rw [ex9]; rfl) (by decide) rfl ?_
        refine v_goto (tgt := 12) C dX9_know_74 (by decide) ?_
        cases hf
        refine v_sub [1, 2, 0] rfl ?_
        exact kb _ _ rfl hC
      · have hf := im hf c5
        refine v_aload_n C 0 dX9_know_34 rfl rfl ?_
        refine v_dup C dX9_know_35 rfl ?_
        refine v_getI C h_l0 fl_X9_23 dX9_know_36 ?_
        refine v_iconst (v := 1) C dX9_know_39 (by decide) ?_
        refine v_aload_n C 0 dX9_know_40 rfl rfl ?_
        obtain ⟨a10, qa10, hf⟩ := bn hf
        refine v_getA C h_l0 fl_X9_9 qa10 dX9_know_41 (fun h_a10 => ?_)
        refine v_iload_n C 2 dX9_know_44 rfl rfl ?_
        obtain ⟨v11, qv11, hf⟩ := bn hf
        refine v_iald C h_a10 qv11 dX9_know_45 ?_
        refine v_ishl C dX9_know_46 ?_
        refine v_ior C dX9_know_47 ?_
        refine v_putI C h_l0 fp_X9_23 dX9_know_48 (fun G12 eG12 => ?_)
        have hf := bd_at hf eG12
        have hC : Cl sh G12 := by rw [eG12]; exact hC
        refine v_goto (tgt := 71) C dX9_know_51 (by decide) ?_
        obtain ⟨x13, ex13⟩ : ∃ x : Int32, x = (l2 + 1) := ⟨_, rfl⟩
        have hf := bd_at hf ex13
        refine v_iinc (v := x13) (j := 2) (lv2 := [(2, .int x13), (0, .ref (ad l0)), (1, .int l1)]) C dX9_know_71 rfl (by rw [ex13]; rfl) (by decide) rfl ?_
        refine v_goto (tgt := 12) C dX9_know_74 (by decide) ?_
        cases hf
        refine v_sub [1, 2, 0] rfl ?_
        exact kb _ _ rfl hC
def fX9_know (sh : Sh) (G : Hp) (l0 : Nat) (l1 : Int32) : Option (Hp) := bd (sI G l0 3 0) fun G1 => bd (sI G1 l0 4 0) fun G2 => (iter (fun s : Hp × Int32 => fX9_know_S12 sh l0 l1 s.1 s.2) fuel ((G2, 0) : Hp × Int32)).bind (fun u5 => bd u5 fun G4 => some G4)
set_option maxHeartbeats 4000000 in
theorem tX9_know {E : EX} {ad : Nat → Nat} {sh : Sh} {G : Hp} {l0 : Nat} {l1 : Int32} {z : Hp} (C : Cx E RX9 cX9_know 3 none 1 0 0) (hC : Cl sh G) (h_l0 : sh[l0]? = some (0, 9)) (hf : fX9_know sh G l0 l1 = some z) (kr : RCv E cX9_know ad sh z) : VV E 0 0 (wq (xT E) ad G sh) 0 [(0, .ref (ad l0)), (1, .int l1)] [] := by
  unfold fX9_know at hf
  refine v_aload_n C 0 dX9_know_0 rfl rfl ?_
  refine v_iconst (v := 0) C dX9_know_1 (by decide) ?_
  refine v_putI C h_l0 fp_X9_23 dX9_know_2 (fun G1 eG1 => ?_)
  have hf := bd_at hf eG1
  have hC : Cl sh G1 := by rw [eG1]; exact hC
  refine v_aload_n C 0 dX9_know_5 rfl rfl ?_
  refine v_iconst (v := 0) C dX9_know_6 (by decide) ?_
  refine v_putI C h_l0 fp_X9_26 dX9_know_7 (fun G2 eG2 => ?_)
  have hf := bd_at hf eG2
  have hC : Cl sh G2 := by rw [eG2]; exact hC
  refine v_iconst (v := 0) C dX9_know_10 (by decide) ?_
  refine v_istore_n (lv2 := [(2, .int 0), (0, .ref (ad l0)), (1, .int l1)]) C dX9_know_11 rfl (by decide) rfl ?_
  obtain ⟨r3, qr3, hf⟩ := bn hf
  refine v_sub [1, 2, 0] rfl ?_
  refine iter_sound (P := (fun s : Hp × Int32 => Cl sh (s.1) → VV E 0 0 (wq (xT E) ad (s.1) sh) 12 [(0, .ref (ad l0)), (1, .int (l1)), (2, .int (s.2))] [])) (X := fun r => r = r3) (fun jsr3 jor3 hor3 jbr3 jxr3 hC => tX9_know_S12 C hC h_l0 hor3 (fun _ _ e => jbr3 _ e) ?_) fuel _ r3 qr3 rfl hC
  · intro G4 hu hC
    have e := jxr3 _ hu
    subst e
    have hf := bd_at hf (rfl : G4 = _)
    cases hf
    exact kr _ _ dX9_know_77 hC
theorem sX9_know {l : Launch} {sh : Sh} {G : Hp} {l0 : Nat} {l1 : Int32} {z : Hp} (h_l0 : sh[l0]? = some (0, 9)) (hf : fX9_know sh G l0 l1 = some z) : MC l yX9_know cX9_know 3 none 1 0 0 sh sh G z (fun ad => [.ref (ad l0), .int l1]) (fun _ => none) := by
  refine MC_of rfl rfl (fun _ => Nat.le_of_ble_eq_true rfl) (fun E ad C hl hnm hC hQ => ?_)
  exact tX9_know C hC h_l0 hf (fun pc lv hd hC => v_vret C hQ (fun _ _ => rfl) hC rfl hd)
def fX9_canBe (sh : Sh) (G : Hp) (l0 : Nat) (l1 : Nat) (l2 : Int32) (l3 : Int32) : Option (Int32) := if (l3 &&& (G.1 l0 3)) = (G.1 l0 3) then if (l3 &&& (G.1 l0 4)) = 0 then (fX8_clauseHolds sh G l1 l2 l3).bind fun r3 => if r3 = 0 then some 0 else some 1 else some 0 else some 0
set_option maxHeartbeats 4000000 in
theorem tX9_canBe {E : EX} {ad : Nat → Nat} {sh : Sh} {G : Hp} {l0 : Nat} {l1 : Nat} {l2 : Int32} {l3 : Int32} {z : Int32} (C : Cx E RX9 cX9_canBe 4 (some .boolean) 3 0 0) (hC : Cl sh G) (h_l0 : sh[l0]? = some (0, 9)) (h_l1 : sh[l1]? = some (0, 8)) (hf : fX9_canBe sh G l0 l1 l2 l3 = some z) (kr : RCz E cX9_canBe ad sh z G) : VV E 0 0 (wq (xT E) ad G sh) 0 [(0, .ref (ad l0)), (1, .ref (ad l1)), (2, .int l2), (3, .int l3)] [] := by
  unfold fX9_canBe at hf
  refine v_iload_n C 3 dX9_canBe_0 rfl rfl ?_
  refine v_aload_n C 0 dX9_canBe_1 rfl rfl ?_
  refine v_getI C h_l0 fl_X9_23 dX9_canBe_2 ?_
  refine v_iand C dX9_canBe_5 ?_
  refine v_aload_n C 0 dX9_canBe_6 rfl rfl ?_
  refine v_getI C h_l0 fl_X9_23 dX9_canBe_7 ?_
  refine v_icmp_ne (tgt := 35) C dX9_canBe_10 (by decide) (fun c1 => ?_) (fun c1 => ?_)
  · have hf := im hf c1
    refine v_iconst (v := 0) C dX9_canBe_35 (by decide) ?_
    cases hf
    exact kr _ _ dX9_canBe_36 (Or.inl rfl) hC
  · have hf := ip hf c1
    refine v_iload_n C 3 dX9_canBe_13 rfl rfl ?_
    refine v_aload_n C 0 dX9_canBe_14 rfl rfl ?_
    refine v_getI C h_l0 fl_X9_26 dX9_canBe_15 ?_
    refine v_iand C dX9_canBe_18 ?_
    refine v_if_ne (tgt := 35) C dX9_canBe_19 (by decide) (fun c2 => ?_) (fun c2 => ?_)
    · have hf := im hf c2
      refine v_iconst (v := 0) C dX9_canBe_35 (by decide) ?_
      cases hf
      exact kr _ _ dX9_canBe_36 (Or.inl rfl) hC
    · have hf := ip hf c2
      refine v_aload_n C 1 dX9_canBe_22 rfl rfl ?_
      refine v_iload_n C 2 dX9_canBe_23 rfl rfl ?_
      refine v_iload_n C 3 dX9_canBe_24 rfl rfl ?_
      obtain ⟨r3, qr3, hf⟩ := bn hf
      refine v_callVi (As := [.int l2, .int l3]) (rest := []) C (sX8_clauseHolds h_l1 qr3) cs_X9_29 (by decide) h_l1 rfl hC rfl rfl rfl (Nat.le_of_ble_eq_true rfl) ⟨Nat.le_refl _, Nat.le_refl _⟩ dX9_canBe_25 (fun hC => ?_)
      refine v_if_eq (tgt := 35) C dX9_canBe_28 (by decide) (fun c4 => ?_) (fun c4 => ?_)
      · have hf := ip hf c4
        refine v_iconst (v := 0) C dX9_canBe_35 (by decide) ?_
        cases hf
        exact kr _ _ dX9_canBe_36 (Or.inl rfl) hC
      · have hf := im hf c4
        refine v_iconst (v := 1) C dX9_canBe_31 (by decide) ?_
        refine v_goto (tgt := 36) C dX9_canBe_32 (by decide) ?_
        cases hf
        exact kr _ _ dX9_canBe_36 (Or.inr rfl) hC
theorem sX9_canBe {l : Launch} {sh : Sh} {G : Hp} {l0 : Nat} {l1 : Nat} {l2 : Int32} {l3 : Int32} {z : Int32} (h_l0 : sh[l0]? = some (0, 9)) (h_l1 : sh[l1]? = some (0, 8)) (hf : fX9_canBe sh G l0 l1 l2 l3 = some z) : MC l yX9_canBe cX9_canBe 4 (some .boolean) 3 0 0 sh sh G G (fun ad => [.ref (ad l0), .ref (ad l1), .int l2, .int l3]) (fun _ => some (.int z)) := by
  refine MC_of rfl rfl (fun _ => Nat.le_of_ble_eq_true rfl) (fun E ad C hl hnm hC hQ => ?_)
  exact tX9_canBe C hC h_l0 h_l1 hf (fun pc lv hd hz hC => v_zret C hQ (fun _ _ => rfl) hC rfl hz hd)
def fX9_countWith_S18 (sh : Sh) (l0 : Nat) (l1 : Nat) (l2 : Int32) (l3 : Int32) (l5 : Int32) (G : Hp) (l4 : Int32) (l6 : Int32) : Option ((Int32 × Int32) ⊕ ((Int32))) := if (G.1 l1 2) ≤ l6 then some (.inr l4) else (fX8_setOf sh G l1 l5 l6).bind fun r2 => if (r2 &&& l3) = l3 then (fX9_canBe sh G l0 l1 l2 r2).bind fun r5 => if r5 = 0 then bd ((l6 + 1) : Int32) fun x7 => some (.inl (l4, x7)) else bd ((l4 + 1) : Int32) fun x8 => bd ((l6 + 1) : Int32) fun x9 => some (.inl (x8, x9)) else bd ((l6 + 1) : Int32) fun x4 => some (.inl (l4, x4))
set_option maxHeartbeats 4000000 in
theorem tX9_countWith_S18 {E : EX} {ad : Nat → Nat} {sh : Sh} {G : Hp} {l0 : Nat} {l1 : Nat} {l2 : Int32} {l3 : Int32} {l4 : Int32} {l5 : Int32} {l6 : Int32} {o : (Int32 × Int32) ⊕ ((Int32))} (C : Cx E RX9 cX9_countWith 8 (some .int) 4 0 0) (hC : Cl sh G) (h_l0 : sh[l0]? = some (0, 9)) (h_l1 : sh[l1]? = some (0, 8)) (hf : fX9_countWith_S18 sh l0 l1 l2 l3 l5 G l4 l6 = some o) (kb : ∀ (b_l4 : Int32) (b_l6 : Int32), o = .inl (b_l4, b_l6) → VV E 0 0 (wq (xT E) ad G sh) 18 [(0, .ref (ad l0)), (1, .ref (ad l1)), (2, .int l2), (3, .int l3), (4, .int b_l4), (5, .int l5), (6, .int b_l6)] []) (kx65 : ∀ (b_l4 : Int32), o = .inr b_l4 → VV E 0 0 (wq (xT E) ad G sh) 65 [(0, .ref (ad l0)), (1, .ref (ad l1)), (2, .int l2), (3, .int l3), (4, .int b_l4), (5, .int l5)] []) : VV E 0 0 (wq (xT E) ad G sh) 18 [(0, .ref (ad l0)), (1, .ref (ad l1)), (2, .int l2), (3, .int l3), (4, .int l4), (5, .int l5), (6, .int l6)] [] := by
  unfold fX9_countWith_S18 at hf
  refine v_iload C 6 dX9_countWith_18 rfl ?_
  refine v_aload_n C 1 dX9_countWith_20 rfl rfl ?_
  refine v_getI C h_l1 fl_X9_46 dX9_countWith_21 ?_
  refine v_icmp_ge (tgt := 65) C dX9_countWith_24 (by decide) (fun c1 => ?_) (fun c1 => ?_)
  · have hf := ip hf c1
    cases hf
    refine v_sub [0, 1, 2, 3, 4, 5] rfl ?_
    exact kx65 _ rfl
  · have hf := im hf c1
    refine v_aload_n C 1 dX9_countWith_27 rfl rfl ?_
    refine v_iload C 5 dX9_countWith_28 rfl ?_
    refine v_iload C 6 dX9_countWith_30 rfl ?_
    obtain ⟨r2, qr2, hf⟩ := bn hf
    refine v_callVi (As := [.int l5, .int l6]) (rest := []) C (sX8_setOf h_l1 qr2) cs_X9_49 (by decide) h_l1 rfl hC rfl rfl rfl (Nat.le_of_ble_eq_true rfl) ⟨Nat.le_refl _, Nat.le_refl _⟩ dX9_countWith_32 (fun hC => ?_)
    refine v_istore (lv2 := [(7, .int r2), (0, .ref (ad l0)), (1, .ref (ad l1)), (2, .int l2), (3, .int l3), (4, .int l4), (5, .int l5), (6, .int l6)]) C dX9_countWith_35 (by decide) rfl ?_
    refine v_iload C 0 dX9_countWith_37 rfl ?_
    refine v_iload_n C 4 dX9_countWith_39 rfl rfl ?_
    refine v_iand C dX9_countWith_40 ?_
    refine v_iload_n C 4 dX9_countWith_41 rfl rfl ?_
    refine v_icmp_ne (tgt := 59) C dX9_countWith_42 (by decide) (fun c3 => ?_) (fun c3 => ?_)
    · have hf := im hf c3
      obtain ⟨x4, ex4⟩ : ∃ x : Int32, x = (l6 + 1) := ⟨_, rfl⟩
      have hf := bd_at hf ex4
      refine v_iinc (v := x4) (j := 7) (lv2 := [(6, .int x4), (7, .int r2), (0, .ref (ad l0)), (1, .ref (ad l1)), (2, .int l2), (3, .int l3), (4, .int l4), (5, .int l5)]) C dX9_countWith_59 rfl (by rw [ex4]; rfl) (by decide) rfl ?_
      refine v_goto (tgt := 18) C dX9_countWith_62 (by decide) ?_
      cases hf
      refine v_sub [2, 3, 4, 5, 6, 7, 0] rfl ?_
      exact kb _ _ rfl
    · have hf := ip hf c3
      refine v_aload_n C 1 dX9_countWith_45 rfl rfl ?_
      refine v_aload_n C 2 dX9_countWith_46 rfl rfl ?_
      refine v_iload_n C 3 dX9_countWith_47 rfl rfl ?_
      refine v_iload C 0 dX9_countWith_48 rfl ?_
      obtain ⟨r5, qr5, hf⟩ := bn hf
      refine v_callVi (As := [.ref (ad l1), .int l2, .int r2]) (rest := []) C (sX9_canBe h_l0 h_l1 qr5) cs_X9_53 (by decide) h_l0 rfl hC rfl rfl rfl (Nat.le_of_ble_eq_true rfl) ⟨Nat.le_refl _, Nat.le_refl _⟩ dX9_countWith_50 (fun hC => ?_)
      refine v_if_eq (tgt := 59) C dX9_countWith_53 (by decide) (fun c6 => ?_) (fun c6 => ?_)
      · have hf := ip hf c6
        obtain ⟨x7, ex7⟩ : ∃ x : Int32, x = (l6 + 1) := ⟨_, rfl⟩
        have hf := bd_at hf ex7
        refine v_iinc (v := x7) (j := 7) (lv2 := [(6, .int x7), (7, .int r2), (0, .ref (ad l0)), (1, .ref (ad l1)), (2, .int l2), (3, .int l3), (4, .int l4), (5, .int l5)]) C dX9_countWith_59 rfl (by rw [ex7]; rfl) (by decide) rfl ?_
        refine v_goto (tgt := 18) C dX9_countWith_62 (by decide) ?_
        cases hf
        refine v_sub [2, 3, 4, 5, 6, 7, 0] rfl ?_
        exact kb _ _ rfl
      · have hf := im hf c6
        obtain ⟨x8, ex8⟩ : ∃ x : Int32, x = (l4 + 1) := ⟨_, rfl⟩
        have hf := bd_at hf ex8
        refine v_iinc (v := x8) (j := 5) (lv2 := [(4, .int x8), (7, .int r2), (0, .ref (ad l0)), (1, .ref (ad l1)), (2, .int l2), (3, .int l3), (5, .int l5), (6, .int l6)]) C dX9_countWith_56 rfl (by rw [ex8]; rfl) (by decide) rfl ?_
        obtain ⟨x9, ex9⟩ : ∃ x : Int32, x = (l6 + 1) := ⟨_, rfl⟩
        have hf := bd_at hf ex9
        refine v_iinc (v := x9) (j := 7) (lv2 := [(6, .int x9), (4, .int x8), (7, .int r2), (0, .ref (ad l0)), (1, .ref (ad l1)), (2, .int l2), (3, .int l3), (5, .int l5)]) C dX9_countWith_59 rfl (by rw [ex9]; rfl) (by decide) rfl ?_
        refine v_goto (tgt := 18) C dX9_countWith_62 (by decide) ?_
        cases hf
        refine v_sub [3, 4, 5, 6, 1, 7, 0] rfl ?_
        exact kb _ _ rfl
def fX9_countWith_S6 (sh : Sh) (l0 : Nat) (l1 : Nat) (l2 : Int32) (l3 : Int32) (G : Hp) (l4 : Int32) (l5 : Int32) : Option ((Int32 × Int32) ⊕ ((Int32))) := if (G.1 l1 1) ≤ l5 then some (.inr l4) else (iter (fun s : Int32 × Int32 => fX9_countWith_S18 sh l0 l1 l2 l3 l5 G s.1 s.2) fuel ((l4, (-1)) : Int32 × Int32)).bind (fun u5 => bd u5 fun x3 => bd ((l5 + 1) : Int32) fun x4 => some (.inl (x3, x4)))
set_option maxHeartbeats 4000000 in
theorem tX9_countWith_S6 {E : EX} {ad : Nat → Nat} {sh : Sh} {G : Hp} {l0 : Nat} {l1 : Nat} {l2 : Int32} {l3 : Int32} {l4 : Int32} {l5 : Int32} {o : (Int32 × Int32) ⊕ ((Int32))} (C : Cx E RX9 cX9_countWith 8 (some .int) 4 0 0) (hC : Cl sh G) (h_l0 : sh[l0]? = some (0, 9)) (h_l1 : sh[l1]? = some (0, 8)) (hf : fX9_countWith_S6 sh l0 l1 l2 l3 G l4 l5 = some o) (kb : ∀ (b_l4 : Int32) (b_l5 : Int32), o = .inl (b_l4, b_l5) → VV E 0 0 (wq (xT E) ad G sh) 6 [(0, .ref (ad l0)), (1, .ref (ad l1)), (2, .int l2), (3, .int l3), (4, .int b_l4), (5, .int b_l5)] []) (kx71 : ∀ (b_l4 : Int32), o = .inr b_l4 → VV E 0 0 (wq (xT E) ad G sh) 71 [(0, .ref (ad l0)), (1, .ref (ad l1)), (2, .int l2), (3, .int l3), (4, .int b_l4)] []) : VV E 0 0 (wq (xT E) ad G sh) 6 [(0, .ref (ad l0)), (1, .ref (ad l1)), (2, .int l2), (3, .int l3), (4, .int l4), (5, .int l5)] [] := by
  unfold fX9_countWith_S6 at hf
  refine v_iload C 5 dX9_countWith_6 rfl ?_
  refine v_aload_n C 1 dX9_countWith_8 rfl rfl ?_
  refine v_getI C h_l1 fl_X9_43 dX9_countWith_9 ?_
  refine v_icmp_ge (tgt := 71) C dX9_countWith_12 (by decide) (fun c1 => ?_) (fun c1 => ?_)
  · have hf := ip hf c1
    cases hf
    refine v_sub [0, 1, 2, 3, 4] rfl ?_
    exact kx71 _ rfl
  · have hf := im hf c1
    refine v_iconst (v := (-1)) C dX9_countWith_15 (by decide) ?_
    refine v_istore (lv2 := [(6, .int (-1)), (0, .ref (ad l0)), (1, .ref (ad l1)), (2, .int l2), (3, .int l3), (4, .int l4), (5, .int l5)]) C dX9_countWith_16 (by decide) rfl ?_
    obtain ⟨r2, qr2, hf⟩ := bn hf
    refine v_sub [1, 2, 3, 4, 5, 6, 0] rfl ?_
    refine iter_sound (P := (fun s : Int32 × Int32 => VV E 0 0 (wq (xT E) ad (G) sh) 18 [(0, .ref (ad l0)), (1, .ref (ad l1)), (2, .int (l2)), (3, .int (l3)), (4, .int (s.1)), (5, .int (l5)), (6, .int (s.2))] [])) (X := fun r => r = r2) (fun jsr2 jor2 hor2 jbr2 jxr2 => tX9_countWith_S18 C hC h_l0 h_l1 hor2 (fun _ _ e => jbr2 _ e) ?_) fuel _ r2 qr2 rfl
    · intro x3 hu
      have e := jxr2 _ hu
      subst e
      have hf := bd_at hf (rfl : x3 = _)
      obtain ⟨x4, ex4⟩ : ∃ x : Int32, x = (l5 + 1) := ⟨_, rfl⟩
      have hf := bd_at hf ex4
      refine v_iinc (v := x4) (j := 5) (lv2 := [(5, .int x4), (0, .ref (ad l0)), (1, .ref (ad l1)), (2, .int l2), (3, .int l3), (4, .int x3)]) C dX9_countWith_65 rfl (by rw [ex4]; rfl) (by decide) rfl ?_
      refine v_goto (tgt := 6) C dX9_countWith_68 (by decide) ?_
      cases hf
      refine v_sub [1, 2, 3, 4, 5, 0] rfl ?_
      exact kb _ _ rfl
def fX9_countWith (sh : Sh) (G : Hp) (l0 : Nat) (l1 : Nat) (l2 : Int32) (l3 : Int32) : Option (Int32) := (iter (fun s : Int32 × Int32 => fX9_countWith_S6 sh l0 l1 l2 l3 G s.1 s.2) fuel ((0, 0) : Int32 × Int32)).bind (fun u3 => bd u3 fun x2 => some x2)
set_option maxHeartbeats 4000000 in
theorem tX9_countWith {E : EX} {ad : Nat → Nat} {sh : Sh} {G : Hp} {l0 : Nat} {l1 : Nat} {l2 : Int32} {l3 : Int32} {z : Int32} (C : Cx E RX9 cX9_countWith 8 (some .int) 4 0 0) (hC : Cl sh G) (h_l0 : sh[l0]? = some (0, 9)) (h_l1 : sh[l1]? = some (0, 8)) (hf : fX9_countWith sh G l0 l1 l2 l3 = some z) (kr : RCi E cX9_countWith ad sh z G) : VV E 0 0 (wq (xT E) ad G sh) 0 [(0, .ref (ad l0)), (1, .ref (ad l1)), (2, .int l2), (3, .int l3)] [] := by
  unfold fX9_countWith at hf
  refine v_iconst (v := 0) C dX9_countWith_0 (by decide) ?_
  refine v_istore (lv2 := [(4, .int 0), (0, .ref (ad l0)), (1, .ref (ad l1)), (2, .int l2), (3, .int l3)]) C dX9_countWith_1 (by decide) rfl ?_
  refine v_iconst (v := 0) C dX9_countWith_3 (by decide) ?_
  refine v_istore (lv2 := [(5, .int 0), (4, .int 0), (0, .ref (ad l0)), (1, .ref (ad l1)), (2, .int l2), (3, .int l3)]) C dX9_countWith_4 (by decide) rfl ?_
  obtain ⟨r1, qr1, hf⟩ := bn hf
  refine v_sub [2, 3, 4, 5, 1, 0] rfl ?_
  refine iter_sound (P := (fun s : Int32 × Int32 => VV E 0 0 (wq (xT E) ad (G) sh) 6 [(0, .ref (ad l0)), (1, .ref (ad l1)), (2, .int (l2)), (3, .int (l3)), (4, .int (s.1)), (5, .int (s.2))] [])) (X := fun r => r = r1) (fun jsr1 jor1 hor1 jbr1 jxr1 => tX9_countWith_S6 C hC h_l0 h_l1 hor1 (fun _ _ e => jbr1 _ e) ?_) fuel _ r1 qr1 rfl
  · intro x2 hu
    have e := jxr1 _ hu
    subst e
    have hf := bd_at hf (rfl : x2 = _)
    refine v_iload C 4 dX9_countWith_71 rfl ?_
    cases hf
    exact kr _ _ dX9_countWith_73 hC
theorem sX9_countWith {l : Launch} {sh : Sh} {G : Hp} {l0 : Nat} {l1 : Nat} {l2 : Int32} {l3 : Int32} {z : Int32} (h_l0 : sh[l0]? = some (0, 9)) (h_l1 : sh[l1]? = some (0, 8)) (hf : fX9_countWith sh G l0 l1 l2 l3 = some z) : MC l yX9_countWith cX9_countWith 8 (some .int) 4 0 0 sh sh G G (fun ad => [.ref (ad l0), .ref (ad l1), .int l2, .int l3]) (fun _ => some (.int z)) := by
  refine MC_of rfl rfl (fun _ => Nat.le_of_ble_eq_true rfl) (fun E ad C hl hnm hC hQ => ?_)
  exact tX9_countWith C hC h_l0 h_l1 hf (fun pc lv hd hC => v_iret C hQ (fun _ _ => rfl) hC rfl hd)
