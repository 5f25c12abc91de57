def fX11_is (sh : Sh) (G : Hp) (l0 : Nat) (l1 : Int32) : Option (Int32) := if (G.1 l0 13) = 0 then (ldA sh G l0 5 1).bind fun a2 => (aI sh G a2 (G.1 l0 11)).bind fun v3 => if v3 = l1 then some 1 else some 0 else some 0
set_option maxHeartbeats 4000000 in
theorem tX11_is {E : EX} {ad : Nat → Nat} {sh : Sh} {G : Hp} {l0 : Nat} {l1 : Int32} {z : Int32} (C : Cx E RX11 cX11_is 2 (some .boolean) 1 0 0) (hC : Cl sh G) (h_l0 : sh[l0]? = some (0, 11)) (hf : fX11_is sh G l0 l1 = some z) (kr : RCz E cX11_is ad sh z G) : VV E 0 0 (wq (xT E) ad G sh) 0 [(0, .ref (ad l0)), (1, .int l1)] [] := by
  unfold fX11_is at hf
  refine v_aload_n C 0 dX11_is_0 rfl rfl ?_
  refine v_getI C h_l0 fl_X11_227 dX11_is_1 ?_
  refine v_if_ne (tgt := 24) C dX11_is_4 (by decide) (fun c1 => ?_) (fun c1 => ?_)
  · have hf := im hf c1
    refine v_iconst (v := 0) C dX11_is_24 (by decide) ?_
    cases hf
    exact kr _ _ dX11_is_25 (Or.inl rfl) hC
  · have hf := ip hf c1
    refine v_aload_n C 0 dX11_is_7 rfl rfl ?_
    obtain ⟨a2, qa2, hf⟩ := bn hf
    refine v_getA C h_l0 fl_X11_20 qa2 dX11_is_8 (fun h_a2 => ?_)
    refine v_aload_n C 0 dX11_is_11 rfl rfl ?_
    refine v_getI C h_l0 fl_X11_230 dX11_is_12 ?_
    obtain ⟨v3, qv3, hf⟩ := bn hf
    refine v_iald C h_a2 qv3 dX11_is_15 ?_
    refine v_iload_n C 1 dX11_is_16 rfl rfl ?_
    refine v_icmp_ne (tgt := 24) C dX11_is_17 (by decide) (fun c4 => ?_) (fun c4 => ?_)
    · have hf := im hf c4
      refine v_iconst (v := 0) C dX11_is_24 (by decide) ?_
      cases hf
      exact kr _ _ dX11_is_25 (Or.inl rfl) hC
    · have hf := ip hf c4
      refine v_iconst (v := 1) C dX11_is_20 (by decide) ?_
      refine v_goto (tgt := 25) C dX11_is_21 (by decide) ?_
      cases hf
      exact kr _ _ dX11_is_25 (Or.inr rfl) hC
theorem sX11_is {l : Launch} {sh : Sh} {G : Hp} {l0 : Nat} {l1 : Int32} {z : Int32} (h_l0 : sh[l0]? = some (0, 11)) (hf : fX11_is sh G l0 l1 = some z) : MC l yX11_is cX11_is 2 (some .boolean) 1 0 0 sh sh G G (fun ad => [.ref (ad l0), .int l1]) (fun _ => some (.int z)) := by
  refine MC_of rfl rfl (fun _ => Nat.le_of_ble_eq_true rfl) (fun E ad C hl hnm hC hQ => ?_)
  exact tX11_is C hC h_l0 hf (fun pc lv hd hz hC => v_zret C hQ (fun _ _ => rfl) hC rfl hz hd)
def fX11_fail (sh : Sh) (G : Hp) (l0 : Nat) (l1 : Int32) : Option (Hp) := if (G.1 l0 13) ≤ 0 then bd (sI G l0 13 l1) fun G2 => (ldA sh G2 l0 6 1).bind fun a3 => (aI sh G2 a3 (G2.1 l0 11)).bind fun v4 => bd (sI G2 l0 14 v4) fun G5 => some G5 else some G
set_option maxHeartbeats 4000000 in
theorem tX11_fail {E : EX} {ad : Nat → Nat} {sh : Sh} {G : Hp} {l0 : Nat} {l1 : Int32} {z : Hp} (C : Cx E RX11 cX11_fail 2 none 1 0 0) (hC : Cl sh G) (h_l0 : sh[l0]? = some (0, 11)) (hf : fX11_fail sh G l0 l1 = some z) (kr : RCv E cX11_fail ad sh z) : VV E 0 0 (wq (xT E) ad G sh) 0 [(0, .ref (ad l0)), (1, .int l1)] [] := by
  unfold fX11_fail at hf
  refine v_aload_n C 0 dX11_fail_0 rfl rfl ?_
  refine v_getI C h_l0 fl_X11_227 dX11_fail_1 ?_
  refine v_if_le (tgt := 8) C dX11_fail_4 (by decide) (fun c1 => ?_) (fun c1 => ?_)
  · have hf := ip hf c1
    refine v_aload_n C 0 dX11_fail_8 rfl rfl ?_
    refine v_iload_n C 1 dX11_fail_9 rfl rfl ?_
    refine v_putI C h_l0 fp_X11_227 dX11_fail_10 (fun G2 eG2 => ?_)
    have hf := bd_at hf eG2
    have hC : Cl sh G2 := by rw [eG2]; exact hC
    refine v_aload_n C 0 dX11_fail_13 rfl rfl ?_
    refine v_aload_n C 0 dX11_fail_14 rfl rfl ?_
    obtain ⟨a3, qa3, hf⟩ := bn hf
    refine v_getA C h_l0 fl_X11_24 qa3 dX11_fail_15 (fun h_a3 => ?_)
    refine v_aload_n C 0 dX11_fail_18 rfl rfl ?_
    refine v_getI C h_l0 fl_X11_230 dX11_fail_19 ?_
    obtain ⟨v4, qv4, hf⟩ := bn hf
    refine v_iald C h_a3 qv4 dX11_fail_22 ?_
    refine v_putI C h_l0 fp_X11_233 dX11_fail_23 (fun G5 eG5 => ?_)
    have hf := bd_at hf eG5
    have hC : Cl sh G5 := by rw [eG5]; exact hC
    cases hf
    exact kr _ _ dX11_fail_26 hC
  · have hf := im hf c1
    cases hf
    exact kr _ _ dX11_fail_7 hC
theorem sX11_fail {l : Launch} {sh : Sh} {G : Hp} {l0 : Nat} {l1 : Int32} {z : Hp} (h_l0 : sh[l0]? = some (0, 11)) (hf : fX11_fail sh G l0 l1 = some z) : MC l yX11_fail cX11_fail 2 none 1 0 0 sh sh G z (fun ad => [.ref (ad l0), .int l1]) (fun _ => none) := by
  refine MC_of rfl rfl (fun _ => Nat.le_of_ble_eq_true rfl) (fun E ad C hl hnm hC hQ => ?_)
  exact tX11_fail C hC h_l0 hf (fun pc lv hd hC => v_vret C hQ (fun _ _ => rfl) hC rfl hd)
def fX11_goesOn (sh : Sh) (G : Hp) (l0 : Nat) : Option (Hp) := if (G.1 l0 11) = 400 then (fX11_fail sh G l0 2).bind fun G4 => some G4 else bd (sI G l0 11 ((G.1 l0 11) + 1)) fun G2 => some G2
set_option maxHeartbeats 4000000 in
theorem tX11_goesOn {E : EX} {ad : Nat → Nat} {sh : Sh} {G : Hp} {l0 : Nat} {z : Hp} (C : Cx E RX11 cX11_goesOn 1 none 2 0 0) (hC : Cl sh G) (h_l0 : sh[l0]? = some (0, 11)) (hf : fX11_goesOn sh G l0 = some z) (kr : RCv E cX11_goesOn ad sh z) : VV E 0 0 (wq (xT E) ad G sh) 0 [(0, .ref (ad l0))] [] := by
  unfold fX11_goesOn at hf
  refine v_aload_n C 0 dX11_goesOn_0 rfl rfl ?_
  refine v_getI C h_l0 fl_X11_230 dX11_goesOn_1 ?_
  refine v_sipush (v := 400) C dX11_goesOn_4 (by decide) ?_
  refine v_icmp_ne (tgt := 18) C dX11_goesOn_7 (by decide) (fun c1 => ?_) (fun c1 => ?_)
  · have hf := im hf c1
    refine v_aload_n C 0 dX11_goesOn_18 rfl rfl ?_
    refine v_dup C dX11_goesOn_19 rfl ?_
    refine v_getI C h_l0 fl_X11_230 dX11_goesOn_20 ?_
    refine v_iconst (v := 1) C dX11_goesOn_23 (by decide) ?_
    refine v_iadd C dX11_goesOn_24 ?_
    refine v_putI C h_l0 fp_X11_230 dX11_goesOn_25 (fun G2 eG2 => ?_)
    have hf := bd_at hf eG2
    have hC : Cl sh G2 := by rw [eG2]; exact hC
    cases hf
    exact kr _ _ dX11_goesOn_28 hC
  · have hf := ip hf c1
    refine v_aload_n C 0 dX11_goesOn_10 rfl rfl ?_
    refine v_iconst (v := 2) C dX11_goesOn_11 (by decide) ?_
    obtain ⟨G4, qr3, hf⟩ := bn hf
    refine v_callVv (As := [.int 2]) (rest := []) C (sX11_fail h_l0 qr3) cs_X11_242 (by decide) h_l0 rfl hC rfl rfl rfl (Nat.le_of_ble_eq_true rfl) ⟨Nat.le_refl _, Nat.le_refl _⟩ dX11_goesOn_12 (fun hC => ?_)
    refine v_goto (tgt := 28) C dX11_goesOn_15 (by decide) ?_
    cases hf
    exact kr _ _ dX11_goesOn_28 hC
theorem sX11_goesOn {l : Launch} {sh : Sh} {G : Hp} {l0 : Nat} {z : Hp} (h_l0 : sh[l0]? = some (0, 11)) (hf : fX11_goesOn sh G l0 = some z) : MC l yX11_goesOn cX11_goesOn 1 none 2 0 0 sh sh G z (fun ad => [.ref (ad l0)]) (fun _ => none) := by
  refine MC_of rfl rfl (fun _ => Nat.le_of_ble_eq_true rfl) (fun E ad C hl hnm hC hQ => ?_)
  exact tX11_goesOn C hC h_l0 hf (fun pc lv hd hC => v_vret C hQ (fun _ _ => rfl) hC rfl hd)
def fX11_roomFor (sh : Sh) (G : Hp) (l0 : Nat) (l1 : Int32) (l2 : Int32) : Option (Hp) := if l1 = l2 then (fX11_fail sh G l0 2).bind fun G6 => if (G6.1 l0 13) = 0 then (fX11_goesOn sh G6 l0).bind fun G9 => some G9 else some G6 else if (G.1 l0 13) = 0 then (fX11_goesOn sh G l0).bind fun G4 => some G4 else some G
set_option maxHeartbeats 4000000 in
theorem tX11_roomFor {E : EX} {ad : Nat → Nat} {sh : Sh} {G : Hp} {l0 : Nat} {l1 : Int32} {l2 : Int32} {z : Hp} (C : Cx E RX11 cX11_roomFor 3 none 3 0 0) (hC : Cl sh G) (h_l0 : sh[l0]? = some (0, 11)) (hf : fX11_roomFor sh G l0 l1 l2 = some z) (kr : RCv E cX11_roomFor ad sh z) : VV E 0 0 (wq (xT E) ad G sh) 0 [(0, .ref (ad l0)), (1, .int l1), (2, .int l2)] [] := by
  unfold fX11_roomFor at hf
  refine v_iload_n C 1 dX11_roomFor_0 rfl rfl ?_
  refine v_iload_n C 2 dX11_roomFor_1 rfl rfl ?_
  refine v_icmp_ne (tgt := 10) C dX11_roomFor_2 (by decide) (fun c1 => ?_) (fun c1 => ?_)
  · have hf := im hf c1
    refine v_aload_n C 0 dX11_roomFor_10 rfl rfl ?_
    refine v_getI C h_l0 fl_X11_227 dX11_roomFor_11 ?_
    refine v_if_ne (tgt := 21) C dX11_roomFor_14 (by decide) (fun c2 => ?_) (fun c2 => ?_)
    · have hf := im hf c2
      cases hf
      exact kr _ _ dX11_roomFor_21 hC
    · have hf := ip hf c2
      refine v_aload_n C 0 dX11_roomFor_17 rfl rfl ?_
      obtain ⟨G4, qr3, hf⟩ := bn hf
      refine v_callVv (As := []) (rest := []) C (sX11_goesOn h_l0 qr3) cs_X11_248 (by decide) h_l0 rfl hC rfl rfl rfl (Nat.le_of_ble_eq_true rfl) ⟨Nat.le_refl _, Nat.le_refl _⟩ dX11_roomFor_18 (fun hC => ?_)
      cases hf
      exact kr _ _ dX11_roomFor_21 hC
  · have hf := ip hf c1
    refine v_aload_n C 0 dX11_roomFor_5 rfl rfl ?_
    refine v_iconst (v := 2) C dX11_roomFor_6 (by decide) ?_
    obtain ⟨G6, qr5, hf⟩ := bn hf
    refine v_callVv (As := [.int 2]) (rest := []) C (sX11_fail h_l0 qr5) cs_X11_242 (by decide) h_l0 rfl hC rfl rfl rfl (Nat.le_of_ble_eq_true rfl) ⟨Nat.le_refl _, Nat.le_refl _⟩ dX11_roomFor_7 (fun hC => ?_)
    refine v_aload_n C 0 dX11_roomFor_10 rfl rfl ?_
    refine v_getI C h_l0 fl_X11_227 dX11_roomFor_11 ?_
    refine v_if_ne (tgt := 21) C dX11_roomFor_14 (by decide) (fun c7 => ?_) (fun c7 => ?_)
    · have hf := im hf c7
      cases hf
      exact kr _ _ dX11_roomFor_21 hC
    · have hf := ip hf c7
      refine v_aload_n C 0 dX11_roomFor_17 rfl rfl ?_
      obtain ⟨G9, qr8, hf⟩ := bn hf
      refine v_callVv (As := []) (rest := []) C (sX11_goesOn h_l0 qr8) cs_X11_248 (by decide) h_l0 rfl hC rfl rfl rfl (Nat.le_of_ble_eq_true rfl) ⟨Nat.le_refl _, Nat.le_refl _⟩ dX11_roomFor_18 (fun hC => ?_)
      cases hf
      exact kr _ _ dX11_roomFor_21 hC
theorem sX11_roomFor {l : Launch} {sh : Sh} {G : Hp} {l0 : Nat} {l1 : Int32} {l2 : Int32} {z : Hp} (h_l0 : sh[l0]? = some (0, 11)) (hf : fX11_roomFor sh G l0 l1 l2 = some z) : MC l yX11_roomFor cX11_roomFor 3 none 3 0 0 sh sh G z (fun ad => [.ref (ad l0), .int l1, .int l2]) (fun _ => none) := by
  refine MC_of rfl rfl (fun _ => Nat.le_of_ble_eq_true rfl) (fun E ad C hl hnm hC hQ => ?_)
  exact tX11_roomFor C hC h_l0 hf (fun pc lv hd hC => v_vret C hQ (fun _ _ => rfl) hC rfl hd)
def fX11_must (sh : Sh) (G : Hp) (l0 : Nat) (l1 : Int32) : Option (Hp) := (fX11_is sh G l0 l1).bind fun r1 => if r1 = 0 then (fX11_fail sh G l0 1).bind fun G4 => some G4 else (fX11_goesOn sh G l0).bind fun G6 => some G6
set_option maxHeartbeats 4000000 in
theorem tX11_must {E : EX} {ad : Nat → Nat} {sh : Sh} {G : Hp} {l0 : Nat} {l1 : Int32} {z : Hp} (C : Cx E RX11 cX11_must 2 none 3 0 0) (hC : Cl sh G) (h_l0 : sh[l0]? = some (0, 11)) (hf : fX11_must sh G l0 l1 = some z) (kr : RCv E cX11_must ad sh z) : VV E 0 0 (wq (xT E) ad G sh) 0 [(0, .ref (ad l0)), (1, .int l1)] [] := by
  unfold fX11_must at hf
  refine v_aload_n C 0 dX11_must_0 rfl rfl ?_
  refine v_iload_n C 1 dX11_must_1 rfl rfl ?_
  obtain ⟨r1, qr1, hf⟩ := bn hf
  refine v_callVi (As := [.int l1]) (rest := []) C (sX11_is h_l0 qr1) cs_X11_245 (by decide) h_l0 rfl hC rfl rfl rfl (Nat.le_of_ble_eq_true rfl) ⟨Nat.le_refl _, Nat.le_refl _⟩ dX11_must_2 (fun hC => ?_)
  refine v_if_eq (tgt := 15) C dX11_must_5 (by decide) (fun c2 => ?_) (fun c2 => ?_)
  · have hf := ip hf c2
    refine v_aload_n C 0 dX11_must_15 rfl rfl ?_
    refine v_iconst (v := 1) C dX11_must_16 (by decide) ?_
    obtain ⟨G4, qr3, hf⟩ := bn hf
    refine v_callVv (As := [.int 1]) (rest := []) C (sX11_fail h_l0 qr3) cs_X11_242 (by decide) h_l0 rfl hC rfl rfl rfl (Nat.le_of_ble_eq_true rfl) ⟨Nat.le_refl _, Nat.le_refl _⟩ dX11_must_17 (fun hC => ?_)
    cases hf
    exact kr _ _ dX11_must_20 hC
  · have hf := im hf c2
    refine v_aload_n C 0 dX11_must_8 rfl rfl ?_
    obtain ⟨G6, qr5, hf⟩ := bn hf
    refine v_callVv (As := []) (rest := []) C (sX11_goesOn h_l0 qr5) cs_X11_248 (by decide) h_l0 rfl hC rfl rfl rfl (Nat.le_of_ble_eq_true rfl) ⟨Nat.le_refl _, Nat.le_refl _⟩ dX11_must_9 (fun hC => ?_)
    refine v_goto (tgt := 20) C dX11_must_12 (by decide) ?_
    cases hf
    exact kr _ _ dX11_must_20 hC
theorem sX11_must {l : Launch} {sh : Sh} {G : Hp} {l0 : Nat} {l1 : Int32} {z : Hp} (h_l0 : sh[l0]? = some (0, 11)) (hf : fX11_must sh G l0 l1 = some z) : MC l yX11_must cX11_must 2 none 3 0 0 sh sh G z (fun ad => [.ref (ad l0), .int l1]) (fun _ => none) := by
  refine MC_of rfl rfl (fun _ => Nat.le_of_ble_eq_true rfl) (fun E ad C hl hnm hC hQ => ?_)
  exact tX11_must C hC h_l0 hf (fun pc lv hd hC => v_vret C hQ (fun _ _ => rfl) hC rfl hd)
def fX11_wrong (sh : Sh) (G : Hp) (l0 : Nat) (l1 : Int32) (l2 : Int32) : Option (Hp) := (ldA sh G l0 6 1).bind fun a1 => (aI sh G a1 l2).bind fun v2 => if 0 < (G.1 l0 13) then some G else if (G.1 l0 15) = 0 then bd (sI G l0 15 l1) fun G5 => bd (sI G5 l0 16 v2) fun G6 => some G6 else if (G.1 l0 16) < v2 then some G else if v2 = (G.1 l0 16) then if l1 < (G.1 l0 15) then bd (sI G l0 15 l1) fun G12 => bd (sI G12 l0 16 v2) fun G13 => some G13 else some G else bd (sI G l0 15 l1) fun G9 => bd (sI G9 l0 16 v2) fun G10 => some G10
set_option maxHeartbeats 4000000 in
theorem tX11_wrong {E : EX} {ad : Nat → Nat} {sh : Sh} {G : Hp} {l0 : Nat} {l1 : Int32} {l2 : Int32} {z : Hp} (C : Cx E RX11 cX11_wrong 4 none 1 0 0) (hC : Cl sh G) (h_l0 : sh[l0]? = some (0, 11)) (hf : fX11_wrong sh G l0 l1 l2 = some z) (kr : RCv E cX11_wrong ad sh z) : VV E 0 0 (wq (xT E) ad G sh) 0 [(0, .ref (ad l0)), (1, .int l1), (2, .int l2)] [] := by
  unfold fX11_wrong at hf
  refine v_aload_n C 0 dX11_wrong_0 rfl rfl ?_
  obtain ⟨a1, qa1, hf⟩ := bn hf
  refine v_getA C h_l0 fl_X11_24 qa1 dX11_wrong_1 (fun h_a1 => ?_)
  refine v_iload_n C 2 dX11_wrong_4 rfl rfl ?_
  obtain ⟨v2, qv2, hf⟩ := bn hf
  refine v_iald C h_a1 qv2 dX11_wrong_5 ?_
  refine v_istore_n (lv2 := [(3, .int v2), (0, .ref (ad l0)), (1, .int l1), (2, .int l2)]) C dX11_wrong_6 rfl (by decide) rfl ?_
  refine v_aload_n C 1 dX11_wrong_7 rfl rfl ?_
  refine v_getI C h_l0 fl_X11_227 dX11_wrong_8 ?_
  refine v_if_gt (tgt := 45) C dX11_wrong_11 (by decide) (fun c3 => ?_) (fun c3 => ?_)
  · have hf := ip hf c3
    cases hf
    exact kr _ _ dX11_wrong_45 hC
  · have hf := im hf c3
    refine v_aload_n C 1 dX11_wrong_14 rfl rfl ?_
    refine v_getI C h_l0 fl_X11_236 dX11_wrong_15 ?_
    refine v_if_eq (tgt := 46) C dX11_wrong_18 (by decide) (fun c4 => ?_) (fun c4 => ?_)
    · have hf := ip hf c4
      refine v_aload_n C 1 dX11_wrong_46 rfl rfl ?_
      refine v_iload_n C 2 dX11_wrong_47 rfl rfl ?_
      refine v_putI C h_l0 fp_X11_236 dX11_wrong_48 (fun G5 eG5 => ?_)
      have hf := bd_at hf eG5
      have hC : Cl sh G5 := by rw [eG5]; exact hC
      refine v_aload_n C 1 dX11_wrong_51 rfl rfl ?_
      refine v_iload_n C 0 dX11_wrong_52 rfl rfl ?_
      refine v_putI C h_l0 fp_X11_239 dX11_wrong_53 (fun G6 eG6 => ?_)
      have hf := bd_at hf eG6
      have hC : Cl sh G6 := by rw [eG6]; exact hC
      cases hf
      exact kr _ _ dX11_wrong_56 hC
    · have hf := im hf c4
      refine v_iload_n C 0 dX11_wrong_21 rfl rfl ?_
      refine v_aload_n C 1 dX11_wrong_22 rfl rfl ?_
      refine v_getI C h_l0 fl_X11_239 dX11_wrong_23 ?_
      refine v_icmp_gt (tgt := 45) C dX11_wrong_26 (by decide) (fun c7 => ?_) (fun c7 => ?_)
      · have hf := ip hf c7
        cases hf
        exact kr _ _ dX11_wrong_45 hC
      · have hf := im hf c7
        refine v_iload_n C 0 dX11_wrong_29 rfl rfl ?_
        refine v_aload_n C 1 dX11_wrong_30 rfl rfl ?_
        refine v_getI C h_l0 fl_X11_239 dX11_wrong_31 ?_
        refine v_icmp_ne (tgt := 46) C dX11_wrong_34 (by decide) (fun c8 => ?_) (fun c8 => ?_)
        · have hf := im hf c8
          refine v_aload_n C 1 dX11_wrong_46 rfl rfl ?_
          refine v_iload_n C 2 dX11_wrong_47 rfl rfl ?_
          refine v_putI C h_l0 fp_X11_236 dX11_wrong_48 (fun G9 eG9 => ?_)
          have hf := bd_at hf eG9
          have hC : Cl sh G9 := by rw [eG9]; exact hC
          refine v_aload_n C 1 dX11_wrong_51 rfl rfl ?_
          refine v_iload_n C 0 dX11_wrong_52 rfl rfl ?_
          refine v_putI C h_l0 fp_X11_239 dX11_wrong_53 (fun G10 eG10 => ?_)
          have hf := bd_at hf eG10
          have hC : Cl sh G10 := by rw [eG10]; exact hC
          cases hf
          exact kr _ _ dX11_wrong_56 hC
        · have hf := ip hf c8
          refine v_iload_n C 2 dX11_wrong_37 rfl rfl ?_
          refine v_aload_n C 1 dX11_wrong_38 rfl rfl ?_
          refine v_getI C h_l0 fl_X11_236 dX11_wrong_39 ?_
          refine v_icmp_lt (tgt := 46) C dX11_wrong_42 (by decide) (fun c11 => ?_) (fun c11 => ?_)
          · have hf := ip hf c11
            refine v_aload_n C 1 dX11_wrong_46 rfl rfl ?_
            refine v_iload_n C 2 dX11_wrong_47 rfl rfl ?_
            refine v_putI C h_l0 fp_X11_236 dX11_wrong_48 (fun G12 eG12 => ?_)
            have hf := bd_at hf eG12
            have hC : Cl sh G12 := by rw [eG12]; exact hC
            refine v_aload_n C 1 dX11_wrong_51 rfl rfl ?_
            refine v_iload_n C 0 dX11_wrong_52 rfl rfl ?_
            refine v_putI C h_l0 fp_X11_239 dX11_wrong_53 (fun G13 eG13 => ?_)
            have hf := bd_at hf eG13
            have hC : Cl sh G13 := by rw [eG13]; exact hC
            cases hf
            exact kr _ _ dX11_wrong_56 hC
          · have hf := im hf c11
            cases hf
            exact kr _ _ dX11_wrong_45 hC
theorem sX11_wrong {l : Launch} {sh : Sh} {G : Hp} {l0 : Nat} {l1 : Int32} {l2 : Int32} {z : Hp} (h_l0 : sh[l0]? = some (0, 11)) (hf : fX11_wrong sh G l0 l1 l2 = some z) : MC l yX11_wrong cX11_wrong 4 none 1 0 0 sh sh G z (fun ad => [.ref (ad l0), .int l1, .int l2]) (fun _ => none) := by
  refine MC_of rfl rfl (fun _ => Nat.le_of_ble_eq_true rfl) (fun E ad C hl hnm hC hQ => ?_)
  exact tX11_wrong C hC h_l0 hf (fun pc lv hd hC => v_vret C hQ (fun _ _ => rfl) hC rfl hd)
def fX11_named_S12 (sh : Sh) (l0 : Nat) (l1 : Int32) (G : Hp) (l2 : Int32) : Option ((Hp × Int32) ⊕ ((Hp))) := if (G.1 l0 20) ≤ l2 then some (.inr G) else if (G.1 l0 13) = 0 then (ldA sh G l0 21 4).bind fun a3 => (aJ sh G a3 l2).bind fun v4 => (ldA sh G l0 8 4).bind fun a5 => (aJ sh G a5 l1).bind fun v6 => if (lg_cmp v4 v6) = 0 then (fX11_wrong sh G l0 3 l1).bind fun G10 => bd ((l2 + 1) : Int32) fun x11 => some (.inl (G10, x11)) else bd ((l2 + 1) : Int32) fun x8 => some (.inl (G, x8)) else some (.inr G)
set_option maxHeartbeats 4000000 in
theorem tX11_named_S12 {E : EX} {ad : Nat → Nat} {sh : Sh} {G : Hp} {l0 : Nat} {l1 : Int32} {l2 : Int32} {o : (Hp × Int32) ⊕ ((Hp))} (C : Cx E RX11 cX11_named 3 (some .int) 4 0 0) (hC : Cl sh G) (h_l0 : sh[l0]? = some (0, 11)) (hf : fX11_named_S12 sh l0 l1 G l2 = some o) (kb : ∀ (G2 : Hp) (b_l2 : Int32), o = .inl (G2, b_l2) → Cl sh G2 → VV E 0 0 (wq (xT E) ad G2 sh) 12 [(0, .ref (ad l0)), (1, .int l1), (2, .int b_l2)] []) (kx55 : ∀ (G2 : Hp), o = .inr G2 → Cl sh G2 → VV E 0 0 (wq (xT E) ad G2 sh) 55 [(0, .ref (ad l0)), (1, .int l1)] []) : VV E 0 0 (wq (xT E) ad G sh) 12 [(0, .ref (ad l0)), (1, .int l1), (2, .int l2)] [] := by
  unfold fX11_named_S12 at hf
  refine v_iload_n C 2 dX11_named_12 rfl rfl ?_
  refine v_aload_n C 0 dX11_named_13 rfl rfl ?_
  refine v_getI C h_l0 fl_X11_263 dX11_named_14 ?_
  refine v_icmp_ge (tgt := 55) C dX11_named_17 (by decide) (fun c1 => ?_) (fun c1 => ?_)
  · have hf := ip hf c1
    cases hf
    refine v_sub [0, 1] rfl ?_
    exact kx55 _ rfl hC
  · have hf := im hf c1
    refine v_aload_n C 0 dX11_named_20 rfl rfl ?_
    refine v_getI C h_l0 fl_X11_227 dX11_named_21 ?_
    refine v_if_ne (tgt := 55) C dX11_named_24 (by decide) (fun c2 => ?_) (fun c2 => ?_)
    · have hf := im hf c2
      cases hf
      refine v_sub [0, 1] rfl ?_
      exact kx55 _ rfl hC
    · have hf := ip hf c2
      refine v_aload_n C 0 dX11_named_27 rfl rfl ?_
      obtain ⟨a3, qa3, hf⟩ := bn hf
      refine v_getA C h_l0 fl_X11_40 qa3 dX11_named_28 (fun h_a3 => ?_)
      refine v_iload_n C 2 dX11_named_31 rfl rfl ?_
      obtain ⟨v4, qv4, hf⟩ := bn hf
      refine v_lald C h_a3 qv4 dX11_named_32 ?_
      refine v_aload_n C 0 dX11_named_33 rfl rfl ?_
      obtain ⟨a5, qa5, hf⟩ := bn hf
      refine v_getA C h_l0 fl_X11_30 qa5 dX11_named_34 (fun h_a5 => ?_)
      refine v_iload_n C 1 dX11_named_37 rfl rfl ?_
      obtain ⟨v6, qv6, hf⟩ := bn hf
      refine v_lald C h_a5 qv6 dX11_named_38 ?_
      refine v_lcmp C dX11_named_39 ?_
      refine v_if_ne (tgt := 49) C dX11_named_40 (by decide) (fun c7 => ?_) (fun c7 => ?_)
      · have hf := im hf c7
        obtain ⟨x8, ex8⟩ : ∃ x : Int32, x = (l2 + 1) := ⟨_, rfl⟩
        have hf := bd_at hf ex8
        refine v_iinc (v := x8) (j := 2) (lv2 := [(2, .int x8), (0, .ref (ad l0)), (1, .int l1)]) C dX11_named_49 rfl (by rw [ex8]; rfl) (by decide) rfl ?_
        refine v_goto (tgt := 12) C dX11_named_52 (by decide) ?_
        cases hf
        refine v_sub [1, 2, 0] rfl ?_
        exact kb _ _ rfl hC
      · have hf := ip hf c7
        refine v_aload_n C 0 dX11_named_43 rfl rfl ?_
        refine v_iconst (v := 3) C dX11_named_44 (by decide) ?_
        refine v_iload_n C 1 dX11_named_45 rfl rfl ?_
        obtain ⟨G10, qr9, hf⟩ := bn hf
        refine v_callVv (As := [.int 3, .int l1]) (rest := []) C (sX11_wrong h_l0 qr9) cs_X11_314 (by decide) h_l0 rfl hC rfl rfl rfl (Nat.le_of_ble_eq_true rfl) ⟨Nat.le_refl _, Nat.le_refl _⟩ dX11_named_46 (fun hC => ?_)
        obtain ⟨x11, ex11⟩ : ∃ x : Int32, x = (l2 + 1) := ⟨_, rfl⟩
        have hf := bd_at hf ex11
        refine v_iinc (v := x11) (j := 2) (lv2 := [(2, .int x11), (0, .ref (ad l0)), (1, .int l1)]) C dX11_named_49 rfl (by rw [ex11]; rfl) (by decide) rfl ?_
        refine v_goto (tgt := 12) C dX11_named_52 (by decide) ?_
        cases hf
        refine v_sub [1, 2, 0] rfl ?_
        exact kb _ _ rfl hC
def fX11_named (sh : Sh) (G : Hp) (l0 : Nat) : Option (Int32 × Hp) := bd ((G.1 l0 11) : Int32) fun x1 => (fX11_must sh G l0 1).bind fun G3 => (iter (fun s : Hp × Int32 => fX11_named_S12 sh l0 x1 s.1 s.2) fuel ((G3, 0) : Hp × Int32)).bind (fun u6 => bd u6 fun G5 => some (x1, G5))
set_option maxHeartbeats 4000000 in
theorem tX11_named {E : EX} {ad : Nat → Nat} {sh : Sh} {G : Hp} {l0 : Nat} {z : Int32 × Hp} (C : Cx E RX11 cX11_named 3 (some .int) 4 0 0) (hC : Cl sh G) (h_l0 : sh[l0]? = some (0, 11)) (hf : fX11_named sh G l0 = some z) (kr : RCi E cX11_named ad sh (z.1) (z.2)) : VV E 0 0 (wq (xT E) ad G sh) 0 [(0, .ref (ad l0))] [] := by
  unfold fX11_named at hf
  refine v_aload_n C 0 dX11_named_0 rfl rfl ?_
  refine v_getI C h_l0 fl_X11_230 dX11_named_1 ?_
  refine v_topi (fun x1 ex1 => ?_)
  have hf := bd_at hf ex1
  refine v_istore_n (lv2 := [(1, .int x1), (0, .ref (ad l0))]) C dX11_named_4 rfl (by decide) rfl ?_
  refine v_aload_n C 1 dX11_named_5 rfl rfl ?_
  refine v_iconst (v := 1) C dX11_named_6 (by decide) ?_
  obtain ⟨G3, qr2, hf⟩ := bn hf
  refine v_callVv (As := [.int 1]) (rest := []) C (sX11_must h_l0 qr2) cs_X11_308 (by decide) h_l0 rfl hC rfl rfl rfl (Nat.le_of_ble_eq_true rfl) ⟨Nat.le_refl _, Nat.le_refl _⟩ dX11_named_7 (fun hC => ?_)
  refine v_iconst (v := 0) C dX11_named_10 (by decide) ?_
  refine v_istore_n (lv2 := [(2, .int 0), (1, .int x1), (0, .ref (ad l0))]) C dX11_named_11 rfl (by decide) rfl ?_
  obtain ⟨r4, qr4, hf⟩ := bn hf
  refine v_sub [2, 1, 0] rfl ?_
  refine iter_sound (P := (fun s : Hp × Int32 => Cl sh (s.1) → VV E 0 0 (wq (xT E) ad (s.1) sh) 12 [(0, .ref (ad l0)), (1, .int (x1)), (2, .int (s.2))] [])) (X := fun r => r = r4) (fun jsr4 jor4 hor4 jbr4 jxr4 hC => tX11_named_S12 C hC h_l0 hor4 (fun _ _ e => jbr4 _ e) ?_) fuel _ r4 qr4 rfl hC
  · intro G5 hu hC
    have e := jxr4 _ hu
    subst e
    have hf := bd_at hf (rfl : G5 = _)
    refine v_iload_n C 1 dX11_named_55 rfl rfl ?_
    cases hf
    exact kr _ _ dX11_named_56 hC
theorem sX11_named {l : Launch} {sh : Sh} {G : Hp} {l0 : Nat} {z : Int32 × Hp} (h_l0 : sh[l0]? = some (0, 11)) (hf : fX11_named sh G l0 = some z) : MC l yX11_named cX11_named 3 (some .int) 4 0 0 sh sh G (z.2) (fun ad => [.ref (ad l0)]) (fun _ => some (.int z.1)) := by
  refine MC_of rfl rfl (fun _ => Nat.le_of_ble_eq_true rfl) (fun E ad C hl hnm hC hQ => ?_)
  exact tX11_named C hC h_l0 hf (fun pc lv hd hC => v_iret C hQ (fun _ _ => rfl) hC rfl hd)
def fX11_ends (sh : Sh) (G : Hp) (l0 : Nat) (l1 : Int32) (l2 : Int32) : Option (Hp) := (fX11_must sh G l0 4).bind fun G2 => if (G2.1 l0 13) ≤ 0 then (ldA sh G2 l0 21 4).bind fun a4 => (ldA sh G2 l0 8 4).bind fun a5 => (aJ sh G2 a5 l1).bind fun v6 => (asJ sh G2 a4 (G2.1 l0 20) v6).bind fun G7 => (ldA sh G7 l0 22 1).bind fun a8 => (asI sh G7 a8 (G7.1 l0 20) l2).bind fun G9 => bd (sI G9 l0 20 ((G9.1 l0 20) + 1)) fun G10 => some G10 else some G2
set_option maxHeartbeats 4000000 in
theorem tX11_ends {E : EX} {ad : Nat → Nat} {sh : Sh} {G : Hp} {l0 : Nat} {l1 : Int32} {l2 : Int32} {z : Hp} (C : Cx E RX11 cX11_ends 3 none 4 0 0) (hC : Cl sh G) (h_l0 : sh[l0]? = some (0, 11)) (hf : fX11_ends sh G l0 l1 l2 = some z) (kr : RCv E cX11_ends ad sh z) : VV E 0 0 (wq (xT E) ad G sh) 0 [(0, .ref (ad l0)), (1, .int l1), (2, .int l2)] [] := by
  unfold fX11_ends at hf
  refine v_aload_n C 0 dX11_ends_0 rfl rfl ?_
  refine v_iconst (v := 4) C dX11_ends_1 (by decide) ?_
  obtain ⟨G2, qr1, hf⟩ := bn hf
  refine v_callVv (As := [.int 4]) (rest := []) C (sX11_must h_l0 qr1) cs_X11_308 (by decide) h_l0 rfl hC rfl rfl rfl (Nat.le_of_ble_eq_true rfl) ⟨Nat.le_refl _, Nat.le_refl _⟩ dX11_ends_2 (fun hC => ?_)
  refine v_aload_n C 0 dX11_ends_5 rfl rfl ?_
  refine v_getI C h_l0 fl_X11_227 dX11_ends_6 ?_
  refine v_if_le (tgt := 13) C dX11_ends_9 (by decide) (fun c3 => ?_) (fun c3 => ?_)
  · have hf := ip hf c3
    refine v_aload_n C 0 dX11_ends_13 rfl rfl ?_
    obtain ⟨a4, qa4, hf⟩ := bn hf
    refine v_getA C h_l0 fl_X11_40 qa4 dX11_ends_14 (fun h_a4 => ?_)
    refine v_aload_n C 0 dX11_ends_17 rfl rfl ?_
    refine v_getI C h_l0 fl_X11_263 dX11_ends_18 ?_
    refine v_aload_n C 0 dX11_ends_21 rfl rfl ?_
    obtain ⟨a5, qa5, hf⟩ := bn hf
    refine v_getA C h_l0 fl_X11_30 qa5 dX11_ends_22 (fun h_a5 => ?_)
    refine v_iload_n C 1 dX11_ends_25 rfl rfl ?_
    obtain ⟨v6, qv6, hf⟩ := bn hf
    refine v_lald C h_a5 qv6 dX11_ends_26 ?_
    obtain ⟨G7, qG7, hf⟩ := bn hf
    refine v_last C h_a4 qG7 hC dX11_ends_27 (fun hC => ?_)
    refine v_aload_n C 0 dX11_ends_28 rfl rfl ?_
    obtain ⟨a8, qa8, hf⟩ := bn hf
    refine v_getA C h_l0 fl_X11_43 qa8 dX11_ends_29 (fun h_a8 => ?_)
    refine v_aload_n C 0 dX11_ends_32 rfl rfl ?_
    refine v_getI C h_l0 fl_X11_263 dX11_ends_33 ?_
    refine v_iload_n C 2 dX11_ends_36 rfl rfl ?_
    obtain ⟨G9, qG9, hf⟩ := bn hf
    refine v_iast C h_a8 qG9 hC dX11_ends_37 (fun hC => ?_)
    refine v_aload_n C 0 dX11_ends_38 rfl rfl ?_
    refine v_dup C dX11_ends_39 rfl ?_
    refine v_getI C h_l0 fl_X11_263 dX11_ends_40 ?_
    refine v_iconst (v := 1) C dX11_ends_43 (by decide) ?_
    refine v_iadd C dX11_ends_44 ?_
    refine v_putI C h_l0 fp_X11_263 dX11_ends_45 (fun G10 eG10 => ?_)
    have hf := bd_at hf eG10
    have hC : Cl sh G10 := by rw [eG10]; exact hC
    cases hf
    exact kr _ _ dX11_ends_48 hC
  · have hf := im hf c3
    cases hf
    exact kr _ _ dX11_ends_12 hC
theorem sX11_ends {l : Launch} {sh : Sh} {G : Hp} {l0 : Nat} {l1 : Int32} {l2 : Int32} {z : Hp} (h_l0 : sh[l0]? = some (0, 11)) (hf : fX11_ends sh G l0 l1 l2 = some z) : MC l yX11_ends cX11_ends 3 none 4 0 0 sh sh G z (fun ad => [.ref (ad l0), .int l1, .int l2]) (fun _ => none) := by
  refine MC_of rfl rfl (fun _ => Nat.le_of_ble_eq_true rfl) (fun E ad C hl hnm hC hQ => ?_)
  exact tX11_ends C hC h_l0 hf (fun pc lv hd hC => v_vret C hQ (fun _ _ => rfl) hC rfl hd)
def fX11_bounded (sh : Sh) (G : Hp) (l0 : Nat) (l1 : Int32) (l2 : Int32) : Option (Int32 × Hp) := if 0 < (G.1 l0 13) then (fX11_fail sh G l0 1).bind fun G3 => some (l1, G3) else (fX11_is sh G l0 2).bind fun r4 => if r4 = 0 then (fX11_fail sh G l0 1).bind fun G21 => some (l1, G21) else (ldA sh G l0 7 1).bind fun a6 => (aI sh G a6 (G.1 l0 11)).bind fun v7 => if v7 < l1 then (fX11_wrong sh G l0 5 (G.1 l0 11)).bind fun G10 => (fX11_goesOn sh G10 l0).bind fun G12 => some (v7, G12) else if v7 ≤ l2 then (fX11_goesOn sh G l0).bind fun G15 => some (v7, G15) else (fX11_wrong sh G l0 5 (G.1 l0 11)).bind fun G17 => (fX11_goesOn sh G17 l0).bind fun G19 => some (v7, G19)
set_option maxHeartbeats 4000000 in
theorem tX11_bounded {E : EX} {ad : Nat → Nat} {sh : Sh} {G : Hp} {l0 : Nat} {l1 : Int32} {l2 : Int32} {z : Int32 × Hp} (C : Cx E RX11 cX11_bounded 4 (some .int) 3 0 0) (hC : Cl sh G) (h_l0 : sh[l0]? = some (0, 11)) (hf : fX11_bounded sh G l0 l1 l2 = some z) (kr : RCi E cX11_bounded ad sh (z.1) (z.2)) : VV E 0 0 (wq (xT E) ad G sh) 0 [(0, .ref (ad l0)), (1, .int l1), (2, .int l2)] [] := by
  unfold fX11_bounded at hf
  refine v_aload_n C 0 dX11_bounded_0 rfl rfl ?_
  refine v_getI C h_l0 fl_X11_227 dX11_bounded_1 ?_
  refine v_if_gt (tgt := 15) C dX11_bounded_4 (by decide) (fun c1 => ?_) (fun c1 => ?_)
  · have hf := ip hf c1
    refine v_aload_n C 0 dX11_bounded_15 rfl rfl ?_
    refine v_iconst (v := 1) C dX11_bounded_16 (by decide) ?_
    obtain ⟨G3, qr2, hf⟩ := bn hf
    refine v_callVv (As := [.int 1]) (rest := []) C (sX11_fail h_l0 qr2) cs_X11_242 (by decide) h_l0 rfl hC rfl rfl rfl (Nat.le_of_ble_eq_true rfl) ⟨Nat.le_refl _, Nat.le_refl _⟩ dX11_bounded_17 (fun hC => ?_)
    refine v_iload_n C 1 dX11_bounded_20 rfl rfl ?_
    cases hf
    exact kr _ _ dX11_bounded_21 hC
  · have hf := im hf c1
    refine v_aload_n C 0 dX11_bounded_7 rfl rfl ?_
    refine v_iconst (v := 2) C dX11_bounded_8 (by decide) ?_
    obtain ⟨r4, qr4, hf⟩ := bn hf
    refine v_callVi (As := [.int 2]) (rest := []) C (sX11_is h_l0 qr4) cs_X11_245 (by decide) h_l0 rfl hC rfl rfl rfl (Nat.le_of_ble_eq_true rfl) ⟨Nat.le_refl _, Nat.le_refl _⟩ dX11_bounded_9 (fun hC => ?_)
    refine v_if_ne (tgt := 22) C dX11_bounded_12 (by decide) (fun c5 => ?_) (fun c5 => ?_)
    · have hf := im hf c5
      refine v_aload_n C 0 dX11_bounded_22 rfl rfl ?_
      obtain ⟨a6, qa6, hf⟩ := bn hf
      refine v_getA C h_l0 fl_X11_27 qa6 dX11_bounded_23 (fun h_a6 => ?_)
      refine v_aload_n C 0 dX11_bounded_26 rfl rfl ?_
      refine v_getI C h_l0 fl_X11_230 dX11_bounded_27 ?_
      obtain ⟨v7, qv7, hf⟩ := bn hf
      refine v_iald C h_a6 qv7 dX11_bounded_30 ?_
      refine v_istore_n (lv2 := [(3, .int v7), (0, .ref (ad l0)), (1, .int l1), (2, .int l2)]) C dX11_bounded_31 rfl (by decide) rfl ?_
      refine v_iload_n C 0 dX11_bounded_32 rfl rfl ?_
      refine v_iload_n C 2 dX11_bounded_33 rfl rfl ?_
      refine v_icmp_lt (tgt := 42) C dX11_bounded_34 (by decide) (fun c8 => ?_) (fun c8 => ?_)
      · have hf := ip hf c8
        refine v_aload_n C 1 dX11_bounded_42 rfl rfl ?_
        refine v_iconst (v := 5) C dX11_bounded_43 (by decide) ?_
        refine v_aload_n C 1 dX11_bounded_44 rfl rfl ?_
        refine v_getI C h_l0 fl_X11_230 dX11_bounded_45 ?_
        obtain ⟨G10, qr9, hf⟩ := bn hf
        refine v_callVv (As := [.int 5, .int (G.1 l0 11)]) (rest := []) C (sX11_wrong h_l0 qr9) cs_X11_314 (by decide) h_l0 rfl hC rfl rfl rfl (Nat.le_of_ble_eq_true rfl) ⟨Nat.le_refl _, Nat.le_refl _⟩ dX11_bounded_48 (fun hC => ?_)
        refine v_aload_n C 1 dX11_bounded_51 rfl rfl ?_
        obtain ⟨G12, qr11, hf⟩ := bn hf
        refine v_callVv (As := []) (rest := []) C (sX11_goesOn h_l0 qr11) cs_X11_248 (by decide) h_l0 rfl hC rfl rfl rfl (Nat.le_of_ble_eq_true rfl) ⟨Nat.le_refl _, Nat.le_refl _⟩ dX11_bounded_52 (fun hC => ?_)
        refine v_iload_n C 0 dX11_bounded_55 rfl rfl ?_
        cases hf
        exact kr _ _ dX11_bounded_56 hC
      · have hf := im hf c8
        refine v_iload_n C 0 dX11_bounded_37 rfl rfl ?_
        refine v_iload_n C 3 dX11_bounded_38 rfl rfl ?_
        refine v_icmp_le (tgt := 51) C dX11_bounded_39 (by decide) (fun c13 => ?_) (fun c13 => ?_)
        · have hf := ip hf c13
          refine v_aload_n C 1 dX11_bounded_51 rfl rfl ?_
          obtain ⟨G15, qr14, hf⟩ := bn hf
          refine v_callVv (As := []) (rest := []) C (sX11_goesOn h_l0 qr14) cs_X11_248 (by decide) h_l0 rfl hC rfl rfl rfl (Nat.le_of_ble_eq_true rfl) ⟨Nat.le_refl _, Nat.le_refl _⟩ dX11_bounded_52 (fun hC => ?_)
          refine v_iload_n C 0 dX11_bounded_55 rfl rfl ?_
          cases hf
          exact kr _ _ dX11_bounded_56 hC
        · have hf := im hf c13
          refine v_aload_n C 1 dX11_bounded_42 rfl rfl ?_
          refine v_iconst (v := 5) C dX11_bounded_43 (by decide) ?_
          refine v_aload_n C 1 dX11_bounded_44 rfl rfl ?_
          refine v_getI C h_l0 fl_X11_230 dX11_bounded_45 ?_
          obtain ⟨G17, qr16, hf⟩ := bn hf
          refine v_callVv (As := [.int 5, .int (G.1 l0 11)]) (rest := []) C (sX11_wrong h_l0 qr16) cs_X11_314 (by decide) h_l0 rfl hC rfl rfl rfl (Nat.le_of_ble_eq_true rfl) ⟨Nat.le_refl _, Nat.le_refl _⟩ dX11_bounded_48 (fun hC => ?_)
          refine v_aload_n C 1 dX11_bounded_51 rfl rfl ?_
          obtain ⟨G19, qr18, hf⟩ := bn hf
          refine v_callVv (As := []) (rest := []) C (sX11_goesOn h_l0 qr18) cs_X11_248 (by decide) h_l0 rfl hC rfl rfl rfl (Nat.le_of_ble_eq_true rfl) ⟨Nat.le_refl _, Nat.le_refl _⟩ dX11_bounded_52 (fun hC => ?_)
          refine v_iload_n C 0 dX11_bounded_55 rfl rfl ?_
          cases hf
          exact kr _ _ dX11_bounded_56 hC
    · have hf := ip hf c5
      refine v_aload_n C 0 dX11_bounded_15 rfl rfl ?_
      refine v_iconst (v := 1) C dX11_bounded_16 (by decide) ?_
      obtain ⟨G21, qr20, hf⟩ := bn hf
      refine v_callVv (As := [.int 1]) (rest := []) C (sX11_fail h_l0 qr20) cs_X11_242 (by decide) h_l0 rfl hC rfl rfl rfl (Nat.le_of_ble_eq_true rfl) ⟨Nat.le_refl _, Nat.le_refl _⟩ dX11_bounded_17 (fun hC => ?_)
      refine v_iload_n C 1 dX11_bounded_20 rfl rfl ?_
      cases hf
      exact kr _ _ dX11_bounded_21 hC
theorem sX11_bounded {l : Launch} {sh : Sh} {G : Hp} {l0 : Nat} {l1 : Int32} {l2 : Int32} {z : Int32 × Hp} (h_l0 : sh[l0]? = some (0, 11)) (hf : fX11_bounded sh G l0 l1 l2 = some z) : MC l yX11_bounded cX11_bounded 4 (some .int) 3 0 0 sh sh G (z.2) (fun ad => [.ref (ad l0), .int l1, .int l2]) (fun _ => some (.int z.1)) := by
  refine MC_of rfl rfl (fun _ => Nat.le_of_ble_eq_true rfl) (fun E ad C hl hnm hC hQ => ?_)
  exact tX11_bounded C hC h_l0 hf (fun pc lv hd hC => v_iret C hQ (fun _ _ => rfl) hC rfl hd)
def fX11_knownTrait_S21 (sh : Sh) (l0 : Nat) (l1 : Int32) (G : Hp) (l2 : Int32) : Option ((Int32) ⊕ ((Unit) ⊕ (Int32))) := if (G.1 l0 20) ≤ l2 then some (.inr (.inl ())) else (ldA sh G l0 21 4).bind fun a2 => (aJ sh G a2 l2).bind fun v3 => (ldA sh G l0 8 4).bind fun a4 => (aJ sh G a4 l1).bind fun v5 => if (lg_cmp v3 v5) = 0 then (ldA sh G l0 22 1).bind fun a8 => (aI sh G a8 l2).bind fun v9 => if v9 < 0 then bd ((l2 + 1) : Int32) fun x11 => some (.inl x11) else some (.inr (.inr l2)) else bd ((l2 + 1) : Int32) fun x7 => some (.inl x7)
set_option maxHeartbeats 4000000 in
theorem tX11_knownTrait_S21 {E : EX} {ad : Nat → Nat} {sh : Sh} {G : Hp} {l0 : Nat} {l1 : Int32} {l2 : Int32} {o : (Int32) ⊕ ((Unit) ⊕ (Int32))} (C : Cx E RX11 cX11_knownTrait 3 (some .int) 4 0 0) (hC : Cl sh G) (h_l0 : sh[l0]? = some (0, 11)) (hf : fX11_knownTrait_S21 sh l0 l1 G l2 = some o) (kb : ∀ (b_l2 : Int32), o = .inl b_l2 → VV E 0 0 (wq (xT E) ad G sh) 21 [(0, .ref (ad l0)), (1, .int l1), (2, .int b_l2)] []) (kx69 : o = .inr (.inl ()) → VV E 0 0 (wq (xT E) ad G sh) 69 [(0, .ref (ad l0)), (1, .int l1)] []) (kx54 : ∀ (b_l2 : Int32), o = .inr (.inr b_l2) → VV E 0 0 (wq (xT E) ad G sh) 54 [(0, .ref (ad l0)), (1, .int l1), (2, .int b_l2)] []) : VV E 0 0 (wq (xT E) ad G sh) 21 [(0, .ref (ad l0)), (1, .int l1), (2, .int l2)] [] := by
  unfold fX11_knownTrait_S21 at hf
  refine v_iload_n C 2 dX11_knownTrait_21 rfl rfl ?_
  refine v_aload_n C 0 dX11_knownTrait_22 rfl rfl ?_
  refine v_getI C h_l0 fl_X11_263 dX11_knownTrait_23 ?_
  refine v_icmp_ge (tgt := 69) C dX11_knownTrait_26 (by decide) (fun c1 => ?_) (fun c1 => ?_)
  · have hf := ip hf c1
    cases hf
    refine v_sub [0, 1] rfl ?_
    exact kx69 rfl
  · have hf := im hf c1
    refine v_aload_n C 0 dX11_knownTrait_29 rfl rfl ?_
    obtain ⟨a2, qa2, hf⟩ := bn hf
    refine v_getA C h_l0 fl_X11_40 qa2 dX11_knownTrait_30 (fun h_a2 => ?_)
    refine v_iload_n C 2 dX11_knownTrait_33 rfl rfl ?_
    obtain ⟨v3, qv3, hf⟩ := bn hf
    refine v_lald C h_a2 qv3 dX11_knownTrait_34 ?_
    refine v_aload_n C 0 dX11_knownTrait_35 rfl rfl ?_
    obtain ⟨a4, qa4, hf⟩ := bn hf
    refine v_getA C h_l0 fl_X11_30 qa4 dX11_knownTrait_36 (fun h_a4 => ?_)
    refine v_iload_n C 1 dX11_knownTrait_39 rfl rfl ?_
    obtain ⟨v5, qv5, hf⟩ := bn hf
    refine v_lald C h_a4 qv5 dX11_knownTrait_40 ?_
    refine v_lcmp C dX11_knownTrait_41 ?_
    refine v_if_ne (tgt := 63) C dX11_knownTrait_42 (by decide) (fun c6 => ?_) (fun c6 => ?_)
    · have hf := im hf c6
      obtain ⟨x7, ex7⟩ : ∃ x : Int32, x = (l2 + 1) := ⟨_, rfl⟩
      have hf := bd_at hf ex7
      refine v_iinc (v := x7) (j := 2) (lv2 := [(2, .int x7), (0, .ref (ad l0)), (1, .int l1)]) C dX11_knownTrait_63 rfl (by rw [ex7]; rfl) (by decide) rfl ?_
      refine v_goto (tgt := 21) C dX11_knownTrait_66 (by decide) ?_
      cases hf
      refine v_sub [1, 2, 0] rfl ?_
      exact kb _ rfl
    · have hf := ip hf c6
      refine v_aload_n C 0 dX11_knownTrait_45 rfl rfl ?_
      obtain ⟨a8, qa8, hf⟩ := bn hf
      refine v_getA C h_l0 fl_X11_43 qa8 dX11_knownTrait_46 (fun h_a8 => ?_)
      refine v_iload_n C 2 dX11_knownTrait_49 rfl rfl ?_
      obtain ⟨v9, qv9, hf⟩ := bn hf
      refine v_iald C h_a8 qv9 dX11_knownTrait_50 ?_
      refine v_if_lt (tgt := 63) C dX11_knownTrait_51 (by decide) (fun c10 => ?_) (fun c10 => ?_)
      · have hf := ip hf c10
        obtain ⟨x11, ex11⟩ : ∃ x : Int32, x = (l2 + 1) := ⟨_, rfl⟩
        have hf := bd_at hf ex11
        refine v_iinc (v := x11) (j := 2) (lv2 := [(2, .int x11), (0, .ref (ad l0)), (1, .int l1)]) C dX11_knownTrait_63 rfl (by rw [ex11]; rfl) (by decide) rfl ?_
        refine v_goto (tgt := 21) C dX11_knownTrait_66 (by decide) ?_
        cases hf
        refine v_sub [1, 2, 0] rfl ?_
        exact kb _ rfl
      · have hf := im hf c10
        cases hf
        refine v_sub [0, 1, 2] rfl ?_
        exact kx54 _ rfl
def fX11_knownTrait (sh : Sh) (G : Hp) (l0 : Nat) : Option (Int32 × Hp) := bd ((G.1 l0 11) : Int32) fun x1 => (fX11_must sh G l0 1).bind fun G3 => if (G3.1 l0 13) ≤ 0 then (iter (fun s : Int32 => fX11_knownTrait_S21 sh l0 x1 G3 s) fuel (0 : Int32)).bind (Sum.elim (fun _ => (fX11_wrong sh G3 l0 4 x1).bind fun G7 => some (0, G7)) (fun u12 => bd u12 fun x9 => (ldA sh G3 l0 22 1).bind fun a10 => (aI sh G3 a10 x9).bind fun v11 => some (((1 : Int32) <<< (v11 &&& 31)), G3))) else some (0, G3)
set_option maxHeartbeats 4000000 in
theorem tX11_knownTrait {E : EX} {ad : Nat → Nat} {sh : Sh} {G : Hp} {l0 : Nat} {z : Int32 × Hp} (C : Cx E RX11 cX11_knownTrait 3 (some .int) 4 0 0) (hC : Cl sh G) (h_l0 : sh[l0]? = some (0, 11)) (hf : fX11_knownTrait sh G l0 = some z) (kr : RCi E cX11_knownTrait ad sh (z.1) (z.2)) : VV E 0 0 (wq (xT E) ad G sh) 0 [(0, .ref (ad l0))] [] := by
  unfold fX11_knownTrait at hf
  refine v_aload_n C 0 dX11_knownTrait_0 rfl rfl ?_
  refine v_getI C h_l0 fl_X11_230 dX11_knownTrait_1 ?_
  refine v_topi (fun x1 ex1 => ?_)
  have hf := bd_at hf ex1
  refine v_istore_n (lv2 := [(1, .int x1), (0, .ref (ad l0))]) C dX11_knownTrait_4 rfl (by decide) rfl ?_
  refine v_aload_n C 1 dX11_knownTrait_5 rfl rfl ?_
  refine v_iconst (v := 1) C dX11_knownTrait_6 (by decide) ?_
  obtain ⟨G3, qr2, hf⟩ := bn hf
  refine v_callVv (As := [.int 1]) (rest := []) C (sX11_must h_l0 qr2) cs_X11_308 (by decide) h_l0 rfl hC rfl rfl rfl (Nat.le_of_ble_eq_true rfl) ⟨Nat.le_refl _, Nat.le_refl _⟩ dX11_knownTrait_7 (fun hC => ?_)
  refine v_aload_n C 1 dX11_knownTrait_10 rfl rfl ?_
  refine v_getI C h_l0 fl_X11_227 dX11_knownTrait_11 ?_
  refine v_if_le (tgt := 19) C dX11_knownTrait_14 (by decide) (fun c4 => ?_) (fun c4 => ?_)
  · have hf := ip hf c4
    refine v_iconst (v := 0) C dX11_knownTrait_19 (by decide) ?_
    refine v_istore_n (lv2 := [(2, .int 0), (1, .int x1), (0, .ref (ad l0))]) C dX11_knownTrait_20 rfl (by decide) rfl ?_
    obtain ⟨r5, qr5, hf⟩ := bn hf
    refine v_sub [2, 1, 0] rfl ?_
    refine iter_sound (P := (fun s : Int32 => VV E 0 0 (wq (xT E) ad (G3) sh) 21 [(0, .ref (ad l0)), (1, .int (x1)), (2, .int (s))] [])) (X := fun r => r = r5) (fun jsr5 jor5 hor5 jbr5 jxr5 => tX11_knownTrait_S21 C hC h_l0 hor5 (fun _ e => jbr5 _ e) ?_ ?_) fuel _ r5 qr5 rfl
    · intro  hu
      have e := jxr5 _ hu
      subst e
      have hf := sm_l hf
      refine v_aload_n C 0 dX11_knownTrait_69 rfl rfl ?_
      refine v_iconst (v := 4) C dX11_knownTrait_70 (by decide) ?_
      refine v_iload_n C 1 dX11_knownTrait_71 rfl rfl ?_
      obtain ⟨G7, qr6, hf⟩ := bn hf
      refine v_callVv (As := [.int 4, .int x1]) (rest := []) C (sX11_wrong h_l0 qr6) cs_X11_314 (by decide) h_l0 rfl hC rfl rfl rfl (Nat.le_of_ble_eq_true rfl) ⟨Nat.le_refl _, Nat.le_refl _⟩ dX11_knownTrait_72 (fun hC => ?_)
      refine v_iconst (v := 0) C dX11_knownTrait_75 (by decide) ?_
      cases hf
      exact kr _ _ dX11_knownTrait_76 hC
    · intro x9 hu
      have e := jxr5 _ hu
      subst e
      have hf := sm_r hf
      have hf := bd_at hf (rfl : x9 = _)
      refine v_iconst (v := 1) C dX11_knownTrait_54 (by decide) ?_
      refine v_aload_n C 0 dX11_knownTrait_55 rfl rfl ?_
      obtain ⟨a10, qa10, hf⟩ := bn hf
      refine v_getA C h_l0 fl_X11_43 qa10 dX11_knownTrait_56 (fun h_a10 => ?_)
      refine v_iload_n C 2 dX11_knownTrait_59 rfl rfl ?_
      obtain ⟨v11, qv11, hf⟩ := bn hf
      refine v_iald C h_a10 qv11 dX11_knownTrait_60 ?_
      refine v_ishl C dX11_knownTrait_61 ?_
      cases hf
      exact kr _ _ dX11_knownTrait_62 hC
  · have hf := im hf c4
    refine v_iconst (v := 0) C dX11_knownTrait_17 (by decide) ?_
    cases hf
    exact kr _ _ dX11_knownTrait_18 hC
theorem sX11_knownTrait {l : Launch} {sh : Sh} {G : Hp} {l0 : Nat} {z : Int32 × Hp} (h_l0 : sh[l0]? = some (0, 11)) (hf : fX11_knownTrait sh G l0 = some z) : MC l yX11_knownTrait cX11_knownTrait 3 (some .int) 4 0 0 sh sh G (z.2) (fun ad => [.ref (ad l0)]) (fun _ => some (.int z.1)) := by
  refine MC_of rfl rfl (fun _ => Nat.le_of_ble_eq_true rfl) (fun E ad C hl hnm hC hQ => ?_)
  exact tX11_knownTrait C hC h_l0 hf (fun pc lv hd hC => v_iret C hQ (fun _ _ => rfl) hC rfl hd)
def fX11_tellBeing_S43 (sh : Sh) (l0 : Nat) (l1 : Int32) (l2 : Int32) (G : Hp)  : Option ((Hp) ⊕ ((Hp))) := if (G.1 l0 13) = 0 then (fX11_is sh G l0 1).bind fun r2 => if r2 = 0 then some (.inr G) else (ldA sh G l0 26 1).bind fun a4 => (aI sh G a4 l1).bind fun v5 => bp (fX11_knownTrait sh G l0) fun r6 G7 => (asI sh G7 a4 l1 (v5 ||| r6)).bind fun G8 => some (.inl G8) else some (.inr G)
set_option maxHeartbeats 4000000 in
theorem tX11_tellBeing_S43 {E : EX} {ad : Nat → Nat} {sh : Sh} {G : Hp} {l0 : Nat} {l1 : Int32} {l2 : Int32} {o : (Hp) ⊕ ((Hp))} (C : Cx E RX11 cX11_tellBeing 3 none 5 0 0) (hC : Cl sh G) (h_l0 : sh[l0]? = some (0, 11)) (hf : fX11_tellBeing_S43 sh l0 l1 l2 G  = some o) (kb : ∀ (G2 : Hp), o = .inl G2 → Cl sh G2 → VV E 0 0 (wq (xT E) ad G2 sh) 43 [(0, .ref (ad l0)), (1, .int l1), (2, .int l2)] []) (kx74 : ∀ (G2 : Hp), o = .inr G2 → Cl sh G2 → VV E 0 0 (wq (xT E) ad G2 sh) 74 [(0, .ref (ad l0)), (1, .int l1), (2, .int l2)] []) : VV E 0 0 (wq (xT E) ad G sh) 43 [(0, .ref (ad l0)), (1, .int l1), (2, .int l2)] [] := by
  unfold fX11_tellBeing_S43 at hf
  refine v_aload_n C 0 dX11_tellBeing_43 rfl rfl ?_
  refine v_getI C h_l0 fl_X11_227 dX11_tellBeing_44 ?_
  refine v_if_ne (tgt := 74) C dX11_tellBeing_47 (by decide) (fun c1 => ?_) (fun c1 => ?_)
  · have hf := im hf c1
    cases hf
    refine v_sub [0, 1, 2] rfl ?_
    exact kx74 _ rfl hC
  · have hf := ip hf c1
    refine v_aload_n C 0 dX11_tellBeing_50 rfl rfl ?_
    refine v_iconst (v := 1) C dX11_tellBeing_51 (by decide) ?_
    obtain ⟨r2, qr2, hf⟩ := bn hf
    refine v_callVi (As := [.int 1]) (rest := []) C (sX11_is h_l0 qr2) cs_X11_245 (by decide) h_l0 rfl hC rfl rfl rfl (Nat.le_of_ble_eq_true rfl) ⟨Nat.le_refl _, Nat.le_refl _⟩ dX11_tellBeing_52 (fun hC => ?_)
    refine v_if_eq (tgt := 74) C dX11_tellBeing_55 (by decide) (fun c3 => ?_) (fun c3 => ?_)
    · have hf := ip hf c3
      cases hf
      refine v_sub [0, 1, 2] rfl ?_
      exact kx74 _ rfl hC
    · have hf := im hf c3
      refine v_aload_n C 0 dX11_tellBeing_58 rfl rfl ?_
      obtain ⟨a4, qa4, hf⟩ := bn hf
      refine v_getA C h_l0 fl_X11_55 qa4 dX11_tellBeing_59 (fun h_a4 => ?_)
      refine v_iload_n C 1 dX11_tellBeing_62 rfl rfl ?_
      refine v_dup2 C dX11_tellBeing_63 rfl rfl ?_
      obtain ⟨v5, qv5, hf⟩ := bn hf
      refine v_iald C h_a4 qv5 dX11_tellBeing_64 ?_
      refine v_aload_n C 0 dX11_tellBeing_65 rfl rfl ?_
      obtain ⟨r6, G7, qr6, hf⟩ := bpn hf
      refine v_callVi (As := []) (rest := [.int v5, .int l1, .ref (ad a4)]) C (sX11_knownTrait h_l0 qr6) cs_X11_317 (by decide) h_l0 rfl hC rfl rfl rfl (Nat.le_of_ble_eq_true rfl) ⟨Nat.le_refl _, Nat.le_refl _⟩ dX11_tellBeing_66 (fun hC => ?_)
      refine v_ior C dX11_tellBeing_69 ?_
      obtain ⟨G8, qG8, hf⟩ := bn hf
      refine v_iast C h_a4 qG8 hC dX11_tellBeing_70 (fun hC => ?_)
      refine v_goto (tgt := 43) C dX11_tellBeing_71 (by decide) ?_
      cases hf
      refine v_sub [0, 1, 2] rfl ?_
      exact kb _ rfl hC
def fX11_tellBeing_J74 (sh : Sh) (G : Hp) (l0 : Nat) (l2 : Int32) : Option (Hp) := (fX11_ends sh G l0 l2 (-1)).bind fun G2 => if (G2.1 l0 13) = 0 then (ldA sh G2 l0 24 1).bind fun a4 => bd ((G2.1 l0 19) : Int32) fun x5 => (aI sh G2 a4 x5).bind fun v6 => (asI sh G2 a4 x5 (v6 + 1)).bind fun G7 => some G7 else some G2
set_option maxHeartbeats 4000000 in
theorem tX11_tellBeing_J74 {E : EX} {ad : Nat → Nat} {sh : Sh} {G : Hp} {l0 : Nat} {l2 : Int32} {z : Hp} (C : Cx E RX11 cX11_tellBeing 3 none 5 0 0) (hC : Cl sh G) (h_l0 : sh[l0]? = some (0, 11)) (hf : fX11_tellBeing_J74 sh G l0 l2 = some z) (kr : RCv E cX11_tellBeing ad sh z) : VV E 0 0 (wq (xT E) ad G sh) 74 [(0, .ref (ad l0)), (2, .int l2)] [] := by
  unfold fX11_tellBeing_J74 at hf
  refine v_aload_n C 0 dX11_tellBeing_74 rfl rfl ?_
  refine v_iload_n C 1 dX11_tellBeing_75 rfl rfl ?_
  refine v_iconst (v := (-1)) C dX11_tellBeing_76 (by decide) ?_
  obtain ⟨G2, qr1, hf⟩ := bn hf
  refine v_callVv (As := [.int l2, .int (-1)]) (rest := []) C (sX11_ends h_l0 qr1) cs_X11_292 (by decide) h_l0 rfl hC rfl rfl rfl (Nat.le_of_ble_eq_true rfl) ⟨Nat.le_refl _, Nat.le_refl _⟩ dX11_tellBeing_77 (fun hC => ?_)
  refine v_aload_n C 0 dX11_tellBeing_80 rfl rfl ?_
  refine v_getI C h_l0 fl_X11_227 dX11_tellBeing_81 ?_
  refine v_if_ne (tgt := 100) C dX11_tellBeing_84 (by decide) (fun c3 => ?_) (fun c3 => ?_)
  · have hf := im hf c3
    cases hf
    exact kr _ _ dX11_tellBeing_100 hC
  · have hf := ip hf c3
    refine v_aload_n C 0 dX11_tellBeing_87 rfl rfl ?_
    obtain ⟨a4, qa4, hf⟩ := bn hf
    refine v_getA C h_l0 fl_X11_49 qa4 dX11_tellBeing_88 (fun h_a4 => ?_)
    refine v_aload_n C 0 dX11_tellBeing_91 rfl rfl ?_
    refine v_getI C h_l0 fl_X11_260 dX11_tellBeing_92 ?_
    refine v_topi (fun x5 ex5 => ?_)
    have hf := bd_at hf ex5
    refine v_dup2 C dX11_tellBeing_95 rfl rfl ?_
    obtain ⟨v6, qv6, hf⟩ := bn hf
    refine v_iald C h_a4 qv6 dX11_tellBeing_96 ?_
    refine v_iconst (v := 1) C dX11_tellBeing_97 (by decide) ?_
    refine v_iadd C dX11_tellBeing_98 ?_
    obtain ⟨G7, qG7, hf⟩ := bn hf
    refine v_iast C h_a4 qG7 hC dX11_tellBeing_99 (fun hC => ?_)
    cases hf
    exact kr _ _ dX11_tellBeing_100 hC
def fX11_tellBeing (sh : Sh) (G : Hp) (l0 : Nat) : Option (Hp) := (ldA sh G l0 24 1).bind fun a1 => (aI sh G a1 (G.1 l0 19)).bind fun v2 => bd ((((7 : Int32) * (G.1 l0 19)) + v2) : Int32) fun x3 => bp (fX11_named sh G l0) fun r4 G5 => (ldA sh G5 l0 25 1).bind fun a6 => bp (fX11_bounded sh G5 l0 0 99) fun r7 G8 => (asI sh G8 a6 x3 r7).bind fun G9 => (ldA sh G9 l0 26 1).bind fun a10 => (asI sh G9 a10 x3 0).bind fun G11 => (iter (fun s : Hp => fX11_tellBeing_S43 sh l0 x3 r4 s ) fuel (G11 : Hp)).bind (fun u14 => bd u14 fun G13 => fX11_tellBeing_J74 sh G13 l0 r4)
set_option maxHeartbeats 4000000 in
theorem tX11_tellBeing {E : EX} {ad : Nat → Nat} {sh : Sh} {G : Hp} {l0 : Nat} {z : Hp} (C : Cx E RX11 cX11_tellBeing 3 none 5 0 0) (hC : Cl sh G) (h_l0 : sh[l0]? = some (0, 11)) (hf : fX11_tellBeing sh G l0 = some z) (kr : RCv E cX11_tellBeing ad sh z) : VV E 0 0 (wq (xT E) ad G sh) 0 [(0, .ref (ad l0))] [] := by
  unfold fX11_tellBeing at hf
  refine v_bipush (v := 7) C dX11_tellBeing_0 (by decide) ?_
  refine v_aload_n C 0 dX11_tellBeing_2 rfl rfl ?_
  refine v_getI C h_l0 fl_X11_260 dX11_tellBeing_3 ?_
  refine v_imul C dX11_tellBeing_6 ?_
  refine v_aload_n C 0 dX11_tellBeing_7 rfl rfl ?_
  obtain ⟨a1, qa1, hf⟩ := bn hf
  refine v_getA C h_l0 fl_X11_49 qa1 dX11_tellBeing_8 (fun h_a1 => ?_)
  refine v_aload_n C 0 dX11_tellBeing_11 rfl rfl ?_
  refine v_getI C h_l0 fl_X11_260 dX11_tellBeing_12 ?_
  obtain ⟨v2, qv2, hf⟩ := bn hf
  refine v_iald C h_a1 qv2 dX11_tellBeing_15 ?_
  refine v_iadd C dX11_tellBeing_16 ?_
  refine v_topi (fun x3 ex3 => ?_)
  have hf := bd_at hf ex3
  refine v_istore_n (lv2 := [(1, .int x3), (0, .ref (ad l0))]) C dX11_tellBeing_17 rfl (by decide) rfl ?_
  refine v_aload_n C 1 dX11_tellBeing_18 rfl rfl ?_
  obtain ⟨r4, G5, qr4, hf⟩ := bpn hf
  refine v_callVi (As := []) (rest := []) C (sX11_named h_l0 qr4) cs_X11_288 (by decide) h_l0 rfl hC rfl rfl rfl (Nat.le_of_ble_eq_true rfl) ⟨Nat.le_refl _, Nat.le_refl _⟩ dX11_tellBeing_19 (fun hC => ?_)
  refine v_istore_n (lv2 := [(2, .int r4), (1, .int x3), (0, .ref (ad l0))]) C dX11_tellBeing_22 rfl (by decide) rfl ?_
  refine v_aload_n C 2 dX11_tellBeing_23 rfl rfl ?_
  obtain ⟨a6, qa6, hf⟩ := bn hf
  refine v_getA C h_l0 fl_X11_52 qa6 dX11_tellBeing_24 (fun h_a6 => ?_)
  refine v_iload_n C 1 dX11_tellBeing_27 rfl rfl ?_
  refine v_aload_n C 2 dX11_tellBeing_28 rfl rfl ?_
  refine v_iconst (v := 0) C dX11_tellBeing_29 (by decide) ?_
  refine v_bipush (v := 99) C dX11_tellBeing_30 (by decide) ?_
  obtain ⟨r7, G8, qr7, hf⟩ := bpn hf
  refine v_callVi (As := [.int 0, .int 99]) (rest := [.int x3, .ref (ad a6)]) C (sX11_bounded h_l0 qr7) cs_X11_304 (by decide) h_l0 rfl hC rfl rfl rfl (Nat.le_of_ble_eq_true rfl) ⟨Nat.le_refl _, Nat.le_refl _⟩ dX11_tellBeing_32 (fun hC => ?_)
  obtain ⟨G9, qG9, hf⟩ := bn hf
  refine v_iast C h_a6 qG9 hC dX11_tellBeing_35 (fun hC => ?_)
  refine v_aload_n C 2 dX11_tellBeing_36 rfl rfl ?_
  obtain ⟨a10, qa10, hf⟩ := bn hf
  refine v_getA C h_l0 fl_X11_55 qa10 dX11_tellBeing_37 (fun h_a10 => ?_)
  refine v_iload_n C 1 dX11_tellBeing_40 rfl rfl ?_
  refine v_iconst (v := 0) C dX11_tellBeing_41 (by decide) ?_
  obtain ⟨G11, qG11, hf⟩ := bn hf
  refine v_iast C h_a10 qG11 hC dX11_tellBeing_42 (fun hC => ?_)
  obtain ⟨r12, qr12, hf⟩ := bn hf
  refine v_sub [2, 1, 0] rfl ?_
  refine iter_sound (P := (fun s : Hp => Cl sh (s) → VV E 0 0 (wq (xT E) ad (s) sh) 43 [(0, .ref (ad l0)), (1, .int (x3)), (2, .int (r4))] [])) (X := fun r => r = r12) (fun jsr12 jor12 hor12 jbr12 jxr12 hC => tX11_tellBeing_S43 C hC h_l0 hor12 (fun _ e => jbr12 _ e) ?_) fuel _ r12 qr12 rfl hC
  · intro G13 hu hC
    have e := jxr12 _ hu
    subst e
    have hf := bd_at hf (rfl : G13 = _)
    refine v_sub [0, 2] rfl ?_
    exact tX11_tellBeing_J74 C hC h_l0 hf kr
theorem sX11_tellBeing {l : Launch} {sh : Sh} {G : Hp} {l0 : Nat} {z : Hp} (h_l0 : sh[l0]? = some (0, 11)) (hf : fX11_tellBeing sh G l0 = some z) : MC l yX11_tellBeing cX11_tellBeing 3 none 5 0 0 sh sh G z (fun ad => [.ref (ad l0)]) (fun _ => none) := by
  refine MC_of rfl rfl (fun _ => Nat.le_of_ble_eq_true rfl) (fun E ad C hl hnm hC hQ => ?_)
  exact tX11_tellBeing C hC h_l0 hf (fun pc lv hd hC => v_vret C hQ (fun _ _ => rfl) hC rfl hd)
def fX11_tellWay_J123L49 (sh : Sh) (G : Hp) (l0 : Nat) (l1 : Int32) (l2 : Int32) (l3 : Int32) (l4 : Int32) (s0 : Int32) (s1 : Int32) (s2 : Nat) : Option ((Hp) ⊕ ((Hp))) := (asI sh G s2 s1 s0).bind fun G1 => (ldA sh G1 l0 30 1).bind fun a2 => if l3 = 0 then (ldA sh G1 l0 30 1).bind fun a4 => (aI sh G1 a4 l1).bind fun v5 => (asI sh G1 a2 l1 (v5 ||| l4)).bind fun G6 => some (.inl G6) else (ldA sh G1 l0 30 1).bind fun a7 => (aI sh G1 a7 l1).bind fun v8 => (asI sh G1 a2 l1 (v8 &&& (l4 ^^^ (-1)))).bind fun G9 => some (.inl G9)
set_option maxHeartbeats 4000000 in
theorem tX11_tellWay_J123L49 {E : EX} {ad : Nat → Nat} {sh : Sh} {G : Hp} {l0 : Nat} {l1 : Int32} {l2 : Int32} {l3 : Int32} {l4 : Int32} {s0 : Int32} {s1 : Int32} {s2 : Nat} {o : (Hp) ⊕ ((Hp))} (C : Cx E RX11 cX11_tellWay 5 none 5 0 0) (hC : Cl sh G) (h_l0 : sh[l0]? = some (0, 11)) (h_s2 : tg sh s2 1) (hf : fX11_tellWay_J123L49 sh G l0 l1 l2 l3 l4 s0 s1 s2 = some o) (kb : ∀ (G2 : Hp), o = .inl G2 → Cl sh G2 → VV E 0 0 (wq (xT E) ad G2 sh) 49 [(0, .ref (ad l0)), (1, .int l1), (2, .int l2)] []) (kx160 : ∀ (G2 : Hp), o = .inr G2 → Cl sh G2 → VV E 0 0 (wq (xT E) ad G2 sh) 160 [(0, .ref (ad l0)), (1, .int l1), (2, .int l2)] []) : VV E 0 0 (wq (xT E) ad G sh) 123 [(0, .ref (ad l0)), (1, .int l1), (2, .int l2), (3, .int l3), (4, .int l4)] [.int s0, .int s1, .ref (ad s2)] := by
  unfold fX11_tellWay_J123L49 at hf
  obtain ⟨G1, qG1, hf⟩ := bn hf
  refine v_iast C h_s2 qG1 hC dX11_tellWay_123 (fun hC => ?_)
  refine v_aload_n C 0 dX11_tellWay_124 rfl rfl ?_
  obtain ⟨a2, qa2, hf⟩ := bn hf
  refine v_getA C h_l0 fl_X11_67 qa2 dX11_tellWay_125 (fun h_a2 => ?_)
  refine v_iload_n C 1 dX11_tellWay_128 rfl rfl ?_
  refine v_iload_n C 3 dX11_tellWay_129 rfl rfl ?_
  refine v_if_eq (tgt := 147) C dX11_tellWay_130 (by decide) (fun c3 => ?_) (fun c3 => ?_)
  · have hf := ip hf c3
    refine v_aload_n C 0 dX11_tellWay_147 rfl rfl ?_
    obtain ⟨a4, qa4, hf⟩ := bn hf
    refine v_getA C h_l0 fl_X11_67 qa4 dX11_tellWay_148 (fun h_a4 => ?_)
    refine v_iload_n C 1 dX11_tellWay_151 rfl rfl ?_
    obtain ⟨v5, qv5, hf⟩ := bn hf
    refine v_iald C h_a4 qv5 dX11_tellWay_152 ?_
    refine v_iload C 4 dX11_tellWay_153 rfl ?_
    refine v_ior C dX11_tellWay_155 ?_
    obtain ⟨G6, qG6, hf⟩ := bn hf
    refine v_iast C h_a2 qG6 hC dX11_tellWay_156 (fun hC => ?_)
    refine v_goto (tgt := 49) C dX11_tellWay_157 (by decide) ?_
    cases hf
    refine v_sub [0, 1, 2] rfl ?_
    exact kb _ rfl hC
  · have hf := im hf c3
    refine v_aload_n C 0 dX11_tellWay_133 rfl rfl ?_
    obtain ⟨a7, qa7, hf⟩ := bn hf
    refine v_getA C h_l0 fl_X11_67 qa7 dX11_tellWay_134 (fun h_a7 => ?_)
    refine v_iload_n C 1 dX11_tellWay_137 rfl rfl ?_
    obtain ⟨v8, qv8, hf⟩ := bn hf
    refine v_iald C h_a7 qv8 dX11_tellWay_138 ?_
    refine v_iload C 4 dX11_tellWay_139 rfl ?_
    refine v_iconst (v := (-1)) C dX11_tellWay_141 (by decide) ?_
    refine v_ixor C dX11_tellWay_142 ?_
    refine v_iand C dX11_tellWay_143 ?_
    refine v_goto (tgt := 156) C dX11_tellWay_144 (by decide) ?_
    obtain ⟨G9, qG9, hf⟩ := bn hf
    refine v_iast C h_a2 qG9 hC dX11_tellWay_156 (fun hC => ?_)
    refine v_goto (tgt := 49) C dX11_tellWay_157 (by decide) ?_
    cases hf
    refine v_sub [0, 1, 2] rfl ?_
    exact kb _ rfl hC
def fX11_tellWay_J74L49 (sh : Sh) (G : Hp) (l0 : Nat) (l1 : Int32) (l2 : Int32) : Option ((Hp) ⊕ ((Hp))) := (fX11_is sh G l0 24).bind fun r1 => (fX11_goesOn sh G l0).bind fun G3 => bp (fX11_knownTrait sh G3 l0) fun r4 G5 => (ldA sh G5 l0 29 1).bind fun a6 => if r1 = 0 then (ldA sh G5 l0 29 1).bind fun a8 => (aI sh G5 a8 l1).bind fun v9 => fX11_tellWay_J123L49 sh G5 l0 l1 l2 r1 r4 (v9 &&& (r4 ^^^ (-1))) l1 a6 else (ldA sh G5 l0 29 1).bind fun a10 => (aI sh G5 a10 l1).bind fun v11 => fX11_tellWay_J123L49 sh G5 l0 l1 l2 r1 r4 (v11 ||| r4) l1 a6
set_option maxHeartbeats 4000000 in
theorem tX11_tellWay_J74L49 {E : EX} {ad : Nat → Nat} {sh : Sh} {G : Hp} {l0 : Nat} {l1 : Int32} {l2 : Int32} {o : (Hp) ⊕ ((Hp))} (C : Cx E RX11 cX11_tellWay 5 none 5 0 0) (hC : Cl sh G) (h_l0 : sh[l0]? = some (0, 11)) (hf : fX11_tellWay_J74L49 sh G l0 l1 l2 = some o) (kb : ∀ (G2 : Hp), o = .inl G2 → Cl sh G2 → VV E 0 0 (wq (xT E) ad G2 sh) 49 [(0, .ref (ad l0)), (1, .int l1), (2, .int l2)] []) (kx160 : ∀ (G2 : Hp), o = .inr G2 → Cl sh G2 → VV E 0 0 (wq (xT E) ad G2 sh) 160 [(0, .ref (ad l0)), (1, .int l1), (2, .int l2)] []) : VV E 0 0 (wq (xT E) ad G sh) 74 [(0, .ref (ad l0)), (1, .int l1), (2, .int l2)] [] := by
  unfold fX11_tellWay_J74L49 at hf
  refine v_aload_n C 0 dX11_tellWay_74 rfl rfl ?_
  refine v_bipush (v := 24) C dX11_tellWay_75 (by decide) ?_
  obtain ⟨r1, qr1, hf⟩ := bn hf
  refine v_callVi (As := [.int 24]) (rest := []) C (sX11_is h_l0 qr1) cs_X11_245 (by decide) h_l0 rfl hC rfl rfl rfl (Nat.le_of_ble_eq_true rfl) ⟨Nat.le_refl _, Nat.le_refl _⟩ dX11_tellWay_77 (fun hC => ?_)
  refine v_istore_n (lv2 := [(3, .int r1), (0, .ref (ad l0)), (1, .int l1), (2, .int l2)]) C dX11_tellWay_80 rfl (by decide) rfl ?_
  refine v_aload_n C 1 dX11_tellWay_81 rfl rfl ?_
  obtain ⟨G3, qr2, hf⟩ := bn hf
  refine v_callVv (As := []) (rest := []) C (sX11_goesOn h_l0 qr2) cs_X11_248 (by decide) h_l0 rfl hC rfl rfl rfl (Nat.le_of_ble_eq_true rfl) ⟨Nat.le_refl _, Nat.le_refl _⟩ dX11_tellWay_82 (fun hC => ?_)
  refine v_aload_n C 1 dX11_tellWay_85 rfl rfl ?_
  obtain ⟨r4, G5, qr4, hf⟩ := bpn hf
  refine v_callVi (As := []) (rest := []) C (sX11_knownTrait h_l0 qr4) cs_X11_317 (by decide) h_l0 rfl hC rfl rfl rfl (Nat.le_of_ble_eq_true rfl) ⟨Nat.le_refl _, Nat.le_refl _⟩ dX11_tellWay_86 (fun hC => ?_)
  refine v_istore (lv2 := [(4, .int r4), (3, .int r1), (0, .ref (ad l0)), (1, .int l1), (2, .int l2)]) C dX11_tellWay_89 (by decide) rfl ?_
  refine v_aload_n C 2 dX11_tellWay_91 rfl rfl ?_
  obtain ⟨a6, qa6, hf⟩ := bn hf
  refine v_getA C h_l0 fl_X11_64 qa6 dX11_tellWay_92 (fun h_a6 => ?_)
  refine v_iload_n C 3 dX11_tellWay_95 rfl rfl ?_
  refine v_iload_n C 1 dX11_tellWay_96 rfl rfl ?_
  refine v_if_eq (tgt := 112) C dX11_tellWay_97 (by decide) (fun c7 => ?_) (fun c7 => ?_)
  · have hf := ip hf c7
    refine v_aload_n C 2 dX11_tellWay_112 rfl rfl ?_
    obtain ⟨a8, qa8, hf⟩ := bn hf
    refine v_getA C h_l0 fl_X11_64 qa8 dX11_tellWay_113 (fun h_a8 => ?_)
    refine v_iload_n C 3 dX11_tellWay_116 rfl rfl ?_
    obtain ⟨v9, qv9, hf⟩ := bn hf
    refine v_iald C h_a8 qv9 dX11_tellWay_117 ?_
    refine v_iload C 0 dX11_tellWay_118 rfl ?_
    refine v_iconst (v := (-1)) C dX11_tellWay_120 (by decide) ?_
    refine v_ixor C dX11_tellWay_121 ?_
    refine v_iand C dX11_tellWay_122 ?_
    refine v_sub [2, 3, 4, 1, 0] rfl ?_
    exact tX11_tellWay_J123L49 C hC h_l0 h_a6 hf kb kx160
  · have hf := im hf c7
    refine v_aload_n C 2 dX11_tellWay_100 rfl rfl ?_
    obtain ⟨a10, qa10, hf⟩ := bn hf
    refine v_getA C h_l0 fl_X11_64 qa10 dX11_tellWay_101 (fun h_a10 => ?_)
    refine v_iload_n C 3 dX11_tellWay_104 rfl rfl ?_
    obtain ⟨v11, qv11, hf⟩ := bn hf
    refine v_iald C h_a10 qv11 dX11_tellWay_105 ?_
    refine v_iload C 0 dX11_tellWay_106 rfl ?_
    refine v_ior C dX11_tellWay_108 ?_
    refine v_goto (tgt := 123) C dX11_tellWay_109 (by decide) ?_
    refine v_sub [2, 3, 4, 1, 0] rfl ?_
    exact tX11_tellWay_J123L49 C hC h_l0 h_a6 hf kb kx160
def fX11_tellWay_S49 (sh : Sh) (l0 : Nat) (l1 : Int32) (l2 : Int32) (G : Hp)  : Option ((Hp) ⊕ ((Hp))) := if (G.1 l0 13) = 0 then (fX11_is sh G l0 24).bind fun r2 => if r2 = 0 then (fX11_is sh G l0 25).bind fun r4 => if r4 = 0 then some (.inr G) else fX11_tellWay_J74L49 sh G l0 l1 l2 else fX11_tellWay_J74L49 sh G l0 l1 l2 else some (.inr G)
set_option maxHeartbeats 4000000 in
theorem tX11_tellWay_S49 {E : EX} {ad : Nat → Nat} {sh : Sh} {G : Hp} {l0 : Nat} {l1 : Int32} {l2 : Int32} {o : (Hp) ⊕ ((Hp))} (C : Cx E RX11 cX11_tellWay 5 none 5 0 0) (hC : Cl sh G) (h_l0 : sh[l0]? = some (0, 11)) (hf : fX11_tellWay_S49 sh l0 l1 l2 G  = some o) (kb : ∀ (G2 : Hp), o = .inl G2 → Cl sh G2 → VV E 0 0 (wq (xT E) ad G2 sh) 49 [(0, .ref (ad l0)), (1, .int l1), (2, .int l2)] []) (kx160 : ∀ (G2 : Hp), o = .inr G2 → Cl sh G2 → VV E 0 0 (wq (xT E) ad G2 sh) 160 [(0, .ref (ad l0)), (1, .int l1), (2, .int l2)] []) : VV E 0 0 (wq (xT E) ad G sh) 49 [(0, .ref (ad l0)), (1, .int l1), (2, .int l2)] [] := by
  unfold fX11_tellWay_S49 at hf
  refine v_aload_n C 0 dX11_tellWay_49 rfl rfl ?_
  refine v_getI C h_l0 fl_X11_227 dX11_tellWay_50 ?_
  refine v_if_ne (tgt := 160) C dX11_tellWay_53 (by decide) (fun c1 => ?_) (fun c1 => ?_)
  · have hf := im hf c1
    cases hf
    refine v_sub [0, 1, 2] rfl ?_
    exact kx160 _ rfl hC
  · have hf := ip hf c1
    refine v_aload_n C 0 dX11_tellWay_56 rfl rfl ?_
    refine v_bipush (v := 24) C dX11_tellWay_57 (by decide) ?_
    obtain ⟨r2, qr2, hf⟩ := bn hf
    refine v_callVi (As := [.int 24]) (rest := []) C (sX11_is h_l0 qr2) cs_X11_245 (by decide) h_l0 rfl hC rfl rfl rfl (Nat.le_of_ble_eq_true rfl) ⟨Nat.le_refl _, Nat.le_refl _⟩ dX11_tellWay_59 (fun hC => ?_)
    refine v_if_ne (tgt := 74) C dX11_tellWay_62 (by decide) (fun c3 => ?_) (fun c3 => ?_)
    · have hf := im hf c3
      refine v_sub [0, 1, 2] rfl ?_
      exact tX11_tellWay_J74L49 C hC h_l0 hf kb kx160
    · have hf := ip hf c3
      refine v_aload_n C 0 dX11_tellWay_65 rfl rfl ?_
      refine v_bipush (v := 25) C dX11_tellWay_66 (by decide) ?_
      obtain ⟨r4, qr4, hf⟩ := bn hf
      refine v_callVi (As := [.int 25]) (rest := []) C (sX11_is h_l0 qr4) cs_X11_245 (by decide) h_l0 rfl hC rfl rfl rfl (Nat.le_of_ble_eq_true rfl) ⟨Nat.le_refl _, Nat.le_refl _⟩ dX11_tellWay_68 (fun hC => ?_)
      refine v_if_eq (tgt := 160) C dX11_tellWay_71 (by decide) (fun c5 => ?_) (fun c5 => ?_)
      · have hf := ip hf c5
        cases hf
        refine v_sub [0, 1, 2] rfl ?_
        exact kx160 _ rfl hC
      · have hf := im hf c5
        refine v_sub [0, 1, 2] rfl ?_
        exact tX11_tellWay_J74L49 C hC h_l0 hf kb kx160
def fX11_tellWay_J160 (sh : Sh) (G : Hp) (l0 : Nat) (l2 : Int32) : Option (Hp) := (fX11_ends sh G l0 l2 (-1)).bind fun G2 => if (G2.1 l0 13) = 0 then (ldA sh G2 l0 27 1).bind fun a4 => bd ((G2.1 l0 19) : Int32) fun x5 => (aI sh G2 a4 x5).bind fun v6 => (asI sh G2 a4 x5 (v6 + 1)).bind fun G7 => some G7 else some G2
set_option maxHeartbeats 4000000 in
theorem tX11_tellWay_J160 {E : EX} {ad : Nat → Nat} {sh : Sh} {G : Hp} {l0 : Nat} {l2 : Int32} {z : Hp} (C : Cx E RX11 cX11_tellWay 5 none 5 0 0) (hC : Cl sh G) (h_l0 : sh[l0]? = some (0, 11)) (hf : fX11_tellWay_J160 sh G l0 l2 = some z) (kr : RCv E cX11_tellWay ad sh z) : VV E 0 0 (wq (xT E) ad G sh) 160 [(0, .ref (ad l0)), (2, .int l2)] [] := by
  unfold fX11_tellWay_J160 at hf
  refine v_aload_n C 0 dX11_tellWay_160 rfl rfl ?_
  refine v_iload_n C 1 dX11_tellWay_161 rfl rfl ?_
  refine v_iconst (v := (-1)) C dX11_tellWay_162 (by decide) ?_
  obtain ⟨G2, qr1, hf⟩ := bn hf
  refine v_callVv (As := [.int l2, .int (-1)]) (rest := []) C (sX11_ends h_l0 qr1) cs_X11_292 (by decide) h_l0 rfl hC rfl rfl rfl (Nat.le_of_ble_eq_true rfl) ⟨Nat.le_refl _, Nat.le_refl _⟩ dX11_tellWay_163 (fun hC => ?_)
  refine v_aload_n C 0 dX11_tellWay_166 rfl rfl ?_
  refine v_getI C h_l0 fl_X11_227 dX11_tellWay_167 ?_
  refine v_if_ne (tgt := 186) C dX11_tellWay_170 (by decide) (fun c3 => ?_) (fun c3 => ?_)
  · have hf := im hf c3
    cases hf
    exact kr _ _ dX11_tellWay_186 hC
  · have hf := ip hf c3
    refine v_aload_n C 0 dX11_tellWay_173 rfl rfl ?_
    obtain ⟨a4, qa4, hf⟩ := bn hf
    refine v_getA C h_l0 fl_X11_58 qa4 dX11_tellWay_174 (fun h_a4 => ?_)
    refine v_aload_n C 0 dX11_tellWay_177 rfl rfl ?_
    refine v_getI C h_l0 fl_X11_260 dX11_tellWay_178 ?_
    refine v_topi (fun x5 ex5 => ?_)
    have hf := bd_at hf ex5
    refine v_dup2 C dX11_tellWay_181 rfl rfl ?_
    obtain ⟨v6, qv6, hf⟩ := bn hf
    refine v_iald C h_a4 qv6 dX11_tellWay_182 ?_
    refine v_iconst (v := 1) C dX11_tellWay_183 (by decide) ?_
    refine v_iadd C dX11_tellWay_184 ?_
    obtain ⟨G7, qG7, hf⟩ := bn hf
    refine v_iast C h_a4 qG7 hC dX11_tellWay_185 (fun hC => ?_)
    cases hf
    exact kr _ _ dX11_tellWay_186 hC
def fX11_tellWay (sh : Sh) (G : Hp) (l0 : Nat) : Option (Hp) := (ldA sh G l0 27 1).bind fun a1 => (aI sh G a1 (G.1 l0 19)).bind fun v2 => bd ((((4 : Int32) * (G.1 l0 19)) + v2) : Int32) fun x3 => bp (fX11_named sh G l0) fun r4 G5 => (ldA sh G5 l0 28 1).bind fun a6 => bp (fX11_bounded sh G5 l0 0 99) fun r7 G8 => (asI sh G8 a6 x3 r7).bind fun G9 => (ldA sh G9 l0 29 1).bind fun a10 => (asI sh G9 a10 x3 0).bind fun G11 => (ldA sh G11 l0 30 1).bind fun a12 => (asI sh G11 a12 x3 0).bind fun G13 => (iter (fun s : Hp => fX11_tellWay_S49 sh l0 x3 r4 s ) fuel (G13 : Hp)).bind (fun u16 => bd u16 fun G15 => fX11_tellWay_J160 sh G15 l0 r4)
set_option maxHeartbeats 4000000 in
theorem tX11_tellWay {E : EX} {ad : Nat → Nat} {sh : Sh} {G : Hp} {l0 : Nat} {z : Hp} (C : Cx E RX11 cX11_tellWay 5 none 5 0 0) (hC : Cl sh G) (h_l0 : sh[l0]? = some (0, 11)) (hf : fX11_tellWay sh G l0 = some z) (kr : RCv E cX11_tellWay ad sh z) : VV E 0 0 (wq (xT E) ad G sh) 0 [(0, .ref (ad l0))] [] := by
  unfold fX11_tellWay at hf
  refine v_iconst (v := 4) C dX11_tellWay_0 (by decide) ?_
  refine v_aload_n C 0 dX11_tellWay_1 rfl rfl ?_
  refine v_getI C h_l0 fl_X11_260 dX11_tellWay_2 ?_
  refine v_imul C dX11_tellWay_5 ?_
  refine v_aload_n C 0 dX11_tellWay_6 rfl rfl ?_
  obtain ⟨a1, qa1, hf⟩ := bn hf
  refine v_getA C h_l0 fl_X11_58 qa1 dX11_tellWay_7 (fun h_a1 => ?_)
  refine v_aload_n C 0 dX11_tellWay_10 rfl rfl ?_
  refine v_getI C h_l0 fl_X11_260 dX11_tellWay_11 ?_
  obtain ⟨v2, qv2, hf⟩ := bn hf
  refine v_iald C h_a1 qv2 dX11_tellWay_14 ?_
  refine v_iadd C dX11_tellWay_15 ?_
  refine v_topi (fun x3 ex3 => ?_)
  have hf := bd_at hf ex3
  refine v_istore_n (lv2 := [(1, .int x3), (0, .ref (ad l0))]) C dX11_tellWay_16 rfl (by decide) rfl ?_
  refine v_aload_n C 1 dX11_tellWay_17 rfl rfl ?_
  obtain ⟨r4, G5, qr4, hf⟩ := bpn hf
  refine v_callVi (As := []) (rest := []) C (sX11_named h_l0 qr4) cs_X11_288 (by decide) h_l0 rfl hC rfl rfl rfl (Nat.le_of_ble_eq_true rfl) ⟨Nat.le_refl _, Nat.le_refl _⟩ dX11_tellWay_18 (fun hC => ?_)
  refine v_istore_n (lv2 := [(2, .int r4), (1, .int x3), (0, .ref (ad l0))]) C dX11_tellWay_21 rfl (by decide) rfl ?_
  refine v_aload_n C 2 dX11_tellWay_22 rfl rfl ?_
  obtain ⟨a6, qa6, hf⟩ := bn hf
  refine v_getA C h_l0 fl_X11_61 qa6 dX11_tellWay_23 (fun h_a6 => ?_)
  refine v_iload_n C 1 dX11_tellWay_26 rfl rfl ?_
  refine v_aload_n C 2 dX11_tellWay_27 rfl rfl ?_
  refine v_iconst (v := 0) C dX11_tellWay_28 (by decide) ?_
  refine v_bipush (v := 99) C dX11_tellWay_29 (by decide) ?_
  obtain ⟨r7, G8, qr7, hf⟩ := bpn hf
  refine v_callVi (As := [.int 0, .int 99]) (rest := [.int x3, .ref (ad a6)]) C (sX11_bounded h_l0 qr7) cs_X11_304 (by decide) h_l0 rfl hC rfl rfl rfl (Nat.le_of_ble_eq_true rfl) ⟨Nat.le_refl _, Nat.le_refl _⟩ dX11_tellWay_31 (fun hC => ?_)
  obtain ⟨G9, qG9, hf⟩ := bn hf
  refine v_iast C h_a6 qG9 hC dX11_tellWay_34 (fun hC => ?_)
  refine v_aload_n C 2 dX11_tellWay_35 rfl rfl ?_
  obtain ⟨a10, qa10, hf⟩ := bn hf
  refine v_getA C h_l0 fl_X11_64 qa10 dX11_tellWay_36 (fun h_a10 => ?_)
  refine v_iload_n C 1 dX11_tellWay_39 rfl rfl ?_
  refine v_iconst (v := 0) C dX11_tellWay_40 (by decide) ?_
  obtain ⟨G11, qG11, hf⟩ := bn hf
  refine v_iast C h_a10 qG11 hC dX11_tellWay_41 (fun hC => ?_)
  refine v_aload_n C 2 dX11_tellWay_42 rfl rfl ?_
  obtain ⟨a12, qa12, hf⟩ := bn hf
  refine v_getA C h_l0 fl_X11_67 qa12 dX11_tellWay_43 (fun h_a12 => ?_)
  refine v_iload_n C 1 dX11_tellWay_46 rfl rfl ?_
  refine v_iconst (v := 0) C dX11_tellWay_47 (by decide) ?_
  obtain ⟨G13, qG13, hf⟩ := bn hf
  refine v_iast C h_a12 qG13 hC dX11_tellWay_48 (fun hC => ?_)
  obtain ⟨r14, qr14, hf⟩ := bn hf
  refine v_sub [2, 1, 0] rfl ?_
  refine iter_sound (P := (fun s : Hp => Cl sh (s) → VV E 0 0 (wq (xT E) ad (s) sh) 49 [(0, .ref (ad l0)), (1, .int (x3)), (2, .int (r4))] [])) (X := fun r => r = r14) (fun jsr14 jor14 hor14 jbr14 jxr14 hC => tX11_tellWay_S49 C hC h_l0 hor14 (fun _ e => jbr14 _ e) ?_) fuel _ r14 qr14 rfl hC
  · intro G15 hu hC
    have e := jxr14 _ hu
    subst e
    have hf := bd_at hf (rfl : G15 = _)
    refine v_sub [0, 2] rfl ?_
    exact tX11_tellWay_J160 C hC h_l0 hf kr
theorem sX11_tellWay {l : Launch} {sh : Sh} {G : Hp} {l0 : Nat} {z : Hp} (h_l0 : sh[l0]? = some (0, 11)) (hf : fX11_tellWay sh G l0 = some z) : MC l yX11_tellWay cX11_tellWay 5 none 5 0 0 sh sh G z (fun ad => [.ref (ad l0)]) (fun _ => none) := by
  refine MC_of rfl rfl (fun _ => Nat.le_of_ble_eq_true rfl) (fun E ad C hl hnm hC hQ => ?_)
  exact tX11_tellWay C hC h_l0 hf (fun pc lv hd hC => v_vret C hQ (fun _ _ => rfl) hC rfl hd)
def fX11_waitsFor (sh : Sh) (G : Hp) (l0 : Nat) (l1 : Int32) : Option (Hp) := (ldA sh G l0 51 1).bind fun a1 => (asI sh G a1 (G.1 l0 52) l1).bind fun G2 => bd (sI G2 l0 52 ((G2.1 l0 52) + 1)) fun G3 => (fX11_goesOn sh G3 l0).bind fun G5 => some G5
set_option maxHeartbeats 4000000 in
theorem tX11_waitsFor {E : EX} {ad : Nat → Nat} {sh : Sh} {G : Hp} {l0 : Nat} {l1 : Int32} {z : Hp} (C : Cx E RX11 cX11_waitsFor 2 none 3 0 0) (hC : Cl sh G) (h_l0 : sh[l0]? = some (0, 11)) (hf : fX11_waitsFor sh G l0 l1 = some z) (kr : RCv E cX11_waitsFor ad sh z) : VV E 0 0 (wq (xT E) ad G sh) 0 [(0, .ref (ad l0)), (1, .int l1)] [] := by
  unfold fX11_waitsFor at hf
  refine v_aload_n C 0 dX11_waitsFor_0 rfl rfl ?_
  obtain ⟨a1, qa1, hf⟩ := bn hf
  refine v_getA C h_l0 fl_X11_122 qa1 dX11_waitsFor_1 (fun h_a1 => ?_)
  refine v_aload_n C 0 dX11_waitsFor_4 rfl rfl ?_
  refine v_getI C h_l0 fl_X11_323 dX11_waitsFor_5 ?_
  refine v_iload_n C 1 dX11_waitsFor_8 rfl rfl ?_
  obtain ⟨G2, qG2, hf⟩ := bn hf
  refine v_iast C h_a1 qG2 hC dX11_waitsFor_9 (fun hC => ?_)
  refine v_aload_n C 0 dX11_waitsFor_10 rfl rfl ?_
  refine v_dup C dX11_waitsFor_11 rfl ?_
  refine v_getI C h_l0 fl_X11_323 dX11_waitsFor_12 ?_
  refine v_iconst (v := 1) C dX11_waitsFor_15 (by decide) ?_
  refine v_iadd C dX11_waitsFor_16 ?_
  refine v_putI C h_l0 fp_X11_323 dX11_waitsFor_17 (fun G3 eG3 => ?_)
  have hf := bd_at hf eG3
  have hC : Cl sh G3 := by rw [eG3]; exact hC
  refine v_aload_n C 0 dX11_waitsFor_20 rfl rfl ?_
  obtain ⟨G5, qr4, hf⟩ := bn hf
  refine v_callVv (As := []) (rest := []) C (sX11_goesOn h_l0 qr4) cs_X11_248 (by decide) h_l0 rfl hC rfl rfl rfl (Nat.le_of_ble_eq_true rfl) ⟨Nat.le_refl _, Nat.le_refl _⟩ dX11_waitsFor_21 (fun hC => ?_)
  cases hf
  exact kr _ _ dX11_waitsFor_24 hC
theorem sX11_waitsFor {l : Launch} {sh : Sh} {G : Hp} {l0 : Nat} {l1 : Int32} {z : Hp} (h_l0 : sh[l0]? = some (0, 11)) (hf : fX11_waitsFor sh G l0 l1 = some z) : MC l yX11_waitsFor cX11_waitsFor 2 none 3 0 0 sh sh G z (fun ad => [.ref (ad l0), .int l1]) (fun _ => none) := by
  refine MC_of rfl rfl (fun _ => Nat.le_of_ble_eq_true rfl) (fun E ad C hl hnm hC hQ => ?_)
  exact tX11_waitsFor C hC h_l0 hf (fun pc lv hd hC => v_vret C hQ (fun _ _ => rfl) hC rfl hd)
def fX11_bitOf_S2 (l0 : Int32) (l1 : Int32) : Option ((Int32) ⊕ ((Int32))) := if 7 ≤ l1 then some (.inr l1) else if (l0 >>> (l1 &&& 31)) = 1 then some (.inr l1) else bd ((l1 + 1) : Int32) fun x3 => some (.inl x3)
set_option maxHeartbeats 4000000 in
theorem tX11_bitOf_S2 {E : EX} {ad : Nat → Nat} {sh : Sh} {G : Hp} {l0 : Int32} {l1 : Int32} {o : (Int32) ⊕ ((Int32))} (C : Cx E RX11 cX11_bitOf 2 (some .int) 1 0 0) (hC : Cl sh G) (hf : fX11_bitOf_S2 l0 l1 = some o) (kb : ∀ (b_l1 : Int32), o = .inl b_l1 → VV E 0 0 (wq (xT E) ad G sh) 2 [(0, .int l0), (1, .int b_l1)] []) (kx21 : ∀ (b_l1 : Int32), o = .inr b_l1 → VV E 0 0 (wq (xT E) ad G sh) 21 [(0, .int l0), (1, .int b_l1)] []) : VV E 0 0 (wq (xT E) ad G sh) 2 [(0, .int l0), (1, .int l1)] [] := by
  unfold fX11_bitOf_S2 at hf
  refine v_iload_n C 1 dX11_bitOf_2 rfl rfl ?_
  refine v_bipush (v := 7) C dX11_bitOf_3 (by decide) ?_
  refine v_icmp_ge (tgt := 21) C dX11_bitOf_5 (by decide) (fun c1 => ?_) (fun c1 => ?_)
  · have hf := ip hf c1
    cases hf
    refine v_sub [0, 1] rfl ?_
    exact kx21 _ rfl
  · have hf := im hf c1
    refine v_iload_n C 0 dX11_bitOf_8 rfl rfl ?_
    refine v_iload_n C 1 dX11_bitOf_9 rfl rfl ?_
    refine v_ishr C dX11_bitOf_10 ?_
    refine v_iconst (v := 1) C dX11_bitOf_11 (by decide) ?_
    refine v_icmp_eq (tgt := 21) C dX11_bitOf_12 (by decide) (fun c2 => ?_) (fun c2 => ?_)
    · have hf := ip hf c2
      cases hf
      refine v_sub [0, 1] rfl ?_
      exact kx21 _ rfl
    · have hf := im hf c2
      obtain ⟨x3, ex3⟩ : ∃ x : Int32, x = (l1 + 1) := ⟨_, rfl⟩
      have hf := bd_at hf ex3
      refine v_iinc (v := x3) (j := 1) (lv2 := [(1, .int x3), (0, .int l0)]) C dX11_bitOf_15 rfl (by rw [ex3]; rfl) (by decide) rfl ?_
      refine v_goto (tgt := 2) C dX11_bitOf_18 (by decide) ?_
      cases hf
      refine v_sub [1, 0] rfl ?_
      exact kb _ rfl
def fX11_bitOf (l0 : Int32) : Option (Int32) := (iter (fun s : Int32 => fX11_bitOf_S2 l0  s) fuel (0 : Int32)).bind (fun u3 => bd u3 fun x2 => some x2)
set_option maxHeartbeats 4000000 in
theorem tX11_bitOf {E : EX} {ad : Nat → Nat} {sh : Sh} {G : Hp} {l0 : Int32} {z : Int32} (C : Cx E RX11 cX11_bitOf 2 (some .int) 1 0 0) (hC : Cl sh G) (hf : fX11_bitOf l0 = some z) (kr : RCi E cX11_bitOf ad sh z G) : VV E 0 0 (wq (xT E) ad G sh) 0 [(0, .int l0)] [] := by
  unfold fX11_bitOf at hf
  refine v_iconst (v := 0) C dX11_bitOf_0 (by decide) ?_
  refine v_istore_n (lv2 := [(1, .int 0), (0, .int l0)]) C dX11_bitOf_1 rfl (by decide) rfl ?_
  obtain ⟨r1, qr1, hf⟩ := bn hf
  refine v_sub [1, 0] rfl ?_
  refine iter_sound (P := (fun s : Int32 => VV E 0 0 (wq (xT E) ad (G) sh) 2 [(0, .int (l0)), (1, .int (s))] [])) (X := fun r => r = r1) (fun jsr1 jor1 hor1 jbr1 jxr1 => tX11_bitOf_S2 C hC hor1 (fun _ e => jbr1 _ e) ?_) fuel _ r1 qr1 rfl
  · intro x2 hu
    have e := jxr1 _ hu
    subst e
    have hf := bd_at hf (rfl : x2 = _)
    refine v_iload_n C 1 dX11_bitOf_21 rfl rfl ?_
    cases hf
    exact kr _ _ dX11_bitOf_22 hC
theorem sX11_bitOf {l : Launch} {sh : Sh} {G : Hp} {l0 : Int32} {z : Int32} (hf : fX11_bitOf l0 = some z) : MC l yX11_bitOf cX11_bitOf 2 (some .int) 1 0 0 sh sh G G (fun ad => [.int l0]) (fun _ => some (.int z)) := by
  refine MC_of rfl rfl (fun _ => Nat.le_of_ble_eq_true rfl) (fun E ad C hl hnm hC hQ => ?_)
  exact tX11_bitOf C hC hf (fun pc lv hd hC => v_iret C hQ (fun _ _ => rfl) hC rfl hd)
def fX11_emitWord (sh : Sh) (G : Hp) (l0 : Nat) (l1 : Int32) : Option (Hp) := (ldA sh G l0 37 1).bind fun a1 => (asI sh G a1 (G.1 l0 36) l1).bind fun G2 => bd (sI G2 l0 36 ((G2.1 l0 36) + 1)) fun G3 => some G3
set_option maxHeartbeats 4000000 in
theorem tX11_emitWord {E : EX} {ad : Nat → Nat} {sh : Sh} {G : Hp} {l0 : Nat} {l1 : Int32} {z : Hp} (C : Cx E RX11 cX11_emitWord 2 none 1 0 0) (hC : Cl sh G) (h_l0 : sh[l0]? = some (0, 11)) (hf : fX11_emitWord sh G l0 l1 = some z) (kr : RCv E cX11_emitWord ad sh z) : VV E 0 0 (wq (xT E) ad G sh) 0 [(0, .ref (ad l0)), (1, .int l1)] [] := by
  unfold fX11_emitWord at hf
  refine v_aload_n C 0 dX11_emitWord_0 rfl rfl ?_
  obtain ⟨a1, qa1, hf⟩ := bn hf
  refine v_getA C h_l0 fl_X11_85 qa1 dX11_emitWord_1 (fun h_a1 => ?_)
  refine v_aload_n C 0 dX11_emitWord_4 rfl rfl ?_
  refine v_getI C h_l0 fl_X11_272 dX11_emitWord_5 ?_
  refine v_iload_n C 1 dX11_emitWord_8 rfl rfl ?_
  obtain ⟨G2, qG2, hf⟩ := bn hf
  refine v_iast C h_a1 qG2 hC dX11_emitWord_9 (fun hC => ?_)
  refine v_aload_n C 0 dX11_emitWord_10 rfl rfl ?_
  refine v_dup C dX11_emitWord_11 rfl ?_
  refine v_getI C h_l0 fl_X11_272 dX11_emitWord_12 ?_
  refine v_iconst (v := 1) C dX11_emitWord_15 (by decide) ?_
  refine v_iadd C dX11_emitWord_16 ?_
  refine v_putI C h_l0 fp_X11_272 dX11_emitWord_17 (fun G3 eG3 => ?_)
  have hf := bd_at hf eG3
  have hC : Cl sh G3 := by rw [eG3]; exact hC
  cases hf
  exact kr _ _ dX11_emitWord_20 hC
theorem sX11_emitWord {l : Launch} {sh : Sh} {G : Hp} {l0 : Nat} {l1 : Int32} {z : Hp} (h_l0 : sh[l0]? = some (0, 11)) (hf : fX11_emitWord sh G l0 l1 = some z) : MC l yX11_emitWord cX11_emitWord 2 none 1 0 0 sh sh G z (fun ad => [.ref (ad l0), .int l1]) (fun _ => none) := by
  refine MC_of rfl rfl (fun _ => Nat.le_of_ble_eq_true rfl) (fun E ad C hl hnm hC hQ => ?_)
  exact tX11_emitWord C hC h_l0 hf (fun pc lv hd hC => v_vret C hQ (fun _ _ => rfl) hC rfl hd)
def fX11_isTop (sh : Sh) (G : Hp) (l0 : Nat) (l1 : Int32) : Option (Int32) := if (G.1 l0 52) ≤ 0 then some 0 else (ldA sh G l0 51 1).bind fun a2 => (aI sh G a2 ((G.1 l0 52) - 1)).bind fun v3 => if v3 = l1 then some 1 else some 0
set_option maxHeartbeats 4000000 in
theorem tX11_isTop {E : EX} {ad : Nat → Nat} {sh : Sh} {G : Hp} {l0 : Nat} {l1 : Int32} {z : Int32} (C : Cx E RX11 cX11_isTop 2 (some .boolean) 1 0 0) (hC : Cl sh G) (h_l0 : sh[l0]? = some (0, 11)) (hf : fX11_isTop sh G l0 l1 = some z) (kr : RCz E cX11_isTop ad sh z G) : VV E 0 0 (wq (xT E) ad G sh) 0 [(0, .ref (ad l0)), (1, .int l1)] [] := by
  unfold fX11_isTop at hf
  refine v_aload_n C 0 dX11_isTop_0 rfl rfl ?_
  refine v_getI C h_l0 fl_X11_323 dX11_isTop_1 ?_
  refine v_if_le (tgt := 26) C dX11_isTop_4 (by decide) (fun c1 => ?_) (fun c1 => ?_)
  · have hf := ip hf c1
    refine v_iconst (v := 0) C dX11_isTop_26 (by decide) ?_
    cases hf
    exact kr _ _ dX11_isTop_27 (Or.inl rfl) hC
  · have hf := im hf c1
    refine v_aload_n C 0 dX11_isTop_7 rfl rfl ?_
    obtain ⟨a2, qa2, hf⟩ := bn hf
    refine v_getA C h_l0 fl_X11_122 qa2 dX11_isTop_8 (fun h_a2 => ?_)
    refine v_aload_n C 0 dX11_isTop_11 rfl rfl ?_
    refine v_getI C h_l0 fl_X11_323 dX11_isTop_12 ?_
    refine v_iconst (v := 1) C dX11_isTop_15 (by decide) ?_
    refine v_isub C dX11_isTop_16 ?_
    obtain ⟨v3, qv3, hf⟩ := bn hf
    refine v_iald C h_a2 qv3 dX11_isTop_17 ?_
    refine v_iload_n C 1 dX11_isTop_18 rfl rfl ?_
    refine v_icmp_ne (tgt := 26) C dX11_isTop_19 (by decide) (fun c4 => ?_) (fun c4 => ?_)
    · have hf := im hf c4
      refine v_iconst (v := 0) C dX11_isTop_26 (by decide) ?_
      cases hf
      exact kr _ _ dX11_isTop_27 (Or.inl rfl) hC
    · have hf := ip hf c4
      refine v_iconst (v := 1) C dX11_isTop_22 (by decide) ?_
      refine v_goto (tgt := 27) C dX11_isTop_23 (by decide) ?_
      cases hf
      exact kr _ _ dX11_isTop_27 (Or.inr rfl) hC
theorem sX11_isTop {l : Launch} {sh : Sh} {G : Hp} {l0 : Nat} {l1 : Int32} {z : Int32} (h_l0 : sh[l0]? = some (0, 11)) (hf : fX11_isTop sh G l0 l1 = some z) : MC l yX11_isTop cX11_isTop 2 (some .boolean) 1 0 0 sh sh G G (fun ad => [.ref (ad l0), .int l1]) (fun _ => some (.int z)) := by
  refine MC_of rfl rfl (fun _ => Nat.le_of_ble_eq_true rfl) (fun E ad C hl hnm hC hQ => ?_)
  exact tX11_isTop C hC h_l0 hf (fun pc lv hd hz hC => v_zret C hQ (fun _ _ => rfl) hC rfl hz hd)
def fX11_wordComes (sh : Sh) (G : Hp) (l0 : Nat) : Option (Hp) := bd (sI G l0 52 ((G.1 l0 52) - 1)) fun G1 => (ldA sh G1 l0 51 1).bind fun a2 => (aI sh G1 a2 (G1.1 l0 52)).bind fun v3 => if v3 = 28 then (fX11_emitWord sh G1 l0 8).bind fun G11 => some G11 else if v3 = 27 then (fX11_emitWord sh G1 l0 9).bind fun G9 => some G9 else (fX11_emitWord sh G1 l0 10).bind fun G7 => some G7
set_option maxHeartbeats 4000000 in
theorem tX11_wordComes {E : EX} {ad : Nat → Nat} {sh : Sh} {G : Hp} {l0 : Nat} {z : Hp} (C : Cx E RX11 cX11_wordComes 2 none 2 0 0) (hC : Cl sh G) (h_l0 : sh[l0]? = some (0, 11)) (hf : fX11_wordComes sh G l0 = some z) (kr : RCv E cX11_wordComes ad sh z) : VV E 0 0 (wq (xT E) ad G sh) 0 [(0, .ref (ad l0))] [] := by
  unfold fX11_wordComes at hf
  refine v_aload_n C 0 dX11_wordComes_0 rfl rfl ?_
  refine v_dup C dX11_wordComes_1 rfl ?_
  refine v_getI C h_l0 fl_X11_323 dX11_wordComes_2 ?_
  refine v_iconst (v := 1) C dX11_wordComes_5 (by decide) ?_
  refine v_isub C dX11_wordComes_6 ?_
  refine v_putI C h_l0 fp_X11_323 dX11_wordComes_7 (fun G1 eG1 => ?_)
  have hf := bd_at hf eG1
  have hC : Cl sh G1 := by rw [eG1]; exact hC
  refine v_aload_n C 0 dX11_wordComes_10 rfl rfl ?_
  obtain ⟨a2, qa2, hf⟩ := bn hf
  refine v_getA C h_l0 fl_X11_122 qa2 dX11_wordComes_11 (fun h_a2 => ?_)
  refine v_aload_n C 0 dX11_wordComes_14 rfl rfl ?_
  refine v_getI C h_l0 fl_X11_323 dX11_wordComes_15 ?_
  obtain ⟨v3, qv3, hf⟩ := bn hf
  refine v_iald C h_a2 qv3 dX11_wordComes_18 ?_
  refine v_istore_n (lv2 := [(1, .int v3), (0, .ref (ad l0))]) C dX11_wordComes_19 rfl (by decide) rfl ?_
  refine v_aload_n C 1 dX11_wordComes_20 rfl rfl ?_
  refine v_iload_n C 0 dX11_wordComes_21 rfl rfl ?_
  refine v_bipush (v := 28) C dX11_wordComes_22 (by decide) ?_
  refine v_icmp_ne (tgt := 32) C dX11_wordComes_24 (by decide) (fun c4 => ?_) (fun c4 => ?_)
  · have hf := im hf c4
    refine v_iload_n C 0 dX11_wordComes_32 rfl rfl ?_
    refine v_bipush (v := 27) C dX11_wordComes_33 (by decide) ?_
    refine v_icmp_ne (tgt := 43) C dX11_wordComes_35 (by decide) (fun c5 => ?_) (fun c5 => ?_)
    · have hf := im hf c5
      refine v_bipush (v := 10) C dX11_wordComes_43 (by decide) ?_
      obtain ⟨G7, qr6, hf⟩ := bn hf
      refine v_callVv (As := [.int 10]) (rest := []) C (sX11_emitWord h_l0 qr6) cs_X11_326 (by decide) h_l0 rfl hC rfl rfl rfl (Nat.le_of_ble_eq_true rfl) ⟨Nat.le_refl _, Nat.le_refl _⟩ dX11_wordComes_45 (fun hC => ?_)
      cases hf
      exact kr _ _ dX11_wordComes_48 hC
    · have hf := ip hf c5
      refine v_bipush (v := 9) C dX11_wordComes_38 (by decide) ?_
      refine v_goto (tgt := 45) C dX11_wordComes_40 (by decide) ?_
      obtain ⟨G9, qr8, hf⟩ := bn hf
      refine v_callVv (As := [.int 9]) (rest := []) C (sX11_emitWord h_l0 qr8) cs_X11_326 (by decide) h_l0 rfl hC rfl rfl rfl (Nat.le_of_ble_eq_true rfl) ⟨Nat.le_refl _, Nat.le_refl _⟩ dX11_wordComes_45 (fun hC => ?_)
      cases hf
      exact kr _ _ dX11_wordComes_48 hC
  · have hf := ip hf c4
    refine v_bipush (v := 8) C dX11_wordComes_27 (by decide) ?_
    refine v_goto (tgt := 45) C dX11_wordComes_29 (by decide) ?_
    obtain ⟨G11, qr10, hf⟩ := bn hf
    refine v_callVv (As := [.int 8]) (rest := []) C (sX11_emitWord h_l0 qr10) cs_X11_326 (by decide) h_l0 rfl hC rfl rfl rfl (Nat.le_of_ble_eq_true rfl) ⟨Nat.le_refl _, Nat.le_refl _⟩ dX11_wordComes_45 (fun hC => ?_)
    cases hf
    exact kr _ _ dX11_wordComes_48 hC
theorem sX11_wordComes {l : Launch} {sh : Sh} {G : Hp} {l0 : Nat} {z : Hp} (h_l0 : sh[l0]? = some (0, 11)) (hf : fX11_wordComes sh G l0 = some z) : MC l yX11_wordComes cX11_wordComes 2 none 2 0 0 sh sh G z (fun ad => [.ref (ad l0)]) (fun _ => none) := by
  refine MC_of rfl rfl (fun _ => Nat.le_of_ble_eq_true rfl) (fun E ad C hl hnm hC hQ => ?_)
  exact tX11_wordComes C hC h_l0 hf (fun pc lv hd hC => v_vret C hQ (fun _ _ => rfl) hC rfl hd)
def fX11_notsCome_S0 (sh : Sh) (l0 : Nat) (G : Hp)  : Option ((Hp) ⊕ ((Hp))) := (fX11_isTop sh G l0 28).bind fun r1 => if r1 = 0 then some (.inr G) else (fX11_wordComes sh G l0).bind fun G4 => some (.inl G4)
set_option maxHeartbeats 4000000 in
theorem tX11_notsCome_S0 {E : EX} {ad : Nat → Nat} {sh : Sh} {G : Hp} {l0 : Nat} {o : (Hp) ⊕ ((Hp))} (C : Cx E RX11 cX11_notsCome 1 none 3 0 0) (hC : Cl sh G) (h_l0 : sh[l0]? = some (0, 11)) (hf : fX11_notsCome_S0 sh l0 G  = some o) (kb : ∀ (G2 : Hp), o = .inl G2 → Cl sh G2 → VV E 0 0 (wq (xT E) ad G2 sh) 0 [(0, .ref (ad l0))] []) (kx16 : ∀ (G2 : Hp), o = .inr G2 → Cl sh G2 → VV E 0 0 (wq (xT E) ad G2 sh) 16 [(0, .ref (ad l0))] []) : VV E 0 0 (wq (xT E) ad G sh) 0 [(0, .ref (ad l0))] [] := by
  unfold fX11_notsCome_S0 at hf
  refine v_aload_n C 0 dX11_notsCome_0 rfl rfl ?_
  refine v_bipush (v := 28) C dX11_notsCome_1 (by decide) ?_
  obtain ⟨r1, qr1, hf⟩ := bn hf
  refine v_callVi (As := [.int 28]) (rest := []) C (sX11_isTop h_l0 qr1) cs_X11_329 (by decide) h_l0 rfl hC rfl rfl rfl (Nat.le_of_ble_eq_true rfl) ⟨Nat.le_refl _, Nat.le_refl _⟩ dX11_notsCome_3 (fun hC => ?_)
  refine v_if_eq (tgt := 16) C dX11_notsCome_6 (by decide) (fun c2 => ?_) (fun c2 => ?_)
  · have hf := ip hf c2
    cases hf
    refine v_sub [0] rfl ?_
    exact kx16 _ rfl hC
  · have hf := im hf c2
    refine v_aload_n C 0 dX11_notsCome_9 rfl rfl ?_
    obtain ⟨G4, qr3, hf⟩ := bn hf
    refine v_callVv (As := []) (rest := []) C (sX11_wordComes h_l0 qr3) cs_X11_332 (by decide) h_l0 rfl hC rfl rfl rfl (Nat.le_of_ble_eq_true rfl) ⟨Nat.le_refl _, Nat.le_refl _⟩ dX11_notsCome_10 (fun hC => ?_)
    refine v_goto (tgt := 0) C dX11_notsCome_13 (by decide) ?_
    cases hf
    refine v_sub [0] rfl ?_
    exact kb _ rfl hC
def fX11_notsCome (sh : Sh) (G : Hp) (l0 : Nat) : Option (Hp) := (fX11_isTop sh G l0 28).bind fun r1 => if r1 = 0 then some G else (fX11_wordComes sh G l0).bind fun G4 => (iter (fun s : Hp => fX11_notsCome_S0 sh l0 s ) fuel (G4 : Hp)).bind (fun u7 => bd u7 fun G6 => some G6)
set_option maxHeartbeats 4000000 in
theorem tX11_notsCome {E : EX} {ad : Nat → Nat} {sh : Sh} {G : Hp} {l0 : Nat} {z : Hp} (C : Cx E RX11 cX11_notsCome 1 none 3 0 0) (hC : Cl sh G) (h_l0 : sh[l0]? = some (0, 11)) (hf : fX11_notsCome sh G l0 = some z) (kr : RCv E cX11_notsCome ad sh z) : VV E 0 0 (wq (xT E) ad G sh) 0 [(0, .ref (ad l0))] [] := by
  unfold fX11_notsCome at hf
  refine v_aload_n C 0 dX11_notsCome_0 rfl rfl ?_
  refine v_bipush (v := 28) C dX11_notsCome_1 (by decide) ?_
  obtain ⟨r1, qr1, hf⟩ := bn hf
  refine v_callVi (As := [.int 28]) (rest := []) C (sX11_isTop h_l0 qr1) cs_X11_329 (by decide) h_l0 rfl hC rfl rfl rfl (Nat.le_of_ble_eq_true rfl) ⟨Nat.le_refl _, Nat.le_refl _⟩ dX11_notsCome_3 (fun hC => ?_)
  refine v_if_eq (tgt := 16) C dX11_notsCome_6 (by decide) (fun c2 => ?_) (fun c2 => ?_)
  · have hf := ip hf c2
    cases hf
    exact kr _ _ dX11_notsCome_16 hC
  · have hf := im hf c2
    refine v_aload_n C 0 dX11_notsCome_9 rfl rfl ?_
    obtain ⟨G4, qr3, hf⟩ := bn hf
    refine v_callVv (As := []) (rest := []) C (sX11_wordComes h_l0 qr3) cs_X11_332 (by decide) h_l0 rfl hC rfl rfl rfl (Nat.le_of_ble_eq_true rfl) ⟨Nat.le_refl _, Nat.le_refl _⟩ dX11_notsCome_10 (fun hC => ?_)
    refine v_goto (tgt := 0) C dX11_notsCome_13 (by decide) ?_
    obtain ⟨r5, qr5, hf⟩ := bn hf
    refine v_sub [0] rfl ?_
    refine iter_sound (P := (fun s : Hp => Cl sh (s) → VV E 0 0 (wq (xT E) ad (s) sh) 0 [(0, .ref (ad l0))] [])) (X := fun r => r = r5) (fun jsr5 jor5 hor5 jbr5 jxr5 hC => tX11_notsCome_S0 C hC h_l0 hor5 (fun _ e => jbr5 _ e) ?_) fuel _ r5 qr5 rfl hC
    · intro G6 hu hC
      have e := jxr5 _ hu
      subst e
      have hf := bd_at hf (rfl : G6 = _)
      cases hf
      exact kr _ _ dX11_notsCome_16 hC
theorem sX11_notsCome {l : Launch} {sh : Sh} {G : Hp} {l0 : Nat} {z : Hp} (h_l0 : sh[l0]? = some (0, 11)) (hf : fX11_notsCome sh G l0 = some z) : MC l yX11_notsCome cX11_notsCome 1 none 3 0 0 sh sh G z (fun ad => [.ref (ad l0)]) (fun _ => none) := by
  refine MC_of rfl rfl (fun _ => Nat.le_of_ble_eq_true rfl) (fun E ad C hl hnm hC hQ => ?_)
  exact tX11_notsCome C hC h_l0 hf (fun pc lv hd hC => v_vret C hQ (fun _ _ => rfl) hC rfl hd)
def fX11_closes_S0 (sh : Sh) (l0 : Nat) (G : Hp)  : Option ((Hp) ⊕ ((Hp))) := (fX11_isTop sh G l0 27).bind fun r1 => if r1 = 0 then (fX11_isTop sh G l0 26).bind fun r5 => if r5 = 0 then some (.inr G) else (fX11_wordComes sh G l0).bind fun G8 => some (.inl G8) else (fX11_wordComes sh G l0).bind fun G4 => some (.inl G4)
set_option maxHeartbeats 4000000 in
theorem tX11_closes_S0 {E : EX} {ad : Nat → Nat} {sh : Sh} {G : Hp} {l0 : Nat} {o : (Hp) ⊕ ((Hp))} (C : Cx E RX11 cX11_closes 1 none 4 0 0) (hC : Cl sh G) (h_l0 : sh[l0]? = some (0, 11)) (hf : fX11_closes_S0 sh l0 G  = some o) (kb : ∀ (G2 : Hp), o = .inl G2 → Cl sh G2 → VV E 0 0 (wq (xT E) ad G2 sh) 0 [(0, .ref (ad l0))] []) (kx25 : ∀ (G2 : Hp), o = .inr G2 → Cl sh G2 → VV E 0 0 (wq (xT E) ad G2 sh) 25 [(0, .ref (ad l0))] []) : VV E 0 0 (wq (xT E) ad G sh) 0 [(0, .ref (ad l0))] [] := by
  unfold fX11_closes_S0 at hf
  refine v_aload_n C 0 dX11_closes_0 rfl rfl ?_
  refine v_bipush (v := 27) C dX11_closes_1 (by decide) ?_
  obtain ⟨r1, qr1, hf⟩ := bn hf
  refine v_callVi (As := [.int 27]) (rest := []) C (sX11_isTop h_l0 qr1) cs_X11_329 (by decide) h_l0 rfl hC rfl rfl rfl (Nat.le_of_ble_eq_true rfl) ⟨Nat.le_refl _, Nat.le_refl _⟩ dX11_closes_3 (fun hC => ?_)
  refine v_if_ne (tgt := 18) C dX11_closes_6 (by decide) (fun c2 => ?_) (fun c2 => ?_)
  · have hf := im hf c2
    refine v_aload_n C 0 dX11_closes_18 rfl rfl ?_
    obtain ⟨G4, qr3, hf⟩ := bn hf
    refine v_callVv (As := []) (rest := []) C (sX11_wordComes h_l0 qr3) cs_X11_332 (by decide) h_l0 rfl hC rfl rfl rfl (Nat.le_of_ble_eq_true rfl) ⟨Nat.le_refl _, Nat.le_refl _⟩ dX11_closes_19 (fun hC => ?_)
    refine v_goto (tgt := 0) C dX11_closes_22 (by decide) ?_
    cases hf
    refine v_sub [0] rfl ?_
    exact kb _ rfl hC
  · have hf := ip hf c2
    refine v_aload_n C 0 dX11_closes_9 rfl rfl ?_
    refine v_bipush (v := 26) C dX11_closes_10 (by decide) ?_
    obtain ⟨r5, qr5, hf⟩ := bn hf
    refine v_callVi (As := [.int 26]) (rest := []) C (sX11_isTop h_l0 qr5) cs_X11_329 (by decide) h_l0 rfl hC rfl rfl rfl (Nat.le_of_ble_eq_true rfl) ⟨Nat.le_refl _, Nat.le_refl _⟩ dX11_closes_12 (fun hC => ?_)
    refine v_if_eq (tgt := 25) C dX11_closes_15 (by decide) (fun c6 => ?_) (fun c6 => ?_)
    · have hf := ip hf c6
      cases hf
      refine v_sub [0] rfl ?_
      exact kx25 _ rfl hC
    · have hf := im hf c6
      refine v_aload_n C 0 dX11_closes_18 rfl rfl ?_
      obtain ⟨G8, qr7, hf⟩ := bn hf
      refine v_callVv (As := []) (rest := []) C (sX11_wordComes h_l0 qr7) cs_X11_332 (by decide) h_l0 rfl hC rfl rfl rfl (Nat.le_of_ble_eq_true rfl) ⟨Nat.le_refl _, Nat.le_refl _⟩ dX11_closes_19 (fun hC => ?_)
      refine v_goto (tgt := 0) C dX11_closes_22 (by decide) ?_
      cases hf
      refine v_sub [0] rfl ?_
      exact kb _ rfl hC
def fX11_closes_J18 (sh : Sh) (G : Hp) (l0 : Nat) : Option (Hp) := (fX11_wordComes sh G l0).bind fun G2 => (iter (fun s : Hp => fX11_closes_S0 sh l0 s ) fuel (G2 : Hp)).bind (fun u10 => bd u10 fun G4 => bd (sI G4 l0 52 ((G4.1 l0 52) - 1)) fun G5 => (fX11_goesOn sh G5 l0).bind fun G7 => (fX11_notsCome sh G7 l0).bind fun G9 => some G9)
set_option maxHeartbeats 4000000 in
theorem tX11_closes_J18 {E : EX} {ad : Nat → Nat} {sh : Sh} {G : Hp} {l0 : Nat} {z : Hp} (C : Cx E RX11 cX11_closes 1 none 4 0 0) (hC : Cl sh G) (h_l0 : sh[l0]? = some (0, 11)) (hf : fX11_closes_J18 sh G l0 = some z) (kr : RCv E cX11_closes ad sh z) : VV E 0 0 (wq (xT E) ad G sh) 18 [(0, .ref (ad l0))] [] := by
  unfold fX11_closes_J18 at hf
  refine v_aload_n C 0 dX11_closes_18 rfl rfl ?_
  obtain ⟨G2, qr1, hf⟩ := bn hf
  refine v_callVv (As := []) (rest := []) C (sX11_wordComes h_l0 qr1) cs_X11_332 (by decide) h_l0 rfl hC rfl rfl rfl (Nat.le_of_ble_eq_true rfl) ⟨Nat.le_refl _, Nat.le_refl _⟩ dX11_closes_19 (fun hC => ?_)
  refine v_goto (tgt := 0) C dX11_closes_22 (by decide) ?_
  obtain ⟨r3, qr3, hf⟩ := bn hf
  refine v_sub [0] rfl ?_
  refine iter_sound (P := (fun s : Hp => Cl sh (s) → VV E 0 0 (wq (xT E) ad (s) sh) 0 [(0, .ref (ad l0))] [])) (X := fun r => r = r3) (fun jsr3 jor3 hor3 jbr3 jxr3 hC => tX11_closes_S0 C hC h_l0 hor3 (fun _ e => jbr3 _ e) ?_) fuel _ r3 qr3 rfl hC
  · intro G4 hu hC
    have e := jxr3 _ hu
    subst e
    have hf := bd_at hf (rfl : G4 = _)
    refine v_aload_n C 0 dX11_closes_25 rfl rfl ?_
    refine v_dup C dX11_closes_26 rfl ?_
    refine v_getI C h_l0 fl_X11_323 dX11_closes_27 ?_
    refine v_iconst (v := 1) C dX11_closes_30 (by decide) ?_
    refine v_isub C dX11_closes_31 ?_
    refine v_putI C h_l0 fp_X11_323 dX11_closes_32 (fun G5 eG5 => ?_)
    have hf := bd_at hf eG5
    have hC : Cl sh G5 := by rw [eG5]; exact hC
    refine v_aload_n C 0 dX11_closes_35 rfl rfl ?_
    obtain ⟨G7, qr6, hf⟩ := bn hf
    refine v_callVv (As := []) (rest := []) C (sX11_goesOn h_l0 qr6) cs_X11_248 (by decide) h_l0 rfl hC rfl rfl rfl (Nat.le_of_ble_eq_true rfl) ⟨Nat.le_refl _, Nat.le_refl _⟩ dX11_closes_36 (fun hC => ?_)
    refine v_aload_n C 0 dX11_closes_39 rfl rfl ?_
    obtain ⟨G9, qr8, hf⟩ := bn hf
    refine v_callVv (As := []) (rest := []) C (sX11_notsCome h_l0 qr8) cs_X11_335 (by decide) h_l0 rfl hC rfl rfl rfl (Nat.le_of_ble_eq_true rfl) ⟨Nat.le_refl _, Nat.le_refl _⟩ dX11_closes_40 (fun hC => ?_)
    cases hf
    exact kr _ _ dX11_closes_43 hC
def fX11_closes (sh : Sh) (G : Hp) (l0 : Nat) : Option (Hp) := (fX11_isTop sh G l0 27).bind fun r1 => if r1 = 0 then (fX11_isTop sh G l0 26).bind fun r3 => if r3 = 0 then bd (sI G l0 52 ((G.1 l0 52) - 1)) fun G5 => (fX11_goesOn sh G5 l0).bind fun G7 => (fX11_notsCome sh G7 l0).bind fun G9 => some G9 else fX11_closes_J18 sh G l0 else fX11_closes_J18 sh G l0
set_option maxHeartbeats 4000000 in
theorem tX11_closes {E : EX} {ad : Nat → Nat} {sh : Sh} {G : Hp} {l0 : Nat} {z : Hp} (C : Cx E RX11 cX11_closes 1 none 4 0 0) (hC : Cl sh G) (h_l0 : sh[l0]? = some (0, 11)) (hf : fX11_closes sh G l0 = some z) (kr : RCv E cX11_closes ad sh z) : VV E 0 0 (wq (xT E) ad G sh) 0 [(0, .ref (ad l0))] [] := by
  unfold fX11_closes at hf
  refine v_aload_n C 0 dX11_closes_0 rfl rfl ?_
  refine v_bipush (v := 27) C dX11_closes_1 (by decide) ?_
  obtain ⟨r1, qr1, hf⟩ := bn hf
  refine v_callVi (As := [.int 27]) (rest := []) C (sX11_isTop h_l0 qr1) cs_X11_329 (by decide) h_l0 rfl hC rfl rfl rfl (Nat.le_of_ble_eq_true rfl) ⟨Nat.le_refl _, Nat.le_refl _⟩ dX11_closes_3 (fun hC => ?_)
  refine v_if_ne (tgt := 18) C dX11_closes_6 (by decide) (fun c2 => ?_) (fun c2 => ?_)
  · have hf := im hf c2
    refine v_sub [0] rfl ?_
    exact tX11_closes_J18 C hC h_l0 hf kr
  · have hf := ip hf c2
    refine v_aload_n C 0 dX11_closes_9 rfl rfl ?_
    refine v_bipush (v := 26) C dX11_closes_10 (by decide) ?_
    obtain ⟨r3, qr3, hf⟩ := bn hf
    refine v_callVi (As := [.int 26]) (rest := []) C (sX11_isTop h_l0 qr3) cs_X11_329 (by decide) h_l0 rfl hC rfl rfl rfl (Nat.le_of_ble_eq_true rfl) ⟨Nat.le_refl _, Nat.le_refl _⟩ dX11_closes_12 (fun hC => ?_)
    refine v_if_eq (tgt := 25) C dX11_closes_15 (by decide) (fun c4 => ?_) (fun c4 => ?_)
    · have hf := ip hf c4
      refine v_aload_n C 0 dX11_closes_25 rfl rfl ?_
      refine v_dup C dX11_closes_26 rfl ?_
      refine v_getI C h_l0 fl_X11_323 dX11_closes_27 ?_
      refine v_iconst (v := 1) C dX11_closes_30 (by decide) ?_
      refine v_isub C dX11_closes_31 ?_
      refine v_putI C h_l0 fp_X11_323 dX11_closes_32 (fun G5 eG5 => ?_)
      have hf := bd_at hf eG5
      have hC : Cl sh G5 := by rw [eG5]; exact hC
      refine v_aload_n C 0 dX11_closes_35 rfl rfl ?_
      obtain ⟨G7, qr6, hf⟩ := bn hf
      refine v_callVv (As := []) (rest := []) C (sX11_goesOn h_l0 qr6) cs_X11_248 (by decide) h_l0 rfl hC rfl rfl rfl (Nat.le_of_ble_eq_true rfl) ⟨Nat.le_refl _, Nat.le_refl _⟩ dX11_closes_36 (fun hC => ?_)
      refine v_aload_n C 0 dX11_closes_39 rfl rfl ?_
      obtain ⟨G9, qr8, hf⟩ := bn hf
      refine v_callVv (As := []) (rest := []) C (sX11_notsCome h_l0 qr8) cs_X11_335 (by decide) h_l0 rfl hC rfl rfl rfl (Nat.le_of_ble_eq_true rfl) ⟨Nat.le_refl _, Nat.le_refl _⟩ dX11_closes_40 (fun hC => ?_)
      cases hf
      exact kr _ _ dX11_closes_43 hC
    · have hf := im hf c4
      refine v_sub [0] rfl ?_
      exact tX11_closes_J18 C hC h_l0 hf kr
theorem sX11_closes {l : Launch} {sh : Sh} {G : Hp} {l0 : Nat} {z : Hp} (h_l0 : sh[l0]? = some (0, 11)) (hf : fX11_closes sh G l0 = some z) : MC l yX11_closes cX11_closes 1 none 4 0 0 sh sh G z (fun ad => [.ref (ad l0)]) (fun _ => none) := by
  refine MC_of rfl rfl (fun _ => Nat.le_of_ble_eq_true rfl) (fun E ad C hl hnm hC hQ => ?_)
  exact tX11_closes C hC h_l0 hf (fun pc lv hd hC => v_vret C hQ (fun _ _ => rfl) hC rfl hd)
