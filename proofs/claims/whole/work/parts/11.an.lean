def fX11_put_S3 (sh : Sh) (l0 : Nat) (l1 : Int32) (G : Hp) (l2 : Int32) : Option ((Hp × Int32) ⊕ ((Hp))) := if l2 < 0 then some (.inr G) else (ldA sh G l0 1 2).bind fun a2 => (asI sh G a2 (G.1 l0 2) (Int8.toInt32 (Int32.toInt8 (Int8.toInt32 (Int32.toInt8 (l1 >>> (l2 &&& 31))))))).bind fun G3 => bd (sI G3 l0 2 ((G3.1 l0 2) + 1)) fun G4 => bd ((l2 + (-8)) : Int32) fun x5 => some (.inl (G4, x5))
set_option maxHeartbeats 4000000 in
theorem tX11_put_S3 {E : EX} {ad : Nat → Nat} {sh : Sh} {G : Hp} {l0 : Nat} {l1 : Int32} {l2 : Int32} {o : (Hp × Int32) ⊕ ((Hp))} (C : Cx E RX11 cX11_put 3 none 1 0 0) (hC : Cl sh G) (h_l0 : sh[l0]? = some (0, 11)) (hf : fX11_put_S3 sh l0 l1 G l2 = some o) (kb : ∀ (G2 : Hp) (b_l2 : Int32), o = .inl (G2, b_l2) → Cl sh G2 → VV E 0 0 (wq (xT E) ad G2 sh) 3 [(0, .ref (ad l0)), (1, .int l1), (2, .int b_l2)] []) (kx36 : ∀ (G2 : Hp), o = .inr G2 → Cl sh G2 → VV E 0 0 (wq (xT E) ad G2 sh) 36 [(0, .ref (ad l0)), (1, .int l1)] []) : VV E 0 0 (wq (xT E) ad G sh) 3 [(0, .ref (ad l0)), (1, .int l1), (2, .int l2)] [] := by
  unfold fX11_put_S3 at hf
  refine v_iload_n C 2 dX11_put_3 rfl rfl ?_
  refine v_if_lt (tgt := 36) C dX11_put_4 (by decide) (fun c1 => ?_) (fun c1 => ?_)
  · have hf := ip hf c1
    cases hf
    refine v_sub [0, 1] rfl ?_
    exact kx36 _ rfl hC
  · have hf := im hf c1
    refine v_aload_n C 0 dX11_put_7 rfl rfl ?_
    obtain ⟨a2, qa2, hf⟩ := bn hf
    refine v_getA C h_l0 fl_X11_13 qa2 dX11_put_8 (fun h_a2 => ?_)
    refine v_aload_n C 0 dX11_put_11 rfl rfl ?_
    refine v_getI C h_l0 fl_X11_190 dX11_put_12 ?_
    refine v_iload_n C 1 dX11_put_15 rfl rfl ?_
    refine v_iload_n C 2 dX11_put_16 rfl rfl ?_
    refine v_ishr C dX11_put_17 ?_
    refine v_i2b C dX11_put_18 ?_
    obtain ⟨G3, qG3, hf⟩ := bn hf
    refine v_bast C h_a2 qG3 hC dX11_put_19 (fun hC => ?_)
    refine v_aload_n C 0 dX11_put_20 rfl rfl ?_
    refine v_dup C dX11_put_21 rfl ?_
    refine v_getI C h_l0 fl_X11_190 dX11_put_22 ?_
    refine v_iconst (v := 1) C dX11_put_25 (by decide) ?_
    refine v_iadd C dX11_put_26 ?_
    refine v_putI C h_l0 fp_X11_190 dX11_put_27 (fun G4 eG4 => ?_)
    have hf := bd_at hf eG4
    have hC : Cl sh G4 := by rw [eG4]; exact hC
    obtain ⟨x5, ex5⟩ : ∃ x : Int32, x = (l2 + (-8)) := ⟨_, rfl⟩
    have hf := bd_at hf ex5
    refine v_iinc (v := x5) (j := 2) (lv2 := [(2, .int x5), (0, .ref (ad l0)), (1, .int l1)]) C dX11_put_30 rfl (by rw [ex5]; rfl) (by decide) rfl ?_
    refine v_goto (tgt := 3) C dX11_put_33 (by decide) ?_
    cases hf
    refine v_sub [1, 2, 0] rfl ?_
    exact kb _ _ rfl hC
def fX11_put (sh : Sh) (G : Hp) (l0 : Nat) (l1 : Int32) : Option (Hp) := (iter (fun s : Hp × Int32 => fX11_put_S3 sh l0 l1 s.1 s.2) fuel ((G, 24) : Hp × Int32)).bind (fun u3 => bd u3 fun G2 => some G2)
set_option maxHeartbeats 4000000 in
theorem tX11_put {E : EX} {ad : Nat → Nat} {sh : Sh} {G : Hp} {l0 : Nat} {l1 : Int32} {z : Hp} (C : Cx E RX11 cX11_put 3 none 1 0 0) (hC : Cl sh G) (h_l0 : sh[l0]? = some (0, 11)) (hf : fX11_put sh G l0 l1 = some z) (kr : RCv E cX11_put ad sh z) : VV E 0 0 (wq (xT E) ad G sh) 0 [(0, .ref (ad l0)), (1, .int l1)] [] := by
  unfold fX11_put at hf
  refine v_bipush (v := 24) C dX11_put_0 (by decide) ?_
  refine v_istore_n (lv2 := [(2, .int 24), (0, .ref (ad l0)), (1, .int l1)]) C dX11_put_2 rfl (by decide) rfl ?_
  obtain ⟨r1, qr1, hf⟩ := bn hf
  refine v_sub [1, 2, 0] rfl ?_
  refine iter_sound (P := (fun s : Hp × Int32 => Cl sh (s.1) → VV E 0 0 (wq (xT E) ad (s.1) sh) 3 [(0, .ref (ad l0)), (1, .int (l1)), (2, .int (s.2))] [])) (X := fun r => r = r1) (fun jsr1 jor1 hor1 jbr1 jxr1 hC => tX11_put_S3 C hC h_l0 hor1 (fun _ _ e => jbr1 _ e) ?_) fuel _ r1 qr1 rfl hC
  · intro G2 hu hC
    have e := jxr1 _ hu
    subst e
    have hf := bd_at hf (rfl : G2 = _)
    cases hf
    exact kr _ _ dX11_put_36 hC
theorem sX11_put {l : Launch} {sh : Sh} {G : Hp} {l0 : Nat} {l1 : Int32} {z : Hp} (h_l0 : sh[l0]? = some (0, 11)) (hf : fX11_put sh G l0 l1 = some z) : MC l yX11_put cX11_put 3 none 1 0 0 sh sh G z (fun ad => [.ref (ad l0), .int l1]) (fun _ => none) := by
  refine MC_of rfl rfl (fun _ => Nat.le_of_ble_eq_true rfl) (fun E ad C hl hnm hC hQ => ?_)
  exact tX11_put C hC h_l0 hf (fun pc lv hd hC => v_vret C hQ (fun _ _ => rfl) hC rfl hd)
def fX11_feed (sh : Sh) (G : Hp) (l0 : Nat) (l1 : Int32) (l2 : Int32) (l3 : Int32) (l4 : Int32) (l5 : Int32) : Option (Int32 × Hp) := if ((G.1 l0 2) + 20) ≤ 2000 then (fX11_put sh G l0 l1).bind fun G3 => (fX11_put sh G3 l0 l2).bind fun G5 => (fX11_put sh G5 l0 l3).bind fun G7 => (fX11_put sh G7 l0 l4).bind fun G9 => (fX11_put sh G9 l0 l5).bind fun G11 => some ((G11.1 l0 2), G11) else some ((-1), G)
set_option maxHeartbeats 4000000 in
theorem tX11_feed {E : EX} {ad : Nat → Nat} {sh : Sh} {G : Hp} {l0 : Nat} {l1 : Int32} {l2 : Int32} {l3 : Int32} {l4 : Int32} {l5 : Int32} {z : Int32 × Hp} (C : Cx E RX11 cX11_feed 6 (some .int) 2 0 0) (hC : Cl sh G) (h_l0 : sh[l0]? = some (0, 11)) (hf : fX11_feed sh G l0 l1 l2 l3 l4 l5 = some z) (kr : RCi E cX11_feed ad sh (z.1) (z.2)) : VV E 0 0 (wq (xT E) ad G sh) 0 [(0, .ref (ad l0)), (1, .int l1), (2, .int l2), (3, .int l3), (4, .int l4), (5, .int l5)] [] := by
  unfold fX11_feed at hf
  refine v_aload_n C 0 dX11_feed_0 rfl rfl ?_
  refine v_getI C h_l0 fl_X11_190 dX11_feed_1 ?_
  refine v_bipush (v := 20) C dX11_feed_4 (by decide) ?_
  refine v_iadd C dX11_feed_6 ?_
  refine v_sipush (v := 2000) C dX11_feed_7 (by decide) ?_
  refine v_icmp_le (tgt := 15) C dX11_feed_10 (by decide) (fun c1 => ?_) (fun c1 => ?_)
  · have hf := ip hf c1
    refine v_aload_n C 0 dX11_feed_15 rfl rfl ?_
    refine v_iload_n C 1 dX11_feed_16 rfl rfl ?_
    obtain ⟨G3, qr2, hf⟩ := bn hf
    refine v_callVv (As := [.int l1]) (rest := []) C (sX11_put h_l0 qr2) cs_X11_193 (by decide) h_l0 rfl hC rfl rfl rfl (Nat.le_of_ble_eq_true rfl) ⟨Nat.le_refl _, Nat.le_refl _⟩ dX11_feed_17 (fun hC => ?_)
    refine v_aload_n C 0 dX11_feed_20 rfl rfl ?_
    refine v_iload_n C 2 dX11_feed_21 rfl rfl ?_
    obtain ⟨G5, qr4, hf⟩ := bn hf
    refine v_callVv (As := [.int l2]) (rest := []) C (sX11_put h_l0 qr4) cs_X11_193 (by decide) h_l0 rfl hC rfl rfl rfl (Nat.le_of_ble_eq_true rfl) ⟨Nat.le_refl _, Nat.le_refl _⟩ dX11_feed_22 (fun hC => ?_)
    refine v_aload_n C 0 dX11_feed_25 rfl rfl ?_
    refine v_iload_n C 3 dX11_feed_26 rfl rfl ?_
    obtain ⟨G7, qr6, hf⟩ := bn hf
    refine v_callVv (As := [.int l3]) (rest := []) C (sX11_put h_l0 qr6) cs_X11_193 (by decide) h_l0 rfl hC rfl rfl rfl (Nat.le_of_ble_eq_true rfl) ⟨Nat.le_refl _, Nat.le_refl _⟩ dX11_feed_27 (fun hC => ?_)
    refine v_aload_n C 0 dX11_feed_30 rfl rfl ?_
    refine v_iload C 4 dX11_feed_31 rfl ?_
    obtain ⟨G9, qr8, hf⟩ := bn hf
    refine v_callVv (As := [.int l4]) (rest := []) C (sX11_put h_l0 qr8) cs_X11_193 (by decide) h_l0 rfl hC rfl rfl rfl (Nat.le_of_ble_eq_true rfl) ⟨Nat.le_refl _, Nat.le_refl _⟩ dX11_feed_33 (fun hC => ?_)
    refine v_aload_n C 0 dX11_feed_36 rfl rfl ?_
    refine v_iload C 5 dX11_feed_37 rfl ?_
    obtain ⟨G11, qr10, hf⟩ := bn hf
    refine v_callVv (As := [.int l5]) (rest := []) C (sX11_put h_l0 qr10) cs_X11_193 (by decide) h_l0 rfl hC rfl rfl rfl (Nat.le_of_ble_eq_true rfl) ⟨Nat.le_refl _, Nat.le_refl _⟩ dX11_feed_39 (fun hC => ?_)
    refine v_aload_n C 0 dX11_feed_42 rfl rfl ?_
    refine v_getI C h_l0 fl_X11_190 dX11_feed_43 ?_
    cases hf
    exact kr _ _ dX11_feed_46 hC
  · have hf := im hf c1
    refine v_iconst (v := (-1)) C dX11_feed_13 (by decide) ?_
    cases hf
    exact kr _ _ dX11_feed_14 hC
theorem sX11_feed {l : Launch} {sh : Sh} {G : Hp} {l0 : Nat} {l1 : Int32} {l2 : Int32} {l3 : Int32} {l4 : Int32} {l5 : Int32} {z : Int32 × Hp} (h_l0 : sh[l0]? = some (0, 11)) (hf : fX11_feed sh G l0 l1 l2 l3 l4 l5 = some z) : MC l yX11_feed cX11_feed 6 (some .int) 2 0 0 sh sh G (z.2) (fun ad => [.ref (ad l0), .int l1, .int l2, .int l3, .int l4, .int l5]) (fun _ => some (.int z.1)) := by
  refine MC_of rfl rfl (fun _ => Nat.le_of_ble_eq_true rfl) (fun E ad C hl hnm hC hQ => ?_)
  exact tX11_feed C hC h_l0 hf (fun pc lv hd hC => v_iret C hQ (fun _ _ => rfl) hC rfl hd)
def fX11_forget (sh : Sh) (G : Hp) (l0 : Nat) : Option (Int32 × Hp) := bd ((G.1 l0 74) : Int32) fun x1 => bd (sI G l0 74 0) fun G2 => some (x1, G2)
set_option maxHeartbeats 4000000 in
theorem tX11_forget {E : EX} {ad : Nat → Nat} {sh : Sh} {G : Hp} {l0 : Nat} {z : Int32 × Hp} (C : Cx E RX11 cX11_forget 2 (some .int) 1 0 0) (hC : Cl sh G) (h_l0 : sh[l0]? = some (0, 11)) (hf : fX11_forget sh G l0 = some z) (kr : RCi E cX11_forget ad sh (z.1) (z.2)) : VV E 0 0 (wq (xT E) ad G sh) 0 [(0, .ref (ad l0))] [] := by
  unfold fX11_forget at hf
  refine v_aload_n C 0 dX11_forget_0 rfl rfl ?_
  refine v_getI C h_l0 fl_X11_281 dX11_forget_1 ?_
  refine v_topi (fun x1 ex1 => ?_)
  have hf := bd_at hf ex1
  refine v_istore_n (lv2 := [(1, .int x1), (0, .ref (ad l0))]) C dX11_forget_4 rfl (by decide) rfl ?_
  refine v_aload_n C 1 dX11_forget_5 rfl rfl ?_
  refine v_iconst (v := 0) C dX11_forget_6 (by decide) ?_
  refine v_putI C h_l0 fp_X11_281 dX11_forget_7 (fun G2 eG2 => ?_)
  have hf := bd_at hf eG2
  have hC : Cl sh G2 := by rw [eG2]; exact hC
  refine v_iload_n C 0 dX11_forget_10 rfl rfl ?_
  cases hf
  exact kr _ _ dX11_forget_11 hC
theorem sX11_forget {l : Launch} {sh : Sh} {G : Hp} {l0 : Nat} {z : Int32 × Hp} (h_l0 : sh[l0]? = some (0, 11)) (hf : fX11_forget sh G l0 = some z) : MC l yX11_forget cX11_forget 2 (some .int) 1 0 0 sh sh G (z.2) (fun ad => [.ref (ad l0)]) (fun _ => some (.int z.1)) := by
  refine MC_of rfl rfl (fun _ => Nat.le_of_ble_eq_true rfl) (fun E ad C hl hnm hC hQ => ?_)
  exact tX11_forget C hC h_l0 hf (fun pc lv hd hC => v_iret C hQ (fun _ _ => rfl) hC rfl hd)
def fX11_hold_S20 (sh : Sh) (l0 : Nat) (l1 : Int32) (G : Hp) (l2 : Int32) : Option ((Hp × Int32) ⊕ ((Hp))) := if 26 ≤ l2 then some (.inr G) else (ldA sh G l0 78 1).bind fun a2 => (ldA sh G l0 58 1).bind fun a3 => (aI sh G a3 l2).bind fun v4 => (asI sh G a2 (((26 : Int32) * l1) + l2) v4).bind fun G5 => bd ((l2 + 1) : Int32) fun x6 => some (.inl (G5, x6))
set_option maxHeartbeats 4000000 in
theorem tX11_hold_S20 {E : EX} {ad : Nat → Nat} {sh : Sh} {G : Hp} {l0 : Nat} {l1 : Int32} {l2 : Int32} {o : (Hp × Int32) ⊕ ((Hp))} (C : Cx E RX11 cX11_hold 3 (some .boolean) 2 0 0) (hC : Cl sh G) (h_l0 : sh[l0]? = some (0, 11)) (hf : fX11_hold_S20 sh l0 l1 G l2 = some o) (kb : ∀ (G2 : Hp) (b_l2 : Int32), o = .inl (G2, b_l2) → Cl sh G2 → VV E 0 0 (wq (xT E) ad G2 sh) 20 [(0, .ref (ad l0)), (1, .int l1), (2, .int b_l2)] []) (kx49 : ∀ (G2 : Hp), o = .inr G2 → Cl sh G2 → VV E 0 0 (wq (xT E) ad G2 sh) 49 [(0, .ref (ad l0)), (1, .int l1)] []) : VV E 0 0 (wq (xT E) ad G sh) 20 [(0, .ref (ad l0)), (1, .int l1), (2, .int l2)] [] := by
  unfold fX11_hold_S20 at hf
  refine v_iload_n C 2 dX11_hold_20 rfl rfl ?_
  refine v_bipush (v := 26) C dX11_hold_21 (by decide) ?_
  refine v_icmp_ge (tgt := 49) C dX11_hold_23 (by decide) (fun c1 => ?_) (fun c1 => ?_)
  · have hf := ip hf c1
    cases hf
    refine v_sub [0, 1] rfl ?_
    exact kx49 _ rfl hC
  · have hf := im hf c1
    refine v_aload_n C 0 dX11_hold_26 rfl rfl ?_
    obtain ⟨a2, qa2, hf⟩ := bn hf
    refine v_getA C h_l0 fl_X11_173 qa2 dX11_hold_27 (fun h_a2 => ?_)
    refine v_bipush (v := 26) C dX11_hold_30 (by decide) ?_
    refine v_iload_n C 1 dX11_hold_32 rfl rfl ?_
    refine v_imul C dX11_hold_33 ?_
    refine v_iload_n C 2 dX11_hold_34 rfl rfl ?_
    refine v_iadd C dX11_hold_35 ?_
    refine v_aload_n C 0 dX11_hold_36 rfl rfl ?_
    obtain ⟨a3, qa3, hf⟩ := bn hf
    refine v_getA C h_l0 fl_X11_134 qa3 dX11_hold_37 (fun h_a3 => ?_)
    refine v_iload_n C 2 dX11_hold_40 rfl rfl ?_
    obtain ⟨v4, qv4, hf⟩ := bn hf
    refine v_iald C h_a3 qv4 dX11_hold_41 ?_
    obtain ⟨G5, qG5, hf⟩ := bn hf
    refine v_iast C h_a2 qG5 hC dX11_hold_42 (fun hC => ?_)
    obtain ⟨x6, ex6⟩ : ∃ x : Int32, x = (l2 + 1) := ⟨_, rfl⟩
    have hf := bd_at hf ex6
    refine v_iinc (v := x6) (j := 2) (lv2 := [(2, .int x6), (0, .ref (ad l0)), (1, .int l1)]) C dX11_hold_43 rfl (by rw [ex6]; rfl) (by decide) rfl ?_
    refine v_goto (tgt := 20) C dX11_hold_46 (by decide) ?_
    cases hf
    refine v_sub [1, 2, 0] rfl ?_
    exact kb _ _ rfl hC
def fX11_hold (sh : Sh) (G : Hp) (l0 : Nat) (l1 : Int32) : Option (Int32 × Hp) := (fX11_in l1 0 2).bind fun r1 => if r1 = 0 then some (0, G) else (ldA sh G l0 77 3).bind fun a3 => (asI sh G a3 l1 (zb 1)).bind fun G4 => (iter (fun s : Hp × Int32 => fX11_hold_S20 sh l0 l1 s.1 s.2) fuel ((G4, 0) : Hp × Int32)).bind (fun u7 => bd u7 fun G6 => some (1, G6))
set_option maxHeartbeats 4000000 in
theorem tX11_hold {E : EX} {ad : Nat → Nat} {sh : Sh} {G : Hp} {l0 : Nat} {l1 : Int32} {z : Int32 × Hp} (C : Cx E RX11 cX11_hold 3 (some .boolean) 2 0 0) (hC : Cl sh G) (h_l0 : sh[l0]? = some (0, 11)) (hf : fX11_hold sh G l0 l1 = some z) (kr : RCz E cX11_hold ad sh (z.1) (z.2)) : VV E 0 0 (wq (xT E) ad G sh) 0 [(0, .ref (ad l0)), (1, .int l1)] [] := by
  unfold fX11_hold at hf
  refine v_iload_n C 1 dX11_hold_0 rfl rfl ?_
  refine v_iconst (v := 0) C dX11_hold_1 (by decide) ?_
  refine v_iconst (v := 2) C dX11_hold_2 (by decide) ?_
  obtain ⟨r1, qr1, hf⟩ := bn hf
  refine v_callSi (As := [.int l1, .int 0, .int 2]) (rest := []) C (sX11_in  qr1) cs_X11_370 (by decide) hC rfl rfl rfl (Nat.le_of_ble_eq_true rfl) ⟨Nat.le_refl _, Nat.le_refl _⟩ dX11_hold_3 (fun hC => ?_)
  refine v_if_ne (tgt := 11) C dX11_hold_6 (by decide) (fun c2 => ?_) (fun c2 => ?_)
  · have hf := im hf c2
    refine v_aload_n C 0 dX11_hold_11 rfl rfl ?_
    obtain ⟨a3, qa3, hf⟩ := bn hf
    refine v_getA C h_l0 fl_X11_170 qa3 dX11_hold_12 (fun h_a3 => ?_)
    refine v_iload_n C 1 dX11_hold_15 rfl rfl ?_
    refine v_iconst (v := 1) C dX11_hold_16 (by decide) ?_
    obtain ⟨G4, qG4, hf⟩ := bn hf
    refine v_zast C h_a3 qG4 hC dX11_hold_17 (fun hC => ?_)
    refine v_iconst (v := 0) C dX11_hold_18 (by decide) ?_
    refine v_istore_n (lv2 := [(2, .int 0), (0, .ref (ad l0)), (1, .int l1)]) C dX11_hold_19 rfl (by decide) rfl ?_
    obtain ⟨r5, qr5, hf⟩ := bn hf
    refine v_sub [1, 2, 0] rfl ?_
    refine iter_sound (P := (fun s : Hp × Int32 => Cl sh (s.1) → VV E 0 0 (wq (xT E) ad (s.1) sh) 20 [(0, .ref (ad l0)), (1, .int (l1)), (2, .int (s.2))] [])) (X := fun r => r = r5) (fun jsr5 jor5 hor5 jbr5 jxr5 hC => tX11_hold_S20 C hC h_l0 hor5 (fun _ _ e => jbr5 _ e) ?_) fuel _ r5 qr5 rfl hC
    · intro G6 hu hC
      have e := jxr5 _ hu
      subst e
      have hf := bd_at hf (rfl : G6 = _)
      refine v_iconst (v := 1) C dX11_hold_49 (by decide) ?_
      cases hf
      exact kr _ _ dX11_hold_50 (Or.inr rfl) hC
  · have hf := ip hf c2
    refine v_iconst (v := 0) C dX11_hold_9 (by decide) ?_
    cases hf
    exact kr _ _ dX11_hold_10 (Or.inl rfl) hC
theorem sX11_hold {l : Launch} {sh : Sh} {G : Hp} {l0 : Nat} {l1 : Int32} {z : Int32 × Hp} (h_l0 : sh[l0]? = some (0, 11)) (hf : fX11_hold sh G l0 l1 = some z) : MC l yX11_hold cX11_hold 3 (some .boolean) 2 0 0 sh sh G (z.2) (fun ad => [.ref (ad l0), .int l1]) (fun _ => some (.int z.1)) := by
  refine MC_of rfl rfl (fun _ => Nat.le_of_ble_eq_true rfl) (fun E ad C hl hnm hC hQ => ?_)
  exact tX11_hold C hC h_l0 hf (fun pc lv hd hz hC => v_zret C hQ (fun _ _ => rfl) hC rfl hz hd)
def fX11_holds (sh : Sh) (G : Hp) (l0 : Nat) (l1 : Int32) (l2 : Int32) : Option (Int32 × Hp) := (fX11_isBridge sh G l0 l1).bind fun r1 => if r1 = 0 then some ((-1), G) else (ldA sh G l0 23 1).bind fun a3 => (aI sh G a3 (G.1 l0 18)).bind fun v4 => (fX11_in l2 0 (((1 : Int32) <<< (v4 &&& 31)) - 1)).bind fun r5 => if r5 = 0 then some ((-1), G) else bp (fX11_doesHold sh G l0 l1 l2) fun r7 G8 => if r7 = 0 then some (0, G8) else some (1, G8)
set_option maxHeartbeats 4000000 in
theorem tX11_holds {E : EX} {ad : Nat → Nat} {sh : Sh} {G : Hp} {l0 : Nat} {l1 : Int32} {l2 : Int32} {z : Int32 × Hp} (C : Cx E RX11 cX11_holds 3 (some .int) 3 0 0) (hC : Cl sh G) (h_l0 : sh[l0]? = some (0, 11)) (hf : fX11_holds sh G l0 l1 l2 = some z) (kr : RCi E cX11_holds ad sh (z.1) (z.2)) : VV E 0 0 (wq (xT E) ad G sh) 0 [(0, .ref (ad l0)), (1, .int l1), (2, .int l2)] [] := by
  unfold fX11_holds at hf
  refine v_aload_n C 0 dX11_holds_0 rfl rfl ?_
  refine v_iload_n C 1 dX11_holds_1 rfl rfl ?_
  obtain ⟨r1, qr1, hf⟩ := bn hf
  refine v_callVi (As := [.int l1]) (rest := []) C (sX11_isBridge h_l0 qr1) cs_X11_431 (by decide) h_l0 rfl hC rfl rfl rfl (Nat.le_of_ble_eq_true rfl) ⟨Nat.le_refl _, Nat.le_refl _⟩ dX11_holds_2 (fun hC => ?_)
  refine v_if_eq (tgt := 29) C dX11_holds_5 (by decide) (fun c2 => ?_) (fun c2 => ?_)
  · have hf := ip hf c2
    refine v_iconst (v := (-1)) C dX11_holds_29 (by decide) ?_
    cases hf
    exact kr _ _ dX11_holds_30 hC
  · have hf := im hf c2
    refine v_iload_n C 2 dX11_holds_8 rfl rfl ?_
    refine v_iconst (v := 0) C dX11_holds_9 (by decide) ?_
    refine v_iconst (v := 1) C dX11_holds_10 (by decide) ?_
    refine v_aload_n C 0 dX11_holds_11 rfl rfl ?_
    obtain ⟨a3, qa3, hf⟩ := bn hf
    refine v_getA C h_l0 fl_X11_46 qa3 dX11_holds_12 (fun h_a3 => ?_)
    refine v_aload_n C 0 dX11_holds_15 rfl rfl ?_
    refine v_getI C h_l0 fl_X11_257 dX11_holds_16 ?_
    obtain ⟨v4, qv4, hf⟩ := bn hf
    refine v_iald C h_a3 qv4 dX11_holds_19 ?_
    refine v_ishl C dX11_holds_20 ?_
    refine v_iconst (v := 1) C dX11_holds_21 (by decide) ?_
    refine v_isub C dX11_holds_22 ?_
    obtain ⟨r5, qr5, hf⟩ := bn hf
    refine v_callSi (As := [.int l2, .int 0, .int (((1 : Int32) <<< (v4 &&& 31)) - 1)]) (rest := []) C (sX11_in  qr5) cs_X11_370 (by decide) hC rfl rfl rfl (Nat.le_of_ble_eq_true rfl) ⟨Nat.le_refl _, Nat.le_refl _⟩ dX11_holds_23 (fun hC => ?_)
    refine v_if_ne (tgt := 31) C dX11_holds_26 (by decide) (fun c6 => ?_) (fun c6 => ?_)
    · have hf := im hf c6
      refine v_aload_n C 0 dX11_holds_31 rfl rfl ?_
      refine v_iload_n C 1 dX11_holds_32 rfl rfl ?_
      refine v_iload_n C 2 dX11_holds_33 rfl rfl ?_
      obtain ⟨r7, G8, qr7, hf⟩ := bpn hf
      refine v_callVi (As := [.int l1, .int l2]) (rest := []) C (sX11_doesHold h_l0 qr7) cs_X11_402 (by decide) h_l0 rfl hC rfl rfl rfl (Nat.le_of_ble_eq_true rfl) ⟨Nat.le_refl _, Nat.le_refl _⟩ dX11_holds_34 (fun hC => ?_)
      refine v_if_eq (tgt := 44) C dX11_holds_37 (by decide) (fun c9 => ?_) (fun c9 => ?_)
      · have hf := ip hf c9
        refine v_iconst (v := 0) C dX11_holds_44 (by decide) ?_
        cases hf
        exact kr _ _ dX11_holds_45 hC
      · have hf := im hf c9
        refine v_iconst (v := 1) C dX11_holds_40 (by decide) ?_
        refine v_goto (tgt := 45) C dX11_holds_41 (by decide) ?_
        cases hf
        exact kr _ _ dX11_holds_45 hC
    · have hf := ip hf c6
      refine v_iconst (v := (-1)) C dX11_holds_29 (by decide) ?_
      cases hf
      exact kr _ _ dX11_holds_30 hC
theorem sX11_holds {l : Launch} {sh : Sh} {G : Hp} {l0 : Nat} {l1 : Int32} {l2 : Int32} {z : Int32 × Hp} (h_l0 : sh[l0]? = some (0, 11)) (hf : fX11_holds sh G l0 l1 l2 = some z) : MC l yX11_holds cX11_holds 3 (some .int) 3 0 0 sh sh G (z.2) (fun ad => [.ref (ad l0), .int l1, .int l2]) (fun _ => some (.int z.1)) := by
  refine MC_of rfl rfl (fun _ => Nat.le_of_ble_eq_true rfl) (fun E ad C hl hnm hC hQ => ?_)
  exact tX11_holds C hC h_l0 hf (fun pc lv hd hC => v_iret C hQ (fun _ _ => rfl) hC rfl hd)
def fX11_keepsRow_S2 (sh : Sh) (l0 : Nat) (G : Hp) (l1 : Int32) : Option ((Hp × Int32) ⊕ ((Hp))) := if 26 ≤ l1 then some (.inr G) else (ldA sh G l0 58 1).bind fun a2 => (ldA sh G l0 59 1).bind fun a3 => (aI sh G a3 l1).bind fun v4 => (asI sh G a2 l1 v4).bind fun G5 => bd ((l1 + 1) : Int32) fun x6 => some (.inl (G5, x6))
set_option maxHeartbeats 4000000 in
theorem tX11_keepsRow_S2 {E : EX} {ad : Nat → Nat} {sh : Sh} {G : Hp} {l0 : Nat} {l1 : Int32} {o : (Hp × Int32) ⊕ ((Hp))} (C : Cx E RX11 cX11_keepsRow 2 none 1 0 0) (hC : Cl sh G) (h_l0 : sh[l0]? = some (0, 11)) (hf : fX11_keepsRow_S2 sh l0 G l1 = some o) (kb : ∀ (G2 : Hp) (b_l1 : Int32), o = .inl (G2, b_l1) → Cl sh G2 → VV E 0 0 (wq (xT E) ad G2 sh) 2 [(0, .ref (ad l0)), (1, .int b_l1)] []) (kx26 : ∀ (G2 : Hp), o = .inr G2 → Cl sh G2 → VV E 0 0 (wq (xT E) ad G2 sh) 26 [(0, .ref (ad l0))] []) : VV E 0 0 (wq (xT E) ad G sh) 2 [(0, .ref (ad l0)), (1, .int l1)] [] := by
  unfold fX11_keepsRow_S2 at hf
  refine v_iload_n C 1 dX11_keepsRow_2 rfl rfl ?_
  refine v_bipush (v := 26) C dX11_keepsRow_3 (by decide) ?_
  refine v_icmp_ge (tgt := 26) C dX11_keepsRow_5 (by decide) (fun c1 => ?_) (fun c1 => ?_)
  · have hf := ip hf c1
    cases hf
    refine v_sub [0] rfl ?_
    exact kx26 _ rfl hC
  · have hf := im hf c1
    refine v_aload_n C 0 dX11_keepsRow_8 rfl rfl ?_
    obtain ⟨a2, qa2, hf⟩ := bn hf
    refine v_getA C h_l0 fl_X11_134 qa2 dX11_keepsRow_9 (fun h_a2 => ?_)
    refine v_iload_n C 1 dX11_keepsRow_12 rfl rfl ?_
    refine v_aload_n C 0 dX11_keepsRow_13 rfl rfl ?_
    obtain ⟨a3, qa3, hf⟩ := bn hf
    refine v_getA C h_l0 fl_X11_137 qa3 dX11_keepsRow_14 (fun h_a3 => ?_)
    refine v_iload_n C 1 dX11_keepsRow_17 rfl rfl ?_
    obtain ⟨v4, qv4, hf⟩ := bn hf
    refine v_iald C h_a3 qv4 dX11_keepsRow_18 ?_
    obtain ⟨G5, qG5, hf⟩ := bn hf
    refine v_iast C h_a2 qG5 hC dX11_keepsRow_19 (fun hC => ?_)
    obtain ⟨x6, ex6⟩ : ∃ x : Int32, x = (l1 + 1) := ⟨_, rfl⟩
    have hf := bd_at hf ex6
    refine v_iinc (v := x6) (j := 1) (lv2 := [(1, .int x6), (0, .ref (ad l0))]) C dX11_keepsRow_20 rfl (by rw [ex6]; rfl) (by decide) rfl ?_
    refine v_goto (tgt := 2) C dX11_keepsRow_23 (by decide) ?_
    cases hf
    refine v_sub [1, 0] rfl ?_
    exact kb _ _ rfl hC
def fX11_keepsRow (sh : Sh) (G : Hp) (l0 : Nat) : Option (Hp) := (iter (fun s : Hp × Int32 => fX11_keepsRow_S2 sh l0 s.1 s.2) fuel ((G, 0) : Hp × Int32)).bind (fun u3 => bd u3 fun G2 => some G2)
set_option maxHeartbeats 4000000 in
theorem tX11_keepsRow {E : EX} {ad : Nat → Nat} {sh : Sh} {G : Hp} {l0 : Nat} {z : Hp} (C : Cx E RX11 cX11_keepsRow 2 none 1 0 0) (hC : Cl sh G) (h_l0 : sh[l0]? = some (0, 11)) (hf : fX11_keepsRow sh G l0 = some z) (kr : RCv E cX11_keepsRow ad sh z) : VV E 0 0 (wq (xT E) ad G sh) 0 [(0, .ref (ad l0))] [] := by
  unfold fX11_keepsRow at hf
  refine v_iconst (v := 0) C dX11_keepsRow_0 (by decide) ?_
  refine v_istore_n (lv2 := [(1, .int 0), (0, .ref (ad l0))]) C dX11_keepsRow_1 rfl (by decide) rfl ?_
  obtain ⟨r1, qr1, hf⟩ := bn hf
  refine v_sub [1, 0] rfl ?_
  refine iter_sound (P := (fun s : Hp × Int32 => Cl sh (s.1) → VV E 0 0 (wq (xT E) ad (s.1) sh) 2 [(0, .ref (ad l0)), (1, .int (s.2))] [])) (X := fun r => r = r1) (fun jsr1 jor1 hor1 jbr1 jxr1 hC => tX11_keepsRow_S2 C hC h_l0 hor1 (fun _ _ e => jbr1 _ e) ?_) fuel _ r1 qr1 rfl hC
  · intro G2 hu hC
    have e := jxr1 _ hu
    subst e
    have hf := bd_at hf (rfl : G2 = _)
    cases hf
    exact kr _ _ dX11_keepsRow_26 hC
theorem sX11_keepsRow {l : Launch} {sh : Sh} {G : Hp} {l0 : Nat} {z : Hp} (h_l0 : sh[l0]? = some (0, 11)) (hf : fX11_keepsRow sh G l0 = some z) : MC l yX11_keepsRow cX11_keepsRow 2 none 1 0 0 sh sh G z (fun ad => [.ref (ad l0)]) (fun _ => none) := by
  refine MC_of rfl rfl (fun _ => Nat.le_of_ble_eq_true rfl) (fun E ad C hl hnm hC hQ => ?_)
  exact tX11_keepsRow C hC h_l0 hf (fun pc lv hd hC => v_vret C hQ (fun _ _ => rfl) hC rfl hd)
def fX11_records_S51 (sh : Sh) (l0 : Nat) (G : Hp) (l1 : Int32) : Option ((Hp × Int32) ⊕ ((Hp))) := if 26 ≤ l1 then some (.inr G) else (ldA sh G l0 65 1).bind fun a2 => (ldA sh G l0 58 1).bind fun a3 => (aI sh G a3 l1).bind fun v4 => (asI sh G a2 (((26 : Int32) * (G.1 l0 64)) + l1) v4).bind fun G5 => bd ((l1 + 1) : Int32) fun x6 => some (.inl (G5, x6))
set_option maxHeartbeats 4000000 in
theorem tX11_records_S51 {E : EX} {ad : Nat → Nat} {sh : Sh} {G : Hp} {l0 : Nat} {l1 : Int32} {o : (Hp × Int32) ⊕ ((Hp))} (C : Cx E RX11 cX11_records 2 none 2 0 0) (hC : Cl sh G) (h_l0 : sh[l0]? = some (0, 11)) (hf : fX11_records_S51 sh l0 G l1 = some o) (kb : ∀ (G2 : Hp) (b_l1 : Int32), o = .inl (G2, b_l1) → Cl sh G2 → VV E 0 0 (wq (xT E) ad G2 sh) 51 [(0, .ref (ad l0)), (1, .int b_l1)] []) (kx83 : ∀ (G2 : Hp), o = .inr G2 → Cl sh G2 → VV E 0 0 (wq (xT E) ad G2 sh) 83 [(0, .ref (ad l0))] []) : VV E 0 0 (wq (xT E) ad G sh) 51 [(0, .ref (ad l0)), (1, .int l1)] [] := by
  unfold fX11_records_S51 at hf
  refine v_iload_n C 1 dX11_records_51 rfl rfl ?_
  refine v_bipush (v := 26) C dX11_records_52 (by decide) ?_
  refine v_icmp_ge (tgt := 83) C dX11_records_54 (by decide) (fun c1 => ?_) (fun c1 => ?_)
  · have hf := ip hf c1
    cases hf
    refine v_sub [0] rfl ?_
    exact kx83 _ rfl hC
  · have hf := im hf c1
    refine v_aload_n C 0 dX11_records_57 rfl rfl ?_
    obtain ⟨a2, qa2, hf⟩ := bn hf
    refine v_getA C h_l0 fl_X11_146 qa2 dX11_records_58 (fun h_a2 => ?_)
    refine v_bipush (v := 26) C dX11_records_61 (by decide) ?_
    refine v_aload_n C 0 dX11_records_63 rfl rfl ?_
    refine v_getI C h_l0 fl_X11_278 dX11_records_64 ?_
    refine v_imul C dX11_records_67 ?_
    refine v_iload_n C 1 dX11_records_68 rfl rfl ?_
    refine v_iadd C dX11_records_69 ?_
    refine v_aload_n C 0 dX11_records_70 rfl rfl ?_
    obtain ⟨a3, qa3, hf⟩ := bn hf
    refine v_getA C h_l0 fl_X11_134 qa3 dX11_records_71 (fun h_a3 => ?_)
    refine v_iload_n C 1 dX11_records_74 rfl rfl ?_
    obtain ⟨v4, qv4, hf⟩ := bn hf
    refine v_iald C h_a3 qv4 dX11_records_75 ?_
    obtain ⟨G5, qG5, hf⟩ := bn hf
    refine v_iast C h_a2 qG5 hC dX11_records_76 (fun hC => ?_)
    obtain ⟨x6, ex6⟩ : ∃ x : Int32, x = (l1 + 1) := ⟨_, rfl⟩
    have hf := bd_at hf ex6
    refine v_iinc (v := x6) (j := 1) (lv2 := [(1, .int x6), (0, .ref (ad l0))]) C dX11_records_77 rfl (by rw [ex6]; rfl) (by decide) rfl ?_
    refine v_goto (tgt := 51) C dX11_records_80 (by decide) ?_
    cases hf
    refine v_sub [1, 0] rfl ?_
    exact kb _ _ rfl hC
def fX11_records_J49 (sh : Sh) (G : Hp) (l0 : Nat) : Option (Hp) := (iter (fun s : Hp × Int32 => fX11_records_S51 sh l0 s.1 s.2) fuel ((G, 0) : Hp × Int32)).bind (fun u6 => bd u6 fun G2 => bd (sI G2 l0 64 ((G2.1 l0 64) + 1)) fun G3 => (fX11_keepsRow sh G3 l0).bind fun G5 => some G5)
set_option maxHeartbeats 4000000 in
theorem tX11_records_J49 {E : EX} {ad : Nat → Nat} {sh : Sh} {G : Hp} {l0 : Nat} {z : Hp} (C : Cx E RX11 cX11_records 2 none 2 0 0) (hC : Cl sh G) (h_l0 : sh[l0]? = some (0, 11)) (hf : fX11_records_J49 sh G l0 = some z) (kr : RCv E cX11_records ad sh z) : VV E 0 0 (wq (xT E) ad G sh) 49 [(0, .ref (ad l0))] [] := by
  unfold fX11_records_J49 at hf
  refine v_iconst (v := 0) C dX11_records_49 (by decide) ?_
  refine v_istore_n (lv2 := [(1, .int 0), (0, .ref (ad l0))]) C dX11_records_50 rfl (by decide) rfl ?_
  obtain ⟨r1, qr1, hf⟩ := bn hf
  refine v_sub [1, 0] rfl ?_
  refine iter_sound (P := (fun s : Hp × Int32 => Cl sh (s.1) → VV E 0 0 (wq (xT E) ad (s.1) sh) 51 [(0, .ref (ad l0)), (1, .int (s.2))] [])) (X := fun r => r = r1) (fun jsr1 jor1 hor1 jbr1 jxr1 hC => tX11_records_S51 C hC h_l0 hor1 (fun _ _ e => jbr1 _ e) ?_) fuel _ r1 qr1 rfl hC
  · intro G2 hu hC
    have e := jxr1 _ hu
    subst e
    have hf := bd_at hf (rfl : G2 = _)
    refine v_aload_n C 0 dX11_records_83 rfl rfl ?_
    refine v_dup C dX11_records_84 rfl ?_
    refine v_getI C h_l0 fl_X11_278 dX11_records_85 ?_
    refine v_iconst (v := 1) C dX11_records_88 (by decide) ?_
    refine v_iadd C dX11_records_89 ?_
    refine v_putI C h_l0 fp_X11_278 dX11_records_90 (fun G3 eG3 => ?_)
    have hf := bd_at hf eG3
    have hC : Cl sh G3 := by rw [eG3]; exact hC
    refine v_aload_n C 0 dX11_records_93 rfl rfl ?_
    obtain ⟨G5, qr4, hf⟩ := bn hf
    refine v_callVv (As := []) (rest := []) C (sX11_keepsRow h_l0 qr4) cs_X11_187 (by decide) h_l0 rfl hC rfl rfl rfl (Nat.le_of_ble_eq_true rfl) ⟨Nat.le_refl _, Nat.le_refl _⟩ dX11_records_94 (fun hC => ?_)
    cases hf
    exact kr _ _ dX11_records_97 hC
def fX11_records_S11 (sh : Sh) (l0 : Nat) (G : Hp) (l1 : Int32) : Option ((Hp × Int32) ⊕ ((Hp))) := if 1014 ≤ l1 then some (.inr G) else (ldA sh G l0 65 1).bind fun a2 => (ldA sh G l0 65 1).bind fun a3 => (aI sh G a3 (l1 + 26)).bind fun v4 => (asI sh G a2 l1 v4).bind fun G5 => bd ((l1 + 1) : Int32) fun x6 => some (.inl (G5, x6))
set_option maxHeartbeats 4000000 in
theorem tX11_records_S11 {E : EX} {ad : Nat → Nat} {sh : Sh} {G : Hp} {l0 : Nat} {l1 : Int32} {o : (Hp × Int32) ⊕ ((Hp))} (C : Cx E RX11 cX11_records 2 none 2 0 0) (hC : Cl sh G) (h_l0 : sh[l0]? = some (0, 11)) (hf : fX11_records_S11 sh l0 G l1 = some o) (kb : ∀ (G2 : Hp) (b_l1 : Int32), o = .inl (G2, b_l1) → Cl sh G2 → VV E 0 0 (wq (xT E) ad G2 sh) 11 [(0, .ref (ad l0)), (1, .int b_l1)] []) (kx39 : ∀ (G2 : Hp), o = .inr G2 → Cl sh G2 → VV E 0 0 (wq (xT E) ad G2 sh) 39 [(0, .ref (ad l0))] []) : VV E 0 0 (wq (xT E) ad G sh) 11 [(0, .ref (ad l0)), (1, .int l1)] [] := by
  unfold fX11_records_S11 at hf
  refine v_iload_n C 1 dX11_records_11 rfl rfl ?_
  refine v_sipush (v := 1014) C dX11_records_12 (by decide) ?_
  refine v_icmp_ge (tgt := 39) C dX11_records_15 (by decide) (fun c1 => ?_) (fun c1 => ?_)
  · have hf := ip hf c1
    cases hf
    refine v_sub [0] rfl ?_
    exact kx39 _ rfl hC
  · have hf := im hf c1
    refine v_aload_n C 0 dX11_records_18 rfl rfl ?_
    obtain ⟨a2, qa2, hf⟩ := bn hf
    refine v_getA C h_l0 fl_X11_146 qa2 dX11_records_19 (fun h_a2 => ?_)
    refine v_iload_n C 1 dX11_records_22 rfl rfl ?_
    refine v_aload_n C 0 dX11_records_23 rfl rfl ?_
    obtain ⟨a3, qa3, hf⟩ := bn hf
    refine v_getA C h_l0 fl_X11_146 qa3 dX11_records_24 (fun h_a3 => ?_)
    refine v_iload_n C 1 dX11_records_27 rfl rfl ?_
    refine v_bipush (v := 26) C dX11_records_28 (by decide) ?_
    refine v_iadd C dX11_records_30 ?_
    obtain ⟨v4, qv4, hf⟩ := bn hf
    refine v_iald C h_a3 qv4 dX11_records_31 ?_
    obtain ⟨G5, qG5, hf⟩ := bn hf
    refine v_iast C h_a2 qG5 hC dX11_records_32 (fun hC => ?_)
    obtain ⟨x6, ex6⟩ : ∃ x : Int32, x = (l1 + 1) := ⟨_, rfl⟩
    have hf := bd_at hf ex6
    refine v_iinc (v := x6) (j := 1) (lv2 := [(1, .int x6), (0, .ref (ad l0))]) C dX11_records_33 rfl (by rw [ex6]; rfl) (by decide) rfl ?_
    refine v_goto (tgt := 11) C dX11_records_36 (by decide) ?_
    cases hf
    refine v_sub [1, 0] rfl ?_
    exact kb _ _ rfl hC
def fX11_records (sh : Sh) (G : Hp) (l0 : Nat) : Option (Hp) := if (G.1 l0 64) = 40 then (iter (fun s : Hp × Int32 => fX11_records_S11 sh l0 s.1 s.2) fuel ((G, 0) : Hp × Int32)).bind (fun u5 => bd u5 fun G3 => bd (sI G3 l0 64 ((G3.1 l0 64) - 1)) fun G4 => fX11_records_J49 sh G4 l0) else fX11_records_J49 sh G l0
set_option maxHeartbeats 4000000 in
theorem tX11_records {E : EX} {ad : Nat → Nat} {sh : Sh} {G : Hp} {l0 : Nat} {z : Hp} (C : Cx E RX11 cX11_records 2 none 2 0 0) (hC : Cl sh G) (h_l0 : sh[l0]? = some (0, 11)) (hf : fX11_records sh G l0 = some z) (kr : RCv E cX11_records ad sh z) : VV E 0 0 (wq (xT E) ad G sh) 0 [(0, .ref (ad l0))] [] := by
  unfold fX11_records at hf
  refine v_aload_n C 0 dX11_records_0 rfl rfl ?_
  refine v_getI C h_l0 fl_X11_278 dX11_records_1 ?_
  refine v_bipush (v := 40) C dX11_records_4 (by decide) ?_
  refine v_icmp_ne (tgt := 49) C dX11_records_6 (by decide) (fun c1 => ?_) (fun c1 => ?_)
  · have hf := im hf c1
    refine v_sub [0] rfl ?_
    exact tX11_records_J49 C hC h_l0 hf kr
  · have hf := ip hf c1
    refine v_iconst (v := 0) C dX11_records_9 (by decide) ?_
    refine v_istore_n (lv2 := [(1, .int 0), (0, .ref (ad l0))]) C dX11_records_10 rfl (by decide) rfl ?_
    obtain ⟨r2, qr2, hf⟩ := bn hf
    refine v_sub [1, 0] rfl ?_
    refine iter_sound (P := (fun s : Hp × Int32 => Cl sh (s.1) → VV E 0 0 (wq (xT E) ad (s.1) sh) 11 [(0, .ref (ad l0)), (1, .int (s.2))] [])) (X := fun r => r = r2) (fun jsr2 jor2 hor2 jbr2 jxr2 hC => tX11_records_S11 C hC h_l0 hor2 (fun _ _ e => jbr2 _ e) ?_) fuel _ r2 qr2 rfl hC
    · intro G3 hu hC
      have e := jxr2 _ hu
      subst e
      have hf := bd_at hf (rfl : G3 = _)
      refine v_aload_n C 0 dX11_records_39 rfl rfl ?_
      refine v_dup C dX11_records_40 rfl ?_
      refine v_getI C h_l0 fl_X11_278 dX11_records_41 ?_
      refine v_iconst (v := 1) C dX11_records_44 (by decide) ?_
      refine v_isub C dX11_records_45 ?_
      refine v_putI C h_l0 fp_X11_278 dX11_records_46 (fun G4 eG4 => ?_)
      have hf := bd_at hf eG4
      have hC : Cl sh G4 := by rw [eG4]; exact hC
      refine v_sub [0] rfl ?_
      exact tX11_records_J49 C hC h_l0 hf kr
theorem sX11_records {l : Launch} {sh : Sh} {G : Hp} {l0 : Nat} {z : Hp} (h_l0 : sh[l0]? = some (0, 11)) (hf : fX11_records sh G l0 = some z) : MC l yX11_records cX11_records 2 none 2 0 0 sh sh G z (fun ad => [.ref (ad l0)]) (fun _ => none) := by
  refine MC_of rfl rfl (fun _ => Nat.le_of_ble_eq_true rfl) (fun E ad C hl hnm hC hQ => ?_)
  exact tX11_records C hC h_l0 hf (fun pc lv hd hC => v_vret C hQ (fun _ _ => rfl) hC rfl hd)
def fX11_mend (sh : Sh) (G : Hp) (l0 : Nat) (l1 : Int32) : Option (Int32 × Hp) := (fX11_isBridge sh G l0 l1).bind fun r1 => if r1 = 0 then some ((-1), G) else (fX11_copies sh G l0).bind fun G4 => (ldA sh G4 l0 59 1).bind fun a5 => (aI sh G4 a5 ((4 : Int32) + l1)).bind fun v6 => if v6 = 1 then (ldA sh G4 l0 59 1).bind fun a8 => (aI sh G4 a8 l1).bind fun v9 => if v9 = 99 then some ((-2), G4) else (ldA sh G4 l0 59 1).bind fun a11 => (aI sh G4 a11 22).bind fun v12 => bp (fX11_mendsNow sh G4 l0 l1) fun r13 G14 => (asI sh G14 a11 22 (v12 + r13)).bind fun G15 => (ldA sh G15 l0 59 1).bind fun a16 => (aI sh G15 a16 l1).bind fun v17 => (asI sh G15 a16 l1 (v17 + 1)).bind fun G18 => (fX11_records sh G18 l0).bind fun G20 => (ldA sh G20 l0 58 1).bind fun a21 => (aI sh G20 a21 l1).bind fun v22 => some (v22, G20) else some ((-2), G4)
set_option maxHeartbeats 4000000 in
theorem tX11_mend {E : EX} {ad : Nat → Nat} {sh : Sh} {G : Hp} {l0 : Nat} {l1 : Int32} {z : Int32 × Hp} (C : Cx E RX11 cX11_mend 2 (some .int) 4 0 0) (hC : Cl sh G) (h_l0 : sh[l0]? = some (0, 11)) (hf : fX11_mend sh G l0 l1 = some z) (kr : RCi E cX11_mend ad sh (z.1) (z.2)) : VV E 0 0 (wq (xT E) ad G sh) 0 [(0, .ref (ad l0)), (1, .int l1)] [] := by
  unfold fX11_mend at hf
  refine v_aload_n C 0 dX11_mend_0 rfl rfl ?_
  refine v_iload_n C 1 dX11_mend_1 rfl rfl ?_
  obtain ⟨r1, qr1, hf⟩ := bn hf
  refine v_callVi (As := [.int l1]) (rest := []) C (sX11_isBridge h_l0 qr1) cs_X11_431 (by decide) h_l0 rfl hC rfl rfl rfl (Nat.le_of_ble_eq_true rfl) ⟨Nat.le_refl _, Nat.le_refl _⟩ dX11_mend_2 (fun hC => ?_)
  refine v_if_ne (tgt := 10) C dX11_mend_5 (by decide) (fun c2 => ?_) (fun c2 => ?_)
  · have hf := im hf c2
    refine v_aload_n C 0 dX11_mend_10 rfl rfl ?_
    obtain ⟨G4, qr3, hf⟩ := bn hf
    refine v_callVv (As := []) (rest := []) C (sX11_copies h_l0 qr3) cs_X11_434 (by decide) h_l0 rfl hC rfl rfl rfl (Nat.le_of_ble_eq_true rfl) ⟨Nat.le_refl _, Nat.le_refl _⟩ dX11_mend_11 (fun hC => ?_)
    refine v_aload_n C 0 dX11_mend_14 rfl rfl ?_
    obtain ⟨a5, qa5, hf⟩ := bn hf
    refine v_getA C h_l0 fl_X11_137 qa5 dX11_mend_15 (fun h_a5 => ?_)
    refine v_iconst (v := 4) C dX11_mend_18 (by decide) ?_
    refine v_iload_n C 1 dX11_mend_19 rfl rfl ?_
    refine v_iadd C dX11_mend_20 ?_
    obtain ⟨v6, qv6, hf⟩ := bn hf
    refine v_iald C h_a5 qv6 dX11_mend_21 ?_
    refine v_iconst (v := 1) C dX11_mend_22 (by decide) ?_
    refine v_icmp_ne (tgt := 37) C dX11_mend_23 (by decide) (fun c7 => ?_) (fun c7 => ?_)
    · have hf := im hf c7
      refine v_bipush (v := (-2)) C dX11_mend_37 (by decide) ?_
      cases hf
      exact kr _ _ dX11_mend_39 hC
    · have hf := ip hf c7
      refine v_aload_n C 0 dX11_mend_26 rfl rfl ?_
      obtain ⟨a8, qa8, hf⟩ := bn hf
      refine v_getA C h_l0 fl_X11_137 qa8 dX11_mend_27 (fun h_a8 => ?_)
      refine v_iload_n C 1 dX11_mend_30 rfl rfl ?_
      obtain ⟨v9, qv9, hf⟩ := bn hf
      refine v_iald C h_a8 qv9 dX11_mend_31 ?_
      refine v_bipush (v := 99) C dX11_mend_32 (by decide) ?_
      refine v_icmp_ne (tgt := 40) C dX11_mend_34 (by decide) (fun c10 => ?_) (fun c10 => ?_)
      · have hf := im hf c10
        refine v_aload_n C 0 dX11_mend_40 rfl rfl ?_
        obtain ⟨a11, qa11, hf⟩ := bn hf
        refine v_getA C h_l0 fl_X11_137 qa11 dX11_mend_41 (fun h_a11 => ?_)
        refine v_bipush (v := 22) C dX11_mend_44 (by decide) ?_
        refine v_dup2 C dX11_mend_46 rfl rfl ?_
        obtain ⟨v12, qv12, hf⟩ := bn hf
        refine v_iald C h_a11 qv12 dX11_mend_47 ?_
        refine v_aload_n C 0 dX11_mend_48 rfl rfl ?_
        refine v_iload_n C 1 dX11_mend_49 rfl rfl ?_
        obtain ⟨r13, G14, qr13, hf⟩ := bpn hf
        refine v_callVi (As := [.int l1]) (rest := [.int v12, .int 22, .ref (ad a11)]) C (sX11_mendsNow h_l0 qr13) cs_X11_437 (by decide) h_l0 rfl hC rfl rfl rfl (Nat.le_of_ble_eq_true rfl) ⟨Nat.le_refl _, Nat.le_refl _⟩ dX11_mend_50 (fun hC => ?_)
        refine v_iadd C dX11_mend_53 ?_
        obtain ⟨G15, qG15, hf⟩ := bn hf
        refine v_iast C h_a11 qG15 hC dX11_mend_54 (fun hC => ?_)
        refine v_aload_n C 0 dX11_mend_55 rfl rfl ?_
        obtain ⟨a16, qa16, hf⟩ := bn hf
        refine v_getA C h_l0 fl_X11_137 qa16 dX11_mend_56 (fun h_a16 => ?_)
        refine v_iload_n C 1 dX11_mend_59 rfl rfl ?_
        refine v_dup2 C dX11_mend_60 rfl rfl ?_
        obtain ⟨v17, qv17, hf⟩ := bn hf
        refine v_iald C h_a16 qv17 dX11_mend_61 ?_
        refine v_iconst (v := 1) C dX11_mend_62 (by decide) ?_
        refine v_iadd C dX11_mend_63 ?_
        obtain ⟨G18, qG18, hf⟩ := bn hf
        refine v_iast C h_a16 qG18 hC dX11_mend_64 (fun hC => ?_)
        refine v_aload_n C 0 dX11_mend_65 rfl rfl ?_
        obtain ⟨G20, qr19, hf⟩ := bn hf
        refine v_callVv (As := []) (rest := []) C (sX11_records h_l0 qr19) cs_X11_458 (by decide) h_l0 rfl hC rfl rfl rfl (Nat.le_of_ble_eq_true rfl) ⟨Nat.le_refl _, Nat.le_refl _⟩ dX11_mend_66 (fun hC => ?_)
        refine v_aload_n C 0 dX11_mend_69 rfl rfl ?_
        obtain ⟨a21, qa21, hf⟩ := bn hf
        refine v_getA C h_l0 fl_X11_134 qa21 dX11_mend_70 (fun h_a21 => ?_)
        refine v_iload_n C 1 dX11_mend_73 rfl rfl ?_
        obtain ⟨v22, qv22, hf⟩ := bn hf
        refine v_iald C h_a21 qv22 dX11_mend_74 ?_
        cases hf
        exact kr _ _ dX11_mend_75 hC
      · have hf := ip hf c10
        refine v_bipush (v := (-2)) C dX11_mend_37 (by decide) ?_
        cases hf
        exact kr _ _ dX11_mend_39 hC
  · have hf := ip hf c2
    refine v_iconst (v := (-1)) C dX11_mend_8 (by decide) ?_
    cases hf
    exact kr _ _ dX11_mend_9 hC
theorem sX11_mend {l : Launch} {sh : Sh} {G : Hp} {l0 : Nat} {l1 : Int32} {z : Int32 × Hp} (h_l0 : sh[l0]? = some (0, 11)) (hf : fX11_mend sh G l0 l1 = some z) : MC l yX11_mend cX11_mend 2 (some .int) 4 0 0 sh sh G (z.2) (fun ad => [.ref (ad l0), .int l1]) (fun _ => some (.int z.1)) := by
  refine MC_of rfl rfl (fun _ => Nat.le_of_ble_eq_true rfl) (fun E ad C hl hnm hC hQ => ?_)
  exact tX11_mend C hC h_l0 hf (fun pc lv hd hC => v_iret C hQ (fun _ _ => rfl) hC rfl hd)
def fX11_yearGoes_S22 (sh : Sh) (l0 : Nat) (l1 : Int32) (G : Hp) (l2 : Int32) : Option ((Hp × Int32) ⊕ ((Hp))) := (ldA sh G l0 31 1).bind fun a1 => (aI sh G a1 (G.1 l0 18)).bind fun v2 => if v2 ≤ l2 then some (.inr G) else (ldA sh G l0 63 1).bind fun a4 => (ldA sh G l0 59 1).bind fun a5 => (aI sh G a5 ((4 : Int32) + l2)).bind fun v6 => if v6 = 1 then (ldA sh G l0 59 1).bind fun a12 => (aI sh G a12 l2).bind fun v13 => bp (fX11_wearsNow sh G l0 l2) fun r14 G15 => (fX11_held ((v13 - r14) - l1) 0 99).bind fun r16 => (asI sh G15 a4 l2 r16).bind fun G17 => bd ((l2 + 1) : Int32) fun x18 => some (.inl (G17, x18)) else (ldA sh G l0 59 1).bind fun a8 => (aI sh G a8 l2).bind fun v9 => (asI sh G a4 l2 v9).bind fun G10 => bd ((l2 + 1) : Int32) fun x11 => some (.inl (G10, x11))
set_option maxHeartbeats 4000000 in
theorem tX11_yearGoes_S22 {E : EX} {ad : Nat → Nat} {sh : Sh} {G : Hp} {l0 : Nat} {l1 : Int32} {l2 : Int32} {o : (Hp × Int32) ⊕ ((Hp))} (C : Cx E RX11 cX11_yearGoes 3 none 4 0 0) (hC : Cl sh G) (h_l0 : sh[l0]? = some (0, 11)) (hf : fX11_yearGoes_S22 sh l0 l1 G l2 = some o) (kb : ∀ (G2 : Hp) (b_l2 : Int32), o = .inl (G2, b_l2) → Cl sh G2 → VV E 0 0 (wq (xT E) ad G2 sh) 22 [(0, .ref (ad l0)), (1, .int l1), (2, .int b_l2)] []) (kx88 : ∀ (G2 : Hp), o = .inr G2 → Cl sh G2 → VV E 0 0 (wq (xT E) ad G2 sh) 88 [(0, .ref (ad l0)), (1, .int l1)] []) : VV E 0 0 (wq (xT E) ad G sh) 22 [(0, .ref (ad l0)), (1, .int l1), (2, .int l2)] [] := by
  unfold fX11_yearGoes_S22 at hf
  refine v_iload_n C 2 dX11_yearGoes_22 rfl rfl ?_
  refine v_aload_n C 0 dX11_yearGoes_23 rfl rfl ?_
  obtain ⟨a1, qa1, hf⟩ := bn hf
  refine v_getA C h_l0 fl_X11_70 qa1 dX11_yearGoes_24 (fun h_a1 => ?_)
  refine v_aload_n C 0 dX11_yearGoes_27 rfl rfl ?_
  refine v_getI C h_l0 fl_X11_257 dX11_yearGoes_28 ?_
  obtain ⟨v2, qv2, hf⟩ := bn hf
  refine v_iald C h_a1 qv2 dX11_yearGoes_31 ?_
  refine v_icmp_ge (tgt := 88) C dX11_yearGoes_32 (by decide) (fun c3 => ?_) (fun c3 => ?_)
  · have hf := ip hf c3
    cases hf
    refine v_sub [0, 1] rfl ?_
    exact kx88 _ rfl hC
  · have hf := im hf c3
    refine v_aload_n C 0 dX11_yearGoes_35 rfl rfl ?_
    obtain ⟨a4, qa4, hf⟩ := bn hf
    refine v_getA C h_l0 fl_X11_143 qa4 dX11_yearGoes_36 (fun h_a4 => ?_)
    refine v_iload_n C 2 dX11_yearGoes_39 rfl rfl ?_
    refine v_aload_n C 0 dX11_yearGoes_40 rfl rfl ?_
    obtain ⟨a5, qa5, hf⟩ := bn hf
    refine v_getA C h_l0 fl_X11_137 qa5 dX11_yearGoes_41 (fun h_a5 => ?_)
    refine v_iconst (v := 4) C dX11_yearGoes_44 (by decide) ?_
    refine v_iload_n C 2 dX11_yearGoes_45 rfl rfl ?_
    refine v_iadd C dX11_yearGoes_46 ?_
    obtain ⟨v6, qv6, hf⟩ := bn hf
    refine v_iald C h_a5 qv6 dX11_yearGoes_47 ?_
    refine v_iconst (v := 1) C dX11_yearGoes_48 (by decide) ?_
    refine v_icmp_ne (tgt := 75) C dX11_yearGoes_49 (by decide) (fun c7 => ?_) (fun c7 => ?_)
    · have hf := im hf c7
      refine v_aload_n C 0 dX11_yearGoes_75 rfl rfl ?_
      obtain ⟨a8, qa8, hf⟩ := bn hf
      refine v_getA C h_l0 fl_X11_137 qa8 dX11_yearGoes_76 (fun h_a8 => ?_)
      refine v_iload_n C 2 dX11_yearGoes_79 rfl rfl ?_
      obtain ⟨v9, qv9, hf⟩ := bn hf
      refine v_iald C h_a8 qv9 dX11_yearGoes_80 ?_
      obtain ⟨G10, qG10, hf⟩ := bn hf
      refine v_iast C h_a4 qG10 hC dX11_yearGoes_81 (fun hC => ?_)
      obtain ⟨x11, ex11⟩ : ∃ x : Int32, x = (l2 + 1) := ⟨_, rfl⟩
      have hf := bd_at hf ex11
      refine v_iinc (v := x11) (j := 2) (lv2 := [(2, .int x11), (0, .ref (ad l0)), (1, .int l1)]) C dX11_yearGoes_82 rfl (by rw [ex11]; rfl) (by decide) rfl ?_
      refine v_goto (tgt := 22) C dX11_yearGoes_85 (by decide) ?_
      cases hf
      refine v_sub [1, 2, 0] rfl ?_
      exact kb _ _ rfl hC
    · have hf := ip hf c7
      refine v_aload_n C 0 dX11_yearGoes_52 rfl rfl ?_
      obtain ⟨a12, qa12, hf⟩ := bn hf
      refine v_getA C h_l0 fl_X11_137 qa12 dX11_yearGoes_53 (fun h_a12 => ?_)
      refine v_iload_n C 2 dX11_yearGoes_56 rfl rfl ?_
      obtain ⟨v13, qv13, hf⟩ := bn hf
      refine v_iald C h_a12 qv13 dX11_yearGoes_57 ?_
      refine v_aload_n C 0 dX11_yearGoes_58 rfl rfl ?_
      refine v_iload_n C 2 dX11_yearGoes_59 rfl rfl ?_
      obtain ⟨r14, G15, qr14, hf⟩ := bpn hf
      refine v_callVi (As := [.int l2]) (rest := [.int v13, .int l2, .ref (ad a4)]) C (sX11_wearsNow h_l0 qr14) cs_X11_413 (by decide) h_l0 rfl hC rfl rfl rfl (Nat.le_of_ble_eq_true rfl) ⟨Nat.le_refl _, Nat.le_refl _⟩ dX11_yearGoes_60 (fun hC => ?_)
      refine v_isub C dX11_yearGoes_63 ?_
      refine v_iload_n C 1 dX11_yearGoes_64 rfl rfl ?_
      refine v_isub C dX11_yearGoes_65 ?_
      refine v_iconst (v := 0) C dX11_yearGoes_66 (by decide) ?_
      refine v_bipush (v := 99) C dX11_yearGoes_67 (by decide) ?_
      obtain ⟨r16, qr16, hf⟩ := bn hf
      refine v_callSi (As := [.int ((v13 - r14) - l1), .int 0, .int 99]) (rest := [.int l2, .ref (ad a4)]) C (sX11_held  qr16) cs_X11_399 (by decide) hC rfl rfl rfl (Nat.le_of_ble_eq_true rfl) ⟨Nat.le_refl _, Nat.le_refl _⟩ dX11_yearGoes_69 (fun hC => ?_)
      refine v_goto (tgt := 81) C dX11_yearGoes_72 (by decide) ?_
      obtain ⟨G17, qG17, hf⟩ := bn hf
      refine v_iast C h_a4 qG17 hC dX11_yearGoes_81 (fun hC => ?_)
      obtain ⟨x18, ex18⟩ : ∃ x : Int32, x = (l2 + 1) := ⟨_, rfl⟩
      have hf := bd_at hf ex18
      refine v_iinc (v := x18) (j := 2) (lv2 := [(2, .int x18), (0, .ref (ad l0)), (1, .int l1)]) C dX11_yearGoes_82 rfl (by rw [ex18]; rfl) (by decide) rfl ?_
      refine v_goto (tgt := 22) C dX11_yearGoes_85 (by decide) ?_
      cases hf
      refine v_sub [1, 2, 0] rfl ?_
      exact kb _ _ rfl hC
def fX11_yearGoes_S90 (sh : Sh) (l0 : Nat) (G : Hp) (l2 : Int32) : Option ((Hp × Int32) ⊕ ((Hp))) := (ldA sh G l0 31 1).bind fun a1 => (aI sh G a1 (G.1 l0 18)).bind fun v2 => if v2 ≤ l2 then some (.inr G) else (ldA sh G l0 59 1).bind fun a4 => (aI sh G a4 ((4 : Int32) + l2)).bind fun v5 => if v5 = 1 then (ldA sh G l0 59 1).bind fun a7 => (ldA sh G l0 63 1).bind fun a8 => (aI sh G a8 l2).bind fun v9 => (asI sh G a7 l2 v9).bind fun G10 => (ldA sh G10 l0 59 1).bind fun a11 => bd (((8 : Int32) + l2) : Int32) fun x12 => (aI sh G10 a11 x12).bind fun v13 => (asI sh G10 a11 x12 (v13 + 1)).bind fun G14 => (ldA sh G14 l0 59 1).bind fun a15 => (aI sh G14 a15 l2).bind fun v16 => if v16 = 0 then (ldA sh G14 l0 59 1).bind fun a19 => (asI sh G14 a19 ((4 : Int32) + l2) 2).bind fun G20 => bd ((l2 + 1) : Int32) fun x21 => some (.inl (G20, x21)) else bd ((l2 + 1) : Int32) fun x18 => some (.inl (G14, x18)) else bd ((l2 + 1) : Int32) fun x22 => some (.inl (G, x22))
set_option maxHeartbeats 4000000 in
theorem tX11_yearGoes_S90 {E : EX} {ad : Nat → Nat} {sh : Sh} {G : Hp} {l0 : Nat} {l2 : Int32} {o : (Hp × Int32) ⊕ ((Hp))} (C : Cx E RX11 cX11_yearGoes 3 none 4 0 0) (hC : Cl sh G) (h_l0 : sh[l0]? = some (0, 11)) (hf : fX11_yearGoes_S90 sh l0 G l2 = some o) (kb : ∀ (G2 : Hp) (b_l2 : Int32), o = .inl (G2, b_l2) → Cl sh G2 → VV E 0 0 (wq (xT E) ad G2 sh) 90 [(0, .ref (ad l0)), (2, .int b_l2)] []) (kx167 : ∀ (G2 : Hp), o = .inr G2 → Cl sh G2 → VV E 0 0 (wq (xT E) ad G2 sh) 167 [(0, .ref (ad l0))] []) : VV E 0 0 (wq (xT E) ad G sh) 90 [(0, .ref (ad l0)), (2, .int l2)] [] := by
  unfold fX11_yearGoes_S90 at hf
  refine v_iload_n C 1 dX11_yearGoes_90 rfl rfl ?_
  refine v_aload_n C 0 dX11_yearGoes_91 rfl rfl ?_
  obtain ⟨a1, qa1, hf⟩ := bn hf
  refine v_getA C h_l0 fl_X11_70 qa1 dX11_yearGoes_92 (fun h_a1 => ?_)
  refine v_aload_n C 0 dX11_yearGoes_95 rfl rfl ?_
  refine v_getI C h_l0 fl_X11_257 dX11_yearGoes_96 ?_
  obtain ⟨v2, qv2, hf⟩ := bn hf
  refine v_iald C h_a1 qv2 dX11_yearGoes_99 ?_
  refine v_icmp_ge (tgt := 167) C dX11_yearGoes_100 (by decide) (fun c3 => ?_) (fun c3 => ?_)
  · have hf := ip hf c3
    cases hf
    refine v_sub [0] rfl ?_
    exact kx167 _ rfl hC
  · have hf := im hf c3
    refine v_aload_n C 0 dX11_yearGoes_103 rfl rfl ?_
    obtain ⟨a4, qa4, hf⟩ := bn hf
    refine v_getA C h_l0 fl_X11_137 qa4 dX11_yearGoes_104 (fun h_a4 => ?_)
    refine v_iconst (v := 4) C dX11_yearGoes_107 (by decide) ?_
    refine v_iload_n C 1 dX11_yearGoes_108 rfl rfl ?_
    refine v_iadd C dX11_yearGoes_109 ?_
    obtain ⟨v5, qv5, hf⟩ := bn hf
    refine v_iald C h_a4 qv5 dX11_yearGoes_110 ?_
    refine v_iconst (v := 1) C dX11_yearGoes_111 (by decide) ?_
    refine v_icmp_eq (tgt := 118) C dX11_yearGoes_112 (by decide) (fun c6 => ?_) (fun c6 => ?_)
    · have hf := ip hf c6
      refine v_aload_n C 0 dX11_yearGoes_118 rfl rfl ?_
      obtain ⟨a7, qa7, hf⟩ := bn hf
      refine v_getA C h_l0 fl_X11_137 qa7 dX11_yearGoes_119 (fun h_a7 => ?_)
      refine v_iload_n C 1 dX11_yearGoes_122 rfl rfl ?_
      refine v_aload_n C 0 dX11_yearGoes_123 rfl rfl ?_
      obtain ⟨a8, qa8, hf⟩ := bn hf
      refine v_getA C h_l0 fl_X11_143 qa8 dX11_yearGoes_124 (fun h_a8 => ?_)
      refine v_iload_n C 1 dX11_yearGoes_127 rfl rfl ?_
      obtain ⟨v9, qv9, hf⟩ := bn hf
      refine v_iald C h_a8 qv9 dX11_yearGoes_128 ?_
      obtain ⟨G10, qG10, hf⟩ := bn hf
      refine v_iast C h_a7 qG10 hC dX11_yearGoes_129 (fun hC => ?_)
      refine v_aload_n C 0 dX11_yearGoes_130 rfl rfl ?_
      obtain ⟨a11, qa11, hf⟩ := bn hf
      refine v_getA C h_l0 fl_X11_137 qa11 dX11_yearGoes_131 (fun h_a11 => ?_)
      refine v_bipush (v := 8) C dX11_yearGoes_134 (by decide) ?_
      refine v_iload_n C 1 dX11_yearGoes_136 rfl rfl ?_
      refine v_iadd C dX11_yearGoes_137 ?_
      refine v_topi (fun x12 ex12 => ?_)
      have hf := bd_at hf ex12
      refine v_dup2 C dX11_yearGoes_138 rfl rfl ?_
      obtain ⟨v13, qv13, hf⟩ := bn hf
      refine v_iald C h_a11 qv13 dX11_yearGoes_139 ?_
      refine v_iconst (v := 1) C dX11_yearGoes_140 (by decide) ?_
      refine v_iadd C dX11_yearGoes_141 ?_
      obtain ⟨G14, qG14, hf⟩ := bn hf
      refine v_iast C h_a11 qG14 hC dX11_yearGoes_142 (fun hC => ?_)
      refine v_aload_n C 0 dX11_yearGoes_143 rfl rfl ?_
      obtain ⟨a15, qa15, hf⟩ := bn hf
      refine v_getA C h_l0 fl_X11_137 qa15 dX11_yearGoes_144 (fun h_a15 => ?_)
      refine v_iload_n C 1 dX11_yearGoes_147 rfl rfl ?_
      obtain ⟨v16, qv16, hf⟩ := bn hf
      refine v_iald C h_a15 qv16 dX11_yearGoes_148 ?_
      refine v_if_ne (tgt := 161) C dX11_yearGoes_149 (by decide) (fun c17 => ?_) (fun c17 => ?_)
      · have hf := im hf c17
        obtain ⟨x18, ex18⟩ : ∃ x : Int32, x = (l2 + 1) := ⟨_, rfl⟩
        have hf := bd_at hf ex18
        refine v_iinc (v := x18) (j := 1) (lv2 := [(2, .int x18), (0, .ref (ad l0))]) C dX11_yearGoes_161 rfl (by rw [ex18]; rfl) (by decide) rfl ?_
        refine v_goto (tgt := 90) C dX11_yearGoes_164 (by decide) ?_
        cases hf
        refine v_sub [1, 0] rfl ?_
        exact kb _ _ rfl hC
      · have hf := ip hf c17
        refine v_aload_n C 0 dX11_yearGoes_152 rfl rfl ?_
        obtain ⟨a19, qa19, hf⟩ := bn hf
        refine v_getA C h_l0 fl_X11_137 qa19 dX11_yearGoes_153 (fun h_a19 => ?_)
        refine v_iconst (v := 4) C dX11_yearGoes_156 (by decide) ?_
        refine v_iload_n C 1 dX11_yearGoes_157 rfl rfl ?_
        refine v_iadd C dX11_yearGoes_158 ?_
        refine v_iconst (v := 2) C dX11_yearGoes_159 (by decide) ?_
        obtain ⟨G20, qG20, hf⟩ := bn hf
        refine v_iast C h_a19 qG20 hC dX11_yearGoes_160 (fun hC => ?_)
        obtain ⟨x21, ex21⟩ : ∃ x : Int32, x = (l2 + 1) := ⟨_, rfl⟩
        have hf := bd_at hf ex21
        refine v_iinc (v := x21) (j := 1) (lv2 := [(2, .int x21), (0, .ref (ad l0))]) C dX11_yearGoes_161 rfl (by rw [ex21]; rfl) (by decide) rfl ?_
        refine v_goto (tgt := 90) C dX11_yearGoes_164 (by decide) ?_
        cases hf
        refine v_sub [1, 0] rfl ?_
        exact kb _ _ rfl hC
    · have hf := im hf c6
      refine v_goto (tgt := 161) C dX11_yearGoes_115 (by decide) ?_
      obtain ⟨x22, ex22⟩ : ∃ x : Int32, x = (l2 + 1) := ⟨_, rfl⟩
      have hf := bd_at hf ex22
      refine v_iinc (v := x22) (j := 1) (lv2 := [(2, .int x22), (0, .ref (ad l0))]) C dX11_yearGoes_161 rfl (by rw [ex22]; rfl) (by decide) rfl ?_
      refine v_goto (tgt := 90) C dX11_yearGoes_164 (by decide) ?_
      cases hf
      refine v_sub [1, 0] rfl ?_
      exact kb _ _ rfl hC
def fX11_yearGoes_J19 (sh : Sh) (G : Hp) (l0 : Nat) (s0 : Int32) : Option (Hp) := (iter (fun s : Hp × Int32 => fX11_yearGoes_S22 sh l0 s0 s.1 s.2) fuel ((G, 0) : Hp × Int32)).bind (fun u9 => bd u9 fun G2 => (iter (fun s : Hp × Int32 => fX11_yearGoes_S90 sh l0 s.1 s.2) fuel ((G2, 0) : Hp × Int32)).bind (fun u8 => bd u8 fun G4 => (ldA sh G4 l0 59 1).bind fun a5 => (aI sh G4 a5 23).bind fun v6 => (asI sh G4 a5 23 (v6 + 1)).bind fun G7 => some G7))
set_option maxHeartbeats 4000000 in
theorem tX11_yearGoes_J19 {E : EX} {ad : Nat → Nat} {sh : Sh} {G : Hp} {l0 : Nat} {s0 : Int32} {z : Hp} (C : Cx E RX11 cX11_yearGoes 3 none 4 0 0) (hC : Cl sh G) (h_l0 : sh[l0]? = some (0, 11)) (hf : fX11_yearGoes_J19 sh G l0 s0 = some z) (kr : RCv E cX11_yearGoes ad sh z) : VV E 0 0 (wq (xT E) ad G sh) 19 [(0, .ref (ad l0))] [.int s0] := by
  unfold fX11_yearGoes_J19 at hf
  refine v_istore_n (lv2 := [(1, .int s0), (0, .ref (ad l0))]) C dX11_yearGoes_19 rfl (by decide) rfl ?_
  refine v_iconst (v := 0) C dX11_yearGoes_20 (by decide) ?_
  refine v_istore_n (lv2 := [(2, .int 0), (1, .int s0), (0, .ref (ad l0))]) C dX11_yearGoes_21 rfl (by decide) rfl ?_
  obtain ⟨r1, qr1, hf⟩ := bn hf
  refine v_sub [2, 1, 0] rfl ?_
  refine iter_sound (P := (fun s : Hp × Int32 => Cl sh (s.1) → VV E 0 0 (wq (xT E) ad (s.1) sh) 22 [(0, .ref (ad l0)), (1, .int (s0)), (2, .int (s.2))] [])) (X := fun r => r = r1) (fun jsr1 jor1 hor1 jbr1 jxr1 hC => tX11_yearGoes_S22 C hC h_l0 hor1 (fun _ _ e => jbr1 _ e) ?_) fuel _ r1 qr1 rfl hC
  · intro G2 hu hC
    have e := jxr1 _ hu
    subst e
    have hf := bd_at hf (rfl : G2 = _)
    refine v_iconst (v := 0) C dX11_yearGoes_88 (by decide) ?_
    refine v_istore_n (lv2 := [(2, .int 0), (0, .ref (ad l0)), (1, .int s0)]) C dX11_yearGoes_89 rfl (by decide) rfl ?_
    obtain ⟨r3, qr3, hf⟩ := bn hf
    refine v_sub [1, 0] rfl ?_
    refine iter_sound (P := (fun s : Hp × Int32 => Cl sh (s.1) → VV E 0 0 (wq (xT E) ad (s.1) sh) 90 [(0, .ref (ad l0)), (2, .int (s.2))] [])) (X := fun r => r = r3) (fun jsr3 jor3 hor3 jbr3 jxr3 hC => tX11_yearGoes_S90 C hC h_l0 hor3 (fun _ _ e => jbr3 _ e) ?_) fuel _ r3 qr3 rfl hC
    · intro G4 hu hC
      have e := jxr3 _ hu
      subst e
      have hf := bd_at hf (rfl : G4 = _)
      refine v_aload_n C 0 dX11_yearGoes_167 rfl rfl ?_
      obtain ⟨a5, qa5, hf⟩ := bn hf
      refine v_getA C h_l0 fl_X11_137 qa5 dX11_yearGoes_168 (fun h_a5 => ?_)
      refine v_bipush (v := 23) C dX11_yearGoes_171 (by decide) ?_
      refine v_dup2 C dX11_yearGoes_173 rfl rfl ?_
      obtain ⟨v6, qv6, hf⟩ := bn hf
      refine v_iald C h_a5 qv6 dX11_yearGoes_174 ?_
      refine v_iconst (v := 1) C dX11_yearGoes_175 (by decide) ?_
      refine v_iadd C dX11_yearGoes_176 ?_
      obtain ⟨G7, qG7, hf⟩ := bn hf
      refine v_iast C h_a5 qG7 hC dX11_yearGoes_177 (fun hC => ?_)
      cases hf
      exact kr _ _ dX11_yearGoes_178 hC
def fX11_yearGoes_J18 (sh : Sh) (G : Hp) (l0 : Nat) : Option (Hp) := fX11_yearGoes_J19 sh G l0 0
set_option maxHeartbeats 4000000 in
theorem tX11_yearGoes_J18 {E : EX} {ad : Nat → Nat} {sh : Sh} {G : Hp} {l0 : Nat} {z : Hp} (C : Cx E RX11 cX11_yearGoes 3 none 4 0 0) (hC : Cl sh G) (h_l0 : sh[l0]? = some (0, 11)) (hf : fX11_yearGoes_J18 sh G l0 = some z) (kr : RCv E cX11_yearGoes ad sh z) : VV E 0 0 (wq (xT E) ad G sh) 18 [(0, .ref (ad l0))] [] := by
  unfold fX11_yearGoes_J18 at hf
  refine v_iconst (v := 0) C dX11_yearGoes_18 (by decide) ?_
  refine v_sub [0] rfl ?_
  exact tX11_yearGoes_J19 C hC h_l0 hf kr
def fX11_yearGoes (sh : Sh) (G : Hp) (l0 : Nat) : Option (Hp) := if (G.1 l0 61) = 0 then (fX11_isStorm sh G l0).bind fun r2 => if r2 = 0 then fX11_yearGoes_J18 sh G l0 else fX11_yearGoes_J19 sh G l0 1 else fX11_yearGoes_J18 sh G l0
set_option maxHeartbeats 4000000 in
theorem tX11_yearGoes {E : EX} {ad : Nat → Nat} {sh : Sh} {G : Hp} {l0 : Nat} {z : Hp} (C : Cx E RX11 cX11_yearGoes 3 none 4 0 0) (hC : Cl sh G) (h_l0 : sh[l0]? = some (0, 11)) (hf : fX11_yearGoes sh G l0 = some z) (kr : RCv E cX11_yearGoes ad sh z) : VV E 0 0 (wq (xT E) ad G sh) 0 [(0, .ref (ad l0))] [] := by
  unfold fX11_yearGoes at hf
  refine v_aload_n C 0 dX11_yearGoes_0 rfl rfl ?_
  refine v_getI C h_l0 fl_X11_377 dX11_yearGoes_1 ?_
  refine v_if_ne (tgt := 18) C dX11_yearGoes_4 (by decide) (fun c1 => ?_) (fun c1 => ?_)
  · have hf := im hf c1
    refine v_sub [0] rfl ?_
    exact tX11_yearGoes_J18 C hC h_l0 hf kr
  · have hf := ip hf c1
    refine v_aload_n C 0 dX11_yearGoes_7 rfl rfl ?_
    obtain ⟨r2, qr2, hf⟩ := bn hf
    refine v_callVi (As := []) (rest := []) C (sX11_isStorm h_l0 qr2) cs_X11_409 (by decide) h_l0 rfl hC rfl rfl rfl (Nat.le_of_ble_eq_true rfl) ⟨Nat.le_refl _, Nat.le_refl _⟩ dX11_yearGoes_8 (fun hC => ?_)
    refine v_if_eq (tgt := 18) C dX11_yearGoes_11 (by decide) (fun c3 => ?_) (fun c3 => ?_)
    · have hf := ip hf c3
      refine v_sub [0] rfl ?_
      exact tX11_yearGoes_J18 C hC h_l0 hf kr
    · have hf := im hf c3
      refine v_iconst (v := 1) C dX11_yearGoes_14 (by decide) ?_
      refine v_goto (tgt := 19) C dX11_yearGoes_15 (by decide) ?_
      refine v_sub [0] rfl ?_
      exact tX11_yearGoes_J19 C hC h_l0 hf kr
theorem sX11_yearGoes {l : Launch} {sh : Sh} {G : Hp} {l0 : Nat} {z : Hp} (h_l0 : sh[l0]? = some (0, 11)) (hf : fX11_yearGoes sh G l0 = some z) : MC l yX11_yearGoes cX11_yearGoes 3 none 4 0 0 sh sh G z (fun ad => [.ref (ad l0)]) (fun _ => none) := by
  refine MC_of rfl rfl (fun _ => Nat.le_of_ble_eq_true rfl) (fun E ad C hl hnm hC hQ => ?_)
  exact tX11_yearGoes C hC h_l0 hf (fun pc lv hd hC => v_vret C hQ (fun _ _ => rfl) hC rfl hd)
def fX11_standsFor_S7 (sh : Sh) (l0 : Nat) (l1 : Int32) (G : Hp) (l2 : Int32) : Option ((Hp × Int32) ⊕ ((Hp) ⊕ (Hp × Int32))) := if 200 < l2 then some (.inr (.inl G)) else (fX11_yearGoes sh G l0).bind fun G3 => (ldA sh G3 l0 59 1).bind fun a4 => (aI sh G3 a4 ((4 : Int32) + l1)).bind fun v5 => if v5 = 2 then some (.inr (.inr (G3, l2))) else bd ((l2 + 1) : Int32) fun x7 => some (.inl (G3, x7))
set_option maxHeartbeats 4000000 in
theorem tX11_standsFor_S7 {E : EX} {ad : Nat → Nat} {sh : Sh} {G : Hp} {l0 : Nat} {l1 : Int32} {l2 : Int32} {o : (Hp × Int32) ⊕ ((Hp) ⊕ (Hp × Int32))} (C : Cx E RX11 cX11_standsFor 3 (some .int) 5 0 0) (hC : Cl sh G) (h_l0 : sh[l0]? = some (0, 11)) (hf : fX11_standsFor_S7 sh l0 l1 G l2 = some o) (kb : ∀ (G2 : Hp) (b_l2 : Int32), o = .inl (G2, b_l2) → Cl sh G2 → VV E 0 0 (wq (xT E) ad G2 sh) 7 [(0, .ref (ad l0)), (1, .int l1), (2, .int b_l2)] []) (kx38 : ∀ (G2 : Hp), o = .inr (.inl G2) → Cl sh G2 → VV E 0 0 (wq (xT E) ad G2 sh) 38 [(0, .ref (ad l0)), (1, .int l1)] []) (kx30 : ∀ (G2 : Hp) (b_l2 : Int32), o = .inr (.inr (G2, b_l2)) → Cl sh G2 → VV E 0 0 (wq (xT E) ad G2 sh) 30 [(0, .ref (ad l0)), (1, .int l1), (2, .int b_l2)] []) : VV E 0 0 (wq (xT E) ad G sh) 7 [(0, .ref (ad l0)), (1, .int l1), (2, .int l2)] [] := by
  unfold fX11_standsFor_S7 at hf
  refine v_iload_n C 2 dX11_standsFor_7 rfl rfl ?_
  refine v_sipush (v := 200) C dX11_standsFor_8 (by decide) ?_
  refine v_icmp_gt (tgt := 38) C dX11_standsFor_11 (by decide) (fun c1 => ?_) (fun c1 => ?_)
  · have hf := ip hf c1
    cases hf
    refine v_sub [0, 1] rfl ?_
    exact kx38 _ rfl hC
  · have hf := im hf c1
    refine v_aload_n C 0 dX11_standsFor_14 rfl rfl ?_
    obtain ⟨G3, qr2, hf⟩ := bn hf
    refine v_callVv (As := []) (rest := []) C (sX11_yearGoes h_l0 qr2) cs_X11_416 (by decide) h_l0 rfl hC rfl rfl rfl (Nat.le_of_ble_eq_true rfl) ⟨Nat.le_refl _, Nat.le_refl _⟩ dX11_standsFor_15 (fun hC => ?_)
    refine v_aload_n C 0 dX11_standsFor_18 rfl rfl ?_
    obtain ⟨a4, qa4, hf⟩ := bn hf
    refine v_getA C h_l0 fl_X11_137 qa4 dX11_standsFor_19 (fun h_a4 => ?_)
    refine v_iconst (v := 4) C dX11_standsFor_22 (by decide) ?_
    refine v_iload_n C 1 dX11_standsFor_23 rfl rfl ?_
    refine v_iadd C dX11_standsFor_24 ?_
    obtain ⟨v5, qv5, hf⟩ := bn hf
    refine v_iald C h_a4 qv5 dX11_standsFor_25 ?_
    refine v_iconst (v := 2) C dX11_standsFor_26 (by decide) ?_
    refine v_icmp_ne (tgt := 32) C dX11_standsFor_27 (by decide) (fun c6 => ?_) (fun c6 => ?_)
    · have hf := im hf c6
      obtain ⟨x7, ex7⟩ : ∃ x : Int32, x = (l2 + 1) := ⟨_, rfl⟩
      have hf := bd_at hf ex7
      refine v_iinc (v := x7) (j := 2) (lv2 := [(2, .int x7), (0, .ref (ad l0)), (1, .int l1)]) C dX11_standsFor_32 rfl (by rw [ex7]; rfl) (by decide) rfl ?_
      refine v_goto (tgt := 7) C dX11_standsFor_35 (by decide) ?_
      cases hf
      refine v_sub [1, 2, 0] rfl ?_
      exact kb _ _ rfl hC
    · have hf := ip hf c6
      cases hf
      refine v_sub [0, 1, 2] rfl ?_
      exact kx30 _ _ rfl hC
def fX11_standsFor (sh : Sh) (G : Hp) (l0 : Nat) (l1 : Int32) : Option (Int32 × Hp) := bd (sI G l0 61 1) fun G1 => (iter (fun s : Hp × Int32 => fX11_standsFor_S7 sh l0 l1 s.1 s.2) fuel ((G1, 1) : Hp × Int32)).bind (Sum.elim (fun u4 => bd u4 fun G3 => some (201, G3)) (fun u7 => bd u7.1 fun G5 => bd u7.2 fun x6 => some (x6, G5)))
set_option maxHeartbeats 4000000 in
theorem tX11_standsFor {E : EX} {ad : Nat → Nat} {sh : Sh} {G : Hp} {l0 : Nat} {l1 : Int32} {z : Int32 × Hp} (C : Cx E RX11 cX11_standsFor 3 (some .int) 5 0 0) (hC : Cl sh G) (h_l0 : sh[l0]? = some (0, 11)) (hf : fX11_standsFor sh G l0 l1 = some z) (kr : RCi E cX11_standsFor ad sh (z.1) (z.2)) : VV E 0 0 (wq (xT E) ad G sh) 0 [(0, .ref (ad l0)), (1, .int l1)] [] := by
  unfold fX11_standsFor at hf
  refine v_aload_n C 0 dX11_standsFor_0 rfl rfl ?_
  refine v_iconst (v := 1) C dX11_standsFor_1 (by decide) ?_
  refine v_putZ C h_l0 fp_X11_377 (Or.inr rfl) dX11_standsFor_2 (fun G1 eG1 => ?_)
  have hf := bd_at hf eG1
  have hC : Cl sh G1 := by rw [eG1]; exact hC
  refine v_iconst (v := 1) C dX11_standsFor_5 (by decide) ?_
  refine v_istore_n (lv2 := [(2, .int 1), (0, .ref (ad l0)), (1, .int l1)]) C dX11_standsFor_6 rfl (by decide) rfl ?_
  obtain ⟨r2, qr2, hf⟩ := bn hf
  refine v_sub [1, 2, 0] rfl ?_
  refine iter_sound (P := (fun s : Hp × Int32 => Cl sh (s.1) → VV E 0 0 (wq (xT E) ad (s.1) sh) 7 [(0, .ref (ad l0)), (1, .int (l1)), (2, .int (s.2))] [])) (X := fun r => r = r2) (fun jsr2 jor2 hor2 jbr2 jxr2 hC => tX11_standsFor_S7 C hC h_l0 hor2 (fun _ _ e => jbr2 _ e) ?_ ?_) fuel _ r2 qr2 rfl hC
  · intro G3 hu hC
    have e := jxr2 _ hu
    subst e
    have hf := sm_l hf
    have hf := bd_at hf (rfl : G3 = _)
    refine v_sipush (v := 201) C dX11_standsFor_38 (by decide) ?_
    cases hf
    exact kr _ _ dX11_standsFor_41 hC
  · intro G5 x6 hu hC
    have e := jxr2 _ hu
    subst e
    have hf := sm_r hf
    have hf := bd_at hf (rfl : G5 = _)
    have hf := bd_at hf (rfl : x6 = _)
    refine v_iload_n C 2 dX11_standsFor_30 rfl rfl ?_
    cases hf
    exact kr _ _ dX11_standsFor_31 hC
theorem sX11_standsFor {l : Launch} {sh : Sh} {G : Hp} {l0 : Nat} {l1 : Int32} {z : Int32 × Hp} (h_l0 : sh[l0]? = some (0, 11)) (hf : fX11_standsFor sh G l0 l1 = some z) : MC l yX11_standsFor cX11_standsFor 3 (some .int) 5 0 0 sh sh G (z.2) (fun ad => [.ref (ad l0), .int l1]) (fun _ => some (.int z.1)) := by
  refine MC_of rfl rfl (fun _ => Nat.le_of_ble_eq_true rfl) (fun E ad C hl hnm hC hQ => ?_)
  exact tX11_standsFor C hC h_l0 hf (fun pc lv hd hC => v_iret C hQ (fun _ _ => rfl) hC rfl hd)
def fX11_mendFirst_J127L19 (sh : Sh) (G : Hp) (l0 : Nat) (l1 : Int32) (l2 : Int32) (l3 : Int32) (l4 : Int32) (s0 : Int32) : Option ((Hp × Int32 × Int32 × Int32) ⊕ ((Hp × Int32 × Int32))) := if l3 < s0 then bd ((l4 + 1) : Int32) fun x2 => some (.inl (G, l4, s0, x2)) else bd ((l4 + 1) : Int32) fun x3 => some (.inl (G, l2, l3, x3))
set_option maxHeartbeats 4000000 in
theorem tX11_mendFirst_J127L19 {E : EX} {ad : Nat → Nat} {sh : Sh} {G : Hp} {l0 : Nat} {l1 : Int32} {l2 : Int32} {l3 : Int32} {l4 : Int32} {s0 : Int32} {o : (Hp × Int32 × Int32 × Int32) ⊕ ((Hp × Int32 × Int32))} (C : Cx E RX11 cX11_mendFirst 8 (some .int) 6 0 0) (hC : Cl sh G) (h_l0 : sh[l0]? = some (0, 11)) (hf : fX11_mendFirst_J127L19 sh G l0 l1 l2 l3 l4 s0 = some o) (kb : ∀ (G2 : Hp) (b_l2 : Int32) (b_l3 : Int32) (b_l4 : Int32), o = .inl (G2, b_l2, b_l3, b_l4) → Cl sh G2 → VV E 0 0 (wq (xT E) ad G2 sh) 19 [(0, .ref (ad l0)), (1, .int l1), (2, .int b_l2), (3, .int b_l3), (4, .int b_l4)] []) (kx150 : ∀ (G2 : Hp) (b_l2 : Int32) (b_l3 : Int32), o = .inr (G2, b_l2, b_l3) → Cl sh G2 → VV E 0 0 (wq (xT E) ad G2 sh) 150 [(0, .ref (ad l0)), (1, .int l1), (2, .int b_l2), (3, .int b_l3)] []) : VV E 0 0 (wq (xT E) ad G sh) 127 [(0, .ref (ad l0)), (1, .int l1), (2, .int l2), (3, .int l3), (4, .int l4)] [.int s0] := by
  unfold fX11_mendFirst_J127L19 at hf
  refine v_istore (lv2 := [(7, .int s0), (0, .ref (ad l0)), (1, .int l1), (2, .int l2), (3, .int l3), (4, .int l4)]) C dX11_mendFirst_127 (by decide) rfl ?_
  refine v_iload C 0 dX11_mendFirst_129 rfl ?_
  refine v_iload_n C 4 dX11_mendFirst_131 rfl rfl ?_
  refine v_icmp_gt (tgt := 138) C dX11_mendFirst_132 (by decide) (fun c1 => ?_) (fun c1 => ?_)
  · have hf := ip hf c1
    refine v_iload C 5 dX11_mendFirst_138 rfl ?_
    refine v_istore_n (lv2 := [(2, .int l4), (7, .int s0), (0, .ref (ad l0)), (1, .int l1), (3, .int l3), (4, .int l4)]) C dX11_mendFirst_140 rfl (by decide) rfl ?_
    refine v_iload C 1 dX11_mendFirst_141 rfl ?_
    refine v_istore_n (lv2 := [(3, .int s0), (2, .int l4), (7, .int s0), (0, .ref (ad l0)), (1, .int l1), (4, .int l4)]) C dX11_mendFirst_143 rfl (by decide) rfl ?_
    obtain ⟨x2, ex2⟩ : ∃ x : Int32, x = (l4 + 1) := ⟨_, rfl⟩
    have hf := bd_at hf ex2
    refine v_iinc (v := x2) (j := 5) (lv2 := [(4, .int x2), (3, .int s0), (2, .int l4), (7, .int s0), (0, .ref (ad l0)), (1, .int l1)]) C dX11_mendFirst_144 rfl (by rw [ex2]; rfl) (by decide) rfl ?_
    refine v_goto (tgt := 19) C dX11_mendFirst_147 (by decide) ?_
    cases hf
    refine v_sub [4, 5, 2, 1, 0] rfl ?_
    exact kb _ _ _ _ rfl hC
  · have hf := im hf c1
    refine v_goto (tgt := 144) C dX11_mendFirst_135 (by decide) ?_
    obtain ⟨x3, ex3⟩ : ∃ x : Int32, x = (l4 + 1) := ⟨_, rfl⟩
    have hf := bd_at hf ex3
    refine v_iinc (v := x3) (j := 5) (lv2 := [(4, .int x3), (7, .int s0), (0, .ref (ad l0)), (1, .int l1), (2, .int l2), (3, .int l3)]) C dX11_mendFirst_144 rfl (by rw [ex3]; rfl) (by decide) rfl ?_
    refine v_goto (tgt := 19) C dX11_mendFirst_147 (by decide) ?_
    cases hf
    refine v_sub [2, 3, 4, 5, 0] rfl ?_
    exact kb _ _ _ _ rfl hC
def fX11_mendFirst_S19 (sh : Sh) (l0 : Nat) (l1 : Int32) (G : Hp) (l2 : Int32) (l3 : Int32) (l4 : Int32) : Option ((Hp × Int32 × Int32 × Int32) ⊕ ((Hp × Int32 × Int32))) := (ldA sh G l0 31 1).bind fun a1 => (aI sh G a1 (G.1 l0 18)).bind fun v2 => if v2 ≤ l4 then some (.inr (G, l2, l3)) else (ldA sh G l0 58 1).bind fun a4 => (aI sh G a4 ((4 : Int32) + l4)).bind fun v5 => if v5 = 1 then (ldA sh G l0 58 1).bind fun a8 => (aI sh G a8 l4).bind fun v9 => if v9 = 99 then bd ((l4 + 1) : Int32) fun x24 => some (.inl (G, l2, l3, x24)) else (fX11_copies sh G l0).bind fun G12 => bp (fX11_standsFor sh G12 l0 l4) fun r13 G14 => (fX11_copies sh G14 l0).bind fun G16 => (ldA sh G16 l0 59 1).bind fun a17 => (aI sh G16 a17 l4).bind fun v18 => (asI sh G16 a17 l4 (v18 + 1)).bind fun G19 => bp (fX11_standsFor sh G19 l0 l4) fun r20 G21 => if r13 = 201 then fX11_mendFirst_J127L19 sh G21 l0 l1 l2 l3 l4 0 else if r20 = 201 then fX11_mendFirst_J127L19 sh G21 l0 l1 l2 l3 l4 999 else fX11_mendFirst_J127L19 sh G21 l0 l1 l2 l3 l4 (r20 - r13) else bd ((l4 + 1) : Int32) fun x7 => some (.inl (G, l2, l3, x7))
set_option maxHeartbeats 4000000 in
theorem tX11_mendFirst_S19 {E : EX} {ad : Nat → Nat} {sh : Sh} {G : Hp} {l0 : Nat} {l1 : Int32} {l2 : Int32} {l3 : Int32} {l4 : Int32} {o : (Hp × Int32 × Int32 × Int32) ⊕ ((Hp × Int32 × Int32))} (C : Cx E RX11 cX11_mendFirst 8 (some .int) 6 0 0) (hC : Cl sh G) (h_l0 : sh[l0]? = some (0, 11)) (hf : fX11_mendFirst_S19 sh l0 l1 G l2 l3 l4 = some o) (kb : ∀ (G2 : Hp) (b_l2 : Int32) (b_l3 : Int32) (b_l4 : Int32), o = .inl (G2, b_l2, b_l3, b_l4) → Cl sh G2 → VV E 0 0 (wq (xT E) ad G2 sh) 19 [(0, .ref (ad l0)), (1, .int l1), (2, .int b_l2), (3, .int b_l3), (4, .int b_l4)] []) (kx150 : ∀ (G2 : Hp) (b_l2 : Int32) (b_l3 : Int32), o = .inr (G2, b_l2, b_l3) → Cl sh G2 → VV E 0 0 (wq (xT E) ad G2 sh) 150 [(0, .ref (ad l0)), (1, .int l1), (2, .int b_l2), (3, .int b_l3)] []) : VV E 0 0 (wq (xT E) ad G sh) 19 [(0, .ref (ad l0)), (1, .int l1), (2, .int l2), (3, .int l3), (4, .int l4)] [] := by
  unfold fX11_mendFirst_S19 at hf
  refine v_iload C 4 dX11_mendFirst_19 rfl ?_
  refine v_aload_n C 0 dX11_mendFirst_21 rfl rfl ?_
  obtain ⟨a1, qa1, hf⟩ := bn hf
  refine v_getA C h_l0 fl_X11_70 qa1 dX11_mendFirst_22 (fun h_a1 => ?_)
  refine v_aload_n C 0 dX11_mendFirst_25 rfl rfl ?_
  refine v_getI C h_l0 fl_X11_257 dX11_mendFirst_26 ?_
  obtain ⟨v2, qv2, hf⟩ := bn hf
  refine v_iald C h_a1 qv2 dX11_mendFirst_29 ?_
  refine v_icmp_ge (tgt := 150) C dX11_mendFirst_30 (by decide) (fun c3 => ?_) (fun c3 => ?_)
  · have hf := ip hf c3
    cases hf
    refine v_sub [0, 1, 2, 3] rfl ?_
    exact kx150 _ _ _ rfl hC
  · have hf := im hf c3
    refine v_aload_n C 0 dX11_mendFirst_33 rfl rfl ?_
    obtain ⟨a4, qa4, hf⟩ := bn hf
    refine v_getA C h_l0 fl_X11_134 qa4 dX11_mendFirst_34 (fun h_a4 => ?_)
    refine v_iconst (v := 4) C dX11_mendFirst_37 (by decide) ?_
    refine v_iload C 4 dX11_mendFirst_38 rfl ?_
    refine v_iadd C dX11_mendFirst_40 ?_
    obtain ⟨v5, qv5, hf⟩ := bn hf
    refine v_iald C h_a4 qv5 dX11_mendFirst_41 ?_
    refine v_iconst (v := 1) C dX11_mendFirst_42 (by decide) ?_
    refine v_icmp_ne (tgt := 144) C dX11_mendFirst_43 (by decide) (fun c6 => ?_) (fun c6 => ?_)
    · have hf := im hf c6
      obtain ⟨x7, ex7⟩ : ∃ x : Int32, x = (l4 + 1) := ⟨_, rfl⟩
      have hf := bd_at hf ex7
      refine v_iinc (v := x7) (j := 4) (lv2 := [(4, .int x7), (0, .ref (ad l0)), (1, .int l1), (2, .int l2), (3, .int l3)]) C dX11_mendFirst_144 rfl (by rw [ex7]; rfl) (by decide) rfl ?_
      refine v_goto (tgt := 19) C dX11_mendFirst_147 (by decide) ?_
      cases hf
      refine v_sub [1, 2, 3, 4, 0] rfl ?_
      exact kb _ _ _ _ rfl hC
    · have hf := ip hf c6
      refine v_aload_n C 0 dX11_mendFirst_46 rfl rfl ?_
      obtain ⟨a8, qa8, hf⟩ := bn hf
      refine v_getA C h_l0 fl_X11_134 qa8 dX11_mendFirst_47 (fun h_a8 => ?_)
      refine v_iload C 4 dX11_mendFirst_50 rfl ?_
      obtain ⟨v9, qv9, hf⟩ := bn hf
      refine v_iald C h_a8 qv9 dX11_mendFirst_52 ?_
      refine v_bipush (v := 99) C dX11_mendFirst_53 (by decide) ?_
      refine v_icmp_ne (tgt := 61) C dX11_mendFirst_55 (by decide) (fun c10 => ?_) (fun c10 => ?_)
      · have hf := im hf c10
        refine v_aload_n C 0 dX11_mendFirst_61 rfl rfl ?_
        obtain ⟨G12, qr11, hf⟩ := bn hf
        refine v_callVv (As := []) (rest := []) C (sX11_copies h_l0 qr11) cs_X11_434 (by decide) h_l0 rfl hC rfl rfl rfl (Nat.le_of_ble_eq_true rfl) ⟨Nat.le_refl _, Nat.le_refl _⟩ dX11_mendFirst_62 (fun hC => ?_)
        refine v_aload_n C 0 dX11_mendFirst_65 rfl rfl ?_
        refine v_iload C 4 dX11_mendFirst_66 rfl ?_
        obtain ⟨r13, G14, qr13, hf⟩ := bpn hf
        refine v_callVi (As := [.int l4]) (rest := []) C (sX11_standsFor h_l0 qr13) cs_X11_506 (by decide) h_l0 rfl hC rfl rfl rfl (Nat.le_of_ble_eq_true rfl) ⟨Nat.le_refl _, Nat.le_refl _⟩ dX11_mendFirst_68 (fun hC => ?_)
        refine v_istore (lv2 := [(5, .int r13), (0, .ref (ad l0)), (1, .int l1), (2, .int l2), (3, .int l3), (4, .int l4)]) C dX11_mendFirst_71 (by decide) rfl ?_
        refine v_aload_n C 1 dX11_mendFirst_73 rfl rfl ?_
        obtain ⟨G16, qr15, hf⟩ := bn hf
        refine v_callVv (As := []) (rest := []) C (sX11_copies h_l0 qr15) cs_X11_434 (by decide) h_l0 rfl hC rfl rfl rfl (Nat.le_of_ble_eq_true rfl) ⟨Nat.le_refl _, Nat.le_refl _⟩ dX11_mendFirst_74 (fun hC => ?_)
        refine v_aload_n C 1 dX11_mendFirst_77 rfl rfl ?_
        obtain ⟨a17, qa17, hf⟩ := bn hf
        refine v_getA C h_l0 fl_X11_137 qa17 dX11_mendFirst_78 (fun h_a17 => ?_)
        refine v_iload C 5 dX11_mendFirst_81 rfl ?_
        refine v_dup2 C dX11_mendFirst_83 rfl rfl ?_
        obtain ⟨v18, qv18, hf⟩ := bn hf
        refine v_iald C h_a17 qv18 dX11_mendFirst_84 ?_
        refine v_iconst (v := 1) C dX11_mendFirst_85 (by decide) ?_
        refine v_iadd C dX11_mendFirst_86 ?_
        obtain ⟨G19, qG19, hf⟩ := bn hf
        refine v_iast C h_a17 qG19 hC dX11_mendFirst_87 (fun hC => ?_)
        refine v_aload_n C 1 dX11_mendFirst_88 rfl rfl ?_
        refine v_iload C 5 dX11_mendFirst_89 rfl ?_
        obtain ⟨r20, G21, qr20, hf⟩ := bpn hf
        refine v_callVi (As := [.int l4]) (rest := []) C (sX11_standsFor h_l0 qr20) cs_X11_506 (by decide) h_l0 rfl hC rfl rfl rfl (Nat.le_of_ble_eq_true rfl) ⟨Nat.le_refl _, Nat.le_refl _⟩ dX11_mendFirst_91 (fun hC => ?_)
        refine v_istore (lv2 := [(6, .int r20), (5, .int r13), (0, .ref (ad l0)), (1, .int l1), (2, .int l2), (3, .int l3), (4, .int l4)]) C dX11_mendFirst_94 (by decide) rfl ?_
        refine v_iload C 1 dX11_mendFirst_96 rfl ?_
        refine v_sipush (v := 201) C dX11_mendFirst_98 (by decide) ?_
        refine v_icmp_ne (tgt := 108) C dX11_mendFirst_101 (by decide) (fun c22 => ?_) (fun c22 => ?_)
        · have hf := im hf c22
          refine v_iload C 0 dX11_mendFirst_108 rfl ?_
          refine v_sipush (v := 201) C dX11_mendFirst_110 (by decide) ?_
          refine v_icmp_ne (tgt := 122) C dX11_mendFirst_113 (by decide) (fun c23 => ?_) (fun c23 => ?_)
          · have hf := im hf c23
            refine v_iload C 0 dX11_mendFirst_122 rfl ?_
            refine v_iload C 1 dX11_mendFirst_124 rfl ?_
            refine v_isub C dX11_mendFirst_126 ?_
            refine v_sub [2, 3, 4, 5, 6] rfl ?_
            exact tX11_mendFirst_J127L19 C hC h_l0 hf kb kx150
          · have hf := ip hf c23
            refine v_sipush (v := 999) C dX11_mendFirst_116 (by decide) ?_
            refine v_goto (tgt := 127) C dX11_mendFirst_119 (by decide) ?_
            refine v_sub [2, 3, 4, 5, 6] rfl ?_
            exact tX11_mendFirst_J127L19 C hC h_l0 hf kb kx150
        · have hf := ip hf c22
          refine v_iconst (v := 0) C dX11_mendFirst_104 (by decide) ?_
          refine v_goto (tgt := 127) C dX11_mendFirst_105 (by decide) ?_
          refine v_sub [2, 3, 4, 5, 6] rfl ?_
          exact tX11_mendFirst_J127L19 C hC h_l0 hf kb kx150
      · have hf := ip hf c10
        refine v_goto (tgt := 144) C dX11_mendFirst_58 (by decide) ?_
        obtain ⟨x24, ex24⟩ : ∃ x : Int32, x = (l4 + 1) := ⟨_, rfl⟩
        have hf := bd_at hf ex24
        refine v_iinc (v := x24) (j := 4) (lv2 := [(4, .int x24), (0, .ref (ad l0)), (1, .int l1), (2, .int l2), (3, .int l3)]) C dX11_mendFirst_144 rfl (by rw [ex24]; rfl) (by decide) rfl ?_
        refine v_goto (tgt := 19) C dX11_mendFirst_147 (by decide) ?_
        cases hf
        refine v_sub [1, 2, 3, 4, 0] rfl ?_
        exact kb _ _ _ _ rfl hC
def fX11_mendFirst (sh : Sh) (G : Hp) (l0 : Nat) (l1 : Int32) : Option (Int32 × Hp) := (fX11_in l1 0 1).bind fun r1 => if r1 = 0 then some ((-1), G) else (iter (fun s : Hp × Int32 × Int32 × Int32 => fX11_mendFirst_S19 sh l0 l1 s.1 s.2.1 s.2.2.1 s.2.2.2) fuel ((G, (-2), 0, 0) : Hp × Int32 × Int32 × Int32)).bind (fun u10 => bd u10.1 fun G4 => bd u10.2.1 fun x5 => bd u10.2.2 fun x6 => if x5 < 0 then some (x5, G4) else if l1 = 0 then some (x5, G4) else if x6 = 999 then some ((-3), G4) else some (x6, G4))
set_option maxHeartbeats 4000000 in
theorem tX11_mendFirst {E : EX} {ad : Nat → Nat} {sh : Sh} {G : Hp} {l0 : Nat} {l1 : Int32} {z : Int32 × Hp} (C : Cx E RX11 cX11_mendFirst 8 (some .int) 6 0 0) (hC : Cl sh G) (h_l0 : sh[l0]? = some (0, 11)) (hf : fX11_mendFirst sh G l0 l1 = some z) (kr : RCi E cX11_mendFirst ad sh (z.1) (z.2)) : VV E 0 0 (wq (xT E) ad G sh) 0 [(0, .ref (ad l0)), (1, .int l1)] [] := by
  unfold fX11_mendFirst at hf
  refine v_iload_n C 1 dX11_mendFirst_0 rfl rfl ?_
  refine v_iconst (v := 0) C dX11_mendFirst_1 (by decide) ?_
  refine v_iconst (v := 1) C dX11_mendFirst_2 (by decide) ?_
  obtain ⟨r1, qr1, hf⟩ := bn hf
  refine v_callSi (As := [.int l1, .int 0, .int 1]) (rest := []) C (sX11_in  qr1) cs_X11_370 (by decide) hC rfl rfl rfl (Nat.le_of_ble_eq_true rfl) ⟨Nat.le_refl _, Nat.le_refl _⟩ dX11_mendFirst_3 (fun hC => ?_)
  refine v_if_ne (tgt := 11) C dX11_mendFirst_6 (by decide) (fun c2 => ?_) (fun c2 => ?_)
  · have hf := im hf c2
    refine v_bipush (v := (-2)) C dX11_mendFirst_11 (by decide) ?_
    refine v_istore_n (lv2 := [(2, .int (-2)), (0, .ref (ad l0)), (1, .int l1)]) C dX11_mendFirst_13 rfl (by decide) rfl ?_
    refine v_iconst (v := 0) C dX11_mendFirst_14 (by decide) ?_
    refine v_istore_n (lv2 := [(3, .int 0), (2, .int (-2)), (0, .ref (ad l0)), (1, .int l1)]) C dX11_mendFirst_15 rfl (by decide) rfl ?_
    refine v_iconst (v := 0) C dX11_mendFirst_16 (by decide) ?_
    refine v_istore (lv2 := [(4, .int 0), (3, .int 0), (2, .int (-2)), (0, .ref (ad l0)), (1, .int l1)]) C dX11_mendFirst_17 (by decide) rfl ?_
    obtain ⟨r3, qr3, hf⟩ := bn hf
    refine v_sub [3, 4, 2, 1, 0] rfl ?_
    refine iter_sound (P := (fun s : Hp × Int32 × Int32 × Int32 => Cl sh (s.1) → VV E 0 0 (wq (xT E) ad (s.1) sh) 19 [(0, .ref (ad l0)), (1, .int (l1)), (2, .int (s.2.1)), (3, .int (s.2.2.1)), (4, .int (s.2.2.2))] [])) (X := fun r => r = r3) (fun jsr3 jor3 hor3 jbr3 jxr3 hC => tX11_mendFirst_S19 C hC h_l0 hor3 (fun _ _ _ _ e => jbr3 _ e) ?_) fuel _ r3 qr3 rfl hC
    · intro G4 x5 x6 hu hC
      have e := jxr3 _ hu
      subst e
      have hf := bd_at hf (rfl : G4 = _)
      have hf := bd_at hf (rfl : x5 = _)
      have hf := bd_at hf (rfl : x6 = _)
      refine v_iload_n C 2 dX11_mendFirst_150 rfl rfl ?_
      refine v_if_lt (tgt := 158) C dX11_mendFirst_151 (by decide) (fun c7 => ?_) (fun c7 => ?_)
      · have hf := ip hf c7
        refine v_iload_n C 2 dX11_mendFirst_158 rfl rfl ?_
        refine v_goto (tgt := 175) C dX11_mendFirst_159 (by decide) ?_
        cases hf
        exact kr _ _ dX11_mendFirst_175 hC
      · have hf := im hf c7
        refine v_iload_n C 1 dX11_mendFirst_154 rfl rfl ?_
        refine v_if_ne (tgt := 162) C dX11_mendFirst_155 (by decide) (fun c8 => ?_) (fun c8 => ?_)
        · have hf := im hf c8
          refine v_iload_n C 3 dX11_mendFirst_162 rfl rfl ?_
          refine v_sipush (v := 999) C dX11_mendFirst_163 (by decide) ?_
          refine v_icmp_ne (tgt := 174) C dX11_mendFirst_166 (by decide) (fun c9 => ?_) (fun c9 => ?_)
          · have hf := im hf c9
            refine v_iload_n C 3 dX11_mendFirst_174 rfl rfl ?_
            cases hf
            exact kr _ _ dX11_mendFirst_175 hC
          · have hf := ip hf c9
            refine v_bipush (v := (-3)) C dX11_mendFirst_169 (by decide) ?_
            refine v_goto (tgt := 175) C dX11_mendFirst_171 (by decide) ?_
            cases hf
            exact kr _ _ dX11_mendFirst_175 hC
        · have hf := ip hf c8
          refine v_iload_n C 2 dX11_mendFirst_158 rfl rfl ?_
          refine v_goto (tgt := 175) C dX11_mendFirst_159 (by decide) ?_
          cases hf
          exact kr _ _ dX11_mendFirst_175 hC
  · have hf := ip hf c2
    refine v_iconst (v := (-1)) C dX11_mendFirst_9 (by decide) ?_
    cases hf
    exact kr _ _ dX11_mendFirst_10 hC
theorem sX11_mendFirst {l : Launch} {sh : Sh} {G : Hp} {l0 : Nat} {l1 : Int32} {z : Int32 × Hp} (h_l0 : sh[l0]? = some (0, 11)) (hf : fX11_mendFirst sh G l0 l1 = some z) : MC l yX11_mendFirst cX11_mendFirst 8 (some .int) 6 0 0 sh sh G (z.2) (fun ad => [.ref (ad l0), .int l1]) (fun _ => some (.int z.1)) := by
  refine MC_of rfl rfl (fun _ => Nat.le_of_ble_eq_true rfl) (fun E ad C hl hnm hC hQ => ?_)
  exact tX11_mendFirst C hC h_l0 hf (fun pc lv hd hC => v_iret C hQ (fun _ _ => rfl) hC rfl hd)
def fX11_isLong (l0 : Int32) : Option (Int32) := (fX11_in l0 0 60).bind fun r1 => if ¬ (r1 = 0 ∨ r1 = 1) then none else some r1
set_option maxHeartbeats 4000000 in
theorem tX11_isLong {E : EX} {ad : Nat → Nat} {sh : Sh} {G : Hp} {l0 : Int32} {z : Int32} (C : Cx E RX11 cX11_isLong 1 (some .boolean) 2 0 0) (hC : Cl sh G) (hf : fX11_isLong l0 = some z) (kr : RCz E cX11_isLong ad sh z G) : VV E 0 0 (wq (xT E) ad G sh) 0 [(0, .int l0)] [] := by
  unfold fX11_isLong at hf
  refine v_iload_n C 0 dX11_isLong_0 rfl rfl ?_
  refine v_iconst (v := 0) C dX11_isLong_1 (by decide) ?_
  refine v_bipush (v := 60) C dX11_isLong_2 (by decide) ?_
  obtain ⟨r1, qr1, hf⟩ := bn hf
  refine v_callSi (As := [.int l0, .int 0, .int 60]) (rest := []) C (sX11_in  qr1) cs_X11_370 (by decide) hC rfl rfl rfl (Nat.le_of_ble_eq_true rfl) ⟨Nat.le_refl _, Nat.le_refl _⟩ dX11_isLong_4 (fun hC => ?_)
  obtain ⟨hz2, hf⟩ := iz hf
  cases hf
  exact kr _ _ dX11_isLong_7 (Classical.not_not.mp hz2) hC
theorem sX11_isLong {l : Launch} {sh : Sh} {G : Hp} {l0 : Int32} {z : Int32} (hf : fX11_isLong l0 = some z) : MC l yX11_isLong cX11_isLong 1 (some .boolean) 2 0 0 sh sh G G (fun ad => [.int l0]) (fun _ => some (.int z)) := by
  refine MC_of rfl rfl (fun _ => Nat.le_of_ble_eq_true rfl) (fun E ad C hl hnm hC hQ => ?_)
  exact tX11_isLong C hC hf (fun pc lv hd hz hC => v_zret C hQ (fun _ _ => rfl) hC rfl hz hd)
def fX11_goes_S2 (sh : Sh) (l0 : Nat) (l1 : Int32) (G : Hp) (l2 : Int32) : Option ((Hp × Int32) ⊕ ((Hp))) := if l1 ≤ l2 then some (.inr G) else (fX11_yearGoes sh G l0).bind fun G3 => bd ((l2 + 1) : Int32) fun x4 => some (.inl (G3, x4))
set_option maxHeartbeats 4000000 in
theorem tX11_goes_S2 {E : EX} {ad : Nat → Nat} {sh : Sh} {G : Hp} {l0 : Nat} {l1 : Int32} {l2 : Int32} {o : (Hp × Int32) ⊕ ((Hp))} (C : Cx E RX11 cX11_goes 3 none 5 0 0) (hC : Cl sh G) (h_l0 : sh[l0]? = some (0, 11)) (hf : fX11_goes_S2 sh l0 l1 G l2 = some o) (kb : ∀ (G2 : Hp) (b_l2 : Int32), o = .inl (G2, b_l2) → Cl sh G2 → VV E 0 0 (wq (xT E) ad G2 sh) 2 [(0, .ref (ad l0)), (1, .int l1), (2, .int b_l2)] []) (kx17 : ∀ (G2 : Hp), o = .inr G2 → Cl sh G2 → VV E 0 0 (wq (xT E) ad G2 sh) 17 [(0, .ref (ad l0)), (1, .int l1)] []) : VV E 0 0 (wq (xT E) ad G sh) 2 [(0, .ref (ad l0)), (1, .int l1), (2, .int l2)] [] := by
  unfold fX11_goes_S2 at hf
  refine v_iload_n C 2 dX11_goes_2 rfl rfl ?_
  refine v_iload_n C 1 dX11_goes_3 rfl rfl ?_
  refine v_icmp_ge (tgt := 17) C dX11_goes_4 (by decide) (fun c1 => ?_) (fun c1 => ?_)
  · have hf := ip hf c1
    cases hf
    refine v_sub [0, 1] rfl ?_
    exact kx17 _ rfl hC
  · have hf := im hf c1
    refine v_aload_n C 0 dX11_goes_7 rfl rfl ?_
    obtain ⟨G3, qr2, hf⟩ := bn hf
    refine v_callVv (As := []) (rest := []) C (sX11_yearGoes h_l0 qr2) cs_X11_416 (by decide) h_l0 rfl hC rfl rfl rfl (Nat.le_of_ble_eq_true rfl) ⟨Nat.le_refl _, Nat.le_refl _⟩ dX11_goes_8 (fun hC => ?_)
    obtain ⟨x4, ex4⟩ : ∃ x : Int32, x = (l2 + 1) := ⟨_, rfl⟩
    have hf := bd_at hf ex4
    refine v_iinc (v := x4) (j := 2) (lv2 := [(2, .int x4), (0, .ref (ad l0)), (1, .int l1)]) C dX11_goes_11 rfl (by rw [ex4]; rfl) (by decide) rfl ?_
    refine v_goto (tgt := 2) C dX11_goes_14 (by decide) ?_
    cases hf
    refine v_sub [1, 2, 0] rfl ?_
    exact kb _ _ rfl hC
def fX11_goes (sh : Sh) (G : Hp) (l0 : Nat) (l1 : Int32) : Option (Hp) := (iter (fun s : Hp × Int32 => fX11_goes_S2 sh l0 l1 s.1 s.2) fuel ((G, 0) : Hp × Int32)).bind (fun u3 => bd u3 fun G2 => some G2)
set_option maxHeartbeats 4000000 in
theorem tX11_goes {E : EX} {ad : Nat → Nat} {sh : Sh} {G : Hp} {l0 : Nat} {l1 : Int32} {z : Hp} (C : Cx E RX11 cX11_goes 3 none 5 0 0) (hC : Cl sh G) (h_l0 : sh[l0]? = some (0, 11)) (hf : fX11_goes sh G l0 l1 = some z) (kr : RCv E cX11_goes ad sh z) : VV E 0 0 (wq (xT E) ad G sh) 0 [(0, .ref (ad l0)), (1, .int l1)] [] := by
  unfold fX11_goes at hf
  refine v_iconst (v := 0) C dX11_goes_0 (by decide) ?_
  refine v_istore_n (lv2 := [(2, .int 0), (0, .ref (ad l0)), (1, .int l1)]) C dX11_goes_1 rfl (by decide) rfl ?_
  obtain ⟨r1, qr1, hf⟩ := bn hf
  refine v_sub [1, 2, 0] rfl ?_
  refine iter_sound (P := (fun s : Hp × Int32 => Cl sh (s.1) → VV E 0 0 (wq (xT E) ad (s.1) sh) 2 [(0, .ref (ad l0)), (1, .int (l1)), (2, .int (s.2))] [])) (X := fun r => r = r1) (fun jsr1 jor1 hor1 jbr1 jxr1 hC => tX11_goes_S2 C hC h_l0 hor1 (fun _ _ e => jbr1 _ e) ?_) fuel _ r1 qr1 rfl hC
  · intro G2 hu hC
    have e := jxr1 _ hu
    subst e
    have hf := bd_at hf (rfl : G2 = _)
    cases hf
    exact kr _ _ dX11_goes_17 hC
theorem sX11_goes {l : Launch} {sh : Sh} {G : Hp} {l0 : Nat} {l1 : Int32} {z : Hp} (h_l0 : sh[l0]? = some (0, 11)) (hf : fX11_goes sh G l0 l1 = some z) : MC l yX11_goes cX11_goes 3 none 5 0 0 sh sh G z (fun ad => [.ref (ad l0), .int l1]) (fun _ => none) := by
  refine MC_of rfl rfl (fun _ => Nat.le_of_ble_eq_true rfl) (fun E ad C hl hnm hC hQ => ?_)
  exact tX11_goes C hC h_l0 hf (fun pc lv hd hC => v_vret C hQ (fun _ _ => rfl) hC rfl hd)
def fX11_openIn (sh : Sh) (G : Hp) (l0 : Nat) (l1 : Int32) : Option (Int32 × Hp) := (fX11_isLong l1).bind fun r1 => if r1 = 0 then some ((-1), G) else (fX11_copies sh G l0).bind fun G4 => (fX11_goes sh G4 l0 l1).bind fun G6 => (fX11_bridgesSo sh G6 l0 1).bind fun r7 => (fX11_bits r7).bind fun r8 => some (r8, G6)
set_option maxHeartbeats 4000000 in
theorem tX11_openIn {E : EX} {ad : Nat → Nat} {sh : Sh} {G : Hp} {l0 : Nat} {l1 : Int32} {z : Int32 × Hp} (C : Cx E RX11 cX11_openIn 2 (some .int) 6 0 0) (hC : Cl sh G) (h_l0 : sh[l0]? = some (0, 11)) (hf : fX11_openIn sh G l0 l1 = some z) (kr : RCi E cX11_openIn ad sh (z.1) (z.2)) : VV E 0 0 (wq (xT E) ad G sh) 0 [(0, .ref (ad l0)), (1, .int l1)] [] := by
  unfold fX11_openIn at hf
  refine v_iload_n C 1 dX11_openIn_0 rfl rfl ?_
  obtain ⟨r1, qr1, hf⟩ := bn hf
  refine v_callSi (As := [.int l1]) (rest := []) C (sX11_isLong  qr1) cs_X11_509 (by decide) hC rfl rfl rfl (Nat.le_of_ble_eq_true rfl) ⟨Nat.le_refl _, Nat.le_refl _⟩ dX11_openIn_1 (fun hC => ?_)
  refine v_if_ne (tgt := 9) C dX11_openIn_4 (by decide) (fun c2 => ?_) (fun c2 => ?_)
  · have hf := im hf c2
    refine v_aload_n C 0 dX11_openIn_9 rfl rfl ?_
    obtain ⟨G4, qr3, hf⟩ := bn hf
    refine v_callVv (As := []) (rest := []) C (sX11_copies h_l0 qr3) cs_X11_434 (by decide) h_l0 rfl hC rfl rfl rfl (Nat.le_of_ble_eq_true rfl) ⟨Nat.le_refl _, Nat.le_refl _⟩ dX11_openIn_10 (fun hC => ?_)
    refine v_aload_n C 0 dX11_openIn_13 rfl rfl ?_
    refine v_iload_n C 1 dX11_openIn_14 rfl rfl ?_
    obtain ⟨G6, qr5, hf⟩ := bn hf
    refine v_callVv (As := [.int l1]) (rest := []) C (sX11_goes h_l0 qr5) cs_X11_461 (by decide) h_l0 rfl hC rfl rfl rfl (Nat.le_of_ble_eq_true rfl) ⟨Nat.le_refl _, Nat.le_refl _⟩ dX11_openIn_15 (fun hC => ?_)
    refine v_aload_n C 0 dX11_openIn_18 rfl rfl ?_
    refine v_iconst (v := 1) C dX11_openIn_19 (by decide) ?_
    obtain ⟨r7, qr7, hf⟩ := bn hf
    refine v_callVi (As := [.int 1]) (rest := []) C (sX11_bridgesSo h_l0 qr7) cs_X11_384 (by decide) h_l0 rfl hC rfl rfl rfl (Nat.le_of_ble_eq_true rfl) ⟨Nat.le_refl _, Nat.le_refl _⟩ dX11_openIn_20 (fun hC => ?_)
    obtain ⟨r8, qr8, hf⟩ := bn hf
    refine v_callSi (As := [.int r7]) (rest := []) C (sX11_bits  qr8) cs_X11_387 (by decide) hC rfl rfl rfl (Nat.le_of_ble_eq_true rfl) ⟨Nat.le_refl _, Nat.le_refl _⟩ dX11_openIn_23 (fun hC => ?_)
    cases hf
    exact kr _ _ dX11_openIn_26 hC
  · have hf := ip hf c2
    refine v_iconst (v := (-1)) C dX11_openIn_7 (by decide) ?_
    cases hf
    exact kr _ _ dX11_openIn_8 hC
theorem sX11_openIn {l : Launch} {sh : Sh} {G : Hp} {l0 : Nat} {l1 : Int32} {z : Int32 × Hp} (h_l0 : sh[l0]? = some (0, 11)) (hf : fX11_openIn sh G l0 l1 = some z) : MC l yX11_openIn cX11_openIn 2 (some .int) 6 0 0 sh sh G (z.2) (fun ad => [.ref (ad l0), .int l1]) (fun _ => some (.int z.1)) := by
  refine MC_of rfl rfl (fun _ => Nat.le_of_ble_eq_true rfl) (fun E ad C hl hnm hC hQ => ?_)
  exact tX11_openIn C hC h_l0 hf (fun pc lv hd hC => v_iret C hQ (fun _ _ => rfl) hC rfl hd)
def fX11_place (sh : Sh) (G : Hp) (l0 : Nat) : Option (Int32) := some (G.1 l0 17)
set_option maxHeartbeats 4000000 in
theorem tX11_place {E : EX} {ad : Nat → Nat} {sh : Sh} {G : Hp} {l0 : Nat} {z : Int32} (C : Cx E RX11 cX11_place 1 (some .int) 1 0 0) (hC : Cl sh G) (h_l0 : sh[l0]? = some (0, 11)) (hf : fX11_place sh G l0 = some z) (kr : RCi E cX11_place ad sh z G) : VV E 0 0 (wq (xT E) ad G sh) 0 [(0, .ref (ad l0))] [] := by
  unfold fX11_place at hf
  refine v_aload_n C 0 dX11_place_0 rfl rfl ?_
  refine v_getI C h_l0 fl_X11_37 dX11_place_1 ?_
  cases hf
  exact kr _ _ dX11_place_4 hC
theorem sX11_place {l : Launch} {sh : Sh} {G : Hp} {l0 : Nat} {z : Int32} (h_l0 : sh[l0]? = some (0, 11)) (hf : fX11_place sh G l0 = some z) : MC l yX11_place cX11_place 1 (some .int) 1 0 0 sh sh G G (fun ad => [.ref (ad l0)]) (fun _ => some (.int z)) := by
  refine MC_of rfl rfl (fun _ => Nat.le_of_ble_eq_true rfl) (fun E ad C hl hnm hC hQ => ?_)
  exact tX11_place C hC h_l0 hf (fun pc lv hd hC => v_iret C hQ (fun _ _ => rfl) hC rfl hd)
def fX11_plain_S44 (sh : Sh) (l0 : Nat) (l1 : Int32) (G : Hp) (l2 : Int32) : Option ((Hp × Int32) ⊕ ((Hp))) := if 3 ≤ l2 then some (.inr G) else (ldA sh G l0 40 1).bind fun a2 => (asI sh G a2 (((3 : Int32) * l1) + l2) 0).bind fun G3 => (ldA sh G3 l0 41 1).bind fun a4 => (asI sh G3 a4 (((3 : Int32) * l1) + l2) 0).bind fun G5 => bd ((l2 + 1) : Int32) fun x6 => some (.inl (G5, x6))
set_option maxHeartbeats 4000000 in
theorem tX11_plain_S44 {E : EX} {ad : Nat → Nat} {sh : Sh} {G : Hp} {l0 : Nat} {l1 : Int32} {l2 : Int32} {o : (Hp × Int32) ⊕ ((Hp))} (C : Cx E RX11 cX11_plain 3 none 1 0 0) (hC : Cl sh G) (h_l0 : sh[l0]? = some (0, 11)) (hf : fX11_plain_S44 sh l0 l1 G l2 = some o) (kb : ∀ (G2 : Hp) (b_l2 : Int32), o = .inl (G2, b_l2) → Cl sh G2 → VV E 0 0 (wq (xT E) ad G2 sh) 44 [(0, .ref (ad l0)), (1, .int l1), (2, .int b_l2)] []) (kx77 : ∀ (G2 : Hp), o = .inr G2 → Cl sh G2 → VV E 0 0 (wq (xT E) ad G2 sh) 77 [(0, .ref (ad l0)), (1, .int l1)] []) : VV E 0 0 (wq (xT E) ad G sh) 44 [(0, .ref (ad l0)), (1, .int l1), (2, .int l2)] [] := by
  unfold fX11_plain_S44 at hf
  refine v_iload_n C 2 dX11_plain_44 rfl rfl ?_
  refine v_iconst (v := 3) C dX11_plain_45 (by decide) ?_
  refine v_icmp_ge (tgt := 77) C dX11_plain_46 (by decide) (fun c1 => ?_) (fun c1 => ?_)
  · have hf := ip hf c1
    cases hf
    refine v_sub [0, 1] rfl ?_
    exact kx77 _ rfl hC
  · have hf := im hf c1
    refine v_aload_n C 0 dX11_plain_49 rfl rfl ?_
    obtain ⟨a2, qa2, hf⟩ := bn hf
    refine v_getA C h_l0 fl_X11_94 qa2 dX11_plain_50 (fun h_a2 => ?_)
    refine v_iconst (v := 3) C dX11_plain_53 (by decide) ?_
    refine v_iload_n C 1 dX11_plain_54 rfl rfl ?_
    refine v_imul C dX11_plain_55 ?_
    refine v_iload_n C 2 dX11_plain_56 rfl rfl ?_
    refine v_iadd C dX11_plain_57 ?_
    refine v_iconst (v := 0) C dX11_plain_58 (by decide) ?_
    obtain ⟨G3, qG3, hf⟩ := bn hf
    refine v_iast C h_a2 qG3 hC dX11_plain_59 (fun hC => ?_)
    refine v_aload_n C 0 dX11_plain_60 rfl rfl ?_
    obtain ⟨a4, qa4, hf⟩ := bn hf
    refine v_getA C h_l0 fl_X11_97 qa4 dX11_plain_61 (fun h_a4 => ?_)
    refine v_iconst (v := 3) C dX11_plain_64 (by decide) ?_
    refine v_iload_n C 1 dX11_plain_65 rfl rfl ?_
    refine v_imul C dX11_plain_66 ?_
    refine v_iload_n C 2 dX11_plain_67 rfl rfl ?_
    refine v_iadd C dX11_plain_68 ?_
    refine v_iconst (v := 0) C dX11_plain_69 (by decide) ?_
    obtain ⟨G5, qG5, hf⟩ := bn hf
    refine v_iast C h_a4 qG5 hC dX11_plain_70 (fun hC => ?_)
    obtain ⟨x6, ex6⟩ : ∃ x : Int32, x = (l2 + 1) := ⟨_, rfl⟩
    have hf := bd_at hf ex6
    refine v_iinc (v := x6) (j := 2) (lv2 := [(2, .int x6), (0, .ref (ad l0)), (1, .int l1)]) C dX11_plain_71 rfl (by rw [ex6]; rfl) (by decide) rfl ?_
    refine v_goto (tgt := 44) C dX11_plain_74 (by decide) ?_
    cases hf
    refine v_sub [1, 2, 0] rfl ?_
    exact kb _ _ rfl hC
def fX11_plain (sh : Sh) (G : Hp) (l0 : Nat) (l1 : Int32) : Option (Hp) := (ldA sh G l0 23 1).bind fun a1 => (asI sh G a1 l1 0).bind fun G2 => (ldA sh G2 l0 24 1).bind fun a3 => (asI sh G2 a3 l1 0).bind fun G4 => (ldA sh G4 l0 27 1).bind fun a5 => (asI sh G4 a5 l1 0).bind fun G6 => (ldA sh G6 l0 31 1).bind fun a7 => (asI sh G6 a7 l1 0).bind fun G8 => (ldA sh G8 l0 38 1).bind fun a9 => (asI sh G8 a9 l1 0).bind fun G10 => (ldA sh G10 l0 39 1).bind fun a11 => (asI sh G10 a11 l1 0).bind fun G12 => (iter (fun s : Hp × Int32 => fX11_plain_S44 sh l0 l1 s.1 s.2) fuel ((G12, 0) : Hp × Int32)).bind (fun u15 => bd u15 fun G14 => some G14)
set_option maxHeartbeats 4000000 in
theorem tX11_plain {E : EX} {ad : Nat → Nat} {sh : Sh} {G : Hp} {l0 : Nat} {l1 : Int32} {z : Hp} (C : Cx E RX11 cX11_plain 3 none 1 0 0) (hC : Cl sh G) (h_l0 : sh[l0]? = some (0, 11)) (hf : fX11_plain sh G l0 l1 = some z) (kr : RCv E cX11_plain ad sh z) : VV E 0 0 (wq (xT E) ad G sh) 0 [(0, .ref (ad l0)), (1, .int l1)] [] := by
  unfold fX11_plain at hf
  refine v_aload_n C 0 dX11_plain_0 rfl rfl ?_
  obtain ⟨a1, qa1, hf⟩ := bn hf
  refine v_getA C h_l0 fl_X11_46 qa1 dX11_plain_1 (fun h_a1 => ?_)
  refine v_iload_n C 1 dX11_plain_4 rfl rfl ?_
  refine v_iconst (v := 0) C dX11_plain_5 (by decide) ?_
  obtain ⟨G2, qG2, hf⟩ := bn hf
  refine v_iast C h_a1 qG2 hC dX11_plain_6 (fun hC => ?_)
  refine v_aload_n C 0 dX11_plain_7 rfl rfl ?_
  obtain ⟨a3, qa3, hf⟩ := bn hf
  refine v_getA C h_l0 fl_X11_49 qa3 dX11_plain_8 (fun h_a3 => ?_)
  refine v_iload_n C 1 dX11_plain_11 rfl rfl ?_
  refine v_iconst (v := 0) C dX11_plain_12 (by decide) ?_
  obtain ⟨G4, qG4, hf⟩ := bn hf
  refine v_iast C h_a3 qG4 hC dX11_plain_13 (fun hC => ?_)
  refine v_aload_n C 0 dX11_plain_14 rfl rfl ?_
  obtain ⟨a5, qa5, hf⟩ := bn hf
  refine v_getA C h_l0 fl_X11_58 qa5 dX11_plain_15 (fun h_a5 => ?_)
  refine v_iload_n C 1 dX11_plain_18 rfl rfl ?_
  refine v_iconst (v := 0) C dX11_plain_19 (by decide) ?_
  obtain ⟨G6, qG6, hf⟩ := bn hf
  refine v_iast C h_a5 qG6 hC dX11_plain_20 (fun hC => ?_)
  refine v_aload_n C 0 dX11_plain_21 rfl rfl ?_
  obtain ⟨a7, qa7, hf⟩ := bn hf
  refine v_getA C h_l0 fl_X11_70 qa7 dX11_plain_22 (fun h_a7 => ?_)
  refine v_iload_n C 1 dX11_plain_25 rfl rfl ?_
  refine v_iconst (v := 0) C dX11_plain_26 (by decide) ?_
  obtain ⟨G8, qG8, hf⟩ := bn hf
  refine v_iast C h_a7 qG8 hC dX11_plain_27 (fun hC => ?_)
  refine v_aload_n C 0 dX11_plain_28 rfl rfl ?_
  obtain ⟨a9, qa9, hf⟩ := bn hf
  refine v_getA C h_l0 fl_X11_88 qa9 dX11_plain_29 (fun h_a9 => ?_)
  refine v_iload_n C 1 dX11_plain_32 rfl rfl ?_
  refine v_iconst (v := 0) C dX11_plain_33 (by decide) ?_
  obtain ⟨G10, qG10, hf⟩ := bn hf
  refine v_iast C h_a9 qG10 hC dX11_plain_34 (fun hC => ?_)
  refine v_aload_n C 0 dX11_plain_35 rfl rfl ?_
  obtain ⟨a11, qa11, hf⟩ := bn hf
  refine v_getA C h_l0 fl_X11_91 qa11 dX11_plain_36 (fun h_a11 => ?_)
  refine v_iload_n C 1 dX11_plain_39 rfl rfl ?_
  refine v_iconst (v := 0) C dX11_plain_40 (by decide) ?_
  obtain ⟨G12, qG12, hf⟩ := bn hf
  refine v_iast C h_a11 qG12 hC dX11_plain_41 (fun hC => ?_)
  refine v_iconst (v := 0) C dX11_plain_42 (by decide) ?_
  refine v_istore_n (lv2 := [(2, .int 0), (0, .ref (ad l0)), (1, .int l1)]) C dX11_plain_43 rfl (by decide) rfl ?_
  obtain ⟨r13, qr13, hf⟩ := bn hf
  refine v_sub [1, 2, 0] rfl ?_
  refine iter_sound (P := (fun s : Hp × Int32 => Cl sh (s.1) → VV E 0 0 (wq (xT E) ad (s.1) sh) 44 [(0, .ref (ad l0)), (1, .int (l1)), (2, .int (s.2))] [])) (X := fun r => r = r13) (fun jsr13 jor13 hor13 jbr13 jxr13 hC => tX11_plain_S44 C hC h_l0 hor13 (fun _ _ e => jbr13 _ e) ?_) fuel _ r13 qr13 rfl hC
  · intro G14 hu hC
    have e := jxr13 _ hu
    subst e
    have hf := bd_at hf (rfl : G14 = _)
    cases hf
    exact kr _ _ dX11_plain_77 hC
theorem sX11_plain {l : Launch} {sh : Sh} {G : Hp} {l0 : Nat} {l1 : Int32} {z : Hp} (h_l0 : sh[l0]? = some (0, 11)) (hf : fX11_plain sh G l0 l1 = some z) : MC l yX11_plain cX11_plain 3 none 1 0 0 sh sh G z (fun ad => [.ref (ad l0), .int l1]) (fun _ => none) := by
  refine MC_of rfl rfl (fun _ => Nat.le_of_ble_eq_true rfl) (fun E ad C hl hnm hC hQ => ?_)
  exact tX11_plain C hC h_l0 hf (fun pc lv hd hC => v_vret C hQ (fun _ _ => rfl) hC rfl hd)
