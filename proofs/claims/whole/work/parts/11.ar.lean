def fX11_set (sh : Sh) (G : Hp) (l0 : Nat) (l1 : Int32) (l2 : Int32) : Option (Int32) := (fX11_isBeing sh G l0 l1).bind fun r1 => if r1 = 0 then some (-1) else (fX11_isSome sh G l0 l2).bind fun r3 => if r3 = 0 then some (-1) else (fX11_setOf sh G l0 l1 l2).bind fun r5 => some r5
set_option maxHeartbeats 4000000 in
theorem tX11_set {E : EX} {ad : Nat → Nat} {sh : Sh} {G : Hp} {l0 : Nat} {l1 : Int32} {l2 : Int32} {z : Int32} (C : Cx E RX11 cX11_set 3 (some .int) 4 0 0) (hC : Cl sh G) (h_l0 : sh[l0]? = some (0, 11)) (hf : fX11_set sh G l0 l1 l2 = some z) (kr : RCi E cX11_set ad sh z G) : VV E 0 0 (wq (xT E) ad G sh) 0 [(0, .ref (ad l0)), (1, .int l1), (2, .int l2)] [] := by
  unfold fX11_set at hf
  refine v_aload_n C 0 dX11_set_0 rfl rfl ?_
  refine v_iload_n C 1 dX11_set_1 rfl rfl ?_
  obtain ⟨r1, qr1, hf⟩ := bn hf
  refine v_callVi (As := [.int l1]) (rest := []) C (sX11_isBeing h_l0 qr1) cs_X11_419 (by decide) h_l0 rfl hC rfl rfl rfl (Nat.le_of_ble_eq_true rfl) ⟨Nat.le_refl _, Nat.le_refl _⟩ dX11_set_2 (fun hC => ?_)
  refine v_if_eq (tgt := 25) C dX11_set_5 (by decide) (fun c2 => ?_) (fun c2 => ?_)
  · have hf := ip hf c2
    refine v_iconst (v := (-1)) C dX11_set_25 (by decide) ?_
    cases hf
    exact kr _ _ dX11_set_26 hC
  · have hf := im hf c2
    refine v_aload_n C 0 dX11_set_8 rfl rfl ?_
    refine v_iload_n C 2 dX11_set_9 rfl rfl ?_
    obtain ⟨r3, qr3, hf⟩ := bn hf
    refine v_callVi (As := [.int l2]) (rest := []) C (sX11_isSome h_l0 qr3) cs_X11_425 (by decide) h_l0 rfl hC rfl rfl rfl (Nat.le_of_ble_eq_true rfl) ⟨Nat.le_refl _, Nat.le_refl _⟩ dX11_set_10 (fun hC => ?_)
    refine v_if_eq (tgt := 25) C dX11_set_13 (by decide) (fun c4 => ?_) (fun c4 => ?_)
    · have hf := ip hf c4
      refine v_iconst (v := (-1)) C dX11_set_25 (by decide) ?_
      cases hf
      exact kr _ _ dX11_set_26 hC
    · have hf := im hf c4
      refine v_aload_n C 0 dX11_set_16 rfl rfl ?_
      refine v_iload_n C 1 dX11_set_17 rfl rfl ?_
      refine v_iload_n C 2 dX11_set_18 rfl rfl ?_
      obtain ⟨r5, qr5, hf⟩ := bn hf
      refine v_callVi (As := [.int l1, .int l2]) (rest := []) C (sX11_setOf h_l0 qr5) cs_X11_428 (by decide) h_l0 rfl hC rfl rfl rfl (Nat.le_of_ble_eq_true rfl) ⟨Nat.le_refl _, Nat.le_refl _⟩ dX11_set_19 (fun hC => ?_)
      refine v_goto (tgt := 26) C dX11_set_22 (by decide) ?_
      cases hf
      exact kr _ _ dX11_set_26 hC
theorem sX11_set {l : Launch} {sh : Sh} {G : Hp} {l0 : Nat} {l1 : Int32} {l2 : Int32} {z : Int32} (h_l0 : sh[l0]? = some (0, 11)) (hf : fX11_set sh G l0 l1 l2 = some z) : MC l yX11_set cX11_set 3 (some .int) 4 0 0 sh sh G G (fun ad => [.ref (ad l0), .int l1, .int l2]) (fun _ => some (.int z)) := by
  refine MC_of rfl rfl (fun _ => Nat.le_of_ble_eq_true rfl) (fun E ad C hl hnm hC hQ => ?_)
  exact tX11_set C hC h_l0 hf (fun pc lv hd hC => v_iret C hQ (fun _ _ => rfl) hC rfl hd)
def fX11_ithOf_S5 (l1 : Int32) (l2 : Int32) (l3 : Int32) (l4 : Int32) : Option ((Int32 × Int32) ⊕ ((Unit) ⊕ (Int32))) := if 8 ≤ l4 then some (.inr (.inl ())) else if ((l1 >>> (l4 &&& 31)) &&& 1) = 0 then bd ((l4 + 1) : Int32) fun x6 => some (.inl (l3, x6)) else if l3 = l2 then some (.inr (.inr l4)) else bd ((l3 + 1) : Int32) fun x4 => bd ((l4 + 1) : Int32) fun x5 => some (.inl (x4, x5))
set_option maxHeartbeats 4000000 in
theorem tX11_ithOf_S5 {E : EX} {ad : Nat → Nat} {sh : Sh} {G : Hp} {l1 : Int32} {l2 : Int32} {l3 : Int32} {l4 : Int32} {o : (Int32 × Int32) ⊕ ((Unit) ⊕ (Int32))} (C : Cx E RX11 cX11_ithOf 5 (some .int) 1 0 0) (hC : Cl sh G) (hf : fX11_ithOf_S5 l1 l2 l3 l4 = some o) (kb : ∀ (b_l3 : Int32) (b_l4 : Int32), o = .inl (b_l3, b_l4) → VV E 0 0 (wq (xT E) ad G sh) 5 [(1, .int l1), (2, .int l2), (3, .int b_l3), (4, .int b_l4)] []) (kx41 : o = .inr (.inl ()) → VV E 0 0 (wq (xT E) ad G sh) 41 [(1, .int l1), (2, .int l2)] []) (kx29 : ∀ (b_l4 : Int32), o = .inr (.inr b_l4) → VV E 0 0 (wq (xT E) ad G sh) 29 [(1, .int l1), (2, .int l2), (4, .int b_l4)] []) : VV E 0 0 (wq (xT E) ad G sh) 5 [(1, .int l1), (2, .int l2), (3, .int l3), (4, .int l4)] [] := by
  unfold fX11_ithOf_S5 at hf
  refine v_iload C 3 dX11_ithOf_5 rfl ?_
  refine v_bipush (v := 8) C dX11_ithOf_7 (by decide) ?_
  refine v_icmp_ge (tgt := 41) C dX11_ithOf_9 (by decide) (fun c1 => ?_) (fun c1 => ?_)
  · have hf := ip hf c1
    cases hf
    refine v_sub [0, 1] rfl ?_
    exact kx41 rfl
  · have hf := im hf c1
    refine v_iload_n C 0 dX11_ithOf_12 rfl rfl ?_
    refine v_iload C 3 dX11_ithOf_13 rfl ?_
    refine v_ishr C dX11_ithOf_15 ?_
    refine v_iconst (v := 1) C dX11_ithOf_16 (by decide) ?_
    refine v_iand C dX11_ithOf_17 ?_
    refine v_if_ne (tgt := 24) C dX11_ithOf_18 (by decide) (fun c2 => ?_) (fun c2 => ?_)
    · have hf := im hf c2
      refine v_iload_n C 2 dX11_ithOf_24 rfl rfl ?_
      refine v_iload_n C 1 dX11_ithOf_25 rfl rfl ?_
      refine v_icmp_ne (tgt := 32) C dX11_ithOf_26 (by decide) (fun c3 => ?_) (fun c3 => ?_)
      · have hf := im hf c3
        obtain ⟨x4, ex4⟩ : ∃ x : Int32, x = (l3 + 1) := ⟨_, rfl⟩
        have hf := bd_at hf ex4
        refine v_iinc (v := x4) (j := 2) (lv2 := [(3, .int x4), (1, .int l1), (2, .int l2), (4, .int l4)]) C dX11_ithOf_32 rfl (by rw [ex4]; rfl) (by decide) rfl ?_
        obtain ⟨x5, ex5⟩ : ∃ x : Int32, x = (l4 + 1) := ⟨_, rfl⟩
        have hf := bd_at hf ex5
        refine v_iinc (v := x5) (j := 3) (lv2 := [(4, .int x5), (3, .int x4), (1, .int l1), (2, .int l2)]) C dX11_ithOf_35 rfl (by rw [ex5]; rfl) (by decide) rfl ?_
        refine v_goto (tgt := 5) C dX11_ithOf_38 (by decide) ?_
        cases hf
        refine v_sub [2, 3, 1, 0] rfl ?_
        exact kb _ _ rfl
      · have hf := ip hf c3
        cases hf
        refine v_sub [0, 1, 3] rfl ?_
        exact kx29 _ rfl
    · have hf := ip hf c2
      refine v_goto (tgt := 35) C dX11_ithOf_21 (by decide) ?_
      obtain ⟨x6, ex6⟩ : ∃ x : Int32, x = (l4 + 1) := ⟨_, rfl⟩
      have hf := bd_at hf ex6
      refine v_iinc (v := x6) (j := 3) (lv2 := [(4, .int x6), (1, .int l1), (2, .int l2), (3, .int l3)]) C dX11_ithOf_35 rfl (by rw [ex6]; rfl) (by decide) rfl ?_
      refine v_goto (tgt := 5) C dX11_ithOf_38 (by decide) ?_
      cases hf
      refine v_sub [1, 2, 3, 0] rfl ?_
      exact kb _ _ rfl
def fX11_ithOf (l0 : Nat) (l1 : Int32) (l2 : Int32) : Option (Int32) := (iter (fun s : Int32 × Int32 => fX11_ithOf_S5 l1 l2  s.1 s.2) fuel ((0, 0) : Int32 × Int32)).bind (Sum.elim (fun _ => some (-1)) (fun u4 => bd u4 fun x3 => some x3))
set_option maxHeartbeats 4000000 in
theorem tX11_ithOf {E : EX} {ad : Nat → Nat} {sh : Sh} {G : Hp} {l0 : Nat} {l1 : Int32} {l2 : Int32} {z : Int32} (C : Cx E RX11 cX11_ithOf 5 (some .int) 1 0 0) (hC : Cl sh G) (h_l0 : sh[l0]? = some (0, 11)) (hf : fX11_ithOf l0 l1 l2 = some z) (kr : RCi E cX11_ithOf ad sh z G) : VV E 0 0 (wq (xT E) ad G sh) 0 [(0, .ref (ad l0)), (1, .int l1), (2, .int l2)] [] := by
  unfold fX11_ithOf at hf
  refine v_iconst (v := 0) C dX11_ithOf_0 (by decide) ?_
  refine v_istore_n (lv2 := [(3, .int 0), (0, .ref (ad l0)), (1, .int l1), (2, .int l2)]) C dX11_ithOf_1 rfl (by decide) rfl ?_
  refine v_iconst (v := 0) C dX11_ithOf_2 (by decide) ?_
  refine v_istore (lv2 := [(4, .int 0), (3, .int 0), (0, .ref (ad l0)), (1, .int l1), (2, .int l2)]) C dX11_ithOf_3 (by decide) rfl ?_
  obtain ⟨r1, qr1, hf⟩ := bn hf
  refine v_sub [3, 4, 1, 0] rfl ?_
  refine iter_sound (P := (fun s : Int32 × Int32 => VV E 0 0 (wq (xT E) ad (G) sh) 5 [(1, .int (l1)), (2, .int (l2)), (3, .int (s.1)), (4, .int (s.2))] [])) (X := fun r => r = r1) (fun jsr1 jor1 hor1 jbr1 jxr1 => tX11_ithOf_S5 C hC hor1 (fun _ _ e => jbr1 _ e) ?_ ?_) fuel _ r1 qr1 rfl
  · intro  hu
    have e := jxr1 _ hu
    subst e
    have hf := sm_l hf
    refine v_iconst (v := (-1)) C dX11_ithOf_41 (by decide) ?_
    cases hf
    exact kr _ _ dX11_ithOf_42 hC
  · intro x3 hu
    have e := jxr1 _ hu
    subst e
    have hf := sm_r hf
    have hf := bd_at hf (rfl : x3 = _)
    refine v_iload C 2 dX11_ithOf_29 rfl ?_
    cases hf
    exact kr _ _ dX11_ithOf_31 hC
theorem sX11_ithOf {l : Launch} {sh : Sh} {G : Hp} {l0 : Nat} {l1 : Int32} {l2 : Int32} {z : Int32} (h_l0 : sh[l0]? = some (0, 11)) (hf : fX11_ithOf l0 l1 l2 = some z) : MC l yX11_ithOf cX11_ithOf 5 (some .int) 1 0 0 sh sh G G (fun ad => [.ref (ad l0), .int l1, .int l2]) (fun _ => some (.int z)) := by
  refine MC_of rfl rfl (fun _ => Nat.le_of_ble_eq_true rfl) (fun E ad C hl hnm hC hQ => ?_)
  exact tX11_ithOf C hC h_l0 hf (fun pc lv hd hC => v_iret C hQ (fun _ _ => rfl) hC rfl hd)
def fX11_isEarlier_S2 (l0 : Nat) (l1 : Int32) (l2 : Int32) (l3 : Int32) : Option ((Int32) ⊕ ((Unit) ⊕ (Int32))) := if 3 ≤ l3 then some (.inr (.inl ())) else (fX11_ithOf l0 l1 l3).bind fun r2 => (fX11_ithOf l0 l2 l3).bind fun r3 => if r2 = r3 then bd ((l3 + 1) : Int32) fun x5 => some (.inl x5) else some (.inr (.inr l3))
set_option maxHeartbeats 4000000 in
theorem tX11_isEarlier_S2 {E : EX} {ad : Nat → Nat} {sh : Sh} {G : Hp} {l0 : Nat} {l1 : Int32} {l2 : Int32} {l3 : Int32} {o : (Int32) ⊕ ((Unit) ⊕ (Int32))} (C : Cx E RX11 cX11_isEarlier 4 (some .boolean) 2 0 0) (hC : Cl sh G) (h_l0 : sh[l0]? = some (0, 11)) (hf : fX11_isEarlier_S2 l0 l1 l2 l3 = some o) (kb : ∀ (b_l3 : Int32), o = .inl b_l3 → VV E 0 0 (wq (xT E) ad G sh) 2 [(0, .ref (ad l0)), (1, .int l1), (2, .int l2), (3, .int b_l3)] []) (kx49 : o = .inr (.inl ()) → VV E 0 0 (wq (xT E) ad G sh) 49 [(0, .ref (ad l0)), (1, .int l1), (2, .int l2)] []) (kx22 : ∀ (b_l3 : Int32), o = .inr (.inr b_l3) → VV E 0 0 (wq (xT E) ad G sh) 22 [(0, .ref (ad l0)), (1, .int l1), (2, .int l2), (3, .int b_l3)] []) : VV E 0 0 (wq (xT E) ad G sh) 2 [(0, .ref (ad l0)), (1, .int l1), (2, .int l2), (3, .int l3)] [] := by
  unfold fX11_isEarlier_S2 at hf
  refine v_iload_n C 3 dX11_isEarlier_2 rfl rfl ?_
  refine v_iconst (v := 3) C dX11_isEarlier_3 (by decide) ?_
  refine v_icmp_ge (tgt := 49) C dX11_isEarlier_4 (by decide) (fun c1 => ?_) (fun c1 => ?_)
  · have hf := ip hf c1
    cases hf
    refine v_sub [0, 1, 2] rfl ?_
    exact kx49 rfl
  · have hf := im hf c1
    refine v_aload_n C 0 dX11_isEarlier_7 rfl rfl ?_
    refine v_iload_n C 1 dX11_isEarlier_8 rfl rfl ?_
    refine v_iload_n C 3 dX11_isEarlier_9 rfl rfl ?_
    obtain ⟨r2, qr2, hf⟩ := bn hf
    refine v_callVi (As := [.int l1, .int l3]) (rest := []) C (sX11_ithOf h_l0 qr2) cs_X11_476 (by decide) h_l0 rfl hC rfl rfl rfl (Nat.le_of_ble_eq_true rfl) ⟨Nat.le_refl _, Nat.le_refl _⟩ dX11_isEarlier_10 (fun hC => ?_)
    refine v_aload_n C 0 dX11_isEarlier_13 rfl rfl ?_
    refine v_iload_n C 2 dX11_isEarlier_14 rfl rfl ?_
    refine v_iload_n C 3 dX11_isEarlier_15 rfl rfl ?_
    obtain ⟨r3, qr3, hf⟩ := bn hf
    refine v_callVi (As := [.int l2, .int l3]) (rest := [.int r2]) C (sX11_ithOf h_l0 qr3) cs_X11_476 (by decide) h_l0 rfl hC rfl rfl rfl (Nat.le_of_ble_eq_true rfl) ⟨Nat.le_refl _, Nat.le_refl _⟩ dX11_isEarlier_16 (fun hC => ?_)
    refine v_icmp_eq (tgt := 43) C dX11_isEarlier_19 (by decide) (fun c4 => ?_) (fun c4 => ?_)
    · have hf := ip hf c4
      obtain ⟨x5, ex5⟩ : ∃ x : Int32, x = (l3 + 1) := ⟨_, rfl⟩
      have hf := bd_at hf ex5
      refine v_iinc (v := x5) (j := 3) (lv2 := [(3, .int x5), (0, .ref (ad l0)), (1, .int l1), (2, .int l2)]) C dX11_isEarlier_43 rfl (by rw [ex5]; rfl) (by decide) rfl ?_
      refine v_goto (tgt := 2) C dX11_isEarlier_46 (by decide) ?_
      cases hf
      refine v_sub [1, 2, 3, 0] rfl ?_
      exact kb _ rfl
    · have hf := im hf c4
      cases hf
      refine v_sub [0, 1, 2, 3] rfl ?_
      exact kx22 _ rfl
def fX11_isEarlier (l0 : Nat) (l1 : Int32) (l2 : Int32) : Option (Int32) := (iter (fun s : Int32 => fX11_isEarlier_S2 l0 l1 l2  s) fuel (0 : Int32)).bind (Sum.elim (fun _ => some 0) (fun u7 => bd u7 fun x3 => (fX11_ithOf l0 l1 x3).bind fun r4 => (fX11_ithOf l0 l2 x3).bind fun r5 => if r5 ≤ r4 then some 0 else some 1))
set_option maxHeartbeats 4000000 in
theorem tX11_isEarlier {E : EX} {ad : Nat → Nat} {sh : Sh} {G : Hp} {l0 : Nat} {l1 : Int32} {l2 : Int32} {z : Int32} (C : Cx E RX11 cX11_isEarlier 4 (some .boolean) 2 0 0) (hC : Cl sh G) (h_l0 : sh[l0]? = some (0, 11)) (hf : fX11_isEarlier l0 l1 l2 = some z) (kr : RCz E cX11_isEarlier ad sh z G) : VV E 0 0 (wq (xT E) ad G sh) 0 [(0, .ref (ad l0)), (1, .int l1), (2, .int l2)] [] := by
  unfold fX11_isEarlier at hf
  refine v_iconst (v := 0) C dX11_isEarlier_0 (by decide) ?_
  refine v_istore_n (lv2 := [(3, .int 0), (0, .ref (ad l0)), (1, .int l1), (2, .int l2)]) C dX11_isEarlier_1 rfl (by decide) rfl ?_
  obtain ⟨r1, qr1, hf⟩ := bn hf
  refine v_sub [1, 2, 3, 0] rfl ?_
  refine iter_sound (P := (fun s : Int32 => VV E 0 0 (wq (xT E) ad (G) sh) 2 [(0, .ref (ad l0)), (1, .int (l1)), (2, .int (l2)), (3, .int (s))] [])) (X := fun r => r = r1) (fun jsr1 jor1 hor1 jbr1 jxr1 => tX11_isEarlier_S2 C hC h_l0 hor1 (fun _ e => jbr1 _ e) ?_ ?_) fuel _ r1 qr1 rfl
  · intro  hu
    have e := jxr1 _ hu
    subst e
    have hf := sm_l hf
    refine v_iconst (v := 0) C dX11_isEarlier_49 (by decide) ?_
    cases hf
    exact kr _ _ dX11_isEarlier_50 (Or.inl rfl) hC
  · intro x3 hu
    have e := jxr1 _ hu
    subst e
    have hf := sm_r hf
    have hf := bd_at hf (rfl : x3 = _)
    refine v_aload_n C 0 dX11_isEarlier_22 rfl rfl ?_
    refine v_iload_n C 1 dX11_isEarlier_23 rfl rfl ?_
    refine v_iload_n C 3 dX11_isEarlier_24 rfl rfl ?_
    obtain ⟨r4, qr4, hf⟩ := bn hf
    refine v_callVi (As := [.int l1, .int x3]) (rest := []) C (sX11_ithOf h_l0 qr4) cs_X11_476 (by decide) h_l0 rfl hC rfl rfl rfl (Nat.le_of_ble_eq_true rfl) ⟨Nat.le_refl _, Nat.le_refl _⟩ dX11_isEarlier_25 (fun hC => ?_)
    refine v_aload_n C 0 dX11_isEarlier_28 rfl rfl ?_
    refine v_iload_n C 2 dX11_isEarlier_29 rfl rfl ?_
    refine v_iload_n C 3 dX11_isEarlier_30 rfl rfl ?_
    obtain ⟨r5, qr5, hf⟩ := bn hf
    refine v_callVi (As := [.int l2, .int x3]) (rest := [.int r4]) C (sX11_ithOf h_l0 qr5) cs_X11_476 (by decide) h_l0 rfl hC rfl rfl rfl (Nat.le_of_ble_eq_true rfl) ⟨Nat.le_refl _, Nat.le_refl _⟩ dX11_isEarlier_31 (fun hC => ?_)
    refine v_icmp_ge (tgt := 41) C dX11_isEarlier_34 (by decide) (fun c6 => ?_) (fun c6 => ?_)
    · have hf := ip hf c6
      refine v_iconst (v := 0) C dX11_isEarlier_41 (by decide) ?_
      cases hf
      exact kr _ _ dX11_isEarlier_42 (Or.inl rfl) hC
    · have hf := im hf c6
      refine v_iconst (v := 1) C dX11_isEarlier_37 (by decide) ?_
      refine v_goto (tgt := 42) C dX11_isEarlier_38 (by decide) ?_
      cases hf
      exact kr _ _ dX11_isEarlier_42 (Or.inr rfl) hC
theorem sX11_isEarlier {l : Launch} {sh : Sh} {G : Hp} {l0 : Nat} {l1 : Int32} {l2 : Int32} {z : Int32} (h_l0 : sh[l0]? = some (0, 11)) (hf : fX11_isEarlier l0 l1 l2 = some z) : MC l yX11_isEarlier cX11_isEarlier 4 (some .boolean) 2 0 0 sh sh G G (fun ad => [.ref (ad l0), .int l1, .int l2]) (fun _ => some (.int z)) := by
  refine MC_of rfl rfl (fun _ => Nat.le_of_ble_eq_true rfl) (fun E ad C hl hnm hC hQ => ?_)
  exact tX11_isEarlier C hC h_l0 hf (fun pc lv hd hz hC => v_zret C hQ (fun _ _ => rfl) hC rfl hz hd)
def fX11_shuts_S29 (sh : Sh) (l0 : Nat) (l2 : Int32) (G : Hp) (l3 : Int32) (l4 : Int32) : Option ((Int32 × Int32) ⊕ ((Int32))) := (ldA sh G l0 23 1).bind fun a1 => (aI sh G a1 (G.1 l0 18)).bind fun v2 => if ((1 : Int32) <<< (v2 &&& 31)) ≤ l4 then some (.inr l3) else (fX11_bits l4).bind fun r4 => if 3 < r4 then bd ((l4 + 1) : Int32) fun x6 => some (.inl (l3, x6)) else (fX11_shutBy sh G l0 l4).bind fun r7 => if (G.1 l0 67) ≤ r7 then if l3 < 0 then bd ((l4 + 1) : Int32) fun x10 => some (.inl (l4, x10)) else (fX11_bits l4).bind fun r11 => (fX11_bits l3).bind fun r12 => if r11 < r12 then bd ((l4 + 1) : Int32) fun x14 => some (.inl (l4, x14)) else (fX11_bits l4).bind fun r15 => (fX11_bits l3).bind fun r16 => if r15 = r16 then (fX11_isEarlier l0 l4 l3).bind fun r19 => if r19 = 0 then bd ((l4 + 1) : Int32) fun x21 => some (.inl (l3, x21)) else bd ((l4 + 1) : Int32) fun x22 => some (.inl (l4, x22)) else bd ((l4 + 1) : Int32) fun x18 => some (.inl (l3, x18)) else bd ((l4 + 1) : Int32) fun x23 => some (.inl (l3, x23))
set_option maxHeartbeats 4000000 in
theorem tX11_shuts_S29 {E : EX} {ad : Nat → Nat} {sh : Sh} {G : Hp} {l0 : Nat} {l2 : Int32} {l3 : Int32} {l4 : Int32} {o : (Int32 × Int32) ⊕ ((Int32))} (C : Cx E RX11 cX11_shuts 5 (some .int) 4 0 0) (hC : Cl sh G) (h_l0 : sh[l0]? = some (0, 11)) (hf : fX11_shuts_S29 sh l0 l2 G l3 l4 = some o) (kb : ∀ (b_l3 : Int32) (b_l4 : Int32), o = .inl (b_l3, b_l4) → VV E 0 0 (wq (xT E) ad G sh) 29 [(0, .ref (ad l0)), (2, .int l2), (3, .int b_l3), (4, .int b_l4)] []) (kx117 : ∀ (b_l3 : Int32), o = .inr b_l3 → VV E 0 0 (wq (xT E) ad G sh) 117 [(0, .ref (ad l0)), (2, .int l2), (3, .int b_l3)] []) : VV E 0 0 (wq (xT E) ad G sh) 29 [(0, .ref (ad l0)), (2, .int l2), (3, .int l3), (4, .int l4)] [] := by
  unfold fX11_shuts_S29 at hf
  refine v_iload C 3 dX11_shuts_29 rfl ?_
  refine v_iconst (v := 1) C dX11_shuts_31 (by decide) ?_
  refine v_aload_n C 0 dX11_shuts_32 rfl rfl ?_
  obtain ⟨a1, qa1, hf⟩ := bn hf
  refine v_getA C h_l0 fl_X11_46 qa1 dX11_shuts_33 (fun h_a1 => ?_)
  refine v_aload_n C 0 dX11_shuts_36 rfl rfl ?_
  refine v_getI C h_l0 fl_X11_257 dX11_shuts_37 ?_
  obtain ⟨v2, qv2, hf⟩ := bn hf
  refine v_iald C h_a1 qv2 dX11_shuts_40 ?_
  refine v_ishl C dX11_shuts_41 ?_
  refine v_icmp_ge (tgt := 117) C dX11_shuts_42 (by decide) (fun c3 => ?_) (fun c3 => ?_)
  · have hf := ip hf c3
    cases hf
    refine v_sub [0, 1, 2] rfl ?_
    exact kx117 _ rfl
  · have hf := im hf c3
    refine v_iload C 3 dX11_shuts_45 rfl ?_
    obtain ⟨r4, qr4, hf⟩ := bn hf
    refine v_callSi (As := [.int l4]) (rest := []) C (sX11_bits  qr4) cs_X11_387 (by decide) hC rfl rfl rfl (Nat.le_of_ble_eq_true rfl) ⟨Nat.le_refl _, Nat.le_refl _⟩ dX11_shuts_47 (fun hC => ?_)
    refine v_iconst (v := 3) C dX11_shuts_50 (by decide) ?_
    refine v_icmp_gt (tgt := 111) C dX11_shuts_51 (by decide) (fun c5 => ?_) (fun c5 => ?_)
    · have hf := ip hf c5
      obtain ⟨x6, ex6⟩ : ∃ x : Int32, x = (l4 + 1) := ⟨_, rfl⟩
      have hf := bd_at hf ex6
      refine v_iinc (v := x6) (j := 3) (lv2 := [(4, .int x6), (0, .ref (ad l0)), (2, .int l2), (3, .int l3)]) C dX11_shuts_111 rfl (by rw [ex6]; rfl) (by decide) rfl ?_
      refine v_goto (tgt := 29) C dX11_shuts_114 (by decide) ?_
      cases hf
      refine v_sub [1, 2, 3, 0] rfl ?_
      exact kb _ _ rfl
    · have hf := im hf c5
      refine v_aload_n C 0 dX11_shuts_54 rfl rfl ?_
      refine v_iload C 3 dX11_shuts_55 rfl ?_
      obtain ⟨r7, qr7, hf⟩ := bn hf
      refine v_callVi (As := [.int l4]) (rest := []) C (sX11_shutBy h_l0 qr7) cs_X11_473 (by decide) h_l0 rfl hC rfl rfl rfl (Nat.le_of_ble_eq_true rfl) ⟨Nat.le_refl _, Nat.le_refl _⟩ dX11_shuts_57 (fun hC => ?_)
      refine v_aload_n C 0 dX11_shuts_60 rfl rfl ?_
      refine v_getI C h_l0 fl_X11_467 dX11_shuts_61 ?_
      refine v_icmp_ge (tgt := 70) C dX11_shuts_64 (by decide) (fun c8 => ?_) (fun c8 => ?_)
      · have hf := ip hf c8
        refine v_iload_n C 2 dX11_shuts_70 rfl rfl ?_
        refine v_if_lt (tgt := 108) C dX11_shuts_71 (by decide) (fun c9 => ?_) (fun c9 => ?_)
        · have hf := ip hf c9
          refine v_iload C 3 dX11_shuts_108 rfl ?_
          refine v_istore_n (lv2 := [(3, .int l4), (0, .ref (ad l0)), (2, .int l2), (4, .int l4)]) C dX11_shuts_110 rfl (by decide) rfl ?_
          obtain ⟨x10, ex10⟩ : ∃ x : Int32, x = (l4 + 1) := ⟨_, rfl⟩
          have hf := bd_at hf ex10
          refine v_iinc (v := x10) (j := 3) (lv2 := [(4, .int x10), (3, .int l4), (0, .ref (ad l0)), (2, .int l2)]) C dX11_shuts_111 rfl (by rw [ex10]; rfl) (by decide) rfl ?_
          refine v_goto (tgt := 29) C dX11_shuts_114 (by decide) ?_
          cases hf
          refine v_sub [2, 3, 1, 0] rfl ?_
          exact kb _ _ rfl
        · have hf := im hf c9
          refine v_iload C 3 dX11_shuts_74 rfl ?_
          obtain ⟨r11, qr11, hf⟩ := bn hf
          refine v_callSi (As := [.int l4]) (rest := []) C (sX11_bits  qr11) cs_X11_387 (by decide) hC rfl rfl rfl (Nat.le_of_ble_eq_true rfl) ⟨Nat.le_refl _, Nat.le_refl _⟩ dX11_shuts_76 (fun hC => ?_)
          refine v_iload_n C 2 dX11_shuts_79 rfl rfl ?_
          obtain ⟨r12, qr12, hf⟩ := bn hf
          refine v_callSi (As := [.int l3]) (rest := [.int r11]) C (sX11_bits  qr12) cs_X11_387 (by decide) hC rfl rfl rfl (Nat.le_of_ble_eq_true rfl) ⟨Nat.le_refl _, Nat.le_refl _⟩ dX11_shuts_80 (fun hC => ?_)
          refine v_icmp_lt (tgt := 108) C dX11_shuts_83 (by decide) (fun c13 => ?_) (fun c13 => ?_)
          · have hf := ip hf c13
            refine v_iload C 3 dX11_shuts_108 rfl ?_
            refine v_istore_n (lv2 := [(3, .int l4), (0, .ref (ad l0)), (2, .int l2), (4, .int l4)]) C dX11_shuts_110 rfl (by decide) rfl ?_
            obtain ⟨x14, ex14⟩ : ∃ x : Int32, x = (l4 + 1) := ⟨_, rfl⟩
            have hf := bd_at hf ex14
            refine v_iinc (v := x14) (j := 3) (lv2 := [(4, .int x14), (3, .int l4), (0, .ref (ad l0)), (2, .int l2)]) C dX11_shuts_111 rfl (by rw [ex14]; rfl) (by decide) rfl ?_
            refine v_goto (tgt := 29) C dX11_shuts_114 (by decide) ?_
            cases hf
            refine v_sub [2, 3, 1, 0] rfl ?_
            exact kb _ _ rfl
          · have hf := im hf c13
            refine v_iload C 3 dX11_shuts_86 rfl ?_
            obtain ⟨r15, qr15, hf⟩ := bn hf
            refine v_callSi (As := [.int l4]) (rest := []) C (sX11_bits  qr15) cs_X11_387 (by decide) hC rfl rfl rfl (Nat.le_of_ble_eq_true rfl) ⟨Nat.le_refl _, Nat.le_refl _⟩ dX11_shuts_88 (fun hC => ?_)
            refine v_iload_n C 2 dX11_shuts_91 rfl rfl ?_
            obtain ⟨r16, qr16, hf⟩ := bn hf
            refine v_callSi (As := [.int l3]) (rest := [.int r15]) C (sX11_bits  qr16) cs_X11_387 (by decide) hC rfl rfl rfl (Nat.le_of_ble_eq_true rfl) ⟨Nat.le_refl _, Nat.le_refl _⟩ dX11_shuts_92 (fun hC => ?_)
            refine v_icmp_ne (tgt := 111) C dX11_shuts_95 (by decide) (fun c17 => ?_) (fun c17 => ?_)
            · have hf := im hf c17
              obtain ⟨x18, ex18⟩ : ∃ x : Int32, x = (l4 + 1) := ⟨_, rfl⟩
              have hf := bd_at hf ex18
              refine v_iinc (v := x18) (j := 3) (lv2 := [(4, .int x18), (0, .ref (ad l0)), (2, .int l2), (3, .int l3)]) C dX11_shuts_111 rfl (by rw [ex18]; rfl) (by decide) rfl ?_
              refine v_goto (tgt := 29) C dX11_shuts_114 (by decide) ?_
              cases hf
              refine v_sub [1, 2, 3, 0] rfl ?_
              exact kb _ _ rfl
            · have hf := ip hf c17
              refine v_aload_n C 0 dX11_shuts_98 rfl rfl ?_
              refine v_iload C 3 dX11_shuts_99 rfl ?_
              refine v_iload_n C 2 dX11_shuts_101 rfl rfl ?_
              obtain ⟨r19, qr19, hf⟩ := bn hf
              refine v_callVi (As := [.int l4, .int l3]) (rest := []) C (sX11_isEarlier h_l0 qr19) cs_X11_479 (by decide) h_l0 rfl hC rfl rfl rfl (Nat.le_of_ble_eq_true rfl) ⟨Nat.le_refl _, Nat.le_refl _⟩ dX11_shuts_102 (fun hC => ?_)
              refine v_if_eq (tgt := 111) C dX11_shuts_105 (by decide) (fun c20 => ?_) (fun c20 => ?_)
              · have hf := ip hf c20
                obtain ⟨x21, ex21⟩ : ∃ x : Int32, x = (l4 + 1) := ⟨_, rfl⟩
                have hf := bd_at hf ex21
                refine v_iinc (v := x21) (j := 3) (lv2 := [(4, .int x21), (0, .ref (ad l0)), (2, .int l2), (3, .int l3)]) C dX11_shuts_111 rfl (by rw [ex21]; rfl) (by decide) rfl ?_
                refine v_goto (tgt := 29) C dX11_shuts_114 (by decide) ?_
                cases hf
                refine v_sub [1, 2, 3, 0] rfl ?_
                exact kb _ _ rfl
              · have hf := im hf c20
                refine v_iload C 3 dX11_shuts_108 rfl ?_
                refine v_istore_n (lv2 := [(3, .int l4), (0, .ref (ad l0)), (2, .int l2), (4, .int l4)]) C dX11_shuts_110 rfl (by decide) rfl ?_
                obtain ⟨x22, ex22⟩ : ∃ x : Int32, x = (l4 + 1) := ⟨_, rfl⟩
                have hf := bd_at hf ex22
                refine v_iinc (v := x22) (j := 3) (lv2 := [(4, .int x22), (3, .int l4), (0, .ref (ad l0)), (2, .int l2)]) C dX11_shuts_111 rfl (by rw [ex22]; rfl) (by decide) rfl ?_
                refine v_goto (tgt := 29) C dX11_shuts_114 (by decide) ?_
                cases hf
                refine v_sub [2, 3, 1, 0] rfl ?_
                exact kb _ _ rfl
      · have hf := im hf c8
        refine v_goto (tgt := 111) C dX11_shuts_67 (by decide) ?_
        obtain ⟨x23, ex23⟩ : ∃ x : Int32, x = (l4 + 1) := ⟨_, rfl⟩
        have hf := bd_at hf ex23
        refine v_iinc (v := x23) (j := 3) (lv2 := [(4, .int x23), (0, .ref (ad l0)), (2, .int l2), (3, .int l3)]) C dX11_shuts_111 rfl (by rw [ex23]; rfl) (by decide) rfl ?_
        refine v_goto (tgt := 29) C dX11_shuts_114 (by decide) ?_
        cases hf
        refine v_sub [1, 2, 3, 0] rfl ?_
        exact kb _ _ rfl
def fX11_shuts (sh : Sh) (G : Hp) (l0 : Nat) (l1 : Int32) (l2 : Int32) : Option (Int32 × Hp) := (fX11_isBridge sh G l0 l1).bind fun r1 => if r1 = 0 then some ((-1), G) else (fX11_in l2 (-1) 2).bind fun r3 => if r3 = 0 then some ((-1), G) else (fX11_fillsCheats sh G l0 l1).bind fun G6 => (iter (fun s : Int32 × Int32 => fX11_shuts_S29 sh l0 l2 G6 s.1 s.2) fuel (((-1), 0) : Int32 × Int32)).bind (fun u13 => bd u13 fun x8 => if 0 ≤ x8 then if l2 = (-1) then (fX11_bits x8).bind fun r12 => some (r12, G6) else (fX11_ithOf l0 x8 l2).bind fun r11 => some (r11, G6) else some ((-2), G6))
set_option maxHeartbeats 4000000 in
theorem tX11_shuts {E : EX} {ad : Nat → Nat} {sh : Sh} {G : Hp} {l0 : Nat} {l1 : Int32} {l2 : Int32} {z : Int32 × Hp} (C : Cx E RX11 cX11_shuts 5 (some .int) 4 0 0) (hC : Cl sh G) (h_l0 : sh[l0]? = some (0, 11)) (hf : fX11_shuts sh G l0 l1 l2 = some z) (kr : RCi E cX11_shuts ad sh (z.1) (z.2)) : VV E 0 0 (wq (xT E) ad G sh) 0 [(0, .ref (ad l0)), (1, .int l1), (2, .int l2)] [] := by
  unfold fX11_shuts at hf
  refine v_aload_n C 0 dX11_shuts_0 rfl rfl ?_
  refine v_iload_n C 1 dX11_shuts_1 rfl rfl ?_
  obtain ⟨r1, qr1, hf⟩ := bn hf
  refine v_callVi (As := [.int l1]) (rest := []) C (sX11_isBridge h_l0 qr1) cs_X11_431 (by decide) h_l0 rfl hC rfl rfl rfl (Nat.le_of_ble_eq_true rfl) ⟨Nat.le_refl _, Nat.le_refl _⟩ dX11_shuts_2 (fun hC => ?_)
  refine v_if_eq (tgt := 17) C dX11_shuts_5 (by decide) (fun c2 => ?_) (fun c2 => ?_)
  · have hf := ip hf c2
    refine v_iconst (v := (-1)) C dX11_shuts_17 (by decide) ?_
    cases hf
    exact kr _ _ dX11_shuts_18 hC
  · have hf := im hf c2
    refine v_iload_n C 2 dX11_shuts_8 rfl rfl ?_
    refine v_iconst (v := (-1)) C dX11_shuts_9 (by decide) ?_
    refine v_iconst (v := 2) C dX11_shuts_10 (by decide) ?_
    obtain ⟨r3, qr3, hf⟩ := bn hf
    refine v_callSi (As := [.int l2, .int (-1), .int 2]) (rest := []) C (sX11_in  qr3) cs_X11_370 (by decide) hC rfl rfl rfl (Nat.le_of_ble_eq_true rfl) ⟨Nat.le_refl _, Nat.le_refl _⟩ dX11_shuts_11 (fun hC => ?_)
    refine v_if_ne (tgt := 19) C dX11_shuts_14 (by decide) (fun c4 => ?_) (fun c4 => ?_)
    · have hf := im hf c4
      refine v_aload_n C 0 dX11_shuts_19 rfl rfl ?_
      refine v_iload_n C 1 dX11_shuts_20 rfl rfl ?_
      obtain ⟨G6, qr5, hf⟩ := bn hf
      refine v_callVv (As := [.int l1]) (rest := []) C (sX11_fillsCheats h_l0 qr5) cs_X11_470 (by decide) h_l0 rfl hC rfl rfl rfl (Nat.le_of_ble_eq_true rfl) ⟨Nat.le_refl _, Nat.le_refl _⟩ dX11_shuts_21 (fun hC => ?_)
      refine v_iconst (v := (-1)) C dX11_shuts_24 (by decide) ?_
      refine v_istore_n (lv2 := [(3, .int (-1)), (0, .ref (ad l0)), (1, .int l1), (2, .int l2)]) C dX11_shuts_25 rfl (by decide) rfl ?_
      refine v_iconst (v := 0) C dX11_shuts_26 (by decide) ?_
      refine v_istore (lv2 := [(4, .int 0), (3, .int (-1)), (0, .ref (ad l0)), (1, .int l1), (2, .int l2)]) C dX11_shuts_27 (by decide) rfl ?_
      obtain ⟨r7, qr7, hf⟩ := bn hf
      refine v_sub [2, 4, 1, 0] rfl ?_
      refine iter_sound (P := (fun s : Int32 × Int32 => VV E 0 0 (wq (xT E) ad (G6) sh) 29 [(0, .ref (ad l0)), (2, .int (l2)), (3, .int (s.1)), (4, .int (s.2))] [])) (X := fun r => r = r7) (fun jsr7 jor7 hor7 jbr7 jxr7 => tX11_shuts_S29 C hC h_l0 hor7 (fun _ _ e => jbr7 _ e) ?_) fuel _ r7 qr7 rfl
      · intro x8 hu
        have e := jxr7 _ hu
        subst e
        have hf := bd_at hf (rfl : x8 = _)
        refine v_iload_n C 2 dX11_shuts_117 rfl rfl ?_
        refine v_if_ge (tgt := 124) C dX11_shuts_118 (by decide) (fun c9 => ?_) (fun c9 => ?_)
        · have hf := ip hf c9
          refine v_iload_n C 1 dX11_shuts_124 rfl rfl ?_
          refine v_iconst (v := (-1)) C dX11_shuts_125 (by decide) ?_
          refine v_icmp_ne (tgt := 136) C dX11_shuts_126 (by decide) (fun c10 => ?_) (fun c10 => ?_)
          · have hf := im hf c10
            refine v_aload_n C 0 dX11_shuts_136 rfl rfl ?_
            refine v_iload_n C 2 dX11_shuts_137 rfl rfl ?_
            refine v_iload_n C 1 dX11_shuts_138 rfl rfl ?_
            obtain ⟨r11, qr11, hf⟩ := bn hf
            refine v_callVi (As := [.int x8, .int l2]) (rest := []) C (sX11_ithOf h_l0 qr11) cs_X11_476 (by decide) h_l0 rfl hC rfl rfl rfl (Nat.le_of_ble_eq_true rfl) ⟨Nat.le_refl _, Nat.le_refl _⟩ dX11_shuts_139 (fun hC => ?_)
            cases hf
            exact kr _ _ dX11_shuts_142 hC
          · have hf := ip hf c10
            refine v_iload_n C 2 dX11_shuts_129 rfl rfl ?_
            obtain ⟨r12, qr12, hf⟩ := bn hf
            refine v_callSi (As := [.int x8]) (rest := []) C (sX11_bits  qr12) cs_X11_387 (by decide) hC rfl rfl rfl (Nat.le_of_ble_eq_true rfl) ⟨Nat.le_refl _, Nat.le_refl _⟩ dX11_shuts_130 (fun hC => ?_)
            refine v_goto (tgt := 142) C dX11_shuts_133 (by decide) ?_
            cases hf
            exact kr _ _ dX11_shuts_142 hC
        · have hf := im hf c9
          refine v_bipush (v := (-2)) C dX11_shuts_121 (by decide) ?_
          cases hf
          exact kr _ _ dX11_shuts_123 hC
    · have hf := ip hf c4
      refine v_iconst (v := (-1)) C dX11_shuts_17 (by decide) ?_
      cases hf
      exact kr _ _ dX11_shuts_18 hC
theorem sX11_shuts {l : Launch} {sh : Sh} {G : Hp} {l0 : Nat} {l1 : Int32} {l2 : Int32} {z : Int32 × Hp} (h_l0 : sh[l0]? = some (0, 11)) (hf : fX11_shuts sh G l0 l1 l2 = some z) : MC l yX11_shuts cX11_shuts 5 (some .int) 4 0 0 sh sh G (z.2) (fun ad => [.ref (ad l0), .int l1, .int l2]) (fun _ => some (.int z.1)) := by
  refine MC_of rfl rfl (fun _ => Nat.le_of_ble_eq_true rfl) (fun E ad C hl hnm hC hQ => ?_)
  exact tX11_shuts C hC h_l0 hf (fun pc lv hd hC => v_iret C hQ (fun _ _ => rfl) hC rfl hd)
def fX11_stands (sh : Sh) (G : Hp) (l0 : Nat) (l1 : Int32) : Option (Int32 × Hp) := (fX11_isBridge sh G l0 l1).bind fun r1 => if r1 = 0 then some ((-1), G) else (ldA sh G l0 58 1).bind fun a3 => (aI sh G a3 ((4 : Int32) + l1)).bind fun v4 => if v4 = 1 then (fX11_copies sh G l0).bind fun G7 => bp (fX11_standsFor sh G7 l0 l1) fun r8 G9 => if r8 = 201 then some ((-2), G9) else some (r8, G9) else some ((-2), G)
set_option maxHeartbeats 4000000 in
theorem tX11_stands {E : EX} {ad : Nat → Nat} {sh : Sh} {G : Hp} {l0 : Nat} {l1 : Int32} {z : Int32 × Hp} (C : Cx E RX11 cX11_stands 3 (some .int) 6 0 0) (hC : Cl sh G) (h_l0 : sh[l0]? = some (0, 11)) (hf : fX11_stands sh G l0 l1 = some z) (kr : RCi E cX11_stands ad sh (z.1) (z.2)) : VV E 0 0 (wq (xT E) ad G sh) 0 [(0, .ref (ad l0)), (1, .int l1)] [] := by
  unfold fX11_stands at hf
  refine v_aload_n C 0 dX11_stands_0 rfl rfl ?_
  refine v_iload_n C 1 dX11_stands_1 rfl rfl ?_
  obtain ⟨r1, qr1, hf⟩ := bn hf
  refine v_callVi (As := [.int l1]) (rest := []) C (sX11_isBridge h_l0 qr1) cs_X11_431 (by decide) h_l0 rfl hC rfl rfl rfl (Nat.le_of_ble_eq_true rfl) ⟨Nat.le_refl _, Nat.le_refl _⟩ dX11_stands_2 (fun hC => ?_)
  refine v_if_ne (tgt := 10) C dX11_stands_5 (by decide) (fun c2 => ?_) (fun c2 => ?_)
  · have hf := im hf c2
    refine v_aload_n C 0 dX11_stands_10 rfl rfl ?_
    obtain ⟨a3, qa3, hf⟩ := bn hf
    refine v_getA C h_l0 fl_X11_134 qa3 dX11_stands_11 (fun h_a3 => ?_)
    refine v_iconst (v := 4) C dX11_stands_14 (by decide) ?_
    refine v_iload_n C 1 dX11_stands_15 rfl rfl ?_
    refine v_iadd C dX11_stands_16 ?_
    obtain ⟨v4, qv4, hf⟩ := bn hf
    refine v_iald C h_a3 qv4 dX11_stands_17 ?_
    refine v_iconst (v := 1) C dX11_stands_18 (by decide) ?_
    refine v_icmp_eq (tgt := 25) C dX11_stands_19 (by decide) (fun c5 => ?_) (fun c5 => ?_)
    · have hf := ip hf c5
      refine v_aload_n C 0 dX11_stands_25 rfl rfl ?_
      obtain ⟨G7, qr6, hf⟩ := bn hf
      refine v_callVv (As := []) (rest := []) C (sX11_copies h_l0 qr6) cs_X11_434 (by decide) h_l0 rfl hC rfl rfl rfl (Nat.le_of_ble_eq_true rfl) ⟨Nat.le_refl _, Nat.le_refl _⟩ dX11_stands_26 (fun hC => ?_)
      refine v_aload_n C 0 dX11_stands_29 rfl rfl ?_
      refine v_iload_n C 1 dX11_stands_30 rfl rfl ?_
      obtain ⟨r8, G9, qr8, hf⟩ := bpn hf
      refine v_callVi (As := [.int l1]) (rest := []) C (sX11_standsFor h_l0 qr8) cs_X11_506 (by decide) h_l0 rfl hC rfl rfl rfl (Nat.le_of_ble_eq_true rfl) ⟨Nat.le_refl _, Nat.le_refl _⟩ dX11_stands_31 (fun hC => ?_)
      refine v_istore_n (lv2 := [(2, .int r8), (0, .ref (ad l0)), (1, .int l1)]) C dX11_stands_34 rfl (by decide) rfl ?_
      refine v_iload_n C 0 dX11_stands_35 rfl rfl ?_
      refine v_sipush (v := 201) C dX11_stands_36 (by decide) ?_
      refine v_icmp_ne (tgt := 47) C dX11_stands_39 (by decide) (fun c10 => ?_) (fun c10 => ?_)
      · have hf := im hf c10
        refine v_iload_n C 0 dX11_stands_47 rfl rfl ?_
        cases hf
        exact kr _ _ dX11_stands_48 hC
      · have hf := ip hf c10
        refine v_bipush (v := (-2)) C dX11_stands_42 (by decide) ?_
        refine v_goto (tgt := 48) C dX11_stands_44 (by decide) ?_
        cases hf
        exact kr _ _ dX11_stands_48 hC
    · have hf := im hf c5
      refine v_bipush (v := (-2)) C dX11_stands_22 (by decide) ?_
      cases hf
      exact kr _ _ dX11_stands_24 hC
  · have hf := ip hf c2
    refine v_iconst (v := (-1)) C dX11_stands_8 (by decide) ?_
    cases hf
    exact kr _ _ dX11_stands_9 hC
theorem sX11_stands {l : Launch} {sh : Sh} {G : Hp} {l0 : Nat} {l1 : Int32} {z : Int32 × Hp} (h_l0 : sh[l0]? = some (0, 11)) (hf : fX11_stands sh G l0 l1 = some z) : MC l yX11_stands cX11_stands 3 (some .int) 6 0 0 sh sh G (z.2) (fun ad => [.ref (ad l0), .int l1]) (fun _ => some (.int z.1)) := by
  refine MC_of rfl rfl (fun _ => Nat.le_of_ble_eq_true rfl) (fun E ad C hl hnm hC hQ => ?_)
  exact tX11_stands C hC h_l0 hf (fun pc lv hd hC => v_iret C hQ (fun _ _ => rfl) hC rfl hd)
def fX11_stonesIn (sh : Sh) (G : Hp) (l0 : Nat) (l1 : Int32) (l2 : Int32) : Option (Int32 × Hp) := (fX11_isBridge sh G l0 l1).bind fun r1 => if r1 = 0 then some ((-1), G) else (fX11_isLong l2).bind fun r3 => if r3 = 0 then some ((-1), G) else (fX11_copies sh G l0).bind fun G6 => (fX11_goes sh G6 l0 l2).bind fun G8 => (ldA sh G8 l0 59 1).bind fun a9 => (aI sh G8 a9 l1).bind fun v10 => some (v10, G8)
set_option maxHeartbeats 4000000 in
theorem tX11_stonesIn {E : EX} {ad : Nat → Nat} {sh : Sh} {G : Hp} {l0 : Nat} {l1 : Int32} {l2 : Int32} {z : Int32 × Hp} (C : Cx E RX11 cX11_stonesIn 3 (some .int) 6 0 0) (hC : Cl sh G) (h_l0 : sh[l0]? = some (0, 11)) (hf : fX11_stonesIn sh G l0 l1 l2 = some z) (kr : RCi E cX11_stonesIn ad sh (z.1) (z.2)) : VV E 0 0 (wq (xT E) ad G sh) 0 [(0, .ref (ad l0)), (1, .int l1), (2, .int l2)] [] := by
  unfold fX11_stonesIn at hf
  refine v_aload_n C 0 dX11_stonesIn_0 rfl rfl ?_
  refine v_iload_n C 1 dX11_stonesIn_1 rfl rfl ?_
  obtain ⟨r1, qr1, hf⟩ := bn hf
  refine v_callVi (As := [.int l1]) (rest := []) C (sX11_isBridge h_l0 qr1) cs_X11_431 (by decide) h_l0 rfl hC rfl rfl rfl (Nat.le_of_ble_eq_true rfl) ⟨Nat.le_refl _, Nat.le_refl _⟩ dX11_stonesIn_2 (fun hC => ?_)
  refine v_if_eq (tgt := 15) C dX11_stonesIn_5 (by decide) (fun c2 => ?_) (fun c2 => ?_)
  · have hf := ip hf c2
    refine v_iconst (v := (-1)) C dX11_stonesIn_15 (by decide) ?_
    cases hf
    exact kr _ _ dX11_stonesIn_16 hC
  · have hf := im hf c2
    refine v_iload_n C 2 dX11_stonesIn_8 rfl rfl ?_
    obtain ⟨r3, qr3, hf⟩ := bn hf
    refine v_callSi (As := [.int l2]) (rest := []) C (sX11_isLong  qr3) cs_X11_509 (by decide) hC rfl rfl rfl (Nat.le_of_ble_eq_true rfl) ⟨Nat.le_refl _, Nat.le_refl _⟩ dX11_stonesIn_9 (fun hC => ?_)
    refine v_if_ne (tgt := 17) C dX11_stonesIn_12 (by decide) (fun c4 => ?_) (fun c4 => ?_)
    · have hf := im hf c4
      refine v_aload_n C 0 dX11_stonesIn_17 rfl rfl ?_
      obtain ⟨G6, qr5, hf⟩ := bn hf
      refine v_callVv (As := []) (rest := []) C (sX11_copies h_l0 qr5) cs_X11_434 (by decide) h_l0 rfl hC rfl rfl rfl (Nat.le_of_ble_eq_true rfl) ⟨Nat.le_refl _, Nat.le_refl _⟩ dX11_stonesIn_18 (fun hC => ?_)
      refine v_aload_n C 0 dX11_stonesIn_21 rfl rfl ?_
      refine v_iload_n C 2 dX11_stonesIn_22 rfl rfl ?_
      obtain ⟨G8, qr7, hf⟩ := bn hf
      refine v_callVv (As := [.int l2]) (rest := []) C (sX11_goes h_l0 qr7) cs_X11_461 (by decide) h_l0 rfl hC rfl rfl rfl (Nat.le_of_ble_eq_true rfl) ⟨Nat.le_refl _, Nat.le_refl _⟩ dX11_stonesIn_23 (fun hC => ?_)
      refine v_aload_n C 0 dX11_stonesIn_26 rfl rfl ?_
      obtain ⟨a9, qa9, hf⟩ := bn hf
      refine v_getA C h_l0 fl_X11_137 qa9 dX11_stonesIn_27 (fun h_a9 => ?_)
      refine v_iload_n C 1 dX11_stonesIn_30 rfl rfl ?_
      obtain ⟨v10, qv10, hf⟩ := bn hf
      refine v_iald C h_a9 qv10 dX11_stonesIn_31 ?_
      cases hf
      exact kr _ _ dX11_stonesIn_32 hC
    · have hf := ip hf c4
      refine v_iconst (v := (-1)) C dX11_stonesIn_15 (by decide) ?_
      cases hf
      exact kr _ _ dX11_stonesIn_16 hC
theorem sX11_stonesIn {l : Launch} {sh : Sh} {G : Hp} {l0 : Nat} {l1 : Int32} {l2 : Int32} {z : Int32 × Hp} (h_l0 : sh[l0]? = some (0, 11)) (hf : fX11_stonesIn sh G l0 l1 l2 = some z) : MC l yX11_stonesIn cX11_stonesIn 3 (some .int) 6 0 0 sh sh G (z.2) (fun ad => [.ref (ad l0), .int l1, .int l2]) (fun _ => some (.int z.1)) := by
  refine MC_of rfl rfl (fun _ => Nat.le_of_ble_eq_true rfl) (fun E ad C hl hnm hC hQ => ?_)
  exact tX11_stonesIn C hC h_l0 hf (fun pc lv hd hC => v_iret C hQ (fun _ _ => rfl) hC rfl hd)
def fX11_sure_S17 (sh : Sh) (l0 : Nat) (l1 : Int32) (l2 : Int32) (G : Hp) (l3 : Int32) (l4 : Int32) : Option ((Hp × Int32 × Int32) ⊕ ((Hp × Int32) ⊕ (Hp))) := (ldA sh G l0 24 1).bind fun a1 => (aI sh G a1 (G.1 l0 18)).bind fun v2 => if v2 ≤ l4 then some (.inr (.inl (G, l3))) else bp (fX11_wentBy sh G l0 l1 l2 l4) fun r4 G5 => if r4 = 0 then bd ((l4 + 1) : Int32) fun x9 => some (.inl (G5, l3, x9)) else if l3 < 0 then bd ((l4 + 1) : Int32) fun x8 => some (.inl (G5, l4, x8)) else some (.inr (.inr G5))
set_option maxHeartbeats 4000000 in
theorem tX11_sure_S17 {E : EX} {ad : Nat → Nat} {sh : Sh} {G : Hp} {l0 : Nat} {l1 : Int32} {l2 : Int32} {l3 : Int32} {l4 : Int32} {o : (Hp × Int32 × Int32) ⊕ ((Hp × Int32) ⊕ (Hp))} (C : Cx E RX11 cX11_sure 5 (some .int) 4 0 0) (hC : Cl sh G) (h_l0 : sh[l0]? = some (0, 11)) (hf : fX11_sure_S17 sh l0 l1 l2 G l3 l4 = some o) (kb : ∀ (G2 : Hp) (b_l3 : Int32) (b_l4 : Int32), o = .inl (G2, b_l3, b_l4) → Cl sh G2 → VV E 0 0 (wq (xT E) ad G2 sh) 17 [(0, .ref (ad l0)), (1, .int l1), (2, .int l2), (3, .int b_l3), (4, .int b_l4)] []) (kx61 : ∀ (G2 : Hp) (b_l3 : Int32), o = .inr (.inl (G2, b_l3)) → Cl sh G2 → VV E 0 0 (wq (xT E) ad G2 sh) 61 [(0, .ref (ad l0)), (1, .int l1), (2, .int l2), (3, .int b_l3)] []) (kx49 : ∀ (G2 : Hp), o = .inr (.inr G2) → Cl sh G2 → VV E 0 0 (wq (xT E) ad G2 sh) 49 [(0, .ref (ad l0)), (1, .int l1), (2, .int l2)] []) : VV E 0 0 (wq (xT E) ad G sh) 17 [(0, .ref (ad l0)), (1, .int l1), (2, .int l2), (3, .int l3), (4, .int l4)] [] := by
  unfold fX11_sure_S17 at hf
  refine v_iload C 4 dX11_sure_17 rfl ?_
  refine v_aload_n C 0 dX11_sure_19 rfl rfl ?_
  obtain ⟨a1, qa1, hf⟩ := bn hf
  refine v_getA C h_l0 fl_X11_49 qa1 dX11_sure_20 (fun h_a1 => ?_)
  refine v_aload_n C 0 dX11_sure_23 rfl rfl ?_
  refine v_getI C h_l0 fl_X11_257 dX11_sure_24 ?_
  obtain ⟨v2, qv2, hf⟩ := bn hf
  refine v_iald C h_a1 qv2 dX11_sure_27 ?_
  refine v_icmp_ge (tgt := 61) C dX11_sure_28 (by decide) (fun c3 => ?_) (fun c3 => ?_)
  · have hf := ip hf c3
    cases hf
    refine v_sub [0, 1, 2, 3] rfl ?_
    exact kx61 _ _ rfl hC
  · have hf := im hf c3
    refine v_aload_n C 0 dX11_sure_31 rfl rfl ?_
    refine v_iload_n C 1 dX11_sure_32 rfl rfl ?_
    refine v_iload_n C 2 dX11_sure_33 rfl rfl ?_
    refine v_iload C 4 dX11_sure_34 rfl ?_
    obtain ⟨r4, G5, qr4, hf⟩ := bpn hf
    refine v_callVi (As := [.int l1, .int l2, .int l4]) (rest := []) C (sX11_wentBy h_l0 qr4) cs_X11_518 (by decide) h_l0 rfl hC rfl rfl rfl (Nat.le_of_ble_eq_true rfl) ⟨Nat.le_refl _, Nat.le_refl _⟩ dX11_sure_36 (fun hC => ?_)
    refine v_if_ne (tgt := 45) C dX11_sure_39 (by decide) (fun c6 => ?_) (fun c6 => ?_)
    · have hf := im hf c6
      refine v_iload_n C 3 dX11_sure_45 rfl rfl ?_
      refine v_if_lt (tgt := 52) C dX11_sure_46 (by decide) (fun c7 => ?_) (fun c7 => ?_)
      · have hf := ip hf c7
        refine v_iload C 4 dX11_sure_52 rfl ?_
        refine v_istore_n (lv2 := [(3, .int l4), (0, .ref (ad l0)), (1, .int l1), (2, .int l2), (4, .int l4)]) C dX11_sure_54 rfl (by decide) rfl ?_
        obtain ⟨x8, ex8⟩ : ∃ x : Int32, x = (l4 + 1) := ⟨_, rfl⟩
        have hf := bd_at hf ex8
        refine v_iinc (v := x8) (j := 4) (lv2 := [(4, .int x8), (3, .int l4), (0, .ref (ad l0)), (1, .int l1), (2, .int l2)]) C dX11_sure_55 rfl (by rw [ex8]; rfl) (by decide) rfl ?_
        refine v_goto (tgt := 17) C dX11_sure_58 (by decide) ?_
        cases hf
        refine v_sub [2, 3, 4, 1, 0] rfl ?_
        exact kb _ _ _ rfl hC
      · have hf := im hf c7
        cases hf
        refine v_sub [0, 1, 2] rfl ?_
        exact kx49 _ rfl hC
    · have hf := ip hf c6
      refine v_goto (tgt := 55) C dX11_sure_42 (by decide) ?_
      obtain ⟨x9, ex9⟩ : ∃ x : Int32, x = (l4 + 1) := ⟨_, rfl⟩
      have hf := bd_at hf ex9
      refine v_iinc (v := x9) (j := 4) (lv2 := [(4, .int x9), (0, .ref (ad l0)), (1, .int l1), (2, .int l2), (3, .int l3)]) C dX11_sure_55 rfl (by rw [ex9]; rfl) (by decide) rfl ?_
      refine v_goto (tgt := 17) C dX11_sure_58 (by decide) ?_
      cases hf
      refine v_sub [1, 2, 3, 4, 0] rfl ?_
      exact kb _ _ _ rfl hC
def fX11_sure (sh : Sh) (G : Hp) (l0 : Nat) (l1 : Int32) (l2 : Int32) : Option (Int32 × Hp) := (fX11_isKnown sh G l0 l1 l2).bind fun r1 => if r1 = 0 then some ((-1), G) else (iter (fun s : Hp × Int32 × Int32 => fX11_sure_S17 sh l0 l1 l2 s.1 s.2.1 s.2.2) fuel ((G, (-2), 0) : Hp × Int32 × Int32)).bind (Sum.elim (fun u6 => bd u6.1 fun G4 => bd u6.2 fun x5 => some (x5, G4)) (fun u8 => bd u8 fun G7 => some ((-2), G7)))
set_option maxHeartbeats 4000000 in
theorem tX11_sure {E : EX} {ad : Nat → Nat} {sh : Sh} {G : Hp} {l0 : Nat} {l1 : Int32} {l2 : Int32} {z : Int32 × Hp} (C : Cx E RX11 cX11_sure 5 (some .int) 4 0 0) (hC : Cl sh G) (h_l0 : sh[l0]? = some (0, 11)) (hf : fX11_sure sh G l0 l1 l2 = some z) (kr : RCi E cX11_sure ad sh (z.1) (z.2)) : VV E 0 0 (wq (xT E) ad G sh) 0 [(0, .ref (ad l0)), (1, .int l1), (2, .int l2)] [] := by
  unfold fX11_sure at hf
  refine v_aload_n C 0 dX11_sure_0 rfl rfl ?_
  refine v_iload_n C 1 dX11_sure_1 rfl rfl ?_
  refine v_iload_n C 2 dX11_sure_2 rfl rfl ?_
  obtain ⟨r1, qr1, hf⟩ := bn hf
  refine v_callVi (As := [.int l1, .int l2]) (rest := []) C (sX11_isKnown h_l0 qr1) cs_X11_515 (by decide) h_l0 rfl hC rfl rfl rfl (Nat.le_of_ble_eq_true rfl) ⟨Nat.le_refl _, Nat.le_refl _⟩ dX11_sure_3 (fun hC => ?_)
  refine v_if_ne (tgt := 11) C dX11_sure_6 (by decide) (fun c2 => ?_) (fun c2 => ?_)
  · have hf := im hf c2
    refine v_bipush (v := (-2)) C dX11_sure_11 (by decide) ?_
    refine v_istore_n (lv2 := [(3, .int (-2)), (0, .ref (ad l0)), (1, .int l1), (2, .int l2)]) C dX11_sure_13 rfl (by decide) rfl ?_
    refine v_iconst (v := 0) C dX11_sure_14 (by decide) ?_
    refine v_istore (lv2 := [(4, .int 0), (3, .int (-2)), (0, .ref (ad l0)), (1, .int l1), (2, .int l2)]) C dX11_sure_15 (by decide) rfl ?_
    obtain ⟨r3, qr3, hf⟩ := bn hf
    refine v_sub [2, 3, 4, 1, 0] rfl ?_
    refine iter_sound (P := (fun s : Hp × Int32 × Int32 => Cl sh (s.1) → VV E 0 0 (wq (xT E) ad (s.1) sh) 17 [(0, .ref (ad l0)), (1, .int (l1)), (2, .int (l2)), (3, .int (s.2.1)), (4, .int (s.2.2))] [])) (X := fun r => r = r3) (fun jsr3 jor3 hor3 jbr3 jxr3 hC => tX11_sure_S17 C hC h_l0 hor3 (fun _ _ _ e => jbr3 _ e) ?_ ?_) fuel _ r3 qr3 rfl hC
    · intro G4 x5 hu hC
      have e := jxr3 _ hu
      subst e
      have hf := sm_l hf
      have hf := bd_at hf (rfl : G4 = _)
      have hf := bd_at hf (rfl : x5 = _)
      refine v_iload_n C 3 dX11_sure_61 rfl rfl ?_
      cases hf
      exact kr _ _ dX11_sure_62 hC
    · intro G7 hu hC
      have e := jxr3 _ hu
      subst e
      have hf := sm_r hf
      have hf := bd_at hf (rfl : G7 = _)
      refine v_bipush (v := (-2)) C dX11_sure_49 (by decide) ?_
      cases hf
      exact kr _ _ dX11_sure_51 hC
  · have hf := ip hf c2
    refine v_iconst (v := (-1)) C dX11_sure_9 (by decide) ?_
    cases hf
    exact kr _ _ dX11_sure_10 hC
theorem sX11_sure {l : Launch} {sh : Sh} {G : Hp} {l0 : Nat} {l1 : Int32} {l2 : Int32} {z : Int32 × Hp} (h_l0 : sh[l0]? = some (0, 11)) (hf : fX11_sure sh G l0 l1 l2 = some z) : MC l yX11_sure cX11_sure 5 (some .int) 4 0 0 sh sh G (z.2) (fun ad => [.ref (ad l0), .int l1, .int l2]) (fun _ => some (.int z.1)) := by
  refine MC_of rfl rfl (fun _ => Nat.le_of_ble_eq_true rfl) (fun E ad C hl hnm hC hQ => ?_)
  exact tX11_sure C hC h_l0 hf (fun pc lv hd hC => v_iret C hQ (fun _ _ => rfl) hC rfl hd)
def fX11_taken (sh : Sh) (G : Hp) (l0 : Nat) (l1 : Int32) (l2 : Int32) (l3 : Int32) : Option (Int32 × Hp) := (fX11_isBridge sh G l0 l1).bind fun r1 => if r1 = 0 then some ((-1), G) else (fX11_isBeing sh G l0 l2).bind fun r3 => if r3 = 0 then some ((-1), G) else (fX11_isSome sh G l0 l3).bind fun r5 => if r5 = 0 then some ((-1), G) else (fX11_copies sh G l0).bind fun G8 => (fX11_setOf sh G8 l0 l2 l3).bind fun r9 => bp (fX11_doesHold sh G8 l0 l1 r9) fun r10 G11 => if r10 = 0 then some (1, G11) else (fX11_isLearnt sh G11 l0 r9).bind fun r13 => if r13 = 0 then some (0, G11) else some (2, G11)
set_option maxHeartbeats 4000000 in
theorem tX11_taken {E : EX} {ad : Nat → Nat} {sh : Sh} {G : Hp} {l0 : Nat} {l1 : Int32} {l2 : Int32} {l3 : Int32} {z : Int32 × Hp} (C : Cx E RX11 cX11_taken 5 (some .int) 4 0 0) (hC : Cl sh G) (h_l0 : sh[l0]? = some (0, 11)) (hf : fX11_taken sh G l0 l1 l2 l3 = some z) (kr : RCi E cX11_taken ad sh (z.1) (z.2)) : VV E 0 0 (wq (xT E) ad G sh) 0 [(0, .ref (ad l0)), (1, .int l1), (2, .int l2), (3, .int l3)] [] := by
  unfold fX11_taken at hf
  refine v_aload_n C 0 dX11_taken_0 rfl rfl ?_
  refine v_iload_n C 1 dX11_taken_1 rfl rfl ?_
  obtain ⟨r1, qr1, hf⟩ := bn hf
  refine v_callVi (As := [.int l1]) (rest := []) C (sX11_isBridge h_l0 qr1) cs_X11_431 (by decide) h_l0 rfl hC rfl rfl rfl (Nat.le_of_ble_eq_true rfl) ⟨Nat.le_refl _, Nat.le_refl _⟩ dX11_taken_2 (fun hC => ?_)
  refine v_if_eq (tgt := 24) C dX11_taken_5 (by decide) (fun c2 => ?_) (fun c2 => ?_)
  · have hf := ip hf c2
    refine v_iconst (v := (-1)) C dX11_taken_24 (by decide) ?_
    cases hf
    exact kr _ _ dX11_taken_25 hC
  · have hf := im hf c2
    refine v_aload_n C 0 dX11_taken_8 rfl rfl ?_
    refine v_iload_n C 2 dX11_taken_9 rfl rfl ?_
    obtain ⟨r3, qr3, hf⟩ := bn hf
    refine v_callVi (As := [.int l2]) (rest := []) C (sX11_isBeing h_l0 qr3) cs_X11_419 (by decide) h_l0 rfl hC rfl rfl rfl (Nat.le_of_ble_eq_true rfl) ⟨Nat.le_refl _, Nat.le_refl _⟩ dX11_taken_10 (fun hC => ?_)
    refine v_if_eq (tgt := 24) C dX11_taken_13 (by decide) (fun c4 => ?_) (fun c4 => ?_)
    · have hf := ip hf c4
      refine v_iconst (v := (-1)) C dX11_taken_24 (by decide) ?_
      cases hf
      exact kr _ _ dX11_taken_25 hC
    · have hf := im hf c4
      refine v_aload_n C 0 dX11_taken_16 rfl rfl ?_
      refine v_iload_n C 3 dX11_taken_17 rfl rfl ?_
      obtain ⟨r5, qr5, hf⟩ := bn hf
      refine v_callVi (As := [.int l3]) (rest := []) C (sX11_isSome h_l0 qr5) cs_X11_425 (by decide) h_l0 rfl hC rfl rfl rfl (Nat.le_of_ble_eq_true rfl) ⟨Nat.le_refl _, Nat.le_refl _⟩ dX11_taken_18 (fun hC => ?_)
      refine v_if_ne (tgt := 26) C dX11_taken_21 (by decide) (fun c6 => ?_) (fun c6 => ?_)
      · have hf := im hf c6
        refine v_aload_n C 0 dX11_taken_26 rfl rfl ?_
        obtain ⟨G8, qr7, hf⟩ := bn hf
        refine v_callVv (As := []) (rest := []) C (sX11_copies h_l0 qr7) cs_X11_434 (by decide) h_l0 rfl hC rfl rfl rfl (Nat.le_of_ble_eq_true rfl) ⟨Nat.le_refl _, Nat.le_refl _⟩ dX11_taken_27 (fun hC => ?_)
        refine v_aload_n C 0 dX11_taken_30 rfl rfl ?_
        refine v_iload_n C 2 dX11_taken_31 rfl rfl ?_
        refine v_iload_n C 3 dX11_taken_32 rfl rfl ?_
        obtain ⟨r9, qr9, hf⟩ := bn hf
        refine v_callVi (As := [.int l2, .int l3]) (rest := []) C (sX11_setOf h_l0 qr9) cs_X11_428 (by decide) h_l0 rfl hC rfl rfl rfl (Nat.le_of_ble_eq_true rfl) ⟨Nat.le_refl _, Nat.le_refl _⟩ dX11_taken_33 (fun hC => ?_)
        refine v_istore (lv2 := [(4, .int r9), (0, .ref (ad l0)), (1, .int l1), (2, .int l2), (3, .int l3)]) C dX11_taken_36 (by decide) rfl ?_
        refine v_aload_n C 1 dX11_taken_38 rfl rfl ?_
        refine v_iload_n C 2 dX11_taken_39 rfl rfl ?_
        refine v_iload C 0 dX11_taken_40 rfl ?_
        obtain ⟨r10, G11, qr10, hf⟩ := bpn hf
        refine v_callVi (As := [.int l1, .int r9]) (rest := []) C (sX11_doesHold h_l0 qr10) cs_X11_402 (by decide) h_l0 rfl hC rfl rfl rfl (Nat.le_of_ble_eq_true rfl) ⟨Nat.le_refl _, Nat.le_refl _⟩ dX11_taken_42 (fun hC => ?_)
        refine v_if_ne (tgt := 52) C dX11_taken_45 (by decide) (fun c12 => ?_) (fun c12 => ?_)
        · have hf := im hf c12
          refine v_aload_n C 1 dX11_taken_52 rfl rfl ?_
          refine v_iload C 0 dX11_taken_53 rfl ?_
          obtain ⟨r13, qr13, hf⟩ := bn hf
          refine v_callVi (As := [.int r9]) (rest := []) C (sX11_isLearnt h_l0 qr13) cs_X11_406 (by decide) h_l0 rfl hC rfl rfl rfl (Nat.le_of_ble_eq_true rfl) ⟨Nat.le_refl _, Nat.le_refl _⟩ dX11_taken_55 (fun hC => ?_)
          refine v_if_eq (tgt := 65) C dX11_taken_58 (by decide) (fun c14 => ?_) (fun c14 => ?_)
          · have hf := ip hf c14
            refine v_iconst (v := 0) C dX11_taken_65 (by decide) ?_
            cases hf
            exact kr _ _ dX11_taken_66 hC
          · have hf := im hf c14
            refine v_iconst (v := 2) C dX11_taken_61 (by decide) ?_
            refine v_goto (tgt := 66) C dX11_taken_62 (by decide) ?_
            cases hf
            exact kr _ _ dX11_taken_66 hC
        · have hf := ip hf c12
          refine v_iconst (v := 1) C dX11_taken_48 (by decide) ?_
          refine v_goto (tgt := 66) C dX11_taken_49 (by decide) ?_
          cases hf
          exact kr _ _ dX11_taken_66 hC
      · have hf := ip hf c6
        refine v_iconst (v := (-1)) C dX11_taken_24 (by decide) ?_
        cases hf
        exact kr _ _ dX11_taken_25 hC
theorem sX11_taken {l : Launch} {sh : Sh} {G : Hp} {l0 : Nat} {l1 : Int32} {l2 : Int32} {l3 : Int32} {z : Int32 × Hp} (h_l0 : sh[l0]? = some (0, 11)) (hf : fX11_taken sh G l0 l1 l2 l3 = some z) : MC l yX11_taken cX11_taken 5 (some .int) 4 0 0 sh sh G (z.2) (fun ad => [.ref (ad l0), .int l1, .int l2, .int l3]) (fun _ => some (.int z.1)) := by
  refine MC_of rfl rfl (fun _ => Nat.le_of_ble_eq_true rfl) (fun E ad C hl hnm hC hQ => ?_)
  exact tX11_taken C hC h_l0 hf (fun pc lv hd hC => v_iret C hQ (fun _ _ => rfl) hC rfl hd)
def fX11_tell (sh : Sh) (G : Hp) (l0 : Nat) (l1 : Int32) (l2 : Int32) : Option (Int32 × Hp) := if (G.1 l0 74) = 20 then some ((-1), G) else (ldA sh G l0 23 1).bind fun a2 => (aI sh G a2 (G.1 l0 18)).bind fun v3 => (fX11_in l1 0 (v3 - 1)).bind fun r4 => if r4 = 0 then some ((-1), G) else (ldA sh G l0 75 1).bind fun a6 => (asI sh G a6 (G.1 l0 74) l1).bind fun G7 => (ldA sh G7 l0 76 3).bind fun a8 => (asI sh G7 a8 (G7.1 l0 74) (zb l2)).bind fun G9 => bd (sI G9 l0 74 ((G9.1 l0 74) + 1)) fun G10 => some (((G10.1 l0 74) - 1), G10)
set_option maxHeartbeats 4000000 in
theorem tX11_tell {E : EX} {ad : Nat → Nat} {sh : Sh} {G : Hp} {l0 : Nat} {l1 : Int32} {l2 : Int32} {z : Int32 × Hp} (C : Cx E RX11 cX11_tell 3 (some .int) 2 0 0) (hC : Cl sh G) (h_l0 : sh[l0]? = some (0, 11)) (hf : fX11_tell sh G l0 l1 l2 = some z) (kr : RCi E cX11_tell ad sh (z.1) (z.2)) : VV E 0 0 (wq (xT E) ad G sh) 0 [(0, .ref (ad l0)), (1, .int l1), (2, .int l2)] [] := by
  unfold fX11_tell at hf
  refine v_aload_n C 0 dX11_tell_0 rfl rfl ?_
  refine v_getI C h_l0 fl_X11_281 dX11_tell_1 ?_
  refine v_bipush (v := 20) C dX11_tell_4 (by decide) ?_
  refine v_icmp_eq (tgt := 28) C dX11_tell_6 (by decide) (fun c1 => ?_) (fun c1 => ?_)
  · have hf := ip hf c1
    refine v_iconst (v := (-1)) C dX11_tell_28 (by decide) ?_
    cases hf
    exact kr _ _ dX11_tell_29 hC
  · have hf := im hf c1
    refine v_iload_n C 1 dX11_tell_9 rfl rfl ?_
    refine v_iconst (v := 0) C dX11_tell_10 (by decide) ?_
    refine v_aload_n C 0 dX11_tell_11 rfl rfl ?_
    obtain ⟨a2, qa2, hf⟩ := bn hf
    refine v_getA C h_l0 fl_X11_46 qa2 dX11_tell_12 (fun h_a2 => ?_)
    refine v_aload_n C 0 dX11_tell_15 rfl rfl ?_
    refine v_getI C h_l0 fl_X11_257 dX11_tell_16 ?_
    obtain ⟨v3, qv3, hf⟩ := bn hf
    refine v_iald C h_a2 qv3 dX11_tell_19 ?_
    refine v_iconst (v := 1) C dX11_tell_20 (by decide) ?_
    refine v_isub C dX11_tell_21 ?_
    obtain ⟨r4, qr4, hf⟩ := bn hf
    refine v_callSi (As := [.int l1, .int 0, .int (v3 - 1)]) (rest := []) C (sX11_in  qr4) cs_X11_370 (by decide) hC rfl rfl rfl (Nat.le_of_ble_eq_true rfl) ⟨Nat.le_refl _, Nat.le_refl _⟩ dX11_tell_22 (fun hC => ?_)
    refine v_if_ne (tgt := 30) C dX11_tell_25 (by decide) (fun c5 => ?_) (fun c5 => ?_)
    · have hf := im hf c5
      refine v_aload_n C 0 dX11_tell_30 rfl rfl ?_
      obtain ⟨a6, qa6, hf⟩ := bn hf
      refine v_getA C h_l0 fl_X11_164 qa6 dX11_tell_31 (fun h_a6 => ?_)
      refine v_aload_n C 0 dX11_tell_34 rfl rfl ?_
      refine v_getI C h_l0 fl_X11_281 dX11_tell_35 ?_
      refine v_iload_n C 1 dX11_tell_38 rfl rfl ?_
      obtain ⟨G7, qG7, hf⟩ := bn hf
      refine v_iast C h_a6 qG7 hC dX11_tell_39 (fun hC => ?_)
      refine v_aload_n C 0 dX11_tell_40 rfl rfl ?_
      obtain ⟨a8, qa8, hf⟩ := bn hf
      refine v_getA C h_l0 fl_X11_167 qa8 dX11_tell_41 (fun h_a8 => ?_)
      refine v_aload_n C 0 dX11_tell_44 rfl rfl ?_
      refine v_getI C h_l0 fl_X11_281 dX11_tell_45 ?_
      refine v_iload_n C 2 dX11_tell_48 rfl rfl ?_
      obtain ⟨G9, qG9, hf⟩ := bn hf
      refine v_zast C h_a8 qG9 hC dX11_tell_49 (fun hC => ?_)
      refine v_aload_n C 0 dX11_tell_50 rfl rfl ?_
      refine v_dup C dX11_tell_51 rfl ?_
      refine v_getI C h_l0 fl_X11_281 dX11_tell_52 ?_
      refine v_iconst (v := 1) C dX11_tell_55 (by decide) ?_
      refine v_iadd C dX11_tell_56 ?_
      refine v_putI C h_l0 fp_X11_281 dX11_tell_57 (fun G10 eG10 => ?_)
      have hf := bd_at hf eG10
      have hC : Cl sh G10 := by rw [eG10]; exact hC
      refine v_aload_n C 0 dX11_tell_60 rfl rfl ?_
      refine v_getI C h_l0 fl_X11_281 dX11_tell_61 ?_
      refine v_iconst (v := 1) C dX11_tell_64 (by decide) ?_
      refine v_isub C dX11_tell_65 ?_
      cases hf
      exact kr _ _ dX11_tell_66 hC
    · have hf := ip hf c5
      refine v_iconst (v := (-1)) C dX11_tell_28 (by decide) ?_
      cases hf
      exact kr _ _ dX11_tell_29 hC
theorem sX11_tell {l : Launch} {sh : Sh} {G : Hp} {l0 : Nat} {l1 : Int32} {l2 : Int32} {z : Int32 × Hp} (h_l0 : sh[l0]? = some (0, 11)) (hf : fX11_tell sh G l0 l1 l2 = some z) : MC l yX11_tell cX11_tell 3 (some .int) 2 0 0 sh sh G (z.2) (fun ad => [.ref (ad l0), .int l1, .int l2]) (fun _ => some (.int z.1)) := by
  refine MC_of rfl rfl (fun _ => Nat.le_of_ble_eq_true rfl) (fun E ad C hl hnm hC hQ => ?_)
  exact tX11_tell C hC h_l0 hf (fun pc lv hd hC => v_iret C hQ (fun _ _ => rfl) hC rfl hd)
def fX11_undo_S21 (sh : Sh) (l0 : Nat) (G : Hp) (l1 : Int32) : Option ((Hp × Int32) ⊕ ((Hp))) := if 26 ≤ l1 then some (.inr G) else (ldA sh G l0 58 1).bind fun a2 => (ldA sh G l0 65 1).bind fun a3 => (aI sh G a3 (((26 : Int32) * (G.1 l0 64)) + l1)).bind fun v4 => (asI sh G a2 l1 v4).bind fun G5 => bd ((l1 + 1) : Int32) fun x6 => some (.inl (G5, x6))
set_option maxHeartbeats 4000000 in
theorem tX11_undo_S21 {E : EX} {ad : Nat → Nat} {sh : Sh} {G : Hp} {l0 : Nat} {l1 : Int32} {o : (Hp × Int32) ⊕ ((Hp))} (C : Cx E RX11 cX11_undo 2 (some .boolean) 1 0 0) (hC : Cl sh G) (h_l0 : sh[l0]? = some (0, 11)) (hf : fX11_undo_S21 sh l0 G l1 = some o) (kb : ∀ (G2 : Hp) (b_l1 : Int32), o = .inl (G2, b_l1) → Cl sh G2 → VV E 0 0 (wq (xT E) ad G2 sh) 21 [(0, .ref (ad l0)), (1, .int b_l1)] []) (kx53 : ∀ (G2 : Hp), o = .inr G2 → Cl sh G2 → VV E 0 0 (wq (xT E) ad G2 sh) 53 [(0, .ref (ad l0))] []) : VV E 0 0 (wq (xT E) ad G sh) 21 [(0, .ref (ad l0)), (1, .int l1)] [] := by
  unfold fX11_undo_S21 at hf
  refine v_iload_n C 1 dX11_undo_21 rfl rfl ?_
  refine v_bipush (v := 26) C dX11_undo_22 (by decide) ?_
  refine v_icmp_ge (tgt := 53) C dX11_undo_24 (by decide) (fun c1 => ?_) (fun c1 => ?_)
  · have hf := ip hf c1
    cases hf
    refine v_sub [0] rfl ?_
    exact kx53 _ rfl hC
  · have hf := im hf c1
    refine v_aload_n C 0 dX11_undo_27 rfl rfl ?_
    obtain ⟨a2, qa2, hf⟩ := bn hf
    refine v_getA C h_l0 fl_X11_134 qa2 dX11_undo_28 (fun h_a2 => ?_)
    refine v_iload_n C 1 dX11_undo_31 rfl rfl ?_
    refine v_aload_n C 0 dX11_undo_32 rfl rfl ?_
    obtain ⟨a3, qa3, hf⟩ := bn hf
    refine v_getA C h_l0 fl_X11_146 qa3 dX11_undo_33 (fun h_a3 => ?_)
    refine v_bipush (v := 26) C dX11_undo_36 (by decide) ?_
    refine v_aload_n C 0 dX11_undo_38 rfl rfl ?_
    refine v_getI C h_l0 fl_X11_278 dX11_undo_39 ?_
    refine v_imul C dX11_undo_42 ?_
    refine v_iload_n C 1 dX11_undo_43 rfl rfl ?_
    refine v_iadd C dX11_undo_44 ?_
    obtain ⟨v4, qv4, hf⟩ := bn hf
    refine v_iald C h_a3 qv4 dX11_undo_45 ?_
    obtain ⟨G5, qG5, hf⟩ := bn hf
    refine v_iast C h_a2 qG5 hC dX11_undo_46 (fun hC => ?_)
    obtain ⟨x6, ex6⟩ : ∃ x : Int32, x = (l1 + 1) := ⟨_, rfl⟩
    have hf := bd_at hf ex6
    refine v_iinc (v := x6) (j := 1) (lv2 := [(1, .int x6), (0, .ref (ad l0))]) C dX11_undo_47 rfl (by rw [ex6]; rfl) (by decide) rfl ?_
    refine v_goto (tgt := 21) C dX11_undo_50 (by decide) ?_
    cases hf
    refine v_sub [1, 0] rfl ?_
    exact kb _ _ rfl hC
def fX11_undo (sh : Sh) (G : Hp) (l0 : Nat) : Option (Int32 × Hp) := if (G.1 l0 64) = 0 then some (0, G) else bd (sI G l0 64 ((G.1 l0 64) - 1)) fun G2 => (iter (fun s : Hp × Int32 => fX11_undo_S21 sh l0 s.1 s.2) fuel ((G2, 0) : Hp × Int32)).bind (fun u5 => bd u5 fun G4 => some (1, G4))
set_option maxHeartbeats 4000000 in
theorem tX11_undo {E : EX} {ad : Nat → Nat} {sh : Sh} {G : Hp} {l0 : Nat} {z : Int32 × Hp} (C : Cx E RX11 cX11_undo 2 (some .boolean) 1 0 0) (hC : Cl sh G) (h_l0 : sh[l0]? = some (0, 11)) (hf : fX11_undo sh G l0 = some z) (kr : RCz E cX11_undo ad sh (z.1) (z.2)) : VV E 0 0 (wq (xT E) ad G sh) 0 [(0, .ref (ad l0))] [] := by
  unfold fX11_undo at hf
  refine v_aload_n C 0 dX11_undo_0 rfl rfl ?_
  refine v_getI C h_l0 fl_X11_278 dX11_undo_1 ?_
  refine v_if_ne (tgt := 9) C dX11_undo_4 (by decide) (fun c1 => ?_) (fun c1 => ?_)
  · have hf := im hf c1
    refine v_aload_n C 0 dX11_undo_9 rfl rfl ?_
    refine v_dup C dX11_undo_10 rfl ?_
    refine v_getI C h_l0 fl_X11_278 dX11_undo_11 ?_
    refine v_iconst (v := 1) C dX11_undo_14 (by decide) ?_
    refine v_isub C dX11_undo_15 ?_
    refine v_putI C h_l0 fp_X11_278 dX11_undo_16 (fun G2 eG2 => ?_)
    have hf := bd_at hf eG2
    have hC : Cl sh G2 := by rw [eG2]; exact hC
    refine v_iconst (v := 0) C dX11_undo_19 (by decide) ?_
    refine v_istore_n (lv2 := [(1, .int 0), (0, .ref (ad l0))]) C dX11_undo_20 rfl (by decide) rfl ?_
    obtain ⟨r3, qr3, hf⟩ := bn hf
    refine v_sub [1, 0] rfl ?_
    refine iter_sound (P := (fun s : Hp × Int32 => Cl sh (s.1) → VV E 0 0 (wq (xT E) ad (s.1) sh) 21 [(0, .ref (ad l0)), (1, .int (s.2))] [])) (X := fun r => r = r3) (fun jsr3 jor3 hor3 jbr3 jxr3 hC => tX11_undo_S21 C hC h_l0 hor3 (fun _ _ e => jbr3 _ e) ?_) fuel _ r3 qr3 rfl hC
    · intro G4 hu hC
      have e := jxr3 _ hu
      subst e
      have hf := bd_at hf (rfl : G4 = _)
      refine v_iconst (v := 1) C dX11_undo_53 (by decide) ?_
      cases hf
      exact kr _ _ dX11_undo_54 (Or.inr rfl) hC
  · have hf := ip hf c1
    refine v_iconst (v := 0) C dX11_undo_7 (by decide) ?_
    cases hf
    exact kr _ _ dX11_undo_8 (Or.inl rfl) hC
theorem sX11_undo {l : Launch} {sh : Sh} {G : Hp} {l0 : Nat} {z : Int32 × Hp} (h_l0 : sh[l0]? = some (0, 11)) (hf : fX11_undo sh G l0 = some z) : MC l yX11_undo cX11_undo 2 (some .boolean) 1 0 0 sh sh G (z.2) (fun ad => [.ref (ad l0)]) (fun _ => some (.int z.1)) := by
  refine MC_of rfl rfl (fun _ => Nat.le_of_ble_eq_true rfl) (fun E ad C hl hnm hC hQ => ?_)
  exact tX11_undo C hC h_l0 hf (fun pc lv hd hz hC => v_zret C hQ (fun _ _ => rfl) hC rfl hz hd)
def fX11_way (sh : Sh) (G : Hp) (l0 : Nat) (l1 : Int32) (l2 : Int32) : Option (Int32) := (fX11_isWay sh G l0 l1).bind fun r1 => if r1 = 0 then some (-1) else if l2 = 0 then (ldA sh G l0 28 1).bind fun a4 => (aI sh G a4 (((4 : Int32) * (G.1 l0 18)) + l1)).bind fun v5 => some v5 else if l2 = 1 then (ldA sh G l0 29 1).bind fun a7 => (aI sh G a7 (((4 : Int32) * (G.1 l0 18)) + l1)).bind fun v8 => some v8 else if l2 = 2 then (ldA sh G l0 30 1).bind fun a10 => (aI sh G a10 (((4 : Int32) * (G.1 l0 18)) + l1)).bind fun v11 => some v11 else some (-1)
set_option maxHeartbeats 4000000 in
theorem tX11_way {E : EX} {ad : Nat → Nat} {sh : Sh} {G : Hp} {l0 : Nat} {l1 : Int32} {l2 : Int32} {z : Int32} (C : Cx E RX11 cX11_way 3 (some .int) 3 0 0) (hC : Cl sh G) (h_l0 : sh[l0]? = some (0, 11)) (hf : fX11_way sh G l0 l1 l2 = some z) (kr : RCi E cX11_way ad sh z G) : VV E 0 0 (wq (xT E) ad G sh) 0 [(0, .ref (ad l0)), (1, .int l1), (2, .int l2)] [] := by
  unfold fX11_way at hf
  refine v_aload_n C 0 dX11_way_0 rfl rfl ?_
  refine v_iload_n C 1 dX11_way_1 rfl rfl ?_
  obtain ⟨r1, qr1, hf⟩ := bn hf
  refine v_callVi (As := [.int l1]) (rest := []) C (sX11_isWay h_l0 qr1) cs_X11_422 (by decide) h_l0 rfl hC rfl rfl rfl (Nat.le_of_ble_eq_true rfl) ⟨Nat.le_refl _, Nat.le_refl _⟩ dX11_way_2 (fun hC => ?_)
  refine v_if_ne (tgt := 10) C dX11_way_5 (by decide) (fun c2 => ?_) (fun c2 => ?_)
  · have hf := im hf c2
    refine v_iload_n C 2 dX11_way_10 rfl rfl ?_
    by_cases c3 : l2 = 0
    · have hf := ip hf c3
      refine v_tableIn (off := 25) (tgt := 36) C dX11_way_11 (by rw [c3]; decide) (by rw [c3]; decide) (by rw [c3]; decide) (by decide) ?_
      refine v_aload_n C 0 dX11_way_36 rfl rfl ?_
      obtain ⟨a4, qa4, hf⟩ := bn hf
      refine v_getA C h_l0 fl_X11_61 qa4 dX11_way_37 (fun h_a4 => ?_)
      refine v_iconst (v := 4) C dX11_way_40 (by decide) ?_
      refine v_aload_n C 0 dX11_way_41 rfl rfl ?_
      refine v_getI C h_l0 fl_X11_257 dX11_way_42 ?_
      refine v_imul C dX11_way_45 ?_
      refine v_iload_n C 1 dX11_way_46 rfl rfl ?_
      refine v_iadd C dX11_way_47 ?_
      obtain ⟨v5, qv5, hf⟩ := bn hf
      refine v_iald C h_a4 qv5 dX11_way_48 ?_
      cases hf
      exact kr _ _ dX11_way_49 hC
    · have hf := im hf c3
      by_cases c6 : l2 = 1
      · have hf := ip hf c6
        refine v_tableIn (off := 39) (tgt := 50) C dX11_way_11 (by rw [c6]; decide) (by rw [c6]; decide) (by rw [c6]; decide) (by decide) ?_
        refine v_aload_n C 0 dX11_way_50 rfl rfl ?_
        obtain ⟨a7, qa7, hf⟩ := bn hf
        refine v_getA C h_l0 fl_X11_64 qa7 dX11_way_51 (fun h_a7 => ?_)
        refine v_iconst (v := 4) C dX11_way_54 (by decide) ?_
        refine v_aload_n C 0 dX11_way_55 rfl rfl ?_
        refine v_getI C h_l0 fl_X11_257 dX11_way_56 ?_
        refine v_imul C dX11_way_59 ?_
        refine v_iload_n C 1 dX11_way_60 rfl rfl ?_
        refine v_iadd C dX11_way_61 ?_
        obtain ⟨v8, qv8, hf⟩ := bn hf
        refine v_iald C h_a7 qv8 dX11_way_62 ?_
        cases hf
        exact kr _ _ dX11_way_63 hC
      · have hf := im hf c6
        by_cases c9 : l2 = 2
        · have hf := ip hf c9
          refine v_tableIn (off := 53) (tgt := 64) C dX11_way_11 (by rw [c9]; decide) (by rw [c9]; decide) (by rw [c9]; decide) (by decide) ?_
          refine v_aload_n C 0 dX11_way_64 rfl rfl ?_
          obtain ⟨a10, qa10, hf⟩ := bn hf
          refine v_getA C h_l0 fl_X11_67 qa10 dX11_way_65 (fun h_a10 => ?_)
          refine v_iconst (v := 4) C dX11_way_68 (by decide) ?_
          refine v_aload_n C 0 dX11_way_69 rfl rfl ?_
          refine v_getI C h_l0 fl_X11_257 dX11_way_70 ?_
          refine v_imul C dX11_way_73 ?_
          refine v_iload_n C 1 dX11_way_74 rfl rfl ?_
          refine v_iadd C dX11_way_75 ?_
          obtain ⟨v11, qv11, hf⟩ := bn hf
          refine v_iald C h_a10 qv11 dX11_way_76 ?_
          cases hf
          exact kr _ _ dX11_way_77 hC
        · have hf := im hf c9
          refine v_tableOut (tgt := 78) C dX11_way_11 (tsw_out (by decide) (by decide) (fun k hk => match k, hk with | 0, _ => fun e => c3 (e.trans (by decide)) | 1, _ => fun e => c6 (e.trans (by decide)) | 2, _ => fun e => c9 (e.trans (by decide)) | k + 3, hk => absurd hk (by simp only [show (Int.toNat (2 - 0 + 1)) = 3 from rfl]; omega))) (by decide) ?_
          refine v_iconst (v := (-1)) C dX11_way_78 (by decide) ?_
          cases hf
          exact kr _ _ dX11_way_79 hC
  · have hf := ip hf c2
    refine v_iconst (v := (-1)) C dX11_way_8 (by decide) ?_
    cases hf
    exact kr _ _ dX11_way_9 hC
theorem sX11_way {l : Launch} {sh : Sh} {G : Hp} {l0 : Nat} {l1 : Int32} {l2 : Int32} {z : Int32} (h_l0 : sh[l0]? = some (0, 11)) (hf : fX11_way sh G l0 l1 l2 = some z) : MC l yX11_way cX11_way 3 (some .int) 3 0 0 sh sh G G (fun ad => [.ref (ad l0), .int l1, .int l2]) (fun _ => some (.int z)) := by
  refine MC_of rfl rfl (fun _ => Nat.le_of_ble_eq_true rfl) (fun E ad C hl hnm hC hQ => ?_)
  exact tX11_way C hC h_l0 hf (fun pc lv hd hC => v_iret C hQ (fun _ _ => rfl) hC rfl hd)
def fX11_word (l0 : Int32) (l1 : Int32) (l2 : Int32) (l3 : Int32) (l4 : Int32) (l5 : Int32) (l6 : Int32) : Option (Int64) := (fX11_appends 0 l0).bind fun r1 => (fX11_appends r1 l1).bind fun r2 => (fX11_appends r2 l2).bind fun r3 => (fX11_appends r3 l3).bind fun r4 => (fX11_appends r4 l4).bind fun r5 => (fX11_appends r5 l5).bind fun r6 => (fX11_appends r6 l6).bind fun r7 => some r7
set_option maxHeartbeats 4000000 in
theorem tX11_word {E : EX} {ad : Nat → Nat} {sh : Sh} {G : Hp} {l0 : Int32} {l1 : Int32} {l2 : Int32} {l3 : Int32} {l4 : Int32} {l5 : Int32} {l6 : Int32} {z : Int64} (C : Cx E RX11 cX11_word 7 (some .long) 2 0 0) (hC : Cl sh G) (hf : fX11_word l0 l1 l2 l3 l4 l5 l6 = some z) (kr : RCl E cX11_word ad sh z G) : VV E 0 0 (wq (xT E) ad G sh) 0 [(0, .int l0), (1, .int l1), (2, .int l2), (3, .int l3), (4, .int l4), (5, .int l5), (6, .int l6)] [] := by
  unfold fX11_word at hf
  refine v_lconst (v := 0) C dX11_word_0 (by decide) ?_
  refine v_iload_n C 0 dX11_word_1 rfl rfl ?_
  obtain ⟨r1, qr1, hf⟩ := bn hf
  refine v_callSl (As := [.long 0, .int l0]) (rest := []) C (sX11_appends  qr1) cs_X11_201 (by decide) hC rfl rfl rfl (Nat.le_of_ble_eq_true rfl) ⟨Nat.le_refl _, Nat.le_refl _⟩ dX11_word_2 (fun hC => ?_)
  refine v_iload_n C 1 dX11_word_5 rfl rfl ?_
  obtain ⟨r2, qr2, hf⟩ := bn hf
  refine v_callSl (As := [.long r1, .int l1]) (rest := []) C (sX11_appends  qr2) cs_X11_201 (by decide) hC rfl rfl rfl (Nat.le_of_ble_eq_true rfl) ⟨Nat.le_refl _, Nat.le_refl _⟩ dX11_word_6 (fun hC => ?_)
  refine v_iload_n C 2 dX11_word_9 rfl rfl ?_
  obtain ⟨r3, qr3, hf⟩ := bn hf
  refine v_callSl (As := [.long r2, .int l2]) (rest := []) C (sX11_appends  qr3) cs_X11_201 (by decide) hC rfl rfl rfl (Nat.le_of_ble_eq_true rfl) ⟨Nat.le_refl _, Nat.le_refl _⟩ dX11_word_10 (fun hC => ?_)
  refine v_iload_n C 3 dX11_word_13 rfl rfl ?_
  obtain ⟨r4, qr4, hf⟩ := bn hf
  refine v_callSl (As := [.long r3, .int l3]) (rest := []) C (sX11_appends  qr4) cs_X11_201 (by decide) hC rfl rfl rfl (Nat.le_of_ble_eq_true rfl) ⟨Nat.le_refl _, Nat.le_refl _⟩ dX11_word_14 (fun hC => ?_)
  refine v_iload C 4 dX11_word_17 rfl ?_
  obtain ⟨r5, qr5, hf⟩ := bn hf
  refine v_callSl (As := [.long r4, .int l4]) (rest := []) C (sX11_appends  qr5) cs_X11_201 (by decide) hC rfl rfl rfl (Nat.le_of_ble_eq_true rfl) ⟨Nat.le_refl _, Nat.le_refl _⟩ dX11_word_19 (fun hC => ?_)
  refine v_iload C 5 dX11_word_22 rfl ?_
  obtain ⟨r6, qr6, hf⟩ := bn hf
  refine v_callSl (As := [.long r5, .int l5]) (rest := []) C (sX11_appends  qr6) cs_X11_201 (by decide) hC rfl rfl rfl (Nat.le_of_ble_eq_true rfl) ⟨Nat.le_refl _, Nat.le_refl _⟩ dX11_word_24 (fun hC => ?_)
  refine v_iload C 6 dX11_word_27 rfl ?_
  obtain ⟨r7, qr7, hf⟩ := bn hf
  refine v_callSl (As := [.long r6, .int l6]) (rest := []) C (sX11_appends  qr7) cs_X11_201 (by decide) hC rfl rfl rfl (Nat.le_of_ble_eq_true rfl) ⟨Nat.le_refl _, Nat.le_refl _⟩ dX11_word_29 (fun hC => ?_)
  cases hf
  exact kr _ _ dX11_word_32 hC
theorem sX11_word {l : Launch} {sh : Sh} {G : Hp} {l0 : Int32} {l1 : Int32} {l2 : Int32} {l3 : Int32} {l4 : Int32} {l5 : Int32} {l6 : Int32} {z : Int64} (hf : fX11_word l0 l1 l2 l3 l4 l5 l6 = some z) : MC l yX11_word cX11_word 7 (some .long) 2 0 0 sh sh G G (fun ad => [.int l0, .int l1, .int l2, .int l3, .int l4, .int l5, .int l6]) (fun _ => some (.long z)) := by
  refine MC_of rfl rfl (fun _ => Nat.le_of_ble_eq_true rfl) (fun E ad C hl hnm hC hQ => ?_)
  exact tX11_word C hC hf (fun pc lv hd hC => v_lret C hQ (fun _ _ => rfl) hC rfl hd)
def fX11_year_S33 (sh : Sh) (l0 : Nat) (l1 : Int32) (l2 : Int32) (l3 : Int32) (G : Hp) (l4 : Int32) (l5 : Int32) : Option ((Hp × Int32 × Int32) ⊕ ((Hp × Int32))) := if l3 ≤ l5 then some (.inr (G, l4)) else (fX11_copies sh G l0).bind fun G3 => bd (sI G3 l0 60 ((G3.1 l0 60) + l5)) fun G4 => (fX11_goes sh G4 l0 l2).bind fun G6 => (ldA sh G6 l0 59 1).bind fun a7 => (aI sh G6 a7 ((4 : Int32) + l1)).bind fun v8 => if v8 = 1 then bd ((l4 + 1) : Int32) fun x11 => bd ((l5 + 1) : Int32) fun x12 => some (.inl (G6, x11, x12)) else bd ((l5 + 1) : Int32) fun x10 => some (.inl (G6, l4, x10))
set_option maxHeartbeats 4000000 in
theorem tX11_year_S33 {E : EX} {ad : Nat → Nat} {sh : Sh} {G : Hp} {l0 : Nat} {l1 : Int32} {l2 : Int32} {l3 : Int32} {l4 : Int32} {l5 : Int32} {o : (Hp × Int32 × Int32) ⊕ ((Hp × Int32))} (C : Cx E RX11 cX11_year 6 (some .int) 6 0 0) (hC : Cl sh G) (h_l0 : sh[l0]? = some (0, 11)) (hf : fX11_year_S33 sh l0 l1 l2 l3 G l4 l5 = some o) (kb : ∀ (G2 : Hp) (b_l4 : Int32) (b_l5 : Int32), o = .inl (G2, b_l4, b_l5) → Cl sh G2 → VV E 0 0 (wq (xT E) ad G2 sh) 33 [(0, .ref (ad l0)), (1, .int l1), (2, .int l2), (3, .int l3), (4, .int b_l4), (5, .int b_l5)] []) (kx80 : ∀ (G2 : Hp) (b_l4 : Int32), o = .inr (G2, b_l4) → Cl sh G2 → VV E 0 0 (wq (xT E) ad G2 sh) 80 [(0, .ref (ad l0)), (1, .int l1), (2, .int l2), (3, .int l3), (4, .int b_l4)] []) : VV E 0 0 (wq (xT E) ad G sh) 33 [(0, .ref (ad l0)), (1, .int l1), (2, .int l2), (3, .int l3), (4, .int l4), (5, .int l5)] [] := by
  unfold fX11_year_S33 at hf
  refine v_iload C 5 dX11_year_33 rfl ?_
  refine v_iload_n C 3 dX11_year_35 rfl rfl ?_
  refine v_icmp_ge (tgt := 80) C dX11_year_36 (by decide) (fun c1 => ?_) (fun c1 => ?_)
  · have hf := ip hf c1
    cases hf
    refine v_sub [0, 1, 2, 3, 4] rfl ?_
    exact kx80 _ _ rfl hC
  · have hf := im hf c1
    refine v_aload_n C 0 dX11_year_39 rfl rfl ?_
    obtain ⟨G3, qr2, hf⟩ := bn hf
    refine v_callVv (As := []) (rest := []) C (sX11_copies h_l0 qr2) cs_X11_434 (by decide) h_l0 rfl hC rfl rfl rfl (Nat.le_of_ble_eq_true rfl) ⟨Nat.le_refl _, Nat.le_refl _⟩ dX11_year_40 (fun hC => ?_)
    refine v_aload_n C 0 dX11_year_43 rfl rfl ?_
    refine v_dup C dX11_year_44 rfl ?_
    refine v_getI C h_l0 fl_X11_374 dX11_year_45 ?_
    refine v_iload C 5 dX11_year_48 rfl ?_
    refine v_iadd C dX11_year_50 ?_
    refine v_putI C h_l0 fp_X11_374 dX11_year_51 (fun G4 eG4 => ?_)
    have hf := bd_at hf eG4
    have hC : Cl sh G4 := by rw [eG4]; exact hC
    refine v_aload_n C 0 dX11_year_54 rfl rfl ?_
    refine v_iload_n C 2 dX11_year_55 rfl rfl ?_
    obtain ⟨G6, qr5, hf⟩ := bn hf
    refine v_callVv (As := [.int l2]) (rest := []) C (sX11_goes h_l0 qr5) cs_X11_461 (by decide) h_l0 rfl hC rfl rfl rfl (Nat.le_of_ble_eq_true rfl) ⟨Nat.le_refl _, Nat.le_refl _⟩ dX11_year_56 (fun hC => ?_)
    refine v_aload_n C 0 dX11_year_59 rfl rfl ?_
    obtain ⟨a7, qa7, hf⟩ := bn hf
    refine v_getA C h_l0 fl_X11_137 qa7 dX11_year_60 (fun h_a7 => ?_)
    refine v_iconst (v := 4) C dX11_year_63 (by decide) ?_
    refine v_iload_n C 1 dX11_year_64 rfl rfl ?_
    refine v_iadd C dX11_year_65 ?_
    obtain ⟨v8, qv8, hf⟩ := bn hf
    refine v_iald C h_a7 qv8 dX11_year_66 ?_
    refine v_iconst (v := 1) C dX11_year_67 (by decide) ?_
    refine v_icmp_ne (tgt := 74) C dX11_year_68 (by decide) (fun c9 => ?_) (fun c9 => ?_)
    · have hf := im hf c9
      obtain ⟨x10, ex10⟩ : ∃ x : Int32, x = (l5 + 1) := ⟨_, rfl⟩
      have hf := bd_at hf ex10
      refine v_iinc (v := x10) (j := 5) (lv2 := [(5, .int x10), (0, .ref (ad l0)), (1, .int l1), (2, .int l2), (3, .int l3), (4, .int l4)]) C dX11_year_74 rfl (by rw [ex10]; rfl) (by decide) rfl ?_
      refine v_goto (tgt := 33) C dX11_year_77 (by decide) ?_
      cases hf
      refine v_sub [1, 2, 3, 4, 5, 0] rfl ?_
      exact kb _ _ _ rfl hC
    · have hf := ip hf c9
      obtain ⟨x11, ex11⟩ : ∃ x : Int32, x = (l4 + 1) := ⟨_, rfl⟩
      have hf := bd_at hf ex11
      refine v_iinc (v := x11) (j := 4) (lv2 := [(4, .int x11), (0, .ref (ad l0)), (1, .int l1), (2, .int l2), (3, .int l3), (5, .int l5)]) C dX11_year_71 rfl (by rw [ex11]; rfl) (by decide) rfl ?_
      obtain ⟨x12, ex12⟩ : ∃ x : Int32, x = (l5 + 1) := ⟨_, rfl⟩
      have hf := bd_at hf ex12
      refine v_iinc (v := x12) (j := 5) (lv2 := [(5, .int x12), (4, .int x11), (0, .ref (ad l0)), (1, .int l1), (2, .int l2), (3, .int l3)]) C dX11_year_74 rfl (by rw [ex12]; rfl) (by decide) rfl ?_
      refine v_goto (tgt := 33) C dX11_year_77 (by decide) ?_
      cases hf
      refine v_sub [2, 3, 4, 5, 1, 0] rfl ?_
      exact kb _ _ _ rfl hC
def fX11_year (sh : Sh) (G : Hp) (l0 : Nat) (l1 : Int32) (l2 : Int32) (l3 : Int32) : Option (Int32 × Hp) := (fX11_isBridge sh G l0 l1).bind fun r1 => if r1 = 0 then some ((-1), G) else (fX11_isLong l2).bind fun r3 => if r3 = 0 then some ((-1), G) else (fX11_in l3 1 20).bind fun r5 => if r5 = 0 then some ((-1), G) else (iter (fun s : Hp × Int32 × Int32 => fX11_year_S33 sh l0 l1 l2 l3 s.1 s.2.1 s.2.2) fuel ((G, 0, 0) : Hp × Int32 × Int32)).bind (fun u10 => bd u10.1 fun G8 => bd u10.2 fun x9 => some (x9, G8))
set_option maxHeartbeats 4000000 in
theorem tX11_year {E : EX} {ad : Nat → Nat} {sh : Sh} {G : Hp} {l0 : Nat} {l1 : Int32} {l2 : Int32} {l3 : Int32} {z : Int32 × Hp} (C : Cx E RX11 cX11_year 6 (some .int) 6 0 0) (hC : Cl sh G) (h_l0 : sh[l0]? = some (0, 11)) (hf : fX11_year sh G l0 l1 l2 l3 = some z) (kr : RCi E cX11_year ad sh (z.1) (z.2)) : VV E 0 0 (wq (xT E) ad G sh) 0 [(0, .ref (ad l0)), (1, .int l1), (2, .int l2), (3, .int l3)] [] := by
  unfold fX11_year at hf
  refine v_aload_n C 0 dX11_year_0 rfl rfl ?_
  refine v_iload_n C 1 dX11_year_1 rfl rfl ?_
  obtain ⟨r1, qr1, hf⟩ := bn hf
  refine v_callVi (As := [.int l1]) (rest := []) C (sX11_isBridge h_l0 qr1) cs_X11_431 (by decide) h_l0 rfl hC rfl rfl rfl (Nat.le_of_ble_eq_true rfl) ⟨Nat.le_refl _, Nat.le_refl _⟩ dX11_year_2 (fun hC => ?_)
  refine v_if_eq (tgt := 25) C dX11_year_5 (by decide) (fun c2 => ?_) (fun c2 => ?_)
  · have hf := ip hf c2
    refine v_iconst (v := (-1)) C dX11_year_25 (by decide) ?_
    cases hf
    exact kr _ _ dX11_year_26 hC
  · have hf := im hf c2
    refine v_iload_n C 2 dX11_year_8 rfl rfl ?_
    obtain ⟨r3, qr3, hf⟩ := bn hf
    refine v_callSi (As := [.int l2]) (rest := []) C (sX11_isLong  qr3) cs_X11_509 (by decide) hC rfl rfl rfl (Nat.le_of_ble_eq_true rfl) ⟨Nat.le_refl _, Nat.le_refl _⟩ dX11_year_9 (fun hC => ?_)
    refine v_if_eq (tgt := 25) C dX11_year_12 (by decide) (fun c4 => ?_) (fun c4 => ?_)
    · have hf := ip hf c4
      refine v_iconst (v := (-1)) C dX11_year_25 (by decide) ?_
      cases hf
      exact kr _ _ dX11_year_26 hC
    · have hf := im hf c4
      refine v_iload_n C 3 dX11_year_15 rfl rfl ?_
      refine v_iconst (v := 1) C dX11_year_16 (by decide) ?_
      refine v_bipush (v := 20) C dX11_year_17 (by decide) ?_
      obtain ⟨r5, qr5, hf⟩ := bn hf
      refine v_callSi (As := [.int l3, .int 1, .int 20]) (rest := []) C (sX11_in  qr5) cs_X11_370 (by decide) hC rfl rfl rfl (Nat.le_of_ble_eq_true rfl) ⟨Nat.le_refl _, Nat.le_refl _⟩ dX11_year_19 (fun hC => ?_)
      refine v_if_ne (tgt := 27) C dX11_year_22 (by decide) (fun c6 => ?_) (fun c6 => ?_)
      · have hf := im hf c6
        refine v_iconst (v := 0) C dX11_year_27 (by decide) ?_
        refine v_istore (lv2 := [(4, .int 0), (0, .ref (ad l0)), (1, .int l1), (2, .int l2), (3, .int l3)]) C dX11_year_28 (by decide) rfl ?_
        refine v_iconst (v := 0) C dX11_year_30 (by decide) ?_
        refine v_istore (lv2 := [(5, .int 0), (4, .int 0), (0, .ref (ad l0)), (1, .int l1), (2, .int l2), (3, .int l3)]) C dX11_year_31 (by decide) rfl ?_
        obtain ⟨r7, qr7, hf⟩ := bn hf
        refine v_sub [2, 3, 4, 5, 1, 0] rfl ?_
        refine iter_sound (P := (fun s : Hp × Int32 × Int32 => Cl sh (s.1) → VV E 0 0 (wq (xT E) ad (s.1) sh) 33 [(0, .ref (ad l0)), (1, .int (l1)), (2, .int (l2)), (3, .int (l3)), (4, .int (s.2.1)), (5, .int (s.2.2))] [])) (X := fun r => r = r7) (fun jsr7 jor7 hor7 jbr7 jxr7 hC => tX11_year_S33 C hC h_l0 hor7 (fun _ _ _ e => jbr7 _ e) ?_) fuel _ r7 qr7 rfl hC
        · intro G8 x9 hu hC
          have e := jxr7 _ hu
          subst e
          have hf := bd_at hf (rfl : G8 = _)
          have hf := bd_at hf (rfl : x9 = _)
          refine v_iload C 4 dX11_year_80 rfl ?_
          cases hf
          exact kr _ _ dX11_year_82 hC
      · have hf := ip hf c6
        refine v_iconst (v := (-1)) C dX11_year_25 (by decide) ?_
        cases hf
        exact kr _ _ dX11_year_26 hC
theorem sX11_year {l : Launch} {sh : Sh} {G : Hp} {l0 : Nat} {l1 : Int32} {l2 : Int32} {l3 : Int32} {z : Int32 × Hp} (h_l0 : sh[l0]? = some (0, 11)) (hf : fX11_year sh G l0 l1 l2 l3 = some z) : MC l yX11_year cX11_year 6 (some .int) 6 0 0 sh sh G (z.2) (fun ad => [.ref (ad l0), .int l1, .int l2, .int l3]) (fun _ => some (.int z.1)) := by
  refine MC_of rfl rfl (fun _ => Nat.le_of_ble_eq_true rfl) (fun E ad C hl hnm hC hQ => ?_)
  exact tX11_year C hC h_l0 hf (fun pc lv hd hC => v_iret C hQ (fun _ _ => rfl) hC rfl hd)
def fX11_years (sh : Sh) (G : Hp) (l0 : Nat) (l1 : Int32) : Option (Int32 × Hp) := (fX11_in l1 0 60).bind fun r1 => if r1 = 0 then some ((-1), G) else if l1 = 0 then (ldA sh G l0 58 1).bind fun a12 => (aI sh G a12 23).bind fun v13 => some (v13, G) else (fX11_copies sh G l0).bind fun G5 => (fX11_goes sh G5 l0 l1).bind fun G7 => (fX11_records sh G7 l0).bind fun G9 => (ldA sh G9 l0 58 1).bind fun a10 => (aI sh G9 a10 23).bind fun v11 => some (v11, G9)
set_option maxHeartbeats 4000000 in
theorem tX11_years {E : EX} {ad : Nat → Nat} {sh : Sh} {G : Hp} {l0 : Nat} {l1 : Int32} {z : Int32 × Hp} (C : Cx E RX11 cX11_years 2 (some .int) 6 0 0) (hC : Cl sh G) (h_l0 : sh[l0]? = some (0, 11)) (hf : fX11_years sh G l0 l1 = some z) (kr : RCi E cX11_years ad sh (z.1) (z.2)) : VV E 0 0 (wq (xT E) ad G sh) 0 [(0, .ref (ad l0)), (1, .int l1)] [] := by
  unfold fX11_years at hf
  refine v_iload_n C 1 dX11_years_0 rfl rfl ?_
  refine v_iconst (v := 0) C dX11_years_1 (by decide) ?_
  refine v_bipush (v := 60) C dX11_years_2 (by decide) ?_
  obtain ⟨r1, qr1, hf⟩ := bn hf
  refine v_callSi (As := [.int l1, .int 0, .int 60]) (rest := []) C (sX11_in  qr1) cs_X11_370 (by decide) hC rfl rfl rfl (Nat.le_of_ble_eq_true rfl) ⟨Nat.le_refl _, Nat.le_refl _⟩ dX11_years_4 (fun hC => ?_)
  refine v_if_ne (tgt := 12) C dX11_years_7 (by decide) (fun c2 => ?_) (fun c2 => ?_)
  · have hf := im hf c2
    refine v_iload_n C 1 dX11_years_12 rfl rfl ?_
    refine v_if_ne (tgt := 24) C dX11_years_13 (by decide) (fun c3 => ?_) (fun c3 => ?_)
    · have hf := im hf c3
      refine v_aload_n C 0 dX11_years_24 rfl rfl ?_
      obtain ⟨G5, qr4, hf⟩ := bn hf
      refine v_callVv (As := []) (rest := []) C (sX11_copies h_l0 qr4) cs_X11_434 (by decide) h_l0 rfl hC rfl rfl rfl (Nat.le_of_ble_eq_true rfl) ⟨Nat.le_refl _, Nat.le_refl _⟩ dX11_years_25 (fun hC => ?_)
      refine v_aload_n C 0 dX11_years_28 rfl rfl ?_
      refine v_iload_n C 1 dX11_years_29 rfl rfl ?_
      obtain ⟨G7, qr6, hf⟩ := bn hf
      refine v_callVv (As := [.int l1]) (rest := []) C (sX11_goes h_l0 qr6) cs_X11_461 (by decide) h_l0 rfl hC rfl rfl rfl (Nat.le_of_ble_eq_true rfl) ⟨Nat.le_refl _, Nat.le_refl _⟩ dX11_years_30 (fun hC => ?_)
      refine v_aload_n C 0 dX11_years_33 rfl rfl ?_
      obtain ⟨G9, qr8, hf⟩ := bn hf
      refine v_callVv (As := []) (rest := []) C (sX11_records h_l0 qr8) cs_X11_458 (by decide) h_l0 rfl hC rfl rfl rfl (Nat.le_of_ble_eq_true rfl) ⟨Nat.le_refl _, Nat.le_refl _⟩ dX11_years_34 (fun hC => ?_)
      refine v_aload_n C 0 dX11_years_37 rfl rfl ?_
      obtain ⟨a10, qa10, hf⟩ := bn hf
      refine v_getA C h_l0 fl_X11_134 qa10 dX11_years_38 (fun h_a10 => ?_)
      refine v_bipush (v := 23) C dX11_years_41 (by decide) ?_
      obtain ⟨v11, qv11, hf⟩ := bn hf
      refine v_iald C h_a10 qv11 dX11_years_43 ?_
      cases hf
      exact kr _ _ dX11_years_44 hC
    · have hf := ip hf c3
      refine v_aload_n C 0 dX11_years_16 rfl rfl ?_
      obtain ⟨a12, qa12, hf⟩ := bn hf
      refine v_getA C h_l0 fl_X11_134 qa12 dX11_years_17 (fun h_a12 => ?_)
      refine v_bipush (v := 23) C dX11_years_20 (by decide) ?_
      obtain ⟨v13, qv13, hf⟩ := bn hf
      refine v_iald C h_a12 qv13 dX11_years_22 ?_
      cases hf
      exact kr _ _ dX11_years_23 hC
  · have hf := ip hf c2
    refine v_iconst (v := (-1)) C dX11_years_10 (by decide) ?_
    cases hf
    exact kr _ _ dX11_years_11 hC
theorem sX11_years {l : Launch} {sh : Sh} {G : Hp} {l0 : Nat} {l1 : Int32} {z : Int32 × Hp} (h_l0 : sh[l0]? = some (0, 11)) (hf : fX11_years sh G l0 l1 = some z) : MC l yX11_years cX11_years 2 (some .int) 6 0 0 sh sh G (z.2) (fun ad => [.ref (ad l0), .int l1]) (fun _ => some (.int z.1)) := by
  refine MC_of rfl rfl (fun _ => Nat.le_of_ble_eq_true rfl) (fun E ad C hl hnm hC hQ => ?_)
  exact tX11_years C hC h_l0 hf (fun pc lv hd hC => v_iret C hQ (fun _ _ => rfl) hC rfl hd)
