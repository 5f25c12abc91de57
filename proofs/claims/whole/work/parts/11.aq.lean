def fX11_term_J24 (sh : Sh) (G : Hp) (l0 : Nat) : Option (Hp) := (ldA sh G l0 47 1).bind fun a1 => (asI sh G a1 (G.1 l0 42) (G.1 l0 48)).bind fun G2 => bd (sI G2 l0 42 ((G2.1 l0 42) + 1)) fun G3 => some G3
set_option maxHeartbeats 4000000 in
theorem tX11_term_J24 {E : EX} {ad : Nat → Nat} {sh : Sh} {G : Hp} {l0 : Nat} {z : Hp} (C : Cx E RX11 cX11_term 1 none 5 0 0) (hC : Cl sh G) (h_l0 : sh[l0]? = some (0, 11)) (hf : fX11_term_J24 sh G l0 = some z) (kr : RCv E cX11_term ad sh z) : VV E 0 0 (wq (xT E) ad G sh) 24 [(0, .ref (ad l0))] [] := by
  unfold fX11_term_J24 at hf
  refine v_aload_n C 0 dX11_term_24 rfl rfl ?_
  obtain ⟨a1, qa1, hf⟩ := bn hf
  refine v_getA C h_l0 fl_X11_113 qa1 dX11_term_25 (fun h_a1 => ?_)
  refine v_aload_n C 0 dX11_term_28 rfl rfl ?_
  refine v_getI C h_l0 fl_X11_266 dX11_term_29 ?_
  refine v_aload_n C 0 dX11_term_32 rfl rfl ?_
  refine v_getI C h_l0 fl_X11_269 dX11_term_33 ?_
  obtain ⟨G2, qG2, hf⟩ := bn hf
  refine v_iast C h_a1 qG2 hC dX11_term_36 (fun hC => ?_)
  refine v_aload_n C 0 dX11_term_37 rfl rfl ?_
  refine v_dup C dX11_term_38 rfl ?_
  refine v_getI C h_l0 fl_X11_266 dX11_term_39 ?_
  refine v_iconst (v := 1) C dX11_term_42 (by decide) ?_
  refine v_iadd C dX11_term_43 ?_
  refine v_putI C h_l0 fp_X11_266 dX11_term_44 (fun G3 eG3 => ?_)
  have hf := bd_at hf eG3
  have hC : Cl sh G3 := by rw [eG3]; exact hC
  cases hf
  exact kr _ _ dX11_term_47 hC
def fX11_term (sh : Sh) (G : Hp) (l0 : Nat) : Option (Hp) := (ldA sh G l0 46 1).bind fun a1 => (asI sh G a1 (G.1 l0 42) (G.1 l0 48)).bind fun G2 => if (G2.1 l0 13) = 0 then (fX11_expression sh G2 l0).bind fun G5 => fX11_term_J24 sh G5 l0 else fX11_term_J24 sh G2 l0
set_option maxHeartbeats 4000000 in
theorem tX11_term {E : EX} {ad : Nat → Nat} {sh : Sh} {G : Hp} {l0 : Nat} {z : Hp} (C : Cx E RX11 cX11_term 1 none 5 0 0) (hC : Cl sh G) (h_l0 : sh[l0]? = some (0, 11)) (hf : fX11_term sh G l0 = some z) (kr : RCv E cX11_term ad sh z) : VV E 0 0 (wq (xT E) ad G sh) 0 [(0, .ref (ad l0))] [] := by
  unfold fX11_term at hf
  refine v_aload_n C 0 dX11_term_0 rfl rfl ?_
  obtain ⟨a1, qa1, hf⟩ := bn hf
  refine v_getA C h_l0 fl_X11_110 qa1 dX11_term_1 (fun h_a1 => ?_)
  refine v_aload_n C 0 dX11_term_4 rfl rfl ?_
  refine v_getI C h_l0 fl_X11_266 dX11_term_5 ?_
  refine v_aload_n C 0 dX11_term_8 rfl rfl ?_
  refine v_getI C h_l0 fl_X11_269 dX11_term_9 ?_
  obtain ⟨G2, qG2, hf⟩ := bn hf
  refine v_iast C h_a1 qG2 hC dX11_term_12 (fun hC => ?_)
  refine v_aload_n C 0 dX11_term_13 rfl rfl ?_
  refine v_getI C h_l0 fl_X11_227 dX11_term_14 ?_
  refine v_if_ne (tgt := 24) C dX11_term_17 (by decide) (fun c3 => ?_) (fun c3 => ?_)
  · have hf := im hf c3
    refine v_sub [0] rfl ?_
    exact tX11_term_J24 C hC h_l0 hf kr
  · have hf := ip hf c3
    refine v_aload_n C 0 dX11_term_20 rfl rfl ?_
    obtain ⟨G5, qr4, hf⟩ := bn hf
    refine v_callVv (As := []) (rest := []) C (sX11_expression h_l0 qr4) cs_X11_347 (by decide) h_l0 rfl hC rfl rfl rfl (Nat.le_of_ble_eq_true rfl) ⟨Nat.le_refl _, Nat.le_refl _⟩ dX11_term_21 (fun hC => ?_)
    refine v_sub [0] rfl ?_
    exact tX11_term_J24 C hC h_l0 hf kr
theorem sX11_term {l : Launch} {sh : Sh} {G : Hp} {l0 : Nat} {z : Hp} (h_l0 : sh[l0]? = some (0, 11)) (hf : fX11_term sh G l0 = some z) : MC l yX11_term cX11_term 1 none 5 0 0 sh sh G z (fun ad => [.ref (ad l0)]) (fun _ => none) := by
  refine MC_of rfl rfl (fun _ => Nat.le_of_ble_eq_true rfl) (fun E ad C hl hnm hC hQ => ?_)
  exact tX11_term C hC h_l0 hf (fun pc lv hd hC => v_vret C hQ (fun _ _ => rfl) hC rfl hd)
def fX11_tellLaw_J38L12 (sh : Sh) (G : Hp) (l0 : Nat) (l1 : Int32) (l2 : Int32) (l3 : Int32) : Option ((Hp × Int32) ⊕ ((Hp) ⊕ (Hp))) := if (G.1 l0 13) ≤ 0 then bd ((l3 + 1) : Int32) fun x2 => (fX11_goesOn sh G l0).bind fun G4 => (ldA sh G4 l0 43 3).bind fun a5 => (asI sh G4 a5 (G4.1 l0 42) (zb 1)).bind fun G6 => (ldA sh G6 l0 44 1).bind fun a7 => (asI sh G6 a7 (G6.1 l0 42) (G6.1 l0 48)).bind fun G8 => (fX11_expression sh G8 l0).bind fun G10 => (fX11_must sh G10 l0 13).bind fun G12 => (ldA sh G12 l0 45 1).bind fun a13 => (asI sh G12 a13 (G12.1 l0 42) (G12.1 l0 48)).bind fun G14 => if (G14.1 l0 13) = 0 then (fX11_expression sh G14 l0).bind fun G23 => (fX11_must sh G23 l0 35).bind fun G25 => (fX11_term sh G25 l0).bind fun G27 => (fX11_must sh G27 l0 36).bind fun G29 => some (.inl (G29, x2)) else (fX11_must sh G14 l0 35).bind fun G17 => (fX11_term sh G17 l0).bind fun G19 => (fX11_must sh G19 l0 36).bind fun G21 => some (.inl (G21, x2)) else some (.inr (.inr G))
set_option maxHeartbeats 4000000 in
theorem tX11_tellLaw_J38L12 {E : EX} {ad : Nat → Nat} {sh : Sh} {G : Hp} {l0 : Nat} {l1 : Int32} {l2 : Int32} {l3 : Int32} {o : (Hp × Int32) ⊕ ((Hp) ⊕ (Hp))} (C : Cx E RX11 cX11_tellLaw 4 none 6 0 0) (hC : Cl sh G) (h_l0 : sh[l0]? = some (0, 11)) (hf : fX11_tellLaw_J38L12 sh G l0 l1 l2 l3 = some o) (kb : ∀ (G2 : Hp) (b_l3 : Int32), o = .inl (G2, b_l3) → Cl sh G2 → VV E 0 0 (wq (xT E) ad G2 sh) 12 [(0, .ref (ad l0)), (1, .int l1), (2, .int l2), (3, .int b_l3)] []) (kx129 : ∀ (G2 : Hp), o = .inr (.inl G2) → Cl sh G2 → VV E 0 0 (wq (xT E) ad G2 sh) 129 [(0, .ref (ad l0)), (1, .int l1), (2, .int l2)] []) (kx45 : ∀ (G2 : Hp), o = .inr (.inr G2) → Cl sh G2 → VV E 0 0 (wq (xT E) ad G2 sh) 45 [(0, .ref (ad l0)), (1, .int l1), (2, .int l2)] []) : VV E 0 0 (wq (xT E) ad G sh) 38 [(0, .ref (ad l0)), (1, .int l1), (2, .int l2), (3, .int l3)] [] := by
  unfold fX11_tellLaw_J38L12 at hf
  refine v_aload_n C 0 dX11_tellLaw_38 rfl rfl ?_
  refine v_getI C h_l0 fl_X11_227 dX11_tellLaw_39 ?_
  refine v_if_le (tgt := 46) C dX11_tellLaw_42 (by decide) (fun c1 => ?_) (fun c1 => ?_)
  · have hf := ip hf c1
    obtain ⟨x2, ex2⟩ : ∃ x : Int32, x = (l3 + 1) := ⟨_, rfl⟩
    have hf := bd_at hf ex2
    refine v_iinc (v := x2) (j := 3) (lv2 := [(3, .int x2), (0, .ref (ad l0)), (1, .int l1), (2, .int l2)]) C dX11_tellLaw_46 rfl (by rw [ex2]; rfl) (by decide) rfl ?_
    refine v_aload_n C 1 dX11_tellLaw_49 rfl rfl ?_
    obtain ⟨G4, qr3, hf⟩ := bn hf
    refine v_callVv (As := []) (rest := []) C (sX11_goesOn h_l0 qr3) cs_X11_248 (by decide) h_l0 rfl hC rfl rfl rfl (Nat.le_of_ble_eq_true rfl) ⟨Nat.le_refl _, Nat.le_refl _⟩ dX11_tellLaw_50 (fun hC => ?_)
    refine v_aload_n C 1 dX11_tellLaw_53 rfl rfl ?_
    obtain ⟨a5, qa5, hf⟩ := bn hf
    refine v_getA C h_l0 fl_X11_100 qa5 dX11_tellLaw_54 (fun h_a5 => ?_)
    refine v_aload_n C 1 dX11_tellLaw_57 rfl rfl ?_
    refine v_getI C h_l0 fl_X11_266 dX11_tellLaw_58 ?_
    refine v_iconst (v := 1) C dX11_tellLaw_61 (by decide) ?_
    obtain ⟨G6, qG6, hf⟩ := bn hf
    refine v_zast C h_a5 qG6 hC dX11_tellLaw_62 (fun hC => ?_)
    refine v_aload_n C 1 dX11_tellLaw_63 rfl rfl ?_
    obtain ⟨a7, qa7, hf⟩ := bn hf
    refine v_getA C h_l0 fl_X11_104 qa7 dX11_tellLaw_64 (fun h_a7 => ?_)
    refine v_aload_n C 1 dX11_tellLaw_67 rfl rfl ?_
    refine v_getI C h_l0 fl_X11_266 dX11_tellLaw_68 ?_
    refine v_aload_n C 1 dX11_tellLaw_71 rfl rfl ?_
    refine v_getI C h_l0 fl_X11_269 dX11_tellLaw_72 ?_
    obtain ⟨G8, qG8, hf⟩ := bn hf
    refine v_iast C h_a7 qG8 hC dX11_tellLaw_75 (fun hC => ?_)
    refine v_aload_n C 1 dX11_tellLaw_76 rfl rfl ?_
    obtain ⟨G10, qr9, hf⟩ := bn hf
    refine v_callVv (As := []) (rest := []) C (sX11_expression h_l0 qr9) cs_X11_347 (by decide) h_l0 rfl hC rfl rfl rfl (Nat.le_of_ble_eq_true rfl) ⟨Nat.le_refl _, Nat.le_refl _⟩ dX11_tellLaw_77 (fun hC => ?_)
    refine v_aload_n C 1 dX11_tellLaw_80 rfl rfl ?_
    refine v_bipush (v := 13) C dX11_tellLaw_81 (by decide) ?_
    obtain ⟨G12, qr11, hf⟩ := bn hf
    refine v_callVv (As := [.int 13]) (rest := []) C (sX11_must h_l0 qr11) cs_X11_308 (by decide) h_l0 rfl hC rfl rfl rfl (Nat.le_of_ble_eq_true rfl) ⟨Nat.le_refl _, Nat.le_refl _⟩ dX11_tellLaw_83 (fun hC => ?_)
    refine v_aload_n C 1 dX11_tellLaw_86 rfl rfl ?_
    obtain ⟨a13, qa13, hf⟩ := bn hf
    refine v_getA C h_l0 fl_X11_107 qa13 dX11_tellLaw_87 (fun h_a13 => ?_)
    refine v_aload_n C 1 dX11_tellLaw_90 rfl rfl ?_
    refine v_getI C h_l0 fl_X11_266 dX11_tellLaw_91 ?_
    refine v_aload_n C 1 dX11_tellLaw_94 rfl rfl ?_
    refine v_getI C h_l0 fl_X11_269 dX11_tellLaw_95 ?_
    obtain ⟨G14, qG14, hf⟩ := bn hf
    refine v_iast C h_a13 qG14 hC dX11_tellLaw_98 (fun hC => ?_)
    refine v_aload_n C 1 dX11_tellLaw_99 rfl rfl ?_
    refine v_getI C h_l0 fl_X11_227 dX11_tellLaw_100 ?_
    refine v_if_ne (tgt := 110) C dX11_tellLaw_103 (by decide) (fun c15 => ?_) (fun c15 => ?_)
    · have hf := im hf c15
      refine v_aload_n C 1 dX11_tellLaw_110 rfl rfl ?_
      refine v_bipush (v := 35) C dX11_tellLaw_111 (by decide) ?_
      obtain ⟨G17, qr16, hf⟩ := bn hf
      refine v_callVv (As := [.int 35]) (rest := []) C (sX11_must h_l0 qr16) cs_X11_308 (by decide) h_l0 rfl hC rfl rfl rfl (Nat.le_of_ble_eq_true rfl) ⟨Nat.le_refl _, Nat.le_refl _⟩ dX11_tellLaw_113 (fun hC => ?_)
      refine v_aload_n C 1 dX11_tellLaw_116 rfl rfl ?_
      obtain ⟨G19, qr18, hf⟩ := bn hf
      refine v_callVv (As := []) (rest := []) C (sX11_term h_l0 qr18) cs_X11_350 (by decide) h_l0 rfl hC rfl rfl rfl (Nat.le_of_ble_eq_true rfl) ⟨Nat.le_refl _, Nat.le_refl _⟩ dX11_tellLaw_117 (fun hC => ?_)
      refine v_aload_n C 1 dX11_tellLaw_120 rfl rfl ?_
      refine v_bipush (v := 36) C dX11_tellLaw_121 (by decide) ?_
      obtain ⟨G21, qr20, hf⟩ := bn hf
      refine v_callVv (As := [.int 36]) (rest := []) C (sX11_must h_l0 qr20) cs_X11_308 (by decide) h_l0 rfl hC rfl rfl rfl (Nat.le_of_ble_eq_true rfl) ⟨Nat.le_refl _, Nat.le_refl _⟩ dX11_tellLaw_123 (fun hC => ?_)
      refine v_goto (tgt := 12) C dX11_tellLaw_126 (by decide) ?_
      cases hf
      refine v_sub [1, 2, 3, 0] rfl ?_
      exact kb _ _ rfl hC
    · have hf := ip hf c15
      refine v_aload_n C 1 dX11_tellLaw_106 rfl rfl ?_
      obtain ⟨G23, qr22, hf⟩ := bn hf
      refine v_callVv (As := []) (rest := []) C (sX11_expression h_l0 qr22) cs_X11_347 (by decide) h_l0 rfl hC rfl rfl rfl (Nat.le_of_ble_eq_true rfl) ⟨Nat.le_refl _, Nat.le_refl _⟩ dX11_tellLaw_107 (fun hC => ?_)
      refine v_aload_n C 1 dX11_tellLaw_110 rfl rfl ?_
      refine v_bipush (v := 35) C dX11_tellLaw_111 (by decide) ?_
      obtain ⟨G25, qr24, hf⟩ := bn hf
      refine v_callVv (As := [.int 35]) (rest := []) C (sX11_must h_l0 qr24) cs_X11_308 (by decide) h_l0 rfl hC rfl rfl rfl (Nat.le_of_ble_eq_true rfl) ⟨Nat.le_refl _, Nat.le_refl _⟩ dX11_tellLaw_113 (fun hC => ?_)
      refine v_aload_n C 1 dX11_tellLaw_116 rfl rfl ?_
      obtain ⟨G27, qr26, hf⟩ := bn hf
      refine v_callVv (As := []) (rest := []) C (sX11_term h_l0 qr26) cs_X11_350 (by decide) h_l0 rfl hC rfl rfl rfl (Nat.le_of_ble_eq_true rfl) ⟨Nat.le_refl _, Nat.le_refl _⟩ dX11_tellLaw_117 (fun hC => ?_)
      refine v_aload_n C 1 dX11_tellLaw_120 rfl rfl ?_
      refine v_bipush (v := 36) C dX11_tellLaw_121 (by decide) ?_
      obtain ⟨G29, qr28, hf⟩ := bn hf
      refine v_callVv (As := [.int 36]) (rest := []) C (sX11_must h_l0 qr28) cs_X11_308 (by decide) h_l0 rfl hC rfl rfl rfl (Nat.le_of_ble_eq_true rfl) ⟨Nat.le_refl _, Nat.le_refl _⟩ dX11_tellLaw_123 (fun hC => ?_)
      refine v_goto (tgt := 12) C dX11_tellLaw_126 (by decide) ?_
      cases hf
      refine v_sub [1, 2, 3, 0] rfl ?_
      exact kb _ _ rfl hC
  · have hf := im hf c1
    cases hf
    refine v_sub [0, 1, 2] rfl ?_
    exact kx45 _ rfl hC
def fX11_tellLaw_S12 (sh : Sh) (l0 : Nat) (l1 : Int32) (l2 : Int32) (G : Hp) (l3 : Int32) : Option ((Hp × Int32) ⊕ ((Hp) ⊕ (Hp))) := if (G.1 l0 13) = 0 then (fX11_is sh G l0 34).bind fun r2 => if r2 = 0 then some (.inr (.inl G)) else if l3 = 4 then (fX11_fail sh G l0 2).bind fun G6 => fX11_tellLaw_J38L12 sh G6 l0 l1 l2 l3 else fX11_tellLaw_J38L12 sh G l0 l1 l2 l3 else some (.inr (.inl G))
set_option maxHeartbeats 4000000 in
theorem tX11_tellLaw_S12 {E : EX} {ad : Nat → Nat} {sh : Sh} {G : Hp} {l0 : Nat} {l1 : Int32} {l2 : Int32} {l3 : Int32} {o : (Hp × Int32) ⊕ ((Hp) ⊕ (Hp))} (C : Cx E RX11 cX11_tellLaw 4 none 6 0 0) (hC : Cl sh G) (h_l0 : sh[l0]? = some (0, 11)) (hf : fX11_tellLaw_S12 sh l0 l1 l2 G l3 = some o) (kb : ∀ (G2 : Hp) (b_l3 : Int32), o = .inl (G2, b_l3) → Cl sh G2 → VV E 0 0 (wq (xT E) ad G2 sh) 12 [(0, .ref (ad l0)), (1, .int l1), (2, .int l2), (3, .int b_l3)] []) (kx129 : ∀ (G2 : Hp), o = .inr (.inl G2) → Cl sh G2 → VV E 0 0 (wq (xT E) ad G2 sh) 129 [(0, .ref (ad l0)), (1, .int l1), (2, .int l2)] []) (kx45 : ∀ (G2 : Hp), o = .inr (.inr G2) → Cl sh G2 → VV E 0 0 (wq (xT E) ad G2 sh) 45 [(0, .ref (ad l0)), (1, .int l1), (2, .int l2)] []) : VV E 0 0 (wq (xT E) ad G sh) 12 [(0, .ref (ad l0)), (1, .int l1), (2, .int l2), (3, .int l3)] [] := by
  unfold fX11_tellLaw_S12 at hf
  refine v_aload_n C 0 dX11_tellLaw_12 rfl rfl ?_
  refine v_getI C h_l0 fl_X11_227 dX11_tellLaw_13 ?_
  refine v_if_ne (tgt := 129) C dX11_tellLaw_16 (by decide) (fun c1 => ?_) (fun c1 => ?_)
  · have hf := im hf c1
    cases hf
    refine v_sub [0, 1, 2] rfl ?_
    exact kx129 _ rfl hC
  · have hf := ip hf c1
    refine v_aload_n C 0 dX11_tellLaw_19 rfl rfl ?_
    refine v_bipush (v := 34) C dX11_tellLaw_20 (by decide) ?_
    obtain ⟨r2, qr2, hf⟩ := bn hf
    refine v_callVi (As := [.int 34]) (rest := []) C (sX11_is h_l0 qr2) cs_X11_245 (by decide) h_l0 rfl hC rfl rfl rfl (Nat.le_of_ble_eq_true rfl) ⟨Nat.le_refl _, Nat.le_refl _⟩ dX11_tellLaw_22 (fun hC => ?_)
    refine v_if_eq (tgt := 129) C dX11_tellLaw_25 (by decide) (fun c3 => ?_) (fun c3 => ?_)
    · have hf := ip hf c3
      cases hf
      refine v_sub [0, 1, 2] rfl ?_
      exact kx129 _ rfl hC
    · have hf := im hf c3
      refine v_iload_n C 3 dX11_tellLaw_28 rfl rfl ?_
      refine v_iconst (v := 4) C dX11_tellLaw_29 (by decide) ?_
      refine v_icmp_ne (tgt := 38) C dX11_tellLaw_30 (by decide) (fun c4 => ?_) (fun c4 => ?_)
      · have hf := im hf c4
        refine v_sub [0, 1, 2, 3] rfl ?_
        exact tX11_tellLaw_J38L12 C hC h_l0 hf kb kx129 kx45
      · have hf := ip hf c4
        refine v_aload_n C 0 dX11_tellLaw_33 rfl rfl ?_
        refine v_iconst (v := 2) C dX11_tellLaw_34 (by decide) ?_
        obtain ⟨G6, qr5, hf⟩ := bn hf
        refine v_callVv (As := [.int 2]) (rest := []) C (sX11_fail h_l0 qr5) cs_X11_242 (by decide) h_l0 rfl hC rfl rfl rfl (Nat.le_of_ble_eq_true rfl) ⟨Nat.le_refl _, Nat.le_refl _⟩ dX11_tellLaw_35 (fun hC => ?_)
        refine v_sub [0, 1, 2, 3] rfl ?_
        exact tX11_tellLaw_J38L12 C hC h_l0 hf kb kx129 kx45
def fX11_tellLaw_J129 (sh : Sh) (G : Hp) (l0 : Nat) (l1 : Int32) (l2 : Int32) : Option (Hp) := (ldA sh G l0 43 3).bind fun a1 => (asI sh G a1 (G.1 l0 42) (zb 0)).bind fun G2 => (fX11_term sh G2 l0).bind fun G4 => (fX11_must sh G4 l0 4).bind fun G6 => if (G6.1 l0 13) ≤ 0 then (ldA sh G6 l0 40 1).bind fun a8 => (asI sh G6 a8 (((3 : Int32) * (G6.1 l0 19)) + l1) l2).bind fun G9 => (ldA sh G9 l0 41 1).bind fun a10 => (asI sh G9 a10 (((3 : Int32) * (G9.1 l0 19)) + l1) (G9.1 l0 42)).bind fun G11 => some G11 else some G6
set_option maxHeartbeats 4000000 in
theorem tX11_tellLaw_J129 {E : EX} {ad : Nat → Nat} {sh : Sh} {G : Hp} {l0 : Nat} {l1 : Int32} {l2 : Int32} {z : Hp} (C : Cx E RX11 cX11_tellLaw 4 none 6 0 0) (hC : Cl sh G) (h_l0 : sh[l0]? = some (0, 11)) (hf : fX11_tellLaw_J129 sh G l0 l1 l2 = some z) (kr : RCv E cX11_tellLaw ad sh z) : VV E 0 0 (wq (xT E) ad G sh) 129 [(0, .ref (ad l0)), (1, .int l1), (2, .int l2)] [] := by
  unfold fX11_tellLaw_J129 at hf
  refine v_aload_n C 0 dX11_tellLaw_129 rfl rfl ?_
  obtain ⟨a1, qa1, hf⟩ := bn hf
  refine v_getA C h_l0 fl_X11_100 qa1 dX11_tellLaw_130 (fun h_a1 => ?_)
  refine v_aload_n C 0 dX11_tellLaw_133 rfl rfl ?_
  refine v_getI C h_l0 fl_X11_266 dX11_tellLaw_134 ?_
  refine v_iconst (v := 0) C dX11_tellLaw_137 (by decide) ?_
  obtain ⟨G2, qG2, hf⟩ := bn hf
  refine v_zast C h_a1 qG2 hC dX11_tellLaw_138 (fun hC => ?_)
  refine v_aload_n C 0 dX11_tellLaw_139 rfl rfl ?_
  obtain ⟨G4, qr3, hf⟩ := bn hf
  refine v_callVv (As := []) (rest := []) C (sX11_term h_l0 qr3) cs_X11_350 (by decide) h_l0 rfl hC rfl rfl rfl (Nat.le_of_ble_eq_true rfl) ⟨Nat.le_refl _, Nat.le_refl _⟩ dX11_tellLaw_140 (fun hC => ?_)
  refine v_aload_n C 0 dX11_tellLaw_143 rfl rfl ?_
  refine v_iconst (v := 4) C dX11_tellLaw_144 (by decide) ?_
  obtain ⟨G6, qr5, hf⟩ := bn hf
  refine v_callVv (As := [.int 4]) (rest := []) C (sX11_must h_l0 qr5) cs_X11_308 (by decide) h_l0 rfl hC rfl rfl rfl (Nat.le_of_ble_eq_true rfl) ⟨Nat.le_refl _, Nat.le_refl _⟩ dX11_tellLaw_145 (fun hC => ?_)
  refine v_aload_n C 0 dX11_tellLaw_148 rfl rfl ?_
  refine v_getI C h_l0 fl_X11_227 dX11_tellLaw_149 ?_
  refine v_if_le (tgt := 156) C dX11_tellLaw_152 (by decide) (fun c7 => ?_) (fun c7 => ?_)
  · have hf := ip hf c7
    refine v_aload_n C 0 dX11_tellLaw_156 rfl rfl ?_
    obtain ⟨a8, qa8, hf⟩ := bn hf
    refine v_getA C h_l0 fl_X11_94 qa8 dX11_tellLaw_157 (fun h_a8 => ?_)
    refine v_iconst (v := 3) C dX11_tellLaw_160 (by decide) ?_
    refine v_aload_n C 0 dX11_tellLaw_161 rfl rfl ?_
    refine v_getI C h_l0 fl_X11_260 dX11_tellLaw_162 ?_
    refine v_imul C dX11_tellLaw_165 ?_
    refine v_iload_n C 1 dX11_tellLaw_166 rfl rfl ?_
    refine v_iadd C dX11_tellLaw_167 ?_
    refine v_iload_n C 2 dX11_tellLaw_168 rfl rfl ?_
    obtain ⟨G9, qG9, hf⟩ := bn hf
    refine v_iast C h_a8 qG9 hC dX11_tellLaw_169 (fun hC => ?_)
    refine v_aload_n C 0 dX11_tellLaw_170 rfl rfl ?_
    obtain ⟨a10, qa10, hf⟩ := bn hf
    refine v_getA C h_l0 fl_X11_97 qa10 dX11_tellLaw_171 (fun h_a10 => ?_)
    refine v_iconst (v := 3) C dX11_tellLaw_174 (by decide) ?_
    refine v_aload_n C 0 dX11_tellLaw_175 rfl rfl ?_
    refine v_getI C h_l0 fl_X11_260 dX11_tellLaw_176 ?_
    refine v_imul C dX11_tellLaw_179 ?_
    refine v_iload_n C 1 dX11_tellLaw_180 rfl rfl ?_
    refine v_iadd C dX11_tellLaw_181 ?_
    refine v_aload_n C 0 dX11_tellLaw_182 rfl rfl ?_
    refine v_getI C h_l0 fl_X11_266 dX11_tellLaw_183 ?_
    obtain ⟨G11, qG11, hf⟩ := bn hf
    refine v_iast C h_a10 qG11 hC dX11_tellLaw_186 (fun hC => ?_)
    cases hf
    exact kr _ _ dX11_tellLaw_187 hC
  · have hf := im hf c7
    cases hf
    exact kr _ _ dX11_tellLaw_155 hC
def fX11_tellLaw (sh : Sh) (G : Hp) (l0 : Nat) (l1 : Int32) : Option (Hp) := (fX11_must sh G l0 5).bind fun G2 => bd ((G2.1 l0 42) : Int32) fun x3 => (iter (fun s : Hp × Int32 => fX11_tellLaw_S12 sh l0 l1 x3 s.1 s.2) fuel ((G2, 0) : Hp × Int32)).bind (Sum.elim (fun u6 => bd u6 fun G5 => fX11_tellLaw_J129 sh G5 l0 l1 x3) (fun u8 => bd u8 fun G7 => some G7))
set_option maxHeartbeats 4000000 in
theorem tX11_tellLaw {E : EX} {ad : Nat → Nat} {sh : Sh} {G : Hp} {l0 : Nat} {l1 : Int32} {z : Hp} (C : Cx E RX11 cX11_tellLaw 4 none 6 0 0) (hC : Cl sh G) (h_l0 : sh[l0]? = some (0, 11)) (hf : fX11_tellLaw sh G l0 l1 = some z) (kr : RCv E cX11_tellLaw ad sh z) : VV E 0 0 (wq (xT E) ad G sh) 0 [(0, .ref (ad l0)), (1, .int l1)] [] := by
  unfold fX11_tellLaw at hf
  refine v_aload_n C 0 dX11_tellLaw_0 rfl rfl ?_
  refine v_iconst (v := 5) C dX11_tellLaw_1 (by decide) ?_
  obtain ⟨G2, qr1, hf⟩ := bn hf
  refine v_callVv (As := [.int 5]) (rest := []) C (sX11_must h_l0 qr1) cs_X11_308 (by decide) h_l0 rfl hC rfl rfl rfl (Nat.le_of_ble_eq_true rfl) ⟨Nat.le_refl _, Nat.le_refl _⟩ dX11_tellLaw_2 (fun hC => ?_)
  refine v_aload_n C 0 dX11_tellLaw_5 rfl rfl ?_
  refine v_getI C h_l0 fl_X11_266 dX11_tellLaw_6 ?_
  refine v_topi (fun x3 ex3 => ?_)
  have hf := bd_at hf ex3
  refine v_istore_n (lv2 := [(2, .int x3), (0, .ref (ad l0)), (1, .int l1)]) C dX11_tellLaw_9 rfl (by decide) rfl ?_
  refine v_iconst (v := 0) C dX11_tellLaw_10 (by decide) ?_
  refine v_istore_n (lv2 := [(3, .int 0), (2, .int x3), (0, .ref (ad l0)), (1, .int l1)]) C dX11_tellLaw_11 rfl (by decide) rfl ?_
  obtain ⟨r4, qr4, hf⟩ := bn hf
  refine v_sub [2, 3, 1, 0] rfl ?_
  refine iter_sound (P := (fun s : Hp × Int32 => Cl sh (s.1) → VV E 0 0 (wq (xT E) ad (s.1) sh) 12 [(0, .ref (ad l0)), (1, .int (l1)), (2, .int (x3)), (3, .int (s.2))] [])) (X := fun r => r = r4) (fun jsr4 jor4 hor4 jbr4 jxr4 hC => tX11_tellLaw_S12 C hC h_l0 hor4 (fun _ _ e => jbr4 _ e) ?_ ?_) fuel _ r4 qr4 rfl hC
  · intro G5 hu hC
    have e := jxr4 _ hu
    subst e
    have hf := sm_l hf
    have hf := bd_at hf (rfl : G5 = _)
    refine v_sub [0, 1, 2] rfl ?_
    exact tX11_tellLaw_J129 C hC h_l0 hf kr
  · intro G7 hu hC
    have e := jxr4 _ hu
    subst e
    have hf := sm_r hf
    have hf := bd_at hf (rfl : G7 = _)
    cases hf
    exact kr _ _ dX11_tellLaw_45 hC
theorem sX11_tellLaw {l : Launch} {sh : Sh} {G : Hp} {l0 : Nat} {l1 : Int32} {z : Hp} (h_l0 : sh[l0]? = some (0, 11)) (hf : fX11_tellLaw sh G l0 l1 = some z) : MC l yX11_tellLaw cX11_tellLaw 4 none 6 0 0 sh sh G z (fun ad => [.ref (ad l0), .int l1]) (fun _ => none) := by
  refine MC_of rfl rfl (fun _ => Nat.le_of_ble_eq_true rfl) (fun E ad C hl hnm hC hQ => ?_)
  exact tX11_tellLaw C hC h_l0 hf (fun pc lv hd hC => v_vret C hQ (fun _ _ => rfl) hC rfl hd)
def fX11_tellOne_J316 (sh : Sh) (G : Hp) (l0 : Nat) (l1 : Int32) : Option (Hp) := (fX11_fail sh G l0 1).bind fun G2 => if (G2.1 l0 13) ≤ 0 then (fX11_goesOn sh G2 l0).bind fun G5 => (fX11_tellLaw sh G5 l0 l1).bind fun G7 => some G7 else some G2
set_option maxHeartbeats 4000000 in
theorem tX11_tellOne_J316 {E : EX} {ad : Nat → Nat} {sh : Sh} {G : Hp} {l0 : Nat} {l1 : Int32} {z : Hp} (C : Cx E RX11 cX11_tellOne 2 none 7 0 0) (hC : Cl sh G) (h_l0 : sh[l0]? = some (0, 11)) (hf : fX11_tellOne_J316 sh G l0 l1 = some z) (kr : RCv E cX11_tellOne ad sh z) : VV E 0 0 (wq (xT E) ad G sh) 316 [(0, .ref (ad l0)), (1, .int l1)] [] := by
  unfold fX11_tellOne_J316 at hf
  refine v_aload_n C 0 dX11_tellOne_316 rfl rfl ?_
  refine v_iconst (v := 1) C dX11_tellOne_317 (by decide) ?_
  obtain ⟨G2, qr1, hf⟩ := bn hf
  refine v_callVv (As := [.int 1]) (rest := []) C (sX11_fail h_l0 qr1) cs_X11_242 (by decide) h_l0 rfl hC rfl rfl rfl (Nat.le_of_ble_eq_true rfl) ⟨Nat.le_refl _, Nat.le_refl _⟩ dX11_tellOne_318 (fun hC => ?_)
  refine v_aload_n C 0 dX11_tellOne_321 rfl rfl ?_
  refine v_getI C h_l0 fl_X11_227 dX11_tellOne_322 ?_
  refine v_if_le (tgt := 329) C dX11_tellOne_325 (by decide) (fun c3 => ?_) (fun c3 => ?_)
  · have hf := ip hf c3
    refine v_aload_n C 0 dX11_tellOne_329 rfl rfl ?_
    obtain ⟨G5, qr4, hf⟩ := bn hf
    refine v_callVv (As := []) (rest := []) C (sX11_goesOn h_l0 qr4) cs_X11_248 (by decide) h_l0 rfl hC rfl rfl rfl (Nat.le_of_ble_eq_true rfl) ⟨Nat.le_refl _, Nat.le_refl _⟩ dX11_tellOne_330 (fun hC => ?_)
    refine v_aload_n C 0 dX11_tellOne_333 rfl rfl ?_
    refine v_iload_n C 1 dX11_tellOne_334 rfl rfl ?_
    obtain ⟨G7, qr6, hf⟩ := bn hf
    refine v_callVv (As := [.int l1]) (rest := []) C (sX11_tellLaw h_l0 qr6) cs_X11_311 (by decide) h_l0 rfl hC rfl rfl rfl (Nat.le_of_ble_eq_true rfl) ⟨Nat.le_refl _, Nat.le_refl _⟩ dX11_tellOne_335 (fun hC => ?_)
    cases hf
    exact kr _ _ dX11_tellOne_338 hC
  · have hf := im hf c3
    cases hf
    exact kr _ _ dX11_tellOne_328 hC
def fX11_tellOne_J285 (sh : Sh) (G : Hp) (l0 : Nat) : Option (Hp) := (ldA sh G l0 5 1).bind fun a1 => (aI sh G a1 (G.1 l0 11)).bind fun v2 => bd ((v2 - 29) : Int32) fun x3 => if x3 < 0 then fX11_tellOne_J316 sh G l0 x3 else (ldA sh G l0 5 1).bind fun a5 => (aI sh G a5 (G.1 l0 11)).bind fun v6 => if v6 ≤ 31 then if (G.1 l0 13) ≤ 0 then (fX11_goesOn sh G l0).bind fun G10 => (fX11_tellLaw sh G10 l0 x3).bind fun G12 => some G12 else some G else fX11_tellOne_J316 sh G l0 x3
set_option maxHeartbeats 4000000 in
theorem tX11_tellOne_J285 {E : EX} {ad : Nat → Nat} {sh : Sh} {G : Hp} {l0 : Nat} {z : Hp} (C : Cx E RX11 cX11_tellOne 2 none 7 0 0) (hC : Cl sh G) (h_l0 : sh[l0]? = some (0, 11)) (hf : fX11_tellOne_J285 sh G l0 = some z) (kr : RCv E cX11_tellOne ad sh z) : VV E 0 0 (wq (xT E) ad G sh) 285 [(0, .ref (ad l0))] [] := by
  unfold fX11_tellOne_J285 at hf
  refine v_aload_n C 0 dX11_tellOne_285 rfl rfl ?_
  obtain ⟨a1, qa1, hf⟩ := bn hf
  refine v_getA C h_l0 fl_X11_20 qa1 dX11_tellOne_286 (fun h_a1 => ?_)
  refine v_aload_n C 0 dX11_tellOne_289 rfl rfl ?_
  refine v_getI C h_l0 fl_X11_230 dX11_tellOne_290 ?_
  obtain ⟨v2, qv2, hf⟩ := bn hf
  refine v_iald C h_a1 qv2 dX11_tellOne_293 ?_
  refine v_bipush (v := 29) C dX11_tellOne_294 (by decide) ?_
  refine v_isub C dX11_tellOne_296 ?_
  refine v_topi (fun x3 ex3 => ?_)
  have hf := bd_at hf ex3
  refine v_istore_n (lv2 := [(1, .int x3), (0, .ref (ad l0))]) C dX11_tellOne_297 rfl (by decide) rfl ?_
  refine v_iload_n C 0 dX11_tellOne_298 rfl rfl ?_
  refine v_if_lt (tgt := 316) C dX11_tellOne_299 (by decide) (fun c4 => ?_) (fun c4 => ?_)
  · have hf := ip hf c4
    refine v_sub [1, 0] rfl ?_
    exact tX11_tellOne_J316 C hC h_l0 hf kr
  · have hf := im hf c4
    refine v_aload_n C 1 dX11_tellOne_302 rfl rfl ?_
    obtain ⟨a5, qa5, hf⟩ := bn hf
    refine v_getA C h_l0 fl_X11_20 qa5 dX11_tellOne_303 (fun h_a5 => ?_)
    refine v_aload_n C 1 dX11_tellOne_306 rfl rfl ?_
    refine v_getI C h_l0 fl_X11_230 dX11_tellOne_307 ?_
    obtain ⟨v6, qv6, hf⟩ := bn hf
    refine v_iald C h_a5 qv6 dX11_tellOne_310 ?_
    refine v_bipush (v := 31) C dX11_tellOne_311 (by decide) ?_
    refine v_icmp_le (tgt := 321) C dX11_tellOne_313 (by decide) (fun c7 => ?_) (fun c7 => ?_)
    · have hf := ip hf c7
      refine v_aload_n C 1 dX11_tellOne_321 rfl rfl ?_
      refine v_getI C h_l0 fl_X11_227 dX11_tellOne_322 ?_
      refine v_if_le (tgt := 329) C dX11_tellOne_325 (by decide) (fun c8 => ?_) (fun c8 => ?_)
      · have hf := ip hf c8
        refine v_aload_n C 1 dX11_tellOne_329 rfl rfl ?_
        obtain ⟨G10, qr9, hf⟩ := bn hf
        refine v_callVv (As := []) (rest := []) C (sX11_goesOn h_l0 qr9) cs_X11_248 (by decide) h_l0 rfl hC rfl rfl rfl (Nat.le_of_ble_eq_true rfl) ⟨Nat.le_refl _, Nat.le_refl _⟩ dX11_tellOne_330 (fun hC => ?_)
        refine v_aload_n C 1 dX11_tellOne_333 rfl rfl ?_
        refine v_iload_n C 0 dX11_tellOne_334 rfl rfl ?_
        obtain ⟨G12, qr11, hf⟩ := bn hf
        refine v_callVv (As := [.int x3]) (rest := []) C (sX11_tellLaw h_l0 qr11) cs_X11_311 (by decide) h_l0 rfl hC rfl rfl rfl (Nat.le_of_ble_eq_true rfl) ⟨Nat.le_refl _, Nat.le_refl _⟩ dX11_tellOne_335 (fun hC => ?_)
        cases hf
        exact kr _ _ dX11_tellOne_338 hC
      · have hf := im hf c8
        cases hf
        exact kr _ _ dX11_tellOne_328 hC
    · have hf := im hf c7
      refine v_sub [1, 0] rfl ?_
      exact tX11_tellOne_J316 C hC h_l0 hf kr
def fX11_tellOne (sh : Sh) (G : Hp) (l0 : Nat) : Option (Hp) := (ldA sh G l0 5 1).bind fun a1 => (aI sh G a1 (G.1 l0 11)).bind fun v2 => if v2 = 20 then (ldA sh G l0 23 1).bind fun a4 => (aI sh G a4 (G.1 l0 19)).bind fun v5 => (fX11_roomFor sh G l0 v5 8).bind fun G7 => if (G7.1 l0 13) ≤ 0 then bp (fX11_named sh G7 l0) fun r9 G10 => (ldA sh G10 l0 23 1).bind fun a11 => (aI sh G10 a11 (G10.1 l0 19)).bind fun v12 => (fX11_ends sh G10 l0 r9 v12).bind fun G14 => if (G14.1 l0 13) = 0 then (ldA sh G14 l0 23 1).bind fun a16 => bd ((G14.1 l0 19) : Int32) fun x17 => (aI sh G14 a16 x17).bind fun v18 => (asI sh G14 a16 x17 (v18 + 1)).bind fun G19 => some G19 else some G14 else some G7 else if v2 = 21 then (ldA sh G l0 24 1).bind fun a21 => (aI sh G a21 (G.1 l0 19)).bind fun v22 => (fX11_roomFor sh G l0 v22 7).bind fun G24 => if (G24.1 l0 13) = 0 then (fX11_tellBeing sh G24 l0).bind fun G27 => some G27 else some G24 else if v2 = 22 then (ldA sh G l0 27 1).bind fun a29 => (aI sh G a29 (G.1 l0 19)).bind fun v30 => (fX11_roomFor sh G l0 v30 4).bind fun G32 => if (G32.1 l0 13) = 0 then (fX11_tellWay sh G32 l0).bind fun G35 => some G35 else some G32 else if v2 = 23 then (ldA sh G l0 31 1).bind fun a37 => (aI sh G a37 (G.1 l0 19)).bind fun v38 => (fX11_roomFor sh G l0 v38 4).bind fun G40 => if (G40.1 l0 13) = 0 then (fX11_tellBridge sh G40 l0).bind fun G43 => some G43 else some G40 else if v2 = 24 then fX11_tellOne_J285 sh G l0 else if v2 = 25 then fX11_tellOne_J285 sh G l0 else if v2 = 26 then fX11_tellOne_J285 sh G l0 else if v2 = 27 then fX11_tellOne_J285 sh G l0 else if v2 = 28 then fX11_tellOne_J285 sh G l0 else if v2 = 29 then fX11_tellOne_J285 sh G l0 else if v2 = 30 then fX11_tellOne_J285 sh G l0 else if v2 = 31 then fX11_tellOne_J285 sh G l0 else if v2 = 32 then (fX11_goesOn sh G l0).bind fun G54 => (ldA sh G54 l0 38 1).bind fun a55 => bp (fX11_bounded sh G54 l0 0 100) fun r56 G57 => (asI sh G57 a55 (G54.1 l0 19) r56).bind fun G58 => (fX11_must sh G58 l0 4).bind fun G60 => some G60 else if v2 = 33 then (fX11_goesOn sh G l0).bind fun G63 => (ldA sh G63 l0 39 1).bind fun a64 => bp (fX11_bounded sh G63 l0 0 9999) fun r65 G66 => (asI sh G66 a64 (G63.1 l0 19) r65).bind fun G67 => (fX11_must sh G67 l0 4).bind fun G69 => some G69 else fX11_tellOne_J285 sh G l0
set_option maxHeartbeats 4000000 in
theorem tX11_tellOne {E : EX} {ad : Nat → Nat} {sh : Sh} {G : Hp} {l0 : Nat} {z : Hp} (C : Cx E RX11 cX11_tellOne 2 none 7 0 0) (hC : Cl sh G) (h_l0 : sh[l0]? = some (0, 11)) (hf : fX11_tellOne sh G l0 = some z) (kr : RCv E cX11_tellOne ad sh z) : VV E 0 0 (wq (xT E) ad G sh) 0 [(0, .ref (ad l0))] [] := by
  unfold fX11_tellOne at hf
  refine v_aload_n C 0 dX11_tellOne_0 rfl rfl ?_
  obtain ⟨a1, qa1, hf⟩ := bn hf
  refine v_getA C h_l0 fl_X11_20 qa1 dX11_tellOne_1 (fun h_a1 => ?_)
  refine v_aload_n C 0 dX11_tellOne_4 rfl rfl ?_
  refine v_getI C h_l0 fl_X11_230 dX11_tellOne_5 ?_
  obtain ⟨v2, qv2, hf⟩ := bn hf
  refine v_iald C h_a1 qv2 dX11_tellOne_8 ?_
  by_cases c3 : v2 = 20
  · have hf := ip hf c3
    refine v_tableIn (off := 71) (tgt := 80) C dX11_tellOne_9 (by rw [c3]; decide) (by rw [c3]; decide) (by rw [c3]; decide) (by decide) ?_
    refine v_aload_n C 0 dX11_tellOne_80 rfl rfl ?_
    refine v_aload_n C 0 dX11_tellOne_81 rfl rfl ?_
    obtain ⟨a4, qa4, hf⟩ := bn hf
    refine v_getA C h_l0 fl_X11_46 qa4 dX11_tellOne_82 (fun h_a4 => ?_)
    refine v_aload_n C 0 dX11_tellOne_85 rfl rfl ?_
    refine v_getI C h_l0 fl_X11_260 dX11_tellOne_86 ?_
    obtain ⟨v5, qv5, hf⟩ := bn hf
    refine v_iald C h_a4 qv5 dX11_tellOne_89 ?_
    refine v_bipush (v := 8) C dX11_tellOne_90 (by decide) ?_
    obtain ⟨G7, qr6, hf⟩ := bn hf
    refine v_callVv (As := [.int v5, .int 8]) (rest := []) C (sX11_roomFor h_l0 qr6) cs_X11_284 (by decide) h_l0 rfl hC rfl rfl rfl (Nat.le_of_ble_eq_true rfl) ⟨Nat.le_refl _, Nat.le_refl _⟩ dX11_tellOne_92 (fun hC => ?_)
    refine v_aload_n C 0 dX11_tellOne_95 rfl rfl ?_
    refine v_getI C h_l0 fl_X11_227 dX11_tellOne_96 ?_
    refine v_if_le (tgt := 103) C dX11_tellOne_99 (by decide) (fun c8 => ?_) (fun c8 => ?_)
    · have hf := ip hf c8
      refine v_aload_n C 0 dX11_tellOne_103 rfl rfl ?_
      refine v_aload_n C 0 dX11_tellOne_104 rfl rfl ?_
      obtain ⟨r9, G10, qr9, hf⟩ := bpn hf
      refine v_callVi (As := []) (rest := [.ref (ad l0)]) C (sX11_named h_l0 qr9) cs_X11_288 (by decide) h_l0 rfl hC rfl rfl rfl (Nat.le_of_ble_eq_true rfl) ⟨Nat.le_refl _, Nat.le_refl _⟩ dX11_tellOne_105 (fun hC => ?_)
      refine v_aload_n C 0 dX11_tellOne_108 rfl rfl ?_
      obtain ⟨a11, qa11, hf⟩ := bn hf
      refine v_getA C h_l0 fl_X11_46 qa11 dX11_tellOne_109 (fun h_a11 => ?_)
      refine v_aload_n C 0 dX11_tellOne_112 rfl rfl ?_
      refine v_getI C h_l0 fl_X11_260 dX11_tellOne_113 ?_
      obtain ⟨v12, qv12, hf⟩ := bn hf
      refine v_iald C h_a11 qv12 dX11_tellOne_116 ?_
      obtain ⟨G14, qr13, hf⟩ := bn hf
      refine v_callVv (As := [.int r9, .int v12]) (rest := []) C (sX11_ends h_l0 qr13) cs_X11_292 (by decide) h_l0 rfl hC rfl rfl rfl (Nat.le_of_ble_eq_true rfl) ⟨Nat.le_refl _, Nat.le_refl _⟩ dX11_tellOne_117 (fun hC => ?_)
      refine v_aload_n C 0 dX11_tellOne_120 rfl rfl ?_
      refine v_getI C h_l0 fl_X11_227 dX11_tellOne_121 ?_
      refine v_if_ne (tgt := 338) C dX11_tellOne_124 (by decide) (fun c15 => ?_) (fun c15 => ?_)
      · have hf := im hf c15
        cases hf
        exact kr _ _ dX11_tellOne_338 hC
      · have hf := ip hf c15
        refine v_aload_n C 0 dX11_tellOne_127 rfl rfl ?_
        obtain ⟨a16, qa16, hf⟩ := bn hf
        refine v_getA C h_l0 fl_X11_46 qa16 dX11_tellOne_128 (fun h_a16 => ?_)
        refine v_aload_n C 0 dX11_tellOne_131 rfl rfl ?_
        refine v_getI C h_l0 fl_X11_260 dX11_tellOne_132 ?_
        refine v_topi (fun x17 ex17 => ?_)
        have hf := bd_at hf ex17
        refine v_dup2 C dX11_tellOne_135 rfl rfl ?_
        obtain ⟨v18, qv18, hf⟩ := bn hf
        refine v_iald C h_a16 qv18 dX11_tellOne_136 ?_
        refine v_iconst (v := 1) C dX11_tellOne_137 (by decide) ?_
        refine v_iadd C dX11_tellOne_138 ?_
        obtain ⟨G19, qG19, hf⟩ := bn hf
        refine v_iast C h_a16 qG19 hC dX11_tellOne_139 (fun hC => ?_)
        refine v_goto (tgt := 338) C dX11_tellOne_140 (by decide) ?_
        cases hf
        exact kr _ _ dX11_tellOne_338 hC
    · have hf := im hf c8
      cases hf
      exact kr _ _ dX11_tellOne_102 hC
  · have hf := im hf c3
    by_cases c20 : v2 = 21
    · have hf := ip hf c20
      refine v_tableIn (off := 134) (tgt := 143) C dX11_tellOne_9 (by rw [c20]; decide) (by rw [c20]; decide) (by rw [c20]; decide) (by decide) ?_
      refine v_aload_n C 0 dX11_tellOne_143 rfl rfl ?_
      refine v_aload_n C 0 dX11_tellOne_144 rfl rfl ?_
      obtain ⟨a21, qa21, hf⟩ := bn hf
      refine v_getA C h_l0 fl_X11_49 qa21 dX11_tellOne_145 (fun h_a21 => ?_)
      refine v_aload_n C 0 dX11_tellOne_148 rfl rfl ?_
      refine v_getI C h_l0 fl_X11_260 dX11_tellOne_149 ?_
      obtain ⟨v22, qv22, hf⟩ := bn hf
      refine v_iald C h_a21 qv22 dX11_tellOne_152 ?_
      refine v_bipush (v := 7) C dX11_tellOne_153 (by decide) ?_
      obtain ⟨G24, qr23, hf⟩ := bn hf
      refine v_callVv (As := [.int v22, .int 7]) (rest := []) C (sX11_roomFor h_l0 qr23) cs_X11_284 (by decide) h_l0 rfl hC rfl rfl rfl (Nat.le_of_ble_eq_true rfl) ⟨Nat.le_refl _, Nat.le_refl _⟩ dX11_tellOne_155 (fun hC => ?_)
      refine v_aload_n C 0 dX11_tellOne_158 rfl rfl ?_
      refine v_getI C h_l0 fl_X11_227 dX11_tellOne_159 ?_
      refine v_if_ne (tgt := 338) C dX11_tellOne_162 (by decide) (fun c25 => ?_) (fun c25 => ?_)
      · have hf := im hf c25
        cases hf
        exact kr _ _ dX11_tellOne_338 hC
      · have hf := ip hf c25
        refine v_aload_n C 0 dX11_tellOne_165 rfl rfl ?_
        obtain ⟨G27, qr26, hf⟩ := bn hf
        refine v_callVv (As := []) (rest := []) C (sX11_tellBeing h_l0 qr26) cs_X11_295 (by decide) h_l0 rfl hC rfl rfl rfl (Nat.le_of_ble_eq_true rfl) ⟨Nat.le_refl _, Nat.le_refl _⟩ dX11_tellOne_166 (fun hC => ?_)
        refine v_goto (tgt := 338) C dX11_tellOne_169 (by decide) ?_
        cases hf
        exact kr _ _ dX11_tellOne_338 hC
    · have hf := im hf c20
      by_cases c28 : v2 = 22
      · have hf := ip hf c28
        refine v_tableIn (off := 163) (tgt := 172) C dX11_tellOne_9 (by rw [c28]; decide) (by rw [c28]; decide) (by rw [c28]; decide) (by decide) ?_
        refine v_aload_n C 0 dX11_tellOne_172 rfl rfl ?_
        refine v_aload_n C 0 dX11_tellOne_173 rfl rfl ?_
        obtain ⟨a29, qa29, hf⟩ := bn hf
        refine v_getA C h_l0 fl_X11_58 qa29 dX11_tellOne_174 (fun h_a29 => ?_)
        refine v_aload_n C 0 dX11_tellOne_177 rfl rfl ?_
        refine v_getI C h_l0 fl_X11_260 dX11_tellOne_178 ?_
        obtain ⟨v30, qv30, hf⟩ := bn hf
        refine v_iald C h_a29 qv30 dX11_tellOne_181 ?_
        refine v_iconst (v := 4) C dX11_tellOne_182 (by decide) ?_
        obtain ⟨G32, qr31, hf⟩ := bn hf
        refine v_callVv (As := [.int v30, .int 4]) (rest := []) C (sX11_roomFor h_l0 qr31) cs_X11_284 (by decide) h_l0 rfl hC rfl rfl rfl (Nat.le_of_ble_eq_true rfl) ⟨Nat.le_refl _, Nat.le_refl _⟩ dX11_tellOne_183 (fun hC => ?_)
        refine v_aload_n C 0 dX11_tellOne_186 rfl rfl ?_
        refine v_getI C h_l0 fl_X11_227 dX11_tellOne_187 ?_
        refine v_if_ne (tgt := 338) C dX11_tellOne_190 (by decide) (fun c33 => ?_) (fun c33 => ?_)
        · have hf := im hf c33
          cases hf
          exact kr _ _ dX11_tellOne_338 hC
        · have hf := ip hf c33
          refine v_aload_n C 0 dX11_tellOne_193 rfl rfl ?_
          obtain ⟨G35, qr34, hf⟩ := bn hf
          refine v_callVv (As := []) (rest := []) C (sX11_tellWay h_l0 qr34) cs_X11_298 (by decide) h_l0 rfl hC rfl rfl rfl (Nat.le_of_ble_eq_true rfl) ⟨Nat.le_refl _, Nat.le_refl _⟩ dX11_tellOne_194 (fun hC => ?_)
          refine v_goto (tgt := 338) C dX11_tellOne_197 (by decide) ?_
          cases hf
          exact kr _ _ dX11_tellOne_338 hC
      · have hf := im hf c28
        by_cases c36 : v2 = 23
        · have hf := ip hf c36
          refine v_tableIn (off := 191) (tgt := 200) C dX11_tellOne_9 (by rw [c36]; decide) (by rw [c36]; decide) (by rw [c36]; decide) (by decide) ?_
          refine v_aload_n C 0 dX11_tellOne_200 rfl rfl ?_
          refine v_aload_n C 0 dX11_tellOne_201 rfl rfl ?_
          obtain ⟨a37, qa37, hf⟩ := bn hf
          refine v_getA C h_l0 fl_X11_70 qa37 dX11_tellOne_202 (fun h_a37 => ?_)
          refine v_aload_n C 0 dX11_tellOne_205 rfl rfl ?_
          refine v_getI C h_l0 fl_X11_260 dX11_tellOne_206 ?_
          obtain ⟨v38, qv38, hf⟩ := bn hf
          refine v_iald C h_a37 qv38 dX11_tellOne_209 ?_
          refine v_iconst (v := 4) C dX11_tellOne_210 (by decide) ?_
          obtain ⟨G40, qr39, hf⟩ := bn hf
          refine v_callVv (As := [.int v38, .int 4]) (rest := []) C (sX11_roomFor h_l0 qr39) cs_X11_284 (by decide) h_l0 rfl hC rfl rfl rfl (Nat.le_of_ble_eq_true rfl) ⟨Nat.le_refl _, Nat.le_refl _⟩ dX11_tellOne_211 (fun hC => ?_)
          refine v_aload_n C 0 dX11_tellOne_214 rfl rfl ?_
          refine v_getI C h_l0 fl_X11_227 dX11_tellOne_215 ?_
          refine v_if_ne (tgt := 338) C dX11_tellOne_218 (by decide) (fun c41 => ?_) (fun c41 => ?_)
          · have hf := im hf c41
            cases hf
            exact kr _ _ dX11_tellOne_338 hC
          · have hf := ip hf c41
            refine v_aload_n C 0 dX11_tellOne_221 rfl rfl ?_
            obtain ⟨G43, qr42, hf⟩ := bn hf
            refine v_callVv (As := []) (rest := []) C (sX11_tellBridge h_l0 qr42) cs_X11_301 (by decide) h_l0 rfl hC rfl rfl rfl (Nat.le_of_ble_eq_true rfl) ⟨Nat.le_refl _, Nat.le_refl _⟩ dX11_tellOne_222 (fun hC => ?_)
            refine v_goto (tgt := 338) C dX11_tellOne_225 (by decide) ?_
            cases hf
            exact kr _ _ dX11_tellOne_338 hC
        · have hf := im hf c36
          by_cases c44 : v2 = 24
          · have hf := ip hf c44
            refine v_tableIn (off := 276) (tgt := 285) C dX11_tellOne_9 (by rw [c44]; decide) (by rw [c44]; decide) (by rw [c44]; decide) (by decide) ?_
            refine v_sub [0] rfl ?_
            exact tX11_tellOne_J285 C hC h_l0 hf kr
          · have hf := im hf c44
            by_cases c45 : v2 = 25
            · have hf := ip hf c45
              refine v_tableIn (off := 276) (tgt := 285) C dX11_tellOne_9 (by rw [c45]; decide) (by rw [c45]; decide) (by rw [c45]; decide) (by decide) ?_
              refine v_sub [0] rfl ?_
              exact tX11_tellOne_J285 C hC h_l0 hf kr
            · have hf := im hf c45
              by_cases c46 : v2 = 26
              · have hf := ip hf c46
                refine v_tableIn (off := 276) (tgt := 285) C dX11_tellOne_9 (by rw [c46]; decide) (by rw [c46]; decide) (by rw [c46]; decide) (by decide) ?_
                refine v_sub [0] rfl ?_
                exact tX11_tellOne_J285 C hC h_l0 hf kr
              · have hf := im hf c46
                by_cases c47 : v2 = 27
                · have hf := ip hf c47
                  refine v_tableIn (off := 276) (tgt := 285) C dX11_tellOne_9 (by rw [c47]; decide) (by rw [c47]; decide) (by rw [c47]; decide) (by decide) ?_
                  refine v_sub [0] rfl ?_
                  exact tX11_tellOne_J285 C hC h_l0 hf kr
                · have hf := im hf c47
                  by_cases c48 : v2 = 28
                  · have hf := ip hf c48
                    refine v_tableIn (off := 276) (tgt := 285) C dX11_tellOne_9 (by rw [c48]; decide) (by rw [c48]; decide) (by rw [c48]; decide) (by decide) ?_
                    refine v_sub [0] rfl ?_
                    exact tX11_tellOne_J285 C hC h_l0 hf kr
                  · have hf := im hf c48
                    by_cases c49 : v2 = 29
                    · have hf := ip hf c49
                      refine v_tableIn (off := 276) (tgt := 285) C dX11_tellOne_9 (by rw [c49]; decide) (by rw [c49]; decide) (by rw [c49]; decide) (by decide) ?_
                      refine v_sub [0] rfl ?_
                      exact tX11_tellOne_J285 C hC h_l0 hf kr
                    · have hf := im hf c49
                      by_cases c50 : v2 = 30
                      · have hf := ip hf c50
                        refine v_tableIn (off := 276) (tgt := 285) C dX11_tellOne_9 (by rw [c50]; decide) (by rw [c50]; decide) (by rw [c50]; decide) (by decide) ?_
                        refine v_sub [0] rfl ?_
                        exact tX11_tellOne_J285 C hC h_l0 hf kr
                      · have hf := im hf c50
                        by_cases c51 : v2 = 31
                        · have hf := ip hf c51
                          refine v_tableIn (off := 276) (tgt := 285) C dX11_tellOne_9 (by rw [c51]; decide) (by rw [c51]; decide) (by rw [c51]; decide) (by decide) ?_
                          refine v_sub [0] rfl ?_
                          exact tX11_tellOne_J285 C hC h_l0 hf kr
                        · have hf := im hf c51
                          by_cases c52 : v2 = 32
                          · have hf := ip hf c52
                            refine v_tableIn (off := 219) (tgt := 228) C dX11_tellOne_9 (by rw [c52]; decide) (by rw [c52]; decide) (by rw [c52]; decide) (by decide) ?_
                            refine v_aload_n C 0 dX11_tellOne_228 rfl rfl ?_
                            obtain ⟨G54, qr53, hf⟩ := bn hf
                            refine v_callVv (As := []) (rest := []) C (sX11_goesOn h_l0 qr53) cs_X11_248 (by decide) h_l0 rfl hC rfl rfl rfl (Nat.le_of_ble_eq_true rfl) ⟨Nat.le_refl _, Nat.le_refl _⟩ dX11_tellOne_229 (fun hC => ?_)
                            refine v_aload_n C 0 dX11_tellOne_232 rfl rfl ?_
                            obtain ⟨a55, qa55, hf⟩ := bn hf
                            refine v_getA C h_l0 fl_X11_88 qa55 dX11_tellOne_233 (fun h_a55 => ?_)
                            refine v_aload_n C 0 dX11_tellOne_236 rfl rfl ?_
                            refine v_getI C h_l0 fl_X11_260 dX11_tellOne_237 ?_
                            refine v_aload_n C 0 dX11_tellOne_240 rfl rfl ?_
                            refine v_iconst (v := 0) C dX11_tellOne_241 (by decide) ?_
                            refine v_bipush (v := 100) C dX11_tellOne_242 (by decide) ?_
                            obtain ⟨r56, G57, qr56, hf⟩ := bpn hf
                            refine v_callVi (As := [.int 0, .int 100]) (rest := [.int (G54.1 l0 19), .ref (ad a55)]) C (sX11_bounded h_l0 qr56) cs_X11_304 (by decide) h_l0 rfl hC rfl rfl rfl (Nat.le_of_ble_eq_true rfl) ⟨Nat.le_refl _, Nat.le_refl _⟩ dX11_tellOne_244 (fun hC => ?_)
                            obtain ⟨G58, qG58, hf⟩ := bn hf
                            refine v_iast C h_a55 qG58 hC dX11_tellOne_247 (fun hC => ?_)
                            refine v_aload_n C 0 dX11_tellOne_248 rfl rfl ?_
                            refine v_iconst (v := 4) C dX11_tellOne_249 (by decide) ?_
                            obtain ⟨G60, qr59, hf⟩ := bn hf
                            refine v_callVv (As := [.int 4]) (rest := []) C (sX11_must h_l0 qr59) cs_X11_308 (by decide) h_l0 rfl hC rfl rfl rfl (Nat.le_of_ble_eq_true rfl) ⟨Nat.le_refl _, Nat.le_refl _⟩ dX11_tellOne_250 (fun hC => ?_)
                            refine v_goto (tgt := 338) C dX11_tellOne_253 (by decide) ?_
                            cases hf
                            exact kr _ _ dX11_tellOne_338 hC
                          · have hf := im hf c52
                            by_cases c61 : v2 = 33
                            · have hf := ip hf c61
                              refine v_tableIn (off := 247) (tgt := 256) C dX11_tellOne_9 (by rw [c61]; decide) (by rw [c61]; decide) (by rw [c61]; decide) (by decide) ?_
                              refine v_aload_n C 0 dX11_tellOne_256 rfl rfl ?_
                              obtain ⟨G63, qr62, hf⟩ := bn hf
                              refine v_callVv (As := []) (rest := []) C (sX11_goesOn h_l0 qr62) cs_X11_248 (by decide) h_l0 rfl hC rfl rfl rfl (Nat.le_of_ble_eq_true rfl) ⟨Nat.le_refl _, Nat.le_refl _⟩ dX11_tellOne_257 (fun hC => ?_)
                              refine v_aload_n C 0 dX11_tellOne_260 rfl rfl ?_
                              obtain ⟨a64, qa64, hf⟩ := bn hf
                              refine v_getA C h_l0 fl_X11_91 qa64 dX11_tellOne_261 (fun h_a64 => ?_)
                              refine v_aload_n C 0 dX11_tellOne_264 rfl rfl ?_
                              refine v_getI C h_l0 fl_X11_260 dX11_tellOne_265 ?_
                              refine v_aload_n C 0 dX11_tellOne_268 rfl rfl ?_
                              refine v_iconst (v := 0) C dX11_tellOne_269 (by decide) ?_
                              refine v_sipush (v := 9999) C dX11_tellOne_270 (by decide) ?_
                              obtain ⟨r65, G66, qr65, hf⟩ := bpn hf
                              refine v_callVi (As := [.int 0, .int 9999]) (rest := [.int (G63.1 l0 19), .ref (ad a64)]) C (sX11_bounded h_l0 qr65) cs_X11_304 (by decide) h_l0 rfl hC rfl rfl rfl (Nat.le_of_ble_eq_true rfl) ⟨Nat.le_refl _, Nat.le_refl _⟩ dX11_tellOne_273 (fun hC => ?_)
                              obtain ⟨G67, qG67, hf⟩ := bn hf
                              refine v_iast C h_a64 qG67 hC dX11_tellOne_276 (fun hC => ?_)
                              refine v_aload_n C 0 dX11_tellOne_277 rfl rfl ?_
                              refine v_iconst (v := 4) C dX11_tellOne_278 (by decide) ?_
                              obtain ⟨G69, qr68, hf⟩ := bn hf
                              refine v_callVv (As := [.int 4]) (rest := []) C (sX11_must h_l0 qr68) cs_X11_308 (by decide) h_l0 rfl hC rfl rfl rfl (Nat.le_of_ble_eq_true rfl) ⟨Nat.le_refl _, Nat.le_refl _⟩ dX11_tellOne_279 (fun hC => ?_)
                              refine v_goto (tgt := 338) C dX11_tellOne_282 (by decide) ?_
                              cases hf
                              exact kr _ _ dX11_tellOne_338 hC
                            · have hf := im hf c61
                              refine v_tableOut (tgt := 285) C dX11_tellOne_9 (tsw_out (by decide) (by decide) (fun k hk => match k, hk with | 0, _ => fun e => c3 (e.trans (by decide)) | 1, _ => fun e => c20 (e.trans (by decide)) | 2, _ => fun e => c28 (e.trans (by decide)) | 3, _ => fun e => c36 (e.trans (by decide)) | 4, _ => fun e => c44 (e.trans (by decide)) | 5, _ => fun e => c45 (e.trans (by decide)) | 6, _ => fun e => c46 (e.trans (by decide)) | 7, _ => fun e => c47 (e.trans (by decide)) | 8, _ => fun e => c48 (e.trans (by decide)) | 9, _ => fun e => c49 (e.trans (by decide)) | 10, _ => fun e => c50 (e.trans (by decide)) | 11, _ => fun e => c51 (e.trans (by decide)) | 12, _ => fun e => c52 (e.trans (by decide)) | 13, _ => fun e => c61 (e.trans (by decide)) | k + 14, hk => absurd hk (by simp only [show (Int.toNat (33 - 20 + 1)) = 14 from rfl]; omega))) (by decide) ?_
                              refine v_sub [0] rfl ?_
                              exact tX11_tellOne_J285 C hC h_l0 hf kr
theorem sX11_tellOne {l : Launch} {sh : Sh} {G : Hp} {l0 : Nat} {z : Hp} (h_l0 : sh[l0]? = some (0, 11)) (hf : fX11_tellOne sh G l0 = some z) : MC l yX11_tellOne cX11_tellOne 2 none 7 0 0 sh sh G z (fun ad => [.ref (ad l0)]) (fun _ => none) := by
  refine MC_of rfl rfl (fun _ => Nat.le_of_ble_eq_true rfl) (fun E ad C hl hnm hC hQ => ?_)
  exact tX11_tellOne C hC h_l0 hf (fun pc lv hd hC => v_vret C hQ (fun _ _ => rfl) hC rfl hd)
def fX11_read_S10 (sh : Sh) (l0 : Nat) (G : Hp) (l1 : Int32) : Option ((Hp × Int32) ⊕ ((Hp))) := if (G.1 l0 4) ≤ l1 then some (.inr G) else (ldA sh G l0 3 2).bind fun a2 => (ldA sh G l0 1 2).bind fun a3 => (aI sh G a3 l1).bind fun v4 => (asI sh G a2 l1 (Int8.toInt32 (Int32.toInt8 v4))).bind fun G5 => bd ((l1 + 1) : Int32) fun x6 => some (.inl (G5, x6))
set_option maxHeartbeats 4000000 in
theorem tX11_read_S10 {E : EX} {ad : Nat → Nat} {sh : Sh} {G : Hp} {l0 : Nat} {l1 : Int32} {o : (Hp × Int32) ⊕ ((Hp))} (C : Cx E RX11 cX11_read 2 (some .int) 8 0 0) (hC : Cl sh G) (h_l0 : sh[l0]? = some (0, 11)) (hf : fX11_read_S10 sh l0 G l1 = some o) (kb : ∀ (G2 : Hp) (b_l1 : Int32), o = .inl (G2, b_l1) → Cl sh G2 → VV E 0 0 (wq (xT E) ad G2 sh) 10 [(0, .ref (ad l0)), (1, .int b_l1)] []) (kx36 : ∀ (G2 : Hp), o = .inr G2 → Cl sh G2 → VV E 0 0 (wq (xT E) ad G2 sh) 36 [(0, .ref (ad l0))] []) : VV E 0 0 (wq (xT E) ad G sh) 10 [(0, .ref (ad l0)), (1, .int l1)] [] := by
  unfold fX11_read_S10 at hf
  refine v_iload_n C 1 dX11_read_10 rfl rfl ?_
  refine v_aload_n C 0 dX11_read_11 rfl rfl ?_
  refine v_getI C h_l0 fl_X11_196 dX11_read_12 ?_
  refine v_icmp_ge (tgt := 36) C dX11_read_15 (by decide) (fun c1 => ?_) (fun c1 => ?_)
  · have hf := ip hf c1
    cases hf
    refine v_sub [0] rfl ?_
    exact kx36 _ rfl hC
  · have hf := im hf c1
    refine v_aload_n C 0 dX11_read_18 rfl rfl ?_
    obtain ⟨a2, qa2, hf⟩ := bn hf
    refine v_getA C h_l0 fl_X11_17 qa2 dX11_read_19 (fun h_a2 => ?_)
    refine v_iload_n C 1 dX11_read_22 rfl rfl ?_
    refine v_aload_n C 0 dX11_read_23 rfl rfl ?_
    obtain ⟨a3, qa3, hf⟩ := bn hf
    refine v_getA C h_l0 fl_X11_13 qa3 dX11_read_24 (fun h_a3 => ?_)
    refine v_iload_n C 1 dX11_read_27 rfl rfl ?_
    obtain ⟨v4, qv4, hf⟩ := bn hf
    refine v_bald C h_a3 qv4 dX11_read_28 ?_
    obtain ⟨G5, qG5, hf⟩ := bn hf
    refine v_bast C h_a2 qG5 hC dX11_read_29 (fun hC => ?_)
    obtain ⟨x6, ex6⟩ : ∃ x : Int32, x = (l1 + 1) := ⟨_, rfl⟩
    have hf := bd_at hf ex6
    refine v_iinc (v := x6) (j := 1) (lv2 := [(1, .int x6), (0, .ref (ad l0))]) C dX11_read_30 rfl (by rw [ex6]; rfl) (by decide) rfl ?_
    refine v_goto (tgt := 10) C dX11_read_33 (by decide) ?_
    cases hf
    refine v_sub [1, 0] rfl ?_
    exact kb _ _ rfl hC
def fX11_read_S124 (sh : Sh) (l0 : Nat) (G : Hp)  : Option ((Hp) ⊕ ((Hp))) := if (G.1 l0 13) = 0 then (fX11_is sh G l0 0).bind fun r2 => if r2 = 0 then (fX11_tellOne sh G l0).bind fun G5 => some (.inl G5) else some (.inr G) else some (.inr G)
set_option maxHeartbeats 4000000 in
theorem tX11_read_S124 {E : EX} {ad : Nat → Nat} {sh : Sh} {G : Hp} {l0 : Nat} {o : (Hp) ⊕ ((Hp))} (C : Cx E RX11 cX11_read 2 (some .int) 8 0 0) (hC : Cl sh G) (h_l0 : sh[l0]? = some (0, 11)) (hf : fX11_read_S124 sh l0 G  = some o) (kb : ∀ (G2 : Hp), o = .inl G2 → Cl sh G2 → VV E 0 0 (wq (xT E) ad G2 sh) 124 [(0, .ref (ad l0))] []) (kx146 : ∀ (G2 : Hp), o = .inr G2 → Cl sh G2 → VV E 0 0 (wq (xT E) ad G2 sh) 146 [(0, .ref (ad l0))] []) : VV E 0 0 (wq (xT E) ad G sh) 124 [(0, .ref (ad l0))] [] := by
  unfold fX11_read_S124 at hf
  refine v_aload_n C 0 dX11_read_124 rfl rfl ?_
  refine v_getI C h_l0 fl_X11_227 dX11_read_125 ?_
  refine v_if_ne (tgt := 146) C dX11_read_128 (by decide) (fun c1 => ?_) (fun c1 => ?_)
  · have hf := im hf c1
    cases hf
    refine v_sub [0] rfl ?_
    exact kx146 _ rfl hC
  · have hf := ip hf c1
    refine v_aload_n C 0 dX11_read_131 rfl rfl ?_
    refine v_iconst (v := 0) C dX11_read_132 (by decide) ?_
    obtain ⟨r2, qr2, hf⟩ := bn hf
    refine v_callVi (As := [.int 0]) (rest := []) C (sX11_is h_l0 qr2) cs_X11_245 (by decide) h_l0 rfl hC rfl rfl rfl (Nat.le_of_ble_eq_true rfl) ⟨Nat.le_refl _, Nat.le_refl _⟩ dX11_read_133 (fun hC => ?_)
    refine v_if_ne (tgt := 146) C dX11_read_136 (by decide) (fun c3 => ?_) (fun c3 => ?_)
    · have hf := im hf c3
      cases hf
      refine v_sub [0] rfl ?_
      exact kx146 _ rfl hC
    · have hf := ip hf c3
      refine v_aload_n C 0 dX11_read_139 rfl rfl ?_
      obtain ⟨G5, qr4, hf⟩ := bn hf
      refine v_callVv (As := []) (rest := []) C (sX11_tellOne h_l0 qr4) cs_X11_275 (by decide) h_l0 rfl hC rfl rfl rfl (Nat.le_of_ble_eq_true rfl) ⟨Nat.le_refl _, Nat.le_refl _⟩ dX11_read_140 (fun hC => ?_)
      refine v_goto (tgt := 124) C dX11_read_143 (by decide) ?_
      cases hf
      refine v_sub [0] rfl ?_
      exact kb _ rfl hC
def fX11_read_S231 (sh : Sh) (l0 : Nat) (G : Hp) (l1 : Int32) : Option ((Hp × Int32) ⊕ ((Hp))) := if 3 ≤ l1 then some (.inr G) else (ldA sh G l0 77 3).bind fun a2 => (asI sh G a2 l1 (zb 0)).bind fun G3 => bd ((l1 + 1) : Int32) fun x4 => some (.inl (G3, x4))
set_option maxHeartbeats 4000000 in
theorem tX11_read_S231 {E : EX} {ad : Nat → Nat} {sh : Sh} {G : Hp} {l0 : Nat} {l1 : Int32} {o : (Hp × Int32) ⊕ ((Hp))} (C : Cx E RX11 cX11_read 2 (some .int) 8 0 0) (hC : Cl sh G) (h_l0 : sh[l0]? = some (0, 11)) (hf : fX11_read_S231 sh l0 G l1 = some o) (kb : ∀ (G2 : Hp) (b_l1 : Int32), o = .inl (G2, b_l1) → Cl sh G2 → VV E 0 0 (wq (xT E) ad G2 sh) 231 [(0, .ref (ad l0)), (1, .int b_l1)] []) (kx249 : ∀ (G2 : Hp), o = .inr G2 → Cl sh G2 → VV E 0 0 (wq (xT E) ad G2 sh) 249 [(0, .ref (ad l0))] []) : VV E 0 0 (wq (xT E) ad G sh) 231 [(0, .ref (ad l0)), (1, .int l1)] [] := by
  unfold fX11_read_S231 at hf
  refine v_iload_n C 1 dX11_read_231 rfl rfl ?_
  refine v_iconst (v := 3) C dX11_read_232 (by decide) ?_
  refine v_icmp_ge (tgt := 249) C dX11_read_233 (by decide) (fun c1 => ?_) (fun c1 => ?_)
  · have hf := ip hf c1
    cases hf
    refine v_sub [0] rfl ?_
    exact kx249 _ rfl hC
  · have hf := im hf c1
    refine v_aload_n C 0 dX11_read_236 rfl rfl ?_
    obtain ⟨a2, qa2, hf⟩ := bn hf
    refine v_getA C h_l0 fl_X11_170 qa2 dX11_read_237 (fun h_a2 => ?_)
    refine v_iload_n C 1 dX11_read_240 rfl rfl ?_
    refine v_iconst (v := 0) C dX11_read_241 (by decide) ?_
    obtain ⟨G3, qG3, hf⟩ := bn hf
    refine v_zast C h_a2 qG3 hC dX11_read_242 (fun hC => ?_)
    obtain ⟨x4, ex4⟩ : ∃ x : Int32, x = (l1 + 1) := ⟨_, rfl⟩
    have hf := bd_at hf ex4
    refine v_iinc (v := x4) (j := 1) (lv2 := [(1, .int x4), (0, .ref (ad l0))]) C dX11_read_243 rfl (by rw [ex4]; rfl) (by decide) rfl ?_
    refine v_goto (tgt := 231) C dX11_read_246 (by decide) ?_
    cases hf
    refine v_sub [1, 0] rfl ?_
    exact kb _ _ rfl hC
def fX11_read_J176 (sh : Sh) (G : Hp) (l0 : Nat) (s0 : Int32) (s1 : Nat) : Option (Int32 × Hp) := bd (sI G s1 17 s0) fun G1 => if (G1.1 l0 13) ≤ 0 then if (G1.1 l0 15) ≤ 0 then bd (sI G1 l0 18 (G1.1 l0 19)) fun G4 => (fX11_begins sh G4 l0).bind fun G6 => (fX11_keepsRow sh G6 l0).bind fun G8 => bd (sI G8 l0 64 0) fun G9 => bd (sI G9 l0 74 0) fun G10 => (iter (fun s : Hp × Int32 => fX11_read_S231 sh l0 s.1 s.2) fuel ((G10, 0) : Hp × Int32)).bind (fun u13 => bd u13 fun G12 => some (0, G12)) else some ((G1.1 l0 15), G1) else some ((G1.1 l0 13), G1)
set_option maxHeartbeats 4000000 in
theorem tX11_read_J176 {E : EX} {ad : Nat → Nat} {sh : Sh} {G : Hp} {l0 : Nat} {s0 : Int32} {s1 : Nat} {z : Int32 × Hp} (C : Cx E RX11 cX11_read 2 (some .int) 8 0 0) (hC : Cl sh G) (h_l0 : sh[l0]? = some (0, 11)) (h_s1 : sh[s1]? = some (0, 11)) (hf : fX11_read_J176 sh G l0 s0 s1 = some z) (kr : RCi E cX11_read ad sh (z.1) (z.2)) : VV E 0 0 (wq (xT E) ad G sh) 176 [(0, .ref (ad l0))] [.int s0, .ref (ad s1)] := by
  unfold fX11_read_J176 at hf
  refine v_putI C h_s1 fp_X11_37 dX11_read_176 (fun G1 eG1 => ?_)
  have hf := bd_at hf eG1
  have hC : Cl sh G1 := by rw [eG1]; exact hC
  refine v_aload_n C 0 dX11_read_179 rfl rfl ?_
  refine v_getI C h_l0 fl_X11_227 dX11_read_180 ?_
  refine v_if_le (tgt := 191) C dX11_read_183 (by decide) (fun c2 => ?_) (fun c2 => ?_)
  · have hf := ip hf c2
    refine v_aload_n C 0 dX11_read_191 rfl rfl ?_
    refine v_getI C h_l0 fl_X11_236 dX11_read_192 ?_
    refine v_if_le (tgt := 203) C dX11_read_195 (by decide) (fun c3 => ?_) (fun c3 => ?_)
    · have hf := ip hf c3
      refine v_aload_n C 0 dX11_read_203 rfl rfl ?_
      refine v_aload_n C 0 dX11_read_204 rfl rfl ?_
      refine v_getI C h_l0 fl_X11_260 dX11_read_205 ?_
      refine v_putI C h_l0 fp_X11_257 dX11_read_208 (fun G4 eG4 => ?_)
      have hf := bd_at hf eG4
      have hC : Cl sh G4 := by rw [eG4]; exact hC
      refine v_aload_n C 0 dX11_read_211 rfl rfl ?_
      obtain ⟨G6, qr5, hf⟩ := bn hf
      refine v_callVv (As := []) (rest := []) C (sX11_begins h_l0 qr5) cs_X11_184 (by decide) h_l0 rfl hC rfl rfl rfl (Nat.le_of_ble_eq_true rfl) ⟨Nat.le_refl _, Nat.le_refl _⟩ dX11_read_212 (fun hC => ?_)
      refine v_aload_n C 0 dX11_read_215 rfl rfl ?_
      obtain ⟨G8, qr7, hf⟩ := bn hf
      refine v_callVv (As := []) (rest := []) C (sX11_keepsRow h_l0 qr7) cs_X11_187 (by decide) h_l0 rfl hC rfl rfl rfl (Nat.le_of_ble_eq_true rfl) ⟨Nat.le_refl _, Nat.le_refl _⟩ dX11_read_216 (fun hC => ?_)
      refine v_aload_n C 0 dX11_read_219 rfl rfl ?_
      refine v_iconst (v := 0) C dX11_read_220 (by decide) ?_
      refine v_putI C h_l0 fp_X11_278 dX11_read_221 (fun G9 eG9 => ?_)
      have hf := bd_at hf eG9
      have hC : Cl sh G9 := by rw [eG9]; exact hC
      refine v_aload_n C 0 dX11_read_224 rfl rfl ?_
      refine v_iconst (v := 0) C dX11_read_225 (by decide) ?_
      refine v_putI C h_l0 fp_X11_281 dX11_read_226 (fun G10 eG10 => ?_)
      have hf := bd_at hf eG10
      have hC : Cl sh G10 := by rw [eG10]; exact hC
      refine v_iconst (v := 0) C dX11_read_229 (by decide) ?_
      refine v_istore_n (lv2 := [(1, .int 0), (0, .ref (ad l0))]) C dX11_read_230 rfl (by decide) rfl ?_
      obtain ⟨r11, qr11, hf⟩ := bn hf
      refine v_sub [1, 0] rfl ?_
      refine iter_sound (P := (fun s : Hp × Int32 => Cl sh (s.1) → VV E 0 0 (wq (xT E) ad (s.1) sh) 231 [(0, .ref (ad l0)), (1, .int (s.2))] [])) (X := fun r => r = r11) (fun jsr11 jor11 hor11 jbr11 jxr11 hC => tX11_read_S231 C hC h_l0 hor11 (fun _ _ e => jbr11 _ e) ?_) fuel _ r11 qr11 rfl hC
      · intro G12 hu hC
        have e := jxr11 _ hu
        subst e
        have hf := bd_at hf (rfl : G12 = _)
        refine v_iconst (v := 0) C dX11_read_249 (by decide) ?_
        cases hf
        exact kr _ _ dX11_read_250 hC
    · have hf := im hf c3
      refine v_aload_n C 0 dX11_read_198 rfl rfl ?_
      refine v_getI C h_l0 fl_X11_236 dX11_read_199 ?_
      cases hf
      exact kr _ _ dX11_read_202 hC
  · have hf := im hf c2
    refine v_aload_n C 0 dX11_read_186 rfl rfl ?_
    refine v_getI C h_l0 fl_X11_227 dX11_read_187 ?_
    cases hf
    exact kr _ _ dX11_read_190 hC
def fX11_read_J146 (sh : Sh) (G : Hp) (l0 : Nat) : Option (Int32 × Hp) := if (G.1 l0 13) ≤ 0 then if (G.1 l0 15) ≤ 0 then fX11_read_J176 sh G l0 (-1) l0 else fX11_read_J176 sh G l0 (G.1 l0 16) l0 else fX11_read_J176 sh G l0 (G.1 l0 14) l0
set_option maxHeartbeats 4000000 in
theorem tX11_read_J146 {E : EX} {ad : Nat → Nat} {sh : Sh} {G : Hp} {l0 : Nat} {z : Int32 × Hp} (C : Cx E RX11 cX11_read 2 (some .int) 8 0 0) (hC : Cl sh G) (h_l0 : sh[l0]? = some (0, 11)) (hf : fX11_read_J146 sh G l0 = some z) (kr : RCi E cX11_read ad sh (z.1) (z.2)) : VV E 0 0 (wq (xT E) ad G sh) 146 [(0, .ref (ad l0))] [] := by
  unfold fX11_read_J146 at hf
  refine v_aload_n C 0 dX11_read_146 rfl rfl ?_
  refine v_aload_n C 0 dX11_read_147 rfl rfl ?_
  refine v_getI C h_l0 fl_X11_227 dX11_read_148 ?_
  refine v_if_le (tgt := 161) C dX11_read_151 (by decide) (fun c1 => ?_) (fun c1 => ?_)
  · have hf := ip hf c1
    refine v_aload_n C 0 dX11_read_161 rfl rfl ?_
    refine v_getI C h_l0 fl_X11_236 dX11_read_162 ?_
    refine v_if_le (tgt := 175) C dX11_read_165 (by decide) (fun c2 => ?_) (fun c2 => ?_)
    · have hf := ip hf c2
      refine v_iconst (v := (-1)) C dX11_read_175 (by decide) ?_
      refine v_sub [0] rfl ?_
      exact tX11_read_J176 C hC h_l0 h_l0 hf kr
    · have hf := im hf c2
      refine v_aload_n C 0 dX11_read_168 rfl rfl ?_
      refine v_getI C h_l0 fl_X11_239 dX11_read_169 ?_
      refine v_goto (tgt := 176) C dX11_read_172 (by decide) ?_
      refine v_sub [0] rfl ?_
      exact tX11_read_J176 C hC h_l0 h_l0 hf kr
  · have hf := im hf c1
    refine v_aload_n C 0 dX11_read_154 rfl rfl ?_
    refine v_getI C h_l0 fl_X11_233 dX11_read_155 ?_
    refine v_goto (tgt := 176) C dX11_read_158 (by decide) ?_
    refine v_sub [0] rfl ?_
    exact tX11_read_J176 C hC h_l0 h_l0 hf kr
def fX11_read (sh : Sh) (G : Hp) (l0 : Nat) : Option (Int32 × Hp) := bd (sI G l0 4 (G.1 l0 2)) fun G1 => (iter (fun s : Hp × Int32 => fX11_read_S10 sh l0 s.1 s.2) fuel ((G1, 0) : Hp × Int32)).bind (fun u21 => bd u21 fun G3 => bd (sI G3 l0 2 0) fun G4 => (fX11_cut sh G4 l0).bind fun G6 => bd (sI G6 l0 11 0) fun G7 => bd (sI G7 l0 12 0) fun G8 => bd (sI G8 l0 13 0) fun G9 => bd (sI G9 l0 15 0) fun G10 => bd (sI G10 l0 19 ((1 : Int32) - (G10.1 l0 18))) fun G11 => bd (sI G11 l0 20 0) fun G12 => (fX11_plain sh G12 l0 (G12.1 l0 19)).bind fun G14 => bd (sI G14 l0 42 ((130 : Int32) * (G14.1 l0 19))) fun G15 => bd (sI G15 l0 48 ((420 : Int32) * (G15.1 l0 19))) fun G16 => bd (sI G16 l0 36 ((420 : Int32) * (G16.1 l0 19))) fun G17 => (iter (fun s : Hp => fX11_read_S124 sh l0 s ) fuel (G17 : Hp)).bind (fun u20 => bd u20 fun G19 => fX11_read_J146 sh G19 l0))
set_option maxHeartbeats 4000000 in
theorem tX11_read {E : EX} {ad : Nat → Nat} {sh : Sh} {G : Hp} {l0 : Nat} {z : Int32 × Hp} (C : Cx E RX11 cX11_read 2 (some .int) 8 0 0) (hC : Cl sh G) (h_l0 : sh[l0]? = some (0, 11)) (hf : fX11_read sh G l0 = some z) (kr : RCi E cX11_read ad sh (z.1) (z.2)) : VV E 0 0 (wq (xT E) ad G sh) 0 [(0, .ref (ad l0))] [] := by
  unfold fX11_read at hf
  refine v_aload_n C 0 dX11_read_0 rfl rfl ?_
  refine v_aload_n C 0 dX11_read_1 rfl rfl ?_
  refine v_getI C h_l0 fl_X11_190 dX11_read_2 ?_
  refine v_putI C h_l0 fp_X11_196 dX11_read_5 (fun G1 eG1 => ?_)
  have hf := bd_at hf eG1
  have hC : Cl sh G1 := by rw [eG1]; exact hC
  refine v_iconst (v := 0) C dX11_read_8 (by decide) ?_
  refine v_istore_n (lv2 := [(1, .int 0), (0, .ref (ad l0))]) C dX11_read_9 rfl (by decide) rfl ?_
  obtain ⟨r2, qr2, hf⟩ := bn hf
  refine v_sub [1, 0] rfl ?_
  refine iter_sound (P := (fun s : Hp × Int32 => Cl sh (s.1) → VV E 0 0 (wq (xT E) ad (s.1) sh) 10 [(0, .ref (ad l0)), (1, .int (s.2))] [])) (X := fun r => r = r2) (fun jsr2 jor2 hor2 jbr2 jxr2 hC => tX11_read_S10 C hC h_l0 hor2 (fun _ _ e => jbr2 _ e) ?_) fuel _ r2 qr2 rfl hC
  · intro G3 hu hC
    have e := jxr2 _ hu
    subst e
    have hf := bd_at hf (rfl : G3 = _)
    refine v_aload_n C 0 dX11_read_36 rfl rfl ?_
    refine v_iconst (v := 0) C dX11_read_37 (by decide) ?_
    refine v_putI C h_l0 fp_X11_190 dX11_read_38 (fun G4 eG4 => ?_)
    have hf := bd_at hf eG4
    have hC : Cl sh G4 := by rw [eG4]; exact hC
    refine v_aload_n C 0 dX11_read_41 rfl rfl ?_
    obtain ⟨G6, qr5, hf⟩ := bn hf
    refine v_callVv (As := []) (rest := []) C (sX11_cut h_l0 qr5) cs_X11_251 (by decide) h_l0 rfl hC rfl rfl rfl (Nat.le_of_ble_eq_true rfl) ⟨Nat.le_refl _, Nat.le_refl _⟩ dX11_read_42 (fun hC => ?_)
    refine v_aload_n C 0 dX11_read_45 rfl rfl ?_
    refine v_iconst (v := 0) C dX11_read_46 (by decide) ?_
    refine v_putI C h_l0 fp_X11_230 dX11_read_47 (fun G7 eG7 => ?_)
    have hf := bd_at hf eG7
    have hC : Cl sh G7 := by rw [eG7]; exact hC
    refine v_aload_n C 0 dX11_read_50 rfl rfl ?_
    refine v_iconst (v := 0) C dX11_read_51 (by decide) ?_
    refine v_putI C h_l0 fp_X11_254 dX11_read_52 (fun G8 eG8 => ?_)
    have hf := bd_at hf eG8
    have hC : Cl sh G8 := by rw [eG8]; exact hC
    refine v_aload_n C 0 dX11_read_55 rfl rfl ?_
    refine v_iconst (v := 0) C dX11_read_56 (by decide) ?_
    refine v_putI C h_l0 fp_X11_227 dX11_read_57 (fun G9 eG9 => ?_)
    have hf := bd_at hf eG9
    have hC : Cl sh G9 := by rw [eG9]; exact hC
    refine v_aload_n C 0 dX11_read_60 rfl rfl ?_
    refine v_iconst (v := 0) C dX11_read_61 (by decide) ?_
    refine v_putI C h_l0 fp_X11_236 dX11_read_62 (fun G10 eG10 => ?_)
    have hf := bd_at hf eG10
    have hC : Cl sh G10 := by rw [eG10]; exact hC
    refine v_aload_n C 0 dX11_read_65 rfl rfl ?_
    refine v_iconst (v := 1) C dX11_read_66 (by decide) ?_
    refine v_aload_n C 0 dX11_read_67 rfl rfl ?_
    refine v_getI C h_l0 fl_X11_257 dX11_read_68 ?_
    refine v_isub C dX11_read_71 ?_
    refine v_putI C h_l0 fp_X11_260 dX11_read_72 (fun G11 eG11 => ?_)
    have hf := bd_at hf eG11
    have hC : Cl sh G11 := by rw [eG11]; exact hC
    refine v_aload_n C 0 dX11_read_75 rfl rfl ?_
    refine v_iconst (v := 0) C dX11_read_76 (by decide) ?_
    refine v_putI C h_l0 fp_X11_263 dX11_read_77 (fun G12 eG12 => ?_)
    have hf := bd_at hf eG12
    have hC : Cl sh G12 := by rw [eG12]; exact hC
    refine v_aload_n C 0 dX11_read_80 rfl rfl ?_
    refine v_aload_n C 0 dX11_read_81 rfl rfl ?_
    refine v_getI C h_l0 fl_X11_260 dX11_read_82 ?_
    obtain ⟨G14, qr13, hf⟩ := bn hf
    refine v_callVv (As := [.int (G12.1 l0 19)]) (rest := []) C (sX11_plain h_l0 qr13) cs_X11_176 (by decide) h_l0 rfl hC rfl rfl rfl (Nat.le_of_ble_eq_true rfl) ⟨Nat.le_refl _, Nat.le_refl _⟩ dX11_read_85 (fun hC => ?_)
    refine v_aload_n C 0 dX11_read_88 rfl rfl ?_
    refine v_sipush (v := 130) C dX11_read_89 (by decide) ?_
    refine v_aload_n C 0 dX11_read_92 rfl rfl ?_
    refine v_getI C h_l0 fl_X11_260 dX11_read_93 ?_
    refine v_imul C dX11_read_96 ?_
    refine v_putI C h_l0 fp_X11_266 dX11_read_97 (fun G15 eG15 => ?_)
    have hf := bd_at hf eG15
    have hC : Cl sh G15 := by rw [eG15]; exact hC
    refine v_aload_n C 0 dX11_read_100 rfl rfl ?_
    refine v_sipush (v := 420) C dX11_read_101 (by decide) ?_
    refine v_aload_n C 0 dX11_read_104 rfl rfl ?_
    refine v_getI C h_l0 fl_X11_260 dX11_read_105 ?_
    refine v_imul C dX11_read_108 ?_
    refine v_putI C h_l0 fp_X11_269 dX11_read_109 (fun G16 eG16 => ?_)
    have hf := bd_at hf eG16
    have hC : Cl sh G16 := by rw [eG16]; exact hC
    refine v_aload_n C 0 dX11_read_112 rfl rfl ?_
    refine v_sipush (v := 420) C dX11_read_113 (by decide) ?_
    refine v_aload_n C 0 dX11_read_116 rfl rfl ?_
    refine v_getI C h_l0 fl_X11_260 dX11_read_117 ?_
    refine v_imul C dX11_read_120 ?_
    refine v_putI C h_l0 fp_X11_272 dX11_read_121 (fun G17 eG17 => ?_)
    have hf := bd_at hf eG17
    have hC : Cl sh G17 := by rw [eG17]; exact hC
    obtain ⟨r18, qr18, hf⟩ := bn hf
    refine v_sub [0] rfl ?_
    refine iter_sound (P := (fun s : Hp => Cl sh (s) → VV E 0 0 (wq (xT E) ad (s) sh) 124 [(0, .ref (ad l0))] [])) (X := fun r => r = r18) (fun jsr18 jor18 hor18 jbr18 jxr18 hC => tX11_read_S124 C hC h_l0 hor18 (fun _ e => jbr18 _ e) ?_) fuel _ r18 qr18 rfl hC
    · intro G19 hu hC
      have e := jxr18 _ hu
      subst e
      have hf := bd_at hf (rfl : G19 = _)
      refine v_sub [0] rfl ?_
      exact tX11_read_J146 C hC h_l0 hf kr
theorem sX11_read {l : Launch} {sh : Sh} {G : Hp} {l0 : Nat} {z : Int32 × Hp} (h_l0 : sh[l0]? = some (0, 11)) (hf : fX11_read sh G l0 = some z) : MC l yX11_read cX11_read 2 (some .int) 8 0 0 sh sh G (z.2) (fun ad => [.ref (ad l0)]) (fun _ => some (.int z.1)) := by
  refine MC_of rfl rfl (fun _ => Nat.le_of_ble_eq_true rfl) (fun E ad C hl hnm hC hQ => ?_)
  exact tX11_read C hC h_l0 hf (fun pc lv hd hC => v_iret C hQ (fun _ _ => rfl) hC rfl hd)
def fX11_restore_S22 (sh : Sh) (l0 : Nat) (l1 : Int32) (G : Hp) (l2 : Int32) : Option ((Hp × Int32) ⊕ ((Hp))) := if 26 ≤ l2 then some (.inr G) else (ldA sh G l0 58 1).bind fun a2 => (ldA sh G l0 78 1).bind fun a3 => (aI sh G a3 (((26 : Int32) * l1) + l2)).bind fun v4 => (asI sh G a2 l2 v4).bind fun G5 => bd ((l2 + 1) : Int32) fun x6 => some (.inl (G5, x6))
set_option maxHeartbeats 4000000 in
theorem tX11_restore_S22 {E : EX} {ad : Nat → Nat} {sh : Sh} {G : Hp} {l0 : Nat} {l1 : Int32} {l2 : Int32} {o : (Hp × Int32) ⊕ ((Hp))} (C : Cx E RX11 cX11_restore 3 (some .boolean) 2 0 0) (hC : Cl sh G) (h_l0 : sh[l0]? = some (0, 11)) (hf : fX11_restore_S22 sh l0 l1 G l2 = some o) (kb : ∀ (G2 : Hp) (b_l2 : Int32), o = .inl (G2, b_l2) → Cl sh G2 → VV E 0 0 (wq (xT E) ad G2 sh) 22 [(0, .ref (ad l0)), (1, .int l1), (2, .int b_l2)] []) (kx51 : ∀ (G2 : Hp), o = .inr G2 → Cl sh G2 → VV E 0 0 (wq (xT E) ad G2 sh) 51 [(0, .ref (ad l0)), (1, .int l1)] []) : VV E 0 0 (wq (xT E) ad G sh) 22 [(0, .ref (ad l0)), (1, .int l1), (2, .int l2)] [] := by
  unfold fX11_restore_S22 at hf
  refine v_iload_n C 2 dX11_restore_22 rfl rfl ?_
  refine v_bipush (v := 26) C dX11_restore_23 (by decide) ?_
  refine v_icmp_ge (tgt := 51) C dX11_restore_25 (by decide) (fun c1 => ?_) (fun c1 => ?_)
  · have hf := ip hf c1
    cases hf
    refine v_sub [0, 1] rfl ?_
    exact kx51 _ rfl hC
  · have hf := im hf c1
    refine v_aload_n C 0 dX11_restore_28 rfl rfl ?_
    obtain ⟨a2, qa2, hf⟩ := bn hf
    refine v_getA C h_l0 fl_X11_134 qa2 dX11_restore_29 (fun h_a2 => ?_)
    refine v_iload_n C 2 dX11_restore_32 rfl rfl ?_
    refine v_aload_n C 0 dX11_restore_33 rfl rfl ?_
    obtain ⟨a3, qa3, hf⟩ := bn hf
    refine v_getA C h_l0 fl_X11_173 qa3 dX11_restore_34 (fun h_a3 => ?_)
    refine v_bipush (v := 26) C dX11_restore_37 (by decide) ?_
    refine v_iload_n C 1 dX11_restore_39 rfl rfl ?_
    refine v_imul C dX11_restore_40 ?_
    refine v_iload_n C 2 dX11_restore_41 rfl rfl ?_
    refine v_iadd C dX11_restore_42 ?_
    obtain ⟨v4, qv4, hf⟩ := bn hf
    refine v_iald C h_a3 qv4 dX11_restore_43 ?_
    obtain ⟨G5, qG5, hf⟩ := bn hf
    refine v_iast C h_a2 qG5 hC dX11_restore_44 (fun hC => ?_)
    obtain ⟨x6, ex6⟩ : ∃ x : Int32, x = (l2 + 1) := ⟨_, rfl⟩
    have hf := bd_at hf ex6
    refine v_iinc (v := x6) (j := 2) (lv2 := [(2, .int x6), (0, .ref (ad l0)), (1, .int l1)]) C dX11_restore_45 rfl (by rw [ex6]; rfl) (by decide) rfl ?_
    refine v_goto (tgt := 22) C dX11_restore_48 (by decide) ?_
    cases hf
    refine v_sub [1, 2, 0] rfl ?_
    exact kb _ _ rfl hC
def fX11_restore (sh : Sh) (G : Hp) (l0 : Nat) (l1 : Int32) : Option (Int32 × Hp) := (fX11_in l1 0 2).bind fun r1 => if r1 = 0 then some (0, G) else (ldA sh G l0 77 3).bind fun a3 => (aI sh G a3 l1).bind fun v4 => if v4 = 0 then some (0, G) else (iter (fun s : Hp × Int32 => fX11_restore_S22 sh l0 l1 s.1 s.2) fuel ((G, 0) : Hp × Int32)).bind (fun u9 => bd u9 fun G7 => bd (sI G7 l0 64 0) fun G8 => some (1, G8))
set_option maxHeartbeats 4000000 in
theorem tX11_restore {E : EX} {ad : Nat → Nat} {sh : Sh} {G : Hp} {l0 : Nat} {l1 : Int32} {z : Int32 × Hp} (C : Cx E RX11 cX11_restore 3 (some .boolean) 2 0 0) (hC : Cl sh G) (h_l0 : sh[l0]? = some (0, 11)) (hf : fX11_restore sh G l0 l1 = some z) (kr : RCz E cX11_restore ad sh (z.1) (z.2)) : VV E 0 0 (wq (xT E) ad G sh) 0 [(0, .ref (ad l0)), (1, .int l1)] [] := by
  unfold fX11_restore at hf
  refine v_iload_n C 1 dX11_restore_0 rfl rfl ?_
  refine v_iconst (v := 0) C dX11_restore_1 (by decide) ?_
  refine v_iconst (v := 2) C dX11_restore_2 (by decide) ?_
  obtain ⟨r1, qr1, hf⟩ := bn hf
  refine v_callSi (As := [.int l1, .int 0, .int 2]) (rest := []) C (sX11_in  qr1) cs_X11_370 (by decide) hC rfl rfl rfl (Nat.le_of_ble_eq_true rfl) ⟨Nat.le_refl _, Nat.le_refl _⟩ dX11_restore_3 (fun hC => ?_)
  refine v_if_eq (tgt := 18) C dX11_restore_6 (by decide) (fun c2 => ?_) (fun c2 => ?_)
  · have hf := ip hf c2
    refine v_iconst (v := 0) C dX11_restore_18 (by decide) ?_
    cases hf
    exact kr _ _ dX11_restore_19 (Or.inl rfl) hC
  · have hf := im hf c2
    refine v_aload_n C 0 dX11_restore_9 rfl rfl ?_
    obtain ⟨a3, qa3, hf⟩ := bn hf
    refine v_getA C h_l0 fl_X11_170 qa3 dX11_restore_10 (fun h_a3 => ?_)
    refine v_iload_n C 1 dX11_restore_13 rfl rfl ?_
    obtain ⟨v4, qv4, hf⟩ := bn hf
    refine v_zald C h_a3 qv4 dX11_restore_14 ?_
    refine v_if_ne (tgt := 20) C dX11_restore_15 (by decide) (fun c5 => ?_) (fun c5 => ?_)
    · have hf := im hf c5
      refine v_iconst (v := 0) C dX11_restore_20 (by decide) ?_
      refine v_istore_n (lv2 := [(2, .int 0), (0, .ref (ad l0)), (1, .int l1)]) C dX11_restore_21 rfl (by decide) rfl ?_
      obtain ⟨r6, qr6, hf⟩ := bn hf
      refine v_sub [1, 2, 0] rfl ?_
      refine iter_sound (P := (fun s : Hp × Int32 => Cl sh (s.1) → VV E 0 0 (wq (xT E) ad (s.1) sh) 22 [(0, .ref (ad l0)), (1, .int (l1)), (2, .int (s.2))] [])) (X := fun r => r = r6) (fun jsr6 jor6 hor6 jbr6 jxr6 hC => tX11_restore_S22 C hC h_l0 hor6 (fun _ _ e => jbr6 _ e) ?_) fuel _ r6 qr6 rfl hC
      · intro G7 hu hC
        have e := jxr6 _ hu
        subst e
        have hf := bd_at hf (rfl : G7 = _)
        refine v_aload_n C 0 dX11_restore_51 rfl rfl ?_
        refine v_iconst (v := 0) C dX11_restore_52 (by decide) ?_
        refine v_putI C h_l0 fp_X11_278 dX11_restore_53 (fun G8 eG8 => ?_)
        have hf := bd_at hf eG8
        have hC : Cl sh G8 := by rw [eG8]; exact hC
        refine v_iconst (v := 1) C dX11_restore_56 (by decide) ?_
        cases hf
        exact kr _ _ dX11_restore_57 (Or.inr rfl) hC
    · have hf := ip hf c5
      refine v_iconst (v := 0) C dX11_restore_18 (by decide) ?_
      cases hf
      exact kr _ _ dX11_restore_19 (Or.inl rfl) hC
theorem sX11_restore {l : Launch} {sh : Sh} {G : Hp} {l0 : Nat} {l1 : Int32} {z : Int32 × Hp} (h_l0 : sh[l0]? = some (0, 11)) (hf : fX11_restore sh G l0 l1 = some z) : MC l yX11_restore cX11_restore 3 (some .boolean) 2 0 0 sh sh G (z.2) (fun ad => [.ref (ad l0), .int l1]) (fun _ => some (.int z.1)) := by
  refine MC_of rfl rfl (fun _ => Nat.le_of_ble_eq_true rfl) (fun E ad C hl hnm hC hQ => ?_)
  exact tX11_restore C hC h_l0 hf (fun pc lv hd hz hC => v_zret C hQ (fun _ _ => rfl) hC rfl hz hd)
def fX11_isWay (sh : Sh) (G : Hp) (l0 : Nat) (l1 : Int32) : Option (Int32) := (ldA sh G l0 27 1).bind fun a1 => (aI sh G a1 (G.1 l0 18)).bind fun v2 => (fX11_in l1 0 (v2 - 1)).bind fun r3 => if ¬ (r3 = 0 ∨ r3 = 1) then none else some r3
set_option maxHeartbeats 4000000 in
theorem tX11_isWay {E : EX} {ad : Nat → Nat} {sh : Sh} {G : Hp} {l0 : Nat} {l1 : Int32} {z : Int32} (C : Cx E RX11 cX11_isWay 2 (some .boolean) 2 0 0) (hC : Cl sh G) (h_l0 : sh[l0]? = some (0, 11)) (hf : fX11_isWay sh G l0 l1 = some z) (kr : RCz E cX11_isWay ad sh z G) : VV E 0 0 (wq (xT E) ad G sh) 0 [(0, .ref (ad l0)), (1, .int l1)] [] := by
  unfold fX11_isWay at hf
  refine v_iload_n C 1 dX11_isWay_0 rfl rfl ?_
  refine v_iconst (v := 0) C dX11_isWay_1 (by decide) ?_
  refine v_aload_n C 0 dX11_isWay_2 rfl rfl ?_
  obtain ⟨a1, qa1, hf⟩ := bn hf
  refine v_getA C h_l0 fl_X11_58 qa1 dX11_isWay_3 (fun h_a1 => ?_)
  refine v_aload_n C 0 dX11_isWay_6 rfl rfl ?_
  refine v_getI C h_l0 fl_X11_257 dX11_isWay_7 ?_
  obtain ⟨v2, qv2, hf⟩ := bn hf
  refine v_iald C h_a1 qv2 dX11_isWay_10 ?_
  refine v_iconst (v := 1) C dX11_isWay_11 (by decide) ?_
  refine v_isub C dX11_isWay_12 ?_
  obtain ⟨r3, qr3, hf⟩ := bn hf
  refine v_callSi (As := [.int l1, .int 0, .int (v2 - 1)]) (rest := []) C (sX11_in  qr3) cs_X11_370 (by decide) hC rfl rfl rfl (Nat.le_of_ble_eq_true rfl) ⟨Nat.le_refl _, Nat.le_refl _⟩ dX11_isWay_13 (fun hC => ?_)
  obtain ⟨hz4, hf⟩ := iz hf
  cases hf
  exact kr _ _ dX11_isWay_16 (Classical.not_not.mp hz4) hC
theorem sX11_isWay {l : Launch} {sh : Sh} {G : Hp} {l0 : Nat} {l1 : Int32} {z : Int32} (h_l0 : sh[l0]? = some (0, 11)) (hf : fX11_isWay sh G l0 l1 = some z) : MC l yX11_isWay cX11_isWay 2 (some .boolean) 2 0 0 sh sh G G (fun ad => [.ref (ad l0), .int l1]) (fun _ => some (.int z)) := by
  refine MC_of rfl rfl (fun _ => Nat.le_of_ble_eq_true rfl) (fun E ad C hl hnm hC hQ => ?_)
  exact tX11_isWay C hC h_l0 hf (fun pc lv hd hz hC => v_zret C hQ (fun _ _ => rfl) hC rfl hz hd)
def fX11_isSome (sh : Sh) (G : Hp) (l0 : Nat) (l1 : Int32) : Option (Int32) := if l1 = (-1) then some 1 else (fX11_isWay sh G l0 l1).bind fun r2 => if r2 = 0 then some 0 else some 1
set_option maxHeartbeats 4000000 in
theorem tX11_isSome {E : EX} {ad : Nat → Nat} {sh : Sh} {G : Hp} {l0 : Nat} {l1 : Int32} {z : Int32} (C : Cx E RX11 cX11_isSome 2 (some .boolean) 3 0 0) (hC : Cl sh G) (h_l0 : sh[l0]? = some (0, 11)) (hf : fX11_isSome sh G l0 l1 = some z) (kr : RCz E cX11_isSome ad sh z G) : VV E 0 0 (wq (xT E) ad G sh) 0 [(0, .ref (ad l0)), (1, .int l1)] [] := by
  unfold fX11_isSome at hf
  refine v_iload_n C 1 dX11_isSome_0 rfl rfl ?_
  refine v_iconst (v := (-1)) C dX11_isSome_1 (by decide) ?_
  refine v_icmp_eq (tgt := 13) C dX11_isSome_2 (by decide) (fun c1 => ?_) (fun c1 => ?_)
  · have hf := ip hf c1
    refine v_iconst (v := 1) C dX11_isSome_13 (by decide) ?_
    refine v_goto (tgt := 18) C dX11_isSome_14 (by decide) ?_
    cases hf
    exact kr _ _ dX11_isSome_18 (Or.inr rfl) hC
  · have hf := im hf c1
    refine v_aload_n C 0 dX11_isSome_5 rfl rfl ?_
    refine v_iload_n C 1 dX11_isSome_6 rfl rfl ?_
    obtain ⟨r2, qr2, hf⟩ := bn hf
    refine v_callVi (As := [.int l1]) (rest := []) C (sX11_isWay h_l0 qr2) cs_X11_422 (by decide) h_l0 rfl hC rfl rfl rfl (Nat.le_of_ble_eq_true rfl) ⟨Nat.le_refl _, Nat.le_refl _⟩ dX11_isSome_7 (fun hC => ?_)
    refine v_if_eq (tgt := 17) C dX11_isSome_10 (by decide) (fun c3 => ?_) (fun c3 => ?_)
    · have hf := ip hf c3
      refine v_iconst (v := 0) C dX11_isSome_17 (by decide) ?_
      cases hf
      exact kr _ _ dX11_isSome_18 (Or.inl rfl) hC
    · have hf := im hf c3
      refine v_iconst (v := 1) C dX11_isSome_13 (by decide) ?_
      refine v_goto (tgt := 18) C dX11_isSome_14 (by decide) ?_
      cases hf
      exact kr _ _ dX11_isSome_18 (Or.inr rfl) hC
theorem sX11_isSome {l : Launch} {sh : Sh} {G : Hp} {l0 : Nat} {l1 : Int32} {z : Int32} (h_l0 : sh[l0]? = some (0, 11)) (hf : fX11_isSome sh G l0 l1 = some z) : MC l yX11_isSome cX11_isSome 2 (some .boolean) 3 0 0 sh sh G G (fun ad => [.ref (ad l0), .int l1]) (fun _ => some (.int z)) := by
  refine MC_of rfl rfl (fun _ => Nat.le_of_ble_eq_true rfl) (fun E ad C hl hnm hC hQ => ?_)
  exact tX11_isSome C hC h_l0 hf (fun pc lv hd hz hC => v_zret C hQ (fun _ _ => rfl) hC rfl hz hd)
def fX11_goesOver (sh : Sh) (G : Hp) (l0 : Nat) (l1 : Int32) (l2 : Int32) (l3 : Int32) : Option (Int32 × Hp) := (ldA sh G l0 59 1).bind fun a1 => (aI sh G a1 22).bind fun v2 => (ldA sh G l0 25 1).bind fun a3 => (aI sh G a3 (((7 : Int32) * (G.1 l0 18)) + l2)).bind fun v4 => (asI sh G a1 22 (v2 + v4)).bind fun G5 => (ldA sh G5 l0 59 1).bind fun a6 => (aI sh G5 a6 25).bind fun v7 => (asI sh G5 a6 25 (v7 &&& (((1 : Int32) <<< (l2 &&& 31)) ^^^ (-1)))).bind fun G8 => (ldA sh G8 l0 59 1).bind fun a9 => (asI sh G8 a9 ((4 : Int32) + l1) 1).bind fun G10 => (fX11_hasSoul l3).bind fun r11 => if r11 = 0 then (ldA sh G10 l0 59 1).bind fun a13 => (aI sh G10 a13 24).bind fun v14 => (asI sh G10 a13 24 (v14 + 1)).bind fun G15 => (ldA sh G15 l0 59 1).bind fun a16 => (aI sh G15 a16 l1).bind fun v17 => (asI sh G15 a16 l1 (v17 - 1)).bind fun G18 => (ldA sh G18 l0 59 1).bind fun a19 => (aI sh G18 a19 l1).bind fun v20 => if v20 = 0 then (ldA sh G18 l0 59 1).bind fun a24 => (asI sh G18 a24 ((4 : Int32) + l1) 2).bind fun G25 => (fX11_learns sh G25 l0 l3).bind fun G27 => some (2, G27) else (fX11_learns sh G18 l0 l3).bind fun G23 => some (2, G23) else some (1, G10)
set_option maxHeartbeats 4000000 in
theorem tX11_goesOver {E : EX} {ad : Nat → Nat} {sh : Sh} {G : Hp} {l0 : Nat} {l1 : Int32} {l2 : Int32} {l3 : Int32} {z : Int32 × Hp} (C : Cx E RX11 cX11_goesOver 4 (some .int) 2 0 0) (hC : Cl sh G) (h_l0 : sh[l0]? = some (0, 11)) (hf : fX11_goesOver sh G l0 l1 l2 l3 = some z) (kr : RCi E cX11_goesOver ad sh (z.1) (z.2)) : VV E 0 0 (wq (xT E) ad G sh) 0 [(0, .ref (ad l0)), (1, .int l1), (2, .int l2), (3, .int l3)] [] := by
  unfold fX11_goesOver at hf
  refine v_aload_n C 0 dX11_goesOver_0 rfl rfl ?_
  obtain ⟨a1, qa1, hf⟩ := bn hf
  refine v_getA C h_l0 fl_X11_137 qa1 dX11_goesOver_1 (fun h_a1 => ?_)
  refine v_bipush (v := 22) C dX11_goesOver_4 (by decide) ?_
  refine v_dup2 C dX11_goesOver_6 rfl rfl ?_
  obtain ⟨v2, qv2, hf⟩ := bn hf
  refine v_iald C h_a1 qv2 dX11_goesOver_7 ?_
  refine v_aload_n C 0 dX11_goesOver_8 rfl rfl ?_
  obtain ⟨a3, qa3, hf⟩ := bn hf
  refine v_getA C h_l0 fl_X11_52 qa3 dX11_goesOver_9 (fun h_a3 => ?_)
  refine v_bipush (v := 7) C dX11_goesOver_12 (by decide) ?_
  refine v_aload_n C 0 dX11_goesOver_14 rfl rfl ?_
  refine v_getI C h_l0 fl_X11_257 dX11_goesOver_15 ?_
  refine v_imul C dX11_goesOver_18 ?_
  refine v_iload_n C 2 dX11_goesOver_19 rfl rfl ?_
  refine v_iadd C dX11_goesOver_20 ?_
  obtain ⟨v4, qv4, hf⟩ := bn hf
  refine v_iald C h_a3 qv4 dX11_goesOver_21 ?_
  refine v_iadd C dX11_goesOver_22 ?_
  obtain ⟨G5, qG5, hf⟩ := bn hf
  refine v_iast C h_a1 qG5 hC dX11_goesOver_23 (fun hC => ?_)
  refine v_aload_n C 0 dX11_goesOver_24 rfl rfl ?_
  obtain ⟨a6, qa6, hf⟩ := bn hf
  refine v_getA C h_l0 fl_X11_137 qa6 dX11_goesOver_25 (fun h_a6 => ?_)
  refine v_bipush (v := 25) C dX11_goesOver_28 (by decide) ?_
  refine v_dup2 C dX11_goesOver_30 rfl rfl ?_
  obtain ⟨v7, qv7, hf⟩ := bn hf
  refine v_iald C h_a6 qv7 dX11_goesOver_31 ?_
  refine v_iconst (v := 1) C dX11_goesOver_32 (by decide) ?_
  refine v_iload_n C 2 dX11_goesOver_33 rfl rfl ?_
  refine v_ishl C dX11_goesOver_34 ?_
  refine v_iconst (v := (-1)) C dX11_goesOver_35 (by decide) ?_
  refine v_ixor C dX11_goesOver_36 ?_
  refine v_iand C dX11_goesOver_37 ?_
  obtain ⟨G8, qG8, hf⟩ := bn hf
  refine v_iast C h_a6 qG8 hC dX11_goesOver_38 (fun hC => ?_)
  refine v_aload_n C 0 dX11_goesOver_39 rfl rfl ?_
  obtain ⟨a9, qa9, hf⟩ := bn hf
  refine v_getA C h_l0 fl_X11_137 qa9 dX11_goesOver_40 (fun h_a9 => ?_)
  refine v_iconst (v := 4) C dX11_goesOver_43 (by decide) ?_
  refine v_iload_n C 1 dX11_goesOver_44 rfl rfl ?_
  refine v_iadd C dX11_goesOver_45 ?_
  refine v_iconst (v := 1) C dX11_goesOver_46 (by decide) ?_
  obtain ⟨G10, qG10, hf⟩ := bn hf
  refine v_iast C h_a9 qG10 hC dX11_goesOver_47 (fun hC => ?_)
  refine v_iload_n C 3 dX11_goesOver_48 rfl rfl ?_
  obtain ⟨r11, qr11, hf⟩ := bn hf
  refine v_callSi (As := [.int l3]) (rest := []) C (sX11_hasSoul  qr11) cs_X11_443 (by decide) hC rfl rfl rfl (Nat.le_of_ble_eq_true rfl) ⟨Nat.le_refl _, Nat.le_refl _⟩ dX11_goesOver_49 (fun hC => ?_)
  refine v_if_eq (tgt := 57) C dX11_goesOver_52 (by decide) (fun c12 => ?_) (fun c12 => ?_)
  · have hf := ip hf c12
    refine v_aload_n C 0 dX11_goesOver_57 rfl rfl ?_
    obtain ⟨a13, qa13, hf⟩ := bn hf
    refine v_getA C h_l0 fl_X11_137 qa13 dX11_goesOver_58 (fun h_a13 => ?_)
    refine v_bipush (v := 24) C dX11_goesOver_61 (by decide) ?_
    refine v_dup2 C dX11_goesOver_63 rfl rfl ?_
    obtain ⟨v14, qv14, hf⟩ := bn hf
    refine v_iald C h_a13 qv14 dX11_goesOver_64 ?_
    refine v_iconst (v := 1) C dX11_goesOver_65 (by decide) ?_
    refine v_iadd C dX11_goesOver_66 ?_
    obtain ⟨G15, qG15, hf⟩ := bn hf
    refine v_iast C h_a13 qG15 hC dX11_goesOver_67 (fun hC => ?_)
    refine v_aload_n C 0 dX11_goesOver_68 rfl rfl ?_
    obtain ⟨a16, qa16, hf⟩ := bn hf
    refine v_getA C h_l0 fl_X11_137 qa16 dX11_goesOver_69 (fun h_a16 => ?_)
    refine v_iload_n C 1 dX11_goesOver_72 rfl rfl ?_
    refine v_dup2 C dX11_goesOver_73 rfl rfl ?_
    obtain ⟨v17, qv17, hf⟩ := bn hf
    refine v_iald C h_a16 qv17 dX11_goesOver_74 ?_
    refine v_iconst (v := 1) C dX11_goesOver_75 (by decide) ?_
    refine v_isub C dX11_goesOver_76 ?_
    obtain ⟨G18, qG18, hf⟩ := bn hf
    refine v_iast C h_a16 qG18 hC dX11_goesOver_77 (fun hC => ?_)
    refine v_aload_n C 0 dX11_goesOver_78 rfl rfl ?_
    obtain ⟨a19, qa19, hf⟩ := bn hf
    refine v_getA C h_l0 fl_X11_137 qa19 dX11_goesOver_79 (fun h_a19 => ?_)
    refine v_iload_n C 1 dX11_goesOver_82 rfl rfl ?_
    obtain ⟨v20, qv20, hf⟩ := bn hf
    refine v_iald C h_a19 qv20 dX11_goesOver_83 ?_
    refine v_if_ne (tgt := 96) C dX11_goesOver_84 (by decide) (fun c21 => ?_) (fun c21 => ?_)
    · have hf := im hf c21
      refine v_aload_n C 0 dX11_goesOver_96 rfl rfl ?_
      refine v_iload_n C 3 dX11_goesOver_97 rfl rfl ?_
      obtain ⟨G23, qr22, hf⟩ := bn hf
      refine v_callVv (As := [.int l3]) (rest := []) C (sX11_learns h_l0 qr22) cs_X11_446 (by decide) h_l0 rfl hC rfl rfl rfl (Nat.le_of_ble_eq_true rfl) ⟨Nat.le_refl _, Nat.le_refl _⟩ dX11_goesOver_98 (fun hC => ?_)
      refine v_iconst (v := 2) C dX11_goesOver_101 (by decide) ?_
      cases hf
      exact kr _ _ dX11_goesOver_102 hC
    · have hf := ip hf c21
      refine v_aload_n C 0 dX11_goesOver_87 rfl rfl ?_
      obtain ⟨a24, qa24, hf⟩ := bn hf
      refine v_getA C h_l0 fl_X11_137 qa24 dX11_goesOver_88 (fun h_a24 => ?_)
      refine v_iconst (v := 4) C dX11_goesOver_91 (by decide) ?_
      refine v_iload_n C 1 dX11_goesOver_92 rfl rfl ?_
      refine v_iadd C dX11_goesOver_93 ?_
      refine v_iconst (v := 2) C dX11_goesOver_94 (by decide) ?_
      obtain ⟨G25, qG25, hf⟩ := bn hf
      refine v_iast C h_a24 qG25 hC dX11_goesOver_95 (fun hC => ?_)
      refine v_aload_n C 0 dX11_goesOver_96 rfl rfl ?_
      refine v_iload_n C 3 dX11_goesOver_97 rfl rfl ?_
      obtain ⟨G27, qr26, hf⟩ := bn hf
      refine v_callVv (As := [.int l3]) (rest := []) C (sX11_learns h_l0 qr26) cs_X11_446 (by decide) h_l0 rfl hC rfl rfl rfl (Nat.le_of_ble_eq_true rfl) ⟨Nat.le_refl _, Nat.le_refl _⟩ dX11_goesOver_98 (fun hC => ?_)
      refine v_iconst (v := 2) C dX11_goesOver_101 (by decide) ?_
      cases hf
      exact kr _ _ dX11_goesOver_102 hC
  · have hf := im hf c12
    refine v_iconst (v := 1) C dX11_goesOver_55 (by decide) ?_
    cases hf
    exact kr _ _ dX11_goesOver_56 hC
theorem sX11_goesOver {l : Launch} {sh : Sh} {G : Hp} {l0 : Nat} {l1 : Int32} {l2 : Int32} {l3 : Int32} {z : Int32 × Hp} (h_l0 : sh[l0]? = some (0, 11)) (hf : fX11_goesOver sh G l0 l1 l2 l3 = some z) : MC l yX11_goesOver cX11_goesOver 4 (some .int) 2 0 0 sh sh G (z.2) (fun ad => [.ref (ad l0), .int l1, .int l2, .int l3]) (fun _ => some (.int z.1)) := by
  refine MC_of rfl rfl (fun _ => Nat.le_of_ble_eq_true rfl) (fun E ad C hl hnm hC hQ => ?_)
  exact tX11_goesOver C hC h_l0 hf (fun pc lv hd hC => v_iret C hQ (fun _ _ => rfl) hC rfl hd)
def fX11_send (sh : Sh) (G : Hp) (l0 : Nat) (l1 : Int32) (l2 : Int32) (l3 : Int32) : Option (Int32 × Hp) := (fX11_isBridge sh G l0 l1).bind fun r1 => if r1 = 0 then some ((-1), G) else (fX11_isBeing sh G l0 l2).bind fun r3 => if r3 = 0 then some ((-1), G) else (fX11_isSome sh G l0 l3).bind fun r5 => if r5 = 0 then some ((-1), G) else (fX11_copies sh G l0).bind fun G8 => (ldA sh G8 l0 59 1).bind fun a9 => (aI sh G8 a9 ((4 : Int32) + l1)).bind fun v10 => if v10 = 0 then (ldA sh G8 l0 59 1).bind fun a12 => (aI sh G8 a12 25).bind fun v13 => if ((v13 >>> (l2 &&& 31)) &&& 1) = 0 then some ((-2), G8) else (fX11_setOf sh G8 l0 l2 l3).bind fun r15 => (ldA sh G8 l0 59 1).bind fun a16 => (aI sh G8 a16 22).bind fun v17 => (fX11_costBy sh G8 l0 l3).bind fun r18 => (asI sh G8 a16 22 (v17 + r18)).bind fun G19 => bp (fX11_isTaken sh G19 l0 l1 r15) fun r20 G21 => if r20 = 0 then (fX11_records sh G21 l0).bind fun G24 => some (0, G24) else bp (fX11_goesOver sh G21 l0 l1 l2 r15) fun r25 G26 => (fX11_records sh G26 l0).bind fun G28 => some (r25, G28) else some ((-2), G8)
set_option maxHeartbeats 4000000 in
theorem tX11_send {E : EX} {ad : Nat → Nat} {sh : Sh} {G : Hp} {l0 : Nat} {l1 : Int32} {l2 : Int32} {l3 : Int32} {z : Int32 × Hp} (C : Cx E RX11 cX11_send 6 (some .int) 4 0 0) (hC : Cl sh G) (h_l0 : sh[l0]? = some (0, 11)) (hf : fX11_send sh G l0 l1 l2 l3 = some z) (kr : RCi E cX11_send ad sh (z.1) (z.2)) : VV E 0 0 (wq (xT E) ad G sh) 0 [(0, .ref (ad l0)), (1, .int l1), (2, .int l2), (3, .int l3)] [] := by
  unfold fX11_send at hf
  refine v_aload_n C 0 dX11_send_0 rfl rfl ?_
  refine v_iload_n C 1 dX11_send_1 rfl rfl ?_
  obtain ⟨r1, qr1, hf⟩ := bn hf
  refine v_callVi (As := [.int l1]) (rest := []) C (sX11_isBridge h_l0 qr1) cs_X11_431 (by decide) h_l0 rfl hC rfl rfl rfl (Nat.le_of_ble_eq_true rfl) ⟨Nat.le_refl _, Nat.le_refl _⟩ dX11_send_2 (fun hC => ?_)
  refine v_if_eq (tgt := 24) C dX11_send_5 (by decide) (fun c2 => ?_) (fun c2 => ?_)
  · have hf := ip hf c2
    refine v_iconst (v := (-1)) C dX11_send_24 (by decide) ?_
    cases hf
    exact kr _ _ dX11_send_25 hC
  · have hf := im hf c2
    refine v_aload_n C 0 dX11_send_8 rfl rfl ?_
    refine v_iload_n C 2 dX11_send_9 rfl rfl ?_
    obtain ⟨r3, qr3, hf⟩ := bn hf
    refine v_callVi (As := [.int l2]) (rest := []) C (sX11_isBeing h_l0 qr3) cs_X11_419 (by decide) h_l0 rfl hC rfl rfl rfl (Nat.le_of_ble_eq_true rfl) ⟨Nat.le_refl _, Nat.le_refl _⟩ dX11_send_10 (fun hC => ?_)
    refine v_if_eq (tgt := 24) C dX11_send_13 (by decide) (fun c4 => ?_) (fun c4 => ?_)
    · have hf := ip hf c4
      refine v_iconst (v := (-1)) C dX11_send_24 (by decide) ?_
      cases hf
      exact kr _ _ dX11_send_25 hC
    · have hf := im hf c4
      refine v_aload_n C 0 dX11_send_16 rfl rfl ?_
      refine v_iload_n C 3 dX11_send_17 rfl rfl ?_
      obtain ⟨r5, qr5, hf⟩ := bn hf
      refine v_callVi (As := [.int l3]) (rest := []) C (sX11_isSome h_l0 qr5) cs_X11_425 (by decide) h_l0 rfl hC rfl rfl rfl (Nat.le_of_ble_eq_true rfl) ⟨Nat.le_refl _, Nat.le_refl _⟩ dX11_send_18 (fun hC => ?_)
      refine v_if_ne (tgt := 26) C dX11_send_21 (by decide) (fun c6 => ?_) (fun c6 => ?_)
      · have hf := im hf c6
        refine v_aload_n C 0 dX11_send_26 rfl rfl ?_
        obtain ⟨G8, qr7, hf⟩ := bn hf
        refine v_callVv (As := []) (rest := []) C (sX11_copies h_l0 qr7) cs_X11_434 (by decide) h_l0 rfl hC rfl rfl rfl (Nat.le_of_ble_eq_true rfl) ⟨Nat.le_refl _, Nat.le_refl _⟩ dX11_send_27 (fun hC => ?_)
        refine v_aload_n C 0 dX11_send_30 rfl rfl ?_
        obtain ⟨a9, qa9, hf⟩ := bn hf
        refine v_getA C h_l0 fl_X11_137 qa9 dX11_send_31 (fun h_a9 => ?_)
        refine v_iconst (v := 4) C dX11_send_34 (by decide) ?_
        refine v_iload_n C 1 dX11_send_35 rfl rfl ?_
        refine v_iadd C dX11_send_36 ?_
        obtain ⟨v10, qv10, hf⟩ := bn hf
        refine v_iald C h_a9 qv10 dX11_send_37 ?_
        refine v_if_ne (tgt := 55) C dX11_send_38 (by decide) (fun c11 => ?_) (fun c11 => ?_)
        · have hf := im hf c11
          refine v_bipush (v := (-2)) C dX11_send_55 (by decide) ?_
          cases hf
          exact kr _ _ dX11_send_57 hC
        · have hf := ip hf c11
          refine v_aload_n C 0 dX11_send_41 rfl rfl ?_
          obtain ⟨a12, qa12, hf⟩ := bn hf
          refine v_getA C h_l0 fl_X11_137 qa12 dX11_send_42 (fun h_a12 => ?_)
          refine v_bipush (v := 25) C dX11_send_45 (by decide) ?_
          obtain ⟨v13, qv13, hf⟩ := bn hf
          refine v_iald C h_a12 qv13 dX11_send_47 ?_
          refine v_iload_n C 2 dX11_send_48 rfl rfl ?_
          refine v_ishr C dX11_send_49 ?_
          refine v_iconst (v := 1) C dX11_send_50 (by decide) ?_
          refine v_iand C dX11_send_51 ?_
          refine v_if_ne (tgt := 58) C dX11_send_52 (by decide) (fun c14 => ?_) (fun c14 => ?_)
          · have hf := im hf c14
            refine v_aload_n C 0 dX11_send_58 rfl rfl ?_
            refine v_iload_n C 2 dX11_send_59 rfl rfl ?_
            refine v_iload_n C 3 dX11_send_60 rfl rfl ?_
            obtain ⟨r15, qr15, hf⟩ := bn hf
            refine v_callVi (As := [.int l2, .int l3]) (rest := []) C (sX11_setOf h_l0 qr15) cs_X11_428 (by decide) h_l0 rfl hC rfl rfl rfl (Nat.le_of_ble_eq_true rfl) ⟨Nat.le_refl _, Nat.le_refl _⟩ dX11_send_61 (fun hC => ?_)
            refine v_istore (lv2 := [(4, .int r15), (0, .ref (ad l0)), (1, .int l1), (2, .int l2), (3, .int l3)]) C dX11_send_64 (by decide) rfl ?_
            refine v_aload_n C 1 dX11_send_66 rfl rfl ?_
            obtain ⟨a16, qa16, hf⟩ := bn hf
            refine v_getA C h_l0 fl_X11_137 qa16 dX11_send_67 (fun h_a16 => ?_)
            refine v_bipush (v := 22) C dX11_send_70 (by decide) ?_
            refine v_dup2 C dX11_send_72 rfl rfl ?_
            obtain ⟨v17, qv17, hf⟩ := bn hf
            refine v_iald C h_a16 qv17 dX11_send_73 ?_
            refine v_aload_n C 1 dX11_send_74 rfl rfl ?_
            refine v_iload_n C 4 dX11_send_75 rfl rfl ?_
            obtain ⟨r18, qr18, hf⟩ := bn hf
            refine v_callVi (As := [.int l3]) (rest := [.int v17, .int 22, .ref (ad a16)]) C (sX11_costBy h_l0 qr18) cs_X11_449 (by decide) h_l0 rfl hC rfl rfl rfl (Nat.le_of_ble_eq_true rfl) ⟨Nat.le_refl _, Nat.le_refl _⟩ dX11_send_76 (fun hC => ?_)
            refine v_iadd C dX11_send_79 ?_
            obtain ⟨G19, qG19, hf⟩ := bn hf
            refine v_iast C h_a16 qG19 hC dX11_send_80 (fun hC => ?_)
            refine v_aload_n C 1 dX11_send_81 rfl rfl ?_
            refine v_iload_n C 2 dX11_send_82 rfl rfl ?_
            refine v_iload C 0 dX11_send_83 rfl ?_
            obtain ⟨r20, G21, qr20, hf⟩ := bpn hf
            refine v_callVi (As := [.int l1, .int r15]) (rest := []) C (sX11_isTaken h_l0 qr20) cs_X11_452 (by decide) h_l0 rfl hC rfl rfl rfl (Nat.le_of_ble_eq_true rfl) ⟨Nat.le_refl _, Nat.le_refl _⟩ dX11_send_85 (fun hC => ?_)
            refine v_if_eq (tgt := 102) C dX11_send_88 (by decide) (fun c22 => ?_) (fun c22 => ?_)
            · have hf := ip hf c22
              refine v_iconst (v := 0) C dX11_send_102 (by decide) ?_
              refine v_istore (lv2 := [(5, .int 0), (4, .int r15), (0, .ref (ad l0)), (1, .int l1), (2, .int l2), (3, .int l3)]) C dX11_send_103 (by decide) rfl ?_
              refine v_aload_n C 2 dX11_send_105 rfl rfl ?_
              obtain ⟨G24, qr23, hf⟩ := bn hf
              refine v_callVv (As := []) (rest := []) C (sX11_records h_l0 qr23) cs_X11_458 (by decide) h_l0 rfl hC rfl rfl rfl (Nat.le_of_ble_eq_true rfl) ⟨Nat.le_refl _, Nat.le_refl _⟩ dX11_send_106 (fun hC => ?_)
              refine v_iload C 0 dX11_send_109 rfl ?_
              cases hf
              exact kr _ _ dX11_send_111 hC
            · have hf := im hf c22
              refine v_aload_n C 1 dX11_send_91 rfl rfl ?_
              refine v_iload_n C 2 dX11_send_92 rfl rfl ?_
              refine v_iload_n C 3 dX11_send_93 rfl rfl ?_
              refine v_iload C 0 dX11_send_94 rfl ?_
              obtain ⟨r25, G26, qr25, hf⟩ := bpn hf
              refine v_callVi (As := [.int l1, .int l2, .int r15]) (rest := []) C (sX11_goesOver h_l0 qr25) cs_X11_455 (by decide) h_l0 rfl hC rfl rfl rfl (Nat.le_of_ble_eq_true rfl) ⟨Nat.le_refl _, Nat.le_refl _⟩ dX11_send_96 (fun hC => ?_)
              refine v_goto (tgt := 103) C dX11_send_99 (by decide) ?_
              refine v_istore (lv2 := [(5, .int r25), (4, .int r15), (0, .ref (ad l0)), (1, .int l1), (2, .int l2), (3, .int l3)]) C dX11_send_103 (by decide) rfl ?_
              refine v_aload_n C 2 dX11_send_105 rfl rfl ?_
              obtain ⟨G28, qr27, hf⟩ := bn hf
              refine v_callVv (As := []) (rest := []) C (sX11_records h_l0 qr27) cs_X11_458 (by decide) h_l0 rfl hC rfl rfl rfl (Nat.le_of_ble_eq_true rfl) ⟨Nat.le_refl _, Nat.le_refl _⟩ dX11_send_106 (fun hC => ?_)
              refine v_iload C 0 dX11_send_109 rfl ?_
              cases hf
              exact kr _ _ dX11_send_111 hC
          · have hf := ip hf c14
            refine v_bipush (v := (-2)) C dX11_send_55 (by decide) ?_
            cases hf
            exact kr _ _ dX11_send_57 hC
      · have hf := ip hf c6
        refine v_iconst (v := (-1)) C dX11_send_24 (by decide) ?_
        cases hf
        exact kr _ _ dX11_send_25 hC
theorem sX11_send {l : Launch} {sh : Sh} {G : Hp} {l0 : Nat} {l1 : Int32} {l2 : Int32} {l3 : Int32} {z : Int32 × Hp} (h_l0 : sh[l0]? = some (0, 11)) (hf : fX11_send sh G l0 l1 l2 l3 = some z) : MC l yX11_send cX11_send 6 (some .int) 4 0 0 sh sh G (z.2) (fun ad => [.ref (ad l0), .int l1, .int l2, .int l3]) (fun _ => some (.int z.1)) := by
  refine MC_of rfl rfl (fun _ => Nat.le_of_ble_eq_true rfl) (fun E ad C hl hnm hC hQ => ?_)
  exact tX11_send C hC h_l0 hf (fun pc lv hd hC => v_iret C hQ (fun _ _ => rfl) hC rfl hd)
