def fX11_tellBeing_S43 (sh : Sh) (l0 : Nat) (l1 : Int32) (l2 : Int32) (G : Hp)  : Option ((Hp) ⊕ ((Hp))) := if (G.1 l0 13) = 0 then (fX11_is sh G l0 1).bind fun r2 => if r2 = 0 then some (.inr G) else (ldA sh G l0 26 1).bind fun a4 => (aI sh G a4 l1).bind fun v5 => bp (fX11_knownTrait sh G l0) fun r6 G7 => (asI sh G7 a4 l1 (v5 ||| r6)).bind fun G8 => some (.inl G8) else some (.inr G)
set_option maxHeartbeats 4000000 in
theorem tX11_tellBeing_S43 {E : EX} {ad : Nat → Nat} {sh : Sh} {G : Hp} {l0 : Nat} {l1 : Int32} {l2 : Int32} {o : (Hp) ⊕ ((Hp))} (C : Cx E RX11 cX11_tellBeing 3 none 5 0 0) (hC : Cl sh G) (h_l0 : sh[l0]? = some (0, 11)) (hf : fX11_tellBeing_S43 sh l0 l1 l2 G  = some o) (kb : ∀ (G2 : Hp), o = .inl G2 → Cl sh G2 → VV E 0 0 (wq (xT E) ad G2 sh) 43 [(0, .ref (ad l0)), (1, .int l1), (2, .int l2)] []) (kx74 : ∀ (G2 : Hp), o = .inr G2 → Cl sh G2 → VV E 0 0 (wq (xT E) ad G2 sh) 74 [(0, .ref (ad l0)), (1, .int l1), (2, .int l2)] []) : VV E 0 0 (wq (xT E) ad G sh) 43 [(0, .ref (ad l0)), (1, .int l1), (2, .int l2)] [] := by
  unfold fX11_tellBeing_S43 at hf
  refine v_aload_n C 0 dX11_tellBeing_43 rfl rfl ?_
  refine v_getI C h_l0 fl_X11_227 dX11_tellBeing_44 ?_
  refine v_if_ne (tgt := 74) C dX11_tellBeing_47 (by decide) (fun c1 => ?_) (fun c1 => ?_)
  · have hf := im hf c1
    cases hf
    refine v_sub [0, 1, 2] rfl ?_
    exact kx74 _ rfl hC
  · have hf := ip hf c1
    refine v_aload_n C 0 dX11_tellBeing_50 rfl rfl ?_
    refine v_iconst (v := 1) C dX11_tellBeing_51 (by decide) ?_
    obtain ⟨r2, qr2, hf⟩ := bn hf
    refine v_callVi (As := [.int 1]) (rest := []) C (sX11_is h_l0 qr2) cs_X11_245 (by decide) h_l0 rfl hC rfl rfl rfl (Nat.le_of_ble_eq_true rfl) ⟨Nat.le_refl _, Nat.le_refl _⟩ dX11_tellBeing_52 (fun hC => ?_)
    refine v_if_eq (tgt := 74) C dX11_tellBeing_55 (by decide) (fun c3 => ?_) (fun c3 => ?_)
    · have hf := ip hf c3
      cases hf
      refine v_sub [0, 1, 2] rfl ?_
      exact kx74 _ rfl hC
    · have hf := im hf c3
      refine v_aload_n C 0 dX11_tellBeing_58 rfl rfl ?_
      obtain ⟨a4, qa4, hf⟩ := bn hf
      refine v_getA C h_l0 fl_X11_55 qa4 dX11_tellBeing_59 (fun h_a4 => ?_)
      refine v_iload_n C 1 dX11_tellBeing_62 rfl rfl ?_
      refine v_dup2 C dX11_tellBeing_63 rfl rfl ?_
      obtain ⟨v5, qv5, hf⟩ := bn hf
      refine v_iald C h_a4 qv5 dX11_tellBeing_64 ?_
      refine v_aload_n C 0 dX11_tellBeing_65 rfl rfl ?_
      obtain ⟨r6, G7, qr6, hf⟩ := bpn hf
      refine v_callVi (As := []) (rest := [.int v5, .int l1, .ref (ad a4)]) C (sX11_knownTrait h_l0 qr6) cs_X11_317 (by decide) h_l0 rfl hC rfl rfl rfl (Nat.le_of_ble_eq_true rfl) ⟨Nat.le_refl _, Nat.le_refl _⟩ dX11_tellBeing_66 (fun hC => ?_)
      refine v_ior C dX11_tellBeing_69 ?_
      obtain ⟨G8, qG8, hf⟩ := bn hf
      refine v_iast C h_a4 qG8 hC dX11_tellBeing_70 (fun hC => ?_)
      refine v_goto (tgt := 43) C dX11_tellBeing_71 (by decide) ?_
      cases hf
      refine v_sub [0, 1, 2] rfl ?_
      exact kb _ rfl hC
def fX11_tellBeing_J74 (sh : Sh) (G : Hp) (l0 : Nat) (l2 : Int32) : Option (Hp) := (fX11_ends sh G l0 l2 (-1)).bind fun G2 => if (G2.1 l0 13) = 0 then (ldA sh G2 l0 24 1).bind fun a4 => bd ((G2.1 l0 19) : Int32) fun x5 => (aI sh G2 a4 x5).bind fun v6 => (asI sh G2 a4 x5 (v6 + 1)).bind fun G7 => some G7 else some G2
set_option maxHeartbeats 4000000 in
theorem tX11_tellBeing_J74 {E : EX} {ad : Nat → Nat} {sh : Sh} {G : Hp} {l0 : Nat} {l2 : Int32} {z : Hp} (C : Cx E RX11 cX11_tellBeing 3 none 5 0 0) (hC : Cl sh G) (h_l0 : sh[l0]? = some (0, 11)) (hf : fX11_tellBeing_J74 sh G l0 l2 = some z) (kr : RCv E cX11_tellBeing ad sh z) : VV E 0 0 (wq (xT E) ad G sh) 74 [(0, .ref (ad l0)), (2, .int l2)] [] := by
  unfold fX11_tellBeing_J74 at hf
  refine v_aload_n C 0 dX11_tellBeing_74 rfl rfl ?_
  refine v_iload_n C 1 dX11_tellBeing_75 rfl rfl ?_
  refine v_iconst (v := (-1)) C dX11_tellBeing_76 (by decide) ?_
  obtain ⟨G2, qr1, hf⟩ := bn hf
  refine v_callVv (As := [.int l2, .int (-1)]) (rest := []) C (sX11_ends h_l0 qr1) cs_X11_292 (by decide) h_l0 rfl hC rfl rfl rfl (Nat.le_of_ble_eq_true rfl) ⟨Nat.le_refl _, Nat.le_refl _⟩ dX11_tellBeing_77 (fun hC => ?_)
  refine v_aload_n C 0 dX11_tellBeing_80 rfl rfl ?_
  refine v_getI C h_l0 fl_X11_227 dX11_tellBeing_81 ?_
  refine v_if_ne (tgt := 100) C dX11_tellBeing_84 (by decide) (fun c3 => ?_) (fun c3 => ?_)
  · have hf := im hf c3
    cases hf
    exact kr _ _ dX11_tellBeing_100 hC
  · have hf := ip hf c3
    refine v_aload_n C 0 dX11_tellBeing_87 rfl rfl ?_
    obtain ⟨a4, qa4, hf⟩ := bn hf
    refine v_getA C h_l0 fl_X11_49 qa4 dX11_tellBeing_88 (fun h_a4 => ?_)
    refine v_aload_n C 0 dX11_tellBeing_91 rfl rfl ?_
    refine v_getI C h_l0 fl_X11_260 dX11_tellBeing_92 ?_
    refine v_topi (fun x5 ex5 => ?_)
    have hf := bd_at hf ex5
    refine v_dup2 C dX11_tellBeing_95 rfl rfl ?_
    obtain ⟨v6, qv6, hf⟩ := bn hf
    refine v_iald C h_a4 qv6 dX11_tellBeing_96 ?_
    refine v_iconst (v := 1) C dX11_tellBeing_97 (by decide) ?_
    refine v_iadd C dX11_tellBeing_98 ?_
    obtain ⟨G7, qG7, hf⟩ := bn hf
    refine v_iast C h_a4 qG7 hC dX11_tellBeing_99 (fun hC => ?_)
    cases hf
    exact kr _ _ dX11_tellBeing_100 hC
def fX11_tellBeing (sh : Sh) (G : Hp) (l0 : Nat) : Option (Hp) := (ldA sh G l0 24 1).bind fun a1 => (aI sh G a1 (G.1 l0 19)).bind fun v2 => bd ((((7 : Int32) * (G.1 l0 19)) + v2) : Int32) fun x3 => bp (fX11_named sh G l0) fun r4 G5 => (ldA sh G5 l0 25 1).bind fun a6 => bp (fX11_bounded sh G5 l0 0 99) fun r7 G8 => (asI sh G8 a6 x3 r7).bind fun G9 => (ldA sh G9 l0 26 1).bind fun a10 => (asI sh G9 a10 x3 0).bind fun G11 => (iter (fun s : Hp => fX11_tellBeing_S43 sh l0 x3 r4 s ) fuel (G11 : Hp)).bind (fun u14 => bd u14 fun G13 => fX11_tellBeing_J74 sh G13 l0 r4)
set_option maxHeartbeats 4000000 in
theorem tX11_tellBeing {E : EX} {ad : Nat → Nat} {sh : Sh} {G : Hp} {l0 : Nat} {z : Hp} (C : Cx E RX11 cX11_tellBeing 3 none 5 0 0) (hC : Cl sh G) (h_l0 : sh[l0]? = some (0, 11)) (hf : fX11_tellBeing sh G l0 = some z) (kr : RCv E cX11_tellBeing ad sh z) : VV E 0 0 (wq (xT E) ad G sh) 0 [(0, .ref (ad l0))] [] := by
  unfold fX11_tellBeing at hf
  refine v_bipush (v := 7) C dX11_tellBeing_0 (by decide) ?_
  refine v_aload_n C 0 dX11_tellBeing_2 rfl rfl ?_
  refine v_getI C h_l0 fl_X11_260 dX11_tellBeing_3 ?_
  refine v_imul C dX11_tellBeing_6 ?_
  refine v_aload_n C 0 dX11_tellBeing_7 rfl rfl ?_
  obtain ⟨a1, qa1, hf⟩ := bn hf
  refine v_getA C h_l0 fl_X11_49 qa1 dX11_tellBeing_8 (fun h_a1 => ?_)
  refine v_aload_n C 0 dX11_tellBeing_11 rfl rfl ?_
  refine v_getI C h_l0 fl_X11_260 dX11_tellBeing_12 ?_
  obtain ⟨v2, qv2, hf⟩ := bn hf
  refine v_iald C h_a1 qv2 dX11_tellBeing_15 ?_
  refine v_iadd C dX11_tellBeing_16 ?_
  refine v_topi (fun x3 ex3 => ?_)
  have hf := bd_at hf ex3
  refine v_istore_n (lv2 := [(1, .int x3), (0, .ref (ad l0))]) C dX11_tellBeing_17 rfl (by decide) rfl ?_
  refine v_aload_n C 1 dX11_tellBeing_18 rfl rfl ?_
  obtain ⟨r4, G5, qr4, hf⟩ := bpn hf
  refine v_callVi (As := []) (rest := []) C (sX11_named h_l0 qr4) cs_X11_288 (by decide) h_l0 rfl hC rfl rfl rfl (Nat.le_of_ble_eq_true rfl) ⟨Nat.le_refl _, Nat.le_refl _⟩ dX11_tellBeing_19 (fun hC => ?_)
  refine v_istore_n (lv2 := [(2, .int r4), (1, .int x3), (0, .ref (ad l0))]) C dX11_tellBeing_22 rfl (by decide) rfl ?_
  refine v_aload_n C 2 dX11_tellBeing_23 rfl rfl ?_
  obtain ⟨a6, qa6, hf⟩ := bn hf
  refine v_getA C h_l0 fl_X11_52 qa6 dX11_tellBeing_24 (fun h_a6 => ?_)
  refine v_iload_n C 1 dX11_tellBeing_27 rfl rfl ?_
  refine v_aload_n C 2 dX11_tellBeing_28 rfl rfl ?_
  refine v_iconst (v := 0) C dX11_tellBeing_29 (by decide) ?_
  refine v_bipush (v := 99) C dX11_tellBeing_30 (by decide) ?_
  obtain ⟨r7, G8, qr7, hf⟩ := bpn hf
  refine v_callVi (As := [.int 0, .int 99]) (rest := [.int x3, .ref (ad a6)]) C (sX11_bounded h_l0 qr7) cs_X11_304 (by decide) h_l0 rfl hC rfl rfl rfl (Nat.le_of_ble_eq_true rfl) ⟨Nat.le_refl _, Nat.le_refl _⟩ dX11_tellBeing_32 (fun hC => ?_)
  obtain ⟨G9, qG9, hf⟩ := bn hf
  refine v_iast C h_a6 qG9 hC dX11_tellBeing_35 (fun hC => ?_)
  refine v_aload_n C 2 dX11_tellBeing_36 rfl rfl ?_
  obtain ⟨a10, qa10, hf⟩ := bn hf
  refine v_getA C h_l0 fl_X11_55 qa10 dX11_tellBeing_37 (fun h_a10 => ?_)
  refine v_iload_n C 1 dX11_tellBeing_40 rfl rfl ?_
  refine v_iconst (v := 0) C dX11_tellBeing_41 (by decide) ?_
  obtain ⟨G11, qG11, hf⟩ := bn hf
  refine v_iast C h_a10 qG11 hC dX11_tellBeing_42 (fun hC => ?_)
  obtain ⟨r12, qr12, hf⟩ := bn hf
  refine v_sub [2, 1, 0] rfl ?_
  refine iter_sound (P := (fun s : Hp => Cl sh (s) → VV E 0 0 (wq (xT E) ad (s) sh) 43 [(0, .ref (ad l0)), (1, .int (x3)), (2, .int (r4))] [])) (X := fun r => r = r12) (fun jsr12 jor12 hor12 jbr12 jxr12 hC => tX11_tellBeing_S43 C hC h_l0 hor12 (fun _ e => jbr12 _ e) ?_) fuel _ r12 qr12 rfl hC
  · intro G13 hu hC
    have e := jxr12 _ hu
    subst e
    have hf := bd_at hf (rfl : G13 = _)
    refine v_sub [0, 2] rfl ?_
    exact tX11_tellBeing_J74 C hC h_l0 hf kr
theorem sX11_tellBeing {l : Launch} {sh : Sh} {G : Hp} {l0 : Nat} {z : Hp} (h_l0 : sh[l0]? = some (0, 11)) (hf : fX11_tellBeing sh G l0 = some z) : MC l yX11_tellBeing cX11_tellBeing 3 none 5 0 0 sh sh G z (fun ad => [.ref (ad l0)]) (fun _ => none) := by
  refine MC_of rfl rfl (fun _ => Nat.le_of_ble_eq_true rfl) (fun E ad C hl hnm hC hQ => ?_)
  exact tX11_tellBeing C hC h_l0 hf (fun pc lv hd hC => v_vret C hQ (fun _ _ => rfl) hC rfl hd)
def fX11_tellWay_J123L49 (sh : Sh) (G : Hp) (l0 : Nat) (l1 : Int32) (l2 : Int32) (l3 : Int32) (l4 : Int32) (s0 : Int32) (s1 : Int32) (s2 : Nat) : Option ((Hp) ⊕ ((Hp))) := (asI sh G s2 s1 s0).bind fun G1 => (ldA sh G1 l0 30 1).bind fun a2 => if l3 = 0 then (ldA sh G1 l0 30 1).bind fun a4 => (aI sh G1 a4 l1).bind fun v5 => (asI sh G1 a2 l1 (v5 ||| l4)).bind fun G6 => some (.inl G6) else (ldA sh G1 l0 30 1).bind fun a7 => (aI sh G1 a7 l1).bind fun v8 => (asI sh G1 a2 l1 (v8 &&& (l4 ^^^ (-1)))).bind fun G9 => some (.inl G9)
set_option maxHeartbeats 4000000 in
theorem tX11_tellWay_J123L49 {E : EX} {ad : Nat → Nat} {sh : Sh} {G : Hp} {l0 : Nat} {l1 : Int32} {l2 : Int32} {l3 : Int32} {l4 : Int32} {s0 : Int32} {s1 : Int32} {s2 : Nat} {o : (Hp) ⊕ ((Hp))} (C : Cx E RX11 cX11_tellWay 5 none 5 0 0) (hC : Cl sh G) (h_l0 : sh[l0]? = some (0, 11)) (h_s2 : tg sh s2 1) (hf : fX11_tellWay_J123L49 sh G l0 l1 l2 l3 l4 s0 s1 s2 = some o) (kb : ∀ (G2 : Hp), o = .inl G2 → Cl sh G2 → VV E 0 0 (wq (xT E) ad G2 sh) 49 [(0, .ref (ad l0)), (1, .int l1), (2, .int l2)] []) (kx160 : ∀ (G2 : Hp), o = .inr G2 → Cl sh G2 → VV E 0 0 (wq (xT E) ad G2 sh) 160 [(0, .ref (ad l0)), (1, .int l1), (2, .int l2)] []) : VV E 0 0 (wq (xT E) ad G sh) 123 [(0, .ref (ad l0)), (1, .int l1), (2, .int l2), (3, .int l3), (4, .int l4)] [.int s0, .int s1, .ref (ad s2)] := by
  unfold fX11_tellWay_J123L49 at hf
  obtain ⟨G1, qG1, hf⟩ := bn hf
  refine v_iast C h_s2 qG1 hC dX11_tellWay_123 (fun hC => ?_)
  refine v_aload_n C 0 dX11_tellWay_124 rfl rfl ?_
  obtain ⟨a2, qa2, hf⟩ := bn hf
  refine v_getA C h_l0 fl_X11_67 qa2 dX11_tellWay_125 (fun h_a2 => ?_)
  refine v_iload_n C 1 dX11_tellWay_128 rfl rfl ?_
  refine v_iload_n C 3 dX11_tellWay_129 rfl rfl ?_
  refine v_if_eq (tgt := 147) C dX11_tellWay_130 (by decide) (fun c3 => ?_) (fun c3 => ?_)
  · have hf := ip hf c3
    refine v_aload_n C 0 dX11_tellWay_147 rfl rfl ?_
    obtain ⟨a4, qa4, hf⟩ := bn hf
    refine v_getA C h_l0 fl_X11_67 qa4 dX11_tellWay_148 (fun h_a4 => ?_)
    refine v_iload_n C 1 dX11_tellWay_151 rfl rfl ?_
    obtain ⟨v5, qv5, hf⟩ := bn hf
    refine v_iald C h_a4 qv5 dX11_tellWay_152 ?_
    refine v_iload C 4 dX11_tellWay_153 rfl ?_
    refine v_ior C dX11_tellWay_155 ?_
    obtain ⟨G6, qG6, hf⟩ := bn hf
    refine v_iast C h_a2 qG6 hC dX11_tellWay_156 (fun hC => ?_)
    refine v_goto (tgt := 49) C dX11_tellWay_157 (by decide) ?_
    cases hf
    refine v_sub [0, 1, 2] rfl ?_
    exact kb _ rfl hC
  · have hf := im hf c3
    refine v_aload_n C 0 dX11_tellWay_133 rfl rfl ?_
    obtain ⟨a7, qa7, hf⟩ := bn hf
    refine v_getA C h_l0 fl_X11_67 qa7 dX11_tellWay_134 (fun h_a7 => ?_)
    refine v_iload_n C 1 dX11_tellWay_137 rfl rfl ?_
    obtain ⟨v8, qv8, hf⟩ := bn hf
    refine v_iald C h_a7 qv8 dX11_tellWay_138 ?_
    refine v_iload C 4 dX11_tellWay_139 rfl ?_
    refine v_iconst (v := (-1)) C dX11_tellWay_141 (by decide) ?_
    refine v_ixor C dX11_tellWay_142 ?_
    refine v_iand C dX11_tellWay_143 ?_
    refine v_goto (tgt := 156) C dX11_tellWay_144 (by decide) ?_
    obtain ⟨G9, qG9, hf⟩ := bn hf
    refine v_iast C h_a2 qG9 hC dX11_tellWay_156 (fun hC => ?_)
    refine v_goto (tgt := 49) C dX11_tellWay_157 (by decide) ?_
    cases hf
    refine v_sub [0, 1, 2] rfl ?_
    exact kb _ rfl hC
def fX11_tellWay_J74L49 (sh : Sh) (G : Hp) (l0 : Nat) (l1 : Int32) (l2 : Int32) : Option ((Hp) ⊕ ((Hp))) := (fX11_is sh G l0 24).bind fun r1 => (fX11_goesOn sh G l0).bind fun G3 => bp (fX11_knownTrait sh G3 l0) fun r4 G5 => (ldA sh G5 l0 29 1).bind fun a6 => if r1 = 0 then (ldA sh G5 l0 29 1).bind fun a8 => (aI sh G5 a8 l1).bind fun v9 => fX11_tellWay_J123L49 sh G5 l0 l1 l2 r1 r4 (v9 &&& (r4 ^^^ (-1))) l1 a6 else (ldA sh G5 l0 29 1).bind fun a10 => (aI sh G5 a10 l1).bind fun v11 => fX11_tellWay_J123L49 sh G5 l0 l1 l2 r1 r4 (v11 ||| r4) l1 a6
set_option maxHeartbeats 4000000 in
theorem tX11_tellWay_J74L49 {E : EX} {ad : Nat → Nat} {sh : Sh} {G : Hp} {l0 : Nat} {l1 : Int32} {l2 : Int32} {o : (Hp) ⊕ ((Hp))} (C : Cx E RX11 cX11_tellWay 5 none 5 0 0) (hC : Cl sh G) (h_l0 : sh[l0]? = some (0, 11)) (hf : fX11_tellWay_J74L49 sh G l0 l1 l2 = some o) (kb : ∀ (G2 : Hp), o = .inl G2 → Cl sh G2 → VV E 0 0 (wq (xT E) ad G2 sh) 49 [(0, .ref (ad l0)), (1, .int l1), (2, .int l2)] []) (kx160 : ∀ (G2 : Hp), o = .inr G2 → Cl sh G2 → VV E 0 0 (wq (xT E) ad G2 sh) 160 [(0, .ref (ad l0)), (1, .int l1), (2, .int l2)] []) : VV E 0 0 (wq (xT E) ad G sh) 74 [(0, .ref (ad l0)), (1, .int l1), (2, .int l2)] [] := by
  unfold fX11_tellWay_J74L49 at hf
  refine v_aload_n C 0 dX11_tellWay_74 rfl rfl ?_
  refine v_bipush (v := 24) C dX11_tellWay_75 (by decide) ?_
  obtain ⟨r1, qr1, hf⟩ := bn hf
  refine v_callVi (As := [.int 24]) (rest := []) C (sX11_is h_l0 qr1) cs_X11_245 (by decide) h_l0 rfl hC rfl rfl rfl (Nat.le_of_ble_eq_true rfl) ⟨Nat.le_refl _, Nat.le_refl _⟩ dX11_tellWay_77 (fun hC => ?_)
  refine v_istore_n (lv2 := [(3, .int r1), (0, .ref (ad l0)), (1, .int l1), (2, .int l2)]) C dX11_tellWay_80 rfl (by decide) rfl ?_
  refine v_aload_n C 1 dX11_tellWay_81 rfl rfl ?_
  obtain ⟨G3, qr2, hf⟩ := bn hf
  refine v_callVv (As := []) (rest := []) C (sX11_goesOn h_l0 qr2) cs_X11_248 (by decide) h_l0 rfl hC rfl rfl rfl (Nat.le_of_ble_eq_true rfl) ⟨Nat.le_refl _, Nat.le_refl _⟩ dX11_tellWay_82 (fun hC => ?_)
  refine v_aload_n C 1 dX11_tellWay_85 rfl rfl ?_
  obtain ⟨r4, G5, qr4, hf⟩ := bpn hf
  refine v_callVi (As := []) (rest := []) C (sX11_knownTrait h_l0 qr4) cs_X11_317 (by decide) h_l0 rfl hC rfl rfl rfl (Nat.le_of_ble_eq_true rfl) ⟨Nat.le_refl _, Nat.le_refl _⟩ dX11_tellWay_86 (fun hC => ?_)
  refine v_istore (lv2 := [(4, .int r4), (3, .int r1), (0, .ref (ad l0)), (1, .int l1), (2, .int l2)]) C dX11_tellWay_89 (by decide) rfl ?_
  refine v_aload_n C 2 dX11_tellWay_91 rfl rfl ?_
  obtain ⟨a6, qa6, hf⟩ := bn hf
  refine v_getA C h_l0 fl_X11_64 qa6 dX11_tellWay_92 (fun h_a6 => ?_)
  refine v_iload_n C 3 dX11_tellWay_95 rfl rfl ?_
  refine v_iload_n C 1 dX11_tellWay_96 rfl rfl ?_
  refine v_if_eq (tgt := 112) C dX11_tellWay_97 (by decide) (fun c7 => ?_) (fun c7 => ?_)
  · have hf := ip hf c7
    refine v_aload_n C 2 dX11_tellWay_112 rfl rfl ?_
    obtain ⟨a8, qa8, hf⟩ := bn hf
    refine v_getA C h_l0 fl_X11_64 qa8 dX11_tellWay_113 (fun h_a8 => ?_)
    refine v_iload_n C 3 dX11_tellWay_116 rfl rfl ?_
    obtain ⟨v9, qv9, hf⟩ := bn hf
    refine v_iald C h_a8 qv9 dX11_tellWay_117 ?_
    refine v_iload C 0 dX11_tellWay_118 rfl ?_
    refine v_iconst (v := (-1)) C dX11_tellWay_120 (by decide) ?_
    refine v_ixor C dX11_tellWay_121 ?_
    refine v_iand C dX11_tellWay_122 ?_
    refine v_sub [2, 3, 4, 1, 0] rfl ?_
    exact tX11_tellWay_J123L49 C hC h_l0 h_a6 hf kb kx160
  · have hf := im hf c7
    refine v_aload_n C 2 dX11_tellWay_100 rfl rfl ?_
    obtain ⟨a10, qa10, hf⟩ := bn hf
    refine v_getA C h_l0 fl_X11_64 qa10 dX11_tellWay_101 (fun h_a10 => ?_)
    refine v_iload_n C 3 dX11_tellWay_104 rfl rfl ?_
    obtain ⟨v11, qv11, hf⟩ := bn hf
    refine v_iald C h_a10 qv11 dX11_tellWay_105 ?_
    refine v_iload C 0 dX11_tellWay_106 rfl ?_
    refine v_ior C dX11_tellWay_108 ?_
    refine v_goto (tgt := 123) C dX11_tellWay_109 (by decide) ?_
    refine v_sub [2, 3, 4, 1, 0] rfl ?_
    exact tX11_tellWay_J123L49 C hC h_l0 h_a6 hf kb kx160
def fX11_tellWay_S49 (sh : Sh) (l0 : Nat) (l1 : Int32) (l2 : Int32) (G : Hp)  : Option ((Hp) ⊕ ((Hp))) := if (G.1 l0 13) = 0 then (fX11_is sh G l0 24).bind fun r2 => if r2 = 0 then (fX11_is sh G l0 25).bind fun r4 => if r4 = 0 then some (.inr G) else fX11_tellWay_J74L49 sh G l0 l1 l2 else fX11_tellWay_J74L49 sh G l0 l1 l2 else some (.inr G)
set_option maxHeartbeats 4000000 in
theorem tX11_tellWay_S49 {E : EX} {ad : Nat → Nat} {sh : Sh} {G : Hp} {l0 : Nat} {l1 : Int32} {l2 : Int32} {o : (Hp) ⊕ ((Hp))} (C : Cx E RX11 cX11_tellWay 5 none 5 0 0) (hC : Cl sh G) (h_l0 : sh[l0]? = some (0, 11)) (hf : fX11_tellWay_S49 sh l0 l1 l2 G  = some o) (kb : ∀ (G2 : Hp), o = .inl G2 → Cl sh G2 → VV E 0 0 (wq (xT E) ad G2 sh) 49 [(0, .ref (ad l0)), (1, .int l1), (2, .int l2)] []) (kx160 : ∀ (G2 : Hp), o = .inr G2 → Cl sh G2 → VV E 0 0 (wq (xT E) ad G2 sh) 160 [(0, .ref (ad l0)), (1, .int l1), (2, .int l2)] []) : VV E 0 0 (wq (xT E) ad G sh) 49 [(0, .ref (ad l0)), (1, .int l1), (2, .int l2)] [] := by
  unfold fX11_tellWay_S49 at hf
  refine v_aload_n C 0 dX11_tellWay_49 rfl rfl ?_
  refine v_getI C h_l0 fl_X11_227 dX11_tellWay_50 ?_
  refine v_if_ne (tgt := 160) C dX11_tellWay_53 (by decide) (fun c1 => ?_) (fun c1 => ?_)
  · have hf := im hf c1
    cases hf
    refine v_sub [0, 1, 2] rfl ?_
    exact kx160 _ rfl hC
  · have hf := ip hf c1
    refine v_aload_n C 0 dX11_tellWay_56 rfl rfl ?_
    refine v_bipush (v := 24) C dX11_tellWay_57 (by decide) ?_
    obtain ⟨r2, qr2, hf⟩ := bn hf
    refine v_callVi (As := [.int 24]) (rest := []) C (sX11_is h_l0 qr2) cs_X11_245 (by decide) h_l0 rfl hC rfl rfl rfl (Nat.le_of_ble_eq_true rfl) ⟨Nat.le_refl _, Nat.le_refl _⟩ dX11_tellWay_59 (fun hC => ?_)
    refine v_if_ne (tgt := 74) C dX11_tellWay_62 (by decide) (fun c3 => ?_) (fun c3 => ?_)
    · have hf := im hf c3
      refine v_sub [0, 1, 2] rfl ?_
      exact tX11_tellWay_J74L49 C hC h_l0 hf kb kx160
    · have hf := ip hf c3
      refine v_aload_n C 0 dX11_tellWay_65 rfl rfl ?_
      refine v_bipush (v := 25) C dX11_tellWay_66 (by decide) ?_
      obtain ⟨r4, qr4, hf⟩ := bn hf
      refine v_callVi (As := [.int 25]) (rest := []) C (sX11_is h_l0 qr4) cs_X11_245 (by decide) h_l0 rfl hC rfl rfl rfl (Nat.le_of_ble_eq_true rfl) ⟨Nat.le_refl _, Nat.le_refl _⟩ dX11_tellWay_68 (fun hC => ?_)
      refine v_if_eq (tgt := 160) C dX11_tellWay_71 (by decide) (fun c5 => ?_) (fun c5 => ?_)
      · have hf := ip hf c5
        cases hf
        refine v_sub [0, 1, 2] rfl ?_
        exact kx160 _ rfl hC
      · have hf := im hf c5
        refine v_sub [0, 1, 2] rfl ?_
        exact tX11_tellWay_J74L49 C hC h_l0 hf kb kx160
def fX11_tellWay_J160 (sh : Sh) (G : Hp) (l0 : Nat) (l2 : Int32) : Option (Hp) := (fX11_ends sh G l0 l2 (-1)).bind fun G2 => if (G2.1 l0 13) = 0 then (ldA sh G2 l0 27 1).bind fun a4 => bd ((G2.1 l0 19) : Int32) fun x5 => (aI sh G2 a4 x5).bind fun v6 => (asI sh G2 a4 x5 (v6 + 1)).bind fun G7 => some G7 else some G2
set_option maxHeartbeats 4000000 in
theorem tX11_tellWay_J160 {E : EX} {ad : Nat → Nat} {sh : Sh} {G : Hp} {l0 : Nat} {l2 : Int32} {z : Hp} (C : Cx E RX11 cX11_tellWay 5 none 5 0 0) (hC : Cl sh G) (h_l0 : sh[l0]? = some (0, 11)) (hf : fX11_tellWay_J160 sh G l0 l2 = some z) (kr : RCv E cX11_tellWay ad sh z) : VV E 0 0 (wq (xT E) ad G sh) 160 [(0, .ref (ad l0)), (2, .int l2)] [] := by
  unfold fX11_tellWay_J160 at hf
  refine v_aload_n C 0 dX11_tellWay_160 rfl rfl ?_
  refine v_iload_n C 1 dX11_tellWay_161 rfl rfl ?_
  refine v_iconst (v := (-1)) C dX11_tellWay_162 (by decide) ?_
  obtain ⟨G2, qr1, hf⟩ := bn hf
  refine v_callVv (As := [.int l2, .int (-1)]) (rest := []) C (sX11_ends h_l0 qr1) cs_X11_292 (by decide) h_l0 rfl hC rfl rfl rfl (Nat.le_of_ble_eq_true rfl) ⟨Nat.le_refl _, Nat.le_refl _⟩ dX11_tellWay_163 (fun hC => ?_)
  refine v_aload_n C 0 dX11_tellWay_166 rfl rfl ?_
  refine v_getI C h_l0 fl_X11_227 dX11_tellWay_167 ?_
  refine v_if_ne (tgt := 186) C dX11_tellWay_170 (by decide) (fun c3 => ?_) (fun c3 => ?_)
  · have hf := im hf c3
    cases hf
    exact kr _ _ dX11_tellWay_186 hC
  · have hf := ip hf c3
    refine v_aload_n C 0 dX11_tellWay_173 rfl rfl ?_
    obtain ⟨a4, qa4, hf⟩ := bn hf
    refine v_getA C h_l0 fl_X11_58 qa4 dX11_tellWay_174 (fun h_a4 => ?_)
    refine v_aload_n C 0 dX11_tellWay_177 rfl rfl ?_
    refine v_getI C h_l0 fl_X11_260 dX11_tellWay_178 ?_
    refine v_topi (fun x5 ex5 => ?_)
    have hf := bd_at hf ex5
    refine v_dup2 C dX11_tellWay_181 rfl rfl ?_
    obtain ⟨v6, qv6, hf⟩ := bn hf
    refine v_iald C h_a4 qv6 dX11_tellWay_182 ?_
    refine v_iconst (v := 1) C dX11_tellWay_183 (by decide) ?_
    refine v_iadd C dX11_tellWay_184 ?_
    obtain ⟨G7, qG7, hf⟩ := bn hf
    refine v_iast C h_a4 qG7 hC dX11_tellWay_185 (fun hC => ?_)
    cases hf
    exact kr _ _ dX11_tellWay_186 hC
def fX11_tellWay (sh : Sh) (G : Hp) (l0 : Nat) : Option (Hp) := (ldA sh G l0 27 1).bind fun a1 => (aI sh G a1 (G.1 l0 19)).bind fun v2 => bd ((((4 : Int32) * (G.1 l0 19)) + v2) : Int32) fun x3 => bp (fX11_named sh G l0) fun r4 G5 => (ldA sh G5 l0 28 1).bind fun a6 => bp (fX11_bounded sh G5 l0 0 99) fun r7 G8 => (asI sh G8 a6 x3 r7).bind fun G9 => (ldA sh G9 l0 29 1).bind fun a10 => (asI sh G9 a10 x3 0).bind fun G11 => (ldA sh G11 l0 30 1).bind fun a12 => (asI sh G11 a12 x3 0).bind fun G13 => (iter (fun s : Hp => fX11_tellWay_S49 sh l0 x3 r4 s ) fuel (G13 : Hp)).bind (fun u16 => bd u16 fun G15 => fX11_tellWay_J160 sh G15 l0 r4)
set_option maxHeartbeats 4000000 in
theorem tX11_tellWay {E : EX} {ad : Nat → Nat} {sh : Sh} {G : Hp} {l0 : Nat} {z : Hp} (C : Cx E RX11 cX11_tellWay 5 none 5 0 0) (hC : Cl sh G) (h_l0 : sh[l0]? = some (0, 11)) (hf : fX11_tellWay sh G l0 = some z) (kr : RCv E cX11_tellWay ad sh z) : VV E 0 0 (wq (xT E) ad G sh) 0 [(0, .ref (ad l0))] [] := by
  unfold fX11_tellWay at hf
  refine v_iconst (v := 4) C dX11_tellWay_0 (by decide) ?_
  refine v_aload_n C 0 dX11_tellWay_1 rfl rfl ?_
  refine v_getI C h_l0 fl_X11_260 dX11_tellWay_2 ?_
  refine v_imul C dX11_tellWay_5 ?_
  refine v_aload_n C 0 dX11_tellWay_6 rfl rfl ?_
  obtain ⟨a1, qa1, hf⟩ := bn hf
  refine v_getA C h_l0 fl_X11_58 qa1 dX11_tellWay_7 (fun h_a1 => ?_)
  refine v_aload_n C 0 dX11_tellWay_10 rfl rfl ?_
  refine v_getI C h_l0 fl_X11_260 dX11_tellWay_11 ?_
  obtain ⟨v2, qv2, hf⟩ := bn hf
  refine v_iald C h_a1 qv2 dX11_tellWay_14 ?_
  refine v_iadd C dX11_tellWay_15 ?_
  refine v_topi (fun x3 ex3 => ?_)
  have hf := bd_at hf ex3
  refine v_istore_n (lv2 := [(1, .int x3), (0, .ref (ad l0))]) C dX11_tellWay_16 rfl (by decide) rfl ?_
  refine v_aload_n C 1 dX11_tellWay_17 rfl rfl ?_
  obtain ⟨r4, G5, qr4, hf⟩ := bpn hf
  refine v_callVi (As := []) (rest := []) C (sX11_named h_l0 qr4) cs_X11_288 (by decide) h_l0 rfl hC rfl rfl rfl (Nat.le_of_ble_eq_true rfl) ⟨Nat.le_refl _, Nat.le_refl _⟩ dX11_tellWay_18 (fun hC => ?_)
  refine v_istore_n (lv2 := [(2, .int r4), (1, .int x3), (0, .ref (ad l0))]) C dX11_tellWay_21 rfl (by decide) rfl ?_
  refine v_aload_n C 2 dX11_tellWay_22 rfl rfl ?_
  obtain ⟨a6, qa6, hf⟩ := bn hf
  refine v_getA C h_l0 fl_X11_61 qa6 dX11_tellWay_23 (fun h_a6 => ?_)
  refine v_iload_n C 1 dX11_tellWay_26 rfl rfl ?_
  refine v_aload_n C 2 dX11_tellWay_27 rfl rfl ?_
  refine v_iconst (v := 0) C dX11_tellWay_28 (by decide) ?_
  refine v_bipush (v := 99) C dX11_tellWay_29 (by decide) ?_
  obtain ⟨r7, G8, qr7, hf⟩ := bpn hf
  refine v_callVi (As := [.int 0, .int 99]) (rest := [.int x3, .ref (ad a6)]) C (sX11_bounded h_l0 qr7) cs_X11_304 (by decide) h_l0 rfl hC rfl rfl rfl (Nat.le_of_ble_eq_true rfl) ⟨Nat.le_refl _, Nat.le_refl _⟩ dX11_tellWay_31 (fun hC => ?_)
  obtain ⟨G9, qG9, hf⟩ := bn hf
  refine v_iast C h_a6 qG9 hC dX11_tellWay_34 (fun hC => ?_)
  refine v_aload_n C 2 dX11_tellWay_35 rfl rfl ?_
  obtain ⟨a10, qa10, hf⟩ := bn hf
  refine v_getA C h_l0 fl_X11_64 qa10 dX11_tellWay_36 (fun h_a10 => ?_)
  refine v_iload_n C 1 dX11_tellWay_39 rfl rfl ?_
  refine v_iconst (v := 0) C dX11_tellWay_40 (by decide) ?_
  obtain ⟨G11, qG11, hf⟩ := bn hf
  refine v_iast C h_a10 qG11 hC dX11_tellWay_41 (fun hC => ?_)
  refine v_aload_n C 2 dX11_tellWay_42 rfl rfl ?_
  obtain ⟨a12, qa12, hf⟩ := bn hf
  refine v_getA C h_l0 fl_X11_67 qa12 dX11_tellWay_43 (fun h_a12 => ?_)
  refine v_iload_n C 1 dX11_tellWay_46 rfl rfl ?_
  refine v_iconst (v := 0) C dX11_tellWay_47 (by decide) ?_
  obtain ⟨G13, qG13, hf⟩ := bn hf
  refine v_iast C h_a12 qG13 hC dX11_tellWay_48 (fun hC => ?_)
  obtain ⟨r14, qr14, hf⟩ := bn hf
  refine v_sub [2, 1, 0] rfl ?_
  refine iter_sound (P := (fun s : Hp => Cl sh (s) → VV E 0 0 (wq (xT E) ad (s) sh) 49 [(0, .ref (ad l0)), (1, .int (x3)), (2, .int (r4))] [])) (X := fun r => r = r14) (fun jsr14 jor14 hor14 jbr14 jxr14 hC => tX11_tellWay_S49 C hC h_l0 hor14 (fun _ e => jbr14 _ e) ?_) fuel _ r14 qr14 rfl hC
  · intro G15 hu hC
    have e := jxr14 _ hu
    subst e
    have hf := bd_at hf (rfl : G15 = _)
    refine v_sub [0, 2] rfl ?_
    exact tX11_tellWay_J160 C hC h_l0 hf kr
theorem sX11_tellWay {l : Launch} {sh : Sh} {G : Hp} {l0 : Nat} {z : Hp} (h_l0 : sh[l0]? = some (0, 11)) (hf : fX11_tellWay sh G l0 = some z) : MC l yX11_tellWay cX11_tellWay 5 none 5 0 0 sh sh G z (fun ad => [.ref (ad l0)]) (fun _ => none) := by
  refine MC_of rfl rfl (fun _ => Nat.le_of_ble_eq_true rfl) (fun E ad C hl hnm hC hQ => ?_)
  exact tX11_tellWay C hC h_l0 hf (fun pc lv hd hC => v_vret C hQ (fun _ _ => rfl) hC rfl hd)
def fX11_waitsFor (sh : Sh) (G : Hp) (l0 : Nat) (l1 : Int32) : Option (Hp) := (ldA sh G l0 51 1).bind fun a1 => (asI sh G a1 (G.1 l0 52) l1).bind fun G2 => bd (sI G2 l0 52 ((G2.1 l0 52) + 1)) fun G3 => (fX11_goesOn sh G3 l0).bind fun G5 => some G5
set_option maxHeartbeats 4000000 in
theorem tX11_waitsFor {E : EX} {ad : Nat → Nat} {sh : Sh} {G : Hp} {l0 : Nat} {l1 : Int32} {z : Hp} (C : Cx E RX11 cX11_waitsFor 2 none 3 0 0) (hC : Cl sh G) (h_l0 : sh[l0]? = some (0, 11)) (hf : fX11_waitsFor sh G l0 l1 = some z) (kr : RCv E cX11_waitsFor ad sh z) : VV E 0 0 (wq (xT E) ad G sh) 0 [(0, .ref (ad l0)), (1, .int l1)] [] := by
  unfold fX11_waitsFor at hf
  refine v_aload_n C 0 dX11_waitsFor_0 rfl rfl ?_
  obtain ⟨a1, qa1, hf⟩ := bn hf
  refine v_getA C h_l0 fl_X11_122 qa1 dX11_waitsFor_1 (fun h_a1 => ?_)
  refine v_aload_n C 0 dX11_waitsFor_4 rfl rfl ?_
  refine v_getI C h_l0 fl_X11_323 dX11_waitsFor_5 ?_
  refine v_iload_n C 1 dX11_waitsFor_8 rfl rfl ?_
  obtain ⟨G2, qG2, hf⟩ := bn hf
  refine v_iast C h_a1 qG2 hC dX11_waitsFor_9 (fun hC => ?_)
  refine v_aload_n C 0 dX11_waitsFor_10 rfl rfl ?_
  refine v_dup C dX11_waitsFor_11 rfl ?_
  refine v_getI C h_l0 fl_X11_323 dX11_waitsFor_12 ?_
  refine v_iconst (v := 1) C dX11_waitsFor_15 (by decide) ?_
  refine v_iadd C dX11_waitsFor_16 ?_
  refine v_putI C h_l0 fp_X11_323 dX11_waitsFor_17 (fun G3 eG3 => ?_)
  have hf := bd_at hf eG3
  have hC : Cl sh G3 := by rw [eG3]; exact hC
  refine v_aload_n C 0 dX11_waitsFor_20 rfl rfl ?_
  obtain ⟨G5, qr4, hf⟩ := bn hf
  refine v_callVv (As := []) (rest := []) C (sX11_goesOn h_l0 qr4) cs_X11_248 (by decide) h_l0 rfl hC rfl rfl rfl (Nat.le_of_ble_eq_true rfl) ⟨Nat.le_refl _, Nat.le_refl _⟩ dX11_waitsFor_21 (fun hC => ?_)
  cases hf
  exact kr _ _ dX11_waitsFor_24 hC
theorem sX11_waitsFor {l : Launch} {sh : Sh} {G : Hp} {l0 : Nat} {l1 : Int32} {z : Hp} (h_l0 : sh[l0]? = some (0, 11)) (hf : fX11_waitsFor sh G l0 l1 = some z) : MC l yX11_waitsFor cX11_waitsFor 2 none 3 0 0 sh sh G z (fun ad => [.ref (ad l0), .int l1]) (fun _ => none) := by
  refine MC_of rfl rfl (fun _ => Nat.le_of_ble_eq_true rfl) (fun E ad C hl hnm hC hQ => ?_)
  exact tX11_waitsFor C hC h_l0 hf (fun pc lv hd hC => v_vret C hQ (fun _ _ => rfl) hC rfl hd)
def fX11_bitOf_S2 (l0 : Int32) (l1 : Int32) : Option ((Int32) ⊕ ((Int32))) := if 7 ≤ l1 then some (.inr l1) else if (l0 >>> (l1 &&& 31)) = 1 then some (.inr l1) else bd ((l1 + 1) : Int32) fun x3 => some (.inl x3)
set_option maxHeartbeats 4000000 in
theorem tX11_bitOf_S2 {E : EX} {ad : Nat → Nat} {sh : Sh} {G : Hp} {l0 : Int32} {l1 : Int32} {o : (Int32) ⊕ ((Int32))} (C : Cx E RX11 cX11_bitOf 2 (some .int) 1 0 0) (hC : Cl sh G) (hf : fX11_bitOf_S2 l0 l1 = some o) (kb : ∀ (b_l1 : Int32), o = .inl b_l1 → VV E 0 0 (wq (xT E) ad G sh) 2 [(0, .int l0), (1, .int b_l1)] []) (kx21 : ∀ (b_l1 : Int32), o = .inr b_l1 → VV E 0 0 (wq (xT E) ad G sh) 21 [(0, .int l0), (1, .int b_l1)] []) : VV E 0 0 (wq (xT E) ad G sh) 2 [(0, .int l0), (1, .int l1)] [] := by
  unfold fX11_bitOf_S2 at hf
  refine v_iload_n C 1 dX11_bitOf_2 rfl rfl ?_
  refine v_bipush (v := 7) C dX11_bitOf_3 (by decide) ?_
  refine v_icmp_ge (tgt := 21) C dX11_bitOf_5 (by decide) (fun c1 => ?_) (fun c1 => ?_)
  · have hf := ip hf c1
    cases hf
    refine v_sub [0, 1] rfl ?_
    exact kx21 _ rfl
  · have hf := im hf c1
    refine v_iload_n C 0 dX11_bitOf_8 rfl rfl ?_
    refine v_iload_n C 1 dX11_bitOf_9 rfl rfl ?_
    refine v_ishr C dX11_bitOf_10 ?_
    refine v_iconst (v := 1) C dX11_bitOf_11 (by decide) ?_
    refine v_icmp_eq (tgt := 21) C dX11_bitOf_12 (by decide) (fun c2 => ?_) (fun c2 => ?_)
    · have hf := ip hf c2
      cases hf
      refine v_sub [0, 1] rfl ?_
      exact kx21 _ rfl
    · have hf := im hf c2
      obtain ⟨x3, ex3⟩ : ∃ x : Int32, x = (l1 + 1) := ⟨_, rfl⟩
      have hf := bd_at hf ex3
      refine v_iinc (v := x3) (j := 1) (lv2 := [(1, .int x3), (0, .int l0)]) C dX11_bitOf_15 rfl (by rw [ex3]; rfl) (by decide) rfl ?_
      refine v_goto (tgt := 2) C dX11_bitOf_18 (by decide) ?_
      cases hf
      refine v_sub [1, 0] rfl ?_
      exact kb _ rfl
def fX11_bitOf (l0 : Int32) : Option (Int32) := (iter (fun s : Int32 => fX11_bitOf_S2 l0  s) fuel (0 : Int32)).bind (fun u3 => bd u3 fun x2 => some x2)
set_option maxHeartbeats 4000000 in
theorem tX11_bitOf {E : EX} {ad : Nat → Nat} {sh : Sh} {G : Hp} {l0 : Int32} {z : Int32} (C : Cx E RX11 cX11_bitOf 2 (some .int) 1 0 0) (hC : Cl sh G) (hf : fX11_bitOf l0 = some z) (kr : RCi E cX11_bitOf ad sh z G) : VV E 0 0 (wq (xT E) ad G sh) 0 [(0, .int l0)] [] := by
  unfold fX11_bitOf at hf
  refine v_iconst (v := 0) C dX11_bitOf_0 (by decide) ?_
  refine v_istore_n (lv2 := [(1, .int 0), (0, .int l0)]) C dX11_bitOf_1 rfl (by decide) rfl ?_
  obtain ⟨r1, qr1, hf⟩ := bn hf
  refine v_sub [1, 0] rfl ?_
  refine iter_sound (P := (fun s : Int32 => VV E 0 0 (wq (xT E) ad (G) sh) 2 [(0, .int (l0)), (1, .int (s))] [])) (X := fun r => r = r1) (fun jsr1 jor1 hor1 jbr1 jxr1 => tX11_bitOf_S2 C hC hor1 (fun _ e => jbr1 _ e) ?_) fuel _ r1 qr1 rfl
  · intro x2 hu
    have e := jxr1 _ hu
    subst e
    have hf := bd_at hf (rfl : x2 = _)
    refine v_iload_n C 1 dX11_bitOf_21 rfl rfl ?_
    cases hf
    exact kr _ _ dX11_bitOf_22 hC
theorem sX11_bitOf {l : Launch} {sh : Sh} {G : Hp} {l0 : Int32} {z : Int32} (hf : fX11_bitOf l0 = some z) : MC l yX11_bitOf cX11_bitOf 2 (some .int) 1 0 0 sh sh G G (fun ad => [.int l0]) (fun _ => some (.int z)) := by
  refine MC_of rfl rfl (fun _ => Nat.le_of_ble_eq_true rfl) (fun E ad C hl hnm hC hQ => ?_)
  exact tX11_bitOf C hC hf (fun pc lv hd hC => v_iret C hQ (fun _ _ => rfl) hC rfl hd)
def fX11_emitWord (sh : Sh) (G : Hp) (l0 : Nat) (l1 : Int32) : Option (Hp) := (ldA sh G l0 37 1).bind fun a1 => (asI sh G a1 (G.1 l0 36) l1).bind fun G2 => bd (sI G2 l0 36 ((G2.1 l0 36) + 1)) fun G3 => some G3
set_option maxHeartbeats 4000000 in
theorem tX11_emitWord {E : EX} {ad : Nat → Nat} {sh : Sh} {G : Hp} {l0 : Nat} {l1 : Int32} {z : Hp} (C : Cx E RX11 cX11_emitWord 2 none 1 0 0) (hC : Cl sh G) (h_l0 : sh[l0]? = some (0, 11)) (hf : fX11_emitWord sh G l0 l1 = some z) (kr : RCv E cX11_emitWord ad sh z) : VV E 0 0 (wq (xT E) ad G sh) 0 [(0, .ref (ad l0)), (1, .int l1)] [] := by
  unfold fX11_emitWord at hf
  refine v_aload_n C 0 dX11_emitWord_0 rfl rfl ?_
  obtain ⟨a1, qa1, hf⟩ := bn hf
  refine v_getA C h_l0 fl_X11_85 qa1 dX11_emitWord_1 (fun h_a1 => ?_)
  refine v_aload_n C 0 dX11_emitWord_4 rfl rfl ?_
  refine v_getI C h_l0 fl_X11_272 dX11_emitWord_5 ?_
  refine v_iload_n C 1 dX11_emitWord_8 rfl rfl ?_
  obtain ⟨G2, qG2, hf⟩ := bn hf
  refine v_iast C h_a1 qG2 hC dX11_emitWord_9 (fun hC => ?_)
  refine v_aload_n C 0 dX11_emitWord_10 rfl rfl ?_
  refine v_dup C dX11_emitWord_11 rfl ?_
  refine v_getI C h_l0 fl_X11_272 dX11_emitWord_12 ?_
  refine v_iconst (v := 1) C dX11_emitWord_15 (by decide) ?_
  refine v_iadd C dX11_emitWord_16 ?_
  refine v_putI C h_l0 fp_X11_272 dX11_emitWord_17 (fun G3 eG3 => ?_)
  have hf := bd_at hf eG3
  have hC : Cl sh G3 := by rw [eG3]; exact hC
  cases hf
  exact kr _ _ dX11_emitWord_20 hC
theorem sX11_emitWord {l : Launch} {sh : Sh} {G : Hp} {l0 : Nat} {l1 : Int32} {z : Hp} (h_l0 : sh[l0]? = some (0, 11)) (hf : fX11_emitWord sh G l0 l1 = some z) : MC l yX11_emitWord cX11_emitWord 2 none 1 0 0 sh sh G z (fun ad => [.ref (ad l0), .int l1]) (fun _ => none) := by
  refine MC_of rfl rfl (fun _ => Nat.le_of_ble_eq_true rfl) (fun E ad C hl hnm hC hQ => ?_)
  exact tX11_emitWord C hC h_l0 hf (fun pc lv hd hC => v_vret C hQ (fun _ _ => rfl) hC rfl hd)
def fX11_isTop (sh : Sh) (G : Hp) (l0 : Nat) (l1 : Int32) : Option (Int32) := if (G.1 l0 52) ≤ 0 then some 0 else (ldA sh G l0 51 1).bind fun a2 => (aI sh G a2 ((G.1 l0 52) - 1)).bind fun v3 => if v3 = l1 then some 1 else some 0
set_option maxHeartbeats 4000000 in
theorem tX11_isTop {E : EX} {ad : Nat → Nat} {sh : Sh} {G : Hp} {l0 : Nat} {l1 : Int32} {z : Int32} (C : Cx E RX11 cX11_isTop 2 (some .boolean) 1 0 0) (hC : Cl sh G) (h_l0 : sh[l0]? = some (0, 11)) (hf : fX11_isTop sh G l0 l1 = some z) (kr : RCz E cX11_isTop ad sh z G) : VV E 0 0 (wq (xT E) ad G sh) 0 [(0, .ref (ad l0)), (1, .int l1)] [] := by
  unfold fX11_isTop at hf
  refine v_aload_n C 0 dX11_isTop_0 rfl rfl ?_
  refine v_getI C h_l0 fl_X11_323 dX11_isTop_1 ?_
  refine v_if_le (tgt := 26) C dX11_isTop_4 (by decide) (fun c1 => ?_) (fun c1 => ?_)
  · have hf := ip hf c1
    refine v_iconst (v := 0) C dX11_isTop_26 (by decide) ?_
    cases hf
    exact kr _ _ dX11_isTop_27 (Or.inl rfl) hC
  · have hf := im hf c1
    refine v_aload_n C 0 dX11_isTop_7 rfl rfl ?_
    obtain ⟨a2, qa2, hf⟩ := bn hf
    refine v_getA C h_l0 fl_X11_122 qa2 dX11_isTop_8 (fun h_a2 => ?_)
    refine v_aload_n C 0 dX11_isTop_11 rfl rfl ?_
    refine v_getI C h_l0 fl_X11_323 dX11_isTop_12 ?_
    refine v_iconst (v := 1) C dX11_isTop_15 (by decide) ?_
    refine v_isub C dX11_isTop_16 ?_
    obtain ⟨v3, qv3, hf⟩ := bn hf
    refine v_iald C h_a2 qv3 dX11_isTop_17 ?_
    refine v_iload_n C 1 dX11_isTop_18 rfl rfl ?_
    refine v_icmp_ne (tgt := 26) C dX11_isTop_19 (by decide) (fun c4 => ?_) (fun c4 => ?_)
    · have hf := im hf c4
      refine v_iconst (v := 0) C dX11_isTop_26 (by decide) ?_
      cases hf
      exact kr _ _ dX11_isTop_27 (Or.inl rfl) hC
    · have hf := ip hf c4
      refine v_iconst (v := 1) C dX11_isTop_22 (by decide) ?_
      refine v_goto (tgt := 27) C dX11_isTop_23 (by decide) ?_
      cases hf
      exact kr _ _ dX11_isTop_27 (Or.inr rfl) hC
theorem sX11_isTop {l : Launch} {sh : Sh} {G : Hp} {l0 : Nat} {l1 : Int32} {z : Int32} (h_l0 : sh[l0]? = some (0, 11)) (hf : fX11_isTop sh G l0 l1 = some z) : MC l yX11_isTop cX11_isTop 2 (some .boolean) 1 0 0 sh sh G G (fun ad => [.ref (ad l0), .int l1]) (fun _ => some (.int z)) := by
  refine MC_of rfl rfl (fun _ => Nat.le_of_ble_eq_true rfl) (fun E ad C hl hnm hC hQ => ?_)
  exact tX11_isTop C hC h_l0 hf (fun pc lv hd hz hC => v_zret C hQ (fun _ _ => rfl) hC rfl hz hd)
def fX11_wordComes (sh : Sh) (G : Hp) (l0 : Nat) : Option (Hp) := bd (sI G l0 52 ((G.1 l0 52) - 1)) fun G1 => (ldA sh G1 l0 51 1).bind fun a2 => (aI sh G1 a2 (G1.1 l0 52)).bind fun v3 => if v3 = 28 then (fX11_emitWord sh G1 l0 8).bind fun G11 => some G11 else if v3 = 27 then (fX11_emitWord sh G1 l0 9).bind fun G9 => some G9 else (fX11_emitWord sh G1 l0 10).bind fun G7 => some G7
set_option maxHeartbeats 4000000 in
theorem tX11_wordComes {E : EX} {ad : Nat → Nat} {sh : Sh} {G : Hp} {l0 : Nat} {z : Hp} (C : Cx E RX11 cX11_wordComes 2 none 2 0 0) (hC : Cl sh G) (h_l0 : sh[l0]? = some (0, 11)) (hf : fX11_wordComes sh G l0 = some z) (kr : RCv E cX11_wordComes ad sh z) : VV E 0 0 (wq (xT E) ad G sh) 0 [(0, .ref (ad l0))] [] := by
  unfold fX11_wordComes at hf
  refine v_aload_n C 0 dX11_wordComes_0 rfl rfl ?_
  refine v_dup C dX11_wordComes_1 rfl ?_
  refine v_getI C h_l0 fl_X11_323 dX11_wordComes_2 ?_
  refine v_iconst (v := 1) C dX11_wordComes_5 (by decide) ?_
  refine v_isub C dX11_wordComes_6 ?_
  refine v_putI C h_l0 fp_X11_323 dX11_wordComes_7 (fun G1 eG1 => ?_)
  have hf := bd_at hf eG1
  have hC : Cl sh G1 := by rw [eG1]; exact hC
  refine v_aload_n C 0 dX11_wordComes_10 rfl rfl ?_
  obtain ⟨a2, qa2, hf⟩ := bn hf
  refine v_getA C h_l0 fl_X11_122 qa2 dX11_wordComes_11 (fun h_a2 => ?_)
  refine v_aload_n C 0 dX11_wordComes_14 rfl rfl ?_
  refine v_getI C h_l0 fl_X11_323 dX11_wordComes_15 ?_
  obtain ⟨v3, qv3, hf⟩ := bn hf
  refine v_iald C h_a2 qv3 dX11_wordComes_18 ?_
  refine v_istore_n (lv2 := [(1, .int v3), (0, .ref (ad l0))]) C dX11_wordComes_19 rfl (by decide) rfl ?_
  refine v_aload_n C 1 dX11_wordComes_20 rfl rfl ?_
  refine v_iload_n C 0 dX11_wordComes_21 rfl rfl ?_
  refine v_bipush (v := 28) C dX11_wordComes_22 (by decide) ?_
  refine v_icmp_ne (tgt := 32) C dX11_wordComes_24 (by decide) (fun c4 => ?_) (fun c4 => ?_)
  · have hf := im hf c4
    refine v_iload_n C 0 dX11_wordComes_32 rfl rfl ?_
    refine v_bipush (v := 27) C dX11_wordComes_33 (by decide) ?_
    refine v_icmp_ne (tgt := 43) C dX11_wordComes_35 (by decide) (fun c5 => ?_) (fun c5 => ?_)
    · have hf := im hf c5
      refine v_bipush (v := 10) C dX11_wordComes_43 (by decide) ?_
      obtain ⟨G7, qr6, hf⟩ := bn hf
      refine v_callVv (As := [.int 10]) (rest := []) C (sX11_emitWord h_l0 qr6) cs_X11_326 (by decide) h_l0 rfl hC rfl rfl rfl (Nat.le_of_ble_eq_true rfl) ⟨Nat.le_refl _, Nat.le_refl _⟩ dX11_wordComes_45 (fun hC => ?_)
      cases hf
      exact kr _ _ dX11_wordComes_48 hC
    · have hf := ip hf c5
      refine v_bipush (v := 9) C dX11_wordComes_38 (by decide) ?_
      refine v_goto (tgt := 45) C dX11_wordComes_40 (by decide) ?_
      obtain ⟨G9, qr8, hf⟩ := bn hf
      refine v_callVv (As := [.int 9]) (rest := []) C (sX11_emitWord h_l0 qr8) cs_X11_326 (by decide) h_l0 rfl hC rfl rfl rfl (Nat.le_of_ble_eq_true rfl) ⟨Nat.le_refl _, Nat.le_refl _⟩ dX11_wordComes_45 (fun hC => ?_)
      cases hf
      exact kr _ _ dX11_wordComes_48 hC
  · have hf := ip hf c4
    refine v_bipush (v := 8) C dX11_wordComes_27 (by decide) ?_
    refine v_goto (tgt := 45) C dX11_wordComes_29 (by decide) ?_
    obtain ⟨G11, qr10, hf⟩ := bn hf
    refine v_callVv (As := [.int 8]) (rest := []) C (sX11_emitWord h_l0 qr10) cs_X11_326 (by decide) h_l0 rfl hC rfl rfl rfl (Nat.le_of_ble_eq_true rfl) ⟨Nat.le_refl _, Nat.le_refl _⟩ dX11_wordComes_45 (fun hC => ?_)
    cases hf
    exact kr _ _ dX11_wordComes_48 hC
theorem sX11_wordComes {l : Launch} {sh : Sh} {G : Hp} {l0 : Nat} {z : Hp} (h_l0 : sh[l0]? = some (0, 11)) (hf : fX11_wordComes sh G l0 = some z) : MC l yX11_wordComes cX11_wordComes 2 none 2 0 0 sh sh G z (fun ad => [.ref (ad l0)]) (fun _ => none) := by
  refine MC_of rfl rfl (fun _ => Nat.le_of_ble_eq_true rfl) (fun E ad C hl hnm hC hQ => ?_)
  exact tX11_wordComes C hC h_l0 hf (fun pc lv hd hC => v_vret C hQ (fun _ _ => rfl) hC rfl hd)
def fX11_notsCome_S0 (sh : Sh) (l0 : Nat) (G : Hp)  : Option ((Hp) ⊕ ((Hp))) := (fX11_isTop sh G l0 28).bind fun r1 => if r1 = 0 then some (.inr G) else (fX11_wordComes sh G l0).bind fun G4 => some (.inl G4)
set_option maxHeartbeats 4000000 in
theorem tX11_notsCome_S0 {E : EX} {ad : Nat → Nat} {sh : Sh} {G : Hp} {l0 : Nat} {o : (Hp) ⊕ ((Hp))} (C : Cx E RX11 cX11_notsCome 1 none 3 0 0) (hC : Cl sh G) (h_l0 : sh[l0]? = some (0, 11)) (hf : fX11_notsCome_S0 sh l0 G  = some o) (kb : ∀ (G2 : Hp), o = .inl G2 → Cl sh G2 → VV E 0 0 (wq (xT E) ad G2 sh) 0 [(0, .ref (ad l0))] []) (kx16 : ∀ (G2 : Hp), o = .inr G2 → Cl sh G2 → VV E 0 0 (wq (xT E) ad G2 sh) 16 [(0, .ref (ad l0))] []) : VV E 0 0 (wq (xT E) ad G sh) 0 [(0, .ref (ad l0))] [] := by
  unfold fX11_notsCome_S0 at hf
  refine v_aload_n C 0 dX11_notsCome_0 rfl rfl ?_
  refine v_bipush (v := 28) C dX11_notsCome_1 (by decide) ?_
  obtain ⟨r1, qr1, hf⟩ := bn hf
  refine v_callVi (As := [.int 28]) (rest := []) C (sX11_isTop h_l0 qr1) cs_X11_329 (by decide) h_l0 rfl hC rfl rfl rfl (Nat.le_of_ble_eq_true rfl) ⟨Nat.le_refl _, Nat.le_refl _⟩ dX11_notsCome_3 (fun hC => ?_)
  refine v_if_eq (tgt := 16) C dX11_notsCome_6 (by decide) (fun c2 => ?_) (fun c2 => ?_)
  · have hf := ip hf c2
    cases hf
    refine v_sub [0] rfl ?_
    exact kx16 _ rfl hC
  · have hf := im hf c2
    refine v_aload_n C 0 dX11_notsCome_9 rfl rfl ?_
    obtain ⟨G4, qr3, hf⟩ := bn hf
    refine v_callVv (As := []) (rest := []) C (sX11_wordComes h_l0 qr3) cs_X11_332 (by decide) h_l0 rfl hC rfl rfl rfl (Nat.le_of_ble_eq_true rfl) ⟨Nat.le_refl _, Nat.le_refl _⟩ dX11_notsCome_10 (fun hC => ?_)
    refine v_goto (tgt := 0) C dX11_notsCome_13 (by decide) ?_
    cases hf
    refine v_sub [0] rfl ?_
    exact kb _ rfl hC
def fX11_notsCome (sh : Sh) (G : Hp) (l0 : Nat) : Option (Hp) := (fX11_isTop sh G l0 28).bind fun r1 => if r1 = 0 then some G else (fX11_wordComes sh G l0).bind fun G4 => (iter (fun s : Hp => fX11_notsCome_S0 sh l0 s ) fuel (G4 : Hp)).bind (fun u7 => bd u7 fun G6 => some G6)
set_option maxHeartbeats 4000000 in
theorem tX11_notsCome {E : EX} {ad : Nat → Nat} {sh : Sh} {G : Hp} {l0 : Nat} {z : Hp} (C : Cx E RX11 cX11_notsCome 1 none 3 0 0) (hC : Cl sh G) (h_l0 : sh[l0]? = some (0, 11)) (hf : fX11_notsCome sh G l0 = some z) (kr : RCv E cX11_notsCome ad sh z) : VV E 0 0 (wq (xT E) ad G sh) 0 [(0, .ref (ad l0))] [] := by
  unfold fX11_notsCome at hf
  refine v_aload_n C 0 dX11_notsCome_0 rfl rfl ?_
  refine v_bipush (v := 28) C dX11_notsCome_1 (by decide) ?_
  obtain ⟨r1, qr1, hf⟩ := bn hf
  refine v_callVi (As := [.int 28]) (rest := []) C (sX11_isTop h_l0 qr1) cs_X11_329 (by decide) h_l0 rfl hC rfl rfl rfl (Nat.le_of_ble_eq_true rfl) ⟨Nat.le_refl _, Nat.le_refl _⟩ dX11_notsCome_3 (fun hC => ?_)
  refine v_if_eq (tgt := 16) C dX11_notsCome_6 (by decide) (fun c2 => ?_) (fun c2 => ?_)
  · have hf := ip hf c2
    cases hf
    exact kr _ _ dX11_notsCome_16 hC
  · have hf := im hf c2
    refine v_aload_n C 0 dX11_notsCome_9 rfl rfl ?_
    obtain ⟨G4, qr3, hf⟩ := bn hf
    refine v_callVv (As := []) (rest := []) C (sX11_wordComes h_l0 qr3) cs_X11_332 (by decide) h_l0 rfl hC rfl rfl rfl (Nat.le_of_ble_eq_true rfl) ⟨Nat.le_refl _, Nat.le_refl _⟩ dX11_notsCome_10 (fun hC => ?_)
    refine v_goto (tgt := 0) C dX11_notsCome_13 (by decide) ?_
    obtain ⟨r5, qr5, hf⟩ := bn hf
    refine v_sub [0] rfl ?_
    refine iter_sound (P := (fun s : Hp => Cl sh (s) → VV E 0 0 (wq (xT E) ad (s) sh) 0 [(0, .ref (ad l0))] [])) (X := fun r => r = r5) (fun jsr5 jor5 hor5 jbr5 jxr5 hC => tX11_notsCome_S0 C hC h_l0 hor5 (fun _ e => jbr5 _ e) ?_) fuel _ r5 qr5 rfl hC
    · intro G6 hu hC
      have e := jxr5 _ hu
      subst e
      have hf := bd_at hf (rfl : G6 = _)
      cases hf
      exact kr _ _ dX11_notsCome_16 hC
theorem sX11_notsCome {l : Launch} {sh : Sh} {G : Hp} {l0 : Nat} {z : Hp} (h_l0 : sh[l0]? = some (0, 11)) (hf : fX11_notsCome sh G l0 = some z) : MC l yX11_notsCome cX11_notsCome 1 none 3 0 0 sh sh G z (fun ad => [.ref (ad l0)]) (fun _ => none) := by
  refine MC_of rfl rfl (fun _ => Nat.le_of_ble_eq_true rfl) (fun E ad C hl hnm hC hQ => ?_)
  exact tX11_notsCome C hC h_l0 hf (fun pc lv hd hC => v_vret C hQ (fun _ _ => rfl) hC rfl hd)
def fX11_closes_S0 (sh : Sh) (l0 : Nat) (G : Hp)  : Option ((Hp) ⊕ ((Hp))) := (fX11_isTop sh G l0 27).bind fun r1 => if r1 = 0 then (fX11_isTop sh G l0 26).bind fun r5 => if r5 = 0 then some (.inr G) else (fX11_wordComes sh G l0).bind fun G8 => some (.inl G8) else (fX11_wordComes sh G l0).bind fun G4 => some (.inl G4)
set_option maxHeartbeats 4000000 in
theorem tX11_closes_S0 {E : EX} {ad : Nat → Nat} {sh : Sh} {G : Hp} {l0 : Nat} {o : (Hp) ⊕ ((Hp))} (C : Cx E RX11 cX11_closes 1 none 4 0 0) (hC : Cl sh G) (h_l0 : sh[l0]? = some (0, 11)) (hf : fX11_closes_S0 sh l0 G  = some o) (kb : ∀ (G2 : Hp), o = .inl G2 → Cl sh G2 → VV E 0 0 (wq (xT E) ad G2 sh) 0 [(0, .ref (ad l0))] []) (kx25 : ∀ (G2 : Hp), o = .inr G2 → Cl sh G2 → VV E 0 0 (wq (xT E) ad G2 sh) 25 [(0, .ref (ad l0))] []) : VV E 0 0 (wq (xT E) ad G sh) 0 [(0, .ref (ad l0))] [] := by
  unfold fX11_closes_S0 at hf
  refine v_aload_n C 0 dX11_closes_0 rfl rfl ?_
  refine v_bipush (v := 27) C dX11_closes_1 (by decide) ?_
  obtain ⟨r1, qr1, hf⟩ := bn hf
  refine v_callVi (As := [.int 27]) (rest := []) C (sX11_isTop h_l0 qr1) cs_X11_329 (by decide) h_l0 rfl hC rfl rfl rfl (Nat.le_of_ble_eq_true rfl) ⟨Nat.le_refl _, Nat.le_refl _⟩ dX11_closes_3 (fun hC => ?_)
  refine v_if_ne (tgt := 18) C dX11_closes_6 (by decide) (fun c2 => ?_) (fun c2 => ?_)
  · have hf := im hf c2
    refine v_aload_n C 0 dX11_closes_18 rfl rfl ?_
    obtain ⟨G4, qr3, hf⟩ := bn hf
    refine v_callVv (As := []) (rest := []) C (sX11_wordComes h_l0 qr3) cs_X11_332 (by decide) h_l0 rfl hC rfl rfl rfl (Nat.le_of_ble_eq_true rfl) ⟨Nat.le_refl _, Nat.le_refl _⟩ dX11_closes_19 (fun hC => ?_)
    refine v_goto (tgt := 0) C dX11_closes_22 (by decide) ?_
    cases hf
    refine v_sub [0] rfl ?_
    exact kb _ rfl hC
  · have hf := ip hf c2
    refine v_aload_n C 0 dX11_closes_9 rfl rfl ?_
    refine v_bipush (v := 26) C dX11_closes_10 (by decide) ?_
    obtain ⟨r5, qr5, hf⟩ := bn hf
    refine v_callVi (As := [.int 26]) (rest := []) C (sX11_isTop h_l0 qr5) cs_X11_329 (by decide) h_l0 rfl hC rfl rfl rfl (Nat.le_of_ble_eq_true rfl) ⟨Nat.le_refl _, Nat.le_refl _⟩ dX11_closes_12 (fun hC => ?_)
    refine v_if_eq (tgt := 25) C dX11_closes_15 (by decide) (fun c6 => ?_) (fun c6 => ?_)
    · have hf := ip hf c6
      cases hf
      refine v_sub [0] rfl ?_
      exact kx25 _ rfl hC
    · have hf := im hf c6
      refine v_aload_n C 0 dX11_closes_18 rfl rfl ?_
      obtain ⟨G8, qr7, hf⟩ := bn hf
      refine v_callVv (As := []) (rest := []) C (sX11_wordComes h_l0 qr7) cs_X11_332 (by decide) h_l0 rfl hC rfl rfl rfl (Nat.le_of_ble_eq_true rfl) ⟨Nat.le_refl _, Nat.le_refl _⟩ dX11_closes_19 (fun hC => ?_)
      refine v_goto (tgt := 0) C dX11_closes_22 (by decide) ?_
      cases hf
      refine v_sub [0] rfl ?_
      exact kb _ rfl hC
def fX11_closes_J18 (sh : Sh) (G : Hp) (l0 : Nat) : Option (Hp) := (fX11_wordComes sh G l0).bind fun G2 => (iter (fun s : Hp => fX11_closes_S0 sh l0 s ) fuel (G2 : Hp)).bind (fun u10 => bd u10 fun G4 => bd (sI G4 l0 52 ((G4.1 l0 52) - 1)) fun G5 => (fX11_goesOn sh G5 l0).bind fun G7 => (fX11_notsCome sh G7 l0).bind fun G9 => some G9)
set_option maxHeartbeats 4000000 in
theorem tX11_closes_J18 {E : EX} {ad : Nat → Nat} {sh : Sh} {G : Hp} {l0 : Nat} {z : Hp} (C : Cx E RX11 cX11_closes 1 none 4 0 0) (hC : Cl sh G) (h_l0 : sh[l0]? = some (0, 11)) (hf : fX11_closes_J18 sh G l0 = some z) (kr : RCv E cX11_closes ad sh z) : VV E 0 0 (wq (xT E) ad G sh) 18 [(0, .ref (ad l0))] [] := by
  unfold fX11_closes_J18 at hf
  refine v_aload_n C 0 dX11_closes_18 rfl rfl ?_
  obtain ⟨G2, qr1, hf⟩ := bn hf
  refine v_callVv (As := []) (rest := []) C (sX11_wordComes h_l0 qr1) cs_X11_332 (by decide) h_l0 rfl hC rfl rfl rfl (Nat.le_of_ble_eq_true rfl) ⟨Nat.le_refl _, Nat.le_refl _⟩ dX11_closes_19 (fun hC => ?_)
  refine v_goto (tgt := 0) C dX11_closes_22 (by decide) ?_
  obtain ⟨r3, qr3, hf⟩ := bn hf
  refine v_sub [0] rfl ?_
  refine iter_sound (P := (fun s : Hp => Cl sh (s) → VV E 0 0 (wq (xT E) ad (s) sh) 0 [(0, .ref (ad l0))] [])) (X := fun r => r = r3) (fun jsr3 jor3 hor3 jbr3 jxr3 hC => tX11_closes_S0 C hC h_l0 hor3 (fun _ e => jbr3 _ e) ?_) fuel _ r3 qr3 rfl hC
  · intro G4 hu hC
    have e := jxr3 _ hu
    subst e
    have hf := bd_at hf (rfl : G4 = _)
    refine v_aload_n C 0 dX11_closes_25 rfl rfl ?_
    refine v_dup C dX11_closes_26 rfl ?_
    refine v_getI C h_l0 fl_X11_323 dX11_closes_27 ?_
    refine v_iconst (v := 1) C dX11_closes_30 (by decide) ?_
    refine v_isub C dX11_closes_31 ?_
    refine v_putI C h_l0 fp_X11_323 dX11_closes_32 (fun G5 eG5 => ?_)
    have hf := bd_at hf eG5
    have hC : Cl sh G5 := by rw [eG5]; exact hC
    refine v_aload_n C 0 dX11_closes_35 rfl rfl ?_
    obtain ⟨G7, qr6, hf⟩ := bn hf
    refine v_callVv (As := []) (rest := []) C (sX11_goesOn h_l0 qr6) cs_X11_248 (by decide) h_l0 rfl hC rfl rfl rfl (Nat.le_of_ble_eq_true rfl) ⟨Nat.le_refl _, Nat.le_refl _⟩ dX11_closes_36 (fun hC => ?_)
    refine v_aload_n C 0 dX11_closes_39 rfl rfl ?_
    obtain ⟨G9, qr8, hf⟩ := bn hf
    refine v_callVv (As := []) (rest := []) C (sX11_notsCome h_l0 qr8) cs_X11_335 (by decide) h_l0 rfl hC rfl rfl rfl (Nat.le_of_ble_eq_true rfl) ⟨Nat.le_refl _, Nat.le_refl _⟩ dX11_closes_40 (fun hC => ?_)
    cases hf
    exact kr _ _ dX11_closes_43 hC
def fX11_closes (sh : Sh) (G : Hp) (l0 : Nat) : Option (Hp) := (fX11_isTop sh G l0 27).bind fun r1 => if r1 = 0 then (fX11_isTop sh G l0 26).bind fun r3 => if r3 = 0 then bd (sI G l0 52 ((G.1 l0 52) - 1)) fun G5 => (fX11_goesOn sh G5 l0).bind fun G7 => (fX11_notsCome sh G7 l0).bind fun G9 => some G9 else fX11_closes_J18 sh G l0 else fX11_closes_J18 sh G l0
set_option maxHeartbeats 4000000 in
theorem tX11_closes {E : EX} {ad : Nat → Nat} {sh : Sh} {G : Hp} {l0 : Nat} {z : Hp} (C : Cx E RX11 cX11_closes 1 none 4 0 0) (hC : Cl sh G) (h_l0 : sh[l0]? = some (0, 11)) (hf : fX11_closes sh G l0 = some z) (kr : RCv E cX11_closes ad sh z) : VV E 0 0 (wq (xT E) ad G sh) 0 [(0, .ref (ad l0))] [] := by
  unfold fX11_closes at hf
  refine v_aload_n C 0 dX11_closes_0 rfl rfl ?_
  refine v_bipush (v := 27) C dX11_closes_1 (by decide) ?_
  obtain ⟨r1, qr1, hf⟩ := bn hf
  refine v_callVi (As := [.int 27]) (rest := []) C (sX11_isTop h_l0 qr1) cs_X11_329 (by decide) h_l0 rfl hC rfl rfl rfl (Nat.le_of_ble_eq_true rfl) ⟨Nat.le_refl _, Nat.le_refl _⟩ dX11_closes_3 (fun hC => ?_)
  refine v_if_ne (tgt := 18) C dX11_closes_6 (by decide) (fun c2 => ?_) (fun c2 => ?_)
  · have hf := im hf c2
    refine v_sub [0] rfl ?_
    exact tX11_closes_J18 C hC h_l0 hf kr
  · have hf := ip hf c2
    refine v_aload_n C 0 dX11_closes_9 rfl rfl ?_
    refine v_bipush (v := 26) C dX11_closes_10 (by decide) ?_
    obtain ⟨r3, qr3, hf⟩ := bn hf
    refine v_callVi (As := [.int 26]) (rest := []) C (sX11_isTop h_l0 qr3) cs_X11_329 (by decide) h_l0 rfl hC rfl rfl rfl (Nat.le_of_ble_eq_true rfl) ⟨Nat.le_refl _, Nat.le_refl _⟩ dX11_closes_12 (fun hC => ?_)
    refine v_if_eq (tgt := 25) C dX11_closes_15 (by decide) (fun c4 => ?_) (fun c4 => ?_)
    · have hf := ip hf c4
      refine v_aload_n C 0 dX11_closes_25 rfl rfl ?_
      refine v_dup C dX11_closes_26 rfl ?_
      refine v_getI C h_l0 fl_X11_323 dX11_closes_27 ?_
      refine v_iconst (v := 1) C dX11_closes_30 (by decide) ?_
      refine v_isub C dX11_closes_31 ?_
      refine v_putI C h_l0 fp_X11_323 dX11_closes_32 (fun G5 eG5 => ?_)
      have hf := bd_at hf eG5
      have hC : Cl sh G5 := by rw [eG5]; exact hC
      refine v_aload_n C 0 dX11_closes_35 rfl rfl ?_
      obtain ⟨G7, qr6, hf⟩ := bn hf
      refine v_callVv (As := []) (rest := []) C (sX11_goesOn h_l0 qr6) cs_X11_248 (by decide) h_l0 rfl hC rfl rfl rfl (Nat.le_of_ble_eq_true rfl) ⟨Nat.le_refl _, Nat.le_refl _⟩ dX11_closes_36 (fun hC => ?_)
      refine v_aload_n C 0 dX11_closes_39 rfl rfl ?_
      obtain ⟨G9, qr8, hf⟩ := bn hf
      refine v_callVv (As := []) (rest := []) C (sX11_notsCome h_l0 qr8) cs_X11_335 (by decide) h_l0 rfl hC rfl rfl rfl (Nat.le_of_ble_eq_true rfl) ⟨Nat.le_refl _, Nat.le_refl _⟩ dX11_closes_40 (fun hC => ?_)
      cases hf
      exact kr _ _ dX11_closes_43 hC
    · have hf := im hf c4
      refine v_sub [0] rfl ?_
      exact tX11_closes_J18 C hC h_l0 hf kr
theorem sX11_closes {l : Launch} {sh : Sh} {G : Hp} {l0 : Nat} {z : Hp} (h_l0 : sh[l0]? = some (0, 11)) (hf : fX11_closes sh G l0 = some z) : MC l yX11_closes cX11_closes 1 none 4 0 0 sh sh G z (fun ad => [.ref (ad l0)]) (fun _ => none) := by
  refine MC_of rfl rfl (fun _ => Nat.le_of_ble_eq_true rfl) (fun E ad C hl hnm hC hQ => ?_)
  exact tX11_closes C hC h_l0 hf (fun pc lv hd hC => v_vret C hQ (fun _ _ => rfl) hC rfl hd)
def fX11_tellClause_J94L22 (sh : Sh) (G : Hp) (l0 : Nat) (l3 : Int32) (l4 : Int32) (s0 : Int32) (s1 : Int32) : Option ((Hp × Int32 × Int32) ⊕ ((Hp × Int32) ⊕ (Hp))) := bd ((s1 + s0) : Int32) fun x1 => if l4 = 0 then bd ((l3 + 1) : Int32) fun x3 => (ldA sh G l0 5 1).bind fun a4 => (aI sh G a4 (G.1 l0 11)).bind fun v5 => (fX11_waitsFor sh G l0 v5).bind fun G7 => some (.inl (G7, x1, x3)) else (ldA sh G l0 5 1).bind fun a8 => (aI sh G a8 (G.1 l0 11)).bind fun v9 => (fX11_waitsFor sh G l0 v9).bind fun G11 => some (.inl (G11, x1, 0))
set_option maxHeartbeats 4000000 in
theorem tX11_tellClause_J94L22 {E : EX} {ad : Nat → Nat} {sh : Sh} {G : Hp} {l0 : Nat} {l3 : Int32} {l4 : Int32} {s0 : Int32} {s1 : Int32} {o : (Hp × Int32 × Int32) ⊕ ((Hp × Int32) ⊕ (Hp))} (C : Cx E RX11 cX11_tellClause 5 none 5 0 0) (hC : Cl sh G) (h_l0 : sh[l0]? = some (0, 11)) (hf : fX11_tellClause_J94L22 sh G l0 l3 l4 s0 s1 = some o) (kb : ∀ (G2 : Hp) (b_l1 : Int32) (b_l3 : Int32), o = .inl (G2, b_l1, b_l3) → Cl sh G2 → VV E 0 0 (wq (xT E) ad G2 sh) 22 [(0, .ref (ad l0)), (1, .int b_l1), (3, .int b_l3)] []) (kx125 : ∀ (G2 : Hp) (b_l1 : Int32), o = .inr (.inl (G2, b_l1)) → Cl sh G2 → VV E 0 0 (wq (xT E) ad G2 sh) 125 [(0, .ref (ad l0)), (1, .int b_l1)] []) (kx82 : ∀ (G2 : Hp), o = .inr (.inr G2) → Cl sh G2 → VV E 0 0 (wq (xT E) ad G2 sh) 82 [(0, .ref (ad l0))] []) : VV E 0 0 (wq (xT E) ad G sh) 94 [(0, .ref (ad l0)), (3, .int l3), (4, .int l4)] [.int s0, .int s1] := by
  unfold fX11_tellClause_J94L22 at hf
  refine v_iadd C dX11_tellClause_94 ?_
  refine v_topi (fun x1 ex1 => ?_)
  have hf := bd_at hf ex1
  refine v_istore_n (lv2 := [(1, .int x1), (0, .ref (ad l0)), (3, .int l3), (4, .int l4)]) C dX11_tellClause_95 rfl (by decide) rfl ?_
  refine v_iload C 3 dX11_tellClause_96 rfl ?_
  refine v_if_eq (tgt := 105) C dX11_tellClause_98 (by decide) (fun c2 => ?_) (fun c2 => ?_)
  · have hf := ip hf c2
    refine v_iload_n C 2 dX11_tellClause_105 rfl rfl ?_
    refine v_iconst (v := 1) C dX11_tellClause_106 (by decide) ?_
    refine v_iadd C dX11_tellClause_107 ?_
    refine v_topi (fun x3 ex3 => ?_)
    have hf := bd_at hf ex3
    refine v_istore_n (lv2 := [(3, .int x3), (1, .int x1), (0, .ref (ad l0)), (4, .int l4)]) C dX11_tellClause_108 rfl (by decide) rfl ?_
    refine v_aload_n C 2 dX11_tellClause_109 rfl rfl ?_
    refine v_aload_n C 2 dX11_tellClause_110 rfl rfl ?_
    obtain ⟨a4, qa4, hf⟩ := bn hf
    refine v_getA C h_l0 fl_X11_20 qa4 dX11_tellClause_111 (fun h_a4 => ?_)
    refine v_aload_n C 2 dX11_tellClause_114 rfl rfl ?_
    refine v_getI C h_l0 fl_X11_230 dX11_tellClause_115 ?_
    obtain ⟨v5, qv5, hf⟩ := bn hf
    refine v_iald C h_a4 qv5 dX11_tellClause_118 ?_
    obtain ⟨G7, qr6, hf⟩ := bn hf
    refine v_callVv (As := [.int v5]) (rest := []) C (sX11_waitsFor h_l0 qr6) cs_X11_338 (by decide) h_l0 rfl hC rfl rfl rfl (Nat.le_of_ble_eq_true rfl) ⟨Nat.le_refl _, Nat.le_refl _⟩ dX11_tellClause_119 (fun hC => ?_)
    refine v_goto (tgt := 22) C dX11_tellClause_122 (by decide) ?_
    cases hf
    refine v_sub [2, 1, 0] rfl ?_
    exact kb _ _ _ rfl hC
  · have hf := im hf c2
    refine v_iconst (v := 0) C dX11_tellClause_101 (by decide) ?_
    refine v_goto (tgt := 108) C dX11_tellClause_102 (by decide) ?_
    refine v_istore_n (lv2 := [(3, .int 0), (1, .int x1), (0, .ref (ad l0)), (4, .int l4)]) C dX11_tellClause_108 rfl (by decide) rfl ?_
    refine v_aload_n C 2 dX11_tellClause_109 rfl rfl ?_
    refine v_aload_n C 2 dX11_tellClause_110 rfl rfl ?_
    obtain ⟨a8, qa8, hf⟩ := bn hf
    refine v_getA C h_l0 fl_X11_20 qa8 dX11_tellClause_111 (fun h_a8 => ?_)
    refine v_aload_n C 2 dX11_tellClause_114 rfl rfl ?_
    refine v_getI C h_l0 fl_X11_230 dX11_tellClause_115 ?_
    obtain ⟨v9, qv9, hf⟩ := bn hf
    refine v_iald C h_a8 qv9 dX11_tellClause_118 ?_
    obtain ⟨G11, qr10, hf⟩ := bn hf
    refine v_callVv (As := [.int v9]) (rest := []) C (sX11_waitsFor h_l0 qr10) cs_X11_338 (by decide) h_l0 rfl hC rfl rfl rfl (Nat.le_of_ble_eq_true rfl) ⟨Nat.le_refl _, Nat.le_refl _⟩ dX11_tellClause_119 (fun hC => ?_)
    refine v_goto (tgt := 22) C dX11_tellClause_122 (by decide) ?_
    cases hf
    refine v_sub [2, 1, 0] rfl ?_
    exact kb _ _ _ rfl hC
def fX11_tellClause_J75L22 (sh : Sh) (G : Hp) (l0 : Nat) (l1 : Int32) (l3 : Int32) (l4 : Int32) : Option ((Hp × Int32 × Int32) ⊕ ((Hp × Int32) ⊕ (Hp))) := if (G.1 l0 13) ≤ 0 then if l4 = 0 then fX11_tellClause_J94L22 sh G l0 l3 l4 0 l1 else fX11_tellClause_J94L22 sh G l0 l3 l4 1 l1 else some (.inr (.inr G))
set_option maxHeartbeats 4000000 in
theorem tX11_tellClause_J75L22 {E : EX} {ad : Nat → Nat} {sh : Sh} {G : Hp} {l0 : Nat} {l1 : Int32} {l3 : Int32} {l4 : Int32} {o : (Hp × Int32 × Int32) ⊕ ((Hp × Int32) ⊕ (Hp))} (C : Cx E RX11 cX11_tellClause 5 none 5 0 0) (hC : Cl sh G) (h_l0 : sh[l0]? = some (0, 11)) (hf : fX11_tellClause_J75L22 sh G l0 l1 l3 l4 = some o) (kb : ∀ (G2 : Hp) (b_l1 : Int32) (b_l3 : Int32), o = .inl (G2, b_l1, b_l3) → Cl sh G2 → VV E 0 0 (wq (xT E) ad G2 sh) 22 [(0, .ref (ad l0)), (1, .int b_l1), (3, .int b_l3)] []) (kx125 : ∀ (G2 : Hp) (b_l1 : Int32), o = .inr (.inl (G2, b_l1)) → Cl sh G2 → VV E 0 0 (wq (xT E) ad G2 sh) 125 [(0, .ref (ad l0)), (1, .int b_l1)] []) (kx82 : ∀ (G2 : Hp), o = .inr (.inr G2) → Cl sh G2 → VV E 0 0 (wq (xT E) ad G2 sh) 82 [(0, .ref (ad l0))] []) : VV E 0 0 (wq (xT E) ad G sh) 75 [(0, .ref (ad l0)), (1, .int l1), (3, .int l3), (4, .int l4)] [] := by
  unfold fX11_tellClause_J75L22 at hf
  refine v_aload_n C 0 dX11_tellClause_75 rfl rfl ?_
  refine v_getI C h_l0 fl_X11_227 dX11_tellClause_76 ?_
  refine v_if_le (tgt := 83) C dX11_tellClause_79 (by decide) (fun c1 => ?_) (fun c1 => ?_)
  · have hf := ip hf c1
    refine v_iload_n C 1 dX11_tellClause_83 rfl rfl ?_
    refine v_iload C 3 dX11_tellClause_84 rfl ?_
    refine v_if_eq (tgt := 93) C dX11_tellClause_86 (by decide) (fun c2 => ?_) (fun c2 => ?_)
    · have hf := ip hf c2
      refine v_iconst (v := 0) C dX11_tellClause_93 (by decide) ?_
      refine v_sub [0, 2, 3] rfl ?_
      exact tX11_tellClause_J94L22 C hC h_l0 hf kb kx125 kx82
    · have hf := im hf c2
      refine v_iconst (v := 1) C dX11_tellClause_89 (by decide) ?_
      refine v_goto (tgt := 94) C dX11_tellClause_90 (by decide) ?_
      refine v_sub [0, 2, 3] rfl ?_
      exact tX11_tellClause_J94L22 C hC h_l0 hf kb kx125 kx82
  · have hf := im hf c1
    cases hf
    refine v_sub [0] rfl ?_
    exact kx82 _ rfl hC
def fX11_tellClause_J70L22 (sh : Sh) (G : Hp) (l0 : Nat) (l1 : Int32) (l3 : Int32) (l4 : Int32) : Option ((Hp × Int32 × Int32) ⊕ ((Hp × Int32) ⊕ (Hp))) := (fX11_fail sh G l0 2).bind fun G2 => fX11_tellClause_J75L22 sh G2 l0 l1 l3 l4
set_option maxHeartbeats 4000000 in
theorem tX11_tellClause_J70L22 {E : EX} {ad : Nat → Nat} {sh : Sh} {G : Hp} {l0 : Nat} {l1 : Int32} {l3 : Int32} {l4 : Int32} {o : (Hp × Int32 × Int32) ⊕ ((Hp × Int32) ⊕ (Hp))} (C : Cx E RX11 cX11_tellClause 5 none 5 0 0) (hC : Cl sh G) (h_l0 : sh[l0]? = some (0, 11)) (hf : fX11_tellClause_J70L22 sh G l0 l1 l3 l4 = some o) (kb : ∀ (G2 : Hp) (b_l1 : Int32) (b_l3 : Int32), o = .inl (G2, b_l1, b_l3) → Cl sh G2 → VV E 0 0 (wq (xT E) ad G2 sh) 22 [(0, .ref (ad l0)), (1, .int b_l1), (3, .int b_l3)] []) (kx125 : ∀ (G2 : Hp) (b_l1 : Int32), o = .inr (.inl (G2, b_l1)) → Cl sh G2 → VV E 0 0 (wq (xT E) ad G2 sh) 125 [(0, .ref (ad l0)), (1, .int b_l1)] []) (kx82 : ∀ (G2 : Hp), o = .inr (.inr G2) → Cl sh G2 → VV E 0 0 (wq (xT E) ad G2 sh) 82 [(0, .ref (ad l0))] []) : VV E 0 0 (wq (xT E) ad G sh) 70 [(0, .ref (ad l0)), (1, .int l1), (3, .int l3), (4, .int l4)] [] := by
  unfold fX11_tellClause_J70L22 at hf
  refine v_aload_n C 0 dX11_tellClause_70 rfl rfl ?_
  refine v_iconst (v := 2) C dX11_tellClause_71 (by decide) ?_
  obtain ⟨G2, qr1, hf⟩ := bn hf
  refine v_callVv (As := [.int 2]) (rest := []) C (sX11_fail h_l0 qr1) cs_X11_242 (by decide) h_l0 rfl hC rfl rfl rfl (Nat.le_of_ble_eq_true rfl) ⟨Nat.le_refl _, Nat.le_refl _⟩ dX11_tellClause_72 (fun hC => ?_)
  refine v_sub [0, 1, 2, 3] rfl ?_
  exact tX11_tellClause_J75L22 C hC h_l0 hf kb kx125 kx82
def fX11_tellClause_J59L22 (sh : Sh) (G : Hp) (l0 : Nat) (l1 : Int32) (l3 : Int32) (l4 : Int32) : Option ((Hp × Int32 × Int32) ⊕ ((Hp × Int32) ⊕ (Hp))) := if l4 = 0 then if l3 = 6 then fX11_tellClause_J70L22 sh G l0 l1 l3 l4 else fX11_tellClause_J75L22 sh G l0 l1 l3 l4 else fX11_tellClause_J75L22 sh G l0 l1 l3 l4
set_option maxHeartbeats 4000000 in
theorem tX11_tellClause_J59L22 {E : EX} {ad : Nat → Nat} {sh : Sh} {G : Hp} {l0 : Nat} {l1 : Int32} {l3 : Int32} {l4 : Int32} {o : (Hp × Int32 × Int32) ⊕ ((Hp × Int32) ⊕ (Hp))} (C : Cx E RX11 cX11_tellClause 5 none 5 0 0) (hC : Cl sh G) (h_l0 : sh[l0]? = some (0, 11)) (hf : fX11_tellClause_J59L22 sh G l0 l1 l3 l4 = some o) (kb : ∀ (G2 : Hp) (b_l1 : Int32) (b_l3 : Int32), o = .inl (G2, b_l1, b_l3) → Cl sh G2 → VV E 0 0 (wq (xT E) ad G2 sh) 22 [(0, .ref (ad l0)), (1, .int b_l1), (3, .int b_l3)] []) (kx125 : ∀ (G2 : Hp) (b_l1 : Int32), o = .inr (.inl (G2, b_l1)) → Cl sh G2 → VV E 0 0 (wq (xT E) ad G2 sh) 125 [(0, .ref (ad l0)), (1, .int b_l1)] []) (kx82 : ∀ (G2 : Hp), o = .inr (.inr G2) → Cl sh G2 → VV E 0 0 (wq (xT E) ad G2 sh) 82 [(0, .ref (ad l0))] []) : VV E 0 0 (wq (xT E) ad G sh) 59 [(0, .ref (ad l0)), (1, .int l1), (3, .int l3), (4, .int l4)] [] := by
  unfold fX11_tellClause_J59L22 at hf
  refine v_iload C 3 dX11_tellClause_59 rfl ?_
  refine v_if_ne (tgt := 75) C dX11_tellClause_61 (by decide) (fun c1 => ?_) (fun c1 => ?_)
  · have hf := im hf c1
    refine v_sub [0, 1, 2, 3] rfl ?_
    exact tX11_tellClause_J75L22 C hC h_l0 hf kb kx125 kx82
  · have hf := ip hf c1
    refine v_iload_n C 2 dX11_tellClause_64 rfl rfl ?_
    refine v_bipush (v := 6) C dX11_tellClause_65 (by decide) ?_
    refine v_icmp_ne (tgt := 75) C dX11_tellClause_67 (by decide) (fun c2 => ?_) (fun c2 => ?_)
    · have hf := im hf c2
      refine v_sub [0, 1, 2, 3] rfl ?_
      exact tX11_tellClause_J75L22 C hC h_l0 hf kb kx125 kx82
    · have hf := ip hf c2
      refine v_sub [0, 1, 2, 3] rfl ?_
      exact tX11_tellClause_J70L22 C hC h_l0 hf kb kx125 kx82
def fX11_tellClause_J40L22 (sh : Sh) (G : Hp) (l0 : Nat) (l1 : Int32) (l3 : Int32) : Option ((Hp × Int32 × Int32) ⊕ ((Hp × Int32) ⊕ (Hp))) := (fX11_is sh G l0 6).bind fun r1 => if r1 = 0 then fX11_tellClause_J59L22 sh G l0 l1 l3 r1 else if l1 = 6 then fX11_tellClause_J70L22 sh G l0 l1 l3 r1 else fX11_tellClause_J59L22 sh G l0 l1 l3 r1
set_option maxHeartbeats 4000000 in
theorem tX11_tellClause_J40L22 {E : EX} {ad : Nat → Nat} {sh : Sh} {G : Hp} {l0 : Nat} {l1 : Int32} {l3 : Int32} {o : (Hp × Int32 × Int32) ⊕ ((Hp × Int32) ⊕ (Hp))} (C : Cx E RX11 cX11_tellClause 5 none 5 0 0) (hC : Cl sh G) (h_l0 : sh[l0]? = some (0, 11)) (hf : fX11_tellClause_J40L22 sh G l0 l1 l3 = some o) (kb : ∀ (G2 : Hp) (b_l1 : Int32) (b_l3 : Int32), o = .inl (G2, b_l1, b_l3) → Cl sh G2 → VV E 0 0 (wq (xT E) ad G2 sh) 22 [(0, .ref (ad l0)), (1, .int b_l1), (3, .int b_l3)] []) (kx125 : ∀ (G2 : Hp) (b_l1 : Int32), o = .inr (.inl (G2, b_l1)) → Cl sh G2 → VV E 0 0 (wq (xT E) ad G2 sh) 125 [(0, .ref (ad l0)), (1, .int b_l1)] []) (kx82 : ∀ (G2 : Hp), o = .inr (.inr G2) → Cl sh G2 → VV E 0 0 (wq (xT E) ad G2 sh) 82 [(0, .ref (ad l0))] []) : VV E 0 0 (wq (xT E) ad G sh) 40 [(0, .ref (ad l0)), (1, .int l1), (3, .int l3)] [] := by
  unfold fX11_tellClause_J40L22 at hf
  refine v_aload_n C 0 dX11_tellClause_40 rfl rfl ?_
  refine v_bipush (v := 6) C dX11_tellClause_41 (by decide) ?_
  obtain ⟨r1, qr1, hf⟩ := bn hf
  refine v_callVi (As := [.int 6]) (rest := []) C (sX11_is h_l0 qr1) cs_X11_245 (by decide) h_l0 rfl hC rfl rfl rfl (Nat.le_of_ble_eq_true rfl) ⟨Nat.le_refl _, Nat.le_refl _⟩ dX11_tellClause_43 (fun hC => ?_)
  refine v_istore (lv2 := [(4, .int r1), (0, .ref (ad l0)), (1, .int l1), (3, .int l3)]) C dX11_tellClause_46 (by decide) rfl ?_
  refine v_iload C 0 dX11_tellClause_48 rfl ?_
  refine v_if_eq (tgt := 59) C dX11_tellClause_50 (by decide) (fun c2 => ?_) (fun c2 => ?_)
  · have hf := ip hf c2
    refine v_sub [1, 2, 3, 0] rfl ?_
    exact tX11_tellClause_J59L22 C hC h_l0 hf kb kx125 kx82
  · have hf := im hf c2
    refine v_iload_n C 2 dX11_tellClause_53 rfl rfl ?_
    refine v_bipush (v := 6) C dX11_tellClause_54 (by decide) ?_
    refine v_icmp_eq (tgt := 70) C dX11_tellClause_56 (by decide) (fun c3 => ?_) (fun c3 => ?_)
    · have hf := ip hf c3
      refine v_sub [1, 2, 3, 0] rfl ?_
      exact tX11_tellClause_J70L22 C hC h_l0 hf kb kx125 kx82
    · have hf := im hf c3
      refine v_sub [1, 2, 3, 0] rfl ?_
      exact tX11_tellClause_J59L22 C hC h_l0 hf kb kx125 kx82
def fX11_tellClause_S22 (sh : Sh) (l0 : Nat) (G : Hp) (l1 : Int32) (l3 : Int32) : Option ((Hp × Int32 × Int32) ⊕ ((Hp × Int32) ⊕ (Hp))) := (fX11_is sh G l0 28).bind fun r1 => if r1 = 0 then (fX11_is sh G l0 6).bind fun r3 => if r3 = 0 then some (.inr (.inl (G, l1))) else fX11_tellClause_J40L22 sh G l0 l1 l3 else fX11_tellClause_J40L22 sh G l0 l1 l3
set_option maxHeartbeats 4000000 in
theorem tX11_tellClause_S22 {E : EX} {ad : Nat → Nat} {sh : Sh} {G : Hp} {l0 : Nat} {l1 : Int32} {l3 : Int32} {o : (Hp × Int32 × Int32) ⊕ ((Hp × Int32) ⊕ (Hp))} (C : Cx E RX11 cX11_tellClause 5 none 5 0 0) (hC : Cl sh G) (h_l0 : sh[l0]? = some (0, 11)) (hf : fX11_tellClause_S22 sh l0 G l1 l3 = some o) (kb : ∀ (G2 : Hp) (b_l1 : Int32) (b_l3 : Int32), o = .inl (G2, b_l1, b_l3) → Cl sh G2 → VV E 0 0 (wq (xT E) ad G2 sh) 22 [(0, .ref (ad l0)), (1, .int b_l1), (3, .int b_l3)] []) (kx125 : ∀ (G2 : Hp) (b_l1 : Int32), o = .inr (.inl (G2, b_l1)) → Cl sh G2 → VV E 0 0 (wq (xT E) ad G2 sh) 125 [(0, .ref (ad l0)), (1, .int b_l1)] []) (kx82 : ∀ (G2 : Hp), o = .inr (.inr G2) → Cl sh G2 → VV E 0 0 (wq (xT E) ad G2 sh) 82 [(0, .ref (ad l0))] []) : VV E 0 0 (wq (xT E) ad G sh) 22 [(0, .ref (ad l0)), (1, .int l1), (3, .int l3)] [] := by
  unfold fX11_tellClause_S22 at hf
  refine v_aload_n C 0 dX11_tellClause_22 rfl rfl ?_
  refine v_bipush (v := 28) C dX11_tellClause_23 (by decide) ?_
  obtain ⟨r1, qr1, hf⟩ := bn hf
  refine v_callVi (As := [.int 28]) (rest := []) C (sX11_is h_l0 qr1) cs_X11_245 (by decide) h_l0 rfl hC rfl rfl rfl (Nat.le_of_ble_eq_true rfl) ⟨Nat.le_refl _, Nat.le_refl _⟩ dX11_tellClause_25 (fun hC => ?_)
  refine v_if_ne (tgt := 40) C dX11_tellClause_28 (by decide) (fun c2 => ?_) (fun c2 => ?_)
  · have hf := im hf c2
    refine v_sub [0, 1, 2] rfl ?_
    exact tX11_tellClause_J40L22 C hC h_l0 hf kb kx125 kx82
  · have hf := ip hf c2
    refine v_aload_n C 0 dX11_tellClause_31 rfl rfl ?_
    refine v_bipush (v := 6) C dX11_tellClause_32 (by decide) ?_
    obtain ⟨r3, qr3, hf⟩ := bn hf
    refine v_callVi (As := [.int 6]) (rest := []) C (sX11_is h_l0 qr3) cs_X11_245 (by decide) h_l0 rfl hC rfl rfl rfl (Nat.le_of_ble_eq_true rfl) ⟨Nat.le_refl _, Nat.le_refl _⟩ dX11_tellClause_34 (fun hC => ?_)
    refine v_if_eq (tgt := 125) C dX11_tellClause_37 (by decide) (fun c4 => ?_) (fun c4 => ?_)
    · have hf := ip hf c4
      cases hf
      refine v_sub [0, 1] rfl ?_
      exact kx125 _ _ rfl hC
    · have hf := im hf c4
      refine v_sub [0, 1, 2] rfl ?_
      exact tX11_tellClause_J40L22 C hC h_l0 hf kb kx125 kx82
def fX11_tellClause_S152 (sh : Sh) (l0 : Nat) (G : Hp) (l1 : Int32) : Option ((Hp × Int32) ⊕ ((Hp × Int32))) := (fX11_is sh G l0 7).bind fun r1 => if r1 = 0 then some (.inr (G, l1)) else if l1 ≤ 0 then some (.inr (G, l1)) else bd ((l1 + (-1)) : Int32) fun x4 => (fX11_closes sh G l0).bind fun G6 => some (.inl (G6, x4))
set_option maxHeartbeats 4000000 in
theorem tX11_tellClause_S152 {E : EX} {ad : Nat → Nat} {sh : Sh} {G : Hp} {l0 : Nat} {l1 : Int32} {o : (Hp × Int32) ⊕ ((Hp × Int32))} (C : Cx E RX11 cX11_tellClause 5 none 5 0 0) (hC : Cl sh G) (h_l0 : sh[l0]? = some (0, 11)) (hf : fX11_tellClause_S152 sh l0 G l1 = some o) (kb : ∀ (G2 : Hp) (b_l1 : Int32), o = .inl (G2, b_l1) → Cl sh G2 → VV E 0 0 (wq (xT E) ad G2 sh) 152 [(0, .ref (ad l0)), (1, .int b_l1)] []) (kx175 : ∀ (G2 : Hp) (b_l1 : Int32), o = .inr (G2, b_l1) → Cl sh G2 → VV E 0 0 (wq (xT E) ad G2 sh) 175 [(0, .ref (ad l0)), (1, .int b_l1)] []) : VV E 0 0 (wq (xT E) ad G sh) 152 [(0, .ref (ad l0)), (1, .int l1)] [] := by
  unfold fX11_tellClause_S152 at hf
  refine v_aload_n C 0 dX11_tellClause_152 rfl rfl ?_
  refine v_bipush (v := 7) C dX11_tellClause_153 (by decide) ?_
  obtain ⟨r1, qr1, hf⟩ := bn hf
  refine v_callVi (As := [.int 7]) (rest := []) C (sX11_is h_l0 qr1) cs_X11_245 (by decide) h_l0 rfl hC rfl rfl rfl (Nat.le_of_ble_eq_true rfl) ⟨Nat.le_refl _, Nat.le_refl _⟩ dX11_tellClause_155 (fun hC => ?_)
  refine v_if_eq (tgt := 175) C dX11_tellClause_158 (by decide) (fun c2 => ?_) (fun c2 => ?_)
  · have hf := ip hf c2
    cases hf
    refine v_sub [0, 1] rfl ?_
    exact kx175 _ _ rfl hC
  · have hf := im hf c2
    refine v_iload_n C 1 dX11_tellClause_161 rfl rfl ?_
    refine v_if_le (tgt := 175) C dX11_tellClause_162 (by decide) (fun c3 => ?_) (fun c3 => ?_)
    · have hf := ip hf c3
      cases hf
      refine v_sub [0, 1] rfl ?_
      exact kx175 _ _ rfl hC
    · have hf := im hf c3
      obtain ⟨x4, ex4⟩ : ∃ x : Int32, x = (l1 + (-1)) := ⟨_, rfl⟩
      have hf := bd_at hf ex4
      refine v_iinc (v := x4) (j := 1) (lv2 := [(1, .int x4), (0, .ref (ad l0))]) C dX11_tellClause_165 rfl (by rw [ex4]; rfl) (by decide) rfl ?_
      refine v_aload_n C 1 dX11_tellClause_168 rfl rfl ?_
      obtain ⟨G6, qr5, hf⟩ := bn hf
      refine v_callVv (As := []) (rest := []) C (sX11_closes h_l0 qr5) cs_X11_344 (by decide) h_l0 rfl hC rfl rfl rfl (Nat.le_of_ble_eq_true rfl) ⟨Nat.le_refl _, Nat.le_refl _⟩ dX11_tellClause_169 (fun hC => ?_)
      refine v_goto (tgt := 152) C dX11_tellClause_172 (by decide) ?_
      cases hf
      refine v_sub [1, 0] rfl ?_
      exact kb _ _ rfl hC
def fX11_tellClause_S220 (sh : Sh) (l0 : Nat) (l1 : Int32) (l2 : Int32) (G : Hp)  : Option ((Hp) ⊕ ((Hp))) := (fX11_isTop sh G l0 27).bind fun r1 => if r1 = 0 then (fX11_is sh G l0 27).bind fun r5 => if r5 = 0 then (fX11_isTop sh G l0 26).bind fun r7 => if r7 = 0 then some (.inr G) else (fX11_wordComes sh G l0).bind fun G10 => some (.inl G10) else some (.inr G) else (fX11_wordComes sh G l0).bind fun G4 => some (.inl G4)
set_option maxHeartbeats 4000000 in
theorem tX11_tellClause_S220 {E : EX} {ad : Nat → Nat} {sh : Sh} {G : Hp} {l0 : Nat} {l1 : Int32} {l2 : Int32} {o : (Hp) ⊕ ((Hp))} (C : Cx E RX11 cX11_tellClause 5 none 5 0 0) (hC : Cl sh G) (h_l0 : sh[l0]? = some (0, 11)) (hf : fX11_tellClause_S220 sh l0 l1 l2 G  = some o) (kb : ∀ (G2 : Hp), o = .inl G2 → Cl sh G2 → VV E 0 0 (wq (xT E) ad G2 sh) 220 [(0, .ref (ad l0)), (1, .int l1), (2, .int l2)] []) (kx254 : ∀ (G2 : Hp), o = .inr G2 → Cl sh G2 → VV E 0 0 (wq (xT E) ad G2 sh) 254 [(0, .ref (ad l0)), (1, .int l1), (2, .int l2)] []) : VV E 0 0 (wq (xT E) ad G sh) 220 [(0, .ref (ad l0)), (1, .int l1), (2, .int l2)] [] := by
  unfold fX11_tellClause_S220 at hf
  refine v_aload_n C 0 dX11_tellClause_220 rfl rfl ?_
  refine v_bipush (v := 27) C dX11_tellClause_221 (by decide) ?_
  obtain ⟨r1, qr1, hf⟩ := bn hf
  refine v_callVi (As := [.int 27]) (rest := []) C (sX11_isTop h_l0 qr1) cs_X11_329 (by decide) h_l0 rfl hC rfl rfl rfl (Nat.le_of_ble_eq_true rfl) ⟨Nat.le_refl _, Nat.le_refl _⟩ dX11_tellClause_223 (fun hC => ?_)
  refine v_if_ne (tgt := 247) C dX11_tellClause_226 (by decide) (fun c2 => ?_) (fun c2 => ?_)
  · have hf := im hf c2
    refine v_aload_n C 0 dX11_tellClause_247 rfl rfl ?_
    obtain ⟨G4, qr3, hf⟩ := bn hf
    refine v_callVv (As := []) (rest := []) C (sX11_wordComes h_l0 qr3) cs_X11_332 (by decide) h_l0 rfl hC rfl rfl rfl (Nat.le_of_ble_eq_true rfl) ⟨Nat.le_refl _, Nat.le_refl _⟩ dX11_tellClause_248 (fun hC => ?_)
    refine v_goto (tgt := 220) C dX11_tellClause_251 (by decide) ?_
    cases hf
    refine v_sub [0, 1, 2] rfl ?_
    exact kb _ rfl hC
  · have hf := ip hf c2
    refine v_aload_n C 0 dX11_tellClause_229 rfl rfl ?_
    refine v_bipush (v := 27) C dX11_tellClause_230 (by decide) ?_
    obtain ⟨r5, qr5, hf⟩ := bn hf
    refine v_callVi (As := [.int 27]) (rest := []) C (sX11_is h_l0 qr5) cs_X11_245 (by decide) h_l0 rfl hC rfl rfl rfl (Nat.le_of_ble_eq_true rfl) ⟨Nat.le_refl _, Nat.le_refl _⟩ dX11_tellClause_232 (fun hC => ?_)
    refine v_if_ne (tgt := 254) C dX11_tellClause_235 (by decide) (fun c6 => ?_) (fun c6 => ?_)
    · have hf := im hf c6
      cases hf
      refine v_sub [0, 1, 2] rfl ?_
      exact kx254 _ rfl hC
    · have hf := ip hf c6
      refine v_aload_n C 0 dX11_tellClause_238 rfl rfl ?_
      refine v_bipush (v := 26) C dX11_tellClause_239 (by decide) ?_
      obtain ⟨r7, qr7, hf⟩ := bn hf
      refine v_callVi (As := [.int 26]) (rest := []) C (sX11_isTop h_l0 qr7) cs_X11_329 (by decide) h_l0 rfl hC rfl rfl rfl (Nat.le_of_ble_eq_true rfl) ⟨Nat.le_refl _, Nat.le_refl _⟩ dX11_tellClause_241 (fun hC => ?_)
      refine v_if_eq (tgt := 254) C dX11_tellClause_244 (by decide) (fun c8 => ?_) (fun c8 => ?_)
      · have hf := ip hf c8
        cases hf
        refine v_sub [0, 1, 2] rfl ?_
        exact kx254 _ rfl hC
      · have hf := im hf c8
        refine v_aload_n C 0 dX11_tellClause_247 rfl rfl ?_
        obtain ⟨G10, qr9, hf⟩ := bn hf
        refine v_callVv (As := []) (rest := []) C (sX11_wordComes h_l0 qr9) cs_X11_332 (by decide) h_l0 rfl hC rfl rfl rfl (Nat.le_of_ble_eq_true rfl) ⟨Nat.le_refl _, Nat.le_refl _⟩ dX11_tellClause_248 (fun hC => ?_)
        refine v_goto (tgt := 220) C dX11_tellClause_251 (by decide) ?_
        cases hf
        refine v_sub [0, 1, 2] rfl ?_
        exact kb _ rfl hC
def fX11_tellClause_J254L9 (sh : Sh) (G : Hp) (l0 : Nat) (l1 : Int32) (l2 : Int32) : Option ((Hp × Int32 × Int32) ⊕ ((Hp) ⊕ (Hp) ⊕ (Hp) ⊕ (Hp))) := if l2 = 0 then some (.inl (G, l1, l2)) else (ldA sh G l0 5 1).bind fun a2 => (aI sh G a2 (G.1 l0 11)).bind fun v3 => (fX11_waitsFor sh G l0 v3).bind fun G5 => some (.inl (G5, l1, l2))
set_option maxHeartbeats 4000000 in
theorem tX11_tellClause_J254L9 {E : EX} {ad : Nat → Nat} {sh : Sh} {G : Hp} {l0 : Nat} {l1 : Int32} {l2 : Int32} {o : (Hp × Int32 × Int32) ⊕ ((Hp) ⊕ (Hp) ⊕ (Hp) ⊕ (Hp))} (C : Cx E RX11 cX11_tellClause 5 none 5 0 0) (hC : Cl sh G) (h_l0 : sh[l0]? = some (0, 11)) (hf : fX11_tellClause_J254L9 sh G l0 l1 l2 = some o) (kb : ∀ (G2 : Hp) (b_l1 : Int32) (b_l2 : Int32), o = .inl (G2, b_l1, b_l2) → Cl sh G2 → VV E 0 0 (wq (xT E) ad G2 sh) 9 [(0, .ref (ad l0)), (1, .int b_l1), (2, .int b_l2)] []) (kx274 : ∀ (G2 : Hp), o = .inr (.inl G2) → Cl sh G2 → VV E 0 0 (wq (xT E) ad G2 sh) 274 [(0, .ref (ad l0))] []) (kx82 : ∀ (G2 : Hp), o = .inr (.inr (.inl G2)) → Cl sh G2 → VV E 0 0 (wq (xT E) ad G2 sh) 82 [(0, .ref (ad l0))] []) (kx138 : ∀ (G2 : Hp), o = .inr (.inr (.inr (.inl G2))) → Cl sh G2 → VV E 0 0 (wq (xT E) ad G2 sh) 138 [(0, .ref (ad l0))] []) (kx219 : ∀ (G2 : Hp), o = .inr (.inr (.inr (.inr G2))) → Cl sh G2 → VV E 0 0 (wq (xT E) ad G2 sh) 219 [(0, .ref (ad l0))] []) : VV E 0 0 (wq (xT E) ad G sh) 254 [(0, .ref (ad l0)), (1, .int l1), (2, .int l2)] [] := by
  unfold fX11_tellClause_J254L9 at hf
  refine v_iload_n C 2 dX11_tellClause_254 rfl rfl ?_
  refine v_if_eq (tgt := 271) C dX11_tellClause_255 (by decide) (fun c1 => ?_) (fun c1 => ?_)
  · have hf := ip hf c1
    refine v_goto (tgt := 9) C dX11_tellClause_271 (by decide) ?_
    cases hf
    refine v_sub [0, 1, 2] rfl ?_
    exact kb _ _ _ rfl hC
  · have hf := im hf c1
    refine v_aload_n C 0 dX11_tellClause_258 rfl rfl ?_
    refine v_aload_n C 0 dX11_tellClause_259 rfl rfl ?_
    obtain ⟨a2, qa2, hf⟩ := bn hf
    refine v_getA C h_l0 fl_X11_20 qa2 dX11_tellClause_260 (fun h_a2 => ?_)
    refine v_aload_n C 0 dX11_tellClause_263 rfl rfl ?_
    refine v_getI C h_l0 fl_X11_230 dX11_tellClause_264 ?_
    obtain ⟨v3, qv3, hf⟩ := bn hf
    refine v_iald C h_a2 qv3 dX11_tellClause_267 ?_
    obtain ⟨G5, qr4, hf⟩ := bn hf
    refine v_callVv (As := [.int v3]) (rest := []) C (sX11_waitsFor h_l0 qr4) cs_X11_338 (by decide) h_l0 rfl hC rfl rfl rfl (Nat.le_of_ble_eq_true rfl) ⟨Nat.le_refl _, Nat.le_refl _⟩ dX11_tellClause_268 (fun hC => ?_)
    refine v_goto (tgt := 9) C dX11_tellClause_271 (by decide) ?_
    cases hf
    refine v_sub [0, 1, 2] rfl ?_
    exact kb _ _ _ rfl hC
def fX11_tellClause_J212L9 (sh : Sh) (G : Hp) (l0 : Nat) (l1 : Int32) (l2 : Int32) : Option ((Hp × Int32 × Int32) ⊕ ((Hp) ⊕ (Hp) ⊕ (Hp) ⊕ (Hp))) := if (G.1 l0 13) ≤ 0 then (iter (fun s : Hp => fX11_tellClause_S220 sh l0 l1 l2 s ) fuel (G : Hp)).bind (fun u4 => bd u4 fun G3 => fX11_tellClause_J254L9 sh G3 l0 l1 l2) else some (.inr (.inr (.inr (.inr G))))
set_option maxHeartbeats 4000000 in
theorem tX11_tellClause_J212L9 {E : EX} {ad : Nat → Nat} {sh : Sh} {G : Hp} {l0 : Nat} {l1 : Int32} {l2 : Int32} {o : (Hp × Int32 × Int32) ⊕ ((Hp) ⊕ (Hp) ⊕ (Hp) ⊕ (Hp))} (C : Cx E RX11 cX11_tellClause 5 none 5 0 0) (hC : Cl sh G) (h_l0 : sh[l0]? = some (0, 11)) (hf : fX11_tellClause_J212L9 sh G l0 l1 l2 = some o) (kb : ∀ (G2 : Hp) (b_l1 : Int32) (b_l2 : Int32), o = .inl (G2, b_l1, b_l2) → Cl sh G2 → VV E 0 0 (wq (xT E) ad G2 sh) 9 [(0, .ref (ad l0)), (1, .int b_l1), (2, .int b_l2)] []) (kx274 : ∀ (G2 : Hp), o = .inr (.inl G2) → Cl sh G2 → VV E 0 0 (wq (xT E) ad G2 sh) 274 [(0, .ref (ad l0))] []) (kx82 : ∀ (G2 : Hp), o = .inr (.inr (.inl G2)) → Cl sh G2 → VV E 0 0 (wq (xT E) ad G2 sh) 82 [(0, .ref (ad l0))] []) (kx138 : ∀ (G2 : Hp), o = .inr (.inr (.inr (.inl G2))) → Cl sh G2 → VV E 0 0 (wq (xT E) ad G2 sh) 138 [(0, .ref (ad l0))] []) (kx219 : ∀ (G2 : Hp), o = .inr (.inr (.inr (.inr G2))) → Cl sh G2 → VV E 0 0 (wq (xT E) ad G2 sh) 219 [(0, .ref (ad l0))] []) : VV E 0 0 (wq (xT E) ad G sh) 212 [(0, .ref (ad l0)), (1, .int l1), (2, .int l2)] [] := by
  unfold fX11_tellClause_J212L9 at hf
  refine v_aload_n C 0 dX11_tellClause_212 rfl rfl ?_
  refine v_getI C h_l0 fl_X11_227 dX11_tellClause_213 ?_
  refine v_if_le (tgt := 220) C dX11_tellClause_216 (by decide) (fun c1 => ?_) (fun c1 => ?_)
  · have hf := ip hf c1
    obtain ⟨r2, qr2, hf⟩ := bn hf
    refine v_sub [0, 1, 2] rfl ?_
    refine iter_sound (P := (fun s : Hp => Cl sh (s) → VV E 0 0 (wq (xT E) ad (s) sh) 220 [(0, .ref (ad l0)), (1, .int (l1)), (2, .int (l2))] [])) (X := fun r => r = r2) (fun jsr2 jor2 hor2 jbr2 jxr2 hC => tX11_tellClause_S220 C hC h_l0 hor2 (fun _ e => jbr2 _ e) ?_) fuel _ r2 qr2 rfl hC
    · intro G3 hu hC
      have e := jxr2 _ hu
      subst e
      have hf := bd_at hf (rfl : G3 = _)
      refine v_sub [0, 1, 2] rfl ?_
      exact tX11_tellClause_J254L9 C hC h_l0 hf kb kx274 kx82 kx138 kx219
  · have hf := im hf c1
    cases hf
    refine v_sub [0] rfl ?_
    exact kx219 _ rfl hC
def fX11_tellClause_J198L9 (sh : Sh) (G : Hp) (l0 : Nat) (l1 : Int32) (s0 : Int32) : Option ((Hp × Int32 × Int32) ⊕ ((Hp) ⊕ (Hp) ⊕ (Hp) ⊕ (Hp))) := if s0 = 0 then if l1 ≤ 0 then fX11_tellClause_J212L9 sh G l0 l1 s0 else (fX11_fail sh G l0 1).bind fun G4 => fX11_tellClause_J212L9 sh G4 l0 l1 s0 else fX11_tellClause_J212L9 sh G l0 l1 s0
set_option maxHeartbeats 4000000 in
theorem tX11_tellClause_J198L9 {E : EX} {ad : Nat → Nat} {sh : Sh} {G : Hp} {l0 : Nat} {l1 : Int32} {s0 : Int32} {o : (Hp × Int32 × Int32) ⊕ ((Hp) ⊕ (Hp) ⊕ (Hp) ⊕ (Hp))} (C : Cx E RX11 cX11_tellClause 5 none 5 0 0) (hC : Cl sh G) (h_l0 : sh[l0]? = some (0, 11)) (hf : fX11_tellClause_J198L9 sh G l0 l1 s0 = some o) (kb : ∀ (G2 : Hp) (b_l1 : Int32) (b_l2 : Int32), o = .inl (G2, b_l1, b_l2) → Cl sh G2 → VV E 0 0 (wq (xT E) ad G2 sh) 9 [(0, .ref (ad l0)), (1, .int b_l1), (2, .int b_l2)] []) (kx274 : ∀ (G2 : Hp), o = .inr (.inl G2) → Cl sh G2 → VV E 0 0 (wq (xT E) ad G2 sh) 274 [(0, .ref (ad l0))] []) (kx82 : ∀ (G2 : Hp), o = .inr (.inr (.inl G2)) → Cl sh G2 → VV E 0 0 (wq (xT E) ad G2 sh) 82 [(0, .ref (ad l0))] []) (kx138 : ∀ (G2 : Hp), o = .inr (.inr (.inr (.inl G2))) → Cl sh G2 → VV E 0 0 (wq (xT E) ad G2 sh) 138 [(0, .ref (ad l0))] []) (kx219 : ∀ (G2 : Hp), o = .inr (.inr (.inr (.inr G2))) → Cl sh G2 → VV E 0 0 (wq (xT E) ad G2 sh) 219 [(0, .ref (ad l0))] []) : VV E 0 0 (wq (xT E) ad G sh) 198 [(0, .ref (ad l0)), (1, .int l1)] [.int s0] := by
  unfold fX11_tellClause_J198L9 at hf
  refine v_istore_n (lv2 := [(2, .int s0), (0, .ref (ad l0)), (1, .int l1)]) C dX11_tellClause_198 rfl (by decide) rfl ?_
  refine v_iload_n C 0 dX11_tellClause_199 rfl rfl ?_
  refine v_if_ne (tgt := 212) C dX11_tellClause_200 (by decide) (fun c1 => ?_) (fun c1 => ?_)
  · have hf := im hf c1
    refine v_sub [1, 2, 0] rfl ?_
    exact tX11_tellClause_J212L9 C hC h_l0 hf kb kx274 kx82 kx138 kx219
  · have hf := ip hf c1
    refine v_iload_n C 2 dX11_tellClause_203 rfl rfl ?_
    refine v_if_le (tgt := 212) C dX11_tellClause_204 (by decide) (fun c2 => ?_) (fun c2 => ?_)
    · have hf := ip hf c2
      refine v_sub [1, 2, 0] rfl ?_
      exact tX11_tellClause_J212L9 C hC h_l0 hf kb kx274 kx82 kx138 kx219
    · have hf := im hf c2
      refine v_aload_n C 1 dX11_tellClause_207 rfl rfl ?_
      refine v_iconst (v := 1) C dX11_tellClause_208 (by decide) ?_
      obtain ⟨G4, qr3, hf⟩ := bn hf
      refine v_callVv (As := [.int 1]) (rest := []) C (sX11_fail h_l0 qr3) cs_X11_242 (by decide) h_l0 rfl hC rfl rfl rfl (Nat.le_of_ble_eq_true rfl) ⟨Nat.le_refl _, Nat.le_refl _⟩ dX11_tellClause_209 (fun hC => ?_)
      refine v_sub [1, 2, 0] rfl ?_
      exact tX11_tellClause_J212L9 C hC h_l0 hf kb kx274 kx82 kx138 kx219
def fX11_tellClause_J193L9 (sh : Sh) (G : Hp) (l0 : Nat) (l1 : Int32) : Option ((Hp × Int32 × Int32) ⊕ ((Hp) ⊕ (Hp) ⊕ (Hp) ⊕ (Hp))) := fX11_tellClause_J198L9 sh G l0 l1 1
set_option maxHeartbeats 4000000 in
theorem tX11_tellClause_J193L9 {E : EX} {ad : Nat → Nat} {sh : Sh} {G : Hp} {l0 : Nat} {l1 : Int32} {o : (Hp × Int32 × Int32) ⊕ ((Hp) ⊕ (Hp) ⊕ (Hp) ⊕ (Hp))} (C : Cx E RX11 cX11_tellClause 5 none 5 0 0) (hC : Cl sh G) (h_l0 : sh[l0]? = some (0, 11)) (hf : fX11_tellClause_J193L9 sh G l0 l1 = some o) (kb : ∀ (G2 : Hp) (b_l1 : Int32) (b_l2 : Int32), o = .inl (G2, b_l1, b_l2) → Cl sh G2 → VV E 0 0 (wq (xT E) ad G2 sh) 9 [(0, .ref (ad l0)), (1, .int b_l1), (2, .int b_l2)] []) (kx274 : ∀ (G2 : Hp), o = .inr (.inl G2) → Cl sh G2 → VV E 0 0 (wq (xT E) ad G2 sh) 274 [(0, .ref (ad l0))] []) (kx82 : ∀ (G2 : Hp), o = .inr (.inr (.inl G2)) → Cl sh G2 → VV E 0 0 (wq (xT E) ad G2 sh) 82 [(0, .ref (ad l0))] []) (kx138 : ∀ (G2 : Hp), o = .inr (.inr (.inr (.inl G2))) → Cl sh G2 → VV E 0 0 (wq (xT E) ad G2 sh) 138 [(0, .ref (ad l0))] []) (kx219 : ∀ (G2 : Hp), o = .inr (.inr (.inr (.inr G2))) → Cl sh G2 → VV E 0 0 (wq (xT E) ad G2 sh) 219 [(0, .ref (ad l0))] []) : VV E 0 0 (wq (xT E) ad G sh) 193 [(0, .ref (ad l0)), (1, .int l1)] [] := by
  unfold fX11_tellClause_J193L9 at hf
  refine v_iconst (v := 1) C dX11_tellClause_193 (by decide) ?_
  refine v_goto (tgt := 198) C dX11_tellClause_194 (by decide) ?_
  refine v_sub [0, 1] rfl ?_
  exact tX11_tellClause_J198L9 C hC h_l0 hf kb kx274 kx82 kx138 kx219
def fX11_tellClause_J175L9 (sh : Sh) (G : Hp) (l0 : Nat) (l1 : Int32) : Option ((Hp × Int32 × Int32) ⊕ ((Hp) ⊕ (Hp) ⊕ (Hp) ⊕ (Hp))) := (fX11_is sh G l0 27).bind fun r1 => if r1 = 0 then (fX11_is sh G l0 26).bind fun r3 => if r3 = 0 then fX11_tellClause_J198L9 sh G l0 l1 0 else fX11_tellClause_J193L9 sh G l0 l1 else fX11_tellClause_J193L9 sh G l0 l1
set_option maxHeartbeats 4000000 in
theorem tX11_tellClause_J175L9 {E : EX} {ad : Nat → Nat} {sh : Sh} {G : Hp} {l0 : Nat} {l1 : Int32} {o : (Hp × Int32 × Int32) ⊕ ((Hp) ⊕ (Hp) ⊕ (Hp) ⊕ (Hp))} (C : Cx E RX11 cX11_tellClause 5 none 5 0 0) (hC : Cl sh G) (h_l0 : sh[l0]? = some (0, 11)) (hf : fX11_tellClause_J175L9 sh G l0 l1 = some o) (kb : ∀ (G2 : Hp) (b_l1 : Int32) (b_l2 : Int32), o = .inl (G2, b_l1, b_l2) → Cl sh G2 → VV E 0 0 (wq (xT E) ad G2 sh) 9 [(0, .ref (ad l0)), (1, .int b_l1), (2, .int b_l2)] []) (kx274 : ∀ (G2 : Hp), o = .inr (.inl G2) → Cl sh G2 → VV E 0 0 (wq (xT E) ad G2 sh) 274 [(0, .ref (ad l0))] []) (kx82 : ∀ (G2 : Hp), o = .inr (.inr (.inl G2)) → Cl sh G2 → VV E 0 0 (wq (xT E) ad G2 sh) 82 [(0, .ref (ad l0))] []) (kx138 : ∀ (G2 : Hp), o = .inr (.inr (.inr (.inl G2))) → Cl sh G2 → VV E 0 0 (wq (xT E) ad G2 sh) 138 [(0, .ref (ad l0))] []) (kx219 : ∀ (G2 : Hp), o = .inr (.inr (.inr (.inr G2))) → Cl sh G2 → VV E 0 0 (wq (xT E) ad G2 sh) 219 [(0, .ref (ad l0))] []) : VV E 0 0 (wq (xT E) ad G sh) 175 [(0, .ref (ad l0)), (1, .int l1)] [] := by
  unfold fX11_tellClause_J175L9 at hf
  refine v_aload_n C 0 dX11_tellClause_175 rfl rfl ?_
  refine v_bipush (v := 27) C dX11_tellClause_176 (by decide) ?_
  obtain ⟨r1, qr1, hf⟩ := bn hf
  refine v_callVi (As := [.int 27]) (rest := []) C (sX11_is h_l0 qr1) cs_X11_245 (by decide) h_l0 rfl hC rfl rfl rfl (Nat.le_of_ble_eq_true rfl) ⟨Nat.le_refl _, Nat.le_refl _⟩ dX11_tellClause_178 (fun hC => ?_)
  refine v_if_ne (tgt := 193) C dX11_tellClause_181 (by decide) (fun c2 => ?_) (fun c2 => ?_)
  · have hf := im hf c2
    refine v_sub [0, 1] rfl ?_
    exact tX11_tellClause_J193L9 C hC h_l0 hf kb kx274 kx82 kx138 kx219
  · have hf := ip hf c2
    refine v_aload_n C 0 dX11_tellClause_184 rfl rfl ?_
    refine v_bipush (v := 26) C dX11_tellClause_185 (by decide) ?_
    obtain ⟨r3, qr3, hf⟩ := bn hf
    refine v_callVi (As := [.int 26]) (rest := []) C (sX11_is h_l0 qr3) cs_X11_245 (by decide) h_l0 rfl hC rfl rfl rfl (Nat.le_of_ble_eq_true rfl) ⟨Nat.le_refl _, Nat.le_refl _⟩ dX11_tellClause_187 (fun hC => ?_)
    refine v_if_eq (tgt := 197) C dX11_tellClause_190 (by decide) (fun c4 => ?_) (fun c4 => ?_)
    · have hf := ip hf c4
      refine v_iconst (v := 0) C dX11_tellClause_197 (by decide) ?_
      refine v_sub [0, 1] rfl ?_
      exact tX11_tellClause_J198L9 C hC h_l0 hf kb kx274 kx82 kx138 kx219
    · have hf := im hf c4
      refine v_sub [0, 1] rfl ?_
      exact tX11_tellClause_J193L9 C hC h_l0 hf kb kx274 kx82 kx138 kx219
def fX11_tellClause_S9 (sh : Sh) (l0 : Nat) (G : Hp) (l1 : Int32) (l2 : Int32) : Option ((Hp × Int32 × Int32) ⊕ ((Hp) ⊕ (Hp) ⊕ (Hp) ⊕ (Hp))) := if l2 = 0 then some (.inr (.inl G)) else if (G.1 l0 13) = 0 then (iter (fun s : Hp × Int32 × Int32 => fX11_tellClause_S22 sh l0 s.1 s.2.1 s.2.2) fuel ((G, l1, 0) : Hp × Int32 × Int32)).bind (Sum.elim (fun u18 => bd u18.1 fun G4 => bd u18.2 fun x5 => bp (fX11_knownTrait sh G4 l0) fun r6 G7 => if (G7.1 l0 13) ≤ 0 then (fX11_bitOf r6).bind fun r9 => (fX11_emitWord sh G7 l0 r9).bind fun G11 => (fX11_notsCome sh G11 l0).bind fun G13 => (iter (fun s : Hp × Int32 => fX11_tellClause_S152 sh l0 s.1 s.2) fuel ((G13, x5) : Hp × Int32)).bind (fun u17 => bd u17.1 fun G15 => bd u17.2 fun x16 => fX11_tellClause_J175L9 sh G15 l0 x16) else some (.inr (.inr (.inr (.inl G7))))) (fun u20 => bd u20 fun G19 => some (.inr (.inr (.inl G19))))) else some (.inr (.inl G))
set_option maxHeartbeats 4000000 in
theorem tX11_tellClause_S9 {E : EX} {ad : Nat → Nat} {sh : Sh} {G : Hp} {l0 : Nat} {l1 : Int32} {l2 : Int32} {o : (Hp × Int32 × Int32) ⊕ ((Hp) ⊕ (Hp) ⊕ (Hp) ⊕ (Hp))} (C : Cx E RX11 cX11_tellClause 5 none 5 0 0) (hC : Cl sh G) (h_l0 : sh[l0]? = some (0, 11)) (hf : fX11_tellClause_S9 sh l0 G l1 l2 = some o) (kb : ∀ (G2 : Hp) (b_l1 : Int32) (b_l2 : Int32), o = .inl (G2, b_l1, b_l2) → Cl sh G2 → VV E 0 0 (wq (xT E) ad G2 sh) 9 [(0, .ref (ad l0)), (1, .int b_l1), (2, .int b_l2)] []) (kx274 : ∀ (G2 : Hp), o = .inr (.inl G2) → Cl sh G2 → VV E 0 0 (wq (xT E) ad G2 sh) 274 [(0, .ref (ad l0))] []) (kx82 : ∀ (G2 : Hp), o = .inr (.inr (.inl G2)) → Cl sh G2 → VV E 0 0 (wq (xT E) ad G2 sh) 82 [(0, .ref (ad l0))] []) (kx138 : ∀ (G2 : Hp), o = .inr (.inr (.inr (.inl G2))) → Cl sh G2 → VV E 0 0 (wq (xT E) ad G2 sh) 138 [(0, .ref (ad l0))] []) (kx219 : ∀ (G2 : Hp), o = .inr (.inr (.inr (.inr G2))) → Cl sh G2 → VV E 0 0 (wq (xT E) ad G2 sh) 219 [(0, .ref (ad l0))] []) : VV E 0 0 (wq (xT E) ad G sh) 9 [(0, .ref (ad l0)), (1, .int l1), (2, .int l2)] [] := by
  unfold fX11_tellClause_S9 at hf
  refine v_iload_n C 2 dX11_tellClause_9 rfl rfl ?_
  refine v_if_eq (tgt := 274) C dX11_tellClause_10 (by decide) (fun c1 => ?_) (fun c1 => ?_)
  · have hf := ip hf c1
    cases hf
    refine v_sub [0] rfl ?_
    exact kx274 _ rfl hC
  · have hf := im hf c1
    refine v_aload_n C 0 dX11_tellClause_13 rfl rfl ?_
    refine v_getI C h_l0 fl_X11_227 dX11_tellClause_14 ?_
    refine v_if_ne (tgt := 274) C dX11_tellClause_17 (by decide) (fun c2 => ?_) (fun c2 => ?_)
    · have hf := im hf c2
      cases hf
      refine v_sub [0] rfl ?_
      exact kx274 _ rfl hC
    · have hf := ip hf c2
      refine v_iconst (v := 0) C dX11_tellClause_20 (by decide) ?_
      refine v_istore_n (lv2 := [(3, .int 0), (0, .ref (ad l0)), (1, .int l1), (2, .int l2)]) C dX11_tellClause_21 rfl (by decide) rfl ?_
      obtain ⟨r3, qr3, hf⟩ := bn hf
      refine v_sub [1, 2, 0] rfl ?_
      refine iter_sound (P := (fun s : Hp × Int32 × Int32 => Cl sh (s.1) → VV E 0 0 (wq (xT E) ad (s.1) sh) 22 [(0, .ref (ad l0)), (1, .int (s.2.1)), (3, .int (s.2.2))] [])) (X := fun r => r = r3) (fun jsr3 jor3 hor3 jbr3 jxr3 hC => tX11_tellClause_S22 C hC h_l0 hor3 (fun _ _ _ e => jbr3 _ e) ?_ ?_) fuel _ r3 qr3 rfl hC
      · intro G4 x5 hu hC
        have e := jxr3 _ hu
        subst e
        have hf := sm_l hf
        have hf := bd_at hf (rfl : G4 = _)
        have hf := bd_at hf (rfl : x5 = _)
        refine v_aload_n C 0 dX11_tellClause_125 rfl rfl ?_
        obtain ⟨r6, G7, qr6, hf⟩ := bpn hf
        refine v_callVi (As := []) (rest := []) C (sX11_knownTrait h_l0 qr6) cs_X11_317 (by decide) h_l0 rfl hC rfl rfl rfl (Nat.le_of_ble_eq_true rfl) ⟨Nat.le_refl _, Nat.le_refl _⟩ dX11_tellClause_126 (fun hC => ?_)
        refine v_istore (lv2 := [(4, .int r6), (0, .ref (ad l0)), (1, .int x5)]) C dX11_tellClause_129 (by decide) rfl ?_
        refine v_aload_n C 1 dX11_tellClause_131 rfl rfl ?_
        refine v_getI C h_l0 fl_X11_227 dX11_tellClause_132 ?_
        refine v_if_le (tgt := 139) C dX11_tellClause_135 (by decide) (fun c8 => ?_) (fun c8 => ?_)
        · have hf := ip hf c8
          refine v_aload_n C 1 dX11_tellClause_139 rfl rfl ?_
          refine v_iload C 0 dX11_tellClause_140 rfl ?_
          obtain ⟨r9, qr9, hf⟩ := bn hf
          refine v_callSi (As := [.int r6]) (rest := [.ref (ad l0)]) C (sX11_bitOf  qr9) cs_X11_341 (by decide) hC rfl rfl rfl (Nat.le_of_ble_eq_true rfl) ⟨Nat.le_refl _, Nat.le_refl _⟩ dX11_tellClause_142 (fun hC => ?_)
          obtain ⟨G11, qr10, hf⟩ := bn hf
          refine v_callVv (As := [.int r9]) (rest := []) C (sX11_emitWord h_l0 qr10) cs_X11_326 (by decide) h_l0 rfl hC rfl rfl rfl (Nat.le_of_ble_eq_true rfl) ⟨Nat.le_refl _, Nat.le_refl _⟩ dX11_tellClause_145 (fun hC => ?_)
          refine v_aload_n C 1 dX11_tellClause_148 rfl rfl ?_
          obtain ⟨G13, qr12, hf⟩ := bn hf
          refine v_callVv (As := []) (rest := []) C (sX11_notsCome h_l0 qr12) cs_X11_335 (by decide) h_l0 rfl hC rfl rfl rfl (Nat.le_of_ble_eq_true rfl) ⟨Nat.le_refl _, Nat.le_refl _⟩ dX11_tellClause_149 (fun hC => ?_)
          obtain ⟨r14, qr14, hf⟩ := bn hf
          refine v_sub [1, 2] rfl ?_
          refine iter_sound (P := (fun s : Hp × Int32 => Cl sh (s.1) → VV E 0 0 (wq (xT E) ad (s.1) sh) 152 [(0, .ref (ad l0)), (1, .int (s.2))] [])) (X := fun r => r = r14) (fun jsr14 jor14 hor14 jbr14 jxr14 hC => tX11_tellClause_S152 C hC h_l0 hor14 (fun _ _ e => jbr14 _ e) ?_) fuel _ r14 qr14 rfl hC
          · intro G15 x16 hu hC
            have e := jxr14 _ hu
            subst e
            have hf := bd_at hf (rfl : G15 = _)
            have hf := bd_at hf (rfl : x16 = _)
            refine v_sub [0, 1] rfl ?_
            exact tX11_tellClause_J175L9 C hC h_l0 hf kb kx274 kx82 kx138 kx219
        · have hf := im hf c8
          cases hf
          refine v_sub [1] rfl ?_
          exact kx138 _ rfl hC
      · intro G19 hu hC
        have e := jxr3 _ hu
        subst e
        have hf := sm_r hf
        have hf := bd_at hf (rfl : G19 = _)
        cases hf
        refine v_sub [0] rfl ?_
        exact kx82 _ rfl hC
def fX11_tellClause (sh : Sh) (G : Hp) (l0 : Nat) : Option (Hp) := bd (sI G l0 52 0) fun G1 => (iter (fun s : Hp × Int32 × Int32 => fX11_tellClause_S9 sh l0 s.1 s.2.1 s.2.2) fuel ((G1, 0, 1) : Hp × Int32 × Int32)).bind (Sum.elim (fun u4 => bd u4 fun G3 => some G3) (Sum.elim (fun u6 => bd u6 fun G5 => some G5) (Sum.elim (fun u8 => bd u8 fun G7 => some G7) (fun u10 => bd u10 fun G9 => some G9))))
set_option maxHeartbeats 4000000 in
theorem tX11_tellClause {E : EX} {ad : Nat → Nat} {sh : Sh} {G : Hp} {l0 : Nat} {z : Hp} (C : Cx E RX11 cX11_tellClause 5 none 5 0 0) (hC : Cl sh G) (h_l0 : sh[l0]? = some (0, 11)) (hf : fX11_tellClause sh G l0 = some z) (kr : RCv E cX11_tellClause ad sh z) : VV E 0 0 (wq (xT E) ad G sh) 0 [(0, .ref (ad l0))] [] := by
  unfold fX11_tellClause at hf
  refine v_aload_n C 0 dX11_tellClause_0 rfl rfl ?_
  refine v_iconst (v := 0) C dX11_tellClause_1 (by decide) ?_
  refine v_putI C h_l0 fp_X11_323 dX11_tellClause_2 (fun G1 eG1 => ?_)
  have hf := bd_at hf eG1
  have hC : Cl sh G1 := by rw [eG1]; exact hC
  refine v_iconst (v := 0) C dX11_tellClause_5 (by decide) ?_
  refine v_istore_n (lv2 := [(1, .int 0), (0, .ref (ad l0))]) C dX11_tellClause_6 rfl (by decide) rfl ?_
  refine v_iconst (v := 1) C dX11_tellClause_7 (by decide) ?_
  refine v_istore_n (lv2 := [(2, .int 1), (1, .int 0), (0, .ref (ad l0))]) C dX11_tellClause_8 rfl (by decide) rfl ?_
  obtain ⟨r2, qr2, hf⟩ := bn hf
  refine v_sub [2, 1, 0] rfl ?_
  refine iter_sound (P := (fun s : Hp × Int32 × Int32 => Cl sh (s.1) → VV E 0 0 (wq (xT E) ad (s.1) sh) 9 [(0, .ref (ad l0)), (1, .int (s.2.1)), (2, .int (s.2.2))] [])) (X := fun r => r = r2) (fun jsr2 jor2 hor2 jbr2 jxr2 hC => tX11_tellClause_S9 C hC h_l0 hor2 (fun _ _ _ e => jbr2 _ e) ?_ ?_ ?_ ?_) fuel _ r2 qr2 rfl hC
  · intro G3 hu hC
    have e := jxr2 _ hu
    subst e
    have hf := sm_l hf
    have hf := bd_at hf (rfl : G3 = _)
    cases hf
    exact kr _ _ dX11_tellClause_274 hC
  · intro G5 hu hC
    have e := jxr2 _ hu
    subst e
    have hf := sm_r hf
    have hf := sm_l hf
    have hf := bd_at hf (rfl : G5 = _)
    cases hf
    exact kr _ _ dX11_tellClause_82 hC
  · intro G7 hu hC
    have e := jxr2 _ hu
    subst e
    have hf := sm_r hf
    have hf := sm_r hf
    have hf := sm_l hf
    have hf := bd_at hf (rfl : G7 = _)
    cases hf
    exact kr _ _ dX11_tellClause_138 hC
  · intro G9 hu hC
    have e := jxr2 _ hu
    subst e
    have hf := sm_r hf
    have hf := sm_r hf
    have hf := sm_r hf
    have hf := bd_at hf (rfl : G9 = _)
    cases hf
    exact kr _ _ dX11_tellClause_219 hC
theorem sX11_tellClause {l : Launch} {sh : Sh} {G : Hp} {l0 : Nat} {z : Hp} (h_l0 : sh[l0]? = some (0, 11)) (hf : fX11_tellClause sh G l0 = some z) : MC l yX11_tellClause cX11_tellClause 5 none 5 0 0 sh sh G z (fun ad => [.ref (ad l0)]) (fun _ => none) := by
  refine MC_of rfl rfl (fun _ => Nat.le_of_ble_eq_true rfl) (fun E ad C hl hnm hC hQ => ?_)
  exact tX11_tellClause C hC h_l0 hf (fun pc lv hd hC => v_vret C hQ (fun _ _ => rfl) hC rfl hd)
