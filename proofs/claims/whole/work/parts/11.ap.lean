def fX11_tellClause_J94L22 (sh : Sh) (G : Hp) (l0 : Nat) (l3 : Int32) (l4 : Int32) (s0 : Int32) (s1 : Int32) : Option ((Hp × Int32 × Int32) ⊕ ((Hp × Int32) ⊕ (Hp))) := bd ((s1 + s0) : Int32) fun x1 => if l4 = 0 then bd ((l3 + 1) : Int32) fun x3 => (ldA sh G l0 5 1).bind fun a4 => (aI sh G a4 (G.1 l0 11)).bind fun v5 => (fX11_waitsFor sh G l0 v5).bind fun G7 => some (.inl (G7, x1, x3)) else (ldA sh G l0 5 1).bind fun a8 => (aI sh G a8 (G.1 l0 11)).bind fun v9 => (fX11_waitsFor sh G l0 v9).bind fun G11 => some (.inl (G11, x1, 0))
set_option maxHeartbeats 4000000 in
theorem tX11_tellClause_J94L22 {E : EX} {ad : Nat → Nat} {sh : Sh} {G : Hp} {l0 : Nat} {l3 : Int32} {l4 : Int32} {s0 : Int32} {s1 : Int32} {o : (Hp × Int32 × Int32) ⊕ ((Hp × Int32) ⊕ (Hp))} (C : Cx E RX11 cX11_tellClause 5 none 5 0 0) (hC : Cl sh G) (h_l0 : sh[l0]? = some (0, 11)) (hf : fX11_tellClause_J94L22 sh G l0 l3 l4 s0 s1 = some o) (kb : ∀ (G2 : Hp) (b_l1 : Int32) (b_l3 : Int32), o = .inl (G2, b_l1, b_l3) → Cl sh G2 → VV E 0 0 (wq (xT E) ad G2 sh) 22 [(0, .ref (ad l0)), (1, .int b_l1), (3, .int b_l3)] []) (kx125 : ∀ (G2 : Hp) (b_l1 : Int32), o = .inr (.inl (G2, b_l1)) → Cl sh G2 → VV E 0 0 (wq (xT E) ad G2 sh) 125 [(0, .ref (ad l0)), (1, .int b_l1)] []) (kx82 : ∀ (G2 : Hp), o = .inr (.inr G2) → Cl sh G2 → VV E 0 0 (wq (xT E) ad G2 sh) 82 [(0, .ref (ad l0))] []) : VV E 0 0 (wq (xT E) ad G sh) 94 [(0, .ref (ad l0)), (3, .int l3), (4, .int l4)] [.int s0, .int s1] := by
  unfold fX11_tellClause_J94L22 at hf
  refine v_iadd C dX11_tellClause_94 ?_
  refine v_topi (fun x1 ex1 => ?_)
  have hf := bd_at hf ex1
  refine v_istore_n (lv2 := [(1, .int x1), (0, .ref (ad l0)), (3, .int l3), (4, .int l4)]) C dX11_tellClause_95 rfl (by decide) rfl ?_
  refine v_iload C 3 dX11_tellClause_96 rfl ?_
  refine v_if_eq (tgt := 105) C dX11_tellClause_98 (by decide) (fun c2 => ?_) (fun c2 => ?_)
  · have hf := ip hf c2
    refine v_iload_n C 2 dX11_tellClause_105 rfl rfl ?_
    refine v_iconst (v := 1) C dX11_tellClause_106 (by decide) ?_
    refine v_iadd C dX11_tellClause_107 ?_
    refine v_topi (fun x3 ex3 => ?_)
    have hf := bd_at hf ex3
    refine v_istore_n (lv2 := [(3, .int x3), (1, .int x1), (0, .ref (ad l0)), (4, .int l4)]) C dX11_tellClause_108 rfl (by decide) rfl ?_
    refine v_aload_n C 2 dX11_tellClause_109 rfl rfl ?_
    refine v_aload_n C 2 dX11_tellClause_110 rfl rfl ?_
    obtain ⟨a4, qa4, hf⟩ := bn hf
    refine v_getA C h_l0 fl_X11_20 qa4 dX11_tellClause_111 (fun h_a4 => ?_)
    refine v_aload_n C 2 dX11_tellClause_114 rfl rfl ?_
    refine v_getI C h_l0 fl_X11_230 dX11_tellClause_115 ?_
    obtain ⟨v5, qv5, hf⟩ := bn hf
    refine v_iald C h_a4 qv5 dX11_tellClause_118 ?_
    obtain ⟨G7, qr6, hf⟩ := bn hf
    refine v_callVv (As := [.int v5]) (rest := []) C (sX11_waitsFor h_l0 qr6) cs_X11_338 (by decide) h_l0 rfl hC rfl rfl rfl (Nat.le_of_ble_eq_true rfl) ⟨Nat.le_refl _, Nat.le_refl _⟩ dX11_tellClause_119 (fun hC => ?_)
    refine v_goto (tgt := 22) C dX11_tellClause_122 (by decide) ?_
    cases hf
    refine v_sub [2, 1, 0] rfl ?_
    exact kb _ _ _ rfl hC
  · have hf := im hf c2
    refine v_iconst (v := 0) C dX11_tellClause_101 (by decide) ?_
    refine v_goto (tgt := 108) C dX11_tellClause_102 (by decide) ?_
    refine v_istore_n (lv2 := [(3, .int 0), (1, .int x1), (0, .ref (ad l0)), (4, .int l4)]) C dX11_tellClause_108 rfl (by decide) rfl ?_
    refine v_aload_n C 2 dX11_tellClause_109 rfl rfl ?_
    refine v_aload_n C 2 dX11_tellClause_110 rfl rfl ?_
    obtain ⟨a8, qa8, hf⟩ := bn hf
    refine v_getA C h_l0 fl_X11_20 qa8 dX11_tellClause_111 (fun h_a8 => ?_)
    refine v_aload_n C 2 dX11_tellClause_114 rfl rfl ?_
    refine v_getI C h_l0 fl_X11_230 dX11_tellClause_115 ?_
    obtain ⟨v9, qv9, hf⟩ := bn hf
    refine v_iald C h_a8 qv9 dX11_tellClause_118 ?_
    obtain ⟨G11, qr10, hf⟩ := bn hf
    refine v_callVv (As := [.int v9]) (rest := []) C (sX11_waitsFor h_l0 qr10) cs_X11_338 (by decide) h_l0 rfl hC rfl rfl rfl (Nat.le_of_ble_eq_true rfl) ⟨Nat.le_refl _, Nat.le_refl _⟩ dX11_tellClause_119 (fun hC => ?_)
    refine v_goto (tgt := 22) C dX11_tellClause_122 (by decide) ?_
    cases hf
    refine v_sub [2, 1, 0] rfl ?_
    exact kb _ _ _ rfl hC
def fX11_tellClause_J75L22 (sh : Sh) (G : Hp) (l0 : Nat) (l1 : Int32) (l3 : Int32) (l4 : Int32) : Option ((Hp × Int32 × Int32) ⊕ ((Hp × Int32) ⊕ (Hp))) := if (G.1 l0 13) ≤ 0 then if l4 = 0 then fX11_tellClause_J94L22 sh G l0 l3 l4 0 l1 else fX11_tellClause_J94L22 sh G l0 l3 l4 1 l1 else some (.inr (.inr G))
set_option maxHeartbeats 4000000 in
theorem tX11_tellClause_J75L22 {E : EX} {ad : Nat → Nat} {sh : Sh} {G : Hp} {l0 : Nat} {l1 : Int32} {l3 : Int32} {l4 : Int32} {o : (Hp × Int32 × Int32) ⊕ ((Hp × Int32) ⊕ (Hp))} (C : Cx E RX11 cX11_tellClause 5 none 5 0 0) (hC : Cl sh G) (h_l0 : sh[l0]? = some (0, 11)) (hf : fX11_tellClause_J75L22 sh G l0 l1 l3 l4 = some o) (kb : ∀ (G2 : Hp) (b_l1 : Int32) (b_l3 : Int32), o = .inl (G2, b_l1, b_l3) → Cl sh G2 → VV E 0 0 (wq (xT E) ad G2 sh) 22 [(0, .ref (ad l0)), (1, .int b_l1), (3, .int b_l3)] []) (kx125 : ∀ (G2 : Hp) (b_l1 : Int32), o = .inr (.inl (G2, b_l1)) → Cl sh G2 → VV E 0 0 (wq (xT E) ad G2 sh) 125 [(0, .ref (ad l0)), (1, .int b_l1)] []) (kx82 : ∀ (G2 : Hp), o = .inr (.inr G2) → Cl sh G2 → VV E 0 0 (wq (xT E) ad G2 sh) 82 [(0, .ref (ad l0))] []) : VV E 0 0 (wq (xT E) ad G sh) 75 [(0, .ref (ad l0)), (1, .int l1), (3, .int l3), (4, .int l4)] [] := by
  unfold fX11_tellClause_J75L22 at hf
  refine v_aload_n C 0 dX11_tellClause_75 rfl rfl ?_
  refine v_getI C h_l0 fl_X11_227 dX11_tellClause_76 ?_
  refine v_if_le (tgt := 83) C dX11_tellClause_79 (by decide) (fun c1 => ?_) (fun c1 => ?_)
  · have hf := ip hf c1
    refine v_iload_n C 1 dX11_tellClause_83 rfl rfl ?_
    refine v_iload C 3 dX11_tellClause_84 rfl ?_
    refine v_if_eq (tgt := 93) C dX11_tellClause_86 (by decide) (fun c2 => ?_) (fun c2 => ?_)
    · have hf := ip hf c2
      refine v_iconst (v := 0) C dX11_tellClause_93 (by decide) ?_
      refine v_sub [0, 2, 3] rfl ?_
      exact tX11_tellClause_J94L22 C hC h_l0 hf kb kx125 kx82
    · have hf := im hf c2
      refine v_iconst (v := 1) C dX11_tellClause_89 (by decide) ?_
      refine v_goto (tgt := 94) C dX11_tellClause_90 (by decide) ?_
      refine v_sub [0, 2, 3] rfl ?_
      exact tX11_tellClause_J94L22 C hC h_l0 hf kb kx125 kx82
  · have hf := im hf c1
    cases hf
    refine v_sub [0] rfl ?_
    exact kx82 _ rfl hC
def fX11_tellClause_J70L22 (sh : Sh) (G : Hp) (l0 : Nat) (l1 : Int32) (l3 : Int32) (l4 : Int32) : Option ((Hp × Int32 × Int32) ⊕ ((Hp × Int32) ⊕ (Hp))) := (fX11_fail sh G l0 2).bind fun G2 => fX11_tellClause_J75L22 sh G2 l0 l1 l3 l4
set_option maxHeartbeats 4000000 in
theorem tX11_tellClause_J70L22 {E : EX} {ad : Nat → Nat} {sh : Sh} {G : Hp} {l0 : Nat} {l1 : Int32} {l3 : Int32} {l4 : Int32} {o : (Hp × Int32 × Int32) ⊕ ((Hp × Int32) ⊕ (Hp))} (C : Cx E RX11 cX11_tellClause 5 none 5 0 0) (hC : Cl sh G) (h_l0 : sh[l0]? = some (0, 11)) (hf : fX11_tellClause_J70L22 sh G l0 l1 l3 l4 = some o) (kb : ∀ (G2 : Hp) (b_l1 : Int32) (b_l3 : Int32), o = .inl (G2, b_l1, b_l3) → Cl sh G2 → VV E 0 0 (wq (xT E) ad G2 sh) 22 [(0, .ref (ad l0)), (1, .int b_l1), (3, .int b_l3)] []) (kx125 : ∀ (G2 : Hp) (b_l1 : Int32), o = .inr (.inl (G2, b_l1)) → Cl sh G2 → VV E 0 0 (wq (xT E) ad G2 sh) 125 [(0, .ref (ad l0)), (1, .int b_l1)] []) (kx82 : ∀ (G2 : Hp), o = .inr (.inr G2) → Cl sh G2 → VV E 0 0 (wq (xT E) ad G2 sh) 82 [(0, .ref (ad l0))] []) : VV E 0 0 (wq (xT E) ad G sh) 70 [(0, .ref (ad l0)), (1, .int l1), (3, .int l3), (4, .int l4)] [] := by
  unfold fX11_tellClause_J70L22 at hf
  refine v_aload_n C 0 dX11_tellClause_70 rfl rfl ?_
  refine v_iconst (v := 2) C dX11_tellClause_71 (by decide) ?_
  obtain ⟨G2, qr1, hf⟩ := bn hf
  refine v_callVv (As := [.int 2]) (rest := []) C (sX11_fail h_l0 qr1) cs_X11_242 (by decide) h_l0 rfl hC rfl rfl rfl (Nat.le_of_ble_eq_true rfl) ⟨Nat.le_refl _, Nat.le_refl _⟩ dX11_tellClause_72 (fun hC => ?_)
  refine v_sub [0, 1, 2, 3] rfl ?_
  exact tX11_tellClause_J75L22 C hC h_l0 hf kb kx125 kx82
def fX11_tellClause_J59L22 (sh : Sh) (G : Hp) (l0 : Nat) (l1 : Int32) (l3 : Int32) (l4 : Int32) : Option ((Hp × Int32 × Int32) ⊕ ((Hp × Int32) ⊕ (Hp))) := if l4 = 0 then if l3 = 6 then fX11_tellClause_J70L22 sh G l0 l1 l3 l4 else fX11_tellClause_J75L22 sh G l0 l1 l3 l4 else fX11_tellClause_J75L22 sh G l0 l1 l3 l4
set_option maxHeartbeats 4000000 in
theorem tX11_tellClause_J59L22 {E : EX} {ad : Nat → Nat} {sh : Sh} {G : Hp} {l0 : Nat} {l1 : Int32} {l3 : Int32} {l4 : Int32} {o : (Hp × Int32 × Int32) ⊕ ((Hp × Int32) ⊕ (Hp))} (C : Cx E RX11 cX11_tellClause 5 none 5 0 0) (hC : Cl sh G) (h_l0 : sh[l0]? = some (0, 11)) (hf : fX11_tellClause_J59L22 sh G l0 l1 l3 l4 = some o) (kb : ∀ (G2 : Hp) (b_l1 : Int32) (b_l3 : Int32), o = .inl (G2, b_l1, b_l3) → Cl sh G2 → VV E 0 0 (wq (xT E) ad G2 sh) 22 [(0, .ref (ad l0)), (1, .int b_l1), (3, .int b_l3)] []) (kx125 : ∀ (G2 : Hp) (b_l1 : Int32), o = .inr (.inl (G2, b_l1)) → Cl sh G2 → VV E 0 0 (wq (xT E) ad G2 sh) 125 [(0, .ref (ad l0)), (1, .int b_l1)] []) (kx82 : ∀ (G2 : Hp), o = .inr (.inr G2) → Cl sh G2 → VV E 0 0 (wq (xT E) ad G2 sh) 82 [(0, .ref (ad l0))] []) : VV E 0 0 (wq (xT E) ad G sh) 59 [(0, .ref (ad l0)), (1, .int l1), (3, .int l3), (4, .int l4)] [] := by
  unfold fX11_tellClause_J59L22 at hf
  refine v_iload C 3 dX11_tellClause_59 rfl ?_
  refine v_if_ne (tgt := 75) C dX11_tellClause_61 (by decide) (fun c1 => ?_) (fun c1 => ?_)
  · have hf := im hf c1
    refine v_sub [0, 1, 2, 3] rfl ?_
    exact tX11_tellClause_J75L22 C hC h_l0 hf kb kx125 kx82
  · have hf := ip hf c1
    refine v_iload_n C 2 dX11_tellClause_64 rfl rfl ?_
    refine v_bipush (v := 6) C dX11_tellClause_65 (by decide) ?_
    refine v_icmp_ne (tgt := 75) C dX11_tellClause_67 (by decide) (fun c2 => ?_) (fun c2 => ?_)
    · have hf := im hf c2
      refine v_sub [0, 1, 2, 3] rfl ?_
      exact tX11_tellClause_J75L22 C hC h_l0 hf kb kx125 kx82
    · have hf := ip hf c2
      refine v_sub [0, 1, 2, 3] rfl ?_
      exact tX11_tellClause_J70L22 C hC h_l0 hf kb kx125 kx82
def fX11_tellClause_J40L22 (sh : Sh) (G : Hp) (l0 : Nat) (l1 : Int32) (l3 : Int32) : Option ((Hp × Int32 × Int32) ⊕ ((Hp × Int32) ⊕ (Hp))) := (fX11_is sh G l0 6).bind fun r1 => if r1 = 0 then fX11_tellClause_J59L22 sh G l0 l1 l3 r1 else if l1 = 6 then fX11_tellClause_J70L22 sh G l0 l1 l3 r1 else fX11_tellClause_J59L22 sh G l0 l1 l3 r1
set_option maxHeartbeats 4000000 in
theorem tX11_tellClause_J40L22 {E : EX} {ad : Nat → Nat} {sh : Sh} {G : Hp} {l0 : Nat} {l1 : Int32} {l3 : Int32} {o : (Hp × Int32 × Int32) ⊕ ((Hp × Int32) ⊕ (Hp))} (C : Cx E RX11 cX11_tellClause 5 none 5 0 0) (hC : Cl sh G) (h_l0 : sh[l0]? = some (0, 11)) (hf : fX11_tellClause_J40L22 sh G l0 l1 l3 = some o) (kb : ∀ (G2 : Hp) (b_l1 : Int32) (b_l3 : Int32), o = .inl (G2, b_l1, b_l3) → Cl sh G2 → VV E 0 0 (wq (xT E) ad G2 sh) 22 [(0, .ref (ad l0)), (1, .int b_l1), (3, .int b_l3)] []) (kx125 : ∀ (G2 : Hp) (b_l1 : Int32), o = .inr (.inl (G2, b_l1)) → Cl sh G2 → VV E 0 0 (wq (xT E) ad G2 sh) 125 [(0, .ref (ad l0)), (1, .int b_l1)] []) (kx82 : ∀ (G2 : Hp), o = .inr (.inr G2) → Cl sh G2 → VV E 0 0 (wq (xT E) ad G2 sh) 82 [(0, .ref (ad l0))] []) : VV E 0 0 (wq (xT E) ad G sh) 40 [(0, .ref (ad l0)), (1, .int l1), (3, .int l3)] [] := by
  unfold fX11_tellClause_J40L22 at hf
  refine v_aload_n C 0 dX11_tellClause_40 rfl rfl ?_
  refine v_bipush (v := 6) C dX11_tellClause_41 (by decide) ?_
  obtain ⟨r1, qr1, hf⟩ := bn hf
  refine v_callVi (As := [.int 6]) (rest := []) C (sX11_is h_l0 qr1) cs_X11_245 (by decide) h_l0 rfl hC rfl rfl rfl (Nat.le_of_ble_eq_true rfl) ⟨Nat.le_refl _, Nat.le_refl _⟩ dX11_tellClause_43 (fun hC => ?_)
  refine v_istore (lv2 := [(4, .int r1), (0, .ref (ad l0)), (1, .int l1), (3, .int l3)]) C dX11_tellClause_46 (by decide) rfl ?_
  refine v_iload C 0 dX11_tellClause_48 rfl ?_
  refine v_if_eq (tgt := 59) C dX11_tellClause_50 (by decide) (fun c2 => ?_) (fun c2 => ?_)
  · have hf := ip hf c2
    refine v_sub [1, 2, 3, 0] rfl ?_
    exact tX11_tellClause_J59L22 C hC h_l0 hf kb kx125 kx82
  · have hf := im hf c2
    refine v_iload_n C 2 dX11_tellClause_53 rfl rfl ?_
    refine v_bipush (v := 6) C dX11_tellClause_54 (by decide) ?_
    refine v_icmp_eq (tgt := 70) C dX11_tellClause_56 (by decide) (fun c3 => ?_) (fun c3 => ?_)
    · have hf := ip hf c3
      refine v_sub [1, 2, 3, 0] rfl ?_
      exact tX11_tellClause_J70L22 C hC h_l0 hf kb kx125 kx82
    · have hf := im hf c3
      refine v_sub [1, 2, 3, 0] rfl ?_
      exact tX11_tellClause_J59L22 C hC h_l0 hf kb kx125 kx82
def fX11_tellClause_S22 (sh : Sh) (l0 : Nat) (G : Hp) (l1 : Int32) (l3 : Int32) : Option ((Hp × Int32 × Int32) ⊕ ((Hp × Int32) ⊕ (Hp))) := (fX11_is sh G l0 28).bind fun r1 => if r1 = 0 then (fX11_is sh G l0 6).bind fun r3 => if r3 = 0 then some (.inr (.inl (G, l1))) else fX11_tellClause_J40L22 sh G l0 l1 l3 else fX11_tellClause_J40L22 sh G l0 l1 l3
set_option maxHeartbeats 4000000 in
theorem tX11_tellClause_S22 {E : EX} {ad : Nat → Nat} {sh : Sh} {G : Hp} {l0 : Nat} {l1 : Int32} {l3 : Int32} {o : (Hp × Int32 × Int32) ⊕ ((Hp × Int32) ⊕ (Hp))} (C : Cx E RX11 cX11_tellClause 5 none 5 0 0) (hC : Cl sh G) (h_l0 : sh[l0]? = some (0, 11)) (hf : fX11_tellClause_S22 sh l0 G l1 l3 = some o) (kb : ∀ (G2 : Hp) (b_l1 : Int32) (b_l3 : Int32), o = .inl (G2, b_l1, b_l3) → Cl sh G2 → VV E 0 0 (wq (xT E) ad G2 sh) 22 [(0, .ref (ad l0)), (1, .int b_l1), (3, .int b_l3)] []) (kx125 : ∀ (G2 : Hp) (b_l1 : Int32), o = .inr (.inl (G2, b_l1)) → Cl sh G2 → VV E 0 0 (wq (xT E) ad G2 sh) 125 [(0, .ref (ad l0)), (1, .int b_l1)] []) (kx82 : ∀ (G2 : Hp), o = .inr (.inr G2) → Cl sh G2 → VV E 0 0 (wq (xT E) ad G2 sh) 82 [(0, .ref (ad l0))] []) : VV E 0 0 (wq (xT E) ad G sh) 22 [(0, .ref (ad l0)), (1, .int l1), (3, .int l3)] [] := by
  unfold fX11_tellClause_S22 at hf
  refine v_aload_n C 0 dX11_tellClause_22 rfl rfl ?_
  refine v_bipush (v := 28) C dX11_tellClause_23 (by decide) ?_
  obtain ⟨r1, qr1, hf⟩ := bn hf
  refine v_callVi (As := [.int 28]) (rest := []) C (sX11_is h_l0 qr1) cs_X11_245 (by decide) h_l0 rfl hC rfl rfl rfl (Nat.le_of_ble_eq_true rfl) ⟨Nat.le_refl _, Nat.le_refl _⟩ dX11_tellClause_25 (fun hC => ?_)
  refine v_if_ne (tgt := 40) C dX11_tellClause_28 (by decide) (fun c2 => ?_) (fun c2 => ?_)
  · have hf := im hf c2
    refine v_sub [0, 1, 2] rfl ?_
    exact tX11_tellClause_J40L22 C hC h_l0 hf kb kx125 kx82
  · have hf := ip hf c2
    refine v_aload_n C 0 dX11_tellClause_31 rfl rfl ?_
    refine v_bipush (v := 6) C dX11_tellClause_32 (by decide) ?_
    obtain ⟨r3, qr3, hf⟩ := bn hf
    refine v_callVi (As := [.int 6]) (rest := []) C (sX11_is h_l0 qr3) cs_X11_245 (by decide) h_l0 rfl hC rfl rfl rfl (Nat.le_of_ble_eq_true rfl) ⟨Nat.le_refl _, Nat.le_refl _⟩ dX11_tellClause_34 (fun hC => ?_)
    refine v_if_eq (tgt := 125) C dX11_tellClause_37 (by decide) (fun c4 => ?_) (fun c4 => ?_)
    · have hf := ip hf c4
      cases hf
      refine v_sub [0, 1] rfl ?_
      exact kx125 _ _ rfl hC
    · have hf := im hf c4
      refine v_sub [0, 1, 2] rfl ?_
      exact tX11_tellClause_J40L22 C hC h_l0 hf kb kx125 kx82
def fX11_tellClause_S152 (sh : Sh) (l0 : Nat) (G : Hp) (l1 : Int32) : Option ((Hp × Int32) ⊕ ((Hp × Int32))) := (fX11_is sh G l0 7).bind fun r1 => if r1 = 0 then some (.inr (G, l1)) else if l1 ≤ 0 then some (.inr (G, l1)) else bd ((l1 + (-1)) : Int32) fun x4 => (fX11_closes sh G l0).bind fun G6 => some (.inl (G6, x4))
set_option maxHeartbeats 4000000 in
theorem tX11_tellClause_S152 {E : EX} {ad : Nat → Nat} {sh : Sh} {G : Hp} {l0 : Nat} {l1 : Int32} {o : (Hp × Int32) ⊕ ((Hp × Int32))} (C : Cx E RX11 cX11_tellClause 5 none 5 0 0) (hC : Cl sh G) (h_l0 : sh[l0]? = some (0, 11)) (hf : fX11_tellClause_S152 sh l0 G l1 = some o) (kb : ∀ (G2 : Hp) (b_l1 : Int32), o = .inl (G2, b_l1) → Cl sh G2 → VV E 0 0 (wq (xT E) ad G2 sh) 152 [(0, .ref (ad l0)), (1, .int b_l1)] []) (kx175 : ∀ (G2 : Hp) (b_l1 : Int32), o = .inr (G2, b_l1) → Cl sh G2 → VV E 0 0 (wq (xT E) ad G2 sh) 175 [(0, .ref (ad l0)), (1, .int b_l1)] []) : VV E 0 0 (wq (xT E) ad G sh) 152 [(0, .ref (ad l0)), (1, .int l1)] [] := by
  unfold fX11_tellClause_S152 at hf
  refine v_aload_n C 0 dX11_tellClause_152 rfl rfl ?_
  refine v_bipush (v := 7) C dX11_tellClause_153 (by decide) ?_
  obtain ⟨r1, qr1, hf⟩ := bn hf
  refine v_callVi (As := [.int 7]) (rest := []) C (sX11_is h_l0 qr1) cs_X11_245 (by decide) h_l0 rfl hC rfl rfl rfl (Nat.le_of_ble_eq_true rfl) ⟨Nat.le_refl _, Nat.le_refl _⟩ dX11_tellClause_155 (fun hC => ?_)
  refine v_if_eq (tgt := 175) C dX11_tellClause_158 (by decide) (fun c2 => ?_) (fun c2 => ?_)
  · have hf := ip hf c2
    cases hf
    refine v_sub [0, 1] rfl ?_
    exact kx175 _ _ rfl hC
  · have hf := im hf c2
    refine v_iload_n C 1 dX11_tellClause_161 rfl rfl ?_
    refine v_if_le (tgt := 175) C dX11_tellClause_162 (by decide) (fun c3 => ?_) (fun c3 => ?_)
    · have hf := ip hf c3
      cases hf
      refine v_sub [0, 1] rfl ?_
      exact kx175 _ _ rfl hC
    · have hf := im hf c3
      obtain ⟨x4, ex4⟩ : ∃ x : Int32, x = (l1 + (-1)) := ⟨_, rfl⟩
      have hf := bd_at hf ex4
      refine v_iinc (v := x4) (j := 1) (lv2 := [(1, .int x4), (0, .ref (ad l0))]) C dX11_tellClause_165 rfl (by rw [ex4]; rfl) (by decide) rfl ?_
      refine v_aload_n C 1 dX11_tellClause_168 rfl rfl ?_
      obtain ⟨G6, qr5, hf⟩ := bn hf
      refine v_callVv (As := []) (rest := []) C (sX11_closes h_l0 qr5) cs_X11_344 (by decide) h_l0 rfl hC rfl rfl rfl (Nat.le_of_ble_eq_true rfl) ⟨Nat.le_refl _, Nat.le_refl _⟩ dX11_tellClause_169 (fun hC => ?_)
      refine v_goto (tgt := 152) C dX11_tellClause_172 (by decide) ?_
      cases hf
      refine v_sub [1, 0] rfl ?_
      exact kb _ _ rfl hC
def fX11_tellClause_S220 (sh : Sh) (l0 : Nat) (l1 : Int32) (l2 : Int32) (G : Hp)  : Option ((Hp) ⊕ ((Hp))) := (fX11_isTop sh G l0 27).bind fun r1 => if r1 = 0 then (fX11_is sh G l0 27).bind fun r5 => if r5 = 0 then (fX11_isTop sh G l0 26).bind fun r7 => if r7 = 0 then some (.inr G) else (fX11_wordComes sh G l0).bind fun G10 => some (.inl G10) else some (.inr G) else (fX11_wordComes sh G l0).bind fun G4 => some (.inl G4)
set_option maxHeartbeats 4000000 in
theorem tX11_tellClause_S220 {E : EX} {ad : Nat → Nat} {sh : Sh} {G : Hp} {l0 : Nat} {l1 : Int32} {l2 : Int32} {o : (Hp) ⊕ ((Hp))} (C : Cx E RX11 cX11_tellClause 5 none 5 0 0) (hC : Cl sh G) (h_l0 : sh[l0]? = some (0, 11)) (hf : fX11_tellClause_S220 sh l0 l1 l2 G  = some o) (kb : ∀ (G2 : Hp), o = .inl G2 → Cl sh G2 → VV E 0 0 (wq (xT E) ad G2 sh) 220 [(0, .ref (ad l0)), (1, .int l1), (2, .int l2)] []) (kx254 : ∀ (G2 : Hp), o = .inr G2 → Cl sh G2 → VV E 0 0 (wq (xT E) ad G2 sh) 254 [(0, .ref (ad l0)), (1, .int l1), (2, .int l2)] []) : VV E 0 0 (wq (xT E) ad G sh) 220 [(0, .ref (ad l0)), (1, .int l1), (2, .int l2)] [] := by
  unfold fX11_tellClause_S220 at hf
  refine v_aload_n C 0 dX11_tellClause_220 rfl rfl ?_
  refine v_bipush (v := 27) C dX11_tellClause_221 (by decide) ?_
  obtain ⟨r1, qr1, hf⟩ := bn hf
  refine v_callVi (As := [.int 27]) (rest := []) C (sX11_isTop h_l0 qr1) cs_X11_329 (by decide) h_l0 rfl hC rfl rfl rfl (Nat.le_of_ble_eq_true rfl) ⟨Nat.le_refl _, Nat.le_refl _⟩ dX11_tellClause_223 (fun hC => ?_)
  refine v_if_ne (tgt := 247) C dX11_tellClause_226 (by decide) (fun c2 => ?_) (fun c2 => ?_)
  · have hf := im hf c2
    refine v_aload_n C 0 dX11_tellClause_247 rfl rfl ?_
    obtain ⟨G4, qr3, hf⟩ := bn hf
    refine v_callVv (As := []) (rest := []) C (sX11_wordComes h_l0 qr3) cs_X11_332 (by decide) h_l0 rfl hC rfl rfl rfl (Nat.le_of_ble_eq_true rfl) ⟨Nat.le_refl _, Nat.le_refl _⟩ dX11_tellClause_248 (fun hC => ?_)
    refine v_goto (tgt := 220) C dX11_tellClause_251 (by decide) ?_
    cases hf
    refine v_sub [0, 1, 2] rfl ?_
    exact kb _ rfl hC
  · have hf := ip hf c2
    refine v_aload_n C 0 dX11_tellClause_229 rfl rfl ?_
    refine v_bipush (v := 27) C dX11_tellClause_230 (by decide) ?_
    obtain ⟨r5, qr5, hf⟩ := bn hf
    refine v_callVi (As := [.int 27]) (rest := []) C (sX11_is h_l0 qr5) cs_X11_245 (by decide) h_l0 rfl hC rfl rfl rfl (Nat.le_of_ble_eq_true rfl) ⟨Nat.le_refl _, Nat.le_refl _⟩ dX11_tellClause_232 (fun hC => ?_)
    refine v_if_ne (tgt := 254) C dX11_tellClause_235 (by decide) (fun c6 => ?_) (fun c6 => ?_)
    · have hf := im hf c6
      cases hf
      refine v_sub [0, 1, 2] rfl ?_
      exact kx254 _ rfl hC
    · have hf := ip hf c6
      refine v_aload_n C 0 dX11_tellClause_238 rfl rfl ?_
      refine v_bipush (v := 26) C dX11_tellClause_239 (by decide) ?_
      obtain ⟨r7, qr7, hf⟩ := bn hf
      refine v_callVi (As := [.int 26]) (rest := []) C (sX11_isTop h_l0 qr7) cs_X11_329 (by decide) h_l0 rfl hC rfl rfl rfl (Nat.le_of_ble_eq_true rfl) ⟨Nat.le_refl _, Nat.le_refl _⟩ dX11_tellClause_241 (fun hC => ?_)
      refine v_if_eq (tgt := 254) C dX11_tellClause_244 (by decide) (fun c8 => ?_) (fun c8 => ?_)
      · have hf := ip hf c8
        cases hf
        refine v_sub [0, 1, 2] rfl ?_
        exact kx254 _ rfl hC
      · have hf := im hf c8
        refine v_aload_n C 0 dX11_tellClause_247 rfl rfl ?_
        obtain ⟨G10, qr9, hf⟩ := bn hf
        refine v_callVv (As := []) (rest := []) C (sX11_wordComes h_l0 qr9) cs_X11_332 (by decide) h_l0 rfl hC rfl rfl rfl (Nat.le_of_ble_eq_true rfl) ⟨Nat.le_refl _, Nat.le_refl _⟩ dX11_tellClause_248 (fun hC => ?_)
        refine v_goto (tgt := 220) C dX11_tellClause_251 (by decide) ?_
        cases hf
        refine v_sub [0, 1, 2] rfl ?_
        exact kb _ rfl hC
def fX11_tellClause_J254L9 (sh : Sh) (G : Hp) (l0 : Nat) (l1 : Int32) (l2 : Int32) : Option ((Hp × Int32 × Int32) ⊕ ((Hp) ⊕ (Hp) ⊕ (Hp) ⊕ (Hp))) := if l2 = 0 then some (.inl (G, l1, l2)) else (ldA sh G l0 5 1).bind fun a2 => (aI sh G a2 (G.1 l0 11)).bind fun v3 => (fX11_waitsFor sh G l0 v3).bind fun G5 => some (.inl (G5, l1, l2))
set_option maxHeartbeats 4000000 in
theorem tX11_tellClause_J254L9 {E : EX} {ad : Nat → Nat} {sh : Sh} {G : Hp} {l0 : Nat} {l1 : Int32} {l2 : Int32} {o : (Hp × Int32 × Int32) ⊕ ((Hp) ⊕ (Hp) ⊕ (Hp) ⊕ (Hp))} (C : Cx E RX11 cX11_tellClause 5 none 5 0 0) (hC : Cl sh G) (h_l0 : sh[l0]? = some (0, 11)) (hf : fX11_tellClause_J254L9 sh G l0 l1 l2 = some o) (kb : ∀ (G2 : Hp) (b_l1 : Int32) (b_l2 : Int32), o = .inl (G2, b_l1, b_l2) → Cl sh G2 → VV E 0 0 (wq (xT E) ad G2 sh) 9 [(0, .ref (ad l0)), (1, .int b_l1), (2, .int b_l2)] []) (kx274 : ∀ (G2 : Hp), o = .inr (.inl G2) → Cl sh G2 → VV E 0 0 (wq (xT E) ad G2 sh) 274 [(0, .ref (ad l0))] []) (kx82 : ∀ (G2 : Hp), o = .inr (.inr (.inl G2)) → Cl sh G2 → VV E 0 0 (wq (xT E) ad G2 sh) 82 [(0, .ref (ad l0))] []) (kx138 : ∀ (G2 : Hp), o = .inr (.inr (.inr (.inl G2))) → Cl sh G2 → VV E 0 0 (wq (xT E) ad G2 sh) 138 [(0, .ref (ad l0))] []) (kx219 : ∀ (G2 : Hp), o = .inr (.inr (.inr (.inr G2))) → Cl sh G2 → VV E 0 0 (wq (xT E) ad G2 sh) 219 [(0, .ref (ad l0))] []) : VV E 0 0 (wq (xT E) ad G sh) 254 [(0, .ref (ad l0)), (1, .int l1), (2, .int l2)] [] := by
  unfold fX11_tellClause_J254L9 at hf
  refine v_iload_n C 2 dX11_tellClause_254 rfl rfl ?_
  refine v_if_eq (tgt := 271) C dX11_tellClause_255 (by decide) (fun c1 => ?_) (fun c1 => ?_)
  · have hf := ip hf c1
    refine v_goto (tgt := 9) C dX11_tellClause_271 (by decide) ?_
    cases hf
    refine v_sub [0, 1, 2] rfl ?_
    exact kb _ _ _ rfl hC
  · have hf := im hf c1
    refine v_aload_n C 0 dX11_tellClause_258 rfl rfl ?_
    refine v_aload_n C 0 dX11_tellClause_259 rfl rfl ?_
    obtain ⟨a2, qa2, hf⟩ := bn hf
    refine v_getA C h_l0 fl_X11_20 qa2 dX11_tellClause_260 (fun h_a2 => ?_)
    refine v_aload_n C 0 dX11_tellClause_263 rfl rfl ?_
    refine v_getI C h_l0 fl_X11_230 dX11_tellClause_264 ?_
    obtain ⟨v3, qv3, hf⟩ := bn hf
    refine v_iald C h_a2 qv3 dX11_tellClause_267 ?_
    obtain ⟨G5, qr4, hf⟩ := bn hf
    refine v_callVv (As := [.int v3]) (rest := []) C (sX11_waitsFor h_l0 qr4) cs_X11_338 (by decide) h_l0 rfl hC rfl rfl rfl (Nat.le_of_ble_eq_true rfl) ⟨Nat.le_refl _, Nat.le_refl _⟩ dX11_tellClause_268 (fun hC => ?_)
    refine v_goto (tgt := 9) C dX11_tellClause_271 (by decide) ?_
    cases hf
    refine v_sub [0, 1, 2] rfl ?_
    exact kb _ _ _ rfl hC
def fX11_tellClause_J212L9 (sh : Sh) (G : Hp) (l0 : Nat) (l1 : Int32) (l2 : Int32) : Option ((Hp × Int32 × Int32) ⊕ ((Hp) ⊕ (Hp) ⊕ (Hp) ⊕ (Hp))) := if (G.1 l0 13) ≤ 0 then (iter (fun s : Hp => fX11_tellClause_S220 sh l0 l1 l2 s ) fuel (G : Hp)).bind (fun u4 => bd u4 fun G3 => fX11_tellClause_J254L9 sh G3 l0 l1 l2) else some (.inr (.inr (.inr (.inr G))))
set_option maxHeartbeats 4000000 in
theorem tX11_tellClause_J212L9 {E : EX} {ad : Nat → Nat} {sh : Sh} {G : Hp} {l0 : Nat} {l1 : Int32} {l2 : Int32} {o : (Hp × Int32 × Int32) ⊕ ((Hp) ⊕ (Hp) ⊕ (Hp) ⊕ (Hp))} (C : Cx E RX11 cX11_tellClause 5 none 5 0 0) (hC : Cl sh G) (h_l0 : sh[l0]? = some (0, 11)) (hf : fX11_tellClause_J212L9 sh G l0 l1 l2 = some o) (kb : ∀ (G2 : Hp) (b_l1 : Int32) (b_l2 : Int32), o = .inl (G2, b_l1, b_l2) → Cl sh G2 → VV E 0 0 (wq (xT E) ad G2 sh) 9 [(0, .ref (ad l0)), (1, .int b_l1), (2, .int b_l2)] []) (kx274 : ∀ (G2 : Hp), o = .inr (.inl G2) → Cl sh G2 → VV E 0 0 (wq (xT E) ad G2 sh) 274 [(0, .ref (ad l0))] []) (kx82 : ∀ (G2 : Hp), o = .inr (.inr (.inl G2)) → Cl sh G2 → VV E 0 0 (wq (xT E) ad G2 sh) 82 [(0, .ref (ad l0))] []) (kx138 : ∀ (G2 : Hp), o = .inr (.inr (.inr (.inl G2))) → Cl sh G2 → VV E 0 0 (wq (xT E) ad G2 sh) 138 [(0, .ref (ad l0))] []) (kx219 : ∀ (G2 : Hp), o = .inr (.inr (.inr (.inr G2))) → Cl sh G2 → VV E 0 0 (wq (xT E) ad G2 sh) 219 [(0, .ref (ad l0))] []) : VV E 0 0 (wq (xT E) ad G sh) 212 [(0, .ref (ad l0)), (1, .int l1), (2, .int l2)] [] := by
  unfold fX11_tellClause_J212L9 at hf
  refine v_aload_n C 0 dX11_tellClause_212 rfl rfl ?_
  refine v_getI C h_l0 fl_X11_227 dX11_tellClause_213 ?_
  refine v_if_le (tgt := 220) C dX11_tellClause_216 (by decide) (fun c1 => ?_) (fun c1 => ?_)
  · have hf := ip hf c1
    obtain ⟨r2, qr2, hf⟩ := bn hf
    refine v_sub [0, 1, 2] rfl ?_
    refine iter_sound (P := (fun s : Hp => Cl sh (s) → VV E 0 0 (wq (xT E) ad (s) sh) 220 [(0, .ref (ad l0)), (1, .int (l1)), (2, .int (l2))] [])) (X := fun r => r = r2) (fun jsr2 jor2 hor2 jbr2 jxr2 hC => tX11_tellClause_S220 C hC h_l0 hor2 (fun _ e => jbr2 _ e) ?_) fuel _ r2 qr2 rfl hC
    · intro G3 hu hC
      have e := jxr2 _ hu
      subst e
      have hf := bd_at hf (rfl : G3 = _)
      refine v_sub [0, 1, 2] rfl ?_
      exact tX11_tellClause_J254L9 C hC h_l0 hf kb kx274 kx82 kx138 kx219
  · have hf := im hf c1
    cases hf
    refine v_sub [0] rfl ?_
    exact kx219 _ rfl hC
def fX11_tellClause_J198L9 (sh : Sh) (G : Hp) (l0 : Nat) (l1 : Int32) (s0 : Int32) : Option ((Hp × Int32 × Int32) ⊕ ((Hp) ⊕ (Hp) ⊕ (Hp) ⊕ (Hp))) := if s0 = 0 then if l1 ≤ 0 then fX11_tellClause_J212L9 sh G l0 l1 s0 else (fX11_fail sh G l0 1).bind fun G4 => fX11_tellClause_J212L9 sh G4 l0 l1 s0 else fX11_tellClause_J212L9 sh G l0 l1 s0
set_option maxHeartbeats 4000000 in
theorem tX11_tellClause_J198L9 {E : EX} {ad : Nat → Nat} {sh : Sh} {G : Hp} {l0 : Nat} {l1 : Int32} {s0 : Int32} {o : (Hp × Int32 × Int32) ⊕ ((Hp) ⊕ (Hp) ⊕ (Hp) ⊕ (Hp))} (C : Cx E RX11 cX11_tellClause 5 none 5 0 0) (hC : Cl sh G) (h_l0 : sh[l0]? = some (0, 11)) (hf : fX11_tellClause_J198L9 sh G l0 l1 s0 = some o) (kb : ∀ (G2 : Hp) (b_l1 : Int32) (b_l2 : Int32), o = .inl (G2, b_l1, b_l2) → Cl sh G2 → VV E 0 0 (wq (xT E) ad G2 sh) 9 [(0, .ref (ad l0)), (1, .int b_l1), (2, .int b_l2)] []) (kx274 : ∀ (G2 : Hp), o = .inr (.inl G2) → Cl sh G2 → VV E 0 0 (wq (xT E) ad G2 sh) 274 [(0, .ref (ad l0))] []) (kx82 : ∀ (G2 : Hp), o = .inr (.inr (.inl G2)) → Cl sh G2 → VV E 0 0 (wq (xT E) ad G2 sh) 82 [(0, .ref (ad l0))] []) (kx138 : ∀ (G2 : Hp), o = .inr (.inr (.inr (.inl G2))) → Cl sh G2 → VV E 0 0 (wq (xT E) ad G2 sh) 138 [(0, .ref (ad l0))] []) (kx219 : ∀ (G2 : Hp), o = .inr (.inr (.inr (.inr G2))) → Cl sh G2 → VV E 0 0 (wq (xT E) ad G2 sh) 219 [(0, .ref (ad l0))] []) : VV E 0 0 (wq (xT E) ad G sh) 198 [(0, .ref (ad l0)), (1, .int l1)] [.int s0] := by
  unfold fX11_tellClause_J198L9 at hf
  refine v_istore_n (lv2 := [(2, .int s0), (0, .ref (ad l0)), (1, .int l1)]) C dX11_tellClause_198 rfl (by decide) rfl ?_
  refine v_iload_n C 0 dX11_tellClause_199 rfl rfl ?_
  refine v_if_ne (tgt := 212) C dX11_tellClause_200 (by decide) (fun c1 => ?_) (fun c1 => ?_)
  · have hf := im hf c1
    refine v_sub [1, 2, 0] rfl ?_
    exact tX11_tellClause_J212L9 C hC h_l0 hf kb kx274 kx82 kx138 kx219
  · have hf := ip hf c1
    refine v_iload_n C 2 dX11_tellClause_203 rfl rfl ?_
    refine v_if_le (tgt := 212) C dX11_tellClause_204 (by decide) (fun c2 => ?_) (fun c2 => ?_)
    · have hf := ip hf c2
      refine v_sub [1, 2, 0] rfl ?_
      exact tX11_tellClause_J212L9 C hC h_l0 hf kb kx274 kx82 kx138 kx219
    · have hf := im hf c2
      refine v_aload_n C 1 dX11_tellClause_207 rfl rfl ?_
      refine v_iconst (v := 1) C dX11_tellClause_208 (by decide) ?_
      obtain ⟨G4, qr3, hf⟩ := bn hf
      refine v_callVv (As := [.int 1]) (rest := []) C (sX11_fail h_l0 qr3) cs_X11_242 (by decide) h_l0 rfl hC rfl rfl rfl (Nat.le_of_ble_eq_true rfl) ⟨Nat.le_refl _, Nat.le_refl _⟩ dX11_tellClause_209 (fun hC => ?_)
      refine v_sub [1, 2, 0] rfl ?_
      exact tX11_tellClause_J212L9 C hC h_l0 hf kb kx274 kx82 kx138 kx219
def fX11_tellClause_J193L9 (sh : Sh) (G : Hp) (l0 : Nat) (l1 : Int32) : Option ((Hp × Int32 × Int32) ⊕ ((Hp) ⊕ (Hp) ⊕ (Hp) ⊕ (Hp))) := fX11_tellClause_J198L9 sh G l0 l1 1
set_option maxHeartbeats 4000000 in
theorem tX11_tellClause_J193L9 {E : EX} {ad : Nat → Nat} {sh : Sh} {G : Hp} {l0 : Nat} {l1 : Int32} {o : (Hp × Int32 × Int32) ⊕ ((Hp) ⊕ (Hp) ⊕ (Hp) ⊕ (Hp))} (C : Cx E RX11 cX11_tellClause 5 none 5 0 0) (hC : Cl sh G) (h_l0 : sh[l0]? = some (0, 11)) (hf : fX11_tellClause_J193L9 sh G l0 l1 = some o) (kb : ∀ (G2 : Hp) (b_l1 : Int32) (b_l2 : Int32), o = .inl (G2, b_l1, b_l2) → Cl sh G2 → VV E 0 0 (wq (xT E) ad G2 sh) 9 [(0, .ref (ad l0)), (1, .int b_l1), (2, .int b_l2)] []) (kx274 : ∀ (G2 : Hp), o = .inr (.inl G2) → Cl sh G2 → VV E 0 0 (wq (xT E) ad G2 sh) 274 [(0, .ref (ad l0))] []) (kx82 : ∀ (G2 : Hp), o = .inr (.inr (.inl G2)) → Cl sh G2 → VV E 0 0 (wq (xT E) ad G2 sh) 82 [(0, .ref (ad l0))] []) (kx138 : ∀ (G2 : Hp), o = .inr (.inr (.inr (.inl G2))) → Cl sh G2 → VV E 0 0 (wq (xT E) ad G2 sh) 138 [(0, .ref (ad l0))] []) (kx219 : ∀ (G2 : Hp), o = .inr (.inr (.inr (.inr G2))) → Cl sh G2 → VV E 0 0 (wq (xT E) ad G2 sh) 219 [(0, .ref (ad l0))] []) : VV E 0 0 (wq (xT E) ad G sh) 193 [(0, .ref (ad l0)), (1, .int l1)] [] := by
  unfold fX11_tellClause_J193L9 at hf
  refine v_iconst (v := 1) C dX11_tellClause_193 (by decide) ?_
  refine v_goto (tgt := 198) C dX11_tellClause_194 (by decide) ?_
  refine v_sub [0, 1] rfl ?_
  exact tX11_tellClause_J198L9 C hC h_l0 hf kb kx274 kx82 kx138 kx219
def fX11_tellClause_J175L9 (sh : Sh) (G : Hp) (l0 : Nat) (l1 : Int32) : Option ((Hp × Int32 × Int32) ⊕ ((Hp) ⊕ (Hp) ⊕ (Hp) ⊕ (Hp))) := (fX11_is sh G l0 27).bind fun r1 => if r1 = 0 then (fX11_is sh G l0 26).bind fun r3 => if r3 = 0 then fX11_tellClause_J198L9 sh G l0 l1 0 else fX11_tellClause_J193L9 sh G l0 l1 else fX11_tellClause_J193L9 sh G l0 l1
set_option maxHeartbeats 4000000 in
theorem tX11_tellClause_J175L9 {E : EX} {ad : Nat → Nat} {sh : Sh} {G : Hp} {l0 : Nat} {l1 : Int32} {o : (Hp × Int32 × Int32) ⊕ ((Hp) ⊕ (Hp) ⊕ (Hp) ⊕ (Hp))} (C : Cx E RX11 cX11_tellClause 5 none 5 0 0) (hC : Cl sh G) (h_l0 : sh[l0]? = some (0, 11)) (hf : fX11_tellClause_J175L9 sh G l0 l1 = some o) (kb : ∀ (G2 : Hp) (b_l1 : Int32) (b_l2 : Int32), o = .inl (G2, b_l1, b_l2) → Cl sh G2 → VV E 0 0 (wq (xT E) ad G2 sh) 9 [(0, .ref (ad l0)), (1, .int b_l1), (2, .int b_l2)] []) (kx274 : ∀ (G2 : Hp), o = .inr (.inl G2) → Cl sh G2 → VV E 0 0 (wq (xT E) ad G2 sh) 274 [(0, .ref (ad l0))] []) (kx82 : ∀ (G2 : Hp), o = .inr (.inr (.inl G2)) → Cl sh G2 → VV E 0 0 (wq (xT E) ad G2 sh) 82 [(0, .ref (ad l0))] []) (kx138 : ∀ (G2 : Hp), o = .inr (.inr (.inr (.inl G2))) → Cl sh G2 → VV E 0 0 (wq (xT E) ad G2 sh) 138 [(0, .ref (ad l0))] []) (kx219 : ∀ (G2 : Hp), o = .inr (.inr (.inr (.inr G2))) → Cl sh G2 → VV E 0 0 (wq (xT E) ad G2 sh) 219 [(0, .ref (ad l0))] []) : VV E 0 0 (wq (xT E) ad G sh) 175 [(0, .ref (ad l0)), (1, .int l1)] [] := by
  unfold fX11_tellClause_J175L9 at hf
  refine v_aload_n C 0 dX11_tellClause_175 rfl rfl ?_
  refine v_bipush (v := 27) C dX11_tellClause_176 (by decide) ?_
  obtain ⟨r1, qr1, hf⟩ := bn hf
  refine v_callVi (As := [.int 27]) (rest := []) C (sX11_is h_l0 qr1) cs_X11_245 (by decide) h_l0 rfl hC rfl rfl rfl (Nat.le_of_ble_eq_true rfl) ⟨Nat.le_refl _, Nat.le_refl _⟩ dX11_tellClause_178 (fun hC => ?_)
  refine v_if_ne (tgt := 193) C dX11_tellClause_181 (by decide) (fun c2 => ?_) (fun c2 => ?_)
  · have hf := im hf c2
    refine v_sub [0, 1] rfl ?_
    exact tX11_tellClause_J193L9 C hC h_l0 hf kb kx274 kx82 kx138 kx219
  · have hf := ip hf c2
    refine v_aload_n C 0 dX11_tellClause_184 rfl rfl ?_
    refine v_bipush (v := 26) C dX11_tellClause_185 (by decide) ?_
    obtain ⟨r3, qr3, hf⟩ := bn hf
    refine v_callVi (As := [.int 26]) (rest := []) C (sX11_is h_l0 qr3) cs_X11_245 (by decide) h_l0 rfl hC rfl rfl rfl (Nat.le_of_ble_eq_true rfl) ⟨Nat.le_refl _, Nat.le_refl _⟩ dX11_tellClause_187 (fun hC => ?_)
    refine v_if_eq (tgt := 197) C dX11_tellClause_190 (by decide) (fun c4 => ?_) (fun c4 => ?_)
    · have hf := ip hf c4
      refine v_iconst (v := 0) C dX11_tellClause_197 (by decide) ?_
      refine v_sub [0, 1] rfl ?_
      exact tX11_tellClause_J198L9 C hC h_l0 hf kb kx274 kx82 kx138 kx219
    · have hf := im hf c4
      refine v_sub [0, 1] rfl ?_
      exact tX11_tellClause_J193L9 C hC h_l0 hf kb kx274 kx82 kx138 kx219
def fX11_tellClause_S9 (sh : Sh) (l0 : Nat) (G : Hp) (l1 : Int32) (l2 : Int32) : Option ((Hp × Int32 × Int32) ⊕ ((Hp) ⊕ (Hp) ⊕ (Hp) ⊕ (Hp))) := if l2 = 0 then some (.inr (.inl G)) else if (G.1 l0 13) = 0 then (iter (fun s : Hp × Int32 × Int32 => fX11_tellClause_S22 sh l0 s.1 s.2.1 s.2.2) fuel ((G, l1, 0) : Hp × Int32 × Int32)).bind (Sum.elim (fun u18 => bd u18.1 fun G4 => bd u18.2 fun x5 => bp (fX11_knownTrait sh G4 l0) fun r6 G7 => if (G7.1 l0 13) ≤ 0 then (fX11_bitOf r6).bind fun r9 => (fX11_emitWord sh G7 l0 r9).bind fun G11 => (fX11_notsCome sh G11 l0).bind fun G13 => (iter (fun s : Hp × Int32 => fX11_tellClause_S152 sh l0 s.1 s.2) fuel ((G13, x5) : Hp × Int32)).bind (fun u17 => bd u17.1 fun G15 => bd u17.2 fun x16 => fX11_tellClause_J175L9 sh G15 l0 x16) else some (.inr (.inr (.inr (.inl G7))))) (fun u20 => bd u20 fun G19 => some (.inr (.inr (.inl G19))))) else some (.inr (.inl G))
set_option maxHeartbeats 4000000 in
theorem tX11_tellClause_S9 {E : EX} {ad : Nat → Nat} {sh : Sh} {G : Hp} {l0 : Nat} {l1 : Int32} {l2 : Int32} {o : (Hp × Int32 × Int32) ⊕ ((Hp) ⊕ (Hp) ⊕ (Hp) ⊕ (Hp))} (C : Cx E RX11 cX11_tellClause 5 none 5 0 0) (hC : Cl sh G) (h_l0 : sh[l0]? = some (0, 11)) (hf : fX11_tellClause_S9 sh l0 G l1 l2 = some o) (kb : ∀ (G2 : Hp) (b_l1 : Int32) (b_l2 : Int32), o = .inl (G2, b_l1, b_l2) → Cl sh G2 → VV E 0 0 (wq (xT E) ad G2 sh) 9 [(0, .ref (ad l0)), (1, .int b_l1), (2, .int b_l2)] []) (kx274 : ∀ (G2 : Hp), o = .inr (.inl G2) → Cl sh G2 → VV E 0 0 (wq (xT E) ad G2 sh) 274 [(0, .ref (ad l0))] []) (kx82 : ∀ (G2 : Hp), o = .inr (.inr (.inl G2)) → Cl sh G2 → VV E 0 0 (wq (xT E) ad G2 sh) 82 [(0, .ref (ad l0))] []) (kx138 : ∀ (G2 : Hp), o = .inr (.inr (.inr (.inl G2))) → Cl sh G2 → VV E 0 0 (wq (xT E) ad G2 sh) 138 [(0, .ref (ad l0))] []) (kx219 : ∀ (G2 : Hp), o = .inr (.inr (.inr (.inr G2))) → Cl sh G2 → VV E 0 0 (wq (xT E) ad G2 sh) 219 [(0, .ref (ad l0))] []) : VV E 0 0 (wq (xT E) ad G sh) 9 [(0, .ref (ad l0)), (1, .int l1), (2, .int l2)] [] := by
  unfold fX11_tellClause_S9 at hf
  refine v_iload_n C 2 dX11_tellClause_9 rfl rfl ?_
  refine v_if_eq (tgt := 274) C dX11_tellClause_10 (by decide) (fun c1 => ?_) (fun c1 => ?_)
  · have hf := ip hf c1
    cases hf
    refine v_sub [0] rfl ?_
    exact kx274 _ rfl hC
  · have hf := im hf c1
    refine v_aload_n C 0 dX11_tellClause_13 rfl rfl ?_
    refine v_getI C h_l0 fl_X11_227 dX11_tellClause_14 ?_
    refine v_if_ne (tgt := 274) C dX11_tellClause_17 (by decide) (fun c2 => ?_) (fun c2 => ?_)
    · have hf := im hf c2
      cases hf
      refine v_sub [0] rfl ?_
      exact kx274 _ rfl hC
    · have hf := ip hf c2
      refine v_iconst (v := 0) C dX11_tellClause_20 (by decide) ?_
      refine v_istore_n (lv2 := [(3, .int 0), (0, .ref (ad l0)), (1, .int l1), (2, .int l2)]) C dX11_tellClause_21 rfl (by decide) rfl ?_
      obtain ⟨r3, qr3, hf⟩ := bn hf
      refine v_sub [1, 2, 0] rfl ?_
      refine iter_sound (P := (fun s : Hp × Int32 × Int32 => Cl sh (s.1) → VV E 0 0 (wq (xT E) ad (s.1) sh) 22 [(0, .ref (ad l0)), (1, .int (s.2.1)), (3, .int (s.2.2))] [])) (X := fun r => r = r3) (fun jsr3 jor3 hor3 jbr3 jxr3 hC => tX11_tellClause_S22 C hC h_l0 hor3 (fun _ _ _ e => jbr3 _ e) ?_ ?_) fuel _ r3 qr3 rfl hC
      · intro G4 x5 hu hC
        have e := jxr3 _ hu
        subst e
        have hf := sm_l hf
        have hf := bd_at hf (rfl : G4 = _)
        have hf := bd_at hf (rfl : x5 = _)
        refine v_aload_n C 0 dX11_tellClause_125 rfl rfl ?_
        obtain ⟨r6, G7, qr6, hf⟩ := bpn hf
        refine v_callVi (As := []) (rest := []) C (sX11_knownTrait h_l0 qr6) cs_X11_317 (by decide) h_l0 rfl hC rfl rfl rfl (Nat.le_of_ble_eq_true rfl) ⟨Nat.le_refl _, Nat.le_refl _⟩ dX11_tellClause_126 (fun hC => ?_)
        refine v_istore (lv2 := [(4, .int r6), (0, .ref (ad l0)), (1, .int x5)]) C dX11_tellClause_129 (by decide) rfl ?_
        refine v_aload_n C 1 dX11_tellClause_131 rfl rfl ?_
        refine v_getI C h_l0 fl_X11_227 dX11_tellClause_132 ?_
        refine v_if_le (tgt := 139) C dX11_tellClause_135 (by decide) (fun c8 => ?_) (fun c8 => ?_)
        · have hf := ip hf c8
          refine v_aload_n C 1 dX11_tellClause_139 rfl rfl ?_
          refine v_iload C 0 dX11_tellClause_140 rfl ?_
          obtain ⟨r9, qr9, hf⟩ := bn hf
          refine v_callSi (As := [.int r6]) (rest := [.ref (ad l0)]) C (sX11_bitOf  qr9) cs_X11_341 (by decide) hC rfl rfl rfl (Nat.le_of_ble_eq_true rfl) ⟨Nat.le_refl _, Nat.le_refl _⟩ dX11_tellClause_142 (fun hC => ?_)
          obtain ⟨G11, qr10, hf⟩ := bn hf
          refine v_callVv (As := [.int r9]) (rest := []) C (sX11_emitWord h_l0 qr10) cs_X11_326 (by decide) h_l0 rfl hC rfl rfl rfl (Nat.le_of_ble_eq_true rfl) ⟨Nat.le_refl _, Nat.le_refl _⟩ dX11_tellClause_145 (fun hC => ?_)
          refine v_aload_n C 1 dX11_tellClause_148 rfl rfl ?_
          obtain ⟨G13, qr12, hf⟩ := bn hf
          refine v_callVv (As := []) (rest := []) C (sX11_notsCome h_l0 qr12) cs_X11_335 (by decide) h_l0 rfl hC rfl rfl rfl (Nat.le_of_ble_eq_true rfl) ⟨Nat.le_refl _, Nat.le_refl _⟩ dX11_tellClause_149 (fun hC => ?_)
          obtain ⟨r14, qr14, hf⟩ := bn hf
          refine v_sub [1, 2] rfl ?_
          refine iter_sound (P := (fun s : Hp × Int32 => Cl sh (s.1) → VV E 0 0 (wq (xT E) ad (s.1) sh) 152 [(0, .ref (ad l0)), (1, .int (s.2))] [])) (X := fun r => r = r14) (fun jsr14 jor14 hor14 jbr14 jxr14 hC => tX11_tellClause_S152 C hC h_l0 hor14 (fun _ _ e => jbr14 _ e) ?_) fuel _ r14 qr14 rfl hC
          · intro G15 x16 hu hC
            have e := jxr14 _ hu
            subst e
            have hf := bd_at hf (rfl : G15 = _)
            have hf := bd_at hf (rfl : x16 = _)
            refine v_sub [0, 1] rfl ?_
            exact tX11_tellClause_J175L9 C hC h_l0 hf kb kx274 kx82 kx138 kx219
        · have hf := im hf c8
          cases hf
          refine v_sub [1] rfl ?_
          exact kx138 _ rfl hC
      · intro G19 hu hC
        have e := jxr3 _ hu
        subst e
        have hf := sm_r hf
        have hf := bd_at hf (rfl : G19 = _)
        cases hf
        refine v_sub [0] rfl ?_
        exact kx82 _ rfl hC
def fX11_tellClause (sh : Sh) (G : Hp) (l0 : Nat) : Option (Hp) := bd (sI G l0 52 0) fun G1 => (iter (fun s : Hp × Int32 × Int32 => fX11_tellClause_S9 sh l0 s.1 s.2.1 s.2.2) fuel ((G1, 0, 1) : Hp × Int32 × Int32)).bind (Sum.elim (fun u4 => bd u4 fun G3 => some G3) (Sum.elim (fun u6 => bd u6 fun G5 => some G5) (Sum.elim (fun u8 => bd u8 fun G7 => some G7) (fun u10 => bd u10 fun G9 => some G9))))
set_option maxHeartbeats 4000000 in
theorem tX11_tellClause {E : EX} {ad : Nat → Nat} {sh : Sh} {G : Hp} {l0 : Nat} {z : Hp} (C : Cx E RX11 cX11_tellClause 5 none 5 0 0) (hC : Cl sh G) (h_l0 : sh[l0]? = some (0, 11)) (hf : fX11_tellClause sh G l0 = some z) (kr : RCv E cX11_tellClause ad sh z) : VV E 0 0 (wq (xT E) ad G sh) 0 [(0, .ref (ad l0))] [] := by
  unfold fX11_tellClause at hf
  refine v_aload_n C 0 dX11_tellClause_0 rfl rfl ?_
  refine v_iconst (v := 0) C dX11_tellClause_1 (by decide) ?_
  refine v_putI C h_l0 fp_X11_323 dX11_tellClause_2 (fun G1 eG1 => ?_)
  have hf := bd_at hf eG1
  have hC : Cl sh G1 := by rw [eG1]; exact hC
  refine v_iconst (v := 0) C dX11_tellClause_5 (by decide) ?_
  refine v_istore_n (lv2 := [(1, .int 0), (0, .ref (ad l0))]) C dX11_tellClause_6 rfl (by decide) rfl ?_
  refine v_iconst (v := 1) C dX11_tellClause_7 (by decide) ?_
  refine v_istore_n (lv2 := [(2, .int 1), (1, .int 0), (0, .ref (ad l0))]) C dX11_tellClause_8 rfl (by decide) rfl ?_
  obtain ⟨r2, qr2, hf⟩ := bn hf
  refine v_sub [2, 1, 0] rfl ?_
  refine iter_sound (P := (fun s : Hp × Int32 × Int32 => Cl sh (s.1) → VV E 0 0 (wq (xT E) ad (s.1) sh) 9 [(0, .ref (ad l0)), (1, .int (s.2.1)), (2, .int (s.2.2))] [])) (X := fun r => r = r2) (fun jsr2 jor2 hor2 jbr2 jxr2 hC => tX11_tellClause_S9 C hC h_l0 hor2 (fun _ _ _ e => jbr2 _ e) ?_ ?_ ?_ ?_) fuel _ r2 qr2 rfl hC
  · intro G3 hu hC
    have e := jxr2 _ hu
    subst e
    have hf := sm_l hf
    have hf := bd_at hf (rfl : G3 = _)
    cases hf
    exact kr _ _ dX11_tellClause_274 hC
  · intro G5 hu hC
    have e := jxr2 _ hu
    subst e
    have hf := sm_r hf
    have hf := sm_l hf
    have hf := bd_at hf (rfl : G5 = _)
    cases hf
    exact kr _ _ dX11_tellClause_82 hC
  · intro G7 hu hC
    have e := jxr2 _ hu
    subst e
    have hf := sm_r hf
    have hf := sm_r hf
    have hf := sm_l hf
    have hf := bd_at hf (rfl : G7 = _)
    cases hf
    exact kr _ _ dX11_tellClause_138 hC
  · intro G9 hu hC
    have e := jxr2 _ hu
    subst e
    have hf := sm_r hf
    have hf := sm_r hf
    have hf := sm_r hf
    have hf := bd_at hf (rfl : G9 = _)
    cases hf
    exact kr _ _ dX11_tellClause_219 hC
theorem sX11_tellClause {l : Launch} {sh : Sh} {G : Hp} {l0 : Nat} {z : Hp} (h_l0 : sh[l0]? = some (0, 11)) (hf : fX11_tellClause sh G l0 = some z) : MC l yX11_tellClause cX11_tellClause 5 none 5 0 0 sh sh G z (fun ad => [.ref (ad l0)]) (fun _ => none) := by
  refine MC_of rfl rfl (fun _ => Nat.le_of_ble_eq_true rfl) (fun E ad C hl hnm hC hQ => ?_)
  exact tX11_tellClause C hC h_l0 hf (fun pc lv hd hC => v_vret C hQ (fun _ _ => rfl) hC rfl hd)
def fX11_tellBridge_J74 (sh : Sh) (G : Hp) (l0 : Nat) (l1 : Int32) (l2 : Int32) : Option (Hp) := (ldA sh G l0 35 1).bind fun a1 => (asI sh G a1 l1 (G.1 l0 36)).bind fun G2 => (fX11_ends sh G2 l0 l2 (-1)).bind fun G4 => if (G4.1 l0 13) = 0 then (ldA sh G4 l0 31 1).bind fun a6 => bd ((G4.1 l0 19) : Int32) fun x7 => (aI sh G4 a6 x7).bind fun v8 => (asI sh G4 a6 x7 (v8 + 1)).bind fun G9 => some G9 else some G4
set_option maxHeartbeats 4000000 in
theorem tX11_tellBridge_J74 {E : EX} {ad : Nat → Nat} {sh : Sh} {G : Hp} {l0 : Nat} {l1 : Int32} {l2 : Int32} {z : Hp} (C : Cx E RX11 cX11_tellBridge 3 none 6 0 0) (hC : Cl sh G) (h_l0 : sh[l0]? = some (0, 11)) (hf : fX11_tellBridge_J74 sh G l0 l1 l2 = some z) (kr : RCv E cX11_tellBridge ad sh z) : VV E 0 0 (wq (xT E) ad G sh) 74 [(0, .ref (ad l0)), (1, .int l1), (2, .int l2)] [] := by
  unfold fX11_tellBridge_J74 at hf
  refine v_aload_n C 0 dX11_tellBridge_74 rfl rfl ?_
  obtain ⟨a1, qa1, hf⟩ := bn hf
  refine v_getA C h_l0 fl_X11_82 qa1 dX11_tellBridge_75 (fun h_a1 => ?_)
  refine v_iload_n C 1 dX11_tellBridge_78 rfl rfl ?_
  refine v_aload_n C 0 dX11_tellBridge_79 rfl rfl ?_
  refine v_getI C h_l0 fl_X11_272 dX11_tellBridge_80 ?_
  obtain ⟨G2, qG2, hf⟩ := bn hf
  refine v_iast C h_a1 qG2 hC dX11_tellBridge_83 (fun hC => ?_)
  refine v_aload_n C 0 dX11_tellBridge_84 rfl rfl ?_
  refine v_iload_n C 2 dX11_tellBridge_85 rfl rfl ?_
  refine v_iconst (v := (-1)) C dX11_tellBridge_86 (by decide) ?_
  obtain ⟨G4, qr3, hf⟩ := bn hf
  refine v_callVv (As := [.int l2, .int (-1)]) (rest := []) C (sX11_ends h_l0 qr3) cs_X11_292 (by decide) h_l0 rfl hC rfl rfl rfl (Nat.le_of_ble_eq_true rfl) ⟨Nat.le_refl _, Nat.le_refl _⟩ dX11_tellBridge_87 (fun hC => ?_)
  refine v_aload_n C 0 dX11_tellBridge_90 rfl rfl ?_
  refine v_getI C h_l0 fl_X11_227 dX11_tellBridge_91 ?_
  refine v_if_ne (tgt := 110) C dX11_tellBridge_94 (by decide) (fun c5 => ?_) (fun c5 => ?_)
  · have hf := im hf c5
    cases hf
    exact kr _ _ dX11_tellBridge_110 hC
  · have hf := ip hf c5
    refine v_aload_n C 0 dX11_tellBridge_97 rfl rfl ?_
    obtain ⟨a6, qa6, hf⟩ := bn hf
    refine v_getA C h_l0 fl_X11_70 qa6 dX11_tellBridge_98 (fun h_a6 => ?_)
    refine v_aload_n C 0 dX11_tellBridge_101 rfl rfl ?_
    refine v_getI C h_l0 fl_X11_260 dX11_tellBridge_102 ?_
    refine v_topi (fun x7 ex7 => ?_)
    have hf := bd_at hf ex7
    refine v_dup2 C dX11_tellBridge_105 rfl rfl ?_
    obtain ⟨v8, qv8, hf⟩ := bn hf
    refine v_iald C h_a6 qv8 dX11_tellBridge_106 ?_
    refine v_iconst (v := 1) C dX11_tellBridge_107 (by decide) ?_
    refine v_iadd C dX11_tellBridge_108 ?_
    obtain ⟨G9, qG9, hf⟩ := bn hf
    refine v_iast C h_a6 qG9 hC dX11_tellBridge_109 (fun hC => ?_)
    cases hf
    exact kr _ _ dX11_tellBridge_110 hC
def fX11_tellBridge (sh : Sh) (G : Hp) (l0 : Nat) : Option (Hp) := (ldA sh G l0 31 1).bind fun a1 => (aI sh G a1 (G.1 l0 19)).bind fun v2 => bd ((((4 : Int32) * (G.1 l0 19)) + v2) : Int32) fun x3 => bp (fX11_named sh G l0) fun r4 G5 => (ldA sh G5 l0 32 1).bind fun a6 => bp (fX11_bounded sh G5 l0 1 99) fun r7 G8 => (asI sh G8 a6 x3 r7).bind fun G9 => (ldA sh G9 l0 33 1).bind fun a10 => bp (fX11_bounded sh G9 l0 0 99) fun r11 G12 => (asI sh G12 a10 x3 r11).bind fun G13 => (fX11_must sh G13 l0 5).bind fun G15 => (ldA sh G15 l0 34 1).bind fun a16 => (asI sh G15 a16 x3 (G15.1 l0 36)).bind fun G17 => if (G17.1 l0 13) = 0 then (fX11_tellClause sh G17 l0).bind fun G20 => fX11_tellBridge_J74 sh G20 l0 x3 r4 else fX11_tellBridge_J74 sh G17 l0 x3 r4
set_option maxHeartbeats 4000000 in
theorem tX11_tellBridge {E : EX} {ad : Nat → Nat} {sh : Sh} {G : Hp} {l0 : Nat} {z : Hp} (C : Cx E RX11 cX11_tellBridge 3 none 6 0 0) (hC : Cl sh G) (h_l0 : sh[l0]? = some (0, 11)) (hf : fX11_tellBridge sh G l0 = some z) (kr : RCv E cX11_tellBridge ad sh z) : VV E 0 0 (wq (xT E) ad G sh) 0 [(0, .ref (ad l0))] [] := by
  unfold fX11_tellBridge at hf
  refine v_iconst (v := 4) C dX11_tellBridge_0 (by decide) ?_
  refine v_aload_n C 0 dX11_tellBridge_1 rfl rfl ?_
  refine v_getI C h_l0 fl_X11_260 dX11_tellBridge_2 ?_
  refine v_imul C dX11_tellBridge_5 ?_
  refine v_aload_n C 0 dX11_tellBridge_6 rfl rfl ?_
  obtain ⟨a1, qa1, hf⟩ := bn hf
  refine v_getA C h_l0 fl_X11_70 qa1 dX11_tellBridge_7 (fun h_a1 => ?_)
  refine v_aload_n C 0 dX11_tellBridge_10 rfl rfl ?_
  refine v_getI C h_l0 fl_X11_260 dX11_tellBridge_11 ?_
  obtain ⟨v2, qv2, hf⟩ := bn hf
  refine v_iald C h_a1 qv2 dX11_tellBridge_14 ?_
  refine v_iadd C dX11_tellBridge_15 ?_
  refine v_topi (fun x3 ex3 => ?_)
  have hf := bd_at hf ex3
  refine v_istore_n (lv2 := [(1, .int x3), (0, .ref (ad l0))]) C dX11_tellBridge_16 rfl (by decide) rfl ?_
  refine v_aload_n C 1 dX11_tellBridge_17 rfl rfl ?_
  obtain ⟨r4, G5, qr4, hf⟩ := bpn hf
  refine v_callVi (As := []) (rest := []) C (sX11_named h_l0 qr4) cs_X11_288 (by decide) h_l0 rfl hC rfl rfl rfl (Nat.le_of_ble_eq_true rfl) ⟨Nat.le_refl _, Nat.le_refl _⟩ dX11_tellBridge_18 (fun hC => ?_)
  refine v_istore_n (lv2 := [(2, .int r4), (1, .int x3), (0, .ref (ad l0))]) C dX11_tellBridge_21 rfl (by decide) rfl ?_
  refine v_aload_n C 2 dX11_tellBridge_22 rfl rfl ?_
  obtain ⟨a6, qa6, hf⟩ := bn hf
  refine v_getA C h_l0 fl_X11_73 qa6 dX11_tellBridge_23 (fun h_a6 => ?_)
  refine v_iload_n C 1 dX11_tellBridge_26 rfl rfl ?_
  refine v_aload_n C 2 dX11_tellBridge_27 rfl rfl ?_
  refine v_iconst (v := 1) C dX11_tellBridge_28 (by decide) ?_
  refine v_bipush (v := 99) C dX11_tellBridge_29 (by decide) ?_
  obtain ⟨r7, G8, qr7, hf⟩ := bpn hf
  refine v_callVi (As := [.int 1, .int 99]) (rest := [.int x3, .ref (ad a6)]) C (sX11_bounded h_l0 qr7) cs_X11_304 (by decide) h_l0 rfl hC rfl rfl rfl (Nat.le_of_ble_eq_true rfl) ⟨Nat.le_refl _, Nat.le_refl _⟩ dX11_tellBridge_31 (fun hC => ?_)
  obtain ⟨G9, qG9, hf⟩ := bn hf
  refine v_iast C h_a6 qG9 hC dX11_tellBridge_34 (fun hC => ?_)
  refine v_aload_n C 2 dX11_tellBridge_35 rfl rfl ?_
  obtain ⟨a10, qa10, hf⟩ := bn hf
  refine v_getA C h_l0 fl_X11_76 qa10 dX11_tellBridge_36 (fun h_a10 => ?_)
  refine v_iload_n C 1 dX11_tellBridge_39 rfl rfl ?_
  refine v_aload_n C 2 dX11_tellBridge_40 rfl rfl ?_
  refine v_iconst (v := 0) C dX11_tellBridge_41 (by decide) ?_
  refine v_bipush (v := 99) C dX11_tellBridge_42 (by decide) ?_
  obtain ⟨r11, G12, qr11, hf⟩ := bpn hf
  refine v_callVi (As := [.int 0, .int 99]) (rest := [.int x3, .ref (ad a10)]) C (sX11_bounded h_l0 qr11) cs_X11_304 (by decide) h_l0 rfl hC rfl rfl rfl (Nat.le_of_ble_eq_true rfl) ⟨Nat.le_refl _, Nat.le_refl _⟩ dX11_tellBridge_44 (fun hC => ?_)
  obtain ⟨G13, qG13, hf⟩ := bn hf
  refine v_iast C h_a10 qG13 hC dX11_tellBridge_47 (fun hC => ?_)
  refine v_aload_n C 2 dX11_tellBridge_48 rfl rfl ?_
  refine v_iconst (v := 5) C dX11_tellBridge_49 (by decide) ?_
  obtain ⟨G15, qr14, hf⟩ := bn hf
  refine v_callVv (As := [.int 5]) (rest := []) C (sX11_must h_l0 qr14) cs_X11_308 (by decide) h_l0 rfl hC rfl rfl rfl (Nat.le_of_ble_eq_true rfl) ⟨Nat.le_refl _, Nat.le_refl _⟩ dX11_tellBridge_50 (fun hC => ?_)
  refine v_aload_n C 2 dX11_tellBridge_53 rfl rfl ?_
  obtain ⟨a16, qa16, hf⟩ := bn hf
  refine v_getA C h_l0 fl_X11_79 qa16 dX11_tellBridge_54 (fun h_a16 => ?_)
  refine v_iload_n C 1 dX11_tellBridge_57 rfl rfl ?_
  refine v_aload_n C 2 dX11_tellBridge_58 rfl rfl ?_
  refine v_getI C h_l0 fl_X11_272 dX11_tellBridge_59 ?_
  obtain ⟨G17, qG17, hf⟩ := bn hf
  refine v_iast C h_a16 qG17 hC dX11_tellBridge_62 (fun hC => ?_)
  refine v_aload_n C 2 dX11_tellBridge_63 rfl rfl ?_
  refine v_getI C h_l0 fl_X11_227 dX11_tellBridge_64 ?_
  refine v_if_ne (tgt := 74) C dX11_tellBridge_67 (by decide) (fun c18 => ?_) (fun c18 => ?_)
  · have hf := im hf c18
    refine v_sub [2, 1, 0] rfl ?_
    exact tX11_tellBridge_J74 C hC h_l0 hf kr
  · have hf := ip hf c18
    refine v_aload_n C 2 dX11_tellBridge_70 rfl rfl ?_
    obtain ⟨G20, qr19, hf⟩ := bn hf
    refine v_callVv (As := []) (rest := []) C (sX11_tellClause h_l0 qr19) cs_X11_320 (by decide) h_l0 rfl hC rfl rfl rfl (Nat.le_of_ble_eq_true rfl) ⟨Nat.le_refl _, Nat.le_refl _⟩ dX11_tellBridge_71 (fun hC => ?_)
    refine v_sub [2, 1, 0] rfl ?_
    exact tX11_tellBridge_J74 C hC h_l0 hf kr
theorem sX11_tellBridge {l : Launch} {sh : Sh} {G : Hp} {l0 : Nat} {z : Hp} (h_l0 : sh[l0]? = some (0, 11)) (hf : fX11_tellBridge sh G l0 = some z) : MC l yX11_tellBridge cX11_tellBridge 3 none 6 0 0 sh sh G z (fun ad => [.ref (ad l0)]) (fun _ => none) := by
  refine MC_of rfl rfl (fun _ => Nat.le_of_ble_eq_true rfl) (fun E ad C hl hnm hC hQ => ?_)
  exact tX11_tellBridge C hC h_l0 hf (fun pc lv hd hC => v_vret C hQ (fun _ _ => rfl) hC rfl hd)
def fX11_emit (sh : Sh) (G : Hp) (l0 : Nat) (l1 : Int32) (l2 : Int32) : Option (Hp) := (ldA sh G l0 49 1).bind fun a1 => (asI sh G a1 (G.1 l0 48) l1).bind fun G2 => (ldA sh G2 l0 50 1).bind fun a3 => (asI sh G2 a3 (G2.1 l0 48) l2).bind fun G4 => bd (sI G4 l0 48 ((G4.1 l0 48) + 1)) fun G5 => some G5
set_option maxHeartbeats 4000000 in
theorem tX11_emit {E : EX} {ad : Nat → Nat} {sh : Sh} {G : Hp} {l0 : Nat} {l1 : Int32} {l2 : Int32} {z : Hp} (C : Cx E RX11 cX11_emit 3 none 1 0 0) (hC : Cl sh G) (h_l0 : sh[l0]? = some (0, 11)) (hf : fX11_emit sh G l0 l1 l2 = some z) (kr : RCv E cX11_emit ad sh z) : VV E 0 0 (wq (xT E) ad G sh) 0 [(0, .ref (ad l0)), (1, .int l1), (2, .int l2)] [] := by
  unfold fX11_emit at hf
  refine v_aload_n C 0 dX11_emit_0 rfl rfl ?_
  obtain ⟨a1, qa1, hf⟩ := bn hf
  refine v_getA C h_l0 fl_X11_116 qa1 dX11_emit_1 (fun h_a1 => ?_)
  refine v_aload_n C 0 dX11_emit_4 rfl rfl ?_
  refine v_getI C h_l0 fl_X11_269 dX11_emit_5 ?_
  refine v_iload_n C 1 dX11_emit_8 rfl rfl ?_
  obtain ⟨G2, qG2, hf⟩ := bn hf
  refine v_iast C h_a1 qG2 hC dX11_emit_9 (fun hC => ?_)
  refine v_aload_n C 0 dX11_emit_10 rfl rfl ?_
  obtain ⟨a3, qa3, hf⟩ := bn hf
  refine v_getA C h_l0 fl_X11_119 qa3 dX11_emit_11 (fun h_a3 => ?_)
  refine v_aload_n C 0 dX11_emit_14 rfl rfl ?_
  refine v_getI C h_l0 fl_X11_269 dX11_emit_15 ?_
  refine v_iload_n C 2 dX11_emit_18 rfl rfl ?_
  obtain ⟨G4, qG4, hf⟩ := bn hf
  refine v_iast C h_a3 qG4 hC dX11_emit_19 (fun hC => ?_)
  refine v_aload_n C 0 dX11_emit_20 rfl rfl ?_
  refine v_dup C dX11_emit_21 rfl ?_
  refine v_getI C h_l0 fl_X11_269 dX11_emit_22 ?_
  refine v_iconst (v := 1) C dX11_emit_25 (by decide) ?_
  refine v_iadd C dX11_emit_26 ?_
  refine v_putI C h_l0 fp_X11_269 dX11_emit_27 (fun G5 eG5 => ?_)
  have hf := bd_at hf eG5
  have hC : Cl sh G5 := by rw [eG5]; exact hC
  cases hf
  exact kr _ _ dX11_emit_30 hC
theorem sX11_emit {l : Launch} {sh : Sh} {G : Hp} {l0 : Nat} {l1 : Int32} {l2 : Int32} {z : Hp} (h_l0 : sh[l0]? = some (0, 11)) (hf : fX11_emit sh G l0 l1 l2 = some z) : MC l yX11_emit cX11_emit 3 none 1 0 0 sh sh G z (fun ad => [.ref (ad l0), .int l1, .int l2]) (fun _ => none) := by
  refine MC_of rfl rfl (fun _ => Nat.le_of_ble_eq_true rfl) (fun E ad C hl hnm hC hQ => ?_)
  exact tX11_emit C hC h_l0 hf (fun pc lv hd hC => v_vret C hQ (fun _ _ => rfl) hC rfl hd)
def fX11_unit (sh : Sh) (G : Hp) (l0 : Nat) : Option (Hp) := (fX11_is sh G l0 2).bind fun r1 => if r1 = 0 then if (G.1 l0 13) = 0 then (ldA sh G l0 5 1).bind fun a6 => (aI sh G a6 (G.1 l0 11)).bind fun v7 => if v7 < 37 then (fX11_fail sh G l0 1).bind fun G10 => some G10 else (ldA sh G l0 5 1).bind fun a11 => (aI sh G a11 (G.1 l0 11)).bind fun v12 => if 45 < v12 then (fX11_fail sh G l0 1).bind fun G15 => some G15 else (ldA sh G l0 5 1).bind fun a16 => (aI sh G a16 (G.1 l0 11)).bind fun v17 => (fX11_emit sh G l0 1 (v17 - 37)).bind fun G19 => (fX11_goesOn sh G19 l0).bind fun G21 => some G21 else (fX11_fail sh G l0 1).bind fun G5 => some G5 else (ldA sh G l0 7 1).bind fun a22 => (aI sh G a22 (G.1 l0 11)).bind fun v23 => (fX11_emit sh G l0 0 v23).bind fun G25 => (fX11_goesOn sh G25 l0).bind fun G27 => some G27
set_option maxHeartbeats 4000000 in
theorem tX11_unit {E : EX} {ad : Nat → Nat} {sh : Sh} {G : Hp} {l0 : Nat} {z : Hp} (C : Cx E RX11 cX11_unit 1 none 3 0 0) (hC : Cl sh G) (h_l0 : sh[l0]? = some (0, 11)) (hf : fX11_unit sh G l0 = some z) (kr : RCv E cX11_unit ad sh z) : VV E 0 0 (wq (xT E) ad G sh) 0 [(0, .ref (ad l0))] [] := by
  unfold fX11_unit at hf
  refine v_aload_n C 0 dX11_unit_0 rfl rfl ?_
  refine v_iconst (v := 2) C dX11_unit_1 (by decide) ?_
  obtain ⟨r1, qr1, hf⟩ := bn hf
  refine v_callVi (As := [.int 2]) (rest := []) C (sX11_is h_l0 qr1) cs_X11_245 (by decide) h_l0 rfl hC rfl rfl rfl (Nat.le_of_ble_eq_true rfl) ⟨Nat.le_refl _, Nat.le_refl _⟩ dX11_unit_2 (fun hC => ?_)
  refine v_if_eq (tgt := 29) C dX11_unit_5 (by decide) (fun c2 => ?_) (fun c2 => ?_)
  · have hf := ip hf c2
    refine v_aload_n C 0 dX11_unit_29 rfl rfl ?_
    refine v_getI C h_l0 fl_X11_227 dX11_unit_30 ?_
    refine v_if_ne (tgt := 88) C dX11_unit_33 (by decide) (fun c3 => ?_) (fun c3 => ?_)
    · have hf := im hf c3
      refine v_aload_n C 0 dX11_unit_88 rfl rfl ?_
      refine v_iconst (v := 1) C dX11_unit_89 (by decide) ?_
      obtain ⟨G5, qr4, hf⟩ := bn hf
      refine v_callVv (As := [.int 1]) (rest := []) C (sX11_fail h_l0 qr4) cs_X11_242 (by decide) h_l0 rfl hC rfl rfl rfl (Nat.le_of_ble_eq_true rfl) ⟨Nat.le_refl _, Nat.le_refl _⟩ dX11_unit_90 (fun hC => ?_)
      cases hf
      exact kr _ _ dX11_unit_93 hC
    · have hf := ip hf c3
      refine v_aload_n C 0 dX11_unit_36 rfl rfl ?_
      obtain ⟨a6, qa6, hf⟩ := bn hf
      refine v_getA C h_l0 fl_X11_20 qa6 dX11_unit_37 (fun h_a6 => ?_)
      refine v_aload_n C 0 dX11_unit_40 rfl rfl ?_
      refine v_getI C h_l0 fl_X11_230 dX11_unit_41 ?_
      obtain ⟨v7, qv7, hf⟩ := bn hf
      refine v_iald C h_a6 qv7 dX11_unit_44 ?_
      refine v_bipush (v := 37) C dX11_unit_45 (by decide) ?_
      refine v_icmp_lt (tgt := 88) C dX11_unit_47 (by decide) (fun c8 => ?_) (fun c8 => ?_)
      · have hf := ip hf c8
        refine v_aload_n C 0 dX11_unit_88 rfl rfl ?_
        refine v_iconst (v := 1) C dX11_unit_89 (by decide) ?_
        obtain ⟨G10, qr9, hf⟩ := bn hf
        refine v_callVv (As := [.int 1]) (rest := []) C (sX11_fail h_l0 qr9) cs_X11_242 (by decide) h_l0 rfl hC rfl rfl rfl (Nat.le_of_ble_eq_true rfl) ⟨Nat.le_refl _, Nat.le_refl _⟩ dX11_unit_90 (fun hC => ?_)
        cases hf
        exact kr _ _ dX11_unit_93 hC
      · have hf := im hf c8
        refine v_aload_n C 0 dX11_unit_50 rfl rfl ?_
        obtain ⟨a11, qa11, hf⟩ := bn hf
        refine v_getA C h_l0 fl_X11_20 qa11 dX11_unit_51 (fun h_a11 => ?_)
        refine v_aload_n C 0 dX11_unit_54 rfl rfl ?_
        refine v_getI C h_l0 fl_X11_230 dX11_unit_55 ?_
        obtain ⟨v12, qv12, hf⟩ := bn hf
        refine v_iald C h_a11 qv12 dX11_unit_58 ?_
        refine v_bipush (v := 45) C dX11_unit_59 (by decide) ?_
        refine v_icmp_gt (tgt := 88) C dX11_unit_61 (by decide) (fun c13 => ?_) (fun c13 => ?_)
        · have hf := ip hf c13
          refine v_aload_n C 0 dX11_unit_88 rfl rfl ?_
          refine v_iconst (v := 1) C dX11_unit_89 (by decide) ?_
          obtain ⟨G15, qr14, hf⟩ := bn hf
          refine v_callVv (As := [.int 1]) (rest := []) C (sX11_fail h_l0 qr14) cs_X11_242 (by decide) h_l0 rfl hC rfl rfl rfl (Nat.le_of_ble_eq_true rfl) ⟨Nat.le_refl _, Nat.le_refl _⟩ dX11_unit_90 (fun hC => ?_)
          cases hf
          exact kr _ _ dX11_unit_93 hC
        · have hf := im hf c13
          refine v_aload_n C 0 dX11_unit_64 rfl rfl ?_
          refine v_iconst (v := 1) C dX11_unit_65 (by decide) ?_
          refine v_aload_n C 0 dX11_unit_66 rfl rfl ?_
          obtain ⟨a16, qa16, hf⟩ := bn hf
          refine v_getA C h_l0 fl_X11_20 qa16 dX11_unit_67 (fun h_a16 => ?_)
          refine v_aload_n C 0 dX11_unit_70 rfl rfl ?_
          refine v_getI C h_l0 fl_X11_230 dX11_unit_71 ?_
          obtain ⟨v17, qv17, hf⟩ := bn hf
          refine v_iald C h_a16 qv17 dX11_unit_74 ?_
          refine v_bipush (v := 37) C dX11_unit_75 (by decide) ?_
          refine v_isub C dX11_unit_77 ?_
          obtain ⟨G19, qr18, hf⟩ := bn hf
          refine v_callVv (As := [.int 1, .int (v17 - 37)]) (rest := []) C (sX11_emit h_l0 qr18) cs_X11_356 (by decide) h_l0 rfl hC rfl rfl rfl (Nat.le_of_ble_eq_true rfl) ⟨Nat.le_refl _, Nat.le_refl _⟩ dX11_unit_78 (fun hC => ?_)
          refine v_aload_n C 0 dX11_unit_81 rfl rfl ?_
          obtain ⟨G21, qr20, hf⟩ := bn hf
          refine v_callVv (As := []) (rest := []) C (sX11_goesOn h_l0 qr20) cs_X11_248 (by decide) h_l0 rfl hC rfl rfl rfl (Nat.le_of_ble_eq_true rfl) ⟨Nat.le_refl _, Nat.le_refl _⟩ dX11_unit_82 (fun hC => ?_)
          refine v_goto (tgt := 93) C dX11_unit_85 (by decide) ?_
          cases hf
          exact kr _ _ dX11_unit_93 hC
  · have hf := im hf c2
    refine v_aload_n C 0 dX11_unit_8 rfl rfl ?_
    refine v_iconst (v := 0) C dX11_unit_9 (by decide) ?_
    refine v_aload_n C 0 dX11_unit_10 rfl rfl ?_
    obtain ⟨a22, qa22, hf⟩ := bn hf
    refine v_getA C h_l0 fl_X11_27 qa22 dX11_unit_11 (fun h_a22 => ?_)
    refine v_aload_n C 0 dX11_unit_14 rfl rfl ?_
    refine v_getI C h_l0 fl_X11_230 dX11_unit_15 ?_
    obtain ⟨v23, qv23, hf⟩ := bn hf
    refine v_iald C h_a22 qv23 dX11_unit_18 ?_
    obtain ⟨G25, qr24, hf⟩ := bn hf
    refine v_callVv (As := [.int 0, .int v23]) (rest := []) C (sX11_emit h_l0 qr24) cs_X11_356 (by decide) h_l0 rfl hC rfl rfl rfl (Nat.le_of_ble_eq_true rfl) ⟨Nat.le_refl _, Nat.le_refl _⟩ dX11_unit_19 (fun hC => ?_)
    refine v_aload_n C 0 dX11_unit_22 rfl rfl ?_
    obtain ⟨G27, qr26, hf⟩ := bn hf
    refine v_callVv (As := []) (rest := []) C (sX11_goesOn h_l0 qr26) cs_X11_248 (by decide) h_l0 rfl hC rfl rfl rfl (Nat.le_of_ble_eq_true rfl) ⟨Nat.le_refl _, Nat.le_refl _⟩ dX11_unit_23 (fun hC => ?_)
    refine v_goto (tgt := 93) C dX11_unit_26 (by decide) ?_
    cases hf
    exact kr _ _ dX11_unit_93 hC
theorem sX11_unit {l : Launch} {sh : Sh} {G : Hp} {l0 : Nat} {z : Hp} (h_l0 : sh[l0]? = some (0, 11)) (hf : fX11_unit sh G l0 = some z) : MC l yX11_unit cX11_unit 1 none 3 0 0 sh sh G z (fun ad => [.ref (ad l0)]) (fun _ => none) := by
  refine MC_of rfl rfl (fun _ => Nat.le_of_ble_eq_true rfl) (fun E ad C hl hnm hC hQ => ?_)
  exact tX11_unit C hC h_l0 hf (fun pc lv hd hC => v_vret C hQ (fun _ _ => rfl) hC rfl hd)
def fX11_comesOut_J42L0 (sh : Sh) (G : Hp) (l0 : Nat) (l1 : Int32) (l2 : Int32) : Option ((Hp) ⊕ ((Hp) ⊕ (Hp))) := bd (sI G l0 54 ((G.1 l0 54) - 1)) fun G1 => if l2 = 8 then (fX11_emit sh G1 l0 2 0).bind fun G12 => some (.inl G12) else if l2 = 9 then (fX11_emit sh G1 l0 3 0).bind fun G10 => some (.inl G10) else if l2 = 10 then (fX11_emit sh G1 l0 4 0).bind fun G8 => some (.inl G8) else (fX11_emit sh G1 l0 5 0).bind fun G6 => some (.inl G6)
set_option maxHeartbeats 4000000 in
theorem tX11_comesOut_J42L0 {E : EX} {ad : Nat → Nat} {sh : Sh} {G : Hp} {l0 : Nat} {l1 : Int32} {l2 : Int32} {o : (Hp) ⊕ ((Hp) ⊕ (Hp))} (C : Cx E RX11 cX11_comesOut 3 none 2 0 0) (hC : Cl sh G) (h_l0 : sh[l0]? = some (0, 11)) (hf : fX11_comesOut_J42L0 sh G l0 l1 l2 = some o) (kb : ∀ (G2 : Hp), o = .inl G2 → Cl sh G2 → VV E 0 0 (wq (xT E) ad G2 sh) 0 [(0, .ref (ad l0)), (1, .int l1)] []) (kx91 : ∀ (G2 : Hp), o = .inr (.inl G2) → Cl sh G2 → VV E 0 0 (wq (xT E) ad G2 sh) 91 [(0, .ref (ad l0)), (1, .int l1)] []) (kx41 : ∀ (G2 : Hp), o = .inr (.inr G2) → Cl sh G2 → VV E 0 0 (wq (xT E) ad G2 sh) 41 [(0, .ref (ad l0)), (1, .int l1)] []) : VV E 0 0 (wq (xT E) ad G sh) 42 [(0, .ref (ad l0)), (1, .int l1), (2, .int l2)] [] := by
  unfold fX11_comesOut_J42L0 at hf
  refine v_aload_n C 0 dX11_comesOut_42 rfl rfl ?_
  refine v_dup C dX11_comesOut_43 rfl ?_
  refine v_getI C h_l0 fl_X11_353 dX11_comesOut_44 ?_
  refine v_iconst (v := 1) C dX11_comesOut_47 (by decide) ?_
  refine v_isub C dX11_comesOut_48 ?_
  refine v_putI C h_l0 fp_X11_353 dX11_comesOut_49 (fun G1 eG1 => ?_)
  have hf := bd_at hf eG1
  have hC : Cl sh G1 := by rw [eG1]; exact hC
  refine v_aload_n C 0 dX11_comesOut_52 rfl rfl ?_
  refine v_iload_n C 2 dX11_comesOut_53 rfl rfl ?_
  refine v_bipush (v := 8) C dX11_comesOut_54 (by decide) ?_
  refine v_icmp_ne (tgt := 63) C dX11_comesOut_56 (by decide) (fun c2 => ?_) (fun c2 => ?_)
  · have hf := im hf c2
    refine v_iload_n C 2 dX11_comesOut_63 rfl rfl ?_
    refine v_bipush (v := 9) C dX11_comesOut_64 (by decide) ?_
    refine v_icmp_ne (tgt := 73) C dX11_comesOut_66 (by decide) (fun c3 => ?_) (fun c3 => ?_)
    · have hf := im hf c3
      refine v_iload_n C 2 dX11_comesOut_73 rfl rfl ?_
      refine v_bipush (v := 10) C dX11_comesOut_74 (by decide) ?_
      refine v_icmp_ne (tgt := 83) C dX11_comesOut_76 (by decide) (fun c4 => ?_) (fun c4 => ?_)
      · have hf := im hf c4
        refine v_iconst (v := 5) C dX11_comesOut_83 (by decide) ?_
        refine v_iconst (v := 0) C dX11_comesOut_84 (by decide) ?_
        obtain ⟨G6, qr5, hf⟩ := bn hf
        refine v_callVv (As := [.int 5, .int 0]) (rest := []) C (sX11_emit h_l0 qr5) cs_X11_356 (by decide) h_l0 rfl hC rfl rfl rfl (Nat.le_of_ble_eq_true rfl) ⟨Nat.le_refl _, Nat.le_refl _⟩ dX11_comesOut_85 (fun hC => ?_)
        refine v_goto (tgt := 0) C dX11_comesOut_88 (by decide) ?_
        cases hf
        refine v_sub [0, 1] rfl ?_
        exact kb _ rfl hC
      · have hf := ip hf c4
        refine v_iconst (v := 4) C dX11_comesOut_79 (by decide) ?_
        refine v_goto (tgt := 84) C dX11_comesOut_80 (by decide) ?_
        refine v_iconst (v := 0) C dX11_comesOut_84 (by decide) ?_
        obtain ⟨G8, qr7, hf⟩ := bn hf
        refine v_callVv (As := [.int 4, .int 0]) (rest := []) C (sX11_emit h_l0 qr7) cs_X11_356 (by decide) h_l0 rfl hC rfl rfl rfl (Nat.le_of_ble_eq_true rfl) ⟨Nat.le_refl _, Nat.le_refl _⟩ dX11_comesOut_85 (fun hC => ?_)
        refine v_goto (tgt := 0) C dX11_comesOut_88 (by decide) ?_
        cases hf
        refine v_sub [0, 1] rfl ?_
        exact kb _ rfl hC
    · have hf := ip hf c3
      refine v_iconst (v := 3) C dX11_comesOut_69 (by decide) ?_
      refine v_goto (tgt := 84) C dX11_comesOut_70 (by decide) ?_
      refine v_iconst (v := 0) C dX11_comesOut_84 (by decide) ?_
      obtain ⟨G10, qr9, hf⟩ := bn hf
      refine v_callVv (As := [.int 3, .int 0]) (rest := []) C (sX11_emit h_l0 qr9) cs_X11_356 (by decide) h_l0 rfl hC rfl rfl rfl (Nat.le_of_ble_eq_true rfl) ⟨Nat.le_refl _, Nat.le_refl _⟩ dX11_comesOut_85 (fun hC => ?_)
      refine v_goto (tgt := 0) C dX11_comesOut_88 (by decide) ?_
      cases hf
      refine v_sub [0, 1] rfl ?_
      exact kb _ rfl hC
  · have hf := ip hf c2
    refine v_iconst (v := 2) C dX11_comesOut_59 (by decide) ?_
    refine v_goto (tgt := 84) C dX11_comesOut_60 (by decide) ?_
    refine v_iconst (v := 0) C dX11_comesOut_84 (by decide) ?_
    obtain ⟨G12, qr11, hf⟩ := bn hf
    refine v_callVv (As := [.int 2, .int 0]) (rest := []) C (sX11_emit h_l0 qr11) cs_X11_356 (by decide) h_l0 rfl hC rfl rfl rfl (Nat.le_of_ble_eq_true rfl) ⟨Nat.le_refl _, Nat.le_refl _⟩ dX11_comesOut_85 (fun hC => ?_)
    refine v_goto (tgt := 0) C dX11_comesOut_88 (by decide) ?_
    cases hf
    refine v_sub [0, 1] rfl ?_
    exact kb _ rfl hC
def fX11_comesOut_S0 (sh : Sh) (l0 : Nat) (l1 : Int32) (G : Hp)  : Option ((Hp) ⊕ ((Hp) ⊕ (Hp))) := if (G.1 l0 54) ≤ 0 then some (.inr (.inl G)) else (ldA sh G l0 53 1).bind fun a2 => (aI sh G a2 ((G.1 l0 54) - 1)).bind fun v3 => if v3 = 6 then some (.inr (.inr G)) else if l1 = 0 then fX11_comesOut_J42L0 sh G l0 l1 v3 else if v3 = 8 then some (.inr (.inr G)) else if v3 = 9 then some (.inr (.inr G)) else fX11_comesOut_J42L0 sh G l0 l1 v3
set_option maxHeartbeats 4000000 in
theorem tX11_comesOut_S0 {E : EX} {ad : Nat → Nat} {sh : Sh} {G : Hp} {l0 : Nat} {l1 : Int32} {o : (Hp) ⊕ ((Hp) ⊕ (Hp))} (C : Cx E RX11 cX11_comesOut 3 none 2 0 0) (hC : Cl sh G) (h_l0 : sh[l0]? = some (0, 11)) (hf : fX11_comesOut_S0 sh l0 l1 G  = some o) (kb : ∀ (G2 : Hp), o = .inl G2 → Cl sh G2 → VV E 0 0 (wq (xT E) ad G2 sh) 0 [(0, .ref (ad l0)), (1, .int l1)] []) (kx91 : ∀ (G2 : Hp), o = .inr (.inl G2) → Cl sh G2 → VV E 0 0 (wq (xT E) ad G2 sh) 91 [(0, .ref (ad l0)), (1, .int l1)] []) (kx41 : ∀ (G2 : Hp), o = .inr (.inr G2) → Cl sh G2 → VV E 0 0 (wq (xT E) ad G2 sh) 41 [(0, .ref (ad l0)), (1, .int l1)] []) : VV E 0 0 (wq (xT E) ad G sh) 0 [(0, .ref (ad l0)), (1, .int l1)] [] := by
  unfold fX11_comesOut_S0 at hf
  refine v_aload_n C 0 dX11_comesOut_0 rfl rfl ?_
  refine v_getI C h_l0 fl_X11_353 dX11_comesOut_1 ?_
  refine v_if_le (tgt := 91) C dX11_comesOut_4 (by decide) (fun c1 => ?_) (fun c1 => ?_)
  · have hf := ip hf c1
    cases hf
    refine v_sub [0, 1] rfl ?_
    exact kx91 _ rfl hC
  · have hf := im hf c1
    refine v_aload_n C 0 dX11_comesOut_7 rfl rfl ?_
    obtain ⟨a2, qa2, hf⟩ := bn hf
    refine v_getA C h_l0 fl_X11_125 qa2 dX11_comesOut_8 (fun h_a2 => ?_)
    refine v_aload_n C 0 dX11_comesOut_11 rfl rfl ?_
    refine v_getI C h_l0 fl_X11_353 dX11_comesOut_12 ?_
    refine v_iconst (v := 1) C dX11_comesOut_15 (by decide) ?_
    refine v_isub C dX11_comesOut_16 ?_
    obtain ⟨v3, qv3, hf⟩ := bn hf
    refine v_iald C h_a2 qv3 dX11_comesOut_17 ?_
    refine v_istore_n (lv2 := [(2, .int v3), (0, .ref (ad l0)), (1, .int l1)]) C dX11_comesOut_18 rfl (by decide) rfl ?_
    refine v_iload_n C 0 dX11_comesOut_19 rfl rfl ?_
    refine v_bipush (v := 6) C dX11_comesOut_20 (by decide) ?_
    refine v_icmp_eq (tgt := 41) C dX11_comesOut_22 (by decide) (fun c4 => ?_) (fun c4 => ?_)
    · have hf := ip hf c4
      cases hf
      refine v_sub [1, 2] rfl ?_
      exact kx41 _ rfl hC
    · have hf := im hf c4
      refine v_iload_n C 2 dX11_comesOut_25 rfl rfl ?_
      refine v_if_eq (tgt := 42) C dX11_comesOut_26 (by decide) (fun c5 => ?_) (fun c5 => ?_)
      · have hf := ip hf c5
        refine v_sub [1, 2, 0] rfl ?_
        exact tX11_comesOut_J42L0 C hC h_l0 hf kb kx91 kx41
      · have hf := im hf c5
        refine v_iload_n C 0 dX11_comesOut_29 rfl rfl ?_
        refine v_bipush (v := 8) C dX11_comesOut_30 (by decide) ?_
        refine v_icmp_eq (tgt := 41) C dX11_comesOut_32 (by decide) (fun c6 => ?_) (fun c6 => ?_)
        · have hf := ip hf c6
          cases hf
          refine v_sub [1, 2] rfl ?_
          exact kx41 _ rfl hC
        · have hf := im hf c6
          refine v_iload_n C 0 dX11_comesOut_35 rfl rfl ?_
          refine v_bipush (v := 9) C dX11_comesOut_36 (by decide) ?_
          refine v_icmp_ne (tgt := 42) C dX11_comesOut_38 (by decide) (fun c7 => ?_) (fun c7 => ?_)
          · have hf := im hf c7
            refine v_sub [1, 2, 0] rfl ?_
            exact tX11_comesOut_J42L0 C hC h_l0 hf kb kx91 kx41
          · have hf := ip hf c7
            cases hf
            refine v_sub [1, 2] rfl ?_
            exact kx41 _ rfl hC
def fX11_comesOut_J84 (sh : Sh) (G : Hp) (l0 : Nat) (l1 : Int32) (s0 : Int32) (s1 : Nat) : Option (Hp) := (fX11_emit sh G s1 s0 0).bind fun G2 => (iter (fun s : Hp => fX11_comesOut_S0 sh l0 l1 s ) fuel (G2 : Hp)).bind (Sum.elim (fun u5 => bd u5 fun G4 => some G4) (fun u7 => bd u7 fun G6 => some G6))
set_option maxHeartbeats 4000000 in
theorem tX11_comesOut_J84 {E : EX} {ad : Nat → Nat} {sh : Sh} {G : Hp} {l0 : Nat} {l1 : Int32} {s0 : Int32} {s1 : Nat} {z : Hp} (C : Cx E RX11 cX11_comesOut 3 none 2 0 0) (hC : Cl sh G) (h_l0 : sh[l0]? = some (0, 11)) (h_s1 : sh[s1]? = some (0, 11)) (hf : fX11_comesOut_J84 sh G l0 l1 s0 s1 = some z) (kr : RCv E cX11_comesOut ad sh z) : VV E 0 0 (wq (xT E) ad G sh) 84 [(0, .ref (ad l0)), (1, .int l1)] [.int s0, .ref (ad s1)] := by
  unfold fX11_comesOut_J84 at hf
  refine v_iconst (v := 0) C dX11_comesOut_84 (by decide) ?_
  obtain ⟨G2, qr1, hf⟩ := bn hf
  refine v_callVv (As := [.int s0, .int 0]) (rest := []) C (sX11_emit h_s1 qr1) cs_X11_356 (by decide) h_s1 rfl hC rfl rfl rfl (Nat.le_of_ble_eq_true rfl) ⟨Nat.le_refl _, Nat.le_refl _⟩ dX11_comesOut_85 (fun hC => ?_)
  refine v_goto (tgt := 0) C dX11_comesOut_88 (by decide) ?_
  obtain ⟨r3, qr3, hf⟩ := bn hf
  refine v_sub [0, 1] rfl ?_
  refine iter_sound (P := (fun s : Hp => Cl sh (s) → VV E 0 0 (wq (xT E) ad (s) sh) 0 [(0, .ref (ad l0)), (1, .int (l1))] [])) (X := fun r => r = r3) (fun jsr3 jor3 hor3 jbr3 jxr3 hC => tX11_comesOut_S0 C hC h_l0 hor3 (fun _ e => jbr3 _ e) ?_ ?_) fuel _ r3 qr3 rfl hC
  · intro G4 hu hC
    have e := jxr3 _ hu
    subst e
    have hf := sm_l hf
    have hf := bd_at hf (rfl : G4 = _)
    cases hf
    exact kr _ _ dX11_comesOut_91 hC
  · intro G6 hu hC
    have e := jxr3 _ hu
    subst e
    have hf := sm_r hf
    have hf := bd_at hf (rfl : G6 = _)
    cases hf
    exact kr _ _ dX11_comesOut_41 hC
def fX11_comesOut_J42 (sh : Sh) (G : Hp) (l0 : Nat) (l1 : Int32) (l2 : Int32) : Option (Hp) := bd (sI G l0 54 ((G.1 l0 54) - 1)) fun G1 => if l2 = 8 then fX11_comesOut_J84 sh G1 l0 l1 2 l0 else if l2 = 9 then fX11_comesOut_J84 sh G1 l0 l1 3 l0 else if l2 = 10 then fX11_comesOut_J84 sh G1 l0 l1 4 l0 else fX11_comesOut_J84 sh G1 l0 l1 5 l0
set_option maxHeartbeats 4000000 in
theorem tX11_comesOut_J42 {E : EX} {ad : Nat → Nat} {sh : Sh} {G : Hp} {l0 : Nat} {l1 : Int32} {l2 : Int32} {z : Hp} (C : Cx E RX11 cX11_comesOut 3 none 2 0 0) (hC : Cl sh G) (h_l0 : sh[l0]? = some (0, 11)) (hf : fX11_comesOut_J42 sh G l0 l1 l2 = some z) (kr : RCv E cX11_comesOut ad sh z) : VV E 0 0 (wq (xT E) ad G sh) 42 [(0, .ref (ad l0)), (1, .int l1), (2, .int l2)] [] := by
  unfold fX11_comesOut_J42 at hf
  refine v_aload_n C 0 dX11_comesOut_42 rfl rfl ?_
  refine v_dup C dX11_comesOut_43 rfl ?_
  refine v_getI C h_l0 fl_X11_353 dX11_comesOut_44 ?_
  refine v_iconst (v := 1) C dX11_comesOut_47 (by decide) ?_
  refine v_isub C dX11_comesOut_48 ?_
  refine v_putI C h_l0 fp_X11_353 dX11_comesOut_49 (fun G1 eG1 => ?_)
  have hf := bd_at hf eG1
  have hC : Cl sh G1 := by rw [eG1]; exact hC
  refine v_aload_n C 0 dX11_comesOut_52 rfl rfl ?_
  refine v_iload_n C 2 dX11_comesOut_53 rfl rfl ?_
  refine v_bipush (v := 8) C dX11_comesOut_54 (by decide) ?_
  refine v_icmp_ne (tgt := 63) C dX11_comesOut_56 (by decide) (fun c2 => ?_) (fun c2 => ?_)
  · have hf := im hf c2
    refine v_iload_n C 2 dX11_comesOut_63 rfl rfl ?_
    refine v_bipush (v := 9) C dX11_comesOut_64 (by decide) ?_
    refine v_icmp_ne (tgt := 73) C dX11_comesOut_66 (by decide) (fun c3 => ?_) (fun c3 => ?_)
    · have hf := im hf c3
      refine v_iload_n C 2 dX11_comesOut_73 rfl rfl ?_
      refine v_bipush (v := 10) C dX11_comesOut_74 (by decide) ?_
      refine v_icmp_ne (tgt := 83) C dX11_comesOut_76 (by decide) (fun c4 => ?_) (fun c4 => ?_)
      · have hf := im hf c4
        refine v_iconst (v := 5) C dX11_comesOut_83 (by decide) ?_
        refine v_sub [0, 1] rfl ?_
        exact tX11_comesOut_J84 C hC h_l0 h_l0 hf kr
      · have hf := ip hf c4
        refine v_iconst (v := 4) C dX11_comesOut_79 (by decide) ?_
        refine v_goto (tgt := 84) C dX11_comesOut_80 (by decide) ?_
        refine v_sub [0, 1] rfl ?_
        exact tX11_comesOut_J84 C hC h_l0 h_l0 hf kr
    · have hf := ip hf c3
      refine v_iconst (v := 3) C dX11_comesOut_69 (by decide) ?_
      refine v_goto (tgt := 84) C dX11_comesOut_70 (by decide) ?_
      refine v_sub [0, 1] rfl ?_
      exact tX11_comesOut_J84 C hC h_l0 h_l0 hf kr
  · have hf := ip hf c2
    refine v_iconst (v := 2) C dX11_comesOut_59 (by decide) ?_
    refine v_goto (tgt := 84) C dX11_comesOut_60 (by decide) ?_
    refine v_sub [0, 1] rfl ?_
    exact tX11_comesOut_J84 C hC h_l0 h_l0 hf kr
def fX11_comesOut (sh : Sh) (G : Hp) (l0 : Nat) (l1 : Int32) : Option (Hp) := if (G.1 l0 54) ≤ 0 then some G else (ldA sh G l0 53 1).bind fun a2 => (aI sh G a2 ((G.1 l0 54) - 1)).bind fun v3 => if v3 = 6 then some G else if l1 = 0 then fX11_comesOut_J42 sh G l0 l1 v3 else if v3 = 8 then some G else if v3 = 9 then some G else fX11_comesOut_J42 sh G l0 l1 v3
set_option maxHeartbeats 4000000 in
theorem tX11_comesOut {E : EX} {ad : Nat → Nat} {sh : Sh} {G : Hp} {l0 : Nat} {l1 : Int32} {z : Hp} (C : Cx E RX11 cX11_comesOut 3 none 2 0 0) (hC : Cl sh G) (h_l0 : sh[l0]? = some (0, 11)) (hf : fX11_comesOut sh G l0 l1 = some z) (kr : RCv E cX11_comesOut ad sh z) : VV E 0 0 (wq (xT E) ad G sh) 0 [(0, .ref (ad l0)), (1, .int l1)] [] := by
  unfold fX11_comesOut at hf
  refine v_aload_n C 0 dX11_comesOut_0 rfl rfl ?_
  refine v_getI C h_l0 fl_X11_353 dX11_comesOut_1 ?_
  refine v_if_le (tgt := 91) C dX11_comesOut_4 (by decide) (fun c1 => ?_) (fun c1 => ?_)
  · have hf := ip hf c1
    cases hf
    exact kr _ _ dX11_comesOut_91 hC
  · have hf := im hf c1
    refine v_aload_n C 0 dX11_comesOut_7 rfl rfl ?_
    obtain ⟨a2, qa2, hf⟩ := bn hf
    refine v_getA C h_l0 fl_X11_125 qa2 dX11_comesOut_8 (fun h_a2 => ?_)
    refine v_aload_n C 0 dX11_comesOut_11 rfl rfl ?_
    refine v_getI C h_l0 fl_X11_353 dX11_comesOut_12 ?_
    refine v_iconst (v := 1) C dX11_comesOut_15 (by decide) ?_
    refine v_isub C dX11_comesOut_16 ?_
    obtain ⟨v3, qv3, hf⟩ := bn hf
    refine v_iald C h_a2 qv3 dX11_comesOut_17 ?_
    refine v_istore_n (lv2 := [(2, .int v3), (0, .ref (ad l0)), (1, .int l1)]) C dX11_comesOut_18 rfl (by decide) rfl ?_
    refine v_iload_n C 0 dX11_comesOut_19 rfl rfl ?_
    refine v_bipush (v := 6) C dX11_comesOut_20 (by decide) ?_
    refine v_icmp_eq (tgt := 41) C dX11_comesOut_22 (by decide) (fun c4 => ?_) (fun c4 => ?_)
    · have hf := ip hf c4
      cases hf
      exact kr _ _ dX11_comesOut_41 hC
    · have hf := im hf c4
      refine v_iload_n C 2 dX11_comesOut_25 rfl rfl ?_
      refine v_if_eq (tgt := 42) C dX11_comesOut_26 (by decide) (fun c5 => ?_) (fun c5 => ?_)
      · have hf := ip hf c5
        refine v_sub [1, 2, 0] rfl ?_
        exact tX11_comesOut_J42 C hC h_l0 hf kr
      · have hf := im hf c5
        refine v_iload_n C 0 dX11_comesOut_29 rfl rfl ?_
        refine v_bipush (v := 8) C dX11_comesOut_30 (by decide) ?_
        refine v_icmp_eq (tgt := 41) C dX11_comesOut_32 (by decide) (fun c6 => ?_) (fun c6 => ?_)
        · have hf := ip hf c6
          cases hf
          exact kr _ _ dX11_comesOut_41 hC
        · have hf := im hf c6
          refine v_iload_n C 0 dX11_comesOut_35 rfl rfl ?_
          refine v_bipush (v := 9) C dX11_comesOut_36 (by decide) ?_
          refine v_icmp_ne (tgt := 42) C dX11_comesOut_38 (by decide) (fun c7 => ?_) (fun c7 => ?_)
          · have hf := im hf c7
            refine v_sub [1, 2, 0] rfl ?_
            exact tX11_comesOut_J42 C hC h_l0 hf kr
          · have hf := ip hf c7
            cases hf
            exact kr _ _ dX11_comesOut_41 hC
theorem sX11_comesOut {l : Launch} {sh : Sh} {G : Hp} {l0 : Nat} {l1 : Int32} {z : Hp} (h_l0 : sh[l0]? = some (0, 11)) (hf : fX11_comesOut sh G l0 l1 = some z) : MC l yX11_comesOut cX11_comesOut 3 none 2 0 0 sh sh G z (fun ad => [.ref (ad l0), .int l1]) (fun _ => none) := by
  refine MC_of rfl rfl (fun _ => Nat.le_of_ble_eq_true rfl) (fun E ad C hl hnm hC hQ => ?_)
  exact tX11_comesOut C hC h_l0 hf (fun pc lv hd hC => v_vret C hQ (fun _ _ => rfl) hC rfl hd)
def fX11_expression_J46L23 (sh : Sh) (G : Hp) (l0 : Nat) (l1 : Int32) : Option ((Hp) ⊕ ((Hp))) := bd (sI G l0 12 ((G.1 l0 12) + 1)) fun G1 => (fX11_goesOn sh G1 l0).bind fun G3 => (ldA sh G3 l0 53 1).bind fun a4 => (asI sh G3 a4 (G3.1 l0 54) 6).bind fun G5 => bd (sI G5 l0 54 ((G5.1 l0 54) + 1)) fun G6 => some (.inl G6)
set_option maxHeartbeats 4000000 in
theorem tX11_expression_J46L23 {E : EX} {ad : Nat → Nat} {sh : Sh} {G : Hp} {l0 : Nat} {l1 : Int32} {o : (Hp) ⊕ ((Hp))} (C : Cx E RX11 cX11_expression 3 none 4 0 0) (hC : Cl sh G) (h_l0 : sh[l0]? = some (0, 11)) (hf : fX11_expression_J46L23 sh G l0 l1 = some o) (kb : ∀ (G2 : Hp), o = .inl G2 → Cl sh G2 → VV E 0 0 (wq (xT E) ad G2 sh) 23 [(0, .ref (ad l0)), (1, .int l1)] []) (kx84 : ∀ (G2 : Hp), o = .inr G2 → Cl sh G2 → VV E 0 0 (wq (xT E) ad G2 sh) 84 [(0, .ref (ad l0)), (1, .int l1)] []) : VV E 0 0 (wq (xT E) ad G sh) 46 [(0, .ref (ad l0)), (1, .int l1)] [] := by
  unfold fX11_expression_J46L23 at hf
  refine v_aload_n C 0 dX11_expression_46 rfl rfl ?_
  refine v_dup C dX11_expression_47 rfl ?_
  refine v_getI C h_l0 fl_X11_254 dX11_expression_48 ?_
  refine v_iconst (v := 1) C dX11_expression_51 (by decide) ?_
  refine v_iadd C dX11_expression_52 ?_
  refine v_putI C h_l0 fp_X11_254 dX11_expression_53 (fun G1 eG1 => ?_)
  have hf := bd_at hf eG1
  have hC : Cl sh G1 := by rw [eG1]; exact hC
  refine v_aload_n C 0 dX11_expression_56 rfl rfl ?_
  obtain ⟨G3, qr2, hf⟩ := bn hf
  refine v_callVv (As := []) (rest := []) C (sX11_goesOn h_l0 qr2) cs_X11_248 (by decide) h_l0 rfl hC rfl rfl rfl (Nat.le_of_ble_eq_true rfl) ⟨Nat.le_refl _, Nat.le_refl _⟩ dX11_expression_57 (fun hC => ?_)
  refine v_aload_n C 0 dX11_expression_60 rfl rfl ?_
  obtain ⟨a4, qa4, hf⟩ := bn hf
  refine v_getA C h_l0 fl_X11_125 qa4 dX11_expression_61 (fun h_a4 => ?_)
  refine v_aload_n C 0 dX11_expression_64 rfl rfl ?_
  refine v_getI C h_l0 fl_X11_353 dX11_expression_65 ?_
  refine v_bipush (v := 6) C dX11_expression_68 (by decide) ?_
  obtain ⟨G5, qG5, hf⟩ := bn hf
  refine v_iast C h_a4 qG5 hC dX11_expression_70 (fun hC => ?_)
  refine v_aload_n C 0 dX11_expression_71 rfl rfl ?_
  refine v_dup C dX11_expression_72 rfl ?_
  refine v_getI C h_l0 fl_X11_353 dX11_expression_73 ?_
  refine v_iconst (v := 1) C dX11_expression_76 (by decide) ?_
  refine v_iadd C dX11_expression_77 ?_
  refine v_putI C h_l0 fp_X11_353 dX11_expression_78 (fun G6 eG6 => ?_)
  have hf := bd_at hf eG6
  have hC : Cl sh G6 := by rw [eG6]; exact hC
  refine v_goto (tgt := 23) C dX11_expression_81 (by decide) ?_
  cases hf
  refine v_sub [0, 1] rfl ?_
  exact kb _ rfl hC
def fX11_expression_S23 (sh : Sh) (l0 : Nat) (l1 : Int32) (G : Hp)  : Option ((Hp) ⊕ ((Hp))) := (fX11_is sh G l0 6).bind fun r1 => if r1 = 0 then some (.inr G) else if (G.1 l0 12) = 6 then (fX11_fail sh G l0 2).bind fun G5 => fX11_expression_J46L23 sh G5 l0 l1 else fX11_expression_J46L23 sh G l0 l1
set_option maxHeartbeats 4000000 in
theorem tX11_expression_S23 {E : EX} {ad : Nat → Nat} {sh : Sh} {G : Hp} {l0 : Nat} {l1 : Int32} {o : (Hp) ⊕ ((Hp))} (C : Cx E RX11 cX11_expression 3 none 4 0 0) (hC : Cl sh G) (h_l0 : sh[l0]? = some (0, 11)) (hf : fX11_expression_S23 sh l0 l1 G  = some o) (kb : ∀ (G2 : Hp), o = .inl G2 → Cl sh G2 → VV E 0 0 (wq (xT E) ad G2 sh) 23 [(0, .ref (ad l0)), (1, .int l1)] []) (kx84 : ∀ (G2 : Hp), o = .inr G2 → Cl sh G2 → VV E 0 0 (wq (xT E) ad G2 sh) 84 [(0, .ref (ad l0)), (1, .int l1)] []) : VV E 0 0 (wq (xT E) ad G sh) 23 [(0, .ref (ad l0)), (1, .int l1)] [] := by
  unfold fX11_expression_S23 at hf
  refine v_aload_n C 0 dX11_expression_23 rfl rfl ?_
  refine v_bipush (v := 6) C dX11_expression_24 (by decide) ?_
  obtain ⟨r1, qr1, hf⟩ := bn hf
  refine v_callVi (As := [.int 6]) (rest := []) C (sX11_is h_l0 qr1) cs_X11_245 (by decide) h_l0 rfl hC rfl rfl rfl (Nat.le_of_ble_eq_true rfl) ⟨Nat.le_refl _, Nat.le_refl _⟩ dX11_expression_26 (fun hC => ?_)
  refine v_if_eq (tgt := 84) C dX11_expression_29 (by decide) (fun c2 => ?_) (fun c2 => ?_)
  · have hf := ip hf c2
    cases hf
    refine v_sub [0, 1] rfl ?_
    exact kx84 _ rfl hC
  · have hf := im hf c2
    refine v_aload_n C 0 dX11_expression_32 rfl rfl ?_
    refine v_getI C h_l0 fl_X11_254 dX11_expression_33 ?_
    refine v_bipush (v := 6) C dX11_expression_36 (by decide) ?_
    refine v_icmp_ne (tgt := 46) C dX11_expression_38 (by decide) (fun c3 => ?_) (fun c3 => ?_)
    · have hf := im hf c3
      refine v_sub [0, 1] rfl ?_
      exact tX11_expression_J46L23 C hC h_l0 hf kb kx84
    · have hf := ip hf c3
      refine v_aload_n C 0 dX11_expression_41 rfl rfl ?_
      refine v_iconst (v := 2) C dX11_expression_42 (by decide) ?_
      obtain ⟨G5, qr4, hf⟩ := bn hf
      refine v_callVv (As := [.int 2]) (rest := []) C (sX11_fail h_l0 qr4) cs_X11_242 (by decide) h_l0 rfl hC rfl rfl rfl (Nat.le_of_ble_eq_true rfl) ⟨Nat.le_refl _, Nat.le_refl _⟩ dX11_expression_43 (fun hC => ?_)
      refine v_sub [0, 1] rfl ?_
      exact tX11_expression_J46L23 C hC h_l0 hf kb kx84
def fX11_expression_S96 (sh : Sh) (l0 : Nat) (l1 : Int32) (G : Hp)  : Option ((Hp) ⊕ ((Hp))) := (fX11_is sh G l0 7).bind fun r1 => if r1 = 0 then some (.inr G) else if (G.1 l0 12) ≤ l1 then some (.inr G) else (fX11_comesOut sh G l0 0).bind fun G5 => bd (sI G5 l0 54 ((G5.1 l0 54) - 1)) fun G6 => bd (sI G6 l0 12 ((G6.1 l0 12) - 1)) fun G7 => (fX11_goesOn sh G7 l0).bind fun G9 => some (.inl G9)
set_option maxHeartbeats 4000000 in
theorem tX11_expression_S96 {E : EX} {ad : Nat → Nat} {sh : Sh} {G : Hp} {l0 : Nat} {l1 : Int32} {o : (Hp) ⊕ ((Hp))} (C : Cx E RX11 cX11_expression 3 none 4 0 0) (hC : Cl sh G) (h_l0 : sh[l0]? = some (0, 11)) (hf : fX11_expression_S96 sh l0 l1 G  = some o) (kb : ∀ (G2 : Hp), o = .inl G2 → Cl sh G2 → VV E 0 0 (wq (xT E) ad G2 sh) 96 [(0, .ref (ad l0)), (1, .int l1)] []) (kx145 : ∀ (G2 : Hp), o = .inr G2 → Cl sh G2 → VV E 0 0 (wq (xT E) ad G2 sh) 145 [(0, .ref (ad l0)), (1, .int l1)] []) : VV E 0 0 (wq (xT E) ad G sh) 96 [(0, .ref (ad l0)), (1, .int l1)] [] := by
  unfold fX11_expression_S96 at hf
  refine v_aload_n C 0 dX11_expression_96 rfl rfl ?_
  refine v_bipush (v := 7) C dX11_expression_97 (by decide) ?_
  obtain ⟨r1, qr1, hf⟩ := bn hf
  refine v_callVi (As := [.int 7]) (rest := []) C (sX11_is h_l0 qr1) cs_X11_245 (by decide) h_l0 rfl hC rfl rfl rfl (Nat.le_of_ble_eq_true rfl) ⟨Nat.le_refl _, Nat.le_refl _⟩ dX11_expression_99 (fun hC => ?_)
  refine v_if_eq (tgt := 145) C dX11_expression_102 (by decide) (fun c2 => ?_) (fun c2 => ?_)
  · have hf := ip hf c2
    cases hf
    refine v_sub [0, 1] rfl ?_
    exact kx145 _ rfl hC
  · have hf := im hf c2
    refine v_aload_n C 0 dX11_expression_105 rfl rfl ?_
    refine v_getI C h_l0 fl_X11_254 dX11_expression_106 ?_
    refine v_iload_n C 1 dX11_expression_109 rfl rfl ?_
    refine v_icmp_le (tgt := 145) C dX11_expression_110 (by decide) (fun c3 => ?_) (fun c3 => ?_)
    · have hf := ip hf c3
      cases hf
      refine v_sub [0, 1] rfl ?_
      exact kx145 _ rfl hC
    · have hf := im hf c3
      refine v_aload_n C 0 dX11_expression_113 rfl rfl ?_
      refine v_iconst (v := 0) C dX11_expression_114 (by decide) ?_
      obtain ⟨G5, qr4, hf⟩ := bn hf
      refine v_callVv (As := [.int 0]) (rest := []) C (sX11_comesOut h_l0 qr4) cs_X11_362 (by decide) h_l0 rfl hC rfl rfl rfl (Nat.le_of_ble_eq_true rfl) ⟨Nat.le_refl _, Nat.le_refl _⟩ dX11_expression_115 (fun hC => ?_)
      refine v_aload_n C 0 dX11_expression_118 rfl rfl ?_
      refine v_dup C dX11_expression_119 rfl ?_
      refine v_getI C h_l0 fl_X11_353 dX11_expression_120 ?_
      refine v_iconst (v := 1) C dX11_expression_123 (by decide) ?_
      refine v_isub C dX11_expression_124 ?_
      refine v_putI C h_l0 fp_X11_353 dX11_expression_125 (fun G6 eG6 => ?_)
      have hf := bd_at hf eG6
      have hC : Cl sh G6 := by rw [eG6]; exact hC
      refine v_aload_n C 0 dX11_expression_128 rfl rfl ?_
      refine v_dup C dX11_expression_129 rfl ?_
      refine v_getI C h_l0 fl_X11_254 dX11_expression_130 ?_
      refine v_iconst (v := 1) C dX11_expression_133 (by decide) ?_
      refine v_isub C dX11_expression_134 ?_
      refine v_putI C h_l0 fp_X11_254 dX11_expression_135 (fun G7 eG7 => ?_)
      have hf := bd_at hf eG7
      have hC : Cl sh G7 := by rw [eG7]; exact hC
      refine v_aload_n C 0 dX11_expression_138 rfl rfl ?_
      obtain ⟨G9, qr8, hf⟩ := bn hf
      refine v_callVv (As := []) (rest := []) C (sX11_goesOn h_l0 qr8) cs_X11_248 (by decide) h_l0 rfl hC rfl rfl rfl (Nat.le_of_ble_eq_true rfl) ⟨Nat.le_refl _, Nat.le_refl _⟩ dX11_expression_139 (fun hC => ?_)
      refine v_goto (tgt := 96) C dX11_expression_142 (by decide) ?_
      cases hf
      refine v_sub [0, 1] rfl ?_
      exact kb _ rfl hC
def fX11_expression_J234L12 (sh : Sh) (G : Hp) (l0 : Nat) (l1 : Int32) (l2 : Int32) (s0 : Int32) (s1 : Nat) : Option ((Hp × Int32) ⊕ ((Hp) ⊕ (Hp) ⊕ (Hp))) := (fX11_comesOut sh G s1 s0).bind fun G2 => (ldA sh G2 l0 53 1).bind fun a3 => (ldA sh G2 l0 5 1).bind fun a4 => (aI sh G2 a4 (G2.1 l0 11)).bind fun v5 => (asI sh G2 a3 (G2.1 l0 54) v5).bind fun G6 => bd (sI G6 l0 54 ((G6.1 l0 54) + 1)) fun G7 => (fX11_goesOn sh G7 l0).bind fun G9 => some (.inl (G9, l2))
set_option maxHeartbeats 4000000 in
theorem tX11_expression_J234L12 {E : EX} {ad : Nat → Nat} {sh : Sh} {G : Hp} {l0 : Nat} {l1 : Int32} {l2 : Int32} {s0 : Int32} {s1 : Nat} {o : (Hp × Int32) ⊕ ((Hp) ⊕ (Hp) ⊕ (Hp))} (C : Cx E RX11 cX11_expression 3 none 4 0 0) (hC : Cl sh G) (h_l0 : sh[l0]? = some (0, 11)) (h_s1 : sh[s1]? = some (0, 11)) (hf : fX11_expression_J234L12 sh G l0 l1 l2 s0 s1 = some o) (kb : ∀ (G2 : Hp) (b_l2 : Int32), o = .inl (G2, b_l2) → Cl sh G2 → VV E 0 0 (wq (xT E) ad G2 sh) 12 [(0, .ref (ad l0)), (1, .int l1), (2, .int b_l2)] []) (kx272 : ∀ (G2 : Hp), o = .inr (.inl G2) → Cl sh G2 → VV E 0 0 (wq (xT E) ad G2 sh) 272 [(0, .ref (ad l0)), (1, .int l1)] []) (kx95 : ∀ (G2 : Hp), o = .inr (.inr (.inl G2)) → Cl sh G2 → VV E 0 0 (wq (xT E) ad G2 sh) 95 [(0, .ref (ad l0)), (1, .int l1)] []) (kx191 : ∀ (G2 : Hp), o = .inr (.inr (.inr G2)) → Cl sh G2 → VV E 0 0 (wq (xT E) ad G2 sh) 191 [(0, .ref (ad l0)), (1, .int l1)] []) : VV E 0 0 (wq (xT E) ad G sh) 234 [(0, .ref (ad l0)), (1, .int l1), (2, .int l2)] [.int s0, .ref (ad s1)] := by
  unfold fX11_expression_J234L12 at hf
  obtain ⟨G2, qr1, hf⟩ := bn hf
  refine v_callVv (As := [.int s0]) (rest := []) C (sX11_comesOut h_s1 qr1) cs_X11_362 (by decide) h_s1 rfl hC rfl rfl rfl (Nat.le_of_ble_eq_true rfl) ⟨Nat.le_refl _, Nat.le_refl _⟩ dX11_expression_234 (fun hC => ?_)
  refine v_aload_n C 0 dX11_expression_237 rfl rfl ?_
  obtain ⟨a3, qa3, hf⟩ := bn hf
  refine v_getA C h_l0 fl_X11_125 qa3 dX11_expression_238 (fun h_a3 => ?_)
  refine v_aload_n C 0 dX11_expression_241 rfl rfl ?_
  refine v_getI C h_l0 fl_X11_353 dX11_expression_242 ?_
  refine v_aload_n C 0 dX11_expression_245 rfl rfl ?_
  obtain ⟨a4, qa4, hf⟩ := bn hf
  refine v_getA C h_l0 fl_X11_20 qa4 dX11_expression_246 (fun h_a4 => ?_)
  refine v_aload_n C 0 dX11_expression_249 rfl rfl ?_
  refine v_getI C h_l0 fl_X11_230 dX11_expression_250 ?_
  obtain ⟨v5, qv5, hf⟩ := bn hf
  refine v_iald C h_a4 qv5 dX11_expression_253 ?_
  obtain ⟨G6, qG6, hf⟩ := bn hf
  refine v_iast C h_a3 qG6 hC dX11_expression_254 (fun hC => ?_)
  refine v_aload_n C 0 dX11_expression_255 rfl rfl ?_
  refine v_dup C dX11_expression_256 rfl ?_
  refine v_getI C h_l0 fl_X11_353 dX11_expression_257 ?_
  refine v_iconst (v := 1) C dX11_expression_260 (by decide) ?_
  refine v_iadd C dX11_expression_261 ?_
  refine v_putI C h_l0 fp_X11_353 dX11_expression_262 (fun G7 eG7 => ?_)
  have hf := bd_at hf eG7
  have hC : Cl sh G7 := by rw [eG7]; exact hC
  refine v_aload_n C 0 dX11_expression_265 rfl rfl ?_
  obtain ⟨G9, qr8, hf⟩ := bn hf
  refine v_callVv (As := []) (rest := []) C (sX11_goesOn h_l0 qr8) cs_X11_248 (by decide) h_l0 rfl hC rfl rfl rfl (Nat.le_of_ble_eq_true rfl) ⟨Nat.le_refl _, Nat.le_refl _⟩ dX11_expression_266 (fun hC => ?_)
  refine v_goto (tgt := 12) C dX11_expression_269 (by decide) ?_
  cases hf
  refine v_sub [0, 1, 2] rfl ?_
  exact kb _ _ rfl hC
def fX11_expression_J229L12 (sh : Sh) (G : Hp) (l0 : Nat) (l1 : Int32) (l2 : Int32) (s0 : Nat) : Option ((Hp × Int32) ⊕ ((Hp) ⊕ (Hp) ⊕ (Hp))) := fX11_expression_J234L12 sh G l0 l1 l2 1 s0
set_option maxHeartbeats 4000000 in
theorem tX11_expression_J229L12 {E : EX} {ad : Nat → Nat} {sh : Sh} {G : Hp} {l0 : Nat} {l1 : Int32} {l2 : Int32} {s0 : Nat} {o : (Hp × Int32) ⊕ ((Hp) ⊕ (Hp) ⊕ (Hp))} (C : Cx E RX11 cX11_expression 3 none 4 0 0) (hC : Cl sh G) (h_l0 : sh[l0]? = some (0, 11)) (h_s0 : sh[s0]? = some (0, 11)) (hf : fX11_expression_J229L12 sh G l0 l1 l2 s0 = some o) (kb : ∀ (G2 : Hp) (b_l2 : Int32), o = .inl (G2, b_l2) → Cl sh G2 → VV E 0 0 (wq (xT E) ad G2 sh) 12 [(0, .ref (ad l0)), (1, .int l1), (2, .int b_l2)] []) (kx272 : ∀ (G2 : Hp), o = .inr (.inl G2) → Cl sh G2 → VV E 0 0 (wq (xT E) ad G2 sh) 272 [(0, .ref (ad l0)), (1, .int l1)] []) (kx95 : ∀ (G2 : Hp), o = .inr (.inr (.inl G2)) → Cl sh G2 → VV E 0 0 (wq (xT E) ad G2 sh) 95 [(0, .ref (ad l0)), (1, .int l1)] []) (kx191 : ∀ (G2 : Hp), o = .inr (.inr (.inr G2)) → Cl sh G2 → VV E 0 0 (wq (xT E) ad G2 sh) 191 [(0, .ref (ad l0)), (1, .int l1)] []) : VV E 0 0 (wq (xT E) ad G sh) 229 [(0, .ref (ad l0)), (1, .int l1), (2, .int l2)] [.ref (ad s0)] := by
  unfold fX11_expression_J229L12 at hf
  refine v_iconst (v := 1) C dX11_expression_229 (by decide) ?_
  refine v_goto (tgt := 234) C dX11_expression_230 (by decide) ?_
  refine v_sub [0, 1, 2] rfl ?_
  exact tX11_expression_J234L12 C hC h_l0 h_s0 hf kb kx272 kx95 kx191
def fX11_expression_J186L12 (sh : Sh) (G : Hp) (l0 : Nat) (l1 : Int32) (s0 : Int32) : Option ((Hp × Int32) ⊕ ((Hp) ⊕ (Hp) ⊕ (Hp))) := if s0 = 0 then some (.inr (.inr (.inr G))) else (fX11_is sh G l0 10).bind fun r2 => if r2 = 0 then (fX11_is sh G l0 15).bind fun r4 => if r4 = 0 then fX11_expression_J234L12 sh G l0 l1 s0 0 l0 else fX11_expression_J229L12 sh G l0 l1 s0 l0 else fX11_expression_J229L12 sh G l0 l1 s0 l0
set_option maxHeartbeats 4000000 in
theorem tX11_expression_J186L12 {E : EX} {ad : Nat → Nat} {sh : Sh} {G : Hp} {l0 : Nat} {l1 : Int32} {s0 : Int32} {o : (Hp × Int32) ⊕ ((Hp) ⊕ (Hp) ⊕ (Hp))} (C : Cx E RX11 cX11_expression 3 none 4 0 0) (hC : Cl sh G) (h_l0 : sh[l0]? = some (0, 11)) (hf : fX11_expression_J186L12 sh G l0 l1 s0 = some o) (kb : ∀ (G2 : Hp) (b_l2 : Int32), o = .inl (G2, b_l2) → Cl sh G2 → VV E 0 0 (wq (xT E) ad G2 sh) 12 [(0, .ref (ad l0)), (1, .int l1), (2, .int b_l2)] []) (kx272 : ∀ (G2 : Hp), o = .inr (.inl G2) → Cl sh G2 → VV E 0 0 (wq (xT E) ad G2 sh) 272 [(0, .ref (ad l0)), (1, .int l1)] []) (kx95 : ∀ (G2 : Hp), o = .inr (.inr (.inl G2)) → Cl sh G2 → VV E 0 0 (wq (xT E) ad G2 sh) 95 [(0, .ref (ad l0)), (1, .int l1)] []) (kx191 : ∀ (G2 : Hp), o = .inr (.inr (.inr G2)) → Cl sh G2 → VV E 0 0 (wq (xT E) ad G2 sh) 191 [(0, .ref (ad l0)), (1, .int l1)] []) : VV E 0 0 (wq (xT E) ad G sh) 186 [(0, .ref (ad l0)), (1, .int l1)] [.int s0] := by
  unfold fX11_expression_J186L12 at hf
  refine v_istore_n (lv2 := [(2, .int s0), (0, .ref (ad l0)), (1, .int l1)]) C dX11_expression_186 rfl (by decide) rfl ?_
  refine v_iload_n C 0 dX11_expression_187 rfl rfl ?_
  refine v_if_ne (tgt := 210) C dX11_expression_188 (by decide) (fun c1 => ?_) (fun c1 => ?_)
  · have hf := im hf c1
    refine v_aload_n C 1 dX11_expression_210 rfl rfl ?_
    refine v_aload_n C 1 dX11_expression_211 rfl rfl ?_
    refine v_bipush (v := 10) C dX11_expression_212 (by decide) ?_
    obtain ⟨r2, qr2, hf⟩ := bn hf
    refine v_callVi (As := [.int 10]) (rest := [.ref (ad l0)]) C (sX11_is h_l0 qr2) cs_X11_245 (by decide) h_l0 rfl hC rfl rfl rfl (Nat.le_of_ble_eq_true rfl) ⟨Nat.le_refl _, Nat.le_refl _⟩ dX11_expression_214 (fun hC => ?_)
    refine v_if_ne (tgt := 229) C dX11_expression_217 (by decide) (fun c3 => ?_) (fun c3 => ?_)
    · have hf := im hf c3
      refine v_sub [1, 2, 0] rfl ?_
      exact tX11_expression_J229L12 C hC h_l0 h_l0 hf kb kx272 kx95 kx191
    · have hf := ip hf c3
      refine v_aload_n C 1 dX11_expression_220 rfl rfl ?_
      refine v_bipush (v := 15) C dX11_expression_221 (by decide) ?_
      obtain ⟨r4, qr4, hf⟩ := bn hf
      refine v_callVi (As := [.int 15]) (rest := [.ref (ad l0)]) C (sX11_is h_l0 qr4) cs_X11_245 (by decide) h_l0 rfl hC rfl rfl rfl (Nat.le_of_ble_eq_true rfl) ⟨Nat.le_refl _, Nat.le_refl _⟩ dX11_expression_223 (fun hC => ?_)
      refine v_if_eq (tgt := 233) C dX11_expression_226 (by decide) (fun c5 => ?_) (fun c5 => ?_)
      · have hf := ip hf c5
        refine v_iconst (v := 0) C dX11_expression_233 (by decide) ?_
        refine v_sub [1, 2, 0] rfl ?_
        exact tX11_expression_J234L12 C hC h_l0 h_l0 hf kb kx272 kx95 kx191
      · have hf := im hf c5
        refine v_sub [1, 2, 0] rfl ?_
        exact tX11_expression_J229L12 C hC h_l0 h_l0 hf kb kx272 kx95 kx191
  · have hf := ip hf c1
    cases hf
    refine v_sub [1, 2] rfl ?_
    exact kx191 _ rfl hC
def fX11_expression_J181L12 (sh : Sh) (G : Hp) (l0 : Nat) (l1 : Int32) : Option ((Hp × Int32) ⊕ ((Hp) ⊕ (Hp) ⊕ (Hp))) := fX11_expression_J186L12 sh G l0 l1 1
set_option maxHeartbeats 4000000 in
theorem tX11_expression_J181L12 {E : EX} {ad : Nat → Nat} {sh : Sh} {G : Hp} {l0 : Nat} {l1 : Int32} {o : (Hp × Int32) ⊕ ((Hp) ⊕ (Hp) ⊕ (Hp))} (C : Cx E RX11 cX11_expression 3 none 4 0 0) (hC : Cl sh G) (h_l0 : sh[l0]? = some (0, 11)) (hf : fX11_expression_J181L12 sh G l0 l1 = some o) (kb : ∀ (G2 : Hp) (b_l2 : Int32), o = .inl (G2, b_l2) → Cl sh G2 → VV E 0 0 (wq (xT E) ad G2 sh) 12 [(0, .ref (ad l0)), (1, .int l1), (2, .int b_l2)] []) (kx272 : ∀ (G2 : Hp), o = .inr (.inl G2) → Cl sh G2 → VV E 0 0 (wq (xT E) ad G2 sh) 272 [(0, .ref (ad l0)), (1, .int l1)] []) (kx95 : ∀ (G2 : Hp), o = .inr (.inr (.inl G2)) → Cl sh G2 → VV E 0 0 (wq (xT E) ad G2 sh) 95 [(0, .ref (ad l0)), (1, .int l1)] []) (kx191 : ∀ (G2 : Hp), o = .inr (.inr (.inr G2)) → Cl sh G2 → VV E 0 0 (wq (xT E) ad G2 sh) 191 [(0, .ref (ad l0)), (1, .int l1)] []) : VV E 0 0 (wq (xT E) ad G sh) 181 [(0, .ref (ad l0)), (1, .int l1)] [] := by
  unfold fX11_expression_J181L12 at hf
  refine v_iconst (v := 1) C dX11_expression_181 (by decide) ?_
  refine v_goto (tgt := 186) C dX11_expression_182 (by decide) ?_
  refine v_sub [0, 1] rfl ?_
  exact tX11_expression_J186L12 C hC h_l0 hf kb kx272 kx95 kx191
def fX11_expression_J145L12 (sh : Sh) (G : Hp) (l0 : Nat) (l1 : Int32) : Option ((Hp × Int32) ⊕ ((Hp) ⊕ (Hp) ⊕ (Hp))) := (fX11_is sh G l0 8).bind fun r1 => if r1 = 0 then (fX11_is sh G l0 9).bind fun r3 => if r3 = 0 then (fX11_is sh G l0 10).bind fun r5 => if r5 = 0 then (fX11_is sh G l0 15).bind fun r7 => if r7 = 0 then fX11_expression_J186L12 sh G l0 l1 0 else fX11_expression_J181L12 sh G l0 l1 else fX11_expression_J181L12 sh G l0 l1 else fX11_expression_J181L12 sh G l0 l1 else fX11_expression_J181L12 sh G l0 l1
set_option maxHeartbeats 4000000 in
theorem tX11_expression_J145L12 {E : EX} {ad : Nat → Nat} {sh : Sh} {G : Hp} {l0 : Nat} {l1 : Int32} {o : (Hp × Int32) ⊕ ((Hp) ⊕ (Hp) ⊕ (Hp))} (C : Cx E RX11 cX11_expression 3 none 4 0 0) (hC : Cl sh G) (h_l0 : sh[l0]? = some (0, 11)) (hf : fX11_expression_J145L12 sh G l0 l1 = some o) (kb : ∀ (G2 : Hp) (b_l2 : Int32), o = .inl (G2, b_l2) → Cl sh G2 → VV E 0 0 (wq (xT E) ad G2 sh) 12 [(0, .ref (ad l0)), (1, .int l1), (2, .int b_l2)] []) (kx272 : ∀ (G2 : Hp), o = .inr (.inl G2) → Cl sh G2 → VV E 0 0 (wq (xT E) ad G2 sh) 272 [(0, .ref (ad l0)), (1, .int l1)] []) (kx95 : ∀ (G2 : Hp), o = .inr (.inr (.inl G2)) → Cl sh G2 → VV E 0 0 (wq (xT E) ad G2 sh) 95 [(0, .ref (ad l0)), (1, .int l1)] []) (kx191 : ∀ (G2 : Hp), o = .inr (.inr (.inr G2)) → Cl sh G2 → VV E 0 0 (wq (xT E) ad G2 sh) 191 [(0, .ref (ad l0)), (1, .int l1)] []) : VV E 0 0 (wq (xT E) ad G sh) 145 [(0, .ref (ad l0)), (1, .int l1)] [] := by
  unfold fX11_expression_J145L12 at hf
  refine v_aload_n C 0 dX11_expression_145 rfl rfl ?_
  refine v_bipush (v := 8) C dX11_expression_146 (by decide) ?_
  obtain ⟨r1, qr1, hf⟩ := bn hf
  refine v_callVi (As := [.int 8]) (rest := []) C (sX11_is h_l0 qr1) cs_X11_245 (by decide) h_l0 rfl hC rfl rfl rfl (Nat.le_of_ble_eq_true rfl) ⟨Nat.le_refl _, Nat.le_refl _⟩ dX11_expression_148 (fun hC => ?_)
  refine v_if_ne (tgt := 181) C dX11_expression_151 (by decide) (fun c2 => ?_) (fun c2 => ?_)
  · have hf := im hf c2
    refine v_sub [0, 1] rfl ?_
    exact tX11_expression_J181L12 C hC h_l0 hf kb kx272 kx95 kx191
  · have hf := ip hf c2
    refine v_aload_n C 0 dX11_expression_154 rfl rfl ?_
    refine v_bipush (v := 9) C dX11_expression_155 (by decide) ?_
    obtain ⟨r3, qr3, hf⟩ := bn hf
    refine v_callVi (As := [.int 9]) (rest := []) C (sX11_is h_l0 qr3) cs_X11_245 (by decide) h_l0 rfl hC rfl rfl rfl (Nat.le_of_ble_eq_true rfl) ⟨Nat.le_refl _, Nat.le_refl _⟩ dX11_expression_157 (fun hC => ?_)
    refine v_if_ne (tgt := 181) C dX11_expression_160 (by decide) (fun c4 => ?_) (fun c4 => ?_)
    · have hf := im hf c4
      refine v_sub [0, 1] rfl ?_
      exact tX11_expression_J181L12 C hC h_l0 hf kb kx272 kx95 kx191
    · have hf := ip hf c4
      refine v_aload_n C 0 dX11_expression_163 rfl rfl ?_
      refine v_bipush (v := 10) C dX11_expression_164 (by decide) ?_
      obtain ⟨r5, qr5, hf⟩ := bn hf
      refine v_callVi (As := [.int 10]) (rest := []) C (sX11_is h_l0 qr5) cs_X11_245 (by decide) h_l0 rfl hC rfl rfl rfl (Nat.le_of_ble_eq_true rfl) ⟨Nat.le_refl _, Nat.le_refl _⟩ dX11_expression_166 (fun hC => ?_)
      refine v_if_ne (tgt := 181) C dX11_expression_169 (by decide) (fun c6 => ?_) (fun c6 => ?_)
      · have hf := im hf c6
        refine v_sub [0, 1] rfl ?_
        exact tX11_expression_J181L12 C hC h_l0 hf kb kx272 kx95 kx191
      · have hf := ip hf c6
        refine v_aload_n C 0 dX11_expression_172 rfl rfl ?_
        refine v_bipush (v := 15) C dX11_expression_173 (by decide) ?_
        obtain ⟨r7, qr7, hf⟩ := bn hf
        refine v_callVi (As := [.int 15]) (rest := []) C (sX11_is h_l0 qr7) cs_X11_245 (by decide) h_l0 rfl hC rfl rfl rfl (Nat.le_of_ble_eq_true rfl) ⟨Nat.le_refl _, Nat.le_refl _⟩ dX11_expression_175 (fun hC => ?_)
        refine v_if_eq (tgt := 185) C dX11_expression_178 (by decide) (fun c8 => ?_) (fun c8 => ?_)
        · have hf := ip hf c8
          refine v_iconst (v := 0) C dX11_expression_185 (by decide) ?_
          refine v_sub [0, 1] rfl ?_
          exact tX11_expression_J186L12 C hC h_l0 hf kb kx272 kx95 kx191
        · have hf := im hf c8
          refine v_sub [0, 1] rfl ?_
          exact tX11_expression_J181L12 C hC h_l0 hf kb kx272 kx95 kx191
def fX11_expression_S12 (sh : Sh) (l0 : Nat) (l1 : Int32) (G : Hp) (l2 : Int32) : Option ((Hp × Int32) ⊕ ((Hp) ⊕ (Hp) ⊕ (Hp))) := if l2 = 0 then some (.inr (.inl G)) else if (G.1 l0 13) = 0 then (iter (fun s : Hp => fX11_expression_S23 sh l0 l1 s ) fuel (G : Hp)).bind (fun u11 => bd u11 fun G4 => (fX11_unit sh G4 l0).bind fun G6 => if (G6.1 l0 13) ≤ 0 then (iter (fun s : Hp => fX11_expression_S96 sh l0 l1 s ) fuel (G6 : Hp)).bind (fun u10 => bd u10 fun G9 => fX11_expression_J145L12 sh G9 l0 l1) else some (.inr (.inr (.inl G6)))) else some (.inr (.inl G))
set_option maxHeartbeats 4000000 in
theorem tX11_expression_S12 {E : EX} {ad : Nat → Nat} {sh : Sh} {G : Hp} {l0 : Nat} {l1 : Int32} {l2 : Int32} {o : (Hp × Int32) ⊕ ((Hp) ⊕ (Hp) ⊕ (Hp))} (C : Cx E RX11 cX11_expression 3 none 4 0 0) (hC : Cl sh G) (h_l0 : sh[l0]? = some (0, 11)) (hf : fX11_expression_S12 sh l0 l1 G l2 = some o) (kb : ∀ (G2 : Hp) (b_l2 : Int32), o = .inl (G2, b_l2) → Cl sh G2 → VV E 0 0 (wq (xT E) ad G2 sh) 12 [(0, .ref (ad l0)), (1, .int l1), (2, .int b_l2)] []) (kx272 : ∀ (G2 : Hp), o = .inr (.inl G2) → Cl sh G2 → VV E 0 0 (wq (xT E) ad G2 sh) 272 [(0, .ref (ad l0)), (1, .int l1)] []) (kx95 : ∀ (G2 : Hp), o = .inr (.inr (.inl G2)) → Cl sh G2 → VV E 0 0 (wq (xT E) ad G2 sh) 95 [(0, .ref (ad l0)), (1, .int l1)] []) (kx191 : ∀ (G2 : Hp), o = .inr (.inr (.inr G2)) → Cl sh G2 → VV E 0 0 (wq (xT E) ad G2 sh) 191 [(0, .ref (ad l0)), (1, .int l1)] []) : VV E 0 0 (wq (xT E) ad G sh) 12 [(0, .ref (ad l0)), (1, .int l1), (2, .int l2)] [] := by
  unfold fX11_expression_S12 at hf
  refine v_iload_n C 2 dX11_expression_12 rfl rfl ?_
  refine v_if_eq (tgt := 272) C dX11_expression_13 (by decide) (fun c1 => ?_) (fun c1 => ?_)
  · have hf := ip hf c1
    cases hf
    refine v_sub [0, 1] rfl ?_
    exact kx272 _ rfl hC
  · have hf := im hf c1
    refine v_aload_n C 0 dX11_expression_16 rfl rfl ?_
    refine v_getI C h_l0 fl_X11_227 dX11_expression_17 ?_
    refine v_if_ne (tgt := 272) C dX11_expression_20 (by decide) (fun c2 => ?_) (fun c2 => ?_)
    · have hf := im hf c2
      cases hf
      refine v_sub [0, 1] rfl ?_
      exact kx272 _ rfl hC
    · have hf := ip hf c2
      obtain ⟨r3, qr3, hf⟩ := bn hf
      refine v_sub [0, 1] rfl ?_
      refine iter_sound (P := (fun s : Hp => Cl sh (s) → VV E 0 0 (wq (xT E) ad (s) sh) 23 [(0, .ref (ad l0)), (1, .int (l1))] [])) (X := fun r => r = r3) (fun jsr3 jor3 hor3 jbr3 jxr3 hC => tX11_expression_S23 C hC h_l0 hor3 (fun _ e => jbr3 _ e) ?_) fuel _ r3 qr3 rfl hC
      · intro G4 hu hC
        have e := jxr3 _ hu
        subst e
        have hf := bd_at hf (rfl : G4 = _)
        refine v_aload_n C 0 dX11_expression_84 rfl rfl ?_
        obtain ⟨G6, qr5, hf⟩ := bn hf
        refine v_callVv (As := []) (rest := []) C (sX11_unit h_l0 qr5) cs_X11_359 (by decide) h_l0 rfl hC rfl rfl rfl (Nat.le_of_ble_eq_true rfl) ⟨Nat.le_refl _, Nat.le_refl _⟩ dX11_expression_85 (fun hC => ?_)
        refine v_aload_n C 0 dX11_expression_88 rfl rfl ?_
        refine v_getI C h_l0 fl_X11_227 dX11_expression_89 ?_
        refine v_if_le (tgt := 96) C dX11_expression_92 (by decide) (fun c7 => ?_) (fun c7 => ?_)
        · have hf := ip hf c7
          obtain ⟨r8, qr8, hf⟩ := bn hf
          refine v_sub [0, 1] rfl ?_
          refine iter_sound (P := (fun s : Hp => Cl sh (s) → VV E 0 0 (wq (xT E) ad (s) sh) 96 [(0, .ref (ad l0)), (1, .int (l1))] [])) (X := fun r => r = r8) (fun jsr8 jor8 hor8 jbr8 jxr8 hC => tX11_expression_S96 C hC h_l0 hor8 (fun _ e => jbr8 _ e) ?_) fuel _ r8 qr8 rfl hC
          · intro G9 hu hC
            have e := jxr8 _ hu
            subst e
            have hf := bd_at hf (rfl : G9 = _)
            refine v_sub [0, 1] rfl ?_
            exact tX11_expression_J145L12 C hC h_l0 hf kb kx272 kx95 kx191
        · have hf := im hf c7
          cases hf
          refine v_sub [0, 1] rfl ?_
          exact kx95 _ rfl hC
def fX11_expression (sh : Sh) (G : Hp) (l0 : Nat) : Option (Hp) := bd (sI G l0 54 0) fun G1 => bd ((G1.1 l0 12) : Int32) fun x2 => (iter (fun s : Hp × Int32 => fX11_expression_S12 sh l0 x2 s.1 s.2) fuel ((G1, 1) : Hp × Int32)).bind (Sum.elim (fun u5 => bd u5 fun G4 => some G4) (Sum.elim (fun u7 => bd u7 fun G6 => some G6) (fun u16 => bd u16 fun G8 => if (G8.1 l0 12) ≤ x2 then (fX11_comesOut sh G8 l0 0).bind fun G11 => some G11 else (fX11_fail sh G8 l0 1).bind fun G13 => (fX11_comesOut sh G13 l0 0).bind fun G15 => some G15)))
set_option maxHeartbeats 4000000 in
theorem tX11_expression {E : EX} {ad : Nat → Nat} {sh : Sh} {G : Hp} {l0 : Nat} {z : Hp} (C : Cx E RX11 cX11_expression 3 none 4 0 0) (hC : Cl sh G) (h_l0 : sh[l0]? = some (0, 11)) (hf : fX11_expression sh G l0 = some z) (kr : RCv E cX11_expression ad sh z) : VV E 0 0 (wq (xT E) ad G sh) 0 [(0, .ref (ad l0))] [] := by
  unfold fX11_expression at hf
  refine v_aload_n C 0 dX11_expression_0 rfl rfl ?_
  refine v_iconst (v := 0) C dX11_expression_1 (by decide) ?_
  refine v_putI C h_l0 fp_X11_353 dX11_expression_2 (fun G1 eG1 => ?_)
  have hf := bd_at hf eG1
  have hC : Cl sh G1 := by rw [eG1]; exact hC
  refine v_aload_n C 0 dX11_expression_5 rfl rfl ?_
  refine v_getI C h_l0 fl_X11_254 dX11_expression_6 ?_
  refine v_topi (fun x2 ex2 => ?_)
  have hf := bd_at hf ex2
  refine v_istore_n (lv2 := [(1, .int x2), (0, .ref (ad l0))]) C dX11_expression_9 rfl (by decide) rfl ?_
  refine v_iconst (v := 1) C dX11_expression_10 (by decide) ?_
  refine v_istore_n (lv2 := [(2, .int 1), (1, .int x2), (0, .ref (ad l0))]) C dX11_expression_11 rfl (by decide) rfl ?_
  obtain ⟨r3, qr3, hf⟩ := bn hf
  refine v_sub [2, 1, 0] rfl ?_
  refine iter_sound (P := (fun s : Hp × Int32 => Cl sh (s.1) → VV E 0 0 (wq (xT E) ad (s.1) sh) 12 [(0, .ref (ad l0)), (1, .int (x2)), (2, .int (s.2))] [])) (X := fun r => r = r3) (fun jsr3 jor3 hor3 jbr3 jxr3 hC => tX11_expression_S12 C hC h_l0 hor3 (fun _ _ e => jbr3 _ e) ?_ ?_ ?_) fuel _ r3 qr3 rfl hC
  · intro G4 hu hC
    have e := jxr3 _ hu
    subst e
    have hf := sm_l hf
    have hf := bd_at hf (rfl : G4 = _)
    cases hf
    exact kr _ _ dX11_expression_272 hC
  · intro G6 hu hC
    have e := jxr3 _ hu
    subst e
    have hf := sm_r hf
    have hf := sm_l hf
    have hf := bd_at hf (rfl : G6 = _)
    cases hf
    exact kr _ _ dX11_expression_95 hC
  · intro G8 hu hC
    have e := jxr3 _ hu
    subst e
    have hf := sm_r hf
    have hf := sm_r hf
    have hf := bd_at hf (rfl : G8 = _)
    refine v_aload_n C 0 dX11_expression_191 rfl rfl ?_
    refine v_getI C h_l0 fl_X11_254 dX11_expression_192 ?_
    refine v_iload_n C 1 dX11_expression_195 rfl rfl ?_
    refine v_icmp_le (tgt := 204) C dX11_expression_196 (by decide) (fun c9 => ?_) (fun c9 => ?_)
    · have hf := ip hf c9
      refine v_aload_n C 0 dX11_expression_204 rfl rfl ?_
      refine v_iconst (v := 0) C dX11_expression_205 (by decide) ?_
      obtain ⟨G11, qr10, hf⟩ := bn hf
      refine v_callVv (As := [.int 0]) (rest := []) C (sX11_comesOut h_l0 qr10) cs_X11_362 (by decide) h_l0 rfl hC rfl rfl rfl (Nat.le_of_ble_eq_true rfl) ⟨Nat.le_refl _, Nat.le_refl _⟩ dX11_expression_206 (fun hC => ?_)
      cases hf
      exact kr _ _ dX11_expression_209 hC
    · have hf := im hf c9
      refine v_aload_n C 0 dX11_expression_199 rfl rfl ?_
      refine v_iconst (v := 1) C dX11_expression_200 (by decide) ?_
      obtain ⟨G13, qr12, hf⟩ := bn hf
      refine v_callVv (As := [.int 1]) (rest := []) C (sX11_fail h_l0 qr12) cs_X11_242 (by decide) h_l0 rfl hC rfl rfl rfl (Nat.le_of_ble_eq_true rfl) ⟨Nat.le_refl _, Nat.le_refl _⟩ dX11_expression_201 (fun hC => ?_)
      refine v_aload_n C 0 dX11_expression_204 rfl rfl ?_
      refine v_iconst (v := 0) C dX11_expression_205 (by decide) ?_
      obtain ⟨G15, qr14, hf⟩ := bn hf
      refine v_callVv (As := [.int 0]) (rest := []) C (sX11_comesOut h_l0 qr14) cs_X11_362 (by decide) h_l0 rfl hC rfl rfl rfl (Nat.le_of_ble_eq_true rfl) ⟨Nat.le_refl _, Nat.le_refl _⟩ dX11_expression_206 (fun hC => ?_)
      cases hf
      exact kr _ _ dX11_expression_209 hC
theorem sX11_expression {l : Launch} {sh : Sh} {G : Hp} {l0 : Nat} {z : Hp} (h_l0 : sh[l0]? = some (0, 11)) (hf : fX11_expression sh G l0 = some z) : MC l yX11_expression cX11_expression 3 none 4 0 0 sh sh G z (fun ad => [.ref (ad l0)]) (fun _ => none) := by
  refine MC_of rfl rfl (fun _ => Nat.le_of_ble_eq_true rfl) (fun E ad C hl hnm hC hQ => ?_)
  exact tX11_expression C hC h_l0 hf (fun pc lv hd hC => v_vret C hQ (fun _ _ => rfl) hC rfl hd)
