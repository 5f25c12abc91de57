def fX11_read_S10 (sh : Sh) (l0 : Nat) (G : Hp) (l1 : Int32) : Option ((Hp × Int32) ⊕ ((Hp))) := if (G.1 l0 4) ≤ l1 then some (.inr G) else (ldA sh G l0 3 2).bind fun a2 => (ldA sh G l0 1 2).bind fun a3 => (aI sh G a3 l1).bind fun v4 => (asI sh G a2 l1 (Int8.toInt32 (Int32.toInt8 v4))).bind fun G5 => bd ((l1 + 1) : Int32) fun x6 => some (.inl (G5, x6))
set_option maxHeartbeats 4000000 in
theorem tX11_read_S10 {E : EX} {ad : Nat → Nat} {sh : Sh} {G : Hp} {l0 : Nat} {l1 : Int32} {o : (Hp × Int32) ⊕ ((Hp))} (C : Cx E RX11 cX11_read 2 (some .int) 8 0 0) (hC : Cl sh G) (h_l0 : sh[l0]? = some (0, 11)) (hf : fX11_read_S10 sh l0 G l1 = some o) (kb : ∀ (G2 : Hp) (b_l1 : Int32), o = .inl (G2, b_l1) → Cl sh G2 → VV E 0 0 (wq (xT E) ad G2 sh) 10 [(0, .ref (ad l0)), (1, .int b_l1)] []) (kx36 : ∀ (G2 : Hp), o = .inr G2 → Cl sh G2 → VV E 0 0 (wq (xT E) ad G2 sh) 36 [(0, .ref (ad l0))] []) : VV E 0 0 (wq (xT E) ad G sh) 10 [(0, .ref (ad l0)), (1, .int l1)] [] := by
  unfold fX11_read_S10 at hf
  refine v_iload_n C 1 dX11_read_10 rfl rfl ?_
  refine v_aload_n C 0 dX11_read_11 rfl rfl ?_
  refine v_getI C h_l0 fl_X11_196 dX11_read_12 ?_
  refine v_icmp_ge (tgt := 36) C dX11_read_15 (by decide) (fun c1 => ?_) (fun c1 => ?_)
  · have hf := ip hf c1
    cases hf
    refine v_sub [0] rfl ?_
    exact kx36 _ rfl hC
  · have hf := im hf c1
    refine v_aload_n C 0 dX11_read_18 rfl rfl ?_
    obtain ⟨a2, qa2, hf⟩ := bn hf
    refine v_getA C h_l0 fl_X11_17 qa2 dX11_read_19 (fun h_a2 => ?_)
    refine v_iload_n C 1 dX11_read_22 rfl rfl ?_
    refine v_aload_n C 0 dX11_read_23 rfl rfl ?_
    obtain ⟨a3, qa3, hf⟩ := bn hf
    refine v_getA C h_l0 fl_X11_13 qa3 dX11_read_24 (fun h_a3 => ?_)
    refine v_iload_n C 1 dX11_read_27 rfl rfl ?_
    obtain ⟨v4, qv4, hf⟩ := bn hf
    refine v_bald C h_a3 qv4 dX11_read_28 ?_
    obtain ⟨G5, qG5, hf⟩ := bn hf
    refine v_bast C h_a2 qG5 hC dX11_read_29 (fun hC => ?_)
    obtain ⟨x6, ex6⟩ : ∃ x : Int32, x = (l1 + 1) := ⟨_, rfl⟩
    have hf := bd_at hf ex6
    refine v_iinc (v := x6) (j := 1) (lv2 := [(1, .int x6), (0, .ref (ad l0))]) C dX11_read_30 rfl (by rw [ex6]; rfl) (by decide) rfl ?_
    refine v_goto (tgt := 10) C dX11_read_33 (by decide) ?_
    cases hf
    refine v_sub [1, 0] rfl ?_
    exact kb _ _ rfl hC
def fX11_read_S124 (sh : Sh) (l0 : Nat) (G : Hp)  : Option ((Hp) ⊕ ((Hp))) := if (G.1 l0 13) = 0 then (fX11_is sh G l0 0).bind fun r2 => if r2 = 0 then (fX11_tellOne sh G l0).bind fun G5 => some (.inl G5) else some (.inr G) else some (.inr G)
set_option maxHeartbeats 4000000 in
theorem tX11_read_S124 {E : EX} {ad : Nat → Nat} {sh : Sh} {G : Hp} {l0 : Nat} {o : (Hp) ⊕ ((Hp))} (C : Cx E RX11 cX11_read 2 (some .int) 8 0 0) (hC : Cl sh G) (h_l0 : sh[l0]? = some (0, 11)) (hf : fX11_read_S124 sh l0 G  = some o) (kb : ∀ (G2 : Hp), o = .inl G2 → Cl sh G2 → VV E 0 0 (wq (xT E) ad G2 sh) 124 [(0, .ref (ad l0))] []) (kx146 : ∀ (G2 : Hp), o = .inr G2 → Cl sh G2 → VV E 0 0 (wq (xT E) ad G2 sh) 146 [(0, .ref (ad l0))] []) : VV E 0 0 (wq (xT E) ad G sh) 124 [(0, .ref (ad l0))] [] := by
  unfold fX11_read_S124 at hf
  refine v_aload_n C 0 dX11_read_124 rfl rfl ?_
  refine v_getI C h_l0 fl_X11_227 dX11_read_125 ?_
  refine v_if_ne (tgt := 146) C dX11_read_128 (by decide) (fun c1 => ?_) (fun c1 => ?_)
  · have hf := im hf c1
    cases hf
    refine v_sub [0] rfl ?_
    exact kx146 _ rfl hC
  · have hf := ip hf c1
    refine v_aload_n C 0 dX11_read_131 rfl rfl ?_
    refine v_iconst (v := 0) C dX11_read_132 (by decide) ?_
    obtain ⟨r2, qr2, hf⟩ := bn hf
    refine v_callVi (As := [.int 0]) (rest := []) C (sX11_is h_l0 qr2) cs_X11_245 (by decide) h_l0 rfl hC rfl rfl rfl (Nat.le_of_ble_eq_true rfl) ⟨Nat.le_refl _, Nat.le_refl _⟩ dX11_read_133 (fun hC => ?_)
    refine v_if_ne (tgt := 146) C dX11_read_136 (by decide) (fun c3 => ?_) (fun c3 => ?_)
    · have hf := im hf c3
      cases hf
      refine v_sub [0] rfl ?_
      exact kx146 _ rfl hC
    · have hf := ip hf c3
      refine v_aload_n C 0 dX11_read_139 rfl rfl ?_
      obtain ⟨G5, qr4, hf⟩ := bn hf
      refine v_callVv (As := []) (rest := []) C (sX11_tellOne h_l0 qr4) cs_X11_275 (by decide) h_l0 rfl hC rfl rfl rfl (Nat.le_of_ble_eq_true rfl) ⟨Nat.le_refl _, Nat.le_refl _⟩ dX11_read_140 (fun hC => ?_)
      refine v_goto (tgt := 124) C dX11_read_143 (by decide) ?_
      cases hf
      refine v_sub [0] rfl ?_
      exact kb _ rfl hC
def fX11_read_S231 (sh : Sh) (l0 : Nat) (G : Hp) (l1 : Int32) : Option ((Hp × Int32) ⊕ ((Hp))) := if 3 ≤ l1 then some (.inr G) else (ldA sh G l0 77 3).bind fun a2 => (asI sh G a2 l1 (zb 0)).bind fun G3 => bd ((l1 + 1) : Int32) fun x4 => some (.inl (G3, x4))
set_option maxHeartbeats 4000000 in
theorem tX11_read_S231 {E : EX} {ad : Nat → Nat} {sh : Sh} {G : Hp} {l0 : Nat} {l1 : Int32} {o : (Hp × Int32) ⊕ ((Hp))} (C : Cx E RX11 cX11_read 2 (some .int) 8 0 0) (hC : Cl sh G) (h_l0 : sh[l0]? = some (0, 11)) (hf : fX11_read_S231 sh l0 G l1 = some o) (kb : ∀ (G2 : Hp) (b_l1 : Int32), o = .inl (G2, b_l1) → Cl sh G2 → VV E 0 0 (wq (xT E) ad G2 sh) 231 [(0, .ref (ad l0)), (1, .int b_l1)] []) (kx249 : ∀ (G2 : Hp), o = .inr G2 → Cl sh G2 → VV E 0 0 (wq (xT E) ad G2 sh) 249 [(0, .ref (ad l0))] []) : VV E 0 0 (wq (xT E) ad G sh) 231 [(0, .ref (ad l0)), (1, .int l1)] [] := by
  unfold fX11_read_S231 at hf
  refine v_iload_n C 1 dX11_read_231 rfl rfl ?_
  refine v_iconst (v := 3) C dX11_read_232 (by decide) ?_
  refine v_icmp_ge (tgt := 249) C dX11_read_233 (by decide) (fun c1 => ?_) (fun c1 => ?_)
  · have hf := ip hf c1
    cases hf
    refine v_sub [0] rfl ?_
    exact kx249 _ rfl hC
  · have hf := im hf c1
    refine v_aload_n C 0 dX11_read_236 rfl rfl ?_
    obtain ⟨a2, qa2, hf⟩ := bn hf
    refine v_getA C h_l0 fl_X11_170 qa2 dX11_read_237 (fun h_a2 => ?_)
    refine v_iload_n C 1 dX11_read_240 rfl rfl ?_
    refine v_iconst (v := 0) C dX11_read_241 (by decide) ?_
    obtain ⟨G3, qG3, hf⟩ := bn hf
    refine v_zast C h_a2 qG3 hC dX11_read_242 (fun hC => ?_)
    obtain ⟨x4, ex4⟩ : ∃ x : Int32, x = (l1 + 1) := ⟨_, rfl⟩
    have hf := bd_at hf ex4
    refine v_iinc (v := x4) (j := 1) (lv2 := [(1, .int x4), (0, .ref (ad l0))]) C dX11_read_243 rfl (by rw [ex4]; rfl) (by decide) rfl ?_
    refine v_goto (tgt := 231) C dX11_read_246 (by decide) ?_
    cases hf
    refine v_sub [1, 0] rfl ?_
    exact kb _ _ rfl hC
def fX11_read_J176 (sh : Sh) (G : Hp) (l0 : Nat) (s0 : Int32) (s1 : Nat) : Option (Int32 × Hp) := bd (sI G s1 17 s0) fun G1 => if (G1.1 l0 13) ≤ 0 then if (G1.1 l0 15) ≤ 0 then bd (sI G1 l0 18 (G1.1 l0 19)) fun G4 => (fX11_begins sh G4 l0).bind fun G6 => (fX11_keepsRow sh G6 l0).bind fun G8 => bd (sI G8 l0 64 0) fun G9 => bd (sI G9 l0 74 0) fun G10 => (iter (fun s : Hp × Int32 => fX11_read_S231 sh l0 s.1 s.2) fuel ((G10, 0) : Hp × Int32)).bind (fun u13 => bd u13 fun G12 => some (0, G12)) else some ((G1.1 l0 15), G1) else some ((G1.1 l0 13), G1)
set_option maxHeartbeats 4000000 in
theorem tX11_read_J176 {E : EX} {ad : Nat → Nat} {sh : Sh} {G : Hp} {l0 : Nat} {s0 : Int32} {s1 : Nat} {z : Int32 × Hp} (C : Cx E RX11 cX11_read 2 (some .int) 8 0 0) (hC : Cl sh G) (h_l0 : sh[l0]? = some (0, 11)) (h_s1 : sh[s1]? = some (0, 11)) (hf : fX11_read_J176 sh G l0 s0 s1 = some z) (kr : RCi E cX11_read ad sh (z.1) (z.2)) : VV E 0 0 (wq (xT E) ad G sh) 176 [(0, .ref (ad l0))] [.int s0, .ref (ad s1)] := by
  unfold fX11_read_J176 at hf
  refine v_putI C h_s1 fp_X11_37 dX11_read_176 (fun G1 eG1 => ?_)
  have hf := bd_at hf eG1
  have hC : Cl sh G1 := by rw [eG1]; exact hC
  refine v_aload_n C 0 dX11_read_179 rfl rfl ?_
  refine v_getI C h_l0 fl_X11_227 dX11_read_180 ?_
  refine v_if_le (tgt := 191) C dX11_read_183 (by decide) (fun c2 => ?_) (fun c2 => ?_)
  · have hf := ip hf c2
    refine v_aload_n C 0 dX11_read_191 rfl rfl ?_
    refine v_getI C h_l0 fl_X11_236 dX11_read_192 ?_
    refine v_if_le (tgt := 203) C dX11_read_195 (by decide) (fun c3 => ?_) (fun c3 => ?_)
    · have hf := ip hf c3
      refine v_aload_n C 0 dX11_read_203 rfl rfl ?_
      refine v_aload_n C 0 dX11_read_204 rfl rfl ?_
      refine v_getI C h_l0 fl_X11_260 dX11_read_205 ?_
      refine v_putI C h_l0 fp_X11_257 dX11_read_208 (fun G4 eG4 => ?_)
      have hf := bd_at hf eG4
      have hC : Cl sh G4 := by rw [eG4]; exact hC
      refine v_aload_n C 0 dX11_read_211 rfl rfl ?_
      obtain ⟨G6, qr5, hf⟩ := bn hf
      refine v_callVv (As := []) (rest := []) C (sX11_begins h_l0 qr5) cs_X11_184 (by decide) h_l0 rfl hC rfl rfl rfl (Nat.le_of_ble_eq_true rfl) ⟨Nat.le_refl _, Nat.le_refl _⟩ dX11_read_212 (fun hC => ?_)
      refine v_aload_n C 0 dX11_read_215 rfl rfl ?_
      obtain ⟨G8, qr7, hf⟩ := bn hf
      refine v_callVv (As := []) (rest := []) C (sX11_keepsRow h_l0 qr7) cs_X11_187 (by decide) h_l0 rfl hC rfl rfl rfl (Nat.le_of_ble_eq_true rfl) ⟨Nat.le_refl _, Nat.le_refl _⟩ dX11_read_216 (fun hC => ?_)
      refine v_aload_n C 0 dX11_read_219 rfl rfl ?_
      refine v_iconst (v := 0) C dX11_read_220 (by decide) ?_
      refine v_putI C h_l0 fp_X11_278 dX11_read_221 (fun G9 eG9 => ?_)
      have hf := bd_at hf eG9
      have hC : Cl sh G9 := by rw [eG9]; exact hC
      refine v_aload_n C 0 dX11_read_224 rfl rfl ?_
      refine v_iconst (v := 0) C dX11_read_225 (by decide) ?_
      refine v_putI C h_l0 fp_X11_281 dX11_read_226 (fun G10 eG10 => ?_)
      have hf := bd_at hf eG10
      have hC : Cl sh G10 := by rw [eG10]; exact hC
      refine v_iconst (v := 0) C dX11_read_229 (by decide) ?_
      refine v_istore_n (lv2 := [(1, .int 0), (0, .ref (ad l0))]) C dX11_read_230 rfl (by decide) rfl ?_
      obtain ⟨r11, qr11, hf⟩ := bn hf
      refine v_sub [1, 0] rfl ?_
      refine iter_sound (P := (fun s : Hp × Int32 => Cl sh (s.1) → VV E 0 0 (wq (xT E) ad (s.1) sh) 231 [(0, .ref (ad l0)), (1, .int (s.2))] [])) (X := fun r => r = r11) (fun jsr11 jor11 hor11 jbr11 jxr11 hC => tX11_read_S231 C hC h_l0 hor11 (fun _ _ e => jbr11 _ e) ?_) fuel _ r11 qr11 rfl hC
      · intro G12 hu hC
        have e := jxr11 _ hu
        subst e
        have hf := bd_at hf (rfl : G12 = _)
        refine v_iconst (v := 0) C dX11_read_249 (by decide) ?_
        cases hf
        exact kr _ _ dX11_read_250 hC
    · have hf := im hf c3
      refine v_aload_n C 0 dX11_read_198 rfl rfl ?_
      refine v_getI C h_l0 fl_X11_236 dX11_read_199 ?_
      cases hf
      exact kr _ _ dX11_read_202 hC
  · have hf := im hf c2
    refine v_aload_n C 0 dX11_read_186 rfl rfl ?_
    refine v_getI C h_l0 fl_X11_227 dX11_read_187 ?_
    cases hf
    exact kr _ _ dX11_read_190 hC
def fX11_read_J146 (sh : Sh) (G : Hp) (l0 : Nat) : Option (Int32 × Hp) := if (G.1 l0 13) ≤ 0 then if (G.1 l0 15) ≤ 0 then fX11_read_J176 sh G l0 (-1) l0 else fX11_read_J176 sh G l0 (G.1 l0 16) l0 else fX11_read_J176 sh G l0 (G.1 l0 14) l0
set_option maxHeartbeats 4000000 in
theorem tX11_read_J146 {E : EX} {ad : Nat → Nat} {sh : Sh} {G : Hp} {l0 : Nat} {z : Int32 × Hp} (C : Cx E RX11 cX11_read 2 (some .int) 8 0 0) (hC : Cl sh G) (h_l0 : sh[l0]? = some (0, 11)) (hf : fX11_read_J146 sh G l0 = some z) (kr : RCi E cX11_read ad sh (z.1) (z.2)) : VV E 0 0 (wq (xT E) ad G sh) 146 [(0, .ref (ad l0))] [] := by
  unfold fX11_read_J146 at hf
  refine v_aload_n C 0 dX11_read_146 rfl rfl ?_
  refine v_aload_n C 0 dX11_read_147 rfl rfl ?_
  refine v_getI C h_l0 fl_X11_227 dX11_read_148 ?_
  refine v_if_le (tgt := 161) C dX11_read_151 (by decide) (fun c1 => ?_) (fun c1 => ?_)
  · have hf := ip hf c1
    refine v_aload_n C 0 dX11_read_161 rfl rfl ?_
    refine v_getI C h_l0 fl_X11_236 dX11_read_162 ?_
    refine v_if_le (tgt := 175) C dX11_read_165 (by decide) (fun c2 => ?_) (fun c2 => ?_)
    · have hf := ip hf c2
      refine v_iconst (v := (-1)) C dX11_read_175 (by decide) ?_
      refine v_sub [0] rfl ?_
      exact tX11_read_J176 C hC h_l0 h_l0 hf kr
    · have hf := im hf c2
      refine v_aload_n C 0 dX11_read_168 rfl rfl ?_
      refine v_getI C h_l0 fl_X11_239 dX11_read_169 ?_
      refine v_goto (tgt := 176) C dX11_read_172 (by decide) ?_
      refine v_sub [0] rfl ?_
      exact tX11_read_J176 C hC h_l0 h_l0 hf kr
  · have hf := im hf c1
    refine v_aload_n C 0 dX11_read_154 rfl rfl ?_
    refine v_getI C h_l0 fl_X11_233 dX11_read_155 ?_
    refine v_goto (tgt := 176) C dX11_read_158 (by decide) ?_
    refine v_sub [0] rfl ?_
    exact tX11_read_J176 C hC h_l0 h_l0 hf kr
def fX11_read (sh : Sh) (G : Hp) (l0 : Nat) : Option (Int32 × Hp) := bd (sI G l0 4 (G.1 l0 2)) fun G1 => (iter (fun s : Hp × Int32 => fX11_read_S10 sh l0 s.1 s.2) fuel ((G1, 0) : Hp × Int32)).bind (fun u21 => bd u21 fun G3 => bd (sI G3 l0 2 0) fun G4 => (fX11_cut sh G4 l0).bind fun G6 => bd (sI G6 l0 11 0) fun G7 => bd (sI G7 l0 12 0) fun G8 => bd (sI G8 l0 13 0) fun G9 => bd (sI G9 l0 15 0) fun G10 => bd (sI G10 l0 19 ((1 : Int32) - (G10.1 l0 18))) fun G11 => bd (sI G11 l0 20 0) fun G12 => (fX11_plain sh G12 l0 (G12.1 l0 19)).bind fun G14 => bd (sI G14 l0 42 ((130 : Int32) * (G14.1 l0 19))) fun G15 => bd (sI G15 l0 48 ((420 : Int32) * (G15.1 l0 19))) fun G16 => bd (sI G16 l0 36 ((420 : Int32) * (G16.1 l0 19))) fun G17 => (iter (fun s : Hp => fX11_read_S124 sh l0 s ) fuel (G17 : Hp)).bind (fun u20 => bd u20 fun G19 => fX11_read_J146 sh G19 l0))
set_option maxHeartbeats 4000000 in
theorem tX11_read {E : EX} {ad : Nat → Nat} {sh : Sh} {G : Hp} {l0 : Nat} {z : Int32 × Hp} (C : Cx E RX11 cX11_read 2 (some .int) 8 0 0) (hC : Cl sh G) (h_l0 : sh[l0]? = some (0, 11)) (hf : fX11_read sh G l0 = some z) (kr : RCi E cX11_read ad sh (z.1) (z.2)) : VV E 0 0 (wq (xT E) ad G sh) 0 [(0, .ref (ad l0))] [] := by
  unfold fX11_read at hf
  refine v_aload_n C 0 dX11_read_0 rfl rfl ?_
  refine v_aload_n C 0 dX11_read_1 rfl rfl ?_
  refine v_getI C h_l0 fl_X11_190 dX11_read_2 ?_
  refine v_putI C h_l0 fp_X11_196 dX11_read_5 (fun G1 eG1 => ?_)
  have hf := bd_at hf eG1
  have hC : Cl sh G1 := by rw [eG1]; exact hC
  refine v_iconst (v := 0) C dX11_read_8 (by decide) ?_
  refine v_istore_n (lv2 := [(1, .int 0), (0, .ref (ad l0))]) C dX11_read_9 rfl (by decide) rfl ?_
  obtain ⟨r2, qr2, hf⟩ := bn hf
  refine v_sub [1, 0] rfl ?_
  refine iter_sound (P := (fun s : Hp × Int32 => Cl sh (s.1) → VV E 0 0 (wq (xT E) ad (s.1) sh) 10 [(0, .ref (ad l0)), (1, .int (s.2))] [])) (X := fun r => r = r2) (fun jsr2 jor2 hor2 jbr2 jxr2 hC => tX11_read_S10 C hC h_l0 hor2 (fun _ _ e => jbr2 _ e) ?_) fuel _ r2 qr2 rfl hC
  · intro G3 hu hC
    have e := jxr2 _ hu
    subst e
    have hf := bd_at hf (rfl : G3 = _)
    refine v_aload_n C 0 dX11_read_36 rfl rfl ?_
    refine v_iconst (v := 0) C dX11_read_37 (by decide) ?_
    refine v_putI C h_l0 fp_X11_190 dX11_read_38 (fun G4 eG4 => ?_)
    have hf := bd_at hf eG4
    have hC : Cl sh G4 := by rw [eG4]; exact hC
    refine v_aload_n C 0 dX11_read_41 rfl rfl ?_
    obtain ⟨G6, qr5, hf⟩ := bn hf
    refine v_callVv (As := []) (rest := []) C (sX11_cut h_l0 qr5) cs_X11_251 (by decide) h_l0 rfl hC rfl rfl rfl (Nat.le_of_ble_eq_true rfl) ⟨Nat.le_refl _, Nat.le_refl _⟩ dX11_read_42 (fun hC => ?_)
    refine v_aload_n C 0 dX11_read_45 rfl rfl ?_
    refine v_iconst (v := 0) C dX11_read_46 (by decide) ?_
    refine v_putI C h_l0 fp_X11_230 dX11_read_47 (fun G7 eG7 => ?_)
    have hf := bd_at hf eG7
    have hC : Cl sh G7 := by rw [eG7]; exact hC
    refine v_aload_n C 0 dX11_read_50 rfl rfl ?_
    refine v_iconst (v := 0) C dX11_read_51 (by decide) ?_
    refine v_putI C h_l0 fp_X11_254 dX11_read_52 (fun G8 eG8 => ?_)
    have hf := bd_at hf eG8
    have hC : Cl sh G8 := by rw [eG8]; exact hC
    refine v_aload_n C 0 dX11_read_55 rfl rfl ?_
    refine v_iconst (v := 0) C dX11_read_56 (by decide) ?_
    refine v_putI C h_l0 fp_X11_227 dX11_read_57 (fun G9 eG9 => ?_)
    have hf := bd_at hf eG9
    have hC : Cl sh G9 := by rw [eG9]; exact hC
    refine v_aload_n C 0 dX11_read_60 rfl rfl ?_
    refine v_iconst (v := 0) C dX11_read_61 (by decide) ?_
    refine v_putI C h_l0 fp_X11_236 dX11_read_62 (fun G10 eG10 => ?_)
    have hf := bd_at hf eG10
    have hC : Cl sh G10 := by rw [eG10]; exact hC
    refine v_aload_n C 0 dX11_read_65 rfl rfl ?_
    refine v_iconst (v := 1) C dX11_read_66 (by decide) ?_
    refine v_aload_n C 0 dX11_read_67 rfl rfl ?_
    refine v_getI C h_l0 fl_X11_257 dX11_read_68 ?_
    refine v_isub C dX11_read_71 ?_
    refine v_putI C h_l0 fp_X11_260 dX11_read_72 (fun G11 eG11 => ?_)
    have hf := bd_at hf eG11
    have hC : Cl sh G11 := by rw [eG11]; exact hC
    refine v_aload_n C 0 dX11_read_75 rfl rfl ?_
    refine v_iconst (v := 0) C dX11_read_76 (by decide) ?_
    refine v_putI C h_l0 fp_X11_263 dX11_read_77 (fun G12 eG12 => ?_)
    have hf := bd_at hf eG12
    have hC : Cl sh G12 := by rw [eG12]; exact hC
    refine v_aload_n C 0 dX11_read_80 rfl rfl ?_
    refine v_aload_n C 0 dX11_read_81 rfl rfl ?_
    refine v_getI C h_l0 fl_X11_260 dX11_read_82 ?_
    obtain ⟨G14, qr13, hf⟩ := bn hf
    refine v_callVv (As := [.int (G12.1 l0 19)]) (rest := []) C (sX11_plain h_l0 qr13) cs_X11_176 (by decide) h_l0 rfl hC rfl rfl rfl (Nat.le_of_ble_eq_true rfl) ⟨Nat.le_refl _, Nat.le_refl _⟩ dX11_read_85 (fun hC => ?_)
    refine v_aload_n C 0 dX11_read_88 rfl rfl ?_
    refine v_sipush (v := 130) C dX11_read_89 (by decide) ?_
    refine v_aload_n C 0 dX11_read_92 rfl rfl ?_
    refine v_getI C h_l0 fl_X11_260 dX11_read_93 ?_
    refine v_imul C dX11_read_96 ?_
    refine v_putI C h_l0 fp_X11_266 dX11_read_97 (fun G15 eG15 => ?_)
    have hf := bd_at hf eG15
    have hC : Cl sh G15 := by rw [eG15]; exact hC
    refine v_aload_n C 0 dX11_read_100 rfl rfl ?_
    refine v_sipush (v := 420) C dX11_read_101 (by decide) ?_
    refine v_aload_n C 0 dX11_read_104 rfl rfl ?_
    refine v_getI C h_l0 fl_X11_260 dX11_read_105 ?_
    refine v_imul C dX11_read_108 ?_
    refine v_putI C h_l0 fp_X11_269 dX11_read_109 (fun G16 eG16 => ?_)
    have hf := bd_at hf eG16
    have hC : Cl sh G16 := by rw [eG16]; exact hC
    refine v_aload_n C 0 dX11_read_112 rfl rfl ?_
    refine v_sipush (v := 420) C dX11_read_113 (by decide) ?_
    refine v_aload_n C 0 dX11_read_116 rfl rfl ?_
    refine v_getI C h_l0 fl_X11_260 dX11_read_117 ?_
    refine v_imul C dX11_read_120 ?_
    refine v_putI C h_l0 fp_X11_272 dX11_read_121 (fun G17 eG17 => ?_)
    have hf := bd_at hf eG17
    have hC : Cl sh G17 := by rw [eG17]; exact hC
    obtain ⟨r18, qr18, hf⟩ := bn hf
    refine v_sub [0] rfl ?_
    refine iter_sound (P := (fun s : Hp => Cl sh (s) → VV E 0 0 (wq (xT E) ad (s) sh) 124 [(0, .ref (ad l0))] [])) (X := fun r => r = r18) (fun jsr18 jor18 hor18 jbr18 jxr18 hC => tX11_read_S124 C hC h_l0 hor18 (fun _ e => jbr18 _ e) ?_) fuel _ r18 qr18 rfl hC
    · intro G19 hu hC
      have e := jxr18 _ hu
      subst e
      have hf := bd_at hf (rfl : G19 = _)
      refine v_sub [0] rfl ?_
      exact tX11_read_J146 C hC h_l0 hf kr
theorem sX11_read {l : Launch} {sh : Sh} {G : Hp} {l0 : Nat} {z : Int32 × Hp} (h_l0 : sh[l0]? = some (0, 11)) (hf : fX11_read sh G l0 = some z) : MC l yX11_read cX11_read 2 (some .int) 8 0 0 sh sh G (z.2) (fun ad => [.ref (ad l0)]) (fun _ => some (.int z.1)) := by
  refine MC_of rfl rfl (fun _ => Nat.le_of_ble_eq_true rfl) (fun E ad C hl hnm hC hQ => ?_)
  exact tX11_read C hC h_l0 hf (fun pc lv hd hC => v_iret C hQ (fun _ _ => rfl) hC rfl hd)
def fX11_restore_S22 (sh : Sh) (l0 : Nat) (l1 : Int32) (G : Hp) (l2 : Int32) : Option ((Hp × Int32) ⊕ ((Hp))) := if 26 ≤ l2 then some (.inr G) else (ldA sh G l0 58 1).bind fun a2 => (ldA sh G l0 78 1).bind fun a3 => (aI sh G a3 (((26 : Int32) * l1) + l2)).bind fun v4 => (asI sh G a2 l2 v4).bind fun G5 => bd ((l2 + 1) : Int32) fun x6 => some (.inl (G5, x6))
set_option maxHeartbeats 4000000 in
theorem tX11_restore_S22 {E : EX} {ad : Nat → Nat} {sh : Sh} {G : Hp} {l0 : Nat} {l1 : Int32} {l2 : Int32} {o : (Hp × Int32) ⊕ ((Hp))} (C : Cx E RX11 cX11_restore 3 (some .boolean) 2 0 0) (hC : Cl sh G) (h_l0 : sh[l0]? = some (0, 11)) (hf : fX11_restore_S22 sh l0 l1 G l2 = some o) (kb : ∀ (G2 : Hp) (b_l2 : Int32), o = .inl (G2, b_l2) → Cl sh G2 → VV E 0 0 (wq (xT E) ad G2 sh) 22 [(0, .ref (ad l0)), (1, .int l1), (2, .int b_l2)] []) (kx51 : ∀ (G2 : Hp), o = .inr G2 → Cl sh G2 → VV E 0 0 (wq (xT E) ad G2 sh) 51 [(0, .ref (ad l0)), (1, .int l1)] []) : VV E 0 0 (wq (xT E) ad G sh) 22 [(0, .ref (ad l0)), (1, .int l1), (2, .int l2)] [] := by
  unfold fX11_restore_S22 at hf
  refine v_iload_n C 2 dX11_restore_22 rfl rfl ?_
  refine v_bipush (v := 26) C dX11_restore_23 (by decide) ?_
  refine v_icmp_ge (tgt := 51) C dX11_restore_25 (by decide) (fun c1 => ?_) (fun c1 => ?_)
  · have hf := ip hf c1
    cases hf
    refine v_sub [0, 1] rfl ?_
    exact kx51 _ rfl hC
  · have hf := im hf c1
    refine v_aload_n C 0 dX11_restore_28 rfl rfl ?_
    obtain ⟨a2, qa2, hf⟩ := bn hf
    refine v_getA C h_l0 fl_X11_134 qa2 dX11_restore_29 (fun h_a2 => ?_)
    refine v_iload_n C 2 dX11_restore_32 rfl rfl ?_
    refine v_aload_n C 0 dX11_restore_33 rfl rfl ?_
    obtain ⟨a3, qa3, hf⟩ := bn hf
    refine v_getA C h_l0 fl_X11_173 qa3 dX11_restore_34 (fun h_a3 => ?_)
    refine v_bipush (v := 26) C dX11_restore_37 (by decide) ?_
    refine v_iload_n C 1 dX11_restore_39 rfl rfl ?_
    refine v_imul C dX11_restore_40 ?_
    refine v_iload_n C 2 dX11_restore_41 rfl rfl ?_
    refine v_iadd C dX11_restore_42 ?_
    obtain ⟨v4, qv4, hf⟩ := bn hf
    refine v_iald C h_a3 qv4 dX11_restore_43 ?_
    obtain ⟨G5, qG5, hf⟩ := bn hf
    refine v_iast C h_a2 qG5 hC dX11_restore_44 (fun hC => ?_)
    obtain ⟨x6, ex6⟩ : ∃ x : Int32, x = (l2 + 1) := ⟨_, rfl⟩
    have hf := bd_at hf ex6
    refine v_iinc (v := x6) (j := 2) (lv2 := [(2, .int x6), (0, .ref (ad l0)), (1, .int l1)]) C dX11_restore_45 rfl (by rw [ex6]; rfl) (by decide) rfl ?_
    refine v_goto (tgt := 22) C dX11_restore_48 (by decide) ?_
    cases hf
    refine v_sub [1, 2, 0] rfl ?_
    exact kb _ _ rfl hC
def fX11_restore (sh : Sh) (G : Hp) (l0 : Nat) (l1 : Int32) : Option (Int32 × Hp) := (fX11_in l1 0 2).bind fun r1 => if r1 = 0 then some (0, G) else (ldA sh G l0 77 3).bind fun a3 => (aI sh G a3 l1).bind fun v4 => if v4 = 0 then some (0, G) else (iter (fun s : Hp × Int32 => fX11_restore_S22 sh l0 l1 s.1 s.2) fuel ((G, 0) : Hp × Int32)).bind (fun u9 => bd u9 fun G7 => bd (sI G7 l0 64 0) fun G8 => some (1, G8))
set_option maxHeartbeats 4000000 in
theorem tX11_restore {E : EX} {ad : Nat → Nat} {sh : Sh} {G : Hp} {l0 : Nat} {l1 : Int32} {z : Int32 × Hp} (C : Cx E RX11 cX11_restore 3 (some .boolean) 2 0 0) (hC : Cl sh G) (h_l0 : sh[l0]? = some (0, 11)) (hf : fX11_restore sh G l0 l1 = some z) (kr : RCz E cX11_restore ad sh (z.1) (z.2)) : VV E 0 0 (wq (xT E) ad G sh) 0 [(0, .ref (ad l0)), (1, .int l1)] [] := by
  unfold fX11_restore at hf
  refine v_iload_n C 1 dX11_restore_0 rfl rfl ?_
  refine v_iconst (v := 0) C dX11_restore_1 (by decide) ?_
  refine v_iconst (v := 2) C dX11_restore_2 (by decide) ?_
  obtain ⟨r1, qr1, hf⟩ := bn hf
  refine v_callSi (As := [.int l1, .int 0, .int 2]) (rest := []) C (sX11_in  qr1) cs_X11_370 (by decide) hC rfl rfl rfl (Nat.le_of_ble_eq_true rfl) ⟨Nat.le_refl _, Nat.le_refl _⟩ dX11_restore_3 (fun hC => ?_)
  refine v_if_eq (tgt := 18) C dX11_restore_6 (by decide) (fun c2 => ?_) (fun c2 => ?_)
  · have hf := ip hf c2
    refine v_iconst (v := 0) C dX11_restore_18 (by decide) ?_
    cases hf
    exact kr _ _ dX11_restore_19 (Or.inl rfl) hC
  · have hf := im hf c2
    refine v_aload_n C 0 dX11_restore_9 rfl rfl ?_
    obtain ⟨a3, qa3, hf⟩ := bn hf
    refine v_getA C h_l0 fl_X11_170 qa3 dX11_restore_10 (fun h_a3 => ?_)
    refine v_iload_n C 1 dX11_restore_13 rfl rfl ?_
    obtain ⟨v4, qv4, hf⟩ := bn hf
    refine v_zald C h_a3 qv4 dX11_restore_14 ?_
    refine v_if_ne (tgt := 20) C dX11_restore_15 (by decide) (fun c5 => ?_) (fun c5 => ?_)
    · have hf := im hf c5
      refine v_iconst (v := 0) C dX11_restore_20 (by decide) ?_
      refine v_istore_n (lv2 := [(2, .int 0), (0, .ref (ad l0)), (1, .int l1)]) C dX11_restore_21 rfl (by decide) rfl ?_
      obtain ⟨r6, qr6, hf⟩ := bn hf
      refine v_sub [1, 2, 0] rfl ?_
      refine iter_sound (P := (fun s : Hp × Int32 => Cl sh (s.1) → VV E 0 0 (wq (xT E) ad (s.1) sh) 22 [(0, .ref (ad l0)), (1, .int (l1)), (2, .int (s.2))] [])) (X := fun r => r = r6) (fun jsr6 jor6 hor6 jbr6 jxr6 hC => tX11_restore_S22 C hC h_l0 hor6 (fun _ _ e => jbr6 _ e) ?_) fuel _ r6 qr6 rfl hC
      · intro G7 hu hC
        have e := jxr6 _ hu
        subst e
        have hf := bd_at hf (rfl : G7 = _)
        refine v_aload_n C 0 dX11_restore_51 rfl rfl ?_
        refine v_iconst (v := 0) C dX11_restore_52 (by decide) ?_
        refine v_putI C h_l0 fp_X11_278 dX11_restore_53 (fun G8 eG8 => ?_)
        have hf := bd_at hf eG8
        have hC : Cl sh G8 := by rw [eG8]; exact hC
        refine v_iconst (v := 1) C dX11_restore_56 (by decide) ?_
        cases hf
        exact kr _ _ dX11_restore_57 (Or.inr rfl) hC
    · have hf := ip hf c5
      refine v_iconst (v := 0) C dX11_restore_18 (by decide) ?_
      cases hf
      exact kr _ _ dX11_restore_19 (Or.inl rfl) hC
theorem sX11_restore {l : Launch} {sh : Sh} {G : Hp} {l0 : Nat} {l1 : Int32} {z : Int32 × Hp} (h_l0 : sh[l0]? = some (0, 11)) (hf : fX11_restore sh G l0 l1 = some z) : MC l yX11_restore cX11_restore 3 (some .boolean) 2 0 0 sh sh G (z.2) (fun ad => [.ref (ad l0), .int l1]) (fun _ => some (.int z.1)) := by
  refine MC_of rfl rfl (fun _ => Nat.le_of_ble_eq_true rfl) (fun E ad C hl hnm hC hQ => ?_)
  exact tX11_restore C hC h_l0 hf (fun pc lv hd hz hC => v_zret C hQ (fun _ _ => rfl) hC rfl hz hd)
def fX11_isWay (sh : Sh) (G : Hp) (l0 : Nat) (l1 : Int32) : Option (Int32) := (ldA sh G l0 27 1).bind fun a1 => (aI sh G a1 (G.1 l0 18)).bind fun v2 => (fX11_in l1 0 (v2 - 1)).bind fun r3 => if ¬ (r3 = 0 ∨ r3 = 1) then none else some r3
set_option maxHeartbeats 4000000 in
theorem tX11_isWay {E : EX} {ad : Nat → Nat} {sh : Sh} {G : Hp} {l0 : Nat} {l1 : Int32} {z : Int32} (C : Cx E RX11 cX11_isWay 2 (some .boolean) 2 0 0) (hC : Cl sh G) (h_l0 : sh[l0]? = some (0, 11)) (hf : fX11_isWay sh G l0 l1 = some z) (kr : RCz E cX11_isWay ad sh z G) : VV E 0 0 (wq (xT E) ad G sh) 0 [(0, .ref (ad l0)), (1, .int l1)] [] := by
  unfold fX11_isWay at hf
  refine v_iload_n C 1 dX11_isWay_0 rfl rfl ?_
  refine v_iconst (v := 0) C dX11_isWay_1 (by decide) ?_
  refine v_aload_n C 0 dX11_isWay_2 rfl rfl ?_
  obtain ⟨a1, qa1, hf⟩ := bn hf
  refine v_getA C h_l0 fl_X11_58 qa1 dX11_isWay_3 (fun h_a1 => ?_)
  refine v_aload_n C 0 dX11_isWay_6 rfl rfl ?_
  refine v_getI C h_l0 fl_X11_257 dX11_isWay_7 ?_
  obtain ⟨v2, qv2, hf⟩ := bn hf
  refine v_iald C h_a1 qv2 dX11_isWay_10 ?_
  refine v_iconst (v := 1) C dX11_isWay_11 (by decide) ?_
  refine v_isub C dX11_isWay_12 ?_
  obtain ⟨r3, qr3, hf⟩ := bn hf
  refine v_callSi (As := [.int l1, .int 0, .int (v2 - 1)]) (rest := []) C (sX11_in  qr3) cs_X11_370 (by decide) hC rfl rfl rfl (Nat.le_of_ble_eq_true rfl) ⟨Nat.le_refl _, Nat.le_refl _⟩ dX11_isWay_13 (fun hC => ?_)
  obtain ⟨hz4, hf⟩ := iz hf
  cases hf
  exact kr _ _ dX11_isWay_16 (Classical.not_not.mp hz4) hC
theorem sX11_isWay {l : Launch} {sh : Sh} {G : Hp} {l0 : Nat} {l1 : Int32} {z : Int32} (h_l0 : sh[l0]? = some (0, 11)) (hf : fX11_isWay sh G l0 l1 = some z) : MC l yX11_isWay cX11_isWay 2 (some .boolean) 2 0 0 sh sh G G (fun ad => [.ref (ad l0), .int l1]) (fun _ => some (.int z)) := by
  refine MC_of rfl rfl (fun _ => Nat.le_of_ble_eq_true rfl) (fun E ad C hl hnm hC hQ => ?_)
  exact tX11_isWay C hC h_l0 hf (fun pc lv hd hz hC => v_zret C hQ (fun _ _ => rfl) hC rfl hz hd)
def fX11_isSome (sh : Sh) (G : Hp) (l0 : Nat) (l1 : Int32) : Option (Int32) := if l1 = (-1) then some 1 else (fX11_isWay sh G l0 l1).bind fun r2 => if r2 = 0 then some 0 else some 1
set_option maxHeartbeats 4000000 in
theorem tX11_isSome {E : EX} {ad : Nat → Nat} {sh : Sh} {G : Hp} {l0 : Nat} {l1 : Int32} {z : Int32} (C : Cx E RX11 cX11_isSome 2 (some .boolean) 3 0 0) (hC : Cl sh G) (h_l0 : sh[l0]? = some (0, 11)) (hf : fX11_isSome sh G l0 l1 = some z) (kr : RCz E cX11_isSome ad sh z G) : VV E 0 0 (wq (xT E) ad G sh) 0 [(0, .ref (ad l0)), (1, .int l1)] [] := by
  unfold fX11_isSome at hf
  refine v_iload_n C 1 dX11_isSome_0 rfl rfl ?_
  refine v_iconst (v := (-1)) C dX11_isSome_1 (by decide) ?_
  refine v_icmp_eq (tgt := 13) C dX11_isSome_2 (by decide) (fun c1 => ?_) (fun c1 => ?_)
  · have hf := ip hf c1
    refine v_iconst (v := 1) C dX11_isSome_13 (by decide) ?_
    refine v_goto (tgt := 18) C dX11_isSome_14 (by decide) ?_
    cases hf
    exact kr _ _ dX11_isSome_18 (Or.inr rfl) hC
  · have hf := im hf c1
    refine v_aload_n C 0 dX11_isSome_5 rfl rfl ?_
    refine v_iload_n C 1 dX11_isSome_6 rfl rfl ?_
    obtain ⟨r2, qr2, hf⟩ := bn hf
    refine v_callVi (As := [.int l1]) (rest := []) C (sX11_isWay h_l0 qr2) cs_X11_422 (by decide) h_l0 rfl hC rfl rfl rfl (Nat.le_of_ble_eq_true rfl) ⟨Nat.le_refl _, Nat.le_refl _⟩ dX11_isSome_7 (fun hC => ?_)
    refine v_if_eq (tgt := 17) C dX11_isSome_10 (by decide) (fun c3 => ?_) (fun c3 => ?_)
    · have hf := ip hf c3
      refine v_iconst (v := 0) C dX11_isSome_17 (by decide) ?_
      cases hf
      exact kr _ _ dX11_isSome_18 (Or.inl rfl) hC
    · have hf := im hf c3
      refine v_iconst (v := 1) C dX11_isSome_13 (by decide) ?_
      refine v_goto (tgt := 18) C dX11_isSome_14 (by decide) ?_
      cases hf
      exact kr _ _ dX11_isSome_18 (Or.inr rfl) hC
theorem sX11_isSome {l : Launch} {sh : Sh} {G : Hp} {l0 : Nat} {l1 : Int32} {z : Int32} (h_l0 : sh[l0]? = some (0, 11)) (hf : fX11_isSome sh G l0 l1 = some z) : MC l yX11_isSome cX11_isSome 2 (some .boolean) 3 0 0 sh sh G G (fun ad => [.ref (ad l0), .int l1]) (fun _ => some (.int z)) := by
  refine MC_of rfl rfl (fun _ => Nat.le_of_ble_eq_true rfl) (fun E ad C hl hnm hC hQ => ?_)
  exact tX11_isSome C hC h_l0 hf (fun pc lv hd hz hC => v_zret C hQ (fun _ _ => rfl) hC rfl hz hd)
def fX11_goesOver (sh : Sh) (G : Hp) (l0 : Nat) (l1 : Int32) (l2 : Int32) (l3 : Int32) : Option (Int32 × Hp) := (ldA sh G l0 59 1).bind fun a1 => (aI sh G a1 22).bind fun v2 => (ldA sh G l0 25 1).bind fun a3 => (aI sh G a3 (((7 : Int32) * (G.1 l0 18)) + l2)).bind fun v4 => (asI sh G a1 22 (v2 + v4)).bind fun G5 => (ldA sh G5 l0 59 1).bind fun a6 => (aI sh G5 a6 25).bind fun v7 => (asI sh G5 a6 25 (v7 &&& (((1 : Int32) <<< (l2 &&& 31)) ^^^ (-1)))).bind fun G8 => (ldA sh G8 l0 59 1).bind fun a9 => (asI sh G8 a9 ((4 : Int32) + l1) 1).bind fun G10 => (fX11_hasSoul l3).bind fun r11 => if r11 = 0 then (ldA sh G10 l0 59 1).bind fun a13 => (aI sh G10 a13 24).bind fun v14 => (asI sh G10 a13 24 (v14 + 1)).bind fun G15 => (ldA sh G15 l0 59 1).bind fun a16 => (aI sh G15 a16 l1).bind fun v17 => (asI sh G15 a16 l1 (v17 - 1)).bind fun G18 => (ldA sh G18 l0 59 1).bind fun a19 => (aI sh G18 a19 l1).bind fun v20 => if v20 = 0 then (ldA sh G18 l0 59 1).bind fun a24 => (asI sh G18 a24 ((4 : Int32) + l1) 2).bind fun G25 => (fX11_learns sh G25 l0 l3).bind fun G27 => some (2, G27) else (fX11_learns sh G18 l0 l3).bind fun G23 => some (2, G23) else some (1, G10)
set_option maxHeartbeats 4000000 in
theorem tX11_goesOver {E : EX} {ad : Nat → Nat} {sh : Sh} {G : Hp} {l0 : Nat} {l1 : Int32} {l2 : Int32} {l3 : Int32} {z : Int32 × Hp} (C : Cx E RX11 cX11_goesOver 4 (some .int) 2 0 0) (hC : Cl sh G) (h_l0 : sh[l0]? = some (0, 11)) (hf : fX11_goesOver sh G l0 l1 l2 l3 = some z) (kr : RCi E cX11_goesOver ad sh (z.1) (z.2)) : VV E 0 0 (wq (xT E) ad G sh) 0 [(0, .ref (ad l0)), (1, .int l1), (2, .int l2), (3, .int l3)] [] := by
  unfold fX11_goesOver at hf
  refine v_aload_n C 0 dX11_goesOver_0 rfl rfl ?_
  obtain ⟨a1, qa1, hf⟩ := bn hf
  refine v_getA C h_l0 fl_X11_137 qa1 dX11_goesOver_1 (fun h_a1 => ?_)
  refine v_bipush (v := 22) C dX11_goesOver_4 (by decide) ?_
  refine v_dup2 C dX11_goesOver_6 rfl rfl ?_
  obtain ⟨v2, qv2, hf⟩ := bn hf
  refine v_iald C h_a1 qv2 dX11_goesOver_7 ?_
  refine v_aload_n C 0 dX11_goesOver_8 rfl rfl ?_
  obtain ⟨a3, qa3, hf⟩ := bn hf
  refine v_getA C h_l0 fl_X11_52 qa3 dX11_goesOver_9 (fun h_a3 => ?_)
  refine v_bipush (v := 7) C dX11_goesOver_12 (by decide) ?_
  refine v_aload_n C 0 dX11_goesOver_14 rfl rfl ?_
  refine v_getI C h_l0 fl_X11_257 dX11_goesOver_15 ?_
  refine v_imul C dX11_goesOver_18 ?_
  refine v_iload_n C 2 dX11_goesOver_19 rfl rfl ?_
  refine v_iadd C dX11_goesOver_20 ?_
  obtain ⟨v4, qv4, hf⟩ := bn hf
  refine v_iald C h_a3 qv4 dX11_goesOver_21 ?_
  refine v_iadd C dX11_goesOver_22 ?_
  obtain ⟨G5, qG5, hf⟩ := bn hf
  refine v_iast C h_a1 qG5 hC dX11_goesOver_23 (fun hC => ?_)
  refine v_aload_n C 0 dX11_goesOver_24 rfl rfl ?_
  obtain ⟨a6, qa6, hf⟩ := bn hf
  refine v_getA C h_l0 fl_X11_137 qa6 dX11_goesOver_25 (fun h_a6 => ?_)
  refine v_bipush (v := 25) C dX11_goesOver_28 (by decide) ?_
  refine v_dup2 C dX11_goesOver_30 rfl rfl ?_
  obtain ⟨v7, qv7, hf⟩ := bn hf
  refine v_iald C h_a6 qv7 dX11_goesOver_31 ?_
  refine v_iconst (v := 1) C dX11_goesOver_32 (by decide) ?_
  refine v_iload_n C 2 dX11_goesOver_33 rfl rfl ?_
  refine v_ishl C dX11_goesOver_34 ?_
  refine v_iconst (v := (-1)) C dX11_goesOver_35 (by decide) ?_
  refine v_ixor C dX11_goesOver_36 ?_
  refine v_iand C dX11_goesOver_37 ?_
  obtain ⟨G8, qG8, hf⟩ := bn hf
  refine v_iast C h_a6 qG8 hC dX11_goesOver_38 (fun hC => ?_)
  refine v_aload_n C 0 dX11_goesOver_39 rfl rfl ?_
  obtain ⟨a9, qa9, hf⟩ := bn hf
  refine v_getA C h_l0 fl_X11_137 qa9 dX11_goesOver_40 (fun h_a9 => ?_)
  refine v_iconst (v := 4) C dX11_goesOver_43 (by decide) ?_
  refine v_iload_n C 1 dX11_goesOver_44 rfl rfl ?_
  refine v_iadd C dX11_goesOver_45 ?_
  refine v_iconst (v := 1) C dX11_goesOver_46 (by decide) ?_
  obtain ⟨G10, qG10, hf⟩ := bn hf
  refine v_iast C h_a9 qG10 hC dX11_goesOver_47 (fun hC => ?_)
  refine v_iload_n C 3 dX11_goesOver_48 rfl rfl ?_
  obtain ⟨r11, qr11, hf⟩ := bn hf
  refine v_callSi (As := [.int l3]) (rest := []) C (sX11_hasSoul  qr11) cs_X11_443 (by decide) hC rfl rfl rfl (Nat.le_of_ble_eq_true rfl) ⟨Nat.le_refl _, Nat.le_refl _⟩ dX11_goesOver_49 (fun hC => ?_)
  refine v_if_eq (tgt := 57) C dX11_goesOver_52 (by decide) (fun c12 => ?_) (fun c12 => ?_)
  · have hf := ip hf c12
    refine v_aload_n C 0 dX11_goesOver_57 rfl rfl ?_
    obtain ⟨a13, qa13, hf⟩ := bn hf
    refine v_getA C h_l0 fl_X11_137 qa13 dX11_goesOver_58 (fun h_a13 => ?_)
    refine v_bipush (v := 24) C dX11_goesOver_61 (by decide) ?_
    refine v_dup2 C dX11_goesOver_63 rfl rfl ?_
    obtain ⟨v14, qv14, hf⟩ := bn hf
    refine v_iald C h_a13 qv14 dX11_goesOver_64 ?_
    refine v_iconst (v := 1) C dX11_goesOver_65 (by decide) ?_
    refine v_iadd C dX11_goesOver_66 ?_
    obtain ⟨G15, qG15, hf⟩ := bn hf
    refine v_iast C h_a13 qG15 hC dX11_goesOver_67 (fun hC => ?_)
    refine v_aload_n C 0 dX11_goesOver_68 rfl rfl ?_
    obtain ⟨a16, qa16, hf⟩ := bn hf
    refine v_getA C h_l0 fl_X11_137 qa16 dX11_goesOver_69 (fun h_a16 => ?_)
    refine v_iload_n C 1 dX11_goesOver_72 rfl rfl ?_
    refine v_dup2 C dX11_goesOver_73 rfl rfl ?_
    obtain ⟨v17, qv17, hf⟩ := bn hf
    refine v_iald C h_a16 qv17 dX11_goesOver_74 ?_
    refine v_iconst (v := 1) C dX11_goesOver_75 (by decide) ?_
    refine v_isub C dX11_goesOver_76 ?_
    obtain ⟨G18, qG18, hf⟩ := bn hf
    refine v_iast C h_a16 qG18 hC dX11_goesOver_77 (fun hC => ?_)
    refine v_aload_n C 0 dX11_goesOver_78 rfl rfl ?_
    obtain ⟨a19, qa19, hf⟩ := bn hf
    refine v_getA C h_l0 fl_X11_137 qa19 dX11_goesOver_79 (fun h_a19 => ?_)
    refine v_iload_n C 1 dX11_goesOver_82 rfl rfl ?_
    obtain ⟨v20, qv20, hf⟩ := bn hf
    refine v_iald C h_a19 qv20 dX11_goesOver_83 ?_
    refine v_if_ne (tgt := 96) C dX11_goesOver_84 (by decide) (fun c21 => ?_) (fun c21 => ?_)
    · have hf := im hf c21
      refine v_aload_n C 0 dX11_goesOver_96 rfl rfl ?_
      refine v_iload_n C 3 dX11_goesOver_97 rfl rfl ?_
      obtain ⟨G23, qr22, hf⟩ := bn hf
      refine v_callVv (As := [.int l3]) (rest := []) C (sX11_learns h_l0 qr22) cs_X11_446 (by decide) h_l0 rfl hC rfl rfl rfl (Nat.le_of_ble_eq_true rfl) ⟨Nat.le_refl _, Nat.le_refl _⟩ dX11_goesOver_98 (fun hC => ?_)
      refine v_iconst (v := 2) C dX11_goesOver_101 (by decide) ?_
      cases hf
      exact kr _ _ dX11_goesOver_102 hC
    · have hf := ip hf c21
      refine v_aload_n C 0 dX11_goesOver_87 rfl rfl ?_
      obtain ⟨a24, qa24, hf⟩ := bn hf
      refine v_getA C h_l0 fl_X11_137 qa24 dX11_goesOver_88 (fun h_a24 => ?_)
      refine v_iconst (v := 4) C dX11_goesOver_91 (by decide) ?_
      refine v_iload_n C 1 dX11_goesOver_92 rfl rfl ?_
      refine v_iadd C dX11_goesOver_93 ?_
      refine v_iconst (v := 2) C dX11_goesOver_94 (by decide) ?_
      obtain ⟨G25, qG25, hf⟩ := bn hf
      refine v_iast C h_a24 qG25 hC dX11_goesOver_95 (fun hC => ?_)
      refine v_aload_n C 0 dX11_goesOver_96 rfl rfl ?_
      refine v_iload_n C 3 dX11_goesOver_97 rfl rfl ?_
      obtain ⟨G27, qr26, hf⟩ := bn hf
      refine v_callVv (As := [.int l3]) (rest := []) C (sX11_learns h_l0 qr26) cs_X11_446 (by decide) h_l0 rfl hC rfl rfl rfl (Nat.le_of_ble_eq_true rfl) ⟨Nat.le_refl _, Nat.le_refl _⟩ dX11_goesOver_98 (fun hC => ?_)
      refine v_iconst (v := 2) C dX11_goesOver_101 (by decide) ?_
      cases hf
      exact kr _ _ dX11_goesOver_102 hC
  · have hf := im hf c12
    refine v_iconst (v := 1) C dX11_goesOver_55 (by decide) ?_
    cases hf
    exact kr _ _ dX11_goesOver_56 hC
theorem sX11_goesOver {l : Launch} {sh : Sh} {G : Hp} {l0 : Nat} {l1 : Int32} {l2 : Int32} {l3 : Int32} {z : Int32 × Hp} (h_l0 : sh[l0]? = some (0, 11)) (hf : fX11_goesOver sh G l0 l1 l2 l3 = some z) : MC l yX11_goesOver cX11_goesOver 4 (some .int) 2 0 0 sh sh G (z.2) (fun ad => [.ref (ad l0), .int l1, .int l2, .int l3]) (fun _ => some (.int z.1)) := by
  refine MC_of rfl rfl (fun _ => Nat.le_of_ble_eq_true rfl) (fun E ad C hl hnm hC hQ => ?_)
  exact tX11_goesOver C hC h_l0 hf (fun pc lv hd hC => v_iret C hQ (fun _ _ => rfl) hC rfl hd)
def fX11_send (sh : Sh) (G : Hp) (l0 : Nat) (l1 : Int32) (l2 : Int32) (l3 : Int32) : Option (Int32 × Hp) := (fX11_isBridge sh G l0 l1).bind fun r1 => if r1 = 0 then some ((-1), G) else (fX11_isBeing sh G l0 l2).bind fun r3 => if r3 = 0 then some ((-1), G) else (fX11_isSome sh G l0 l3).bind fun r5 => if r5 = 0 then some ((-1), G) else (fX11_copies sh G l0).bind fun G8 => (ldA sh G8 l0 59 1).bind fun a9 => (aI sh G8 a9 ((4 : Int32) + l1)).bind fun v10 => if v10 = 0 then (ldA sh G8 l0 59 1).bind fun a12 => (aI sh G8 a12 25).bind fun v13 => if ((v13 >>> (l2 &&& 31)) &&& 1) = 0 then some ((-2), G8) else (fX11_setOf sh G8 l0 l2 l3).bind fun r15 => (ldA sh G8 l0 59 1).bind fun a16 => (aI sh G8 a16 22).bind fun v17 => (fX11_costBy sh G8 l0 l3).bind fun r18 => (asI sh G8 a16 22 (v17 + r18)).bind fun G19 => bp (fX11_isTaken sh G19 l0 l1 r15) fun r20 G21 => if r20 = 0 then (fX11_records sh G21 l0).bind fun G24 => some (0, G24) else bp (fX11_goesOver sh G21 l0 l1 l2 r15) fun r25 G26 => (fX11_records sh G26 l0).bind fun G28 => some (r25, G28) else some ((-2), G8)
set_option maxHeartbeats 4000000 in
theorem tX11_send {E : EX} {ad : Nat → Nat} {sh : Sh} {G : Hp} {l0 : Nat} {l1 : Int32} {l2 : Int32} {l3 : Int32} {z : Int32 × Hp} (C : Cx E RX11 cX11_send 6 (some .int) 4 0 0) (hC : Cl sh G) (h_l0 : sh[l0]? = some (0, 11)) (hf : fX11_send sh G l0 l1 l2 l3 = some z) (kr : RCi E cX11_send ad sh (z.1) (z.2)) : VV E 0 0 (wq (xT E) ad G sh) 0 [(0, .ref (ad l0)), (1, .int l1), (2, .int l2), (3, .int l3)] [] := by
  unfold fX11_send at hf
  refine v_aload_n C 0 dX11_send_0 rfl rfl ?_
  refine v_iload_n C 1 dX11_send_1 rfl rfl ?_
  obtain ⟨r1, qr1, hf⟩ := bn hf
  refine v_callVi (As := [.int l1]) (rest := []) C (sX11_isBridge h_l0 qr1) cs_X11_431 (by decide) h_l0 rfl hC rfl rfl rfl (Nat.le_of_ble_eq_true rfl) ⟨Nat.le_refl _, Nat.le_refl _⟩ dX11_send_2 (fun hC => ?_)
  refine v_if_eq (tgt := 24) C dX11_send_5 (by decide) (fun c2 => ?_) (fun c2 => ?_)
  · have hf := ip hf c2
    refine v_iconst (v := (-1)) C dX11_send_24 (by decide) ?_
    cases hf
    exact kr _ _ dX11_send_25 hC
  · have hf := im hf c2
    refine v_aload_n C 0 dX11_send_8 rfl rfl ?_
    refine v_iload_n C 2 dX11_send_9 rfl rfl ?_
    obtain ⟨r3, qr3, hf⟩ := bn hf
    refine v_callVi (As := [.int l2]) (rest := []) C (sX11_isBeing h_l0 qr3) cs_X11_419 (by decide) h_l0 rfl hC rfl rfl rfl (Nat.le_of_ble_eq_true rfl) ⟨Nat.le_refl _, Nat.le_refl _⟩ dX11_send_10 (fun hC => ?_)
    refine v_if_eq (tgt := 24) C dX11_send_13 (by decide) (fun c4 => ?_) (fun c4 => ?_)
    · have hf := ip hf c4
      refine v_iconst (v := (-1)) C dX11_send_24 (by decide) ?_
      cases hf
      exact kr _ _ dX11_send_25 hC
    · have hf := im hf c4
      refine v_aload_n C 0 dX11_send_16 rfl rfl ?_
      refine v_iload_n C 3 dX11_send_17 rfl rfl ?_
      obtain ⟨r5, qr5, hf⟩ := bn hf
      refine v_callVi (As := [.int l3]) (rest := []) C (sX11_isSome h_l0 qr5) cs_X11_425 (by decide) h_l0 rfl hC rfl rfl rfl (Nat.le_of_ble_eq_true rfl) ⟨Nat.le_refl _, Nat.le_refl _⟩ dX11_send_18 (fun hC => ?_)
      refine v_if_ne (tgt := 26) C dX11_send_21 (by decide) (fun c6 => ?_) (fun c6 => ?_)
      · have hf := im hf c6
        refine v_aload_n C 0 dX11_send_26 rfl rfl ?_
        obtain ⟨G8, qr7, hf⟩ := bn hf
        refine v_callVv (As := []) (rest := []) C (sX11_copies h_l0 qr7) cs_X11_434 (by decide) h_l0 rfl hC rfl rfl rfl (Nat.le_of_ble_eq_true rfl) ⟨Nat.le_refl _, Nat.le_refl _⟩ dX11_send_27 (fun hC => ?_)
        refine v_aload_n C 0 dX11_send_30 rfl rfl ?_
        obtain ⟨a9, qa9, hf⟩ := bn hf
        refine v_getA C h_l0 fl_X11_137 qa9 dX11_send_31 (fun h_a9 => ?_)
        refine v_iconst (v := 4) C dX11_send_34 (by decide) ?_
        refine v_iload_n C 1 dX11_send_35 rfl rfl ?_
        refine v_iadd C dX11_send_36 ?_
        obtain ⟨v10, qv10, hf⟩ := bn hf
        refine v_iald C h_a9 qv10 dX11_send_37 ?_
        refine v_if_ne (tgt := 55) C dX11_send_38 (by decide) (fun c11 => ?_) (fun c11 => ?_)
        · have hf := im hf c11
          refine v_bipush (v := (-2)) C dX11_send_55 (by decide) ?_
          cases hf
          exact kr _ _ dX11_send_57 hC
        · have hf := ip hf c11
          refine v_aload_n C 0 dX11_send_41 rfl rfl ?_
          obtain ⟨a12, qa12, hf⟩ := bn hf
          refine v_getA C h_l0 fl_X11_137 qa12 dX11_send_42 (fun h_a12 => ?_)
          refine v_bipush (v := 25) C dX11_send_45 (by decide) ?_
          obtain ⟨v13, qv13, hf⟩ := bn hf
          refine v_iald C h_a12 qv13 dX11_send_47 ?_
          refine v_iload_n C 2 dX11_send_48 rfl rfl ?_
          refine v_ishr C dX11_send_49 ?_
          refine v_iconst (v := 1) C dX11_send_50 (by decide) ?_
          refine v_iand C dX11_send_51 ?_
          refine v_if_ne (tgt := 58) C dX11_send_52 (by decide) (fun c14 => ?_) (fun c14 => ?_)
          · have hf := im hf c14
            refine v_aload_n C 0 dX11_send_58 rfl rfl ?_
            refine v_iload_n C 2 dX11_send_59 rfl rfl ?_
            refine v_iload_n C 3 dX11_send_60 rfl rfl ?_
            obtain ⟨r15, qr15, hf⟩ := bn hf
            refine v_callVi (As := [.int l2, .int l3]) (rest := []) C (sX11_setOf h_l0 qr15) cs_X11_428 (by decide) h_l0 rfl hC rfl rfl rfl (Nat.le_of_ble_eq_true rfl) ⟨Nat.le_refl _, Nat.le_refl _⟩ dX11_send_61 (fun hC => ?_)
            refine v_istore (lv2 := [(4, .int r15), (0, .ref (ad l0)), (1, .int l1), (2, .int l2), (3, .int l3)]) C dX11_send_64 (by decide) rfl ?_
            refine v_aload_n C 1 dX11_send_66 rfl rfl ?_
            obtain ⟨a16, qa16, hf⟩ := bn hf
            refine v_getA C h_l0 fl_X11_137 qa16 dX11_send_67 (fun h_a16 => ?_)
            refine v_bipush (v := 22) C dX11_send_70 (by decide) ?_
            refine v_dup2 C dX11_send_72 rfl rfl ?_
            obtain ⟨v17, qv17, hf⟩ := bn hf
            refine v_iald C h_a16 qv17 dX11_send_73 ?_
            refine v_aload_n C 1 dX11_send_74 rfl rfl ?_
            refine v_iload_n C 4 dX11_send_75 rfl rfl ?_
            obtain ⟨r18, qr18, hf⟩ := bn hf
            refine v_callVi (As := [.int l3]) (rest := [.int v17, .int 22, .ref (ad a16)]) C (sX11_costBy h_l0 qr18) cs_X11_449 (by decide) h_l0 rfl hC rfl rfl rfl (Nat.le_of_ble_eq_true rfl) ⟨Nat.le_refl _, Nat.le_refl _⟩ dX11_send_76 (fun hC => ?_)
            refine v_iadd C dX11_send_79 ?_
            obtain ⟨G19, qG19, hf⟩ := bn hf
            refine v_iast C h_a16 qG19 hC dX11_send_80 (fun hC => ?_)
            refine v_aload_n C 1 dX11_send_81 rfl rfl ?_
            refine v_iload_n C 2 dX11_send_82 rfl rfl ?_
            refine v_iload C 0 dX11_send_83 rfl ?_
            obtain ⟨r20, G21, qr20, hf⟩ := bpn hf
            refine v_callVi (As := [.int l1, .int r15]) (rest := []) C (sX11_isTaken h_l0 qr20) cs_X11_452 (by decide) h_l0 rfl hC rfl rfl rfl (Nat.le_of_ble_eq_true rfl) ⟨Nat.le_refl _, Nat.le_refl _⟩ dX11_send_85 (fun hC => ?_)
            refine v_if_eq (tgt := 102) C dX11_send_88 (by decide) (fun c22 => ?_) (fun c22 => ?_)
            · have hf := ip hf c22
              refine v_iconst (v := 0) C dX11_send_102 (by decide) ?_
              refine v_istore (lv2 := [(5, .int 0), (4, .int r15), (0, .ref (ad l0)), (1, .int l1), (2, .int l2), (3, .int l3)]) C dX11_send_103 (by decide) rfl ?_
              refine v_aload_n C 2 dX11_send_105 rfl rfl ?_
              obtain ⟨G24, qr23, hf⟩ := bn hf
              refine v_callVv (As := []) (rest := []) C (sX11_records h_l0 qr23) cs_X11_458 (by decide) h_l0 rfl hC rfl rfl rfl (Nat.le_of_ble_eq_true rfl) ⟨Nat.le_refl _, Nat.le_refl _⟩ dX11_send_106 (fun hC => ?_)
              refine v_iload C 0 dX11_send_109 rfl ?_
              cases hf
              exact kr _ _ dX11_send_111 hC
            · have hf := im hf c22
              refine v_aload_n C 1 dX11_send_91 rfl rfl ?_
              refine v_iload_n C 2 dX11_send_92 rfl rfl ?_
              refine v_iload_n C 3 dX11_send_93 rfl rfl ?_
              refine v_iload C 0 dX11_send_94 rfl ?_
              obtain ⟨r25, G26, qr25, hf⟩ := bpn hf
              refine v_callVi (As := [.int l1, .int l2, .int r15]) (rest := []) C (sX11_goesOver h_l0 qr25) cs_X11_455 (by decide) h_l0 rfl hC rfl rfl rfl (Nat.le_of_ble_eq_true rfl) ⟨Nat.le_refl _, Nat.le_refl _⟩ dX11_send_96 (fun hC => ?_)
              refine v_goto (tgt := 103) C dX11_send_99 (by decide) ?_
              refine v_istore (lv2 := [(5, .int r25), (4, .int r15), (0, .ref (ad l0)), (1, .int l1), (2, .int l2), (3, .int l3)]) C dX11_send_103 (by decide) rfl ?_
              refine v_aload_n C 2 dX11_send_105 rfl rfl ?_
              obtain ⟨G28, qr27, hf⟩ := bn hf
              refine v_callVv (As := []) (rest := []) C (sX11_records h_l0 qr27) cs_X11_458 (by decide) h_l0 rfl hC rfl rfl rfl (Nat.le_of_ble_eq_true rfl) ⟨Nat.le_refl _, Nat.le_refl _⟩ dX11_send_106 (fun hC => ?_)
              refine v_iload C 0 dX11_send_109 rfl ?_
              cases hf
              exact kr _ _ dX11_send_111 hC
          · have hf := ip hf c14
            refine v_bipush (v := (-2)) C dX11_send_55 (by decide) ?_
            cases hf
            exact kr _ _ dX11_send_57 hC
      · have hf := ip hf c6
        refine v_iconst (v := (-1)) C dX11_send_24 (by decide) ?_
        cases hf
        exact kr _ _ dX11_send_25 hC
theorem sX11_send {l : Launch} {sh : Sh} {G : Hp} {l0 : Nat} {l1 : Int32} {l2 : Int32} {l3 : Int32} {z : Int32 × Hp} (h_l0 : sh[l0]? = some (0, 11)) (hf : fX11_send sh G l0 l1 l2 l3 = some z) : MC l yX11_send cX11_send 6 (some .int) 4 0 0 sh sh G (z.2) (fun ad => [.ref (ad l0), .int l1, .int l2, .int l3]) (fun _ => some (.int z.1)) := by
  refine MC_of rfl rfl (fun _ => Nat.le_of_ble_eq_true rfl) (fun E ad C hl hnm hC hQ => ?_)
  exact tX11_send C hC h_l0 hf (fun pc lv hd hC => v_iret C hQ (fun _ _ => rfl) hC rfl hd)
def fX11_set (sh : Sh) (G : Hp) (l0 : Nat) (l1 : Int32) (l2 : Int32) : Option (Int32) := (fX11_isBeing sh G l0 l1).bind fun r1 => if r1 = 0 then some (-1) else (fX11_isSome sh G l0 l2).bind fun r3 => if r3 = 0 then some (-1) else (fX11_setOf sh G l0 l1 l2).bind fun r5 => some r5
set_option maxHeartbeats 4000000 in
theorem tX11_set {E : EX} {ad : Nat → Nat} {sh : Sh} {G : Hp} {l0 : Nat} {l1 : Int32} {l2 : Int32} {z : Int32} (C : Cx E RX11 cX11_set 3 (some .int) 4 0 0) (hC : Cl sh G) (h_l0 : sh[l0]? = some (0, 11)) (hf : fX11_set sh G l0 l1 l2 = some z) (kr : RCi E cX11_set ad sh z G) : VV E 0 0 (wq (xT E) ad G sh) 0 [(0, .ref (ad l0)), (1, .int l1), (2, .int l2)] [] := by
  unfold fX11_set at hf
  refine v_aload_n C 0 dX11_set_0 rfl rfl ?_
  refine v_iload_n C 1 dX11_set_1 rfl rfl ?_
  obtain ⟨r1, qr1, hf⟩ := bn hf
  refine v_callVi (As := [.int l1]) (rest := []) C (sX11_isBeing h_l0 qr1) cs_X11_419 (by decide) h_l0 rfl hC rfl rfl rfl (Nat.le_of_ble_eq_true rfl) ⟨Nat.le_refl _, Nat.le_refl _⟩ dX11_set_2 (fun hC => ?_)
  refine v_if_eq (tgt := 25) C dX11_set_5 (by decide) (fun c2 => ?_) (fun c2 => ?_)
  · have hf := ip hf c2
    refine v_iconst (v := (-1)) C dX11_set_25 (by decide) ?_
    cases hf
    exact kr _ _ dX11_set_26 hC
  · have hf := im hf c2
    refine v_aload_n C 0 dX11_set_8 rfl rfl ?_
    refine v_iload_n C 2 dX11_set_9 rfl rfl ?_
    obtain ⟨r3, qr3, hf⟩ := bn hf
    refine v_callVi (As := [.int l2]) (rest := []) C (sX11_isSome h_l0 qr3) cs_X11_425 (by decide) h_l0 rfl hC rfl rfl rfl (Nat.le_of_ble_eq_true rfl) ⟨Nat.le_refl _, Nat.le_refl _⟩ dX11_set_10 (fun hC => ?_)
    refine v_if_eq (tgt := 25) C dX11_set_13 (by decide) (fun c4 => ?_) (fun c4 => ?_)
    · have hf := ip hf c4
      refine v_iconst (v := (-1)) C dX11_set_25 (by decide) ?_
      cases hf
      exact kr _ _ dX11_set_26 hC
    · have hf := im hf c4
      refine v_aload_n C 0 dX11_set_16 rfl rfl ?_
      refine v_iload_n C 1 dX11_set_17 rfl rfl ?_
      refine v_iload_n C 2 dX11_set_18 rfl rfl ?_
      obtain ⟨r5, qr5, hf⟩ := bn hf
      refine v_callVi (As := [.int l1, .int l2]) (rest := []) C (sX11_setOf h_l0 qr5) cs_X11_428 (by decide) h_l0 rfl hC rfl rfl rfl (Nat.le_of_ble_eq_true rfl) ⟨Nat.le_refl _, Nat.le_refl _⟩ dX11_set_19 (fun hC => ?_)
      refine v_goto (tgt := 26) C dX11_set_22 (by decide) ?_
      cases hf
      exact kr _ _ dX11_set_26 hC
theorem sX11_set {l : Launch} {sh : Sh} {G : Hp} {l0 : Nat} {l1 : Int32} {l2 : Int32} {z : Int32} (h_l0 : sh[l0]? = some (0, 11)) (hf : fX11_set sh G l0 l1 l2 = some z) : MC l yX11_set cX11_set 3 (some .int) 4 0 0 sh sh G G (fun ad => [.ref (ad l0), .int l1, .int l2]) (fun _ => some (.int z)) := by
  refine MC_of rfl rfl (fun _ => Nat.le_of_ble_eq_true rfl) (fun E ad C hl hnm hC hQ => ?_)
  exact tX11_set C hC h_l0 hf (fun pc lv hd hC => v_iret C hQ (fun _ _ => rfl) hC rfl hd)
def fX11_ithOf_S5 (l1 : Int32) (l2 : Int32) (l3 : Int32) (l4 : Int32) : Option ((Int32 × Int32) ⊕ ((Unit) ⊕ (Int32))) := if 8 ≤ l4 then some (.inr (.inl ())) else if ((l1 >>> (l4 &&& 31)) &&& 1) = 0 then bd ((l4 + 1) : Int32) fun x6 => some (.inl (l3, x6)) else if l3 = l2 then some (.inr (.inr l4)) else bd ((l3 + 1) : Int32) fun x4 => bd ((l4 + 1) : Int32) fun x5 => some (.inl (x4, x5))
set_option maxHeartbeats 4000000 in
theorem tX11_ithOf_S5 {E : EX} {ad : Nat → Nat} {sh : Sh} {G : Hp} {l1 : Int32} {l2 : Int32} {l3 : Int32} {l4 : Int32} {o : (Int32 × Int32) ⊕ ((Unit) ⊕ (Int32))} (C : Cx E RX11 cX11_ithOf 5 (some .int) 1 0 0) (hC : Cl sh G) (hf : fX11_ithOf_S5 l1 l2 l3 l4 = some o) (kb : ∀ (b_l3 : Int32) (b_l4 : Int32), o = .inl (b_l3, b_l4) → VV E 0 0 (wq (xT E) ad G sh) 5 [(1, .int l1), (2, .int l2), (3, .int b_l3), (4, .int b_l4)] []) (kx41 : o = .inr (.inl ()) → VV E 0 0 (wq (xT E) ad G sh) 41 [(1, .int l1), (2, .int l2)] []) (kx29 : ∀ (b_l4 : Int32), o = .inr (.inr b_l4) → VV E 0 0 (wq (xT E) ad G sh) 29 [(1, .int l1), (2, .int l2), (4, .int b_l4)] []) : VV E 0 0 (wq (xT E) ad G sh) 5 [(1, .int l1), (2, .int l2), (3, .int l3), (4, .int l4)] [] := by
  unfold fX11_ithOf_S5 at hf
  refine v_iload C 3 dX11_ithOf_5 rfl ?_
  refine v_bipush (v := 8) C dX11_ithOf_7 (by decide) ?_
  refine v_icmp_ge (tgt := 41) C dX11_ithOf_9 (by decide) (fun c1 => ?_) (fun c1 => ?_)
  · have hf := ip hf c1
    cases hf
    refine v_sub [0, 1] rfl ?_
    exact kx41 rfl
  · have hf := im hf c1
    refine v_iload_n C 0 dX11_ithOf_12 rfl rfl ?_
    refine v_iload C 3 dX11_ithOf_13 rfl ?_
    refine v_ishr C dX11_ithOf_15 ?_
    refine v_iconst (v := 1) C dX11_ithOf_16 (by decide) ?_
    refine v_iand C dX11_ithOf_17 ?_
    refine v_if_ne (tgt := 24) C dX11_ithOf_18 (by decide) (fun c2 => ?_) (fun c2 => ?_)
    · have hf := im hf c2
      refine v_iload_n C 2 dX11_ithOf_24 rfl rfl ?_
      refine v_iload_n C 1 dX11_ithOf_25 rfl rfl ?_
      refine v_icmp_ne (tgt := 32) C dX11_ithOf_26 (by decide) (fun c3 => ?_) (fun c3 => ?_)
      · have hf := im hf c3
        obtain ⟨x4, ex4⟩ : ∃ x : Int32, x = (l3 + 1) := ⟨_, rfl⟩
        have hf := bd_at hf ex4
        refine v_iinc (v := x4) (j := 2) (lv2 := [(3, .int x4), (1, .int l1), (2, .int l2), (4, .int l4)]) C dX11_ithOf_32 rfl (by rw [ex4]; rfl) (by decide) rfl ?_
        obtain ⟨x5, ex5⟩ : ∃ x : Int32, x = (l4 + 1) := ⟨_, rfl⟩
        have hf := bd_at hf ex5
        refine v_iinc (v := x5) (j := 3) (lv2 := [(4, .int x5), (3, .int x4), (1, .int l1), (2, .int l2)]) C dX11_ithOf_35 rfl (by rw [ex5]; rfl) (by decide) rfl ?_
        refine v_goto (tgt := 5) C dX11_ithOf_38 (by decide) ?_
        cases hf
        refine v_sub [2, 3, 1, 0] rfl ?_
        exact kb _ _ rfl
      · have hf := ip hf c3
        cases hf
        refine v_sub [0, 1, 3] rfl ?_
        exact kx29 _ rfl
    · have hf := ip hf c2
      refine v_goto (tgt := 35) C dX11_ithOf_21 (by decide) ?_
      obtain ⟨x6, ex6⟩ : ∃ x : Int32, x = (l4 + 1) := ⟨_, rfl⟩
      have hf := bd_at hf ex6
      refine v_iinc (v := x6) (j := 3) (lv2 := [(4, .int x6), (1, .int l1), (2, .int l2), (3, .int l3)]) C dX11_ithOf_35 rfl (by rw [ex6]; rfl) (by decide) rfl ?_
      refine v_goto (tgt := 5) C dX11_ithOf_38 (by decide) ?_
      cases hf
      refine v_sub [1, 2, 3, 0] rfl ?_
      exact kb _ _ rfl
def fX11_ithOf (l0 : Nat) (l1 : Int32) (l2 : Int32) : Option (Int32) := (iter (fun s : Int32 × Int32 => fX11_ithOf_S5 l1 l2  s.1 s.2) fuel ((0, 0) : Int32 × Int32)).bind (Sum.elim (fun _ => some (-1)) (fun u4 => bd u4 fun x3 => some x3))
set_option maxHeartbeats 4000000 in
theorem tX11_ithOf {E : EX} {ad : Nat → Nat} {sh : Sh} {G : Hp} {l0 : Nat} {l1 : Int32} {l2 : Int32} {z : Int32} (C : Cx E RX11 cX11_ithOf 5 (some .int) 1 0 0) (hC : Cl sh G) (h_l0 : sh[l0]? = some (0, 11)) (hf : fX11_ithOf l0 l1 l2 = some z) (kr : RCi E cX11_ithOf ad sh z G) : VV E 0 0 (wq (xT E) ad G sh) 0 [(0, .ref (ad l0)), (1, .int l1), (2, .int l2)] [] := by
  unfold fX11_ithOf at hf
  refine v_iconst (v := 0) C dX11_ithOf_0 (by decide) ?_
  refine v_istore_n (lv2 := [(3, .int 0), (0, .ref (ad l0)), (1, .int l1), (2, .int l2)]) C dX11_ithOf_1 rfl (by decide) rfl ?_
  refine v_iconst (v := 0) C dX11_ithOf_2 (by decide) ?_
  refine v_istore (lv2 := [(4, .int 0), (3, .int 0), (0, .ref (ad l0)), (1, .int l1), (2, .int l2)]) C dX11_ithOf_3 (by decide) rfl ?_
  obtain ⟨r1, qr1, hf⟩ := bn hf
  refine v_sub [3, 4, 1, 0] rfl ?_
  refine iter_sound (P := (fun s : Int32 × Int32 => VV E 0 0 (wq (xT E) ad (G) sh) 5 [(1, .int (l1)), (2, .int (l2)), (3, .int (s.1)), (4, .int (s.2))] [])) (X := fun r => r = r1) (fun jsr1 jor1 hor1 jbr1 jxr1 => tX11_ithOf_S5 C hC hor1 (fun _ _ e => jbr1 _ e) ?_ ?_) fuel _ r1 qr1 rfl
  · intro  hu
    have e := jxr1 _ hu
    subst e
    have hf := sm_l hf
    refine v_iconst (v := (-1)) C dX11_ithOf_41 (by decide) ?_
    cases hf
    exact kr _ _ dX11_ithOf_42 hC
  · intro x3 hu
    have e := jxr1 _ hu
    subst e
    have hf := sm_r hf
    have hf := bd_at hf (rfl : x3 = _)
    refine v_iload C 2 dX11_ithOf_29 rfl ?_
    cases hf
    exact kr _ _ dX11_ithOf_31 hC
theorem sX11_ithOf {l : Launch} {sh : Sh} {G : Hp} {l0 : Nat} {l1 : Int32} {l2 : Int32} {z : Int32} (h_l0 : sh[l0]? = some (0, 11)) (hf : fX11_ithOf l0 l1 l2 = some z) : MC l yX11_ithOf cX11_ithOf 5 (some .int) 1 0 0 sh sh G G (fun ad => [.ref (ad l0), .int l1, .int l2]) (fun _ => some (.int z)) := by
  refine MC_of rfl rfl (fun _ => Nat.le_of_ble_eq_true rfl) (fun E ad C hl hnm hC hQ => ?_)
  exact tX11_ithOf C hC h_l0 hf (fun pc lv hd hC => v_iret C hQ (fun _ _ => rfl) hC rfl hd)
def fX11_isEarlier_S2 (l0 : Nat) (l1 : Int32) (l2 : Int32) (l3 : Int32) : Option ((Int32) ⊕ ((Unit) ⊕ (Int32))) := if 3 ≤ l3 then some (.inr (.inl ())) else (fX11_ithOf l0 l1 l3).bind fun r2 => (fX11_ithOf l0 l2 l3).bind fun r3 => if r2 = r3 then bd ((l3 + 1) : Int32) fun x5 => some (.inl x5) else some (.inr (.inr l3))
set_option maxHeartbeats 4000000 in
theorem tX11_isEarlier_S2 {E : EX} {ad : Nat → Nat} {sh : Sh} {G : Hp} {l0 : Nat} {l1 : Int32} {l2 : Int32} {l3 : Int32} {o : (Int32) ⊕ ((Unit) ⊕ (Int32))} (C : Cx E RX11 cX11_isEarlier 4 (some .boolean) 2 0 0) (hC : Cl sh G) (h_l0 : sh[l0]? = some (0, 11)) (hf : fX11_isEarlier_S2 l0 l1 l2 l3 = some o) (kb : ∀ (b_l3 : Int32), o = .inl b_l3 → VV E 0 0 (wq (xT E) ad G sh) 2 [(0, .ref (ad l0)), (1, .int l1), (2, .int l2), (3, .int b_l3)] []) (kx49 : o = .inr (.inl ()) → VV E 0 0 (wq (xT E) ad G sh) 49 [(0, .ref (ad l0)), (1, .int l1), (2, .int l2)] []) (kx22 : ∀ (b_l3 : Int32), o = .inr (.inr b_l3) → VV E 0 0 (wq (xT E) ad G sh) 22 [(0, .ref (ad l0)), (1, .int l1), (2, .int l2), (3, .int b_l3)] []) : VV E 0 0 (wq (xT E) ad G sh) 2 [(0, .ref (ad l0)), (1, .int l1), (2, .int l2), (3, .int l3)] [] := by
  unfold fX11_isEarlier_S2 at hf
  refine v_iload_n C 3 dX11_isEarlier_2 rfl rfl ?_
  refine v_iconst (v := 3) C dX11_isEarlier_3 (by decide) ?_
  refine v_icmp_ge (tgt := 49) C dX11_isEarlier_4 (by decide) (fun c1 => ?_) (fun c1 => ?_)
  · have hf := ip hf c1
    cases hf
    refine v_sub [0, 1, 2] rfl ?_
    exact kx49 rfl
  · have hf := im hf c1
    refine v_aload_n C 0 dX11_isEarlier_7 rfl rfl ?_
    refine v_iload_n C 1 dX11_isEarlier_8 rfl rfl ?_
    refine v_iload_n C 3 dX11_isEarlier_9 rfl rfl ?_
    obtain ⟨r2, qr2, hf⟩ := bn hf
    refine v_callVi (As := [.int l1, .int l3]) (rest := []) C (sX11_ithOf h_l0 qr2) cs_X11_476 (by decide) h_l0 rfl hC rfl rfl rfl (Nat.le_of_ble_eq_true rfl) ⟨Nat.le_refl _, Nat.le_refl _⟩ dX11_isEarlier_10 (fun hC => ?_)
    refine v_aload_n C 0 dX11_isEarlier_13 rfl rfl ?_
    refine v_iload_n C 2 dX11_isEarlier_14 rfl rfl ?_
    refine v_iload_n C 3 dX11_isEarlier_15 rfl rfl ?_
    obtain ⟨r3, qr3, hf⟩ := bn hf
    refine v_callVi (As := [.int l2, .int l3]) (rest := [.int r2]) C (sX11_ithOf h_l0 qr3) cs_X11_476 (by decide) h_l0 rfl hC rfl rfl rfl (Nat.le_of_ble_eq_true rfl) ⟨Nat.le_refl _, Nat.le_refl _⟩ dX11_isEarlier_16 (fun hC => ?_)
    refine v_icmp_eq (tgt := 43) C dX11_isEarlier_19 (by decide) (fun c4 => ?_) (fun c4 => ?_)
    · have hf := ip hf c4
      obtain ⟨x5, ex5⟩ : ∃ x : Int32, x = (l3 + 1) := ⟨_, rfl⟩
      have hf := bd_at hf ex5
      refine v_iinc (v := x5) (j := 3) (lv2 := [(3, .int x5), (0, .ref (ad l0)), (1, .int l1), (2, .int l2)]) C dX11_isEarlier_43 rfl (by rw [ex5]; rfl) (by decide) rfl ?_
      refine v_goto (tgt := 2) C dX11_isEarlier_46 (by decide) ?_
      cases hf
      refine v_sub [1, 2, 3, 0] rfl ?_
      exact kb _ rfl
    · have hf := im hf c4
      cases hf
      refine v_sub [0, 1, 2, 3] rfl ?_
      exact kx22 _ rfl
def fX11_isEarlier (l0 : Nat) (l1 : Int32) (l2 : Int32) : Option (Int32) := (iter (fun s : Int32 => fX11_isEarlier_S2 l0 l1 l2  s) fuel (0 : Int32)).bind (Sum.elim (fun _ => some 0) (fun u7 => bd u7 fun x3 => (fX11_ithOf l0 l1 x3).bind fun r4 => (fX11_ithOf l0 l2 x3).bind fun r5 => if r5 ≤ r4 then some 0 else some 1))
set_option maxHeartbeats 4000000 in
theorem tX11_isEarlier {E : EX} {ad : Nat → Nat} {sh : Sh} {G : Hp} {l0 : Nat} {l1 : Int32} {l2 : Int32} {z : Int32} (C : Cx E RX11 cX11_isEarlier 4 (some .boolean) 2 0 0) (hC : Cl sh G) (h_l0 : sh[l0]? = some (0, 11)) (hf : fX11_isEarlier l0 l1 l2 = some z) (kr : RCz E cX11_isEarlier ad sh z G) : VV E 0 0 (wq (xT E) ad G sh) 0 [(0, .ref (ad l0)), (1, .int l1), (2, .int l2)] [] := by
  unfold fX11_isEarlier at hf
  refine v_iconst (v := 0) C dX11_isEarlier_0 (by decide) ?_
  refine v_istore_n (lv2 := [(3, .int 0), (0, .ref (ad l0)), (1, .int l1), (2, .int l2)]) C dX11_isEarlier_1 rfl (by decide) rfl ?_
  obtain ⟨r1, qr1, hf⟩ := bn hf
  refine v_sub [1, 2, 3, 0] rfl ?_
  refine iter_sound (P := (fun s : Int32 => VV E 0 0 (wq (xT E) ad (G) sh) 2 [(0, .ref (ad l0)), (1, .int (l1)), (2, .int (l2)), (3, .int (s))] [])) (X := fun r => r = r1) (fun jsr1 jor1 hor1 jbr1 jxr1 => tX11_isEarlier_S2 C hC h_l0 hor1 (fun _ e => jbr1 _ e) ?_ ?_) fuel _ r1 qr1 rfl
  · intro  hu
    have e := jxr1 _ hu
    subst e
    have hf := sm_l hf
    refine v_iconst (v := 0) C dX11_isEarlier_49 (by decide) ?_
    cases hf
    exact kr _ _ dX11_isEarlier_50 (Or.inl rfl) hC
  · intro x3 hu
    have e := jxr1 _ hu
    subst e
    have hf := sm_r hf
    have hf := bd_at hf (rfl : x3 = _)
    refine v_aload_n C 0 dX11_isEarlier_22 rfl rfl ?_
    refine v_iload_n C 1 dX11_isEarlier_23 rfl rfl ?_
    refine v_iload_n C 3 dX11_isEarlier_24 rfl rfl ?_
    obtain ⟨r4, qr4, hf⟩ := bn hf
    refine v_callVi (As := [.int l1, .int x3]) (rest := []) C (sX11_ithOf h_l0 qr4) cs_X11_476 (by decide) h_l0 rfl hC rfl rfl rfl (Nat.le_of_ble_eq_true rfl) ⟨Nat.le_refl _, Nat.le_refl _⟩ dX11_isEarlier_25 (fun hC => ?_)
    refine v_aload_n C 0 dX11_isEarlier_28 rfl rfl ?_
    refine v_iload_n C 2 dX11_isEarlier_29 rfl rfl ?_
    refine v_iload_n C 3 dX11_isEarlier_30 rfl rfl ?_
    obtain ⟨r5, qr5, hf⟩ := bn hf
    refine v_callVi (As := [.int l2, .int x3]) (rest := [.int r4]) C (sX11_ithOf h_l0 qr5) cs_X11_476 (by decide) h_l0 rfl hC rfl rfl rfl (Nat.le_of_ble_eq_true rfl) ⟨Nat.le_refl _, Nat.le_refl _⟩ dX11_isEarlier_31 (fun hC => ?_)
    refine v_icmp_ge (tgt := 41) C dX11_isEarlier_34 (by decide) (fun c6 => ?_) (fun c6 => ?_)
    · have hf := ip hf c6
      refine v_iconst (v := 0) C dX11_isEarlier_41 (by decide) ?_
      cases hf
      exact kr _ _ dX11_isEarlier_42 (Or.inl rfl) hC
    · have hf := im hf c6
      refine v_iconst (v := 1) C dX11_isEarlier_37 (by decide) ?_
      refine v_goto (tgt := 42) C dX11_isEarlier_38 (by decide) ?_
      cases hf
      exact kr _ _ dX11_isEarlier_42 (Or.inr rfl) hC
theorem sX11_isEarlier {l : Launch} {sh : Sh} {G : Hp} {l0 : Nat} {l1 : Int32} {l2 : Int32} {z : Int32} (h_l0 : sh[l0]? = some (0, 11)) (hf : fX11_isEarlier l0 l1 l2 = some z) : MC l yX11_isEarlier cX11_isEarlier 4 (some .boolean) 2 0 0 sh sh G G (fun ad => [.ref (ad l0), .int l1, .int l2]) (fun _ => some (.int z)) := by
  refine MC_of rfl rfl (fun _ => Nat.le_of_ble_eq_true rfl) (fun E ad C hl hnm hC hQ => ?_)
  exact tX11_isEarlier C hC h_l0 hf (fun pc lv hd hz hC => v_zret C hQ (fun _ _ => rfl) hC rfl hz hd)
def fX11_shuts_S29 (sh : Sh) (l0 : Nat) (l2 : Int32) (G : Hp) (l3 : Int32) (l4 : Int32) : Option ((Int32 × Int32) ⊕ ((Int32))) := (ldA sh G l0 23 1).bind fun a1 => (aI sh G a1 (G.1 l0 18)).bind fun v2 => if ((1 : Int32) <<< (v2 &&& 31)) ≤ l4 then some (.inr l3) else (fX11_bits l4).bind fun r4 => if 3 < r4 then bd ((l4 + 1) : Int32) fun x6 => some (.inl (l3, x6)) else (fX11_shutBy sh G l0 l4).bind fun r7 => if (G.1 l0 67) ≤ r7 then if l3 < 0 then bd ((l4 + 1) : Int32) fun x10 => some (.inl (l4, x10)) else (fX11_bits l4).bind fun r11 => (fX11_bits l3).bind fun r12 => if r11 < r12 then bd ((l4 + 1) : Int32) fun x14 => some (.inl (l4, x14)) else (fX11_bits l4).bind fun r15 => (fX11_bits l3).bind fun r16 => if r15 = r16 then (fX11_isEarlier l0 l4 l3).bind fun r19 => if r19 = 0 then bd ((l4 + 1) : Int32) fun x21 => some (.inl (l3, x21)) else bd ((l4 + 1) : Int32) fun x22 => some (.inl (l4, x22)) else bd ((l4 + 1) : Int32) fun x18 => some (.inl (l3, x18)) else bd ((l4 + 1) : Int32) fun x23 => some (.inl (l3, x23))
set_option maxHeartbeats 4000000 in
theorem tX11_shuts_S29 {E : EX} {ad : Nat → Nat} {sh : Sh} {G : Hp} {l0 : Nat} {l2 : Int32} {l3 : Int32} {l4 : Int32} {o : (Int32 × Int32) ⊕ ((Int32))} (C : Cx E RX11 cX11_shuts 5 (some .int) 4 0 0) (hC : Cl sh G) (h_l0 : sh[l0]? = some (0, 11)) (hf : fX11_shuts_S29 sh l0 l2 G l3 l4 = some o) (kb : ∀ (b_l3 : Int32) (b_l4 : Int32), o = .inl (b_l3, b_l4) → VV E 0 0 (wq (xT E) ad G sh) 29 [(0, .ref (ad l0)), (2, .int l2), (3, .int b_l3), (4, .int b_l4)] []) (kx117 : ∀ (b_l3 : Int32), o = .inr b_l3 → VV E 0 0 (wq (xT E) ad G sh) 117 [(0, .ref (ad l0)), (2, .int l2), (3, .int b_l3)] []) : VV E 0 0 (wq (xT E) ad G sh) 29 [(0, .ref (ad l0)), (2, .int l2), (3, .int l3), (4, .int l4)] [] := by
  unfold fX11_shuts_S29 at hf
  refine v_iload C 3 dX11_shuts_29 rfl ?_
  refine v_iconst (v := 1) C dX11_shuts_31 (by decide) ?_
  refine v_aload_n C 0 dX11_shuts_32 rfl rfl ?_
  obtain ⟨a1, qa1, hf⟩ := bn hf
  refine v_getA C h_l0 fl_X11_46 qa1 dX11_shuts_33 (fun h_a1 => ?_)
  refine v_aload_n C 0 dX11_shuts_36 rfl rfl ?_
  refine v_getI C h_l0 fl_X11_257 dX11_shuts_37 ?_
  obtain ⟨v2, qv2, hf⟩ := bn hf
  refine v_iald C h_a1 qv2 dX11_shuts_40 ?_
  refine v_ishl C dX11_shuts_41 ?_
  refine v_icmp_ge (tgt := 117) C dX11_shuts_42 (by decide) (fun c3 => ?_) (fun c3 => ?_)
  · have hf := ip hf c3
    cases hf
    refine v_sub [0, 1, 2] rfl ?_
    exact kx117 _ rfl
  · have hf := im hf c3
    refine v_iload C 3 dX11_shuts_45 rfl ?_
    obtain ⟨r4, qr4, hf⟩ := bn hf
    refine v_callSi (As := [.int l4]) (rest := []) C (sX11_bits  qr4) cs_X11_387 (by decide) hC rfl rfl rfl (Nat.le_of_ble_eq_true rfl) ⟨Nat.le_refl _, Nat.le_refl _⟩ dX11_shuts_47 (fun hC => ?_)
    refine v_iconst (v := 3) C dX11_shuts_50 (by decide) ?_
    refine v_icmp_gt (tgt := 111) C dX11_shuts_51 (by decide) (fun c5 => ?_) (fun c5 => ?_)
    · have hf := ip hf c5
      obtain ⟨x6, ex6⟩ : ∃ x : Int32, x = (l4 + 1) := ⟨_, rfl⟩
      have hf := bd_at hf ex6
      refine v_iinc (v := x6) (j := 3) (lv2 := [(4, .int x6), (0, .ref (ad l0)), (2, .int l2), (3, .int l3)]) C dX11_shuts_111 rfl (by rw [ex6]; rfl) (by decide) rfl ?_
      refine v_goto (tgt := 29) C dX11_shuts_114 (by decide) ?_
      cases hf
      refine v_sub [1, 2, 3, 0] rfl ?_
      exact kb _ _ rfl
    · have hf := im hf c5
      refine v_aload_n C 0 dX11_shuts_54 rfl rfl ?_
      refine v_iload C 3 dX11_shuts_55 rfl ?_
      obtain ⟨r7, qr7, hf⟩ := bn hf
      refine v_callVi (As := [.int l4]) (rest := []) C (sX11_shutBy h_l0 qr7) cs_X11_473 (by decide) h_l0 rfl hC rfl rfl rfl (Nat.le_of_ble_eq_true rfl) ⟨Nat.le_refl _, Nat.le_refl _⟩ dX11_shuts_57 (fun hC => ?_)
      refine v_aload_n C 0 dX11_shuts_60 rfl rfl ?_
      refine v_getI C h_l0 fl_X11_467 dX11_shuts_61 ?_
      refine v_icmp_ge (tgt := 70) C dX11_shuts_64 (by decide) (fun c8 => ?_) (fun c8 => ?_)
      · have hf := ip hf c8
        refine v_iload_n C 2 dX11_shuts_70 rfl rfl ?_
        refine v_if_lt (tgt := 108) C dX11_shuts_71 (by decide) (fun c9 => ?_) (fun c9 => ?_)
        · have hf := ip hf c9
          refine v_iload C 3 dX11_shuts_108 rfl ?_
          refine v_istore_n (lv2 := [(3, .int l4), (0, .ref (ad l0)), (2, .int l2), (4, .int l4)]) C dX11_shuts_110 rfl (by decide) rfl ?_
          obtain ⟨x10, ex10⟩ : ∃ x : Int32, x = (l4 + 1) := ⟨_, rfl⟩
          have hf := bd_at hf ex10
          refine v_iinc (v := x10) (j := 3) (lv2 := [(4, .int x10), (3, .int l4), (0, .ref (ad l0)), (2, .int l2)]) C dX11_shuts_111 rfl (by rw [ex10]; rfl) (by decide) rfl ?_
          refine v_goto (tgt := 29) C dX11_shuts_114 (by decide) ?_
          cases hf
          refine v_sub [2, 3, 1, 0] rfl ?_
          exact kb _ _ rfl
        · have hf := im hf c9
          refine v_iload C 3 dX11_shuts_74 rfl ?_
          obtain ⟨r11, qr11, hf⟩ := bn hf
          refine v_callSi (As := [.int l4]) (rest := []) C (sX11_bits  qr11) cs_X11_387 (by decide) hC rfl rfl rfl (Nat.le_of_ble_eq_true rfl) ⟨Nat.le_refl _, Nat.le_refl _⟩ dX11_shuts_76 (fun hC => ?_)
          refine v_iload_n C 2 dX11_shuts_79 rfl rfl ?_
          obtain ⟨r12, qr12, hf⟩ := bn hf
          refine v_callSi (As := [.int l3]) (rest := [.int r11]) C (sX11_bits  qr12) cs_X11_387 (by decide) hC rfl rfl rfl (Nat.le_of_ble_eq_true rfl) ⟨Nat.le_refl _, Nat.le_refl _⟩ dX11_shuts_80 (fun hC => ?_)
          refine v_icmp_lt (tgt := 108) C dX11_shuts_83 (by decide) (fun c13 => ?_) (fun c13 => ?_)
          · have hf := ip hf c13
            refine v_iload C 3 dX11_shuts_108 rfl ?_
            refine v_istore_n (lv2 := [(3, .int l4), (0, .ref (ad l0)), (2, .int l2), (4, .int l4)]) C dX11_shuts_110 rfl (by decide) rfl ?_
            obtain ⟨x14, ex14⟩ : ∃ x : Int32, x = (l4 + 1) := ⟨_, rfl⟩
            have hf := bd_at hf ex14
            refine v_iinc (v := x14) (j := 3) (lv2 := [(4, .int x14), (3, .int l4), (0, .ref (ad l0)), (2, .int l2)]) C dX11_shuts_111 rfl (by rw [ex14]; rfl) (by decide) rfl ?_
            refine v_goto (tgt := 29) C dX11_shuts_114 (by decide) ?_
            cases hf
            refine v_sub [2, 3, 1, 0] rfl ?_
            exact kb _ _ rfl
          · have hf := im hf c13
            refine v_iload C 3 dX11_shuts_86 rfl ?_
            obtain ⟨r15, qr15, hf⟩ := bn hf
            refine v_callSi (As := [.int l4]) (rest := []) C (sX11_bits  qr15) cs_X11_387 (by decide) hC rfl rfl rfl (Nat.le_of_ble_eq_true rfl) ⟨Nat.le_refl _, Nat.le_refl _⟩ dX11_shuts_88 (fun hC => ?_)
            refine v_iload_n C 2 dX11_shuts_91 rfl rfl ?_
            obtain ⟨r16, qr16, hf⟩ := bn hf
            refine v_callSi (As := [.int l3]) (rest := [.int r15]) C (sX11_bits  qr16) cs_X11_387 (by decide) hC rfl rfl rfl (Nat.le_of_ble_eq_true rfl) ⟨Nat.le_refl _, Nat.le_refl _⟩ dX11_shuts_92 (fun hC => ?_)
            refine v_icmp_ne (tgt := 111) C dX11_shuts_95 (by decide) (fun c17 => ?_) (fun c17 => ?_)
            · have hf := im hf c17
              obtain ⟨x18, ex18⟩ : ∃ x : Int32, x = (l4 + 1) := ⟨_, rfl⟩
              have hf := bd_at hf ex18
              refine v_iinc (v := x18) (j := 3) (lv2 := [(4, .int x18), (0, .ref (ad l0)), (2, .int l2), (3, .int l3)]) C dX11_shuts_111 rfl (by rw [ex18]; rfl) (by decide) rfl ?_
              refine v_goto (tgt := 29) C dX11_shuts_114 (by decide) ?_
              cases hf
              refine v_sub [1, 2, 3, 0] rfl ?_
              exact kb _ _ rfl
            · have hf := ip hf c17
              refine v_aload_n C 0 dX11_shuts_98 rfl rfl ?_
              refine v_iload C 3 dX11_shuts_99 rfl ?_
              refine v_iload_n C 2 dX11_shuts_101 rfl rfl ?_
              obtain ⟨r19, qr19, hf⟩ := bn hf
              refine v_callVi (As := [.int l4, .int l3]) (rest := []) C (sX11_isEarlier h_l0 qr19) cs_X11_479 (by decide) h_l0 rfl hC rfl rfl rfl (Nat.le_of_ble_eq_true rfl) ⟨Nat.le_refl _, Nat.le_refl _⟩ dX11_shuts_102 (fun hC => ?_)
              refine v_if_eq (tgt := 111) C dX11_shuts_105 (by decide) (fun c20 => ?_) (fun c20 => ?_)
              · have hf := ip hf c20
                obtain ⟨x21, ex21⟩ : ∃ x : Int32, x = (l4 + 1) := ⟨_, rfl⟩
                have hf := bd_at hf ex21
                refine v_iinc (v := x21) (j := 3) (lv2 := [(4, .int x21), (0, .ref (ad l0)), (2, .int l2), (3, .int l3)]) C dX11_shuts_111 rfl (by rw [ex21]; rfl) (by decide) rfl ?_
                refine v_goto (tgt := 29) C dX11_shuts_114 (by decide) ?_
                cases hf
                refine v_sub [1, 2, 3, 0] rfl ?_
                exact kb _ _ rfl
              · have hf := im hf c20
                refine v_iload C 3 dX11_shuts_108 rfl ?_
                refine v_istore_n (lv2 := [(3, .int l4), (0, .ref (ad l0)), (2, .int l2), (4, .int l4)]) C dX11_shuts_110 rfl (by decide) rfl ?_
                obtain ⟨x22, ex22⟩ : ∃ x : Int32, x = (l4 + 1) := ⟨_, rfl⟩
                have hf := bd_at hf ex22
                refine v_iinc (v := x22) (j := 3) (lv2 := [(4, .int x22), (3, .int l4), (0, .ref (ad l0)), (2, .int l2)]) C dX11_shuts_111 rfl (by rw [ex22]; rfl) (by decide) rfl ?_
                refine v_goto (tgt := 29) C dX11_shuts_114 (by decide) ?_
                cases hf
                refine v_sub [2, 3, 1, 0] rfl ?_
                exact kb _ _ rfl
      · have hf := im hf c8
        refine v_goto (tgt := 111) C dX11_shuts_67 (by decide) ?_
        obtain ⟨x23, ex23⟩ : ∃ x : Int32, x = (l4 + 1) := ⟨_, rfl⟩
        have hf := bd_at hf ex23
        refine v_iinc (v := x23) (j := 3) (lv2 := [(4, .int x23), (0, .ref (ad l0)), (2, .int l2), (3, .int l3)]) C dX11_shuts_111 rfl (by rw [ex23]; rfl) (by decide) rfl ?_
        refine v_goto (tgt := 29) C dX11_shuts_114 (by decide) ?_
        cases hf
        refine v_sub [1, 2, 3, 0] rfl ?_
        exact kb _ _ rfl
def fX11_shuts (sh : Sh) (G : Hp) (l0 : Nat) (l1 : Int32) (l2 : Int32) : Option (Int32 × Hp) := (fX11_isBridge sh G l0 l1).bind fun r1 => if r1 = 0 then some ((-1), G) else (fX11_in l2 (-1) 2).bind fun r3 => if r3 = 0 then some ((-1), G) else (fX11_fillsCheats sh G l0 l1).bind fun G6 => (iter (fun s : Int32 × Int32 => fX11_shuts_S29 sh l0 l2 G6 s.1 s.2) fuel (((-1), 0) : Int32 × Int32)).bind (fun u13 => bd u13 fun x8 => if 0 ≤ x8 then if l2 = (-1) then (fX11_bits x8).bind fun r12 => some (r12, G6) else (fX11_ithOf l0 x8 l2).bind fun r11 => some (r11, G6) else some ((-2), G6))
set_option maxHeartbeats 4000000 in
theorem tX11_shuts {E : EX} {ad : Nat → Nat} {sh : Sh} {G : Hp} {l0 : Nat} {l1 : Int32} {l2 : Int32} {z : Int32 × Hp} (C : Cx E RX11 cX11_shuts 5 (some .int) 4 0 0) (hC : Cl sh G) (h_l0 : sh[l0]? = some (0, 11)) (hf : fX11_shuts sh G l0 l1 l2 = some z) (kr : RCi E cX11_shuts ad sh (z.1) (z.2)) : VV E 0 0 (wq (xT E) ad G sh) 0 [(0, .ref (ad l0)), (1, .int l1), (2, .int l2)] [] := by
  unfold fX11_shuts at hf
  refine v_aload_n C 0 dX11_shuts_0 rfl rfl ?_
  refine v_iload_n C 1 dX11_shuts_1 rfl rfl ?_
  obtain ⟨r1, qr1, hf⟩ := bn hf
  refine v_callVi (As := [.int l1]) (rest := []) C (sX11_isBridge h_l0 qr1) cs_X11_431 (by decide) h_l0 rfl hC rfl rfl rfl (Nat.le_of_ble_eq_true rfl) ⟨Nat.le_refl _, Nat.le_refl _⟩ dX11_shuts_2 (fun hC => ?_)
  refine v_if_eq (tgt := 17) C dX11_shuts_5 (by decide) (fun c2 => ?_) (fun c2 => ?_)
  · have hf := ip hf c2
    refine v_iconst (v := (-1)) C dX11_shuts_17 (by decide) ?_
    cases hf
    exact kr _ _ dX11_shuts_18 hC
  · have hf := im hf c2
    refine v_iload_n C 2 dX11_shuts_8 rfl rfl ?_
    refine v_iconst (v := (-1)) C dX11_shuts_9 (by decide) ?_
    refine v_iconst (v := 2) C dX11_shuts_10 (by decide) ?_
    obtain ⟨r3, qr3, hf⟩ := bn hf
    refine v_callSi (As := [.int l2, .int (-1), .int 2]) (rest := []) C (sX11_in  qr3) cs_X11_370 (by decide) hC rfl rfl rfl (Nat.le_of_ble_eq_true rfl) ⟨Nat.le_refl _, Nat.le_refl _⟩ dX11_shuts_11 (fun hC => ?_)
    refine v_if_ne (tgt := 19) C dX11_shuts_14 (by decide) (fun c4 => ?_) (fun c4 => ?_)
    · have hf := im hf c4
      refine v_aload_n C 0 dX11_shuts_19 rfl rfl ?_
      refine v_iload_n C 1 dX11_shuts_20 rfl rfl ?_
      obtain ⟨G6, qr5, hf⟩ := bn hf
      refine v_callVv (As := [.int l1]) (rest := []) C (sX11_fillsCheats h_l0 qr5) cs_X11_470 (by decide) h_l0 rfl hC rfl rfl rfl (Nat.le_of_ble_eq_true rfl) ⟨Nat.le_refl _, Nat.le_refl _⟩ dX11_shuts_21 (fun hC => ?_)
      refine v_iconst (v := (-1)) C dX11_shuts_24 (by decide) ?_
      refine v_istore_n (lv2 := [(3, .int (-1)), (0, .ref (ad l0)), (1, .int l1), (2, .int l2)]) C dX11_shuts_25 rfl (by decide) rfl ?_
      refine v_iconst (v := 0) C dX11_shuts_26 (by decide) ?_
      refine v_istore (lv2 := [(4, .int 0), (3, .int (-1)), (0, .ref (ad l0)), (1, .int l1), (2, .int l2)]) C dX11_shuts_27 (by decide) rfl ?_
      obtain ⟨r7, qr7, hf⟩ := bn hf
      refine v_sub [2, 4, 1, 0] rfl ?_
      refine iter_sound (P := (fun s : Int32 × Int32 => VV E 0 0 (wq (xT E) ad (G6) sh) 29 [(0, .ref (ad l0)), (2, .int (l2)), (3, .int (s.1)), (4, .int (s.2))] [])) (X := fun r => r = r7) (fun jsr7 jor7 hor7 jbr7 jxr7 => tX11_shuts_S29 C hC h_l0 hor7 (fun _ _ e => jbr7 _ e) ?_) fuel _ r7 qr7 rfl
      · intro x8 hu
        have e := jxr7 _ hu
        subst e
        have hf := bd_at hf (rfl : x8 = _)
        refine v_iload_n C 2 dX11_shuts_117 rfl rfl ?_
        refine v_if_ge (tgt := 124) C dX11_shuts_118 (by decide) (fun c9 => ?_) (fun c9 => ?_)
        · have hf := ip hf c9
          refine v_iload_n C 1 dX11_shuts_124 rfl rfl ?_
          refine v_iconst (v := (-1)) C dX11_shuts_125 (by decide) ?_
          refine v_icmp_ne (tgt := 136) C dX11_shuts_126 (by decide) (fun c10 => ?_) (fun c10 => ?_)
          · have hf := im hf c10
            refine v_aload_n C 0 dX11_shuts_136 rfl rfl ?_
            refine v_iload_n C 2 dX11_shuts_137 rfl rfl ?_
            refine v_iload_n C 1 dX11_shuts_138 rfl rfl ?_
            obtain ⟨r11, qr11, hf⟩ := bn hf
            refine v_callVi (As := [.int x8, .int l2]) (rest := []) C (sX11_ithOf h_l0 qr11) cs_X11_476 (by decide) h_l0 rfl hC rfl rfl rfl (Nat.le_of_ble_eq_true rfl) ⟨Nat.le_refl _, Nat.le_refl _⟩ dX11_shuts_139 (fun hC => ?_)
            cases hf
            exact kr _ _ dX11_shuts_142 hC
          · have hf := ip hf c10
            refine v_iload_n C 2 dX11_shuts_129 rfl rfl ?_
            obtain ⟨r12, qr12, hf⟩ := bn hf
            refine v_callSi (As := [.int x8]) (rest := []) C (sX11_bits  qr12) cs_X11_387 (by decide) hC rfl rfl rfl (Nat.le_of_ble_eq_true rfl) ⟨Nat.le_refl _, Nat.le_refl _⟩ dX11_shuts_130 (fun hC => ?_)
            refine v_goto (tgt := 142) C dX11_shuts_133 (by decide) ?_
            cases hf
            exact kr _ _ dX11_shuts_142 hC
        · have hf := im hf c9
          refine v_bipush (v := (-2)) C dX11_shuts_121 (by decide) ?_
          cases hf
          exact kr _ _ dX11_shuts_123 hC
    · have hf := ip hf c4
      refine v_iconst (v := (-1)) C dX11_shuts_17 (by decide) ?_
      cases hf
      exact kr _ _ dX11_shuts_18 hC
theorem sX11_shuts {l : Launch} {sh : Sh} {G : Hp} {l0 : Nat} {l1 : Int32} {l2 : Int32} {z : Int32 × Hp} (h_l0 : sh[l0]? = some (0, 11)) (hf : fX11_shuts sh G l0 l1 l2 = some z) : MC l yX11_shuts cX11_shuts 5 (some .int) 4 0 0 sh sh G (z.2) (fun ad => [.ref (ad l0), .int l1, .int l2]) (fun _ => some (.int z.1)) := by
  refine MC_of rfl rfl (fun _ => Nat.le_of_ble_eq_true rfl) (fun E ad C hl hnm hC hQ => ?_)
  exact tX11_shuts C hC h_l0 hf (fun pc lv hd hC => v_iret C hQ (fun _ _ => rfl) hC rfl hd)
def fX11_stands (sh : Sh) (G : Hp) (l0 : Nat) (l1 : Int32) : Option (Int32 × Hp) := (fX11_isBridge sh G l0 l1).bind fun r1 => if r1 = 0 then some ((-1), G) else (ldA sh G l0 58 1).bind fun a3 => (aI sh G a3 ((4 : Int32) + l1)).bind fun v4 => if v4 = 1 then (fX11_copies sh G l0).bind fun G7 => bp (fX11_standsFor sh G7 l0 l1) fun r8 G9 => if r8 = 201 then some ((-2), G9) else some (r8, G9) else some ((-2), G)
set_option maxHeartbeats 4000000 in
theorem tX11_stands {E : EX} {ad : Nat → Nat} {sh : Sh} {G : Hp} {l0 : Nat} {l1 : Int32} {z : Int32 × Hp} (C : Cx E RX11 cX11_stands 3 (some .int) 6 0 0) (hC : Cl sh G) (h_l0 : sh[l0]? = some (0, 11)) (hf : fX11_stands sh G l0 l1 = some z) (kr : RCi E cX11_stands ad sh (z.1) (z.2)) : VV E 0 0 (wq (xT E) ad G sh) 0 [(0, .ref (ad l0)), (1, .int l1)] [] := by
  unfold fX11_stands at hf
  refine v_aload_n C 0 dX11_stands_0 rfl rfl ?_
  refine v_iload_n C 1 dX11_stands_1 rfl rfl ?_
  obtain ⟨r1, qr1, hf⟩ := bn hf
  refine v_callVi (As := [.int l1]) (rest := []) C (sX11_isBridge h_l0 qr1) cs_X11_431 (by decide) h_l0 rfl hC rfl rfl rfl (Nat.le_of_ble_eq_true rfl) ⟨Nat.le_refl _, Nat.le_refl _⟩ dX11_stands_2 (fun hC => ?_)
  refine v_if_ne (tgt := 10) C dX11_stands_5 (by decide) (fun c2 => ?_) (fun c2 => ?_)
  · have hf := im hf c2
    refine v_aload_n C 0 dX11_stands_10 rfl rfl ?_
    obtain ⟨a3, qa3, hf⟩ := bn hf
    refine v_getA C h_l0 fl_X11_134 qa3 dX11_stands_11 (fun h_a3 => ?_)
    refine v_iconst (v := 4) C dX11_stands_14 (by decide) ?_
    refine v_iload_n C 1 dX11_stands_15 rfl rfl ?_
    refine v_iadd C dX11_stands_16 ?_
    obtain ⟨v4, qv4, hf⟩ := bn hf
    refine v_iald C h_a3 qv4 dX11_stands_17 ?_
    refine v_iconst (v := 1) C dX11_stands_18 (by decide) ?_
    refine v_icmp_eq (tgt := 25) C dX11_stands_19 (by decide) (fun c5 => ?_) (fun c5 => ?_)
    · have hf := ip hf c5
      refine v_aload_n C 0 dX11_stands_25 rfl rfl ?_
      obtain ⟨G7, qr6, hf⟩ := bn hf
      refine v_callVv (As := []) (rest := []) C (sX11_copies h_l0 qr6) cs_X11_434 (by decide) h_l0 rfl hC rfl rfl rfl (Nat.le_of_ble_eq_true rfl) ⟨Nat.le_refl _, Nat.le_refl _⟩ dX11_stands_26 (fun hC => ?_)
      refine v_aload_n C 0 dX11_stands_29 rfl rfl ?_
      refine v_iload_n C 1 dX11_stands_30 rfl rfl ?_
      obtain ⟨r8, G9, qr8, hf⟩ := bpn hf
      refine v_callVi (As := [.int l1]) (rest := []) C (sX11_standsFor h_l0 qr8) cs_X11_506 (by decide) h_l0 rfl hC rfl rfl rfl (Nat.le_of_ble_eq_true rfl) ⟨Nat.le_refl _, Nat.le_refl _⟩ dX11_stands_31 (fun hC => ?_)
      refine v_istore_n (lv2 := [(2, .int r8), (0, .ref (ad l0)), (1, .int l1)]) C dX11_stands_34 rfl (by decide) rfl ?_
      refine v_iload_n C 0 dX11_stands_35 rfl rfl ?_
      refine v_sipush (v := 201) C dX11_stands_36 (by decide) ?_
      refine v_icmp_ne (tgt := 47) C dX11_stands_39 (by decide) (fun c10 => ?_) (fun c10 => ?_)
      · have hf := im hf c10
        refine v_iload_n C 0 dX11_stands_47 rfl rfl ?_
        cases hf
        exact kr _ _ dX11_stands_48 hC
      · have hf := ip hf c10
        refine v_bipush (v := (-2)) C dX11_stands_42 (by decide) ?_
        refine v_goto (tgt := 48) C dX11_stands_44 (by decide) ?_
        cases hf
        exact kr _ _ dX11_stands_48 hC
    · have hf := im hf c5
      refine v_bipush (v := (-2)) C dX11_stands_22 (by decide) ?_
      cases hf
      exact kr _ _ dX11_stands_24 hC
  · have hf := ip hf c2
    refine v_iconst (v := (-1)) C dX11_stands_8 (by decide) ?_
    cases hf
    exact kr _ _ dX11_stands_9 hC
theorem sX11_stands {l : Launch} {sh : Sh} {G : Hp} {l0 : Nat} {l1 : Int32} {z : Int32 × Hp} (h_l0 : sh[l0]? = some (0, 11)) (hf : fX11_stands sh G l0 l1 = some z) : MC l yX11_stands cX11_stands 3 (some .int) 6 0 0 sh sh G (z.2) (fun ad => [.ref (ad l0), .int l1]) (fun _ => some (.int z.1)) := by
  refine MC_of rfl rfl (fun _ => Nat.le_of_ble_eq_true rfl) (fun E ad C hl hnm hC hQ => ?_)
  exact tX11_stands C hC h_l0 hf (fun pc lv hd hC => v_iret C hQ (fun _ _ => rfl) hC rfl hd)
def fX11_stonesIn (sh : Sh) (G : Hp) (l0 : Nat) (l1 : Int32) (l2 : Int32) : Option (Int32 × Hp) := (fX11_isBridge sh G l0 l1).bind fun r1 => if r1 = 0 then some ((-1), G) else (fX11_isLong l2).bind fun r3 => if r3 = 0 then some ((-1), G) else (fX11_copies sh G l0).bind fun G6 => (fX11_goes sh G6 l0 l2).bind fun G8 => (ldA sh G8 l0 59 1).bind fun a9 => (aI sh G8 a9 l1).bind fun v10 => some (v10, G8)
set_option maxHeartbeats 4000000 in
theorem tX11_stonesIn {E : EX} {ad : Nat → Nat} {sh : Sh} {G : Hp} {l0 : Nat} {l1 : Int32} {l2 : Int32} {z : Int32 × Hp} (C : Cx E RX11 cX11_stonesIn 3 (some .int) 6 0 0) (hC : Cl sh G) (h_l0 : sh[l0]? = some (0, 11)) (hf : fX11_stonesIn sh G l0 l1 l2 = some z) (kr : RCi E cX11_stonesIn ad sh (z.1) (z.2)) : VV E 0 0 (wq (xT E) ad G sh) 0 [(0, .ref (ad l0)), (1, .int l1), (2, .int l2)] [] := by
  unfold fX11_stonesIn at hf
  refine v_aload_n C 0 dX11_stonesIn_0 rfl rfl ?_
  refine v_iload_n C 1 dX11_stonesIn_1 rfl rfl ?_
  obtain ⟨r1, qr1, hf⟩ := bn hf
  refine v_callVi (As := [.int l1]) (rest := []) C (sX11_isBridge h_l0 qr1) cs_X11_431 (by decide) h_l0 rfl hC rfl rfl rfl (Nat.le_of_ble_eq_true rfl) ⟨Nat.le_refl _, Nat.le_refl _⟩ dX11_stonesIn_2 (fun hC => ?_)
  refine v_if_eq (tgt := 15) C dX11_stonesIn_5 (by decide) (fun c2 => ?_) (fun c2 => ?_)
  · have hf := ip hf c2
    refine v_iconst (v := (-1)) C dX11_stonesIn_15 (by decide) ?_
    cases hf
    exact kr _ _ dX11_stonesIn_16 hC
  · have hf := im hf c2
    refine v_iload_n C 2 dX11_stonesIn_8 rfl rfl ?_
    obtain ⟨r3, qr3, hf⟩ := bn hf
    refine v_callSi (As := [.int l2]) (rest := []) C (sX11_isLong  qr3) cs_X11_509 (by decide) hC rfl rfl rfl (Nat.le_of_ble_eq_true rfl) ⟨Nat.le_refl _, Nat.le_refl _⟩ dX11_stonesIn_9 (fun hC => ?_)
    refine v_if_ne (tgt := 17) C dX11_stonesIn_12 (by decide) (fun c4 => ?_) (fun c4 => ?_)
    · have hf := im hf c4
      refine v_aload_n C 0 dX11_stonesIn_17 rfl rfl ?_
      obtain ⟨G6, qr5, hf⟩ := bn hf
      refine v_callVv (As := []) (rest := []) C (sX11_copies h_l0 qr5) cs_X11_434 (by decide) h_l0 rfl hC rfl rfl rfl (Nat.le_of_ble_eq_true rfl) ⟨Nat.le_refl _, Nat.le_refl _⟩ dX11_stonesIn_18 (fun hC => ?_)
      refine v_aload_n C 0 dX11_stonesIn_21 rfl rfl ?_
      refine v_iload_n C 2 dX11_stonesIn_22 rfl rfl ?_
      obtain ⟨G8, qr7, hf⟩ := bn hf
      refine v_callVv (As := [.int l2]) (rest := []) C (sX11_goes h_l0 qr7) cs_X11_461 (by decide) h_l0 rfl hC rfl rfl rfl (Nat.le_of_ble_eq_true rfl) ⟨Nat.le_refl _, Nat.le_refl _⟩ dX11_stonesIn_23 (fun hC => ?_)
      refine v_aload_n C 0 dX11_stonesIn_26 rfl rfl ?_
      obtain ⟨a9, qa9, hf⟩ := bn hf
      refine v_getA C h_l0 fl_X11_137 qa9 dX11_stonesIn_27 (fun h_a9 => ?_)
      refine v_iload_n C 1 dX11_stonesIn_30 rfl rfl ?_
      obtain ⟨v10, qv10, hf⟩ := bn hf
      refine v_iald C h_a9 qv10 dX11_stonesIn_31 ?_
      cases hf
      exact kr _ _ dX11_stonesIn_32 hC
    · have hf := ip hf c4
      refine v_iconst (v := (-1)) C dX11_stonesIn_15 (by decide) ?_
      cases hf
      exact kr _ _ dX11_stonesIn_16 hC
theorem sX11_stonesIn {l : Launch} {sh : Sh} {G : Hp} {l0 : Nat} {l1 : Int32} {l2 : Int32} {z : Int32 × Hp} (h_l0 : sh[l0]? = some (0, 11)) (hf : fX11_stonesIn sh G l0 l1 l2 = some z) : MC l yX11_stonesIn cX11_stonesIn 3 (some .int) 6 0 0 sh sh G (z.2) (fun ad => [.ref (ad l0), .int l1, .int l2]) (fun _ => some (.int z.1)) := by
  refine MC_of rfl rfl (fun _ => Nat.le_of_ble_eq_true rfl) (fun E ad C hl hnm hC hQ => ?_)
  exact tX11_stonesIn C hC h_l0 hf (fun pc lv hd hC => v_iret C hQ (fun _ _ => rfl) hC rfl hd)
def fX11_sure_S17 (sh : Sh) (l0 : Nat) (l1 : Int32) (l2 : Int32) (G : Hp) (l3 : Int32) (l4 : Int32) : Option ((Hp × Int32 × Int32) ⊕ ((Hp × Int32) ⊕ (Hp))) := (ldA sh G l0 24 1).bind fun a1 => (aI sh G a1 (G.1 l0 18)).bind fun v2 => if v2 ≤ l4 then some (.inr (.inl (G, l3))) else bp (fX11_wentBy sh G l0 l1 l2 l4) fun r4 G5 => if r4 = 0 then bd ((l4 + 1) : Int32) fun x9 => some (.inl (G5, l3, x9)) else if l3 < 0 then bd ((l4 + 1) : Int32) fun x8 => some (.inl (G5, l4, x8)) else some (.inr (.inr G5))
set_option maxHeartbeats 4000000 in
theorem tX11_sure_S17 {E : EX} {ad : Nat → Nat} {sh : Sh} {G : Hp} {l0 : Nat} {l1 : Int32} {l2 : Int32} {l3 : Int32} {l4 : Int32} {o : (Hp × Int32 × Int32) ⊕ ((Hp × Int32) ⊕ (Hp))} (C : Cx E RX11 cX11_sure 5 (some .int) 4 0 0) (hC : Cl sh G) (h_l0 : sh[l0]? = some (0, 11)) (hf : fX11_sure_S17 sh l0 l1 l2 G l3 l4 = some o) (kb : ∀ (G2 : Hp) (b_l3 : Int32) (b_l4 : Int32), o = .inl (G2, b_l3, b_l4) → Cl sh G2 → VV E 0 0 (wq (xT E) ad G2 sh) 17 [(0, .ref (ad l0)), (1, .int l1), (2, .int l2), (3, .int b_l3), (4, .int b_l4)] []) (kx61 : ∀ (G2 : Hp) (b_l3 : Int32), o = .inr (.inl (G2, b_l3)) → Cl sh G2 → VV E 0 0 (wq (xT E) ad G2 sh) 61 [(0, .ref (ad l0)), (1, .int l1), (2, .int l2), (3, .int b_l3)] []) (kx49 : ∀ (G2 : Hp), o = .inr (.inr G2) → Cl sh G2 → VV E 0 0 (wq (xT E) ad G2 sh) 49 [(0, .ref (ad l0)), (1, .int l1), (2, .int l2)] []) : VV E 0 0 (wq (xT E) ad G sh) 17 [(0, .ref (ad l0)), (1, .int l1), (2, .int l2), (3, .int l3), (4, .int l4)] [] := by
  unfold fX11_sure_S17 at hf
  refine v_iload C 4 dX11_sure_17 rfl ?_
  refine v_aload_n C 0 dX11_sure_19 rfl rfl ?_
  obtain ⟨a1, qa1, hf⟩ := bn hf
  refine v_getA C h_l0 fl_X11_49 qa1 dX11_sure_20 (fun h_a1 => ?_)
  refine v_aload_n C 0 dX11_sure_23 rfl rfl ?_
  refine v_getI C h_l0 fl_X11_257 dX11_sure_24 ?_
  obtain ⟨v2, qv2, hf⟩ := bn hf
  refine v_iald C h_a1 qv2 dX11_sure_27 ?_
  refine v_icmp_ge (tgt := 61) C dX11_sure_28 (by decide) (fun c3 => ?_) (fun c3 => ?_)
  · have hf := ip hf c3
    cases hf
    refine v_sub [0, 1, 2, 3] rfl ?_
    exact kx61 _ _ rfl hC
  · have hf := im hf c3
    refine v_aload_n C 0 dX11_sure_31 rfl rfl ?_
    refine v_iload_n C 1 dX11_sure_32 rfl rfl ?_
    refine v_iload_n C 2 dX11_sure_33 rfl rfl ?_
    refine v_iload C 4 dX11_sure_34 rfl ?_
    obtain ⟨r4, G5, qr4, hf⟩ := bpn hf
    refine v_callVi (As := [.int l1, .int l2, .int l4]) (rest := []) C (sX11_wentBy h_l0 qr4) cs_X11_518 (by decide) h_l0 rfl hC rfl rfl rfl (Nat.le_of_ble_eq_true rfl) ⟨Nat.le_refl _, Nat.le_refl _⟩ dX11_sure_36 (fun hC => ?_)
    refine v_if_ne (tgt := 45) C dX11_sure_39 (by decide) (fun c6 => ?_) (fun c6 => ?_)
    · have hf := im hf c6
      refine v_iload_n C 3 dX11_sure_45 rfl rfl ?_
      refine v_if_lt (tgt := 52) C dX11_sure_46 (by decide) (fun c7 => ?_) (fun c7 => ?_)
      · have hf := ip hf c7
        refine v_iload C 4 dX11_sure_52 rfl ?_
        refine v_istore_n (lv2 := [(3, .int l4), (0, .ref (ad l0)), (1, .int l1), (2, .int l2), (4, .int l4)]) C dX11_sure_54 rfl (by decide) rfl ?_
        obtain ⟨x8, ex8⟩ : ∃ x : Int32, x = (l4 + 1) := ⟨_, rfl⟩
        have hf := bd_at hf ex8
        refine v_iinc (v := x8) (j := 4) (lv2 := [(4, .int x8), (3, .int l4), (0, .ref (ad l0)), (1, .int l1), (2, .int l2)]) C dX11_sure_55 rfl (by rw [ex8]; rfl) (by decide) rfl ?_
        refine v_goto (tgt := 17) C dX11_sure_58 (by decide) ?_
        cases hf
        refine v_sub [2, 3, 4, 1, 0] rfl ?_
        exact kb _ _ _ rfl hC
      · have hf := im hf c7
        cases hf
        refine v_sub [0, 1, 2] rfl ?_
        exact kx49 _ rfl hC
    · have hf := ip hf c6
      refine v_goto (tgt := 55) C dX11_sure_42 (by decide) ?_
      obtain ⟨x9, ex9⟩ : ∃ x : Int32, x = (l4 + 1) := ⟨_, rfl⟩
      have hf := bd_at hf ex9
      refine v_iinc (v := x9) (j := 4) (lv2 := [(4, .int x9), (0, .ref (ad l0)), (1, .int l1), (2, .int l2), (3, .int l3)]) C dX11_sure_55 rfl (by rw [ex9]; rfl) (by decide) rfl ?_
      refine v_goto (tgt := 17) C dX11_sure_58 (by decide) ?_
      cases hf
      refine v_sub [1, 2, 3, 4, 0] rfl ?_
      exact kb _ _ _ rfl hC
def fX11_sure (sh : Sh) (G : Hp) (l0 : Nat) (l1 : Int32) (l2 : Int32) : Option (Int32 × Hp) := (fX11_isKnown sh G l0 l1 l2).bind fun r1 => if r1 = 0 then some ((-1), G) else (iter (fun s : Hp × Int32 × Int32 => fX11_sure_S17 sh l0 l1 l2 s.1 s.2.1 s.2.2) fuel ((G, (-2), 0) : Hp × Int32 × Int32)).bind (Sum.elim (fun u6 => bd u6.1 fun G4 => bd u6.2 fun x5 => some (x5, G4)) (fun u8 => bd u8 fun G7 => some ((-2), G7)))
set_option maxHeartbeats 4000000 in
theorem tX11_sure {E : EX} {ad : Nat → Nat} {sh : Sh} {G : Hp} {l0 : Nat} {l1 : Int32} {l2 : Int32} {z : Int32 × Hp} (C : Cx E RX11 cX11_sure 5 (some .int) 4 0 0) (hC : Cl sh G) (h_l0 : sh[l0]? = some (0, 11)) (hf : fX11_sure sh G l0 l1 l2 = some z) (kr : RCi E cX11_sure ad sh (z.1) (z.2)) : VV E 0 0 (wq (xT E) ad G sh) 0 [(0, .ref (ad l0)), (1, .int l1), (2, .int l2)] [] := by
  unfold fX11_sure at hf
  refine v_aload_n C 0 dX11_sure_0 rfl rfl ?_
  refine v_iload_n C 1 dX11_sure_1 rfl rfl ?_
  refine v_iload_n C 2 dX11_sure_2 rfl rfl ?_
  obtain ⟨r1, qr1, hf⟩ := bn hf
  refine v_callVi (As := [.int l1, .int l2]) (rest := []) C (sX11_isKnown h_l0 qr1) cs_X11_515 (by decide) h_l0 rfl hC rfl rfl rfl (Nat.le_of_ble_eq_true rfl) ⟨Nat.le_refl _, Nat.le_refl _⟩ dX11_sure_3 (fun hC => ?_)
  refine v_if_ne (tgt := 11) C dX11_sure_6 (by decide) (fun c2 => ?_) (fun c2 => ?_)
  · have hf := im hf c2
    refine v_bipush (v := (-2)) C dX11_sure_11 (by decide) ?_
    refine v_istore_n (lv2 := [(3, .int (-2)), (0, .ref (ad l0)), (1, .int l1), (2, .int l2)]) C dX11_sure_13 rfl (by decide) rfl ?_
    refine v_iconst (v := 0) C dX11_sure_14 (by decide) ?_
    refine v_istore (lv2 := [(4, .int 0), (3, .int (-2)), (0, .ref (ad l0)), (1, .int l1), (2, .int l2)]) C dX11_sure_15 (by decide) rfl ?_
    obtain ⟨r3, qr3, hf⟩ := bn hf
    refine v_sub [2, 3, 4, 1, 0] rfl ?_
    refine iter_sound (P := (fun s : Hp × Int32 × Int32 => Cl sh (s.1) → VV E 0 0 (wq (xT E) ad (s.1) sh) 17 [(0, .ref (ad l0)), (1, .int (l1)), (2, .int (l2)), (3, .int (s.2.1)), (4, .int (s.2.2))] [])) (X := fun r => r = r3) (fun jsr3 jor3 hor3 jbr3 jxr3 hC => tX11_sure_S17 C hC h_l0 hor3 (fun _ _ _ e => jbr3 _ e) ?_ ?_) fuel _ r3 qr3 rfl hC
    · intro G4 x5 hu hC
      have e := jxr3 _ hu
      subst e
      have hf := sm_l hf
      have hf := bd_at hf (rfl : G4 = _)
      have hf := bd_at hf (rfl : x5 = _)
      refine v_iload_n C 3 dX11_sure_61 rfl rfl ?_
      cases hf
      exact kr _ _ dX11_sure_62 hC
    · intro G7 hu hC
      have e := jxr3 _ hu
      subst e
      have hf := sm_r hf
      have hf := bd_at hf (rfl : G7 = _)
      refine v_bipush (v := (-2)) C dX11_sure_49 (by decide) ?_
      cases hf
      exact kr _ _ dX11_sure_51 hC
  · have hf := ip hf c2
    refine v_iconst (v := (-1)) C dX11_sure_9 (by decide) ?_
    cases hf
    exact kr _ _ dX11_sure_10 hC
theorem sX11_sure {l : Launch} {sh : Sh} {G : Hp} {l0 : Nat} {l1 : Int32} {l2 : Int32} {z : Int32 × Hp} (h_l0 : sh[l0]? = some (0, 11)) (hf : fX11_sure sh G l0 l1 l2 = some z) : MC l yX11_sure cX11_sure 5 (some .int) 4 0 0 sh sh G (z.2) (fun ad => [.ref (ad l0), .int l1, .int l2]) (fun _ => some (.int z.1)) := by
  refine MC_of rfl rfl (fun _ => Nat.le_of_ble_eq_true rfl) (fun E ad C hl hnm hC hQ => ?_)
  exact tX11_sure C hC h_l0 hf (fun pc lv hd hC => v_iret C hQ (fun _ _ => rfl) hC rfl hd)
