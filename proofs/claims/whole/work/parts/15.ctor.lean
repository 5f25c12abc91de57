def fX10_init_S74 (l0 : Nat) (sh : Sh) (G : Hp) (cc0 ss0 : Nat) (l1 : Int32) : Option ((Sh × Hp × Nat × Nat × Int32) ⊕ (Sh × Hp × Nat × Nat)) := if 3 ≤ l1 then some (.inr (sh, G, cc0, ss0)) else (ldA sh G l0 6 5).bind fun a2 => if ¬ (cc0 + 1 ≤ 301 ∧ ss0 + 9 ≤ 8318) then none else bd (List.length sh) fun n4 => bd (sh ++ [(0, 1)]) fun sh => bd (zr G n4) fun G5 => if ¬ ((cc0 + 1) + 4 ≤ 301 ∧ (ss0 + 9) + 21 ≤ 8318) then none else (fX1_init sh G5 n4).bind fun r8 => bd r8.1 fun sh1 => bd r8.2 fun G7 => (ckL sh sh1).bind fun _ => (ckO sh1 l0 10).bind fun _ => (ckO sh1 n4 1).bind fun _ => (ckA sh1 a2 5).bind fun _ => bd sh1 fun sh => (asR sh G7 a2 l1 n4).bind fun G9 => bd ((l1 + 1) : Int32) fun x10 => some (.inl (sh, G9, ((cc0 + 1) + 4), ((ss0 + 9) + 21), x10))
set_option maxHeartbeats 4000000 in
theorem tX10_init_S74 {E : EX} {ad0 ad : Nat → Nat} {sh0 sh : Sh} {G : Hp} {l0 : Nat} {l1 : Int32} {cc0 ss0 : Nat} {o : (Sh × Hp × Nat × Nat × Int32) ⊕ (Sh × Hp × Nat × Nat)} (C : Cx E RX10 cX10_init 2 none 8 301 8318) (hin : (xM E).name = "<init>") (hC : Cl sh G) (hag : ∀ k, k < sh0.length → ad k = ad0 k) (hle : sh0.length ≤ sh.length) (h_l0 : sh[l0]? = some (0, 10)) (hf : fX10_init_S74 l0 sh G cc0 ss0 l1 = some o) (kb : ∀ (ad2 : Nat → Nat) (sh2 : Sh) (G2 : Hp) (c2 s2 : Nat) (b_l1 : Int32), o = .inl (sh2, G2, c2, s2, b_l1) → Cl sh2 G2 → (∀ k, k < sh0.length → ad2 k = ad0 k) → sh0.length ≤ sh2.length → sh2[l0]? = some (0, 10) → VV E c2 s2 (wq (xT E) ad2 G2 sh2) 74 [(0, .ref (ad2 l0)), (1, .int b_l1)] []) (kx : ∀ (ad2 : Nat → Nat) (sh2 : Sh) (G2 : Hp) (c2 s2 : Nat) , o = .inr (sh2, G2, c2, s2) → Cl sh2 G2 → (∀ k, k < sh0.length → ad2 k = ad0 k) → sh0.length ≤ sh2.length → sh2[l0]? = some (0, 10) → VV E c2 s2 (wq (xT E) ad2 G2 sh2) 98 [(0, .ref (ad2 l0))] []) : VV E cc0 ss0 (wq (xT E) ad G sh) 74 [(0, .ref (ad l0)), (1, .int l1)] [] := by
  unfold fX10_init_S74 at hf
  refine v_iload_n C 1 dX10_init_74 rfl rfl ?_
  refine v_iconst (v := 3) C dX10_init_75 (by decide) ?_
  refine v_icmp_ge (tgt := 98) C dX10_init_76 (by decide) (fun c1 => ?_) (fun c1 => ?_)
  · have hf := ip hf c1
    cases hf
    refine v_sub [0] rfl ?_
    exact kx _ _ _ _ _ rfl hC hag hle h_l0
  · have hf := im hf c1
    refine v_aload_n C 0 dX10_init_79 rfl rfl ?_
    obtain ⟨a2, qa2, hf⟩ := bn hf
    refine v_getA C h_l0 zfl_X10_48 qa2 dX10_init_80 (fun h_a2 => ?_)
    refine v_iload_n C 1 dX10_init_83 rfl rfl ?_
    obtain ⟨hk3, hf⟩ := iz hf
    have hk3 := Classical.not_not.mp hk3
    refine w_new C nw_X10_27 hC hk3.1 hk3.2 dX10_init_84 (fun ad n4 G5 sh en esh eG had hC => ?_)
    have hf := bd_at hf en
    have hf := bd_at hf esh
    have hf := bd_at hf eG
    rw [← had l0 (lt_o h_l0)]
    rw [← had a2 (lt_t h_a2)]
    have hag := ag_step had hag hle
    have hle := le_app esh hle
    have h_l0 := sh_app esh h_l0
    have h_a2 := tg_app esh h_a2
    have h_n4 := sh_new esh en
    clear had esh eG en
    refine v_dup C dX10_init_87 rfl ?_
    obtain ⟨hk6, hf⟩ := iz hf
    have hk6 := Classical.not_not.mp hk6
    obtain ⟨⟨sh, G7⟩, qr8, hf⟩ := bn hf
    have hf := bd_at hf (rfl : sh = _)
    have hf := bd_at hf (rfl : G7 = _)
    obtain ⟨_, hL, hf⟩ := bn hf
    obtain ⟨_, hu0, hf⟩ := bn hf
    obtain ⟨_, hu1, hf⟩ := bn hf
    obtain ⟨_, hu2, hf⟩ := bn hf
    have hf := bd_at hf (rfl : sh = _)
    refine v_callI (As := []) (rest := [.ref (ad n4), .int l1, .ref (ad a2)]) C (sX1_init h_n4 qr8) ci_X10_29 (by decide) hC rfl rfl rfl (Nat.le_of_ble_eq_true rfl) ⟨hk6.1, hk6.2⟩ dX10_init_88 (fun ad had hC => ?_)
    rw [← had l0 (lt_o h_l0)]
    rw [← had n4 (lt_o h_n4)]
    rw [← had a2 (lt_t h_a2)]
    have hag := ag_step had hag hle
    have hle := Nat.le_trans hle (ckL_some hL)
    have h_l0 := ckO_some hu0
    have h_n4 := ckO_some hu1
    have h_a2 := ckA_some hu2
    clear had hL
    obtain ⟨G9, qG9, hf⟩ := bn hf
    refine v_aast C h_a2 h_n4 qG9 hC dX10_init_91 (fun hC => ?_)
    obtain ⟨x10, ex10⟩ : ∃ x : Int32, x = (l1 + 1) := ⟨_, rfl⟩
    have hf := bd_at hf ex10
    refine v_iinc (v := x10) (j := 1) (lv2 := [(1, .int x10), (0, .ref (ad l0))]) C dX10_init_92 rfl (by rw [ex10]; rfl) (by decide) rfl ?_
    refine v_goto (tgt := 74) C dX10_init_95 (by decide) ?_
    cases hf
    refine v_sub [1, 0] rfl ?_
    exact kb _ _ _ _ _ _ rfl hC hag hle h_l0
set_option maxRecDepth 100000 in
def fX10_init (sh : Sh) (G : Hp) (l0 : Nat) : Option (Sh × Hp) := bd (List.length sh) fun n1 => bd (sh ++ [(0, 6)]) fun sh => bd (zr G n1) fun G2 => (fX6_init sh G2 n1).bind fun r4 => bd r4.1 fun sh1 => bd r4.2 fun G3 => (ckL sh sh1).bind fun _ => (ckO sh1 l0 10).bind fun _ => (ckO sh1 n1 6).bind fun _ => bd sh1 fun sh => bd (sR G3 l0 0 (some n1)) fun G5 => bd (sI G5 l0 1 (-1)) fun G6 => bd (List.length sh) fun n7 => bd (sh ++ [(0, 8)]) fun sh => bd (zr G6 n7) fun G8 => (fX8_init sh G8 n7).bind fun r10 => bd r10.1 fun sh1 => bd r10.2 fun G9 => (ckL sh sh1).bind fun _ => (ckO sh1 l0 10).bind fun _ => (ckO sh1 n7 8).bind fun _ => bd sh1 fun sh => bd (sR G9 l0 2 (some n7)) fun G11 => bd (List.length sh) fun n12 => bd (sh ++ [(0, 1)]) fun sh => bd (zr G11 n12) fun G13 => (fX1_init sh G13 n12).bind fun r15 => bd r15.1 fun sh1 => bd r15.2 fun G14 => (ckL sh sh1).bind fun _ => (ckO sh1 l0 10).bind fun _ => (ckO sh1 n12 1).bind fun _ => bd sh1 fun sh => bd (sR G14 l0 3 (some n12)) fun G16 => bd (List.length sh) fun n17 => bd (sh ++ [(0, 3)]) fun sh => bd (zr G16 n17) fun G18 => (fX3_init sh G18 n17).bind fun r20 => bd r20.1 fun sh1 => bd r20.2 fun G19 => (ckL sh sh1).bind fun _ => (ckO sh1 l0 10).bind fun _ => (ckO sh1 n17 3).bind fun _ => bd sh1 fun sh => bd (sR G19 l0 4 (some n17)) fun G21 => bd (List.length sh) fun n22 => bd (sh ++ [(0, 2)]) fun sh => bd (zr G21 n22) fun G23 => (fX2_init sh G23 n22).bind fun r25 => bd r25.1 fun sh1 => bd r25.2 fun G24 => (ckL sh sh1).bind fun _ => (ckO sh1 l0 10).bind fun _ => (ckO sh1 n22 2).bind fun _ => bd sh1 fun sh => bd (sR G24 l0 5 (some n22)) fun G26 => bd (List.length sh) fun n27 => bd (sh ++ [(5, 3)]) fun sh => bd (zr G26 n27) fun G28 => bd (sR G28 l0 6 (some n27)) fun G29 => (iter (fun s : Sh × Hp × Nat × Nat × Int32 => fX10_init_S74 l0 s.1 s.2.1 s.2.2.1 s.2.2.2.1 s.2.2.2.2) fuel ((sh, G29, 268, 7406, 0) : Sh × Hp × Nat × Nat × Int32)).bind (fun u31 => bd u31.1 fun sh => bd u31.2.1 fun G32 => bd u31.2.2.1 fun cw33 => bd u31.2.2.2 fun sw34 => bd (sI G32 l0 7 0) fun G35 => if ¬ (cw33 + 1 ≤ 301 ∧ sw34 + 5 ≤ 8318) then none else bd (List.length sh) fun n37 => bd (sh ++ [(0, 9)]) fun sh => bd (zr G35 n37) fun G38 => if ¬ ((cw33 + 1) + 2 ≤ 301 ∧ (sw34 + 5) + 40 ≤ 8318) then none else (fX9_init sh G38 n37).bind fun r41 => bd r41.1 fun sh1 => bd r41.2 fun G40 => (ckL sh sh1).bind fun _ => (ckO sh1 l0 10).bind fun _ => (ckO sh1 n37 9).bind fun _ => bd sh1 fun sh => bd (sR G40 l0 8 (some n37)) fun G42 => if ¬ (((cw33 + 1) + 2) + 1 ≤ 301 ∧ ((sw34 + 5) + 40) + 12 ≤ 8318) then none else bd (List.length sh) fun n44 => bd (sh ++ [(0, 5)]) fun sh => bd (zr G42 n44) fun G45 => if ¬ ((((cw33 + 1) + 2) + 1) + 12 ≤ 301 ∧ (((sw34 + 5) + 40) + 12) + 728 ≤ 8318) then none else (fX5_init sh G45 n44).bind fun r48 => bd r48.1 fun sh1 => bd r48.2 fun G47 => (ckL sh sh1).bind fun _ => (ckO sh1 l0 10).bind fun _ => (ckO sh1 n44 5).bind fun _ => bd sh1 fun sh => bd (sR G47 l0 9 (some n44)) fun G49 => if ¬ (((((cw33 + 1) + 2) + 1) + 12) + 1 ≤ 301 ∧ ((((sw34 + 5) + 40) + 12) + 728) + 2 ≤ 8318) then none else bd (List.length sh) fun n51 => bd (sh ++ [(0, 0)]) fun sh => bd (zr G49 n51) fun G52 => if ¬ ((((((cw33 + 1) + 2) + 1) + 12) + 1) + 1 ≤ 301 ∧ (((((sw34 + 5) + 40) + 12) + 728) + 2) + 35 ≤ 8318) then none else (fX0_init sh G52 n51).bind fun r55 => bd r55.1 fun sh1 => bd r55.2 fun G54 => (ckL sh sh1).bind fun _ => (ckO sh1 l0 10).bind fun _ => (ckO sh1 n51 0).bind fun _ => bd sh1 fun sh => bd (sR G54 l0 10 (some n51)) fun G56 => if ¬ (((((((cw33 + 1) + 2) + 1) + 12) + 1) + 1) ≤ 301 ∧ ((((((sw34 + 5) + 40) + 12) + 728) + 2) + 35) ≤ 8318) then none else some (sh, G56))
set_option maxHeartbeats 40000000 in
set_option maxRecDepth 100000 in
theorem tX10_init {E : EX} {ad0 : Nat → Nat} {sh0 : Sh} {G : Hp} {l0 : Nat} {z : Sh × Hp} (C : Cx E RX10 cX10_init 2 none 8 301 8318) (hin : (xM E).name = "<init>") (hC : Cl sh0 G) (h_l0 : sh0[l0]? = some (0, 10)) (hf : fX10_init sh0 G l0 = some z) (kr : RCc E cX10_init ad0 sh0 z 301 8318) : VV E 0 0 (wq (xT E) ad0 G sh0) 0 [(0, .ref (ad0 l0))] [] := by
  unfold fX10_init at hf
  obtain ⟨sh, esh⟩ : ∃ x, x = sh0 := ⟨_, rfl⟩
  obtain ⟨ad, ead⟩ : ∃ x, x = ad0 := ⟨_, rfl⟩
  have hag : ∀ k, k < sh0.length → ad k = ad0 k := fun k _ => by rw [ead]
  have hle : sh0.length ≤ sh.length := by rw [esh]; exact Nat.le_refl _
  rw [← ead]
  rw [← esh] at hf hC h_l0
  have hw : wq (xT E) ad G sh0 = wq (xT E) ad G sh := by rw [esh]
  rw [hw]
  clear ead esh hw
  refine v_aload_n C 0 dX10_init_0 rfl rfl ?_
  refine v_objInit C oi_X10_3 (by decide) (Nat.le_of_ble_eq_true rfl) dX10_init_1 ?_
  refine v_aload_n C 0 dX10_init_4 rfl rfl ?_
  refine w_new C nw_X10_9 hC (by decide) (by decide) dX10_init_5 (fun ad n1 G2 sh en esh eG had hC => ?_)
  have hf := bd_at hf en
  have hf := bd_at hf esh
  have hf := bd_at hf eG
  rw [← had l0 (lt_o h_l0)]
  have hag := ag_step had hag hle
  have hle := le_app esh hle
  have h_l0 := sh_app esh h_l0
  have h_n1 := sh_new esh en
  clear had esh eG en
  refine v_dup C dX10_init_8 rfl ?_
  obtain ⟨⟨sh, G3⟩, qr4, hf⟩ := bn hf
  have hf := bd_at hf (rfl : sh = _)
  have hf := bd_at hf (rfl : G3 = _)
  obtain ⟨_, hL, hf⟩ := bn hf
  obtain ⟨_, hu0, hf⟩ := bn hf
  obtain ⟨_, hu1, hf⟩ := bn hf
  have hf := bd_at hf (rfl : sh = _)
  refine v_callI (As := []) (rest := [.ref (ad n1), .ref (ad l0)]) C (sX6_init h_n1 qr4) ci_X10_11 (by decide) hC rfl rfl rfl (Nat.le_of_ble_eq_true rfl) ⟨(by decide), (by decide)⟩ dX10_init_9 (fun ad had hC => ?_)
  rw [← had l0 (lt_o h_l0)]
  rw [← had n1 (lt_o h_n1)]
  have hag := ag_step had hag hle
  have hle := Nat.le_trans hle (ckL_some hL)
  have h_l0 := ckO_some hu0
  have h_n1 := ckO_some hu1
  clear had hL
  refine v_putF C hin h_l0 pf_X10_12 rfl rfl h_n1 hC dX10_init_12 (fun G5 eG hC => ?_)
  have hf := bd_at hf eG
  clear eG
  refine v_aload_n C 0 dX10_init_15 rfl rfl ?_
  refine v_iconst (v := (-1)) C dX10_init_16 (by decide) ?_
  refine v_putI C h_l0 zfp_X10_16 dX10_init_17 (fun G6 eG6 => ?_)
  have hf := bd_at hf eG6
  have hC : Cl sh G6 := by rw [eG6]; exact hC
  refine v_aload_n C 0 dX10_init_20 rfl rfl ?_
  refine w_new C nw_X10_20 hC (by decide) (by decide) dX10_init_21 (fun ad n7 G8 sh en esh eG had hC => ?_)
  have hf := bd_at hf en
  have hf := bd_at hf esh
  have hf := bd_at hf eG
  rw [← had l0 (lt_o h_l0)]
  have hag := ag_step had hag hle
  have hle := le_app esh hle
  have h_l0 := sh_app esh h_l0
  have h_n7 := sh_new esh en
  clear had esh eG en
  refine v_dup C dX10_init_24 rfl ?_
  obtain ⟨⟨sh, G9⟩, qr10, hf⟩ := bn hf
  have hf := bd_at hf (rfl : sh = _)
  have hf := bd_at hf (rfl : G9 = _)
  obtain ⟨_, hL, hf⟩ := bn hf
  obtain ⟨_, hu0, hf⟩ := bn hf
  obtain ⟨_, hu1, hf⟩ := bn hf
  have hf := bd_at hf (rfl : sh = _)
  refine v_callI (As := []) (rest := [.ref (ad n7), .ref (ad l0)]) C (sX8_init h_n7 qr10) ci_X10_22 (by decide) hC rfl rfl rfl (Nat.le_of_ble_eq_true rfl) ⟨(by decide), (by decide)⟩ dX10_init_25 (fun ad had hC => ?_)
  rw [← had l0 (lt_o h_l0)]
  rw [← had n7 (lt_o h_n7)]
  have hag := ag_step had hag hle
  have hle := Nat.le_trans hle (ckL_some hL)
  have h_l0 := ckO_some hu0
  have h_n7 := ckO_some hu1
  clear had hL
  refine v_putR C h_l0 zfp_X10_23 rfl rfl h_n7 hC dX10_init_28 (fun G11 eG11 hC => ?_)
  have hf := bd_at hf eG11
  refine v_aload_n C 0 dX10_init_31 rfl rfl ?_
  refine w_new C nw_X10_27 hC (by decide) (by decide) dX10_init_32 (fun ad n12 G13 sh en esh eG had hC => ?_)
  have hf := bd_at hf en
  have hf := bd_at hf esh
  have hf := bd_at hf eG
  rw [← had l0 (lt_o h_l0)]
  have hag := ag_step had hag hle
  have hle := le_app esh hle
  have h_l0 := sh_app esh h_l0
  have h_n12 := sh_new esh en
  clear had esh eG en
  refine v_dup C dX10_init_35 rfl ?_
  obtain ⟨⟨sh, G14⟩, qr15, hf⟩ := bn hf
  have hf := bd_at hf (rfl : sh = _)
  have hf := bd_at hf (rfl : G14 = _)
  obtain ⟨_, hL, hf⟩ := bn hf
  obtain ⟨_, hu0, hf⟩ := bn hf
  obtain ⟨_, hu1, hf⟩ := bn hf
  have hf := bd_at hf (rfl : sh = _)
  refine v_callI (As := []) (rest := [.ref (ad n12), .ref (ad l0)]) C (sX1_init h_n12 qr15) ci_X10_29 (by decide) hC rfl rfl rfl (Nat.le_of_ble_eq_true rfl) ⟨(by decide), (by decide)⟩ dX10_init_36 (fun ad had hC => ?_)
  rw [← had l0 (lt_o h_l0)]
  rw [← had n12 (lt_o h_n12)]
  have hag := ag_step had hag hle
  have hle := Nat.le_trans hle (ckL_some hL)
  have h_l0 := ckO_some hu0
  have h_n12 := ckO_some hu1
  clear had hL
  refine v_putF C hin h_l0 pf_X10_30 rfl rfl h_n12 hC dX10_init_39 (fun G16 eG hC => ?_)
  have hf := bd_at hf eG
  clear eG
  refine v_aload_n C 0 dX10_init_42 rfl rfl ?_
  refine w_new C nw_X10_34 hC (by decide) (by decide) dX10_init_43 (fun ad n17 G18 sh en esh eG had hC => ?_)
  have hf := bd_at hf en
  have hf := bd_at hf esh
  have hf := bd_at hf eG
  rw [← had l0 (lt_o h_l0)]
  have hag := ag_step had hag hle
  have hle := le_app esh hle
  have h_l0 := sh_app esh h_l0
  have h_n17 := sh_new esh en
  clear had esh eG en
  refine v_dup C dX10_init_46 rfl ?_
  obtain ⟨⟨sh, G19⟩, qr20, hf⟩ := bn hf
  have hf := bd_at hf (rfl : sh = _)
  have hf := bd_at hf (rfl : G19 = _)
  obtain ⟨_, hL, hf⟩ := bn hf
  obtain ⟨_, hu0, hf⟩ := bn hf
  obtain ⟨_, hu1, hf⟩ := bn hf
  have hf := bd_at hf (rfl : sh = _)
  refine v_callI (As := []) (rest := [.ref (ad n17), .ref (ad l0)]) C (sX3_init h_n17 qr20) ci_X10_36 (by decide) hC rfl rfl rfl (Nat.le_of_ble_eq_true rfl) ⟨(by decide), (by decide)⟩ dX10_init_47 (fun ad had hC => ?_)
  rw [← had l0 (lt_o h_l0)]
  rw [← had n17 (lt_o h_n17)]
  have hag := ag_step had hag hle
  have hle := Nat.le_trans hle (ckL_some hL)
  have h_l0 := ckO_some hu0
  have h_n17 := ckO_some hu1
  clear had hL
  refine v_putF C hin h_l0 pf_X10_37 rfl rfl h_n17 hC dX10_init_50 (fun G21 eG hC => ?_)
  have hf := bd_at hf eG
  clear eG
  refine v_aload_n C 0 dX10_init_53 rfl rfl ?_
  refine w_new C nw_X10_41 hC (by decide) (by decide) dX10_init_54 (fun ad n22 G23 sh en esh eG had hC => ?_)
  have hf := bd_at hf en
  have hf := bd_at hf esh
  have hf := bd_at hf eG
  rw [← had l0 (lt_o h_l0)]
  have hag := ag_step had hag hle
  have hle := le_app esh hle
  have h_l0 := sh_app esh h_l0
  have h_n22 := sh_new esh en
  clear had esh eG en
  refine v_dup C dX10_init_57 rfl ?_
  obtain ⟨⟨sh, G24⟩, qr25, hf⟩ := bn hf
  have hf := bd_at hf (rfl : sh = _)
  have hf := bd_at hf (rfl : G24 = _)
  obtain ⟨_, hL, hf⟩ := bn hf
  obtain ⟨_, hu0, hf⟩ := bn hf
  obtain ⟨_, hu1, hf⟩ := bn hf
  have hf := bd_at hf (rfl : sh = _)
  refine v_callI (As := []) (rest := [.ref (ad n22), .ref (ad l0)]) C (sX2_init h_n22 qr25) ci_X10_43 (by decide) hC rfl rfl rfl (Nat.le_of_ble_eq_true rfl) ⟨(by decide), (by decide)⟩ dX10_init_58 (fun ad had hC => ?_)
  rw [← had l0 (lt_o h_l0)]
  rw [← had n22 (lt_o h_n22)]
  have hag := ag_step had hag hle
  have hle := Nat.le_trans hle (ckL_some hL)
  have h_l0 := ckO_some hu0
  have h_n22 := ckO_some hu1
  clear had hL
  refine v_putF C hin h_l0 pf_X10_44 rfl rfl h_n22 hC dX10_init_61 (fun G26 eG hC => ?_)
  have hf := bd_at hf eG
  clear eG
  refine v_aload_n C 0 dX10_init_64 rfl rfl ?_
  refine v_iconst (v := 3) C dX10_init_65 (by decide) ?_
  refine w_newG (N := 3) C zkw_107 hC (by decide) (by decide) (by decide) (by decide) (by decide) dX10_init_66 (fun ad n27 G28 sh en esh eG had hC => ?_)
  have hf := bd_at hf en
  have hf := bd_at hf esh
  have hf := bd_at hf eG
  rw [← had l0 (lt_o h_l0)]
  have hag := ag_step had hag hle
  have hle := le_app esh hle
  have h_l0 := sh_app esh h_l0
  have h_n27 := tg_new esh en
  clear had esh eG en
  refine v_putF C hin h_l0 pf_X10_48 rfl rfl h_n27.choose_spec hC dX10_init_69 (fun G29 eG hC => ?_)
  have hf := bd_at hf eG
  clear eG
  refine v_iconst (v := 0) C dX10_init_72 (by decide) ?_
  refine v_istore_n (lv2 := [(1, .int 0), (0, .ref (ad l0))]) C dX10_init_73 rfl (by decide) rfl ?_
  obtain ⟨r30, qr30, hf⟩ := bn hf
  refine v_sub [1, 0] rfl ?_
  refine iter_sound (P := (fun s : Sh × Hp × Nat × Nat × Int32 => ∀ ad2 : Nat → Nat, Cl (s.1) (s.2.1) → (∀ k, k < sh0.length → ad2 k = ad0 k) → sh0.length ≤ (s.1).length → (s.1)[l0]? = some (0, 10) → VV E (s.2.2.1) (s.2.2.2.1) (wq (xT E) ad2 (s.2.1) (s.1)) 74 [(0, .ref (ad2 l0)), (1, .int (s.2.2.2.2))] [])) (X := fun r => r = r30) (fun js jo ho jb jx ad hC hag hle g0 => tX10_init_S74 C hin hC hag hle g0 ho (fun ad3 _ _ _ _ _ e => jb _ e ad3) ?_) fuel _ r30 qr30 rfl ad hC hag hle h_l0
  intro ad sh G32 cw33 sw34 hu hC hag hle h_l0
  have e := jx _ hu
  subst e
  have hf := bd_at hf (rfl : sh = _)
  have hf := bd_at hf (rfl : G32 = _)
  have hf := bd_at hf (rfl : cw33 = _)
  have hf := bd_at hf (rfl : sw34 = _)
  refine v_aload_n C 0 dX10_init_98 rfl rfl ?_
  refine v_iconst (v := 0) C dX10_init_99 (by decide) ?_
  refine v_putI C h_l0 zfp_X10_52 dX10_init_100 (fun G35 eG35 => ?_)
  have hf := bd_at hf eG35
  have hC : Cl sh G35 := by rw [eG35]; exact hC
  refine v_aload_n C 0 dX10_init_103 rfl rfl ?_
  obtain ⟨hk36, hf⟩ := iz hf
  have hk36 := Classical.not_not.mp hk36
  refine w_new C nw_X10_55 hC hk36.1 hk36.2 dX10_init_104 (fun ad n37 G38 sh en esh eG had hC => ?_)
  have hf := bd_at hf en
  have hf := bd_at hf esh
  have hf := bd_at hf eG
  rw [← had l0 (lt_o h_l0)]
  have hag := ag_step had hag hle
  have hle := le_app esh hle
  have h_l0 := sh_app esh h_l0
  have h_n37 := sh_new esh en
  clear had esh eG en
  refine v_dup C dX10_init_107 rfl ?_
  obtain ⟨hk39, hf⟩ := iz hf
  have hk39 := Classical.not_not.mp hk39
  obtain ⟨⟨sh, G40⟩, qr41, hf⟩ := bn hf
  have hf := bd_at hf (rfl : sh = _)
  have hf := bd_at hf (rfl : G40 = _)
  obtain ⟨_, hL, hf⟩ := bn hf
  obtain ⟨_, hu0, hf⟩ := bn hf
  obtain ⟨_, hu1, hf⟩ := bn hf
  have hf := bd_at hf (rfl : sh = _)
  refine v_callI (As := []) (rest := [.ref (ad n37), .ref (ad l0)]) C (sX9_init h_n37 qr41) ci_X10_57 (by decide) hC rfl rfl rfl (Nat.le_of_ble_eq_true rfl) ⟨hk39.1, hk39.2⟩ dX10_init_108 (fun ad had hC => ?_)
  rw [← had l0 (lt_o h_l0)]
  rw [← had n37 (lt_o h_n37)]
  have hag := ag_step had hag hle
  have hle := Nat.le_trans hle (ckL_some hL)
  have h_l0 := ckO_some hu0
  have h_n37 := ckO_some hu1
  clear had hL
  refine v_putF C hin h_l0 pf_X10_58 rfl rfl h_n37 hC dX10_init_111 (fun G42 eG hC => ?_)
  have hf := bd_at hf eG
  clear eG
  refine v_aload_n C 0 dX10_init_114 rfl rfl ?_
  obtain ⟨hk43, hf⟩ := iz hf
  have hk43 := Classical.not_not.mp hk43
  refine w_new C nw_X10_62 hC hk43.1 hk43.2 dX10_init_115 (fun ad n44 G45 sh en esh eG had hC => ?_)
  have hf := bd_at hf en
  have hf := bd_at hf esh
  have hf := bd_at hf eG
  rw [← had l0 (lt_o h_l0)]
  have hag := ag_step had hag hle
  have hle := le_app esh hle
  have h_l0 := sh_app esh h_l0
  have h_n44 := sh_new esh en
  clear had esh eG en
  refine v_dup C dX10_init_118 rfl ?_
  obtain ⟨hk46, hf⟩ := iz hf
  have hk46 := Classical.not_not.mp hk46
  obtain ⟨⟨sh, G47⟩, qr48, hf⟩ := bn hf
  have hf := bd_at hf (rfl : sh = _)
  have hf := bd_at hf (rfl : G47 = _)
  obtain ⟨_, hL, hf⟩ := bn hf
  obtain ⟨_, hu0, hf⟩ := bn hf
  obtain ⟨_, hu1, hf⟩ := bn hf
  have hf := bd_at hf (rfl : sh = _)
  refine v_callI (As := []) (rest := [.ref (ad n44), .ref (ad l0)]) C (sX5_init h_n44 qr48) ci_X10_64 (by decide) hC rfl rfl rfl (Nat.le_of_ble_eq_true rfl) ⟨hk46.1, hk46.2⟩ dX10_init_119 (fun ad had hC => ?_)
  rw [← had l0 (lt_o h_l0)]
  rw [← had n44 (lt_o h_n44)]
  have hag := ag_step had hag hle
  have hle := Nat.le_trans hle (ckL_some hL)
  have h_l0 := ckO_some hu0
  have h_n44 := ckO_some hu1
  clear had hL
  refine v_putF C hin h_l0 pf_X10_65 rfl rfl h_n44 hC dX10_init_122 (fun G49 eG hC => ?_)
  have hf := bd_at hf eG
  clear eG
  refine v_aload_n C 0 dX10_init_125 rfl rfl ?_
  obtain ⟨hk50, hf⟩ := iz hf
  have hk50 := Classical.not_not.mp hk50
  refine w_new C nw_X10_69 hC hk50.1 hk50.2 dX10_init_126 (fun ad n51 G52 sh en esh eG had hC => ?_)
  have hf := bd_at hf en
  have hf := bd_at hf esh
  have hf := bd_at hf eG
  rw [← had l0 (lt_o h_l0)]
  have hag := ag_step had hag hle
  have hle := le_app esh hle
  have h_l0 := sh_app esh h_l0
  have h_n51 := sh_new esh en
  clear had esh eG en
  refine v_dup C dX10_init_129 rfl ?_
  obtain ⟨hk53, hf⟩ := iz hf
  have hk53 := Classical.not_not.mp hk53
  obtain ⟨⟨sh, G54⟩, qr55, hf⟩ := bn hf
  have hf := bd_at hf (rfl : sh = _)
  have hf := bd_at hf (rfl : G54 = _)
  obtain ⟨_, hL, hf⟩ := bn hf
  obtain ⟨_, hu0, hf⟩ := bn hf
  obtain ⟨_, hu1, hf⟩ := bn hf
  have hf := bd_at hf (rfl : sh = _)
  refine v_callI (As := []) (rest := [.ref (ad n51), .ref (ad l0)]) C (sX0_init h_n51 qr55) ci_X10_71 (by decide) hC rfl rfl rfl (Nat.le_of_ble_eq_true rfl) ⟨hk53.1, hk53.2⟩ dX10_init_130 (fun ad had hC => ?_)
  rw [← had l0 (lt_o h_l0)]
  rw [← had n51 (lt_o h_n51)]
  have hag := ag_step had hag hle
  have hle := Nat.le_trans hle (ckL_some hL)
  have h_l0 := ckO_some hu0
  have h_n51 := ckO_some hu1
  clear had hL
  refine v_putF C hin h_l0 pf_X10_72 rfl rfl h_n51 hC dX10_init_133 (fun G56 eG hC => ?_)
  have hf := bd_at hf eG
  clear eG
  obtain ⟨hk57, hf⟩ := iz hf
  have hk57 := Classical.not_not.mp hk57
  cases hf
  refine v_widen (c2 := 301) (s2 := 8318) hk57.1 hk57.2 ?_
  exact kr _ _ _ hag hC dX10_init_136
theorem sX10_init {l : Launch} {sh : Sh} {G : Hp} {l0 : Nat} {z : Sh × Hp} (h_l0 : sh[l0]? = some (0, 10)) (hf : fX10_init sh G l0 = some z) : MC l yX10_init cX10_init 2 none 8 301 8318 sh z.1 G z.2 (fun ad => [.ref (ad l0)]) (fun _ => none) := by
  refine MC_of rfl rfl (fun _ => Nat.le_of_ble_eq_true rfl) (fun E ad C hl hnm hC hQ => ?_)
  exact tX10_init C hnm hC h_l0 hf (fun pc lv ad2 had hC2 hd => v_vret C hQ had hC2 rfl hd)
