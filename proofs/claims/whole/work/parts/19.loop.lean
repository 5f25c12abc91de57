/-! THE LAW'S LOOP, over what every step must do. -/
def AllSteps (shx shm : Sh) (Inv : Hp → Hp → Prop) : Prop := ∀ Gx Gm, Inv Gx Gm → (∀ y0 y1 y2 y3 y4 : Int32, Step0 shx shm Inv Gx Gm y0 y1 y2 y3 y4) ∧ (∀ y0 : Int32, Step1 shx shm Inv Gx Gm y0) ∧ (Step2 shx shm Inv Gx Gm ) ∧ (Step3 shx shm Inv Gx Gm ) ∧ (∀ y0 y1 : Int32, Step4 shx shm Inv Gx Gm y0 y1) ∧ (∀ y0 y1 : Int32, Step5 shx shm Inv Gx Gm y0 y1) ∧ (∀ y0 y1 : Int32, Step6 shx shm Inv Gx Gm y0 y1) ∧ (∀ y0 y1 : Int32, Step7 shx shm Inv Gx Gm y0 y1) ∧ (∀ y0 y1 : Int32, Step8 shx shm Inv Gx Gm y0 y1) ∧ (∀ y0 y1 : Int32, Step9 shx shm Inv Gx Gm y0 y1) ∧ (∀ y0 y1 y2 : Int32, Step10 shx shm Inv Gx Gm y0 y1 y2) ∧ (∀ y0 y1 y2 : Int32, Step11 shx shm Inv Gx Gm y0 y1 y2) ∧ (∀ y0 : Int32, Step12 shx shm Inv Gx Gm y0) ∧ (∀ y0 : Int32, Step13 shx shm Inv Gx Gm y0) ∧ (Step14 shx shm Inv Gx Gm ) ∧ (∀ y0 y1 : Int32, Step15 shx shm Inv Gx Gm y0 y1) ∧ (∀ y0 : Int32, Step16 shx shm Inv Gx Gm y0) ∧ (∀ y0 y1 : Int32, Step17 shx shm Inv Gx Gm y0 y1) ∧ (∀ y0 y1 : Int32, Step18 shx shm Inv Gx Gm y0 y1) ∧ (∀ y0 y1 : Int32, Step19 shx shm Inv Gx Gm y0 y1) ∧ (∀ y0 : Int32, Step20 shx shm Inv Gx Gm y0) ∧ (∀ y0 : Int32, Step21 shx shm Inv Gx Gm y0) ∧ (∀ y0 y1 y2 : Int32, Step22 shx shm Inv Gx Gm y0 y1 y2) ∧ (∀ y0 y1 : Int32, Step23 shx shm Inv Gx Gm y0 y1) ∧ (∀ y0 : Int32, Step24 shx shm Inv Gx Gm y0) ∧ (∀ y0 y1 y2 : Int32, Step25 shx shm Inv Gx Gm y0 y1 y2) ∧ (∀ y0 y1 : Int32, Step26 shx shm Inv Gx Gm y0 y1) ∧ (Step27 shx shm Inv Gx Gm ) ∧ (∀ y0 y1 : Int32, Step28 shx shm Inv Gx Gm y0 y1) ∧ (∀ y0 y1 : Int32, Step29 shx shm Inv Gx Gm y0 y1) ∧ (∀ y0 y1 : Int32, Step30 shx shm Inv Gx Gm y0 y1) ∧ (∀ y0 : Int32, Step31 shx shm Inv Gx Gm y0) ∧ (∀ y0 : Int32, Step32 shx shm Inv Gx Gm y0) ∧ (∀ y0 : Int32, Step33 shx shm Inv Gx Gm y0)
theorem nI_i6 {i L k : Nat} (h : i + k < L) (hL : L ≤ 3072) : vp_in (nI i + nI k) L := by
  rw [nI_add]; exact vp_in_nI h (by omega)
theorem law_le {i L : Nat} (hi : i ≤ L) (hL : L ≤ 3072) (h : ¬ (nI L - 6 < nI i)) : i + 6 ≤ L := by
  have h1 : (nI L - 6).toInt = (L : Int) - 6 := by
    rw [Int32.toInt_sub, nI_toInt (by omega)]
    have : (6 : Int32).toInt = 6 := by decide
    rw [this]
    exact Int.bmod_eq_of_le (by omega) (by omega)
  have h2 := mt Int32.lt_iff_toInt_lt.mpr h
  rw [h1, nI_toInt (by omega)] at h2
  omega
set_option maxHeartbeats 40000000 in
set_option maxRecDepth 100000 in
theorem law_loop {E : EX} {b L : Nat} {xs0 : Nat → Int32} {shx shm : Sh} {adx adm : Nat → Nat} {cw sw : Nat} {Inv : Hp → Hp → Prop} (C : Cx E RL cL_law 4 (some .boolean) 1000 600000 7302250) (hX : va_X b L xs0 (xs E) (xs E).heap) (hbl : b < (xs E).heap.size) (hbA : ¬ xA E b) (hx0 : shx[0]? = some (0, 10)) (hm0 : shm[0]? = some (0, 11)) (hcw : cw ≤ 600000 ∧ sw ≤ 7302250) (hL : L ≤ 3072) (hA : AllSteps shx shm Inv) (kend : ∀ ws pc lv, decode cL_law pc = .ok (.ireturn, 1) → VV E cw sw ws pc lv [.int 1]) :
    ∀ (n i : Nat) (x3 : Int32) (Gx Gm : Hp), i ≤ L → L + 6 ≤ i + n → x3 = nI i → Inv Gx Gm → Cl shx Gx → Cl shm Gm → VV E cw sw (wq (xT E) adx Gx shx ++ wq (xT E) adm Gm shm) 18 [(3, .int x3), (2, .ref (adm 0)), (1, .ref (adx 0)), (0, .ref b)] [] := by
  intro n
  induction n with
  | zero => intro i x3 Gx Gm h1 h2; exact absurd h2 (by omega)
  | succ n ih =>
    intro i x3 Gx Gm hi hin e3 hI hCx hCm
    refine v_iload_n C 0 dL_law_18 rfl rfl ?_
    refine v_aload_n C 3 dL_law_19 rfl rfl ?_
    refine v_scl C hX hbl hbA dL_law_20 ?_
    refine v_bipush (v := 6) C dL_law_21 (by decide) ?_
    refine v_isub C dL_law_23 ?_
    refine v_icmp_gt (tgt := 1218) C dL_law_24 (by decide) (fun c0 => ?_) (fun c0 => ?_)
    · refine v_iconst (v := 1) C dL_law_1218 (by decide) ?_
      exact kend _ _ _ dL_law_1219
    · have h6 : i + 6 ≤ L := law_le hi hL (by rw [← e3]; exact c0)
      have hi0 : vp_in x3 L := by rw [e3]; exact vp_in_nI (by omega) (by omega)
      have hi1 : vp_in (x3 + 1) L := by rw [e3]; exact nI_i6 (k := 1) (by omega) hL
      have hi2 : vp_in (x3 + 2) L := by rw [e3]; exact nI_i6 (k := 2) (by omega) hL
      have hi3 : vp_in (x3 + 3) L := by rw [e3]; exact nI_i6 (k := 3) (by omega) hL
      have hi4 : vp_in (x3 + 4) L := by rw [e3]; exact nI_i6 (k := 4) (by omega) hL
      have hi5 : vp_in (x3 + 5) L := by rw [e3]; exact nI_i6 (k := 5) (by omega) hL
      have kn : ∀ gx gm, Inv gx gm → Cl shx gx → Cl shm gm → VV E cw sw (wq (xT E) adx gx shx ++ wq (xT E) adm gm shm) 1212 [(3, .int x3), (2, .ref (adm 0)), (1, .ref (adx 0)), (0, .ref b)] [] := by
        intro gx gm hI hCx hCm
        obtain ⟨x4, e4⟩ : ∃ x : Int32, x = x3 + 6 := ⟨_, rfl⟩
        refine v_iinc (v := x4) (j := 0) (lv2 := [(3, .int x4), (2, .ref (adm 0)), (1, .ref (adx 0)), (0, .ref b)]) C dL_law_1212 rfl (by rw [e4]; rfl) (by decide) rfl ?_
        refine v_goto (tgt := 18) C dL_law_1215 (by decide) ?_
        exact ih (i + 6) x4 gx gm h6 (by omega) (by rw [e4, e3]; exact nI_add i 6) hI hCx hCm
      obtain ⟨st0, st1, st2, st3, st4, st5, st6, st7, st8, st9, st10, st11, st12, st13, st14, st15, st16, st17, st18, st19, st20, st21, st22, st23, st24, st25, st26, st27, st28, st29, st30, st31, st32, st33⟩ := hA Gx Gm hI
      refine v_aload_n C 3 dL_law_27 rfl rfl ?_
      refine v_iload_n C 0 dL_law_28 rfl rfl ?_
      refine v_scr C hX hbl hbA hi0 dL_law_29 ?_
      refine v_bipush (v := 63) C dL_law_30 (by decide) ?_
      refine v_iand C dL_law_32 ?_
      refine v_topi (fun w ew => ?_)
      by_cases c0 : w = 0
      · refine v_tableIn (off := 151) (tgt := 184) C dL_law_33 (by rw [c0]; decide) (by rw [c0]; decide) (by rw [c0]; decide) (by decide) ?_
        exact law_case_0 C hX hbl hbA hx0 hm0 hCx hCm hcw hi1 hi2 hi3 hi4 hi5 (st0 _ _ _ _ _) kn
      by_cases c1 : w = 1
      · refine v_tableIn (off := 214) (tgt := 247) C dL_law_33 (by rw [c1]; decide) (by rw [c1]; decide) (by rw [c1]; decide) (by decide) ?_
        exact law_case_1 C hX hbl hbA hx0 hm0 hCx hCm hcw hi1 (st1 _) kn
      by_cases c2 : w = 2
      · refine v_tableIn (off := 237) (tgt := 270) C dL_law_33 (by rw [c2]; decide) (by rw [c2]; decide) (by rw [c2]; decide) (by decide) ?_
        exact law_case_2 C hX hbl hbA hx0 hm0 hCx hCm hcw  (st2 ) kn
      by_cases c3 : w = 3
      · refine v_tableIn (off := 250) (tgt := 283) C dL_law_33 (by rw [c3]; decide) (by rw [c3]; decide) (by rw [c3]; decide) (by decide) ?_
        exact law_case_3 C hX hbl hbA hx0 hm0 hCx hCm hcw  (st3 ) kn
      by_cases c4 : w = 4
      · refine v_tableIn (off := 263) (tgt := 296) C dL_law_33 (by rw [c4]; decide) (by rw [c4]; decide) (by rw [c4]; decide) (by decide) ?_
        exact law_case_4 C hX hbl hbA hx0 hm0 hCx hCm hcw hi1 hi2 (st4 _ _) kn
      by_cases c5 : w = 5
      · refine v_tableIn (off := 296) (tgt := 329) C dL_law_33 (by rw [c5]; decide) (by rw [c5]; decide) (by rw [c5]; decide) (by decide) ?_
        exact law_case_5 C hX hbl hbA hx0 hm0 hCx hCm hcw hi1 hi2 (st5 _ _) kn
      by_cases c6 : w = 6
      · refine v_tableIn (off := 329) (tgt := 362) C dL_law_33 (by rw [c6]; decide) (by rw [c6]; decide) (by rw [c6]; decide) (by decide) ?_
        exact law_case_6 C hX hbl hbA hx0 hm0 hCx hCm hcw hi1 hi2 (st6 _ _) kn
      by_cases c7 : w = 7
      · refine v_tableIn (off := 362) (tgt := 395) C dL_law_33 (by rw [c7]; decide) (by rw [c7]; decide) (by rw [c7]; decide) (by decide) ?_
        exact law_case_7 C hX hbl hbA hx0 hm0 hCx hCm hcw hi1 hi2 (st7 _ _) kn
      by_cases c8 : w = 8
      · refine v_tableIn (off := 395) (tgt := 428) C dL_law_33 (by rw [c8]; decide) (by rw [c8]; decide) (by rw [c8]; decide) (by decide) ?_
        exact law_case_8 C hX hbl hbA hx0 hm0 hCx hCm hcw hi1 hi2 (st8 _ _) kn
      by_cases c9 : w = 9
      · refine v_tableIn (off := 428) (tgt := 461) C dL_law_33 (by rw [c9]; decide) (by rw [c9]; decide) (by rw [c9]; decide) (by decide) ?_
        exact law_case_9 C hX hbl hbA hx0 hm0 hCx hCm hcw hi1 hi2 (st9 _ _) kn
      by_cases c10 : w = 10
      · refine v_tableIn (off := 461) (tgt := 494) C dL_law_33 (by rw [c10]; decide) (by rw [c10]; decide) (by rw [c10]; decide) (by decide) ?_
        exact law_case_10 C hX hbl hbA hx0 hm0 hCx hCm hcw hi1 hi2 hi3 (st10 _ _ _) kn
      by_cases c11 : w = 11
      · refine v_tableIn (off := 504) (tgt := 537) C dL_law_33 (by rw [c11]; decide) (by rw [c11]; decide) (by rw [c11]; decide) (by decide) ?_
        exact law_case_11 C hX hbl hbA hx0 hm0 hCx hCm hcw hi1 hi2 hi3 (st11 _ _ _) kn
      by_cases c12 : w = 12
      · refine v_tableIn (off := 547) (tgt := 580) C dL_law_33 (by rw [c12]; decide) (by rw [c12]; decide) (by rw [c12]; decide) (by decide) ?_
        exact law_case_12 C hX hbl hbA hx0 hm0 hCx hCm hcw hi1 (st12 _) kn
      by_cases c13 : w = 13
      · refine v_tableIn (off := 570) (tgt := 603) C dL_law_33 (by rw [c13]; decide) (by rw [c13]; decide) (by rw [c13]; decide) (by decide) ?_
        exact law_case_13 C hX hbl hbA hx0 hm0 hCx hCm hcw hi1 (st13 _) kn
      by_cases c14 : w = 14
      · refine v_tableIn (off := 593) (tgt := 626) C dL_law_33 (by rw [c14]; decide) (by rw [c14]; decide) (by rw [c14]; decide) (by decide) ?_
        exact law_case_14 C hX hbl hbA hx0 hm0 hCx hCm hcw  (st14 ) kn
      by_cases c15 : w = 15
      · refine v_tableIn (off := 606) (tgt := 639) C dL_law_33 (by rw [c15]; decide) (by rw [c15]; decide) (by rw [c15]; decide) (by decide) ?_
        exact law_case_15 C hX hbl hbA hx0 hm0 hCx hCm hcw hi1 hi2 (st15 _ _) kn
      by_cases c16 : w = 16
      · refine v_tableIn (off := 639) (tgt := 672) C dL_law_33 (by rw [c16]; decide) (by rw [c16]; decide) (by rw [c16]; decide) (by decide) ?_
        exact law_case_16 C hX hbl hbA hx0 hm0 hCx hCm hcw hi1 (st16 _) kn
      by_cases c17 : w = 17
      · refine v_tableIn (off := 662) (tgt := 695) C dL_law_33 (by rw [c17]; decide) (by rw [c17]; decide) (by rw [c17]; decide) (by decide) ?_
        exact law_case_17 C hX hbl hbA hx0 hm0 hCx hCm hcw hi1 hi2 (st17 _ _) kn
      by_cases c18 : w = 18
      · refine v_tableIn (off := 695) (tgt := 728) C dL_law_33 (by rw [c18]; decide) (by rw [c18]; decide) (by rw [c18]; decide) (by decide) ?_
        exact law_case_18 C hX hbl hbA hx0 hm0 hCx hCm hcw hi1 hi2 (st18 _ _) kn
      by_cases c19 : w = 19
      · refine v_tableIn (off := 728) (tgt := 761) C dL_law_33 (by rw [c19]; decide) (by rw [c19]; decide) (by rw [c19]; decide) (by decide) ?_
        exact law_case_19 C hX hbl hbA hx0 hm0 hCx hCm hcw hi1 hi2 (st19 _ _) kn
      by_cases c20 : w = 20
      · refine v_tableIn (off := 761) (tgt := 794) C dL_law_33 (by rw [c20]; decide) (by rw [c20]; decide) (by rw [c20]; decide) (by decide) ?_
        exact law_case_20 C hX hbl hbA hx0 hm0 hCx hCm hcw hi1 (st20 _) kn
      by_cases c21 : w = 21
      · refine v_tableIn (off := 784) (tgt := 817) C dL_law_33 (by rw [c21]; decide) (by rw [c21]; decide) (by rw [c21]; decide) (by decide) ?_
        exact law_case_21 C hX hbl hbA hx0 hm0 hCx hCm hcw hi1 (st21 _) kn
      by_cases c22 : w = 22
      · refine v_tableIn (off := 807) (tgt := 840) C dL_law_33 (by rw [c22]; decide) (by rw [c22]; decide) (by rw [c22]; decide) (by decide) ?_
        exact law_case_22 C hX hbl hbA hx0 hm0 hCx hCm hcw hi1 hi2 hi3 (st22 _ _ _) kn
      by_cases c23 : w = 23
      · refine v_tableIn (off := 850) (tgt := 883) C dL_law_33 (by rw [c23]; decide) (by rw [c23]; decide) (by rw [c23]; decide) (by decide) ?_
        exact law_case_23 C hX hbl hbA hx0 hm0 hCx hCm hcw hi1 hi2 (st23 _ _) kn
      by_cases c24 : w = 24
      · refine v_tableIn (off := 883) (tgt := 916) C dL_law_33 (by rw [c24]; decide) (by rw [c24]; decide) (by rw [c24]; decide) (by decide) ?_
        exact law_case_24 C hX hbl hbA hx0 hm0 hCx hCm hcw hi1 (st24 _) kn
      by_cases c25 : w = 25
      · refine v_tableIn (off := 906) (tgt := 939) C dL_law_33 (by rw [c25]; decide) (by rw [c25]; decide) (by rw [c25]; decide) (by decide) ?_
        exact law_case_25 C hX hbl hbA hx0 hm0 hCx hCm hcw hi1 hi2 hi3 (st25 _ _ _) kn
      by_cases c26 : w = 26
      · refine v_tableIn (off := 949) (tgt := 982) C dL_law_33 (by rw [c26]; decide) (by rw [c26]; decide) (by rw [c26]; decide) (by decide) ?_
        exact law_case_26 C hX hbl hbA hx0 hm0 hCx hCm hcw hi1 hi2 (st26 _ _) kn
      by_cases c27 : w = 27
      · refine v_tableIn (off := 998) (tgt := 1031) C dL_law_33 (by rw [c27]; decide) (by rw [c27]; decide) (by rw [c27]; decide) (by decide) ?_
        exact law_case_27 C hX hbl hbA hx0 hm0 hCx hCm hcw  (st27 ) kn
      by_cases c28 : w = 28
      · refine v_tableIn (off := 1011) (tgt := 1044) C dL_law_33 (by rw [c28]; decide) (by rw [c28]; decide) (by rw [c28]; decide) (by decide) ?_
        exact law_case_28 C hX hbl hbA hx0 hm0 hCx hCm hcw hi1 hi2 (st28 _ _) kn
      by_cases c29 : w = 29
      · refine v_tableIn (off := 1044) (tgt := 1077) C dL_law_33 (by rw [c29]; decide) (by rw [c29]; decide) (by rw [c29]; decide) (by decide) ?_
        exact law_case_29 C hX hbl hbA hx0 hm0 hCx hCm hcw hi1 hi2 (st29 _ _) kn
      by_cases c30 : w = 30
      · refine v_tableIn (off := 1077) (tgt := 1110) C dL_law_33 (by rw [c30]; decide) (by rw [c30]; decide) (by rw [c30]; decide) (by decide) ?_
        exact law_case_30 C hX hbl hbA hx0 hm0 hCx hCm hcw hi1 hi2 (st30 _ _) kn
      by_cases c31 : w = 31
      · refine v_tableIn (off := 1110) (tgt := 1143) C dL_law_33 (by rw [c31]; decide) (by rw [c31]; decide) (by rw [c31]; decide) (by decide) ?_
        exact law_case_31 C hX hbl hbA hx0 hm0 hCx hCm hcw hi1 (st31 _) kn
      by_cases c32 : w = 32
      · refine v_tableIn (off := 1133) (tgt := 1166) C dL_law_33 (by rw [c32]; decide) (by rw [c32]; decide) (by rw [c32]; decide) (by decide) ?_
        exact law_case_32 C hX hbl hbA hx0 hm0 hCx hCm hcw hi1 (st32 _) kn
      by_cases c33 : w = 33
      · refine v_tableIn (off := 1156) (tgt := 1189) C dL_law_33 (by rw [c33]; decide) (by rw [c33]; decide) (by rw [c33]; decide) (by decide) ?_
        exact law_case_33 C hX hbl hbA hx0 hm0 hCx hCm hcw hi1 (st33 _) kn
      refine v_tableOut (tgt := 1212) C dL_law_33 (tsw_out (by decide) (by decide) (fun k hk => match k, hk with | 0, _ => fun e => c0 (e.trans (by decide)) | 1, _ => fun e => c1 (e.trans (by decide)) | 2, _ => fun e => c2 (e.trans (by decide)) | 3, _ => fun e => c3 (e.trans (by decide)) | 4, _ => fun e => c4 (e.trans (by decide)) | 5, _ => fun e => c5 (e.trans (by decide)) | 6, _ => fun e => c6 (e.trans (by decide)) | 7, _ => fun e => c7 (e.trans (by decide)) | 8, _ => fun e => c8 (e.trans (by decide)) | 9, _ => fun e => c9 (e.trans (by decide)) | 10, _ => fun e => c10 (e.trans (by decide)) | 11, _ => fun e => c11 (e.trans (by decide)) | 12, _ => fun e => c12 (e.trans (by decide)) | 13, _ => fun e => c13 (e.trans (by decide)) | 14, _ => fun e => c14 (e.trans (by decide)) | 15, _ => fun e => c15 (e.trans (by decide)) | 16, _ => fun e => c16 (e.trans (by decide)) | 17, _ => fun e => c17 (e.trans (by decide)) | 18, _ => fun e => c18 (e.trans (by decide)) | 19, _ => fun e => c19 (e.trans (by decide)) | 20, _ => fun e => c20 (e.trans (by decide)) | 21, _ => fun e => c21 (e.trans (by decide)) | 22, _ => fun e => c22 (e.trans (by decide)) | 23, _ => fun e => c23 (e.trans (by decide)) | 24, _ => fun e => c24 (e.trans (by decide)) | 25, _ => fun e => c25 (e.trans (by decide)) | 26, _ => fun e => c26 (e.trans (by decide)) | 27, _ => fun e => c27 (e.trans (by decide)) | 28, _ => fun e => c28 (e.trans (by decide)) | 29, _ => fun e => c29 (e.trans (by decide)) | 30, _ => fun e => c30 (e.trans (by decide)) | 31, _ => fun e => c31 (e.trans (by decide)) | 32, _ => fun e => c32 (e.trans (by decide)) | 33, _ => fun e => c33 (e.trans (by decide)) | k + 34, hk => absurd hk (by simp only [show (Int.toNat (33 - 0 + 1)) = 34 from rfl]; omega))) (by decide) ?_
      exact kn Gx Gm hI hCx hCm
