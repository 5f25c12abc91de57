/-! constructors -/
section CROWS
variable {E : EX} {own : String} {cc : ByteArray} {nL h mc ms cells slots pc : Nat} {ret : Option FieldType} {lv : List (Nat × Value)} {rest st : List Value} {sh : Sh} {G : Hp} {ad : Nat → Nat} {q k ci idx N : Nat}
theorem w_new (C : Cx E own cc nL ret h mc ms) (hw : NWc own idx ci N) (hC : Cl sh G) (hc : cells + 1 ≤ mc) (hs : slots + N ≤ ms) (hdg : decode cc pc = .ok (.new idx, 3)) (kk : ∀ ad2 n G1 sh1, n = sh.length → sh1 = sh ++ [(0, ci)] → G1 = zr G n → (∀ k, k < sh.length → ad2 k = ad k) → Cl sh1 G1 → VV E (cells + 1) (slots + N) (wq (xT E) ad2 G1 sh1) (pc + 3) lv (.ref (ad2 n) :: rest)) : VV E cells slots (wq (xT E) ad G sh) pc lv rest := v_new C hw hC hc hs hdg (fun ad2 had hC => kk ad2 _ _ _ rfl rfl rfl had hC)
theorem w_newI {n : Int32} (C : Cx E own cc nL ret h mc ms) (hw : Cond.arrayClass .int ∈ WS) (hC : Cl sh G) (hn : ¬ n < 0) (hN : n.toNatClampNeg = N) (hb : N * 4 ≤ 536870912) (hc : cells + 1 ≤ mc) (hs : slots + N ≤ ms) (hdg : decode cc pc = .ok (.newarray .int, 2)) (kk : ∀ ad2 n G1 sh1, n = sh.length → sh1 = sh ++ [(1, N)] → G1 = zr G n → (∀ k, k < sh.length → ad2 k = ad k) → Cl sh1 G1 → VV E (cells + 1) (slots + N) (wq (xT E) ad2 G1 sh1) (pc + 2) lv (.ref (ad2 n) :: rest)) : VV E cells slots (wq (xT E) ad G sh) pc lv (.int n :: rest) := v_newI C hw hC hn hN hb hc hs hdg (fun ad2 had hC => kk ad2 _ _ _ rfl rfl rfl had hC)
theorem w_newB {n : Int32} (C : Cx E own cc nL ret h mc ms) (hw : Cond.arrayClass .byte ∈ WS) (hC : Cl sh G) (hn : ¬ n < 0) (hN : n.toNatClampNeg = N) (hb : N * 4 ≤ 536870912) (hc : cells + 1 ≤ mc) (hs : slots + N ≤ ms) (hdg : decode cc pc = .ok (.newarray .byte, 2)) (kk : ∀ ad2 n G1 sh1, n = sh.length → sh1 = sh ++ [(2, N)] → G1 = zr G n → (∀ k, k < sh.length → ad2 k = ad k) → Cl sh1 G1 → VV E (cells + 1) (slots + N) (wq (xT E) ad2 G1 sh1) (pc + 2) lv (.ref (ad2 n) :: rest)) : VV E cells slots (wq (xT E) ad G sh) pc lv (.int n :: rest) := v_newB C hw hC hn hN hb hc hs hdg (fun ad2 had hC => kk ad2 _ _ _ rfl rfl rfl had hC)
theorem w_newZ {n : Int32} (C : Cx E own cc nL ret h mc ms) (hw : Cond.arrayClass .boolean ∈ WS) (hC : Cl sh G) (hn : ¬ n < 0) (hN : n.toNatClampNeg = N) (hb : N * 4 ≤ 536870912) (hc : cells + 1 ≤ mc) (hs : slots + N ≤ ms) (hdg : decode cc pc = .ok (.newarray .boolean, 2)) (kk : ∀ ad2 n G1 sh1, n = sh.length → sh1 = sh ++ [(3, N)] → G1 = zr G n → (∀ k, k < sh.length → ad2 k = ad k) → Cl sh1 G1 → VV E (cells + 1) (slots + N) (wq (xT E) ad2 G1 sh1) (pc + 2) lv (.ref (ad2 n) :: rest)) : VV E cells slots (wq (xT E) ad G sh) pc lv (.int n :: rest) := v_newZ C hw hC hn hN hb hc hs hdg (fun ad2 had hC => kk ad2 _ _ _ rfl rfl rfl had hC)
theorem w_newJ {n : Int32} (C : Cx E own cc nL ret h mc ms) (hw : Cond.arrayClass .long ∈ WS) (hC : Cl sh G) (hn : ¬ n < 0) (hN : n.toNatClampNeg = N) (hb : N * 8 ≤ 536870912) (hc : cells + 1 ≤ mc) (hs : slots + N ≤ ms) (hdg : decode cc pc = .ok (.newarray .long, 2)) (kk : ∀ ad2 n G1 sh1, n = sh.length → sh1 = sh ++ [(4, N)] → G1 = zr G n → (∀ k, k < sh.length → ad2 k = ad k) → Cl sh1 G1 → VV E (cells + 1) (slots + N) (wq (xT E) ad2 G1 sh1) (pc + 2) lv (.ref (ad2 n) :: rest)) : VV E cells slots (wq (xT E) ad G sh) pc lv (.int n :: rest) := v_newJ C hw hC hn hN hb hc hs hdg (fun ad2 had hC => kk ad2 _ _ _ rfl rfl rfl had hC)
theorem w_newG {n : Int32} (C : Cx E own cc nL ret h mc ms) (hw : Cond.classLink own idx "FirstOver$Going" ∈ WS) (hC : Cl sh G) (hn : ¬ n < 0) (hN : n.toNatClampNeg = N) (hb : N * 4 ≤ 536870912) (hc : cells + 1 ≤ mc) (hs : slots + N ≤ ms) (hdg : decode cc pc = .ok (.anewarray idx, 3)) (kk : ∀ ad2 n G1 sh1, n = sh.length → sh1 = sh ++ [(5, N)] → G1 = zr G n → (∀ k, k < sh.length → ad2 k = ad k) → Cl sh1 G1 → VV E (cells + 1) (slots + N) (wq (xT E) ad2 G1 sh1) (pc + 3) lv (.ref (ad2 n) :: rest)) : VV E cells slots (wq (xT E) ad G sh) pc lv (.int n :: rest) := v_newG C hw hC hn hN hb hc hs hdg (fun ad2 had hC => kk ad2 _ _ _ rfl rfl rfl had hC)
end CROWS
theorem lt_o {sh : Sh} {k : Nat} {x : Nat × Nat} (h : sh[k]? = some x) : k < sh.length := (List.getElem?_eq_some_iff.mp h).1
theorem lt_t {sh : Sh} {k t : Nat} (h : tg sh k t) : k < sh.length := lt_o h.choose_spec
theorem sh_app {sh sh1 : Sh} {s x : Nat × Nat} {k : Nat} (e : sh1 = sh ++ [s]) (h : sh[k]? = some x) : sh1[k]? = some x := by rw [e, List.getElem?_append_left (lt_o h)]; exact h
theorem tg_app {sh sh1 : Sh} {s : Nat × Nat} {k t : Nat} (e : sh1 = sh ++ [s]) (h : tg sh k t) : tg sh1 k t := ⟨h.choose, sh_app e h.choose_spec⟩
theorem sh_new {sh sh1 : Sh} {s : Nat × Nat} {n : Nat} (e : sh1 = sh ++ [s]) (hn : n = sh.length) : sh1[n]? = some s := by rw [e, hn]; simp
theorem tg_new {sh sh1 : Sh} {t N n : Nat} (e : sh1 = sh ++ [(t, N)]) (hn : n = sh.length) : tg sh1 n t := ⟨N, sh_new e hn⟩
theorem le_app {sh0 sh sh1 : Sh} {s : Nat × Nat} (e : sh1 = sh ++ [s]) (h : sh0.length ≤ sh.length) : sh0.length ≤ sh1.length := by rw [e, List.length_append]; omega
theorem ag_step {sh0 sh : Sh} {ad0 ad ad2 : Nat → Nat} (had : ∀ k, k < sh.length → ad2 k = ad k) (hag : ∀ k, k < sh0.length → ad k = ad0 k) (hle : sh0.length ≤ sh.length) : ∀ k, k < sh0.length → ad2 k = ad0 k := fun k hk => (had k (Nat.lt_of_lt_of_le hk hle)).trans (hag k hk)
def ckL (sh sh2 : Sh) : Option Unit := if sh.length ≤ sh2.length then some () else none
theorem ckL_some {sh sh2 : Sh} {u : Unit} (h : ckL sh sh2 = some u) : sh.length ≤ sh2.length := (ite_some h).1
def ckA (sh : Sh) (a t : Nat) : Option Unit := if (sh[a]?).map (fun s => s.1) = some t then some () else none
theorem ckA_some {sh : Sh} {a t : Nat} {u : Unit} (h : ckA sh a t = some u) : tg sh a t := by
  obtain ⟨h1, -⟩ := ite_some h
  cases hb : sh[a]? with
  | none => rw [hb] at h1; cases h1
  | some x =>
    rw [hb] at h1
    obtain ⟨x1, x2⟩ := x
    simp at h1
    subst h1
    exact ⟨x2, hb⟩
def RCc (E : EX) (cc : ByteArray) (ad0 : Nat → Nat) (sh0 : Sh) (z : Sh × Hp) (mc ms : Nat) : Prop := ∀ pc lv ad, (∀ k, k < sh0.length → ad k = ad0 k) → Cl z.1 z.2 → decode cc pc = .ok (.return_, 1) → VV E mc ms (wq (xT E) ad z.2 z.1) pc lv []
theorem zkw_0 : Cond.methodLink "FirstOver$Going" 3 ⟨"java/lang/Object", "<init>", "()V"⟩ ∈ WS := WS_mem 451 (by decide +kernel) rfl
theorem zkw_1 : Cond.instanceMethod ⟨"java/lang/Object", "<init>", "()V"⟩ ∈ WS := WS_mem 146 (by decide +kernel) rfl
theorem zkw_oc : Cond.code objectInit ⟨#[0xb1]⟩ 1 none ∈ WS := WS_mem 147 (by decide +kernel) rfl
theorem oi_X1_3 : OIw RX1 3 := ⟨zkw_0, zkw_1, zkw_oc⟩
theorem zkw_a_int : Cond.arrayClass .int ∈ WS := WS_mem 242 (by decide +kernel) rfl
theorem zkw_4 : Cond.fieldLink "FirstOver$Going" 9 "FirstOver$Going" "stones" "[I" ∈ WS := WS_mem 452 (by decide +kernel) rfl
theorem pf_X1_9 : FP RX1 9 1 0 2 (.array .int) true := ⟨_, _, _, tyX1, rfl, by decide, ux1, zkw_4, by decide +kernel, tyX1_ok, nmX1, by decide, by decide, by decide⟩
theorem zkw_5 : Cond.fieldLink "FirstOver$Going" 15 "FirstOver$Going" "phase" "[I" ∈ WS := WS_mem 455 (by decide +kernel) rfl
theorem pf_X1_15 : FP RX1 15 1 1 2 (.array .int) true := ⟨_, _, _, tyX1, rfl, by decide, ux1, zkw_5, by decide +kernel, tyX1_ok, nmX1, by decide, by decide, by decide⟩
theorem zkw_6 : Cond.fieldLink "FirstOver$Going" 18 "FirstOver$Going" "stood" "[I" ∈ WS := WS_mem 459 (by decide +kernel) rfl
theorem pf_X1_18 : FP RX1 18 1 2 2 (.array .int) true := ⟨_, _, _, tyX1, rfl, by decide, ux1, zkw_6, by decide +kernel, tyX1_ok, nmX1, by decide, by decide, by decide⟩
theorem zkw_7 : Cond.fieldLink "FirstOver$Going" 21 "FirstOver$Going" "learnt" "[I" ∈ WS := WS_mem 462 (by decide +kernel) rfl
theorem pf_X1_21 : FP RX1 21 1 3 2 (.array .int) true := ⟨_, _, _, tyX1, rfl, by decide, ux1, zkw_7, by decide +kernel, tyX1_ok, nmX1, by decide, by decide, by decide⟩
theorem zkw_8 : Cond.methodLink "FirstOver$Cheated" 3 ⟨"java/lang/Object", "<init>", "()V"⟩ ∈ WS := WS_mem 614 (by decide +kernel) rfl
theorem oi_X0_3 : OIw RX0 3 := ⟨zkw_8, zkw_1, zkw_oc⟩
theorem zkw_9 : Cond.fieldLink "FirstOver$Cheated" 9 "FirstOver$Cheated" "sets" "[I" ∈ WS := WS_mem 617 (by decide +kernel) rfl
theorem pf_X0_9 : FP RX0 9 0 1 2 (.array .int) true := ⟨_, _, _, tyX0, rfl, by decide, ux0, zkw_9, by decide +kernel, tyX0_ok, nmX0, by decide, by decide, by decide⟩
theorem zkw_10 : Cond.methodLink "FirstOver$Told" 3 ⟨"java/lang/Object", "<init>", "()V"⟩ ∈ WS := WS_mem 539 (by decide +kernel) rfl
theorem oi_X9_3 : OIw RX9 3 := ⟨zkw_10, zkw_1, zkw_oc⟩
theorem zkw_11 : Cond.fieldLink "FirstOver$Told" 9 "FirstOver$Told" "traits" "[I" ∈ WS := WS_mem 542 (by decide +kernel) rfl
theorem pf_X9_9 : FP RX9 9 9 1 2 (.array .int) true := ⟨_, _, _, tyX9, rfl, by decide, ux9, zkw_11, by decide +kernel, tyX9_ok, nmX9, by decide, by decide, by decide⟩
theorem zkw_a_boolean : Cond.arrayClass .boolean ∈ WS := WS_mem 557 (by decide +kernel) rfl
theorem zkw_13 : Cond.fieldLink "FirstOver$Told" 15 "FirstOver$Told" "had" "[Z" ∈ WS := WS_mem 543 (by decide +kernel) rfl
theorem pf_X9_15 : FP RX9 15 9 2 2 (.array .boolean) true := ⟨_, _, _, tyX9, rfl, by decide, ux9, zkw_13, by decide +kernel, tyX9_ok, nmX9, by decide, by decide, by decide⟩
theorem zkw_14 : Cond.methodLink "FirstOver$Law" 5 ⟨"java/lang/Object", "<init>", "()V"⟩ ∈ WS := WS_mem 256 (by decide +kernel) rfl
theorem oi_X4_5 : OIw RX4 5 := ⟨zkw_14, zkw_1, zkw_oc⟩
theorem zkw_15 : Cond.fieldLink "FirstOver$Law" 11 "FirstOver$Law" "steps" "[I" ∈ WS := WS_mem 257 (by decide +kernel) rfl
theorem pf_X4_11 : FP RX4 11 4 0 2 (.array .int) true := ⟨_, _, _, tyX4, rfl, by decide, ux4, zkw_15, by decide +kernel, tyX4_ok, nmX4, by decide, by decide, by decide⟩
theorem zkw_16 : Cond.fieldLink "FirstOver$Law" 17 "FirstOver$Law" "ends" "[I" ∈ WS := WS_mem 259 (by decide +kernel) rfl
theorem pf_X4_17 : FP RX4 17 4 2 2 (.array .int) true := ⟨_, _, _, tyX4, rfl, by decide, ux4, zkw_16, by decide +kernel, tyX4_ok, nmX4, by decide, by decide, by decide⟩
theorem zkw_17 : Cond.fieldLink "FirstOver$Law" 20 "FirstOver$Law" "values" "[I" ∈ WS := WS_mem 261 (by decide +kernel) rfl
theorem pf_X4_20 : FP RX4 20 4 4 2 (.array .int) true := ⟨_, _, _, tyX4, rfl, by decide, ux4, zkw_17, by decide +kernel, tyX4_ok, nmX4, by decide, by decide, by decide⟩
theorem zkw_18 : Cond.methodLink "FirstOver$Text" 3 ⟨"java/lang/Object", "<init>", "()V"⟩ ∈ WS := WS_mem 250 (by decide +kernel) rfl
theorem oi_X8_3 : OIw RX8 3 := ⟨zkw_18, zkw_1, zkw_oc⟩
theorem zkw_19 : Cond.fieldLink "FirstOver$Text" 9 "FirstOver$Text" "loss" "[I" ∈ WS := WS_mem 322 (by decide +kernel) rfl
theorem pf_X8_9 : FP RX8 9 8 6 2 (.array .int) true := ⟨_, _, _, tyX8, rfl, by decide, ux8, zkw_19, by decide +kernel, tyX8_ok, nmX8, by decide, by decide, by decide⟩
theorem zkw_20 : Cond.fieldLink "FirstOver$Text" 15 "FirstOver$Text" "own" "[I" ∈ WS := WS_mem 327 (by decide +kernel) rfl
theorem pf_X8_15 : FP RX8 15 8 7 2 (.array .int) true := ⟨_, _, _, tyX8, rfl, by decide, ux8, zkw_20, by decide +kernel, tyX8_ok, nmX8, by decide, by decide, by decide⟩
theorem zkw_21 : Cond.fieldLink "FirstOver$Text" 18 "FirstOver$Text" "cost" "[I" ∈ WS := WS_mem 331 (by decide +kernel) rfl
theorem pf_X8_18 : FP RX8 18 8 8 2 (.array .int) true := ⟨_, _, _, tyX8, rfl, by decide, ux8, zkw_21, by decide +kernel, tyX8_ok, nmX8, by decide, by decide, by decide⟩
theorem zkw_22 : Cond.fieldLink "FirstOver$Text" 21 "FirstOver$Text" "gives" "[I" ∈ WS := WS_mem 334 (by decide +kernel) rfl
theorem pf_X8_21 : FP RX8 21 8 9 2 (.array .int) true := ⟨_, _, _, tyX8, rfl, by decide, ux8, zkw_22, by decide +kernel, tyX8_ok, nmX8, by decide, by decide, by decide⟩
theorem zkw_23 : Cond.fieldLink "FirstOver$Text" 24 "FirstOver$Text" "drops" "[I" ∈ WS := WS_mem 337 (by decide +kernel) rfl
theorem pf_X8_24 : FP RX8 24 8 10 2 (.array .int) true := ⟨_, _, _, tyX8, rfl, by decide, ux8, zkw_23, by decide +kernel, tyX8_ok, nmX8, by decide, by decide, by decide⟩
theorem zkw_24 : Cond.fieldLink "FirstOver$Text" 27 "FirstOver$Text" "stones" "[I" ∈ WS := WS_mem 340 (by decide +kernel) rfl
theorem pf_X8_27 : FP RX8 27 8 11 2 (.array .int) true := ⟨_, _, _, tyX8, rfl, by decide, ux8, zkw_24, by decide +kernel, tyX8_ok, nmX8, by decide, by decide, by decide⟩
theorem zkw_25 : Cond.fieldLink "FirstOver$Text" 30 "FirstOver$Text" "load" "[I" ∈ WS := WS_mem 343 (by decide +kernel) rfl
theorem pf_X8_30 : FP RX8 30 8 12 2 (.array .int) true := ⟨_, _, _, tyX8, rfl, by decide, ux8, zkw_25, by decide +kernel, tyX8_ok, nmX8, by decide, by decide, by decide⟩
theorem zkw_a_long : Cond.arrayClass .long ∈ WS := WS_mem 243 (by decide +kernel) rfl
theorem zkw_27 : Cond.fieldLink "FirstOver$Text" 33 "FirstOver$Text" "clauses" "[J" ∈ WS := WS_mem 347 (by decide +kernel) rfl
theorem pf_X8_33 : FP RX8 33 8 13 2 (.array .long) true := ⟨_, _, _, tyX8, rfl, by decide, ux8, zkw_27, by decide +kernel, tyX8_ok, nmX8, by decide, by decide, by decide⟩
theorem zkw_28 : Cond.classLink "FirstOver$Text" 37 "FirstOver$Law" ∈ WS := WS_mem 251 (by decide +kernel) rfl
theorem zkw_29 : Cond.instantiable "FirstOver$Law" 5 ∈ WS := WS_mem 252 (by decide +kernel) rfl
theorem zkw_30 : Cond.initialized "FirstOver$Law" ∈ WS := WS_mem 127 (by decide +kernel) rfl
theorem nw_X8_37 : NWc RX8 37 4 5 := ⟨_, _, tyX4, rfl, ux4, tyX4_ok, zkw_28, zkw_29, zkw_30, by decide +kernel, by decide +kernel⟩
theorem zkw_31 : Cond.code ⟨"FirstOver$Law", "<init>", "()V"⟩ cX4_init 1 none ∈ WS := WS_mem 255 (by decide +kernel) rfl
theorem zkw_32 : Cond.instanceMethod ⟨"FirstOver$Law", "<init>", "()V"⟩ ∈ WS := WS_mem 254 (by decide +kernel) rfl
theorem ci_X8_39 : CSI RX8 39 yX4_init cX4_init 1 0 := ⟨zkw_31, zkw_32, zkw_30, rfl, ⟨by decide, by decide, by decide⟩, by decide, Or.inr (by decide +kernel)⟩
theorem zkw_33 : Cond.fieldLink "FirstOver$Text" 40 "FirstOver$Text" "wearsLaw" "LFirstOver$Law;" ∈ WS := WS_mem 350 (by decide +kernel) rfl
theorem pf_X8_40 : FP RX8 40 8 14 2 (.object "FirstOver$Law") true := ⟨_, _, _, tyX8, rfl, by decide, ux8, zkw_33, by decide +kernel, tyX8_ok, nmX8, by decide, by decide, by decide⟩
theorem zkw_34 : Cond.fieldLink "FirstOver$Text" 44 "FirstOver$Text" "mendsLaw" "LFirstOver$Law;" ∈ WS := WS_mem 352 (by decide +kernel) rfl
theorem pf_X8_44 : FP RX8 44 8 15 2 (.object "FirstOver$Law") true := ⟨_, _, _, tyX8, rfl, by decide, ux8, zkw_34, by decide +kernel, tyX8_ok, nmX8, by decide, by decide, by decide⟩
theorem zkw_35 : Cond.fieldLink "FirstOver$Text" 47 "FirstOver$Text" "asksLaw" "LFirstOver$Law;" ∈ WS := WS_mem 355 (by decide +kernel) rfl
theorem pf_X8_47 : FP RX8 47 8 16 2 (.object "FirstOver$Law") true := ⟨_, _, _, tyX8, rfl, by decide, ux8, zkw_35, by decide +kernel, tyX8_ok, nmX8, by decide, by decide, by decide⟩
theorem zkw_36 : Cond.code ⟨"FirstOver$Text", "clear", "()V"⟩ cX8_clear 1 none ∈ WS := WS_mem 276 (by decide +kernel) rfl
theorem zkw_37 : Cond.methodLink "FirstOver$Text" 50 ⟨"FirstOver$Text", "clear", "()V"⟩ ∈ WS := WS_mem 273 (by decide +kernel) rfl
theorem zkw_38 : Cond.instanceMethod ⟨"FirstOver$Text", "clear", "()V"⟩ ∈ WS := WS_mem 274 (by decide +kernel) rfl
theorem zkw_39 : Cond.selects "FirstOver$Text" ⟨"FirstOver$Text", "clear", "()V"⟩ ⟨"FirstOver$Text", "clear", "()V"⟩ ∈ WS := WS_mem 275 (by decide +kernel) rfl
theorem zkw_40 : Cond.initialized "FirstOver$Text" ∈ WS := WS_mem 126 (by decide +kernel) rfl
theorem zcs_X8_50 : CSV RX8 50 RX8 yX8_clear cX8_clear 1 none 0 := ⟨zkw_36, zkw_37, zkw_38, zkw_39, zkw_40, ⟨rfl, by decide, by decide, by decide⟩, by decide⟩
theorem zkw_41 : Cond.methodLink "FirstOver$Tape" 3 ⟨"java/lang/Object", "<init>", "()V"⟩ ∈ WS := WS_mem 159 (by decide +kernel) rfl
theorem oi_X7_3 : OIw RX7 3 := ⟨zkw_41, zkw_1, zkw_oc⟩
theorem zkw_42 : Cond.fieldLink "FirstOver$Tape" 9 "FirstOver$Tape" "kinds" "[I" ∈ WS := WS_mem 218 (by decide +kernel) rfl
theorem pf_X7_9 : FP RX7 9 7 1 2 (.array .int) true := ⟨_, _, _, tyX7, rfl, by decide, ux7, zkw_42, by decide +kernel, tyX7_ok, nmX7, by decide, by decide, by decide⟩
theorem zkw_43 : Cond.fieldLink "FirstOver$Tape" 15 "FirstOver$Tape" "places" "[I" ∈ WS := WS_mem 220 (by decide +kernel) rfl
theorem pf_X7_15 : FP RX7 15 7 2 2 (.array .int) true := ⟨_, _, _, tyX7, rfl, by decide, ux7, zkw_43, by decide +kernel, tyX7_ok, nmX7, by decide, by decide, by decide⟩
theorem zkw_44 : Cond.fieldLink "FirstOver$Tape" 18 "FirstOver$Tape" "values" "[J" ∈ WS := WS_mem 222 (by decide +kernel) rfl
theorem pf_X7_18 : FP RX7 18 7 3 2 (.array .long) true := ⟨_, _, _, tyX7, rfl, by decide, ux7, zkw_44, by decide +kernel, tyX7_ok, nmX7, by decide, by decide, by decide⟩
theorem zkw_45 : Cond.fieldLink "FirstOver$Tape" 22 "FirstOver$Tape" "words" "[J" ∈ WS := WS_mem 224 (by decide +kernel) rfl
theorem pf_X7_22 : FP RX7 22 7 4 2 (.array .long) true := ⟨_, _, _, tyX7, rfl, by decide, ux7, zkw_45, by decide +kernel, tyX7_ok, nmX7, by decide, by decide, by decide⟩
theorem zkw_a_byte : Cond.arrayClass .byte ∈ WS := WS_mem 244 (by decide +kernel) rfl
theorem zkw_47 : Cond.fieldLink "FirstOver$Tape" 25 "FirstOver$Tape" "bytes" "[B" ∈ WS := WS_mem 225 (by decide +kernel) rfl
theorem pf_X7_25 : FP RX7 25 7 5 2 (.array .byte) true := ⟨_, _, _, tyX7, rfl, by decide, ux7, zkw_47, by decide +kernel, tyX7_ok, nmX7, by decide, by decide, by decide⟩
theorem zkw_48 : Cond.code ⟨"FirstOver$Tape", "isLetter", "(I)Z"⟩ cX7_isLetter 1 (some .boolean) ∈ WS := WS_mem 211 (by decide +kernel) rfl
theorem zkw_49 : Cond.methodLink "FirstOver$Tape" 41 ⟨"FirstOver$Tape", "isLetter", "(I)Z"⟩ ∈ WS := WS_mem 209 (by decide +kernel) rfl
theorem zkw_50 : Cond.static ⟨"FirstOver$Tape", "isLetter", "(I)Z"⟩ ∈ WS := WS_mem 210 (by decide +kernel) rfl
theorem zkw_51 : Cond.initialized "FirstOver$Tape" ∈ WS := WS_mem 121 (by decide +kernel) rfl
theorem zcs_X7_41 : CSS RX7 41 yX7_isLetter cX7_isLetter 1 (some .boolean) 1 := ⟨zkw_48, zkw_49, zkw_50, zkw_51, ⟨by decide, by decide, by decide⟩, by decide⟩
theorem zfl_X7_22 : FL RX7 22 7 4 2 := ⟨_, _, _, rfl, by decide, ux7, zkw_45, by decide +kernel⟩
theorem zkw_52 : Cond.code ⟨"FirstOver$Tape", "withLetter", "(JI)J"⟩ cX7_withLetter 3 (some .long) ∈ WS := WS_mem 214 (by decide +kernel) rfl
theorem zkw_53 : Cond.methodLink "FirstOver$Tape" 45 ⟨"FirstOver$Tape", "withLetter", "(JI)J"⟩ ∈ WS := WS_mem 212 (by decide +kernel) rfl
theorem zkw_54 : Cond.static ⟨"FirstOver$Tape", "withLetter", "(JI)J"⟩ ∈ WS := WS_mem 213 (by decide +kernel) rfl
theorem zcs_X7_45 : CSS RX7 45 yX7_withLetter cX7_withLetter 3 (some .long) 2 := ⟨zkw_52, zkw_53, zkw_54, zkw_51, ⟨by decide, by decide, by decide⟩, by decide⟩
theorem zkw_55 : Cond.methodLink "FirstOver$Reader" 5 ⟨"java/lang/Object", "<init>", "()V"⟩ ∈ WS := WS_mem 153 (by decide +kernel) rfl
theorem oi_X6_5 : OIw RX6 5 := ⟨zkw_55, zkw_1, zkw_oc⟩
theorem zkw_56 : Cond.classLink "FirstOver$Reader" 11 "FirstOver$Tape" ∈ WS := WS_mem 154 (by decide +kernel) rfl
theorem zkw_57 : Cond.instantiable "FirstOver$Tape" 7 ∈ WS := WS_mem 155 (by decide +kernel) rfl
theorem nw_X6_11 : NWc RX6 11 7 7 := ⟨_, _, tyX7, rfl, ux7, tyX7_ok, zkw_56, zkw_57, zkw_51, by decide +kernel, by decide +kernel⟩
theorem zkw_58 : Cond.code ⟨"FirstOver$Tape", "<init>", "()V"⟩ cX7_init 3 none ∈ WS := WS_mem 158 (by decide +kernel) rfl
theorem zkw_59 : Cond.instanceMethod ⟨"FirstOver$Tape", "<init>", "()V"⟩ ∈ WS := WS_mem 157 (by decide +kernel) rfl
theorem zkw_60 : Cond.methodLink "FirstOver$Reader" 13 ⟨"FirstOver$Tape", "<init>", "()V"⟩ ∈ WS := WS_mem 156 (by decide +kernel) rfl
theorem ci_X6_13 : CSI RX6 13 yX7_init cX7_init 3 0 := ⟨zkw_58, zkw_59, zkw_51, rfl, ⟨by decide, by decide, by decide⟩, by decide, Or.inl zkw_60⟩
theorem zkw_61 : Cond.fieldLink "FirstOver$Reader" 14 "FirstOver$Reader" "tape" "LFirstOver$Tape;" ∈ WS := WS_mem 393 (by decide +kernel) rfl
theorem pf_X6_14 : FP RX6 14 6 0 2 (.object "FirstOver$Tape") true := ⟨_, _, _, tyX6, rfl, by decide, ux6, zkw_61, by decide +kernel, tyX6_ok, nmX6, by decide, by decide, by decide⟩
theorem zkw_62 : Cond.fieldLink "FirstOver$Reader" 18 "FirstOver$Reader" "names" "[J" ∈ WS := WS_mem 406 (by decide +kernel) rfl
theorem pf_X6_18 : FP RX6 18 6 11 2 (.array .long) true := ⟨_, _, _, tyX6, rfl, by decide, ux6, zkw_62, by decide +kernel, tyX6_ok, nmX6, by decide, by decide, by decide⟩
theorem zkw_63 : Cond.fieldLink "FirstOver$Reader" 22 "FirstOver$Reader" "traitNames" "[J" ∈ WS := WS_mem 408 (by decide +kernel) rfl
theorem pf_X6_22 : FP RX6 22 6 13 2 (.array .long) true := ⟨_, _, _, tyX6, rfl, by decide, ux6, zkw_63, by decide +kernel, tyX6_ok, nmX6, by decide, by decide, by decide⟩
theorem zkw_64 : Cond.fieldLink "FirstOver$Reader" 27 "FirstOver$Reader" "tables" "[J" ∈ WS := WS_mem 409 (by decide +kernel) rfl
theorem pf_X6_27 : FP RX6 27 6 14 2 (.array .long) true := ⟨_, _, _, tyX6, rfl, by decide, ux6, zkw_64, by decide +kernel, tyX6_ok, nmX6, by decide, by decide, by decide⟩
theorem zkw_65 : Cond.classLink "FirstOver$Reader" 25 "FirstOver$Text" ∈ WS := WS_mem 245 (by decide +kernel) rfl
theorem zkw_66 : Cond.instantiable "FirstOver$Text" 17 ∈ WS := WS_mem 246 (by decide +kernel) rfl
theorem nw_X6_25 : NWc RX6 25 8 17 := ⟨_, _, tyX8, rfl, ux8, tyX8_ok, zkw_65, zkw_66, zkw_40, by decide +kernel, by decide +kernel⟩
theorem zkw_67 : Cond.code ⟨"FirstOver$Text", "<init>", "()V"⟩ cX8_init 1 none ∈ WS := WS_mem 249 (by decide +kernel) rfl
theorem zkw_68 : Cond.instanceMethod ⟨"FirstOver$Text", "<init>", "()V"⟩ ∈ WS := WS_mem 248 (by decide +kernel) rfl
theorem zkw_69 : Cond.methodLink "FirstOver$Reader" 30 ⟨"FirstOver$Text", "<init>", "()V"⟩ ∈ WS := WS_mem 247 (by decide +kernel) rfl
theorem ci_X6_30 : CSI RX6 30 yX8_init cX8_init 1 0 := ⟨zkw_67, zkw_68, zkw_40, rfl, ⟨by decide, by decide, by decide⟩, by decide, Or.inl zkw_69⟩
theorem zkw_70 : Cond.fieldLink "FirstOver$Reader" 31 "FirstOver$Reader" "text" "LFirstOver$Text;" ∈ WS := WS_mem 404 (by decide +kernel) rfl
theorem zfp_X6_31 : FPn RX6 31 6 9 2 (.object "FirstOver$Text") := ⟨_, _, _, tyX6, rfl, by decide, ux6, zkw_70, by decide +kernel, tyX6_ok, nmX6, by decide, by decide⟩
theorem zfl_X6_31 : FL RX6 31 6 9 2 := ⟨_, _, _, rfl, by decide, ux6, zkw_70, by decide +kernel⟩
theorem zkw_71 : Cond.fieldLink "FirstOver$Reader" 35 "FirstOver$Text" "wearsLaw" "LFirstOver$Law;" ∈ WS := WS_mem 349 (by decide +kernel) rfl
theorem zfl_X6_35 : FL RX6 35 8 14 2 := ⟨_, _, _, rfl, by decide, ux8, zkw_71, by decide +kernel⟩
theorem zkw_72 : Cond.fieldLink "FirstOver$Reader" 39 "FirstOver$Reader" "law" "LFirstOver$Law;" ∈ WS := WS_mem 405 (by decide +kernel) rfl
theorem zfp_X6_39 : FPn RX6 39 6 10 2 (.object "FirstOver$Law") := ⟨_, _, _, tyX6, rfl, by decide, ux6, zkw_72, by decide +kernel, tyX6_ok, nmX6, by decide, by decide⟩
theorem zkw_73 : Cond.methodLink "FirstOver$Keeper" 3 ⟨"java/lang/Object", "<init>", "()V"⟩ ∈ WS := WS_mem 501 (by decide +kernel) rfl
theorem oi_X3_3 : OIw RX3 3 := ⟨zkw_73, zkw_1, zkw_oc⟩
theorem zkw_74 : Cond.fieldLink "FirstOver$Keeper" 9 "FirstOver$Keeper" "vars" "[I" ∈ WS := WS_mem 504 (by decide +kernel) rfl
theorem pf_X3_9 : FP RX3 9 3 0 2 (.array .int) true := ⟨_, _, _, tyX3, rfl, by decide, ux3, zkw_74, by decide +kernel, tyX3_ok, nmX3, by decide, by decide, by decide⟩
theorem zkw_75 : Cond.fieldLink "FirstOver$Keeper" 15 "FirstOver$Keeper" "wear" "[I" ∈ WS := WS_mem 505 (by decide +kernel) rfl
theorem pf_X3_15 : FP RX3 15 3 1 2 (.array .int) true := ⟨_, _, _, tyX3, rfl, by decide, ux3, zkw_75, by decide +kernel, tyX3_ok, nmX3, by decide, by decide, by decide⟩
theorem zkw_76 : Cond.classLink "FirstOver$Keeper" 18 "FirstOver$Going" ∈ WS := WS_mem 502 (by decide +kernel) rfl
theorem zkw_77 : Cond.instantiable "FirstOver$Going" 9 ∈ WS := WS_mem 447 (by decide +kernel) rfl
theorem zkw_78 : Cond.initialized "FirstOver$Going" ∈ WS := WS_mem 128 (by decide +kernel) rfl
theorem nw_X3_18 : NWc RX3 18 1 9 := ⟨_, _, tyX1, rfl, ux1, tyX1_ok, zkw_76, zkw_77, zkw_78, by decide +kernel, by decide +kernel⟩
theorem zkw_79 : Cond.code ⟨"FirstOver$Going", "<init>", "()V"⟩ cX1_init 1 none ∈ WS := WS_mem 450 (by decide +kernel) rfl
theorem zkw_80 : Cond.instanceMethod ⟨"FirstOver$Going", "<init>", "()V"⟩ ∈ WS := WS_mem 449 (by decide +kernel) rfl
theorem ci_X3_20 : CSI RX3 20 yX1_init cX1_init 1 0 := ⟨zkw_79, zkw_80, zkw_78, rfl, ⟨by decide, by decide, by decide⟩, by decide, Or.inr (by decide +kernel)⟩
theorem zkw_81 : Cond.fieldLink "FirstOver$Keeper" 21 "FirstOver$Keeper" "would" "LFirstOver$Going;" ∈ WS := WS_mem 506 (by decide +kernel) rfl
theorem pf_X3_21 : FP RX3 21 3 2 2 (.object "FirstOver$Going") true := ⟨_, _, _, tyX3, rfl, by decide, ux3, zkw_81, by decide +kernel, tyX3_ok, nmX3, by decide, by decide, by decide⟩
theorem zkw_82 : Cond.methodLink "FirstOver$History" 3 ⟨"java/lang/Object", "<init>", "()V"⟩ ∈ WS := WS_mem 519 (by decide +kernel) rfl
theorem oi_X2_3 : OIw RX2 3 := ⟨zkw_82, zkw_1, zkw_oc⟩
theorem zkw_83 : Cond.classLink "FirstOver$History" 9 "FirstOver$Going" ∈ WS := WS_mem 520 (by decide +kernel) rfl
theorem zkw_84 : Cond.fieldLink "FirstOver$History" 11 "FirstOver$History" "kept" "[LFirstOver$Going;" ∈ WS := WS_mem 526 (by decide +kernel) rfl
theorem pf_X2_11 : FP RX2 11 2 2 2 (.array (.object "FirstOver$Going")) true := ⟨_, _, _, tyX2, rfl, by decide, ux2, zkw_84, by decide +kernel, tyX2_ok, nmX2, by decide, by decide, by decide⟩
theorem zfl_X2_11 : FL RX2 11 2 2 2 := ⟨_, _, _, rfl, by decide, ux2, zkw_84, by decide +kernel⟩
theorem nw_X2_9 : NWc RX2 9 1 9 := ⟨_, _, tyX1, rfl, ux1, tyX1_ok, zkw_83, zkw_77, zkw_78, by decide +kernel, by decide +kernel⟩
theorem ci_X2_17 : CSI RX2 17 yX1_init cX1_init 1 0 := ⟨zkw_79, zkw_80, zkw_78, rfl, ⟨by decide, by decide, by decide⟩, by decide, Or.inr (by decide +kernel)⟩
theorem zkw_85 : Cond.methodLink "FirstOver$Plan" 3 ⟨"java/lang/Object", "<init>", "()V"⟩ ∈ WS := WS_mem 563 (by decide +kernel) rfl
theorem oi_X5_3 : OIw RX5 3 := ⟨zkw_85, zkw_1, zkw_oc⟩
theorem zkw_86 : Cond.fieldLink "FirstOver$Plan" 9 "FirstOver$Plan" "bestBeing" "[I" ∈ WS := WS_mem 574 (by decide +kernel) rfl
theorem pf_X5_9 : FP RX5 9 5 4 2 (.array .int) true := ⟨_, _, _, tyX5, rfl, by decide, ux5, zkw_86, by decide +kernel, tyX5_ok, nmX5, by decide, by decide, by decide⟩
theorem zkw_87 : Cond.fieldLink "FirstOver$Plan" 15 "FirstOver$Plan" "bestWay" "[I" ∈ WS := WS_mem 576 (by decide +kernel) rfl
theorem pf_X5_15 : FP RX5 15 5 5 2 (.array .int) true := ⟨_, _, _, tyX5, rfl, by decide, ux5, zkw_87, by decide +kernel, tyX5_ok, nmX5, by decide, by decide, by decide⟩
theorem zkw_88 : Cond.classLink "FirstOver$Plan" 18 "FirstOver$Going" ∈ WS := WS_mem 564 (by decide +kernel) rfl
theorem nw_X5_18 : NWc RX5 18 1 9 := ⟨_, _, tyX1, rfl, ux1, tyX1_ok, zkw_88, zkw_77, zkw_78, by decide +kernel, by decide +kernel⟩
theorem ci_X5_20 : CSI RX5 20 yX1_init cX1_init 1 0 := ⟨zkw_79, zkw_80, zkw_78, rfl, ⟨by decide, by decide, by decide⟩, by decide, Or.inr (by decide +kernel)⟩
theorem zkw_89 : Cond.fieldLink "FirstOver$Plan" 21 "FirstOver$Plan" "then" "LFirstOver$Going;" ∈ WS := WS_mem 578 (by decide +kernel) rfl
theorem pf_X5_21 : FP RX5 21 5 6 2 (.object "FirstOver$Going") true := ⟨_, _, _, tyX5, rfl, by decide, ux5, zkw_89, by decide +kernel, tyX5_ok, nmX5, by decide, by decide, by decide⟩
theorem zkw_90 : Cond.fieldLink "FirstOver$Plan" 25 "FirstOver$Plan" "tryBeing" "[I" ∈ WS := WS_mem 579 (by decide +kernel) rfl
theorem pf_X5_25 : FP RX5 25 5 7 2 (.array .int) true := ⟨_, _, _, tyX5, rfl, by decide, ux5, zkw_90, by decide +kernel, tyX5_ok, nmX5, by decide, by decide, by decide⟩
theorem zkw_91 : Cond.fieldLink "FirstOver$Plan" 28 "FirstOver$Plan" "tryWay" "[I" ∈ WS := WS_mem 580 (by decide +kernel) rfl
theorem pf_X5_28 : FP RX5 28 5 8 2 (.array .int) true := ⟨_, _, _, tyX5, rfl, by decide, ux5, zkw_91, by decide +kernel, tyX5_ok, nmX5, by decide, by decide, by decide⟩
theorem zkw_92 : Cond.fieldLink "FirstOver$Plan" 31 "FirstOver$Plan" "isWorth" "[Z" ∈ WS := WS_mem 581 (by decide +kernel) rfl
theorem pf_X5_31 : FP RX5 31 5 9 2 (.array .boolean) true := ⟨_, _, _, tyX5, rfl, by decide, ux5, zkw_92, by decide +kernel, tyX5_ok, nmX5, by decide, by decide, by decide⟩
theorem zkw_93 : Cond.fieldLink "FirstOver$Plan" 35 "FirstOver$Plan" "price" "[I" ∈ WS := WS_mem 582 (by decide +kernel) rfl
theorem pf_X5_35 : FP RX5 35 5 10 2 (.array .int) true := ⟨_, _, _, tyX5, rfl, by decide, ux5, zkw_93, by decide +kernel, tyX5_ok, nmX5, by decide, by decide, by decide⟩
theorem zkw_94 : Cond.fieldLink "FirstOver$Plan" 38 "FirstOver$Plan" "atLeast" "[I" ∈ WS := WS_mem 583 (by decide +kernel) rfl
theorem pf_X5_38 : FP RX5 38 5 11 2 (.array .int) true := ⟨_, _, _, tyX5, rfl, by decide, ux5, zkw_94, by decide +kernel, tyX5_ok, nmX5, by decide, by decide, by decide⟩
theorem zkw_95 : Cond.methodLink "FirstOver" 3 ⟨"java/lang/Object", "<init>", "()V"⟩ ∈ WS := WS_mem 145 (by decide +kernel) rfl
theorem oi_X10_3 : OIw RX10 3 := ⟨zkw_95, zkw_1, zkw_oc⟩
theorem zkw_96 : Cond.classLink "FirstOver" 9 "FirstOver$Reader" ∈ WS := WS_mem 148 (by decide +kernel) rfl
theorem zkw_97 : Cond.instantiable "FirstOver$Reader" 16 ∈ WS := WS_mem 149 (by decide +kernel) rfl
theorem zkw_98 : Cond.initialized "FirstOver$Reader" ∈ WS := WS_mem 120 (by decide +kernel) rfl
theorem nw_X10_9 : NWc RX10 9 6 16 := ⟨_, _, tyX6, rfl, ux6, tyX6_ok, zkw_96, zkw_97, zkw_98, by decide +kernel, by decide +kernel⟩
theorem zkw_99 : Cond.code ⟨"FirstOver$Reader", "<init>", "()V"⟩ cX6_init 1 none ∈ WS := WS_mem 152 (by decide +kernel) rfl
theorem zkw_100 : Cond.instanceMethod ⟨"FirstOver$Reader", "<init>", "()V"⟩ ∈ WS := WS_mem 151 (by decide +kernel) rfl
theorem zkw_101 : Cond.methodLink "FirstOver" 11 ⟨"FirstOver$Reader", "<init>", "()V"⟩ ∈ WS := WS_mem 150 (by decide +kernel) rfl
theorem ci_X10_11 : CSI RX10 11 yX6_init cX6_init 1 0 := ⟨zkw_99, zkw_100, zkw_98, rfl, ⟨by decide, by decide, by decide⟩, by decide, Or.inl zkw_101⟩
theorem zkw_102 : Cond.fieldLink "FirstOver" 12 "FirstOver" "reader" "LFirstOver$Reader;" ∈ WS := WS_mem 623 (by decide +kernel) rfl
theorem pf_X10_12 : FP RX10 12 10 0 2 (.object "FirstOver$Reader") true := ⟨_, _, _, tyX10, rfl, by decide, ux10, zkw_102, by decide +kernel, tyX10_ok, nmX10, by decide, by decide, by decide⟩
theorem zkw_103 : Cond.fieldLink "FirstOver" 16 "FirstOver" "faultPlace" "I" ∈ WS := WS_mem 624 (by decide +kernel) rfl
theorem zfp_X10_16 : FPn RX10 16 10 1 0 .int := ⟨_, _, _, tyX10, rfl, by decide, ux10, zkw_103, by decide +kernel, tyX10_ok, nmX10, by decide, by decide⟩
theorem zkw_104 : Cond.classLink "FirstOver" 20 "FirstOver$Text" ∈ WS := WS_mem 444 (by decide +kernel) rfl
theorem nw_X10_20 : NWc RX10 20 8 17 := ⟨_, _, tyX8, rfl, ux8, tyX8_ok, zkw_104, zkw_66, zkw_40, by decide +kernel, by decide +kernel⟩
theorem zkw_105 : Cond.methodLink "FirstOver" 22 ⟨"FirstOver$Text", "<init>", "()V"⟩ ∈ WS := WS_mem 445 (by decide +kernel) rfl
theorem ci_X10_22 : CSI RX10 22 yX8_init cX8_init 1 0 := ⟨zkw_67, zkw_68, zkw_40, rfl, ⟨by decide, by decide, by decide⟩, by decide, Or.inl zkw_105⟩
theorem zkw_106 : Cond.fieldLink "FirstOver" 23 "FirstOver" "text" "LFirstOver$Text;" ∈ WS := WS_mem 625 (by decide +kernel) rfl
theorem zfp_X10_23 : FPn RX10 23 10 2 2 (.object "FirstOver$Text") := ⟨_, _, _, tyX10, rfl, by decide, ux10, zkw_106, by decide +kernel, tyX10_ok, nmX10, by decide, by decide⟩
theorem zkw_107 : Cond.classLink "FirstOver" 27 "FirstOver$Going" ∈ WS := WS_mem 446 (by decide +kernel) rfl
theorem nw_X10_27 : NWc RX10 27 1 9 := ⟨_, _, tyX1, rfl, ux1, tyX1_ok, zkw_107, zkw_77, zkw_78, by decide +kernel, by decide +kernel⟩
theorem ci_X10_29 : CSI RX10 29 yX1_init cX1_init 1 0 := ⟨zkw_79, zkw_80, zkw_78, rfl, ⟨by decide, by decide, by decide⟩, by decide, Or.inr (by decide +kernel)⟩
theorem zkw_108 : Cond.fieldLink "FirstOver" 30 "FirstOver" "now" "LFirstOver$Going;" ∈ WS := WS_mem 626 (by decide +kernel) rfl
theorem pf_X10_30 : FP RX10 30 10 3 2 (.object "FirstOver$Going") true := ⟨_, _, _, tyX10, rfl, by decide, ux10, zkw_108, by decide +kernel, tyX10_ok, nmX10, by decide, by decide, by decide⟩
theorem zkw_109 : Cond.classLink "FirstOver" 34 "FirstOver$Keeper" ∈ WS := WS_mem 496 (by decide +kernel) rfl
theorem zkw_110 : Cond.instantiable "FirstOver$Keeper" 3 ∈ WS := WS_mem 497 (by decide +kernel) rfl
theorem zkw_111 : Cond.initialized "FirstOver$Keeper" ∈ WS := WS_mem 129 (by decide +kernel) rfl
theorem nw_X10_34 : NWc RX10 34 3 3 := ⟨_, _, tyX3, rfl, ux3, tyX3_ok, zkw_109, zkw_110, zkw_111, by decide +kernel, by decide +kernel⟩
theorem zkw_112 : Cond.code ⟨"FirstOver$Keeper", "<init>", "()V"⟩ cX3_init 1 none ∈ WS := WS_mem 500 (by decide +kernel) rfl
theorem zkw_113 : Cond.instanceMethod ⟨"FirstOver$Keeper", "<init>", "()V"⟩ ∈ WS := WS_mem 499 (by decide +kernel) rfl
theorem ci_X10_36 : CSI RX10 36 yX3_init cX3_init 1 0 := ⟨zkw_112, zkw_113, zkw_111, rfl, ⟨by decide, by decide, by decide⟩, by decide, Or.inr (by decide +kernel)⟩
theorem zkw_114 : Cond.fieldLink "FirstOver" 37 "FirstOver" "keeper" "LFirstOver$Keeper;" ∈ WS := WS_mem 627 (by decide +kernel) rfl
theorem pf_X10_37 : FP RX10 37 10 4 2 (.object "FirstOver$Keeper") true := ⟨_, _, _, tyX10, rfl, by decide, ux10, zkw_114, by decide +kernel, tyX10_ok, nmX10, by decide, by decide, by decide⟩
theorem zkw_115 : Cond.classLink "FirstOver" 41 "FirstOver$History" ∈ WS := WS_mem 514 (by decide +kernel) rfl
theorem zkw_116 : Cond.instantiable "FirstOver$History" 3 ∈ WS := WS_mem 515 (by decide +kernel) rfl
theorem zkw_117 : Cond.initialized "FirstOver$History" ∈ WS := WS_mem 130 (by decide +kernel) rfl
theorem nw_X10_41 : NWc RX10 41 2 3 := ⟨_, _, tyX2, rfl, ux2, tyX2_ok, zkw_115, zkw_116, zkw_117, by decide +kernel, by decide +kernel⟩
theorem zkw_118 : Cond.code ⟨"FirstOver$History", "<init>", "()V"⟩ cX2_init 2 none ∈ WS := WS_mem 518 (by decide +kernel) rfl
theorem zkw_119 : Cond.instanceMethod ⟨"FirstOver$History", "<init>", "()V"⟩ ∈ WS := WS_mem 517 (by decide +kernel) rfl
theorem zkw_120 : Cond.methodLink "FirstOver" 43 ⟨"FirstOver$History", "<init>", "()V"⟩ ∈ WS := WS_mem 516 (by decide +kernel) rfl
theorem ci_X10_43 : CSI RX10 43 yX2_init cX2_init 2 0 := ⟨zkw_118, zkw_119, zkw_117, rfl, ⟨by decide, by decide, by decide⟩, by decide, Or.inl zkw_120⟩
theorem zkw_121 : Cond.fieldLink "FirstOver" 44 "FirstOver" "history" "LFirstOver$History;" ∈ WS := WS_mem 628 (by decide +kernel) rfl
theorem pf_X10_44 : FP RX10 44 10 5 2 (.object "FirstOver$History") true := ⟨_, _, _, tyX10, rfl, by decide, ux10, zkw_121, by decide +kernel, tyX10_ok, nmX10, by decide, by decide, by decide⟩
theorem zkw_122 : Cond.fieldLink "FirstOver" 48 "FirstOver" "slots" "[LFirstOver$Going;" ∈ WS := WS_mem 629 (by decide +kernel) rfl
theorem pf_X10_48 : FP RX10 48 10 6 2 (.array (.object "FirstOver$Going")) true := ⟨_, _, _, tyX10, rfl, by decide, ux10, zkw_122, by decide +kernel, tyX10_ok, nmX10, by decide, by decide, by decide⟩
theorem zfl_X10_48 : FL RX10 48 10 6 2 := ⟨_, _, _, rfl, by decide, ux10, zkw_122, by decide +kernel⟩
theorem zkw_123 : Cond.fieldLink "FirstOver" 52 "FirstOver" "slotsHeld" "I" ∈ WS := WS_mem 630 (by decide +kernel) rfl
theorem zfp_X10_52 : FPn RX10 52 10 7 0 .int := ⟨_, _, _, tyX10, rfl, by decide, ux10, zkw_123, by decide +kernel, tyX10_ok, nmX10, by decide, by decide⟩
theorem zkw_124 : Cond.classLink "FirstOver" 55 "FirstOver$Told" ∈ WS := WS_mem 534 (by decide +kernel) rfl
theorem zkw_125 : Cond.instantiable "FirstOver$Told" 5 ∈ WS := WS_mem 535 (by decide +kernel) rfl
theorem zkw_126 : Cond.initialized "FirstOver$Told" ∈ WS := WS_mem 131 (by decide +kernel) rfl
theorem nw_X10_55 : NWc RX10 55 9 5 := ⟨_, _, tyX9, rfl, ux9, tyX9_ok, zkw_124, zkw_125, zkw_126, by decide +kernel, by decide +kernel⟩
theorem zkw_127 : Cond.code ⟨"FirstOver$Told", "<init>", "()V"⟩ cX9_init 1 none ∈ WS := WS_mem 538 (by decide +kernel) rfl
theorem zkw_128 : Cond.instanceMethod ⟨"FirstOver$Told", "<init>", "()V"⟩ ∈ WS := WS_mem 537 (by decide +kernel) rfl
theorem ci_X10_57 : CSI RX10 57 yX9_init cX9_init 1 0 := ⟨zkw_127, zkw_128, zkw_126, rfl, ⟨by decide, by decide, by decide⟩, by decide, Or.inr (by decide +kernel)⟩
theorem zkw_129 : Cond.fieldLink "FirstOver" 58 "FirstOver" "told" "LFirstOver$Told;" ∈ WS := WS_mem 631 (by decide +kernel) rfl
theorem pf_X10_58 : FP RX10 58 10 8 2 (.object "FirstOver$Told") true := ⟨_, _, _, tyX10, rfl, by decide, ux10, zkw_129, by decide +kernel, tyX10_ok, nmX10, by decide, by decide, by decide⟩
theorem zkw_130 : Cond.classLink "FirstOver" 62 "FirstOver$Plan" ∈ WS := WS_mem 558 (by decide +kernel) rfl
theorem zkw_131 : Cond.instantiable "FirstOver$Plan" 12 ∈ WS := WS_mem 559 (by decide +kernel) rfl
theorem zkw_132 : Cond.initialized "FirstOver$Plan" ∈ WS := WS_mem 132 (by decide +kernel) rfl
theorem nw_X10_62 : NWc RX10 62 5 12 := ⟨_, _, tyX5, rfl, ux5, tyX5_ok, zkw_130, zkw_131, zkw_132, by decide +kernel, by decide +kernel⟩
theorem zkw_133 : Cond.code ⟨"FirstOver$Plan", "<init>", "()V"⟩ cX5_init 1 none ∈ WS := WS_mem 562 (by decide +kernel) rfl
theorem zkw_134 : Cond.instanceMethod ⟨"FirstOver$Plan", "<init>", "()V"⟩ ∈ WS := WS_mem 561 (by decide +kernel) rfl
theorem ci_X10_64 : CSI RX10 64 yX5_init cX5_init 1 0 := ⟨zkw_133, zkw_134, zkw_132, rfl, ⟨by decide, by decide, by decide⟩, by decide, Or.inr (by decide +kernel)⟩
theorem zkw_135 : Cond.fieldLink "FirstOver" 65 "FirstOver" "plan" "LFirstOver$Plan;" ∈ WS := WS_mem 632 (by decide +kernel) rfl
theorem pf_X10_65 : FP RX10 65 10 9 2 (.object "FirstOver$Plan") true := ⟨_, _, _, tyX10, rfl, by decide, ux10, zkw_135, by decide +kernel, tyX10_ok, nmX10, by decide, by decide, by decide⟩
theorem zkw_136 : Cond.classLink "FirstOver" 69 "FirstOver$Cheated" ∈ WS := WS_mem 609 (by decide +kernel) rfl
theorem zkw_137 : Cond.instantiable "FirstOver$Cheated" 2 ∈ WS := WS_mem 610 (by decide +kernel) rfl
theorem zkw_138 : Cond.initialized "FirstOver$Cheated" ∈ WS := WS_mem 133 (by decide +kernel) rfl
theorem nw_X10_69 : NWc RX10 69 0 2 := ⟨_, _, tyX0, rfl, ux0, tyX0_ok, zkw_136, zkw_137, zkw_138, by decide +kernel, by decide +kernel⟩
theorem zkw_139 : Cond.code ⟨"FirstOver$Cheated", "<init>", "()V"⟩ cX0_init 1 none ∈ WS := WS_mem 613 (by decide +kernel) rfl
theorem zkw_140 : Cond.instanceMethod ⟨"FirstOver$Cheated", "<init>", "()V"⟩ ∈ WS := WS_mem 612 (by decide +kernel) rfl
theorem ci_X10_71 : CSI RX10 71 yX0_init cX0_init 1 0 := ⟨zkw_139, zkw_140, zkw_138, rfl, ⟨by decide, by decide, by decide⟩, by decide, Or.inr (by decide +kernel)⟩
theorem zkw_141 : Cond.fieldLink "FirstOver" 72 "FirstOver" "cheated" "LFirstOver$Cheated;" ∈ WS := WS_mem 633 (by decide +kernel) rfl
theorem pf_X10_72 : FP RX10 72 10 10 2 (.object "FirstOver$Cheated") true := ⟨_, _, _, tyX10, rfl, by decide, ux10, zkw_141, by decide +kernel, tyX10_ok, nmX10, by decide, by decide, by decide⟩
theorem zkw_142 : Cond.methodLink "FirstOverModel" 7 ⟨"java/lang/Object", "<init>", "()V"⟩ ∈ WS := WS_mem 1269 (by decide +kernel) rfl
theorem oi_X11_7 : OIw RX11 7 := ⟨zkw_142, zkw_1, zkw_oc⟩
theorem zkw_143 : Cond.fieldLink "FirstOverModel" 13 "FirstOverModel" "tape" "[B" ∈ WS := WS_mem 1289 (by decide +kernel) rfl
theorem pf_X11_13 : FP RX11 13 11 1 2 (.array .byte) true := ⟨_, _, _, tyX11, rfl, by decide, ux11, zkw_143, by decide +kernel, tyX11_ok, nmX11, by decide, by decide, by decide⟩
theorem zkw_144 : Cond.fieldLink "FirstOverModel" 17 "FirstOverModel" "text" "[B" ∈ WS := WS_mem 1291 (by decide +kernel) rfl
theorem pf_X11_17 : FP RX11 17 11 3 2 (.array .byte) true := ⟨_, _, _, tyX11, rfl, by decide, ux11, zkw_144, by decide +kernel, tyX11_ok, nmX11, by decide, by decide, by decide⟩
theorem zkw_145 : Cond.fieldLink "FirstOverModel" 20 "FirstOverModel" "tKind" "[I" ∈ WS := WS_mem 1293 (by decide +kernel) rfl
theorem pf_X11_20 : FP RX11 20 11 5 2 (.array .int) true := ⟨_, _, _, tyX11, rfl, by decide, ux11, zkw_145, by decide +kernel, tyX11_ok, nmX11, by decide, by decide, by decide⟩
theorem zkw_146 : Cond.fieldLink "FirstOverModel" 24 "FirstOverModel" "tPlace" "[I" ∈ WS := WS_mem 1294 (by decide +kernel) rfl
theorem pf_X11_24 : FP RX11 24 11 6 2 (.array .int) true := ⟨_, _, _, tyX11, rfl, by decide, ux11, zkw_146, by decide +kernel, tyX11_ok, nmX11, by decide, by decide, by decide⟩
theorem zkw_147 : Cond.fieldLink "FirstOverModel" 27 "FirstOverModel" "tValue" "[I" ∈ WS := WS_mem 1295 (by decide +kernel) rfl
theorem pf_X11_27 : FP RX11 27 11 7 2 (.array .int) true := ⟨_, _, _, tyX11, rfl, by decide, ux11, zkw_147, by decide +kernel, tyX11_ok, nmX11, by decide, by decide, by decide⟩
theorem zkw_148 : Cond.fieldLink "FirstOverModel" 30 "FirstOverModel" "tName" "[J" ∈ WS := WS_mem 1296 (by decide +kernel) rfl
theorem pf_X11_30 : FP RX11 30 11 8 2 (.array .long) true := ⟨_, _, _, tyX11, rfl, by decide, ux11, zkw_148, by decide +kernel, tyX11_ok, nmX11, by decide, by decide, by decide⟩
theorem zkw_149 : Cond.fieldLink "FirstOverModel" 34 "FirstOverModel" "keys" "[J" ∈ WS := WS_mem 1297 (by decide +kernel) rfl
theorem pf_X11_34 : FP RX11 34 11 9 2 (.array .long) true := ⟨_, _, _, tyX11, rfl, by decide, ux11, zkw_149, by decide +kernel, tyX11_ok, nmX11, by decide, by decide, by decide⟩
theorem zkw_150 : Cond.fieldLink "FirstOverModel" 37 "FirstOverModel" "place" "I" ∈ WS := WS_mem 1305 (by decide +kernel) rfl
theorem zfp_X11_37 : FPn RX11 37 11 17 0 .int := ⟨_, _, _, tyX11, rfl, by decide, ux11, zkw_150, by decide +kernel, tyX11_ok, nmX11, by decide, by decide⟩
theorem zkw_151 : Cond.fieldLink "FirstOverModel" 40 "FirstOverModel" "nameOf" "[J" ∈ WS := WS_mem 1309 (by decide +kernel) rfl
theorem pf_X11_40 : FP RX11 40 11 21 2 (.array .long) true := ⟨_, _, _, tyX11, rfl, by decide, ux11, zkw_151, by decide +kernel, tyX11_ok, nmX11, by decide, by decide, by decide⟩
theorem zkw_152 : Cond.fieldLink "FirstOverModel" 43 "FirstOverModel" "nameAt" "[I" ∈ WS := WS_mem 1310 (by decide +kernel) rfl
theorem pf_X11_43 : FP RX11 43 11 22 2 (.array .int) true := ⟨_, _, _, tyX11, rfl, by decide, ux11, zkw_152, by decide +kernel, tyX11_ok, nmX11, by decide, by decide, by decide⟩
theorem zkw_153 : Cond.fieldLink "FirstOverModel" 46 "FirstOverModel" "traits" "[I" ∈ WS := WS_mem 1311 (by decide +kernel) rfl
theorem pf_X11_46 : FP RX11 46 11 23 2 (.array .int) true := ⟨_, _, _, tyX11, rfl, by decide, ux11, zkw_153, by decide +kernel, tyX11_ok, nmX11, by decide, by decide, by decide⟩
theorem zkw_154 : Cond.fieldLink "FirstOverModel" 49 "FirstOverModel" "beings" "[I" ∈ WS := WS_mem 1312 (by decide +kernel) rfl
theorem pf_X11_49 : FP RX11 49 11 24 2 (.array .int) true := ⟨_, _, _, tyX11, rfl, by decide, ux11, zkw_154, by decide +kernel, tyX11_ok, nmX11, by decide, by decide, by decide⟩
theorem zkw_155 : Cond.fieldLink "FirstOverModel" 52 "FirstOverModel" "lossOf" "[I" ∈ WS := WS_mem 1313 (by decide +kernel) rfl
theorem pf_X11_52 : FP RX11 52 11 25 2 (.array .int) true := ⟨_, _, _, tyX11, rfl, by decide, ux11, zkw_155, by decide +kernel, tyX11_ok, nmX11, by decide, by decide, by decide⟩
theorem zkw_156 : Cond.fieldLink "FirstOverModel" 55 "FirstOverModel" "traitsOf" "[I" ∈ WS := WS_mem 1314 (by decide +kernel) rfl
theorem pf_X11_55 : FP RX11 55 11 26 2 (.array .int) true := ⟨_, _, _, tyX11, rfl, by decide, ux11, zkw_156, by decide +kernel, tyX11_ok, nmX11, by decide, by decide, by decide⟩
theorem zkw_157 : Cond.fieldLink "FirstOverModel" 58 "FirstOverModel" "ways" "[I" ∈ WS := WS_mem 1315 (by decide +kernel) rfl
theorem pf_X11_58 : FP RX11 58 11 27 2 (.array .int) true := ⟨_, _, _, tyX11, rfl, by decide, ux11, zkw_157, by decide +kernel, tyX11_ok, nmX11, by decide, by decide, by decide⟩
theorem zkw_158 : Cond.fieldLink "FirstOverModel" 61 "FirstOverModel" "costOf" "[I" ∈ WS := WS_mem 1316 (by decide +kernel) rfl
theorem pf_X11_61 : FP RX11 61 11 28 2 (.array .int) true := ⟨_, _, _, tyX11, rfl, by decide, ux11, zkw_158, by decide +kernel, tyX11_ok, nmX11, by decide, by decide, by decide⟩
theorem zkw_159 : Cond.fieldLink "FirstOverModel" 64 "FirstOverModel" "givesOf" "[I" ∈ WS := WS_mem 1317 (by decide +kernel) rfl
theorem pf_X11_64 : FP RX11 64 11 29 2 (.array .int) true := ⟨_, _, _, tyX11, rfl, by decide, ux11, zkw_159, by decide +kernel, tyX11_ok, nmX11, by decide, by decide, by decide⟩
theorem zkw_160 : Cond.fieldLink "FirstOverModel" 67 "FirstOverModel" "dropsOf" "[I" ∈ WS := WS_mem 1318 (by decide +kernel) rfl
theorem pf_X11_67 : FP RX11 67 11 30 2 (.array .int) true := ⟨_, _, _, tyX11, rfl, by decide, ux11, zkw_160, by decide +kernel, tyX11_ok, nmX11, by decide, by decide, by decide⟩
theorem zkw_161 : Cond.fieldLink "FirstOverModel" 70 "FirstOverModel" "bridges" "[I" ∈ WS := WS_mem 1319 (by decide +kernel) rfl
theorem pf_X11_70 : FP RX11 70 11 31 2 (.array .int) true := ⟨_, _, _, tyX11, rfl, by decide, ux11, zkw_161, by decide +kernel, tyX11_ok, nmX11, by decide, by decide, by decide⟩
theorem zkw_162 : Cond.fieldLink "FirstOverModel" 73 "FirstOverModel" "stonesTold" "[I" ∈ WS := WS_mem 1320 (by decide +kernel) rfl
theorem pf_X11_73 : FP RX11 73 11 32 2 (.array .int) true := ⟨_, _, _, tyX11, rfl, by decide, ux11, zkw_162, by decide +kernel, tyX11_ok, nmX11, by decide, by decide, by decide⟩
theorem zkw_163 : Cond.fieldLink "FirstOverModel" 76 "FirstOverModel" "loadOf" "[I" ∈ WS := WS_mem 1321 (by decide +kernel) rfl
theorem pf_X11_76 : FP RX11 76 11 33 2 (.array .int) true := ⟨_, _, _, tyX11, rfl, by decide, ux11, zkw_163, by decide +kernel, tyX11_ok, nmX11, by decide, by decide, by decide⟩
theorem zkw_164 : Cond.fieldLink "FirstOverModel" 79 "FirstOverModel" "clauseFrom" "[I" ∈ WS := WS_mem 1322 (by decide +kernel) rfl
theorem pf_X11_79 : FP RX11 79 11 34 2 (.array .int) true := ⟨_, _, _, tyX11, rfl, by decide, ux11, zkw_164, by decide +kernel, tyX11_ok, nmX11, by decide, by decide, by decide⟩
theorem zkw_165 : Cond.fieldLink "FirstOverModel" 82 "FirstOverModel" "clauseTo" "[I" ∈ WS := WS_mem 1323 (by decide +kernel) rfl
theorem pf_X11_82 : FP RX11 82 11 35 2 (.array .int) true := ⟨_, _, _, tyX11, rfl, by decide, ux11, zkw_165, by decide +kernel, tyX11_ok, nmX11, by decide, by decide, by decide⟩
theorem zkw_166 : Cond.fieldLink "FirstOverModel" 85 "FirstOverModel" "clause" "[I" ∈ WS := WS_mem 1325 (by decide +kernel) rfl
theorem pf_X11_85 : FP RX11 85 11 37 2 (.array .int) true := ⟨_, _, _, tyX11, rfl, by decide, ux11, zkw_166, by decide +kernel, tyX11_ok, nmX11, by decide, by decide, by decide⟩
theorem zkw_167 : Cond.fieldLink "FirstOverModel" 88 "FirstOverModel" "storm" "[I" ∈ WS := WS_mem 1326 (by decide +kernel) rfl
theorem pf_X11_88 : FP RX11 88 11 38 2 (.array .int) true := ⟨_, _, _, tyX11, rfl, by decide, ux11, zkw_167, by decide +kernel, tyX11_ok, nmX11, by decide, by decide, by decide⟩
theorem zkw_168 : Cond.fieldLink "FirstOverModel" 91 "FirstOverModel" "seed" "[I" ∈ WS := WS_mem 1327 (by decide +kernel) rfl
theorem pf_X11_91 : FP RX11 91 11 39 2 (.array .int) true := ⟨_, _, _, tyX11, rfl, by decide, ux11, zkw_168, by decide +kernel, tyX11_ok, nmX11, by decide, by decide, by decide⟩
theorem zkw_169 : Cond.fieldLink "FirstOverModel" 94 "FirstOverModel" "lawFirst" "[I" ∈ WS := WS_mem 1328 (by decide +kernel) rfl
theorem pf_X11_94 : FP RX11 94 11 40 2 (.array .int) true := ⟨_, _, _, tyX11, rfl, by decide, ux11, zkw_169, by decide +kernel, tyX11_ok, nmX11, by decide, by decide, by decide⟩
theorem zkw_170 : Cond.fieldLink "FirstOverModel" 97 "FirstOverModel" "lawLast" "[I" ∈ WS := WS_mem 1329 (by decide +kernel) rfl
theorem pf_X11_97 : FP RX11 97 11 41 2 (.array .int) true := ⟨_, _, _, tyX11, rfl, by decide, ux11, zkw_170, by decide +kernel, tyX11_ok, nmX11, by decide, by decide, by decide⟩
theorem zkw_171 : Cond.fieldLink "FirstOverModel" 100 "FirstOverModel" "hasTest" "[Z" ∈ WS := WS_mem 1331 (by decide +kernel) rfl
theorem pf_X11_100 : FP RX11 100 11 43 2 (.array .boolean) true := ⟨_, _, _, tyX11, rfl, by decide, ux11, zkw_171, by decide +kernel, tyX11_ok, nmX11, by decide, by decide, by decide⟩
theorem zkw_172 : Cond.fieldLink "FirstOverModel" 104 "FirstOverModel" "testFrom" "[I" ∈ WS := WS_mem 1332 (by decide +kernel) rfl
theorem pf_X11_104 : FP RX11 104 11 44 2 (.array .int) true := ⟨_, _, _, tyX11, rfl, by decide, ux11, zkw_172, by decide +kernel, tyX11_ok, nmX11, by decide, by decide, by decide⟩
theorem zkw_173 : Cond.fieldLink "FirstOverModel" 107 "FirstOverModel" "testMid" "[I" ∈ WS := WS_mem 1333 (by decide +kernel) rfl
theorem pf_X11_107 : FP RX11 107 11 45 2 (.array .int) true := ⟨_, _, _, tyX11, rfl, by decide, ux11, zkw_173, by decide +kernel, tyX11_ok, nmX11, by decide, by decide, by decide⟩
theorem zkw_174 : Cond.fieldLink "FirstOverModel" 110 "FirstOverModel" "testTo" "[I" ∈ WS := WS_mem 1334 (by decide +kernel) rfl
theorem pf_X11_110 : FP RX11 110 11 46 2 (.array .int) true := ⟨_, _, _, tyX11, rfl, by decide, ux11, zkw_174, by decide +kernel, tyX11_ok, nmX11, by decide, by decide, by decide⟩
theorem zkw_175 : Cond.fieldLink "FirstOverModel" 113 "FirstOverModel" "termTo" "[I" ∈ WS := WS_mem 1335 (by decide +kernel) rfl
theorem pf_X11_113 : FP RX11 113 11 47 2 (.array .int) true := ⟨_, _, _, tyX11, rfl, by decide, ux11, zkw_175, by decide +kernel, tyX11_ok, nmX11, by decide, by decide, by decide⟩
theorem zkw_176 : Cond.fieldLink "FirstOverModel" 116 "FirstOverModel" "code" "[I" ∈ WS := WS_mem 1337 (by decide +kernel) rfl
theorem pf_X11_116 : FP RX11 116 11 49 2 (.array .int) true := ⟨_, _, _, tyX11, rfl, by decide, ux11, zkw_176, by decide +kernel, tyX11_ok, nmX11, by decide, by decide, by decide⟩
theorem zkw_177 : Cond.fieldLink "FirstOverModel" 119 "FirstOverModel" "codeInt" "[I" ∈ WS := WS_mem 1338 (by decide +kernel) rfl
theorem pf_X11_119 : FP RX11 119 11 50 2 (.array .int) true := ⟨_, _, _, tyX11, rfl, by decide, ux11, zkw_177, by decide +kernel, tyX11_ok, nmX11, by decide, by decide, by decide⟩
theorem zkw_178 : Cond.fieldLink "FirstOverModel" 122 "FirstOverModel" "wordsWait" "[I" ∈ WS := WS_mem 1339 (by decide +kernel) rfl
theorem pf_X11_122 : FP RX11 122 11 51 2 (.array .int) true := ⟨_, _, _, tyX11, rfl, by decide, ux11, zkw_178, by decide +kernel, tyX11_ok, nmX11, by decide, by decide, by decide⟩
theorem zkw_179 : Cond.fieldLink "FirstOverModel" 125 "FirstOverModel" "waits" "[I" ∈ WS := WS_mem 1341 (by decide +kernel) rfl
theorem pf_X11_125 : FP RX11 125 11 53 2 (.array .int) true := ⟨_, _, _, tyX11, rfl, by decide, ux11, zkw_179, by decide +kernel, tyX11_ok, nmX11, by decide, by decide, by decide⟩
theorem zkw_180 : Cond.fieldLink "FirstOverModel" 128 "FirstOverModel" "variables" "[I" ∈ WS := WS_mem 1343 (by decide +kernel) rfl
theorem pf_X11_128 : FP RX11 128 11 55 2 (.array .int) true := ⟨_, _, _, tyX11, rfl, by decide, ux11, zkw_180, by decide +kernel, tyX11_ok, nmX11, by decide, by decide, by decide⟩
theorem zkw_181 : Cond.fieldLink "FirstOverModel" 131 "FirstOverModel" "pile" "[I" ∈ WS := WS_mem 1344 (by decide +kernel) rfl
theorem pf_X11_131 : FP RX11 131 11 56 2 (.array .int) true := ⟨_, _, _, tyX11, rfl, by decide, ux11, zkw_181, by decide +kernel, tyX11_ok, nmX11, by decide, by decide, by decide⟩
theorem zkw_182 : Cond.fieldLink "FirstOverModel" 134 "FirstOverModel" "now" "[I" ∈ WS := WS_mem 1346 (by decide +kernel) rfl
theorem pf_X11_134 : FP RX11 134 11 58 2 (.array .int) true := ⟨_, _, _, tyX11, rfl, by decide, ux11, zkw_182, by decide +kernel, tyX11_ok, nmX11, by decide, by decide, by decide⟩
theorem zkw_183 : Cond.fieldLink "FirstOverModel" 137 "FirstOverModel" "row" "[I" ∈ WS := WS_mem 1347 (by decide +kernel) rfl
theorem pf_X11_137 : FP RX11 137 11 59 2 (.array .int) true := ⟨_, _, _, tyX11, rfl, by decide, ux11, zkw_183, by decide +kernel, tyX11_ok, nmX11, by decide, by decide, by decide⟩
theorem zkw_184 : Cond.fieldLink "FirstOverModel" 140 "FirstOverModel" "wordPile" "[Z" ∈ WS := WS_mem 1350 (by decide +kernel) rfl
theorem pf_X11_140 : FP RX11 140 11 62 2 (.array .boolean) true := ⟨_, _, _, tyX11, rfl, by decide, ux11, zkw_184, by decide +kernel, tyX11_ok, nmX11, by decide, by decide, by decide⟩
theorem zkw_185 : Cond.fieldLink "FirstOverModel" 143 "FirstOverModel" "stonesThen" "[I" ∈ WS := WS_mem 1351 (by decide +kernel) rfl
theorem pf_X11_143 : FP RX11 143 11 63 2 (.array .int) true := ⟨_, _, _, tyX11, rfl, by decide, ux11, zkw_185, by decide +kernel, tyX11_ok, nmX11, by decide, by decide, by decide⟩
theorem zkw_186 : Cond.fieldLink "FirstOverModel" 146 "FirstOverModel" "history" "[I" ∈ WS := WS_mem 1353 (by decide +kernel) rfl
theorem pf_X11_146 : FP RX11 146 11 65 2 (.array .int) true := ⟨_, _, _, tyX11, rfl, by decide, ux11, zkw_186, by decide +kernel, tyX11_ok, nmX11, by decide, by decide, by decide⟩
theorem zkw_187 : Cond.fieldLink "FirstOverModel" 149 "FirstOverModel" "cheatSets" "[I" ∈ WS := WS_mem 1354 (by decide +kernel) rfl
theorem pf_X11_149 : FP RX11 149 11 66 2 (.array .int) true := ⟨_, _, _, tyX11, rfl, by decide, ux11, zkw_187, by decide +kernel, tyX11_ok, nmX11, by decide, by decide, by decide⟩
theorem zkw_188 : Cond.fieldLink "FirstOverModel" 152 "FirstOverModel" "turnOf" "[I" ∈ WS := WS_mem 1356 (by decide +kernel) rfl
theorem pf_X11_152 : FP RX11 152 11 68 2 (.array .int) true := ⟨_, _, _, tyX11, rfl, by decide, ux11, zkw_188, by decide +kernel, tyX11_ok, nmX11, by decide, by decide, by decide⟩
theorem zkw_189 : Cond.fieldLink "FirstOverModel" 155 "FirstOverModel" "pickOf" "[I" ∈ WS := WS_mem 1358 (by decide +kernel) rfl
theorem pf_X11_155 : FP RX11 155 11 70 2 (.array .int) true := ⟨_, _, _, tyX11, rfl, by decide, ux11, zkw_189, by decide +kernel, tyX11_ok, nmX11, by decide, by decide, by decide⟩
theorem zkw_190 : Cond.fieldLink "FirstOverModel" 158 "FirstOverModel" "learntAhead" "[I" ∈ WS := WS_mem 1359 (by decide +kernel) rfl
theorem pf_X11_158 : FP RX11 158 11 71 2 (.array .int) true := ⟨_, _, _, tyX11, rfl, by decide, ux11, zkw_190, by decide +kernel, tyX11_ok, nmX11, by decide, by decide, by decide⟩
theorem zkw_191 : Cond.fieldLink "FirstOverModel" 161 "FirstOverModel" "bestPick" "[I" ∈ WS := WS_mem 1360 (by decide +kernel) rfl
theorem pf_X11_161 : FP RX11 161 11 72 2 (.array .int) true := ⟨_, _, _, tyX11, rfl, by decide, ux11, zkw_191, by decide +kernel, tyX11_ok, nmX11, by decide, by decide, by decide⟩
theorem zkw_192 : Cond.fieldLink "FirstOverModel" 164 "FirstOverModel" "toldTrait" "[I" ∈ WS := WS_mem 1363 (by decide +kernel) rfl
theorem pf_X11_164 : FP RX11 164 11 75 2 (.array .int) true := ⟨_, _, _, tyX11, rfl, by decide, ux11, zkw_192, by decide +kernel, tyX11_ok, nmX11, by decide, by decide, by decide⟩
theorem zkw_193 : Cond.fieldLink "FirstOverModel" 167 "FirstOverModel" "toldHad" "[Z" ∈ WS := WS_mem 1364 (by decide +kernel) rfl
theorem pf_X11_167 : FP RX11 167 11 76 2 (.array .boolean) true := ⟨_, _, _, tyX11, rfl, by decide, ux11, zkw_193, by decide +kernel, tyX11_ok, nmX11, by decide, by decide, by decide⟩
theorem zkw_194 : Cond.fieldLink "FirstOverModel" 170 "FirstOverModel" "isHeld" "[Z" ∈ WS := WS_mem 1365 (by decide +kernel) rfl
theorem pf_X11_170 : FP RX11 170 11 77 2 (.array .boolean) true := ⟨_, _, _, tyX11, rfl, by decide, ux11, zkw_194, by decide +kernel, tyX11_ok, nmX11, by decide, by decide, by decide⟩
theorem zkw_195 : Cond.fieldLink "FirstOverModel" 173 "FirstOverModel" "heldRows" "[I" ∈ WS := WS_mem 1366 (by decide +kernel) rfl
theorem pf_X11_173 : FP RX11 173 11 78 2 (.array .int) true := ⟨_, _, _, tyX11, rfl, by decide, ux11, zkw_195, by decide +kernel, tyX11_ok, nmX11, by decide, by decide, by decide⟩
theorem zkw_196 : Cond.code ⟨"FirstOverModel", "plain", "(I)V"⟩ cX11_plain 3 none ∈ WS := WS_mem 1273 (by decide +kernel) rfl
theorem zkw_197 : Cond.methodLink "FirstOverModel" 176 ⟨"FirstOverModel", "plain", "(I)V"⟩ ∈ WS := WS_mem 1270 (by decide +kernel) rfl
theorem zkw_198 : Cond.instanceMethod ⟨"FirstOverModel", "plain", "(I)V"⟩ ∈ WS := WS_mem 1272 (by decide +kernel) rfl
theorem zkw_199 : Cond.selects "FirstOverModel" ⟨"FirstOverModel", "plain", "(I)V"⟩ ⟨"FirstOverModel", "plain", "(I)V"⟩ ∈ WS := WS_mem 44 (by decide +kernel) rfl
theorem zkw_200 : Cond.initialized "FirstOverModel" ∈ WS := WS_mem 134 (by decide +kernel) rfl
theorem zcs_X11_176 : CSV RX11 176 RX11 yX11_plain cX11_plain 3 none 1 := ⟨zkw_196, zkw_197, zkw_198, zkw_199, zkw_200, ⟨rfl, by decide, by decide, by decide⟩, by decide⟩
theorem zfl_X11_34 : FL RX11 34 11 9 2 := ⟨_, _, _, rfl, by decide, ux11, zkw_149, by decide +kernel⟩
theorem zkw_201 : Cond.code ⟨"FirstOverModel", "word", "(IIIIIII)J"⟩ cX11_word 7 (some .long) ∈ WS := WS_mem 1276 (by decide +kernel) rfl
theorem zkw_202 : Cond.methodLink "FirstOverModel" 180 ⟨"FirstOverModel", "word", "(IIIIIII)J"⟩ ∈ WS := WS_mem 1274 (by decide +kernel) rfl
theorem zkw_203 : Cond.static ⟨"FirstOverModel", "word", "(IIIIIII)J"⟩ ∈ WS := WS_mem 1275 (by decide +kernel) rfl
theorem zcs_X11_180 : CSS RX11 180 yX11_word cX11_word 7 (some .long) 7 := ⟨zkw_201, zkw_202, zkw_203, zkw_200, ⟨by decide, by decide, by decide⟩, by decide⟩
theorem zkw_204 : Cond.code ⟨"FirstOverModel", "begins", "()V"⟩ cX11_begins 2 none ∈ WS := WS_mem 1284 (by decide +kernel) rfl
theorem zkw_205 : Cond.methodLink "FirstOverModel" 184 ⟨"FirstOverModel", "begins", "()V"⟩ ∈ WS := WS_mem 1281 (by decide +kernel) rfl
theorem zkw_206 : Cond.instanceMethod ⟨"FirstOverModel", "begins", "()V"⟩ ∈ WS := WS_mem 1283 (by decide +kernel) rfl
theorem zkw_207 : Cond.selects "FirstOverModel" ⟨"FirstOverModel", "begins", "()V"⟩ ⟨"FirstOverModel", "begins", "()V"⟩ ∈ WS := WS_mem 45 (by decide +kernel) rfl
theorem zcs_X11_184 : CSV RX11 184 RX11 yX11_begins cX11_begins 2 none 0 := ⟨zkw_204, zkw_205, zkw_206, zkw_207, zkw_200, ⟨rfl, by decide, by decide, by decide⟩, by decide⟩
theorem zkw_208 : Cond.code ⟨"FirstOverModel", "keepsRow", "()V"⟩ cX11_keepsRow 2 none ∈ WS := WS_mem 1288 (by decide +kernel) rfl
theorem zkw_209 : Cond.methodLink "FirstOverModel" 187 ⟨"FirstOverModel", "keepsRow", "()V"⟩ ∈ WS := WS_mem 1285 (by decide +kernel) rfl
theorem zkw_210 : Cond.instanceMethod ⟨"FirstOverModel", "keepsRow", "()V"⟩ ∈ WS := WS_mem 1287 (by decide +kernel) rfl
theorem zkw_211 : Cond.selects "FirstOverModel" ⟨"FirstOverModel", "keepsRow", "()V"⟩ ⟨"FirstOverModel", "keepsRow", "()V"⟩ ∈ WS := WS_mem 46 (by decide +kernel) rfl
theorem zcs_X11_187 : CSV RX11 187 RX11 yX11_keepsRow cX11_keepsRow 2 none 0 := ⟨zkw_208, zkw_209, zkw_210, zkw_211, zkw_200, ⟨rfl, by decide, by decide, by decide⟩, by decide⟩
set_option maxRecDepth 100000 in
def fX1_init (sh : Sh) (G : Hp) (l0 : Nat) : Option (Sh × Hp) := bd (List.length sh) fun n1 => bd (sh ++ [(1, 4)]) fun sh => bd (zr G n1) fun G2 => bd (sR G2 l0 0 (some n1)) fun G3 => bd (List.length sh) fun n4 => bd (sh ++ [(1, 4)]) fun sh => bd (zr G3 n4) fun G5 => bd (sR G5 l0 1 (some n4)) fun G6 => bd (List.length sh) fun n7 => bd (sh ++ [(1, 4)]) fun sh => bd (zr G6 n7) fun G8 => bd (sR G8 l0 2 (some n7)) fun G9 => bd (List.length sh) fun n10 => bd (sh ++ [(1, 9)]) fun sh => bd (zr G9 n10) fun G11 => bd (sR G11 l0 3 (some n10)) fun G12 => some (sh, G12)
set_option maxHeartbeats 40000000 in
set_option maxRecDepth 100000 in
theorem tX1_init {E : EX} {ad0 : Nat → Nat} {sh0 : Sh} {G : Hp} {l0 : Nat} {z : Sh × Hp} (C : Cx E RX1 cX1_init 1 none 1 4 21) (hin : (xM E).name = "<init>") (hC : Cl sh0 G) (h_l0 : sh0[l0]? = some (0, 1)) (hf : fX1_init sh0 G l0 = some z) (kr : RCc E cX1_init ad0 sh0 z 4 21) : VV E 0 0 (wq (xT E) ad0 G sh0) 0 [(0, .ref (ad0 l0))] [] := by
  unfold fX1_init at hf
  obtain ⟨sh, esh⟩ : ∃ x, x = sh0 := ⟨_, rfl⟩
  obtain ⟨ad, ead⟩ : ∃ x, x = ad0 := ⟨_, rfl⟩
  have hag : ∀ k, k < sh0.length → ad k = ad0 k := fun k _ => by rw [ead]
  have hle : sh0.length ≤ sh.length := by rw [esh]; exact Nat.le_refl _
  rw [← ead]
  rw [← esh] at hf hC h_l0
  have hw : wq (xT E) ad G sh0 = wq (xT E) ad G sh := by rw [esh]
  rw [hw]
  clear ead esh hw
  refine v_aload_n C 0 dX1_init_0 rfl rfl ?_
  refine v_objInit C oi_X1_3 (by decide) (Nat.le_of_ble_eq_true rfl) dX1_init_1 ?_
  refine v_aload_n C 0 dX1_init_4 rfl rfl ?_
  refine v_iconst (v := 4) C dX1_init_5 (by decide) ?_
  refine w_newI (N := 4) C zkw_a_int hC (by decide) (by decide) (by decide) (by decide) (by decide) dX1_init_6 (fun ad n1 G2 sh en esh eG had hC => ?_)
  have hf := bd_at hf en
  have hf := bd_at hf esh
  have hf := bd_at hf eG
  rw [← had l0 (lt_o h_l0)]
  have hag := ag_step had hag hle
  have hle := le_app esh hle
  have h_l0 := sh_app esh h_l0
  have h_n1 := tg_new esh en
  clear had esh eG en
  refine v_putF C hin h_l0 pf_X1_9 rfl rfl h_n1.choose_spec hC dX1_init_8 (fun G3 eG hC => ?_)
  have hf := bd_at hf eG
  clear eG
  refine v_aload_n C 0 dX1_init_11 rfl rfl ?_
  refine v_iconst (v := 4) C dX1_init_12 (by decide) ?_
  refine w_newI (N := 4) C zkw_a_int hC (by decide) (by decide) (by decide) (by decide) (by decide) dX1_init_13 (fun ad n4 G5 sh en esh eG had hC => ?_)
  have hf := bd_at hf en
  have hf := bd_at hf esh
  have hf := bd_at hf eG
  rw [← had l0 (lt_o h_l0)]
  have hag := ag_step had hag hle
  have hle := le_app esh hle
  have h_l0 := sh_app esh h_l0
  have h_n4 := tg_new esh en
  clear had esh eG en
  refine v_putF C hin h_l0 pf_X1_15 rfl rfl h_n4.choose_spec hC dX1_init_15 (fun G6 eG hC => ?_)
  have hf := bd_at hf eG
  clear eG
  refine v_aload_n C 0 dX1_init_18 rfl rfl ?_
  refine v_iconst (v := 4) C dX1_init_19 (by decide) ?_
  refine w_newI (N := 4) C zkw_a_int hC (by decide) (by decide) (by decide) (by decide) (by decide) dX1_init_20 (fun ad n7 G8 sh en esh eG had hC => ?_)
  have hf := bd_at hf en
  have hf := bd_at hf esh
  have hf := bd_at hf eG
  rw [← had l0 (lt_o h_l0)]
  have hag := ag_step had hag hle
  have hle := le_app esh hle
  have h_l0 := sh_app esh h_l0
  have h_n7 := tg_new esh en
  clear had esh eG en
  refine v_putF C hin h_l0 pf_X1_18 rfl rfl h_n7.choose_spec hC dX1_init_22 (fun G9 eG hC => ?_)
  have hf := bd_at hf eG
  clear eG
  refine v_aload_n C 0 dX1_init_25 rfl rfl ?_
  refine v_bipush (v := 9) C dX1_init_26 (by decide) ?_
  refine w_newI (N := 9) C zkw_a_int hC (by decide) (by decide) (by decide) (by decide) (by decide) dX1_init_28 (fun ad n10 G11 sh en esh eG had hC => ?_)
  have hf := bd_at hf en
  have hf := bd_at hf esh
  have hf := bd_at hf eG
  rw [← had l0 (lt_o h_l0)]
  have hag := ag_step had hag hle
  have hle := le_app esh hle
  have h_l0 := sh_app esh h_l0
  have h_n10 := tg_new esh en
  clear had esh eG en
  refine v_putF C hin h_l0 pf_X1_21 rfl rfl h_n10.choose_spec hC dX1_init_30 (fun G12 eG hC => ?_)
  have hf := bd_at hf eG
  clear eG
  cases hf
  refine v_widen (c2 := 4) (s2 := 21) (by decide) (by decide) ?_
  exact kr _ _ _ hag hC dX1_init_33
theorem sX1_init {l : Launch} {sh : Sh} {G : Hp} {l0 : Nat} {z : Sh × Hp} (h_l0 : sh[l0]? = some (0, 1)) (hf : fX1_init sh G l0 = some z) : MC l yX1_init cX1_init 1 none 1 4 21 sh z.1 G z.2 (fun ad => [.ref (ad l0)]) (fun _ => none) := by
  refine MC_of rfl rfl (fun _ => Nat.le_of_ble_eq_true rfl) (fun E ad C hl hnm hC hQ => ?_)
  exact tX1_init C hnm hC h_l0 hf (fun pc lv ad2 had hC2 hd => v_vret C hQ had hC2 rfl hd)
set_option maxRecDepth 100000 in
def fX0_init (sh : Sh) (G : Hp) (l0 : Nat) : Option (Sh × Hp) := bd (List.length sh) fun n1 => bd (sh ++ [(1, 35)]) fun sh => bd (zr G n1) fun G2 => bd (sR G2 l0 1 (some n1)) fun G3 => some (sh, G3)
set_option maxHeartbeats 40000000 in
set_option maxRecDepth 100000 in
theorem tX0_init {E : EX} {ad0 : Nat → Nat} {sh0 : Sh} {G : Hp} {l0 : Nat} {z : Sh × Hp} (C : Cx E RX0 cX0_init 1 none 1 1 35) (hin : (xM E).name = "<init>") (hC : Cl sh0 G) (h_l0 : sh0[l0]? = some (0, 0)) (hf : fX0_init sh0 G l0 = some z) (kr : RCc E cX0_init ad0 sh0 z 1 35) : VV E 0 0 (wq (xT E) ad0 G sh0) 0 [(0, .ref (ad0 l0))] [] := by
  unfold fX0_init at hf
  obtain ⟨sh, esh⟩ : ∃ x, x = sh0 := ⟨_, rfl⟩
  obtain ⟨ad, ead⟩ : ∃ x, x = ad0 := ⟨_, rfl⟩
  have hag : ∀ k, k < sh0.length → ad k = ad0 k := fun k _ => by rw [ead]
  have hle : sh0.length ≤ sh.length := by rw [esh]; exact Nat.le_refl _
  rw [← ead]
  rw [← esh] at hf hC h_l0
  have hw : wq (xT E) ad G sh0 = wq (xT E) ad G sh := by rw [esh]
  rw [hw]
  clear ead esh hw
  refine v_aload_n C 0 dX0_init_0 rfl rfl ?_
  refine v_objInit C oi_X0_3 (by decide) (Nat.le_of_ble_eq_true rfl) dX0_init_1 ?_
  refine v_aload_n C 0 dX0_init_4 rfl rfl ?_
  refine v_bipush (v := 35) C dX0_init_5 (by decide) ?_
  refine w_newI (N := 35) C zkw_a_int hC (by decide) (by decide) (by decide) (by decide) (by decide) dX0_init_7 (fun ad n1 G2 sh en esh eG had hC => ?_)
  have hf := bd_at hf en
  have hf := bd_at hf esh
  have hf := bd_at hf eG
  rw [← had l0 (lt_o h_l0)]
  have hag := ag_step had hag hle
  have hle := le_app esh hle
  have h_l0 := sh_app esh h_l0
  have h_n1 := tg_new esh en
  clear had esh eG en
  refine v_putF C hin h_l0 pf_X0_9 rfl rfl h_n1.choose_spec hC dX0_init_9 (fun G3 eG hC => ?_)
  have hf := bd_at hf eG
  clear eG
  cases hf
  refine v_widen (c2 := 1) (s2 := 35) (by decide) (by decide) ?_
  exact kr _ _ _ hag hC dX0_init_12
theorem sX0_init {l : Launch} {sh : Sh} {G : Hp} {l0 : Nat} {z : Sh × Hp} (h_l0 : sh[l0]? = some (0, 0)) (hf : fX0_init sh G l0 = some z) : MC l yX0_init cX0_init 1 none 1 1 35 sh z.1 G z.2 (fun ad => [.ref (ad l0)]) (fun _ => none) := by
  refine MC_of rfl rfl (fun _ => Nat.le_of_ble_eq_true rfl) (fun E ad C hl hnm hC hQ => ?_)
  exact tX0_init C hnm hC h_l0 hf (fun pc lv ad2 had hC2 hd => v_vret C hQ had hC2 rfl hd)
set_option maxRecDepth 100000 in
def fX9_init (sh : Sh) (G : Hp) (l0 : Nat) : Option (Sh × Hp) := bd (List.length sh) fun n1 => bd (sh ++ [(1, 20)]) fun sh => bd (zr G n1) fun G2 => bd (sR G2 l0 1 (some n1)) fun G3 => bd (List.length sh) fun n4 => bd (sh ++ [(3, 20)]) fun sh => bd (zr G3 n4) fun G5 => bd (sR G5 l0 2 (some n4)) fun G6 => some (sh, G6)
set_option maxHeartbeats 40000000 in
set_option maxRecDepth 100000 in
theorem tX9_init {E : EX} {ad0 : Nat → Nat} {sh0 : Sh} {G : Hp} {l0 : Nat} {z : Sh × Hp} (C : Cx E RX9 cX9_init 1 none 1 2 40) (hin : (xM E).name = "<init>") (hC : Cl sh0 G) (h_l0 : sh0[l0]? = some (0, 9)) (hf : fX9_init sh0 G l0 = some z) (kr : RCc E cX9_init ad0 sh0 z 2 40) : VV E 0 0 (wq (xT E) ad0 G sh0) 0 [(0, .ref (ad0 l0))] [] := by
  unfold fX9_init at hf
  obtain ⟨sh, esh⟩ : ∃ x, x = sh0 := ⟨_, rfl⟩
  obtain ⟨ad, ead⟩ : ∃ x, x = ad0 := ⟨_, rfl⟩
  have hag : ∀ k, k < sh0.length → ad k = ad0 k := fun k _ => by rw [ead]
  have hle : sh0.length ≤ sh.length := by rw [esh]; exact Nat.le_refl _
  rw [← ead]
  rw [← esh] at hf hC h_l0
  have hw : wq (xT E) ad G sh0 = wq (xT E) ad G sh := by rw [esh]
  rw [hw]
  clear ead esh hw
  refine v_aload_n C 0 dX9_init_0 rfl rfl ?_
  refine v_objInit C oi_X9_3 (by decide) (Nat.le_of_ble_eq_true rfl) dX9_init_1 ?_
  refine v_aload_n C 0 dX9_init_4 rfl rfl ?_
  refine v_bipush (v := 20) C dX9_init_5 (by decide) ?_
  refine w_newI (N := 20) C zkw_a_int hC (by decide) (by decide) (by decide) (by decide) (by decide) dX9_init_7 (fun ad n1 G2 sh en esh eG had hC => ?_)
  have hf := bd_at hf en
  have hf := bd_at hf esh
  have hf := bd_at hf eG
  rw [← had l0 (lt_o h_l0)]
  have hag := ag_step had hag hle
  have hle := le_app esh hle
  have h_l0 := sh_app esh h_l0
  have h_n1 := tg_new esh en
  clear had esh eG en
  refine v_putF C hin h_l0 pf_X9_9 rfl rfl h_n1.choose_spec hC dX9_init_9 (fun G3 eG hC => ?_)
  have hf := bd_at hf eG
  clear eG
  refine v_aload_n C 0 dX9_init_12 rfl rfl ?_
  refine v_bipush (v := 20) C dX9_init_13 (by decide) ?_
  refine w_newZ (N := 20) C zkw_a_boolean hC (by decide) (by decide) (by decide) (by decide) (by decide) dX9_init_15 (fun ad n4 G5 sh en esh eG had hC => ?_)
  have hf := bd_at hf en
  have hf := bd_at hf esh
  have hf := bd_at hf eG
  rw [← had l0 (lt_o h_l0)]
  have hag := ag_step had hag hle
  have hle := le_app esh hle
  have h_l0 := sh_app esh h_l0
  have h_n4 := tg_new esh en
  clear had esh eG en
  refine v_putF C hin h_l0 pf_X9_15 rfl rfl h_n4.choose_spec hC dX9_init_17 (fun G6 eG hC => ?_)
  have hf := bd_at hf eG
  clear eG
  cases hf
  refine v_widen (c2 := 2) (s2 := 40) (by decide) (by decide) ?_
  exact kr _ _ _ hag hC dX9_init_20
theorem sX9_init {l : Launch} {sh : Sh} {G : Hp} {l0 : Nat} {z : Sh × Hp} (h_l0 : sh[l0]? = some (0, 9)) (hf : fX9_init sh G l0 = some z) : MC l yX9_init cX9_init 1 none 1 2 40 sh z.1 G z.2 (fun ad => [.ref (ad l0)]) (fun _ => none) := by
  refine MC_of rfl rfl (fun _ => Nat.le_of_ble_eq_true rfl) (fun E ad C hl hnm hC hQ => ?_)
  exact tX9_init C hnm hC h_l0 hf (fun pc lv ad2 had hC2 hd => v_vret C hQ had hC2 rfl hd)
set_option maxRecDepth 100000 in
def fX4_init (sh : Sh) (G : Hp) (l0 : Nat) : Option (Sh × Hp) := bd (List.length sh) fun n1 => bd (sh ++ [(1, 400)]) fun sh => bd (zr G n1) fun G2 => bd (sR G2 l0 0 (some n1)) fun G3 => bd (List.length sh) fun n4 => bd (sh ++ [(1, 13)]) fun sh => bd (zr G3 n4) fun G5 => bd (sR G5 l0 2 (some n4)) fun G6 => bd (List.length sh) fun n7 => bd (sh ++ [(1, 16)]) fun sh => bd (zr G6 n7) fun G8 => bd (sR G8 l0 4 (some n7)) fun G9 => some (sh, G9)
set_option maxHeartbeats 40000000 in
set_option maxRecDepth 100000 in
theorem tX4_init {E : EX} {ad0 : Nat → Nat} {sh0 : Sh} {G : Hp} {l0 : Nat} {z : Sh × Hp} (C : Cx E RX4 cX4_init 1 none 1 3 429) (hin : (xM E).name = "<init>") (hC : Cl sh0 G) (h_l0 : sh0[l0]? = some (0, 4)) (hf : fX4_init sh0 G l0 = some z) (kr : RCc E cX4_init ad0 sh0 z 3 429) : VV E 0 0 (wq (xT E) ad0 G sh0) 0 [(0, .ref (ad0 l0))] [] := by
  unfold fX4_init at hf
  obtain ⟨sh, esh⟩ : ∃ x, x = sh0 := ⟨_, rfl⟩
  obtain ⟨ad, ead⟩ : ∃ x, x = ad0 := ⟨_, rfl⟩
  have hag : ∀ k, k < sh0.length → ad k = ad0 k := fun k _ => by rw [ead]
  have hle : sh0.length ≤ sh.length := by rw [esh]; exact Nat.le_refl _
  rw [← ead]
  rw [← esh] at hf hC h_l0
  have hw : wq (xT E) ad G sh0 = wq (xT E) ad G sh := by rw [esh]
  rw [hw]
  clear ead esh hw
  refine v_aload_n C 0 dX4_init_0 rfl rfl ?_
  refine v_objInit C oi_X4_5 (by decide) (Nat.le_of_ble_eq_true rfl) dX4_init_1 ?_
  refine v_aload_n C 0 dX4_init_4 rfl rfl ?_
  refine v_sipush (v := 400) C dX4_init_5 (by decide) ?_
  refine w_newI (N := 400) C zkw_a_int hC (by decide) (by decide) (by decide) (by decide) (by decide) dX4_init_8 (fun ad n1 G2 sh en esh eG had hC => ?_)
  have hf := bd_at hf en
  have hf := bd_at hf esh
  have hf := bd_at hf eG
  rw [← had l0 (lt_o h_l0)]
  have hag := ag_step had hag hle
  have hle := le_app esh hle
  have h_l0 := sh_app esh h_l0
  have h_n1 := tg_new esh en
  clear had esh eG en
  refine v_putF C hin h_l0 pf_X4_11 rfl rfl h_n1.choose_spec hC dX4_init_10 (fun G3 eG hC => ?_)
  have hf := bd_at hf eG
  clear eG
  refine v_aload_n C 0 dX4_init_13 rfl rfl ?_
  refine v_bipush (v := 13) C dX4_init_14 (by decide) ?_
  refine w_newI (N := 13) C zkw_a_int hC (by decide) (by decide) (by decide) (by decide) (by decide) dX4_init_16 (fun ad n4 G5 sh en esh eG had hC => ?_)
  have hf := bd_at hf en
  have hf := bd_at hf esh
  have hf := bd_at hf eG
  rw [← had l0 (lt_o h_l0)]
  have hag := ag_step had hag hle
  have hle := le_app esh hle
  have h_l0 := sh_app esh h_l0
  have h_n4 := tg_new esh en
  clear had esh eG en
  refine v_putF C hin h_l0 pf_X4_17 rfl rfl h_n4.choose_spec hC dX4_init_18 (fun G6 eG hC => ?_)
  have hf := bd_at hf eG
  clear eG
  refine v_aload_n C 0 dX4_init_21 rfl rfl ?_
  refine v_bipush (v := 16) C dX4_init_22 (by decide) ?_
  refine w_newI (N := 16) C zkw_a_int hC (by decide) (by decide) (by decide) (by decide) (by decide) dX4_init_24 (fun ad n7 G8 sh en esh eG had hC => ?_)
  have hf := bd_at hf en
  have hf := bd_at hf esh
  have hf := bd_at hf eG
  rw [← had l0 (lt_o h_l0)]
  have hag := ag_step had hag hle
  have hle := le_app esh hle
  have h_l0 := sh_app esh h_l0
  have h_n7 := tg_new esh en
  clear had esh eG en
  refine v_putF C hin h_l0 pf_X4_20 rfl rfl h_n7.choose_spec hC dX4_init_26 (fun G9 eG hC => ?_)
  have hf := bd_at hf eG
  clear eG
  cases hf
  refine v_widen (c2 := 3) (s2 := 429) (by decide) (by decide) ?_
  exact kr _ _ _ hag hC dX4_init_29
theorem sX4_init {l : Launch} {sh : Sh} {G : Hp} {l0 : Nat} {z : Sh × Hp} (h_l0 : sh[l0]? = some (0, 4)) (hf : fX4_init sh G l0 = some z) : MC l yX4_init cX4_init 1 none 1 3 429 sh z.1 G z.2 (fun ad => [.ref (ad l0)]) (fun _ => none) := by
  refine MC_of rfl rfl (fun _ => Nat.le_of_ble_eq_true rfl) (fun E ad C hl hnm hC hQ => ?_)
  exact tX4_init C hnm hC h_l0 hf (fun pc lv ad2 had hC2 hd => v_vret C hQ had hC2 rfl hd)
set_option maxRecDepth 100000 in
def fX8_init (sh : Sh) (G : Hp) (l0 : Nat) : Option (Sh × Hp) := bd (List.length sh) fun n1 => bd (sh ++ [(1, 7)]) fun sh => bd (zr G n1) fun G2 => bd (sR G2 l0 6 (some n1)) fun G3 => bd (List.length sh) fun n4 => bd (sh ++ [(1, 7)]) fun sh => bd (zr G3 n4) fun G5 => bd (sR G5 l0 7 (some n4)) fun G6 => bd (List.length sh) fun n7 => bd (sh ++ [(1, 4)]) fun sh => bd (zr G6 n7) fun G8 => bd (sR G8 l0 8 (some n7)) fun G9 => bd (List.length sh) fun n10 => bd (sh ++ [(1, 4)]) fun sh => bd (zr G9 n10) fun G11 => bd (sR G11 l0 9 (some n10)) fun G12 => bd (List.length sh) fun n13 => bd (sh ++ [(1, 4)]) fun sh => bd (zr G12 n13) fun G14 => bd (sR G14 l0 10 (some n13)) fun G15 => bd (List.length sh) fun n16 => bd (sh ++ [(1, 4)]) fun sh => bd (zr G15 n16) fun G17 => bd (sR G17 l0 11 (some n16)) fun G18 => bd (List.length sh) fun n19 => bd (sh ++ [(1, 4)]) fun sh => bd (zr G18 n19) fun G20 => bd (sR G20 l0 12 (some n19)) fun G21 => bd (List.length sh) fun n22 => bd (sh ++ [(4, 16)]) fun sh => bd (zr G21 n22) fun G23 => bd (sR G23 l0 13 (some n22)) fun G24 => bd (List.length sh) fun n25 => bd (sh ++ [(0, 4)]) fun sh => bd (zr G24 n25) fun G26 => (fX4_init sh G26 n25).bind fun r28 => bd r28.1 fun sh1 => bd r28.2 fun G27 => (ckL sh sh1).bind fun _ => (ckO sh1 l0 8).bind fun _ => (ckO sh1 n25 4).bind fun _ => bd sh1 fun sh => bd (sR G27 l0 14 (some n25)) fun G29 => bd (List.length sh) fun n30 => bd (sh ++ [(0, 4)]) fun sh => bd (zr G29 n30) fun G31 => (fX4_init sh G31 n30).bind fun r33 => bd r33.1 fun sh1 => bd r33.2 fun G32 => (ckL sh sh1).bind fun _ => (ckO sh1 l0 8).bind fun _ => (ckO sh1 n30 4).bind fun _ => bd sh1 fun sh => bd (sR G32 l0 15 (some n30)) fun G34 => bd (List.length sh) fun n35 => bd (sh ++ [(0, 4)]) fun sh => bd (zr G34 n35) fun G36 => (fX4_init sh G36 n35).bind fun r38 => bd r38.1 fun sh1 => bd r38.2 fun G37 => (ckL sh sh1).bind fun _ => (ckO sh1 l0 8).bind fun _ => (ckO sh1 n35 4).bind fun _ => bd sh1 fun sh => bd (sR G37 l0 16 (some n35)) fun G39 => (fX8_clear sh G39 l0).bind fun G41 => some (sh, G41)
set_option maxHeartbeats 40000000 in
set_option maxRecDepth 100000 in
theorem tX8_init {E : EX} {ad0 : Nat → Nat} {sh0 : Sh} {G : Hp} {l0 : Nat} {z : Sh × Hp} (C : Cx E RX8 cX8_init 1 none 4 20 1352) (hin : (xM E).name = "<init>") (hC : Cl sh0 G) (h_l0 : sh0[l0]? = some (0, 8)) (hf : fX8_init sh0 G l0 = some z) (kr : RCc E cX8_init ad0 sh0 z 20 1352) : VV E 0 0 (wq (xT E) ad0 G sh0) 0 [(0, .ref (ad0 l0))] [] := by
  unfold fX8_init at hf
  obtain ⟨sh, esh⟩ : ∃ x, x = sh0 := ⟨_, rfl⟩
  obtain ⟨ad, ead⟩ : ∃ x, x = ad0 := ⟨_, rfl⟩
  have hag : ∀ k, k < sh0.length → ad k = ad0 k := fun k _ => by rw [ead]
  have hle : sh0.length ≤ sh.length := by rw [esh]; exact Nat.le_refl _
  rw [← ead]
  rw [← esh] at hf hC h_l0
  have hw : wq (xT E) ad G sh0 = wq (xT E) ad G sh := by rw [esh]
  rw [hw]
  clear ead esh hw
  refine v_aload_n C 0 dX8_init_0 rfl rfl ?_
  refine v_objInit C oi_X8_3 (by decide) (Nat.le_of_ble_eq_true rfl) dX8_init_1 ?_
  refine v_aload_n C 0 dX8_init_4 rfl rfl ?_
  refine v_bipush (v := 7) C dX8_init_5 (by decide) ?_
  refine w_newI (N := 7) C zkw_a_int hC (by decide) (by decide) (by decide) (by decide) (by decide) dX8_init_7 (fun ad n1 G2 sh en esh eG had hC => ?_)
  have hf := bd_at hf en
  have hf := bd_at hf esh
  have hf := bd_at hf eG
  rw [← had l0 (lt_o h_l0)]
  have hag := ag_step had hag hle
  have hle := le_app esh hle
  have h_l0 := sh_app esh h_l0
  have h_n1 := tg_new esh en
  clear had esh eG en
  refine v_putF C hin h_l0 pf_X8_9 rfl rfl h_n1.choose_spec hC dX8_init_9 (fun G3 eG hC => ?_)
  have hf := bd_at hf eG
  clear eG
  refine v_aload_n C 0 dX8_init_12 rfl rfl ?_
  refine v_bipush (v := 7) C dX8_init_13 (by decide) ?_
  refine w_newI (N := 7) C zkw_a_int hC (by decide) (by decide) (by decide) (by decide) (by decide) dX8_init_15 (fun ad n4 G5 sh en esh eG had hC => ?_)
  have hf := bd_at hf en
  have hf := bd_at hf esh
  have hf := bd_at hf eG
  rw [← had l0 (lt_o h_l0)]
  have hag := ag_step had hag hle
  have hle := le_app esh hle
  have h_l0 := sh_app esh h_l0
  have h_n4 := tg_new esh en
  clear had esh eG en
  refine v_putF C hin h_l0 pf_X8_15 rfl rfl h_n4.choose_spec hC dX8_init_17 (fun G6 eG hC => ?_)
  have hf := bd_at hf eG
  clear eG
  refine v_aload_n C 0 dX8_init_20 rfl rfl ?_
  refine v_iconst (v := 4) C dX8_init_21 (by decide) ?_
  refine w_newI (N := 4) C zkw_a_int hC (by decide) (by decide) (by decide) (by decide) (by decide) dX8_init_22 (fun ad n7 G8 sh en esh eG had hC => ?_)
  have hf := bd_at hf en
  have hf := bd_at hf esh
  have hf := bd_at hf eG
  rw [← had l0 (lt_o h_l0)]
  have hag := ag_step had hag hle
  have hle := le_app esh hle
  have h_l0 := sh_app esh h_l0
  have h_n7 := tg_new esh en
  clear had esh eG en
  refine v_putF C hin h_l0 pf_X8_18 rfl rfl h_n7.choose_spec hC dX8_init_24 (fun G9 eG hC => ?_)
  have hf := bd_at hf eG
  clear eG
  refine v_aload_n C 0 dX8_init_27 rfl rfl ?_
  refine v_iconst (v := 4) C dX8_init_28 (by decide) ?_
  refine w_newI (N := 4) C zkw_a_int hC (by decide) (by decide) (by decide) (by decide) (by decide) dX8_init_29 (fun ad n10 G11 sh en esh eG had hC => ?_)
  have hf := bd_at hf en
  have hf := bd_at hf esh
  have hf := bd_at hf eG
  rw [← had l0 (lt_o h_l0)]
  have hag := ag_step had hag hle
  have hle := le_app esh hle
  have h_l0 := sh_app esh h_l0
  have h_n10 := tg_new esh en
  clear had esh eG en
  refine v_putF C hin h_l0 pf_X8_21 rfl rfl h_n10.choose_spec hC dX8_init_31 (fun G12 eG hC => ?_)
  have hf := bd_at hf eG
  clear eG
  refine v_aload_n C 0 dX8_init_34 rfl rfl ?_
  refine v_iconst (v := 4) C dX8_init_35 (by decide) ?_
  refine w_newI (N := 4) C zkw_a_int hC (by decide) (by decide) (by decide) (by decide) (by decide) dX8_init_36 (fun ad n13 G14 sh en esh eG had hC => ?_)
  have hf := bd_at hf en
  have hf := bd_at hf esh
  have hf := bd_at hf eG
  rw [← had l0 (lt_o h_l0)]
  have hag := ag_step had hag hle
  have hle := le_app esh hle
  have h_l0 := sh_app esh h_l0
  have h_n13 := tg_new esh en
  clear had esh eG en
  refine v_putF C hin h_l0 pf_X8_24 rfl rfl h_n13.choose_spec hC dX8_init_38 (fun G15 eG hC => ?_)
  have hf := bd_at hf eG
  clear eG
  refine v_aload_n C 0 dX8_init_41 rfl rfl ?_
  refine v_iconst (v := 4) C dX8_init_42 (by decide) ?_
  refine w_newI (N := 4) C zkw_a_int hC (by decide) (by decide) (by decide) (by decide) (by decide) dX8_init_43 (fun ad n16 G17 sh en esh eG had hC => ?_)
  have hf := bd_at hf en
  have hf := bd_at hf esh
  have hf := bd_at hf eG
  rw [← had l0 (lt_o h_l0)]
  have hag := ag_step had hag hle
  have hle := le_app esh hle
  have h_l0 := sh_app esh h_l0
  have h_n16 := tg_new esh en
  clear had esh eG en
  refine v_putF C hin h_l0 pf_X8_27 rfl rfl h_n16.choose_spec hC dX8_init_45 (fun G18 eG hC => ?_)
  have hf := bd_at hf eG
  clear eG
  refine v_aload_n C 0 dX8_init_48 rfl rfl ?_
  refine v_iconst (v := 4) C dX8_init_49 (by decide) ?_
  refine w_newI (N := 4) C zkw_a_int hC (by decide) (by decide) (by decide) (by decide) (by decide) dX8_init_50 (fun ad n19 G20 sh en esh eG had hC => ?_)
  have hf := bd_at hf en
  have hf := bd_at hf esh
  have hf := bd_at hf eG
  rw [← had l0 (lt_o h_l0)]
  have hag := ag_step had hag hle
  have hle := le_app esh hle
  have h_l0 := sh_app esh h_l0
  have h_n19 := tg_new esh en
  clear had esh eG en
  refine v_putF C hin h_l0 pf_X8_30 rfl rfl h_n19.choose_spec hC dX8_init_52 (fun G21 eG hC => ?_)
  have hf := bd_at hf eG
  clear eG
  refine v_aload_n C 0 dX8_init_55 rfl rfl ?_
  refine v_bipush (v := 16) C dX8_init_56 (by decide) ?_
  refine w_newJ (N := 16) C zkw_a_long hC (by decide) (by decide) (by decide) (by decide) (by decide) dX8_init_58 (fun ad n22 G23 sh en esh eG had hC => ?_)
  have hf := bd_at hf en
  have hf := bd_at hf esh
  have hf := bd_at hf eG
  rw [← had l0 (lt_o h_l0)]
  have hag := ag_step had hag hle
  have hle := le_app esh hle
  have h_l0 := sh_app esh h_l0
  have h_n22 := tg_new esh en
  clear had esh eG en
  refine v_putF C hin h_l0 pf_X8_33 rfl rfl h_n22.choose_spec hC dX8_init_60 (fun G24 eG hC => ?_)
  have hf := bd_at hf eG
  clear eG
  refine v_aload_n C 0 dX8_init_63 rfl rfl ?_
  refine w_new C nw_X8_37 hC (by decide) (by decide) dX8_init_64 (fun ad n25 G26 sh en esh eG had hC => ?_)
  have hf := bd_at hf en
  have hf := bd_at hf esh
  have hf := bd_at hf eG
  rw [← had l0 (lt_o h_l0)]
  have hag := ag_step had hag hle
  have hle := le_app esh hle
  have h_l0 := sh_app esh h_l0
  have h_n25 := sh_new esh en
  clear had esh eG en
  refine v_dup C dX8_init_67 rfl ?_
  obtain ⟨⟨sh, G27⟩, qr28, hf⟩ := bn hf
  have hf := bd_at hf (rfl : sh = _)
  have hf := bd_at hf (rfl : G27 = _)
  obtain ⟨_, hL, hf⟩ := bn hf
  obtain ⟨_, hu0, hf⟩ := bn hf
  obtain ⟨_, hu1, hf⟩ := bn hf
  have hf := bd_at hf (rfl : sh = _)
  refine v_callI (As := []) (rest := [.ref (ad n25), .ref (ad l0)]) C (sX4_init h_n25 qr28) ci_X8_39 (by decide) hC rfl rfl rfl (Nat.le_of_ble_eq_true rfl) ⟨(by decide), (by decide)⟩ dX8_init_68 (fun ad had hC => ?_)
  rw [← had l0 (lt_o h_l0)]
  rw [← had n25 (lt_o h_n25)]
  have hag := ag_step had hag hle
  have hle := Nat.le_trans hle (ckL_some hL)
  have h_l0 := ckO_some hu0
  have h_n25 := ckO_some hu1
  clear had hL
  refine v_putF C hin h_l0 pf_X8_40 rfl rfl h_n25 hC dX8_init_71 (fun G29 eG hC => ?_)
  have hf := bd_at hf eG
  clear eG
  refine v_aload_n C 0 dX8_init_74 rfl rfl ?_
  refine w_new C nw_X8_37 hC (by decide) (by decide) dX8_init_75 (fun ad n30 G31 sh en esh eG had hC => ?_)
  have hf := bd_at hf en
  have hf := bd_at hf esh
  have hf := bd_at hf eG
  rw [← had l0 (lt_o h_l0)]
  have hag := ag_step had hag hle
  have hle := le_app esh hle
  have h_l0 := sh_app esh h_l0
  have h_n30 := sh_new esh en
  clear had esh eG en
  refine v_dup C dX8_init_78 rfl ?_
  obtain ⟨⟨sh, G32⟩, qr33, hf⟩ := bn hf
  have hf := bd_at hf (rfl : sh = _)
  have hf := bd_at hf (rfl : G32 = _)
  obtain ⟨_, hL, hf⟩ := bn hf
  obtain ⟨_, hu0, hf⟩ := bn hf
  obtain ⟨_, hu1, hf⟩ := bn hf
  have hf := bd_at hf (rfl : sh = _)
  refine v_callI (As := []) (rest := [.ref (ad n30), .ref (ad l0)]) C (sX4_init h_n30 qr33) ci_X8_39 (by decide) hC rfl rfl rfl (Nat.le_of_ble_eq_true rfl) ⟨(by decide), (by decide)⟩ dX8_init_79 (fun ad had hC => ?_)
  rw [← had l0 (lt_o h_l0)]
  rw [← had n30 (lt_o h_n30)]
  have hag := ag_step had hag hle
  have hle := Nat.le_trans hle (ckL_some hL)
  have h_l0 := ckO_some hu0
  have h_n30 := ckO_some hu1
  clear had hL
  refine v_putF C hin h_l0 pf_X8_44 rfl rfl h_n30 hC dX8_init_82 (fun G34 eG hC => ?_)
  have hf := bd_at hf eG
  clear eG
  refine v_aload_n C 0 dX8_init_85 rfl rfl ?_
  refine w_new C nw_X8_37 hC (by decide) (by decide) dX8_init_86 (fun ad n35 G36 sh en esh eG had hC => ?_)
  have hf := bd_at hf en
  have hf := bd_at hf esh
  have hf := bd_at hf eG
  rw [← had l0 (lt_o h_l0)]
  have hag := ag_step had hag hle
  have hle := le_app esh hle
  have h_l0 := sh_app esh h_l0
  have h_n35 := sh_new esh en
  clear had esh eG en
  refine v_dup C dX8_init_89 rfl ?_
  obtain ⟨⟨sh, G37⟩, qr38, hf⟩ := bn hf
  have hf := bd_at hf (rfl : sh = _)
  have hf := bd_at hf (rfl : G37 = _)
  obtain ⟨_, hL, hf⟩ := bn hf
  obtain ⟨_, hu0, hf⟩ := bn hf
  obtain ⟨_, hu1, hf⟩ := bn hf
  have hf := bd_at hf (rfl : sh = _)
  refine v_callI (As := []) (rest := [.ref (ad n35), .ref (ad l0)]) C (sX4_init h_n35 qr38) ci_X8_39 (by decide) hC rfl rfl rfl (Nat.le_of_ble_eq_true rfl) ⟨(by decide), (by decide)⟩ dX8_init_90 (fun ad had hC => ?_)
  rw [← had l0 (lt_o h_l0)]
  rw [← had n35 (lt_o h_n35)]
  have hag := ag_step had hag hle
  have hle := Nat.le_trans hle (ckL_some hL)
  have h_l0 := ckO_some hu0
  have h_n35 := ckO_some hu1
  clear had hL
  refine v_putF C hin h_l0 pf_X8_47 rfl rfl h_n35 hC dX8_init_93 (fun G39 eG hC => ?_)
  have hf := bd_at hf eG
  clear eG
  refine v_aload_n C 0 dX8_init_96 rfl rfl ?_
  obtain ⟨G41, qr40, hf⟩ := bn hf
  refine v_callVv (As := []) (rest := []) C (sX8_clear h_l0 qr40) zcs_X8_50 (by decide) h_l0 rfl hC rfl rfl rfl (Nat.le_of_ble_eq_true rfl) ⟨by decide, by decide⟩ dX8_init_97 (fun hC => ?_)
  cases hf
  refine v_widen (c2 := 20) (s2 := 1352) (by decide) (by decide) ?_
  exact kr _ _ _ hag hC dX8_init_100
theorem sX8_init {l : Launch} {sh : Sh} {G : Hp} {l0 : Nat} {z : Sh × Hp} (h_l0 : sh[l0]? = some (0, 8)) (hf : fX8_init sh G l0 = some z) : MC l yX8_init cX8_init 1 none 4 20 1352 sh z.1 G z.2 (fun ad => [.ref (ad l0)]) (fun _ => none) := by
  refine MC_of rfl rfl (fun _ => Nat.le_of_ble_eq_true rfl) (fun E ad C hl hnm hC hQ => ?_)
  exact tX8_init C hnm hC h_l0 hf (fun pc lv ad2 had hC2 hd => v_vret C hQ had hC2 rfl hd)
def fX7_init_S61 (sh : Sh) (l0 : Nat) (l1 : Int32) (G : Hp) (l2 : Int32) : Option ((Hp × Int32) ⊕ ((Hp))) := if ((l1 + 1) * 8) ≤ l2 then some (.inr G) else if 208 ≤ l2 then bd ((l2 + 1) : Int32) fun x4 => some (.inl (G, x4)) else (chA l2).bind fun v6 => (fX7_isLetter v6).bind fun r7 => if r7 = 0 then bd ((l2 + 1) : Int32) fun x9 => some (.inl (G, x9)) else (ldA sh G l0 4 4).bind fun a10 => (ldA sh G l0 4 4).bind fun a11 => (aJ sh G a11 l1).bind fun v12 => (chA l2).bind fun v14 => (fX7_withLetter v12 v14).bind fun r15 => (asJ sh G a10 l1 r15).bind fun G16 => bd ((l2 + 1) : Int32) fun x17 => some (.inl (G16, x17))
set_option maxHeartbeats 4000000 in
theorem tX7_init_S61 {E : EX} {ad0 ad : Nat → Nat} {sh0 sh : Sh} {G : Hp} {l0 : Nat} {l1 : Int32} {l2 : Int32} {o : (Hp × Int32) ⊕ ((Hp))} (C : Cx E RX7 cX7_init 3 none 6 5 3232) (hin : (xM E).name = "<init>") (hC : Cl sh G) (hag : ∀ k, k < sh0.length → ad k = ad0 k) (hle : sh0.length ≤ sh.length) (h_l0 : sh[l0]? = some (0, 7)) (hf : fX7_init_S61 sh l0 l1 G l2 = some o) (kb : ∀ (G2 : Hp) (b_l2 : Int32), o = .inl (G2, b_l2) → Cl sh G2 → VV E 5 3232 (wq (xT E) ad G2 sh) 61 [(0, .ref (ad l0)), (1, .int l1), (2, .int b_l2)] []) (kx119 : ∀ (G2 : Hp), o = .inr G2 → Cl sh G2 → VV E 5 3232 (wq (xT E) ad G2 sh) 119 [(0, .ref (ad l0)), (1, .int l1)] []) : VV E 5 3232 (wq (xT E) ad G sh) 61 [(0, .ref (ad l0)), (1, .int l1), (2, .int l2)] [] := by
  unfold fX7_init_S61 at hf
  refine v_iload_n C 2 dX7_init_61 rfl rfl ?_
  refine v_iload_n C 1 dX7_init_62 rfl rfl ?_
  refine v_iconst (v := 1) C dX7_init_63 (by decide) ?_
  refine v_iadd C dX7_init_64 ?_
  refine v_bipush (v := 8) C dX7_init_65 (by decide) ?_
  refine v_imul C dX7_init_67 ?_
  refine v_icmp_ge (tgt := 119) C dX7_init_68 (by decide) (fun c1 => ?_) (fun c1 => ?_)
  · have hf := ip hf c1
    cases hf
    refine v_sub [0, 1] rfl ?_
    exact kx119 _ rfl hC
  · have hf := im hf c1
    refine v_iload_n C 2 dX7_init_71 rfl rfl ?_
    refine v_ldcS C dX7_init_72 (fun t2 v_t2 h_t2 => ?_)
    refine v_strlen C h_t2 (by decide) (Nat.le_of_ble_eq_true rfl) ⟨by decide, by decide⟩ dX7_init_74 ?_
    refine v_icmp_ge (tgt := 113) C dX7_init_77 (by decide) (fun c3 => ?_) (fun c3 => ?_)
    · have hf := ip hf c3
      obtain ⟨x4, ex4⟩ : ∃ x : Int32, x = (l2 + 1) := ⟨_, rfl⟩
      have hf := bd_at hf ex4
      refine v_iinc (v := x4) (j := 2) (lv2 := [(2, .int x4), (0, .ref (ad l0)), (1, .int l1)]) C dX7_init_113 rfl (by rw [ex4]; rfl) (by decide) rfl ?_
      refine v_goto (tgt := 61) C dX7_init_116 (by decide) ?_
      cases hf
      refine v_sub [1, 2, 0] rfl ?_
      exact kb _ _ rfl hC
    · have hf := im hf c3
      refine v_ldcS C dX7_init_80 (fun t5 v_t5 h_t5 => ?_)
      refine v_iload_n C 2 dX7_init_82 rfl rfl ?_
      obtain ⟨v6, qv6, hf⟩ := bn hf
      refine v_charAt C h_t5 qv6 (by decide) (Nat.le_of_ble_eq_true rfl) ⟨by decide, by decide⟩ dX7_init_83 ?_
      obtain ⟨r7, qr7, hf⟩ := bn hf
      refine v_callSi (As := [.int v6]) (rest := []) C (sX7_isLetter  qr7) zcs_X7_41 (by decide) hC rfl rfl rfl (Nat.le_of_ble_eq_true rfl) ⟨by decide, by decide⟩ dX7_init_86 (fun hC => ?_)
      refine v_if_eq (tgt := 113) C dX7_init_89 (by decide) (fun c8 => ?_) (fun c8 => ?_)
      · have hf := ip hf c8
        obtain ⟨x9, ex9⟩ : ∃ x : Int32, x = (l2 + 1) := ⟨_, rfl⟩
        have hf := bd_at hf ex9
        refine v_iinc (v := x9) (j := 2) (lv2 := [(2, .int x9), (0, .ref (ad l0)), (1, .int l1)]) C dX7_init_113 rfl (by rw [ex9]; rfl) (by decide) rfl ?_
        refine v_goto (tgt := 61) C dX7_init_116 (by decide) ?_
        cases hf
        refine v_sub [1, 2, 0] rfl ?_
        exact kb _ _ rfl hC
      · have hf := im hf c8
        refine v_aload_n C 0 dX7_init_92 rfl rfl ?_
        obtain ⟨a10, qa10, hf⟩ := bn hf
        refine v_getA C h_l0 zfl_X7_22 qa10 dX7_init_93 (fun h_a10 => ?_)
        refine v_iload_n C 1 dX7_init_96 rfl rfl ?_
        refine v_aload_n C 0 dX7_init_97 rfl rfl ?_
        obtain ⟨a11, qa11, hf⟩ := bn hf
        refine v_getA C h_l0 zfl_X7_22 qa11 dX7_init_98 (fun h_a11 => ?_)
        refine v_iload_n C 1 dX7_init_101 rfl rfl ?_
        obtain ⟨v12, qv12, hf⟩ := bn hf
        refine v_lald C h_a11 qv12 dX7_init_102 ?_
        refine v_ldcS C dX7_init_103 (fun t13 v_t13 h_t13 => ?_)
        refine v_iload_n C 2 dX7_init_105 rfl rfl ?_
        obtain ⟨v14, qv14, hf⟩ := bn hf
        refine v_charAt C h_t13 qv14 (by decide) (Nat.le_of_ble_eq_true rfl) ⟨by decide, by decide⟩ dX7_init_106 ?_
        obtain ⟨r15, qr15, hf⟩ := bn hf
        refine v_callSl (As := [.long v12, .int v14]) (rest := [.int l1, .ref (ad a10)]) C (sX7_withLetter  qr15) zcs_X7_45 (by decide) hC rfl rfl rfl (Nat.le_of_ble_eq_true rfl) ⟨by decide, by decide⟩ dX7_init_109 (fun hC => ?_)
        obtain ⟨G16, qG16, hf⟩ := bn hf
        refine v_last C h_a10 qG16 hC dX7_init_112 (fun hC => ?_)
        obtain ⟨x17, ex17⟩ : ∃ x : Int32, x = (l2 + 1) := ⟨_, rfl⟩
        have hf := bd_at hf ex17
        refine v_iinc (v := x17) (j := 2) (lv2 := [(2, .int x17), (0, .ref (ad l0)), (1, .int l1)]) C dX7_init_113 rfl (by rw [ex17]; rfl) (by decide) rfl ?_
        refine v_goto (tgt := 61) C dX7_init_116 (by decide) ?_
        cases hf
        refine v_sub [1, 2, 0] rfl ?_
        exact kb _ _ rfl hC
def fX7_init_S50 (sh : Sh) (l0 : Nat) (G : Hp) (l1 : Int32) : Option ((Hp × Int32) ⊕ ((Hp))) := if 26 ≤ l1 then some (.inr G) else bd ((l1 * 8) : Int32) fun x2 => (iter (fun s : Hp × Int32 => fX7_init_S61 sh l0 l1 s.1 s.2) fuel ((G, x2) : Hp × Int32)).bind (fun u6 => bd u6 fun G4 => bd ((l1 + 1) : Int32) fun x5 => some (.inl (G4, x5)))
set_option maxHeartbeats 4000000 in
theorem tX7_init_S50 {E : EX} {ad0 ad : Nat → Nat} {sh0 sh : Sh} {G : Hp} {l0 : Nat} {l1 : Int32} {o : (Hp × Int32) ⊕ ((Hp))} (C : Cx E RX7 cX7_init 3 none 6 5 3232) (hin : (xM E).name = "<init>") (hC : Cl sh G) (hag : ∀ k, k < sh0.length → ad k = ad0 k) (hle : sh0.length ≤ sh.length) (h_l0 : sh[l0]? = some (0, 7)) (hf : fX7_init_S50 sh l0 G l1 = some o) (kb : ∀ (G2 : Hp) (b_l1 : Int32), o = .inl (G2, b_l1) → Cl sh G2 → VV E 5 3232 (wq (xT E) ad G2 sh) 50 [(0, .ref (ad l0)), (1, .int b_l1)] []) (kx125 : ∀ (G2 : Hp), o = .inr G2 → Cl sh G2 → VV E 5 3232 (wq (xT E) ad G2 sh) 125 [(0, .ref (ad l0))] []) : VV E 5 3232 (wq (xT E) ad G sh) 50 [(0, .ref (ad l0)), (1, .int l1)] [] := by
  unfold fX7_init_S50 at hf
  refine v_iload_n C 1 dX7_init_50 rfl rfl ?_
  refine v_bipush (v := 26) C dX7_init_51 (by decide) ?_
  refine v_icmp_ge (tgt := 125) C dX7_init_53 (by decide) (fun c1 => ?_) (fun c1 => ?_)
  · have hf := ip hf c1
    cases hf
    refine v_sub [0] rfl ?_
    exact kx125 _ rfl hC
  · have hf := im hf c1
    refine v_iload_n C 1 dX7_init_56 rfl rfl ?_
    refine v_bipush (v := 8) C dX7_init_57 (by decide) ?_
    refine v_imul C dX7_init_59 ?_
    refine v_topi (fun x2 ex2 => ?_)
    have hf := bd_at hf ex2
    refine v_istore_n (lv2 := [(2, .int x2), (0, .ref (ad l0)), (1, .int l1)]) C dX7_init_60 rfl (by decide) rfl ?_
    obtain ⟨r3, qr3, hf⟩ := bn hf
    refine v_sub [1, 2, 0] rfl ?_
    refine iter_sound (P := (fun s : Hp × Int32 => Cl sh (s.1) → VV E 5 3232 (wq (xT E) ad (s.1) sh) 61 [(0, .ref (ad l0)), (1, .int (l1)), (2, .int (s.2))] [])) (X := fun r => r = r3) (fun jsr3 jor3 hor3 jbr3 jxr3 hC => tX7_init_S61 C hin hC hag hle h_l0 hor3 (fun _ _ e => jbr3 _ e) ?_) fuel _ r3 qr3 rfl hC
    · intro G4 hu hC
      have e := jxr3 _ hu
      subst e
      have hf := bd_at hf (rfl : G4 = _)
      obtain ⟨x5, ex5⟩ : ∃ x : Int32, x = (l1 + 1) := ⟨_, rfl⟩
      have hf := bd_at hf ex5
      refine v_iinc (v := x5) (j := 1) (lv2 := [(1, .int x5), (0, .ref (ad l0))]) C dX7_init_119 rfl (by rw [ex5]; rfl) (by decide) rfl ?_
      refine v_goto (tgt := 50) C dX7_init_122 (by decide) ?_
      cases hf
      refine v_sub [1, 0] rfl ?_
      exact kb _ _ rfl hC
set_option maxRecDepth 100000 in
def fX7_init (sh : Sh) (G : Hp) (l0 : Nat) : Option (Sh × Hp) := bd (List.length sh) fun n1 => bd (sh ++ [(1, 402)]) fun sh => bd (zr G n1) fun G2 => bd (sR G2 l0 1 (some n1)) fun G3 => bd (List.length sh) fun n4 => bd (sh ++ [(1, 402)]) fun sh => bd (zr G3 n4) fun G5 => bd (sR G5 l0 2 (some n4)) fun G6 => bd (List.length sh) fun n7 => bd (sh ++ [(4, 402)]) fun sh => bd (zr G6 n7) fun G8 => bd (sR G8 l0 3 (some n7)) fun G9 => bd (List.length sh) fun n10 => bd (sh ++ [(4, 26)]) fun sh => bd (zr G9 n10) fun G11 => bd (sR G11 l0 4 (some n10)) fun G12 => bd (List.length sh) fun n13 => bd (sh ++ [(2, 2000)]) fun sh => bd (zr G12 n13) fun G14 => bd (sR G14 l0 5 (some n13)) fun G15 => (iter (fun s : Hp × Int32 => fX7_init_S50 sh l0 s.1 s.2) fuel ((G15, 0) : Hp × Int32)).bind (fun u18 => bd u18 fun G17 => some (sh, G17))
set_option maxHeartbeats 40000000 in
set_option maxRecDepth 100000 in
theorem tX7_init {E : EX} {ad0 : Nat → Nat} {sh0 : Sh} {G : Hp} {l0 : Nat} {z : Sh × Hp} (C : Cx E RX7 cX7_init 3 none 6 5 3232) (hin : (xM E).name = "<init>") (hC : Cl sh0 G) (h_l0 : sh0[l0]? = some (0, 7)) (hf : fX7_init sh0 G l0 = some z) (kr : RCc E cX7_init ad0 sh0 z 5 3232) : VV E 0 0 (wq (xT E) ad0 G sh0) 0 [(0, .ref (ad0 l0))] [] := by
  unfold fX7_init at hf
  obtain ⟨sh, esh⟩ : ∃ x, x = sh0 := ⟨_, rfl⟩
  obtain ⟨ad, ead⟩ : ∃ x, x = ad0 := ⟨_, rfl⟩
  have hag : ∀ k, k < sh0.length → ad k = ad0 k := fun k _ => by rw [ead]
  have hle : sh0.length ≤ sh.length := by rw [esh]; exact Nat.le_refl _
  rw [← ead]
  rw [← esh] at hf hC h_l0
  have hw : wq (xT E) ad G sh0 = wq (xT E) ad G sh := by rw [esh]
  rw [hw]
  clear ead esh hw
  refine v_aload_n C 0 dX7_init_0 rfl rfl ?_
  refine v_objInit C oi_X7_3 (by decide) (Nat.le_of_ble_eq_true rfl) dX7_init_1 ?_
  refine v_aload_n C 0 dX7_init_4 rfl rfl ?_
  refine v_sipush (v := 402) C dX7_init_5 (by decide) ?_
  refine w_newI (N := 402) C zkw_a_int hC (by decide) (by decide) (by decide) (by decide) (by decide) dX7_init_8 (fun ad n1 G2 sh en esh eG had hC => ?_)
  have hf := bd_at hf en
  have hf := bd_at hf esh
  have hf := bd_at hf eG
  rw [← had l0 (lt_o h_l0)]
  have hag := ag_step had hag hle
  have hle := le_app esh hle
  have h_l0 := sh_app esh h_l0
  have h_n1 := tg_new esh en
  clear had esh eG en
  refine v_putF C hin h_l0 pf_X7_9 rfl rfl h_n1.choose_spec hC dX7_init_10 (fun G3 eG hC => ?_)
  have hf := bd_at hf eG
  clear eG
  refine v_aload_n C 0 dX7_init_13 rfl rfl ?_
  refine v_sipush (v := 402) C dX7_init_14 (by decide) ?_
  refine w_newI (N := 402) C zkw_a_int hC (by decide) (by decide) (by decide) (by decide) (by decide) dX7_init_17 (fun ad n4 G5 sh en esh eG had hC => ?_)
  have hf := bd_at hf en
  have hf := bd_at hf esh
  have hf := bd_at hf eG
  rw [← had l0 (lt_o h_l0)]
  have hag := ag_step had hag hle
  have hle := le_app esh hle
  have h_l0 := sh_app esh h_l0
  have h_n4 := tg_new esh en
  clear had esh eG en
  refine v_putF C hin h_l0 pf_X7_15 rfl rfl h_n4.choose_spec hC dX7_init_19 (fun G6 eG hC => ?_)
  have hf := bd_at hf eG
  clear eG
  refine v_aload_n C 0 dX7_init_22 rfl rfl ?_
  refine v_sipush (v := 402) C dX7_init_23 (by decide) ?_
  refine w_newJ (N := 402) C zkw_a_long hC (by decide) (by decide) (by decide) (by decide) (by decide) dX7_init_26 (fun ad n7 G8 sh en esh eG had hC => ?_)
  have hf := bd_at hf en
  have hf := bd_at hf esh
  have hf := bd_at hf eG
  rw [← had l0 (lt_o h_l0)]
  have hag := ag_step had hag hle
  have hle := le_app esh hle
  have h_l0 := sh_app esh h_l0
  have h_n7 := tg_new esh en
  clear had esh eG en
  refine v_putF C hin h_l0 pf_X7_18 rfl rfl h_n7.choose_spec hC dX7_init_28 (fun G9 eG hC => ?_)
  have hf := bd_at hf eG
  clear eG
  refine v_aload_n C 0 dX7_init_31 rfl rfl ?_
  refine v_bipush (v := 26) C dX7_init_32 (by decide) ?_
  refine w_newJ (N := 26) C zkw_a_long hC (by decide) (by decide) (by decide) (by decide) (by decide) dX7_init_34 (fun ad n10 G11 sh en esh eG had hC => ?_)
  have hf := bd_at hf en
  have hf := bd_at hf esh
  have hf := bd_at hf eG
  rw [← had l0 (lt_o h_l0)]
  have hag := ag_step had hag hle
  have hle := le_app esh hle
  have h_l0 := sh_app esh h_l0
  have h_n10 := tg_new esh en
  clear had esh eG en
  refine v_putF C hin h_l0 pf_X7_22 rfl rfl h_n10.choose_spec hC dX7_init_36 (fun G12 eG hC => ?_)
  have hf := bd_at hf eG
  clear eG
  refine v_aload_n C 0 dX7_init_39 rfl rfl ?_
  refine v_sipush (v := 2000) C dX7_init_40 (by decide) ?_
  refine w_newB (N := 2000) C zkw_a_byte hC (by decide) (by decide) (by decide) (by decide) (by decide) dX7_init_43 (fun ad n13 G14 sh en esh eG had hC => ?_)
  have hf := bd_at hf en
  have hf := bd_at hf esh
  have hf := bd_at hf eG
  rw [← had l0 (lt_o h_l0)]
  have hag := ag_step had hag hle
  have hle := le_app esh hle
  have h_l0 := sh_app esh h_l0
  have h_n13 := tg_new esh en
  clear had esh eG en
  refine v_putF C hin h_l0 pf_X7_25 rfl rfl h_n13.choose_spec hC dX7_init_45 (fun G15 eG hC => ?_)
  have hf := bd_at hf eG
  clear eG
  refine v_iconst (v := 0) C dX7_init_48 (by decide) ?_
  refine v_istore_n (lv2 := [(1, .int 0), (0, .ref (ad l0))]) C dX7_init_49 rfl (by decide) rfl ?_
  obtain ⟨r16, qr16, hf⟩ := bn hf
  refine v_sub [1, 0] rfl ?_
  refine iter_sound (P := (fun s : Hp × Int32 => Cl sh (s.1) → VV E 5 3232 (wq (xT E) ad (s.1) sh) 50 [(0, .ref (ad l0)), (1, .int (s.2))] [])) (X := fun r => r = r16) (fun jsr16 jor16 hor16 jbr16 jxr16 hC => tX7_init_S50 C hin hC hag hle h_l0 hor16 (fun _ _ e => jbr16 _ e) ?_) fuel _ r16 qr16 rfl hC
  · intro G17 hu hC
    have e := jxr16 _ hu
    subst e
    have hf := bd_at hf (rfl : G17 = _)
    cases hf
    refine v_widen (c2 := 5) (s2 := 3232) (by decide) (by decide) ?_
    exact kr _ _ _ hag hC dX7_init_125
theorem sX7_init {l : Launch} {sh : Sh} {G : Hp} {l0 : Nat} {z : Sh × Hp} (h_l0 : sh[l0]? = some (0, 7)) (hf : fX7_init sh G l0 = some z) : MC l yX7_init cX7_init 3 none 6 5 3232 sh z.1 G z.2 (fun ad => [.ref (ad l0)]) (fun _ => none) := by
  refine MC_of rfl rfl (fun _ => Nat.le_of_ble_eq_true rfl) (fun E ad C hl hnm hC hQ => ?_)
  exact tX7_init C hnm hC h_l0 hf (fun pc lv ad2 had hC2 hd => v_vret C hQ had hC2 rfl hd)
set_option maxRecDepth 100000 in
def fX6_init (sh : Sh) (G : Hp) (l0 : Nat) : Option (Sh × Hp) := bd (List.length sh) fun n1 => bd (sh ++ [(0, 7)]) fun sh => bd (zr G n1) fun G2 => (fX7_init sh G2 n1).bind fun r4 => bd r4.1 fun sh1 => bd r4.2 fun G3 => (ckL sh sh1).bind fun _ => (ckO sh1 l0 6).bind fun _ => (ckO sh1 n1 7).bind fun _ => bd sh1 fun sh => bd (sR G3 l0 0 (some n1)) fun G5 => bd (List.length sh) fun n6 => bd (sh ++ [(4, 23)]) fun sh => bd (zr G5 n6) fun G7 => bd (sR G7 l0 11 (some n6)) fun G8 => bd (List.length sh) fun n9 => bd (sh ++ [(4, 8)]) fun sh => bd (zr G8 n9) fun G10 => bd (sR G10 l0 13 (some n9)) fun G11 => bd (List.length sh) fun n12 => bd (sh ++ [(4, 60)]) fun sh => bd (zr G11 n12) fun G13 => bd (sR G13 l0 14 (some n12)) fun G14 => bd (List.length sh) fun n15 => bd (sh ++ [(0, 8)]) fun sh => bd (zr G14 n15) fun G16 => (fX8_init sh G16 n15).bind fun r18 => bd r18.1 fun sh1 => bd r18.2 fun G17 => (ckL sh sh1).bind fun _ => (ckO sh1 l0 6).bind fun _ => (ckO sh1 n15 8).bind fun _ => bd sh1 fun sh => bd (sR G17 l0 9 (some n15)) fun G19 => (ldO sh G19 l0 9 8).bind fun a20 => (ldO sh G19 a20 14 4).bind fun a21 => bd (sR G19 l0 10 (some a21)) fun G22 => some (sh, G22)
set_option maxHeartbeats 40000000 in
set_option maxRecDepth 100000 in
theorem tX6_init {E : EX} {ad0 : Nat → Nat} {sh0 : Sh} {G : Hp} {l0 : Nat} {z : Sh × Hp} (C : Cx E RX6 cX6_init 1 none 7 30 4699) (hin : (xM E).name = "<init>") (hC : Cl sh0 G) (h_l0 : sh0[l0]? = some (0, 6)) (hf : fX6_init sh0 G l0 = some z) (kr : RCc E cX6_init ad0 sh0 z 30 4699) : VV E 0 0 (wq (xT E) ad0 G sh0) 0 [(0, .ref (ad0 l0))] [] := by
  unfold fX6_init at hf
  obtain ⟨sh, esh⟩ : ∃ x, x = sh0 := ⟨_, rfl⟩
  obtain ⟨ad, ead⟩ : ∃ x, x = ad0 := ⟨_, rfl⟩
  have hag : ∀ k, k < sh0.length → ad k = ad0 k := fun k _ => by rw [ead]
  have hle : sh0.length ≤ sh.length := by rw [esh]; exact Nat.le_refl _
  rw [← ead]
  rw [← esh] at hf hC h_l0
  have hw : wq (xT E) ad G sh0 = wq (xT E) ad G sh := by rw [esh]
  rw [hw]
  clear ead esh hw
  refine v_aload_n C 0 dX6_init_0 rfl rfl ?_
  refine v_objInit C oi_X6_5 (by decide) (Nat.le_of_ble_eq_true rfl) dX6_init_1 ?_
  refine v_aload_n C 0 dX6_init_4 rfl rfl ?_
  refine w_new C nw_X6_11 hC (by decide) (by decide) dX6_init_5 (fun ad n1 G2 sh en esh eG had hC => ?_)
  have hf := bd_at hf en
  have hf := bd_at hf esh
  have hf := bd_at hf eG
  rw [← had l0 (lt_o h_l0)]
  have hag := ag_step had hag hle
  have hle := le_app esh hle
  have h_l0 := sh_app esh h_l0
  have h_n1 := sh_new esh en
  clear had esh eG en
  refine v_dup C dX6_init_8 rfl ?_
  obtain ⟨⟨sh, G3⟩, qr4, hf⟩ := bn hf
  have hf := bd_at hf (rfl : sh = _)
  have hf := bd_at hf (rfl : G3 = _)
  obtain ⟨_, hL, hf⟩ := bn hf
  obtain ⟨_, hu0, hf⟩ := bn hf
  obtain ⟨_, hu1, hf⟩ := bn hf
  have hf := bd_at hf (rfl : sh = _)
  refine v_callI (As := []) (rest := [.ref (ad n1), .ref (ad l0)]) C (sX7_init h_n1 qr4) ci_X6_13 (by decide) hC rfl rfl rfl (Nat.le_of_ble_eq_true rfl) ⟨(by decide), (by decide)⟩ dX6_init_9 (fun ad had hC => ?_)
  rw [← had l0 (lt_o h_l0)]
  rw [← had n1 (lt_o h_n1)]
  have hag := ag_step had hag hle
  have hle := Nat.le_trans hle (ckL_some hL)
  have h_l0 := ckO_some hu0
  have h_n1 := ckO_some hu1
  clear had hL
  refine v_putF C hin h_l0 pf_X6_14 rfl rfl h_n1 hC dX6_init_12 (fun G5 eG hC => ?_)
  have hf := bd_at hf eG
  clear eG
  refine v_aload_n C 0 dX6_init_15 rfl rfl ?_
  refine v_bipush (v := 23) C dX6_init_16 (by decide) ?_
  refine w_newJ (N := 23) C zkw_a_long hC (by decide) (by decide) (by decide) (by decide) (by decide) dX6_init_18 (fun ad n6 G7 sh en esh eG had hC => ?_)
  have hf := bd_at hf en
  have hf := bd_at hf esh
  have hf := bd_at hf eG
  rw [← had l0 (lt_o h_l0)]
  have hag := ag_step had hag hle
  have hle := le_app esh hle
  have h_l0 := sh_app esh h_l0
  have h_n6 := tg_new esh en
  clear had esh eG en
  refine v_putF C hin h_l0 pf_X6_18 rfl rfl h_n6.choose_spec hC dX6_init_20 (fun G8 eG hC => ?_)
  have hf := bd_at hf eG
  clear eG
  refine v_aload_n C 0 dX6_init_23 rfl rfl ?_
  refine v_bipush (v := 8) C dX6_init_24 (by decide) ?_
  refine w_newJ (N := 8) C zkw_a_long hC (by decide) (by decide) (by decide) (by decide) (by decide) dX6_init_26 (fun ad n9 G10 sh en esh eG had hC => ?_)
  have hf := bd_at hf en
  have hf := bd_at hf esh
  have hf := bd_at hf eG
  rw [← had l0 (lt_o h_l0)]
  have hag := ag_step had hag hle
  have hle := le_app esh hle
  have h_l0 := sh_app esh h_l0
  have h_n9 := tg_new esh en
  clear had esh eG en
  refine v_putF C hin h_l0 pf_X6_22 rfl rfl h_n9.choose_spec hC dX6_init_28 (fun G11 eG hC => ?_)
  have hf := bd_at hf eG
  clear eG
  refine v_aload_n C 0 dX6_init_31 rfl rfl ?_
  refine v_bipush (v := 60) C dX6_init_32 (by decide) ?_
  refine w_newJ (N := 60) C zkw_a_long hC (by decide) (by decide) (by decide) (by decide) (by decide) dX6_init_34 (fun ad n12 G13 sh en esh eG had hC => ?_)
  have hf := bd_at hf en
  have hf := bd_at hf esh
  have hf := bd_at hf eG
  rw [← had l0 (lt_o h_l0)]
  have hag := ag_step had hag hle
  have hle := le_app esh hle
  have h_l0 := sh_app esh h_l0
  have h_n12 := tg_new esh en
  clear had esh eG en
  refine v_putF C hin h_l0 pf_X6_27 rfl rfl h_n12.choose_spec hC dX6_init_36 (fun G14 eG hC => ?_)
  have hf := bd_at hf eG
  clear eG
  refine v_aload_n C 0 dX6_init_39 rfl rfl ?_
  refine w_new C nw_X6_25 hC (by decide) (by decide) dX6_init_40 (fun ad n15 G16 sh en esh eG had hC => ?_)
  have hf := bd_at hf en
  have hf := bd_at hf esh
  have hf := bd_at hf eG
  rw [← had l0 (lt_o h_l0)]
  have hag := ag_step had hag hle
  have hle := le_app esh hle
  have h_l0 := sh_app esh h_l0
  have h_n15 := sh_new esh en
  clear had esh eG en
  refine v_dup C dX6_init_43 rfl ?_
  obtain ⟨⟨sh, G17⟩, qr18, hf⟩ := bn hf
  have hf := bd_at hf (rfl : sh = _)
  have hf := bd_at hf (rfl : G17 = _)
  obtain ⟨_, hL, hf⟩ := bn hf
  obtain ⟨_, hu0, hf⟩ := bn hf
  obtain ⟨_, hu1, hf⟩ := bn hf
  have hf := bd_at hf (rfl : sh = _)
  refine v_callI (As := []) (rest := [.ref (ad n15), .ref (ad l0)]) C (sX8_init h_n15 qr18) ci_X6_30 (by decide) hC rfl rfl rfl (Nat.le_of_ble_eq_true rfl) ⟨(by decide), (by decide)⟩ dX6_init_44 (fun ad had hC => ?_)
  rw [← had l0 (lt_o h_l0)]
  rw [← had n15 (lt_o h_n15)]
  have hag := ag_step had hag hle
  have hle := Nat.le_trans hle (ckL_some hL)
  have h_l0 := ckO_some hu0
  have h_n15 := ckO_some hu1
  clear had hL
  refine v_putR C h_l0 zfp_X6_31 rfl rfl h_n15 hC dX6_init_47 (fun G19 eG19 hC => ?_)
  have hf := bd_at hf eG19
  refine v_aload_n C 0 dX6_init_50 rfl rfl ?_
  refine v_aload_n C 0 dX6_init_51 rfl rfl ?_
  obtain ⟨a20, qa20, hf⟩ := bn hf
  refine v_getO C h_l0 zfl_X6_31 qa20 dX6_init_52 (fun h_a20 => ?_)
  obtain ⟨a21, qa21, hf⟩ := bn hf
  refine v_getO C h_a20 zfl_X6_35 qa21 dX6_init_55 (fun h_a21 => ?_)
  refine v_putR C h_l0 zfp_X6_39 rfl rfl h_a21 hC dX6_init_58 (fun G22 eG22 hC => ?_)
  have hf := bd_at hf eG22
  cases hf
  refine v_widen (c2 := 30) (s2 := 4699) (by decide) (by decide) ?_
  exact kr _ _ _ hag hC dX6_init_61
theorem sX6_init {l : Launch} {sh : Sh} {G : Hp} {l0 : Nat} {z : Sh × Hp} (h_l0 : sh[l0]? = some (0, 6)) (hf : fX6_init sh G l0 = some z) : MC l yX6_init cX6_init 1 none 7 30 4699 sh z.1 G z.2 (fun ad => [.ref (ad l0)]) (fun _ => none) := by
  refine MC_of rfl rfl (fun _ => Nat.le_of_ble_eq_true rfl) (fun E ad C hl hnm hC hQ => ?_)
  exact tX6_init C hnm hC h_l0 hf (fun pc lv ad2 had hC2 hd => v_vret C hQ had hC2 rfl hd)
set_option maxRecDepth 100000 in
def fX3_init (sh : Sh) (G : Hp) (l0 : Nat) : Option (Sh × Hp) := bd (List.length sh) fun n1 => bd (sh ++ [(1, 9)]) fun sh => bd (zr G n1) fun G2 => bd (sR G2 l0 0 (some n1)) fun G3 => bd (List.length sh) fun n4 => bd (sh ++ [(1, 4)]) fun sh => bd (zr G3 n4) fun G5 => bd (sR G5 l0 1 (some n4)) fun G6 => bd (List.length sh) fun n7 => bd (sh ++ [(0, 1)]) fun sh => bd (zr G6 n7) fun G8 => (fX1_init sh G8 n7).bind fun r10 => bd r10.1 fun sh1 => bd r10.2 fun G9 => (ckL sh sh1).bind fun _ => (ckO sh1 l0 3).bind fun _ => (ckO sh1 n7 1).bind fun _ => bd sh1 fun sh => bd (sR G9 l0 2 (some n7)) fun G11 => some (sh, G11)
set_option maxHeartbeats 40000000 in
set_option maxRecDepth 100000 in
theorem tX3_init {E : EX} {ad0 : Nat → Nat} {sh0 : Sh} {G : Hp} {l0 : Nat} {z : Sh × Hp} (C : Cx E RX3 cX3_init 1 none 2 7 43) (hin : (xM E).name = "<init>") (hC : Cl sh0 G) (h_l0 : sh0[l0]? = some (0, 3)) (hf : fX3_init sh0 G l0 = some z) (kr : RCc E cX3_init ad0 sh0 z 7 43) : VV E 0 0 (wq (xT E) ad0 G sh0) 0 [(0, .ref (ad0 l0))] [] := by
  unfold fX3_init at hf
  obtain ⟨sh, esh⟩ : ∃ x, x = sh0 := ⟨_, rfl⟩
  obtain ⟨ad, ead⟩ : ∃ x, x = ad0 := ⟨_, rfl⟩
  have hag : ∀ k, k < sh0.length → ad k = ad0 k := fun k _ => by rw [ead]
  have hle : sh0.length ≤ sh.length := by rw [esh]; exact Nat.le_refl _
  rw [← ead]
  rw [← esh] at hf hC h_l0
  have hw : wq (xT E) ad G sh0 = wq (xT E) ad G sh := by rw [esh]
  rw [hw]
  clear ead esh hw
  refine v_aload_n C 0 dX3_init_0 rfl rfl ?_
  refine v_objInit C oi_X3_3 (by decide) (Nat.le_of_ble_eq_true rfl) dX3_init_1 ?_
  refine v_aload_n C 0 dX3_init_4 rfl rfl ?_
  refine v_bipush (v := 9) C dX3_init_5 (by decide) ?_
  refine w_newI (N := 9) C zkw_a_int hC (by decide) (by decide) (by decide) (by decide) (by decide) dX3_init_7 (fun ad n1 G2 sh en esh eG had hC => ?_)
  have hf := bd_at hf en
  have hf := bd_at hf esh
  have hf := bd_at hf eG
  rw [← had l0 (lt_o h_l0)]
  have hag := ag_step had hag hle
  have hle := le_app esh hle
  have h_l0 := sh_app esh h_l0
  have h_n1 := tg_new esh en
  clear had esh eG en
  refine v_putF C hin h_l0 pf_X3_9 rfl rfl h_n1.choose_spec hC dX3_init_9 (fun G3 eG hC => ?_)
  have hf := bd_at hf eG
  clear eG
  refine v_aload_n C 0 dX3_init_12 rfl rfl ?_
  refine v_iconst (v := 4) C dX3_init_13 (by decide) ?_
  refine w_newI (N := 4) C zkw_a_int hC (by decide) (by decide) (by decide) (by decide) (by decide) dX3_init_14 (fun ad n4 G5 sh en esh eG had hC => ?_)
  have hf := bd_at hf en
  have hf := bd_at hf esh
  have hf := bd_at hf eG
  rw [← had l0 (lt_o h_l0)]
  have hag := ag_step had hag hle
  have hle := le_app esh hle
  have h_l0 := sh_app esh h_l0
  have h_n4 := tg_new esh en
  clear had esh eG en
  refine v_putF C hin h_l0 pf_X3_15 rfl rfl h_n4.choose_spec hC dX3_init_16 (fun G6 eG hC => ?_)
  have hf := bd_at hf eG
  clear eG
  refine v_aload_n C 0 dX3_init_19 rfl rfl ?_
  refine w_new C nw_X3_18 hC (by decide) (by decide) dX3_init_20 (fun ad n7 G8 sh en esh eG had hC => ?_)
  have hf := bd_at hf en
  have hf := bd_at hf esh
  have hf := bd_at hf eG
  rw [← had l0 (lt_o h_l0)]
  have hag := ag_step had hag hle
  have hle := le_app esh hle
  have h_l0 := sh_app esh h_l0
  have h_n7 := sh_new esh en
  clear had esh eG en
  refine v_dup C dX3_init_23 rfl ?_
  obtain ⟨⟨sh, G9⟩, qr10, hf⟩ := bn hf
  have hf := bd_at hf (rfl : sh = _)
  have hf := bd_at hf (rfl : G9 = _)
  obtain ⟨_, hL, hf⟩ := bn hf
  obtain ⟨_, hu0, hf⟩ := bn hf
  obtain ⟨_, hu1, hf⟩ := bn hf
  have hf := bd_at hf (rfl : sh = _)
  refine v_callI (As := []) (rest := [.ref (ad n7), .ref (ad l0)]) C (sX1_init h_n7 qr10) ci_X3_20 (by decide) hC rfl rfl rfl (Nat.le_of_ble_eq_true rfl) ⟨(by decide), (by decide)⟩ dX3_init_24 (fun ad had hC => ?_)
  rw [← had l0 (lt_o h_l0)]
  rw [← had n7 (lt_o h_n7)]
  have hag := ag_step had hag hle
  have hle := Nat.le_trans hle (ckL_some hL)
  have h_l0 := ckO_some hu0
  have h_n7 := ckO_some hu1
  clear had hL
  refine v_putF C hin h_l0 pf_X3_21 rfl rfl h_n7 hC dX3_init_27 (fun G11 eG hC => ?_)
  have hf := bd_at hf eG
  clear eG
  cases hf
  refine v_widen (c2 := 7) (s2 := 43) (by decide) (by decide) ?_
  exact kr _ _ _ hag hC dX3_init_30
theorem sX3_init {l : Launch} {sh : Sh} {G : Hp} {l0 : Nat} {z : Sh × Hp} (h_l0 : sh[l0]? = some (0, 3)) (hf : fX3_init sh G l0 = some z) : MC l yX3_init cX3_init 1 none 2 7 43 sh z.1 G z.2 (fun ad => [.ref (ad l0)]) (fun _ => none) := by
  refine MC_of rfl rfl (fun _ => Nat.le_of_ble_eq_true rfl) (fun E ad C hl hnm hC hQ => ?_)
  exact tX3_init C hnm hC h_l0 hf (fun pc lv ad2 had hC2 hd => v_vret C hQ had hC2 rfl hd)
def fX2_init_S15 (l0 : Nat) (sh : Sh) (G : Hp) (cc0 ss0 : Nat) (l1 : Int32) : Option ((Sh × Hp × Nat × Nat × Int32) ⊕ (Sh × Hp × Nat × Nat)) := if 40 ≤ l1 then some (.inr (sh, G, cc0, ss0)) else (ldA sh G l0 2 5).bind fun a2 => if ¬ (cc0 + 1 ≤ 201 ∧ ss0 + 9 ≤ 1240) then none else bd (List.length sh) fun n4 => bd (sh ++ [(0, 1)]) fun sh => bd (zr G n4) fun G5 => if ¬ ((cc0 + 1) + 4 ≤ 201 ∧ (ss0 + 9) + 21 ≤ 1240) then none else (fX1_init sh G5 n4).bind fun r8 => bd r8.1 fun sh1 => bd r8.2 fun G7 => (ckL sh sh1).bind fun _ => (ckO sh1 l0 2).bind fun _ => (ckO sh1 n4 1).bind fun _ => (ckA sh1 a2 5).bind fun _ => bd sh1 fun sh => (asR sh G7 a2 l1 n4).bind fun G9 => bd ((l1 + 1) : Int32) fun x10 => some (.inl (sh, G9, ((cc0 + 1) + 4), ((ss0 + 9) + 21), x10))
set_option maxHeartbeats 4000000 in
theorem tX2_init_S15 {E : EX} {ad0 ad : Nat → Nat} {sh0 sh : Sh} {G : Hp} {l0 : Nat} {l1 : Int32} {cc0 ss0 : Nat} {o : (Sh × Hp × Nat × Nat × Int32) ⊕ (Sh × Hp × Nat × Nat)} (C : Cx E RX2 cX2_init 2 none 2 201 1240) (hin : (xM E).name = "<init>") (hC : Cl sh G) (hag : ∀ k, k < sh0.length → ad k = ad0 k) (hle : sh0.length ≤ sh.length) (h_l0 : sh[l0]? = some (0, 2)) (hf : fX2_init_S15 l0 sh G cc0 ss0 l1 = some o) (kb : ∀ (ad2 : Nat → Nat) (sh2 : Sh) (G2 : Hp) (c2 s2 : Nat) (b_l1 : Int32), o = .inl (sh2, G2, c2, s2, b_l1) → Cl sh2 G2 → (∀ k, k < sh0.length → ad2 k = ad0 k) → sh0.length ≤ sh2.length → sh2[l0]? = some (0, 2) → VV E c2 s2 (wq (xT E) ad2 G2 sh2) 15 [(0, .ref (ad2 l0)), (1, .int b_l1)] []) (kx : ∀ (ad2 : Nat → Nat) (sh2 : Sh) (G2 : Hp) (c2 s2 : Nat) , o = .inr (sh2, G2, c2, s2) → Cl sh2 G2 → (∀ k, k < sh0.length → ad2 k = ad0 k) → sh0.length ≤ sh2.length → sh2[l0]? = some (0, 2) → VV E c2 s2 (wq (xT E) ad2 G2 sh2) 40 [(0, .ref (ad2 l0))] []) : VV E cc0 ss0 (wq (xT E) ad G sh) 15 [(0, .ref (ad l0)), (1, .int l1)] [] := by
  unfold fX2_init_S15 at hf
  refine v_iload_n C 1 dX2_init_15 rfl rfl ?_
  refine v_bipush (v := 40) C dX2_init_16 (by decide) ?_
  refine v_icmp_ge (tgt := 40) C dX2_init_18 (by decide) (fun c1 => ?_) (fun c1 => ?_)
  · have hf := ip hf c1
    cases hf
    refine v_sub [0] rfl ?_
    exact kx _ _ _ _ _ rfl hC hag hle h_l0
  · have hf := im hf c1
    refine v_aload_n C 0 dX2_init_21 rfl rfl ?_
    obtain ⟨a2, qa2, hf⟩ := bn hf
    refine v_getA C h_l0 zfl_X2_11 qa2 dX2_init_22 (fun h_a2 => ?_)
    refine v_iload_n C 1 dX2_init_25 rfl rfl ?_
    obtain ⟨hk3, hf⟩ := iz hf
    have hk3 := Classical.not_not.mp hk3
    refine w_new C nw_X2_9 hC hk3.1 hk3.2 dX2_init_26 (fun ad n4 G5 sh en esh eG had hC => ?_)
    have hf := bd_at hf en
    have hf := bd_at hf esh
    have hf := bd_at hf eG
    rw [← had l0 (lt_o h_l0)]
    rw [← had a2 (lt_t h_a2)]
    have hag := ag_step had hag hle
    have hle := le_app esh hle
    have h_l0 := sh_app esh h_l0
    have h_a2 := tg_app esh h_a2
    have h_n4 := sh_new esh en
    clear had esh eG en
    refine v_dup C dX2_init_29 rfl ?_
    obtain ⟨hk6, hf⟩ := iz hf
    have hk6 := Classical.not_not.mp hk6
    obtain ⟨⟨sh, G7⟩, qr8, hf⟩ := bn hf
    have hf := bd_at hf (rfl : sh = _)
    have hf := bd_at hf (rfl : G7 = _)
    obtain ⟨_, hL, hf⟩ := bn hf
    obtain ⟨_, hu0, hf⟩ := bn hf
    obtain ⟨_, hu1, hf⟩ := bn hf
    obtain ⟨_, hu2, hf⟩ := bn hf
    have hf := bd_at hf (rfl : sh = _)
    refine v_callI (As := []) (rest := [.ref (ad n4), .int l1, .ref (ad a2)]) C (sX1_init h_n4 qr8) ci_X2_17 (by decide) hC rfl rfl rfl (Nat.le_of_ble_eq_true rfl) ⟨hk6.1, hk6.2⟩ dX2_init_30 (fun ad had hC => ?_)
    rw [← had l0 (lt_o h_l0)]
    rw [← had n4 (lt_o h_n4)]
    rw [← had a2 (lt_t h_a2)]
    have hag := ag_step had hag hle
    have hle := Nat.le_trans hle (ckL_some hL)
    have h_l0 := ckO_some hu0
    have h_n4 := ckO_some hu1
    have h_a2 := ckA_some hu2
    clear had hL
    obtain ⟨G9, qG9, hf⟩ := bn hf
    refine v_aast C h_a2 h_n4 qG9 hC dX2_init_33 (fun hC => ?_)
    obtain ⟨x10, ex10⟩ : ∃ x : Int32, x = (l1 + 1) := ⟨_, rfl⟩
    have hf := bd_at hf ex10
    refine v_iinc (v := x10) (j := 1) (lv2 := [(1, .int x10), (0, .ref (ad l0))]) C dX2_init_34 rfl (by rw [ex10]; rfl) (by decide) rfl ?_
    refine v_goto (tgt := 15) C dX2_init_37 (by decide) ?_
    cases hf
    refine v_sub [1, 0] rfl ?_
    exact kb _ _ _ _ _ _ rfl hC hag hle h_l0
set_option maxRecDepth 100000 in
def fX2_init (sh : Sh) (G : Hp) (l0 : Nat) : Option (Sh × Hp) := bd (List.length sh) fun n1 => bd (sh ++ [(5, 40)]) fun sh => bd (zr G n1) fun G2 => bd (sR G2 l0 2 (some n1)) fun G3 => (iter (fun s : Sh × Hp × Nat × Nat × Int32 => fX2_init_S15 l0 s.1 s.2.1 s.2.2.1 s.2.2.2.1 s.2.2.2.2) fuel ((sh, G3, 1, 40, 0) : Sh × Hp × Nat × Nat × Int32)).bind (fun u5 => bd u5.1 fun sh => bd u5.2.1 fun G6 => bd u5.2.2.1 fun cw7 => bd u5.2.2.2 fun sw8 => if ¬ (cw7 ≤ 201 ∧ sw8 ≤ 1240) then none else some (sh, G6))
set_option maxHeartbeats 40000000 in
set_option maxRecDepth 100000 in
theorem tX2_init {E : EX} {ad0 : Nat → Nat} {sh0 : Sh} {G : Hp} {l0 : Nat} {z : Sh × Hp} (C : Cx E RX2 cX2_init 2 none 2 201 1240) (hin : (xM E).name = "<init>") (hC : Cl sh0 G) (h_l0 : sh0[l0]? = some (0, 2)) (hf : fX2_init sh0 G l0 = some z) (kr : RCc E cX2_init ad0 sh0 z 201 1240) : VV E 0 0 (wq (xT E) ad0 G sh0) 0 [(0, .ref (ad0 l0))] [] := by
  unfold fX2_init at hf
  obtain ⟨sh, esh⟩ : ∃ x, x = sh0 := ⟨_, rfl⟩
  obtain ⟨ad, ead⟩ : ∃ x, x = ad0 := ⟨_, rfl⟩
  have hag : ∀ k, k < sh0.length → ad k = ad0 k := fun k _ => by rw [ead]
  have hle : sh0.length ≤ sh.length := by rw [esh]; exact Nat.le_refl _
  rw [← ead]
  rw [← esh] at hf hC h_l0
  have hw : wq (xT E) ad G sh0 = wq (xT E) ad G sh := by rw [esh]
  rw [hw]
  clear ead esh hw
  refine v_aload_n C 0 dX2_init_0 rfl rfl ?_
  refine v_objInit C oi_X2_3 (by decide) (Nat.le_of_ble_eq_true rfl) dX2_init_1 ?_
  refine v_aload_n C 0 dX2_init_4 rfl rfl ?_
  refine v_bipush (v := 40) C dX2_init_5 (by decide) ?_
  refine w_newG (N := 40) C zkw_83 hC (by decide) (by decide) (by decide) (by decide) (by decide) dX2_init_7 (fun ad n1 G2 sh en esh eG had hC => ?_)
  have hf := bd_at hf en
  have hf := bd_at hf esh
  have hf := bd_at hf eG
  rw [← had l0 (lt_o h_l0)]
  have hag := ag_step had hag hle
  have hle := le_app esh hle
  have h_l0 := sh_app esh h_l0
  have h_n1 := tg_new esh en
  clear had esh eG en
  refine v_putF C hin h_l0 pf_X2_11 rfl rfl h_n1.choose_spec hC dX2_init_10 (fun G3 eG hC => ?_)
  have hf := bd_at hf eG
  clear eG
  refine v_iconst (v := 0) C dX2_init_13 (by decide) ?_
  refine v_istore_n (lv2 := [(1, .int 0), (0, .ref (ad l0))]) C dX2_init_14 rfl (by decide) rfl ?_
  obtain ⟨r4, qr4, hf⟩ := bn hf
  refine v_sub [1, 0] rfl ?_
  refine iter_sound (P := (fun s : Sh × Hp × Nat × Nat × Int32 => ∀ ad2 : Nat → Nat, Cl (s.1) (s.2.1) → (∀ k, k < sh0.length → ad2 k = ad0 k) → sh0.length ≤ (s.1).length → (s.1)[l0]? = some (0, 2) → VV E (s.2.2.1) (s.2.2.2.1) (wq (xT E) ad2 (s.2.1) (s.1)) 15 [(0, .ref (ad2 l0)), (1, .int (s.2.2.2.2))] [])) (X := fun r => r = r4) (fun js jo ho jb jx ad hC hag hle g0 => tX2_init_S15 C hin hC hag hle g0 ho (fun ad3 _ _ _ _ _ e => jb _ e ad3) ?_) fuel _ r4 qr4 rfl ad hC hag hle h_l0
  intro ad sh G6 cw7 sw8 hu hC hag hle h_l0
  have e := jx _ hu
  subst e
  have hf := bd_at hf (rfl : sh = _)
  have hf := bd_at hf (rfl : G6 = _)
  have hf := bd_at hf (rfl : cw7 = _)
  have hf := bd_at hf (rfl : sw8 = _)
  obtain ⟨hk9, hf⟩ := iz hf
  have hk9 := Classical.not_not.mp hk9
  cases hf
  refine v_widen (c2 := 201) (s2 := 1240) hk9.1 hk9.2 ?_
  exact kr _ _ _ hag hC dX2_init_40
theorem sX2_init {l : Launch} {sh : Sh} {G : Hp} {l0 : Nat} {z : Sh × Hp} (h_l0 : sh[l0]? = some (0, 2)) (hf : fX2_init sh G l0 = some z) : MC l yX2_init cX2_init 2 none 2 201 1240 sh z.1 G z.2 (fun ad => [.ref (ad l0)]) (fun _ => none) := by
  refine MC_of rfl rfl (fun _ => Nat.le_of_ble_eq_true rfl) (fun E ad C hl hnm hC hQ => ?_)
  exact tX2_init C hnm hC h_l0 hf (fun pc lv ad2 had hC2 hd => v_vret C hQ had hC2 rfl hd)
set_option maxRecDepth 100000 in
def fX5_init (sh : Sh) (G : Hp) (l0 : Nat) : Option (Sh × Hp) := bd (List.length sh) fun n1 => bd (sh ++ [(1, 4)]) fun sh => bd (zr G n1) fun G2 => bd (sR G2 l0 4 (some n1)) fun G3 => bd (List.length sh) fun n4 => bd (sh ++ [(1, 4)]) fun sh => bd (zr G3 n4) fun G5 => bd (sR G5 l0 5 (some n4)) fun G6 => bd (List.length sh) fun n7 => bd (sh ++ [(0, 1)]) fun sh => bd (zr G6 n7) fun G8 => (fX1_init sh G8 n7).bind fun r10 => bd r10.1 fun sh1 => bd r10.2 fun G9 => (ckL sh sh1).bind fun _ => (ckO sh1 l0 5).bind fun _ => (ckO sh1 n7 1).bind fun _ => bd sh1 fun sh => bd (sR G9 l0 6 (some n7)) fun G11 => bd (List.length sh) fun n12 => bd (sh ++ [(1, 4)]) fun sh => bd (zr G11 n12) fun G13 => bd (sR G13 l0 7 (some n12)) fun G14 => bd (List.length sh) fun n15 => bd (sh ++ [(1, 4)]) fun sh => bd (zr G14 n15) fun G16 => bd (sR G16 l0 8 (some n15)) fun G17 => bd (List.length sh) fun n18 => bd (sh ++ [(3, 35)]) fun sh => bd (zr G17 n18) fun G19 => bd (sR G19 l0 9 (some n18)) fun G20 => bd (List.length sh) fun n21 => bd (sh ++ [(1, 7)]) fun sh => bd (zr G20 n21) fun G22 => bd (sR G22 l0 10 (some n21)) fun G23 => bd (List.length sh) fun n24 => bd (sh ++ [(1, 640)]) fun sh => bd (zr G23 n24) fun G25 => bd (sR G25 l0 11 (some n24)) fun G26 => some (sh, G26)
set_option maxHeartbeats 40000000 in
set_option maxRecDepth 100000 in
theorem tX5_init {E : EX} {ad0 : Nat → Nat} {sh0 : Sh} {G : Hp} {l0 : Nat} {z : Sh × Hp} (C : Cx E RX5 cX5_init 1 none 2 12 728) (hin : (xM E).name = "<init>") (hC : Cl sh0 G) (h_l0 : sh0[l0]? = some (0, 5)) (hf : fX5_init sh0 G l0 = some z) (kr : RCc E cX5_init ad0 sh0 z 12 728) : VV E 0 0 (wq (xT E) ad0 G sh0) 0 [(0, .ref (ad0 l0))] [] := by
  unfold fX5_init at hf
  obtain ⟨sh, esh⟩ : ∃ x, x = sh0 := ⟨_, rfl⟩
  obtain ⟨ad, ead⟩ : ∃ x, x = ad0 := ⟨_, rfl⟩
  have hag : ∀ k, k < sh0.length → ad k = ad0 k := fun k _ => by rw [ead]
  have hle : sh0.length ≤ sh.length := by rw [esh]; exact Nat.le_refl _
  rw [← ead]
  rw [← esh] at hf hC h_l0
  have hw : wq (xT E) ad G sh0 = wq (xT E) ad G sh := by rw [esh]
  rw [hw]
  clear ead esh hw
  refine v_aload_n C 0 dX5_init_0 rfl rfl ?_
  refine v_objInit C oi_X5_3 (by decide) (Nat.le_of_ble_eq_true rfl) dX5_init_1 ?_
  refine v_aload_n C 0 dX5_init_4 rfl rfl ?_
  refine v_iconst (v := 4) C dX5_init_5 (by decide) ?_
  refine w_newI (N := 4) C zkw_a_int hC (by decide) (by decide) (by decide) (by decide) (by decide) dX5_init_6 (fun ad n1 G2 sh en esh eG had hC => ?_)
  have hf := bd_at hf en
  have hf := bd_at hf esh
  have hf := bd_at hf eG
  rw [← had l0 (lt_o h_l0)]
  have hag := ag_step had hag hle
  have hle := le_app esh hle
  have h_l0 := sh_app esh h_l0
  have h_n1 := tg_new esh en
  clear had esh eG en
  refine v_putF C hin h_l0 pf_X5_9 rfl rfl h_n1.choose_spec hC dX5_init_8 (fun G3 eG hC => ?_)
  have hf := bd_at hf eG
  clear eG
  refine v_aload_n C 0 dX5_init_11 rfl rfl ?_
  refine v_iconst (v := 4) C dX5_init_12 (by decide) ?_
  refine w_newI (N := 4) C zkw_a_int hC (by decide) (by decide) (by decide) (by decide) (by decide) dX5_init_13 (fun ad n4 G5 sh en esh eG had hC => ?_)
  have hf := bd_at hf en
  have hf := bd_at hf esh
  have hf := bd_at hf eG
  rw [← had l0 (lt_o h_l0)]
  have hag := ag_step had hag hle
  have hle := le_app esh hle
  have h_l0 := sh_app esh h_l0
  have h_n4 := tg_new esh en
  clear had esh eG en
  refine v_putF C hin h_l0 pf_X5_15 rfl rfl h_n4.choose_spec hC dX5_init_15 (fun G6 eG hC => ?_)
  have hf := bd_at hf eG
  clear eG
  refine v_aload_n C 0 dX5_init_18 rfl rfl ?_
  refine w_new C nw_X5_18 hC (by decide) (by decide) dX5_init_19 (fun ad n7 G8 sh en esh eG had hC => ?_)
  have hf := bd_at hf en
  have hf := bd_at hf esh
  have hf := bd_at hf eG
  rw [← had l0 (lt_o h_l0)]
  have hag := ag_step had hag hle
  have hle := le_app esh hle
  have h_l0 := sh_app esh h_l0
  have h_n7 := sh_new esh en
  clear had esh eG en
  refine v_dup C dX5_init_22 rfl ?_
  obtain ⟨⟨sh, G9⟩, qr10, hf⟩ := bn hf
  have hf := bd_at hf (rfl : sh = _)
  have hf := bd_at hf (rfl : G9 = _)
  obtain ⟨_, hL, hf⟩ := bn hf
  obtain ⟨_, hu0, hf⟩ := bn hf
  obtain ⟨_, hu1, hf⟩ := bn hf
  have hf := bd_at hf (rfl : sh = _)
  refine v_callI (As := []) (rest := [.ref (ad n7), .ref (ad l0)]) C (sX1_init h_n7 qr10) ci_X5_20 (by decide) hC rfl rfl rfl (Nat.le_of_ble_eq_true rfl) ⟨(by decide), (by decide)⟩ dX5_init_23 (fun ad had hC => ?_)
  rw [← had l0 (lt_o h_l0)]
  rw [← had n7 (lt_o h_n7)]
  have hag := ag_step had hag hle
  have hle := Nat.le_trans hle (ckL_some hL)
  have h_l0 := ckO_some hu0
  have h_n7 := ckO_some hu1
  clear had hL
  refine v_putF C hin h_l0 pf_X5_21 rfl rfl h_n7 hC dX5_init_26 (fun G11 eG hC => ?_)
  have hf := bd_at hf eG
  clear eG
  refine v_aload_n C 0 dX5_init_29 rfl rfl ?_
  refine v_iconst (v := 4) C dX5_init_30 (by decide) ?_
  refine w_newI (N := 4) C zkw_a_int hC (by decide) (by decide) (by decide) (by decide) (by decide) dX5_init_31 (fun ad n12 G13 sh en esh eG had hC => ?_)
  have hf := bd_at hf en
  have hf := bd_at hf esh
  have hf := bd_at hf eG
  rw [← had l0 (lt_o h_l0)]
  have hag := ag_step had hag hle
  have hle := le_app esh hle
  have h_l0 := sh_app esh h_l0
  have h_n12 := tg_new esh en
  clear had esh eG en
  refine v_putF C hin h_l0 pf_X5_25 rfl rfl h_n12.choose_spec hC dX5_init_33 (fun G14 eG hC => ?_)
  have hf := bd_at hf eG
  clear eG
  refine v_aload_n C 0 dX5_init_36 rfl rfl ?_
  refine v_iconst (v := 4) C dX5_init_37 (by decide) ?_
  refine w_newI (N := 4) C zkw_a_int hC (by decide) (by decide) (by decide) (by decide) (by decide) dX5_init_38 (fun ad n15 G16 sh en esh eG had hC => ?_)
  have hf := bd_at hf en
  have hf := bd_at hf esh
  have hf := bd_at hf eG
  rw [← had l0 (lt_o h_l0)]
  have hag := ag_step had hag hle
  have hle := le_app esh hle
  have h_l0 := sh_app esh h_l0
  have h_n15 := tg_new esh en
  clear had esh eG en
  refine v_putF C hin h_l0 pf_X5_28 rfl rfl h_n15.choose_spec hC dX5_init_40 (fun G17 eG hC => ?_)
  have hf := bd_at hf eG
  clear eG
  refine v_aload_n C 0 dX5_init_43 rfl rfl ?_
  refine v_bipush (v := 35) C dX5_init_44 (by decide) ?_
  refine w_newZ (N := 35) C zkw_a_boolean hC (by decide) (by decide) (by decide) (by decide) (by decide) dX5_init_46 (fun ad n18 G19 sh en esh eG had hC => ?_)
  have hf := bd_at hf en
  have hf := bd_at hf esh
  have hf := bd_at hf eG
  rw [← had l0 (lt_o h_l0)]
  have hag := ag_step had hag hle
  have hle := le_app esh hle
  have h_l0 := sh_app esh h_l0
  have h_n18 := tg_new esh en
  clear had esh eG en
  refine v_putF C hin h_l0 pf_X5_31 rfl rfl h_n18.choose_spec hC dX5_init_48 (fun G20 eG hC => ?_)
  have hf := bd_at hf eG
  clear eG
  refine v_aload_n C 0 dX5_init_51 rfl rfl ?_
  refine v_bipush (v := 7) C dX5_init_52 (by decide) ?_
  refine w_newI (N := 7) C zkw_a_int hC (by decide) (by decide) (by decide) (by decide) (by decide) dX5_init_54 (fun ad n21 G22 sh en esh eG had hC => ?_)
  have hf := bd_at hf en
  have hf := bd_at hf esh
  have hf := bd_at hf eG
  rw [← had l0 (lt_o h_l0)]
  have hag := ag_step had hag hle
  have hle := le_app esh hle
  have h_l0 := sh_app esh h_l0
  have h_n21 := tg_new esh en
  clear had esh eG en
  refine v_putF C hin h_l0 pf_X5_35 rfl rfl h_n21.choose_spec hC dX5_init_56 (fun G23 eG hC => ?_)
  have hf := bd_at hf eG
  clear eG
  refine v_aload_n C 0 dX5_init_59 rfl rfl ?_
  refine v_sipush (v := 640) C dX5_init_60 (by decide) ?_
  refine w_newI (N := 640) C zkw_a_int hC (by decide) (by decide) (by decide) (by decide) (by decide) dX5_init_63 (fun ad n24 G25 sh en esh eG had hC => ?_)
  have hf := bd_at hf en
  have hf := bd_at hf esh
  have hf := bd_at hf eG
  rw [← had l0 (lt_o h_l0)]
  have hag := ag_step had hag hle
  have hle := le_app esh hle
  have h_l0 := sh_app esh h_l0
  have h_n24 := tg_new esh en
  clear had esh eG en
  refine v_putF C hin h_l0 pf_X5_38 rfl rfl h_n24.choose_spec hC dX5_init_65 (fun G26 eG hC => ?_)
  have hf := bd_at hf eG
  clear eG
  cases hf
  refine v_widen (c2 := 12) (s2 := 728) (by decide) (by decide) ?_
  exact kr _ _ _ hag hC dX5_init_68
theorem sX5_init {l : Launch} {sh : Sh} {G : Hp} {l0 : Nat} {z : Sh × Hp} (h_l0 : sh[l0]? = some (0, 5)) (hf : fX5_init sh G l0 = some z) : MC l yX5_init cX5_init 1 none 2 12 728 sh z.1 G z.2 (fun ad => [.ref (ad l0)]) (fun _ => none) := by
  refine MC_of rfl rfl (fun _ => Nat.le_of_ble_eq_true rfl) (fun E ad C hl hnm hC hQ => ?_)
  exact tX5_init C hnm hC h_l0 hf (fun pc lv ad2 had hC2 hd => v_vret C hQ had hC2 rfl hd)
