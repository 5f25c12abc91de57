theorem dJ3_checkIndex_8e157_0 : decode cJ3_checkIndex_8e157 0 = .ok (.iload_n 0, 1) := by decide +kernel
theorem dJ3_checkIndex_8e157_1 : decode cJ3_checkIndex_8e157 1 = .ok (.ifCond .lt 8, 3) := by decide +kernel
theorem dJ3_checkIndex_8e157_4 : decode cJ3_checkIndex_8e157 4 = .ok (.iload_n 0, 1) := by decide +kernel
theorem dJ3_checkIndex_8e157_5 : decode cJ3_checkIndex_8e157 5 = .ok (.iload_n 1, 1) := by decide +kernel
theorem dJ3_checkIndex_8e157_6 : decode cJ3_checkIndex_8e157 6 = .ok (.if_icmp .lt 10, 3) := by decide +kernel
theorem dJ3_checkIndex_8e157_9 : decode cJ3_checkIndex_8e157 9 = .ok (.aload_n 2, 1) := by decide +kernel
theorem dJ3_checkIndex_8e157_10 : decode cJ3_checkIndex_8e157 10 = .ok (.iload_n 0, 1) := by decide +kernel
theorem dJ3_checkIndex_8e157_11 : decode cJ3_checkIndex_8e157 11 = .ok (.iload_n 1, 1) := by decide +kernel
theorem dJ3_checkIndex_8e157_12 : decode cJ3_checkIndex_8e157 12 = .ok (.invokestatic 95, 3) := by decide +kernel
theorem dJ3_checkIndex_8e157_15 : decode cJ3_checkIndex_8e157 15 = .ok (.athrow, 1) := by decide +kernel
theorem dJ3_checkIndex_8e157_16 : decode cJ3_checkIndex_8e157 16 = .ok (.iload_n 0, 1) := by decide +kernel
theorem dJ3_checkIndex_8e157_17 : decode cJ3_checkIndex_8e157 17 = .ok (.ireturn, 1) := by decide +kernel
theorem ks_0 : Cond.code ⟨"java/lang/String", "coder", "()B"⟩ cJ0_coder_7d493 1 (some .byte) ∈ WS := WS_mem 168 (by decide +kernel) rfl
theorem ks_1 : Cond.methodLink "java/lang/String" 335 ⟨"java/lang/String", "coder", "()B"⟩ ∈ WS := WS_mem 165 (by decide +kernel) rfl
theorem ks_2 : Cond.instanceMethod ⟨"java/lang/String", "coder", "()B"⟩ ∈ WS := WS_mem 166 (by decide +kernel) rfl
theorem ks_3 : Cond.selects "java/lang/String" ⟨"java/lang/String", "coder", "()B"⟩ ⟨"java/lang/String", "coder", "()B"⟩ ∈ WS := WS_mem 167 (by decide +kernel) rfl
theorem ks_4 : Cond.initialized "java/lang/String" ∈ WS := WS_mem 122 (by decide +kernel) rfl
theorem cs_J0_335 : CSV RJ0 335 RJ0 yJ0_coder_7d493 cJ0_coder_7d493 1 (some .byte) 0 := ⟨ks_0, ks_1, ks_2, ks_3, ks_4, ⟨rfl, by decide, by decide, by decide⟩, by decide⟩
theorem ks_5 : Cond.code ⟨"java/lang/String", "isLatin1", "()Z"⟩ cJ0_isLatin1_aae02 1 (some .boolean) ∈ WS := WS_mem 178 (by decide +kernel) rfl
theorem ks_6 : Cond.methodLink "java/lang/String" 492 ⟨"java/lang/String", "isLatin1", "()Z"⟩ ∈ WS := WS_mem 175 (by decide +kernel) rfl
theorem ks_7 : Cond.instanceMethod ⟨"java/lang/String", "isLatin1", "()Z"⟩ ∈ WS := WS_mem 176 (by decide +kernel) rfl
theorem ks_8 : Cond.selects "java/lang/String" ⟨"java/lang/String", "isLatin1", "()Z"⟩ ⟨"java/lang/String", "isLatin1", "()Z"⟩ ∈ WS := WS_mem 177 (by decide +kernel) rfl
theorem cs_J0_492 : CSV RJ0 492 RJ0 yJ0_isLatin1_aae02 cJ0_isLatin1_aae02 1 (some .boolean) 0 := ⟨ks_5, ks_6, ks_7, ks_8, ks_4, ⟨rfl, by decide, by decide, by decide⟩, by decide⟩
theorem ks_9 : Cond.code ⟨"java/lang/StringLatin1", "charAt", "([BI)C"⟩ cJ1_charAt_3b067 2 (some .char) ∈ WS := WS_mem 181 (by decide +kernel) rfl
theorem ks_10 : Cond.methodLink "java/lang/String" 495 ⟨"java/lang/StringLatin1", "charAt", "([BI)C"⟩ ∈ WS := WS_mem 179 (by decide +kernel) rfl
theorem ks_11 : Cond.static ⟨"java/lang/StringLatin1", "charAt", "([BI)C"⟩ ∈ WS := WS_mem 180 (by decide +kernel) rfl
theorem ks_12 : Cond.initialized "java/lang/StringLatin1" ∈ WS := WS_mem 123 (by decide +kernel) rfl
theorem cs_J0_495 : CSS RJ0 495 yJ1_charAt_3b067 cJ1_charAt_3b067 2 (some .char) 2 := ⟨ks_9, ks_10, ks_11, ks_12, ⟨by decide, by decide, by decide⟩, by decide⟩
theorem ks_13 : Cond.code ⟨"java/lang/String", "checkIndex", "(II)V"⟩ cJ0_checkIndex_df160 2 none ∈ WS := WS_mem 184 (by decide +kernel) rfl
theorem ks_14 : Cond.methodLink "java/lang/StringLatin1" 9 ⟨"java/lang/String", "checkIndex", "(II)V"⟩ ∈ WS := WS_mem 182 (by decide +kernel) rfl
theorem ks_15 : Cond.static ⟨"java/lang/String", "checkIndex", "(II)V"⟩ ∈ WS := WS_mem 183 (by decide +kernel) rfl
theorem cs_J1_9 : CSS RJ1 9 yJ0_checkIndex_df160 cJ0_checkIndex_df160 2 none 2 := ⟨ks_13, ks_14, ks_15, ks_4, ⟨by decide, by decide, by decide⟩, by decide⟩
theorem ks_16 : Cond.code ⟨"jdk/internal/util/Preconditions", "checkIndex", "(IILjava/util/function/BiFunction;)I"⟩ cJ3_checkIndex_8e157 3 (some .int) ∈ WS := WS_mem 189 (by decide +kernel) rfl
theorem ks_17 : Cond.methodLink "java/lang/String" 1059 ⟨"jdk/internal/util/Preconditions", "checkIndex", "(IILjava/util/function/BiFunction;)I"⟩ ∈ WS := WS_mem 187 (by decide +kernel) rfl
theorem ks_18 : Cond.static ⟨"jdk/internal/util/Preconditions", "checkIndex", "(IILjava/util/function/BiFunction;)I"⟩ ∈ WS := WS_mem 188 (by decide +kernel) rfl
theorem ks_19 : Cond.initialized "jdk/internal/util/Preconditions" ∈ WS := WS_mem 124 (by decide +kernel) rfl
theorem cs_J0_1059 : CSS RJ0 1059 yJ3_checkIndex_8e157 cJ3_checkIndex_8e157 3 (some .int) 3 := ⟨ks_16, ks_17, ks_18, ks_19, ⟨by decide, by decide, by decide⟩, by decide⟩
theorem ks_20 : Cond.code ⟨"java/lang/String", "length", "()I"⟩ cJ0_length_8abf5 1 (some .int) ∈ WS := WS_mem 164 (by decide +kernel) rfl
theorem ks_21 : Cond.methodLink "FirstOver$Tape" 31 ⟨"java/lang/String", "length", "()I"⟩ ∈ WS := WS_mem 161 (by decide +kernel) rfl
theorem ks_22 : Cond.instanceMethod ⟨"java/lang/String", "length", "()I"⟩ ∈ WS := WS_mem 162 (by decide +kernel) rfl
theorem ks_23 : Cond.selects "java/lang/String" ⟨"java/lang/String", "length", "()I"⟩ ⟨"java/lang/String", "length", "()I"⟩ ∈ WS := WS_mem 163 (by decide +kernel) rfl
theorem cs_X7_31 : CSV RX7 31 RJ0 yJ0_length_8abf5 cJ0_length_8abf5 1 (some .int) 0 := ⟨ks_20, ks_21, ks_22, ks_23, ks_4, ⟨rfl, by decide, by decide, by decide⟩, by decide⟩
theorem ks_24 : Cond.code ⟨"java/lang/String", "charAt", "(I)C"⟩ cJ0_charAt_5068e 2 (some .char) ∈ WS := WS_mem 174 (by decide +kernel) rfl
theorem ks_25 : Cond.methodLink "FirstOver$Tape" 37 ⟨"java/lang/String", "charAt", "(I)C"⟩ ∈ WS := WS_mem 171 (by decide +kernel) rfl
theorem ks_26 : Cond.instanceMethod ⟨"java/lang/String", "charAt", "(I)C"⟩ ∈ WS := WS_mem 172 (by decide +kernel) rfl
theorem ks_27 : Cond.selects "java/lang/String" ⟨"java/lang/String", "charAt", "(I)C"⟩ ⟨"java/lang/String", "charAt", "(I)C"⟩ ∈ WS := WS_mem 173 (by decide +kernel) rfl
theorem cs_X7_37 : CSV RX7 37 RJ0 yJ0_charAt_5068e cJ0_charAt_5068e 2 (some .char) 1 := ⟨ks_24, ks_25, ks_26, ks_27, ks_4, ⟨rfl, by decide, by decide, by decide⟩, by decide⟩
theorem ks_28 : Cond.fieldLink "java/lang/String" 9 "java/lang/String" "value" "[B" ∈ WS := WS_mem 1975 (by decide +kernel) rfl
theorem ks_29 : Cond.fieldLink "java/lang/String" 15 "java/lang/String" "coder" "B" ∈ WS := WS_mem 1976 (by decide +kernel) rfl
theorem ks_30 : Cond.fieldLink "java/lang/String" 38 "java/lang/String" "COMPACT_STRINGS" "Z" ∈ WS := WS_mem 169 (by decide +kernel) rfl
theorem ks_31 : Cond.fieldLink "java/lang/String" 1053 "jdk/internal/util/Preconditions" "SIOOBE_FORMATTER" "Ljava/util/function/BiFunction;" ∈ WS := WS_mem 185 (by decide +kernel) rfl

/-! THE TEXT: String's own methods. -/
def SAt (E : EX) (a v : Nat) : Prop := vk_S 1 [208] [txb] (fun _ => a) (fun _ => v) (xA E) (xs E) (xs E).heap
def BS (D : va_G) (tc : Nat → ClassId) (a v : Nat) (A : Nat → Prop) (U : State) : Prop := va_K D cls (tys tc) U ∧ St A U ∧ vk_S 1 [208] [txb] (fun _ => a) (fun _ => v) A U U.heap
def MS (l : Launch) (y : MethodName) (cc : ByteArray) (maxL : Nat) (ret : Option FieldType) (h : Nat) (av : Nat → Nat → List Value) (rv : Option Value) : Prop :=
  ∀ (D : va_G) (tc : Nat → ClassId) (a v sz : Nat), Met l y (Cond.code y cc maxL ret :: WS) (RM h 0 0) (va_Pc (av a v) (fun U => U.heap.size = sz ∧ BS D tc a v (fun q => sz ≤ q) U)) (fun _ st o t => o = .returned rv ∧ va_F (fun q => sz ≤ q) st t) 0 0 (fun q => sz ≤ q)
def RQs (E : EX) (rv : Option Value) : Prop := xQ E = MQ (xb E) (fun _ st o t => o = .returned rv ∧ va_F (xA E) st t) (xa E) (xs E) 0 0 (xA E)
theorem MS_of {l : Launch} {y : MethodName} {own : String} {cc : ByteArray} {maxL : Nat} {ret : Option FieldType} {h : Nat} {av : Nat → Nat → List Value} {rv : Option Value} (hy : plainName y.cls = true) (ho : y.cls = own) (hlen : ∀ a v, (lg_sl (av a v)).length ≤ maxL)
    (body : ∀ (E : EX) (a v : Nat), Cx E own cc maxL ret h 0 0 → SAt E a v → RQs E rv → VV E 0 0 [] 0 (lv_args 0 (av a v)) []) : MS l y cc maxL ret h av rv := by
  intro D tc a v sz
  refine Met.ofW (cc := cc) (maxL := maxL) (ret := ret) hy rfl ?_
  intro p e s m args below meth c s₁ B hml hv
  obtain ⟨rfl, hsz, hK, hSt, hA⟩ := hv
  have hts := atoms_spec (ws := Cond.code y cc maxL ret :: WS) B.pre
  have hown : s.vm.findClass y.cls = some m.cls := findClass_of_methodNamed B.named
  subst hsz
  have hl := lv_entry (av a v) (n := maxL) (hlen a v)
  rw [lg_entry_eq]
  exact body (p, l, e, RM h 0 0, s, m, (av a v).toArray, below, meth, c, D, tc, (fun q => s.heap.size ≤ q), maxL, MQ below (fun _ st o t => o = .returned rv ∧ va_F (fun q => s.heap.size ≤ q) st t) (av a v).toArray s 0 0 (fun q => s.heap.size ≤ q)) a v
    ⟨B.exec, B.bytes, hml, ho ▸ hown, fun w hw => hts w (List.mem_cons_of_mem _ hw), hK, fun q hq => hq, B.notSynchronized, B.returns, rfl, ⟨Nat.le_refl _, Nat.le_refl _, Nat.le_refl _, Nat.le_refl _⟩, hSt⟩ hA rfl s.heap [] _ (fun k q h => by simp at h) ⟨fun i j p q h => by simp at h, fun k q h => by simp at h⟩ va_S.rf hl
section SROWS
variable {E : EX} {own : String} {cc : ByteArray} {nL h mc ms cells slots pc idx : Nat} {ret : Option FieldType} {lv : List (Nat × Value)} {rest st : List Value} {ws : va_W} {a v : Nat}
variable {y : MethodName} {cb : ByteArray} {maxL h2 n : Nat} {rt : Option FieldType} {av : Nat → Nat → List Value} {rv : Option Value} {As : List Value}
theorem v_sret {ty : FieldType} {r : Int32} (C : Cx E own cc nL (some ty) h 0 0) (hQ : RQs E (some (.int r))) (hn : narrow ty (.int r) = .int r) (hdg : decode cc pc = .ok (.ireturn, 1)) : VV E 0 0 ws pc lv [.int r] := by
  intro H locs ls hP hD hS hl
  rw [hQ]
  exact W.zret C.1 C.2.1 C.2.2.2.2.2.2.2.2.1 hn (fun t ht _ => ⟨rfl, hS.F ht⟩) hS.2.2 hdg C.2.2.2.2.2.2.2.1
theorem v_svret (C : Cx E own cc nL none h 0 0) (hQ : RQs E none) (hdg : decode cc pc = .ok (.return_, 1)) : VV E 0 0 ws pc lv [] := by
  intro H locs ls hP hD hS hl
  rw [hQ]
  exact W.vret C.1 C.2.1 C.2.2.2.2.2.2.2.2.1 (fun t ht _ => ⟨rfl, hS.F ht⟩) hS.2.2 hdg C.2.2.2.2.2.2.2.1
theorem v_scod (C : Cx E own cc nL ret h mc ms) (hA : SAt E a v) (hw : Cond.fieldLink own idx "java/lang/String" "coder" "B" ∈ WS) (hdg : decode cc pc = .ok (.getfield idx, 3)) (kk : VV E cells slots ws (pc + 3) lv (.int 0 :: rest)) : VV E cells slots ws pc lv (.ref a :: rest) :=
  fun H locs ls hP hD hS hl => vk_getf C.1 C.2.1 (hA.1 0 (by decide)).2.1 hS C.2.2.2.1 (C.2.2.2.2.1 _ hw) (fun _ h9 => h9) hdg (kk H locs ls hP hD hS hl)
theorem v_sval (C : Cx E own cc nL ret h mc ms) (hA : SAt E a v) (hw : Cond.fieldLink own idx "java/lang/String" "value" "[B" ∈ WS) (hdg : decode cc pc = .ok (.getfield idx, 3)) (kk : VV E cells slots ws (pc + 3) lv (.ref v :: rest)) : VV E cells slots ws pc lv (.ref a :: rest) :=
  fun H locs ls hP hD hS hl => vk_getf C.1 C.2.1 (hA.1 0 (by decide)).2.2.1 hS C.2.2.2.1 (C.2.2.2.2.1 _ hw) (fun _ h9 => h9) hdg (kk H locs ls hP hD hS hl)
theorem v_slen (C : Cx E own cc nL ret h mc ms) (hA : SAt E a v) (hdg : decode cc pc = .ok (.arraylength, 1)) (kk : VV E cells slots ws (pc + 1) lv (.int 208 :: rest)) : VV E cells slots ws pc lv (.ref v :: rest) :=
  fun H locs ls hP hD hS hl => va_tlen C.1 C.2.1 (hA.1 0 (by decide)).2.2.2 hS (by decide) hdg (kk H locs ls hP hD hS hl)
theorem v_sld {i : Int32} (C : Cx E own cc nL ret h mc ms) (hA : SAt E a v) (hi : ¬ i < 0 ∧ i.toNatClampNeg < 208) (hdg : decode cc pc = .ok (.baload, 1)) (kk : VV E cells slots ws (pc + 1) lv (.int (txb.getD i.toNatClampNeg 0) :: rest)) : VV E cells slots ws pc lv (.int i :: .ref v :: rest) :=
  fun H locs ls hP hD hS hl => va_tb C.1 C.2.1 (hA.1 0 (by decide)).2.2.2 hS (okx_in hi) rfl hdg (kk H locs ls hP hD hS hl)
theorem v_sCS (C : Cx E own cc nL ret h mc ms) (hw : Cond.fieldLink own idx "java/lang/String" "COMPACT_STRINGS" "Z" ∈ WS) (hdg : decode cc pc = .ok (.getstatic idx, 3)) (kk : VV E cells slots ws (pc + 3) lv (.int 1 :: rest)) : VV E cells slots ws pc lv rest :=
  fun H locs ls hP hD hS hl => va_gets C.1 C.2.1 C.2.2.2.2.2.2.2.2.2.2.2.2.2.2.2.1 hS C.2.2.2.1 (C.2.2.2.2.1 _ hw) (fun _ h9 => h9) hdg (kk H locs ls hP hD hS hl)
theorem v_sSI (C : Cx E own cc nL ret h mc ms) (hw : Cond.fieldLink own idx "jdk/internal/util/Preconditions" "SIOOBE_FORMATTER" "Ljava/util/function/BiFunction;" ∈ WS) (hdg : decode cc pc = .ok (.getstatic idx, 3)) (kk : ∀ x : Value, x.category = 1 → VV E cells slots ws (pc + 3) lv (x :: rest)) : VV E cells slots ws pc lv rest := by
  intro H locs ls hP hD hS hl
  rcases C.2.2.2.2.2.2.2.2.2.2.2.2.2.2.2.2 with h1 | ⟨t, h1⟩
  · exact va_gets C.1 C.2.1 h1 hS C.2.2.2.1 (C.2.2.2.2.1 _ hw) (fun _ h9 => h9) hdg (kk _ rfl H locs ls hP hD hS hl)
  · exact va_gets C.1 C.2.1 h1 hS C.2.2.2.1 (C.2.2.2.2.1 _ hw) (fun _ h9 => h9) hdg (kk _ rfl H locs ls hP hD hS hl)
theorem v_i2c {x : Int32} (C : Cx E own cc nL ret h mc ms) (hdg : decode cc pc = .ok (.i2c, 1)) (kk : VV E cells slots ws (pc + 1) lv (.int (x.toUInt32 % 65536).toInt32 :: rest)) : VV E cells slots ws pc lv (.int x :: rest) :=
  fun H locs ls hP hD hS hl => lv_i2c C.1 C.2.1 hdg rfl (kk H locs ls hP hD hS hl)
theorem v_ldcS (C : Cx E "FirstOver$Tape" cc nL ret h mc ms) (hdg : decode cc pc = .ok (.ldc 29, 2)) (kk : ∀ a v, SAt E a v → VV E cells slots ws (pc + 2) lv (.ref a :: rest)) : VV E cells slots ws pc lv rest := by
  obtain ⟨a, v, h1, h2⟩ := C.2.2.2.2.2.2.2.2.2.2.2.2.2.2.1
  exact fun H locs ls hP hD hS hl => va_ldcS C.1 C.2.1 C.2.2.2.1 h1 hdg (kk a v h2 H locs ls hP hD hS hl)
theorem ms_blind {D : va_G} {tc : Nat → ClassId} {sz : Nat} {A : Nat → Prop} {av : List Value} : FrameBlind (va_Pc av (fun U => U.heap.size = sz ∧ BS D tc a v A U)) := by
  intro x U g mk hq
  obtain ⟨q0, q1, qK, qS, qA⟩ := hq
  exact ⟨q0, q1, va_K.moved (u := U) (U := U.calling g mk x) (Vm.Alike.refl U.vm) qK, ⟨qS.1, fun q hq => (qS.2.1 q hq).same rfl rfl, (qS.2.2.1).moved (Vm.Alike.refl U.vm), ⟨qS.2.2.2.1.choose, qS.2.2.2.1.choose_spec.choose, qS.2.2.2.1.choose_spec.choose_spec.1.same rfl, qS.2.2.2.1.choose_spec.choose_spec.2⟩, qS.2.2.2.2⟩, qA⟩
theorem ms_pre (C : Cx E own cc nL ret h mc ms) {H : Heap} {locs : List Loc} {x : List Value} (hA : SAt E a v) (hav : av a v = x) (hS : va_S (xA E) (xs E).heap H locs) : ∀ U : State, U.heap = H → (xs E).WarmedH U.vm →
    va_Pc (av a v) (fun U => U.heap.size = H.size ∧ BS (xD E) (xT E) a v (fun q => H.size ≤ q) U) x.toArray U := by
  intro U hU hW
  have hF : ∀ q, H.size ≤ q → xA E q := fun q hq => C.2.2.2.2.2.2.1 q (Nat.le_trans hS.1 hq)
  have hk : ∀ a : Nat, a < (xs E).heap.size → ¬ xA E a → U.heap[a]? = (xs E).heap[a]? := fun a h1 h2 => by rw [hU]; exact hS.2.1 a h1 h2
  exact ⟨by rw [hav], by rw [hU], va_K.moved hW.alike C.2.2.2.2.2.1, St_call C.2.2.2.2.2.2.2.2.2.2.2 hS hU hW hF, ((vk_S.kept hA hk).moved hW.alike).narrow hF⟩
theorem ms_run (C : Cx E own cc nL ret h mc ms) {H : Heap} {locs : List Loc} {ls : Array Slot} (hP : va_P (xD E) cls ws H) (hD : va_D (xA E) ws) (hS : va_S (xA E) (xs E).heap H locs) (hl : lv_has ls (xn E) lv)
    (hr : va_Run (xp E) (xl E) (xe E) (xR E) (xs E) (xm E) (xa E) (xb E) (xM E) (xc E) H locs cells slots 0 0 (F0 (xm E) pc ls st) rest (fun st o t => o = .returned rv ∧ va_F (fun q => H.size ≤ q) st t) (fun q => H.size ≤ q))
    (kk : VV E cells slots ws (pc + 3) lv (rv.toList ++ rest)) : W (xp E) (xl E) (xe E) (xR E) (xs E) (xm E) (xa E) (xb E) (xM E) (xc E) H locs cells slots (xQ E) (F0 (xm E) pc ls st) := by
  intro T hT X
  obtain ⟨v, st₀, t, T', L, h0, X', hL, e1, e2, ⟨hv, hz, hk⟩, go⟩ := hr T hT X
  cases hv
  rw [h0] at hz hk
  have hF : ∀ q, H.size ≤ q → xA E q := fun q hq => C.2.2.2.2.2.2.1 q (Nat.le_trans hS.1 hq)
  have hk2 : ∀ q : Nat, q < H.size → T'.heap[q]? = H[q]? := fun q h1 => by rw [e1]; exact hk q h1 (by omega)
  obtain ⟨t2, a1, b1⟩ := kk T'.heap (locs ++ L) ls (fun k q hq => (hP k q hq).kept (hk2 _ (hP k q hq).lt)) hD (va_F_S hS hF (by rw [e1]; exact hz) (fun q h1 _ => hk2 q h1) hL) hl T' rfl X'
  exact ⟨t2, go t2 a1, b1⟩
theorem v_msV (C : Cx E own cc nL ret h mc ms) (hA : SAt E a v) (hM : MS (xl E) y cb maxL rt h2 av rv) (cs : CSV own idx "java/lang/String" y cb maxL rt n) (hh : h2 + 1 ≤ h) (hav : av a v = .ref a :: As) (hn : As.length = n) (hst : st = As.reverse ++ .ref a :: rest) (hW : (rest.map fun v => v.category).sum ≤ 8) (hc : cells ≤ mc ∧ slots ≤ ms) (hdg : decode cc pc = .ok (.invokevirtual idx, 3)) (kk : VV E cells slots ws (pc + 3) lv (rv.toList ++ rest)) : VV E cells slots ws pc lv st := by
  intro H locs ls hP hD hS hl
  obtain ⟨c1, c2, c3, c4, c5, c6, c7⟩ := cs
  exact ms_run C hP hD hS hl (va_runV (As := As) (rest := rest) (C := "java/lang/String") ⟨C.1, C.2.1, C.2.2.1, C.2.2.2.1, C.2.2.2.2.1⟩ (hM (xD E) (xT E) a v H.size) (cwV n C.2.2.2.2.1 (goodIn_ap (WS_sub (by
      intro w hw
      simp only [List.mem_cons, List.not_mem_nil, or_false] at hw
      rcases hw with rfl | rfl | rfl | rfl
      · exact c2
      · exact c3
      · exact c4
      · exact c5)) (GoodWS c1)) rfl rfl rfl c6 ⟨Nat.le_trans hh (rm_frames C), by have hz := rm_locals C; show 8 + (maxL + 11) + 64 * h2 ≤ _; omega⟩) ⟨ms_blind, vk_recv (i := 0) hA (by decide) hS, ms_pre C hA hav hS⟩ rfl hn (hl.1.trans C.2.2.2.2.2.2.2.2.2.1) hst (by show 2 * 0 + _ ≤ 8; omega) hdg ⟨Nat.le_trans hc.1 (rm_cells C), Nat.le_trans hc.2 (rm_slots C)⟩) kk
theorem v_msS (C : Cx E own cc nL ret h mc ms) (hA : SAt E a v) (hM : MS (xl E) y cb maxL rt h2 av rv) (cs : CSS own idx y cb maxL rt n) (hh : h2 + 1 ≤ h) (hav : av a v = As) (hn : As.length = n) (hst : st = As.reverse ++ rest) (hW : (rest.map fun v => v.category).sum ≤ 8) (hc : cells ≤ mc ∧ slots ≤ ms) (hdg : decode cc pc = .ok (.invokestatic idx, 3)) (kk : VV E cells slots ws (pc + 3) lv (rv.toList ++ rest)) : VV E cells slots ws pc lv st := by
  intro H locs ls hP hD hS hl
  obtain ⟨c1, c2, c3, c4, c6, c7⟩ := cs
  exact ms_run C hP hD hS hl (va_runS (As := As) (rest := rest) ⟨C.1, C.2.1, C.2.2.1, C.2.2.2.1, C.2.2.2.2.1⟩ (hM (xD E) (xT E) a v H.size) (va_cwS n C.2.2.2.2.1 (goodIn_ap (WS_sub (by
      intro w hw
      simp only [List.mem_cons, List.not_mem_nil, or_false] at hw
      rcases hw with rfl | rfl | rfl
      · exact c2
      · exact c3
      · exact c4)) (GoodWS c1)) rfl rfl rfl c6 ⟨Nat.le_trans hh (rm_frames C), by have hz := rm_locals C; show 8 + (maxL + 11) + 64 * h2 ≤ _; omega⟩) ⟨ms_blind, ms_pre C hA hav hS⟩ rfl hn (hl.1.trans C.2.2.2.2.2.2.2.2.2.1) hst (by show 2 * 0 + _ ≤ 8; omega) hdg ⟨Nat.le_trans hc.1 (rm_cells C), Nat.le_trans hc.2 (rm_slots C)⟩) kk
end SROWS
theorem sJ0_coder {l : Launch} : MS l yJ0_coder_7d493 cJ0_coder_7d493 1 (some .byte) 1 (fun a _ => [.ref a]) (some (.int 0)) := by
  refine MS_of rfl rfl (fun _ _ => Nat.le_of_ble_eq_true rfl) (fun E a v C hA hQ => ?_)
  refine v_sCS C ks_30 dJ0_coder_7d493_0 ?_
  refine v_if_eq (tgt := 13) C dJ0_coder_7d493_3 (by decide) (fun c => absurd c (by decide)) (fun _ => ?_)
  refine v_aload_n C 0 dJ0_coder_7d493_6 rfl rfl ?_
  refine v_scod C hA ks_29 dJ0_coder_7d493_7 ?_
  refine v_goto (tgt := 14) C dJ0_coder_7d493_10 (by decide) ?_
  exact v_sret C hQ (by decide) dJ0_coder_7d493_14
theorem sJ0_isLatin1 {l : Launch} : MS l yJ0_isLatin1_aae02 cJ0_isLatin1_aae02 1 (some .boolean) 1 (fun a _ => [.ref a]) (some (.int 1)) := by
  refine MS_of rfl rfl (fun _ _ => Nat.le_of_ble_eq_true rfl) (fun E a v C hA hQ => ?_)
  refine v_sCS C ks_30 dJ0_isLatin1_aae02_0 ?_
  refine v_if_eq (tgt := 17) C dJ0_isLatin1_aae02_3 (by decide) (fun c => absurd c (by decide)) (fun _ => ?_)
  refine v_aload_n C 0 dJ0_isLatin1_aae02_6 rfl rfl ?_
  refine v_scod C hA ks_29 dJ0_isLatin1_aae02_7 ?_
  refine v_if_ne (tgt := 17) C dJ0_isLatin1_aae02_10 (by decide) (fun c => absurd rfl c) (fun _ => ?_)
  refine v_iconst (v := 1) C dJ0_isLatin1_aae02_13 (by decide) ?_
  refine v_goto (tgt := 18) C dJ0_isLatin1_aae02_14 (by decide) ?_
  exact v_sret C hQ (by decide) dJ0_isLatin1_aae02_18
theorem sJ0_length {l : Launch} : MS l yJ0_length_8abf5 cJ0_length_8abf5 1 (some .int) 2 (fun a _ => [.ref a]) (some (.int 208)) := by
  refine MS_of rfl rfl (fun _ _ => Nat.le_of_ble_eq_true rfl) (fun E a v C hA hQ => ?_)
  refine v_aload_n C 0 dJ0_length_8abf5_0 rfl rfl ?_
  refine v_sval C hA ks_28 dJ0_length_8abf5_1 ?_
  refine v_slen C hA dJ0_length_8abf5_4 ?_
  refine v_aload_n C 0 dJ0_length_8abf5_5 rfl rfl ?_
  refine v_msV (As := []) (rest := [.int 208]) C hA sJ0_coder cs_J0_335 (by decide) rfl rfl rfl (Nat.le_of_ble_eq_true rfl) ⟨Nat.le_refl _, Nat.le_refl _⟩ dJ0_length_8abf5_6 ?_
  refine v_ishr C dJ0_length_8abf5_9 ?_
  exact v_sret C hQ (by decide) dJ0_length_8abf5_10
theorem sJ3_checkIndex {l : Launch} {i n : Int32} {x : Value} (hx : x.category = 1) (h1 : ¬ i < 0) (h2 : i < n) : MS l yJ3_checkIndex_8e157 cJ3_checkIndex_8e157 3 (some .int) 1 (fun _ _ => [.int i, .int n, x]) (some (.int i)) := by
  refine MS_of rfl rfl (fun _ _ => ?_) (fun E a v C hA hQ => ?_)
  · have : (lg_sl [Value.int i, .int n, x]).length = 3 := by
      cases x <;> first | rfl | cases hx
    omega
  have e : lv_args 0 [Value.int i, .int n, x] = [(0, .int i), (1, .int n), (2, x)] := rfl
  rw [e]
  refine v_iload_n C 0 dJ3_checkIndex_8e157_0 rfl rfl ?_
  refine v_if_lt (tgt := 9) C dJ3_checkIndex_8e157_1 (by decide) (fun c => absurd c h1) (fun _ => ?_)
  refine v_iload_n C 0 dJ3_checkIndex_8e157_4 rfl rfl ?_
  refine v_iload_n C 1 dJ3_checkIndex_8e157_5 rfl rfl ?_
  refine v_icmp_lt (tgt := 16) C dJ3_checkIndex_8e157_6 (by decide) (fun _ => ?_) (fun c => absurd h2 c)
  refine v_iload_n C 0 dJ3_checkIndex_8e157_16 rfl rfl ?_
  exact v_sret C hQ rfl dJ3_checkIndex_8e157_17
theorem sJ0_checkIndex {l : Launch} {i n : Int32} (h1 : ¬ i < 0) (h2 : i < n) : MS l yJ0_checkIndex_df160 cJ0_checkIndex_df160 2 none 2 (fun _ _ => [.int i, .int n]) none := by
  refine MS_of rfl rfl (fun _ _ => Nat.le_of_ble_eq_true rfl) (fun E a v C hA hQ => ?_)
  refine v_iload_n C 0 dJ0_checkIndex_df160_0 rfl rfl ?_
  refine v_iload_n C 1 dJ0_checkIndex_df160_1 rfl rfl ?_
  refine v_sSI C ks_31 dJ0_checkIndex_df160_2 (fun x hx => ?_)
  refine v_msS (As := [.int i, .int n, x]) (rest := []) C hA (sJ3_checkIndex hx h1 h2) cs_J0_1059 (by decide) rfl rfl rfl (Nat.le_of_ble_eq_true rfl) ⟨Nat.le_refl _, Nat.le_refl _⟩ dJ0_checkIndex_df160_5 ?_
  refine v_pop C dJ0_checkIndex_df160_8 rfl ?_
  exact v_svret C hQ dJ0_checkIndex_df160_9
theorem txb_ok : ∀ j, j < 208 → (((txb.getD j 0) &&& 255).toUInt32 % 65536).toInt32 = txb.getD j 0 ∧ narrow .char (.int (txb.getD j 0)) = .int (txb.getD j 0) := by decide +kernel
theorem lt208 {i : Int32} (h : ¬ i < 0 ∧ i.toNatClampNeg < 208) : i < 208 := by
  obtain ⟨h1, h2⟩ := h
  obtain ⟨j, hj, rfl⟩ := nI_of h1
  rw [nI_clamp hj] at h2
  exact nI_lt (b := 208) h2 (by decide)
theorem sJ1_charAt {l : Launch} {i : Int32} (hi : ¬ i < 0 ∧ i.toNatClampNeg < 208) : MS l yJ1_charAt_3b067 cJ1_charAt_3b067 2 (some .char) 3 (fun _ v => [.ref v, .int i]) (some (.int (txb.getD i.toNatClampNeg 0))) := by
  refine MS_of rfl rfl (fun _ _ => Nat.le_of_ble_eq_true rfl) (fun E a v C hA hQ => ?_)
  refine v_iload_n C 1 dJ1_charAt_3b067_0 rfl rfl ?_
  refine v_aload_n C 0 dJ1_charAt_3b067_1 rfl rfl ?_
  refine v_slen C hA dJ1_charAt_3b067_2 ?_
  refine v_msS (As := [.int i, .int 208]) (rest := []) C hA (sJ0_checkIndex hi.1 (lt208 hi)) cs_J1_9 (by decide) rfl rfl rfl (Nat.le_of_ble_eq_true rfl) ⟨Nat.le_refl _, Nat.le_refl _⟩ dJ1_charAt_3b067_3 ?_
  refine v_aload_n C 0 dJ1_charAt_3b067_6 rfl rfl ?_
  refine v_iload_n C 1 dJ1_charAt_3b067_7 rfl rfl ?_
  refine v_sld C hA hi dJ1_charAt_3b067_8 ?_
  refine v_sipush (v := 255) C dJ1_charAt_3b067_9 (by decide) ?_
  refine v_iand C dJ1_charAt_3b067_12 ?_
  refine v_i2c C dJ1_charAt_3b067_13 ?_
  rw [(txb_ok _ hi.2).1]
  exact v_sret C hQ (txb_ok _ hi.2).2 dJ1_charAt_3b067_14
theorem sJ0_charAt {l : Launch} {i : Int32} (hi : ¬ i < 0 ∧ i.toNatClampNeg < 208) : MS l yJ0_charAt_5068e cJ0_charAt_5068e 2 (some .char) 4 (fun a _ => [.ref a, .int i]) (some (.int (txb.getD i.toNatClampNeg 0))) := by
  refine MS_of rfl rfl (fun _ _ => Nat.le_of_ble_eq_true rfl) (fun E a v C hA hQ => ?_)
  refine v_aload_n C 0 dJ0_charAt_5068e_0 rfl rfl ?_
  refine v_msV (As := []) (rest := []) C hA sJ0_isLatin1 cs_J0_492 (by decide) rfl rfl rfl (Nat.le_of_ble_eq_true rfl) ⟨Nat.le_refl _, Nat.le_refl _⟩ dJ0_charAt_5068e_1 ?_
  refine v_if_eq (tgt := 16) C dJ0_charAt_5068e_4 (by decide) (fun c => absurd c (by decide)) (fun _ => ?_)
  refine v_aload_n C 0 dJ0_charAt_5068e_7 rfl rfl ?_
  refine v_sval C hA ks_28 dJ0_charAt_5068e_8 ?_
  refine v_iload_n C 1 dJ0_charAt_5068e_11 rfl rfl ?_
  refine v_msS (As := [.ref v, .int i]) (rest := []) C hA (sJ1_charAt hi) cs_J0_495 (by decide) rfl rfl rfl (Nat.le_of_ble_eq_true rfl) ⟨Nat.le_refl _, Nat.le_refl _⟩ dJ0_charAt_5068e_12 ?_
  exact v_sret C hQ (txb_ok _ hi.2).2 dJ0_charAt_5068e_15
def chA (i : Int32) : Option Int32 := if ¬ i < 0 ∧ i.toNatClampNeg < 208 then some (txb.getD i.toNatClampNeg 0) else none
section SUSE
variable {E : EX} {cc : ByteArray} {nL h mc ms cells slots pc : Nat} {ret : Option FieldType} {lv : List (Nat × Value)} {rest : List Value} {ws : va_W} {a v : Nat}
theorem v_strlen (C : Cx E RX7 cc nL ret h mc ms) (hA : SAt E a v) (hh : 3 ≤ h) (hW : (rest.map fun v => v.category).sum ≤ 8) (hc : cells ≤ mc ∧ slots ≤ ms) (hdg : decode cc pc = .ok (.invokevirtual 31, 3)) (kk : VV E cells slots ws (pc + 3) lv (.int 208 :: rest)) : VV E cells slots ws pc lv (.ref a :: rest) :=
  v_msV (As := []) (rest := rest) C hA sJ0_length cs_X7_31 hh rfl rfl rfl hW hc hdg kk
theorem v_charAt {i r : Int32} (C : Cx E RX7 cc nL ret h mc ms) (hA : SAt E a v) (hr : chA i = some r) (hh : 5 ≤ h) (hW : (rest.map fun v => v.category).sum ≤ 8) (hc : cells ≤ mc ∧ slots ≤ ms) (hdg : decode cc pc = .ok (.invokevirtual 37, 3)) (kk : VV E cells slots ws (pc + 3) lv (.int r :: rest)) : VV E cells slots ws pc lv (.int i :: .ref a :: rest) := by
  obtain ⟨hi, rfl⟩ := ite_some hr
  exact v_msV (As := [.int i]) (rest := rest) C hA (sJ0_charAt hi) cs_X7_37 hh rfl rfl rfl hW hc hdg kk
end SUSE
