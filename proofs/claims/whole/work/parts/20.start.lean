/-! THE LAW FROM ITS ENTRY. -/
def R_law : String := "FirstOverLaw"
def lw_P (b : Addr) (xs : List Int32) (args : Array Value) (s : State) : Prop := args = #[.ref b] ∧ s.IntsAt b xs ∧ xs.length ≤ 3072 ∧ (Jvm.Cond.and given_1 narrow_1).before args s = true
def lw_Q (_ : Array Value) (s : State) (o : Outcome) (t : State) : Prop := o = .returned (some (.int 1)) ∧ Framed s o t [] 600000 7302250
def lw_Z (below : List Frame) (a : Array Value) (s : State) : State → Prop := fun t => ∃ o, t.status = .running ∧ Ended t below o ∧ lw_Q a s o t
/-- the law's own end, with 1 on the stack, nothing written that was there before, its room as the claim has it -/
theorem lw_ret {p : Program} {l : Launch} {e : Env} {s : State} {m : MethodId} {below : List Frame} {meth : Method} {c : Code} {b : Nat} (hx : p.tables.exec = Jvm.exec) (hb : c.code = code) (hr : meth.sig.returnType = ret) (hlocks : meth.locks = false) {pc : Nat} {H : Heap} {ls : Array Slot} (hdg : decode code pc = .ok (.ireturn, 1)) : W p l e room_1 s m #[Value.ref b] below meth c H [] 600000 7302250 (lw_Z below #[Value.ref b] s) (F0 m pc ls [.int 1]) := by
  intro T hT X
  obtain ⟨fs, hret, hrun, hended, hW, hframe⟩ := X.leave (v := some (.int 1)) (hlocks := hlocks) (fun h => by rw [hr] at h; cases h)
  have hmeth' : T.vm.method? m = some meth := X.method'
  refine ⟨T.setFrames fs, ?_, .returned (some (.int 1)), hrun, hended, rfl, ⟨_, rfl⟩, hW, hframe⟩
  jvm_step X.here [X.here.top, hx, hb, hdg, hmeth', hr, ret, narrow_b1]
  (try refine ⟨rfl, ?_⟩); (try refine ⟨rfl, ?_⟩)
  first | (intro acts; rw [hret _ acts rfl rfl rfl]) | rw [hret _ _ rfl rfl rfl]
  exact Steps.refl _
/-- what holds at the law's entry: the machine, the code, the tables' words (any of lw_tbl by 'hts w (by decide +kernel)'), the script of L ints xs at the cell b, what the Statement gives of the start (any of its parts by flat_of_before) -/
def lw_At (p : Program) (s : State) (m : MethodId) (meth : Method) (c : Code) (b L : Nat) (xs : Nat → Int32) : Prop :=
  p.tables.exec = Jvm.exec ∧ c.code = code ∧ meth.sig.returnType = ret ∧ c.maxLocals = 4 ∧ s.vm.findClass R_law = some m.cls ∧ (∀ w ∈ lw_tbl, w.before #[Value.ref b] s = true) ∧ va_X b L xs s s.heap ∧ b < s.heap.size ∧ meth.locks = false ∧ (Jvm.Cond.and given_1 narrow_1).before #[Value.ref b] s = true
theorem xkw_0 : Cond.classLink "FirstOverLaw" 7 "FirstOver" ∈ WS := WS_mem 140 (by decide +kernel) rfl
theorem xkw_1 : Cond.instantiable "FirstOver" 11 ∈ WS := WS_mem 141 (by decide +kernel) rfl
theorem xkw_2 : Cond.initialized "FirstOver" ∈ WS := WS_mem 119 (by decide +kernel) rfl
theorem xnw_L_7 : NWc RL 7 10 11 := ⟨_, _, tyX10, rfl, ux10, tyX10_ok, xkw_0, xkw_1, xkw_2, by decide +kernel, by decide +kernel⟩
theorem xkw_3 : Cond.classLink "FirstOverLaw" 10 "FirstOverModel" ∈ WS := WS_mem 1264 (by decide +kernel) rfl
theorem xkw_4 : Cond.instantiable "FirstOverModel" 79 ∈ WS := WS_mem 1265 (by decide +kernel) rfl
theorem xkw_5 : Cond.initialized "FirstOverModel" ∈ WS := WS_mem 134 (by decide +kernel) rfl
theorem xnw_L_10 : NWc RL 10 11 79 := ⟨_, _, tyX11, rfl, ux11, tyX11_ok, xkw_3, xkw_4, xkw_5, by decide +kernel, by decide +kernel⟩
theorem xkw_6 : Cond.code ⟨"FirstOver", "<init>", "()V"⟩ cX10_init 2 none ∈ WS := WS_mem 144 (by decide +kernel) rfl
theorem xkw_7 : Cond.instanceMethod ⟨"FirstOver", "<init>", "()V"⟩ ∈ WS := WS_mem 143 (by decide +kernel) rfl
theorem xkw_8 : Cond.methodLink "FirstOverLaw" 9 ⟨"FirstOver", "<init>", "()V"⟩ ∈ WS := WS_mem 142 (by decide +kernel) rfl
theorem xci_L_9 : CSI RL 9 yX10_init cX10_init 2 0 := ⟨xkw_6, xkw_7, xkw_2, rfl, ⟨by decide, by decide, by decide⟩, by decide, Or.inl xkw_8⟩
set_option maxRecDepth 100000 in
theorem xkw_9 : Cond.code ⟨"FirstOverModel", "<init>", "()V"⟩ cX11_init 1 none ∈ WS := List.mem_filter.mpr ⟨List.mem_append_right (k2_sels lw_privs) (show Cond.code ⟨"FirstOverModel", "<init>", "()V"⟩ cX11_init 1 none ∈ tables_1 from List.mem_append_right _ (List.mem_append_right _ (List.mem_append_right _ (List.mem_append_right _ (List.mem_append_left _ (List.mem_of_getElem? (i := 190) rfl)))))), rfl⟩
theorem xkw_10 : Cond.instanceMethod ⟨"FirstOverModel", "<init>", "()V"⟩ ∈ WS := WS_mem 1267 (by decide +kernel) rfl
theorem xkw_11 : Cond.methodLink "FirstOverLaw" 12 ⟨"FirstOverModel", "<init>", "()V"⟩ ∈ WS := WS_mem 1266 (by decide +kernel) rfl
theorem xci_L_12 : CSI RL 12 yX11_init cX11_init 1 0 := ⟨xkw_9, xkw_10, xkw_5, rfl, ⟨by decide, by decide, by decide⟩, by decide, Or.inl xkw_11⟩
theorem xkw_12 : Cond.instantiable "FirstOver$Cheated" 2 ∈ WS := WS_mem 610 (by decide +kernel) rfl
theorem xkw_13 : Cond.instantiable "FirstOver$Going" 9 ∈ WS := WS_mem 447 (by decide +kernel) rfl
theorem xkw_14 : Cond.instantiable "FirstOver$History" 3 ∈ WS := WS_mem 515 (by decide +kernel) rfl
theorem xkw_15 : Cond.instantiable "FirstOver$Keeper" 3 ∈ WS := WS_mem 497 (by decide +kernel) rfl
theorem xkw_16 : Cond.instantiable "FirstOver$Law" 5 ∈ WS := WS_mem 252 (by decide +kernel) rfl
theorem xkw_17 : Cond.instantiable "FirstOver$Plan" 12 ∈ WS := WS_mem 559 (by decide +kernel) rfl
theorem xkw_18 : Cond.instantiable "FirstOver$Reader" 16 ∈ WS := WS_mem 149 (by decide +kernel) rfl
theorem xkw_19 : Cond.instantiable "FirstOver$Tape" 7 ∈ WS := WS_mem 155 (by decide +kernel) rfl
theorem xkw_20 : Cond.instantiable "FirstOver$Text" 17 ∈ WS := WS_mem 246 (by decide +kernel) rfl
theorem xkw_21 : Cond.instantiable "FirstOver$Told" 5 ∈ WS := WS_mem 535 (by decide +kernel) rfl
theorem xkw_a_int : Cond.arrayClass .int ∈ WS := WS_mem 242 (by decide +kernel) rfl
theorem xkw_a_byte : Cond.arrayClass .byte ∈ WS := WS_mem 244 (by decide +kernel) rfl
theorem xkw_a_boolean : Cond.arrayClass .boolean ∈ WS := WS_mem 557 (by decide +kernel) rfl
theorem xkw_a_long : Cond.arrayClass .long ∈ WS := WS_mem 243 (by decide +kernel) rfl
def GZ : Hp := zr (fun _ _ => 0, fun _ _ => 0, fun _ _ => none) 0
theorem Cl_GZ {n : Nat} {sh : Sh} : Cl sh GZ := by
  intro q k a h
  simp only [GZ, zr] at h
  split at h <;> cases h
theorem law_K {s : State} {args : Array Value} (htw : ∀ w ∈ WS, w.before args s = true) : ∃ (dC : Nat → ClassId) (dI : Nat → Nat → Nat), ∀ (k : Nat) (q : vw_C), cls[k]? = some q → u_Kn s q.1 q.2.1 q.2.2 (dC k) (dI k) := by
  obtain ⟨c0, iS0, hKn0⟩ := u_known (C := RX0) (T := TX0) (N := 2) (n := 2) htw ux0 (htw _ xkw_12)
  obtain ⟨c1, iS1, hKn1⟩ := u_known (C := RX1) (T := TX1) (N := 9) (n := 9) htw ux1 (htw _ xkw_13)
  obtain ⟨c2, iS2, hKn2⟩ := u_known (C := RX2) (T := TX2) (N := 3) (n := 3) htw ux2 (htw _ xkw_14)
  obtain ⟨c3, iS3, hKn3⟩ := u_known (C := RX3) (T := TX3) (N := 3) (n := 3) htw ux3 (htw _ xkw_15)
  obtain ⟨c4, iS4, hKn4⟩ := u_known (C := RX4) (T := TX4) (N := 5) (n := 5) htw ux4 (htw _ xkw_16)
  obtain ⟨c5, iS5, hKn5⟩ := u_known (C := RX5) (T := TX5) (N := 12) (n := 12) htw ux5 (htw _ xkw_17)
  obtain ⟨c6, iS6, hKn6⟩ := u_known (C := RX6) (T := TX6) (N := 16) (n := 16) htw ux6 (htw _ xkw_18)
  obtain ⟨c7, iS7, hKn7⟩ := u_known (C := RX7) (T := TX7) (N := 7) (n := 7) htw ux7 (htw _ xkw_19)
  obtain ⟨c8, iS8, hKn8⟩ := u_known (C := RX8) (T := TX8) (N := 17) (n := 17) htw ux8 (htw _ xkw_20)
  obtain ⟨c9, iS9, hKn9⟩ := u_known (C := RX9) (T := TX9) (N := 5) (n := 5) htw ux9 (htw _ xkw_21)
  obtain ⟨c10, iS10, hKn10⟩ := u_known (C := RX10) (T := TX10) (N := 11) (n := 11) htw ux10 (htw _ xkw_1)
  obtain ⟨c11, iS11, hKn11⟩ := u_known (C := RX11) (T := TX11) (N := 79) (n := 79) htw ux11 (htw _ xkw_4)
  refine ⟨fun k => if k = 0 then c0 else if k = 1 then c1 else if k = 2 then c2 else if k = 3 then c3 else if k = 4 then c4 else if k = 5 then c5 else if k = 6 then c6 else if k = 7 then c7 else if k = 8 then c8 else if k = 9 then c9 else if k = 10 then c10 else c11, fun k => if k = 0 then iS0 else if k = 1 then iS1 else if k = 2 then iS2 else if k = 3 then iS3 else if k = 4 then iS4 else if k = 5 then iS5 else if k = 6 then iS6 else if k = 7 then iS7 else if k = 8 then iS8 else if k = 9 then iS9 else if k = 10 then iS10 else iS11, ?_⟩
  intro k q hq
  match k, hq with
    | 0, hq => cases hq; exact hKn0
    | 1, hq => cases hq; exact hKn1
    | 2, hq => cases hq; exact hKn2
    | 3, hq => cases hq; exact hKn3
    | 4, hq => cases hq; exact hKn4
    | 5, hq => cases hq; exact hKn5
    | 6, hq => cases hq; exact hKn6
    | 7, hq => cases hq; exact hKn7
    | 8, hq => cases hq; exact hKn8
    | 9, hq => cases hq; exact hKn9
    | 10, hq => cases hq; exact hKn10
    | 11, hq => cases hq; exact hKn11
    | k + 12, hq => simp [cls] at hq
theorem law_T {s : State} {args : Array Value} (htw : ∀ w ∈ WS, w.before args s = true) (hao : va_AO "FirstOver$Going" s) : ∃ tc : Nat → ClassId, ∀ (k : Nat) (q : ClassId × FieldType), (tys tc)[k]? = some q → ArrOfT s q.1 q.2 ∧ va_RA s q.1 q.2 := by
  obtain ⟨t0, k0, p0, a0, b0, d0⟩ := Cond.arrayClass_spec (htw _ xkw_a_int)
  obtain ⟨t1, k1, p1, a1, b1, d1⟩ := Cond.arrayClass_spec (htw _ xkw_a_byte)
  obtain ⟨t2, k2, p2, a2, b2, d2⟩ := Cond.arrayClass_spec (htw _ xkw_a_boolean)
  obtain ⟨t3, k3, p3, a3, b3, d3⟩ := Cond.arrayClass_spec (htw _ xkw_a_long)
  obtain ⟨p4, t4, k4, f4, -, b4, d4, a4⟩ := Cond.arrayOver_spec hao
  refine ⟨fun k => if k = 0 then t0 else if k = 1 then t1 else if k = 2 then t2 else if k = 3 then t3 else t4, ?_⟩
  intro k q hq
  match k, hq with
  | 0, hq => cases hq; exact ⟨fun n z => ⟨fun k h => (by cases h), k0, b0, p0, d0⟩, a0⟩
  | 1, hq => cases hq; exact ⟨fun n z => ⟨fun k h => (by cases h), k1, b1, p1, d1⟩, a1⟩
  | 2, hq => cases hq; exact ⟨fun n z => ⟨fun k h => (by cases h), k2, b2, p2, d2⟩, a2⟩
  | 3, hq => cases hq; exact ⟨fun n z => ⟨fun k h => (by cases h), k3, b3, p3, d3⟩, a3⟩
  | 4, hq => cases hq; exact ⟨fun n z => ⟨fun k h => (by cases h), k4, b4, p4, d4⟩, k4, p4, b4, d4, f4, a4⟩
  | k + 5, hq => simp [tys] at hq
set_option maxRecDepth 100000 in
theorem law_St {s : State} {args : Array Value} (hts : ∀ w ∈ lw_tbl, w.before args s = true) (hgv : (Jvm.Cond.and given_1 narrow_1).before args s = true) : St (fun q => s.heap.size ≤ q) s := by
  have hs := flat_of_before _ hgv
  have hA : ∀ a : Nat, a < s.heap.size → ¬ (s.heap.size ≤ a) := fun a h => by omega
  refine ⟨?_, ?_, ?_, ?_, ?_, ?_⟩
  · obtain ⟨t, h1, h2⟩ := va_Tof (tm := .static "FirstOver$Text" "SETS_WITH" "[J") (ty := .long) (N := 6) (f := SWv) (A := fun q => s.heap.size ≤ q) (by decide) (hs _ (by decide +kernel)) (va_eqt (hs _ (by decide +kernel))) (fun j hj => by
      match j, hj with
      | 0, _ => exact va_eqtl (hs _ (by decide +kernel))
      | 1, _ => exact va_eqtl (hs _ (by decide +kernel))
      | 2, _ => exact va_eqtl (hs _ (by decide +kernel))
      | 3, _ => exact va_eqtl (hs _ (by decide +kernel))
      | 4, _ => exact va_eqtl (hs _ (by decide +kernel))
      | 5, _ => exact va_eqtl (hs _ (by decide +kernel))
      | j + 6, h => exact absurd h (by omega)) hA
    exact ⟨t, va_Zref (hts _ (List.mem_of_getElem? (i := 776) (by decide +kernel))) (hts _ (List.mem_of_getElem? (i := 126) (by decide +kernel))) h1 hA, h2⟩
  · intro q hq
    simp only [nestL, List.mem_cons, List.not_mem_nil, or_false] at hq
    rcases hq with rfl | rfl | rfl | rfl | rfl | rfl | rfl | rfl | rfl
    · exact va_Nw.of rfl (hts _ (List.mem_of_getElem? (i := 448) (by decide +kernel)))
    · exact va_Nw.of rfl (hts _ (List.mem_of_getElem? (i := 498) (by decide +kernel)))
    · exact va_Nw.of rfl (hts _ (List.mem_of_getElem? (i := 536) (by decide +kernel)))
    · exact va_Nw.of rfl (hts _ (List.mem_of_getElem? (i := 560) (by decide +kernel)))
    · exact va_Nw.of rfl (hts _ (List.mem_of_getElem? (i := 611) (by decide +kernel)))
    · exact va_Nw.of rfl (hts _ (List.mem_of_getElem? (i := 522) (by decide +kernel)))
    · exact va_Nw.of rfl (hts _ (List.mem_of_getElem? (i := 503) (by decide +kernel)))
    · exact va_Nw.of rfl (hts _ (List.mem_of_getElem? (i := 565) (by decide +kernel)))
    · exact va_Nw.of rfl (hts _ (List.mem_of_getElem? (i := 253) (by decide +kernel)))
  · exact va_AO.of (hts _ (List.mem_of_getElem? (i := 521) (by decide +kernel)))
  · obtain ⟨adK, adV, h1, h2⟩ := vk_Sof (N := 1) (tm := fun _ => .string "FirstOver$Tape" 29) (len := [208]) (byt := [txb]) (A := fun q => s.heap.size ≤ q) (args := args) (s := s) (fun i hi => by rw [show i = 0 by omega]; decide) (fun i hi => hs _ (by decide +kernel)) (fun i hi => hs _ (by decide +kernel)) (fun i hi => hs _ (by decide +kernel)) (fun i hi => by
        have : i = 0 := by omega
        subst this
        exact hs _ (by decide +kernel)) (fun i hi j hj => by
        have : i = 0 := by omega
        subst this
        show (Cond.eq (.elem (.field (.string "FirstOver$Tape" 29) "java/lang/String" "value" "[B") (.int (Int32.ofNat j))) (.int (txb.getD j 0))).before args s = true
        replace hj : j < 208 := hj
        by_cases q0 : j < 26
        · have h9 := law_tx0 hs (j - 0) (by omega)
          rw [show 0 + (j - 0) = j by omega] at h9
          exact h9
        by_cases q1 : j < 52
        · have h9 := law_tx1 hs (j - 26) (by omega)
          rw [show 26 + (j - 26) = j by omega] at h9
          exact h9
        by_cases q2 : j < 78
        · have h9 := law_tx2 hs (j - 52) (by omega)
          rw [show 52 + (j - 52) = j by omega] at h9
          exact h9
        by_cases q3 : j < 104
        · have h9 := law_tx3 hs (j - 78) (by omega)
          rw [show 78 + (j - 78) = j by omega] at h9
          exact h9
        by_cases q4 : j < 130
        · have h9 := law_tx4 hs (j - 104) (by omega)
          rw [show 104 + (j - 104) = j by omega] at h9
          exact h9
        by_cases q5 : j < 156
        · have h9 := law_tx5 hs (j - 130) (by omega)
          rw [show 130 + (j - 130) = j by omega] at h9
          exact h9
        by_cases q6 : j < 182
        · have h9 := law_tx6 hs (j - 156) (by omega)
          rw [show 156 + (j - 156) = j by omega] at h9
          exact h9
        by_cases q7 : j < 208
        · have h9 := law_tx7 hs (j - 182) (by omega)
          rw [show 182 + (j - 182) = j by omega] at h9
          exact h9
        omega) (fun i j hi hj hne => absurd (show i = j by omega) hne) hA
    have e1 : (fun _ => adK 0) = adK ∨ True := Or.inr trivial
    refine ⟨adK 0, adV 0, vk_R.of (hts _ (List.mem_of_getElem? (i := 160) (by decide +kernel))) (h2 0 (by decide)), ⟨fun i hi => ?_, fun i j hi hj _ => by omega⟩⟩
    have : i = 0 := by omega
    subst this
    exact h1.1 0 (by decide)
  · exact va_Zof (hts _ (List.mem_of_getElem? (i := 170) (by decide +kernel))) (hts _ (List.mem_of_getElem? (i := 122) (by decide +kernel))) (va_eqt (hs _ (by decide +kernel))) hA
  · exact va_Zqof (hts _ (List.mem_of_getElem? (i := 186) (by decide +kernel))) (hts _ (List.mem_of_getElem? (i := 124) (by decide +kernel))) (hs _ (by decide +kernel)) hA

set_option maxHeartbeats 4000000 in
set_option maxRecDepth 100000 in
theorem law_start {p : Program} {e : Env} {s : State} {m : MethodId} {below : List Frame} {meth : Method} {c : Code} (l : Launch) {b L : Nat} {xs0 : Nat → Int32} (hL : L ≤ 3072) (C0 : lw_At p s m meth c b L xs0)
    {Inv : Hp → Hp → Prop} {shx shm : Sh} {GX GM : Hp} (hix : fX10_init [(0, 10)] GZ 0 = some (shx, GX)) (him : fX11_init [(0, 11)] GZ 0 = some (shm, GM)) (hx0 : shx[0]? = some (0, 10)) (hm0 : shm[0]? = some (0, 11)) (hI : Inv GX GM) (hA : AllSteps shx shm Inv) :
    W p l e room_1 s m #[Value.ref b] below meth c s.heap [] 0 0 (lw_Z below #[Value.ref b] s) (entryFrame m ([Value.ref b] : List Value).toArray 4) := by
  obtain ⟨hx, hb, hr, hml, hown, hts, hX, hbl, hlocks, hgv⟩ := C0
  have htw : ∀ w ∈ WS, w.before #[Value.ref b] s = true := fun w hw => hts w (List.mem_filter.mp hw).1
  have hSt := law_St hts hgv
  obtain ⟨dC, dI, hK1⟩ := law_K htw
  obtain ⟨tc, hK2⟩ := law_T htw hSt.2.2.1
  have key : ∀ E : EX, E = (p, l, e, room_1, s, m, #[Value.ref b], below, meth, c, (dC, dI), tc, (fun q => s.heap.size ≤ q), 4, lw_Z below #[Value.ref b] s) → Cx E RL cL_law 4 (some .boolean) 1000 600000 7302250 → (∀ cw sw ws pc lv, cw ≤ 600000 → sw ≤ 7302250 → decode cL_law pc = .ok (.ireturn, 1) → VV E cw sw ws pc lv [.int 1]) → ¬ xA E b → VV E 0 0 [] 0 [(0, .ref b)] [] := by
    intro E hE C kend hbA
    have hXE : va_X b L xs0 (xs E) (xs E).heap := by rw [hE]; exact hX
    have hblE : b < (xs E).heap.size := by rw [hE]; exact hbl
    refine f_new (F := []) C xnw_L_7 (by decide) (by decide) dL_law_0 (fun adx => ?_)
    refine v_dup C dL_law_3 rfl ?_
    refine f_callI_r (F := []) (As := []) (rest := [.ref (adx 0)]) C (sX10_init (by rfl) hix) xci_L_9 (by decide) (Cl_GZ (n := 0)) rfl rfl rfl (Nat.le_of_ble_eq_true rfl) ⟨by decide, by decide⟩ dL_law_4 (fun adx2 hadx hCx => ?_)
    rw [← hadx 0 (by decide)]
    refine v_astore_n (lv2 := [(1, .ref (adx2 0)), (0, .ref b)]) C dL_law_7 rfl (by decide) rfl ?_
    refine f_new (F := [] ++ wq (xT E) adx2 GX shx) C xnw_L_10 (by decide) (by decide) dL_law_8 (fun adm => ?_)
    refine v_dup C dL_law_11 rfl ?_
    refine f_callI_r (F := [] ++ wq (xT E) adx2 GX shx) (As := []) (rest := [.ref (adm 0)]) C (sX11_init (by rfl) him) xci_L_12 (by decide) (Cl_GZ (n := 0)) rfl rfl rfl (Nat.le_of_ble_eq_true rfl) ⟨by decide, by decide⟩ dL_law_12 (fun adm2 hadm hCm => ?_)
    rw [← hadm 0 (by decide)]
    refine v_astore_n (lv2 := [(2, .ref (adm2 0)), (1, .ref (adx2 0)), (0, .ref b)]) C dL_law_15 rfl (by decide) rfl ?_
    refine v_iconst (v := 0) C dL_law_16 (by decide) ?_
    refine v_istore_n (lv2 := [(3, .int 0), (2, .ref (adm2 0)), (1, .ref (adx2 0)), (0, .ref b)]) C dL_law_17 rfl (by decide) rfl ?_
    exact law_loop C hXE hblE hbA hx0 hm0 ⟨by decide, by decide⟩ hL hA (fun ws pc lv hd => kend _ _ ws pc lv (by decide) (by decide) hd) (L + 6) 0 0 GX GM (Nat.zero_le _) (by omega) rfl hI hCx hCm
  have C : Cx ((p, l, e, room_1, s, m, #[Value.ref b], below, meth, c, (dC, dI), tc, (fun q => s.heap.size ≤ q), 4, lw_Z below #[Value.ref b] s) : EX) RL cL_law 4 (some .boolean) 1000 600000 7302250 :=
    ⟨hx, hb, hml, hown, htw, ⟨hK1, hK2⟩, fun q hq => hq, hlocks, hr, rfl, ⟨Nat.le_of_ble_eq_true rfl, Nat.le_of_ble_eq_true rfl, Nat.le_of_ble_eq_true rfl, Nat.le_of_ble_eq_true rfl⟩, hSt⟩
  have hl := lv_entry [Value.ref b] (n := 4) (Nat.le_of_ble_eq_true rfl)
  rw [lg_entry_eq]
  refine key _ rfl C (fun cw sw ws pc lv h1 h2 hd => ?_) (Nat.not_le.mpr hbl) s.heap [] _ (fun k q h => by simp at h) ⟨fun i j p q h => by simp at h, fun k q h => by simp at h⟩ va_S.rf hl
  intro H locs ls hP hD hS hl
  exact va_forget (fun q hq => hS.2.2 q hq) (W.widen h1 h2 (lw_ret hx hb hr hlocks hd))

