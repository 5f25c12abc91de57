/-! CLAUSES, read: the class's tables. -/
def stk (P : List Nat) (s : Nat) : List Bool := (P.map cxk).foldl (stC s) []
theorem stk_snoc {P : List Nat} {k s : Nat} : stk (P ++ [k]) s = stC s (stk P s) (cxk k) := by
  unfold stk; rw [List.map_append, List.foldl_append]; rfl
def CTb (d : Nat) (P : List Nat) (G : Hp) : Prop := G.1 1 15 = nI d ∧ ∀ s, s < 256 → (stk P s).length = d ∧ ∀ j, j < d → bitX (G.2.1 10) j s = (stk P s).getD (d - 1 - j) false
/-- what a clause's reading changes in the class -/
def ECl (G G2 : Hp) : Prop := G2.2.2 = G.2.2 ∧ (∀ q, q ≠ 10 → G2.2.1 q = G.2.1 q) ∧ ∀ q k, ¬ (q = 1 ∧ (k ≤ 8 ∨ k = 15)) → G2.1 q k = G.1 q k
theorem ECl.rf {G : Hp} : ECl G G := ⟨rfl, fun _ _ => rfl, fun _ _ _ => rfl⟩
theorem ECl.tr {G G2 G3 : Hp} (h : ECl G G2) (h2 : ECl G2 G3) : ECl G G3 := ⟨h2.1.trans h.1, fun q a => (h2.2.1 q a).trans (h.2.1 q a), fun q k a => (h2.2.2 q k a).trans (h.2.2 q k a)⟩
theorem Er1.cl {m : Nat} {G G2 : Hp} (h : Er1 m G G2) (hm : m ≤ 8) : ECl G G2 := ⟨by rw [h.1], fun q _ => by rw [h.1], fun q k a => h.2 q k (by omega)⟩
/-- tables and their number alone -/
def ETb (G G2 : Hp) : Prop := G2.2.2 = G.2.2 ∧ (∀ q, q ≠ 10 → G2.2.1 q = G.2.1 q) ∧ ∀ q k, ¬ (q = 1 ∧ k = 15) → G2.1 q k = G.1 q k
theorem ETb.rf {G : Hp} : ETb G G := ⟨rfl, fun _ _ => rfl, fun _ _ _ => rfl⟩
theorem ETb.tr {G G2 G3 : Hp} (h : ETb G G2) (h2 : ETb G2 G3) : ETb G G3 := ⟨h2.1.trans h.1, fun q a => (h2.2.1 q a).trans (h.2.1 q a), fun q k a => (h2.2.2 q k a).trans (h.2.2 q k a)⟩
theorem ETb.cl {G G2 : Hp} (h : ETb G G2) : ECl G G2 := ⟨h.1, h.2.1, fun q k a => h.2.2 q k (by omega)⟩
theorem ETb.xp {t p : Nat} {D : TKd} {N : Nat × Nat} {G G2 : Hp} (h : ETb G G2) (hX : XP t D p N G) : XP t D p N G2 := by
  obtain ⟨h1, h2, h3, h4, h5, h6, h7⟩ := hX
  exact ⟨h1.same h.1, h2.E (fun q k hq => h.2.2 q k (by omega)) (h.2.1 5 (by decide)), h3, (h.2.2 1 6 (by omega)).trans h4, (h.2.2 1 5 (by omega)).trans h5, (h.2.2 1 3 (by omega)).trans h6, fun z => (h.2.2 1 4 (by omega)).trans (h7 z)⟩
theorem CTb.E {d m : Nat} {P : List Nat} {G G2 : Hp} (h : CTb d P G) (e : Er1 m G G2) (hm : m ≤ 14) : CTb d P G2 := by
  refine ⟨(e.2 1 15 (by omega)).trans h.1, fun s hs => ?_⟩
  rw [e.1]; exact h.2 s hs
theorem lb_and {x y : Int64} {k : Nat} : (x &&& y).toUInt64.toNat.testBit k = (x.toUInt64.toNat.testBit k && y.toUInt64.toNat.testBit k) := by
  show (x &&& y).toBitVec.getLsbD k = (x.toBitVec.getLsbD k && y.toBitVec.getLsbD k)
  rw [Int64.toBitVec_and, BitVec.getLsbD_and]
theorem lb_or {x y : Int64} {k : Nat} : (x ||| y).toUInt64.toNat.testBit k = (x.toUInt64.toNat.testBit k || y.toUInt64.toNat.testBit k) := by
  show (x ||| y).toBitVec.getLsbD k = (x.toBitVec.getLsbD k || y.toBitVec.getLsbD k)
  rw [Int64.toBitVec_or, BitVec.getLsbD_or]
theorem lb_m1 : ∀ k, k < 64 → (-1 : Int64).toBitVec.getLsbD k = true := by decide +kernel
theorem lb_not {x : Int64} {k : Nat} (hk : k < 64) : (x ^^^ (-1)).toUInt64.toNat.testBit k = !x.toUInt64.toNat.testBit k := by
  show (x ^^^ (-1)).toBitVec.getLsbD k = !x.toBitVec.getLsbD k
  rw [Int64.toBitVec_xor, BitVec.getLsbD_xor, lb_m1 k hk, Bool.xor_true]
def swT (tr i : Nat) : Int64 := if 6 ≤ tr then (if i / 2 ^ (tr - 6) % 2 = 0 then 0 else -1) else SWl tr
def sw0 (l0 l1 : Int32) : Option Int64 := if 6 ≤ l0 then if ((ush l1 (l0 - 6)) &&& 1) = 0 then some 0 else some (-1) else if 0 ≤ l0 then (aSW l0).bind fun v7 => some v7 else some 0
theorem sw0_v : ∀ tr, tr < 8 → ∀ i, i < 4 → sw0 (nI tr) (nI i) = some (swT tr i) := by decide +kernel
theorem sw_bit : ∀ tr, tr < 8 → ∀ s, s < 256 → (swT tr (s / 64)).toUInt64.toNat.testBit (s % 64) = s.testBit tr := by decide +kernel
theorem xSets {tr i : Nat} {G : Hp} (h1 : tr < 8) (h2 : i < 4) : fX8_setsWith SHX G (nI tr) (nI i) = some (swT tr i) := by
  rw [← sw0_v tr h1 i h2]; rfl
section TB
variable {t d : Nat} {P : List Nat} {G : Hp}
theorem xPush {k : Nat} (hx : LX t G) (h : CTb d P G) (hd : d < 15) (hk : cxk k < 8) (h8 : G.1 1 8 = nI (cxk k)) : ∃ G2, fX6_pushTable SHX G 1 = some G2 ∧ ETb G G2 ∧ CTb (d + 1) (P ++ [k]) G2 := by
  unfold fX6_pushTable
  rw [h.1, if_neg (show ¬ (15 : Int32) ≤ nI d from nI_ge (b := 15) hd (by decide))]
  obtain ⟨o, b1, b2', b3, b4, b5⟩ := iter_go (f := fun s : Hp × Int32 => fX6_pushTable_S11 SHX 1 s.1 s.2) (P := fun i s => s.2 = nI i ∧ s.1.1 = G.1 ∧ s.1.2.2 = G.2.2 ∧ (∀ q, q ≠ 10 → s.1.2.1 q = G.2.1 q) ∧ ∀ j, s.1.2.1 10 j = if d * 4 ≤ j ∧ j < d * 4 + i then swT (cxk k) (j - d * 4) else G.2.1 10 j) (Q := fun o => o.1 = G.1 ∧ o.2.2 = G.2.2 ∧ (∀ q, q ≠ 10 → o.2.1 q = G.2.1 q) ∧ ∀ j, o.2.1 10 j = if d * 4 ≤ j ∧ j < d * 4 + 4 then swT (cxk k) (j - d * 4) else G.2.1 10 j) 4 (G, 0) (by decide) ⟨rfl, rfl, rfl, fun _ _ => rfl, fun j => by rw [if_neg (by omega)]⟩ (by
    rintro i ⟨G1, x⟩ hi ⟨rfl, f1, f2, f3, f4⟩
    left
    dsimp only at f1 f2 f3 f4 ⊢
    have hx1 : LX t G1 := hx.same f2
    unfold fX6_pushTable_S11
    rw [if_neg (show ¬ (4 : Int32) ≤ nI i from nI_ge (b := 4) hi (by decide)), xl_1_14 hx1]
    simp only [ob]
    rw [f1, h8, xSets hk hi, h.1]
    simp only [ob]
    rw [show nI d * 4 = nI (d * 4) from pk_mul d 4, nI_add, asJ_n (by rw [xnn_10]; omega) (by omega)]
    simp only [ob, obd]
    refine ⟨_, rfl, nI_1 i, f1, f2, fun q hq => ?_, fun j => ?_⟩
    · show (sJ G1 10 _ _).2.1 q = _
      rw [sJ_row hq]; exact f3 q hq
    · show (sJ G1 10 (d * 4 + i) _).2.1 10 j = _
      by_cases e : j = d * 4 + i
      · rw [e, sJ_same, if_pos (by omega)]; congr 1; omega
      · rw [sJ_ne (Or.inr e), f4 j]
        by_cases c : d * 4 ≤ j ∧ j < d * 4 + i
        · rw [if_pos c, if_pos (by omega)]
        · rw [if_neg c, if_neg (by omega)]) (by
    rintro ⟨G1, x⟩ ⟨rfl, f1, f2, f3, f4⟩
    dsimp only at f1 f2 f3 f4 ⊢
    unfold fX6_pushTable_S11
    rw [if_pos (show (4 : Int32) ≤ nI 4 by decide)]
    exact ⟨_, rfl, f1, f2, f3, f4⟩)
  rw [b1]
  simp only [ob, obd]
  rw [b2', h.1, nI_1]
  refine ⟨_, rfl, ⟨b3, b4, fun q j hq => ?_⟩, sI_same, fun s hs => ?_⟩
  · rw [sI_ne (by omega), b2']
  · obtain ⟨h1, h2⟩ := h.2 s hs
    have est : stk (P ++ [k]) s = s.testBit (cxk k) :: stk P s := by
      rw [stk_snoc]; unfold stC; rw [if_pos hk]
    rw [est]
    refine ⟨by rw [List.length_cons, h1], fun j hj => ?_⟩
    show bitX (o.2.1 10) j s = _
    unfold bitX
    rw [b5]
    by_cases e : j = d
    · subst e
      rw [if_pos (by omega), show j * 4 + s / 64 - j * 4 = s / 64 by omega, sw_bit _ hk s hs, show j + 1 - 1 - j = 0 by omega]; rfl
    · rw [if_neg (by omega)]
      have := h2 j (by omega)
      unfold bitX at this
      rw [this, show d + 1 - 1 - j = (d - 1 - j) + 1 by omega, List.getD_cons_succ]
theorem xTurn (hx : LX t G) (h : CTb (d + 1) P G) (hd : d < 15) : ∃ G2, fX6_turnTable SHX G 1 = some G2 ∧ ETb G G2 ∧ CTb (d + 1) (P ++ [8]) G2 := by
  unfold fX6_turnTable
  rw [h.1, if_neg (show ¬ nI (d + 1) < 1 from nI_nlt (b := 1) (by omega) (by omega)), nI_pred]
  simp only [obd]
  rw [show nI d * 4 = nI (d * 4) from pk_mul d 4]
  obtain ⟨o, b1, b2', b3, b4, b5⟩ := iter_go (f := fun s : Hp × Int32 => fX6_turnTable_S17 SHX 1 s.1 s.2) (P := fun i s => s.2 = nI (d * 4 + i) ∧ s.1.1 = G.1 ∧ s.1.2.2 = G.2.2 ∧ (∀ q, q ≠ 10 → s.1.2.1 q = G.2.1 q) ∧ ∀ j, s.1.2.1 10 j = if d * 4 ≤ j ∧ j < d * 4 + i then G.2.1 10 j ^^^ (-1) else G.2.1 10 j) (Q := fun o => o.1 = G.1 ∧ o.2.2 = G.2.2 ∧ (∀ q, q ≠ 10 → o.2.1 q = G.2.1 q) ∧ ∀ j, o.2.1 10 j = if d * 4 ≤ j ∧ j < d * 4 + 4 then G.2.1 10 j ^^^ (-1) else G.2.1 10 j) 4 (G, nI (d * 4)) (by decide) ⟨rfl, rfl, rfl, fun _ _ => rfl, fun j => by rw [if_neg (by omega)]⟩ (by
    rintro i ⟨G1, x⟩ hi ⟨rfl, f1, f2, f3, f4⟩
    left
    dsimp only at f1 f2 f3 f4 ⊢
    have hx1 : LX t G1 := hx.same f2
    unfold fX6_turnTable_S17
    rw [f1, h.1, show nI (d + 1) * 4 = nI ((d + 1) * 4) from pk_mul (d + 1) 4, if_neg (nI_ge (by omega) (by omega)), xl_1_14 hx1]
    simp only [ob]
    rw [aJ_n (by rw [xnn_10]; omega) (by omega), f4, if_neg (by omega)]
    simp only [ob]
    rw [asJ_n (by rw [xnn_10]; omega) (by omega)]
    simp only [ob, obd]
    refine ⟨_, rfl, nI_1 _, f1, f2, fun q hq => ?_, fun j => ?_⟩
    · show (sJ G1 10 _ _).2.1 q = _
      rw [sJ_row hq]; exact f3 q hq
    · show (sJ G1 10 (d * 4 + i) _).2.1 10 j = _
      by_cases e : j = d * 4 + i
      · rw [e, sJ_same, if_pos (by omega)]
      · rw [sJ_ne (Or.inr e), f4 j]
        by_cases c : d * 4 ≤ j ∧ j < d * 4 + i
        · rw [if_pos c, if_pos (by omega)]
        · rw [if_neg c, if_neg (by omega)]) (by
    rintro ⟨G1, x⟩ ⟨rfl, f1, f2, f3, f4⟩
    dsimp only at f1 f2 f3 f4 ⊢
    unfold fX6_turnTable_S17
    rw [f1, h.1, show nI (d + 1) * 4 = nI ((d + 1) * 4) from pk_mul (d + 1) 4, if_pos (nI_le (by omega) (by omega))]
    exact ⟨_, rfl, f1, f2, f3, f4⟩)
  rw [b1]
  simp only [ob]
  refine ⟨o, rfl, ⟨b3, b4, fun q j _ => by rw [b2']⟩, by rw [b2']; exact h.1, fun s hs => ?_⟩
  obtain ⟨h1, h2⟩ := h.2 s hs
  cases hst : stk P s with
  | nil => rw [hst] at h1; cases h1
  | cons y r =>
    rw [hst] at h1 h2
    rw [List.length_cons] at h1
    have est : stk (P ++ [8]) s = (!y) :: r := by rw [stk_snoc, hst]; rfl
    rw [est]
    refine ⟨by rw [List.length_cons, h1], fun j hj => ?_⟩
    have hj2 := h2 j hj
    unfold bitX at hj2 ⊢
    rw [b5]
    by_cases e : j = d
    · subst e
      rw [if_pos (by omega), lb_not (Nat.mod_lt _ (by decide)), hj2, show j + 1 - 1 - j = 0 by omega]; rfl
    · rw [if_neg (by omega), hj2, show d + 1 - 1 - j = (d - 1 - j) + 1 by omega, List.getD_cons_succ, List.getD_cons_succ]
/-- nots, by whether they are odd -/
theorem stk_rep {s : Nat} : ∀ n (P : List Nat) (y : Bool) (r : List Bool), stk P s = y :: r → stk (P ++ List.replicate n 8) s = (if n % 2 = 1 then !y else y) :: r
  | 0, P, y, r, h => by rw [List.replicate_zero, List.append_nil, h]; rfl
  | n + 1, P, y, r, h => by
    rw [List.replicate_succ, show P ++ 8 :: List.replicate n 8 = P ++ [8] ++ List.replicate n 8 by simp]
    have h1 : stk (P ++ [8]) s = (!y) :: r := by rw [stk_snoc, h]; rfl
    rw [stk_rep n (P ++ [8]) (!y) r h1]
    congr 1
    by_cases e : n % 2 = 1
    · rw [if_pos e, if_neg (by omega), Bool.not_not]
    · rw [if_neg e, if_pos (by omega)]
theorem CTb_rep {n : Nat} {P1 : List Nat} (h : CTb (d + 1) P1 G) (hP : P1 = if n % 2 = 1 then P ++ [8] else P) (h0 : ∀ s, s < 256 → (stk P s).length = d + 1) : CTb (d + 1) (P ++ List.replicate n 8) G := by
  refine ⟨h.1, fun s hs => ?_⟩
  have h2 := h.2 s hs
  have hl := h0 s hs
  cases hst : stk P s with
  | nil => rw [hst] at hl; cases hl
  | cons y r =>
    have e : stk (P ++ List.replicate n 8) s = stk P1 s := by
      rw [stk_rep n P y r hst, hP]
      by_cases e : n % 2 = 1
      · rw [if_pos e, if_pos e, stk_snoc, hst]; rfl
      · rw [if_neg e, if_neg e, hst]
    rw [e]; exact h2
theorem xJoinT {isAnd : Bool} (hx : LX t G) (h : CTb (d + 2) P G) (hd : d ≤ 13) : ∃ G2, fX6_joinTables SHX G 1 (b2 isAnd) = some G2 ∧ ETb G G2 ∧ CTb (d + 1) (P ++ [if isAnd then 9 else 10]) G2 := by
  unfold fX6_joinTables
  rw [h.1, if_neg (show ¬ nI (d + 2) < 2 from nI_nlt (b := 2) (by omega) (by omega)), show nI (d + 2) - 1 = nI (d + 1) from nI_pred (d + 1)]
  simp only [obd]
  rw [sI_same, nI_pred, show nI d * 4 = nI (d * 4) from pk_mul d 4]
  obtain ⟨o, b1, b2', b3, b4, b5⟩ := iter_go (f := fun s : Hp × Int32 => fX6_joinTables_S27 SHX 1 (b2 isAnd) s.1 s.2) (P := fun i s => s.2 = nI (d * 4 + i) ∧ s.1.1 = (sI G 1 15 (nI (d + 1))).1 ∧ s.1.2.2 = G.2.2 ∧ (∀ q, q ≠ 10 → s.1.2.1 q = G.2.1 q) ∧ ∀ j, s.1.2.1 10 j = if d * 4 ≤ j ∧ j < d * 4 + i then (if isAnd then G.2.1 10 j &&& G.2.1 10 (j + 4) else G.2.1 10 j ||| G.2.1 10 (j + 4)) else G.2.1 10 j) (Q := fun o => o.1 = (sI G 1 15 (nI (d + 1))).1 ∧ o.2.2 = G.2.2 ∧ (∀ q, q ≠ 10 → o.2.1 q = G.2.1 q) ∧ ∀ j, o.2.1 10 j = if d * 4 ≤ j ∧ j < d * 4 + 4 then (if isAnd then G.2.1 10 j &&& G.2.1 10 (j + 4) else G.2.1 10 j ||| G.2.1 10 (j + 4)) else G.2.1 10 j) 4 (sI G 1 15 (nI (d + 1)), nI (d * 4)) (by decide) ⟨rfl, rfl, rfl, fun _ _ => rfl, fun j => by rw [if_neg (by omega)]; rfl⟩ (by
    rintro i ⟨G1, x⟩ hi ⟨rfl, f1, f2, f3, f4⟩
    left
    dsimp only at f1 f2 f3 f4 ⊢
    have hx1 : LX t G1 := hx.same f2
    unfold fX6_joinTables_S27
    rw [f1, sI_same, show nI (d + 1) * 4 = nI ((d + 1) * 4) from pk_mul (d + 1) 4, if_neg (nI_ge (by omega) (by omega)), xl_1_14 hx1, show nI (d * 4 + i) + 4 = nI (d * 4 + i + 4) from nI_add (d * 4 + i) 4]
    simp only [ob]
    rw [aJ_n (by rw [xnn_10]; omega) (by omega), f4, if_neg (by omega), aJ_n (by rw [xnn_10]; omega) (by omega), f4, if_neg (by omega)]
    simp only [ob]
    have fin : ∀ v, v = (if isAnd then G.2.1 10 (d * 4 + i) &&& G.2.1 10 (d * 4 + i + 4) else G.2.1 10 (d * 4 + i) ||| G.2.1 10 (d * 4 + i + 4)) → ∃ s2 : Hp × Int32, ((asJ SHX G1 10 (nI (d * 4 + i)) v).bind fun G8 => bd ((nI (d * 4 + i) + 1) : Int32) fun x9 => (some (.inl (G8, x9)) : Option ((Hp × Int32) ⊕ Hp))) = some (.inl s2) ∧ s2.2 = nI (d * 4 + (i + 1)) ∧ s2.1.1 = (sI G 1 15 (nI (d + 1))).1 ∧ s2.1.2.2 = G.2.2 ∧ (∀ q, q ≠ 10 → s2.1.2.1 q = G.2.1 q) ∧ ∀ j, s2.1.2.1 10 j = if d * 4 ≤ j ∧ j < d * 4 + (i + 1) then (if isAnd then G.2.1 10 j &&& G.2.1 10 (j + 4) else G.2.1 10 j ||| G.2.1 10 (j + 4)) else G.2.1 10 j := by
      rintro v rfl
      rw [asJ_n (by rw [xnn_10]; omega) (by omega)]
      simp only [ob, obd]
      refine ⟨_, rfl, nI_1 _, f1, f2, fun q hq => ?_, fun j => ?_⟩
      · show (sJ G1 10 _ _).2.1 q = _
        rw [sJ_row hq]; exact f3 q hq
      · show (sJ G1 10 (d * 4 + i) _).2.1 10 j = _
        by_cases e : j = d * 4 + i
        · rw [e, sJ_same, if_pos (show d * 4 ≤ d * 4 + i ∧ d * 4 + i < d * 4 + (i + 1) by omega)]
        · rw [sJ_ne (Or.inr e), f4 j]
          by_cases c : d * 4 ≤ j ∧ j < d * 4 + i
          · rw [if_pos c, if_pos (show d * 4 ≤ j ∧ j < d * 4 + (i + 1) by omega)]
          · rw [if_neg c, if_neg (show ¬ (d * 4 ≤ j ∧ j < d * 4 + (i + 1)) by omega)]
    cases isAnd with
    | true => rw [if_neg (show ¬ b2 true = 0 by decide)]; exact fin _ rfl
    | false => rw [if_pos (show b2 false = 0 from rfl)]; exact fin _ rfl) (by
    rintro ⟨G1, x⟩ ⟨rfl, f1, f2, f3, f4⟩
    dsimp only at f1 f2 f3 f4 ⊢
    unfold fX6_joinTables_S27
    rw [f1, sI_same, show nI (d + 1) * 4 = nI ((d + 1) * 4) from pk_mul (d + 1) 4, if_pos (nI_le (by omega) (by omega))]
    exact ⟨_, rfl, f1, f2, f3, f4⟩)
  rw [b1]
  simp only [ob]
  refine ⟨o, rfl, ⟨b3, b4, fun q j hq => by rw [b2', sI_ne (by omega)]⟩, by rw [b2', sI_same], fun s hs => ?_⟩
  obtain ⟨h1, h2⟩ := h.2 s hs
  match hst : stk P s, h1, h2 with
  | y :: x :: r, h1, h2 =>
    rw [List.length_cons, List.length_cons] at h1
    have est : stk (P ++ [if isAnd then 9 else 10]) s = (if isAnd then x && y else x || y) :: r := by
      rw [stk_snoc, hst]
      cases isAnd <;> rfl
    rw [est]
    refine ⟨by rw [List.length_cons]; omega, fun j hj => ?_⟩
    have hj2 := h2 j (by omega)
    unfold bitX at hj2 ⊢
    rw [b5]
    by_cases e : j = d
    · subst e
      have h3 := h2 (j + 1) (by omega)
      unfold bitX at h3
      rw [show (j + 1) * 4 + s / 64 = j * 4 + s / 64 + 4 by omega] at h3
      rw [show j + 2 - 1 - (j + 1) = 0 by omega] at h3
      rw [show j + 2 - 1 - j = 1 by omega] at hj2
      rw [if_pos (by omega), show j + 1 - 1 - j = 0 by omega]
      cases isAnd with
      | true => rw [if_pos rfl, lb_and, hj2, h3]; rfl
      | false => rw [if_neg (by decide), lb_or, hj2, h3]; rfl
    · rw [if_neg (by omega), hj2, show d + 2 - 1 - j = (d - 1 - j) + 2 by omega, show d + 1 - 1 - j = (d - 1 - j) + 1 by omega, List.getD_cons_succ, List.getD_cons_succ, List.getD_cons_succ]
end TB
