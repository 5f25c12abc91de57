/-! ALL: what isn't worth looking at changes nothing. -/
theorem fo_s {f : Nat → OB → OB} : ∀ c p o, fo f p (c + 1) o = f (p + c) (fo f p c o)
  | 0, _, _ => rfl
  | c + 1, p, o => by
    show fo f (p + 1) (c + 1) (f p o) = f (p + (c + 1)) (fo f (p + 1) c (f p o))
    rw [fo_s c (p + 1) (f p o), show p + 1 + c = p + (c + 1) by omega]
theorem fo_more {f : Nat → OB → OB} {p c : Nat} {o : OB} : ∀ d, (∀ j, c ≤ j → j < c + d → ∀ o, f (p + j) o = o) → fo f p (c + d) o = fo f p c o
  | 0, _ => rfl
  | d + 1, h => by
    rw [show c + (d + 1) = (c + d) + 1 by omega, fo_s, h (c + d) (by omega) (by omega), fo_more d (fun j a b => h j a (by omega))]
/-- the better of what stands and a candidate -/
def btr (o : OB) : OB → OB
  | none => o
  | some z => if z.1 < cst o then some z else o
def mnb : OB → OB → OB
  | none, z => z
  | some y, none => some y
  | some y, some z => if z.1 < y.1 then some z else some y
/-- the first of the least of n candidates -/
def bc (c : Nat → OB) : Nat → OB
  | 0 => none
  | n + 1 => mnb (bc c n) (c n)
theorem btr_mnb (o x z : OB) : btr (btr o x) z = btr o (mnb x z) := by
  cases x with
  | none => rfl
  | some y =>
    cases z with
    | none => rfl
    | some w =>
      show (if w.1 < cst (if y.1 < cst o then some y else o) then some w else (if y.1 < cst o then some y else o)) = btr o (if w.1 < y.1 then some w else some y)
      by_cases h1 : y.1 < cst o
      · rw [if_pos h1]
        show (if w.1 < y.1 then some w else some y) = _
        by_cases h2 : w.1 < y.1
        · rw [if_pos h2]
          show some w = if w.1 < cst o then some w else o
          rw [if_pos (by omega)]
        · rw [if_neg h2]
          show some y = if y.1 < cst o then some y else o
          rw [if_pos h1]
      · rw [if_neg h1]
        by_cases h2 : w.1 < y.1
        · rw [if_pos h2]; rfl
        · rw [if_neg h2, if_neg (by omega)]
          show o = if y.1 < cst o then some y else o
          rw [if_neg h1]
theorem fo_bc {f : Nat → OB → OB} {c : Nat → OB} {o : OB} : ∀ n, (∀ p, p < n → ∀ o, f p o = btr o (c p)) → fo f 0 n o = btr o (bc c n)
  | 0, _ => rfl
  | n + 1, h => by
    rw [fo_s, Nat.zero_add, h n (by omega), fo_bc n (fun p hp => h p (by omega))]
    exact btr_mnb o (bc c n) (c n)
/-- the best of all picks for the bridges bs, from how all is at q -/
def bst (T : Txt) : List Nat → (Nat → Int32) → OB
  | [], _ => some (0, [])
  | b :: bs, q => bc (fun p => if vld T q b p then Option.map (fun w : Nat × List Nat => (vP T p + w.1, p :: w.2)) (bst T bs (nq T q p)) else none) 35
/-- what is the best behind the pick p -/
def cP0 (T : Txt) (b : Nat) (bs : List Nat) (q : Nat → Int32) (p : Nat) : OB := if vld T q b p then Option.map (fun w : Nat × List Nat => (vP T p + w.1, p :: w.2)) (bst T bs (nq T q p)) else none
theorem bst_c {T : Txt} {b : Nat} {bs : List Nat} {q : Nat → Int32} : bst T (b :: bs) q = bc (cP0 T b bs q) 35 := rfl
def cnd (lost : Nat) (ps : List Nat) (z : OB) : OB := Option.map (fun w : Nat × List Nat => (lost + w.1, ps ++ w.2)) z
theorem bc_map {c : Nat → OB} {lost : Nat} {ps : List Nat} : ∀ n, bc (fun p => cnd lost ps (c p)) n = cnd lost ps (bc c n)
  | 0 => rfl
  | n + 1 => by
    show mnb (bc (fun p => cnd lost ps (c p)) n) (cnd lost ps (c n)) = cnd lost ps (mnb (bc c n) (c n))
    rw [bc_map n]
    cases bc c n with
    | none => rfl
    | some y =>
      cases c n with
      | none => rfl
      | some w =>
        show (if lost + w.1 < lost + y.1 then some (lost + w.1, ps ++ w.2) else some (lost + y.1, ps ++ y.2)) = cnd lost ps (if w.1 < y.1 then some w else some y)
        by_cases h : w.1 < y.1
        · rw [if_pos h, if_pos (by omega)]; rfl
        · rw [if_neg h, if_neg (by omega)]; rfl
theorem fP_b {T : Txt} {b : Nat} {bs : List Nat} {q : Nat → Int32} {lost p : Nat} {ps : List Nat} {o : OB} (h : ∀ q lost ps o, srch T bs q lost ps o = btr o (cnd lost ps (bst T bs q))) : fP T b bs q lost ps p o = btr o (cnd lost ps (cP0 T b bs q p)) := by
  unfold fP cP0
  cases hv : vld T q b p with
  | false => rfl
  | true =>
    rw [if_pos rfl, if_pos rfl, h]
    cases bst T bs (nq T q p) with
    | none => rfl
    | some w =>
      show (if lost + vP T p + w.1 < cst o then some (lost + vP T p + w.1, (ps ++ [p]) ++ w.2) else o) = (if lost + (vP T p + w.1) < cst o then some (lost + (vP T p + w.1), ps ++ (p :: w.2)) else o)
      rw [Nat.add_assoc, List.append_assoc]
      rfl
theorem srch_b {T : Txt} : ∀ (bs : List Nat) (q : Nat → Int32) (lost : Nat) (ps : List Nat) (o : OB), srch T bs q lost ps o = btr o (cnd lost ps (bst T bs q))
  | [], q, lost, ps, o => by
    show (if lost < cst o then some (lost, ps) else o) = (if lost + 0 < cst o then some (lost + 0, ps ++ []) else o)
    rw [Nat.add_zero, List.append_nil]
  | b :: bs, q, lost, ps, o => by
    have hb := srch_b (T := T) bs
    rw [srch_c, fo_bc (c := fun p => cnd lost ps (cP0 T b bs q p)) 35 (fun p _ o => fP_b hb), bc_map, bst_c]
/-- R is the first of the least of n candidates -/
def IsB (c : Nat → OB) (n : Nat) (R : OB) : Prop := (R = none ∧ ∀ p, p < n → c p = none) ∨ ∃ p z, R = some z ∧ p < n ∧ c p = some z ∧ ∀ p2 z2, p2 < n → c p2 = some z2 → z.1 ≤ z2.1 ∧ (p2 < p → z.1 < z2.1)
theorem bc_is (c : Nat → OB) : ∀ n, IsB c n (bc c n)
  | 0 => Or.inl ⟨rfl, fun p hp => by omega⟩
  | n + 1 => by
    show IsB c (n + 1) (mnb (bc c n) (c n))
    rcases bc_is c n with ⟨h1, h2⟩ | ⟨p, z, h1, h2, h3, h4⟩
    · rw [h1]
      cases hc : c n with
      | none =>
        refine Or.inl ⟨rfl, fun p hp => ?_⟩
        by_cases e : p = n
        · rw [e]; exact hc
        · exact h2 p (by omega)
      | some w =>
        refine Or.inr ⟨n, w, rfl, by omega, hc, fun p2 z2 hp2 hz2 => ?_⟩
        by_cases e : p2 = n
        · rw [e, hc] at hz2
          injection hz2 with hz2
          rw [← hz2]
          exact ⟨Nat.le_refl _, fun h => by omega⟩
        · rw [h2 p2 (by omega)] at hz2; cases hz2
    · rw [h1]
      cases hc : c n with
      | none =>
        refine Or.inr ⟨p, z, rfl, by omega, h3, fun p2 z2 hp2 hz2 => ?_⟩
        by_cases e : p2 = n
        · rw [e, hc] at hz2; cases hz2
        · exact h4 p2 z2 (by omega) hz2
      | some w =>
        show IsB c (n + 1) (if w.1 < z.1 then some w else some z)
        by_cases hlt : w.1 < z.1
        · rw [if_pos hlt]
          refine Or.inr ⟨n, w, rfl, by omega, hc, fun p2 z2 hp2 hz2 => ?_⟩
          by_cases e : p2 = n
          · rw [e, hc] at hz2
            injection hz2 with hz2
            rw [← hz2]
            exact ⟨Nat.le_refl _, fun h => by omega⟩
          · have := (h4 p2 z2 (by omega) hz2).1
            exact ⟨by omega, fun _ => by omega⟩
        · rw [if_neg hlt]
          refine Or.inr ⟨p, z, rfl, by omega, h3, fun p2 z2 hp2 hz2 => ?_⟩
          by_cases e : p2 = n
          · rw [e, hc] at hz2
            injection hz2 with hz2
            rw [← hz2]
            exact ⟨by omega, fun h => by omega⟩
          · exact h4 p2 z2 (by omega) hz2
theorem IsB_u {c : Nat → OB} {n : Nat} {R R2 : OB} (h : IsB c n R) (h2 : IsB c n R2) : R = R2 := by
  rcases h with ⟨a1, a2⟩ | ⟨p, z, a1, a2, a3, a4⟩
  · rcases h2 with ⟨b1, b2'⟩ | ⟨p2, z2, b1, b2', b3, b4⟩
    · rw [a1, b1]
    · rw [a2 p2 b2'] at b3; cases b3
  · rcases h2 with ⟨b1, b2'⟩ | ⟨p2, z2, b1, b2', b3, b4⟩
    · rw [b2' p a2] at a3; cases a3
    · have k1 := a4 p2 z2 b2' b3
      have k2 := b4 p z a2 a3
      have e : p = p2 := by
        rcases Nat.lt_trichotomy p p2 with h | h | h
        · have := k2.2 h; omega
        · exact h
        · have := k1.2 h; omega
      rw [e, b3] at a3
      rw [a1, b1, a3]
def wcn (w : Nat → Bool) (c : Nat → OB) (p : Nat) : OB := if w p then c p else none
theorem wcn_t {w : Nat → Bool} {c : Nat → OB} {p : Nat} (h : w p = true) : wcn w c p = c p := by unfold wcn; rw [h]; rfl
theorem wcn_f {w : Nat → Bool} {c : Nat → OB} {p : Nat} (h : w p = false) : wcn w c p = none := by unfold wcn; rw [h]; rfl
theorem bc_w {c : Nat → OB} {w : Nat → Bool} {n : Nat} (h : ∀ p z, p < n → w p = false → c p = some z → ∃ p2 z2, p2 < n ∧ w p2 = true ∧ c p2 = some z2 ∧ (z2.1 < z.1 ∨ (z2.1 = z.1 ∧ p2 < p))) : bc (wcn w c) n = bc c n := by
  refine IsB_u ?_ (bc_is c n)
  rcases bc_is (wcn w c) n with ⟨a1, a2⟩ | ⟨p, z, a1, a2, a3, a4⟩
  · refine Or.inl ⟨a1, fun p hp => ?_⟩
    cases hw : w p with
    | true => exact (wcn_t (c := c) hw).symm.trans (a2 p hp)
    | false =>
      cases hc : c p with
      | none => rfl
      | some z =>
        obtain ⟨p2, z2, k1, k2, k3, -⟩ := h p z hp hw hc
        have := (wcn_t (c := c) k2).symm.trans (a2 p2 k1)
        rw [k3] at this; cases this
  · have hw : w p = true := by
      cases hw : w p with
      | true => rfl
      | false => rw [wcn_f hw] at a3; cases a3
    rw [wcn_t hw] at a3
    refine Or.inr ⟨p, z, a1, a2, a3, fun p2 z2 hp2 hz2 => ?_⟩
    cases hw2 : w p2 with
    | true => exact a4 p2 z2 hp2 ((wcn_t hw2).trans hz2)
    | false =>
      obtain ⟨p3, z3, k1, k2, k3, k4⟩ := h p2 z2 hp2 hw2 hz2
      obtain ⟨m1, m2⟩ := a4 p3 z3 k1 ((wcn_t k2).trans k3)
      rcases k4 with k4 | ⟨k4, k5⟩
      · exact ⟨by omega, fun _ => by omega⟩
      · exact ⟨by omega, fun hl => by have := m2 (by omega); omega⟩
/-- the way j is ahead of the way i, and makes the same set of the being a -/
def rvl (T : Txt) (a j i : Nat) : Bool := (decide (aCost T j < aCost T i) || (decide (aCost T j = aCost T i) && decide (j < i))) && decide (aSet T a j = aSet T a i)
theorem rvl_iff {T : Txt} {a j i : Nat} : rvl T a j i = true ↔ (aCost T j < aCost T i ∨ (aCost T j = aCost T i ∧ j < i)) ∧ aSet T a j = aSet T a i := by
  unfold rvl
  rw [Bool.and_eq_true, Bool.or_eq_true, Bool.and_eq_true, decide_eq_true_iff, decide_eq_true_iff, decide_eq_true_iff, decide_eq_true_iff]
/-- the pick p is the one to look at for its set -/
def wth (T : Txt) (p : Nat) : Bool := (List.range (T.1 2 + 1)).all (fun j => !rvl T (p / 5) j (p % 5))
theorem wth_t {T : Txt} {p : Nat} (h : ∀ j, j ≤ T.1 2 → rvl T (p / 5) j (p % 5) = false) : wth T p = true := by
  unfold wth
  rw [List.all_eq_true]
  intro j hj
  rw [h j (by have := List.mem_range.mp hj; omega)]; rfl
theorem wth_f {T : Txt} {p j : Nat} (hj : j ≤ T.1 2) (hr : rvl T (p / 5) j (p % 5) = true) : wth T p = false := by
  cases h : wth T p with
  | false => rfl
  | true =>
    unfold wth at h
    have := List.all_eq_true.mp h j (List.mem_range.mpr (by omega))
    rw [hr] at this; cases this
theorem wth_x {T : Txt} {p : Nat} (h : wth T p = false) : ∃ j, j ≤ T.1 2 ∧ rvl T (p / 5) j (p % 5) = true := by
  refine Classical.byContradiction (fun hn => ?_)
  have := wth_t (T := T) (p := p) (fun j hj => by
    cases hr : rvl T (p / 5) j (p % 5) with
    | false => rfl
    | true => exact absurd ⟨j, hj, hr⟩ hn)
  rw [h] at this; cases this
theorem wth_min {T : Txt} {a : Nat} (h4 : T.1 2 ≤ 4) : ∀ m i, i ≤ T.1 2 → aCost T i * 5 + i ≤ m → wth T (5 * a + i) = false → ∃ j, j ≤ T.1 2 ∧ wth T (5 * a + j) = true ∧ rvl T a j i = true := by
  intro m
  induction m with
  | zero =>
    intro i hi hm hf
    obtain ⟨j, hj, hr⟩ := wth_x hf
    rw [show (5 * a + i) / 5 = a by omega, show (5 * a + i) % 5 = i by omega] at hr
    obtain ⟨h1, -⟩ := rvl_iff.mp hr
    rcases h1 with h1 | ⟨h1, h2⟩
    · omega
    · omega
  | succ m ih =>
    intro i hi hm hf
    obtain ⟨j, hj, hr⟩ := wth_x hf
    rw [show (5 * a + i) / 5 = a by omega, show (5 * a + i) % 5 = i by omega] at hr
    obtain ⟨h1, h2⟩ := rvl_iff.mp hr
    cases hw : wth T (5 * a + j) with
    | true => exact ⟨j, hj, hw, hr⟩
    | false =>
      obtain ⟨k, k1, k2, k3⟩ := ih j hj (by rcases h1 with h1 | ⟨h1, h3⟩ <;> omega) hw
      obtain ⟨k4, k5⟩ := rvl_iff.mp k3
      refine ⟨k, k1, k2, rvl_iff.mpr ⟨?_, k5.trans h2⟩⟩
      rcases h1 with h1 | ⟨h1, h3⟩
      · rcases k4 with k4 | ⟨k4, k6⟩
        · exact Or.inl (by omega)
        · exact Or.inl (by omega)
      · rcases k4 with k4 | ⟨k4, k6⟩
        · exact Or.inl (by omega)
        · exact Or.inr ⟨by omega, by omega⟩
/-- what a pick does, where it is worth a look -/
def fW (T : Txt) (b : Nat) (bs : List Nat) (q : Nat → Int32) (lost : Nat) (ps : List Nat) (p : Nat) (o : OB) : OB := if wth T p then fP T b bs q lost ps p o else o
theorem fW_t {T : Txt} {b : Nat} {bs : List Nat} {q : Nat → Int32} {lost : Nat} {ps : List Nat} {p : Nat} {o : OB} (h : wth T p = true) : fW T b bs q lost ps p o = fP T b bs q lost ps p o := by unfold fW; rw [h]; rfl
theorem fW_f {T : Txt} {b : Nat} {bs : List Nat} {q : Nat → Int32} {lost : Nat} {ps : List Nat} {p : Nat} {o : OB} (h : wth T p = false) : fW T b bs q lost ps p o = o := by unfold fW; rw [h]; rfl
theorem vld_same {T : Txt} {q : Nat → Int32} {b p p2 : Nat} (h1 : p2 / 5 = p / 5) (h2 : p2 % 5 ≤ T.1 2) (h3 : aSet T (p / 5) (p2 % 5) = aSet T (p / 5) (p % 5)) (h : vld T q b p = true) : vld T q b p2 = true := by
  unfold vld at h ⊢
  rw [Bool.and_eq_true, Bool.and_eq_true, Bool.and_eq_true, decide_eq_true_iff, decide_eq_true_iff] at h ⊢
  rw [h1, h3]
  exact ⟨h.1, h2, h.2.2.1, h.2.2.2⟩
theorem nq_same {T : Txt} {q : Nat → Int32} {p p2 : Nat} (h1 : p2 / 5 = p / 5) (h3 : aSet T (p / 5) (p2 % 5) = aSet T (p / 5) (p % 5)) : nq T q p2 = nq T q p := by
  unfold nq
  rw [h1, h3]
theorem fo_W {T : Txt} {b : Nat} {bs : List Nat} {q : Nat → Int32} {lost : Nat} {ps : List Nat} {o : OB} (hW : WFT T) : fo (fW T b bs q lost ps) 0 35 o = fo (fP T b bs q lost ps) 0 35 o := by
  have hw := hW.1
  have hb := srch_b (T := T) bs
  have H : ∀ p z, p < 35 → wth T p = false → cnd lost ps (cP0 T b bs q p) = some z → ∃ p2 z2, p2 < 35 ∧ wth T p2 = true ∧ cnd lost ps (cP0 T b bs q p2) = some z2 ∧ (z2.1 < z.1 ∨ (z2.1 = z.1 ∧ p2 < p)) := by
    intro p z hp hwp hz
    unfold cP0 at hz
    cases hv : vld T q b p with
    | false =>
      rw [hv, if_neg (by decide)] at hz
      exact absurd (show (none : OB) = some z from hz) (by simp)
    | true =>
      rw [hv, if_pos rfl] at hz
      have hv2 := hv
      unfold vld at hv2
      rw [Bool.and_eq_true, Bool.and_eq_true, decide_eq_true_iff, decide_eq_true_iff] at hv2
      obtain ⟨v1, v2, -⟩ := hv2
      obtain ⟨j, j1, j2, j3⟩ := wth_min (T := T) (a := p / 5) (by omega) _ (p % 5) v2 (Nat.le_refl _) (by rw [show 5 * (p / 5) + p % 5 = p by omega]; exact hwp)
      obtain ⟨j4, j5⟩ := rvl_iff.mp j3
      have e1 : (5 * (p / 5) + j) / 5 = p / 5 := by omega
      have e2 : (5 * (p / 5) + j) % 5 = j := by omega
      cases hbs : bst T bs (nq T q p) with
      | none =>
        rw [hbs] at hz
        exact absurd (show (none : OB) = some z from hz) (by simp)
      | some w =>
        rw [hbs] at hz
        have hz1 : (some (lost + (vP T p + w.1), ps ++ (p :: w.2)) : OB) = some z := hz
        have hz2 : (lost + (vP T p + w.1), ps ++ (p :: w.2)) = z := by injection hz1
        refine ⟨5 * (p / 5) + j, (lost + (vP T (5 * (p / 5) + j) + w.1), ps ++ ((5 * (p / 5) + j) :: w.2)), by omega, j2, ?_, ?_⟩
        · unfold cP0
          rw [vld_same (p := p) e1 (by rw [e2]; exact j1) (by rw [e2]; exact j5) hv, if_pos rfl, nq_same (p := p) e1 (by rw [e2]; exact j5), hbs]
          rfl
        · rw [← hz2]
          have hvp : vP T (5 * (p / 5) + j) = T.2.1 0 (p / 5) + aCost T j := by unfold vP; rw [e1, e2]
          have hvq : vP T p = T.2.1 0 (p / 5) + aCost T (p % 5) := rfl
          show lost + (vP T (5 * (p / 5) + j) + w.1) < lost + (vP T p + w.1) ∨ (lost + (vP T (5 * (p / 5) + j) + w.1) = lost + (vP T p + w.1) ∧ 5 * (p / 5) + j < p)
          rw [hvp, hvq]
          rcases j4 with j4 | ⟨j4, j6⟩
          · exact Or.inl (by omega)
          · exact Or.inr ⟨by omega, by omega⟩
  have h1 : fo (fW T b bs q lost ps) 0 35 o = btr o (bc (wcn (wth T) (fun p => cnd lost ps (cP0 T b bs q p))) 35) := by
    refine fo_bc 35 (fun p _ o => ?_)
    cases h : wth T p with
    | true => rw [fW_t h, wcn_t h]; exact fP_b hb
    | false => rw [fW_f h, wcn_f h]; rfl
  have h2 : fo (fP T b bs q lost ps) 0 35 o = btr o (bc (fun p => cnd lost ps (cP0 T b bs q p)) 35) := fo_bc 35 (fun p _ o => fP_b hb)
  rw [h1, h2, bc_w (c := fun p => cnd lost ps (cP0 T b bs q p)) (w := wth T) H]
/-! ALL: the class's table of what is worth a look. -/
theorem cmp_cost {c d : Nat} (hc : c < 1000) (hd : d < 1000) : (nI c - nI d < 0 ↔ c < d) ∧ (nI c - nI d = 0 ↔ c = d) := by
  have e : (nI c - nI d).toInt = (c : Int) - (d : Int) := by
    have h1 := nI_toInt (show c < 2 ^ 31 by omega)
    have h2 := nI_toInt (show d < 2 ^ 31 by omega)
    rw [fb_subI (by rw [h1, h2]; omega) (by rw [h1, h2]; omega), h1, h2]
  have z : (0 : Int32).toInt = 0 := rfl
  refine ⟨?_, ?_⟩
  · rw [Int32.lt_iff_toInt_lt, e, z]; omega
  · constructor
    · intro h
      rw [h, z] at e; omega
    · intro h
      subst h
      exact Int32.sub_self _
def WT (T : Txt) (G : Hp) : Prop := ∀ p, p < 35 → p / 5 < T.1 1 → p % 5 ≤ T.1 2 → G.1 297 p = b2 (wth T p)
def E97 (G G2 : Hp) : Prop := G2.2 = G.2 ∧ ∀ q k, q ≠ 297 → G2.1 q k = G.1 q k
theorem E97.rf {G : Hp} : E97 G G := ⟨rfl, fun _ _ _ => rfl⟩
theorem E97.tr {G G2 G3 : Hp} (h : E97 G G2) (h2 : E97 G2 G3) : E97 G G3 := ⟨h2.1.trans h.1, fun q k a => (h2.2 q k a).trans (h.2 q k a)⟩
theorem E97.s {k : Nat} {G : Hp} {v : Int32} : E97 G (sI G 297 k v) := ⟨rfl, fun q2 k2 a => sI_ne (Or.inl a)⟩
theorem E97.L {t : Nat} {G G2 : Hp} (h : E97 G G2) (hx : LX t G) : LX t G2 := hx.same (by rw [h.1])
theorem E97.T {t : Nat} {T : Txt} {G G2 : Hp} (ht : t = 11 ∨ t = 32) (h : E97 G G2) (hT : XT t T G) : XT t T G2 := XT_fr hT (fun q k a b c d => h.2 q k (by omega)) (by rw [h.1])
theorem E97.X {G G2 : Hp} (h : E97 G G2) : E287 G G2 := ⟨h.1, fun q k hq => h.2 q k (by omega)⟩
theorem zb_b2 (x : Bool) : zb (b2 x) = b2 x := by cases x; exact zb_0; exact zb_1
theorem xPair {a i : Nat} : fX5_pairOf (nI a) (wv i) = some (nI (a * 5 + i)) := by
  unfold fX5_pairOf
  rw [show nI a * 5 = nI (a * 5) from pk_mul a 5, Int32.add_assoc, wv_inc, wv_s, nI_add]
theorem xFirst {t a i : Nat} {T : Txt} {G : Hp} (hx : LX t G) (hT : XT t T G) (hW : WFT T) (ha : a < T.1 1) (hi : i ≤ T.1 2) : fX5_isFirstToItsSet SHX G t (nI a) (wv i) = some (b2 (wth T (5 * a + i))) := by
  have ht := hx.1
  have hw := hW.1
  have e1 : (5 * a + i) / 5 = a := by omega
  have e2 : (5 * a + i) % 5 = i := by omega
  have main : ∃ o, iter (fun s : Int32 => fX5_isFirstToItsSet_S2 SHX t (nI a) (wv i) G s) fuel (-1) = some o ∧ Sum.elim (fun _ : Unit => some (1 : Int32)) (fun _ : Unit => some (0 : Int32)) o = some (b2 (wth T (5 * a + i))) := by
    refine iter_go (f := fun s : Int32 => fX5_isFirstToItsSet_S2 SHX t (nI a) (wv i) G s) (P := fun j s => s = wv j ∧ ∀ j2, j2 < j → rvl T a j2 i = false) (Q := fun o => Sum.elim (fun _ : Unit => some (1 : Int32)) (fun _ : Unit => some (0 : Int32)) o = some (b2 (wth T (5 * a + i)))) (T.1 2 + 1) (-1) (by omega) ⟨rfl, fun j hj => by omega⟩ ?_ ?_
    · rintro j s hj ⟨rfl, hr⟩
      have cj := cost_99 hW (show j ≤ T.1 2 by omega)
      have ci := cost_99 hW hi
      have hn : rvl T a j i = false → ∃ s2, (some (Sum.inl (wv j + 1)) : Option (Int32 ⊕ (Unit ⊕ Unit))) = some (.inl s2) ∧ s2 = wv (j + 1) ∧ ∀ j2, j2 < j + 1 → rvl T a j2 i = false := fun h0 => by
        refine ⟨_, rfl, wv_inc j, fun j2 h2 => ?_⟩
        by_cases e : j2 = j
        · rw [e]; exact h0
        · exact hr j2 (by omega)
      have no : (aCost T j < aCost T i ∨ (aCost T j = aCost T i ∧ j < i)) → ¬ aSet T a j = aSet T a i → rvl T a j i = false := fun _ h => by
        cases hh : rvl T a j i with
        | false => rfl
        | true => exact absurd (rvl_iff.mp hh).2 h
      have no2 : ¬ (aCost T j < aCost T i ∨ (aCost T j = aCost T i ∧ j < i)) → rvl T a j i = false := fun h => by
        cases hh : rvl T a j i with
        | false => rfl
        | true => exact absurd (rvl_iff.mp hh).1 h
      have J38 : (aCost T j < aCost T i ∨ (aCost T j = aCost T i ∧ j < i)) → (∃ s2, fX5_isFirstToItsSet_J38L2 SHX G t (nI a) (wv i) (wv j) = some (.inl s2) ∧ s2 = wv (j + 1) ∧ ∀ j2, j2 < j + 1 → rvl T a j2 i = false) ∨ ∃ o, fX5_isFirstToItsSet_J38L2 SHX G t (nI a) (wv i) (wv j) = some (.inr o) ∧ Sum.elim (fun _ : Unit => some (1 : Int32)) (fun _ : Unit => some (0 : Int32)) o = some (b2 (wth T (5 * a + i))) := fun hh => by
        unfold fX5_isFirstToItsSet_J38L2 fX5_isFirstToItsSet_J43L2
        rw [if_neg one_ne, xSet ⟨t, hx⟩ ht hT hW ha (show j ≤ T.1 2 by omega), xSet ⟨t, hx⟩ ht hT hW ha hi]
        simp only [ob, obd]
        have s1 := aSet_256 hW ha (show j ≤ T.1 2 by omega)
        have s2 := aSet_256 hW ha hi
        by_cases e : aSet T a j = aSet T a i
        · right
          rw [if_pos (by rw [e])]
          refine ⟨_, rfl, ?_⟩
          rw [wth_f (j := j) (by omega) (by rw [e1, e2]; exact rvl_iff.mpr ⟨hh, e⟩)]
          rfl
        · left
          rw [if_neg (fun z => e ((nI_eq (by omega) (by omega)).mp z))]
          exact hn (no hh e)
      have J42 : ¬ (aCost T j < aCost T i ∨ (aCost T j = aCost T i ∧ j < i)) → ∃ s2, fX5_isFirstToItsSet_J42L2 SHX G t (nI a) (wv i) (wv j) = some (.inl s2) ∧ s2 = wv (j + 1) ∧ ∀ j2, j2 < j + 1 → rvl T a j2 i = false := fun hh => by
        unfold fX5_isFirstToItsSet_J42L2 fX5_isFirstToItsSet_J43L2
        rw [if_pos rfl]
        simp only [obd]
        exact hn (no2 hh)
      unfold fX5_isFirstToItsSet_S2
      rw [hT.1 2 (by decide), if_neg (wv_ge (by omega) (by omega)), xCost ⟨t, hx⟩ ht hT hW (show j ≤ T.1 2 by omega), xCost ⟨t, hx⟩ ht hT hW hi]
      simp only [ob, obd]
      obtain ⟨c1, c2'⟩ := cmp_cost (c := aCost T j) (d := aCost T i) (by omega) (by omega)
      by_cases h1 : aCost T j < aCost T i
      · rw [if_pos (c1.mpr h1)]
        exact J38 (Or.inl h1)
      · rw [if_neg (fun z => h1 (c1.mp z))]
        by_cases h2 : aCost T j = aCost T i
        · rw [if_pos (c2'.mpr h2)]
          by_cases h3 : i ≤ j
          · rw [if_pos (((wv_cmp j (by omega) i (by omega)).2).mpr h3)]
            exact Or.inl (J42 (fun z => by omega))
          · rw [if_neg (fun z => h3 (((wv_cmp j (by omega) i (by omega)).2).mp z))]
            exact J38 (Or.inr ⟨h2, by omega⟩)
        · rw [if_neg (fun z => h2 (c2'.mp z))]
          exact Or.inl (J42 (fun z => by omega))
    · rintro s ⟨rfl, hr⟩
      unfold fX5_isFirstToItsSet_S2
      rw [hT.1 2 (by decide), if_pos (wv_end (by omega))]
      refine ⟨_, rfl, ?_⟩
      rw [wth_t (fun j hj => by rw [e1, e2]; exact hr j (by omega))]
      rfl
  obtain ⟨o, q1, q2⟩ := main
  unfold fX5_isFirstToItsSet
  rw [q1]
  simp only [ob]
  exact q2
theorem xLookUp {t : Nat} {T : Txt} {G : Hp} (hx : LX t G) (hT : XT t T G) (hW : WFT T) : ∃ G2, fX5_lookUpWays SHX G 287 t = some G2 ∧ E97 G G2 ∧ WT T G2 := by
  have ht := hx.1
  have hw := hW.1
  have main : ∃ o, iter (fun s : Hp × Int32 => fX5_lookUpWays_S2 SHX 287 t s.1 s.2) fuel ((G, 0) : Hp × Int32) = some o ∧ E97 G o ∧ WT T o := by
    refine iter_go (f := fun s : Hp × Int32 => fX5_lookUpWays_S2 SHX 287 t s.1 s.2) (P := fun a s => s.2 = nI a ∧ E97 G s.1 ∧ ∀ p, p < 35 → p / 5 < a → p % 5 ≤ T.1 2 → s.1.1 297 p = b2 (wth T p)) (Q := fun o => E97 G o ∧ WT T o) (T.1 1) (G, 0) (by omega) ⟨rfl, E97.rf, fun p _ h => by omega⟩ ?_ ?_
    · rintro a ⟨G1, x⟩ ha ⟨rfl, hE, hp⟩
      left
      dsimp only at hE hp ⊢
      have hx1 := hE.L hx
      have hT1 := hE.T ht hT
      have inner : ∃ o, iter (fun s : Hp × Int32 => fX5_lookUpWays_S12 SHX 287 t (nI a) s.1 s.2) fuel ((G1, (-1)) : Hp × Int32) = some o ∧ E97 G o ∧ ∀ p, p < 35 → p / 5 < a + 1 → p % 5 ≤ T.1 2 → o.1 297 p = b2 (wth T p) := by
        refine iter_go (f := fun s : Hp × Int32 => fX5_lookUpWays_S12 SHX 287 t (nI a) s.1 s.2) (P := fun i s => s.2 = wv i ∧ E97 G s.1 ∧ ∀ p, p < 35 → p < 5 * a + i → p % 5 ≤ T.1 2 → s.1.1 297 p = b2 (wth T p)) (Q := fun o => E97 G o ∧ ∀ p, p < 35 → p / 5 < a + 1 → p % 5 ≤ T.1 2 → o.1 297 p = b2 (wth T p)) (T.1 2 + 1) (G1, (-1)) (by omega) ⟨rfl, hE, fun p p1 p2 p3 => hp p p1 (by omega) p3⟩ ?_ ?_
        · rintro i ⟨G2, x⟩ hi ⟨rfl, hE2, hp2⟩
          left
          dsimp only at hE2 hp2 ⊢
          have hx2 := hE2.L hx
          have hT2 := hE2.T ht hT
          unfold fX5_lookUpWays_S12
          rw [hT2.1 2 (by decide), if_neg (wv_ge (by omega) (by omega)), xl_287_9 hx2]
          simp only [ob]
          rw [xPair]
          simp only [ob]
          rw [xFirst hx2 hT2 hW ha (show i ≤ T.1 2 by omega)]
          simp only [ob]
          rw [zb_b2, asI_n (by rw [xnn_297]; omega) (by omega)]
          simp only [ob, obd]
          refine ⟨_, rfl, wv_inc i, hE2.tr E97.s, fun p p1 p2 p3 => ?_⟩
          show (sI G2 297 (a * 5 + i) _).1 297 p = _
          by_cases e : p = a * 5 + i
          · rw [e, sI_same, show a * 5 + i = 5 * a + i by omega]
          · rw [sI_ne (Or.inr e)]
            exact hp2 p p1 (by omega) p3
        · rintro ⟨G2, x⟩ ⟨rfl, hE2, hp2⟩
          dsimp only at hE2 hp2 ⊢
          have hT2 := hE2.T ht hT
          unfold fX5_lookUpWays_S12
          rw [hT2.1 2 (by decide), if_pos (wv_end (by omega))]
          exact ⟨_, rfl, hE2, fun p p1 p2 p3 => hp2 p p1 (by omega) p3⟩
      obtain ⟨G3, w1, w2, w3⟩ := inner
      unfold fX5_lookUpWays_S2
      rw [hT1.1 1 (by decide), if_neg (nI_ge ha (by omega)), w1]
      simp only [ob, obd]
      exact ⟨_, rfl, nI_1 a, w2, w3⟩
    · rintro ⟨G1, x⟩ ⟨rfl, hE, hp⟩
      dsimp only at hE hp ⊢
      have hT1 := hE.T ht hT
      unfold fX5_lookUpWays_S2
      rw [hT1.1 1 (by decide), if_pos (nI_le (Nat.le_refl _) (by omega))]
      exact ⟨_, rfl, hE, hp⟩
  obtain ⟨G2, k1, k2, k3⟩ := main
  unfold fX5_lookUpWays
  rw [k1]
  simp only [ob, obd]
  exact ⟨_, rfl, k2, k3⟩
