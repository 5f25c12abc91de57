/-! ALL: the search, purely. -/
abbrev OB : Type := Option (Nat × List Nat)
def cst : OB → Nat
  | none => 1000000
  | some p => p.1
def vP (T : Txt) (p : Nat) : Nat := T.2.1 0 (p / 5) + aCost T (p % 5)
def off (q : Nat → Int32) (a : Nat) : Nat → Int32 := upd q 25 (q 25 &&& ((1 : Int32) <<< (nI a &&& 31) ^^^ (-1)))
/-- how all is behind a pick -/
def nq (T : Txt) (q : Nat → Int32) (p : Nat) : Nat → Int32 := if (aSet T (p / 5) (p % 5)).testBit 0 then off q (p / 5) else rLearn (off q (p / 5)) (nI (aSet T (p / 5) (p % 5)))
def vld (T : Txt) (q : Nat → Int32) (b p : Nat) : Bool := decide (p / 5 < T.1 1) && (decide (p % 5 ≤ T.1 2) && (bt (q 25) (p / 5) && tkn T q b (aSet T (p / 5) (p % 5))))
def fo (f : Nat → OB → OB) : Nat → Nat → OB → OB
  | _, 0, o => o
  | p, c + 1, o => fo f (p + 1) c (f p o)
def srch (T : Txt) : List Nat → (Nat → Int32) → Nat → List Nat → OB → OB
  | [], _, lost, ps, o => if lost < cst o then some (lost, ps) else o
  | b :: bs, q, lost, ps, o => fo (fun p o => if vld T q b p then srch T bs (nq T q p) (lost + vP T p) (ps ++ [p]) o else o) 0 35 o
/-- what a pick does -/
def fP (T : Txt) (b : Nat) (bs : List Nat) (q : Nat → Int32) (lost : Nat) (ps : List Nat) (p : Nat) (o : OB) : OB := if vld T q b p then srch T bs (nq T q p) (lost + vP T p) (ps ++ [p]) o else o
theorem srch_c {T : Txt} {b : Nat} {bs : List Nat} {q : Nat → Int32} {lost : Nat} {ps : List Nat} {o : OB} : srch T (b :: bs) q lost ps o = fo (fP T b bs q lost ps) 0 35 o := rfl
theorem fo_id {f : Nat → OB → OB} {o : OB} : ∀ c p, (∀ p2, p ≤ p2 → p2 < p + c → f p2 o = o) → fo f p c o = o
  | 0, _, _ => rfl
  | c + 1, p, h => by
    show fo f (p + 1) c (f p o) = o
    rw [h p (Nat.le_refl _) (by omega)]
    exact fo_id c (p + 1) (fun p2 h1 h2 => h p2 (by omega) (by omega))
theorem fo_skip {f : Nat → OB → OB} {o : OB} {c : Nat} : ∀ d p, (∀ p2, p ≤ p2 → p2 < p + d → f p2 o = o) → fo f p (d + c) o = fo f (p + d) c o
  | 0, p, _ => by rw [Nat.zero_add, Nat.add_zero]
  | d + 1, p, h => by
    rw [show d + 1 + c = (d + c) + 1 by omega]
    show fo f (p + 1) (d + c) (f p o) = _
    rw [h p (Nat.le_refl _) (by omega), fo_skip d (p + 1) (fun p2 h1 h2 => h p2 (by omega) (by omega)), show p + 1 + d = p + (d + 1) by omega]
theorem srch_hi {T : Txt} : ∀ (bs : List Nat) (q : Nat → Int32) (lost : Nat) (ps : List Nat) (o : OB), cst o ≤ lost → srch T bs q lost ps o = o
  | [], _, lost, ps, o, h => by
    show (if lost < cst o then some (lost, ps) else o) = o
    rw [if_neg (by omega)]
  | b :: bs, q, lost, ps, o, h => by
    rw [srch_c]
    refine fo_id 35 0 (fun p _ _ => ?_)
    unfold fP
    split
    · exact srch_hi bs _ _ _ o (by omega)
    · rfl
theorem lrn_ext {r1 r2 : Nat → Int32} {s : Int32} (h : r1 21 = r2 21) (h2 : ∀ k, k < 9 → nI k < r2 21 → r1 (12 + k) = r2 (12 + k)) : lrn r1 s = lrn r2 s := by
  have key : ∀ k, k < 9 → (decide (nI k < r1 21) && decide (r1 (12 + k) = s)) = (decide (nI k < r2 21) && decide (r2 (12 + k) = s)) := fun k hk => by
    rw [h]
    by_cases hc : nI k < r2 21
    · rw [h2 k hk hc]
    · rw [decide_eq_false hc]; rfl
  unfold lrn
  rw [Bool.eq_iff_iff, List.any_eq_true, List.any_eq_true]
  constructor
  · rintro ⟨k, hk, hq⟩; exact ⟨k, hk, by rw [← key k (List.mem_range.mp hk)]; exact hq⟩
  · rintro ⟨k, hk, hq⟩; exact ⟨k, hk, by rw [key k (List.mem_range.mp hk)]; exact hq⟩
theorem off_21 {q : Nat → Int32} {a : Nat} : off q a 21 = q 21 := upn (by decide)
theorem off_l {q : Nat → Int32} {a k : Nat} (h : k < 25) : off q a k = q k := upn (by omega)
theorem off_25 {q : Nat → Int32} {a left : Nat} (h : q 25 = nI left) (hl : left < 256) (ha : a < 8) : off q a 25 = nI (left &&& (255 ^^^ 2 ^ a)) := by
  unfold off; rw [ups, h, m_there hl ha]
theorem WFG_off {T : Txt} {q : Nat → Int32} {a : Nat} (h : WFG T q) (hW : WFT T) (ha : a < 8) : WFG T (off q a) := by
  have hw := hW.1
  obtain ⟨h1, h2, ⟨c, c1, c2', c3⟩, m, m1, m2⟩ := h
  have hm : m < 256 := Nat.lt_of_lt_of_le m1 (Nat.le_trans (pow_le hw.2.1) (by decide))
  refine ⟨fun b hb => ?_, fun b hb => ?_, ⟨c, c1, by rw [off_l (by decide)]; exact c2', fun k hk => by rw [off_l (by omega)]; exact c3 k hk⟩, m &&& (255 ^^^ 2 ^ a), Nat.lt_of_le_of_lt Nat.and_le_left m1, off_25 m2 hm ha⟩
  · rw [off_l (by omega), off_l (by omega)]; exact h1 b hb
  · rw [off_l (by omega)]; exact h2 b hb
theorem rl_25 {q : Nat → Int32} {s : Int32} {c : Nat} (hc : c ≤ 9) (h21 : q 21 = nI c) : rLearn q s 25 = q 25 := by
  unfold rLearn
  rw [h21]
  split
  · rfl
  · rw [nI_clamp (by omega), upn (by omega)]
    by_cases e : 25 = 12 + c
    · omega
    · rw [upn e]
theorem rl_ph {q : Nat → Int32} {s : Int32} {c b : Nat} (hc : c ≤ 9) (h21 : q 21 = nI c) (hb : b < 12) : rLearn q s b = q b := by
  unfold rLearn
  rw [h21]
  split
  · rfl
  · rw [nI_clamp (by omega), upn (by omega), upn (by omega)]
theorem WFG_nq {T : Txt} {q : Nat → Int32} {p : Nat} (h : WFG T q) (hW : WFT T) (hp : p < 35) (ha : p / 5 < T.1 1) (hi : p % 5 ≤ T.1 2) : WFG T (nq T q p) := by
  unfold nq
  split
  · exact WFG_off h hW (by omega)
  · exact WFG_learn (WFG_off h hW (by omega)) hW (aSet_256 hW ha hi)
theorem nq_25 {T : Txt} {q : Nat → Int32} {p left : Nat} (h : WFG T q) (h25 : q 25 = nI left) (hl : left < 256) (hp : p < 35) : nq T q p 25 = nI (left &&& (255 ^^^ 2 ^ (p / 5))) := by
  obtain ⟨-, -, ⟨c, c1, c2', -⟩, -⟩ := h
  unfold nq
  split
  · exact off_25 h25 hl (by omega)
  · rw [rl_25 c1 (by rw [off_21]; exact c2')]; exact off_25 h25 hl (by omega)
theorem nq_ph {T : Txt} {q : Nat → Int32} {p b : Nat} (h : WFG T q) (hb : b < 12) : nq T q p b = q b := by
  obtain ⟨-, -, ⟨c, c1, c2', -⟩, -⟩ := h
  unfold nq
  split
  · exact off_l (by omega)
  · rw [rl_ph c1 (by rw [off_21]; exact c2') hb]; exact off_l (by omega)
theorem lrn_off {q : Nat → Int32} {a : Nat} {s : Int32} : lrn (off q a) s = lrn q s := lrn_ext off_21 (fun k hk _ => off_l (by omega))
theorem lrn_more {q : Nat → Int32} {s v : Int32} {c : Nat} (hc : c ≤ 9) (h21 : q 21 = nI c) (h : lrn q s = true) : lrn (rLearn q v) s = true := by
  unfold lrn at h
  rw [List.any_eq_true] at h
  obtain ⟨k, hk, hq⟩ := h
  rw [Bool.and_eq_true, decide_eq_true_iff, decide_eq_true_iff] at hq
  have hk9 := List.mem_range.mp hk
  rw [h21] at hq
  have hkc := (nI_ltI (by omega) (by omega)).mp hq.1
  unfold rLearn
  rw [h21]
  by_cases e9 : c = 9
  · subst e9
    rw [if_pos (show nI 9 = 9 from rfl)]
    exact lrn_t (c := 9) (by omega) h21 hkc hq.2
  · rw [if_neg (show ¬ nI c = 9 from fun z => e9 ((nI_eq (b := 9) (by omega) (by decide)).mp z)), nI_clamp (by omega), nI_1]
    refine lrn_t (c := c + 1) (k := k) (by omega) ups (by omega) ?_
    rw [upn (by omega), upn (by omega)]; exact hq.2
theorem lrn_nq {T : Txt} {q : Nat → Int32} {p : Nat} {s : Int32} (h : WFG T q) (hs : lrn q s = true) : lrn (nq T q p) s = true := by
  obtain ⟨-, -, ⟨c, c1, c2', -⟩, -⟩ := h
  unfold nq
  split
  · rw [lrn_off]; exact hs
  · exact lrn_more c1 (by rw [off_21]; exact c2') (by rw [lrn_off]; exact hs)
/-- what he has learnt at first he has learnt later -/
def sub (rs q : Nat → Int32) : Prop := ∀ s, lrn rs s = true → lrn q s = true
theorem tkn_sub {T : Txt} {rs q : Nat → Int32} {b s : Nat} (h : sub rs q) (ht : tkn T q b s = true) : tkn T rs b s = true := by
  unfold tkn at ht ⊢
  rw [Bool.and_eq_true] at ht ⊢
  refine ⟨ht.1, ?_⟩
  cases hl : lrn rs (nI s) with
  | false => rfl
  | true => rw [h _ hl] at ht; exact absurd ht.2 (by decide)
/-- x is a lower bound of what the bridges bs cost those who are left -/
def LB (T : Txt) (rs : Nat → Int32) (bs : List Nat) (left x : Nat) : Prop := ∀ q lost ps o, WFG T q → sub rs q → q 25 = nI left → cst o ≤ lost + x → srch T bs q lost ps o = o
theorem LB_0 {T : Txt} {rs : Nat → Int32} {bs : List Nat} {left : Nat} : LB T rs bs left 0 := fun q lost ps o _ _ _ h => srch_hi bs q lost ps o (by omega)
theorem LB_c {T : Txt} {rs : Nat → Int32} {b : Nat} {bs : List Nat} {left x : Nat} (hW : WFT T) (hl : left < 256) (h : ∀ a, a < T.1 1 → left.testBit a = true → ∃ z y, (∀ i, i ≤ T.1 2 → tkn T rs b (aSet T a i) = true → z ≤ T.2.1 0 a + aCost T i) ∧ LB T rs bs (left &&& (255 ^^^ 2 ^ a)) y ∧ x ≤ z + y) : LB T rs (b :: bs) left x := by
  intro q lost ps o hq hs h25 hc
  rw [srch_c]
  refine fo_id 35 0 (fun p _ hp => ?_)
  unfold fP
  cases hv : vld T q b p with
  | false => rfl
  | true =>
    rw [if_pos rfl]
    unfold vld at hv
    rw [Bool.and_eq_true, Bool.and_eq_true, Bool.and_eq_true, decide_eq_true_iff, decide_eq_true_iff] at hv
    obtain ⟨v1, v2, v3, v4⟩ := hv
    have hw := hW.1
    rw [h25, bt_nI (by omega)] at v3
    obtain ⟨z, y, k1, k2, k3⟩ := h (p / 5) v1 v3
    have := k1 (p % 5) v2 (tkn_sub hs v4)
    refine k2 (nq T q p) _ _ o (WFG_nq hq hW (by omega) v1 v2) (fun s h => lrn_nq hq (hs s h)) (nq_25 hq h25 hl (by omega)) ?_
    unfold vP
    omega
/-- the closed bridges from b on, c of them looked at -/
def clo (r : Nat → Int32) : Nat → Nat → List Nat
  | _, 0 => []
  | b, c + 1 => if r (4 + b) = 0 then b :: clo r (b + 1) c else clo r (b + 1) c
theorem clo_y {r : Nat → Int32} {b c : Nat} (h : r (4 + b) = 0) : clo r b (c + 1) = b :: clo r (b + 1) c := if_pos h
theorem clo_n {r : Nat → Int32} {b c : Nat} (h : ¬ r (4 + b) = 0) : clo r b (c + 1) = clo r (b + 1) c := if_neg h
theorem clo_lt {r : Nat → Int32} : ∀ c b, ∀ x ∈ clo r b c, b ≤ x ∧ x < b + c
  | 0, _, x, h => by cases h
  | c + 1, b, x, h => by
    by_cases e : r (4 + b) = 0
    · rw [clo_y e] at h
      rcases List.mem_cons.mp h with h | h
      · omega
      · have := clo_lt c (b + 1) x h; omega
    · rw [clo_n e] at h
      have := clo_lt c (b + 1) x h; omega
theorem clo_len {r : Nat → Int32} : ∀ c b, (clo r b c).length ≤ c
  | 0, _ => Nat.le_refl _
  | c + 1, b => by
    have := clo_len (r := r) c (b + 1)
    by_cases e : r (4 + b) = 0
    · rw [clo_y e, List.length_cons]; omega
    · rw [clo_n e]; omega
theorem vP_198 {T : Txt} {p : Nat} (hW : WFT T) (ha : p / 5 < T.1 1) (hi : p % 5 ≤ T.1 2) : vP T p ≤ 198 := by
  have h1 := (hW.2.1 _ ha).1
  have h2 := cost_99 hW hi
  unfold vP; omega
