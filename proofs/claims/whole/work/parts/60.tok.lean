/-! TOKENS, purely. -/
def sb (y : Nat) : Int32 := if y < 128 then nI y else nI y - 256
def yb (c : Int32) : Nat := (c.toInt % 256).toNat
def isLt (y : Nat) : Bool := decide (97 ≤ y) && decide (y ≤ 122)
def isDg (y : Nat) : Bool := decide (48 ≤ y) && decide (y ≤ 57)
def isBk (y : Nat) : Bool := decide (y = 9) || (decide (y = 10) || (decide (y = 13) || decide (y = 32)))
def sgk (y : Nat) : Nat := if y = 59 then 4 else if y = 61 then 5 else if y = 40 then 6 else if y = 41 then 7 else if y = 43 then 8 else if y = 45 then 9 else if y = 42 then 10 else if y = 47 then 15 else if y = 60 then 13 else 3
/-- the class's number of a kind; kinds are the reference's -/
def cN (k : Nat) : Nat := if 20 ≤ k then 256 + mword (k - 20) else [0, 1, 2, 3, 59, 61, 40, 41, 43, 45, 42, 0, 0, 60, 0, 47, 0, 0, 0, 0].getD k 0
def ck (k : Nat) : Int32 := nI (cN k)
def okK (k : Nat) : Bool := decide (k ≤ 10) || (decide (k = 13) || (decide (k = 15) || (decide (20 ≤ k) && decide (k ≤ 45))))
theorem okK_46 : ∀ {k : Nat}, okK k = true → k < 46 := by
  intro k h
  unfold okK at h
  simp only [Bool.or_eq_true, Bool.and_eq_true, decide_eq_true_iff] at h
  omega
theorem cN_inj0 : ∀ a, a < 46 → ∀ b, b < 46 → okK a = true → okK b = true → cN a = cN b → a = b := by decide +kernel
theorem cN_300 : ∀ a, a < 46 → cN a < 300 := by decide +kernel
theorem ck_eq {a b : Nat} (ha : okK a = true) (hb : okK b = true) : ck a = ck b ↔ a = b := by
  have h1 := okK_46 ha
  have h2 := okK_46 hb
  constructor
  · intro h
    have := (nI_eq (by have := cN_300 a h1; omega) (by have := cN_300 b h2; omega)).mp h
    exact cN_inj0 a h1 b h2 ha hb this
  · intro h; rw [h]
theorem yb_neg : ∀ n : Nat, n < 128 → Int32.ofInt ((n : Int) - 128) = sb (n + 128) := by decide +kernel
theorem yb_ok {c : Int32} (h1 : -128 ≤ c) (h2 : c ≤ 127) : yb c < 256 ∧ c = sb (yb c) := by
  have e1 : (-128 : Int) ≤ c.toInt := Int32.le_iff_toInt_le.mp h1
  have e2 : c.toInt ≤ (127 : Int) := Int32.le_iff_toInt_le.mp h2
  unfold yb
  refine ⟨by omega, ?_⟩
  by_cases h0 : 0 ≤ c.toInt
  · have e : (c.toInt % 256).toNat = c.toInt.toNat := by omega
    rw [e]
    unfold sb
    rw [if_pos (by omega)]
    apply Int32.toInt_inj.mp
    rw [nI_toInt (by omega)]
    omega
  · have e : (c.toInt % 256).toNat = (c.toInt + 128).toNat + 128 := by omega
    have := yb_neg (c.toInt + 128).toNat (by omega)
    rw [show ((c.toInt + 128).toNat : Int) - 128 = c.toInt by omega, Int32.ofInt_toInt] at this
    rw [e]; exact this
theorem by_L : ∀ y, y < 256 → fX7_isLetter (sb y) = some (b2 (isLt y)) := by decide +kernel
theorem by_D : ∀ y, y < 256 → fX7_isDigit (sb y) = some (b2 (isDg y)) := by decide +kernel
theorem by_S : ∀ y, y < 256 → fX7_isSign (sb y) = some (if sgk y = 3 then 0 else 1) := by decide +kernel
theorem by_C : ∀ y, y < 256 → sgk y ≠ 3 → sb y = ck (sgk y) := by decide +kernel
theorem by_B : ∀ y, y < 256 → (sb y = 9 ↔ y = 9) ∧ (sb y = 10 ↔ y = 10) ∧ (sb y = 13 ↔ y = 13) ∧ (sb y = 32 ↔ y = 32) := by decide +kernel
theorem by_W : ∀ y, y < 256 → isLt y = true → Int32.toInt64 ((sb y - 97) + 1) = lN (y - 96) ∧ Int32.toInt64 ((nI y - 97) + 1) = lN (y - 96) := by decide +kernel
theorem by_V : ∀ y, y < 256 → isDg y = true → sb y - 48 = nI (y - 48) := by decide +kernel
theorem by_M : ∀ y, y < 256 → sb y &&& 255 = nI y := by decide +kernel
theorem bm_L : ∀ y, y < 256 → fX11_isLetter (nI y) = some (b2 (isLt y)) := by decide +kernel
theorem bm_D : ∀ y, y < 256 → fX11_isDigit (nI y) = some (b2 (isDg y)) := by decide +kernel
theorem bm_B : ∀ y, y < 256 → (nI y = 9 ↔ y = 9) ∧ (nI y = 10 ↔ y = 10) ∧ (nI y = 13 ↔ y = 13) ∧ (nI y = 32 ↔ y = 32) := by decide +kernel
theorem isBk_i {y : Nat} : isBk y = true ↔ y = 9 ∨ y = 10 ∨ y = 13 ∨ y = 32 := by
  unfold isBk
  simp only [Bool.or_eq_true, decide_eq_true_iff]
theorem isLt_i {y : Nat} : isLt y = true ↔ 97 ≤ y ∧ y ≤ 122 := by
  unfold isLt; simp only [Bool.and_eq_true, decide_eq_true_iff]
theorem isDg_i {y : Nat} : isDg y = true ↔ 48 ≤ y ∧ y ≤ 57 := by
  unfold isDg; simp only [Bool.and_eq_true, decide_eq_true_iff]
/-- how many from i on, of d, are so -/
def rl (p : Nat → Bool) (y : Nat → Nat) : Nat → Nat → Nat
  | 0, _ => 0
  | d + 1, i => if p (y i) then rl p y d (i + 1) + 1 else 0
theorem rl_y {p : Nat → Bool} {y : Nat → Nat} {d i : Nat} (h : p (y i) = true) : rl p y (d + 1) i = rl p y d (i + 1) + 1 := if_pos h
theorem rl_n {p : Nat → Bool} {y : Nat → Nat} {d i : Nat} (h : p (y i) = false) : rl p y d i = 0 := by
  cases d with
  | zero => rfl
  | succ d => exact if_neg (by rw [h]; decide)
theorem rl_le {p : Nat → Bool} {y : Nat → Nat} : ∀ d i, rl p y d i ≤ d
  | 0, _ => Nat.le_refl _
  | d + 1, i => by
    have := rl_le (p := p) (y := y) d (i + 1)
    unfold rl; split <;> omega
theorem rl_in {p : Nat → Bool} {y : Nat → Nat} : ∀ d i j, j < rl p y d i → p (y (i + j)) = true
  | 0, _, _, h => by cases h
  | d + 1, i, j, h => by
    cases hp : p (y i) with
    | false => rw [rl_n hp] at h; cases h
    | true =>
      rw [rl_y hp] at h
      cases j with
      | zero => exact hp
      | succ j =>
        have := rl_in (p := p) (y := y) d (i + 1) j (by omega)
        rw [show i + 1 + j = i + (j + 1) by omega] at this
        exact this
theorem rl_out {p : Nat → Bool} {y : Nat → Nat} : ∀ d i, rl p y d i < d → p (y (i + rl p y d i)) = false
  | 0, _, h => by cases h
  | d + 1, i, h => by
    cases hp : p (y i) with
    | false => rw [rl_n hp]; exact hp
    | true =>
      rw [rl_y hp] at h ⊢
      have := rl_out (p := p) (y := y) d (i + 1) (by omega)
      rw [show i + 1 + rl p y d (i + 1) = i + (rl p y d (i + 1) + 1) by omega] at this
      exact this
def sk (y : Nat → Nat) (n i : Nat) : Nat := i + rl isBk y (n - i) i
theorem sk_le {y : Nat → Nat} {n i : Nat} (h : i ≤ n) : sk y n i ≤ n := by
  have := rl_le (p := isBk) (y := y) (n - i) i
  unfold sk; omega
theorem sk_ge {y : Nat → Nat} {n i : Nat} : i ≤ sk y n i := by unfold sk; omega
theorem sk_y {y : Nat → Nat} {n i : Nat} (h : i < n) (hb : isBk (y i) = true) : sk y n i = sk y n (i + 1) := by
  unfold sk
  rw [show n - i = (n - (i + 1)) + 1 by omega, rl_y hb]; omega
theorem sk_n {y : Nat → Nat} {n i : Nat} (hb : isBk (y i) = false) : sk y n i = i := by unfold sk; rw [rl_n hb]; omega
theorem sk_e {y : Nat → Nat} {n : Nat} : sk y n n = n := by unfold sk; rw [Nat.sub_self]; rfl
theorem sk_out {y : Nat → Nat} {n i : Nat} (h : sk y n i < n) : isBk (y (sk y n i)) = false := by
  unfold sk at h ⊢
  exact rl_out _ _ (by omega)
def tl (y : Nat → Nat) (n i : Nat) : Nat := if isLt (y i) then rl isLt y (n - i) i else if isDg (y i) then rl isDg y (n - i) i else 1
theorem tl_b {y : Nat → Nat} {n i : Nat} (h : i < n) : 1 ≤ tl y n i ∧ i + tl y n i ≤ n := by
  unfold tl
  have h1 := rl_le (p := isLt) (y := y) (n - i) i
  have h2 := rl_le (p := isDg) (y := y) (n - i) i
  split
  · rename_i hp
    rw [show n - i = (n - (i + 1)) + 1 by omega, rl_y hp] at h1 ⊢
    omega
  · split
    · rename_i hp
      rw [show n - i = (n - (i + 1)) + 1 by omega, rl_y hp] at h2 ⊢
      omega
    · omega
/-- where the k-th token stands -/
def ps (y : Nat → Nat) (n : Nat) : Nat → Nat
  | 0 => sk y n 0
  | k + 1 => if ps y n k < n then sk y n (ps y n k + tl y n (ps y n k)) else ps y n k
theorem ps_le {y : Nat → Nat} {n : Nat} : ∀ k, ps y n k ≤ n
  | 0 => sk_le (Nat.zero_le _)
  | k + 1 => by
    unfold ps
    split
    · rename_i h
      exact sk_le (tl_b h).2
    · exact ps_le k
theorem ps_s {y : Nat → Nat} {n k : Nat} (h : ps y n k < n) : ps y n (k + 1) = sk y n (ps y n k + tl y n (ps y n k)) := if_pos h
theorem ps_lt {y : Nat → Nat} {n k : Nat} (h : ps y n k < n) : ps y n k < ps y n (k + 1) := by
  rw [ps_s h]
  have h1 := (tl_b (y := y) h).1
  have h2 := sk_ge (y := y) (n := n) (i := ps y n k + tl y n (ps y n k))
  omega
theorem ps_mono1 {y : Nat → Nat} {n k : Nat} : ps y n k ≤ ps y n (k + 1) := by
  by_cases h : ps y n k < n
  · exact Nat.le_of_lt (ps_lt h)
  · exact Nat.le_of_eq (if_neg h).symm
theorem ps_mono {y : Nat → Nat} {n k : Nat} : ∀ d, ps y n k ≤ ps y n (k + d)
  | 0 => Nat.le_refl _
  | d + 1 => Nat.le_trans (ps_mono d) ps_mono1
theorem ps_bk {y : Nat → Nat} {n : Nat} : ∀ k, ps y n k < n → isBk (y (ps y n k)) = false
  | 0, h => sk_out h
  | k + 1, h => by
    by_cases hk : ps y n k < n
    · rw [ps_s hk] at h ⊢; exact sk_out h
    · have := Nat.lt_of_le_of_lt (ps_mono1 (y := y) (n := n) (k := k)) h
      exact absurd this hk
def wd (y : Nat → Nat) (i : Nat) : Nat → List Nat
  | 0 => []
  | j + 1 => wd y i j ++ [y (i + j) - 96]
def dv (y : Nat → Nat) (i : Nat) : Nat → Nat
  | 0 => 0
  | j + 1 => 10 * dv y i j + (y (i + j) - 48)
def wk (w : List Nat) : Nat := match (List.range 26).find? (fun i => decide (WORD.getD (mword i) [] = w)) with
  | some i => 20 + i
  | none => 1
def kd (y : Nat → Nat) (n i : Nat) : Nat := if isLt (y i) then (if tl y n i ≤ 8 then wk (wd y i (tl y n i)) else 3) else if isDg (y i) then (if tl y n i ≤ 4 then 2 else 3) else sgk (y i)
def eN (y : Nat → Nat) (n : Nat) : Nat → Nat
  | 0 => 0
  | m + 1 => if ps y n m < n then m + 1 else eN y n m
theorem eN_ok {y : Nat → Nat} {n : Nat} : ∀ m, eN y n m ≤ m ∧ (∀ i, i < eN y n m → ps y n i < n) ∧ (eN y n m < m → ps y n (eN y n m) = n)
  | 0 => ⟨Nat.le_refl _, fun i h => (by cases h), fun h => (by cases h)⟩
  | m + 1 => by
    obtain ⟨h1, h2, h3⟩ := eN_ok (y := y) (n := n) m
    unfold eN
    split
    · rename_i h
      refine ⟨Nat.le_refl _, fun i hi => ?_, fun h => by omega⟩
      obtain ⟨d, rfl⟩ : ∃ d, m = i + d := ⟨m - i, by omega⟩
      exact Nat.lt_of_le_of_lt (ps_mono d) h
    · rename_i h
      refine ⟨by omega, h2, fun _ => ?_⟩
      by_cases e : eN y n m = m
      · rw [e]
        have := ps_le (y := y) (n := n) m
        omega
      · exact h3 (by omega)
/-! words as numbers -/
def vrw (b : Nat) : List Nat → Nat
  | [] => 0
  | x :: r => vrw b r * b + x
theorem vrw_inj {b : Nat} : ∀ (u v : List Nat), (∀ x ∈ u, 1 ≤ x ∧ x < b) → (∀ x ∈ v, 1 ≤ x ∧ x < b) → vrw b u = vrw b v → u = v
  | [], [], _, _, _ => rfl
  | [], x :: v, _, hv, h => by
    have := (hv x (List.mem_cons_self ..)).1
    simp only [vrw] at h
    omega
  | x :: u, [], hu, _, h => by
    have := (hu x (List.mem_cons_self ..)).1
    simp only [vrw] at h
    omega
  | x :: u, z :: v, hu, hv, h => by
    have h1 := hu x (List.mem_cons_self ..)
    have h2 := hv z (List.mem_cons_self ..)
    simp only [vrw] at h
    have e1 : x = z := by
      have := congrArg (· % b) h
      simp only [Nat.mul_comm _ b, Nat.mul_add_mod, Nat.mod_eq_of_lt h1.2, Nat.mod_eq_of_lt h2.2] at this
      exact this
    subst e1
    have e2 : vrw b u = vrw b v := Nat.eq_of_mul_eq_mul_right (show 0 < b by omega) (by omega)
    rw [vrw_inj u v (fun y hy => hu y (List.mem_cons_of_mem _ hy)) (fun y hy => hv y (List.mem_cons_of_mem _ hy)) e2]
theorem vrw_lt {b : Nat} : ∀ (u : List Nat), (∀ x ∈ u, x < b) → vrw b u < b ^ u.length
  | [], _ => by simp [vrw]
  | x :: u, h => by
    have h1 := h x (List.mem_cons_self ..)
    have h2 := vrw_lt u (fun y hy => h y (List.mem_cons_of_mem _ hy))
    simp only [vrw, List.length_cons, Nat.pow_succ]
    have : (vrw b u + 1) * b ≤ b ^ u.length * b := Nat.mul_le_mul_right b h2
    rw [Nat.add_mul] at this
    omega
theorem lN_hom (a b x : Nat) : lN a * lN b + lN x = lN (a * b + x) := by
  unfold lN
  rw [Int64.ofNat_add, Int64.ofNat_mul]
theorem wcode_snoc {b : Int64} {w : List Nat} {x : Nat} : wcode b (w ++ [x]) = wcode b w * b + lN x := by
  unfold wcode; rw [List.foldl_append]; rfl
theorem wcode_vr {b : Nat} : ∀ (u : List Nat), wcode (lN b) u.reverse = lN (vrw b u)
  | [] => rfl
  | x :: u => by rw [List.reverse_cons, wcode_snoc, wcode_vr u, lN_hom]; rfl
theorem lN_eq6 {a b : Nat} (ha : a < 2 ^ 63) (hb : b < 2 ^ 63) : lN a = lN b ↔ a = b := by
  constructor
  · intro h
    have := congrArg (fun z : Int64 => z.toBitVec.toNat) h
    rw [lN_nat (by omega), lN_nat (by omega)] at this
    exact this
  · intro h; rw [h]
def okW (w : List Nat) : Prop := w.length ≤ 8 ∧ ∀ x ∈ w, 1 ≤ x ∧ x ≤ 26
theorem wcode_inj {b : Nat} {u v : List Nat} (hb : 27 ≤ b) (hb2 : b ≤ 32) (hu : okW u) (hv : okW v) : wcode (lN b) u = wcode (lN b) v ↔ u = v := by
  constructor
  · intro h
    rw [← List.reverse_reverse u, ← List.reverse_reverse v, wcode_vr, wcode_vr] at h
    have lt : ∀ w : List Nat, okW w → vrw b w.reverse < 2 ^ 63 := fun w hw => by
      have h1 := vrw_lt (b := b) w.reverse (fun x hx => by have := (hw.2 x (List.mem_reverse.mp hx)).2; omega)
      have h2 : b ^ w.reverse.length ≤ b ^ 8 := Nat.pow_le_pow_right (by omega) (by rw [List.length_reverse]; exact hw.1)
      have h3 : b ^ 8 ≤ 32 ^ 8 := Nat.pow_le_pow_left hb2 8
      have h4 : (32 : Nat) ^ 8 < 2 ^ 63 := by decide
      omega
    have := (lN_eq6 (lt u hu) (lt v hv)).mp h
    have e := vrw_inj u.reverse v.reverse (fun x hx => by have := hu.2 x (List.mem_reverse.mp hx); omega) (fun x hx => by have := hv.2 x (List.mem_reverse.mp hx); omega) this
    exact List.reverse_inj.mp e
  · intro h; rw [h]
theorem WORD_ok : ∀ i, i < 26 → (WORD.getD i []).length ≤ 8 ∧ (∀ x ∈ WORD.getD i [], 1 ≤ x ∧ x ≤ 26) := by decide +kernel
theorem mword_lt : ∀ i, i < 26 → mword i < 26 := by decide +kernel
theorem wk_x : ∀ i, i < 26 → cN (wk (WORD.getD i [])) = 256 + i := by decide +kernel
theorem wk_m : ∀ i, i < 26 → wk (WORD.getD (mword i) []) = 20 + i := by decide +kernel
theorem wk_no {w : List Nat} (h : ∀ i, i < 26 → WORD.getD i [] ≠ w) : wk w = 1 := by
  unfold wk
  have : (List.range 26).find? (fun i => decide (WORD.getD (mword i) [] = w)) = none := by
    rw [List.find?_eq_none]
    intro i hi
    have hi2 := List.mem_range.mp hi
    simp only [decide_eq_true_eq]
    exact h _ (mword_lt i hi2)
  rw [this]
theorem wk_ok (w : List Nat) : okK (wk w) = true ∧ wk w ≠ 0 ∧ wk w ≠ 2 := by
  by_cases h : ∃ i, i < 26 ∧ WORD.getD i [] = w
  · obtain ⟨i, hi, rfl⟩ := h
    have : ∀ i, i < 26 → okK (wk (WORD.getD i [])) = true ∧ wk (WORD.getD i []) ≠ 0 ∧ wk (WORD.getD i []) ≠ 2 := by decide +kernel
    exact this i hi
  · rw [wk_no (fun i hi e => h ⟨i, hi, e⟩)]; decide
theorem sgk_ok (y : Nat) : okK (sgk y) = true ∧ sgk y ≠ 0 ∧ sgk y ≠ 1 ∧ sgk y ≠ 2 := by
  unfold sgk
  repeat' split
  all_goals decide
theorem kd_ok (y : Nat → Nat) (n i : Nat) : okK (kd y n i) = true ∧ kd y n i ≠ 0 := by
  unfold kd
  split
  · split
    · exact ⟨(wk_ok _).1, (wk_ok _).2.1⟩
    · decide
  · split
    · split <;> decide
    · exact ⟨(sgk_ok _).1, (sgk_ok _).2.1⟩
theorem wd_len {y : Nat → Nat} {i : Nat} : ∀ j, (wd y i j).length = j
  | 0 => rfl
  | j + 1 => by unfold wd; rw [List.length_append, wd_len j]; rfl
theorem wd_ok {y : Nat → Nat} {i : Nat} : ∀ j, (∀ k, k < j → isLt (y (i + k)) = true) → ∀ x ∈ wd y i j, 1 ≤ x ∧ x ≤ 26
  | 0, _, x, h => by cases h
  | j + 1, h, x, hx => by
    unfold wd at hx
    rcases List.mem_append.mp hx with hx | hx
    · exact wd_ok j (fun k hk => h k (by omega)) x hx
    · rw [List.mem_singleton.mp hx]
      have := isLt_i.mp (h j (by omega))
      omega
theorem dv_lt {y : Nat → Nat} {i : Nat} : ∀ j, (∀ k, k < j → isDg (y (i + k)) = true) → dv y i j < 10 ^ j
  | 0, _ => by simp [dv]
  | j + 1, h => by
    have h1 := dv_lt j (fun k hk => h k (by omega))
    have h2 := isDg_i.mp (h j (by omega))
    unfold dv
    rw [Nat.pow_succ]
    omega
