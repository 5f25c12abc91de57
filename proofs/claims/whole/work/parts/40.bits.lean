/-! HOW MANY BITS a long has. -/
def R8 (m : Nat) : Nat → Nat
  | 0 => 0
  | k + 1 => m + 256 * R8 m k
def dg (g : Nat → Nat) : Nat → Nat → Nat
  | 0, _ => 0
  | k + 1, n => g (n % 256) + 256 * dg g k (n / 256)
theorem lo_and {x y m j : Nat} (hm : m < 2 ^ j) (h : x % 2 ^ j = y % 2 ^ j) : x &&& m = y &&& m := by
  apply Nat.eq_of_testBit_eq
  intro i
  rw [Nat.testBit_and, Nat.testBit_and]
  by_cases hi : i < j
  · have := congrArg (fun z => z.testBit i) h
    simp only [Nat.testBit_mod_two_pow, hi, decide_true, Bool.true_and] at this
    rw [this]
  · rw [tb_lt hm (by omega)]; simp
theorem and_split {n m R : Nat} (hm : m < 256) : n &&& (m + 256 * R) = (n % 256 &&& m) + 256 * (n / 256 &&& R) := by
  have h2 : (n % 256 &&& m) < 2 ^ 8 := Nat.and_lt_two_pow _ hm
  apply Nat.eq_of_testBit_eq
  intro j
  rw [Nat.testBit_and, Nat.add_comm m, Nat.add_comm (_ &&& m), show (256 : Nat) = 2 ^ 8 from rfl, Nat.testBit_two_pow_mul_add _ hm, Nat.testBit_two_pow_mul_add _ h2]
  by_cases hj : j < 8
  · rw [if_pos hj, if_pos hj, Nat.testBit_and, show (256 : Nat) = 2 ^ 8 from rfl, Nat.testBit_mod_two_pow]; simp [hj]
  · rw [if_neg hj, if_neg hj, Nat.testBit_and, Nat.testBit_div_two_pow, show j - 8 + 8 = j by omega]
theorem dg_lt {g : Nat → Nat} (h : ∀ d, d < 256 → g d < 256) : ∀ k n, dg g k n < 256 ^ k
  | 0, n => by show 0 < 1; decide
  | k + 1, n => by
    have h1 := h (n % 256) (Nat.mod_lt _ (by decide))
    have h2 := dg_lt h k (n / 256)
    unfold dg
    rw [Nat.pow_succ]
    omega
theorem dg_dg {g h : Nat → Nat} (hg : ∀ d, d < 256 → g d < 256) : ∀ k n, dg h k (dg g k n) = dg (fun d => h (g d)) k n
  | 0, n => rfl
  | k + 1, n => by
    have h1 := hg (n % 256) (Nat.mod_lt _ (by decide))
    have ih := dg_dg (h := h) hg k (n / 256)
    show h ((g (n % 256) + 256 * dg g k (n / 256)) % 256) + 256 * dg h k ((g (n % 256) + 256 * dg g k (n / 256)) / 256) = h (g (n % 256)) + 256 * dg (fun d => h (g d)) k (n / 256)
    rw [show (g (n % 256) + 256 * dg g k (n / 256)) % 256 = g (n % 256) by omega, show (g (n % 256) + 256 * dg g k (n / 256)) / 256 = dg g k (n / 256) by omega, ih]
def g1 (d : Nat) : Nat := d - (d / 2 &&& 85)
def g2 (d : Nat) : Nat := (d &&& 51) + (d / 4 &&& 51)
def g3 (d : Nat) : Nat := (d + d / 16) % 16
theorem g1_le : ∀ d, d < 256 → (d / 2 &&& 85) ≤ d ∧ g1 d < 256 := by decide +kernel
theorem g2_le : ∀ d, d < 256 → g2 (g1 d) < 256 ∧ g2 (g1 d) % 16 ≤ 4 ∧ g2 (g1 d) / 16 ≤ 4 := by decide +kernel
theorem g_all : ∀ d, d < 256 → g3 (g2 (g1 d)) = fa_cnt (fun j => d.testBit j) 8 := by decide +kernel
theorem st1 : ∀ k n, n < 256 ^ k → (n / 2 &&& R8 85 k) ≤ n ∧ n - (n / 2 &&& R8 85 k) = dg g1 k n
  | 0, n, h => by
    have : n = 0 := by simpa using h
    subst this; exact ⟨Nat.le_refl _, rfl⟩
  | k + 1, n, h => by
    rw [Nat.pow_succ] at h
    obtain ⟨i1, i2⟩ := st1 k (n / 256) (by omega)
    have e : (n / 2 &&& R8 85 (k + 1)) = (n % 256 / 2 &&& 85) + 256 * (n / 256 / 2 &&& R8 85 k) := by
      show (n / 2 &&& (85 + 256 * R8 85 k)) = _
      rw [and_split (by decide), lo_and (x := n / 2 % 256) (y := n % 256 / 2) (m := 85) (j := 7) (by decide) (by omega), show n / 2 / 256 = n / 256 / 2 by omega]
    obtain ⟨a1, a2⟩ := g1_le (n % 256) (Nat.mod_lt _ (by decide))
    rw [e]
    refine ⟨by omega, ?_⟩
    show _ = g1 (n % 256) + 256 * dg g1 k (n / 256)
    rw [← i2]
    unfold g1
    omega
theorem st2 : ∀ k n, (n &&& R8 51 k) + (n / 4 &&& R8 51 k) = dg g2 k n
  | 0, n => by simp [R8, dg]
  | k + 1, n => by
    have i2 := st2 k (n / 256)
    have e : (n / 4 &&& R8 51 (k + 1)) = (n % 256 / 4 &&& 51) + 256 * (n / 256 / 4 &&& R8 51 k) := by
      show (n / 4 &&& (51 + 256 * R8 51 k)) = _
      rw [and_split (by decide), lo_and (x := n / 4 % 256) (y := n % 256 / 4) (m := 51) (j := 6) (by decide) (by omega), show n / 4 / 256 = n / 256 / 4 by omega]
    have e2 : (n &&& R8 51 (k + 1)) = (n % 256 &&& 51) + 256 * (n / 256 &&& R8 51 k) := and_split (by decide)
    rw [e, e2]
    show _ = g2 (n % 256) + 256 * dg g2 k (n / 256)
    rw [← i2]
    unfold g2
    omega
theorem dg_16 {g : Nat → Nat} (h : ∀ d, d < 256 → g d < 256 ∧ g d % 16 ≤ 4 ∧ g d / 16 ≤ 4) : ∀ k n, dg g k n % 16 ≤ 4
  | 0, n => by show 0 % 16 ≤ 4; decide
  | k + 1, n => by
    have := h (n % 256) (Nat.mod_lt _ (by decide))
    show (g (n % 256) + 256 * dg g k (n / 256)) % 16 ≤ 4
    omega
theorem st3 {g : Nat → Nat} (h : ∀ d, d < 256 → g d < 256 ∧ g d % 16 ≤ 4 ∧ g d / 16 ≤ 4) : ∀ k n, (dg g k n + dg g k n / 16 &&& R8 15 k) = dg (fun d => g3 (g d)) k n
  | 0, n => by simp [R8, dg]
  | k + 1, n => by
    have ih := st3 h k (n / 256)
    obtain ⟨h1, h2, h3⟩ := h (n % 256) (Nat.mod_lt _ (by decide))
    have h4 := dg_16 h k (n / 256)
    show (g (n % 256) + 256 * dg g k (n / 256) + (g (n % 256) + 256 * dg g k (n / 256)) / 16 &&& (15 + 256 * R8 15 k)) = g3 (g (n % 256)) + 256 * dg (fun d => g3 (g d)) k (n / 256)
    rw [and_split (by decide), ← ih]
    generalize g (n % 256) = a at h1 h2 h3
    generalize dg g k (n / 256) = x at h4
    rw [show (a + 256 * x + (a + 256 * x) / 16) / 256 = x + x / 16 by omega, show (15 : Nat) = 2 ^ 4 - 1 from rfl, Nat.and_two_pow_sub_one_eq_mod]
    unfold g3
    omega
def pB : Nat → Nat → Nat
  | 0, _ => 0
  | k + 1, n => fa_cnt (fun j => (n % 256).testBit j) 8 + pB k (n / 256)
theorem cnt_add (p : Nat → Bool) (a : Nat) : ∀ b, fa_cnt p (a + b) = fa_cnt p a + fa_cnt (fun j => p (a + j)) b
  | 0 => rfl
  | b + 1 => by
    show fa_cnt p (a + b) + (if p (a + b) then 1 else 0) = fa_cnt p a + (fa_cnt (fun j => p (a + j)) b + (if p (a + b) then 1 else 0))
    rw [cnt_add p a b]; omega
theorem pB_cnt : ∀ k n, pB k n = fa_cnt (fun j => n.testBit j) (8 * k)
  | 0, n => rfl
  | k + 1, n => by
    rw [show 8 * (k + 1) = 8 + 8 * k by omega, cnt_add]
    show fa_cnt (fun j => (n % 256).testBit j) 8 + pB k (n / 256) = _
    rw [pB_cnt k (n / 256), fa_cnt_cong (p := fun j => (n % 256).testBit j) (q := fun j => n.testBit j) (fun j hj => by
      show (n % 2 ^ 8).testBit j = _
      rw [Nat.testBit_mod_two_pow]; simp [hj]), fa_cnt_cong (p := fun j => (n / 256).testBit j) (q := fun j => n.testBit (8 + j)) (fun j hj => by
      show (n / 2 ^ 8).testBit j = _
      rw [Nat.testBit_div_two_pow, Nat.add_comm])]
theorem sum8 {g : Nat → Nat} (hg : ∀ d, d < 256 → g d = fa_cnt (fun j => d.testBit j) 8) {n x x4 x5 x6 : Nat} (hx : x = dg g 8 n) (h4 : x4 = x + x / 256) (h5 : x5 = x4 + x4 / 65536) (h6 : x6 = x5 + x5 / 4294967296) : x6 % 128 = pB 8 n ∧ x < 256 ^ 8 ∧ x4 < 2 ^ 64 ∧ x5 < 2 ^ 64 := by
  have e : ∀ m, g (m % 256) = fa_cnt (fun j => (m % 256).testBit j) 8 := fun m => hg _ (Nat.mod_lt _ (by decide))
  simp only [dg, e] at hx
  simp only [pB]
  have l := fun m => fa_cnt_le (fun j => (m % 256).testBit j) 8
  have l0 := l n
  have l1 := l (n / 256)
  have l2 := l (n / 256 / 256)
  have l3 := l (n / 256 / 256 / 256)
  have l4 := l (n / 256 / 256 / 256 / 256)
  have l5 := l (n / 256 / 256 / 256 / 256 / 256)
  have l6 := l (n / 256 / 256 / 256 / 256 / 256 / 256)
  have l7 := l (n / 256 / 256 / 256 / 256 / 256 / 256 / 256)
  clear l e hg
  generalize fa_cnt (fun j => (n % 256).testBit j) 8 = p0 at *
  generalize fa_cnt (fun j => (n / 256 % 256).testBit j) 8 = p1 at *
  generalize fa_cnt (fun j => (n / 256 / 256 % 256).testBit j) 8 = p2 at *
  generalize fa_cnt (fun j => (n / 256 / 256 / 256 % 256).testBit j) 8 = p3 at *
  generalize fa_cnt (fun j => (n / 256 / 256 / 256 / 256 % 256).testBit j) 8 = p4 at *
  generalize fa_cnt (fun j => (n / 256 / 256 / 256 / 256 / 256 % 256).testBit j) 8 = p5 at *
  generalize fa_cnt (fun j => (n / 256 / 256 / 256 / 256 / 256 / 256 % 256).testBit j) 8 = p6 at *
  generalize fa_cnt (fun j => (n / 256 / 256 / 256 / 256 / 256 / 256 / 256 % 256).testBit j) 8 = p7 at *
  have hx2 : x = p0 + 256 * p1 + 65536 * p2 + 16777216 * p3 + 4294967296 * p4 + 1099511627776 * p5 + 281474976710656 * p6 + 72057594037927936 * p7 := by omega
  have hx4 : x4 = (p0 + p1) + 256 * (p1 + p2) + 65536 * (p2 + p3) + 16777216 * (p3 + p4) + 4294967296 * (p4 + p5) + 1099511627776 * (p5 + p6) + 281474976710656 * (p6 + p7) + 72057594037927936 * p7 := by omega
  have hx5 : x5 = (p0 + p1 + p2 + p3) + 256 * (p1 + p2 + p3 + p4) + 65536 * (p2 + p3 + p4 + p5) + 16777216 * (p3 + p4 + p5 + p6) + 4294967296 * (p4 + p5 + p6 + p7) + 1099511627776 * (p5 + p6 + p7) + 281474976710656 * (p6 + p7) + 72057594037927936 * p7 := by omega
  have hx6 : ∃ y, x6 = (p0 + p1 + p2 + p3 + p4 + p5 + p6 + p7) + 256 * y := ⟨(p1 + p2 + p3 + p4 + p5 + p6 + p7) + 256 * (p2 + p3 + p4 + p5 + p6 + p7) + 65536 * (p3 + p4 + p5 + p6 + p7) + 16777216 * (p4 + p5 + p6 + p7) + 4294967296 * (p5 + p6 + p7) + 1099511627776 * (p6 + p7) + 281474976710656 * p7, by omega⟩
  obtain ⟨y, hy⟩ := hx6
  refine ⟨by omega, ?_, by omega, by omega⟩
  show x < 18446744073709551616
  omega
theorem lr {n k : Nat} (h : n < 2 ^ 64) (hk : k < 64) : lush (lN n) (nI k) = lN (n / 2 ^ k) := wb_shr h hk
theorem r85 : R8 85 8 = 6148914691236517205 := by decide +kernel
theorem r51 : R8 51 8 = 3689348814741910323 := by decide +kernel
theorem r15 : R8 15 8 = 1085102592571150095 := by decide +kernel
theorem lbc {n : Nat} (h : n < 2 ^ 64) : fJ13_bitCount_95d88 (lN n) = some (nI (fa_cnt (fun j => n.testBit j) 64)) := by
  obtain ⟨a1, a2⟩ := st1 8 n h
  have l1 : dg g1 8 n < 2 ^ 64 := dg_lt (fun d hd => (g1_le d hd).2) 8 n
  have b1 := st2 8 (dg g1 8 n)
  rw [dg_dg (fun d hd => (g1_le d hd).2)] at b1
  have w2 : ∀ d, d < 256 → g2 (g1 d) < 256 ∧ g2 (g1 d) % 16 ≤ 4 ∧ g2 (g1 d) / 16 ≤ 4 := g2_le
  have l2 : dg (fun d => g2 (g1 d)) 8 n < 2 ^ 64 := dg_lt (fun d hd => (w2 d hd).1) 8 n
  have c1 := st3 (g := fun d => g2 (g1 d)) w2 8 n
  obtain ⟨s1, s2, s3, s4⟩ := sum8 (g := fun d => g3 (g2 (g1 d))) g_all (n := n) rfl rfl rfl rfl
  rw [pB_cnt] at s1
  generalize hx1 : dg g1 8 n = x1 at *
  generalize hx2 : dg (fun d => g2 (g1 d)) 8 n = x2 at *
  generalize hx3 : dg (fun d => g3 (g2 (g1 d))) 8 n = x3 at *
  have l3 : x3 < 2 ^ 64 := s2
  unfold fJ13_bitCount_95d88
  rw [show (6148914691236517205 : Int64) = lN (R8 85 8) by rw [r85]; rfl, show (3689348814741910323 : Int64) = lN (R8 51 8) by rw [r51]; rfl, show (1085102592571150095 : Int64) = lN (R8 15 8) by rw [r15]; rfl]
  have q1 : lN n - (lush (lN n) 1 &&& lN (R8 85 8)) = lN x1 := by
    rw [show (1 : Int32) = nI 1 from rfl, lr h (by decide), wb_and (by omega) (by rw [r85]; decide), lN_sub a1, a2]
  have q2 : (lN x1 &&& lN (R8 51 8)) + (lush (lN x1) 2 &&& lN (R8 51 8)) = lN x2 := by
    rw [show (2 : Int32) = nI 2 from rfl, lr l1 (by decide), wb_and l1 (by rw [r51]; decide), wb_and (by omega) (by rw [r51]; decide), lN_add, ← b1]
  have q3 : ((lN x2 + lush (lN x2) 4) &&& lN (R8 15 8)) = lN x3 := by
    have hb : x2 + x2 / 2 ^ 4 < 2 ^ 64 ∨ 2 ^ 64 ≤ x2 + x2 / 2 ^ 4 := by omega
    rw [show (4 : Int32) = nI 4 from rfl, lr l2 (by decide), lN_add]
    rw [wb_mod (x2 + x2 / 2 ^ 4), wb_and (Nat.mod_lt _ (by decide)) (by rw [r15]; decide), ← c1]
    congr 1
    exact lo_and (j := 64) (by rw [r15]; decide) (Nat.mod_mod _ _)
  unfold bd
  rw [q1]
  try dsimp only
  rw [q2]
  try dsimp only
  rw [q3]
  try dsimp only
  rw [show (8 : Int32) = nI 8 from rfl, lr l3 (by decide), lN_add]
  try dsimp only
  rw [show (16 : Int32) = nI 16 from rfl, lr s3 (by decide), lN_add]
  try dsimp only
  rw [show (32 : Int32) = nI 32 from rfl, lr s4 (by decide), lN_add]
  try dsimp only
  rw [lN_i, show (127 : Int32) = nI (2 ^ 7 - 1) from rfl, fa_mask]
  have s1' : (x3 + x3 / 256 + (x3 + x3 / 256) / 65536 + (x3 + x3 / 256 + (x3 + x3 / 256) / 65536) / 4294967296) % 2 ^ 7 = fa_cnt (fun j => n.testBit j) 64 := s1
  rw [show (2 : Nat) ^ 8 = 256 from rfl, show (2 : Nat) ^ 16 = 65536 from rfl, show (2 : Nat) ^ 32 = 4294967296 from rfl, s1']
