/-! EXPRESSIONS: class and reference side by side. -/
def XLw (w : Nat) (P : List Int32) (G : Hp) : Prop := isL w ∧ G.2.2 1 10 = some w ∧ G.1 w 1 = nI P.length ∧ ∀ i, i < P.length → G.1 (w + 1) i = P.getD i 0
theorem isL_b {w : Nat} (h : isL w) : 20 ≤ w ∧ w ≤ 49 := by
  rcases h with h | h | h | h | h | h <;> omega
/-- what an expression may change in the class -/
def ELw (w : Nat) (G G2 : Hp) : Prop := G2.2 = G.2 ∧ ∀ q j, ¬ (q = 1 ∧ j ≤ 6) → ¬ (q = w ∧ j = 1) → q ≠ w + 1 → G2.1 q j = G.1 q j
theorem ELw.rf {w : Nat} {G : Hp} : ELw w G G := ⟨rfl, fun _ _ _ _ _ => rfl⟩
theorem ELw.tr {w : Nat} {G G2 G3 : Hp} (h : ELw w G G2) (h2 : ELw w G2 G3) : ELw w G G3 := ⟨h2.1.trans h.1, fun q j x y z => (h2.2 q j x y z).trans (h.2 q j x y z)⟩
theorem Er1.el {w : Nat} {G G2 : Hp} (h : Er1 6 G G2) : ELw w G G2 := ⟨h.1, fun q j x _ _ => h.2 q j x⟩
theorem XLw.E1 {w : Nat} {P : List Int32} {G G2 : Hp} (h : XLw w P G) (e : Er1 6 G G2) : XLw w P G2 := by
  obtain ⟨h1, h2, h3, h4⟩ := h
  have hb := isL_b h1
  refine ⟨h1, by rw [e.1]; exact h2, (e.2 w 1 (by omega)).trans h3, fun i hi => (e.2 (w + 1) i (by omega)).trans (h4 i hi)⟩
theorem xLaw {t w : Nat} {P : List Int32} {G : Hp} (h : XLw w P G) (hx : LX t G) : ldO SHX G 1 10 4 = some w := by
  refine ldO_of h.2.1 ?_
  rcases h.1 with rfl | rfl | rfl | rfl | rfl | rfl <;> decide +kernel
theorem xAdd {t w : Nat} {P : List Int32} {u : Int32} {G : Hp} (hx : LX t G) (h : XLw w P G) (hP : P.length < 400) : ∃ G2, fX4_addStep SHX G w u = some G2 ∧ XLw w (P ++ [u]) G2 ∧ ELw w G G2 ∧ ∀ q j, ¬ (q = w ∧ j = 1) → q ≠ w + 1 → G2.1 q j = G.1 q j := by
  obtain ⟨h1, h2, h3, h4⟩ := h
  have hb := isL_b h1
  unfold fX4_addStep
  rw [xw_0 h1 hx]
  simp only [ob]
  rw [xwn_0 h1, h3, if_neg (nI_ge hP (by omega)), asI_n (by rw [xwn_0 h1]; exact hP) (by omega)]
  simp only [ob, obd]
  rw [sI_ne (by omega), h3, nI_1]
  have fr : ∀ q j, ¬ (q = w ∧ j = 1) → q ≠ w + 1 → (sI (sI G (w + 1) P.length u) w 1 (nI (P.length + 1))).1 q j = G.1 q j := fun q j a b => by rw [sI_ne (by omega), sI_ne (by omega)]
  refine ⟨_, rfl, ⟨h1, h2, by rw [sI_same, List.length_append]; rfl, fun i hi => ?_⟩, ⟨rfl, fun q j _ a b => fr q j a b⟩, fr⟩
  rw [List.length_append] at hi
  have hi2 : i < P.length + 1 := hi
  rw [sI_ne (by omega)]
  by_cases e : i = P.length
  · rw [e, sI_same, getDi_snoc]
  · rw [sI_ne (Or.inr e), getDi_pre (by omega)]; exact h4 i (by omega)
/-- a code that leaves one value more, with room m -/
def grw (U : List Int32) (m : Nat) : Prop := ∀ d rest, d + m ≤ 16 → okP rest (d + 1) → okP (U ++ rest) d
theorem grw.up {U : List Int32} {m m2 : Nat} (h : grw U m) (hm : m ≤ m2) : grw U m2 := fun d rest h1 h2 => h d rest (by omega) h2
theorem grw_op {U V : List Int32} {m x : Nat} (hU : grw U (m + 1)) (hV : grw V m) (hx : isOp x) : grw (U ++ (V ++ [oc x])) (m + 1) := fun d rest h1 h2 => by
  rw [List.append_assoc]
  refine hU d _ (by omega) ?_
  rw [List.append_assoc]
  refine hV (d + 1) _ (by omega) ?_
  show (if 0 ≤ oc x then _ else if (-11) < oc x then _ else (-15) < oc x ∧ 2 ≤ d + 1 + 1 ∧ okP rest (d + 1 + 1 - 1))
  have ho : ¬ 0 ≤ oc x ∧ ¬ (-11) < oc x ∧ (-15) < oc x := by rcases hx with rfl | rfl | rfl | rfl <;> decide
  rw [if_neg ho.1, if_neg ho.2.1]
  exact ⟨ho.2.2, by omega, h2⟩
theorem var_ok : ∀ j, j < 9 → ¬ (0 : Int32) ≤ (-1) - nI j ∧ (-11 : Int32) < (-1) - nI j ∧ (-10 : Int32) < (-1) - nI j := by decide +kernel
theorem grw_u {D : TKd} {p : Nat} (hD : TKo D) (h : unitK D p) : grw [ucode D p] 1 := fun d rest h1 h2 => by
  show (if 0 ≤ ucode D p then d + 1 ≤ 16 ∧ okP rest (d + 1) else if (-11) < ucode D p then (-10) < ucode D p ∧ d + 1 ≤ 16 ∧ okP rest (d + 1) else _)
  unfold ucode
  by_cases e : D.1 p = 2
  · have hv := hD.2.2.2.2.2.2.1 p e
    rw [if_pos e, if_pos (nI_pos' (by omega))]
    exact ⟨by omega, h2⟩
  · rcases h with h | h
    · exact absurd h e
    · rw [if_neg e]
      have hv := var_ok (D.1 p - 37) (by omega)
      have v1 := hv.1
      have v2 := hv.2.1
      have v3 := hv.2.2
      rw [if_neg v1, if_pos v2]
      exact ⟨v3, by omega, h2⟩
/-- both fail alike -/
def JF (t l w c0 : Nat) (D : TKd) (p : Nat) (Gx Gm : Hp) (o : Option (Int32 × Hp)) : Prop := ∃ Gx2 f i r, o = some (0, Gx2) ∧ XF t D f i Gx2 ∧ ELw w Gx Gx2 ∧ MF l D f i r ∧ EE c0 Gm r ∧ RA p Gm r
def JSp (t l w c0 k : Nat) (D : TKd) (N : Nat × Nat) (P0 : List Int32) (rc : Hp → Nat → Int32 → Int32 → Option (Int32 × Hp)) : Prop :=
  ∀ p S P Gx Gm, XP t D p N Gx → XLw w (P0 ++ P) Gx → CE l D p N c0 k (6 :: S) P Gm → S.length + 1 ≤ 3 * k → P0.length + P.length + S.length + 3 ≤ p → JF t l w c0 D p Gx Gm (rc Gx 1 (nI k) 41) ∨ ∃ Gx2 p2 U Gm2, rc Gx 1 (nI k) 41 = some (1, Gx2) ∧ p < p2 ∧ XP t D p2 N Gx2 ∧ XLw w (P0 ++ (P ++ U)) Gx2 ∧ ELw w Gx Gx2 ∧ CE l D p2 N c0 (k - 1) S (P ++ U) Gm2 ∧ EE c0 Gm Gm2 ∧ grw U (15 - 2 * k) ∧ P0.length + (P ++ U).length + S.length + 2 ≤ p2 ∧ ∀ r, RB p2 Gm2 r → RA p Gm r
theorem ck_var : ∀ k, k < 46 → okK k = true → (273 ≤ cN k ↔ 37 ≤ k) := by decide +kernel
theorem ck_varv : ∀ j, j < 9 → ((-1 : Int32)) - (ck (37 + j) - 273) = (-1) - nI j := by decide +kernel
section JJ
variable {t l w c0 k p : Nat} {D : TKd} {N : Nat × Nat} {P0 : List Int32} {rc : Hp → Nat → Int32 → Int32 → Option (Int32 × Hp)}
theorem XP.add {G G2 : Hp} (h : XP t D p N G) (hw : isL w) (e2 : G2.2 = G.2) (e : ∀ q j, ¬ (q = w ∧ j = 1) → q ≠ w + 1 → G2.1 q j = G.1 q j) : XP t D p N G2 := by
  obtain ⟨h1, h2, h3, h4, h5, h6, h7⟩ := h
  have hb := isL_b hw
  exact ⟨h1.same (by rw [e2]), h2.E (fun q j hq => e q j (by omega) (by omega)) (by rw [e2]), h3, (e 1 6 (by omega) (by omega)).trans h4, (e 1 5 (by omega) (by omega)).trans h5, (e 1 3 (by omega) (by omega)).trans h6, fun z => (e 1 4 (by omega) (by omega)).trans (h7 z)⟩
theorem jUnit (hD : TKo D) (hl : l ≤ 1) (hk : k ≤ 6) (IH : k < 6 → JSp t l w c0 (k + 1) D N P0 rc) {S : List Nat} {P : List Int32} {Gx Gm : Hp} (hX : XP t D p N Gx) (hW : XLw w (P0 ++ P) Gx) (hC : CE l D p N c0 k S P Gm) (hS : S.length ≤ 3 * k + 2) (hb : P0.length + P.length + S.length + 2 ≤ p) :
    JF t l w c0 D p Gx Gm (fX6_readUnit SHX rc Gx 1 (nI k)) ∨ ∃ Gx2 p2 U Gm2, fX6_readUnit SHX rc Gx 1 (nI k) = some (1, Gx2) ∧ p < p2 ∧ XP t D p2 N Gx2 ∧ XLw w (P0 ++ (P ++ U)) Gx2 ∧ ELw w Gx Gx2 ∧ CE l D p2 N c0 k S (P ++ U) Gm2 ∧ EE c0 Gm Gm2 ∧ grw U (13 - 2 * k) ∧ P0.length + (P ++ U).length + S.length + 2 ≤ p2 ∧ ∀ r, RB p2 Gm2 r → RA p Gm r := by
  have h3 := hX.2.2.1
  have h46 := okK_lt hD p
  have hwl := hW.1
  unfold fX6_readUnit
  rw [hX.2.2.2.2.1]
  by_cases e6 : D.1 p = 6
  · rw [if_pos (show ck (D.1 p) = 40 by rw [e6]; rfl)]
    by_cases hk6 : k < 6
    · rw [if_pos (show nI k < 6 from nI_lt (b := 6) hk6 (by decide))]
      by_cases hp : p < 400
      · obtain ⟨G2, a1, a2, a3⟩ := xPass_y (k := 6) (w := 40) hD hX rfl e6 (by decide) hp
        obtain ⟨M2, b1, b2', b3⟩ := RA_open hD hC (by omega) e6 hp hk6
        rw [a1]
        simp only [obp]
        rw [if_neg one_ne, nI_1]
        rcases IH hk6 (p + 1) S P G2 M2 a3 (hW.E1 a2) b2' (by omega) (by omega) with ⟨Gx2, f, i, r, c1, c2, c3, c4, c5, c6⟩ | ⟨Gx2, p2, U, Gm2, c1, c2, c3, c4, c5, c6, c7, c8, c9, c10⟩
        · left
          rw [c1]
          exact ⟨Gx2, f, i, r, rfl, c2, a2.el.tr c3, c4, b1.tr c5, b3 r c6⟩
        · right
          rw [c1]
          simp only [obp]
          rw [if_neg one_ne]
          refine ⟨Gx2, p2, U, Gm2, rfl, by omega, c3, c4, a2.el.tr c5, c6, b1.tr c7, c8.up (by omega), c9, fun r hr => b3 r (c10 r hr)⟩
      · obtain ⟨G2, a1, a2, a3⟩ := xPass_n (k := 6) (w := 40) hD hX rfl (by decide) (fun z => hp z.2)
        obtain ⟨r, b1, b2', b3⟩ := RA_open_f hD hC (by omega) e6 hk (fun z => hp z.1)
        left
        rw [a1]
        simp only [obp]
        rw [if_pos trivial]
        rw [if_pos e6] at a3
        exact ⟨G2, 2, p, r, rfl, a3, a2.el, b2', b1, b3⟩
    · rw [if_neg (show ¬ nI k < 6 from nI_nlt (b := 6) (by omega) (by omega))]
      obtain ⟨G2, a1, a2, a3⟩ := xRefuse (f := 2) hX
      obtain ⟨r, b1, b2', b3⟩ := RA_open_f hD hC (by omega) e6 hk (fun z => hk6 z.2)
      left
      rw [show (2 : Int32) = nI 2 from rfl, q01 a1 (Or.inl rfl)]
      exact ⟨G2, 2, p, r, rfl, a3, a2.el, b2', b1, b3⟩
  · rw [if_neg (show ¬ ck (D.1 p) = 40 from fun z => e6 ((ck_eq (b := 6) (hD.2.1 p) (by decide)).mp z))]
    have hP400 : (P0 ++ P).length < 400 := by rw [List.length_append]; omega
    by_cases e2 : D.1 p = 2
    · have hv := hD.2.2.2.2.2.2.1 p e2
      have hu : unitK D p := Or.inl e2
      have huc : ucode D p = nI (D.2.2.1 p) := if_pos e2
      rw [if_pos (show ck (D.1 p) = 2 by rw [e2]; rfl), xLaw hW hX.1]
      simp only [ob]
      rw [xVal hX, (hX.2.1 p h3.1 h3.2.1).2.2.1 e2]
      simp only [ob]
      rw [toI_lN (by omega), ← huc]
      obtain ⟨G16, s1, s2, s3, s4⟩ := xAdd (u := ucode D p) hX.1 hW hP400
      rw [s1]
      simp only [ob]
      have hX16 := hX.add hwl s3.1 s4
      by_cases hp : p < 400
      · obtain ⟨G2, a1, a2, a3⟩ := xPass_y (k := 2) (w := 2) hD hX16 rfl e2 (by decide) hp
        obtain ⟨M2, b1, b2', b3⟩ := RA_unit hD hC hu hp hl
        right
        rw [q01 a1 (Or.inr rfl)]
        refine ⟨G2, p + 1, [ucode D p], M2, rfl, by omega, a3, ?_, s3.tr a2.el, b2', b1, (grw_u hD hu).up (by omega), by rw [List.length_append]; show P0.length + (P.length + 1) + S.length + 2 ≤ p + 1; omega, b3⟩
        rw [← List.append_assoc]; exact s2.E1 a2
      · obtain ⟨G2, a1, a2, a3⟩ := xPass_n (k := 2) (w := 2) hD hX16 rfl (by decide) (fun z => hp z.2)
        obtain ⟨r, f, b1, b2', b3, b4⟩ := RA_unit_f hD hC e6 hl (fun z => hp z.2)
        left
        rw [q01 a1 (Or.inl rfl)]
        rw [if_pos e2] at a3
        rcases b4 with ⟨rfl, -⟩ | ⟨-, q⟩
        · exact ⟨G2, 2, p, r, rfl, a3, s3.tr a2.el, b2', b1, b3⟩
        · exact absurd hu q
    · rw [if_neg (show ¬ ck (D.1 p) = 2 from fun z => e2 ((ck_eq (b := 2) (hD.2.1 p) (by decide)).mp z))]
      have hvk := ck_var (D.1 p) h46 (hD.2.1 p)
      by_cases ev : 37 ≤ D.1 p
      · have hu : unitK D p := Or.inr ⟨ev, by omega⟩
        rw [if_pos (show (273 : Int32) ≤ ck (D.1 p) from nI_le (a := 273) (hvk.mpr ev) (by have := cN_300 _ h46; omega)), xLaw hW hX.1]
        simp only [ob]
        have huc : ((-1 : Int32)) - (ck (D.1 p) - 273) = ucode D p := by
          unfold ucode
          rw [if_neg e2]
          have := ck_varv (D.1 p - 37) (by omega)
          rw [show 37 + (D.1 p - 37) = D.1 p by omega] at this
          exact this
        rw [huc]
        obtain ⟨G16, s1, s2, s3, s4⟩ := xAdd (u := ucode D p) hX.1 hW hP400
        rw [s1]
        simp only [ob]
        have hX16 := hX.add hwl s3.1 s4
        rw [hX16.2.2.2.2.1]
        by_cases hp : p < 400
        · obtain ⟨G2, a1, a2, a3⟩ := xPass_y (k := D.1 p) (w := ck (D.1 p)) hD hX16 rfl rfl (by omega) hp
          obtain ⟨M2, b1, b2', b3⟩ := RA_unit hD hC hu hp hl
          right
          rw [q01 a1 (Or.inr rfl)]
          refine ⟨G2, p + 1, [ucode D p], M2, rfl, by omega, a3, ?_, s3.tr a2.el, b2', b1, (grw_u hD hu).up (by omega), by rw [List.length_append]; show P0.length + (P.length + 1) + S.length + 2 ≤ p + 1; omega, b3⟩
          rw [← List.append_assoc]; exact s2.E1 a2
        · obtain ⟨G2, a1, a2, a3⟩ := xPass_n (k := D.1 p) (w := ck (D.1 p)) hD hX16 rfl (hD.2.1 p) (fun z => hp z.2)
          obtain ⟨r, f, b1, b2', b3, b4⟩ := RA_unit_f hD hC e6 hl (fun z => hp z.2)
          left
          rw [q01 a1 (Or.inl rfl)]
          rw [if_pos rfl] at a3
          rcases b4 with ⟨rfl, -⟩ | ⟨-, q⟩
          · exact ⟨G2, 2, p, r, rfl, a3, s3.tr a2.el, b2', b1, b3⟩
          · exact absurd hu q
      · have hu : ¬ unitK D p := fun z => by rcases z with z | z <;> omega
        rw [if_neg (show ¬ (273 : Int32) ≤ ck (D.1 p) from nI_ge (b := 273) (by have := fun z => ev (hvk.mp z); omega) (by decide))]
        obtain ⟨G2, a1, a2, a3⟩ := xRefuse (f := 1) hX
        obtain ⟨r, f, b1, b2', b3, b4⟩ := RA_unit_f hD hC e6 hl (fun z => hu z.1)
        left
        have a1' : fX6_refuse SHX Gx 1 1 = some (0, G2) := a1
        rw [q01 a1' (Or.inl rfl)]
        rcases b4 with ⟨-, q⟩ | ⟨rfl, -⟩
        · exact absurd q hu
        · exact ⟨G2, 1, p, r, rfl, a3, a2.el, b2', b1, b3⟩
end JJ
