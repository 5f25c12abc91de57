/-! EXPRESSIONS: products and sums, side by side. -/
section JK
variable {t l w c0 k p : Nat} {D : TKd} {N : Nat × Nat} {P0 : List Int32} {rc : Hp → Nat → Int32 → Int32 → Option (Int32 × Hp)}
theorem jProd (hD : TKo D) (hl : l ≤ 1) (hk : k ≤ 6) (IH : k < 6 → JSp t l w c0 (k + 1) D N P0 rc) {S : List Nat} {P : List Int32} {Gx Gm : Hp} (hX : XP t D p N Gx) (hW : XLw w (P0 ++ P) Gx) (hC : CE l D p N c0 k S P Gm) (hst : stays true S) (hS : S.length ≤ 3 * k + 1) (hb : P0.length + P.length + S.length + 2 ≤ p) :
    JF t l w c0 D p Gx Gm (fX6_readProduct SHX rc Gx 1 (nI k)) ∨ ∃ Gx2 p2 U X C2 Gm2, fX6_readProduct SHX rc Gx 1 (nI k) = some (1, Gx2) ∧ p < p2 ∧ XP t D p2 N Gx2 ∧ XLw w (P0 ++ (P ++ U)) Gx2 ∧ ELw w Gx Gx2 ∧ CE l D p2 N c0 k (X ++ S) C2 Gm2 ∧ C2 ++ X.map oc = P ++ U ∧ (∀ x ∈ X, popS true x) ∧ X.length ≤ 1 ∧ ¬ (D.1 p2 = 10 ∨ D.1 p2 = 15) ∧ EE c0 Gm Gm2 ∧ grw U (14 - 2 * k) ∧ P0.length + C2.length + (X.length + S.length) + 2 ≤ p2 ∧ ∀ r, RB p2 Gm2 r → RA p Gm r := by
  unfold fX6_readProduct
  rcases jUnit hD hl hk IH hX hW hC (by omega) hb with ⟨Gx2, f, i, r, c1, c2, c3, c4, c5, c6⟩ | ⟨Gx2, p2, U, Gm2, c1, c2, c3, c4, c5, c6, c7, c8, c9, c10⟩
  · left
    rw [c1]
    exact ⟨Gx2, f, i, r, rfl, c2, c3, c4, c5, c6⟩
  · rw [c1]
    simp only [obp]
    rw [if_neg one_ne]
    obtain ⟨o, k1, k2⟩ := iter_go (f := fun s : Hp × Int32 => fX6_readProduct_S12 SHX rc 1 (nI k) s.1 s.2) (P := fun i s => s.2 = nI i ∧ ∃ p2 U X C2 Gm2, i < p2 ∧ p < p2 ∧ XP t D p2 N s.1 ∧ XLw w (P0 ++ (P ++ U)) s.1 ∧ ELw w Gx s.1 ∧ CE l D p2 N c0 k (X ++ S) C2 Gm2 ∧ C2 ++ X.map oc = P ++ U ∧ (∀ x ∈ X, popS true x) ∧ X.length ≤ 1 ∧ EE c0 Gm Gm2 ∧ grw U (14 - 2 * k) ∧ P0.length + C2.length + (X.length + S.length) + 2 ≤ p2 ∧ ∀ r, RB p2 Gm2 r → RA p Gm r) (Q := fun o => Sum.elim (fun G5 => ∃ p2 U X C2 Gm2, p < p2 ∧ XP t D p2 N G5 ∧ XLw w (P0 ++ (P ++ U)) G5 ∧ ELw w Gx G5 ∧ CE l D p2 N c0 k (X ++ S) C2 Gm2 ∧ C2 ++ X.map oc = P ++ U ∧ (∀ x ∈ X, popS true x) ∧ X.length ≤ 1 ∧ ¬ (D.1 p2 = 10 ∨ D.1 p2 = 15) ∧ EE c0 Gm Gm2 ∧ grw U (14 - 2 * k) ∧ P0.length + C2.length + (X.length + S.length) + 2 ≤ p2 ∧ ∀ r, RB p2 Gm2 r → RA p Gm r) (fun G7 => ∃ f i r, XF t D f i G7 ∧ ELw w Gx G7 ∧ MF l D f i r ∧ EE c0 Gm r ∧ RA p Gm r) o) 400 (Gx2, 0) (by decide) ⟨rfl, p2, U, [], P ++ U, Gm2, by omega, c2, c3, c4, c5, c6, by rw [List.map_nil, List.append_nil], fun x hx => (by cases hx), by decide, c7, c8.up (by omega), by rw [List.length_append] at c9 ⊢; show P0.length + (P.length + U.length) + (0 + S.length) + 2 ≤ p2; omega, c10⟩ (by
      rintro i ⟨G1, x⟩ hi ⟨rfl, p2, U, X, C2, Gm2, q1, q2, q3, q4, q5, q6, q7, q8, q9, q10, q11, q12, q13⟩
      dsimp only at q3 q4 q5 ⊢
      have h3 := q3.2.2.1
      have hlen : (P ++ U).length = C2.length + X.length := by rw [← q7, List.length_append, List.length_map]
      unfold fX6_readProduct_S12
      rw [if_neg (show ¬ (400 : Int32) ≤ nI i from nI_ge (b := 400) hi (by decide)), q3.2.2.2.2.1]
      by_cases ho : D.1 p2 = 10 ∨ D.1 p2 = 15
      · have hop : isOp (D.1 p2) := Or.inr (Or.inr ho)
        have hpk : D.1 p2 ≠ 0 := by omega
        have hJ37 : fX6_readProduct_J37L12 SHX rc G1 1 (nI k) (nI i) = fX6_readProduct_J53L12 SHX rc G1 1 (nI k) (nI i) (oc (D.1 p2)) := by
          unfold fX6_readProduct_J37L12
          rw [q3.2.2.2.2.1]
          rcases ho with e | e
          · rw [if_pos (show ck (D.1 p2) = 42 by rw [e]; rfl), e]; rfl
          · rw [if_neg (show ¬ ck (D.1 p2) = 42 by rw [e]; decide), e]; rfl
        have hsel : (if ck (D.1 p2) = 42 then fX6_readProduct_J37L12 SHX rc G1 1 (nI k) (nI i) else if ck (D.1 p2) = 47 then fX6_readProduct_J37L12 SHX rc G1 1 (nI k) (nI i) else some (.inr (.inl G1))) = fX6_readProduct_J53L12 SHX rc G1 1 (nI k) (nI i) (oc (D.1 p2)) := by
          rw [hJ37]
          rcases ho with e | e
          · rw [if_pos (show ck (D.1 p2) = 42 by rw [e]; rfl)]
          · rw [if_neg (show ¬ ck (D.1 p2) = 42 by rw [e]; decide), if_pos (show ck (D.1 p2) = 47 by rw [e]; rfl)]
        rw [hsel]
        unfold fX6_readProduct_J53L12
        rw [q3.2.2.2.2.1]
        by_cases hp : p2 < 400
        · obtain ⟨G2, a1, a2, a3⟩ := xPass_y (k := D.1 p2) (w := ck (D.1 p2)) hD q3 rfl rfl hpk hp
          obtain ⟨M3, b1, b2', b3⟩ := RB_op (s := true) hD q6 q8 hst hop ⟨fun _ => ho, fun _ => rfl⟩ (by omega) (by omega) hl hp
          rw [q7] at b2'
          rw [a1]
          simp only [obp]
          rw [if_neg one_ne]
          rcases jUnit hD hl hk IH a3 (q4.E1 a2) b2' (by rw [List.length_cons]; omega) (by rw [List.length_cons, hlen]; omega) with ⟨Gx4, f, i4, r, d1, d2, d3, d4, d5, d6⟩ | ⟨Gx4, p4, U2, Gm4, d1, d2, d3, d4, d5, d6, d7, d8, d9, d10⟩
          · right
            rw [d1]
            simp only [obp]
            rw [if_pos trivial]
            exact ⟨_, rfl, f, i4, r, d2, q5.tr (a2.el.tr d3), d4, q10.tr (b1.tr d5), q13 r (b3 r d6)⟩
          · left
            have h34 := d3.2.2.1
            rw [List.length_append, List.length_cons, hlen] at d9
            obtain ⟨G9, s1, s2, s3, s4⟩ := xAdd (u := oc (D.1 p2)) d3.1 d4 (by rw [List.length_append, List.length_append, hlen]; omega)
            rw [d1]
            simp only [obp]
            rw [if_neg one_ne, xLaw d4 d3.1]
            simp only [ob]
            rw [s1]
            simp only [ob, obd]
            refine ⟨_, rfl, nI_1 i, p4, U ++ (U2 ++ [oc (D.1 p2)]), [D.1 p2], P ++ U ++ U2, Gm4, by omega, by omega, d3.add d4.1 s3.1 s4, ?_, q5.tr (a2.el.tr (d5.tr s3)), d6, ?_, ?_, Nat.le_refl 1, q10.tr (b1.tr d7), ?_, ?_, fun r hr => q13 r (b3 r (d10 r hr))⟩
            · have : P0 ++ (P ++ (U ++ (U2 ++ [oc (D.1 p2)]))) = P0 ++ (P ++ U ++ U2) ++ [oc (D.1 p2)] := by simp [List.append_assoc]
              rw [this]; exact s2
            · simp [List.append_assoc]
            · intro x hx
              rw [List.mem_singleton.mp hx]
              exact ⟨hop, fun _ => ho⟩
            · rw [show 14 - 2 * k = (13 - 2 * k) + 1 by omega] at q11 ⊢
              exact grw_op q11 d8 hop
            · rw [List.length_append, hlen]; show P0.length + (C2.length + X.length + U2.length) + (1 + S.length) + 2 ≤ p4; omega
        · obtain ⟨G2, a1, a2, a3⟩ := xPass_n (k := D.1 p2) (w := ck (D.1 p2)) hD q3 rfl (hD.2.1 p2) (fun z => hp z.2)
          obtain ⟨r, b1, b2', b3⟩ := RB_op_f (s := true) hD q6 q8 hst hop ⟨fun _ => ho, fun _ => rfl⟩ (by omega) (by omega) hl hp
          rw [if_pos rfl] at a3
          right
          rw [a1]
          simp only [obp]
          rw [if_pos trivial]
          exact ⟨_, rfl, 2, p2, r, a3, q5.tr a2.el, b2', q10.tr b1, q13 r b3⟩
      · right
        rw [if_neg (show ¬ ck (D.1 p2) = 42 from fun z => ho (Or.inl ((ck_eq (b := 10) (hD.2.1 p2) (by decide)).mp z))), if_neg (show ¬ ck (D.1 p2) = 47 from fun z => ho (Or.inr ((ck_eq (b := 15) (hD.2.1 p2) (by decide)).mp z)))]
        exact ⟨_, rfl, p2, U, X, C2, Gm2, q2, q3, q4, q5, q6, q7, q8, q9, ho, q10, q11, q12, q13⟩) (by
      rintro ⟨G1, x⟩ ⟨rfl, p2, U, X, C2, Gm2, q1, q2, q3, -⟩
      have h3 := q3.2.2.1
      omega)
    rw [k1]
    simp only [ob]
    cases o with
    | inl G5 =>
      right
      obtain ⟨p2, U, X, C2, Gm2, q⟩ : ∃ p2 U X C2 Gm2, p < p2 ∧ XP t D p2 N G5 ∧ XLw w (P0 ++ (P ++ U)) G5 ∧ ELw w Gx G5 ∧ CE l D p2 N c0 k (X ++ S) C2 Gm2 ∧ C2 ++ X.map oc = P ++ U ∧ (∀ x ∈ X, popS true x) ∧ X.length ≤ 1 ∧ ¬ (D.1 p2 = 10 ∨ D.1 p2 = 15) ∧ EE c0 Gm Gm2 ∧ grw U (14 - 2 * k) ∧ P0.length + C2.length + (X.length + S.length) + 2 ≤ p2 ∧ ∀ r, RB p2 Gm2 r → RA p Gm r := k2
      exact ⟨G5, p2, U, X, C2, Gm2, rfl, q⟩
    | inr G7 =>
      left
      obtain ⟨f, i, r, q⟩ : ∃ f i r, XF t D f i G7 ∧ ELw w Gx G7 ∧ MF l D f i r ∧ EE c0 Gm r ∧ RA p Gm r := k2
      exact ⟨G7, f, i, r, rfl, q⟩
/-- a sum, up to what stands behind it -/
theorem jSum (hD : TKo D) (hl : l ≤ 1) (hk : k ≤ 6) (IH : k < 6 → JSp t l w c0 (k + 1) D N P0 rc) {bh : Int32} {S : List Nat} {P : List Int32} {Gx Gm : Hp} (hX : XP t D p N Gx) (hW : XLw w (P0 ++ P) Gx) (hC : CE l D p N c0 k S P Gm) (hst : stays false S) (hS : S.length ≤ 3 * k) (hb : P0.length + P.length + S.length + 2 ≤ p) :
    JF t l w c0 D p Gx Gm (fX6_readSum SHX rc Gx 1 (nI k) bh) ∨ ∃ G5 p2 U X C2 Gm2, fX6_readSum SHX rc Gx 1 (nI k) bh = fX6_readSum_J91 SHX rc G5 1 (nI k) bh ∧ p < p2 ∧ XP t D p2 N G5 ∧ XLw w (P0 ++ (P ++ U)) G5 ∧ ELw w Gx G5 ∧ CE l D p2 N c0 k (X ++ S) C2 Gm2 ∧ C2 ++ X.map oc = P ++ U ∧ (∀ x ∈ X, isOp x) ∧ ¬ isOp (D.1 p2) ∧ EE c0 Gm Gm2 ∧ grw U (15 - 2 * k) ∧ P0.length + C2.length + (X.length + S.length) + 2 ≤ p2 ∧ ∀ r, RB p2 Gm2 r → RA p Gm r := by
  have hst2 : stays true S := by
    cases S with
    | nil => trivial
    | cons x S2 => rcases hst with q | q; exact Or.inl q; exact absurd q.1 (by decide)
  unfold fX6_readSum
  rcases jProd hD hl hk IH hX hW hC hst2 (by omega) hb with ⟨Gx2, f, i, r, c1, c2, c3, c4, c5, c6⟩ | ⟨Gx2, p2, U, X, C2, Gm2, c1, c2, c3, c4, c5, c6, c7, c8, c8b, c8c, c9, c10, c11, c12⟩
  · left
    rw [c1]
    exact ⟨Gx2, f, i, r, rfl, c2, c3, c4, c5, c6⟩
  · rw [c1]
    simp only [obp]
    rw [if_neg one_ne]
    obtain ⟨o, k1, k2⟩ := iter_go (f := fun s : Hp × Int32 => fX6_readSum_S12 SHX rc 1 (nI k) bh s.1 s.2) (P := fun i s => s.2 = nI i ∧ ∃ p2 U X C2 Gm2, i < p2 ∧ p < p2 ∧ XP t D p2 N s.1 ∧ XLw w (P0 ++ (P ++ U)) s.1 ∧ ELw w Gx s.1 ∧ CE l D p2 N c0 k (X ++ S) C2 Gm2 ∧ C2 ++ X.map oc = P ++ U ∧ (∀ x ∈ X, isOp x) ∧ X.length ≤ 2 ∧ ¬ (D.1 p2 = 10 ∨ D.1 p2 = 15) ∧ EE c0 Gm Gm2 ∧ grw U (15 - 2 * k) ∧ P0.length + C2.length + (X.length + S.length) + 2 ≤ p2 ∧ ∀ r, RB p2 Gm2 r → RA p Gm r) (Q := fun o => Sum.elim (fun G5 => ∃ p2 U X C2 Gm2, p < p2 ∧ XP t D p2 N G5 ∧ XLw w (P0 ++ (P ++ U)) G5 ∧ ELw w Gx G5 ∧ CE l D p2 N c0 k (X ++ S) C2 Gm2 ∧ C2 ++ X.map oc = P ++ U ∧ (∀ x ∈ X, isOp x) ∧ ¬ isOp (D.1 p2) ∧ EE c0 Gm Gm2 ∧ grw U (15 - 2 * k) ∧ P0.length + C2.length + (X.length + S.length) + 2 ≤ p2 ∧ ∀ r, RB p2 Gm2 r → RA p Gm r) (fun G7 => ∃ f i r, XF t D f i G7 ∧ ELw w Gx G7 ∧ MF l D f i r ∧ EE c0 Gm r ∧ RA p Gm r) o) 400 (Gx2, 0) (by decide) ⟨rfl, p2, U, X, C2, Gm2, by omega, c2, c3, c4, c5, c6, c7, fun x hx => (c8 x hx).1, by omega, c8c, c9, c10.up (by omega), c11, c12⟩ (by
      rintro i ⟨G1, x⟩ hi ⟨rfl, p2, U, X, C2, Gm2, q1, q2, q3, q4, q5, q6, q7, q8, q9, q9b, q10, q11, q12, q13⟩
      dsimp only at q3 q4 q5 ⊢
      have h3 := q3.2.2.1
      have hlen : (P ++ U).length = C2.length + X.length := by rw [← q7, List.length_append, List.length_map]
      unfold fX6_readSum_S12
      rw [if_neg (show ¬ (400 : Int32) ≤ nI i from nI_ge (b := 400) hi (by decide)), q3.2.2.2.2.1]
      by_cases ho : D.1 p2 = 8 ∨ D.1 p2 = 9
      · have hop : isOp (D.1 p2) := by rcases ho with e | e; exact Or.inl e; exact Or.inr (Or.inl e)
        have hpk : D.1 p2 ≠ 0 := by omega
        have hJ37 : fX6_readSum_J37L12 SHX rc G1 1 (nI k) bh (nI i) = fX6_readSum_J53L12 SHX rc G1 1 (nI k) bh (nI i) (oc (D.1 p2)) := by
          unfold fX6_readSum_J37L12
          rw [q3.2.2.2.2.1]
          rcases ho with e | e
          · rw [if_pos (show ck (D.1 p2) = 43 by rw [e]; rfl), e]; rfl
          · rw [if_neg (show ¬ ck (D.1 p2) = 43 by rw [e]; decide), e]; rfl
        have hsel : (if ck (D.1 p2) = 43 then fX6_readSum_J37L12 SHX rc G1 1 (nI k) bh (nI i) else if ck (D.1 p2) = 45 then fX6_readSum_J37L12 SHX rc G1 1 (nI k) bh (nI i) else some (.inr (.inl G1))) = fX6_readSum_J53L12 SHX rc G1 1 (nI k) bh (nI i) (oc (D.1 p2)) := by
          rw [hJ37]
          rcases ho with e | e
          · rw [if_pos (show ck (D.1 p2) = 43 by rw [e]; rfl)]
          · rw [if_neg (show ¬ ck (D.1 p2) = 43 by rw [e]; decide), if_pos (show ck (D.1 p2) = 45 by rw [e]; rfl)]
        rw [hsel]
        unfold fX6_readSum_J53L12
        rw [q3.2.2.2.2.1]
        have hss : false = true ↔ D.1 p2 = 10 ∨ D.1 p2 = 15 := ⟨fun z => (by cases z), fun z => absurd z q9b⟩
        by_cases hp : p2 < 400
        · obtain ⟨G2, a1, a2, a3⟩ := xPass_y (k := D.1 p2) (w := ck (D.1 p2)) hD q3 rfl rfl hpk hp
          obtain ⟨M3, b1, b2', b3⟩ := RB_op (s := false) hD q6 (fun x hx => ⟨q8 x hx, fun z => by cases z⟩) hst hop hss (by omega) (by omega) hl hp
          rw [q7] at b2'
          rw [a1]
          simp only [obp]
          rw [if_neg one_ne]
          rcases jProd hD hl hk IH a3 (q4.E1 a2) b2' (show stays true (D.1 p2 :: S) from Or.inr ⟨rfl, ho⟩) (by rw [List.length_cons]; omega) (by rw [List.length_cons, hlen]; omega) with ⟨Gx4, f, i4, r, d1, d2, d3, d4, d5, d6⟩ | ⟨Gx4, p4, U2, X2, C4, Gm4, d1, d2, d3, d4, d5, d6, d7, d8, d8b, d8c, d9, d10, d11, d12⟩
          · right
            rw [d1]
            simp only [obp]
            rw [if_pos trivial]
            exact ⟨_, rfl, f, i4, r, d2, q5.tr (a2.el.tr d3), d4, q10.tr (b1.tr d5), q13 r (b3 r d6)⟩
          · left
            have h34 := d3.2.2.1
            have hlen2 : (P ++ U ++ U2).length = C4.length + X2.length := by rw [← d7, List.length_append, List.length_map]
            rw [List.length_cons] at d11
            obtain ⟨G9, s1, s2, s3, s4⟩ := xAdd (u := oc (D.1 p2)) d3.1 d4 (by rw [List.length_append, hlen2]; omega)
            rw [d1]
            simp only [obp]
            rw [if_neg one_ne, xLaw d4 d3.1]
            simp only [ob]
            rw [s1]
            simp only [ob, obd]
            refine ⟨_, rfl, nI_1 i, p4, U ++ (U2 ++ [oc (D.1 p2)]), X2 ++ [D.1 p2], C4, Gm4, by omega, by omega, d3.add d4.1 s3.1 s4, ?_, q5.tr (a2.el.tr (d5.tr s3)), by rw [List.append_assoc]; exact d6, ?_, ?_, by rw [List.length_append]; show X2.length + 1 ≤ 2; omega, d8c, q10.tr (b1.tr d9), ?_, ?_, fun r hr => q13 r (b3 r (d12 r hr))⟩
            · have : P0 ++ (P ++ (U ++ (U2 ++ [oc (D.1 p2)]))) = P0 ++ (P ++ U ++ U2) ++ [oc (D.1 p2)] := by simp [List.append_assoc]
              rw [this]; exact s2
            · rw [List.map_append, ← List.append_assoc, d7]
              simp [List.append_assoc]
            · intro x hx
              rcases List.mem_append.mp hx with hx | hx
              · exact (d8 x hx).1
              · rw [List.mem_singleton.mp hx]; exact hop
            · rw [show 15 - 2 * k = (14 - 2 * k) + 1 by omega] at q11 ⊢
              exact grw_op q11 d10 hop
            · rw [List.length_append]; show P0.length + C4.length + (X2.length + 1 + S.length) + 2 ≤ p4; omega
        · obtain ⟨G2, a1, a2, a3⟩ := xPass_n (k := D.1 p2) (w := ck (D.1 p2)) hD q3 rfl (hD.2.1 p2) (fun z => hp z.2)
          obtain ⟨r, b1, b2', b3⟩ := RB_op_f (s := false) hD q6 (fun x hx => ⟨q8 x hx, fun z => by cases z⟩) hst hop hss (by omega) (by omega) hl hp
          rw [if_pos rfl] at a3
          right
          rw [a1]
          simp only [obp]
          rw [if_pos trivial]
          exact ⟨_, rfl, 2, p2, r, a3, q5.tr a2.el, b2', q10.tr b1, q13 r b3⟩
      · right
        rw [if_neg (show ¬ ck (D.1 p2) = 43 from fun z => ho (Or.inl ((ck_eq (b := 8) (hD.2.1 p2) (by decide)).mp z))), if_neg (show ¬ ck (D.1 p2) = 45 from fun z => ho (Or.inr ((ck_eq (b := 9) (hD.2.1 p2) (by decide)).mp z)))]
        exact ⟨_, rfl, p2, U, X, C2, Gm2, q2, q3, q4, q5, q6, q7, q8, fun z => (by
          rcases z with z | z | z
          · exact ho (Or.inl z)
          · exact ho (Or.inr z)
          · exact q9b z), q10, q11, q12, q13⟩) (by
      rintro ⟨G1, x⟩ ⟨rfl, p2, U, X, C2, Gm2, q1, q2, q3, -⟩
      have h3 := q3.2.2.1
      omega)
    rw [k1]
    simp only [ob]
    cases o with
    | inl G5 =>
      right
      obtain ⟨p2, U, X, C2, Gm2, q⟩ : ∃ p2 U X C2 Gm2, p < p2 ∧ XP t D p2 N G5 ∧ XLw w (P0 ++ (P ++ U)) G5 ∧ ELw w Gx G5 ∧ CE l D p2 N c0 k (X ++ S) C2 Gm2 ∧ C2 ++ X.map oc = P ++ U ∧ (∀ x ∈ X, isOp x) ∧ ¬ isOp (D.1 p2) ∧ EE c0 Gm Gm2 ∧ grw U (15 - 2 * k) ∧ P0.length + C2.length + (X.length + S.length) + 2 ≤ p2 ∧ ∀ r, RB p2 Gm2 r → RA p Gm r := k2
      exact ⟨G5, p2, U, X, C2, Gm2, rfl, q⟩
    | inr G7 =>
      left
      obtain ⟨f, i, r, q⟩ : ∃ f i r, XF t D f i G7 ∧ ELw w Gx G7 ∧ MF l D f i r ∧ EE c0 Gm r ∧ RA p Gm r := k2
      exact ⟨G7, f, i, r, rfl, q⟩
theorem jSp (hD : TKo D) (hl : l ≤ 1) : ∀ d k, 1 ≤ k → k ≤ 6 → 8 - k ≤ d → JSp t l w c0 k D N P0 (fX6_readSum_d SHX d)
  | 0, k, _, h2, h3 => by omega
  | d + 1, k, h1, h2, h3 => by
    intro p S P Gx Gm hX hW hC hS hb
    show JF t l w c0 D p Gx Gm (fX6_readSum SHX (fX6_readSum_d SHX d) Gx 1 (nI k) 41) ∨ _
    show _ ∨ ∃ Gx2 p2 U Gm2, fX6_readSum SHX (fX6_readSum_d SHX d) Gx 1 (nI k) 41 = some (1, Gx2) ∧ _
    obtain ⟨k, rfl⟩ : ∃ k', k = k' + 1 := ⟨k - 1, by omega⟩
    rcases jSum (bh := 41) hD hl h2 (fun hk => jSp hD hl d (k + 1 + 1) (by omega) (by omega) (by omega)) hX hW hC (show stays false (6 :: S) from Or.inl rfl) (by rw [List.length_cons]; exact hS) (by rw [List.length_cons]; omega) with h | ⟨G5, p2, U, X, C2, Gm2, c1, c2, c3, c4, c5, c6, c7, c8, c9, c10, c11, c12, c13⟩
    · exact Or.inl h
    · rw [c1]
      have hb2 := c3.2.2.1
      rw [List.length_cons] at c12
      unfold fX6_readSum_J91
      rw [if_neg (show ¬ nI (k + 1) = 0 from fun z => by have := (nI_eq (b := 0) (by omega) (by decide)).mp z; omega)]
      by_cases e7 : D.1 p2 = 7
      · by_cases hp : p2 < 400
        · obtain ⟨G2, a1, a2, a3⟩ := xPass_y (k := 7) (w := 41) hD c3 rfl e7 (by decide) hp
          obtain ⟨M2, b1, b2', b3⟩ := RB_close hD c6 c8 e7 (by omega) hl hp
          right
          rw [q01 a1 (Or.inr rfl)]
          rw [c7] at b2'
          refine ⟨G2, p2 + 1, U, M2, rfl, by omega, a3, c4.E1 a2, c5.tr a2.el, b2', c10.tr b1, c11, ?_, fun r hr => c13 r (b3 r hr)⟩
          rw [← c7, List.length_append, List.length_map]; omega
        · obtain ⟨G2, a1, a2, a3⟩ := xPass_n (k := 7) (w := 41) hD c3 rfl (by decide) (fun z => hp z.2)
          obtain ⟨r, b1, b2', b3⟩ := RB_close_f hD c6 c8 e7 (by omega) hl hp
          rw [if_pos e7] at a3
          left
          rw [q01 a1 (Or.inl rfl)]
          exact ⟨G2, 2, p2, r, rfl, a3, c5.tr a2.el, b2', c10.tr b1, c13 r b3⟩
      · obtain ⟨G2, a1, a2, a3⟩ := xPass_n (k := 7) (w := 41) hD c3 rfl (by decide) (fun z => e7 z.1)
        obtain ⟨r, b1, b2', b3⟩ := RB_end1 hD c6 c9 e7 (by omega) hl
        rw [if_neg e7] at a3
        left
        rw [q01 a1 (Or.inl rfl)]
        exact ⟨G2, 1, p2, r, rfl, a3, c5.tr a2.el, b2', c10.tr b1, c13 r b3⟩
end JK
