/-! CLAUSES: 'and', 'or', side by side. -/
section KK
variable {t l c0 k p d : Nat} {D : TKd} {N : Nat × Nat} {NM : List (List Nat × Bool)} {rc : Hp → Nat → Int32 → Int32 → Option (Int32 × Hp)}
theorem jBoth (hD : TKo D) (hl : l ≤ 1) (hk : k ≤ 6) (h8 : (trs NM).length ≤ 8) (IH : k < 6 → JEp t l c0 (k + 1) D NM rc) {S P : List Nat} {Gx Gm : Hp} (hX : XC t D p N (trs NM) d P Gx) (hC : CC l D p N NM c0 S P Gm) (hN : okN p N) (hS : n28 S) (hS7 : tp (outs 27) S = false) (hSl : S.length ≤ 9 * k + 1) (hd : d ≤ 2 * k + 1) :
    KF t l c0 D p k 0 Gx Gm (fX6_readBoth SHX rc Gx 1 (nI k)) ∨ ∃ Gx2 p2 U X C2 N2 Gm2, fX6_readBoth SHX rc Gx 1 (nI k) = some (1, Gx2) ∧ p < p2 ∧ XC t D p2 N2 (trs NM) (d + 1) (P ++ U) Gx2 ∧ ECl Gx Gx2 ∧ CC l D p2 N2 NM c0 (X ++ S) C2 Gm2 ∧ C2 ++ X.map wc = P ++ U ∧ (∀ x ∈ X, x = 27) ∧ X.length ≤ 1 ∧ D.1 p2 ≠ 27 ∧ EQc c0 Gm Gm2 ∧ UOK U (14 - 2 * k) p2 N N2 ∧ ∀ r, KB p2 Gm2 k r → KA p Gm k 0 r := by
  unfold fX6_readBoth
  rcases jNot hD hl hk h8 IH hX hC hN hS (by omega) (by omega) with ⟨Gx2, f, i, r, c1, c2, c3, c4, c5, c6⟩ | ⟨Gx2, p2, U, N2, Gm2, c1, c2, c3, c4, c5, c6, c7, c8⟩
  · left
    rw [c1]
    exact ⟨Gx2, f, i, r, rfl, c2, c3, c4, c5, c6⟩
  · rw [c1]
    simp only [obp]
    rw [if_neg one_ne]
    obtain ⟨o, k1, k2⟩ := iter_go (f := fun s : Hp × Int32 => fX6_readBoth_S12 SHX rc 1 (nI k) s.1 s.2) (P := fun i s => s.2 = nI i ∧ ∃ p2 U X C2 N2 Gm2, i < p2 ∧ p < p2 ∧ XC t D p2 N2 (trs NM) (d + 1) (P ++ U) s.1 ∧ ECl Gx s.1 ∧ CC l D p2 N2 NM c0 (X ++ S) C2 Gm2 ∧ C2 ++ X.map wc = P ++ U ∧ (∀ x ∈ X, x = 27) ∧ X.length ≤ 1 ∧ EQc c0 Gm Gm2 ∧ UOK U (14 - 2 * k) p2 N N2 ∧ ∀ r, KB p2 Gm2 k r → KA p Gm k 0 r) (Q := fun o => Sum.elim (fun G5 => ∃ p2 U X C2 N2 Gm2, p < p2 ∧ XC t D p2 N2 (trs NM) (d + 1) (P ++ U) G5 ∧ ECl Gx G5 ∧ CC l D p2 N2 NM c0 (X ++ S) C2 Gm2 ∧ C2 ++ X.map wc = P ++ U ∧ (∀ x ∈ X, x = 27) ∧ X.length ≤ 1 ∧ D.1 p2 ≠ 27 ∧ EQc c0 Gm Gm2 ∧ UOK U (14 - 2 * k) p2 N N2 ∧ ∀ r, KB p2 Gm2 k r → KA p Gm k 0 r) (fun G7 => ∃ f i r, XF t D f i G7 ∧ ECl Gx G7 ∧ MF l D f i r ∧ EQc c0 Gm r ∧ KA p Gm k 0 r) o) 400 (Gx2, 0) (by decide) ⟨rfl, p2, U, [], P ++ U, N2, Gm2, by omega, c2, c3, c4, c5, by rw [List.map_nil, List.append_nil], fun x hx => (by cases hx), by decide, c6, UOK_up c7 (by omega), c8⟩ (by
      rintro i ⟨G1, x⟩ hi ⟨rfl, p2, U, X, C2, N2, Gm2, q1, q2, q3, q4, q5, q6, q7, q8, q9, q10, q11⟩
      dsimp only at q3 q4 ⊢
      have h3 := q3.1.2.2.1
      unfold fX6_readBoth_S12
      rw [if_neg (show ¬ (400 : Int32) ≤ nI i from nI_ge (b := 400) hi (by decide)), q3.1.2.2.2.2.1]
      by_cases ho : D.1 p2 = 27
      · rw [if_pos (show ck (D.1 p2) = 268 by rw [ho]; rfl)]
        have hXo : ∀ x ∈ X, (x = 27 ∨ x = 26) ∧ outs (D.1 p2) x = true := fun x hx => by
          rw [q7 x hx, ho]; exact ⟨Or.inl rfl, rfl⟩
        by_cases hp : p2 < 400
        · obtain ⟨G2, a1, a2, a3⟩ := xPass_y (k := 27) (w := 268) hD q3.1 rfl ho (by decide) hp
          obtain ⟨M3, b1, b2', b3⟩ := KB_op (dp := k) hD q5 hXo (by rw [ho]; exact hS7) hl (Or.inl ho) (by omega) (by omega) hp
          rw [q6, ho] at b2'
          rw [a1]
          simp only [obp]
          rw [if_neg one_ne]
          have hX2 := q3.of (a2.cl (by decide)) a3 (q3.2.2.2.E a2 (by decide))
          rcases jNot hD hl hk h8 IH hX2 b2' (q10.2.2.s (by omega)) rfl (by rw [List.length_cons]; omega) (by omega) with ⟨Gx4, f, i4, r, d1, d2, d3, d4, d5, d6⟩ | ⟨Gx4, p4, U2, N4, Gm4, d1, d2, d3, d4, d5, d6, d7, d8⟩
          · right
            rw [d1]
            simp only [obp]
            rw [if_pos trivial]
            exact ⟨_, rfl, f, i4, r, d2, q4.tr ((a2.cl (by decide)).tr d3), d4, q9.tr (b1.tr d5), q11 r (b3 r d6)⟩
          · left
            obtain ⟨G10, j1, j2, j3⟩ := xJoinT (isAnd := true) d3.1.1 d3.2.2.2 (by omega)
            have j1' : fX6_joinTables SHX Gx4 1 1 = some G10 := j1
            rw [d1]
            simp only [obp]
            rw [if_neg one_ne, j1']
            simp only [ob, obd]
            refine ⟨_, rfl, nI_1 i, p4, U ++ (U2 ++ [9]), [27], P ++ U ++ U2, N4, Gm4, by omega, by omega, ?_, q4.tr ((a2.cl (by decide)).tr (d4.tr j2.cl)), d5, by simp [wc], fun x hx => List.mem_singleton.mp hx, Nat.le_refl 1, q9.tr (b1.tr d6), ?_, fun r hr => q11 r (b3 r (d8 r hr))⟩
            · have : P ++ (U ++ (U2 ++ [9])) = P ++ U ++ U2 ++ [9] := by simp
              rw [this]
              exact d3.of j2.cl (j2.xp d3.1) j3
            · rw [show 14 - 2 * k = (13 - 2 * k) + 1 by omega] at q10 ⊢
              exact UOK_op q10 d7 (Or.inl rfl)
        · obtain ⟨G2, a1, a2, a3⟩ := xPass_n (k := 27) (w := 268) hD q3.1 rfl (by decide) (fun z => hp z.2)
          obtain ⟨r, b1, b2', b3⟩ := KB_op_f (dp := k) hD q5 hXo (by rw [ho]; exact hS7) hl (Or.inl ho) (by omega) hp
          rw [if_pos ho] at a3
          right
          rw [a1]
          simp only [obp]
          rw [if_pos trivial]
          exact ⟨_, rfl, 2, p2, r, a3, q4.tr (a2.cl (by decide)), b2', q9.tr b1, q11 r b3⟩
      · right
        rw [if_neg (show ¬ ck (D.1 p2) = 268 from fun z => ho ((ck_eq (b := 27) (hD.2.1 p2) (by decide)).mp z))]
        exact ⟨_, rfl, p2, U, X, C2, N2, Gm2, q2, q3, q4, q5, q6, q7, q8, ho, q9, q10, q11⟩) (by
      rintro ⟨G1, x⟩ ⟨rfl, p2, U, X, C2, N2, Gm2, q1, q2, q3, -⟩
      have h3 := q3.1.2.2.1
      omega)
    rw [k1]
    simp only [ob]
    cases o with
    | inl G5 =>
      right
      obtain ⟨p2, U, X, C2, N2, Gm2, q⟩ : ∃ p2 U X C2 N2 Gm2, p < p2 ∧ XC t D p2 N2 (trs NM) (d + 1) (P ++ U) G5 ∧ ECl Gx G5 ∧ CC l D p2 N2 NM c0 (X ++ S) C2 Gm2 ∧ C2 ++ X.map wc = P ++ U ∧ (∀ x ∈ X, x = 27) ∧ X.length ≤ 1 ∧ D.1 p2 ≠ 27 ∧ EQc c0 Gm Gm2 ∧ UOK U (14 - 2 * k) p2 N N2 ∧ ∀ r, KB p2 Gm2 k r → KA p Gm k 0 r := k2
      exact ⟨G5, p2, U, X, C2, N2, Gm2, rfl, q⟩
    | inr G7 =>
      left
      obtain ⟨f, i, r, q⟩ : ∃ f i r, XF t D f i G7 ∧ ECl Gx G7 ∧ MF l D f i r ∧ EQc c0 Gm r ∧ KA p Gm k 0 r := k2
      exact ⟨G7, f, i, r, rfl, q⟩
/-- a clause, up to what stands behind it -/
theorem jEither (hD : TKo D) (hl : l ≤ 1) (hk : k ≤ 6) (h8 : (trs NM).length ≤ 8) (IH : k < 6 → JEp t l c0 (k + 1) D NM rc) {bh : Int32} {S P : List Nat} {Gx Gm : Hp} (hX : XC t D p N (trs NM) d P Gx) (hC : CC l D p N NM c0 S P Gm) (hN : okN p N) (hS : n28 S) (hS6 : tp (outs 26) S = false) (hSl : S.length ≤ 9 * k) (hd : d ≤ 2 * k) :
    KF t l c0 D p k 0 Gx Gm (fX6_readEither SHX rc Gx 1 (nI k) bh) ∨ ∃ G5 p2 U X C2 N2 Gm2, fX6_readEither SHX rc Gx 1 (nI k) bh = (bp (fX6_pass SHX G5 1 bh) fun r6 G7 => if ¬ (r6 = 0 ∨ r6 = 1) then none else some (r6, G7)) ∧ p < p2 ∧ XC t D p2 N2 (trs NM) (d + 1) (P ++ U) G5 ∧ ECl Gx G5 ∧ CC l D p2 N2 NM c0 (X ++ S) C2 Gm2 ∧ C2 ++ X.map wc = P ++ U ∧ (∀ x ∈ X, x = 27 ∨ x = 26) ∧ ¬ (D.1 p2 = 27 ∨ D.1 p2 = 26) ∧ EQc c0 Gm Gm2 ∧ UOK U (15 - 2 * k) p2 N N2 ∧ ∀ r, KB p2 Gm2 k r → KA p Gm k 0 r := by
  have hS7 : tp (outs 27) S = false := by
    cases S with
    | nil => rfl
    | cons x S2 =>
      have h6 : (decide (x = 27) || decide (x = 26)) = false := hS6
      rw [Bool.or_eq_false_iff] at h6
      exact h6.1
  unfold fX6_readEither
  rcases jBoth hD hl hk h8 IH hX hC hN hS hS7 (by omega) (by omega) with ⟨Gx2, f, i, r, c1, c2, c3, c4, c5, c6⟩ | ⟨Gx2, p2, U, X, C2, N2, Gm2, c1, c2, c3, c4, c5, c6, c7, c7b, c8, c9, c10, c11⟩
  · left
    rw [c1]
    exact ⟨Gx2, f, i, r, rfl, c2, c3, c4, c5, c6⟩
  · rw [c1]
    simp only [obp]
    rw [if_neg one_ne]
    obtain ⟨o, k1, k2⟩ := iter_go (f := fun s : Hp × Int32 => fX6_readEither_S12 SHX rc 1 (nI k) bh s.1 s.2) (P := fun i s => s.2 = nI i ∧ ∃ p2 U X C2 N2 Gm2, i < p2 ∧ p < p2 ∧ XC t D p2 N2 (trs NM) (d + 1) (P ++ U) s.1 ∧ ECl Gx s.1 ∧ CC l D p2 N2 NM c0 (X ++ S) C2 Gm2 ∧ C2 ++ X.map wc = P ++ U ∧ (∀ x ∈ X, x = 27 ∨ x = 26) ∧ X.length ≤ 2 ∧ D.1 p2 ≠ 27 ∧ EQc c0 Gm Gm2 ∧ UOK U (15 - 2 * k) p2 N N2 ∧ ∀ r, KB p2 Gm2 k r → KA p Gm k 0 r) (Q := fun o => Sum.elim (fun G5 => ∃ p2 U X C2 N2 Gm2, p < p2 ∧ XC t D p2 N2 (trs NM) (d + 1) (P ++ U) G5 ∧ ECl Gx G5 ∧ CC l D p2 N2 NM c0 (X ++ S) C2 Gm2 ∧ C2 ++ X.map wc = P ++ U ∧ (∀ x ∈ X, x = 27 ∨ x = 26) ∧ ¬ (D.1 p2 = 27 ∨ D.1 p2 = 26) ∧ EQc c0 Gm Gm2 ∧ UOK U (15 - 2 * k) p2 N N2 ∧ ∀ r, KB p2 Gm2 k r → KA p Gm k 0 r) (fun G7 => ∃ f i r, XF t D f i G7 ∧ ECl Gx G7 ∧ MF l D f i r ∧ EQc c0 Gm r ∧ KA p Gm k 0 r) o) 400 (Gx2, 0) (by decide) ⟨rfl, p2, U, X, C2, N2, Gm2, by omega, c2, c3, c4, c5, c6, fun x hx => Or.inl (c7 x hx), by omega, c8, c9, UOK_up c10 (by omega), c11⟩ (by
      rintro i ⟨G1, x⟩ hi ⟨rfl, p2, U, X, C2, N2, Gm2, q1, q2, q3, q4, q5, q6, q7, q8, q8b, q9, q10, q11⟩
      dsimp only at q3 q4 ⊢
      have h3 := q3.1.2.2.1
      unfold fX6_readEither_S12
      rw [if_neg (show ¬ (400 : Int32) ≤ nI i from nI_ge (b := 400) hi (by decide)), q3.1.2.2.2.2.1]
      by_cases ho : D.1 p2 = 26
      · rw [if_pos (show ck (D.1 p2) = 267 by rw [ho]; rfl)]
        have hXo : ∀ x ∈ X, (x = 27 ∨ x = 26) ∧ outs (D.1 p2) x = true := fun x hx => by
          rw [ho]; refine ⟨q7 x hx, ?_⟩; rcases q7 x hx with rfl | rfl <;> rfl
        by_cases hp : p2 < 400
        · obtain ⟨G2, a1, a2, a3⟩ := xPass_y (k := 26) (w := 267) hD q3.1 rfl ho (by decide) hp
          obtain ⟨M3, b1, b2', b3⟩ := KB_op (dp := k) hD q5 hXo (by rw [ho]; exact hS6) hl (Or.inr ho) (by omega) (by omega) hp
          rw [q6, ho] at b2'
          rw [a1]
          simp only [obp]
          rw [if_neg one_ne]
          have hX2 := q3.of (a2.cl (by decide)) a3 (q3.2.2.2.E a2 (by decide))
          rcases jBoth hD hl hk h8 IH hX2 b2' (q10.2.2.s (by omega)) rfl rfl (by rw [List.length_cons]; omega) (by omega) with ⟨Gx4, f, i4, r, d1, d2, d3, d4, d5, d6⟩ | ⟨Gx4, p4, U2, X2, C4, N4, Gm4, d1, d2, d3, d4, d5, d6, d7, d7b, d8, d9, d10, d11⟩
          · right
            rw [d1]
            simp only [obp]
            rw [if_pos trivial]
            exact ⟨_, rfl, f, i4, r, d2, q4.tr ((a2.cl (by decide)).tr d3), d4, q9.tr (b1.tr d5), q11 r (b3 r d6)⟩
          · left
            obtain ⟨G10, j1, j2, j3⟩ := xJoinT (isAnd := false) d3.1.1 d3.2.2.2 (by omega)
            have j1' : fX6_joinTables SHX Gx4 1 0 = some G10 := j1
            rw [d1]
            simp only [obp]
            rw [if_neg one_ne, j1']
            simp only [ob, obd]
            refine ⟨_, rfl, nI_1 i, p4, U ++ (U2 ++ [10]), X2 ++ [26], C4, N4, Gm4, by omega, by omega, ?_, q4.tr ((a2.cl (by decide)).tr (d4.tr j2.cl)), by rw [List.append_assoc]; exact d5, ?_, ?_, by rw [List.length_append]; show X2.length + 1 ≤ 2; omega, d8, q9.tr (b1.tr d9), ?_, fun r hr => q11 r (b3 r (d11 r hr))⟩
            · have : P ++ (U ++ (U2 ++ [10])) = P ++ U ++ U2 ++ [10] := by simp
              rw [this]
              exact d3.of j2.cl (j2.xp d3.1) j3
            · rw [List.map_append, ← List.append_assoc, d6]
              simp [wc]
            · intro x hx
              rcases List.mem_append.mp hx with hx | hx
              · exact Or.inl (d7 x hx)
              · exact Or.inr (List.mem_singleton.mp hx)
            · rw [show 15 - 2 * k = (14 - 2 * k) + 1 by omega] at q10 ⊢
              exact UOK_op q10 d10 (Or.inr rfl)
        · obtain ⟨G2, a1, a2, a3⟩ := xPass_n (k := 26) (w := 267) hD q3.1 rfl (by decide) (fun z => hp z.2)
          obtain ⟨r, b1, b2', b3⟩ := KB_op_f (dp := k) hD q5 hXo (by rw [ho]; exact hS6) hl (Or.inr ho) (by omega) hp
          rw [if_pos ho] at a3
          right
          rw [a1]
          simp only [obp]
          rw [if_pos trivial]
          exact ⟨_, rfl, 2, p2, r, a3, q4.tr (a2.cl (by decide)), b2', q9.tr b1, q11 r b3⟩
      · right
        rw [if_neg (show ¬ ck (D.1 p2) = 267 from fun z => ho ((ck_eq (b := 26) (hD.2.1 p2) (by decide)).mp z))]
        exact ⟨_, rfl, p2, U, X, C2, N2, Gm2, q2, q3, q4, q5, q6, q7, fun z => (by rcases z with z | z; exact q8b z; exact ho z), q9, q10, q11⟩) (by
      rintro ⟨G1, x⟩ ⟨rfl, p2, U, X, C2, N2, Gm2, q1, q2, q3, -⟩
      have h3 := q3.1.2.2.1
      omega)
    rw [k1]
    simp only [ob]
    cases o with
    | inl G5 =>
      right
      obtain ⟨p2, U, X, C2, N2, Gm2, q⟩ : ∃ p2 U X C2 N2 Gm2, p < p2 ∧ XC t D p2 N2 (trs NM) (d + 1) (P ++ U) G5 ∧ ECl Gx G5 ∧ CC l D p2 N2 NM c0 (X ++ S) C2 Gm2 ∧ C2 ++ X.map wc = P ++ U ∧ (∀ x ∈ X, x = 27 ∨ x = 26) ∧ ¬ (D.1 p2 = 27 ∨ D.1 p2 = 26) ∧ EQc c0 Gm Gm2 ∧ UOK U (15 - 2 * k) p2 N N2 ∧ ∀ r, KB p2 Gm2 k r → KA p Gm k 0 r := k2
      exact ⟨G5, p2, U, X, C2, N2, Gm2, rfl, q⟩
    | inr G7 =>
      left
      obtain ⟨f, i, r, q⟩ : ∃ f i r, XF t D f i G7 ∧ ECl Gx G7 ∧ MF l D f i r ∧ EQc c0 Gm r ∧ KA p Gm k 0 r := k2
      exact ⟨G7, f, i, r, rfl, q⟩
theorem jEp (hD : TKo D) (hl : l ≤ 1) (h8 : (trs NM).length ≤ 8) : ∀ e k, 1 ≤ k → k ≤ 6 → 8 - k ≤ e → JEp t l c0 k D NM (fX6_readEither_d SHX e)
  | 0, k, _, h2, h3 => by omega
  | e + 1, k, h1, h2, h3 => by
    intro p N n d S P Gx Gm hX hC hN hS hn hSl hd
    show KF t l c0 D p k 0 Gx Gm (fX6_readEither SHX (fX6_readEither_d SHX e) Gx 1 (nI k) 41) ∨ _
    show _ ∨ ∃ Gx2 p2 U N2 Gm2, fX6_readEither SHX (fX6_readEither_d SHX e) Gx 1 (nI k) 41 = some (1, Gx2) ∧ _
    obtain ⟨k, rfl⟩ : ∃ k', k = k' + 1 := ⟨k - 1, by omega⟩
    have hSl2 : S.length ≤ 9 * k + 2 := hSl
    rcases jEither (bh := 41) hD hl h2 h8 (fun hk => jEp hD hl h8 e (k + 1 + 1) (by omega) (by omega) (by omega)) hX hC hN rfl rfl (by rw [List.length_cons, List.length_append, List.length_replicate]; omega) hd with h | ⟨G5, p2, U, X, C2, N2, Gm2, c1, c2, c3, c4, c5, c6, c7, c8, c9, c10, c11⟩
    · exact Or.inl h
    · rw [c1]
      have hb2 := c3.1.2.2.1
      by_cases e7 : D.1 p2 = 7
      · by_cases hp : p2 < 400
        · obtain ⟨G2, a1, a2, a3⟩ := xPass_y (k := 7) (w := 41) hD c3.1 rfl e7 (by decide) hp
          obtain ⟨M2, b1, b2', b3⟩ := KB_close (dp := k) hD c5 c7 hS hl e7 (by omega) hp
          right
          rw [q01 a1 (Or.inr rfl)]
          rw [c6] at b2'
          exact ⟨G2, p2 + 1, U, N2, M2, rfl, by omega, c3.of (a2.cl (by decide)) a3 (c3.2.2.2.E a2 (by decide)), c4.tr (a2.cl (by decide)), b2', c9.tr b1, ⟨c10.1, c10.2.1, c10.2.2.s (by omega)⟩, fun r hr => c11 r (b3 r hr)⟩
        · obtain ⟨G2, a1, a2, a3⟩ := xPass_n (k := 7) (w := 41) hD c3.1 rfl (by decide) (fun z => hp z.2)
          obtain ⟨r, b1, b2', b3⟩ := KB_close_f (dp := k) hD c5 c7 hS hl e7 (by omega) hp
          rw [if_pos e7] at a3
          left
          rw [q01 a1 (Or.inl rfl)]
          exact ⟨G2, 2, p2, r, rfl, a3, c4.tr (a2.cl (by decide)), b2', c9.tr b1, c11 r b3⟩
      · obtain ⟨G2, a1, a2, a3⟩ := xPass_n (k := 7) (w := 41) hD c3.1 rfl (by decide) (fun z => e7 z.1)
        obtain ⟨r, b1, b2', b3⟩ := KB_end1 (dp := k) hD c5 c8 e7 (by omega)
        rw [if_neg e7] at a3
        left
        rw [q01 a1 (Or.inl rfl)]
        exact ⟨G2, 1, p2, r, rfl, a3, c4.tr (a2.cl (by decide)), b2', c9.tr b1, c11 r b3⟩
/-- a whole clause: class with ';' behind it, reference without -/
theorem jClause {Gx Gm : Hp} (hD : TKo D) (hl : l ≤ 1) (h8 : (trs NM).length ≤ 8) (hX : XC t D p N (trs NM) 0 [] Gx) (hM : MPs l D p N Gm) (hNM : MNm NM Gm) (h36 : Gm.1 0 36 = nI c0) (hc : 420 * (1 - l) ≤ c0 ∧ c0 ≤ 420 * (1 - l) + p) (hN : okN p N) :
    ∃ r, fX11_tellClause SHM Gm 0 = some r ∧ EQc c0 Gm r ∧ ((∃ Gx2 f i, fX6_readEither_d SHX 8 Gx 1 0 59 = some (0, Gx2) ∧ XF t D f i Gx2 ∧ ECl Gx Gx2 ∧ MF l D f i r) ∨ ∃ p2 U N2, p < p2 ∧ MPs l D p2 N2 r ∧ r.1 0 36 = nI (c0 + U.length) ∧ CQ U c0 r ∧ (N2.1 = 0 → N.1 = 0 ∧ ∀ x ∈ U, x ≠ 20) ∧ okC (U.map cmk) 0 ∧ okN p2 N2 ∧ c0 + U.length ≤ 420 * (1 - l) + p2 ∧ ((D.1 p2 = 4 ∧ p2 < 400 ∧ ∃ Gx2, fX6_readEither_d SHX 8 Gx 1 0 59 = some (1, Gx2) ∧ XC t D (p2 + 1) N2 (trs NM) 1 U Gx2 ∧ ECl Gx Gx2) ∨ (¬ (D.1 p2 = 4 ∧ p2 < 400) ∧ ∃ Gx2, fX6_readEither_d SHX 8 Gx 1 0 59 = some (0, Gx2) ∧ XF t D (if D.1 p2 = 4 then 2 else 1) p2 Gx2 ∧ ECl Gx Gx2))) := by
  have e0 : EQc c0 Gm (sI Gm 0 52 0) := EQc.s (by omega)
  have hC : CC l D p N NM c0 [] [] (sI Gm 0 52 0) := ⟨hM.E rfl rfl (fun q k hq => sI_ne (by omega)) (fun k hk => sI_ne (by omega)), e0.nm hNM, ⟨sI_same, trivial, by rw [sI_ne (by omega)]; exact h36, fun i hi => (by cases hi)⟩, hc, fun x hx => (by cases hx), by decide⟩
  have hd : fX6_readEither_d SHX 8 Gx 1 0 59 = fX6_readEither SHX (fX6_readEither_d SHX 7) Gx 1 (nI 0) 59 := rfl
  rw [hd]
  rcases jEither (bh := 59) hD hl (by decide) h8 (fun _ => jEp hD hl h8 7 1 (by decide) (by decide) (by decide)) hX hC hN rfl rfl (by decide) (by decide) with ⟨Gx2, f, i, r, c1, c2, c3, c4, c5, c6⟩ | ⟨G5, p2, U, X, C2, N2, Gm2, c1, c2, c3, c4, c5, c6, c7, c8, c9, c10, c11⟩
  · exact ⟨r, clause_done hM.2.2.2.2.1 c6, e0.tr c5, Or.inl ⟨Gx2, f, i, c1, c2, c3, c4⟩⟩
  · rw [List.append_nil] at c5
    rw [List.nil_append] at c3 c6
    obtain ⟨r, b1, b2', b3⟩ := KB_end0 hD c5 c7 hl c8
    rw [c6] at b2'
    obtain ⟨m1, m2, m3, m4, -, -⟩ := b2'
    have hok : okC (U.map cmk) 0 := by
      have := c10.2.1 0 [] (by omega) rfl
      rw [List.append_nil] at this
      exact this
    refine ⟨r, clause_done hM.2.2.2.2.1 (c11 r b3), e0.tr (c9.tr b1), Or.inr ⟨p2, U, N2, c2, m1, m3.2.2.1, m3.2.2.2, c10.1, hok, c10.2.2, by have : 420 * (1 - l) ≤ c0 ∧ c0 + U.length + 0 ≤ 420 * (1 - l) + p2 := m4; omega, ?_⟩⟩
    rw [c1]
    by_cases e : D.1 p2 = 4 ∧ p2 < 400
    · left
      obtain ⟨G2, a1, a2, a3⟩ := xPass_y (k := 4) (w := 59) hD c3.1 rfl e.1 (by decide) e.2
      exact ⟨e.1, e.2, G2, q01 a1 (Or.inr rfl), c3.of (a2.cl (by decide)) a3 (c3.2.2.2.E a2 (by decide)), c4.tr (a2.cl (by decide))⟩
    · right
      obtain ⟨G2, a1, a2, a3⟩ := xPass_n (k := 4) (w := 59) hD c3.1 rfl (by decide) e
      exact ⟨e, G2, q01 a1 (Or.inl rfl), a3, c4.tr (a2.cl (by decide))⟩
end KK
