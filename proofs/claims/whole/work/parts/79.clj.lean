/-! CLAUSES: class and reference side by side. -/
def grwC (U : List Nat) (m : Nat) : Prop := ∀ d rest, d + m ≤ 60 → okC rest (d + 1) → okC (U.map cmk ++ rest) d
theorem grwC.up {U : List Nat} {m m2 : Nat} (h : grwC U m) (hm : m ≤ m2) : grwC U m2 := fun d rest h1 h2 => h d rest (by omega) h2
theorem okC_rep {rest : List Nat} {d : Nat} (h : okC rest (d + 1)) : ∀ n, okC ((List.replicate n 8).map cmk ++ rest) (d + 1)
  | 0 => h
  | n + 1 => by
    show (if cmk 8 < 8 then _ else if cmk 8 = 8 then 1 ≤ d + 1 ∧ okC ((List.replicate n 8).map cmk ++ rest) (d + 1) else _)
    rw [if_neg (by decide), if_pos (by decide)]
    exact ⟨by omega, okC_rep h n⟩
theorem grwC_rep {U : List Nat} {m n : Nat} (h : grwC U m) : grwC (U ++ List.replicate n 8) m := fun d rest h1 h2 => by
  rw [List.map_append, List.append_assoc]
  exact h d _ h1 (okC_rep h2 n)
theorem grwC_1 {k : Nat} (hk : cmk k < 8) : grwC [k] 1 := fun d rest h1 h2 => by
  show (if cmk k < 8 then d + 1 ≤ 60 ∧ okC rest (d + 1) else _)
  rw [if_pos hk]
  exact ⟨by omega, h2⟩
theorem grwC_op {U V : List Nat} {m x : Nat} (hU : grwC U (m + 1)) (hV : grwC V m) (hx : x = 9 ∨ x = 10) : grwC (U ++ (V ++ [x])) (m + 1) := fun d rest h1 h2 => by
  rw [List.map_append, List.append_assoc]
  refine hU d _ (by omega) ?_
  rw [List.map_append, List.append_assoc]
  refine hV (d + 1) _ (by omega) ?_
  show (if cmk x < 8 then _ else if cmk x = 8 then _ else cmk x ≤ 10 ∧ 2 ≤ d + 1 + 1 ∧ okC rest (d + 1 + 1 - 1))
  have ho : ¬ cmk x < 8 ∧ ¬ cmk x = 8 ∧ cmk x ≤ 10 := by rcases hx with rfl | rfl <;> decide
  rw [if_neg ho.1, if_neg ho.2.1]
  exact ⟨ho.2.2, by omega, h2⟩
/-- a piece of a clause, read: nothing noted if nothing was -/
def UOK (U : List Nat) (m p2 : Nat) (N N2 : Nat × Nat) : Prop := (N2.1 = 0 → N.1 = 0 ∧ ∀ x ∈ U, x ≠ 20) ∧ grwC U m ∧ okN p2 N2
theorem UOK_op {U V : List Nat} {m p2 p3 x : Nat} {N N2 N3 : Nat × Nat} (hU : UOK U (m + 1) p2 N N2) (hV : UOK V m p3 N2 N3) (hx : x = 9 ∨ x = 10) : UOK (U ++ (V ++ [x])) (m + 1) p3 N N3 := by
  refine ⟨fun h => ?_, grwC_op hU.2.1 hV.2.1 hx, hV.2.2⟩
  obtain ⟨h1, h2⟩ := hV.1 h
  obtain ⟨h3, h4⟩ := hU.1 h1
  refine ⟨h3, fun y hy => ?_⟩
  rcases List.mem_append.mp hy with q | q
  · exact h4 y q
  · rcases List.mem_append.mp q with q | q
    · exact h2 y q
    · rw [List.mem_singleton.mp q]; rcases hx with rfl | rfl <;> decide
theorem UOK_rep {U : List Nat} {m p2 n : Nat} {N N2 : Nat × Nat} (h : UOK U m p2 N N2) : UOK (U ++ List.replicate n 8) m p2 N N2 := by
  refine ⟨fun z => ⟨(h.1 z).1, fun y hy => ?_⟩, grwC_rep h.2.1, h.2.2⟩
  rcases List.mem_append.mp hy with q | q
  · exact (h.1 z).2 y q
  · rw [List.eq_of_mem_replicate q]; decide
theorem UOK_up {U : List Nat} {m m2 p2 : Nat} {N N2 : Nat × Nat} (h : UOK U m p2 N N2) (hm : m ≤ m2) : UOK U m2 p2 N N2 := ⟨h.1, h.2.1.up hm, h.2.2⟩
def n28 (S : List Nat) : Prop := tp (fun y => decide (y = 28)) S = false
/-- both fail alike -/
def KF (t l c0 : Nat) (D : TKd) (p k nt : Nat) (Gx Gm : Hp) (o : Option (Int32 × Hp)) : Prop := ∃ Gx2 f i r, o = some (0, Gx2) ∧ XF t D f i Gx2 ∧ ECl Gx Gx2 ∧ MF l D f i r ∧ EQc c0 Gm r ∧ KA p Gm k nt r
/-- what the class knows while it reads a clause -/
def XC (t : Nat) (D : TKd) (p : Nat) (N : Nat × Nat) (TR : List (List Nat)) (d : Nat) (P : List Nat) (G : Hp) : Prop := XP t D p N G ∧ XTn TR G ∧ G.1 (43 - t) 0 = nI TR.length ∧ CTb d P G
theorem XTn.E {TR : List (List Nat)} {G G2 : Hp} (h : XTn TR G) (e : G2.2.1 9 = G.2.1 9) : XTn TR G2 := ⟨h.1, h.2.1, fun j hj => by rw [e]; exact h.2.2 j hj⟩
theorem XC.of {t p p2 d d2 : Nat} {D : TKd} {N N2 : Nat × Nat} {TR : List (List Nat)} {P P2 : List Nat} {G G2 : Hp} (h : XC t D p N TR d P G) (e : ECl G G2) (h1 : XP t D p2 N2 G2) (h2 : CTb d2 P2 G2) : XC t D p2 N2 TR d2 P2 G2 := by
  have ht := h.1.1.1
  exact ⟨h1, h.2.1.E (e.2.1 9 (by decide)), (e.2.2 _ 0 (by omega)).trans h.2.2.1, h2⟩
def JEp (t l c0 k : Nat) (D : TKd) (NM : List (List Nat × Bool)) (rc : Hp → Nat → Int32 → Int32 → Option (Int32 × Hp)) : Prop :=
  ∀ p N n d S P Gx Gm, XC t D p N (trs NM) d P Gx → CC l D p N NM c0 (6 :: (List.replicate n 28 ++ S)) P Gm → okN p N → n28 S → n ≤ 6 → S.length ≤ 9 * (k - 1) + 2 → d ≤ 2 * k → KF t l c0 D p k 0 Gx Gm (rc Gx 1 (nI k) 41) ∨ ∃ Gx2 p2 U N2 Gm2, rc Gx 1 (nI k) 41 = some (1, Gx2) ∧ p < p2 ∧ XC t D p2 N2 (trs NM) (d + 1) (P ++ U) Gx2 ∧ ECl Gx Gx2 ∧ CC l D p2 N2 NM c0 S (P ++ U ++ List.replicate n 8) Gm2 ∧ EQc c0 Gm Gm2 ∧ UOK U (15 - 2 * k) p2 N N2 ∧ ∀ r, KB p2 Gm2 (k - 1) r → KA p Gm k 0 r
theorem b2_odd {i : Nat} : (if b2 (decide (i % 2 = 1)) = 0 then (1 : Int32) else 0) = b2 (decide ((i + 1) % 2 = 1)) := by
  by_cases h : i % 2 = 1
  · rw [decide_eq_true h, decide_eq_false (show ¬ (i + 1) % 2 = 1 by omega)]; rfl
  · rw [decide_eq_false h, decide_eq_true (show (i + 1) % 2 = 1 by omega)]; rfl
section KJ
variable {t l c0 k p d : Nat} {D : TKd} {N : Nat × Nat} {NM : List (List Nat × Bool)} {rc : Hp → Nat → Int32 → Int32 → Option (Int32 × Hp)}
/-- the class turns its table if it must -/
theorem xTurnIf {n : Nat} {P : List Nat} {G : Hp} (hx : LX t G) (h : CTb (d + 1) P G) (hd : d < 15) : ∃ G2, (if b2 (decide (n % 2 = 1)) = 0 then some ((1 : Int32), G) else (fX6_turnTable SHX G 1).bind fun G19 => some (1, G19)) = some (1, G2) ∧ ETb G G2 ∧ CTb (d + 1) (P ++ List.replicate n 8) G2 := by
  have h0 : ∀ s, s < 256 → (stk P s).length = d + 1 := fun s hs => (h.2 s hs).1
  by_cases e : n % 2 = 1
  · obtain ⟨G2, a1, a2, a3⟩ := xTurn hx h hd
    rw [decide_eq_true e, if_neg (show ¬ b2 true = 0 by decide), a1]
    exact ⟨G2, rfl, a2, CTb_rep a3 (by rw [if_pos e]) h0⟩
  · rw [decide_eq_false e, if_pos (show b2 false = 0 from rfl)]
    exact ⟨G, rfl, ETb.rf, CTb_rep h (by rw [if_neg e]) h0⟩
theorem jNot (hD : TKo D) (hl : l ≤ 1) (hk : k ≤ 6) (h8 : (trs NM).length ≤ 8) (IH : k < 6 → JEp t l c0 (k + 1) D NM rc) {S P : List Nat} {Gx Gm : Hp} (hX : XC t D p N (trs NM) d P Gx) (hC : CC l D p N NM c0 S P Gm) (hN : okN p N) (hS : n28 S) (hSl : S.length ≤ 9 * k + 2) (hd : d ≤ 2 * k + 2) :
    KF t l c0 D p k 0 Gx Gm (fX6_readNot SHX rc Gx 1 (nI k)) ∨ ∃ Gx2 p2 U N2 Gm2, fX6_readNot SHX rc Gx 1 (nI k) = some (1, Gx2) ∧ p < p2 ∧ XC t D p2 N2 (trs NM) (d + 1) (P ++ U) Gx2 ∧ ECl Gx Gx2 ∧ CC l D p2 N2 NM c0 S (P ++ U) Gm2 ∧ EQc c0 Gm Gm2 ∧ UOK U (13 - 2 * k) p2 N N2 ∧ ∀ r, KB p2 Gm2 k r → KA p Gm k 0 r := by
  unfold fX6_readNot
  obtain ⟨o, k1, k2⟩ := iter_go (f := fun s : Hp × Int32 × Int32 => fX6_readNot_S4 SHX rc 1 (nI k) s.1 s.2.1 s.2.2) (P := fun i s => i ≤ 6 ∧ s.2 = (b2 (decide (i % 2 = 1)), nI i) ∧ XC t D (p + i) N (trs NM) d P s.1 ∧ ECl Gx s.1 ∧ ∃ Gm1, CC l D (p + i) N NM c0 (List.replicate i 28 ++ S) P Gm1 ∧ EQc c0 Gm Gm1 ∧ ∀ r, KA (p + i) Gm1 k i r → KA p Gm k 0 r) (Q := fun o => Sum.elim (fun u => ∃ i Gm1, i ≤ 6 ∧ u.2 = b2 (decide (i % 2 = 1)) ∧ D.1 (p + i) ≠ 28 ∧ XC t D (p + i) N (trs NM) d P u.1 ∧ ECl Gx u.1 ∧ CC l D (p + i) N NM c0 (List.replicate i 28 ++ S) P Gm1 ∧ EQc c0 Gm Gm1 ∧ ∀ r, KA (p + i) Gm1 k i r → KA p Gm k 0 r) (Sum.elim (fun G5 => XC t D (p + 6) N (trs NM) d P G5 ∧ ECl Gx G5 ∧ ∃ r, EQc c0 Gm r ∧ MF l D 2 (p + 6) r ∧ KA p Gm k 0 r) (fun G10 => ∃ f i r, XF t D f i G10 ∧ ECl Gx G10 ∧ MF l D f i r ∧ EQc c0 Gm r ∧ KA p Gm k 0 r)) o) 7 (Gx, 0, 0) (by decide) ⟨by decide, rfl, hX, ECl.rf, Gm, hC, EQc.rf, fun r hr => hr⟩ (by
    rintro i ⟨G1, s1, s2⟩ hi ⟨hi6, hs, hX1, hE, Gm1, hC1, hQ, hR⟩
    obtain ⟨rfl, rfl⟩ : s1 = b2 (decide (i % 2 = 1)) ∧ s2 = nI i := ⟨congrArg Prod.fst hs, congrArg Prod.snd hs⟩
    dsimp only at hX1 hE ⊢
    have h3 := hX1.1.2.2.1
    unfold fX6_readNot_S4
    rw [if_neg (show ¬ (6 : Int32) < nI i from nI_nlt (a := 6) (by omega) (by decide)), hX1.1.2.2.2.2.1]
    by_cases e28 : D.1 (p + i) = 28
    · rw [if_pos (show ck (D.1 (p + i)) = 269 by rw [e28]; rfl)]
      by_cases e6 : i = 6
      · subst e6
        rw [if_pos (show nI 6 = 6 from rfl)]
        obtain ⟨r, r1, r2, r3⟩ := KA_many (dp := k) (nt := 6) hD hC1 (Or.inl ⟨e28, rfl⟩)
        exact Or.inr ⟨_, rfl, hX1, hE, r, hQ.tr r1, r2, hR r r3⟩
      · rw [if_neg (show ¬ nI i = 6 from fun z => e6 ((nI_eq (b := 6) (by omega) (by decide)).mp z))]
        have hlen : (List.replicate i 28 ++ S).length = i + S.length := by rw [List.length_append, List.length_replicate]
        by_cases hp : p + i < 400
        · obtain ⟨G2, a1, a2, a3⟩ := xPass_y (k := 28) (w := 269) hD hX1.1 rfl e28 (by decide) hp
          obtain ⟨M2, b1, b2', b3⟩ := KA_not (dp := k) (nt := i) hD hC1 (by rw [hlen]; omega) e28 (by omega) hp
          left
          rw [a1]
          simp only [obp, obd]
          rw [if_neg one_ne]
          have hsel : (if b2 (decide (i % 2 = 1)) = 0 then (some (Sum.inl (G2, (1 : Int32), nI i + 1)) : Option ((Hp × Int32 × Int32) ⊕ ((Hp × Int32) ⊕ Hp ⊕ Hp))) else some (Sum.inl (G2, 0, nI i + 1))) = some (Sum.inl (G2, b2 (decide ((i + 1) % 2 = 1)), nI (i + 1))) := by
            rw [nI_1, ← b2_odd]
            split <;> rfl
          rw [hsel]
          exact ⟨_, rfl, by omega, rfl, hX1.of (a2.cl (by decide)) a3 (hX1.2.2.2.E a2 (by decide)), hE.tr (a2.cl (by decide)), M2, b2', hQ.tr b1, fun r hr => hR r (b3 r hr)⟩
        · obtain ⟨G2, a1, a2, a3⟩ := xPass_n (k := 28) (w := 269) hD hX1.1 rfl (by decide) (fun z => hp z.2)
          obtain ⟨r, r1, r2, r3⟩ := KA_room (s2 := fun G7 => (G7, nI k, nI (i + 1))) (kS22_not (dp := k) hD hC1.1 e28 (show i < 6 by omega)) (fun _ => rfl) hC1 hp
          rw [if_pos e28] at a3
          right
          rw [a1]
          simp only [obp]
          rw [if_pos trivial]
          exact ⟨_, rfl, 2, p + i, r, a3, hE.tr (a2.cl (by decide)), r2, hQ.tr r1, hR r r3⟩
    · right
      rw [if_neg (show ¬ ck (D.1 (p + i)) = 269 from fun z => e28 ((ck_eq (b := 28) (hD.2.1 _) (by decide)).mp z))]
      exact ⟨_, rfl, i, Gm1, hi6, rfl, e28, hX1, hE, hC1, hQ, hR⟩) (by
    rintro ⟨G1, s⟩ ⟨hi6, -⟩
    omega)
  rw [k1]
  simp only [ob]
  match o, k2 with
  | .inr (.inl G5), k2 =>
    obtain ⟨hX1, hE, r, r1, r2, r3⟩ : XC t D (p + 6) N (trs NM) d P G5 ∧ ECl Gx G5 ∧ ∃ r, EQc c0 Gm r ∧ MF l D 2 (p + 6) r ∧ KA p Gm k 0 r := k2
    left
    simp only [Sum.elim_inr, Sum.elim_inl, obd]
    obtain ⟨G2, a1, a2, a3⟩ := xRefuse (f := 2) hX1.1
    have a1' : fX6_refuse SHX G5 1 2 = some (0, G2) := a1
    rw [q01 a1' (Or.inl rfl)]
    exact ⟨G2, 2, p + 6, r, rfl, a3, hE.tr (a2.cl (by decide)), r2, r1, r3⟩
  | .inr (.inr G10), k2 =>
    obtain ⟨f, i, r, q⟩ : ∃ f i r, XF t D f i G10 ∧ ECl Gx G10 ∧ MF l D f i r ∧ EQc c0 Gm r ∧ KA p Gm k 0 r := k2
    exact Or.inl ⟨G10, f, i, r, rfl, q⟩
  | .inl (G2, tn), k2 =>
    obtain ⟨n, Gm1, hn6, htn, hk28, hX1, hE, hC1, hQ, hR⟩ : ∃ i Gm1, i ≤ 6 ∧ tn = b2 (decide (i % 2 = 1)) ∧ D.1 (p + i) ≠ 28 ∧ XC t D (p + i) N (trs NM) d P G2 ∧ ECl Gx G2 ∧ CC l D (p + i) N NM c0 (List.replicate i 28 ++ S) P Gm1 ∧ EQc c0 Gm Gm1 ∧ ∀ r, KA (p + i) Gm1 k i r → KA p Gm k 0 r := k2
    simp only [Sum.elim_inl, obd]
    have h3 := hX1.1.2.2.1
    have hlen : (List.replicate n 28 ++ S).length = n + S.length := by rw [List.length_append, List.length_replicate]
    have hNn : okN (p + n) N := hN.s (by omega)
    unfold fX6_readNot_J60
    rw [htn, hX1.1.2.2.2.2.1]
    by_cases e6 : D.1 (p + n) = 6
    · rw [if_pos (show ck (D.1 (p + n)) = 40 by rw [e6]; rfl)]
      by_cases hk6 : k < 6
      · rw [if_pos (show nI k < 6 from nI_lt (b := 6) hk6 (by decide))]
        by_cases hp : p + n < 400
        · obtain ⟨G12, a1, a2, a3⟩ := xPass_y (k := 6) (w := 40) hD hX1.1 rfl e6 (by decide) hp
          obtain ⟨M2, b1, b2', b3⟩ := KA_open (dp := k) (nt := n) hD hC1 (by rw [hlen]; omega) e6 hk6 hp
          rw [a1]
          simp only [obp]
          rw [if_neg one_ne, nI_1]
          have hX12 := hX1.of (a2.cl (by decide)) a3 (hX1.2.2.2.E a2 (by decide))
          rcases IH hk6 (p + n + 1) N n d S P G12 M2 hX12 b2' (hNn.s (by omega)) hS hn6 (by show S.length ≤ 9 * k + 2; omega) (by omega) with ⟨Gx2, f, i, r, c1, c2, c3, c4, c5, c6⟩ | ⟨Gx2, p2, U, N2, Gm2, c1, c2, c3, c4, c5, c6, c7, c8⟩
          · left
            rw [c1]
            exact ⟨Gx2, f, i, r, rfl, c2, hE.tr ((a2.cl (by decide)).tr c3), c4, hQ.tr (b1.tr c5), hR r (b3 r c6)⟩
          · right
            rw [c1]
            simp only [obp]
            rw [if_neg one_ne]
            obtain ⟨G19, t1, t2, t3⟩ := xTurnIf (n := n) c3.1.1 c3.2.2.2 (by omega)
            rw [t1]
            refine ⟨G19, p2, U ++ List.replicate n 8, N2, Gm2, rfl, by omega, ?_, hE.tr ((a2.cl (by decide)).tr (c4.tr t2.cl)), ?_, hQ.tr (b1.tr c6), UOK_rep (UOK_up c7 (by omega)), fun r hr => hR r (b3 r (c8 r hr))⟩
            · rw [← List.append_assoc]; exact c3.of t2.cl (t2.xp c3.1) t3
            · rw [← List.append_assoc]; exact c5
        · obtain ⟨G12, a1, a2, a3⟩ := xPass_n (k := 6) (w := 40) hD hX1.1 rfl (by decide) (fun z => hp z.2)
          obtain ⟨r, r1, r2, r3⟩ := KA_room (s2 := fun G7 => (G7, nI (k + 1), nI 0)) (kS22_open (nt := n) hD hC1.1 e6 hk6) (fun _ => rfl) hC1 hp
          rw [if_pos e6] at a3
          left
          rw [a1]
          simp only [obp]
          rw [if_pos trivial]
          exact ⟨G12, 2, p + n, r, rfl, a3, hE.tr (a2.cl (by decide)), r2, hQ.tr r1, hR r r3⟩
      · rw [if_neg (show ¬ nI k < 6 from nI_nlt (b := 6) (by omega) (by omega))]
        obtain ⟨G12, a1, a2, a3⟩ := xRefuse (f := 2) hX1.1
        obtain ⟨r, r1, r2, r3⟩ := KA_many (dp := k) (nt := n) hD hC1 (Or.inr ⟨e6, by omega⟩)
        have a1' : fX6_refuse SHX G2 1 2 = some (0, G12) := a1
        left
        rw [q01 a1' (Or.inl rfl)]
        exact ⟨G12, 2, p + n, r, rfl, a3, hE.tr (a2.cl (by decide)), r2, hQ.tr r1, hR r r3⟩
    · rw [if_neg (show ¬ ck (D.1 (p + n)) = 40 from fun z => e6 ((ck_eq (b := 6) (hD.2.1 _) (by decide)).mp z))]
      by_cases e1 : D.1 (p + n) = 1 ∧ p + n < 400
      · obtain ⟨G3, a1, a2, a3, a4⟩ := xTrait_y hD hX1.1 hX1.2.1 hX1.2.2.1 e1.1 e1.2
        obtain ⟨M2, b1, b2', b3⟩ := KA_trait (dp := k) (nt := n) hD hC1 hNn hl hS h8 e1.1 e1.2
        rw [a1]
        simp only [obp]
        rw [if_neg one_ne]
        have hcx : cxk (rawk (trs NM) (D.2.2.2.1 (p + n))) = (fi (trs NM) (D.2.2.2.1 (p + n))).getD 0 ∧ (fi (trs NM) (D.2.2.2.1 (p + n))).getD 0 < 8 ∧ cmk (rawk (trs NM) (D.2.2.2.1 (p + n))) < 8 ∧ ((fi (trs NM) (D.2.2.2.1 (p + n))).isNone = false → rawk (trs NM) (D.2.2.2.1 (p + n)) ≠ 20) := by
          unfold rawk
          cases hf : fi (trs NM) (D.2.2.2.1 (p + n)) with
          | none => exact ⟨rfl, by decide, by decide, fun z => by cases z⟩
          | some j =>
            have hj := fi_lt _ _ _ hf
            have hj20 : ¬ j = 20 := by omega
            refine ⟨?_, ?_, ?_, fun _ => ?_⟩
            · show cxk j = j; unfold cxk; rw [if_neg hj20]
            · show j < 8; omega
            · show cmk j < 8; unfold cmk; rw [if_neg hj20]; omega
            · exact hj20
        obtain ⟨G6, s1, s2, s3⟩ := xPush (k := rawk (trs NM) (D.2.2.2.1 (p + n))) a3.1 (hX1.2.2.2.E a2 (by decide)) (by omega) (by rw [hcx.1]; exact hcx.2.1) (by rw [hcx.1]; exact a4)
        rw [s1]
        simp only [ob]
        obtain ⟨G9, t1, t2, t3⟩ := xTurnIf (n := n) (a3.1.same s2.1) s3 (by omega)
        right
        rw [t1]
        have e9 : ECl G2 G9 := (a2.cl (by decide)).tr (s2.cl.tr t2.cl)
        refine ⟨G9, p + n + 1, [rawk (trs NM) (D.2.2.2.1 (p + n))] ++ List.replicate n 8, _, M2, rfl, by omega, hX1.of e9 (t2.xp (s2.xp a3)) (by rw [← List.append_assoc]; exact t3), hE.tr e9, b2', hQ.tr b1, UOK_rep ⟨fun z => ?_, (grwC_1 hcx.2.2.1).up (by omega), hNn.n (by decide)⟩, fun r hr => hR r (b3 r hr)⟩
        obtain ⟨z1, z2⟩ := ntp_0 (by decide) z
        exact ⟨z1, fun y hy => by rw [List.mem_singleton.mp hy]; exact hcx.2.2.2 z2⟩
      · obtain ⟨G3, a1, a2, a3⟩ := xTrait_n hD hX1.1 hX1.2.1 hX1.2.2.1 e1
        obtain ⟨r, r1, r2, r3⟩ := KA_trait_f (dp := k) (nt := n) hD hC1 ⟨hk28, e6⟩ e1
        left
        rw [a1]
        exact ⟨G3, _, p + n, r, rfl, a3, hE.tr (a2.cl (by decide)), r2, hQ.tr r1, hR r r3⟩
end KJ
