/-! COPIES: of a Going, of a row. -/
theorem isG_apart {g o : Nat} (hg : isG g) (ho : isG o) (h : g ≠ o) : g + 4 < o ∨ o + 4 < g := by
  rcases hg with rfl | rfl | rfl | rfl | rfl | rfl | ⟨i, hi, rfl⟩ <;> rcases ho with rfl | rfl | rfl | rfl | rfl | rfl | ⟨j, hj, rfl⟩ <;> omega
theorem cp4 {sh : Sh} {G : Hp} {q0 q1 : Nat} (h0 : 4 ≤ ln sh q0) (h1 : 4 ≤ ln sh q1) : cpI sh G q0 0 q1 0 4 = some (rI G q1 (fun k => if k < 4 then G.1 q0 k else G.1 q1 k)) := by
  unfold cpI
  rw [if_pos ⟨by decide, by show 0 + 4 ≤ _; omega, by show 0 + 4 ≤ _; omega⟩]
  congr 2
  funext k
  show (if 0 ≤ k ∧ k < 0 + 4 then G.1 q0 (0 + (k - 0)) else G.1 q1 k) = _
  simp
theorem cp9 {sh : Sh} {G : Hp} {q0 q1 : Nat} (h0 : 9 ≤ ln sh q0) (h1 : 9 ≤ ln sh q1) : cpI sh G q0 0 q1 0 9 = some (rI G q1 (fun k => if k < 9 then G.1 q0 k else G.1 q1 k)) := by
  unfold cpI
  rw [if_pos ⟨by decide, by show 0 + 9 ≤ _; omega, by show 0 + 9 ≤ _; omega⟩]
  congr 2
  funext k
  show (if 0 ≤ k ∧ k < 0 + 9 then G.1 q0 (0 + (k - 0)) else G.1 q1 k) = _
  simp
/-- nothing but the Going at g has changed -/
def EG (g : Nat) (G G2 : Hp) : Prop := G2.2 = G.2 ∧ ∀ q k, ¬ (g ≤ q ∧ q ≤ g + 4) → G2.1 q k = G.1 q k
theorem xCopy {t g o : Nat} {G : Hp} (hx : LX t G) (hg : isG g) (ho : isG o) (hne : g ≠ o) : ∃ G2, fX1_copyFrom SHX G g o = some G2 ∧ EG g G G2 ∧ (∀ j, 1 ≤ j → j ≤ 3 → ∀ b, b < 4 → G2.1 (g + j) b = G.1 (o + j) b) ∧ (∀ k, k < 9 → G2.1 (g + 4) k = G.1 (o + 4) k) ∧ ∀ k, 4 ≤ k → k ≤ 8 → G2.1 g k = G.1 o k := by
  have hap := isG_apart hg ho hne
  unfold fX1_copyFrom
  rw [xg_0 ho hx, xg_0 hg hx]
  simp only [Option.bind_some]
  rw [cp4 (by rw [xgn_0 ho]; decide) (by rw [xgn_0 hg]; decide)]
  simp only [Option.bind_some]
  generalize hG3 : rI G (g + 1) (fun k => if k < 4 then G.1 (o + 1) k else G.1 (g + 1) k) = G3
  have x3 : LX t G3 := by rw [← hG3]; exact hx
  rw [xg_1 ho x3, xg_1 hg x3]
  simp only [Option.bind_some]
  rw [cp4 (by rw [xgn_1 ho]; decide) (by rw [xgn_1 hg]; decide)]
  simp only [Option.bind_some]
  generalize hG6 : rI G3 (g + 2) (fun k => if k < 4 then G3.1 (o + 2) k else G3.1 (g + 2) k) = G6
  have x6 : LX t G6 := by rw [← hG6]; exact x3
  rw [xg_2 ho x6, xg_2 hg x6]
  simp only [Option.bind_some]
  rw [cp4 (by rw [xgn_2 ho]; decide) (by rw [xgn_2 hg]; decide)]
  simp only [Option.bind_some]
  generalize hG9 : rI G6 (g + 3) (fun k => if k < 4 then G6.1 (o + 3) k else G6.1 (g + 3) k) = G9
  have x9 : LX t G9 := by rw [← hG9]; exact x6
  rw [xg_3 ho x9, xg_3 hg x9]
  simp only [Option.bind_some]
  rw [cp9 (by rw [xgn_3 ho]; decide) (by rw [xgn_3 hg]; decide)]
  simp only [Option.bind_some, bd]
  generalize hG12 : rI G9 (g + 4) (fun k => if k < 9 then G9.1 (o + 4) k else G9.1 (g + 4) k) = G12
  have e3 : ∀ q, q ≠ g + 1 → G3.1 q = G.1 q := fun q h => by rw [← hG3, rI_ne h]
  have e6 : ∀ q, q ≠ g + 2 → G6.1 q = G3.1 q := fun q h => by rw [← hG6, rI_ne h]
  have e9 : ∀ q, q ≠ g + 3 → G9.1 q = G6.1 q := fun q h => by rw [← hG9, rI_ne h]
  have e12 : ∀ q, q ≠ g + 4 → G12.1 q = G9.1 q := fun q h => by rw [← hG12, rI_ne h]
  have E12 : ∀ q, ¬ (g + 1 ≤ q ∧ q ≤ g + 4) → G12.1 q = G.1 q := fun q h => by rw [e12 q (by omega), e9 q (by omega), e6 q (by omega), e3 q (by omega)]
  refine ⟨_, rfl, ⟨by show G12.2 = G.2; rw [← hG12, ← hG9, ← hG6, ← hG3]; rfl, fun q k hq => ?_⟩, fun j j1 j3 b hb => ?_, fun k hk => ?_, fun k k4 k8 => ?_⟩
  · rw [sI_ne (by omega), sI_ne (by omega), sI_ne (by omega), sI_ne (by omega), sI_ne (by omega), E12 q (by omega)]
  · rw [sI_ne (by omega), sI_ne (by omega), sI_ne (by omega), sI_ne (by omega), sI_ne (by omega)]
    rcases (by omega : j = 1 ∨ j = 2 ∨ j = 3) with rfl | rfl | rfl
    · rw [e12 _ (by omega), e9 _ (by omega), e6 _ (by omega), ← hG3, rI_same]; simp [hb]
    · rw [e12 _ (by omega), e9 _ (by omega), ← hG6, rI_same]; simp [hb]; rw [e3 _ (by omega)]
    · rw [e12 _ (by omega), ← hG9, rI_same]; simp [hb]; rw [e6 _ (by omega), e3 _ (by omega)]
  · rw [sI_ne (by omega), sI_ne (by omega), sI_ne (by omega), sI_ne (by omega), sI_ne (by omega), ← hG12, rI_same]
    simp [hk]; rw [e9 _ (by omega), e6 _ (by omega), e3 _ (by omega)]
  · rcases (by omega : k = 4 ∨ k = 5 ∨ k = 6 ∨ k = 7 ∨ k = 8) with rfl | rfl | rfl | rfl | rfl
    · rw [sI_ne (by omega), sI_ne (by omega), sI_ne (by omega), sI_ne (by omega), sI_same, E12 _ (by omega)]
    · rw [sI_ne (by omega), sI_ne (by omega), sI_ne (by omega), sI_same, sI_ne (by omega), E12 _ (by omega)]
    · rw [sI_ne (by omega), sI_ne (by omega), sI_same, sI_ne (by omega), sI_ne (by omega), E12 _ (by omega)]
    · rw [sI_ne (by omega), sI_same, sI_ne (by omega), sI_ne (by omega), sI_ne (by omega), E12 _ (by omega)]
    · rw [sI_same, sI_ne (by omega), sI_ne (by omega), sI_ne (by omega), sI_ne (by omega), E12 _ (by omega)]
theorem xCopyG {t g o : Nat} {T : Txt} {r : Nat → Int32} {G : Hp} (hx : LX t G) (hW : WFT T) (hg : isG g) (ho : isG o) (hne : g ≠ o) (hG : XG T o r G) : ∃ G2, fX1_copyFrom SHX G g o = some G2 ∧ EG g G G2 ∧ XG T g r G2 := by
  obtain ⟨G2, h1, h2, h3, h4, h5⟩ := xCopy hx hg ho hne
  have hw := hW.1
  refine ⟨G2, h1, h2, fun b hb => ?_, fun b hb => ?_, fun k hk hk2 => ?_, ?_, ?_, ?_, ?_, ?_⟩
  · rw [h3 1 (by omega) (by omega) b (by omega), h3 3 (by omega) (by omega) b (by omega)]; exact hG.1 b hb
  · rw [h3 2 (by omega) (by omega) b hb]; exact hG.2.1 b hb
  · rw [h4 k hk2]; exact hG.2.2.1 k hk hk2
  · rw [h5 4 (by omega) (by omega)]; exact hG.2.2.2.1
  · rw [h5 5 (by omega) (by omega)]; exact hG.2.2.2.2.1
  · rw [h5 6 (by omega) (by omega)]; exact hG.2.2.2.2.2.1
  · rw [h5 7 (by omega) (by omega)]; exact hG.2.2.2.2.2.2.1
  · rw [h5 8 (by omega) (by omega)]; exact hG.2.2.2.2.2.2.2
/-- nothing but n places of the row d from o on has changed -/
def ER (d o n : Nat) (G G2 : Hp) : Prop := G2.2 = G.2 ∧ ∀ q k, ¬ (q = d ∧ o ≤ k ∧ k < o + n) → G2.1 q k = G.1 q k
theorem mcopy {f : Hp × Int32 → Option ((Hp × Int32) ⊕ Hp)} {G : Hp} (N s d so dO : Nat) (hN : N < 10000) (hsd : ∀ i j, i < N → j < N → ¬ (s = d ∧ so + i = dO + j ∧ j < i)) (hf : ∀ G1 i, i < N → ER d dO N G G1 → f (G1, nI i) = some (.inl (sI G1 d (dO + i) (G1.1 s (so + i)), nI i + 1))) (he : ∀ G1, f (G1, nI N) = some (.inr G1)) : ∃ G2, iter f fuel (G, 0) = some G2 ∧ ER d dO N G G2 ∧ ∀ i, i < N → G2.1 d (dO + i) = G.1 s (so + i) := by
  obtain ⟨o, ho, h1, h2⟩ := iter_go (f := f) (P := fun i x => x.2 = nI i ∧ ER d dO N G x.1 ∧ (∀ j, j < i → x.1.1 d (dO + j) = G.1 s (so + j)) ∧ ∀ k, ¬ (dO ≤ k ∧ k < dO + i) → x.1.1 d k = G.1 d k) (Q := fun o => ER d dO N G o ∧ ∀ i, i < N → o.1 d (dO + i) = G.1 s (so + i)) N (G, 0) (by omega) ⟨rfl, ⟨rfl, fun _ _ _ => rfl⟩, fun j hj => by omega, fun _ _ => rfl⟩ (by
    rintro i ⟨G1, x⟩ hi ⟨rfl, hE, hr, hk⟩
    left
    refine ⟨_, hf G1 i hi hE, nI_1 i, ⟨hE.1, fun q k hq => ?_⟩, fun j hj => ?_, fun k hq => ?_⟩
    · show (sI G1 d (dO + i) (G1.1 s (so + i))).1 q k = G.1 q k
      rw [sI_ne (by omega)]; exact hE.2 q k hq
    · show (sI G1 d (dO + i) (G1.1 s (so + i))).1 d (dO + j) = _
      by_cases e : j = i
      · subst e
        rw [sI_same]
        by_cases es : s = d
        · subst es
          have hx : ¬ (dO ≤ so + j ∧ so + j < dO + j) := fun q => hsd j (so + j - dO) hi (by omega) ⟨rfl, by omega, by omega⟩
          exact hk (so + j) hx
        · exact hE.2 s (so + j) (fun q => es q.1)
      · rw [sI_ne (by omega)]; exact hr j (by omega)
    · show (sI G1 d (dO + i) (G1.1 s (so + i))).1 d k = _
      rw [sI_ne (by omega)]; exact hk k (by omega)) (by
    rintro ⟨G1, x⟩ ⟨rfl, hE, hr, -⟩
    exact ⟨G1, he G1, hE, hr⟩)
  exact ⟨o, ho, h1, h2⟩
