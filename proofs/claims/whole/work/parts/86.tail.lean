/-! TELLS: one being more; ';' and the count. -/
theorem XT_b {u a b : Nat} {T : Txt} {G G2 : Hp} (h : XT u T G) (e0 : ∀ q k, u ≤ q → q ≤ u + 19 → ¬ (q = u ∧ k = 1) → ¬ ((q = u + 1 ∨ q = u + 2) ∧ k = T.1 1) → G2.1 q k = G.1 q k) (e8 : G2.2.1 (u + 8) = G.2.1 (u + 8)) (v0 : G2.1 u 1 = nI (T.1 1 + 1)) (v1 : G2.1 (u + 1) (T.1 1) = nI a) (v2 : G2.1 (u + 2) (T.1 1) = nI b) : XT u (tN T.1 1 (T.1 1 + 1), tR (tR T.2.1 0 (T.1 1) a) 1 (T.1 1) b, T.2.2) G2 := by
  obtain ⟨h1, h2, h3, h4, h5, h6, h7⟩ := h
  refine ⟨fun i hi => ?_, fun j hj => ?_, fun w hw => ?_, fun w hw => ?_, XL_fr h5 (fun q k hq => e0 q k (by omega) (by omega) (by omega) (by omega)), XL_fr h6 (fun q k hq => e0 q k (by omega) (by omega) (by omega) (by omega)), XL_fr h7 (fun q k hq => e0 q k (by omega) (by omega) (by omega) (by omega))⟩
  · show _ = nI (tN T.1 1 (T.1 1 + 1) i)
    by_cases ei : i = 1
    · rw [ei, tN_s]; exact v0
    · rw [tN_n ei, e0 u i (by omega) (by omega) (by omega) (by omega)]; exact h1 i hi
  · have hj' : j < tN T.1 1 (T.1 1 + 1) 1 := hj
    rw [tN_s] at hj'
    show _ = nI (tR (tR T.2.1 0 (T.1 1) a) 1 (T.1 1) b 0 j) ∧ _ = nI (tR (tR T.2.1 0 (T.1 1) a) 1 (T.1 1) b 1 j)
    by_cases ej : j = T.1 1
    · rw [ej, tR_n (by omega), tR_s, tR_s]; exact ⟨v1, v2⟩
    · rw [tR_n (by omega), tR_n (by omega), tR_n (by omega), tR_n (by omega), e0 _ _ (by omega) (by omega) (by omega) (by omega), e0 _ _ (by omega) (by omega) (by omega) (by omega)]
      exact h2 j (by omega)
  · have hw' : w < tN T.1 1 (T.1 1 + 1) 2 := hw
    rw [tN_n (by decide)] at hw'
    show _ = nI (tR (tR T.2.1 0 (T.1 1) a) 1 (T.1 1) b 2 w) ∧ _ = nI (tR (tR T.2.1 0 (T.1 1) a) 1 (T.1 1) b 3 w) ∧ _ = nI (tR (tR T.2.1 0 (T.1 1) a) 1 (T.1 1) b 4 w)
    rw [tR_n (by omega), tR_n (by omega), tR_n (by omega), tR_n (by omega), tR_n (by omega), tR_n (by omega), e0 _ _ (by omega) (by omega) (by omega) (by omega), e0 _ _ (by omega) (by omega) (by omega) (by omega), e0 _ _ (by omega) (by omega) (by omega) (by omega)]
    exact h3 w hw'
  · have hw' : w < tN T.1 1 (T.1 1 + 1) 3 := hw
    rw [tN_n (by decide)] at hw'
    show _ = nI (tR (tR T.2.1 0 (T.1 1) a) 1 (T.1 1) b 5 w) ∧ _ = nI (tR (tR T.2.1 0 (T.1 1) a) 1 (T.1 1) b 6 w) ∧ ∀ s, s < 256 → bitX (G2.2.1 (u + 8)) w s = evC (T.2.2.1 w) s
    rw [tR_n (by omega), tR_n (by omega), tR_n (by omega), tR_n (by omega), e8, e0 _ _ (by omega) (by omega) (by omega) (by omega), e0 _ _ (by omega) (by omega) (by omega) (by omega)]
    exact h4 w hw'
theorem MTc_b {s cl br co a b : Nat} {T : Txt} {G G2 : Hp} (h : MTc s cl br co T G) (e0 : ∀ q k, q ≠ 0 → q ≠ 9 → ¬ (q = 11 ∧ k = s) → ¬ ((q = 12 ∨ q = 13) ∧ k = 7 * s + T.1 1) → G2.1 q k = G.1 q k) (v0 : G2.1 11 s = nI (T.1 1 + 1)) (v1 : G2.1 12 (7 * s + T.1 1) = nI a) (v2 : G2.1 13 (7 * s + T.1 1) = nI b) : MTc s cl br co (tN T.1 1 (T.1 1 + 1), tR (tR T.2.1 0 (T.1 1) a) 1 (T.1 1) b, T.2.2) G2 := by
  obtain ⟨⟨a1, a2, a3, a4, a5, a6⟩, h2, h3, h4, h5⟩ := h
  have e : ∀ q k, q ≠ 0 → q ≠ 9 → q ≠ 11 → q ≠ 12 → q ≠ 13 → G2.1 q k = G.1 q k := fun q k _ _ _ _ _ => e0 q k (by omega) (by omega) (by omega) (by omega)
  refine ⟨⟨?_, ?_, ?_, ?_, ?_, ?_⟩, fun j hj => ?_, fun w hw => ?_, fun w hw => ?_, fun k hk => MLc_fr (h5 k hk) (Nat.le_refl _) (Nat.le_refl _) (fun q2 hq => e q2 _ (by omega) (by omega) (by omega) (by omega) (by omega)) (fun q2 j _ _ _ _ => e q2 j (by omega) (by omega) (by omega) (by omega) (by omega)) (fun q2 j _ _ _ => e q2 j (by omega) (by omega) (by omega) (by omega) (by omega))⟩
  · show _ = nI (tN T.1 1 (T.1 1 + 1) 0); rw [tN_n (by decide)]; exact (e _ _ (by decide) (by decide) (by decide) (by decide) (by decide)).trans a1
  · show _ = nI (tN T.1 1 (T.1 1 + 1) 1); rw [tN_s]; exact v0
  · show _ = nI (tN T.1 1 (T.1 1 + 1) 2); rw [tN_n (by decide)]; exact (e _ _ (by decide) (by decide) (by decide) (by decide) (by decide)).trans a3
  · show _ = nI (tN T.1 1 (T.1 1 + 1) 3); rw [tN_n (by decide)]; exact (e _ _ (by decide) (by decide) (by decide) (by decide) (by decide)).trans a4
  · show _ = nI (tN T.1 1 (T.1 1 + 1) 4); rw [tN_n (by decide)]; exact (e _ _ (by decide) (by decide) (by decide) (by decide) (by decide)).trans a5
  · show _ = nI (tN T.1 1 (T.1 1 + 1) 5); rw [tN_n (by decide)]; exact (e _ _ (by decide) (by decide) (by decide) (by decide) (by decide)).trans a6
  · have hj' : j < tN T.1 1 (T.1 1 + 1) 1 := hj
    rw [tN_s] at hj'
    show _ = nI (tR (tR T.2.1 0 (T.1 1) a) 1 (T.1 1) b 0 j) ∧ _ = nI (tR (tR T.2.1 0 (T.1 1) a) 1 (T.1 1) b 1 j)
    by_cases ej : j = T.1 1
    · rw [ej, tR_n (by omega), tR_s, tR_s]; exact ⟨v1, v2⟩
    · rw [tR_n (by omega), tR_n (by omega), tR_n (by omega), tR_n (by omega), e0 _ _ (by omega) (by omega) (by omega) (by omega), e0 _ _ (by omega) (by omega) (by omega) (by omega)]
      exact h2 j (by omega)
  · have hw' : w < tN T.1 1 (T.1 1 + 1) 2 := hw
    rw [tN_n (by decide)] at hw'
    show _ = nI (tR (tR T.2.1 0 (T.1 1) a) 1 (T.1 1) b 2 w) ∧ _ = nI (tR (tR T.2.1 0 (T.1 1) a) 1 (T.1 1) b 3 w) ∧ _ = nI (tR (tR T.2.1 0 (T.1 1) a) 1 (T.1 1) b 4 w)
    rw [tR_n (by omega), tR_n (by omega), tR_n (by omega), tR_n (by omega), tR_n (by omega), tR_n (by omega), e _ _ (by omega) (by omega) (by omega) (by omega) (by omega), e _ _ (by omega) (by omega) (by omega) (by omega) (by omega), e _ _ (by omega) (by omega) (by omega) (by omega) (by omega)]
    exact h3 w hw'
  · have hw' : w < tN T.1 1 (T.1 1 + 1) 3 := hw
    rw [tN_n (by decide)] at hw'
    obtain ⟨b1, b2', c, c1, c2', c3, c4⟩ := h4 w hw'
    refine ⟨?_, ?_, c, (e _ _ (by omega) (by omega) (by omega) (by omega) (by omega)).trans c1, (e _ _ (by omega) (by omega) (by omega) (by omega) (by omega)).trans c2', c3, fun i hi => (e _ _ (by omega) (by omega) (by omega) (by omega) (by omega)).trans (c4 i hi)⟩
    · show _ = nI (tR (tR T.2.1 0 (T.1 1) a) 1 (T.1 1) b 5 w)
      rw [tR_n (by omega), tR_n (by omega), e _ _ (by omega) (by omega) (by omega) (by omega) (by omega)]; exact b1
    · show _ = nI (tR (tR T.2.1 0 (T.1 1) a) 1 (T.1 1) b 6 w)
      rw [tR_n (by omega), tR_n (by omega), e _ _ (by omega) (by omega) (by omega) (by omega) (by omega)]; exact b2'
section TA
variable {t l p cl br co : Nat} {D : TKd} {N : Nat × Nat} {T : Txt} {NM : List (List Nat × Bool)} {Gx Gm : Hp}
theorem jTail {i q aq p0 p2 : Nat} {N2 : Nat × Nat} {R : (Nat → Nat → Nat) × (Nat → List Nat) × (Nat → List (List Int32))} {Xa M : Hp} (hD : TKo D) (hld : ∀ {G : Hp}, LM G → ldA SHM G 0 aq 1 = some q) (hqn : ln SHM q = 2) (hi : (i = 1 ∧ q = 11 ∧ T.1 1 < 7) ∨ (i = 2 ∧ q = 14 ∧ T.1 2 < 4)) (hXP : XP t D p2 N2 Xa) (hNm : XNm (NM.map (·.1) ++ [D.2.2.2.1 p0]) Xa) (hTn : XTn (trs NM) Xa) (hcx : ∀ j, j < 4 → Xa.1 (43 - t) j = nI (T.1 j)) (fx : EXl t Gx Xa) (hxt : N2.1 = 0 → XT (43 - t) (tN T.1 i (T.1 i + 1), R) (sI Xa (43 - t) i (nI (T.1 i + 1)))) (hMP : MPs l D p2 N2 M) (h12 : M.1 0 12 = 0) (hMN : MNm NM M) (hcm : M.1 10 (1 - l) = nI (T.1 0) ∧ M.1 11 (1 - l) = nI (T.1 1) ∧ M.1 14 (1 - l) = nI (T.1 2) ∧ M.1 18 (1 - l) = nI (T.1 3)) (hcc : M.1 0 36 = nI cl ∧ M.1 0 42 = nI br ∧ M.1 0 48 = nI co) (hmt : N2.1 = 0 → MTc (1 - l) cl br co (tN T.1 i (T.1 i + 1), R) (sI M q (1 - l) (nI (T.1 i + 1)))) (fm : EYl l Gm M) (hJ : BJ l p N T NM cl br co) (hok : okN p2 N2) (hp : p < p0 ∧ p0 < p2) (hk0 : D.1 p0 = 1) (hw : N2.1 = 0 → WFT (tN T.1 i (T.1 i + 1), R)) :
    TOK t l D p Gx Gm (bp (fX6_pass SHX (sI Xa (43 - t) i (nI (T.1 i + 1))) 1 59) fun r7 G8 => if ¬ (r7 = 0 ∨ r7 = 1) then none else some (r7, G8)) ((fX11_ends SHM M 0 (nI p0) (-1)).bind fun G2 => if (G2.1 0 13) = 0 then (ldA SHM G2 0 aq 1).bind fun a4 => bd ((G2.1 0 19) : Int32) fun x5 => (aI SHM G2 a4 x5).bind fun v6 => (asI SHM G2 a4 x5 (v6 + 1)).bind fun G7 => some G7 else some G2) := by
  have ht := hXP.1.1
  have hl := hJ.1
  have hcn := hJ.2.2.1
  have hX2 : XP t D p2 N2 (sI Xa (43 - t) i (nI (T.1 i + 1))) := by
    obtain ⟨q1, q2, q3, q4, q5, q6, q7⟩ := hXP
    exact ⟨q1, q2.E (fun q k hq => sI_ne (by omega)) rfl, q3, (sI_ne (by omega)).trans q4, (sI_ne (by omega)).trans q5, (sI_ne (by omega)).trans q6, fun z => (sI_ne (by omega)).trans (q7 z)⟩
  have fX2 : EXl t Gx (sI Xa (43 - t) i (nI (T.1 i + 1))) := fx.tr (EXl.s (by omega))
  by_cases e4 : D.1 p2 = 4 ∧ p2 < 400
  · right
    obtain ⟨X16, u1, u2, u3⟩ := xPass_y (k := 4) (w := 59) hD hX2 rfl e4.1 (by decide) e4.2
    obtain ⟨M14, v1, v2, v3, v4⟩ := mEnds_y (b := false) (at' := -1) hD hMP hMN (by omega) hp.2 hk0 (by rw [if_neg (by decide)]) e4.1 e4.2
    rw [q01 u1 (Or.inr rfl), v1]
    simp only [ob]
    have f14 : ∀ q j, q ≠ 9 → q ≠ 0 → M14.1 q j = M.1 q j := fun q j a b => v2.2.2 q j a (by omega)
    have f0 : ∀ j, j ≠ 11 → j ≠ 20 → ¬ (13 ≤ j ∧ j ≤ 16) → M14.1 0 j = M.1 0 j := fun j a b c => v2.2.2 0 j (by decide) (by omega)
    rw [v3.2.2.2.2.1, if_pos rfl, hld v3.1]
    simp only [ob, obd]
    have hq1 : M14.1 q (1 - l) = nI (T.1 i) := by
      rw [f14 q _ (by omega) (by omega)]
      rcases hi with ⟨rfl, rfl, -⟩ | ⟨rfl, rfl, -⟩
      · exact hcm.2.1
      · exact hcm.2.2.1
    rw [mCount v3.2.2.2.2.2.2.2.2 hl hqn hq1]
    have hms : MPs l D (p2 + 1) N2 (sI M14 q (1 - l) (nI (T.1 i + 1))) := v3.E rfl rfl (fun q k hq => sI_ne (by omega)) (fun k hk => sI_ne (by omega))
    have s14 : ∀ q2 j, q2 ≠ 9 → q2 ≠ 0 → (sI M14 q (1 - l) (nI (T.1 i + 1))).1 q2 j = (sI M q (1 - l) (nI (T.1 i + 1))).1 q2 j := fun q2 j a b => by
      by_cases hqq : q2 = q ∧ j = 1 - l
      · rw [hqq.1, hqq.2, sI_same, sI_same]
      · rw [sI_ne (by omega), sI_ne (by omega)]; exact f14 q2 j a b
    have cn : ∀ j, j < 4 → ∀ q2, (j = 0 ∧ q2 = 10) ∨ (j = 1 ∧ q2 = 11) ∨ (j = 2 ∧ q2 = 14) ∨ (j = 3 ∧ q2 = 18) → (sI M14 q (1 - l) (nI (T.1 i + 1))).1 q2 (1 - l) = nI (tN T.1 i (T.1 i + 1) j) := fun j hj q2 hq2 => by
      by_cases ej : j = i
      · have : q2 = q := by omega
        rw [this, sI_same, ej, tN_s]
      · rw [sI_ne (by omega), tN_n ej, f14 q2 _ (by omega) (by omega)]
        rcases hq2 with ⟨rfl, rfl⟩ | ⟨rfl, rfl⟩ | ⟨rfl, rfl⟩ | ⟨rfl, rfl⟩
        · exact hcm.1
        · exact hcm.2.1
        · exact hcm.2.2.1
        · exact hcm.2.2.2
    refine ⟨X16, _, p2 + 1, N2, (tN T.1 i (T.1 i + 1), R), NM ++ [(D.2.2.2.1 p0, false)], cl, br, co, rfl, rfl, by omega, ⟨u3, ?_, ?_, fun j hj => ?_, fun z => ?_⟩, fX2.tr u2.xl, ⟨hms, ?_, ?_, ⟨cn 0 (by decide) 10 (by omega), cn 1 (by decide) 11 (by omega), cn 2 (by decide) 14 (by omega), cn 3 (by decide) 18 (by omega)⟩, ⟨?_, ?_, ?_⟩, fun z => ?_⟩, fm.tr (v2.yl.tr (EYl.s (by unfold sdM; omega))), hl, hok.s (by omega), ?_, by have := hJ.2.2.2.1; omega, hw⟩
    · rw [List.map_append]
      exact hNm.E ((u2.2 1 12 (by omega)).trans (sI_ne (by omega))) (by rw [u2.1]; rfl)
    · rw [trs_snoc, if_neg (by decide)]
      exact hTn.E (by rw [u2.1]; rfl)
    · rw [u2.2 _ _ (by omega)]
      show _ = nI (tN T.1 i (T.1 i + 1) j)
      by_cases ej : j = i
      · rw [ej, sI_same, tN_s]
      · rw [sI_ne (Or.inr ej), tN_n ej]; exact hcx j hj
    · exact XT_fr (hxt z) (fun q k _ _ _ _ => u2.2 q k (by omega)) (by rw [u2.1])
    · rw [sI_ne (by omega), f0 12 (by decide) (by decide) (by decide)]; exact h12
    · obtain ⟨w1, w2, w3, w4⟩ := v4
      exact ⟨(sI_ne (by omega)).trans w1, w2, w3, fun j hj => ⟨(w4 j hj).1, (sI_ne (by omega)).trans (w4 j hj).2⟩⟩
    · rw [sI_ne (by omega), f0 36 (by decide) (by decide) (by decide)]; exact hcc.1
    · rw [sI_ne (by omega), f0 42 (by decide) (by decide) (by decide)]; exact hcc.2.1
    · rw [sI_ne (by omega), f0 48 (by decide) (by decide) (by decide)]; exact hcc.2.2
    · exact MTc_fr (hmt z) (Nat.le_refl _) (Nat.le_refl _) (Nat.le_refl _) (fun q hq => s14 q _ (by omega) (by omega)) (fun q j hq _ _ => s14 q j (by omega) (by omega)) (fun q j _ _ _ _ => s14 q j (by omega) (by omega)) (fun q j _ _ _ _ => s14 q j (by omega) (by omega)) (fun j _ _ => s14 23 j (by omega) (by omega)) (fun q j hq _ _ => s14 q j (by omega) (by omega)) (fun q j _ _ _ _ => s14 q j (by omega) (by omega)) (fun q j hq _ _ => s14 q j (by omega) (by omega))
    · show tN T.1 i _ 0 = (trs (NM ++ [(D.2.2.2.1 p0, false)])).length ∧ tN T.1 i _ 0 ≤ 8 ∧ tN T.1 i _ 1 ≤ 7 ∧ tN T.1 i _ 2 ≤ 4 ∧ tN T.1 i _ 3 ≤ 4 ∧ (NM ++ [(D.2.2.2.1 p0, false)]).length = tN T.1 i _ 0 + tN T.1 i _ 1 + tN T.1 i _ 2 + tN T.1 i _ 3
      rw [trs_snoc, if_neg (by decide), List.length_append]
      rcases hi with ⟨rfl, -, hh⟩ | ⟨rfl, -, hh⟩
      · rw [tN_s, tN_n (by decide), tN_n (by decide), tN_n (by decide)]
        show _ ∧ _ ∧ _ ∧ _ ∧ _ ∧ NM.length + 1 = _
        omega
      · rw [tN_s, tN_n (by decide), tN_n (by decide), tN_n (by decide)]
        show _ ∧ _ ∧ _ ∧ _ ∧ _ ∧ NM.length + 1 = _
        omega
  · left
    obtain ⟨X16, u1, u2, u3⟩ := xPass_n (k := 4) (w := 59) hD hX2 rfl (by decide) e4
    obtain ⟨M14, v1, v2, v3⟩ := mEnds_n (i := nI p0) (at' := -1) hD hMP e4
    rw [q01 u1 (Or.inl rfl), v1]
    simp only [ob]
    rw [if_neg v3.pos.2.1]
    exact ⟨X16, _, p2, M14, rfl, u3, fX2.tr u2.xl, rfl, v3, fm.tr v2.yl⟩
end TA
