/-! TELLS: a law. -/
def tG (f : Nat → List (List Int32)) (i : Nat) (v : List (List Int32)) : Nat → List (List Int32) := fun j => if j = i then v else f j
theorem tG_s {f : Nat → List (List Int32)} {i : Nat} {v : List (List Int32)} : tG f i v i = v := if_pos rfl
theorem tG_n {f : Nat → List (List Int32)} {i j : Nat} {v : List (List Int32)} (h : j ≠ i) : tG f i v j = f j := if_neg h
theorem LX_10 {t : Nat} {G : Hp} {v : Option Nat} (h : LX t G) : LX t (sR G 1 10 v) := by
  have e : ∀ q k, ¬ (q = 1 ∧ k = 10) → (sR G 1 10 v).2.2 q k = G.2.2 q k := fun q k hn => by
    unfold sR rR va_up
    by_cases hq : q = 1
    · subst hq
      have hk : k ≠ 10 := fun z => hn ⟨rfl, z⟩
      simp [hk]
    · simp [hq]
  have hd : ∀ e ∈ RL2, ¬ (e.1.1 = 1 ∧ e.1.2 = 10) := by decide +kernel
  exact ⟨h.1, (e 0 2 (by omega)).trans h.2.1, (e 1 9 (by omega)).trans h.2.2.1, fun x hx => (e _ _ (hd x hx)).trans (h.2.2.2 x hx)⟩
theorem sR_10 {G : Hp} {v : Option Nat} : (sR G 1 10 v).2.2 1 10 = v := by simp [sR, rR, va_up]
theorem sR_o {G : Hp} {v : Option Nat} {q k : Nat} (hn : ¬ (q = 1 ∧ k = 10)) : (sR G 1 10 v).2.2 q k = G.2.2 q k := by
  unfold sR rR va_up
  by_cases hq : q = 1
  · subst hq
    have hk : k ≠ 10 := fun z => hn ⟨rfl, z⟩
    simp [hk]
  · simp [hq]
theorem XT_l {u k : Nat} {L : List (List Int32)} {T : Txt} {G G2 : Hp} (h : XT u T G) (hk : k < 3) (e0 : ∀ q j, u ≤ q → q ≤ u + 19 → q ≠ u + 9 + 4 * k → q ≠ u + 9 + 4 * k + 1 → q ≠ u + 9 + 4 * k + 2 → G2.1 q j = G.1 q j) (e8 : G2.2.1 (u + 8) = G.2.1 (u + 8)) (hL : XL (u + 9 + 4 * k) L G2) : XT u (T.1, T.2.1, T.2.2.1, tG T.2.2.2 k L) G2 := by
  obtain ⟨h1, h2, h3, h4, h5, h6, h7⟩ := h
  have k1 : ∀ i, i < 6 → G2.1 u i = nI (T.1 i) := fun i hi => (e0 _ _ (by omega) (by omega) (by omega) (by omega) (by omega)).trans (h1 i hi)
  have lw : ∀ j, j < 3 → XL (u + 9 + 4 * j) (T.2.2.2 j) G → XL (u + 9 + 4 * j) (tG T.2.2.2 k L j) G2 := fun j hj hX => by
    by_cases ej : j = k
    · rw [ej, tG_s]; exact hL
    · rw [tG_n ej]
      exact XL_fr hX (fun q i hq => e0 q i (by omega) (by omega) (by omega) (by omega) (by omega))
  refine ⟨k1, fun a ha => ?_, fun a ha => ?_, fun a ha => ?_, lw 0 (by decide) h5, lw 1 (by decide) h6, lw 2 (by decide) h7⟩
  · rw [e0 _ _ (by omega) (by omega) (by omega) (by omega) (by omega), e0 _ _ (by omega) (by omega) (by omega) (by omega) (by omega)]; exact h2 a ha
  · rw [e0 _ _ (by omega) (by omega) (by omega) (by omega) (by omega), e0 _ _ (by omega) (by omega) (by omega) (by omega) (by omega), e0 _ _ (by omega) (by omega) (by omega) (by omega) (by omega)]; exact h3 a ha
  · rw [e0 _ _ (by omega) (by omega) (by omega) (by omega) (by omega), e0 _ _ (by omega) (by omega) (by omega) (by omega) (by omega), e8]; exact h4 a ha
theorem MTc_l {s cl br co br2 co2 k : Nat} {L : List (List Int32)} {T : Txt} {G G2 : Hp} (h : MTc s cl br co T G) (hb : br ≤ br2) (hc : co ≤ co2) (e1 : ∀ q j, 10 ≤ q → q ≤ 25 → G2.1 q j = G.1 q j) (e6 : ∀ q j, q = 26 ∨ q = 27 → j ≠ 3 * s + k → G2.1 q j = G.1 q j) (e7 : ∀ q j, 28 ≤ q → q ≤ 32 → j < br → G2.1 q j = G.1 q j) (e8 : ∀ q j, q = 33 ∨ q = 34 → j < co → G2.1 q j = G.1 q j) (hL : MLc s k br2 co2 L G2) : MTc s cl br2 co2 (T.1, T.2.1, T.2.2.1, tG T.2.2.2 k L) G2 := by
  obtain ⟨⟨a1, a2, a3, a4, a5, a6⟩, h2, h3, h4, h5⟩ := h
  refine ⟨⟨(e1 _ _ (by omega) (by omega)).trans a1, (e1 _ _ (by omega) (by omega)).trans a2, (e1 _ _ (by omega) (by omega)).trans a3, (e1 _ _ (by omega) (by omega)).trans a4, (e1 _ _ (by omega) (by omega)).trans a5, (e1 _ _ (by omega) (by omega)).trans a6⟩, fun a ha => ?_, fun w hw => ?_, fun b hb2 => ?_, fun j hj => ?_⟩
  · rw [e1 12 _ (by omega) (by omega), e1 13 _ (by omega) (by omega)]; exact h2 a ha
  · rw [e1 15 _ (by omega) (by omega), e1 16 _ (by omega) (by omega), e1 17 _ (by omega) (by omega)]; exact h3 w hw
  · obtain ⟨b1, b2', c, c1, c2', c3, c5⟩ := h4 b hb2
    exact ⟨(e1 19 _ (by omega) (by omega)).trans b1, (e1 20 _ (by omega) (by omega)).trans b2', c, (e1 21 _ (by omega) (by omega)).trans c1, (e1 22 _ (by omega) (by omega)).trans c2', c3, fun i hi => (e1 _ _ (by omega) (by omega)).trans (c5 i hi)⟩
  · show MLc s j br2 co2 (tG T.2.2.2 k L j) G2
    by_cases ej : j = k
    · rw [ej, tG_s]; exact hL
    · rw [tG_n ej]
      exact MLc_fr (h5 j hj) hb hc (fun q hq => e6 q _ hq (by omega)) (fun q i a b _ d => e7 q i a b d) (fun q i a _ d => e8 q i a d)
section LT
variable {t l p cl br co : Nat} {D : TKd} {N : Nat × Nat} {T : Txt} {NM : List (List Nat × Bool)} {Gx Gm : Hp}
theorem mLaw_f {f i b : Nat} {k : Int32} {G : Hp} (h : MF l D f i G) (h42 : G.1 0 42 = nI b) (hb : b < 260) : ∃ G2, fX11_tellLaw SHM G 0 k = some G2 ∧ MF l D f i G2 ∧ ∀ c, EEL b c G G2 := by
  obtain ⟨G2, a1, a2, a3⟩ := mJ129_f (k := k) (x := nI b) h h42 hb
  unfold fX11_tellLaw
  rw [mMust_f h]
  simp only [ob, obd]
  rw [h42]
  have eO : (fun s : Hp × Int32 => fX11_tellLaw_S12 SHM 0 k (nI b) s.1 s.2) (G, 0) = some (.inr (.inl G)) := mLawS_f h
  rw [iter_mono 1 fuel _ _ (iter_out eO) (by unfold fuel; omega)]
  exact ⟨G2, a1, a2, a3⟩
theorem ELL.xl {w : Nat} {G G2 : Hp} (h : ELL w G G2) (hw : 43 - t + 9 ≤ w ∧ w ≤ 43 - t + 17) : EXl t G G2 := ⟨fun _ _ _ => by rw [h.1], fun _ _ _ _ _ => by rw [h.1], fun q k a b => h.2 q k (by omega) (by omega) (by omega) (by omega)⟩
theorem jLaw {k w : Nat} (hD : TKo D) (hX : BXs t D p N T NM Gx) (hM : BMs l D p N T NM cl br co Gm) (hJ : BJ l p N T NM cl br co) (hk3 : k < 3) (hk : D.1 p = 29 + k) (hw : w = 43 - t + 9 + 4 * k) : TOK t l D p Gx Gm (fX6_readLaw SHX Gx 1 w) (fX11_tellOne SHM Gm 0) := by
  have ht := hX.1.1.1
  have hl := hJ.1
  have hcn := hJ.2.2.1
  have hcr := hJ.2.2.2.1
  have hp4 := hM.1.2.2.1.2.1
  have hbr : br / 130 = 1 - l := by omega
  have hco : co / 420 = 1 - l := by omega
  have hwl : isL w := by unfold isL; omega
  have hwr : 43 - t + 9 ≤ w ∧ w ≤ 43 - t + 17 := by omega
  have eM : fX11_tellOne SHM Gm 0 = (fX11_goesOn SHM Gm 0).bind fun G10 => (fX11_tellLaw SHM G10 0 (nI k)).bind fun G12 => some G12 := by
    unfold fX11_tellOne
    rw [ml_5 hM.1.1]
    simp only [ob]
    rw [mKd hM.1, hk]
    simp only [ob]
    have e3 : k = 0 ∨ k = 1 ∨ k = 2 := by omega
    have ej : fX11_tellOne_J285 SHM Gm 0 = (fX11_goesOn SHM Gm 0).bind fun G10 => (fX11_tellLaw SHM G10 0 (nI k)).bind fun G12 => some G12 := by
      unfold fX11_tellOne_J285
      rw [ml_5 hM.1.1]
      simp only [ob]
      rw [mKd hM.1, hk]
      simp only [ob, obd]
      rw [hM.1.2.2.2.2.1]
      rcases e3 with rfl | rfl | rfl
      · rw [show nI (29 + 0) - 29 = nI 0 from by decide, if_neg (by decide), if_pos (by decide), if_pos (by decide)]
      · rw [show nI (29 + 1) - 29 = nI 1 from by decide, if_neg (by decide), if_pos (by decide), if_pos (by decide)]
      · rw [show nI (29 + 2) - 29 = nI 2 from by decide, if_neg (by decide), if_pos (by decide), if_pos (by decide)]
    rw [← ej]
    rcases e3 with rfl | rfl | rfl
    · rw [if_neg (by decide), if_neg (by decide), if_neg (by decide), if_neg (by decide), if_neg (by decide), if_neg (by decide), if_neg (by decide), if_neg (by decide), if_neg (by decide), if_pos (by decide)]
    · rw [if_neg (by decide), if_neg (by decide), if_neg (by decide), if_neg (by decide), if_neg (by decide), if_neg (by decide), if_neg (by decide), if_neg (by decide), if_neg (by decide), if_neg (by decide), if_pos (by decide)]
    · rw [if_neg (by decide), if_neg (by decide), if_neg (by decide), if_neg (by decide), if_neg (by decide), if_neg (by decide), if_neg (by decide), if_neg (by decide), if_neg (by decide), if_neg (by decide), if_neg (by decide), if_pos (by decide)]
  rw [eM]
  unfold fX6_readLaw
  have hb26 : br < 260 := by omega
  by_cases hp : p < 400
  · obtain ⟨X2, x1, x2, x3⟩ := xPass_y (k := D.1 p) (w := Gx.1 1 5) hD hX.1 hX.1.2.2.2.2.1 rfl (by omega) hp
    obtain ⟨M2, m1, m2, m3, -⟩ := mGoes_y hD hM.1 (by omega) hp
    have hBX2 := hX.E x2 (by decide) x3 (fun z => z)
    have hBM2 := hM.E m2 m3 (fun z => z)
    rw [x1, m1]
    simp only [obp, ob]
    rw [if_neg one_ne, obs]
    by_cases e5 : D.1 (p + 1) = 5 ∧ p + 1 < 400
    · obtain ⟨X5, y1, y2, y3⟩ := xPass_y (k := 5) (w := 61) hD x3 rfl e5.1 (by decide) e5.2
      obtain ⟨M4, n1, n2, n3⟩ := mMust_y (k := 5) (w := 5) hD m3 rfl e5.1 (by decide) e5.2
      have hBX5 := hBX2.E y2 (by decide) y3 (fun z => z)
      have hBM4 := hBM2.E n2 n3 (fun z => z)
      rw [y1]
      unfold fX11_tellLaw
      rw [n1]
      simp only [obp, ob, obd]
      rw [if_neg one_ne]
      have hlx : LX t (sR X5 1 10 (some w)) := LX_10 y3.1
      rw [show ldO SHX (sR X5 1 10 (some w)) 1 10 4 = some w from by
        rcases hwl with rfl | rfl | rfl | rfl | rfl | rfl <;> exact ldO_of sR_10 (by decide +kernel)]
      simp only [ob]
      unfold fX4_clear
      simp only [obd, ob]
      have h42 : M4.1 0 42 = nI br := hBM4.2.2.2.2.1.2.1
      rw [h42]
      have eXs : ∀ q j, ¬ (q = w ∧ (j = 1 ∨ j = 3)) → (sI (sI (sR X5 1 10 (some w)) w 1 0) w 3 0).1 q j = X5.1 q j := fun q j hq => by
        rw [sI_ne (by omega), sI_ne (by omega)]; rfl
      have hX10 : XP t D (p + 2) N (sI (sI (sR X5 1 10 (some w)) w 1 0) w 3 0) := by
        obtain ⟨q1, q2, q3, q4, q5, q6, q7⟩ := y3
        exact ⟨hlx, q2.E (fun q k hq => eXs q k (by omega)) rfl, q3, (eXs 1 _ (by omega)).trans q4, (eXs 1 _ (by omega)).trans q5, (eXs 1 _ (by omega)).trans q6, fun z => (eXs 1 _ (by omega)).trans (q7 z)⟩
      have fX10 : EXl t Gx (sI (sI (sR X5 1 10 (some w)) w 1 0) w 3 0) := x2.xl.tr (y2.xl.tr ⟨fun q j a => sR_o a, fun _ _ _ _ _ => rfl, fun q j a b => eXs q j (by omega)⟩)
      have hLx : LWx t w D (p + 2) N (lt3 []) (sI (sI (sR X5 1 10 (some w)) w 1 0) w 3 0) := ⟨hX10, ⟨hwl, (sR_10 (G := X5) (v := some w)), (sI_ne (by omega)).trans sI_same, fun i hi => absurd hi (by show ¬ i < 0; omega)⟩, sI_same, fun j hj => absurd hj (by show ¬ j < 0; omega), fun j hj => absurd hj (by show ¬ j < 0; omega)⟩
      have hLm : LWm l D (p + 2) N br co [] M4 := ⟨n3, hBM4.2.1, h42, hBM4.2.2.2.2.1.2.2, trivial, by show co + 0 ≤ _ ∧ 4 * (br + 0) + 2 ≤ _ ∧ 0 + 2 ≤ _ ∧ _ ∧ _; omega, fun U hU => by cases hU⟩
      rcases jLoop (k := k) hD hl hk3 5 [] (p + 2) _ _ rfl (by decide) hLx hLm fuel fuel (by unfold fuel; omega) (by unfold fuel; omega) with ⟨X3, f, i, M5, c1, c2', c3, c4, c5, c6⟩ | ⟨X3, M5, p2, L, e, c1, c2', c3, c4, c5, d1, d2, d3, d4, d5, d6, d7, d8, d9, d10, d11, d12, d13⟩
      · left
        exact ⟨X3, f, i, M5, c1, c2', fX10.tr (c3.xl hwr), c4, c5, m2.yl.tr (n2.yl.tr (c6.yl hk3 hbr hco))⟩
      · right
        have gx : ∀ q j, q ≠ 1 → q ≠ w → q ≠ w + 1 → q ≠ w + 2 → X3.1 q j = X5.1 q j := fun q j a b c d => (c4.2 q j (by omega) (by omega) c d).trans (eXs q j (by omega))
        have gj : ∀ q, X3.2.1 q = X5.2.1 q := fun q => by rw [c4.1]; rfl
        have gm : ∀ q j, q ≠ 0 → q ≠ 36 → ¬ ((q = 33 ∨ q = 34) ∧ co ≤ j) → ¬ ((28 ≤ q ∧ q ≤ 32) ∧ br ≤ j) → ¬ ((q = 26 ∨ q = 27) ∧ j = 3 * (1 - l) + k) → M5.1 q j = M4.1 q j := fun q j a b c d e => c5.2 q j (by omega) b (by omega) (by omega) e
        refine ⟨X3, M5, p2, N, (T.1, T.2.1, T.2.2.1, tG T.2.2.2 k L), NM, cl, e, co + L.flatten.length, c1, c2', by omega, ⟨d1, ?_, ?_, fun i hi => ?_, fun z => ?_⟩, fX10.tr (c4.xl hwr), ⟨d4, d5, ?_, ⟨?_, ?_, ?_, ?_⟩, ⟨?_, d6, d7⟩, fun z => ?_⟩, m2.yl.tr (n2.yl.tr (c5.yl hk3 hbr hco)), hl, hJ.2.1.s (by omega), hcn, by omega, fun z => ?_⟩
        · exact hBX5.2.1.E ((c4.2 1 12 (by omega) (by omega) (by omega) (by omega)).trans (eXs 1 12 (by omega))) (gj 8)
        · exact hBX5.2.2.1.E (gj 9)
        · exact (gx _ _ (by omega) (by omega) (by omega) (by omega)).trans (hBX5.2.2.2.1 i hi)
        · refine XT_l (hBX5.2.2.2.2 z) hk3 (fun q j a b c d f => gx q j (by omega) (by omega) (by omega) (by omega)) (gj _) ?_
          rw [← hw]; exact d2
        · obtain ⟨w1, w2, w3, w4⟩ := hBM4.2.2.1
          exact ⟨(c5.2 0 20 (by omega) (by omega) (by omega) (by omega) (by omega)).trans w1, w2, w3, fun j hj => ⟨by rw [c5.1]; exact (w4 j hj).1, (gm 9 j (by omega) (by omega) (by omega) (by omega) (by omega)).trans (w4 j hj).2⟩⟩
        · exact (gm _ _ (by omega) (by omega) (by omega) (by omega) (by omega)).trans hBM4.2.2.2.1.1
        · exact (gm _ _ (by omega) (by omega) (by omega) (by omega) (by omega)).trans hBM4.2.2.2.1.2.1
        · exact (gm _ _ (by omega) (by omega) (by omega) (by omega) (by omega)).trans hBM4.2.2.2.1.2.2.1
        · exact (gm _ _ (by omega) (by omega) (by omega) (by omega) (by omega)).trans hBM4.2.2.2.1.2.2.2
        · exact (c5.2 0 36 (by omega) (by omega) (by omega) (by omega) (by omega)).trans hBM4.2.2.2.2.1.1
        · exact MTc_l (hBM4.2.2.2.2.2 z) (by omega) (by omega) (fun q j a b => gm q j (by omega) (by omega) (by omega) (by omega) (by omega)) (fun q j a b => gm q j (by omega) (by omega) (by omega) (by omega) (by omega)) (fun q j a b c => gm q j (by omega) (by omega) (by omega) (by omega) (by omega)) (fun q j a b => gm q j (by omega) (by omega) (by omega) (by omega) (by omega)) (Or.inr ⟨br, e, co, d9, d10, d11, ⟨⟨by omega, by omega⟩, by omega, by omega⟩, d8⟩)
        · obtain ⟨w1, w2, w3, w4, w5⟩ := hJ.2.2.2.2 z
          refine ⟨w1, w2, w3, w4, fun j hj => ?_⟩
          show WFL (tG T.2.2.2 k L j)
          by_cases ej : j = k
          · rw [ej, tG_s]; exact d3
          · rw [tG_n ej]; exact w5 j hj
    · left
      obtain ⟨X5, y1, y2, y3⟩ := xPass_n (k := 5) (w := 61) hD x3 rfl (by decide) e5
      obtain ⟨M4, n1, n2, n3⟩ := mMust_n (k := 5) (w := 5) hD m3 rfl (by decide) e5
      have h42 : M4.1 0 42 = nI br := (n2.2 0 42 (by omega)).trans hBM2.2.2.2.2.1.2.1
      obtain ⟨M6, a1, a2, a3⟩ := mLaw_f (k := nI k) n3 h42 hb26
      have a1' : fX11_tellLaw SHM M2 0 (nI k) = some M6 := by
        have b1 := a1
        unfold fX11_tellLaw at b1 ⊢
        rw [mMust_f n3] at b1
        rw [n1]; exact b1
      rw [y1, a1']
      exact ⟨X5, _, p + 1, M6, rfl, y3, x2.xl.tr y2.xl, rfl, a2, m2.yl.tr (n2.yl.tr (((a3 co).k (k := k)).yl hk3 hbr hco))⟩
  · left
    obtain ⟨X2, x1, x2, x3⟩ := xPass_n (k := D.1 p) (w := Gx.1 1 5) hD hX.1 hX.1.2.2.2.2.1 (hD.2.1 _) (fun z => hp z.2)
    obtain ⟨M2, m1, m2, m3⟩ := mGoes_n hM.1 hp
    rw [if_pos rfl] at x3
    have h42 : M2.1 0 42 = nI br := (m2.2 0 42 (by omega)).trans hM.2.2.2.2.1.2.1
    obtain ⟨M6, a1, a2, a3⟩ := mLaw_f (k := nI k) m3 h42 hb26
    rw [x1, m1]
    simp only [obp, ob]
    rw [a1]
    exact ⟨X2, 2, p, M6, rfl, x3, x2.xl, rfl, a2, m2.yl.tr (((a3 co).k (k := k)).yl hk3 hbr hco)⟩
end LT
