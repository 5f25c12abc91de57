/-! TELLS: 'storm', 'seed', 'trait'. -/
theorem XT_n {u i v : Nat} {T : Txt} {G : Hp} (hu : u = 11 ∨ u = 32) (h : XT u T G) (hi : i = 0 ∨ i = 4 ∨ i = 5) : XT u (tN T.1 i v, T.2) (sI G u i (nI v)) := by
  obtain ⟨h1, h2, h3, h4, h5, h6, h7⟩ := h
  have e : ∀ q j, q ≠ u → (sI G u i (nI v)).1 q j = G.1 q j := fun q j hq => sI_ne (Or.inl hq)
  have k1 : ∀ j, j < 6 → (sI G u i (nI v)).1 u j = nI (tN T.1 i v j) := fun j hj => by
    by_cases ej : j = i
    · rw [ej, sI_same, tN_s]
    · rw [sI_ne (Or.inr ej), tN_n ej]; exact h1 j hj
  have k2 : ∀ a, a < T.1 1 → (sI G u i (nI v)).1 (u + 1) a = nI (T.2.1 0 a) ∧ (sI G u i (nI v)).1 (u + 2) a = nI (T.2.1 1 a) := fun a ha => by rw [e _ _ (by omega), e _ _ (by omega)]; exact h2 a ha
  have k3 : ∀ w, w < T.1 2 → (sI G u i (nI v)).1 (u + 3) w = nI (T.2.1 2 w) ∧ (sI G u i (nI v)).1 (u + 4) w = nI (T.2.1 3 w) ∧ (sI G u i (nI v)).1 (u + 5) w = nI (T.2.1 4 w) := fun w hw => by rw [e _ _ (by omega), e _ _ (by omega), e _ _ (by omega)]; exact h3 w hw
  have k4 : ∀ b, b < T.1 3 → (sI G u i (nI v)).1 (u + 6) b = nI (T.2.1 5 b) ∧ (sI G u i (nI v)).1 (u + 7) b = nI (T.2.1 6 b) ∧ ∀ s, s < 256 → bitX ((sI G u i (nI v)).2.1 (u + 8)) b s = evC (T.2.2.1 b) s := fun b hb => by rw [e _ _ (by omega), e _ _ (by omega)]; exact h4 b hb
  have k5 := XL_fr (G2 := sI G u i (nI v)) h5 (fun q k hq => e q k (by omega))
  have k6 := XL_fr (G2 := sI G u i (nI v)) h6 (fun q k hq => e q k (by omega))
  have k7 := XL_fr (G2 := sI G u i (nI v)) h7 (fun q k hq => e q k (by omega))
  rcases hi with rfl | rfl | rfl <;> exact ⟨k1, k2, k3, k4, k5, k6, k7⟩
theorem MTc_n {s cl br co i q v : Nat} {T : Txt} {G : Hp} (h : MTc s cl br co T G) (hi : (i = 0 ∧ q = 10) ∨ (i = 4 ∧ q = 24) ∨ (i = 5 ∧ q = 25)) : MTc s cl br co (tN T.1 i v, T.2) (sI G q s (nI v)) := by
  obtain ⟨⟨a1, a2, a3, a4, a5, a6⟩, h2, h3, h4, h5⟩ := h
  have e : ∀ q2 j, q2 ≠ q → (sI G q s (nI v)).1 q2 j = G.1 q2 j := fun q2 j hq => sI_ne (Or.inl hq)
  have k2 : ∀ a, a < T.1 1 → (sI G q s (nI v)).1 12 (7 * s + a) = nI (T.2.1 0 a) ∧ (sI G q s (nI v)).1 13 (7 * s + a) = nI (T.2.1 1 a) := fun a ha => by rw [e _ _ (by omega), e _ _ (by omega)]; exact h2 a ha
  have k3 : ∀ w, w < T.1 2 → (sI G q s (nI v)).1 15 (4 * s + w) = nI (T.2.1 2 w) ∧ (sI G q s (nI v)).1 16 (4 * s + w) = nI (T.2.1 3 w) ∧ (sI G q s (nI v)).1 17 (4 * s + w) = nI (T.2.1 4 w) := fun w hw => by rw [e _ _ (by omega), e _ _ (by omega), e _ _ (by omega)]; exact h3 w hw
  have k4 : ∀ b, b < T.1 3 → (sI G q s (nI v)).1 19 (4 * s + b) = nI (T.2.1 5 b) ∧ (sI G q s (nI v)).1 20 (4 * s + b) = nI (T.2.1 6 b) ∧ ∃ c, (sI G q s (nI v)).1 21 (4 * s + b) = nI c ∧ (sI G q s (nI v)).1 22 (4 * s + b) = nI (c + (T.2.2.1 b).length) ∧ (420 * s ≤ c ∧ c + (T.2.2.1 b).length ≤ cl) ∧ ∀ i, i < (T.2.2.1 b).length → (sI G q s (nI v)).1 23 (c + i) = nI ((T.2.2.1 b).getD i 0) := fun b hb => by
    obtain ⟨b1, b2', c, c1, c2', c3, c4⟩ := h4 b hb
    exact ⟨(e _ _ (by omega)).trans b1, (e _ _ (by omega)).trans b2', c, (e _ _ (by omega)).trans c1, (e _ _ (by omega)).trans c2', c3, fun i hi => (e _ _ (by omega)).trans (c4 i hi)⟩
  have k5 : ∀ k, k < 3 → MLc s k br co (T.2.2.2 k) (sI G q s (nI v)) := fun k hk => MLc_fr (h5 k hk) (Nat.le_refl _) (Nat.le_refl _) (fun q2 hq => e q2 _ (by omega)) (fun q2 j _ _ _ _ => e q2 j (by omega)) (fun q2 j _ _ _ => e q2 j (by omega))
  rcases hi with ⟨rfl, rfl⟩ | ⟨rfl, rfl⟩ | ⟨rfl, rfl⟩
  · exact ⟨⟨sI_same, (e _ _ (by omega)).trans a2, (e _ _ (by omega)).trans a3, (e _ _ (by omega)).trans a4, (e _ _ (by omega)).trans a5, (e _ _ (by omega)).trans a6⟩, k2, k3, k4, k5⟩
  · exact ⟨⟨(e _ _ (by omega)).trans a1, (e _ _ (by omega)).trans a2, (e _ _ (by omega)).trans a3, (e _ _ (by omega)).trans a4, sI_same, (e _ _ (by omega)).trans a6⟩, k2, k3, k4, k5⟩
  · exact ⟨⟨(e _ _ (by omega)).trans a1, (e _ _ (by omega)).trans a2, (e _ _ (by omega)).trans a3, (e _ _ (by omega)).trans a4, (e _ _ (by omega)).trans a5, sI_same⟩, k2, k3, k4, k5⟩
section TL
variable {t l p cl br co : Nat} {D : TKd} {N : Nat × Nat} {T : Txt} {NM : List (List Nat × Bool)} {Gx Gm : Hp}
/-- steps that only read on keep what is built -/
theorem BXs.E {m p2 : Nat} {N2 : Nat × Nat} {G2 : Hp} (h : BXs t D p N T NM Gx) (e : Er1 m Gx G2) (hm : m ≤ 11) (h1 : XP t D p2 N2 G2) (hN : N2.1 = 0 → N.1 = 0) : BXs t D p2 N2 T NM G2 := by
  have ht := h.1.1.1
  exact ⟨h1, h.2.1.E (e.2 1 12 (by omega)) (by rw [e.1]), h.2.2.1.E (by rw [e.1]), fun i hi => (e.2 _ i (by omega)).trans (h.2.2.2.1 i hi), fun z => XT_fr (h.2.2.2.2 (hN z)) (fun q k a b _ _ => e.2 q k (by omega)) (by rw [e.1])⟩
theorem BMs.E {p2 : Nat} {N2 : Nat × Nat} {G2 : Hp} (h : BMs l D p N T NM cl br co Gm) (e : Er0 Gm G2) (h1 : MPs l D p2 N2 G2) (hN : N2.1 = 0 → N.1 = 0) : BMs l D p2 N2 T NM cl br co G2 := by
  obtain ⟨-, a2, a3, ⟨b1, b2', b3, b4⟩, ⟨c1, c2', c3⟩, a6⟩ := h
  exact ⟨h1, (e.2 0 12 (by omega)).trans a2, a3.E e, ⟨(e.2 _ _ (by omega)).trans b1, (e.2 _ _ (by omega)).trans b2', (e.2 _ _ (by omega)).trans b3, (e.2 _ _ (by omega)).trans b4⟩, ⟨(e.2 _ _ (by omega)).trans c1, (e.2 _ _ (by omega)).trans c2', (e.2 _ _ (by omega)).trans c3⟩, fun z => MTc_fr (a6 (hN z)) (Nat.le_refl _) (Nat.le_refl _) (Nat.le_refl _) (fun q hq => e.2 q _ (by omega)) (fun q j hq _ _ => e.2 q j (by omega)) (fun q j _ _ _ _ => e.2 q j (by omega)) (fun q j _ _ _ _ => e.2 q j (by omega)) (fun j _ _ => e.2 23 j (by omega)) (fun q j hq _ _ => e.2 q j (by omega)) (fun q j _ _ _ _ => e.2 q j (by omega)) (fun q j hq _ _ => e.2 q j (by omega))⟩
theorem BJ.s {p2 : Nat} (h : BJ l p N T NM cl br co) (hp : p ≤ p2) : BJ l p2 N T NM cl br co := ⟨h.1, h.2.1.s hp, h.2.2.1, by have := h.2.2.2.1; omega, h.2.2.2.2⟩
/-- a number told: 'storm', 'seed' -/
theorem jNumT {i q b kk : Nat} {w lb : Int32} (hD : TKo D) (hX : BXs t D p N T NM Gx) (hM : BMs l D p N T NM cl br co Gm) (hJ : BJ l p N T NM cl br co) (hk : D.1 p = kk) (hw : w = ck kk) (hkk : okK kk = true ∧ kk ≠ 0) (hlb : lb = nI b) (hb : (i = 4 ∧ q = 24 ∧ b = 100) ∨ (i = 5 ∧ q = 25 ∧ b = 9999)) {om : Option Hp} (hom : om = (fX11_goesOn SHM Gm 0).bind fun G54 => bp (fX11_bounded SHM G54 0 0 lb) fun r56 G57 => (asI SHM G57 q (G54.1 0 19) r56).bind fun G58 => (fX11_must SHM G58 0 4).bind fun G60 => some G60) :
    TOK t l D p Gx Gm (bp (fX6_pass SHX Gx 1 w) fun r1 G2 => if r1 = 0 then some (0, G2) else bp (fX6_readNumber SHX G2 1 0 lb) fun r4 G5 => if r4 = 0 then some (0, G5) else (ldO SHX G5 1 9 8).bind fun a7 => bd (sI G5 a7 i (G5.1 1 7)) fun G8 => bp (fX6_pass SHX G8 1 59) fun r9 G10 => if ¬ (r9 = 0 ∨ r9 = 1) then none else some (r9, G10)) om := by
  subst hom
  have ht := hX.1.1.1
  have hl := hJ.1
  have hqn : ln SHM q = 2 := by rcases hb with ⟨-, rfl, -⟩ | ⟨-, rfl, -⟩; exact mn_24; exact mn_25
  have hiq : i < 6 ∧ 4 ≤ i ∧ q = 20 + i ∧ b < 20000 := by omega
  have hsd : sdM l q (1 - l) := by unfold sdM; omega
  by_cases hp : p < 400
  · obtain ⟨X2, x1, x2, x3⟩ := xPass_y hD hX.1 hw hk hkk.2 hp
    obtain ⟨M2, m1, m2, m3, -⟩ := mGoes_y hD hM.1 (by rw [hk]; exact hkk.2) hp
    rw [x1, m1]
    simp only [obp, ob]
    rw [if_neg one_ne]
    have hBX2 := hX.E x2 (by decide) x3 (fun z => z)
    have hBM2 := hM.E m2 m3 (fun z => z)
    have hJ2 := hJ.s (show p ≤ p + 1 by omega)
    by_cases e2 : D.1 (p + 1) = 2 ∧ p + 1 < 400
    · obtain ⟨X5, y1, y2, y3, y4⟩ := xNumb_y (a := 0) (b := b) (la := 0) hD x3 rfl hlb ⟨by decide, by omega⟩ e2.1 e2.2
      obtain ⟨M5, n1, n2, n3⟩ := mNumb_y (a := 0) (b := b) (la := 0) hD m3 hJ2.2.1 rfl hlb ⟨by decide, by omega⟩ e2.1 e2.2
      rw [y1, n1]
      simp only [obp]
      rw [if_neg one_ne, xl_rtext y3.1, m3.2.2.2.2.2.2.2.2, asI_n (by rw [hqn]; omega) (by omega)]
      simp only [ob, obd]
      rw [y4]
      have hN2 : (ntp (badV D 0 b (p + 1)) 5 (p + 1) N).1 = 0 → N.1 = 0 ∧ D.2.2.1 (p + 1) ≤ b := fun z => by
        obtain ⟨z1, z2⟩ := ntp_0 (by decide) z
        refine ⟨z1, ?_⟩
        unfold badV at z2
        rw [Bool.not_eq_false', Bool.and_eq_true, decide_eq_true_iff, decide_eq_true_iff] at z2
        exact z2.2
      have hok2 : okN (p + 2) (ntp (badV D 0 b (p + 1)) 5 (p + 1) N) := hJ2.2.1.n (by decide)
      have hBX5 := hBX2.E y2 (by decide) y3 (fun z => (hN2 z).1)
      have hBM5 := hBM2.E n2 n3 (fun z => (hN2 z).1)
      -- the number is put down
      have hX8 : XP t D (p + 2) (ntp (badV D 0 b (p + 1)) 5 (p + 1) N) (sI X5 (43 - t) i (nI (D.2.2.1 (p + 1)))) := by
        obtain ⟨q1, q2, q3, q4, q5, q6, q7⟩ := y3
        exact ⟨q1, q2.E (fun q k hq => sI_ne (by omega)) rfl, q3, (sI_ne (by omega)).trans q4, (sI_ne (by omega)).trans q5, (sI_ne (by omega)).trans q6, fun z => (sI_ne (by omega)).trans (q7 z)⟩
      have hBX8 : BXs t D (p + 2) (ntp (badV D 0 b (p + 1)) 5 (p + 1) N) (tN T.1 i (D.2.2.1 (p + 1)), T.2) NM (sI X5 (43 - t) i (nI (D.2.2.1 (p + 1)))) := by
        refine ⟨hX8, hBX5.2.1.E (sI_ne (by omega)) rfl, hBX5.2.2.1.E rfl, fun j hj => ?_, fun z => XT_n (by omega) (hBX5.2.2.2.2 z) (by omega)⟩
        show _ = nI (tN T.1 i (D.2.2.1 (p + 1)) j)
        rw [sI_ne (by omega), tN_n (by omega)]
        exact hBX5.2.2.2.1 j hj
      have hM8 : MPs l D (p + 2) (ntp (badV D 0 b (p + 1)) 5 (p + 1) N) (sI M5 q (1 - l) (nI (D.2.2.1 (p + 1)))) := n3.E rfl rfl (fun q2 k hq => sI_ne (by omega)) (fun k hk => sI_ne (by omega))
      have hBM8 : BMs l D (p + 2) (ntp (badV D 0 b (p + 1)) 5 (p + 1) N) (tN T.1 i (D.2.2.1 (p + 1)), T.2) NM cl br co (sI M5 q (1 - l) (nI (D.2.2.1 (p + 1)))) := by
        obtain ⟨-, a2, a3, ⟨b1, b2', b3, b4⟩, ⟨c1, c2', c3⟩, a6⟩ := hBM5
        refine ⟨hM8, (sI_ne (by omega)).trans a2, ?_, ⟨?_, ?_, ?_, ?_⟩, ⟨(sI_ne (by omega)).trans c1, (sI_ne (by omega)).trans c2', (sI_ne (by omega)).trans c3⟩, fun z => MTc_n (a6 z) (by omega)⟩
        · obtain ⟨w1, w2, w3, w4⟩ := a3
          exact ⟨(sI_ne (by omega)).trans w1, w2, w3, fun j hj => ⟨(w4 j hj).1, (sI_ne (by omega)).trans (w4 j hj).2⟩⟩
        · show _ = nI (tN T.1 i (D.2.2.1 (p + 1)) 0); rw [sI_ne (by omega), tN_n (by omega)]; exact b1
        · show _ = nI (tN T.1 i (D.2.2.1 (p + 1)) 1); rw [sI_ne (by omega), tN_n (by omega)]; exact b2'
        · show _ = nI (tN T.1 i (D.2.2.1 (p + 1)) 2); rw [sI_ne (by omega), tN_n (by omega)]; exact b3
        · show _ = nI (tN T.1 i (D.2.2.1 (p + 1)) 3); rw [sI_ne (by omega), tN_n (by omega)]; exact b4
      have fX8 : EXl t Gx (sI X5 (43 - t) i (nI (D.2.2.1 (p + 1)))) := x2.xl.tr (y2.xl.tr (EXl.s (by omega)))
      have fM8 : EYl l Gm (sI M5 q (1 - l) (nI (D.2.2.1 (p + 1)))) := m2.yl.tr (n2.yl.tr (EYl.s hsd))
      have hJ8 : BJ l (p + 2) (ntp (badV D 0 b (p + 1)) 5 (p + 1) N) (tN T.1 i (D.2.2.1 (p + 1)), T.2) NM cl br co := by
        refine ⟨hl, hok2, ?_, by have := hJ.2.2.2.1; omega, fun z => ?_⟩
        · show tN T.1 i _ 0 = _ ∧ tN T.1 i _ 0 ≤ 8 ∧ tN T.1 i _ 1 ≤ 7 ∧ tN T.1 i _ 2 ≤ 4 ∧ tN T.1 i _ 3 ≤ 4 ∧ _ = tN T.1 i _ 0 + tN T.1 i _ 1 + tN T.1 i _ 2 + tN T.1 i _ 3
          rw [tN_n (by omega), tN_n (by omega), tN_n (by omega), tN_n (by omega)]
          exact hJ.2.2.1
        · obtain ⟨z1, z2⟩ := hN2 z
          obtain ⟨⟨w1, w2, w3, w4, w5, w6⟩, w7⟩ := hJ.2.2.2.2 z1
          rcases hb with ⟨rfl, rfl, rfl⟩ | ⟨rfl, rfl, rfl⟩
          · exact ⟨⟨w1, w2, w3, w4, z2, w6⟩, w7⟩
          · exact ⟨⟨w1, w2, w3, w4, w5, z2⟩, w7⟩
      by_cases e4 : D.1 (p + 2) = 4 ∧ p + 2 < 400
      · right
        obtain ⟨X10, u1, u2, u3⟩ := xPass_y (k := 4) (w := 59) hD hX8 rfl e4.1 (by decide) e4.2
        obtain ⟨M10, v1, v2, v3⟩ := mMust_y (k := 4) (w := 4) hD hM8 rfl e4.1 (by decide) e4.2
        rw [q01 u1 (Or.inr rfl), v1]
        exact ⟨X10, M10, p + 3, _, _, NM, cl, br, co, rfl, rfl, by omega, hBX8.E u2 (by decide) u3 (fun z => z), fX8.tr u2.xl, hBM8.E v2 v3 (fun z => z), fM8.tr v2.yl, hJ8.s (by omega)⟩
      · left
        obtain ⟨X10, u1, u2, u3⟩ := xPass_n (k := 4) (w := 59) hD hX8 rfl (by decide) e4
        obtain ⟨M10, v1, v2, v3⟩ := mMust_n (k := 4) (w := 4) hD hM8 rfl (by decide) e4
        rw [q01 u1 (Or.inl rfl), v1]
        exact ⟨X10, _, p + 2, M10, rfl, u3, fX8.tr u2.xl, rfl, v3, fM8.tr v2.yl⟩
    · left
      obtain ⟨X5, y1, y2, y3⟩ := xNumb_n (la := 0) (lb := lb) hD x3 e2
      obtain ⟨v, M5, n1, n2, n3⟩ := mNumb_n (la := 0) (lb := lb) hD m3 hJ2.2.1 e2
      rw [y1, n1]
      simp only [obp]
      rw [if_pos trivial, m3.2.2.2.2.2.2.2.2, asI_n (by rw [hqn]; omega) (by omega)]
      simp only [ob]
      have mf := n3.E (G2 := sI M5 q (1 - l) v) rfl (fun k hk => sI_ne (by omega))
      rw [mMust_f mf]
      exact ⟨X5, _, p + 1, _, rfl, y3, x2.xl.tr y2.xl, rfl, mf, m2.yl.tr (n2.yl.tr (EYl.s hsd))⟩
  · left
    obtain ⟨X2, x1, x2, x3⟩ := xPass_n hD hX.1 hw hkk.1 (fun z => hp z.2)
    obtain ⟨M2, m1, m2, m3⟩ := mGoes_n hM.1 hp
    rw [if_pos hk] at x3
    rw [x1, m1]
    simp only [obp, ob]
    rw [if_pos trivial, mNumb_f m3]
    simp only [obp]
    rw [m3.2.2.2.2.2.2, asI_n (by rw [hqn]; omega) (by omega)]
    simp only [ob]
    have mf := m3.E (G2 := sI M2 q (1 - l) 0) rfl (fun k hk => sI_ne (by omega))
    rw [mMust_f mf]
    exact ⟨X2, 2, p, _, rfl, x3, x2.xl, rfl, mf, m2.yl.tr (EYl.s hsd)⟩
end TL
