/-! TELLS: one bridge more. -/
def tF (f : Nat → List Nat) (i : Nat) (v : List Nat) : Nat → List Nat := fun j => if j = i then v else f j
theorem tF_s {f : Nat → List Nat} {i : Nat} {v : List Nat} : tF f i v i = v := if_pos rfl
theorem tF_n {f : Nat → List Nat} {i j : Nat} {v : List Nat} (h : j ≠ i) : tF f i v j = f j := if_neg h
theorem cpJ4 {sh : Sh} {G : Hp} {q0 q1 b : Nat} (h0 : 4 ≤ ln sh q0) (h1 : b * 4 + 4 ≤ ln sh q1) (hb : b < 100) : cpJ sh G q0 0 q1 (nI b * 4) 4 = some (rJ G q1 (va_cpy (G.2.1 q0) (G.2.1 q1) 0 (b * 4) 4)) := by
  unfold cpJ
  rw [show nI b * 4 = nI (b * 4) from pk_mul b 4, nI_clamp (by omega), if_pos ⟨⟨by decide, nI_pos (by omega), by decide⟩, by show 0 + 4 ≤ _; omega, by show b * 4 + 4 ≤ _; omega⟩]
  rfl
theorem cpy_bit {f g : Nat → Int64} {c s : Nat} (hs : s < 256) : bitX (va_cpy f g 0 (c * 4) 4) c s = bitX f 0 s := by
  unfold bitX va_cpy
  rw [if_pos (by omega), show 0 + (c * 4 + s / 64 - c * 4) = 0 * 4 + s / 64 by omega]
theorem cpy_bitn {f g : Nat → Int64} {c b s : Nat} (hs : s < 256) (hb : b < c) : bitX (va_cpy f g 0 (c * 4) 4) b s = bitX g b s := by
  unfold bitX va_cpy
  rw [if_neg (by omega)]
theorem stk_ev {U : List Nat} {s : Nat} (h : ∀ x ∈ U, x ≠ 20) : (stk U s).getD 0 false = evC (U.map cmk) s := by
  have e : U.map cxk = U.map cmk := List.map_congr_left (fun x hx => by unfold cxk cmk; rw [if_neg (h x hx), if_neg (h x hx)])
  unfold stk evC
  rw [e]
  cases (U.map cmk).foldl (stC s) [] <;> rfl
theorem XT_g {u a b : Nat} {C : List Nat} {T : Txt} {G G2 : Hp} (h : XT u T G) (e0 : ∀ q k, u ≤ q → q ≤ u + 19 → ¬ (q = u ∧ k = 3) → ¬ ((q = u + 6 ∨ q = u + 7) ∧ k = T.1 3) → G2.1 q k = G.1 q k) (e8 : ∀ b s, b < T.1 3 → s < 256 → bitX (G2.2.1 (u + 8)) b s = bitX (G.2.1 (u + 8)) b s) (v0 : G2.1 u 3 = nI (T.1 3 + 1)) (v1 : G2.1 (u + 6) (T.1 3) = nI a) (v2 : G2.1 (u + 7) (T.1 3) = nI b) (v8 : ∀ s, s < 256 → bitX (G2.2.1 (u + 8)) (T.1 3) s = evC C s) : XT u (tN T.1 3 (T.1 3 + 1), tR (tR T.2.1 5 (T.1 3) a) 6 (T.1 3) b, tF T.2.2.1 (T.1 3) C, T.2.2.2) G2 := by
  obtain ⟨h1, h2, h3, h4, h5, h6, h7⟩ := h
  refine ⟨fun i hi => ?_, fun w hw => ?_, fun w hw => ?_, fun j hj => ?_, XL_fr h5 (fun q k hq => e0 q k (by omega) (by omega) (by omega) (by omega)), XL_fr h6 (fun q k hq => e0 q k (by omega) (by omega) (by omega) (by omega)), XL_fr h7 (fun q k hq => e0 q k (by omega) (by omega) (by omega) (by omega))⟩
  · show _ = nI (tN T.1 3 (T.1 3 + 1) i)
    by_cases ei : i = 3
    · rw [ei, tN_s]; exact v0
    · rw [tN_n ei, e0 u i (by omega) (by omega) (by omega) (by omega)]; exact h1 i hi
  · have hw' : w < tN T.1 3 (T.1 3 + 1) 1 := hw
    rw [tN_n (by decide)] at hw'
    show _ = nI (tR (tR T.2.1 5 (T.1 3) a) 6 (T.1 3) b 0 w) ∧ _ = nI (tR (tR T.2.1 5 (T.1 3) a) 6 (T.1 3) b 1 w)
    rw [tR_n (by omega), tR_n (by omega), tR_n (by omega), tR_n (by omega), e0 _ _ (by omega) (by omega) (by omega) (by omega), e0 _ _ (by omega) (by omega) (by omega) (by omega)]
    exact h2 w hw'
  · have hw' : w < tN T.1 3 (T.1 3 + 1) 2 := hw
    rw [tN_n (by decide)] at hw'
    show _ = nI (tR (tR T.2.1 5 (T.1 3) a) 6 (T.1 3) b 2 w) ∧ _ = nI (tR (tR T.2.1 5 (T.1 3) a) 6 (T.1 3) b 3 w) ∧ _ = nI (tR (tR T.2.1 5 (T.1 3) a) 6 (T.1 3) b 4 w)
    rw [tR_n (by omega), tR_n (by omega), tR_n (by omega), tR_n (by omega), tR_n (by omega), tR_n (by omega), e0 _ _ (by omega) (by omega) (by omega) (by omega), e0 _ _ (by omega) (by omega) (by omega) (by omega), e0 _ _ (by omega) (by omega) (by omega) (by omega)]
    exact h3 w hw'
  · have hj' : j < tN T.1 3 (T.1 3 + 1) 3 := hj
    rw [tN_s] at hj'
    show _ = nI (tR (tR T.2.1 5 (T.1 3) a) 6 (T.1 3) b 5 j) ∧ _ = nI (tR (tR T.2.1 5 (T.1 3) a) 6 (T.1 3) b 6 j) ∧ ∀ s, s < 256 → bitX (G2.2.1 (u + 8)) j s = evC (tF T.2.2.1 (T.1 3) C j) s
    by_cases ej : j = T.1 3
    · rw [ej, tR_n (by omega), tR_s, tR_s, tF_s]; exact ⟨v1, v2, v8⟩
    · rw [tR_n (by omega), tR_n (by omega), tR_n (by omega), tR_n (by omega), e0 _ _ (by omega) (by omega) (by omega) (by omega), e0 _ _ (by omega) (by omega) (by omega) (by omega), tF_n ej]
      obtain ⟨k1, k2, k3⟩ := h4 j (by omega)
      exact ⟨k1, k2, fun s hs => (e8 j s (by omega) hs).trans (k3 s hs)⟩
theorem MTc_g {s cl cl2 br co a b c0 : Nat} {C : List Nat} {T : Txt} {G G2 : Hp} (h : MTc s cl br co T G) (hcl : cl ≤ cl2) (e0 : ∀ q k, q ≠ 0 → q ≠ 9 → q ≠ 23 → q ≠ 35 → ¬ (q = 18 ∧ k = s) → ¬ ((19 ≤ q ∧ q ≤ 22) ∧ k = 4 * s + T.1 3) → G2.1 q k = G.1 q k) (e5 : ∀ j, 420 * s ≤ j → j < cl → G2.1 23 j = G.1 23 j) (v0 : G2.1 18 s = nI (T.1 3 + 1)) (v1 : G2.1 19 (4 * s + T.1 3) = nI a) (v2 : G2.1 20 (4 * s + T.1 3) = nI b) (v3 : G2.1 21 (4 * s + T.1 3) = nI c0) (v4 : G2.1 22 (4 * s + T.1 3) = nI (c0 + C.length)) (hc0 : 420 * s ≤ c0 ∧ c0 + C.length ≤ cl2) (v5 : ∀ i, i < C.length → G2.1 23 (c0 + i) = nI (C.getD i 0)) : MTc s cl2 br co (tN T.1 3 (T.1 3 + 1), tR (tR T.2.1 5 (T.1 3) a) 6 (T.1 3) b, tF T.2.2.1 (T.1 3) C, T.2.2.2) G2 := by
  obtain ⟨⟨a1, a2, a3, a4, a5, a6⟩, h2, h3, h4, h5⟩ := h
  have e : ∀ q k, q ≠ 0 → q ≠ 9 → q ≠ 35 → q ≠ 23 → ¬ (18 ≤ q ∧ q ≤ 22) → G2.1 q k = G.1 q k := fun q k _ _ _ _ _ => e0 q k (by omega) (by omega) (by omega) (by omega) (by omega) (by omega)
  refine ⟨⟨?_, ?_, ?_, ?_, ?_, ?_⟩, fun w hw => ?_, fun w hw => ?_, fun j hj => ?_, fun k hk => MLc_fr (h5 k hk) (Nat.le_refl _) (Nat.le_refl _) (fun q2 hq => e q2 _ (by omega) (by omega) (by omega) (by omega) (by omega)) (fun q2 j _ _ _ _ => e q2 j (by omega) (by omega) (by omega) (by omega) (by omega)) (fun q2 j _ _ _ => e q2 j (by omega) (by omega) (by omega) (by omega) (by omega))⟩
  · show _ = nI (tN T.1 3 (T.1 3 + 1) 0); rw [tN_n (by decide)]; exact (e _ _ (by decide) (by decide) (by decide) (by decide) (by decide)).trans a1
  · show _ = nI (tN T.1 3 (T.1 3 + 1) 1); rw [tN_n (by decide)]; exact (e _ _ (by decide) (by decide) (by decide) (by decide) (by decide)).trans a2
  · show _ = nI (tN T.1 3 (T.1 3 + 1) 2); rw [tN_n (by decide)]; exact (e _ _ (by decide) (by decide) (by decide) (by decide) (by decide)).trans a3
  · show _ = nI (tN T.1 3 (T.1 3 + 1) 3); rw [tN_s]; exact v0
  · show _ = nI (tN T.1 3 (T.1 3 + 1) 4); rw [tN_n (by decide)]; exact (e _ _ (by decide) (by decide) (by decide) (by decide) (by decide)).trans a5
  · show _ = nI (tN T.1 3 (T.1 3 + 1) 5); rw [tN_n (by decide)]; exact (e _ _ (by decide) (by decide) (by decide) (by decide) (by decide)).trans a6
  · have hw' : w < tN T.1 3 (T.1 3 + 1) 1 := hw
    rw [tN_n (by decide)] at hw'
    show _ = nI (tR (tR T.2.1 5 (T.1 3) a) 6 (T.1 3) b 0 w) ∧ _ = nI (tR (tR T.2.1 5 (T.1 3) a) 6 (T.1 3) b 1 w)
    rw [tR_n (by omega), tR_n (by omega), tR_n (by omega), tR_n (by omega), e _ _ (by omega) (by omega) (by omega) (by omega) (by omega), e _ _ (by omega) (by omega) (by omega) (by omega) (by omega)]
    exact h2 w hw'
  · have hw' : w < tN T.1 3 (T.1 3 + 1) 2 := hw
    rw [tN_n (by decide)] at hw'
    show _ = nI (tR (tR T.2.1 5 (T.1 3) a) 6 (T.1 3) b 2 w) ∧ _ = nI (tR (tR T.2.1 5 (T.1 3) a) 6 (T.1 3) b 3 w) ∧ _ = nI (tR (tR T.2.1 5 (T.1 3) a) 6 (T.1 3) b 4 w)
    rw [tR_n (by omega), tR_n (by omega), tR_n (by omega), tR_n (by omega), tR_n (by omega), tR_n (by omega), e _ _ (by omega) (by omega) (by omega) (by omega) (by omega), e _ _ (by omega) (by omega) (by omega) (by omega) (by omega), e _ _ (by omega) (by omega) (by omega) (by omega) (by omega)]
    exact h3 w hw'
  · have hj' : j < tN T.1 3 (T.1 3 + 1) 3 := hj
    rw [tN_s] at hj'
    show _ = nI (tR (tR T.2.1 5 (T.1 3) a) 6 (T.1 3) b 5 j) ∧ _ = nI (tR (tR T.2.1 5 (T.1 3) a) 6 (T.1 3) b 6 j) ∧ ∃ c, G2.1 21 (4 * s + j) = nI c ∧ G2.1 22 (4 * s + j) = nI (c + (tF T.2.2.1 (T.1 3) C j).length) ∧ (420 * s ≤ c ∧ c + (tF T.2.2.1 (T.1 3) C j).length ≤ cl2) ∧ ∀ i, i < (tF T.2.2.1 (T.1 3) C j).length → G2.1 23 (c + i) = nI ((tF T.2.2.1 (T.1 3) C j).getD i 0)
    by_cases ej : j = T.1 3
    · rw [ej, tR_n (by omega), tR_s, tR_s, tF_s]; exact ⟨v1, v2, c0, v3, v4, hc0, v5⟩
    · rw [tR_n (by omega), tR_n (by omega), tR_n (by omega), tR_n (by omega), tF_n ej]
      have e1 : ∀ q, 19 ≤ q → q ≤ 22 → G2.1 q (4 * s + j) = G.1 q (4 * s + j) := fun q _ _ => e0 q _ (by omega) (by omega) (by omega) (by omega) (by omega) (by omega)
      obtain ⟨b1, b2', c, c1, c2', c3, c4⟩ := h4 j (by omega)
      exact ⟨(e1 19 (by omega) (by omega)).trans b1, (e1 20 (by omega) (by omega)).trans b2', c, (e1 21 (by omega) (by omega)).trans c1, (e1 22 (by omega) (by omega)).trans c2', ⟨c3.1, by omega⟩, fun i hi => (e5 _ (by omega) (by omega)).trans (c4 i hi)⟩
