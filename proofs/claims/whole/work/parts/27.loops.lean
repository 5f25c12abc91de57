/-! LOOPS, copies, clauses. -/
theorem iter_inv {σ ρ : Type} {f : σ → Option (σ ⊕ ρ)} {P : Nat → σ → Prop} {Q : ρ → Prop} (N : Nat) (hstep : ∀ i s, i < N → P i s → (∃ s2, f s = some (.inl s2) ∧ P (i + 1) s2) ∨ ∃ o, f s = some (.inr o) ∧ Q o) (hend : ∀ s, P N s → ∃ o, f s = some (.inr o) ∧ Q o) : ∀ (k i : Nat) (s : σ) (fu : Nat), i + k = N → P i s → k < fu → ∃ o, iter f fu s = some o ∧ Q o := by
  intro k
  induction k with
  | zero =>
    intro i s fu hi hP hf
    obtain ⟨fu, rfl⟩ : ∃ n, fu = n + 1 := ⟨fu - 1, by omega⟩
    obtain ⟨o, h1, h2⟩ := hend s (by rw [← hi]; exact hP)
    exact ⟨o, iter_out h1, h2⟩
  | succ k ih =>
    intro i s fu hi hP hf
    obtain ⟨fu, rfl⟩ : ∃ n, fu = n + 1 := ⟨fu - 1, by omega⟩
    rcases hstep i s (by omega) hP with ⟨s2, h1, h2⟩ | ⟨o, h1, h2⟩
    · obtain ⟨o, h3, h4⟩ := ih (i + 1) s2 fu (by omega) h2 (by omega)
      exact ⟨o, by rw [iter_in h1]; exact h3, h4⟩
    · exact ⟨o, iter_out h1, h2⟩
theorem iter_go {σ ρ : Type} {f : σ → Option (σ ⊕ ρ)} {P : Nat → σ → Prop} {Q : ρ → Prop} (N : Nat) (s : σ) (hN : N < 100000000) (h0 : P 0 s) (hstep : ∀ i s, i < N → P i s → (∃ s2, f s = some (.inl s2) ∧ P (i + 1) s2) ∨ ∃ o, f s = some (.inr o) ∧ Q o) (hend : ∀ s, P N s → ∃ o, f s = some (.inr o) ∧ Q o) : ∃ o, iter f fuel s = some o ∧ Q o :=
  iter_inv N hstep hend N 0 s fuel (by omega) h0 (by unfold fuel; exact hN)
section MC2
variable {l : Nat} {T : Txt} {G : Hp}
theorem mCopies (h : ML0 l T G) : ∃ G2, fX11_copies SHM G 0 = some G2 ∧ EssM G G2 ∧ (∀ k, k < 26 → G2.1 40 k = G.1 39 k) ∧ G2.1 0 60 = nI (T.1 5) ∧ G2.1 0 61 = 0 := by
  unfold fX11_copies
  obtain ⟨o, ho, hE, hr⟩ := iter_go (f := fun s : Hp × Int32 => fX11_copies_S2 SHM 0 s.1 s.2) (P := fun i s => s.2 = nI i ∧ EssM G s.1 ∧ ∀ k, k < i → s.1.1 40 k = G.1 39 k) (Q := fun o => EssM G o ∧ ∀ k, k < 26 → o.1 40 k = G.1 39 k) 26 (G, 0) (by decide) ⟨rfl, EssM.rf, fun k hk => by omega⟩ (by
    rintro i ⟨G1, x⟩ hi ⟨rfl, hE, hr⟩
    left
    dsimp only
    have hL := hE.L h.1
    unfold fX11_copies_S2
    rw [if_neg (show ¬ (26 : Int32) ≤ nI i from nI_ge (b := 26) hi (by decide)), ml_59 hL, ml_58 hL]
    simp only [Option.bind_some]
    rw [aI_n (by rw [mn_39]; exact hi) (by omega)]
    simp only [Option.bind_some]
    rw [asI_n (by rw [mn_40]; exact hi) (by omega)]
    simp only [Option.bind_some, bd]
    refine ⟨_, rfl, nI_1 i, hE.tr (EssM.sI (by unfold scrM; omega)), fun k hk => ?_⟩
    by_cases e : k = i
    · subst e; rw [sI_same]; exact hE.2 39 k (by unfold scrM; omega)
    · rw [sI_ne (Or.inr e)]; exact hr k (by omega)) (by
    rintro ⟨G1, x⟩ ⟨rfl, hE, hr⟩
    dsimp only
    unfold fX11_copies_S2
    rw [if_pos (show (26 : Int32) ≤ nI 26 by decide)]
    exact ⟨_, rfl, hE, hr⟩)
  rw [ho]
  simp only [Option.bind_some, bd]
  have hL := hE.L h.1
  have h18 : o.1 0 18 = nI l := (hE.2 0 18 (by unfold scrM; omega)).trans h.2.2.1
  rw [ml_39 hL]
  simp only [Option.bind_some]
  rw [h18, aI_n (by rw [mn_25]; have := h.2.1; omega) (by have := h.2.1; omega)]
  simp only [Option.bind_some]
  refine ⟨_, rfl, hE.tr ((EssM.sI (by unfold scrM; omega)).tr (EssM.sI (by unfold scrM; omega))), fun k hk => ?_, ?_, sI_same⟩
  · rw [sI_ne (Or.inl (by decide)), sI_ne (Or.inl (by decide))]; exact hr k hk
  · rw [sI_ne (Or.inr (by decide)), sI_same, hE.2 25 l (by unfold scrM; omega)]; exact h.2.2.2.1.1.2.2.2.2.2
theorem EssM.M {G2 : Hp} (hE : EssM G G2) (h : ML0 l T G) : ML0 l T G2 :=
  ⟨hE.L h.1, h.2.1, (hE.2 0 18 (by unfold scrM; omega)).trans h.2.2.1, MT_fr h.2.2.2.1 (fun q k a b => hE.2 q k (by unfold scrM; omega)), h.2.2.2.2⟩
end MC2

/-! clauses: the class's table -/
theorem bit_of (x : Int64) {k : Nat} (hk : k < 64) : (lush x (nI k) &&& 1 = 0) ↔ x.toUInt64.toNat.testBit k = false := by
  have hn : x.toUInt64.toNat < 2 ^ 64 := x.toUInt64.toNat_lt
  have hx : x = lN x.toUInt64.toNat := by
    apply wb_inj; rw [wb_tb]; show x.toBitVec = BitVec.ofNat 64 x.toBitVec.toNat; simp
  have h := wb_bit hn hk
  rw [← hx] at h
  unfold lush
  rw [h, show (0 : Int64) = lN 0 from rfl, lN_eq (Nat.lt_of_lt_of_le (Nat.mod_lt _ (by decide)) (by decide)) (by decide), Nat.testBit_eq_decide_div_mod_eq]
  simp
theorem and63 {s : Nat} : nI s &&& 63 = nI (s % 64) := by
  have := fa_mask s 6
  exact this
theorem ush6 {s : Nat} (h : s < 256) : ush (nI s) 6 = nI (s / 64) := by
  have := nx_ush (k := s) (j := 6) (by omega) (by decide)
  unfold ush
  rw [show (6 : Int32) = nI 6 from rfl, this, Nat.shiftRight_eq_div_pow]
theorem xHolds {t u b s : Nat} {T : Txt} {G : Hp} (hx : LX u G) (ht : t = 11 ∨ t = 32) (hT : XT t T G) (hW : WFT T) (hb : b < T.1 3) (hs : s < 256) : fX8_clauseHolds SHX G t (nI b) (nI s) = some (if evC (T.2.2.1 b) s then 1 else 0) := by
  have hw := hW.1
  unfold fX8_clauseHolds
  rw [xBridge_y hT hW hb]
  simp only [Option.bind_some, if_neg one_ne]
  rw [if_neg (nI_pos (by omega)), if_pos (show nI s < 256 from nI_lt (b := 256) hs (by decide)), xt_13 ht hx]
  simp only [Option.bind_some]
  have e : nI b * 4 + ush (nI s) 6 = nI (b * 4 + s / 64) := by
    rw [ush6 hs, show nI b * 4 = nI (b * 4) from (pk_mul b 4), nI_add]
  rw [e, aJ_n (by rw [xn_13 ht]; omega) (by omega)]
  simp only [Option.bind_some]
  have hbit := (hT.2.2.2.1 b hb).2.2 s hs
  unfold bitX at hbit
  rw [and63]
  by_cases hc : lush (G.2.1 (t + 8) (b * 4 + s / 64)) (nI (s % 64)) &&& 1 = 0
  · have h1 := (bit_of _ (Nat.mod_lt s (by decide))).mp hc
    rw [if_pos ((lg_cmp_eq _ _).mpr hc), ← hbit, h1]; rfl
  · have h1 : (G.2.1 (t + 8) (b * 4 + s / 64)).toUInt64.toNat.testBit (s % 64) = true := by
      cases hq : (G.2.1 (t + 8) (b * 4 + s / 64)).toUInt64.toNat.testBit (s % 64)
      · exact absurd ((bit_of _ (Nat.mod_lt s (by decide))).mpr hq) hc
      · rfl
    rw [if_neg (fun q => hc ((lg_cmp_eq _ _).mp q)), ← hbit, h1]; rfl
