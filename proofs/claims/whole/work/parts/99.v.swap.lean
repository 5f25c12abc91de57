/-! READING: the class's end where no fault was found. -/
theorem sR_same {G : Hp} {q k : Nat} {v : Option Nat} : (sR G q k v).2.2 q k = v := by simp [sR, rR, va_up]
theorem sR_ne {G : Hp} {q k q2 k2 : Nat} {v : Option Nat} (hn : ¬ (q2 = q ∧ k2 = k)) : (sR G q k v).2.2 q2 k2 = G.2.2 q2 k2 := by
  unfold sR rR va_up
  by_cases hq : q2 = q
  · subst hq
    have hk : k2 ≠ k := fun z => hn ⟨rfl, z⟩
    simp [hk]
  · simp [hq]
theorem LX_swap {t : Nat} {G : Hp} (h : LX t G) : LX (43 - t) (sR (sR G 1 9 (some t)) 0 2 (some (43 - t))) := by
  have ht := h.1
  have hd : ∀ e ∈ RL2, ¬ (e.1.1 = 1 ∧ e.1.2 = 9) ∧ ¬ (e.1.1 = 0 ∧ e.1.2 = 2) := by decide +kernel
  refine ⟨by omega, sR_same, ?_, fun e he => ?_⟩
  · rw [sR_ne (by omega), sR_same, show 43 - (43 - t) = t by omega]
  · rw [sR_ne (hd e he).2, sR_ne (hd e he).1]; exact h.2.2.2 e he
