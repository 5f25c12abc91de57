/-! CHANGES of how all goes on, one by one. -/
theorem ups {f : Nat → Int32} {k : Nat} {x : Int32} : upd f k x k = x := pk_us
theorem upn {f : Nat → Int32} {k j : Nat} {x : Int32} (h : j ≠ k) : upd f k x j = f j := pk_un h
section XGU
variable {T : Txt} {g : Nat} {r : Nat → Int32} {G : Hp} {v : Int32}
theorem XG.f7 (h : XG T g r G) (hW : T.1 3 ≤ 4) : XG T g (upd r 22 v) (sI G g 7 v) := by
  obtain ⟨h1, h2, h3, h4, h5, h6, h7, h8⟩ := h
  refine ⟨fun b hb => ?_, fun b hb => ?_, fun k hk hk2 => ?_, ?_, ?_, ?_, ?_, ?_⟩
  · rw [sI_ne (by omega), sI_ne (by omega), upn (by omega), upn (by omega)]; exact h1 b hb
  · rw [sI_ne (by omega), upn (by omega)]; exact h2 b hb
  · rw [upn (by omega)] at hk; rw [sI_ne (by omega), upn (by omega)]; exact h3 k hk hk2
  · rw [sI_ne (by omega), upn (by omega)]; exact h4
  · rw [sI_ne (by omega), upn (by omega)]; exact h5
  · rw [sI_ne (by omega), upn (by omega)]; exact h6
  · rw [sI_same, ups]
  · rw [sI_ne (by omega), upn (by omega)]; exact h8
theorem XG.f6 (h : XG T g r G) (hW : T.1 3 ≤ 4) : XG T g (upd r 25 v) (sI G g 6 v) := by
  obtain ⟨h1, h2, h3, h4, h5, h6, h7, h8⟩ := h
  refine ⟨fun b hb => ?_, fun b hb => ?_, fun k hk hk2 => ?_, ?_, ?_, ?_, ?_, ?_⟩
  · rw [sI_ne (by omega), sI_ne (by omega), upn (by omega), upn (by omega)]; exact h1 b hb
  · rw [sI_ne (by omega), upn (by omega)]; exact h2 b hb
  · rw [upn (by omega)] at hk; rw [sI_ne (by omega), upn (by omega)]; exact h3 k hk hk2
  · rw [sI_ne (by omega), upn (by omega)]; exact h4
  · rw [sI_ne (by omega), upn (by omega)]; exact h5
  · rw [sI_same, ups]
  · rw [sI_ne (by omega), upn (by omega)]; exact h7
  · rw [sI_ne (by omega), upn (by omega)]; exact h8
theorem XG.f5 (h : XG T g r G) (hW : T.1 3 ≤ 4) : XG T g (upd r 24 v) (sI G g 5 v) := by
  obtain ⟨h1, h2, h3, h4, h5, h6, h7, h8⟩ := h
  refine ⟨fun b hb => ?_, fun b hb => ?_, fun k hk hk2 => ?_, ?_, ?_, ?_, ?_, ?_⟩
  · rw [sI_ne (by omega), sI_ne (by omega), upn (by omega), upn (by omega)]; exact h1 b hb
  · rw [sI_ne (by omega), upn (by omega)]; exact h2 b hb
  · rw [upn (by omega)] at hk; rw [sI_ne (by omega), upn (by omega)]; exact h3 k hk hk2
  · rw [sI_ne (by omega), upn (by omega)]; exact h4
  · rw [sI_same, ups]
  · rw [sI_ne (by omega), upn (by omega)]; exact h6
  · rw [sI_ne (by omega), upn (by omega)]; exact h7
  · rw [sI_ne (by omega), upn (by omega)]; exact h8
theorem XG.f8 (h : XG T g r G) (hW : T.1 3 ≤ 4) : XG T g (upd r 23 v) (sI G g 8 v) := by
  obtain ⟨h1, h2, h3, h4, h5, h6, h7, h8⟩ := h
  refine ⟨fun b hb => ?_, fun b hb => ?_, fun k hk hk2 => ?_, ?_, ?_, ?_, ?_, ?_⟩
  · rw [sI_ne (by omega), sI_ne (by omega), upn (by omega), upn (by omega)]; exact h1 b hb
  · rw [sI_ne (by omega), upn (by omega)]; exact h2 b hb
  · rw [upn (by omega)] at hk; rw [sI_ne (by omega), upn (by omega)]; exact h3 k hk hk2
  · rw [sI_ne (by omega), upn (by omega)]; exact h4
  · rw [sI_ne (by omega), upn (by omega)]; exact h5
  · rw [sI_ne (by omega), upn (by omega)]; exact h6
  · rw [sI_ne (by omega), upn (by omega)]; exact h7
  · rw [sI_same, ups]
theorem XG.ph {b : Nat} (h : XG T g r G) (hW : T.1 3 ≤ 4) (hb : b < 4) : XG T g (upd r (4 + b) v) (sI G (g + 2) b v) := by
  obtain ⟨h1, h2, h3, h4, h5, h6, h7, h8⟩ := h
  refine ⟨fun c hc => ?_, fun c hc => ?_, fun k hk hk2 => ?_, ?_, ?_, ?_, ?_, ?_⟩
  · rw [sI_ne (by omega), sI_ne (by omega), upn (by omega), upn (by omega)]; exact h1 c hc
  · by_cases e : c = b
    · subst e; rw [sI_same, ups]
    · rw [sI_ne (by omega), upn (by omega)]; exact h2 c hc
  · rw [upn (by omega)] at hk; rw [sI_ne (by omega), upn (by omega)]; exact h3 k hk hk2
  · rw [sI_ne (by omega), upn (by omega)]; exact h4
  · rw [sI_ne (by omega), upn (by omega)]; exact h5
  · rw [sI_ne (by omega), upn (by omega)]; exact h6
  · rw [sI_ne (by omega), upn (by omega)]; exact h7
  · rw [sI_ne (by omega), upn (by omega)]; exact h8
theorem XG.st {b : Nat} (h : XG T g r G) (hW : T.1 3 ≤ 4) (hb : b < 4) : XG T g (upd r b v) (sI G (g + 1) b v) := by
  obtain ⟨h1, h2, h3, h4, h5, h6, h7, h8⟩ := h
  refine ⟨fun c hc => ?_, fun c hc => ?_, fun k hk hk2 => ?_, ?_, ?_, ?_, ?_, ?_⟩
  · rw [sI_ne (q2 := g + 3) (by omega), upn (j := 8 + c) (by omega)]
    refine ⟨?_, (h1 c hc).2⟩
    by_cases e : c = b
    · subst e; rw [sI_same, ups]
    · rw [sI_ne (by omega), upn (by omega)]; exact (h1 c hc).1
  · rw [sI_ne (by omega), upn (by omega)]; exact h2 c hc
  · rw [upn (by omega)] at hk; rw [sI_ne (by omega), upn (by omega)]; exact h3 k hk hk2
  · rw [sI_ne (by omega), upn (by omega)]; exact h4
  · rw [sI_ne (by omega), upn (by omega)]; exact h5
  · rw [sI_ne (by omega), upn (by omega)]; exact h6
  · rw [sI_ne (by omega), upn (by omega)]; exact h7
  · rw [sI_ne (by omega), upn (by omega)]; exact h8
theorem XG.sd {b : Nat} (h : XG T g r G) (hW : T.1 3 ≤ 4) (hb : b < 4) : XG T g (upd r (8 + b) v) (sI G (g + 3) b v) := by
  obtain ⟨h1, h2, h3, h4, h5, h6, h7, h8⟩ := h
  refine ⟨fun c hc => ?_, fun c hc => ?_, fun k hk hk2 => ?_, ?_, ?_, ?_, ?_, ?_⟩
  · rw [sI_ne (q2 := g + 1) (by omega), upn (j := c) (by omega)]
    refine ⟨(h1 c hc).1, ?_⟩
    by_cases e : c = b
    · subst e; rw [sI_same, ups]
    · rw [sI_ne (by omega), upn (by omega)]; exact (h1 c hc).2
  · rw [sI_ne (by omega), upn (by omega)]; exact h2 c hc
  · rw [upn (by omega)] at hk; rw [sI_ne (by omega), upn (by omega)]; exact h3 k hk hk2
  · rw [sI_ne (by omega), upn (by omega)]; exact h4
  · rw [sI_ne (by omega), upn (by omega)]; exact h5
  · rw [sI_ne (by omega), upn (by omega)]; exact h6
  · rw [sI_ne (by omega), upn (by omega)]; exact h7
  · rw [sI_ne (by omega), upn (by omega)]; exact h8
theorem XG.lr {c : Nat} {s : Int32} (h : XG T g r G) (hW : T.1 3 ≤ 4) (hc : c < 9) (h21 : r 21 = nI c) : XG T g (upd (upd r (12 + c) s) 21 (nI (c + 1))) (sI (sI G (g + 4) c s) g 4 (nI (c + 1))) := by
  obtain ⟨h1, h2, h3, h4, h5, h6, h7, h8⟩ := h
  refine ⟨fun b hb => ?_, fun b hb => ?_, fun k hk hk2 => ?_, ?_, ?_, ?_, ?_, ?_⟩
  · rw [sI_ne (by omega), sI_ne (by omega), sI_ne (by omega), sI_ne (by omega), upn (by omega), upn (by omega), upn (by omega), upn (by omega)]; exact h1 b hb
  · rw [sI_ne (by omega), sI_ne (by omega), upn (by omega), upn (by omega)]; exact h2 b hb
  · rw [ups] at hk
    have hkc := (nI_ltI (by omega) (by omega)).mp hk
    rw [sI_ne (by omega), upn (by omega)]
    by_cases e : k = c
    · subst e; rw [sI_same, ups]
    · rw [sI_ne (by omega), upn (by omega)]; exact h3 k (by rw [h21]; exact nI_lt (by omega) (by omega)) hk2
  · rw [sI_same, ups]
  · rw [sI_ne (by omega), sI_ne (by omega), upn (by omega), upn (by omega)]; exact h5
  · rw [sI_ne (by omega), sI_ne (by omega), upn (by omega), upn (by omega)]; exact h6
  · rw [sI_ne (by omega), sI_ne (by omega), upn (by omega), upn (by omega)]; exact h7
  · rw [sI_ne (by omega), sI_ne (by omega), upn (by omega), upn (by omega)]; exact h8
end XGU
theorem MR.s {r : Nat → Int32} {G : Hp} {k : Nat} {v : Int32} (h : MR r G) : MR (upd r k v) (sI G 40 k v) := fun j hj => by
  by_cases e : j = k
  · subst e; rw [sI_same, ups]
  · rw [sI_ne (Or.inr e), upn e]; exact h j hj
theorem ms40 {G : Hp} {k : Nat} {v : Int32} (h : k < 26) : asI SHM G 40 (nI k) v = some (sI G 40 k v) := asI_n (by rw [mn_40]; exact h) (by omega)
theorem essM_s40 {G : Hp} {k : Nat} {v : Int32} : EssM G (sI G 40 k v) := EssM.sI (by unfold scrM; omega)
/-- what a sent being changes: gone over, and what a cheat does -/
def rOver (r : Nat → Int32) (b a : Nat) (loss : Int32) : Nat → Int32 := upd (upd (upd r 22 (r 22 + loss)) 25 (r 25 &&& ((1 : Int32) <<< (nI a &&& 31) ^^^ (-1)))) (4 + b) 1
def rLearn (r : Nat → Int32) (s : Int32) : Nat → Int32 := if r 21 = 9 then r else upd (upd r (12 + (r 21).toNatClampNeg) s) 21 (r 21 + 1)
def rLose (r : Nat → Int32) (b : Nat) : Nat → Int32 := if r b - 1 = 0 then upd (upd r b (r b - 1)) (4 + b) 2 else upd r b (r b - 1)
def rCheat (r : Nat → Int32) (b : Nat) (s : Int32) : Nat → Int32 := rLearn (rLose (upd r 24 (r 24 + 1)) b) s
theorem mLearns {r : Nat → Int32} {G : Hp} {s : Int32} {c : Nat} (hL : LM G) (h : MR r G) (hc : c ≤ 9) (h21 : r 21 = nI c) : ∃ G2, fX11_learns SHM G 0 s = some G2 ∧ EssM G G2 ∧ MR (rLearn r s) G2 ∧ (∀ q k, q ≠ 40 → G2.1 q k = G.1 q k) := by
  unfold fX11_learns rLearn
  rw [ml_59 hL]
  simp only [Option.bind_some]
  rw [show (21 : Int32) = nI 21 from rfl, m40 (by decide), h 21 (by decide), h21]
  simp only [Option.bind_some]
  by_cases e9 : c = 9
  · subst e9; rw [if_pos (show nI 9 = 9 from rfl), if_pos (show nI 9 = 9 from rfl)]
    exact ⟨G, rfl, EssM.rf, h, fun _ _ _ => rfl⟩
  · have hne : ¬ nI c = 9 := fun q => e9 ((nI_eq (b := 9) (by omega) (by decide)).mp q)
    rw [if_neg hne, if_neg hne, show (12 : Int32) + nI c = nI (12 + c) from nI_add 12 c, ms40 (by omega)]
    simp only [Option.bind_some]
    have hL2 : LM (sI G 40 (12 + c) s) := hL
    rw [ml_59 hL2]
    simp only [Option.bind_some]
    rw [m40 (by decide), sI_ne (by omega), h 21 (by decide), h21]
    simp only [Option.bind_some]
    rw [ms40 (by decide), nI_clamp (by omega)]
    exact ⟨_, rfl, essM_s40.tr essM_s40, (h.s).s, fun q k hq => by rw [sI_ne (Or.inl hq), sI_ne (Or.inl hq)]⟩
