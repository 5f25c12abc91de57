/-! WHAT STAYS: each relation reads certain cells alone. -/
theorem XL_fr {w : Nat} {L : List (List Int32)} {G G2 : Hp} (h : XL w L G) (e : ∀ q k, (q = w ∨ q = w + 1 ∨ q = w + 2) → G2.1 q k = G.1 q k) : XL w L G2 :=
  ⟨(e _ _ (Or.inl rfl)).trans h.1, fun j hj => (e _ _ (Or.inr (Or.inr rfl))).trans (h.2.1 j hj), fun i hi => (e _ _ (Or.inr (Or.inl rfl))).trans (h.2.2 i hi)⟩
theorem XT_fr {t : Nat} {T : Txt} {G G2 : Hp} (h : XT t T G) (e : ∀ q k, t ≤ q → q ≤ t + 19 → q ≠ t + 12 → q ≠ t + 16 → G2.1 q k = G.1 q k) (e2 : G2.2.1 (t + 8) = G.2.1 (t + 8)) : XT t T G2 := by
  obtain ⟨h1, h2, h3, h4, h5, h6, h7⟩ := h
  have E : ∀ q k, t ≤ q → q ≤ t + 8 → G2.1 q k = G.1 q k := fun q k a b => e q k a (by omega) (by omega) (by omega)
  refine ⟨fun i hi => ?_, fun a ha => ?_, fun w hw => ?_, fun b hb => ?_, XL_fr h5 (fun q k hq => e q k (by omega) (by omega) (by omega) (by omega)), XL_fr h6 (fun q k hq => e q k (by omega) (by omega) (by omega) (by omega)), XL_fr h7 (fun q k hq => e q k (by omega) (by omega) (by omega) (by omega))⟩
  · rw [E t i (by omega) (by omega)]; exact h1 i hi
  · rw [E (t + 1) a (by omega) (by omega), E (t + 2) a (by omega) (by omega)]; exact h2 a ha
  · rw [E (t + 3) w (by omega) (by omega), E (t + 4) w (by omega) (by omega), E (t + 5) w (by omega) (by omega)]; exact h3 w hw
  · rw [E (t + 6) b (by omega) (by omega), E (t + 7) b (by omega) (by omega), e2]; exact h4 b hb
theorem MP_fr {p : List Int32} {c : Nat} {G G2 : Hp} (h : MP p c G) (e : ∀ q k, q = 33 ∨ q = 34 → G2.1 q k = G.1 q k) : MP p c G2 := fun i hi => by
  rw [e 33 _ (Or.inl rfl), e 34 _ (Or.inr rfl)]; exact h i hi
theorem MB_fr {G G2 : Hp} (e : ∀ q k, 28 ≤ q → q ≤ 34 → G2.1 q k = G.1 q k) : ∀ (L : List (List Int32)) (f x y : Nat), MB L f x y G → MB L f x y G2
  | a :: b :: c :: d :: r, f, x, y, h => by
    obtain ⟨h1, h2, h3, h4, h5, h6, h7, h8, h9, h10, h11⟩ := h
    have e2 : ∀ q k, q = 33 ∨ q = 34 → G2.1 q k = G.1 q k := fun q k hq => e q k (by omega) (by omega)
    exact ⟨h1, h2, (e _ _ (by omega) (by omega)).trans h3, (e _ _ (by omega) (by omega)).trans h4, (e _ _ (by omega) (by omega)).trans h5, (e _ _ (by omega) (by omega)).trans h6, (e _ _ (by omega) (by omega)).trans h7, MP_fr h8 e2, MP_fr h9 e2, MP_fr h10 e2, MB_fr e (d :: r) _ _ _ h11⟩
  | [p], f, x, y, h => by
    obtain ⟨h1, h2, h3, h4, h5, h6⟩ := h
    exact ⟨h1, h2, (e _ _ (by omega) (by omega)).trans h3, (e _ _ (by omega) (by omega)).trans h4, (e _ _ (by omega) (by omega)).trans h5, MP_fr h6 (fun q k hq => e q k (by omega) (by omega))⟩
  | [p, p2], f, x, y, h => by
    obtain ⟨h1, h2, h3, h4, h5, h6⟩ := h
    exact ⟨h1, h2, (e _ _ (by omega) (by omega)).trans h3, (e _ _ (by omega) (by omega)).trans h4, (e _ _ (by omega) (by omega)).trans h5, MP_fr h6 (fun q k hq => e q k (by omega) (by omega))⟩
  | [p, p2, p3], f, x, y, h => by
    obtain ⟨h1, h2, h3, h4, h5, h6⟩ := h
    exact ⟨h1, h2, (e _ _ (by omega) (by omega)).trans h3, (e _ _ (by omega) (by omega)).trans h4, (e _ _ (by omega) (by omega)).trans h5, MP_fr h6 (fun q k hq => e q k (by omega) (by omega))⟩
  | [], _, _, _, h => h.elim
theorem ML_fr {l k : Nat} {L : List (List Int32)} {G G2 : Hp} (h : ML l k L G) (e : ∀ q k, 26 ≤ q → q ≤ 34 → G2.1 q k = G.1 q k) : ML l k L G2 := by
  unfold ML MLc
  rw [e 26 _ (by omega) (by omega), e 27 _ (by omega) (by omega)]
  rcases h with h | ⟨f, x, y, h1, h2, h3, h4, h5⟩
  · exact Or.inl h
  · exact Or.inr ⟨f, x, y, h1, h2, h3, h4, MB_fr (fun q k a b => e q k (by omega) b) _ _ _ _ h5⟩
theorem MT_fr {l : Nat} {T : Txt} {G G2 : Hp} (h : MT l T G) (e : ∀ q k, 10 ≤ q → q ≤ 34 → G2.1 q k = G.1 q k) : MT l T G2 := by
  obtain ⟨⟨a1, a2, a3, a4, a5, a6⟩, h2, h3, h4, h5⟩ := h
  refine ⟨⟨(e _ _ (by omega) (by omega)).trans a1, (e _ _ (by omega) (by omega)).trans a2, (e _ _ (by omega) (by omega)).trans a3, (e _ _ (by omega) (by omega)).trans a4, (e _ _ (by omega) (by omega)).trans a5, (e _ _ (by omega) (by omega)).trans a6⟩, fun a ha => ?_, fun w hw => ?_, fun b hb => ?_, fun k hk => ML_fr (h5 k hk) (fun q k a b => e q k (by omega) b)⟩
  · rw [e 12 _ (by omega) (by omega), e 13 _ (by omega) (by omega)]; exact h2 a ha
  · rw [e 15 _ (by omega) (by omega), e 16 _ (by omega) (by omega), e 17 _ (by omega) (by omega)]; exact h3 w hw
  · obtain ⟨b1, b2, c, c1, c2, c3, c4⟩ := h4 b hb
    exact ⟨(e _ _ (by omega) (by omega)).trans b1, (e _ _ (by omega) (by omega)).trans b2, c, (e _ _ (by omega) (by omega)).trans c1, (e _ _ (by omega) (by omega)).trans c2, c3, fun i hi => (e _ _ (by omega) (by omega)).trans (c4 i hi)⟩
theorem XG_fr {T : Txt} {g : Nat} {r : Nat → Int32} {G G2 : Hp} (h : XG T g r G) (e : ∀ q k, g ≤ q → q ≤ g + 4 → G2.1 q k = G.1 q k) : XG T g r G2 := by
  obtain ⟨h1, h2, h3, h4, h5, h6, h7, h8⟩ := h
  have E : ∀ q k, g ≤ q ∧ q ≤ g + 4 → G2.1 q k = G.1 q k := fun q k a => e q k a.1 a.2
  refine ⟨fun b hb => ?_, fun b hb => ?_, fun k hk hk2 => ?_, ?_, ?_, ?_, ?_, ?_⟩
  · rw [E _ _ (by omega), E (g + 3) _ (by omega)]; exact h1 b hb
  · rw [E _ _ (by omega)]; exact h2 b hb
  · rw [E _ _ (by omega)]; exact h3 k hk hk2
  all_goals (rw [E _ _ (by omega)]; assumption)
theorem RT_fr {n : Nat} {Gx Gm Gx2 Gm2 : Hp} (h : RT n Gx Gm) (e1 : Gx2.1 2 0 = Gx.1 2 0) (e2 : Gm2.1 0 2 = Gm.1 0 2) (e3 : ∀ j, Gx2.1 7 j = Gx.1 7 j) (e4 : ∀ j, Gm2.1 1 j = Gm.1 1 j) : RT n Gx2 Gm2 := by
  unfold RT; rw [e1, e2]
  exact ⟨h.1, h.2.1, h.2.2.1, fun j hj => by rw [e3, e4]; exact h.2.2.2 j hj⟩
theorem hq_rng {nx u j : Nat} : 68 ≤ hq nx u j ∧ hq nx u j ≤ 263 := by
  have := Nat.mod_lt (nx + 40 - u + j) (show 40 > 0 by omega)
  unfold hq; omega
theorem RH_fr {T : Txt} {u nx : Nat} {hi : Nat → Nat → Int32} {Gx Gm Gx2 Gm2 : Hp} (h : RH T u nx hi Gx Gm) (e1 : ∀ q k, 66 ≤ q → q ≤ 267 → Gx2.1 q k = Gx.1 q k) (e2 : Gm2.1 0 64 = Gm.1 0 64) (e3 : ∀ j, Gm2.1 43 j = Gm.1 43 j) : RH T u nx hi Gx2 Gm2 := by
  obtain ⟨h1, h2, h3, h4, h5, h6⟩ := h
  refine ⟨h1, h2, (e1 _ _ (by omega) (by omega)).trans h3, (e1 _ _ (by omega) (by omega)).trans h4, e2.trans h5, fun j hj => ?_⟩
  obtain ⟨a, b, c⟩ := h6 j hj
  have hr := hq_rng (nx := nx) (u := u) (j := j)
  exact ⟨a, XG_fr b (fun q k x y => e1 q k (by omega) (by omega)), fun k hk => (e3 _).trans (c k hk)⟩
theorem RS_fr {T : Txt} {hb : Nat} {sl : Nat → Nat → Int32} {Gx Gm Gx2 Gm2 : Hp} (h : RS T hb sl Gx Gm) (e0 : Gx2.1 0 7 = Gx.1 0 7) (e1 : ∀ q k, 269 ≤ q → q ≤ 283 → Gx2.1 q k = Gx.1 q k) (e2 : ∀ j, Gm2.1 51 j = Gm.1 51 j) (e3 : ∀ j, Gm2.1 52 j = Gm.1 52 j) : RS T hb sl Gx2 Gm2 := by
  obtain ⟨h1, h2, h3⟩ := h
  refine ⟨h1, e0.trans h2, fun i hi => ?_⟩
  obtain ⟨a, b⟩ := h3 i hi
  refine ⟨(e2 _).trans a, fun ht => ?_⟩
  obtain ⟨c, d, f⟩ := b ht
  exact ⟨c, XG_fr d (fun q k x y => e1 q k (by omega) (by omega)), fun k hk => (e3 _).trans (f k hk)⟩
theorem RO_fr {T : Txt} {m : Nat} {Gx Gm Gx2 Gm2 : Hp} (h : RO T m Gx Gm) (e0 : Gx2.1 284 0 = Gx.1 284 0) (e1 : ∀ q k, q = 285 ∨ q = 286 → Gx2.1 q k = Gx.1 q k) (e2 : Gm2.1 0 74 = Gm.1 0 74) (e3 : ∀ q k, q = 49 ∨ q = 50 → Gm2.1 q k = Gm.1 q k) : RO T m Gx2 Gm2 := by
  obtain ⟨h1, h2, h3, h4⟩ := h
  refine ⟨h1, e0.trans h2, e2.trans h3, fun i hi => ?_⟩
  obtain ⟨a, b1, b2, b3, b4, b5⟩ := h4 i hi
  exact ⟨a, b1, (e1 _ _ (Or.inl rfl)).trans b2, (e3 _ _ (Or.inl rfl)).trans b3, by rw [e1 286 _ (Or.inr rfl), e3 50 _ (Or.inr rfl)]; exact b4, by rw [e3 50 _ (Or.inr rfl)]; exact b5⟩
/-- cells that only calls that look use -/
def scrX (q k : Nat) : Prop := q = 23 ∨ q = 27 ∨ q = 31 ∨ q = 44 ∨ q = 48 ∨ q = 52 ∨ (59 ≤ q ∧ q ≤ 65) ∨ 287 ≤ q ∨ (q = 284 ∧ 3 ≤ k)
def scrM (q k : Nat) : Prop := q = 37 ∨ q = 38 ∨ q = 40 ∨ q = 41 ∨ q = 42 ∨ (44 ≤ q ∧ q ≤ 48) ∨ (q = 0 ∧ (k = 57 ∨ k = 60 ∨ k = 61 ∨ k = 67 ∨ k = 69 ∨ k = 73))
def EssX (G G2 : Hp) : Prop := G2.2 = G.2 ∧ ∀ q k, ¬ scrX q k → G2.1 q k = G.1 q k
def EssM (G G2 : Hp) : Prop := G2.2 = G.2 ∧ ∀ q k, ¬ scrM q k → G2.1 q k = G.1 q k
theorem EssX.rf {G : Hp} : EssX G G := ⟨rfl, fun _ _ _ => rfl⟩
theorem EssM.rf {G : Hp} : EssM G G := ⟨rfl, fun _ _ _ => rfl⟩
theorem EssX.tr {G G2 G3 : Hp} (h : EssX G G2) (h2 : EssX G2 G3) : EssX G G3 := ⟨h2.1.trans h.1, fun q k hn => (h2.2 q k hn).trans (h.2 q k hn)⟩
theorem EssM.tr {G G2 G3 : Hp} (h : EssM G G2) (h2 : EssM G2 G3) : EssM G G3 := ⟨h2.1.trans h.1, fun q k hn => (h2.2 q k hn).trans (h.2 q k hn)⟩
theorem EssX.sI {G : Hp} {q k : Nat} {v : Int32} (h : scrX q k) : EssX G (sI G q k v) := ⟨rfl, fun q2 k2 hn => sI_ne (by
  by_cases hq : q2 = q
  · right; intro hk; subst hq; subst hk; exact hn h
  · left; exact hq)⟩
theorem EssM.sI {G : Hp} {q k : Nat} {v : Int32} (h : scrM q k) : EssM G (sI G q k v) := ⟨rfl, fun q2 k2 hn => sI_ne (by
  by_cases hq : q2 = q
  · right; intro hk; subst hq; subst hk; exact hn h
  · left; exact hq)⟩
theorem EssX.rI {G : Hp} {q : Nat} {f : Nat → Int32} (h : ∀ k, scrX q k) : EssX G (rI G q f) := ⟨rfl, fun q2 k2 hn => by
  have hne : q2 ≠ q := fun e => by subst e; exact hn (h k2)
  rw [rI_ne hne]⟩
theorem EssM.rI {G : Hp} {q : Nat} {f : Nat → Int32} (h : ∀ k, scrM q k) : EssM G (rI G q f) := ⟨rfl, fun q2 k2 hn => by
  have hne : q2 ≠ q := fun e => by subst e; exact hn (h k2)
  rw [rI_ne hne]⟩
theorem EssX.L {t : Nat} {G G2 : Hp} (h : EssX G G2) (hL : LX t G) : LX t G2 := hL.same (by rw [h.1])
theorem EssM.L {G G2 : Hp} (h : EssM G G2) (hL : LM G) : LM G2 := hL.same (by rw [h.1])
theorem Inv0_ess {T : Txt} {t l : Nat} {r : Nat → Int32} {n u nx : Nat} {hi : Nat → Nat → Int32} {hb : Nat} {sl : Nat → Nat → Int32} {m : Nat} {Gx Gm Gx2 Gm2 : Hp} (h : Inv0 T t l r n u nx hi hb sl m Gx Gm) (ex : EssX Gx Gx2) (em : EssM Gm Gm2) : Inv0 T t l r n u nx hi hb sl m Gx2 Gm2 := by
  obtain ⟨h1, h2, h3, h4, h5, h6, h7, h8, h9, h10, h11, h12, h13, h14, h15, h16⟩ := h
  have X := ex.2
  have Y := em.2
  refine ⟨ex.L h1, em.L h2, h3, (Y _ _ (by unfold scrM; omega)).trans h4, h5, XT_fr h6 (fun q k a b c d => X q k (by unfold scrX; rcases h1.1 with rfl | rfl <;> omega)) (by rw [ex.1]), MT_fr h7 (fun q k a b => Y q k (by unfold scrM; omega)), h8, XG_fr h9 (fun q k a b => X q k (by unfold scrX; omega)), fun k hk => (Y _ _ (by unfold scrM; omega)).trans (h10 k hk), RT_fr h11 (X _ _ (by unfold scrX; omega)) (Y _ _ (by unfold scrM; omega)) (fun j => X _ _ (by unfold scrX; omega)) (fun j => Y _ _ (by unfold scrM; omega)), RH_fr h12 (fun q k a b => X q k (by unfold scrX; omega)) (Y _ _ (by unfold scrM; omega)) (fun j => Y _ _ (by unfold scrM; omega)), RS_fr h13 (X _ _ (by unfold scrX; omega)) (fun q k a b => X q k (by unfold scrX; omega)) (fun j => Y _ _ (by unfold scrM; omega)) (fun j => Y _ _ (by unfold scrM; omega)), RO_fr h14 (X _ _ (by unfold scrX; omega)) (fun q k a => X q k (by unfold scrX; omega)) (Y _ _ (by unfold scrM; omega)) (fun q k a => Y q k (by unfold scrM; omega)), ?_, ?_⟩
  · intro i hi; rw [ex.1, em.1]; exact h15 i hi
  · rw [X 0 1 (by unfold scrX; omega), Y 0 17 (by unfold scrM; omega)]; exact h16
