/-! TELLS: a text as it is built. -/
def EXl (t : Nat) (G G2 : Hp) : Prop := (∀ q k, ¬ (q = 1 ∧ k = 10) → G2.2.2 q k = G.2.2 q k) ∧ (∀ q, q ≠ 8 → q ≠ 9 → q ≠ 10 → q ≠ 43 - t + 8 → G2.2.1 q = G.2.1 q) ∧ ∀ q k, q ≠ 1 → ¬ (43 - t ≤ q ∧ q ≤ 43 - t + 20) → G2.1 q k = G.1 q k
theorem EXl.rf {t : Nat} {G : Hp} : EXl t G G := ⟨fun _ _ _ => rfl, fun _ _ _ _ _ => rfl, fun _ _ _ _ => rfl⟩
theorem EXl.tr {t : Nat} {G G2 G3 : Hp} (h : EXl t G G2) (h2 : EXl t G2 G3) : EXl t G G3 := ⟨fun q k a => (h2.1 q k a).trans (h.1 q k a), fun q a b c d => (h2.2.1 q a b c d).trans (h.2.1 q a b c d), fun q k a b => (h2.2.2 q k a b).trans (h.2.2 q k a b)⟩
theorem Er1.xl {t m : Nat} {G G2 : Hp} (h : Er1 m G G2) : EXl t G G2 := ⟨fun q k _ => by rw [h.1], fun q _ _ _ _ => by rw [h.1], fun q k a _ => h.2 q k (by omega)⟩
theorem Er8.xl {t : Nat} {G G2 : Hp} (h : Er8 G G2) : EXl t G G2 := ⟨fun q k _ => by rw [h.1], fun q a _ _ _ => h.2.1 q a, fun q k a _ => h.2.2 q k (by omega)⟩
theorem ECl.xl {t : Nat} {G G2 : Hp} (h : ECl G G2) : EXl t G G2 := ⟨fun q k _ => by rw [h.1], fun q _ _ a _ => h.2.1 q a, fun q k a _ => h.2.2 q k (by omega)⟩
theorem EXl.s {t q k : Nat} {G : Hp} {v : Int32} (h : q = 1 ∨ (43 - t ≤ q ∧ q ≤ 43 - t + 20)) : EXl t G (sI G q k v) := ⟨fun _ _ _ => rfl, fun _ _ _ _ _ => rfl, fun q2 k2 a b => sI_ne (by omega)⟩
theorem EXl.j {t k : Nat} {G : Hp} {v : Int64} : EXl t G (sJ G 9 k v) := ⟨fun _ _ _ => rfl, fun q _ a _ _ => sJ_row a, fun _ _ _ _ => rfl⟩
/-- the cells of the side that is not live -/
def sdM (l q j : Nat) : Prop := ((q = 10 ∨ q = 11 ∨ q = 14 ∨ q = 18 ∨ q = 24 ∨ q = 25) ∧ j = 1 - l) ∨ ((q = 12 ∨ q = 13) ∧ 7 * (1 - l) ≤ j ∧ j < 7 * (1 - l) + 7) ∨ (((15 ≤ q ∧ q ≤ 17) ∨ (19 ≤ q ∧ q ≤ 22)) ∧ 4 * (1 - l) ≤ j ∧ j < 4 * (1 - l) + 4) ∨ ((q = 26 ∨ q = 27) ∧ 3 * (1 - l) ≤ j ∧ j < 3 * (1 - l) + 3) ∨ ((28 ≤ q ∧ q ≤ 32) ∧ 130 * (1 - l) ≤ j ∧ j < 130 * (1 - l) + 130) ∨ ((q = 23 ∨ q = 33 ∨ q = 34) ∧ 420 * (1 - l) ≤ j ∧ j < 420 * (1 - l) + 420)
def EYl (l : Nat) (G G2 : Hp) : Prop := G2.2.2 = G.2.2 ∧ (∀ q, q ≠ 8 → G2.2.1 q = G.2.1 q) ∧ ∀ q j, ¬ (q = 0 ∧ ((11 ≤ j ∧ j ≤ 16) ∨ j = 20 ∨ j = 36 ∨ j = 42 ∨ j = 48 ∨ j = 52 ∨ j = 54)) → q ≠ 9 → q ≠ 35 → q ≠ 36 → ¬ sdM l q j → G2.1 q j = G.1 q j
theorem EYl.rf {l : Nat} {G : Hp} : EYl l G G := ⟨rfl, fun _ _ => rfl, fun _ _ _ _ _ _ _ => rfl⟩
theorem EYl.tr {l : Nat} {G G2 G3 : Hp} (h : EYl l G G2) (h2 : EYl l G2 G3) : EYl l G G3 := ⟨h2.1.trans h.1, fun q a => (h2.2.1 q a).trans (h.2.1 q a), fun q k a b c d e => (h2.2.2 q k a b c d e).trans (h.2.2 q k a b c d e)⟩
theorem Er0.yl {l : Nat} {G G2 : Hp} (h : Er0 G G2) : EYl l G G2 := ⟨by rw [h.1], fun q _ => by rw [h.1], fun q k a _ _ _ _ => h.2 q k (by omega)⟩
theorem Er9.yl {l : Nat} {G G2 : Hp} (h : Er9 G G2) : EYl l G G2 := ⟨h.1, h.2.1, fun q k a b _ _ _ => h.2.2 q k b (by omega)⟩
theorem EYl.s {l q k : Nat} {G : Hp} {v : Int32} (h : sdM l q k) : EYl l G (sI G q k v) := ⟨rfl, fun _ _ => rfl, fun q2 k2 _ _ _ _ e => sI_ne (by
  by_cases hq : q2 = q
  · right; intro hk; subst hq; subst hk; exact e h
  · left; exact hq)⟩
theorem EQc.yl {l c0 : Nat} {G G2 : Hp} (h : EQc c0 G G2) (hc : c0 / 420 = 1 - l) : EYl l G G2 := ⟨by rw [h.1], fun q _ => by rw [h.1], fun q k a _ c _ e => h.2 q k (by omega) c (fun z => e (by unfold sdM; omega))⟩
theorem EEK.yl {l k b c : Nat} {G G2 : Hp} (h : EEK l k b c G G2) (hk : k < 3) (hb : b / 130 = 1 - l) (hc : c / 420 = 1 - l) : EYl l G G2 := ⟨by rw [h.1], fun q _ => by rw [h.1], fun q j a _ _ d e => h.2 q j (by omega) d (fun z => e (by unfold sdM; omega)) (fun z => e (by unfold sdM; omega)) (fun z => e (by unfold sdM; omega))⟩
def tN (f : Nat → Nat) (i v : Nat) : Nat → Nat := fun j => if j = i then v else f j
def tR (g : Nat → Nat → Nat) (r a v : Nat) : Nat → Nat → Nat := fun r2 a2 => if r2 = r ∧ a2 = a then v else g r2 a2
theorem tN_s {f : Nat → Nat} {i v : Nat} : tN f i v i = v := if_pos rfl
theorem tN_n {f : Nat → Nat} {i v j : Nat} (h : j ≠ i) : tN f i v j = f j := if_neg h
theorem tR_s {g : Nat → Nat → Nat} {r a v : Nat} : tR g r a v r a = v := if_pos ⟨rfl, rfl⟩
theorem tR_n {g : Nat → Nat → Nat} {r a v r2 a2 : Nat} (h : ¬ (r2 = r ∧ a2 = a)) : tR g r a v r2 a2 = g r2 a2 := if_neg h
theorem MB_fr2 {G G2 : Hp} : ∀ (L : List (List Int32)) (f e x : Nat), MB L f e x G → (∀ q j, 28 ≤ q → q ≤ 32 → f ≤ j → j < e → G2.1 q j = G.1 q j) → (∀ q j, q = 33 ∨ q = 34 → x ≤ j → j < x + L.flatten.length → G2.1 q j = G.1 q j) → MB L f e x G2
  | a :: b :: c :: d :: r, f, e, x, h, e1, e2 => by
    obtain ⟨h1, h2, h3, h4, h5, h6, h7, h8, h9, h10, h11⟩ := h
    have hfl : (a :: b :: c :: d :: r).flatten.length = a.length + (b.length + (c.length + (d :: r).flatten.length)) := by
      rw [List.flatten_cons, List.flatten_cons, List.flatten_cons, List.length_append, List.length_append, List.length_append]
    rw [hfl] at e2
    have mp : ∀ (p : List Int32) (y : Nat), MP p y G → x ≤ y → y + p.length ≤ x + (a.length + (b.length + (c.length + (d :: r).flatten.length))) → MP p y G2 := fun p y hp hy1 hy i hi => by
      rw [e2 33 _ (Or.inl rfl) (by omega) (by omega), e2 34 _ (Or.inr rfl) (by omega) (by omega)]; exact hp i hi
    exact ⟨h1, h2, (e1 _ _ (by omega) (by omega) (by omega) h1).trans h3, (e1 _ _ (by omega) (by omega) (by omega) h1).trans h4, (e1 _ _ (by omega) (by omega) (by omega) h1).trans h5, (e1 _ _ (by omega) (by omega) (by omega) h1).trans h6, (e1 _ _ (by omega) (by omega) (by omega) h1).trans h7, mp _ _ h8 (by omega) (by omega), mp _ _ h9 (by omega) (by omega), mp _ _ h10 (by omega) (by omega), MB_fr2 (d :: r) _ _ _ h11 (fun q j u v w y => e1 q j u v (by omega) y) (fun q j u v w => e2 q j u (by omega) (by omega))⟩
  | [p], f, e, x, h, e1, e2 => by
    obtain ⟨h1, h2, h3, h4, h5, h6⟩ := h
    refine ⟨h1, h2, (e1 _ _ (by omega) (by omega) (by omega) (by omega)).trans h3, (e1 _ _ (by omega) (by omega) (by omega) (by omega)).trans h4, (e1 _ _ (by omega) (by omega) (by omega) (by omega)).trans h5, fun i hi => ?_⟩
    have hfl : ([p] : List (List Int32)).flatten.length = p.length := by simp
    rw [hfl] at e2
    rw [e2 33 _ (Or.inl rfl) (by omega) (by omega), e2 34 _ (Or.inr rfl) (by omega) (by omega)]; exact h6 i hi
  | [p, p2], f, e, x, h, e1, e2 => by
    obtain ⟨h1, h2, h3, h4, h5, h6⟩ := h
    refine ⟨h1, h2, (e1 _ _ (by omega) (by omega) (by omega) (by omega)).trans h3, (e1 _ _ (by omega) (by omega) (by omega) (by omega)).trans h4, (e1 _ _ (by omega) (by omega) (by omega) (by omega)).trans h5, fun i hi => ?_⟩
    have hfl : ([p, p2] : List (List Int32)).flatten.length = p.length + p2.length := by simp
    rw [hfl] at e2
    rw [e2 33 _ (Or.inl rfl) (by omega) (by omega), e2 34 _ (Or.inr rfl) (by omega) (by omega)]; exact h6 i hi
  | [p, p2, p3], f, e, x, h, e1, e2 => by
    obtain ⟨h1, h2, h3, h4, h5, h6⟩ := h
    refine ⟨h1, h2, (e1 _ _ (by omega) (by omega) (by omega) (by omega)).trans h3, (e1 _ _ (by omega) (by omega) (by omega) (by omega)).trans h4, (e1 _ _ (by omega) (by omega) (by omega) (by omega)).trans h5, fun i hi => ?_⟩
    have hfl : ([p, p2, p3] : List (List Int32)).flatten.length = p.length + (p2.length + p3.length) := by simp
    rw [hfl] at e2
    rw [e2 33 _ (Or.inl rfl) (by omega) (by omega), e2 34 _ (Or.inr rfl) (by omega) (by omega)]; exact h6 i hi
  | [], _, _, _, h, _, _ => h.elim
theorem MLc_fr {s k br co br2 co2 : Nat} {L : List (List Int32)} {G G2 : Hp} (h : MLc s k br co L G) (hb : br ≤ br2) (hc : co ≤ co2) (e0 : ∀ q, q = 26 ∨ q = 27 → G2.1 q (3 * s + k) = G.1 q (3 * s + k)) (e1 : ∀ q j, 28 ≤ q → q ≤ 32 → 130 * s ≤ j → j < br → G2.1 q j = G.1 q j) (e2 : ∀ q j, q = 33 ∨ q = 34 → 420 * s ≤ j → j < co → G2.1 q j = G.1 q j) : MLc s k br2 co2 L G2 := by
  unfold MLc
  rw [e0 26 (Or.inl rfl), e0 27 (Or.inr rfl)]
  rcases h with h | ⟨f, x, y, h1, h2, h3, ⟨⟨h4, h5⟩, h6, h7⟩, h8⟩
  · exact Or.inl h
  · exact Or.inr ⟨f, x, y, h1, h2, h3, ⟨⟨h4, by omega⟩, h6, by omega⟩, MB_fr2 L f x y h8 (fun q j a b c d => e1 q j a b (by omega) (by omega)) (fun q j a b c => e2 q j a (by omega) (by omega))⟩
/-- the told text stays where only newer cells change -/
theorem MTc_fr {s cl br co cl2 br2 co2 : Nat} {T : Txt} {G G2 : Hp} (h : MTc s cl br co T G) (hcl : cl ≤ cl2) (hb : br ≤ br2) (hc : co ≤ co2) (e1 : ∀ q, q = 10 ∨ q = 11 ∨ q = 14 ∨ q = 18 ∨ q = 24 ∨ q = 25 → G2.1 q s = G.1 q s) (e2 : ∀ q j, q = 12 ∨ q = 13 → 7 * s ≤ j → j < 7 * s + T.1 1 → G2.1 q j = G.1 q j) (e3 : ∀ q j, 15 ≤ q → q ≤ 17 → 4 * s ≤ j → j < 4 * s + T.1 2 → G2.1 q j = G.1 q j) (e4 : ∀ q j, 19 ≤ q → q ≤ 22 → 4 * s ≤ j → j < 4 * s + T.1 3 → G2.1 q j = G.1 q j) (e5 : ∀ j, 420 * s ≤ j → j < cl → G2.1 23 j = G.1 23 j) (e6 : ∀ q j, q = 26 ∨ q = 27 → 3 * s ≤ j → j < 3 * s + 3 → G2.1 q j = G.1 q j) (e7 : ∀ q j, 28 ≤ q → q ≤ 32 → 130 * s ≤ j → j < br → G2.1 q j = G.1 q j) (e8 : ∀ q j, q = 33 ∨ q = 34 → 420 * s ≤ j → j < co → G2.1 q j = G.1 q j) : MTc s cl2 br2 co2 T G2 := by
  obtain ⟨⟨a1, a2, a3, a4, a5, a6⟩, h2, h3, h4, h5⟩ := h
  refine ⟨⟨(e1 _ (by omega)).trans a1, (e1 _ (by omega)).trans a2, (e1 _ (by omega)).trans a3, (e1 _ (by omega)).trans a4, (e1 _ (by omega)).trans a5, (e1 _ (by omega)).trans a6⟩, fun a ha => ?_, fun w hw => ?_, fun b hb2 => ?_, fun k hk => MLc_fr (h5 k hk) hb hc (fun q hq => e6 q _ hq (by omega) (by omega)) e7 e8⟩
  · rw [e2 12 _ (by omega) (by omega) (by omega), e2 13 _ (by omega) (by omega) (by omega)]; exact h2 a ha
  · rw [e3 15 _ (by omega) (by omega) (by omega) (by omega), e3 16 _ (by omega) (by omega) (by omega) (by omega), e3 17 _ (by omega) (by omega) (by omega) (by omega)]; exact h3 w hw
  · obtain ⟨b1, b2', c, c1, c2', ⟨c3, c4⟩, c5⟩ := h4 b hb2
    exact ⟨(e4 19 _ (by omega) (by omega) (by omega) (by omega)).trans b1, (e4 20 _ (by omega) (by omega) (by omega) (by omega)).trans b2', c, (e4 21 _ (by omega) (by omega) (by omega) (by omega)).trans c1, (e4 22 _ (by omega) (by omega) (by omega) (by omega)).trans c2', ⟨c3, by omega⟩, fun i hi => (e5 _ (by omega) (by omega)).trans (c5 i hi)⟩
def BXs (t : Nat) (D : TKd) (p : Nat) (N : Nat × Nat) (T : Txt) (NM : List (List Nat × Bool)) (G : Hp) : Prop := XP t D p N G ∧ XNm (NM.map (·.1)) G ∧ XTn (trs NM) G ∧ (∀ i, i < 4 → G.1 (43 - t) i = nI (T.1 i)) ∧ (N.1 = 0 → XT (43 - t) T G)
def BMs (l : Nat) (D : TKd) (p : Nat) (N : Nat × Nat) (T : Txt) (NM : List (List Nat × Bool)) (cl br co : Nat) (G : Hp) : Prop := MPs l D p N G ∧ G.1 0 12 = 0 ∧ MNm NM G ∧ (G.1 10 (1 - l) = nI (T.1 0) ∧ G.1 11 (1 - l) = nI (T.1 1) ∧ G.1 14 (1 - l) = nI (T.1 2) ∧ G.1 18 (1 - l) = nI (T.1 3)) ∧ (G.1 0 36 = nI cl ∧ G.1 0 42 = nI br ∧ G.1 0 48 = nI co) ∧ (N.1 = 0 → MTc (1 - l) cl br co T G)
def BJ (l p : Nat) (N : Nat × Nat) (T : Txt) (NM : List (List Nat × Bool)) (cl br co : Nat) : Prop := l ≤ 1 ∧ okN p N ∧ (T.1 0 = (trs NM).length ∧ T.1 0 ≤ 8 ∧ T.1 1 ≤ 7 ∧ T.1 2 ≤ 4 ∧ T.1 3 ≤ 4 ∧ NM.length = T.1 0 + T.1 1 + T.1 2 + T.1 3) ∧ (420 * (1 - l) ≤ cl ∧ cl ≤ 420 * (1 - l) + p ∧ 420 * (1 - l) ≤ co ∧ co ≤ 420 * (1 - l) + p ∧ 130 * (1 - l) ≤ br ∧ 4 * br ≤ 520 * (1 - l) + p) ∧ (N.1 = 0 → WFT T)
/-- what one tell leaves on both sides -/
def TOK (t l : Nat) (D : TKd) (p : Nat) (Gx Gm : Hp) (ox : Option (Int32 × Hp)) (om : Option Hp) : Prop := (∃ Gx2 f i Gm2, ox = some (0, Gx2) ∧ XF t D f i Gx2 ∧ EXl t Gx Gx2 ∧ om = some Gm2 ∧ MF l D f i Gm2 ∧ EYl l Gm Gm2) ∨ ∃ Gx2 Gm2 p2 N2 T2 NM2 cl2 br2 co2, ox = some (1, Gx2) ∧ om = some Gm2 ∧ p < p2 ∧ BXs t D p2 N2 T2 NM2 Gx2 ∧ EXl t Gx Gx2 ∧ BMs l D p2 N2 T2 NM2 cl2 br2 co2 Gm2 ∧ EYl l Gm Gm2 ∧ BJ l p2 N2 T2 NM2 cl2 br2 co2
theorem XNm.E {NW : List (List Nat)} {G G2 : Hp} (h : XNm NW G) (e : G2.1 1 12 = G.1 1 12) (e8 : G2.2.1 8 = G.2.1 8) : XNm NW G2 := ⟨e.trans h.1, h.2.1, h.2.2.1, fun j hj => by rw [e8]; exact h.2.2.2 j hj⟩
/-- a count grows -/
theorem mCount {l q c : Nat} {G : Hp} (h19 : G.1 0 19 = nI (1 - l)) (hl : l ≤ 1) (hq : ln SHM q = 2) (hv : G.1 q (1 - l) = nI c) : ((aI SHM G q (G.1 0 19)).bind fun v6 => (asI SHM G q (G.1 0 19) (v6 + 1)).bind fun G7 => some G7) = some (sI G q (1 - l) (nI (c + 1))) := by
  rw [h19, aI_n (by rw [hq]; omega) (by omega), hv]
  simp only [ob]
  rw [asI_n (by rw [hq]; omega) (by omega), nI_1]
  rfl
