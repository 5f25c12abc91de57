/-! LAWS: the reference. -/
/-- nothing but the pile and the mark of a broken law has changed -/
def E38 (G G2 : Hp) : Prop := G2.2 = G.2 ∧ ∀ q k, q ≠ 38 → ¬ (q = 0 ∧ k = 57) → G2.1 q k = G.1 q k
theorem E38.rf {G : Hp} : E38 G G := ⟨rfl, fun _ _ _ _ => rfl⟩
theorem E38.tr {G G2 G3 : Hp} (h : E38 G G2) (h2 : E38 G2 G3) : E38 G G3 := ⟨h2.1.trans h.1, fun q k a b => (h2.2 q k a b).trans (h.2 q k a b)⟩
theorem E38.of {G G2 : Hp} (h : E1 38 G G2) : E38 G G2 := ⟨h.1, fun q k a _ => h.2 q k a⟩
theorem E38.b {G : Hp} {v : Int32} : E38 G (sI G 0 57 v) := ⟨rfl, fun q k _ b => sI_ne (by omega)⟩
theorem E38.M {G G2 : Hp} (h : E38 G G2) : EssM G G2 := ⟨h.1, fun q k hn => h.2 q k (fun e => hn (by unfold scrM; omega)) (fun e => hn (by unfold scrM; omega))⟩
theorem mc_num {k : Int32} (h : 0 ≤ k) : mcode k = 0 ∧ mint k = k := by unfold mcode mint; rw [if_pos h, if_pos h]; exact ⟨rfl, rfl⟩
theorem mc_var {k : Int32} (h : ¬ 0 ≤ k) (h1 : (-11) < k) : mcode k = 1 ∧ mint k = (-1) - k := by unfold mcode mint; rw [if_neg h, if_pos h1, if_neg h, if_pos h1]; exact ⟨rfl, rfl⟩
section MP
variable {v : Nat → Int32} {G : Hp}
theorem mP_num {i e : Nat} {st : List Int32} {k : Int32} (hL : LM G) (hi : i < e) (he : e ≤ 840) (h33 : G.1 33 i = 0) (h34 : G.1 34 i = k) (h1 : st.length + 1 ≤ 16) : fX11_termOf_S5 SHM 0 (nI e) G (nI st.length) (nI i) = some (.inl (sI G 38 st.length k, nI (st.length + 1), nI (i + 1))) := by
  unfold fX11_termOf_S5
  rw [if_neg (nI_ge hi (by omega)), ml_49 hL, ml_56 hL, ml_50 hL]
  simp only [Option.bind_some]
  rw [aI_n (by rw [mn_33]; omega) (by omega), h33]
  simp only [Option.bind_some]
  rw [if_neg (show ¬ (2 : Int32) ≤ 0 by decide), if_pos trivial, aI_n (by rw [mn_34]; omega) (by omega), h34]
  simp only [Option.bind_some]
  rw [asI_n (by rw [mn_38]; omega) (by omega)]
  simp only [Option.bind_some, bd, nI_1]
theorem mP_var {i e m : Nat} {st : List Int32} (hL : LM G) (hv : ∀ i, i < 9 → G.1 37 i = v i) (hi : i < e) (he : e ≤ 840) (h33 : G.1 33 i = 1) (h34 : G.1 34 i = nI m) (hm : m < 9) (h1 : st.length + 1 ≤ 16) : fX11_termOf_S5 SHM 0 (nI e) G (nI st.length) (nI i) = some (.inl (sI G 38 st.length (v m), nI (st.length + 1), nI (i + 1))) := by
  have h : aI SHM G 37 (nI m) = some (v m) := by rw [aI_n (by rw [mn_37]; exact hm) (by omega), hv m hm]
  unfold fX11_termOf_S5
  rw [if_neg (nI_ge hi (by omega)), ml_49 hL, ml_56 hL, ml_50 hL, ml_55 hL]
  simp only [Option.bind_some]
  rw [aI_n (by rw [mn_33]; omega) (by omega), h33]
  simp only [Option.bind_some]
  rw [if_neg (show ¬ (2 : Int32) ≤ 1 by decide), if_neg one_ne, aI_n (by rw [mn_34]; omega) (by omega), h34]
  simp only [Option.bind_some]
  rw [h]
  simp only [Option.bind_some]
  rw [asI_n (by rw [mn_38]; omega) (by omega)]
  simp only [Option.bind_some, bd, nI_1]
theorem op_1 {a b : Int32} : opL (-11) a b = a + b := if_pos rfl
theorem op_2 {a b : Int32} : opL (-12) a b = a - b := (if_neg (by decide)).trans (if_pos rfl)
theorem op_3 {a b : Int32} : opL (-13) a b = a * b := (if_neg (by decide)).trans ((if_neg (by decide)).trans (if_pos rfl))
theorem op_4 {a b : Int32} : opL (-14) a b = a / b := (if_neg (by decide)).trans ((if_neg (by decide)).trans (if_neg (by decide)))
theorem mJ {i e d : Nat} {k c a b : Int32} (hL : LM G) (hd : d + 2 ≤ 16) (hop : k = (-11) ∧ c = 2 ∨ k = (-12) ∧ c = 3 ∨ k = (-13) ∧ c = 4 ∨ k = (-14) ∧ c = 5 ∧ b ≠ 0) : fX11_termOf_J104L5 SHM G 0 (nI e) (nI (d + 1)) (nI i) c a b = some (.inl (sI G 38 d (opL k a b), nI (d + 1), nI (i + 1))) := by
  have hs : ∀ x, asI SHM G 38 (nI d) x = some (sI G 38 d x) := fun x => asI_n (by rw [mn_38]; omega) (by omega)
  unfold fX11_termOf_J104L5
  rw [ml_56 hL, nI_pred, nI_1]
  simp only [Option.bind_some]
  rw [hs, hs, hs, hs]
  simp only [Option.bind_some]
  unfold bd
  rcases hop with ⟨rfl, rfl⟩ | ⟨rfl, rfl⟩ | ⟨rfl, rfl⟩ | ⟨rfl, rfl, hb⟩
  · rw [if_pos rfl, op_1]
  · rw [if_neg (by decide), if_pos rfl, op_2]
  · rw [if_neg (by decide), if_neg (by decide), if_pos rfl, op_3]
  · rw [if_neg (by decide), if_neg (by decide), if_neg (by decide), if_neg hb, op_4]
theorem mc_op {k : Int32} (hop : k = (-11) ∨ k = (-12) ∨ k = (-13) ∨ k = (-14)) : k = (-11) ∧ mcode k = 2 ∨ k = (-12) ∧ mcode k = 3 ∨ k = (-13) ∧ mcode k = 4 ∨ k = (-14) ∧ mcode k = 5 := by
  rcases hop with rfl | rfl | rfl | rfl <;> decide
theorem mP_two {i e : Nat} {r : List Int32} {a b k : Int32} (hL : LM G) (hi : i < e) (he : e ≤ 840) (h33 : G.1 33 i = mcode k) (hop : k = (-11) ∨ k = (-12) ∨ k = (-13) ∨ k = (-14)) (hp : PI 38 (b :: a :: r) G) (hd : r.length + 2 ≤ 16) : fX11_termOf_S5 SHM 0 (nI e) G (nI (b :: a :: r).length) (nI i) = if k = (-14) ∧ b = 0 then some (.inr (.inr G)) else some (.inl (sI G 38 r.length (opL k a b), nI (r.length + 1), nI (i + 1))) := by
  have htop := PI_top hp
  have h2 := PI_top (PI_pop hp)
  simp only [List.length_cons] at htop ⊢
  have hc2 := mc_op hop
  generalize mcode k = c at h33 hc2
  have hge : (2 : Int32) ≤ c := by rcases hc2 with ⟨_, rfl⟩ | ⟨_, rfl⟩ | ⟨_, rfl⟩ | ⟨_, rfl⟩ <;> decide
  have hr1 : aI SHM G 38 (nI (r.length + 1)) = some b := by rw [aI_n (by rw [mn_38]; omega) (by omega), htop]
  have hr2 : aI SHM G 38 (nI r.length) = some a := by rw [aI_n (by rw [mn_38]; omega) (by omega), h2]
  unfold fX11_termOf_S5
  rw [if_neg (nI_ge hi (by omega)), ml_49 hL, ml_56 hL]
  simp only [Option.bind_some]
  rw [aI_n (by rw [mn_33]; omega) (by omega), h33]
  simp only [Option.bind_some]
  rw [if_pos hge, nI_p1m1]
  unfold bd
  dsimp only
  rw [nI_pred, hr1, hr2]
  simp only [Option.bind_some]
  by_cases h5 : c = 5
  · have hk : k = (-14) := by
      rcases hc2 with ⟨_, rfl⟩ | ⟨_, rfl⟩ | ⟨_, rfl⟩ | ⟨q, _⟩
      · exact absurd h5 (by decide)
      · exact absurd h5 (by decide)
      · exact absurd h5 (by decide)
      · exact q
    rw [if_pos h5]
    by_cases hb : b = 0
    · rw [if_pos hb, if_pos ⟨hk, hb⟩]
    · rw [if_neg hb, if_neg (fun q => hb q.2)]
      exact mJ hL hd (Or.inr (Or.inr (Or.inr ⟨hk, h5, hb⟩)))
  · rw [if_neg h5, if_neg (fun q => h5 (by
      rcases hc2 with ⟨w, _⟩ | ⟨w, _⟩ | ⟨w, _⟩ | ⟨_, w⟩
      · exact absurd (w.symm.trans q.1) (by decide)
      · exact absurd (w.symm.trans q.1) (by decide)
      · exact absurd (w.symm.trans q.1) (by decide)
      · exact w))]
    refine mJ hL hd ?_
    rcases hc2 with w | w | w | w
    · exact Or.inl w
    · exact Or.inr (Or.inl w)
    · exact Or.inr (Or.inr (Or.inl w))
    · exact absurd w.2 h5
theorem mP_step {i e : Nat} {k : Int32} {st p : List Int32} (hL : LM G) (hv : ∀ i, i < 9 → G.1 37 i = v i) (hi : i < e) (he : e ≤ 840) (hc : G.1 33 i = mcode k ∧ (mcode k < 2 → G.1 34 i = mint k)) (hp : PI 38 st G) (hok : okP (k :: p) st.length) (hd : st.length ≤ 16) :
    (stL v st k = none ∧ fX11_termOf_S5 SHM 0 (nI e) G (nI st.length) (nI i) = some (.inr (.inr G))) ∨
    ∃ st2 G2, stL v st k = some st2 ∧ fX11_termOf_S5 SHM 0 (nI e) G (nI st.length) (nI i) = some (.inl (G2, nI st2.length, nI (i + 1))) ∧ PI 38 st2 G2 ∧ E1 38 G G2 ∧ okP p st2.length ∧ st2.length ≤ 16 := by
  rcases okP_c hok with ⟨h0, h1, h2⟩ | ⟨⟨m, hm, em⟩, h0, h1, h2, h3⟩ | ⟨hop, h0, h1, h2, h3⟩
  · obtain ⟨m1, m2⟩ := mc_num h0
    rw [m1, m2] at hc
    exact Or.inr ⟨_, _, stL_num h0, mP_num hL hi he hc.1 (hc.2 (by decide)) h1, PI_push hp, E1.s, h2, h1⟩
  · obtain ⟨m1, m2⟩ := mc_var h0 h1
    rw [m1, m2, em] at hc
    exact Or.inr ⟨_, _, stL_var h0 h1 hm em, mP_var hL hv hi he hc.1 (hc.2 (by decide)) hm h2, PI_push hp, E1.s, h3, h2⟩
  · match st, hp, hd, h2, h3 with
    | [x], _, _, h2, _ => simp at h2
    | b :: a :: r, hp, hd, h2, h3 =>
      have hs := mP_two hL hi he hc.1 hop hp hd
      have hs2 := stL_op (v := v) (r := r) (a := a) (b := b) h0 h1
      by_cases hc : k = (-14) ∧ b = 0
      · rw [if_pos hc] at hs hs2; exact Or.inl ⟨hs2, hs⟩
      · rw [if_neg hc] at hs hs2; exact Or.inr ⟨_, _, hs2, hs, PI_push (PI_pop (PI_pop hp)), E1.s, h3, by simp only [List.length_cons] at hd ⊢; omega⟩
theorem mP_loop {e : Nat} {G0 : Hp} (hL : LM G0) (hv : ∀ i, i < 9 → G0.1 37 i = v i) (he : e ≤ 840) : ∀ (p st : List Int32) (i fu : Nat) (G : Hp), i + p.length = e → MP p i G0 → okP p st.length → st.length ≤ 16 → PI 38 st G → E1 38 G0 G → p.length < fu →
    ∃ G2, E1 38 G0 G2 ∧ ((evP v p st = none ∧ iter (fun s : Hp × Int32 × Int32 => fX11_termOf_S5 SHM 0 (nI e) s.1 s.2.1 s.2.2) fu (G, nI st.length, nI i) = some (.inr G2)) ∨ ∃ x, evP v p st = some x ∧ iter (fun s : Hp × Int32 × Int32 => fX11_termOf_S5 SHM 0 (nI e) s.1 s.2.1 s.2.2) fu (G, nI st.length, nI i) = some (.inl G2) ∧ G2.1 38 0 = x) := by
  intro p
  induction p with
  | nil =>
    intro st i fu G hi hc hok hd hp hE hf
    obtain ⟨fu, rfl⟩ : ∃ n, fu = n + 1 := ⟨fu - 1, by simp at hf; omega⟩
    have hok1 : st.length = 1 := hok
    match st, hok1, hp with
    | [x], _, hp =>
      refine ⟨G, hE, Or.inr ⟨x, rfl, iter_out ?_, PI_top hp⟩⟩
      dsimp only
      unfold fX11_termOf_S5
      rw [if_pos (by rw [show i = e by simpa using hi]; exact nI_le (Nat.le_refl e) (by omega))]
  | cons k p ih =>
    intro st i fu G hi hc hok hd hp hE hf
    obtain ⟨fu, rfl⟩ : ∃ n, fu = n + 1 := ⟨fu - 1, by simp at hf; omega⟩
    simp only [List.length_cons] at hi hf
    have hL2 : LM G := hL.same (by rw [hE.1])
    have hk : G.1 33 i = mcode k ∧ (mcode k < 2 → G.1 34 i = mint k) := by
      rw [hE.2 _ _ (by omega), hE.2 34 _ (by omega)]
      exact hc 0 (by simp)
    rcases mP_step (v := v) hL2 (fun i hi => by rw [hE.2 _ _ (by omega)]; exact hv i hi) (show i < e by omega) he hk hp hok hd with ⟨a1, a2⟩ | ⟨st2, G2, a1, a2, a3, a4, a5, a6⟩
    · refine ⟨G, hE, Or.inl ⟨by unfold evP; rw [a1]; rfl, iter_out a2⟩⟩
    · obtain ⟨G3, b1, b2⟩ := ih st2 (i + 1) fu G2 (by omega) (fun j hj => by rw [show i + 1 + j = i + (j + 1) by omega]; exact hc (j + 1) (by simp; omega)) a5 a6 a3 (hE.tr a4) (by omega)
      refine ⟨G3, b1, ?_⟩
      rw [iter_in a2]
      unfold evP
      rw [a1]
      exact b2
theorem mTerm {p : List Int32} {i : Nat} (hL : LM G) (hv : ∀ i, i < 9 → G.1 37 i = v i) (he : i + p.length ≤ 840) (hp : MP p i G) (hok : okP p 0) : ∃ G2, fX11_termOf SHM G 0 (nI i) (nI (i + p.length)) = some ((evP v p []).getD 0, G2) ∧ E38 G G2 ∧ G2.1 0 57 = if evP v p [] = none then 1 else G.1 0 57 := by
  obtain ⟨G2, g1, g2⟩ := mP_loop hL hv he p [] i fuel G rfl hp hok (by decide) (fun j hj => by simp at hj) E1.rf (by unfold fuel; omega)
  unfold fX11_termOf
  rcases g2 with ⟨a, b⟩ | ⟨x, a, b, c⟩
  · rw [show (0 : Int32) = nI ([] : List Int32).length from rfl, b, a]
    exact ⟨_, rfl, (E38.of g1).tr E38.b, by rw [if_pos rfl]; exact sI_same⟩
  · rw [show (0 : Int32) = nI ([] : List Int32).length from rfl, b, a]
    simp only [Option.bind_some, Sum.elim_inl, bd]
    rw [ml_56 (hL.same (by rw [g1.1]))]
    simp only [Option.bind_some]
    rw [show nI ([] : List Int32).length = nI 0 from rfl, aI_n (by rw [mn_38]; decide) (by decide), c]
    refine ⟨G2, rfl, E38.of g1, ?_⟩
    rw [if_neg (by simp)]
    exact g1.2 0 57 (by decide)
/-- where the reference's look for a branch ends -/
def endL (v : Nat → Int32) (G0 : Hp) (L : List (List Int32)) (o : Hp ⊕ ((Hp × Int32) ⊕ Hp)) : Prop := (∃ G1, o = .inr (.inr G1) ∧ E38 G0 G1 ∧ evL v L = 0) ∨ ∃ G1 f x p, o = .inr (.inl (G1, nI f)) ∧ E38 G0 G1 ∧ f < 260 ∧ x + p.length ≤ 840 ∧ okP p 0 ∧ MP p x G0 ∧ G0.1 31 f = nI x ∧ G0.1 32 f = nI (x + p.length) ∧ G1.1 0 57 = 0 ∧ evL v L = (evP v p []).getD 0
theorem E38.fr {G0 G1 : Hp} (hE : E38 G0 G1) (hL : LM G0) (hv : ∀ i, i < 9 → G0.1 37 i = v i) : LM G1 ∧ (∀ i, i < 9 → G1.1 37 i = v i) ∧ (∀ q k, 26 ≤ q → q ≤ 34 → G1.1 q k = G0.1 q k) := ⟨hL.same (by rw [hE.1]), fun i hi => by rw [hE.2 _ _ (by omega) (by omega)]; exact hv i hi, fun q k _ _ => hE.2 _ _ (by omega) (by omega)⟩
theorem mL_last {p : List Int32} {f e x at' fu : Nat} {L : List (List Int32)} {G0 G1 : Hp} (hL : LM G0) (hv : ∀ i, i < 9 → G0.1 37 i = v i) (ha : at' < 6) (h27 : G0.1 27 at' = nI e) (hok : okP p 0) (hx : x + p.length ≤ 840) (hev : evL v L = (evP v p []).getD 0) (h : f + 1 = e ∧ e ≤ 260 ∧ G0.1 28 f = 0 ∧ G0.1 31 f = nI x ∧ G0.1 32 f = nI (x + p.length) ∧ MP p x G0) (hE : E38 G0 G1) (h57 : G1.1 0 57 = 0) : ∃ o, iter (fun s : Hp × Int32 => fX11_lawTells_S39 SHM 0 (nI at') s.1 s.2) (fu + 1) (G1, nI f) = some o ∧ endL v G0 L o := by
  obtain ⟨h1, h2, h3, h4, h5, h6⟩ := h
  obtain ⟨a1, a2, a3⟩ := hE.fr hL hv
  refine ⟨_, iter_out (o := .inr (.inl (G1, nI f))) ?_, Or.inr ⟨G1, f, x, p, rfl, hE, by omega, hx, hok, h6, h4, h5, h57, hev⟩⟩
  dsimp only
  unfold fX11_lawTells_S39
  rw [ml_41 a1, ml_43 a1]
  simp only [Option.bind_some]
  rw [aI_n (by rw [mn_27]; exact ha) (by omega), a3 27 _ (by omega) (by omega), h27]
  simp only [Option.bind_some]
  rw [if_neg (nI_ge (by omega) (by omega)), aI_n (by rw [mn_28]; omega) (by omega), a3 28 _ (by omega) (by omega), h3]
  simp only [Option.bind_some, if_true]
theorem mL_loop {e at' : Nat} {G0 : Hp} (hL : LM G0) (hv : ∀ i, i < 9 → G0.1 37 i = v i) (ha : at' < 6) (h27 : G0.1 27 at' = nI e) : ∀ (L : List (List Int32)) (f x fu : Nat) (G1 : Hp), MB L f e x G0 → (∀ p ∈ L, okP p 0) → x + L.flatten.length ≤ 840 → E38 G0 G1 → G1.1 0 57 = 0 → ∃ o, iter (fun s : Hp × Int32 => fX11_lawTells_S39 SHM 0 (nI at') s.1 s.2) (fu + L.length) (G1, nI f) = some o ∧ endL v G0 L o
  | a :: b :: c :: d :: r, f, x, fu, G1, h, hok, hx, hE, h57 => by
    obtain ⟨h1, h2, h3, h4, h5, h6, h7, h8, h9, h10, h11⟩ := h
    obtain ⟨l1, l2, l3⟩ := hE.fr hL hv
    simp only [List.flatten_cons, List.length_append] at hx
    obtain ⟨G2, t1, t2, t3⟩ := mTerm l1 l2 (by omega) (MP_fr h8 (fun q k hq => l3 q k (by omega) (by omega))) (hok a (by simp))
    have hE2 := hE.tr t2
    obtain ⟨m1, m2, m3⟩ := hE2.fr hL hv
    obtain ⟨G3, u1, u2, u3⟩ := mTerm m1 m2 (by omega) (MP_fr h9 (fun q k hq => m3 q k (by omega) (by omega))) (hok b (by simp))
    have hE3 := hE2.tr u2
    have hev : evL v (a :: b :: c :: d :: r) = match evP v a [], evP v b [] with
      | some x, some y => if x < y then (evP v c []).getD 0 else evL v (d :: r)
      | _, _ => 0 := by rw [evL.eq_1]; rfl
    have hS : fX11_lawTells_S39 SHM 0 (nI at') G1 (nI f) = if (G3.1 0 57) = 0 then if (evP v a []).getD 0 < (evP v b []).getD 0 then some (.inr (.inr (.inl (G3, nI f)))) else some (.inl (G3, nI (f + 1))) else some (.inr (.inr (.inr G3))) := by
      unfold fX11_lawTells_S39
      rw [ml_41 l1, ml_43 l1, ml_44 l1, ml_45 l1]
      simp only [Option.bind_some]
      rw [aI_n (by rw [mn_27]; exact ha) (by omega), l3 27 _ (by omega) (by omega), h27]
      simp only [Option.bind_some]
      rw [if_neg (nI_ge h1 (by omega)), aI_n (by rw [mn_28]; omega) (by omega), l3 28 _ (by omega) (by omega), h3]
      simp only [Option.bind_some, if_neg one_ne]
      rw [aI_n (by rw [mn_29]; omega) (by omega), aI_n (by rw [mn_30]; omega) (by omega), l3 29 _ (by omega) (by omega), l3 30 _ (by omega) (by omega), h4, h5]
      simp only [Option.bind_some]
      rw [t1]
      simp only [bp, Option.bind_some]
      rw [ml_45 m1, ml_46 m1]
      simp only [Option.bind_some]
      rw [aI_n (by rw [mn_30]; omega) (by omega), aI_n (by rw [mn_31]; omega) (by omega), m3 30 _ (by omega) (by omega), m3 31 _ (by omega) (by omega), h5, h6]
      simp only [Option.bind_some]
      rw [u1]
      simp only [Option.bind_some, bd, nI_1]
    have hb57 : G3.1 0 57 = if evP v a [] = none ∨ evP v b [] = none then 1 else 0 := by
      rw [u3, t3, h57]
      cases evP v a [] <;> cases evP v b [] <;> simp
    cases ea : evP v a [] with
    | none =>
      rw [ea] at hev hb57 hS
      rw [if_pos (Or.inl rfl)] at hb57
      rw [hb57, if_neg one_ne] at hS
      exact ⟨_, iter_out hS, Or.inl ⟨G3, rfl, hE3, hev⟩⟩
    | some xa =>
      cases eb : evP v b [] with
      | none =>
        rw [eb] at hb57
        rw [ea, eb] at hev
        rw [if_pos (Or.inr rfl)] at hb57
        rw [hb57, if_neg one_ne] at hS
        exact ⟨_, iter_out hS, Or.inl ⟨G3, rfl, hE3, hev⟩⟩
      | some xb =>
        rw [ea, eb] at hb57
        rw [ea, eb] at hev hS
        rw [if_neg (by simp)] at hb57
        rw [hb57, if_pos rfl] at hS
        dsimp only at hev
        by_cases hlt : xa < xb
        · rw [if_pos hlt] at hev
          rw [if_pos (show (some xa).getD 0 < (some xb).getD 0 from hlt)] at hS
          exact ⟨_, iter_out hS, Or.inr ⟨G3, f, x + a.length + b.length, c, rfl, hE3, by omega, by omega, hok c (by simp), h10, h6, h7, hb57, hev⟩⟩
        · rw [if_neg hlt] at hev
          rw [if_neg (show ¬ (some xa).getD 0 < (some xb).getD 0 from hlt)] at hS
          obtain ⟨o, o1, o2⟩ := mL_loop hL hv ha h27 (d :: r) (f + 1) _ (fu + 2) G3 h11 (fun p hp => hok p (List.mem_cons_of_mem _ (List.mem_cons_of_mem _ (List.mem_cons_of_mem _ hp)))) (by simp only [List.flatten_cons, List.length_append]; omega) hE3 hb57
          refine ⟨o, ?_, ?_⟩
          · rw [show fu + (a :: b :: c :: d :: r).length = (fu + 2 + (d :: r).length) + 1 by simp only [List.length_cons]; omega, iter_in hS]; exact o1
          · unfold endL at o2 ⊢; rw [hev]; exact o2
  | [p], f, x, fu, G1, h, hok, hx, hE, h57 => mL_last (fu := fu) hL hv ha h27 (hok p (by simp)) (by simp at hx; omega) rfl h hE h57
  | [p, p2], f, x, fu, G1, h, hok, hx, hE, h57 => mL_last (fu := fu + 1) hL hv ha h27 (hok p (by simp)) (by simp at hx; omega) rfl h hE h57
  | [p, p2, p3], f, x, fu, G1, h, hok, hx, hE, h57 => mL_last (fu := fu + 2) hL hv ha h27 (hok p (by simp)) (by simp at hx; omega) rfl h hE h57
  | [], f, x, fu, G1, h, hok, hx, hE, h57 => h.elim
theorem mLaw {l k : Nat} {T : Txt} {L : List (List Int32)} {d : Int32} (hM : ML0 l T G) (hk : k < 3) (hv : ∀ i, i < 9 → G.1 37 i = v i) (hML : ML l k L G) (hWF : WFL L) (hd : evL v (dfl k) = d) : ∃ G2, fX11_lawTells SHM G 0 (nI k) d = some (evL v L, G2) ∧ E38 G G2 := by
  have hL := hM.1
  have hl := hM.2.1
  unfold fX11_lawTells
  have e3 : (3 : Int32) * G.1 0 18 + nI k = nI (3 * l + k) := by rw [hM.2.2.1, show (3 : Int32) * nI l = nI (3 * l) from pk_mul 3 l, nI_add]
  simp only [bd, e3]
  rw [ml_40 hL, ml_41 hL]
  simp only [Option.bind_some]
  rw [aI_n (by rw [mn_26]; omega) (by omega), aI_n (by rw [mn_27]; omega) (by omega)]
  simp only [Option.bind_some]
  rcases hML with ⟨rfl, h1⟩ | ⟨f, e, x, h1, h2, h3, h4, h5⟩
  · rw [if_pos h1]; exact ⟨G, by rw [hd], E38.rf⟩
  · have hmb : e ≤ 260 := by
      match L, h5 with
      | _ :: _ :: _ :: _ :: _, h => exact h.2.1
      | [_], h => exact h.2.1
      | [_, _], h => exact h.2.1
      | [_, _, _], h => exact h.2.1
    have hlen : L.length ≤ 13 := by obtain ⟨n, a, b⟩ := hWF.1; omega
    rw [h1, h2, if_neg (fun q => by have := (nI_eq (by omega) (by omega)).mp q; omega)]
    have hL2 : LM (sI G 0 57 0) := hL
    rw [ml_40 hL2]
    simp only [Option.bind_some]
    have hE : E38 G (sI G 0 57 0) := E38.b
    rw [aI_n (by rw [mn_26]; omega) (by omega), hE.2 26 _ (by omega) (by omega), h1]
    simp only [Option.bind_some]
    obtain ⟨o, o1, o2⟩ := mL_loop hL hv (show 3 * l + k < 6 by omega) h2 L f x (fuel - L.length) _ h5 hWF.2.2 (by omega) hE sI_same
    rw [show fuel - L.length + L.length = fuel by unfold fuel; omega] at o1
    rw [o1]
    rcases o2 with ⟨G1, rfl, g1, g2⟩ | ⟨G1, f2, x2, p, rfl, g1, g2, g3, g4, g5, g6, g7, g8, g9⟩
    · exact ⟨G1, by rw [g2]; rfl, g1⟩
    · simp only [Option.bind_some, Sum.elim_inr, Sum.elim_inl]
      obtain ⟨a1, a2, a3⟩ := g1.fr hL hv
      unfold fX11_lawTells_J119
      rw [ml_46 a1, ml_47 a1]
      simp only [Option.bind_some]
      rw [aI_n (by rw [mn_31]; omega) (by omega), aI_n (by rw [mn_32]; omega) (by omega), a3 31 _ (by omega) (by omega), a3 32 _ (by omega) (by omega), g6, g7]
      simp only [Option.bind_some]
      obtain ⟨G2, t1, t2, t3⟩ := mTerm a1 a2 g3 (MP_fr g5 (fun q k hq => a3 q k (by omega) (by omega))) g4
      rw [t1]
      simp only [bp, Option.bind_some]
      rw [t3, g8]
      refine ⟨G2, ?_, g1.tr t2⟩
      rw [g9]
      cases evP v p [] <;> simp
end MP
