/-! LAWS: what they tell. -/
/-- nothing but cell p has changed -/
def E1 (p : Nat) (G G2 : Hp) : Prop := G2.2 = G.2 ∧ ∀ q k, q ≠ p → G2.1 q k = G.1 q k
theorem E1.rf {p : Nat} {G : Hp} : E1 p G G := ⟨rfl, fun _ _ _ => rfl⟩
theorem E1.tr {p : Nat} {G G2 G3 : Hp} (h : E1 p G G2) (h2 : E1 p G2 G3) : E1 p G G3 := ⟨h2.1.trans h.1, fun q k hn => (h2.2 q k hn).trans (h.2 q k hn)⟩
theorem E1.s {p : Nat} {G : Hp} {k : Nat} {v : Int32} : E1 p G (sI G p k v) := ⟨rfl, fun q2 k2 hn => sI_ne (Or.inl hn)⟩
def PI (p : Nat) (st : List Int32) (G : Hp) : Prop := ∀ j, j < st.length → G.1 p (st.length - 1 - j) = st.getD j 0
theorem PI_push {p : Nat} {st : List Int32} {G : Hp} {b : Int32} (h : PI p st G) : PI p (b :: st) (sI G p st.length b) := by
  intro j hj
  cases j with
  | zero => simp only [List.length_cons, Nat.add_sub_cancel, Nat.sub_zero]; rw [sI_same]; rfl
  | succ j =>
    simp only [List.length_cons] at hj ⊢
    rw [sI_ne (Or.inr (by omega)), show st.length + 1 - 1 - (j + 1) = st.length - 1 - j by omega, h j (by omega)]
    rfl
theorem PI_pop {p : Nat} {b : Int32} {st : List Int32} {G : Hp} (h : PI p (b :: st) G) : PI p st G := by
  intro j hj
  have := h (j + 1) (by simp; omega)
  simp only [List.length_cons] at this
  rw [show st.length + 1 - 1 - (j + 1) = st.length - 1 - j by omega] at this
  rw [this]; rfl
theorem PI_top {p : Nat} {b : Int32} {st : List Int32} {G : Hp} (h : PI p (b :: st) G) : G.1 p st.length = b := by
  have := h 0 (by simp)
  simpa using this
theorem i_eq {k : Int32} {n : Int} (h : k.toInt = n) (c : Int32) (hc : c.toInt = n) : k = c := Int32.toInt_inj.mp (h.trans hc.symm)
theorem okP_c {k : Int32} {p : List Int32} {d : Nat} (h : okP (k :: p) d) : (0 ≤ k ∧ d + 1 ≤ 16 ∧ okP p (d + 1)) ∨ ((∃ m, m < 9 ∧ (-1) - k = nI m) ∧ ¬ 0 ≤ k ∧ (-11) < k ∧ d + 1 ≤ 16 ∧ okP p (d + 1)) ∨ ((k = (-11) ∨ k = (-12) ∨ k = (-13) ∨ k = (-14)) ∧ ¬ 0 ≤ k ∧ ¬ (-11) < k ∧ 2 ≤ d ∧ okP p (d - 1)) := by
  unfold okP at h
  by_cases h0 : 0 ≤ k
  · rw [if_pos h0] at h; exact Or.inl ⟨h0, h⟩
  · rw [if_neg h0] at h
    have h0' : k.toInt < 0 := by
      have := mt Int32.le_iff_toInt_le.mpr h0
      have z : (0 : Int32).toInt = 0 := by decide
      rw [z] at this; omega
    by_cases h1 : (-11) < k
    · rw [if_pos h1] at h
      refine Or.inr (Or.inl ⟨?_, h0, h1, h.2⟩)
      have h2 := Int32.lt_iff_toInt_lt.mp h.1
      rw [show ((-10 : Int32)).toInt = -10 by decide] at h2
      rcases (by omega : k.toInt = -1 ∨ k.toInt = -2 ∨ k.toInt = -3 ∨ k.toInt = -4 ∨ k.toInt = -5 ∨ k.toInt = -6 ∨ k.toInt = -7 ∨ k.toInt = -8 ∨ k.toInt = -9) with e | e | e | e | e | e | e | e | e
      · rw [i_eq e (-1) (by decide)]; exact ⟨0, by decide, by decide⟩
      · rw [i_eq e (-2) (by decide)]; exact ⟨1, by decide, by decide⟩
      · rw [i_eq e (-3) (by decide)]; exact ⟨2, by decide, by decide⟩
      · rw [i_eq e (-4) (by decide)]; exact ⟨3, by decide, by decide⟩
      · rw [i_eq e (-5) (by decide)]; exact ⟨4, by decide, by decide⟩
      · rw [i_eq e (-6) (by decide)]; exact ⟨5, by decide, by decide⟩
      · rw [i_eq e (-7) (by decide)]; exact ⟨6, by decide, by decide⟩
      · rw [i_eq e (-8) (by decide)]; exact ⟨7, by decide, by decide⟩
      · rw [i_eq e (-9) (by decide)]; exact ⟨8, by decide, by decide⟩
    · rw [if_neg h1] at h
      refine Or.inr (Or.inr ⟨?_, h0, h1, h.2⟩)
      have h2 := Int32.lt_iff_toInt_lt.mp h.1
      rw [show ((-15 : Int32)).toInt = -15 by decide] at h2
      have h3 := mt Int32.lt_iff_toInt_lt.mpr h1
      rw [show ((-11 : Int32)).toInt = -11 by decide] at h3
      rcases (by omega : k.toInt = -11 ∨ k.toInt = -12 ∨ k.toInt = -13 ∨ k.toInt = -14) with e | e | e | e
      · exact Or.inl (i_eq e (-11) (by decide))
      · exact Or.inr (Or.inl (i_eq e (-12) (by decide)))
      · exact Or.inr (Or.inr (Or.inl (i_eq e (-13) (by decide))))
      · exact Or.inr (Or.inr (Or.inr (i_eq e (-14) (by decide))))
/-- what an operation makes of two -/
def opL (k a b : Int32) : Int32 := if k = (-11) then a + b else if k = (-12) then a - b else if k = (-13) then a * b else a / b
theorem stL_num {v : Nat → Int32} {st : List Int32} {k : Int32} (h : 0 ≤ k) : stL v st k = some (k :: st) := by unfold stL; rw [if_pos h]
theorem stL_var {v : Nat → Int32} {st : List Int32} {k : Int32} {m : Nat} (h : ¬ 0 ≤ k) (h1 : (-11) < k) (hm : m < 9) (h2 : (-1) - k = nI m) : stL v st k = some (v m :: st) := by
  unfold stL; rw [if_neg h, if_pos h1, h2, nI_clamp (by omega)]
theorem stL_op {v : Nat → Int32} {r : List Int32} {k a b : Int32} (h : ¬ 0 ≤ k) (h1 : ¬ (-11) < k) : stL v (b :: a :: r) k = if k = (-14) ∧ b = 0 then none else some (opL k a b :: r) := by
  unfold stL; rw [if_neg h, if_neg h1]; rfl
theorem xJoin {k a b : Int32} (hk : k = (-11) ∨ k = (-12) ∨ k = (-13) ∨ k = (-14)) (h : ¬ (k = (-14) ∧ b = 0)) : fX4_join k a b = some (opL k a b) := by
  unfold fX4_join opL
  rcases hk with rfl | rfl | rfl | rfl
  · rfl
  · rfl
  · rfl
  · rw [if_neg (by decide), if_neg (by decide), if_neg (by decide), if_neg (fun e => h ⟨rfl, e⟩), if_neg (fun e => h ⟨rfl, e⟩)]; rfl
section XP
variable {t w : Nat} {v : Nat → Int32}
theorem xP_op {j e i : Nat} {k a b : Int32} {r : List Int32} {G : Hp} (hx : LX t G) (hw : isL w) (hk : k = (-11) ∨ k = (-12) ∨ k = (-13) ∨ k = (-14)) (hb : ¬ (k = (-14) ∧ b = 0)) (hp : PI (w + 3) (b :: a :: r) G) (hd : r.length + 2 ≤ 16) : fX4_partBy_J126L34 SHX G w (nI j) 59 (nI (r.length + 1)) (nI i) k = some (.inl (sI G (w + 3) r.length (opL k a b), nI (r.length + 1), nI (i + 1))) := by
  unfold fX4_partBy_J126L34
  rw [xw_4 hw hx]
  simp only [Option.bind_some]
  have h1 := PI_top hp
  have h2 := PI_top (PI_pop hp)
  simp only [List.length_cons] at h1
  rw [nI_pred, aI_n (by rw [xwn_4 hw]; omega) (by omega), aI_n (by rw [xwn_4 hw]; omega) (by omega), h1, h2]
  simp only [Option.bind_some]
  rw [xJoin hk hb]
  simp only [Option.bind_some]
  rw [asI_n (by rw [xwn_4 hw]; omega) (by omega)]
  simp only [Option.bind_some, bd, nI_1]
theorem xP_ent {j i e : Nat} {st : List Int32} {k : Int32} {G : Hp} (hx : LX t G) (hw : isL w) (hj : j < 13) (hend : G.1 (w + 2) j = nI e) (hi : i < e) (he : e ≤ 400) (hk : G.1 (w + 1) i = k) {z : Option ((Hp × Int32 × Int32) ⊕ ((Hp × Int32) ⊕ (Hp)))} (h : (if k ≤ (-11) then if nI st.length < 2 then bd ((nI i + 1) : Int32) fun x8 => some (.inl (G, nI st.length, x8)) else bd ((nI st.length + (-1)) : Int32) fun x9 => if k = (-14) then (ldA SHX G w 4 1).bind fun a11 => (aI SHX G a11 x9).bind fun v12 => if v12 = 0 then some (.inr (.inr G)) else fX4_partBy_J126L34 SHX G w (nI j) 59 x9 (nI i) k else fX4_partBy_J126L34 SHX G w (nI j) 59 x9 (nI i) k else (ldA SHX G w 4 1).bind fun a14 => if (nI (ln SHX a14)) ≤ nI st.length then bd ((nI i + 1) : Int32) fun x16 => some (.inl (G, nI st.length, x16)) else (ldA SHX G w 4 1).bind fun a17 => if k < 0 then (fX4_varOf SHX G k 59).bind fun r19 => (asI SHX G a17 (nI st.length) r19).bind fun G20 => bd ((nI st.length + 1) : Int32) fun x21 => bd ((nI i + 1) : Int32) fun x22 => some (.inl (G20, x21, x22)) else (asI SHX G a17 (nI st.length) k).bind fun G23 => bd ((nI st.length + 1) : Int32) fun x24 => bd ((nI i + 1) : Int32) fun x25 => some (.inl (G23, x24, x25))) = z) : fX4_partBy_S34 SHX w (nI j) 59 G (nI st.length) (nI i) = z := by
  unfold fX4_partBy_S34
  rw [xw_2 hw hx, xw_0 hw hx]
  simp only [Option.bind_some]
  rw [aI_n (by rw [xwn_2 hw]; omega) (by omega), hend]
  simp only [Option.bind_some]
  rw [if_neg (nI_ge hi (by omega)), aI_n (by rw [xwn_0 hw]; omega) (by omega), hk]
  simp only [Option.bind_some]
  exact h
theorem xP_num {j i e : Nat} {st : List Int32} {k : Int32} {G : Hp} (hx : LX t G) (hw : isL w) (hj : j < 13) (hend : G.1 (w + 2) j = nI e) (hi : i < e) (he : e ≤ 400) (hk : G.1 (w + 1) i = k) (h0 : 0 ≤ k) (h1 : st.length + 1 ≤ 16) : fX4_partBy_S34 SHX w (nI j) 59 G (nI st.length) (nI i) = some (.inl (sI G (w + 3) st.length k, nI (st.length + 1), nI (i + 1))) := by
  apply xP_ent hx hw hj hend hi he hk
  have hn : ¬ k ≤ (-11) := by
    intro q
    have q1 := Int32.le_iff_toInt_le.mp q
    have q2 := Int32.le_iff_toInt_le.mp h0
    rw [show ((-11 : Int32)).toInt = -11 by decide] at q1
    rw [show ((0 : Int32)).toInt = 0 by decide] at q2
    omega
  rw [if_neg hn, xw_4 hw hx]
  simp only [Option.bind_some]
  rw [xwn_4 hw, if_neg (nI_ge (by omega) (by decide)), if_neg (Int32.not_lt.mpr h0), asI_n (by rw [xwn_4 hw]; omega) (by omega)]
  simp only [Option.bind_some, bd, nI_1]
theorem xP_v {m : Nat} {k : Int32} {G : Hp} (hv : ∀ i, i < 9 → G.1 59 i = v i) (hm : m < 9) (em : (-1) - k = nI m) : fX4_varOf SHX G k 59 = some (v m) := by
  have h : aI SHX G 59 (nI m) = some (v m) := by rw [aI_n (by rw [xnn_59]; exact hm) (by omega), hv m hm]
  have h9 : ¬ nI (ln SHX 59) ≤ nI m := by rw [xnn_59]; exact nI_ge hm (by decide)
  have h0 : ¬ nI m < 0 := nI_pos (by omega)
  unfold fX4_varOf
  rw [em]
  dsimp only [bd]
  rw [if_neg h0, if_neg h9, h, Option.bind_some]
theorem xP_var {j i e m : Nat} {st : List Int32} {k : Int32} {G : Hp} (hx : LX t G) (hw : isL w) (hv : ∀ i, i < 9 → G.1 59 i = v i) (hj : j < 13) (hend : G.1 (w + 2) j = nI e) (hi : i < e) (he : e ≤ 400) (hk : G.1 (w + 1) i = k) (h0 : ¬ 0 ≤ k) (h1 : (-11) < k) (hm : m < 9) (em : (-1) - k = nI m) (h2 : st.length + 1 ≤ 16) : fX4_partBy_S34 SHX w (nI j) 59 G (nI st.length) (nI i) = some (.inl (sI G (w + 3) st.length (v m), nI (st.length + 1), nI (i + 1))) := by
  apply xP_ent hx hw hj hend hi he hk
  have hn : ¬ k ≤ (-11) := Int32.not_le.mpr h1
  rw [if_neg hn, xw_4 hw hx]
  simp only [Option.bind_some]
  rw [xwn_4 hw, if_neg (nI_ge (by omega) (by decide)), if_pos (Int32.not_le.mp h0)]
  have hvar : fX4_varOf SHX G k 59 = some (v m) := xP_v hv hm em
  rw [hvar]
  simp only [Option.bind_some]
  rw [asI_n (by rw [xwn_4 hw]; omega) (by omega)]
  simp only [Option.bind_some, bd, nI_1]
theorem xP_two {j i e : Nat} {r : List Int32} {a b k : Int32} {G : Hp} (hx : LX t G) (hw : isL w) (hj : j < 13) (hend : G.1 (w + 2) j = nI e) (hi : i < e) (he : e ≤ 400) (hk : G.1 (w + 1) i = k) (hop : k = (-11) ∨ k = (-12) ∨ k = (-13) ∨ k = (-14)) (h1 : ¬ (-11) < k) (hp : PI (w + 3) (b :: a :: r) G) (hd : r.length + 2 ≤ 16) : fX4_partBy_S34 SHX w (nI j) 59 G (nI (b :: a :: r).length) (nI i) = if k = (-14) ∧ b = 0 then some (.inr (.inr G)) else some (.inl (sI G (w + 3) r.length (opL k a b), nI (r.length + 1), nI (i + 1))) := by
  apply xP_ent hx hw hj hend hi he hk
  have htop := PI_top hp
  simp only [List.length_cons] at htop ⊢
  rw [if_pos (Int32.not_lt.mp h1), if_neg (show ¬ nI (r.length + 1 + 1) < 2 from nI_nlt (b := 2) (by omega) (by omega))]
  simp only [bd, nI_p1m1]
  by_cases e14 : k = (-14)
  · rw [if_pos e14, xw_4 hw hx]
    simp only [Option.bind_some]
    rw [aI_n (by rw [xwn_4 hw]; omega) (by omega), htop]
    simp only [Option.bind_some]
    by_cases eb : b = 0
    · rw [if_pos eb, if_pos ⟨e14, eb⟩]
    · rw [if_neg eb, if_neg (fun q => eb q.2), xP_op hx hw hop (fun q => eb q.2) hp (by omega) (e := e)]
  · rw [if_neg e14, if_neg (fun q => e14 q.1), xP_op hx hw hop (fun q => e14 q.1) hp (by omega) (e := e)]
theorem xP_step {j i e : Nat} {k : Int32} {st p : List Int32} {G : Hp} (hx : LX t G) (hw : isL w) (hv : ∀ i, i < 9 → G.1 59 i = v i) (hj : j < 13) (hend : G.1 (w + 2) j = nI e) (hi : i < e) (he : e ≤ 400) (hk : G.1 (w + 1) i = k) (hp : PI (w + 3) st G) (hok : okP (k :: p) st.length) (hd : st.length ≤ 16) :
    (stL v st k = none ∧ fX4_partBy_S34 SHX w (nI j) 59 G (nI st.length) (nI i) = some (.inr (.inr G))) ∨
    ∃ st2 G2, stL v st k = some st2 ∧ fX4_partBy_S34 SHX w (nI j) 59 G (nI st.length) (nI i) = some (.inl (G2, nI st2.length, nI (i + 1))) ∧ PI (w + 3) st2 G2 ∧ E1 (w + 3) G G2 ∧ okP p st2.length ∧ st2.length ≤ 16 := by
  rcases okP_c hok with ⟨h0, h1, h2⟩ | ⟨⟨m, hm, em⟩, h0, h1, h2, h3⟩ | ⟨hop, h0, h1, h2, h3⟩
  · exact Or.inr ⟨_, _, stL_num h0, xP_num hx hw hj hend hi he hk h0 h1, PI_push hp, E1.s, h2, h1⟩
  · exact Or.inr ⟨_, _, stL_var h0 h1 hm em, xP_var hx hw hv hj hend hi he hk h0 h1 hm em h2, PI_push hp, E1.s, h3, h2⟩
  · match st, hp, hd, h2, h3 with
    | [x], _, _, h2, _ => simp at h2
    | b :: a :: r, hp, hd, h2, h3 =>
      have hs := xP_two hx hw hj hend hi he hk hop h1 hp hd
      have hs2 := stL_op (v := v) (r := r) (a := a) (b := b) h0 h1
      by_cases hc : k = (-14) ∧ b = 0
      · rw [if_pos hc] at hs hs2; exact Or.inl ⟨hs2, hs⟩
      · rw [if_neg hc] at hs hs2; exact Or.inr ⟨_, _, hs2, hs, PI_push (PI_pop (PI_pop hp)), E1.s, h3, by simp only [List.length_cons] at hd ⊢; omega⟩
theorem isL_r (hw : isL w) : w + 3 < 59 := by rcases hw with rfl | rfl | rfl | rfl | rfl | rfl <;> decide
theorem xP_loop {j e : Nat} {G0 : Hp} (hx : LX t G0) (hw : isL w) (hv : ∀ i, i < 9 → G0.1 59 i = v i) (hj : j < 13) (hend : G0.1 (w + 2) j = nI e) (he : e ≤ 400) : ∀ (p st : List Int32) (i fu : Nat) (G : Hp), i + p.length = e → (∀ j, j < p.length → G0.1 (w + 1) (i + j) = p.getD j 0) → okP p st.length → st.length ≤ 16 → PI (w + 3) st G → E1 (w + 3) G0 G → p.length < fu →
    ∃ G2, E1 (w + 3) G0 G2 ∧ ((evP v p st = none ∧ iter (fun s : Hp × Int32 × Int32 => fX4_partBy_S34 SHX w (nI j) 59 s.1 s.2.1 s.2.2) fu (G, nI st.length, nI i) = some (.inr G2)) ∨ ∃ x, evP v p st = some x ∧ iter (fun s : Hp × Int32 × Int32 => fX4_partBy_S34 SHX w (nI j) 59 s.1 s.2.1 s.2.2) fu (G, nI st.length, nI i) = some (.inl (G2, nI 1)) ∧ G2.1 (w + 3) 0 = x) := by
  have hr := isL_r hw
  intro p
  induction p with
  | nil =>
    intro st i fu G hi hc hok hd hp hE hf
    obtain ⟨fu, rfl⟩ : ∃ n, fu = n + 1 := ⟨fu - 1, by simp at hf; omega⟩
    have hok1 : st.length = 1 := hok
    have hx2 : LX t G := hx.same (by rw [hE.1])
    match st, hok1, hp with
    | [x], _, hp =>
      refine ⟨G, hE, Or.inr ⟨x, rfl, iter_out ?_, PI_top hp⟩⟩
      dsimp only
      unfold fX4_partBy_S34
      rw [xw_2 hw hx2]
      simp only [Option.bind_some]
      rw [aI_n (by rw [xwn_2 hw]; omega) (by omega), hE.2 _ _ (by omega), hend]
      simp only [Option.bind_some]
      rw [if_pos (by rw [show i = e by simpa using hi]; exact nI_le (Nat.le_refl e) (by omega))]
      rfl
  | cons k p ih =>
    intro st i fu G hi hc hok hd hp hE hf
    obtain ⟨fu, rfl⟩ : ∃ n, fu = n + 1 := ⟨fu - 1, by simp at hf; omega⟩
    simp only [List.length_cons] at hi hf hc
    have hx2 : LX t G := hx.same (by rw [hE.1])
    have hk : G.1 (w + 1) i = k := by
      rw [hE.2 _ _ (by omega)]
      exact hc 0 (by omega)
    rcases xP_step (v := v) hx2 hw (fun i hi => by rw [hE.2 _ _ (by omega)]; exact hv i hi) hj (by rw [hE.2 _ _ (by omega)]; exact hend) (show i < e by omega) he hk hp hok hd with ⟨a1, a2⟩ | ⟨st2, G2, a1, a2, a3, a4, a5, a6⟩
    · refine ⟨G, hE, Or.inl ⟨by unfold evP; rw [a1]; rfl, iter_out a2⟩⟩
    · obtain ⟨G3, b1, b2⟩ := ih st2 (i + 1) fu G2 (by omega) (fun j hj => by rw [show i + 1 + j = i + (j + 1) by omega]; exact hc (j + 1) (by omega)) a5 a6 a3 (hE.tr a4) (by omega)
      refine ⟨G3, b1, ?_⟩
      rw [iter_in a2]
      unfold evP
      rw [a1]
      exact b2
def pv : Option Int32 → Int64
  | none => -9223372036854775808
  | some x => x.toInt64
theorem fl_take {L : List (List Int32)} {j : Nat} (hj : j < L.length) : (L.take (j + 1)).flatten.length = (L.take j).flatten.length + (L.getD j []).length ∧ (L.take (j + 1)).flatten.length ≤ L.flatten.length ∧ ∀ i, i < (L.getD j []).length → L.flatten.getD ((L.take j).flatten.length + i) 0 = (L.getD j []).getD i 0 := by
  have e1 : L.take (j + 1) = L.take j ++ [L.getD j []] := by
    rw [List.take_succ, List.getD_eq_getElem?_getD, List.getElem?_eq_getElem hj]; rfl
  have e2 : L.flatten = (L.take j).flatten ++ ((L.getD j []) ++ (L.drop (j + 1)).flatten) := by
    conv => lhs; rw [← List.take_append_drop (j + 1) L, e1]
    simp
  refine ⟨by rw [e1]; simp, by rw [e1, e2]; simp, fun i hi => ?_⟩
  rw [e2]
  generalize L.getD j [] = p at hi ⊢
  rw [List.getD_eq_getElem?_getD, List.getD_eq_getElem?_getD, List.getElem?_append_right (by omega), Nat.add_sub_cancel_left, List.getElem?_append_left hi]
theorem xPart {L : List (List Int32)} {j : Nat} {G : Hp} (hx : LX t G) (hw : isL w) (hv : ∀ i, i < 9 → G.1 59 i = v i) (hL : XL w L G) (hWF : WFL L) (hj : j < L.length) : ∃ G2, fX4_partBy SHX G w (nI j) 59 = some (pv (evP v (L.getD j []) []), G2) ∧ E1 (w + 3) G G2 := by
  obtain ⟨h1, h2, h3⟩ := hL
  obtain ⟨⟨n, hn, hn2⟩, hl, hok⟩ := hWF
  obtain ⟨t1, t2, t3⟩ := fl_take hj
  have hr := isL_r hw
  have hmem : L.getD j [] ∈ L := by
    rw [List.getD_eq_getElem?_getD, List.getElem?_eq_getElem hj]; exact List.getElem_mem hj
  obtain ⟨G2, g1, g2⟩ := xP_loop (e := (L.take (j + 1)).flatten.length) hx hw hv (by omega) (h2 j hj) (by omega) (L.getD j []) [] (L.take j).flatten.length fuel G (by omega) (fun i hi => by rw [h3 _ (by omega), t3 i hi]) (hok _ hmem) (by decide) (fun j hj => by simp at hj) E1.rf (by unfold fuel; omega)
  refine ⟨G2, ?_, g1⟩
  have hx2 : LX t G2 := hx.same (by rw [g1.1])
  have key : fX4_partBy_J32 SHX G w (nI j) 59 0 (nI (L.take j).flatten.length) = some (pv (evP v (L.getD j []) []), G2) := by
    unfold fX4_partBy_J32
    rcases g2 with ⟨a, b⟩ | ⟨x, a, b, c⟩
    · rw [show (0 : Int32) = nI ([] : List Int32).length from rfl, b, a]; rfl
    · rw [show (0 : Int32) = nI ([] : List Int32).length from rfl, b, a]
      simp only [Option.bind_some, Sum.elim_inl, bd]
      rw [if_neg (show ¬ nI 1 ≤ nI ([] : List Int32).length by decide), xw_4 hw hx2]
      simp only [Option.bind_some]
      rw [show nI 1 - 1 = nI 0 from rfl, aI_n (by rw [xwn_4 hw]; decide) (by decide), c]
      rfl
  unfold fX4_partBy
  rw [if_neg (nI_pos (by omega)), h1, if_pos (nI_lt hj (by omega))]
  cases j with
  | zero => rw [if_pos (show nI 0 = 0 from rfl)]; exact key
  | succ j =>
    rw [if_neg (nI_ne0 (by omega) (by omega)), xw_2 hw hx]
    simp only [Option.bind_some]
    rw [nI_pred, aI_n (by rw [xwn_2 hw]; omega) (by omega), h2 j (by omega)]
    simp only [Option.bind_some]
    exact key
theorem pv_none {o : Option Int32} : (lg_cmp (pv o) (-9223372036854775808) = 0) ↔ o = none := by
  rw [lg_cmp_eq]
  cases o with
  | none => exact ⟨fun _ => rfl, fun _ => rfl⟩
  | some x =>
    refine ⟨fun e => ?_, fun e => by cases e⟩
    have h1 := congrArg Int64.toInt e
    have h2 : (pv (some x)).toInt = x.toInt := Int32.toInt_toInt64 x
    rw [h2, show ((-9223372036854775808 : Int64)).toInt = -9223372036854775808 by decide] at h1
    have := Int32.le_toInt x
    omega
theorem pv_ge {x y : Int32} : (0 ≤ lg_cmp (pv (some x)) (pv (some y))) ↔ y ≤ x := (lg_cmp_ge _ _).trans (fa_wide_le _ _)
theorem xInt {o : Option Int32} : fX4_intOf (pv o) = some (o.getD 0) := by
  unfold fX4_intOf
  cases o with
  | none => rw [if_pos (pv_none.mpr rfl)]; rfl
  | some x => rw [if_neg (fun e => by have := pv_none.mp e; cases this)]; simp [pv]
theorem dr_c {L : List (List Int32)} {i : Nat} (h : i < L.length) : L.drop i = L.getD i [] :: L.drop (i + 1) := by
  rw [List.drop_eq_getElem_cons h, List.getD_eq_getElem?_getD, List.getElem?_eq_getElem h]; rfl
theorem xValue {L : List (List Int32)} {G : Hp} (hx : LX t G) (hw : isL w) (hv : ∀ i, i < 9 → G.1 59 i = v i) (hL : XL w L G) (hWF : WFL L) : ∃ G2, fX4_valueBy SHX G w 59 = some (evL v L, G2) ∧ E1 (w + 3) G G2 := by
  have hr := isL_r hw
  obtain ⟨n, hn, hn2⟩ := hWF.1
  have fr : ∀ {G2}, E1 (w + 3) G G2 → LX t G2 ∧ (∀ i, i < 9 → G2.1 59 i = v i) ∧ XL w L G2 := fun {G2} hE => ⟨hx.same (by rw [hE.1]), fun i hi => by rw [hE.2 _ _ (by omega)]; exact hv i hi, XL_fr hL (fun q k hq => hE.2 q k (by omega))⟩
  have part : ∀ {G2} j, E1 (w + 3) G G2 → j < L.length → ∃ G3, fX4_partBy SHX G2 w (nI j) 59 = some (pv (evP v (L.getD j []) []), G3) ∧ E1 (w + 3) G G3 := fun {G2} j hE hj => by
    obtain ⟨a, b, c⟩ := fr hE
    obtain ⟨G3, h1, h2⟩ := xPart a hw b c hWF hj
    exact ⟨G3, h1, hE.tr h2⟩
  obtain ⟨o, ho, hQ⟩ := iter_go (f := fun s : Hp × Int32 => fX4_valueBy_S2 SHX w 59 s.1 s.2) (P := fun c s => s.2 = nI (3 * c) ∧ E1 (w + 3) G s.1 ∧ evL v L = evL v (L.drop (3 * c))) (Q := fun o => (∃ G1, o = .inl (G1, nI (3 * n)) ∧ E1 (w + 3) G G1 ∧ evL v L = (evP v (L.getD (3 * n) []) []).getD 0) ∨ (∃ G1, o = .inr (.inl G1) ∧ E1 (w + 3) G G1 ∧ evL v L = 0) ∨ ∃ G1 c, c < n ∧ o = .inr (.inr (G1, nI (3 * c))) ∧ E1 (w + 3) G G1 ∧ evL v L = (evP v (L.getD (3 * c + 2) []) []).getD 0) n ((G, 0) : Hp × Int32) (by omega) ⟨rfl, E1.rf, rfl⟩ (by
    rintro c ⟨G1, x⟩ hc ⟨rfl, hE, hev⟩
    dsimp only at hE ⊢
    obtain ⟨a1, a2, a3⟩ := fr hE
    obtain ⟨G3, b1, b2⟩ := part (3 * c) hE (by omega)
    obtain ⟨G5, c1, c2⟩ := part (3 * c + 1) b2 (by omega)
    have ed : L.drop (3 * c) = L.getD (3 * c) [] :: L.getD (3 * c + 1) [] :: L.getD (3 * c + 2) [] :: L.getD (3 * (c + 1)) [] :: L.drop (3 * (c + 1) + 1) := by
      rw [dr_c (by omega), dr_c (i := 3 * c + 1) (by omega), dr_c (i := 3 * c + 1 + 1) (by omega), dr_c (i := 3 * c + 1 + 1 + 1) (by omega)]; rfl
    have ed2 : L.drop (3 * (c + 1)) = L.getD (3 * (c + 1)) [] :: L.drop (3 * (c + 1) + 1) := dr_c (by omega)
    unfold fX4_valueBy_S2
    rw [a3.1, show nI (3 * c) + 2 = nI (3 * c + 2) from nI_add _ 2, if_neg (nI_ge (by omega) (by omega)), b1]
    simp only [bp, Option.bind_some]
    rw [nI_1, c1]
    simp only [Option.bind_some]
    rw [ed] at hev
    rw [evL.eq_1] at hev
    cases e1 : evP v (L.getD (3 * c) []) [] with
    | none =>
      rw [e1] at hev
      rw [if_pos (pv_none.mpr rfl)]
      exact Or.inr ⟨_, rfl, Or.inr (Or.inl ⟨G5, rfl, c2, hev⟩)⟩
    | some x =>
      rw [e1] at hev
      rw [if_neg (fun e => by have := pv_none.mp e; cases this)]
      cases e2 : evP v (L.getD (3 * c + 1) []) [] with
      | none =>
        rw [e2] at hev
        rw [if_pos (pv_none.mpr rfl)]
        exact Or.inr ⟨_, rfl, Or.inr (Or.inl ⟨G5, rfl, c2, hev⟩)⟩
      | some y =>
        rw [e2] at hev
        rw [if_neg (fun e => by have := pv_none.mp e; cases this)]
        dsimp only at hev
        by_cases hxy : x < y
        · rw [if_pos hxy] at hev
          rw [if_neg (mt pv_ge.mp (Int32.not_le.mpr hxy))]
          exact Or.inr ⟨_, rfl, Or.inr (Or.inr ⟨G5, c, hc, rfl, c2, hev⟩)⟩
        · rw [if_neg hxy] at hev
          rw [if_pos (pv_ge.mpr (Int32.not_lt.mp hxy))]
          refine Or.inl ⟨_, rfl, ?_, c2, ?_⟩
          · show nI (3 * c) + 3 = nI (3 * (c + 1))
            exact nI_add _ 3
          · rw [hev, ed2]) (by
    rintro ⟨G1, x⟩ ⟨rfl, hE, hev⟩
    dsimp only at hE ⊢
    obtain ⟨a1, a2, a3⟩ := fr hE
    unfold fX4_valueBy_S2
    rw [a3.1, show nI (3 * n) + 2 = nI (3 * n + 2) from nI_add _ 2, if_pos (nI_le (by omega) (by omega))]
    refine ⟨_, rfl, Or.inl ⟨G1, rfl, hE, ?_⟩⟩
    rw [hev, dr_c (by omega), show L.drop (3 * n + 1) = [] from List.drop_eq_nil_of_le (by omega)]
    rfl)
  unfold fX4_valueBy
  rw [ho]
  rcases hQ with ⟨G1, rfl, hE, hev⟩ | ⟨G1, rfl, hE, hev⟩ | ⟨G1, c, hc, rfl, hE, hev⟩
  · obtain ⟨G3, b1, b2⟩ := part (3 * n) hE (by omega)
    simp only [Option.bind_some, Sum.elim_inl, bd]
    rw [b1]
    simp only [bp, Option.bind_some, xInt]
    exact ⟨G3, by rw [hev], b2⟩
  · exact ⟨G1, by rw [hev]; rfl, hE⟩
  · obtain ⟨G3, b1, b2⟩ := part (3 * c + 2) hE (by omega)
    simp only [Option.bind_some, Sum.elim_inr, bd]
    rw [show nI (3 * c) + 2 = nI (3 * c + 2) from nI_add _ 2, b1]
    simp only [bp, Option.bind_some, xInt]
    exact ⟨G3, by rw [hev], b2⟩
end XP
