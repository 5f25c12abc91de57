/-! clauses: the reference's pile. -/
def b2 (b : Bool) : Int32 := if b then 1 else 0
theorem b2_0 {b : Bool} : b2 b = 0 ↔ b = false := by cases b <;> decide
/-- nothing but the reference's pile of words has changed -/
def E41 (G G2 : Hp) : Prop := G2.2 = G.2 ∧ ∀ q k, q ≠ 41 → G2.1 q k = G.1 q k
theorem E41.rf {G : Hp} : E41 G G := ⟨rfl, fun _ _ _ => rfl⟩
theorem E41.tr {G G2 G3 : Hp} (h : E41 G G2) (h2 : E41 G2 G3) : E41 G G3 := ⟨h2.1.trans h.1, fun q k hn => (h2.2 q k hn).trans (h.2 q k hn)⟩
theorem E41.sI {G : Hp} {k : Nat} {v : Int32} : E41 G (sI G 41 k v) := ⟨rfl, fun q2 k2 hn => sI_ne (Or.inl hn)⟩
theorem E41.toM {G G2 : Hp} (h : E41 G G2) : EssM G G2 := ⟨h.1, fun q k hn => h.2 q k (fun e => hn (by unfold scrM; omega))⟩
def PB (st : List Bool) (G : Hp) : Prop := ∀ j, j < st.length → G.1 41 (st.length - 1 - j) = b2 (st.getD j false)
theorem PB_push {st : List Bool} {G : Hp} {b : Bool} (h : PB st G) : PB (b :: st) (sI G 41 st.length (b2 b)) := by
  intro j hj
  cases j with
  | zero => simp only [List.length_cons, Nat.add_sub_cancel, Nat.sub_zero]; rw [sI_same]; rfl
  | succ j =>
    simp only [List.length_cons] at hj ⊢
    rw [sI_ne (Or.inr (by omega)), show st.length + 1 - 1 - (j + 1) = st.length - 1 - j by omega, h j (by omega)]
    rfl
theorem PB_pop {a b : Bool} {st : List Bool} {G : Hp} (h : PB (b :: st) G) : PB st G := by
  intro j hj
  have := h (j + 1) (by simp; omega)
  simp only [List.length_cons] at this
  rw [show st.length + 1 - 1 - (j + 1) = st.length - 1 - j by omega] at this
  rw [this]; rfl
theorem PB_top {b : Bool} {st : List Bool} {G : Hp} (h : PB (b :: st) G) : G.1 41 st.length = b2 b := by
  have := h 0 (by simp)
  simpa using this
theorem shr1 {s k : Nat} (hk : k < 32) : ((nI s >>> (nI k &&& 31)) &&& 1 = 1) ↔ s.testBit k = true := by
  rw [shr_bit _ hk, bt_nI hk]
  cases s.testBit k <;> simp
section MH
variable {l : Nat} {T : Txt} {G : Hp}
theorem nI_p1m1 (d : Nat) : nI (d + 1) + (-1) = nI d := by
  have := nI_pred d
  rw [Int32.sub_eq_add_neg] at this
  exact this
theorem mH_step {b s i e k : Nat} {st : List Bool} (hM : ML0 l T G) (hb : b < 4) (hto : G.1 22 (4 * l + b) = nI e) (hi : i < e) (he : e ≤ 840) (hk : G.1 23 i = nI k) (hk2 : k ≤ 10) (hp : PB st G) (hd : if k < 8 then st.length + 1 ≤ 60 else if k = 8 then 1 ≤ st.length ∧ st.length ≤ 60 else 2 ≤ st.length ∧ st.length ≤ 60) :
    ∃ G2, fX11_doesHold_S17 SHM 0 (nI b) (nI s) G (nI st.length) (nI i) = some (.inl (G2, nI (stC s st k).length, nI (i + 1))) ∧ PB (stC s st k) G2 ∧ E41 G G2 := by
  have hL := hM.1
  unfold fX11_doesHold_S17
  rw [ml_35 hL, ml_37 hL]
  simp only [Option.bind_some]
  rw [aI_4 hM mn_22 hb, hto]
  simp only [Option.bind_some]
  rw [if_neg (nI_ge hi (by omega)), aI_n (by rw [mn_23]; omega) (by omega), hk]
  simp only [Option.bind_some]
  rw [ml_62 hL]
  simp only [Option.bind_some]
  by_cases h8 : k < 8
  · rw [if_pos h8] at hd
    rw [if_neg (show ¬ (8 : Int32) ≤ nI k from nI_ge (b := 8) h8 (by decide))]
    have ec : stC s st k = s.testBit k :: st := by unfold stC; rw [if_pos h8]
    rw [ec, List.length_cons]
    by_cases hq : s.testBit k = true
    · rw [if_pos ((shr1 (by omega)).mpr hq), zb_1, asI_n (by rw [mn_41]; omega) (by omega)]
      simp only [Option.bind_some, bd, nI_1]
      refine ⟨_, rfl, ?_, E41.sI⟩
      rw [hq]; exact PB_push hp
    · rw [if_neg (fun q => hq ((shr1 (by omega)).mp q)), zb_0, asI_n (by rw [mn_41]; omega) (by omega)]
      simp only [Option.bind_some, bd, nI_1]
      refine ⟨_, rfl, ?_, E41.sI⟩
      rw [show s.testBit k = false by simpa using hq]; exact PB_push hp
  · rw [if_neg h8] at hd
    rw [if_pos (show (8 : Int32) ≤ nI k from nI_le (a := 8) (by omega) (by omega))]
    by_cases e8 : k = 8
    · subst e8
      rw [if_pos rfl] at hd
      rw [if_pos (show nI 8 = 8 from rfl)]
      match st, hp, hd with
      | x :: st, hp, hd =>
        have ec : stC s (x :: st) 8 = (!x) :: st := rfl
        rw [ec]
        simp only [List.length_cons] at hd ⊢
        rw [nI_pred, aI_n (by rw [mn_41]; omega) (by omega), PB_top hp]
        simp only [Option.bind_some]
        cases x with
        | false =>
          rw [if_pos (show b2 false = 0 from rfl), zb_1, asI_n (by rw [mn_41]; omega) (by omega)]
          simp only [Option.bind_some, bd, nI_1]
          exact ⟨_, rfl, PB_push (b := true) (PB_pop (a := true) hp), E41.sI⟩
        | true =>
          rw [if_neg (show ¬ b2 true = 0 by decide), zb_0, asI_n (by rw [mn_41]; omega) (by omega)]
          simp only [Option.bind_some, bd, nI_1]
          exact ⟨_, rfl, PB_push (b := false) (PB_pop (a := true) hp), E41.sI⟩
    · rw [if_neg e8] at hd
      rw [if_neg (show ¬ nI k = 8 from fun q => e8 ((nI_eq (b := 8) (by omega) (by decide)).mp q))]
      match st, hp, hd with
      | [x], hp, hd => simp at hd
      | y :: x :: st, hp, hd =>
        have ht := PB_top hp
        have hp2 := PB_pop (a := true) hp
        have hx := PB_top hp2
        have hp3 := PB_pop (a := true) hp2
        simp only [List.length_cons] at hd ht ⊢
        simp only [bd, nI_p1m1, nI_pred, nI_1]
        by_cases e9 : k = 9
        · subst e9
          have ec : stC s (y :: x :: st) 9 = (x && y) :: st := rfl
          rw [ec, if_pos (show nI 9 = 9 from rfl), aI_n (by rw [mn_41]; omega) (by omega), hx]
          simp only [Option.bind_some, List.length_cons]
          cases x with
          | false =>
            rw [if_pos (show b2 false = 0 from rfl), zb_0, asI_n (by rw [mn_41]; omega) (by omega)]
            simp only [Option.bind_some]
            exact ⟨_, rfl, PB_push (b := false) hp3, E41.sI⟩
          | true =>
            rw [if_neg (show ¬ b2 true = 0 by decide), aI_n (by rw [mn_41]; omega) (by omega), ht]
            simp only [Option.bind_some]
            cases y with
            | false =>
              rw [if_pos (show b2 false = 0 from rfl), zb_0, asI_n (by rw [mn_41]; omega) (by omega)]
              simp only [Option.bind_some]
              exact ⟨_, rfl, PB_push (b := false) hp3, E41.sI⟩
            | true =>
              rw [if_neg (show ¬ b2 true = 0 by decide), zb_1, asI_n (by rw [mn_41]; omega) (by omega)]
              simp only [Option.bind_some]
              exact ⟨_, rfl, PB_push (b := true) hp3, E41.sI⟩
        · have ec : stC s (y :: x :: st) k = (x || y) :: st := by
            unfold stC; rw [if_neg h8]; simp only [if_neg e8, if_neg e9]
          rw [ec, if_neg (show ¬ nI k = 9 from fun q => e9 ((nI_eq (b := 9) (by omega) (by decide)).mp q)), aI_n (by rw [mn_41]; omega) (by omega), hx]
          simp only [Option.bind_some, List.length_cons]
          cases x with
          | false =>
            rw [if_pos (show b2 false = 0 from rfl), aI_n (by rw [mn_41]; omega) (by omega), ht]
            simp only [Option.bind_some]
            cases y with
            | false =>
              rw [if_pos (show b2 false = 0 from rfl), zb_0, asI_n (by rw [mn_41]; omega) (by omega)]
              simp only [Option.bind_some]
              exact ⟨_, rfl, PB_push (b := false) hp3, E41.sI⟩
            | true =>
              rw [if_neg (show ¬ b2 true = 0 by decide), zb_1, asI_n (by rw [mn_41]; omega) (by omega)]
              simp only [Option.bind_some]
              exact ⟨_, rfl, PB_push (b := true) hp3, E41.sI⟩
          | true =>
            rw [if_neg (show ¬ b2 true = 0 by decide), zb_1, asI_n (by rw [mn_41]; omega) (by omega)]
            simp only [Option.bind_some]
            exact ⟨_, rfl, PB_push (b := true) hp3, E41.sI⟩
theorem okC_le {k : Nat} {c : List Nat} {d : Nat} (h : okC (k :: c) d) (hd : d ≤ 60) : k ≤ 10 := by
  unfold okC at h
  split at h
  · omega
  · split at h
    · omega
    · exact h.1
theorem stC_len {s k : Nat} {st : List Bool} {c : List Nat} (h : okC (k :: c) st.length) (hd : st.length ≤ 60) : okC c (stC s st k).length ∧ (stC s st k).length ≤ 60 ∧ (if k < 8 then st.length + 1 ≤ 60 else if k = 8 then 1 ≤ st.length ∧ st.length ≤ 60 else 2 ≤ st.length ∧ st.length ≤ 60) := by
  unfold okC at h
  unfold stC
  by_cases h8 : k < 8
  · rw [if_pos h8] at h; rw [if_pos h8, if_pos h8]; exact ⟨h.2, h.1, h.1⟩
  · rw [if_neg h8] at h; rw [if_neg h8, if_neg h8]
    by_cases e8 : k = 8
    · rw [if_pos e8] at h
      rw [if_pos e8]
      match st, h with
      | x :: st, h => simp only [if_pos e8]; exact ⟨h.2, hd, by simp, hd⟩
    · rw [if_neg e8] at h
      rw [if_neg e8]
      match st, h with
      | [x], h => simp at h
      | y :: x :: st, h => simp only [if_neg e8]; simp only [List.length_cons] at h hd ⊢; exact ⟨h.2.2, by omega, by omega, hd⟩
theorem mH_loop {b s e : Nat} {G0 : Hp} (hM : ML0 l T G0) (hb : b < 4) (hto : G0.1 22 (4 * l + b) = nI e) (he : e ≤ 840) : ∀ (c : List Nat) (st : List Bool) (i fu : Nat) (G : Hp), i + c.length = e → (∀ j, j < c.length → G0.1 23 (i + j) = nI (c.getD j 0)) → okC c st.length → st.length ≤ 60 → PB st G → E41 G0 G → c.length < fu →
    ∃ G2, iter (fun x : Hp × Int32 × Int32 => fX11_doesHold_S17 SHM 0 (nI b) (nI s) x.1 x.2.1 x.2.2) fu (G, nI st.length, nI i) = some G2 ∧ E41 G0 G2 ∧ G2.1 41 0 = b2 ((c.foldl (stC s) st).headD false) := by
  intro c
  induction c with
  | nil =>
    intro st i fu G hi hc hok hd hp hE hf
    obtain ⟨fu, rfl⟩ : ∃ n, fu = n + 1 := ⟨fu - 1, by simp at hf; omega⟩
    have hM2 := hE.toM.M hM
    have hok1 : st.length = 1 := hok
    match st, hok1, hp with
    | [x], _, hp =>
      refine ⟨G, iter_out ?_, hE, PB_top hp⟩
      unfold fX11_doesHold_S17
      rw [ml_35 hM2.1]
      simp only [Option.bind_some]
      rw [aI_4 hM2 mn_22 hb, hE.2 22 _ (by decide), hto]
      simp only [Option.bind_some]
      rw [if_pos (by rw [show i = e by simpa using hi]; exact nI_le (Nat.le_refl e) (by omega))]
  | cons k c ih =>
    intro st i fu G hi hc hok hd hp hE hf
    obtain ⟨fu, rfl⟩ : ∃ n, fu = n + 1 := ⟨fu - 1, by simp at hf; omega⟩
    simp only [List.length_cons] at hi hf hc
    have hk : G.1 23 i = nI k := by
      rw [hE.2 23 _ (by decide)]
      exact hc 0 (by omega)
    obtain ⟨h1, h2, h3⟩ := stC_len (s := s) hok hd
    obtain ⟨G1, a1, a2, a3⟩ := mH_step (s := s) (hE.toM.M hM) hb (by rw [hE.2 22 _ (by decide)]; exact hto) (show i < e by omega) he hk (okC_le hok hd) hp h3
    obtain ⟨G2, b1, b2', b3⟩ := ih (stC s st k) (i + 1) fu G1 (by omega) (fun j hj => by rw [show i + 1 + j = i + (j + 1) by omega]; exact hc (j + 1) (by omega)) h1 h2 a2 (hE.tr a3) (by omega)
    exact ⟨G2, by rw [iter_in a1]; exact b1, b2', b3⟩
theorem mHolds {b s : Nat} (hM : ML0 l T G) (hb : b < T.1 3) : ∃ G2, fX11_doesHold SHM G 0 (nI b) (nI s) = some (b2 (evC (T.2.2.1 b) s), G2) ∧ E41 G G2 := by
  have hw := hM.2.2.2.2.1
  obtain ⟨-, -, c, c1, c2, c3, c4⟩ := hM.2.2.2.1.2.2.2.1 b hb
  obtain ⟨-, -, hok⟩ := hM.2.2.2.2.2.2.2.1 b hb
  obtain ⟨G2, h1, h2, h3⟩ := mH_loop (s := s) hM (by omega) c2 (by have := hM.2.1; omega) (T.2.2.1 b) [] c fuel G rfl c4 hok (by decide) (fun j hj => by simp at hj) E41.rf (by unfold fuel; omega)
  unfold fX11_doesHold
  rw [ml_34 hM.1]
  simp only [Option.bind_some]
  rw [aI_4 hM mn_21 (by omega), c1]
  simp only [Option.bind_some]
  rw [show (0 : Int32) = nI ([] : List Bool).length from rfl, h1]
  simp only [Option.bind_some, bd]
  rw [ml_62 (h2.toM.L hM.1)]
  simp only [Option.bind_some]
  rw [show nI ([] : List Bool).length = nI 0 from rfl, aI_n (by rw [mn_41]; decide) (by decide), h3]
  simp only [Option.bind_some]
  refine ⟨G2, ?_, h2⟩
  rw [if_neg (fun q => q (by unfold b2; split; exact Or.inr rfl; exact Or.inl rfl))]
  rfl
end MH
