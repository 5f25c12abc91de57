/-! cheap. -/
/-- the way of least cost by which a being is taken, of the first i -/
def cw (T : Txt) (tk : Nat → Bool) : Nat → Option Nat
  | 0 => none
  | i + 1 => if tk i then (match cw T tk i with | none => some i | some j => if aCost T i < aCost T j then some i else some j) else cw T tk i
theorem cw_ok {T : Txt} {tk : Nat → Bool} : ∀ i j, cw T tk i = some j → j < i ∧ tk j = true := by
  intro i
  induction i with
  | zero => intro j h; cases h
  | succ i ih =>
    intro j h
    change (if tk i then (match cw T tk i with | none => some i | some j => if aCost T i < aCost T j then some i else some j) else cw T tk i) = some j at h
    cases ht : tk i with
    | false =>
      rw [ht] at h
      have := ih j h
      exact ⟨by omega, this.2⟩
    | true =>
      rw [ht, if_pos rfl] at h
      cases hc : cw T tk i with
      | none =>
        rw [hc] at h
        simp only [Option.some.injEq] at h
        subst h
        exact ⟨by omega, ht⟩
      | some j2 =>
        rw [hc] at h
        dsimp only at h
        have := ih j2 hc
        split at h
        · simp only [Option.some.injEq] at h; subst h; exact ⟨by omega, ht⟩
        · simp only [Option.some.injEq] at h; subst h; exact ⟨by omega, this.2⟩
theorem cw_s {T : Txt} {tk : Nat → Bool} {i : Nat} : cw T tk (i + 1) = if tk i then (match cw T tk i with | none => some i | some j => if aCost T i < aCost T j then some i else some j) else cw T tk i := rfl
def cwe : Option Nat → Int32
  | none => -2
  | some j => wv j
theorem wv_m2 {j : Nat} (hj : j < 100) : ¬ wv j = -2 := by
  cases j with
  | zero => rw [wv_0]; decide
  | succ j => rw [wv_s]; exact fun q => nI_pos (n := j) (by omega) (by rw [q]; decide)
theorem cost_99 {T : Txt} {i : Nat} (hW : WFT T) (hi : i ≤ T.1 2) : aCost T i ≤ 99 := by
  unfold aCost
  split
  · omega
  · exact (hW.2.2.1 (i - 1) (by omega)).1
theorem xCheapWay {t g b a : Nat} {T : Txt} {r : Nat → Int32} {G : Hp} (hx : LX t G) (hT : XT t T G) (hW : WFT T) (hg : isG g) (hG : XG T g r G) (hr : WFG T r) (hb : b < T.1 3) (ha : a < T.1 1) : fX5_cheapestWay SHX G t g (nI b) (nI a) = some (cwe (cw T (fun i => tkn T r b (aSet T a i)) (T.1 2 + 1))) := by
  have ht := hx.1
  have hw := hW.1
  unfold fX5_cheapestWay
  obtain ⟨o, b1, rfl⟩ := iter_go (f := fun s : Int32 × Int32 => fX5_cheapestWay_S7 SHX t g (nI b) (nI a) G s.1 s.2) (P := fun i s => s = (cwe (cw T (fun i => tkn T r b (aSet T a i)) i), wv i)) (Q := fun o => o = cwe (cw T (fun i => tkn T r b (aSet T a i)) (T.1 2 + 1))) (T.1 2 + 1) (((-2), (-1)) : Int32 × Int32) (by omega) rfl (by
    rintro i s hi rfl
    left
    dsimp only
    have hs := aSet_256 hW ha (show i ≤ T.1 2 by omega)
    have J1 : ∀ c d, fX5_cheapestWay_J43L7 SHX G t g (nI b) (nI a) (cwe c) (wv i) d = if d = 0 then some (.inl (cwe c, wv (i + 1))) else if tkn T r b (aSet T a i) then some (.inl (wv i, wv (i + 1))) else some (.inl (cwe c, wv (i + 1))) := by
      intro c d
      unfold fX5_cheapestWay_J43L7
      rw [xSet ⟨t, hx⟩ ht hT hW ha (by omega)]
      simp only [ob, obd]
      rw [xTakes hx ht hT hW hg hG hr hb hs, wv_inc]
      simp only [ob]
      by_cases hd : d = 0
      · rw [if_pos hd, if_pos hd]
      · rw [if_neg hd, if_neg hd]
        cases tkn T r b (aSet T a i) <;> rfl
    unfold fX5_cheapestWay_S7 fX5_cheapestWay_J38L7
    rw [hT.1 2 (by decide), if_neg (wv_ge (by omega) (by omega)), cw_s]
    cases hc : cw T (fun i => tkn T r b (aSet T a i)) i with
    | none =>
      rw [if_pos (show cwe none = -2 from rfl), J1, if_neg one_ne]
      dsimp only
      cases htk : tkn T r b (aSet T a i) with
      | true => exact ⟨_, rfl, rfl⟩
      | false => exact ⟨_, rfl, rfl⟩
    | some j =>
      have hj := (cw_ok i j hc).1
      have c1 := cost_99 hW (show i ≤ T.1 2 by omega)
      have c2' := cost_99 hW (show j ≤ T.1 2 by omega)
      rw [show cwe (some j) = wv j from rfl, if_neg (wv_m2 (by omega)), xCost ⟨t, hx⟩ ht hT hW (by omega), xCost ⟨t, hx⟩ ht hT hW (by omega)]
      simp only [ob]
      rw [show wv j = cwe (some j) from rfl, J1, J1, if_pos rfl, if_neg one_ne]
      by_cases hlt : aCost T i < aCost T j
      · rw [if_neg (nI_ge hlt (by omega)), if_pos hlt]
        cases htk : tkn T r b (aSet T a i) with
        | true => exact ⟨_, rfl, rfl⟩
        | false => exact ⟨_, rfl, rfl⟩
      · rw [if_pos (nI_le (by omega) (by omega)), if_neg hlt]
        exact ⟨_, rfl, by rw [ite_self]⟩) (by
    rintro s rfl
    dsimp only
    unfold fX5_cheapestWay_S7
    rw [hT.1 2 (by decide), if_pos (wv_end (by omega))]
    exact ⟨_, rfl, rfl⟩)
  rw [b1]; rfl
/-- the cheapest so far: being, way, cost -/
def cmb (T : Txt) (a : Nat) (o : Option (Nat × Nat × Nat)) : Option Nat → Option (Nat × Nat × Nat)
  | none => o
  | some j => match o with
    | none => some (a, j, T.2.1 0 a + aCost T j)
    | some p => if T.2.1 0 a + aCost T j < p.2.2 then some (a, j, T.2.1 0 a + aCost T j) else some p
def ch (T : Txt) (r : Nat → Int32) (b : Nat) : Nat → Option (Nat × Nat × Nat)
  | 0 => none
  | a + 1 => if bt (r 25) a then cmb T a (ch T r b a) (cw T (fun i => tkn T r b (aSet T a i)) (T.1 2 + 1)) else ch T r b a
/-- one more way looked at -/
def stp (T : Txt) (a i : Nat) (tk : Bool) (o : Option (Nat × Nat × Nat)) : Option (Nat × Nat × Nat) := if tk then (match o with | none => some (a, i, T.2.1 0 a + aCost T i) | some p => if T.2.1 0 a + aCost T i < p.2.2 then some (a, i, T.2.1 0 a + aCost T i) else some p) else o
theorem cmb_s {T : Txt} {a i : Nat} {tk : Nat → Bool} {o : Option (Nat × Nat × Nat)} : cmb T a o (cw T tk (i + 1)) = stp T a i (tk i) (cmb T a o (cw T tk i)) := by
  rw [cw_s]
  unfold stp
  cases tk i with
  | false => rfl
  | true =>
    simp only [if_true]
    cases cw T tk i with
    | none => rfl
    | some j =>
      dsimp only
      by_cases h1 : aCost T i < aCost T j
      · rw [if_pos h1]
        cases o with
        | none => simp only [cmb]; rw [if_pos (by omega)]
        | some p =>
          simp only [cmb]
          by_cases h2 : T.2.1 0 a + aCost T j < p.2.2
          · rw [if_pos h2, if_pos (by omega)]; dsimp only; rw [if_pos (by omega)]
          · rw [if_neg h2]
      · rw [if_neg h1]
        cases o with
        | none => simp only [cmb]; rw [if_neg (by omega)]
        | some p =>
          simp only [cmb]
          by_cases h2 : T.2.1 0 a + aCost T j < p.2.2
          · rw [if_pos h2]; dsimp only; rw [if_neg (by omega)]
          · rw [if_neg h2]; dsimp only; rw [if_neg (by omega)]
def HC (o : Option (Nat × Nat × Nat)) (G : Hp) : Prop := match o with
  | none => G.1 287 0 = 1000000
  | some p => G.1 287 0 = nI p.2.2 ∧ G.1 287 1 = nI p.1 ∧ G.1 287 2 = wv p.2.1
theorem ch_ok {T : Txt} {r : Nat → Int32} {b : Nat} (hW : WFT T) : ∀ a, a ≤ T.1 1 → ∀ p, ch T r b a = some p → p.1 < a ∧ p.2.1 ≤ T.1 2 ∧ p.2.2 ≤ 198
  | 0, _, p, h => by cases h
  | a + 1, ha, p, h => by
    have ih := ch_ok (r := r) (b := b) hW a (by omega)
    have hl := (hW.2.1 a (by omega)).1
    change (if bt (r 25) a then cmb T a (ch T r b a) (cw T (fun i => tkn T r b (aSet T a i)) (T.1 2 + 1)) else ch T r b a) = some p at h
    cases hth : bt (r 25) a with
    | false =>
      rw [hth] at h
      have := ih p h
      exact ⟨by omega, this.2⟩
    | true =>
      rw [hth, if_pos rfl] at h
      cases hc : cw T (fun i => tkn T r b (aSet T a i)) (T.1 2 + 1) with
      | none =>
        rw [hc] at h
        have := ih p h
        exact ⟨by omega, this.2⟩
      | some j =>
        rw [hc] at h
        have hj := (cw_ok _ j hc).1
        have hcj := cost_99 hW (show j ≤ T.1 2 by omega)
        cases ho : ch T r b a with
        | none =>
          rw [ho] at h
          simp only [cmb, Option.some.injEq] at h
          subst h
          exact ⟨by omega, by dsimp only; omega, by dsimp only; omega⟩
        | some q =>
          rw [ho] at h
          simp only [cmb] at h
          have := ih q ho
          split at h
          · simp only [Option.some.injEq] at h; subst h; exact ⟨by dsimp only; omega, by dsimp only; omega, by dsimp only; omega⟩
          · simp only [Option.some.injEq] at h; subst h; exact ⟨by omega, this.2⟩
def E287 (G G2 : Hp) : Prop := G2.2 = G.2 ∧ ∀ q k, q < 287 → G2.1 q k = G.1 q k
theorem E287.rf {G : Hp} : E287 G G := ⟨rfl, fun _ _ _ => rfl⟩
theorem E287.tr {G G2 G3 : Hp} (h : E287 G G2) (h2 : E287 G2 G3) : E287 G G3 := ⟨h2.1.trans h.1, fun q k a => (h2.2 q k a).trans (h.2 q k a)⟩
theorem E287.s {q k : Nat} {G : Hp} {v : Int32} (hq : 287 ≤ q) : E287 G (sI G q k v) := ⟨rfl, fun q2 k2 a => sI_ne (by omega)⟩
theorem E287.X {G G2 : Hp} (h : E287 G G2) : EssX G G2 := ⟨h.1, fun q k hn => by
  unfold scrX at hn
  exact h.2 q k (by omega)⟩
theorem xCost_m2 {t : Nat} {G : Hp} : fX8_costOf SHX G t (-2) = some 0 := by
  unfold fX8_costOf
  rw [if_neg (by decide)]
theorem xCheapest {t b : Nat} {T : Txt} {r : Nat → Int32} {G : Hp} (hx : LX t G) (hT : XT t T G) (hW : WFT T) (hG : XG T 53 r G) (hr : WFG T r) (hb : b < T.1 3) : ∃ G2, fX5_findCheapest SHX G 287 t 53 (nI b) = some (if ch T r b (T.1 1) = none then 0 else 1, G2) ∧ E287 G G2 ∧ HC (ch T r b (T.1 1)) G2 := by
  have ht := hx.1
  have hw := hW.1
  unfold fX5_findCheapest
  simp only [obd]
  have e0 : E287 G (sI G 287 0 1000000) := E287.s (by decide)
  have c0 : HC none (sI G 287 0 1000000) := sI_same
  generalize sI G 287 0 1000000 = G0 at e0 c0
  obtain ⟨o, b1, b2', b3⟩ := iter_go (f := fun s : Hp × Int32 => fX5_findCheapest_S9 SHX 287 t 53 (nI b) s.1 s.2) (P := fun a s => s.2 = nI a ∧ E287 G s.1 ∧ HC (ch T r b a) s.1) (Q := fun o => E287 G o ∧ HC (ch T r b (T.1 1)) o) (T.1 1) (G0, 0) (by omega) ⟨rfl, e0, c0⟩ (by
    rintro a ⟨G1, x⟩ ha ⟨rfl, hE, hC⟩
    left
    dsimp only at hE hC ⊢
    have hx1 := hE.X.L hx
    have hT1 := hE.X.T ht hT
    have hG1 := hE.X.G hG
    have hl := (hW.2.1 a ha).1
    have es : ch T r b (a + 1) = if bt (r 25) a then cmb T a (ch T r b a) (cw T (fun i => tkn T r b (aSet T a i)) (T.1 2 + 1)) else ch T r b a := rfl
    unfold fX5_findCheapest_S9
    rw [hT1.1 1 (by decide), if_neg (nI_ge ha (by omega)), xCheapWay hx1 hT1 hW isG_53 hG1 hr hb ha, xt_6 ht hx1]
    simp only [ob, obd]
    rw [aI_n (by rw [xn_6 ht]; omega) (by omega), (hT1.2.1 a ha).1, xThereB hG1 (by omega)]
    simp only [ob]
    cases hc : cw T (fun i => tkn T r b (aSet T a i)) (T.1 2 + 1) with
    | none =>
      rw [show cwe none = -2 from rfl, xCost_m2]
      simp only [ob]
      rw [if_pos trivial]
      refine ⟨_, rfl, nI_1 a, hE, ?_⟩
      rw [es, hc]
      show HC (if bt (r 25) a then ch T r b a else ch T r b a) G1
      rw [ite_self]; exact hC
    | some j =>
      have hj := (cw_ok _ j hc).1
      have hcj := cost_99 hW (show j ≤ T.1 2 by omega)
      rw [show cwe (some j) = wv j from rfl, xCost ⟨t, hx1⟩ ht hT1 hW (by omega)]
      simp only [ob]
      rw [if_neg (wv_m2 (by omega)), nI_add]
      cases hth : bt (r 25) a with
      | false =>
        rw [if_pos (show b2 false = 0 from rfl)]
        refine ⟨_, rfl, nI_1 a, hE, ?_⟩
        rw [es, hth]; exact hC
      | true =>
        rw [if_neg (show ¬ b2 true = 0 by decide)]
        have upd3 : HC (some (a, j, T.2.1 0 a + aCost T j)) (sI (sI (sI G1 287 0 (nI (T.2.1 0 a + aCost T j))) 287 1 (nI a)) 287 2 (wv j)) := ⟨by rw [sI_ne (Or.inr (by decide)), sI_ne (Or.inr (by decide)), sI_same], by rw [sI_ne (Or.inr (by decide)), sI_same], sI_same⟩
        have e3 : E287 G1 (sI (sI (sI G1 287 0 (nI (T.2.1 0 a + aCost T j))) 287 1 (nI a)) 287 2 (wv j)) := (E287.s (by decide)).tr ((E287.s (by decide)).tr (E287.s (by decide)))
        rw [hth, if_pos rfl, hc] at es
        cases ho : ch T r b a with
        | none =>
          rw [ho] at hC es
          rw [show G1.1 287 0 = 1000000 from hC, if_neg (show ¬ (1000000 : Int32) ≤ nI (T.2.1 0 a + aCost T j) from nI_ge (b := 1000000) (by omega) (by decide))]
          refine ⟨_, rfl, nI_1 a, hE.tr e3, ?_⟩
          rw [es]; exact upd3
        | some p =>
          rw [ho] at hC es
          have hp := ch_ok hW a (by omega) p ho
          rw [show G1.1 287 0 = nI p.2.2 from hC.1]
          by_cases hlt : T.2.1 0 a + aCost T j < p.2.2
          · rw [if_neg (nI_ge hlt (by omega))]
            refine ⟨_, rfl, nI_1 a, hE.tr e3, ?_⟩
            rw [es]; simp only [cmb]; rw [if_pos hlt]; exact upd3
          · rw [if_pos (nI_le (by omega) (by omega))]
            refine ⟨_, rfl, nI_1 a, hE, ?_⟩
            rw [es]; simp only [cmb]; rw [if_neg hlt]; exact hC) (by
    rintro ⟨G1, x⟩ ⟨rfl, hE, hC⟩
    dsimp only at hE hC ⊢
    have hT1 := hE.X.T ht hT
    unfold fX5_findCheapest_S9
    rw [hT1.1 1 (by decide), if_pos (nI_le (Nat.le_refl _) (by omega))]
    exact ⟨_, rfl, hE, hC⟩)
  rw [b1]
  simp only [ob]
  cases ho : ch T r b (T.1 1) with
  | none =>
    rw [ho] at b3
    rw [show o.1 287 0 = 1000000 from b3, if_pos (by decide), if_pos rfl]
    exact ⟨_, rfl, b2', b3⟩
  | some p =>
    rw [ho] at b3
    have hp := ch_ok hW _ (Nat.le_refl _) p ho
    rw [show o.1 287 0 = nI p.2.2 from b3.1, if_neg (show ¬ (1000000 : Int32) ≤ nI p.2.2 from nI_ge (b := 1000000) (by omega) (by decide)), if_neg (by simp)]
    exact ⟨_, rfl, b2', b3⟩
def rce : Option (Nat × Nat × Nat) → Int32 × Int32 × Int32
  | none => (-2, -1, 0)
  | some p => (nI p.1, wv p.2.1, nI p.2.2)
theorem mCheapest {l b : Nat} {T : Txt} {r : Nat → Int32} {G : Hp} {w : Int32} (hM : ML0 l T G) (hR : MR r G) (hr : WFG T r) (hb : b < T.1 3) : ∃ G2, iter (fun s : Hp × Int32 × Int32 × Int32 × Int32 => fX11_cheap_S35 SHM 0 (nI b) w s.1 s.2.1 s.2.2.1 s.2.2.2.1 s.2.2.2.2) fuel ((G, (-2), (-1), 0, 0) : Hp × Int32 × Int32 × Int32 × Int32) = some (G2, rce (ch T r b (T.1 1))) ∧ E41 G G2 := by
  have hW := hM.2.2.2.2
  have hw := hW.1
  obtain ⟨o, b1, b2', b3⟩ := iter_go (f := fun s : Hp × Int32 × Int32 × Int32 × Int32 => fX11_cheap_S35 SHM 0 (nI b) w s.1 s.2.1 s.2.2.1 s.2.2.2.1 s.2.2.2.2) (P := fun a s => E41 G s.1 ∧ s.2 = ((rce (ch T r b a)).1, (rce (ch T r b a)).2.1, (rce (ch T r b a)).2.2, nI a)) (Q := fun o => E41 G o.1 ∧ o.2 = rce (ch T r b (T.1 1))) (T.1 1) (G, (-2), (-1), 0, 0) (by omega) ⟨E41.rf, rfl⟩ (by
    rintro a ⟨G1, p⟩ ha ⟨hE, rfl⟩
    left
    dsimp only at hE ⊢
    have hM1 := hE.toM.M hM
    have hl := (hW.2.1 a ha).1
    have es : ch T r b (a + 1) = if bt (r 25) a then cmb T a (ch T r b a) (cw T (fun i => tkn T r b (aSet T a i)) (T.1 2 + 1)) else ch T r b a := rfl
    unfold fX11_cheap_S35
    rw [ml_24 hM1.1]
    simp only [ob]
    rw [aI_l (n := 0) hM1 mn_11, hM1.2.2.2.1.1.2.1]
    simp only [ob]
    rw [if_neg (nI_ge ha (by omega))]
    have ih := ch_ok (r := r) (b := b) hW a (by omega)
    -- the state within: behind i ways
    obtain ⟨o2, d1, d2, d3⟩ := iter_go (f := fun s : Hp × Int32 × Int32 × Int32 × Int32 => fX11_cheap_S52 SHM 0 (nI b) w (nI a) s.1 s.2.1 s.2.2.1 s.2.2.2.1 s.2.2.2.2) (P := fun i s => E41 G s.1 ∧ ∃ q, (q = if bt (r 25) a then cmb T a (ch T r b a) (cw T (fun i => tkn T r b (aSet T a i)) i) else ch T r b a) ∧ (∀ p, q = some p → p.1 < 100 ∧ p.2.2 ≤ 198) ∧ s.2 = ((rce q).1, (rce q).2.1, (rce q).2.2, wv i)) (Q := fun o => E41 G o.1 ∧ o.2 = rce (ch T r b (a + 1))) (T.1 2 + 1) (G1, (rce (ch T r b a)).1, (rce (ch T r b a)).2.1, (rce (ch T r b a)).2.2, (-1)) (by omega) ⟨hE, ch T r b a, by show _ = if bt (r 25) a then ch T r b a else ch T r b a; rw [ite_self], fun p hp => by have := ih p hp; omega, rfl⟩ (by
      rintro i ⟨G2, p⟩ hi ⟨hE2, q, hq, hq2, rfl⟩
      left
      dsimp only at hE2 ⊢
      have hM2 := hE2.toM.M hM
      have hR2 : MR r G2 := hR.E (fun k hk => hE2.2 40 k (by decide))
      have hci := cost_99 hW (show i ≤ T.1 2 by omega)
      obtain ⟨G12, t1, t2⟩ := mTakes (s := aSet T a i) hM2 hR2 hr hb
      unfold fX11_cheap_S52 fX11_cheap_J110L52
      rw [ml_27 hM2.1, ml_25 hM2.1]
      simp only [ob]
      rw [aI_l (n := 0) hM2 mn_14, hM2.2.2.2.1.1.2.2.1]
      simp only [ob]
      rw [if_neg (wv_ge (by omega) (by omega)), aI_7 hM2 mn_12 (by omega), (hM2.2.2.2.1.2.1 a ha).1]
      simp only [ob]
      rw [mCost hM2 (by omega), mThereB hM2.1 hR2 (by omega), mSet hM2 ha (by omega)]
      simp only [ob, obd]
      rw [t1]
      simp only [obp]
      rw [nI_add, wv_inc]
      cases hth : bt (r 25) a with
      | false =>
        rw [hth] at hq
        rw [if_pos (show b2 false = 0 from rfl)]
        exact ⟨_, rfl, hE2, q, hq, hq2, rfl⟩
      | true =>
        rw [hth, if_pos rfl] at hq
        rw [if_neg (show ¬ b2 true = 0 by decide)]
        have es2 : cmb T a (ch T r b a) (cw T (fun i => tkn T r b (aSet T a i)) (i + 1)) = stp T a i (tkn T r b (aSet T a i)) q := by rw [hq]; exact cmb_s
        have up : ∀ G3 : Hp, E41 G G3 → stp T a i (tkn T r b (aSet T a i)) q = some (a, i, T.2.1 0 a + aCost T i) → ∃ s2 : Hp × Int32 × Int32 × Int32 × Int32, (some (Sum.inl (G3, nI a, wv i, nI (T.2.1 0 a + aCost T i), wv (i + 1))) : Option ((Hp × Int32 × Int32 × Int32 × Int32) ⊕ (Hp × Int32 × Int32 × Int32))) = some (.inl s2) ∧ E41 G s2.1 ∧ ∃ q, (q = if true = true then cmb T a (ch T r b a) (cw T (fun i => tkn T r b (aSet T a i)) (i + 1)) else ch T r b a) ∧ (∀ p, q = some p → p.1 < 100 ∧ p.2.2 ≤ 198) ∧ s2.2 = ((rce q).1, (rce q).2.1, (rce q).2.2, wv (i + 1)) := fun G3 h3 hs => ⟨_, rfl, h3, _, by rw [if_pos rfl, es2, hs], fun p hp => by simp only [Option.some.injEq] at hp; subst hp; exact ⟨by dsimp only; omega, by dsimp only; omega⟩, rfl⟩
        have kp : ∀ G3 : Hp, E41 G G3 → stp T a i (tkn T r b (aSet T a i)) q = q → ∃ s2 : Hp × Int32 × Int32 × Int32 × Int32, (some (Sum.inl (G3, (rce q).1, (rce q).2.1, (rce q).2.2, wv (i + 1))) : Option ((Hp × Int32 × Int32 × Int32 × Int32) ⊕ (Hp × Int32 × Int32 × Int32))) = some (.inl s2) ∧ E41 G s2.1 ∧ ∃ q, (q = if true = true then cmb T a (ch T r b a) (cw T (fun i => tkn T r b (aSet T a i)) (i + 1)) else ch T r b a) ∧ (∀ p, q = some p → p.1 < 100 ∧ p.2.2 ≤ 198) ∧ s2.2 = ((rce q).1, (rce q).2.1, (rce q).2.2, wv (i + 1)) := fun G3 h3 hs => ⟨_, rfl, h3, q, by rw [if_pos rfl, es2, hs], hq2, rfl⟩
        cases hqq : q with
        | none =>
          rw [hqq] at up kp
          rw [if_pos (show (rce none).1 < 0 by show (-2 : Int32) < 0; decide)]
          cases htk : tkn T r b (aSet T a i) with
          | false =>
            rw [htk] at kp
            rw [if_pos (show b2 false = 0 from rfl)]
            exact kp G12 (hE2.tr t2) rfl
          | true =>
            rw [htk] at up
            rw [if_neg (show ¬ b2 true = 0 by decide)]
            exact up G12 (hE2.tr t2) rfl
        | some p =>
          rw [hqq] at up kp
          have hp := hq2 p hqq
          rw [if_neg (show ¬ (rce (some p)).1 < 0 from nI_pos (by omega))]
          by_cases hlt : T.2.1 0 a + aCost T i < p.2.2
          · rw [if_neg (show ¬ (rce (some p)).2.2 ≤ nI (T.2.1 0 a + aCost T i) from nI_ge hlt (by omega))]
            cases htk : tkn T r b (aSet T a i) with
            | false =>
              rw [htk] at kp
              rw [if_pos (show b2 false = 0 from rfl)]
              exact kp G12 (hE2.tr t2) rfl
            | true =>
              rw [htk] at up
              rw [if_neg (show ¬ b2 true = 0 by decide)]
              exact up G12 (hE2.tr t2) (by unfold stp; rw [if_pos rfl]; dsimp only; rw [if_pos hlt])
          · rw [if_pos (show (rce (some p)).2.2 ≤ nI (T.2.1 0 a + aCost T i) from nI_le (by omega) (by omega))]
            refine kp G2 hE2 ?_
            unfold stp
            dsimp only
            rw [if_neg hlt, ite_self]) (by
      rintro ⟨G2, p⟩ ⟨hE2, q, hq, hq2, rfl⟩
      dsimp only at hE2 ⊢
      have hM2 := hE2.toM.M hM
      unfold fX11_cheap_S52
      rw [ml_27 hM2.1]
      simp only [ob]
      rw [aI_l (n := 0) hM2 mn_14, hM2.2.2.2.1.1.2.2.1]
      simp only [ob]
      rw [if_pos (wv_end (by omega))]
      exact ⟨_, rfl, hE2, by rw [es, ← hq]⟩)
    rw [d1]
    simp only [ob, obd]
    refine ⟨_, rfl, d2, ?_⟩
    rw [d3, nI_1]) (by
    rintro ⟨G1, p⟩ ⟨hE, rfl⟩
    dsimp only at hE ⊢
    have hM1 := hE.toM.M hM
    unfold fX11_cheap_S35
    rw [ml_24 hM1.1]
    simp only [ob]
    rw [aI_l (n := 0) hM1 mn_11, hM1.2.2.2.1.1.2.1]
    simp only [ob]
    rw [if_pos (nI_le (Nat.le_refl _) (by omega))]
    exact ⟨_, rfl, hE, rfl⟩)
  refine ⟨o.1, ?_, b2'⟩
  rw [b1, ← b3]
theorem xTold {j : Nat} (hj : j < 100) : fX10_wayTold (wv j) = some (if j = 0 then 9 else wv j) := by
  unfold fX10_wayTold
  cases j with
  | zero => rfl
  | succ j => rw [wv_s, if_neg (nI_nm1 (by omega)), if_neg (by omega)]
theorem step15 {Gx Gm : Hp} (hI : Inv Gx Gm) (b w : Int32) : Step15 SHX SHM Inv Gx Gm b w := by
  have hI0 := hI
  obtain ⟨T, t, l, r, n, u, nx, hi, hb, sl, m, h⟩ := hI
  have hM := h.M
  have hx := h.1
  have hW := h.2.2.2.2.1
  have hT := h.2.2.2.2.2.1
  have hr := h.2.2.2.2.2.2.2.1
  have hG := h.2.2.2.2.2.2.2.2.1
  have hw := hW.1
  unfold Step15 fX10_cheap fX11_cheap
  rw [xl_text hx]
  simp only [ob]
  by_cases hb : rng b (T.1 3)
  · obtain ⟨b, hb, rfl⟩ := hb
    rw [xBridge_y hT hW hb, mBridge_y hM hb]
    simp only [ob, if_neg one_ne]
    by_cases ha : rng w 3
    · obtain ⟨k, hk, rfl⟩ := ha
      obtain ⟨Gc, c1, c2', c3, c4, c5, c6⟩ := h.C
      obtain ⟨G2, x1, x2, x3⟩ := xCheapest hx hT hW hG hr hb
      obtain ⟨G3, y1, y2⟩ := mCheapest (w := nI k) c4 c3 hr hb
      rw [in3_y hk, if_neg (nI_pos (by omega)), if_pos (show nI k ≤ 2 from nI_le (b := 2) (by omega) (by decide)), c1, xl_0_9 hx, xl_0_3 hx]
      simp only [ob, if_neg one_ne]
      rw [x1, y1]
      simp only [obp, ob, obd]
      have hx2 := x2.X.L hx
      have fin := x2.X.I (c2'.tr y2.toM) h
      cases ho : ch T r b (T.1 1) with
      | none =>
        rw [if_pos rfl, if_pos rfl, if_neg (show ¬ (0 : Int32) ≤ (rce none).1 by show ¬ (0 : Int32) ≤ -2; decide)]
        exact ⟨_, _, _, rfl, rfl, fin⟩
      | some p =>
        rw [ho] at x3
        have hp := ch_ok hW _ (Nat.le_refl _) p ho
        rw [if_neg (by simp), if_pos (show (0 : Int32) ≤ (rce (some p)).1 from nI_pos' (by omega)), xl_0_9 hx2]
        simp only [ob]
        rw [x3.1, x3.2.1, x3.2.2, xTold (by omega)]
        by_cases k0 : nI k = 0
        · rw [if_pos k0, if_pos k0]; exact ⟨_, _, _, rfl, rfl, fin⟩
        · rw [if_neg k0, if_neg k0]
          by_cases k1 : nI k = 1
          · rw [if_pos k1, if_pos k1]; exact ⟨_, _, _, rfl, rfl, fin⟩
          · rw [if_neg k1, if_neg k1]
            show ∃ r gx gm, _ ∧ (if wv p.2.1 = -1 then some (9, G3) else some (wv p.2.1, G3)) = some (r, gm) ∧ _
            cases hj : p.2.1 with
            | zero => exact ⟨_, _, _, rfl, rfl, fin⟩
            | succ j =>
              rw [if_neg (show ¬ wv (j + 1) = -1 by rw [wv_s]; exact nI_nm1 (by omega)), if_neg (Nat.succ_ne_zero j)]
              exact ⟨_, _, _, rfl, rfl, fin⟩
    · rw [in3_n ha]
      rcases rngN (by decide) ha with h0 | ⟨h0, h1⟩
      · rw [if_pos h0]; exact ⟨_, _, _, rfl, rfl, hI0⟩
      · rw [if_neg h0, if_neg (show ¬ w ≤ 2 from h1)]; exact ⟨_, _, _, rfl, rfl, hI0⟩
  · rw [xBridge_n hT hW hb, mBridge_n hM hb]
    exact ⟨_, _, _, rfl, rfl, hI0⟩
