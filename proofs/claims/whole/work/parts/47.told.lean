/-! WHAT IS TOLD: went, sure, ask. -/
def TO (T : Txt) (m : Nat) (ta : Nat → Nat) (th : Nat → Bool) (Gx Gm : Hp) : Prop := m ≤ 20 ∧ Gx.1 284 0 = nI m ∧ Gm.1 0 74 = nI m ∧ ∀ i, i < m → ta i < T.1 0 ∧ Gx.1 285 i = nI (ta i) ∧ Gm.1 49 i = nI (ta i) ∧ Gx.1 286 i = b2 (th i) ∧ Gm.1 50 i = b2 (th i)
theorem RO.to {T : Txt} {m : Nat} {Gx Gm : Hp} (h : RO T m Gx Gm) (hT : T.1 0 ≤ 8) : ∃ ta th, TO T m ta th Gx Gm := by
  obtain ⟨h1, h2, h3, h4⟩ := h
  refine ⟨fun i => (Gm.1 49 i).toNatClampNeg, fun i => decide (Gm.1 50 i = 1), h1, h2, h3, fun i hi => ?_⟩
  obtain ⟨a, a1, a2, a3, a4, a5⟩ := h4 i hi
  dsimp only
  rw [a3, nI_clamp (by omega)]
  refine ⟨a1, a2, rfl, ?_, ?_⟩
  · rw [a4]; rcases a5 with e | e <;> rw [e] <;> rfl
  · rcases a5 with e | e <;> rw [e] <;> rfl
/-- the first k that are told are so of a set -/
def kn (ta : Nat → Nat) (th : Nat → Bool) (s : Nat) : Nat → Bool
  | 0 => true
  | k + 1 => kn ta th s k && (s.testBit (ta k) == th k)
def mh (ta : Nat → Nat) (th : Nat → Bool) : Nat → Nat
  | 0 => 0
  | k + 1 => if th k then mh ta th k ||| 2 ^ ta k else mh ta th k
def mlk (ta : Nat → Nat) (th : Nat → Bool) : Nat → Nat
  | 0 => 0
  | k + 1 => if th k then mlk ta th k else mlk ta th k ||| 2 ^ ta k
theorem tb_p {j i : Nat} : (2 ^ j).testBit i = decide (j = i) := Nat.testBit_two_pow
theorem and_or_eq {s a j : Nat} : (s &&& (a ||| 2 ^ j) = a ||| 2 ^ j) ↔ (s &&& a = a) ∧ s.testBit j = true := by
  constructor
  · intro h
    have hb : ∀ i, (s.testBit i && (a.testBit i || decide (j = i))) = (a.testBit i || decide (j = i)) := fun i => by
      have := congrArg (fun x => Nat.testBit x i) h
      simp only [Nat.testBit_and, Nat.testBit_or, tb_p] at this
      exact this
    refine ⟨Nat.eq_of_testBit_eq fun i => ?_, ?_⟩
    · have := hb i
      rw [Nat.testBit_and]
      cases ha : a.testBit i
      · simp
      · rw [ha] at this; simpa using this
    · have := hb j
      simpa using this
  · rintro ⟨h1, h2⟩
    refine Nat.eq_of_testBit_eq fun i => ?_
    have := congrArg (fun x => Nat.testBit x i) h1
    simp only [Nat.testBit_and, Nat.testBit_or, tb_p] at this ⊢
    by_cases e : j = i
    · subst e; simp [h2]
    · simp only [e, decide_false, Bool.or_false]; exact this
theorem and_or_0 {s a j : Nat} : (s &&& (a ||| 2 ^ j) = 0) ↔ (s &&& a = 0) ∧ s.testBit j = false := by
  constructor
  · intro h
    have hb : ∀ i, (s.testBit i && (a.testBit i || decide (j = i))) = false := fun i => by
      have := congrArg (fun x => Nat.testBit x i) h
      simp only [Nat.testBit_and, Nat.testBit_or, tb_p, Nat.zero_testBit] at this
      exact this
    refine ⟨Nat.eq_of_testBit_eq fun i => ?_, ?_⟩
    · have := hb i
      rw [Nat.testBit_and, Nat.zero_testBit]
      cases hs : s.testBit i
      · rfl
      · rw [hs] at this; simp at this; simp [this.1]
    · have := hb j
      simpa using this
  · rintro ⟨h1, h2⟩
    refine Nat.eq_of_testBit_eq fun i => ?_
    have := congrArg (fun x => Nat.testBit x i) h1
    simp only [Nat.testBit_and, Nat.testBit_or, tb_p, Nat.zero_testBit] at this ⊢
    by_cases e : j = i
    · subst e; simp [h2]
    · simp only [e, decide_false, Bool.or_false]; exact this
theorem kn_eq {ta : Nat → Nat} {th : Nat → Bool} {s : Nat} : ∀ k, kn ta th s k = true ↔ (s &&& mh ta th k = mh ta th k) ∧ (s &&& mlk ta th k = 0)
  | 0 => by simp [kn, mh, mlk]
  | k + 1 => by
    have ih := kn_eq (ta := ta) (th := th) (s := s) k
    show (kn ta th s k && (s.testBit (ta k) == th k)) = true ↔ (s &&& (if th k then mh ta th k ||| 2 ^ ta k else mh ta th k) = (if th k then mh ta th k ||| 2 ^ ta k else mh ta th k)) ∧ (s &&& (if th k then mlk ta th k else mlk ta th k ||| 2 ^ ta k) = 0)
    rw [Bool.and_eq_true, ih]
    cases hk : th k
    · simp only [Bool.false_eq_true, if_false]
      rw [and_or_0]
      constructor
      · rintro ⟨⟨a, b⟩, c⟩; exact ⟨a, b, by simpa using c⟩
      · rintro ⟨a, b, c⟩; exact ⟨⟨a, b⟩, by rw [c]; rfl⟩
    · simp only [if_true]
      rw [and_or_eq]
      constructor
      · rintro ⟨⟨a, b⟩, c⟩; exact ⟨⟨a, by simpa using c⟩, b⟩
      · rintro ⟨⟨a, c⟩, b⟩; exact ⟨⟨a, b⟩, by rw [c]; rfl⟩
theorem mh_lt {ta : Nat → Nat} {th : Nat → Bool} : ∀ k, (∀ i, i < k → ta i < 8) → mh ta th k < 256 ∧ mlk ta th k < 256
  | 0, _ => ⟨by show 0 < 256; decide, by show 0 < 256; decide⟩
  | k + 1, h => by
    obtain ⟨a, b⟩ := mh_lt (ta := ta) (th := th) k (fun i hi => h i (by omega))
    have p : 2 ^ ta k < 2 ^ 8 := Nat.pow_lt_pow_right (by decide) (h k (by omega))
    constructor
    · show (if th k then mh ta th k ||| 2 ^ ta k else mh ta th k) < 256
      split
      · exact Nat.or_lt_two_pow (n := 8) a p
      · exact a
    · show (if th k then mlk ta th k else mlk ta th k ||| 2 ^ ta k) < 256
      split
      · exact b
      · exact Nat.or_lt_two_pow (n := 8) b p
def so (T : Txt) (ta : Nat → Nat) (th : Nat → Bool) (k b s : Nat) : Bool := kn ta th s k && evC (T.2.2.1 b) s
/-- nothing but what is known by k has changed -/
def E284 (G G2 : Hp) : Prop := G2.2 = G.2 ∧ ∀ q k, ¬ (q = 284 ∧ 3 ≤ k) → G2.1 q k = G.1 q k
theorem E284.X {G G2 : Hp} (h : E284 G G2) : EssX G G2 := ⟨h.1, fun q k hn => by
  unfold scrX at hn
  exact h.2 q k (by omega)⟩
theorem E284.rf {G : Hp} : E284 G G := ⟨rfl, fun _ _ _ => rfl⟩
theorem E284.tr {G G2 G3 : Hp} (h : E284 G G2) (h2 : E284 G2 G3) : E284 G G3 := ⟨h2.1.trans h.1, fun q k a => (h2.2 q k a).trans (h.2 q k a)⟩
theorem E284.s {k : Nat} {G : Hp} {v : Int32} (hk : 3 ≤ k) : E284 G (sI G 284 k v) := ⟨rfl, fun q2 k2 h => sI_ne (by omega)⟩
theorem xKnow {t m k : Nat} {T : Txt} {ta : Nat → Nat} {th : Nat → Bool} {Gx Gm : Hp} (hx : LX t Gx) (hT8 : T.1 0 ≤ 8) (h : TO T m ta th Gx Gm) (hk : k ≤ m) : ∃ G2, fX9_know SHX Gx 284 (nI k) = some G2 ∧ E284 Gx G2 ∧ G2.1 284 3 = nI (mh ta th k) ∧ G2.1 284 4 = nI (mlk ta th k) := by
  obtain ⟨h1, h2, h3, h4⟩ := h
  unfold fX9_know
  simp only [obd]
  have e0 : E284 Gx (sI (sI Gx 284 3 0) 284 4 0) := (E284.s (by decide)).tr (E284.s (by decide))
  have p3 : (sI (sI Gx 284 3 0) 284 4 0).1 284 3 = 0 := by rw [sI_ne (Or.inr (by decide)), sI_same]
  have p4 : (sI (sI Gx 284 3 0) 284 4 0).1 284 4 = 0 := sI_same
  generalize sI (sI Gx 284 3 0) 284 4 0 = G0 at e0 p3 p4
  obtain ⟨o, b1, b2', b3, b4⟩ := iter_go (f := fun s : Hp × Int32 => fX9_know_S12 SHX 284 (nI k) s.1 s.2) (P := fun i s => s.2 = nI i ∧ E284 Gx s.1 ∧ s.1.1 284 3 = nI (mh ta th i) ∧ s.1.1 284 4 = nI (mlk ta th i)) (Q := fun o => E284 Gx o ∧ o.1 284 3 = nI (mh ta th k) ∧ o.1 284 4 = nI (mlk ta th k)) k (G0, 0) (by omega) ⟨rfl, e0, p3, p4⟩ (by
    rintro i ⟨G1, x⟩ hi ⟨rfl, hE, q3, q4⟩
    left
    dsimp only at hE q3 q4 ⊢
    obtain ⟨a1, a2, a3, a4, a5⟩ := h4 i (by omega)
    have hx1 : LX t G1 := hx.same (by rw [hE.1])
    unfold fX9_know_S12
    rw [if_neg (nI_ge hi (by omega)), hE.2 284 0 (by omega), h2, if_neg (nI_ge (show i < m by omega) (by omega)), xl_284_2 hx1, xl_284_1 hx1]
    simp only [ob]
    rw [aI_n (by rw [xnn_286]; omega) (by omega), hE.2 286 i (by omega), a4, aI_n (by rw [xnn_285]; omega) (by omega), hE.2 285 i (by omega), a2]
    simp only [ob]
    rw [shl1 (by omega)]
    cases hth : th i with
    | false =>
      rw [if_pos (show b2 false = 0 from rfl)]
      simp only [obd]
      refine ⟨_, rfl, nI_1 i, hE.tr (E284.s (by decide)), ?_, ?_⟩
      · show (sI G1 284 4 _).1 284 3 = nI (if th i then mh ta th i ||| 2 ^ ta i else mh ta th i)
        rw [sI_ne (Or.inr (by decide)), q3, hth]; rfl
      · show (sI G1 284 4 _).1 284 4 = nI (if th i then mlk ta th i else mlk ta th i ||| 2 ^ ta i)
        rw [sI_same, q4, nI_or, hth]; rfl
    | true =>
      rw [if_neg (show ¬ b2 true = 0 by decide)]
      simp only [obd]
      refine ⟨_, rfl, nI_1 i, hE.tr (E284.s (by decide)), ?_, ?_⟩
      · show (sI G1 284 3 _).1 284 3 = nI (if th i then mh ta th i ||| 2 ^ ta i else mh ta th i)
        rw [sI_same, q3, nI_or, hth]; rfl
      · show (sI G1 284 3 _).1 284 4 = nI (if th i then mlk ta th i else mlk ta th i ||| 2 ^ ta i)
        rw [sI_ne (Or.inr (by decide)), q4, hth]; rfl) (by
    rintro ⟨G1, x⟩ ⟨rfl, hE, q3, q4⟩
    dsimp only at hE q3 q4 ⊢
    unfold fX9_know_S12
    rw [if_pos (nI_le (Nat.le_refl _) (by omega))]
    exact ⟨_, rfl, hE, q3, q4⟩)
  rw [b1]
  simp only [ob, obd]
  exact ⟨_, rfl, b2', b3, b4⟩
theorem nI_eq8 {a b : Nat} (ha : a < 256) (hb : b < 256) : nI a = nI b ↔ a = b := nI_eq (by omega) (by omega)
theorem xCanBe {t b s k : Nat} {T : Txt} {ta : Nat → Nat} {th : Nat → Bool} {G : Hp} (hx : LX t G) (hT : XT t T G) (hW : WFT T) (hb : b < T.1 3) (hs : s < 256) (hta : ∀ i, i < k → ta i < 8) (h3 : G.1 284 3 = nI (mh ta th k)) (h4 : G.1 284 4 = nI (mlk ta th k)) : fX9_canBe SHX G 284 t (nI b) (nI s) = some (b2 (so T ta th k b s)) := by
  obtain ⟨l1, l2⟩ := mh_lt (th := th) k hta
  have q1 : s &&& mh ta th k < 256 := Nat.lt_of_le_of_lt Nat.and_le_left hs
  have q2 : s &&& mlk ta th k < 256 := Nat.lt_of_le_of_lt Nat.and_le_left hs
  unfold fX9_canBe so
  rw [h3, h4, nI_and, nI_and, xHolds hx hx.1 hT hW hb hs]
  simp only [ob]
  by_cases e1 : s &&& mh ta th k = mh ta th k
  · rw [if_pos ((nI_eq8 q1 l1).mpr e1)]
    by_cases e2 : s &&& mlk ta th k = 0
    · rw [if_pos (show nI (s &&& mlk ta th k) = 0 by rw [e2]; rfl), (kn_eq k).mpr ⟨e1, e2⟩]
      cases evC (T.2.2.1 b) s <;> rfl
    · rw [if_neg (show ¬ nI (s &&& mlk ta th k) = 0 from fun q => e2 ((nI_eq8 (b := 0) q2 (by decide)).mp q))]
      have : kn ta th s k = false := by
        cases hq : kn ta th s k
        · rfl
        · exact absurd ((kn_eq k).mp hq).2 e2
      rw [this]; rfl
  · rw [if_neg (fun q => e1 ((nI_eq8 q1 l1).mp q))]
    have : kn ta th s k = false := by
      cases hq : kn ta th s k
      · rfl
      · exact absurd ((kn_eq k).mp hq).1 e1
    rw [this]; rfl
theorem wv_ge {i W : Nat} (h : i ≤ W) (hW : W < 1000) : ¬ nI W ≤ wv i := by
  cases i with
  | zero => rw [wv_0]; exact Int32.not_le.mpr (m1_lt (by omega))
  | succ i => rw [wv_s]; exact nI_ge (by omega) (by omega)
theorem wv_end {W : Nat} (hW : W < 1000) : nI W ≤ wv (W + 1) := by rw [wv_s]; exact nI_le (Nat.le_refl _) (by omega)
/-- how many beings and ways are so -/
def c2 (p : Nat → Nat → Bool) (W A : Nat) : Nat := fb_sm (fun a => fa_cnt (p a) (W + 1)) A
theorem c2_le {p : Nat → Nat → Bool} {W A : Nat} : c2 p W A ≤ A * (W + 1) := fb_sm_bound (fun k _ => fa_cnt_le _ _)
theorem c2_cong {p q : Nat → Nat → Bool} {W A : Nat} (h : ∀ a i, a < A → i ≤ W → p a i = q a i) : c2 p W A = c2 q W A := fb_sm_cong (fun a ha => fa_cnt_cong (fun i hi => h a i ha (by omega)))
def pX (T : Txt) (ta : Nat → Nat) (th : Nat → Bool) (k b bits a i : Nat) : Bool := decide (aSet T a i &&& bits = bits) && so T ta th k b (aSet T a i)
theorem xCountWith {t b k bits : Nat} {T : Txt} {ta : Nat → Nat} {th : Nat → Bool} {G : Hp} (hx : LX t G) (hT : XT t T G) (hW : WFT T) (hb : b < T.1 3) (hta : ∀ i, i < k → ta i < 8) (h3 : G.1 284 3 = nI (mh ta th k)) (h4 : G.1 284 4 = nI (mlk ta th k)) (hbits : bits < 256) : fX9_countWith SHX G 284 t (nI b) (nI bits) = some (nI (c2 (pX T ta th k b bits) (T.1 2) (T.1 1))) := by
  have hw := hW.1
  unfold fX9_countWith
  obtain ⟨o, b1, rfl⟩ := iter_go (f := fun s : Int32 × Int32 => fX9_countWith_S6 SHX 284 t (nI b) (nI bits) G s.1 s.2) (P := fun a s => s = (nI (c2 (pX T ta th k b bits) (T.1 2) a), nI a)) (Q := fun o => o = nI (c2 (pX T ta th k b bits) (T.1 2) (T.1 1))) (T.1 1) ((0, 0) : Int32 × Int32) (by omega) rfl (by
    rintro a s ha rfl
    left
    dsimp only
    unfold fX9_countWith_S6
    rw [hT.1 1 (by decide), if_neg (nI_ge ha (by omega))]
    obtain ⟨o, c1, rfl⟩ := iter_go (f := fun s : Int32 × Int32 => fX9_countWith_S18 SHX 284 t (nI b) (nI bits) (nI a) G s.1 s.2) (P := fun i s => s = (nI (c2 (pX T ta th k b bits) (T.1 2) a + fa_cnt (pX T ta th k b bits a) i), wv i)) (Q := fun o => o = nI (c2 (pX T ta th k b bits) (T.1 2) a + fa_cnt (pX T ta th k b bits a) (T.1 2 + 1))) (T.1 2 + 1) ((nI (c2 (pX T ta th k b bits) (T.1 2) a), (-1)) : Int32 × Int32) (by omega) rfl (by
      rintro i s hi rfl
      left
      dsimp only
      have hs := aSet_256 hW ha (show i ≤ T.1 2 by omega)
      unfold fX9_countWith_S18
      rw [hT.1 2 (by decide), if_neg (wv_ge (by omega) (by omega)), xSet ⟨t, hx⟩ hx.1 hT hW ha (by omega)]
      simp only [ob]
      rw [nI_and]
      by_cases e1 : aSet T a i &&& bits = bits
      · rw [if_pos ((nI_eq8 (Nat.lt_of_le_of_lt Nat.and_le_left hs) hbits).mpr e1), xCanBe hx hT hW hb hs hta h3 h4]
        simp only [ob]
        cases hso : so T ta th k b (aSet T a i) with
        | false =>
          rw [if_pos (show b2 false = 0 from rfl)]
          simp only [obd]
          refine ⟨_, rfl, ?_⟩
          rw [wv_inc, fa_cnt_no (show pX T ta th k b bits a i = false by unfold pX; rw [hso]; exact Bool.and_false _)]
        | true =>
          rw [if_neg (show ¬ b2 true = 0 by decide)]
          simp only [obd]
          refine ⟨_, rfl, ?_⟩
          rw [wv_inc, nI_1, fa_cnt_yes (show pX T ta th k b bits a i = true by unfold pX; rw [hso, decide_eq_true e1]; rfl)]
          rfl
      · rw [if_neg (fun q => e1 ((nI_eq8 (Nat.lt_of_le_of_lt Nat.and_le_left hs) hbits).mp q))]
        simp only [obd]
        refine ⟨_, rfl, ?_⟩
        rw [wv_inc, fa_cnt_no (show pX T ta th k b bits a i = false by unfold pX; rw [decide_eq_false e1]; rfl)]) (by
      rintro s rfl
      dsimp only
      unfold fX9_countWith_S18
      rw [hT.1 2 (by decide), if_pos (wv_end (by omega))]
      exact ⟨_, rfl, rfl⟩)
    rw [c1]
    simp only [ob, obd]
    refine ⟨_, rfl, ?_⟩
    rw [nI_1]; rfl) (by
    rintro s rfl
    dsimp only
    unfold fX9_countWith_S6
    rw [hT.1 1 (by decide), if_pos (nI_le (Nat.le_refl _) (by omega))]
    exact ⟨_, rfl, rfl⟩)
  rw [b1]
  rfl
/-! the reference -/
def TM (T : Txt) (m : Nat) (ta : Nat → Nat) (th : Nat → Bool) (G : Hp) : Prop := m ≤ 20 ∧ G.1 0 74 = nI m ∧ ∀ i, i < m → ta i < T.1 0 ∧ G.1 49 i = nI (ta i) ∧ G.1 50 i = b2 (th i)
theorem TO.m {T : Txt} {m : Nat} {ta : Nat → Nat} {th : Nat → Bool} {Gx Gm : Hp} (h : TO T m ta th Gx Gm) : TM T m ta th Gm := ⟨h.1, h.2.2.1, fun i hi => ⟨(h.2.2.2 i hi).1, (h.2.2.2 i hi).2.2.1, (h.2.2.2 i hi).2.2.2.2⟩⟩
theorem TM.E {T : Txt} {m : Nat} {ta : Nat → Nat} {th : Nat → Bool} {G G2 : Hp} (h : TM T m ta th G) (e : E41 G G2) : TM T m ta th G2 := ⟨h.1, (e.2 _ _ (by decide)).trans h.2.1, fun i hi => by
  rw [e.2 49 i (by decide), e.2 50 i (by decide)]; exact h.2.2 i hi⟩
theorem mIsSo {l m k b s : Nat} {T : Txt} {ta : Nat → Nat} {th : Nat → Bool} {G : Hp} (hM : ML0 l T G) (h : TM T m ta th G) (hk : k ≤ m) (hb : b < T.1 3) : ∃ G2, fX11_isSo SHM G 0 (nI b) (nI s) (nI k) = some (b2 (so T ta th k b s), G2) ∧ E41 G G2 := by
  have hW := hM.2.2.2.2.1
  obtain ⟨h1, h2, h3⟩ := h
  unfold fX11_isSo so
  have fal : ∀ i k, i < k → kn ta th s (i + 1) = false → kn ta th s k = false := by
    intro i k hi hf
    induction k with
    | zero => omega
    | succ k ih =>
      by_cases e : i = k
      · subst e; exact hf
      · show (kn ta th s k && (s.testBit (ta k) == th k)) = false
        rw [ih (by omega)]; rfl
  obtain ⟨o, b1, b2'⟩ := iter_go (f := fun x : Int32 => fX11_isSo_S3 SHM 0 (nI b) (nI s) (nI k) G x) (P := fun i x => x = nI i ∧ kn ta th s i = true) (Q := fun o => Sum.elim (fun _ => kn ta th s k = true) (fun _ => kn ta th s k = false) o) k (0 : Int32) (by omega) ⟨rfl, rfl⟩ (by
    rintro i x hi ⟨rfl, hkn⟩
    obtain ⟨a1, a2, a3⟩ := h3 i (by omega)
    unfold fX11_isSo_S3
    rw [if_neg (nI_ge hi (by omega)), ml_75 hM.1, ml_76 hM.1]
    simp only [ob]
    rw [aI_n (by rw [mn_49]; omega) (by omega), a2, aI_n (by rw [mn_50]; omega) (by omega), a3]
    simp only [ob]
    have nx : kn ta th s (i + 1) = (s.testBit (ta i) == th i) := by
      show (kn ta th s i && (s.testBit (ta i) == th i)) = _
      rw [hkn]; rfl
    cases hsb : s.testBit (ta i) with
    | true =>
      rw [if_pos ((shr1 (by omega)).mpr hsb)]
      rw [hsb] at nx
      cases hth : th i with
      | true =>
        rw [hth] at nx
        rw [if_pos (show (1 : Int32) = b2 true from rfl)]
        left
        simp only [obd]
        exact ⟨_, rfl, nI_1 i, nx⟩
      | false =>
        rw [hth] at nx
        rw [if_neg (show ¬ (1 : Int32) = b2 false by decide)]
        right
        exact ⟨_, rfl, fal i k hi nx⟩
    | false =>
      rw [if_neg (fun q => by rw [(shr1 (by omega)).mp q] at hsb; exact absurd hsb (by decide))]
      rw [hsb] at nx
      cases hth : th i with
      | true =>
        rw [hth] at nx
        rw [if_neg (show ¬ (0 : Int32) = b2 true by decide)]
        right
        exact ⟨_, rfl, fal i k hi nx⟩
      | false =>
        rw [hth] at nx
        rw [if_pos (show (0 : Int32) = b2 false from rfl)]
        left
        simp only [obd]
        exact ⟨_, rfl, nI_1 i, nx⟩) (by
    rintro x ⟨rfl, hkn⟩
    unfold fX11_isSo_S3
    rw [if_pos (nI_le (Nat.le_refl _) (by omega))]
    exact ⟨_, rfl, hkn⟩)
  rw [b1]
  simp only [ob]
  cases o with
  | inl y =>
    simp only [Sum.elim_inl]
    rw [show kn ta th s k = true from b2']
    obtain ⟨G2, d1, d2⟩ := mHolds (s := s) hM hb
    rw [d1]
    simp only [obp]
    refine ⟨G2, ?_, d2⟩
    cases evC (T.2.2.1 b) s <;> rfl
  | inr y =>
    simp only [Sum.elim_inr]
    rw [show kn ta th s k = false from b2']
    exact ⟨G, rfl, E41.rf⟩
def pM (T : Txt) (ta : Nat → Nat) (th : Nat → Bool) (k b a i : Nat) : Bool := so T ta th k b (aSet T a i)
theorem mWentBy {l m k b a : Nat} {T : Txt} {ta : Nat → Nat} {th : Nat → Bool} {G : Hp} (hM : ML0 l T G) (h : TM T m ta th G) (hk : k ≤ m) (hb : b < T.1 3) (ha : a < T.1 1) : ∃ G2, fX11_wentBy SHM G 0 (nI b) (nI k) (nI a) = some (nI (fa_cnt (pM T ta th k b a) (T.1 2 + 1)), G2) ∧ E41 G G2 := by
  have hw := hM.2.2.2.2.1
  unfold fX11_wentBy
  obtain ⟨o, b1, b2', b3⟩ := iter_go (f := fun s : Hp × Int32 × Int32 => fX11_wentBy_S6 SHM 0 (nI b) (nI k) (nI a) s.1 s.2.1 s.2.2) (P := fun i s => E41 G s.1 ∧ s.2 = (nI (fa_cnt (pM T ta th k b a) i), wv i)) (Q := fun o => E41 G o.1 ∧ o.2 = nI (fa_cnt (pM T ta th k b a) (T.1 2 + 1))) (T.1 2 + 1) (G, 0, (-1)) (by omega) ⟨E41.rf, rfl⟩ (by
    rintro i ⟨G1, p⟩ hi ⟨hE, rfl⟩
    left
    dsimp only at hE ⊢
    have hM1 := hE.toM.M hM
    obtain ⟨G2, d1, d2⟩ := mIsSo (s := aSet T a i) hM1 (h.E hE) hk hb
    unfold fX11_wentBy_S6
    rw [ml_27 hM1.1]
    simp only [ob]
    rw [aI_l (n := 0) hM1 mn_14, hM1.2.2.2.1.1.2.2.1]
    simp only [ob]
    rw [if_neg (wv_ge (by omega) (by omega)), mSet hM1 ha (by omega)]
    simp only [ob]
    rw [d1]
    simp only [obp]
    cases hso : so T ta th k b (aSet T a i) with
    | false =>
      rw [if_pos (show b2 false = 0 from rfl)]
      simp only [obd]
      refine ⟨_, rfl, hE.tr d2, ?_⟩
      rw [wv_inc, fa_cnt_no (show pM T ta th k b a i = false from hso)]
    | true =>
      rw [if_neg (show ¬ b2 true = 0 by decide)]
      simp only [obd]
      refine ⟨_, rfl, hE.tr d2, ?_⟩
      rw [wv_inc, nI_1, fa_cnt_yes (show pM T ta th k b a i = true from hso)]) (by
    rintro ⟨G1, p⟩ ⟨hE, rfl⟩
    dsimp only at hE ⊢
    have hM1 := hE.toM.M hM
    unfold fX11_wentBy_S6
    rw [ml_27 hM1.1]
    simp only [ob]
    rw [aI_l (n := 0) hM1 mn_14, hM1.2.2.2.1.1.2.2.1]
    simp only [ob]
    rw [if_pos (wv_end (by omega))]
    exact ⟨_, rfl, hE, rfl⟩)
  rw [b1]
  simp only [ob, obd]
  rw [b3]
  exact ⟨_, rfl, b2'⟩
theorem mIsKnown {l m k b : Nat} {T : Txt} {ta : Nat → Nat} {th : Nat → Bool} {G : Hp} (hM : ML0 l T G) (h : TM T m ta th G) (hk : k ≤ m) (hb : b < T.1 3) : fX11_isKnown SHM G 0 (nI b) (nI k) = some 1 := by
  unfold fX11_isKnown
  rw [mBridge_y hM hb]
  simp only [ob, if_neg one_ne]
  have := in_yes (a := k) (n := m + 1) (by omega) (by have := h.1; omega)
  rw [nI_pred] at this
  rw [h.2.1, this]
  rfl
theorem mWentAll {l m k b : Nat} {T : Txt} {ta : Nat → Nat} {th : Nat → Bool} {G : Hp} (hM : ML0 l T G) (h : TM T m ta th G) (hk : k ≤ m) (hb : b < T.1 3) : ∃ G2, fX11_went SHM G 0 (nI b) (nI k) = some (nI (c2 (pM T ta th k b) (T.1 2) (T.1 1)), G2) ∧ E41 G G2 := by
  have hw := hM.2.2.2.2.1
  unfold fX11_went
  rw [mIsKnown hM h hk hb]
  simp only [ob, if_neg one_ne]
  obtain ⟨o, b1, b2', b3⟩ := iter_go (f := fun s : Hp × Int32 × Int32 => fX11_went_S16 SHM 0 (nI b) (nI k) s.1 s.2.1 s.2.2) (P := fun a s => E41 G s.1 ∧ s.2 = (nI (c2 (pM T ta th k b) (T.1 2) a), nI a)) (Q := fun o => E41 G o.1 ∧ o.2 = nI (c2 (pM T ta th k b) (T.1 2) (T.1 1))) (T.1 1) (G, 0, 0) (by omega) ⟨E41.rf, rfl⟩ (by
    rintro a ⟨G1, p⟩ ha ⟨hE, rfl⟩
    left
    dsimp only at hE ⊢
    have hM1 := hE.toM.M hM
    obtain ⟨G2, d1, d2⟩ := mWentBy hM1 (h.E hE) hk hb ha
    unfold fX11_went_S16
    rw [ml_24 hM1.1]
    simp only [ob]
    rw [aI_l (n := 0) hM1 mn_11, hM1.2.2.2.1.1.2.1]
    simp only [ob]
    rw [if_neg (nI_ge ha (by omega)), d1]
    simp only [obp, obd]
    refine ⟨_, rfl, hE.tr d2, ?_⟩
    rw [nI_1, nI_add]; rfl) (by
    rintro ⟨G1, p⟩ ⟨hE, rfl⟩
    dsimp only at hE ⊢
    have hM1 := hE.toM.M hM
    unfold fX11_went_S16
    rw [ml_24 hM1.1]
    simp only [ob]
    rw [aI_l (n := 0) hM1 mn_11, hM1.2.2.2.1.1.2.1]
    simp only [ob]
    rw [if_pos (nI_le (Nat.le_refl _) (by omega))]
    exact ⟨_, rfl, hE, rfl⟩)
  rw [b1]
  simp only [ob, obd]
  rw [b3]
  exact ⟨_, rfl, b2'⟩
theorem xIsKnown {t m k b : Nat} {T : Txt} {G : Hp} (hx : LX t G) (hT : XT t T G) (hW : WFT T) (hm : m ≤ 20) (h0 : G.1 284 0 = nI m) (hk : k ≤ m) (hb : b < T.1 3) : fX10_isKnown SHX G 0 (nI b) (nI k) = some 1 := by
  unfold fX10_isKnown
  rw [xl_text hx]
  simp only [ob]
  rw [xBridge_y hT hW hb]
  simp only [ob, if_neg one_ne]
  rw [if_neg (nI_pos (by omega)), xl_0_8 hx]
  simp only [ob]
  rw [h0, if_neg (nI_nlt hk (by omega))]
theorem nKnown {t l m : Nat} {T : Txt} {ta : Nat → Nat} {th : Nat → Bool} {Gx Gm : Hp} {x y : Int32} (hx : LX t Gx) (hT : XT t T Gx) (hM : ML0 l T Gm) (h : TO T m ta th Gx Gm) (hn : ¬ (rng x (T.1 3) ∧ rng y (m + 1))) : fX10_isKnown SHX Gx 0 x y = some 0 ∧ fX11_isKnown SHM Gm 0 x y = some 0 := by
  have hW := hM.2.2.2.2
  unfold fX10_isKnown fX11_isKnown
  rw [xl_text hx]
  simp only [ob]
  by_cases h1 : rng x (T.1 3)
  · have h2 : ¬ rng y (m + 1) := fun q => hn ⟨h1, q⟩
    obtain ⟨b, hb, rfl⟩ := h1
    have h3 := in_no (n := m + 1) (by have := h.1; omega) h2
    rw [nI_pred] at h3
    rw [xBridge_y hT hW hb, mBridge_y hM hb]
    simp only [ob, if_neg one_ne]
    rw [h.2.2.1, h3, xl_0_8 hx]
    simp only [ob]
    rw [h.2.1]
    rcases rngN (by have := h.1; omega) h2 with q | ⟨q, q'⟩
    · rw [if_pos q]; exact ⟨rfl, rfl⟩
    · rw [if_neg q, if_pos (Int32.not_le.mp q')]; exact ⟨rfl, rfl⟩
  · rw [xBridge_n hT hW h1, mBridge_n hM h1]; exact ⟨rfl, rfl⟩
theorem pX_0 {T : Txt} {ta : Nat → Nat} {th : Nat → Bool} {k b a i : Nat} : pX T ta th k b 0 a i = pM T ta th k b a i := by
  unfold pX pM; rw [Nat.and_zero]; rfl
theorem step28 {Gx Gm : Hp} (hI : Inv Gx Gm) (b a : Int32) : Step28 SHX SHM Inv Gx Gm b a := by
  have hI0 := hI
  obtain ⟨T, t, l, r, n, u, nx, hi, hb, sl, m, h⟩ := hI
  have hM := h.M
  have hx := h.1
  have ht := hx.1
  have hW := h.2.2.2.2.1
  have hT := h.2.2.2.2.2.1
  have hw := hW.1
  obtain ⟨ta, th, hO⟩ := RO.to h.2.2.2.2.2.2.2.2.2.2.2.2.2.1 hw.1
  unfold Step28 fX10_went
  by_cases hk : rng b (T.1 3) ∧ rng a (m + 1)
  · obtain ⟨⟨b, hb, rfl⟩, ⟨k, hk, rfl⟩⟩ := hk
    obtain ⟨G4, y1, y2⟩ := mWentAll hM hO.m (show k ≤ m by omega) hb
    rw [y1, xIsKnown hx hT hW hO.1 hO.2.1 (by omega) hb]
    simp only [ob, if_neg one_ne]
    rw [xl_0_8 hx, xl_text hx]
    simp only [ob]
    unfold fX9_countLeft
    obtain ⟨G2, x1, x2, x3, x4⟩ := xKnow hx hw.1 hO (show k ≤ m by omega)
    have X2 := x2.X
    rw [x1]
    simp only [ob]
    have cw := xCountWith (bits := 0) (X2.L hx) (X2.T ht hT) hW hb (fun i hi => Nat.lt_of_lt_of_le (hO.2.2.2 i (by omega)).1 hw.1) x3 x4 (by decide)
    rw [show fX9_countWith SHX G2 284 t (nI b) 0 = _ from cw]
    simp only [ob, obp]
    rw [c2_cong (fun a i _ _ => pX_0)]
    exact ⟨_, _, _, rfl, rfl, X2.I y2.toM h⟩
  · obtain ⟨q1, q2⟩ := nKnown hx hT hM hO hk
    unfold fX11_went
    rw [q1, q2]
    exact ⟨_, _, _, rfl, rfl, hI0⟩
/-! sure -/
def suN (i : Nat) : Option Nat → Option (Option Nat)
  | none => some (some i)
  | some _ => none
def su (can : Nat → Bool) : Nat → Option (Option Nat)
  | 0 => some none
  | a + 1 => match su can a with
    | none => none
    | some o => if can a then suN a o else some o
def enc : Option Nat → Int32
  | none => -2
  | some a => nI a
theorem su_none {can : Nat → Bool} {i : Nat} (h : su can i = none) : ∀ k, i ≤ k → su can k = none := by
  intro k hk
  induction k with
  | zero => rw [show i = 0 by omega] at h; exact h
  | succ k ih =>
    by_cases e : i = k + 1
    · rw [← e]; exact h
    · show (match su can k with | none => none | some o => if can k then suN k o else some o) = none
      rw [ih (by omega)]
theorem su_lt {can : Nat → Bool} : ∀ i a, su can i = some (some a) → a < i := by
  intro i
  induction i with
  | zero => intro a h; exact absurd h (by simp [su])
  | succ i ih =>
    intro a h
    change (match su can i with | none => none | some o => if can i then suN i o else some o) = some (some a) at h
    cases hs : su can i with
    | none => rw [hs] at h; cases h
    | some o =>
      rw [hs] at h
      dsimp only at h
      cases hc : can i with
      | false =>
        rw [hc] at h
        simp only [Bool.false_eq_true, if_false, Option.some.injEq] at h
        subst h
        have := ih a hs
        omega
      | true =>
        rw [hc] at h
        simp only [if_true] at h
        cases o with
        | none => simp only [suN, Option.some.injEq] at h; omega
        | some _ => cases h
def can (T : Txt) (ta : Nat → Nat) (th : Nat → Bool) (k b a : Nat) : Bool := decide (0 < fa_cnt (pM T ta th k b a) (T.1 2 + 1))
theorem su_s {can : Nat → Bool} {i : Nat} {o : Option Nat} (h : su can i = some o) : su can (i + 1) = if can i then suN i o else some o := by
  show (match su can i with | none => none | some o => if can i then suN i o else some o) = _
  rw [h]
theorem b2_or {x y : Bool} : b2 x ||| b2 y = b2 (x || y) := by cases x <;> cases y <;> decide
theorem cnt_or {p : Nat → Bool} {n : Nat} : decide (0 < fa_cnt p (n + 1)) = (decide (0 < fa_cnt p n) || p n) := by
  cases h : p n with
  | false => rw [fa_cnt_no h, Bool.or_false]
  | true => rw [fa_cnt_yes h, Bool.or_true, decide_eq_true_iff]; omega
theorem xCan {t b k a : Nat} {T : Txt} {ta : Nat → Nat} {th : Nat → Bool} {G : Hp} {w : Int32} (hx : LX t G) (hT : XT t T G) (hW : WFT T) (hb : b < T.1 3) (ha : a < T.1 1) (hta : ∀ i, i < k → ta i < 8) (h3 : G.1 284 3 = nI (mh ta th k)) (h4 : G.1 284 4 = nI (mlk ta th k)) : iter (fun s : Int32 × Int32 => fX9_onlyBeing_S27 SHX 284 t (nI b) w (nI a) G s.1 s.2) fuel ((0, (-1)) : Int32 × Int32) = some (b2 (can T ta th k b a)) := by
  have hw := hW.1
  obtain ⟨o, b1, rfl⟩ := iter_go (f := fun s : Int32 × Int32 => fX9_onlyBeing_S27 SHX 284 t (nI b) w (nI a) G s.1 s.2) (P := fun i s => s = (b2 (decide (0 < fa_cnt (pM T ta th k b a) i)), wv i)) (Q := fun o => o = b2 (can T ta th k b a)) (T.1 2 + 1) ((0, (-1)) : Int32 × Int32) (by omega) rfl (by
    rintro i s hi rfl
    left
    dsimp only
    have hs := aSet_256 hW ha (show i ≤ T.1 2 by omega)
    unfold fX9_onlyBeing_S27
    rw [hT.1 2 (by decide), if_neg (wv_ge (by omega) (by omega)), xSet ⟨t, hx⟩ hx.1 hT hW ha (by omega)]
    simp only [ob]
    rw [xCanBe hx hT hW hb hs hta h3 h4]
    simp only [ob, obd]
    refine ⟨_, rfl, ?_⟩
    rw [wv_inc, b2_or, cnt_or]; rfl) (by
    rintro s rfl
    dsimp only
    unfold fX9_onlyBeing_S27
    rw [hT.1 2 (by decide), if_pos (wv_end (by omega))]
    exact ⟨_, rfl, rfl⟩)
  exact b1
theorem enc_m2 {o : Option Nat} (h : ∀ a, o = some a → a < 100) : (enc o = -2 ↔ o = none) ∧ (enc o < 0 ↔ o = none) := by
  cases o with
  | none => exact ⟨⟨fun _ => rfl, fun _ => rfl⟩, ⟨fun _ => rfl, fun _ => by show (-2 : Int32) < 0; decide⟩⟩
  | some a =>
    have := h a rfl
    refine ⟨⟨fun q => ?_, fun q => by cases q⟩, ⟨fun q => ?_, fun q => by cases q⟩⟩
    · exact absurd (show nI a < 0 by rw [show nI a = -2 from q]; decide) (nI_pos (by omega))
    · exact absurd (show nI a < 0 from q) (nI_pos (by omega))
def SQ (c : Nat → Bool) (A : Nat) : Int32 := match su c A with | none => -2 | some o => enc o
theorem xSure {t b k : Nat} {T : Txt} {ta : Nat → Nat} {th : Nat → Bool} {G : Hp} (hx : LX t G) (hT : XT t T G) (hW : WFT T) (hb : b < T.1 3) (hta : ∀ i, i < k → ta i < 8) (h3 : G.1 284 3 = nI (mh ta th k)) (h4 : G.1 284 4 = nI (mlk ta th k)) : ∃ o, iter (fun s : Int32 × Int32 => fX9_onlyBeing_S12 SHX 284 t (nI b) G s.1 s.2) fuel (((-2), 0) : Int32 × Int32) = some o ∧ Sum.elim (fun x => x = SQ (can T ta th k b) (T.1 1)) (fun _ => (-2) = SQ (can T ta th k b) (T.1 1)) o := by
  have hw := hW.1
  refine iter_go (f := fun s : Int32 × Int32 => fX9_onlyBeing_S12 SHX 284 t (nI b) G s.1 s.2) (P := fun i s => ∃ o, su (can T ta th k b) i = some o ∧ s = (enc o, nI i)) (Q := fun o => Sum.elim (fun x => x = SQ (can T ta th k b) (T.1 1)) (fun _ => (-2) = SQ (can T ta th k b) (T.1 1)) o) (T.1 1) (((-2), 0) : Int32 × Int32) (by omega) ⟨none, rfl, rfl⟩ ?_ ?_
  · rintro a s ha ⟨o, ho, rfl⟩
    dsimp only
    have ob2 := enc_m2 (o := o) (fun a q => by have := su_lt _ _ (by rw [ho, q]); omega)
    have ss := su_s ho
    unfold fX9_onlyBeing_S12 fX9_onlyBeing_J76L12
    rw [hT.1 1 (by decide), if_neg (nI_ge ha (by omega)), xCan hx hT hW hb ha hta h3 h4]
    simp only [ob, obd]
    cases hc : can T ta th k b a with
    | false =>
      rw [hc] at ss
      simp only [show b2 false = 0 from rfl, if_true]
      left
      exact ⟨_, rfl, o, ss, by rw [nI_1]⟩
    | true =>
      rw [hc] at ss
      simp only [if_true] at ss
      simp only [show ¬ b2 true = 0 by decide, if_false]
      cases o with
      | none =>
        rw [if_pos (show enc none = -2 from rfl)]
        left
        exact ⟨_, rfl, some a, ss, by rw [nI_1]; rfl⟩
      | some x =>
        rw [if_neg (fun q => by have := ob2.1.mp q; cases this)]
        right
        refine ⟨_, rfl, ?_⟩
        show (-2) = SQ _ _
        unfold SQ
        rw [su_none ss _ ha]
  · rintro s ⟨o, ho, rfl⟩
    dsimp only
    unfold fX9_onlyBeing_S12
    rw [hT.1 1 (by decide), if_pos (nI_le (Nat.le_refl _) (by omega))]
    refine ⟨_, rfl, ?_⟩
    show enc o = SQ _ _
    unfold SQ
    rw [ho]
theorem mSure {l m k b : Nat} {T : Txt} {ta : Nat → Nat} {th : Nat → Bool} {G : Hp} (hM : ML0 l T G) (h : TM T m ta th G) (hk : k ≤ m) (hb : b < T.1 3) : ∃ G2, fX11_sure SHM G 0 (nI b) (nI k) = some (SQ (can T ta th k b) (T.1 1), G2) ∧ E41 G G2 := by
  have hw := hM.2.2.2.2.1
  unfold fX11_sure
  rw [mIsKnown hM h hk hb]
  simp only [ob, if_neg one_ne]
  obtain ⟨o, b1, b2'⟩ := iter_go (f := fun s : Hp × Int32 × Int32 => fX11_sure_S17 SHM 0 (nI b) (nI k) s.1 s.2.1 s.2.2) (P := fun i s => E41 G s.1 ∧ ∃ o, su (can T ta th k b) i = some o ∧ s.2 = (enc o, nI i)) (Q := fun o => Sum.elim (fun x => E41 G x.1 ∧ x.2 = SQ (can T ta th k b) (T.1 1)) (fun G2 => E41 G G2 ∧ (-2) = SQ (can T ta th k b) (T.1 1)) o) (T.1 1) (G, (-2), 0) (by omega) ⟨E41.rf, none, rfl, rfl⟩ (by
    rintro a ⟨G1, p⟩ ha ⟨hE, o, ho, rfl⟩
    dsimp only at hE ⊢
    have hM1 := hE.toM.M hM
    have ob2 := enc_m2 (o := o) (fun a q => by have := su_lt _ _ (by rw [ho, q]); omega)
    have ss := su_s ho
    obtain ⟨G2, d1, d2⟩ := mWentBy hM1 (h.E hE) hk hb ha
    unfold fX11_sure_S17
    rw [ml_24 hM1.1]
    simp only [ob]
    rw [aI_l (n := 0) hM1 mn_11, hM1.2.2.2.1.1.2.1]
    simp only [ob]
    rw [if_neg (nI_ge ha (by omega)), d1]
    simp only [obp]
    have hle := fa_cnt_le (pM T ta th k b a) (T.1 2 + 1)
    cases hc : can T ta th k b a with
    | false =>
      rw [hc] at ss
      have z : fa_cnt (pM T ta th k b a) (T.1 2 + 1) = 0 := by
        unfold can at hc
        have := of_decide_eq_false hc
        omega
      rw [z, if_pos (show nI 0 = 0 from rfl)]
      left
      simp only [obd]
      exact ⟨_, rfl, hE.tr d2, o, ss, by rw [nI_1]⟩
    | true =>
      rw [hc] at ss
      simp only [if_true] at ss
      have z : 0 < fa_cnt (pM T ta th k b a) (T.1 2 + 1) := by
        unfold can at hc
        exact of_decide_eq_true hc
      rw [if_neg (nI_ne0 z (by omega))]
      cases o with
      | none =>
        rw [if_pos (show enc none < 0 by show (-2 : Int32) < 0; decide)]
        left
        simp only [obd]
        exact ⟨_, rfl, hE.tr d2, some a, ss, by rw [nI_1]; rfl⟩
      | some x =>
        rw [if_neg (fun q => by have := ob2.2.mp q; cases this)]
        right
        refine ⟨_, rfl, hE.tr d2, ?_⟩
        unfold SQ
        rw [su_none ss _ ha]) (by
    rintro ⟨G1, p⟩ ⟨hE, o, ho, rfl⟩
    dsimp only at hE ⊢
    have hM1 := hE.toM.M hM
    unfold fX11_sure_S17
    rw [ml_24 hM1.1]
    simp only [ob]
    rw [aI_l (n := 0) hM1 mn_11, hM1.2.2.2.1.1.2.1]
    simp only [ob]
    rw [if_pos (nI_le (Nat.le_refl _) (by omega))]
    refine ⟨_, rfl, hE, ?_⟩
    show enc o = SQ _ _
    unfold SQ
    rw [ho])
  rw [b1]
  simp only [ob]
  cases o with
  | inl x =>
    simp only [Sum.elim_inl, obd]
    obtain ⟨c1, c2'⟩ := b2'
    rw [c2']
    exact ⟨_, rfl, c1⟩
  | inr x =>
    simp only [Sum.elim_inr, obd]
    obtain ⟨c1, c2'⟩ := b2'
    rw [← c2']
    exact ⟨_, rfl, c1⟩
theorem step29 {Gx Gm : Hp} (hI : Inv Gx Gm) (b a : Int32) : Step29 SHX SHM Inv Gx Gm b a := by
  have hI0 := hI
  obtain ⟨T, t, l, r, n, u, nx, hi, hb, sl, m, h⟩ := hI
  have hM := h.M
  have hx := h.1
  have ht := hx.1
  have hW := h.2.2.2.2.1
  have hT := h.2.2.2.2.2.1
  have hw := hW.1
  obtain ⟨ta, th, hO⟩ := RO.to h.2.2.2.2.2.2.2.2.2.2.2.2.2.1 hw.1
  unfold Step29 fX10_sure
  by_cases hk : rng b (T.1 3) ∧ rng a (m + 1)
  · obtain ⟨⟨b, hb, rfl⟩, ⟨k, hk, rfl⟩⟩ := hk
    obtain ⟨G4, y1, y2⟩ := mSure hM hO.m (show k ≤ m by omega) hb
    rw [y1, xIsKnown hx hT hW hO.1 hO.2.1 (by omega) hb]
    simp only [ob, if_neg one_ne]
    rw [xl_0_8 hx, xl_text hx]
    simp only [ob]
    unfold fX9_onlyBeing
    obtain ⟨G2, x1, x2, x3, x4⟩ := xKnow hx hw.1 hO (show k ≤ m by omega)
    have X2 := x2.X
    rw [x1]
    simp only [ob]
    obtain ⟨o, z1, z2⟩ := xSure (X2.L hx) (X2.T ht hT) hW hb (fun i hi => Nat.lt_of_lt_of_le (hO.2.2.2 i (by omega)).1 hw.1) x3 x4
    rw [z1]
    simp only [ob]
    cases o with
    | inl x =>
      simp only [Sum.elim_inl, obd, obp]
      rw [show x = SQ (can T ta th k b) (T.1 1) from z2]
      exact ⟨_, _, _, rfl, rfl, X2.I y2.toM h⟩
    | inr x =>
      simp only [Sum.elim_inr, obp]
      rw [← show (-2) = SQ (can T ta th k b) (T.1 1) from z2]
      exact ⟨_, _, _, rfl, rfl, X2.I y2.toM h⟩
  · obtain ⟨q1, q2⟩ := nKnown hx hT hM hO hk
    unfold fX11_sure
    rw [q1, q2]
    exact ⟨_, _, _, rfl, rfl, hI0⟩
