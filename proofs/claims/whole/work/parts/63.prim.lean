/-! READING: a token passed, a fault told, a fault noted. -/
theorem tk_lt {D : TKd} {p : Nat} (hD : TKo D) (hp : p ≤ D.2.2.2.2) (h4 : p ≤ 400) (h0 : D.1 p ≠ 0) : p < D.2.2.2.2 := by
  rcases Nat.lt_or_ge p D.2.2.2.2 with q | q
  · exact q
  · have e : p = D.2.2.2.2 := by omega
    have := hD.2.2.2.1 (by omega)
    rw [← e] at this
    exact absurd this h0
def ntp (bad : Bool) (f p : Nat) (N : Nat × Nat) : Nat × Nat := if bad = true ∧ N.1 = 0 then (f, p) else N
theorem ntp_n {f p : Nat} {N : Nat × Nat} : ntp false f p N = N := if_neg (fun q => by cases q.1)
/-- a noted fault stands ahead -/
def okN (p : Nat) (N : Nat × Nat) : Prop := N.1 ≤ 5 ∧ (N.1 ≠ 0 → N.2 < p)
theorem okN.s {p : Nat} {N : Nat × Nat} (h : okN p N) {q : Nat} (hq : p ≤ q) : okN q N := ⟨h.1, fun z => Nat.lt_of_lt_of_le (h.2 z) hq⟩
theorem okN.n {p f : Nat} {b : Bool} {N : Nat × Nat} (h : okN p N) (hf : f ≤ 5) : okN (p + 1) (ntp b f p N) := by
  unfold ntp
  split
  · exact ⟨hf, fun _ => Nat.lt_succ_self p⟩
  · exact h.s (Nat.le_succ p)
theorem ntp_0 {b : Bool} {f p : Nat} {N : Nat × Nat} (hf : f ≠ 0) (h : (ntp b f p N).1 = 0) : N.1 = 0 ∧ b = false := by
  unfold ntp at h
  split at h
  · exact absurd h hf
  · rename_i q
    refine ⟨h, ?_⟩
    cases b with
    | false => rfl
    | true => exact absurd ⟨rfl, h⟩ q
/-- the class reads token p -/
def XP (t : Nat) (D : TKd) (p : Nat) (N : Nat × Nat) (G : Hp) : Prop := LX t G ∧ TXs D G ∧ (p ≤ D.2.2.2.2 ∧ p ≤ 400 ∧ N.1 ≤ 5) ∧ G.1 1 6 = nI p ∧ G.1 1 5 = ck (D.1 p) ∧ G.1 1 3 = nI N.1 ∧ (N.1 ≠ 0 → G.1 1 4 = nI (D.2.1 N.2))
/-- the class has refused token i, which it still stands at -/
def XF (t : Nat) (D : TKd) (f i : Nat) (G : Hp) : Prop := LX t G ∧ G.1 1 2 = nI f ∧ i ≤ 400 ∧ G.1 1 6 = nI i ∧ G.1 4 i = nI (D.2.1 i)
/-- of the ints nothing but the reader's first fields has changed -/
def Er1 (m : Nat) (G G2 : Hp) : Prop := G2.2 = G.2 ∧ ∀ q k, ¬ (q = 1 ∧ k ≤ m) → G2.1 q k = G.1 q k
theorem Er1.rf {m : Nat} {G : Hp} : Er1 m G G := ⟨rfl, fun _ _ _ => rfl⟩
theorem Er1.tr {m : Nat} {G G2 G3 : Hp} (h : Er1 m G G2) (h2 : Er1 m G2 G3) : Er1 m G G3 := ⟨h2.1.trans h.1, fun q k a => (h2.2 q k a).trans (h.2 q k a)⟩
theorem Er1.up {m m2 : Nat} {G G2 : Hp} (h : Er1 m G G2) (hm : m ≤ m2) : Er1 m2 G G2 := ⟨h.1, fun q k a => h.2 q k (by omega)⟩
theorem Er1.s {m k : Nat} {G : Hp} {v : Int32} (h : k ≤ m) : Er1 m G (sI G 1 k v) := ⟨rfl, fun q2 k2 a => sI_ne (by omega)⟩
theorem TXs.E {D : TKd} {G G2 : Hp} (h : TXs D G) (e1 : ∀ q k, q = 3 ∨ q = 4 → G2.1 q k = G.1 q k) (e2 : G2.2.1 5 = G.2.1 5) : TXs D G2 := fun i h1 h2 => by
  obtain ⟨a, b, c, d⟩ := h i h1 h2
  refine ⟨(e1 3 i (Or.inl rfl)).trans a, (e1 4 i (Or.inr rfl)).trans b, fun z => ?_, fun z => ?_⟩
  · rw [e2]; exact c z
  · rw [e2]; exact d z
theorem XP.E {t p m : Nat} {D : TKd} {N : Nat × Nat} {G G2 : Hp} (h : XP t D p N G) (e : Er1 m G G2) (e3 : G2.1 1 3 = G.1 1 3) (e4 : G2.1 1 4 = G.1 1 4) (e5 : G2.1 1 5 = G.1 1 5) (e6 : G2.1 1 6 = G.1 1 6) : XP t D p N G2 := by
  obtain ⟨h1, h2, h3, h4, h5, h6, h7⟩ := h
  exact ⟨h1.same (by rw [e.1]), h2.E (fun q k hq => e.2 q k (by omega)) (by rw [e.1]), h3, e6.trans h4, e5.trans h5, e3.trans h6, fun z => e4.trans (h7 z)⟩
section PX
variable {t p : Nat} {D : TKd} {N : Nat × Nat} {G : Hp}
theorem xFault {f : Nat} (h : XP t D p N G) : Er1 6 G (sI G 1 2 (nI f)) ∧ XF t D f p (sI G 1 2 (nI f)) := by
  obtain ⟨h1, h2, h3, h4, h5, h6, h7⟩ := h
  exact ⟨Er1.s (by decide), h1, sI_same, h3.2.1, (sI_ne (Or.inr (by decide))).trans h4, (sI_ne (Or.inl (by decide))).trans (h2 p h3.1 h3.2.1).2.1⟩
theorem xRefuse {f : Nat} (h : XP t D p N G) : ∃ G2, fX6_refuse SHX G 1 (nI f) = some (0, G2) ∧ Er1 6 G G2 ∧ XF t D f p G2 := by
  unfold fX6_refuse
  simp only [obd]
  exact ⟨_, rfl, xFault h⟩
theorem xPass_y {k : Nat} {w : Int32} (hD : TKo D) (h : XP t D p N G) (hw : w = ck k) (hk : D.1 p = k) (hk0 : k ≠ 0) (hp : p < 400) : ∃ G2, fX6_pass SHX G 1 w = some (1, G2) ∧ Er1 6 G G2 ∧ XP t D (p + 1) N G2 := by
  obtain ⟨h1, h2, h3, h4, h5, h6, h7⟩ := h
  have hlt := tk_lt hD h3.1 h3.2.1 (by rw [hk]; exact hk0)
  unfold fX6_pass
  rw [h5, hw, hk, if_pos rfl, h4, if_pos (show nI p < 400 from nI_lt (b := 400) hp (by decide)), nI_1]
  simp only [obd]
  have hx : LX t (sI G 1 6 (nI (p + 1))) := h1
  rw [xl_1_0 hx]
  simp only [ob]
  rw [xl_2_1 hx, sI_same]
  simp only [ob]
  rw [aI_n (by rw [xnn_3]; omega) (by omega), sI_ne (Or.inl (by decide)), (h2 (p + 1) (by omega) (by omega)).1]
  simp only [ob]
  have e : Er1 6 G (sI (sI G 1 6 (nI (p + 1))) 1 5 (ck (D.1 (p + 1)))) := (Er1.s (by decide)).tr (Er1.s (by decide))
  refine ⟨_, rfl, e, h1, h2.E (fun q k hq => e.2 q k (by omega)) (by rw [e.1]), ⟨by omega, by omega, h3.2.2⟩, ?_, sI_same, ?_, fun z => ?_⟩
  · rw [sI_ne (Or.inr (by decide)), sI_same]
  · rw [sI_ne (Or.inr (by decide)), sI_ne (Or.inr (by decide))]; exact h6
  · rw [sI_ne (Or.inr (by decide)), sI_ne (Or.inr (by decide))]; exact h7 z
theorem xPass_n {k : Nat} {w : Int32} (hD : TKo D) (h : XP t D p N G) (hw : w = ck k) (hk : okK k = true) (hn : ¬ (D.1 p = k ∧ p < 400)) : ∃ G2, fX6_pass SHX G 1 w = some (0, G2) ∧ Er1 6 G G2 ∧ XF t D (if D.1 p = k then 2 else 1) p G2 := by
  have h0 := h
  obtain ⟨h1, h2, h3, h4, h5, h6, h7⟩ := h
  have J : ∃ G2, fX6_pass_J18 SHX G 1 w = some (0, G2) ∧ Er1 6 G G2 ∧ XF t D (if D.1 p = k then 2 else 1) p G2 := by
    unfold fX6_pass_J18
    rw [h5, hw]
    by_cases e : D.1 p = k
    · rw [if_pos (by rw [e]), if_pos e]
      exact ⟨_, rfl, xFault (f := 2) h0⟩
    · rw [if_neg (fun z => e ((ck_eq (hD.2.1 p) hk).mp z)), if_neg e]
      exact ⟨_, rfl, xFault (f := 1) h0⟩
  unfold fX6_pass
  by_cases e : D.1 p = k
  · rw [if_pos (by rw [h5, hw, e]), h4, if_neg (show ¬ nI p < 400 from nI_nlt (b := 400) (by omega) (by omega))]
    exact J
  · rw [if_neg (by rw [h5, hw]; exact fun z => e ((ck_eq (hD.2.1 p) hk).mp z))]
    exact J
theorem xNote {f : Nat} (hf : f ≤ 5) (h : XP t D p N G) : ∃ G2, fX6_note SHX G 1 (nI f) = some G2 ∧ Er1 6 G G2 ∧ XP t D p (ntp true f p N) G2 := by
  have h0 := h
  obtain ⟨h1, h2, h3, h4, h5, h6, h7⟩ := h
  unfold fX6_note ntp
  by_cases e : N.1 = 0
  · rw [h6, if_pos (by rw [e]; rfl), if_pos ⟨rfl, e⟩]
    simp only [obd]
    have hx : LX t (sI G 1 3 (nI f)) := h1
    rw [xl_1_0 hx]
    simp only [ob]
    rw [xl_2_2 hx, sI_ne (Or.inr (by decide)), h4]
    simp only [ob]
    rw [aI_n (by rw [xnn_4]; omega) (by omega), sI_ne (Or.inl (by decide)), (h2 p h3.1 h3.2.1).2.1]
    simp only [ob]
    have e1 : Er1 6 G (sI (sI G 1 3 (nI f)) 1 4 (nI (D.2.1 p))) := (Er1.s (by decide)).tr (Er1.s (by decide))
    refine ⟨_, rfl, e1, h1, h2.E (fun q k hq => e1.2 q k (by omega)) (by rw [e1.1]), ⟨h3.1, h3.2.1, hf⟩, ?_, ?_, ?_, fun _ => sI_same⟩
    · rw [sI_ne (Or.inr (by decide)), sI_ne (Or.inr (by decide))]; exact h4
    · rw [sI_ne (Or.inr (by decide)), sI_ne (Or.inr (by decide))]; exact h5
    · rw [sI_ne (Or.inr (by decide)), sI_same]
  · rw [h6, if_neg (show ¬ nI N.1 = 0 from fun z => e ((nI_eq (b := 0) (by omega) (by decide)).mp z)), if_neg (fun z => e z.2)]
    exact ⟨G, rfl, Er1.rf, h0⟩
/-- a number: noted if it is not as told -/
def badV (D : TKd) (a b p : Nat) : Bool := !(decide (a ≤ D.2.2.1 p) && decide (D.2.2.1 p ≤ b))
theorem xVal (h : XP t D p N G) : fX6_valueHere SHX G 1 = some (G.2.1 5 p) := by
  unfold fX6_valueHere
  rw [xl_1_0 h.1]
  simp only [ob]
  rw [xl_2_3 h.1, h.2.2.2.1]
  simp only [ob]
  rw [aJ_n (by rw [xnn_5]; have := h.2.2.1; omega) (by have := h.2.2.1; omega)]
  rfl
theorem toI_lN {v : Nat} (h : v < 2 ^ 31) : Int64.toInt32 (lN v) = nI v := by
  rw [← toL_nI h, Int32.toInt32_toInt64]
theorem q01 {o : Option (Int32 × Hp)} {r : Int32} {G : Hp} (h : o = some (r, G)) (hr : r = 0 ∨ r = 1) : (bp o fun r G => if ¬ (r = 0 ∨ r = 1) then none else some (r, G)) = some (r, G) := by
  subst h
  exact if_neg (fun z => z hr)
theorem xNumb_y {a b : Nat} {la lb : Int32} (hD : TKo D) (h : XP t D p N G) (hla : la = nI a) (hlb : lb = nI b) (hab : a < 20000 ∧ b < 20000) (hk : D.1 p = 2) (hp : p < 400) : ∃ G2, fX6_readNumber SHX G 1 la lb = some (1, G2) ∧ Er1 7 G G2 ∧ XP t D (p + 1) (ntp (badV D a b p) 5 p N) G2 ∧ G2.1 1 7 = nI (D.2.2.1 p) := by
  have hv := hD.2.2.2.2.2.2.1 p hk
  unfold fX6_readNumber
  rw [xVal h]
  simp only [ob, obd]
  have e5 : G.2.1 5 p = lN (D.2.2.1 p) := (h.2.1 p h.2.2.1.1 h.2.2.1.2.1).2.2.1 hk
  rw [e5, toI_lN (by omega)]
  have e1 : Er1 7 G (sI G 1 7 (nI (D.2.2.1 p))) := Er1.s (by decide)
  have h1 : XP t D p N (sI G 1 7 (nI (D.2.2.1 p))) := h.E e1 (sI_ne (Or.inr (by decide))) (sI_ne (Or.inr (by decide))) (sI_ne (Or.inr (by decide))) (sI_ne (Or.inr (by decide)))
  have v7 : (sI G 1 7 (nI (D.2.2.1 p))).1 1 7 = nI (D.2.2.1 p) := sI_same
  generalize sI G 1 7 (nI (D.2.2.1 p)) = G2 at e1 h1 v7
  rw [v7, h1.2.2.2.2.1, hk, if_pos (show ck 2 = 2 from rfl), hla, hlb]
  have fin : ∀ (N2 : Nat × Nat) (G3 : Hp), Er1 6 G2 G3 → XP t D p N2 G3 → ∃ G4, (bp (fX6_pass SHX G3 1 2) fun r10 G11 => if ¬ (r10 = 0 ∨ r10 = 1) then none else some (r10, G11)) = some (1, G4) ∧ Er1 7 G G4 ∧ XP t D (p + 1) N2 G4 ∧ G4.1 1 7 = nI (D.2.2.1 p) := by
    intro N2 G3 e3 h3
    obtain ⟨G4, a1, a2, a3⟩ := xPass_y (k := 2) (w := 2) hD h3 rfl hk (by decide) hp
    rw [q01 a1 (Or.inr rfl)]
    exact ⟨G4, rfl, e1.tr ((e3.tr a2).up (by decide)), a3, by rw [a2.2 1 7 (by omega), e3.2 1 7 (by omega), v7]⟩
  unfold badV
  by_cases c1 : D.2.2.1 p < a
  · rw [if_pos (nI_lt c1 (by omega)), decide_eq_false (show ¬ a ≤ D.2.2.1 p by omega)]
    obtain ⟨G9, n1, n2, n3⟩ := xNote (f := 5) (by decide) h1
    rw [show (5 : Int32) = nI 5 from rfl, n1]
    simp only [ob]
    exact fin _ G9 n2 n3
  · rw [if_neg (nI_nlt (by omega) (by omega)), decide_eq_true (show a ≤ D.2.2.1 p by omega)]
    by_cases c2 : D.2.2.1 p ≤ b
    · rw [if_pos (nI_le c2 (by omega)), decide_eq_true c2]
      show ∃ G4, _ ∧ _ ∧ XP t D (p + 1) (ntp false 5 p N) G4 ∧ _
      rw [ntp_n]
      exact fin N G2 Er1.rf h1
    · rw [if_neg (nI_ge (by omega) (by omega)), decide_eq_false c2]
      obtain ⟨G9, n1, n2, n3⟩ := xNote (f := 5) (by decide) h1
      rw [show (5 : Int32) = nI 5 from rfl, n1]
      simp only [ob]
      exact fin _ G9 n2 n3
theorem xNumb_n {la lb : Int32} (hD : TKo D) (h : XP t D p N G) (hn : ¬ (D.1 p = 2 ∧ p < 400)) : ∃ G2, fX6_readNumber SHX G 1 la lb = some (0, G2) ∧ Er1 7 G G2 ∧ XF t D (if D.1 p = 2 then 2 else 1) p G2 := by
  unfold fX6_readNumber
  rw [xVal h]
  simp only [ob, obd]
  have e1 : Er1 7 G (sI G 1 7 (Int64.toInt32 (G.2.1 5 p))) := Er1.s (by decide)
  have h1 : XP t D p N (sI G 1 7 (Int64.toInt32 (G.2.1 5 p))) := h.E e1 (sI_ne (Or.inr (by decide))) (sI_ne (Or.inr (by decide))) (sI_ne (Or.inr (by decide))) (sI_ne (Or.inr (by decide)))
  generalize sI G 1 7 (Int64.toInt32 (G.2.1 5 p)) = G2 at e1 h1
  have fin : ∀ (N2 : Nat × Nat) (G3 : Hp), Er1 6 G2 G3 → XP t D p N2 G3 → ∃ G4, (bp (fX6_pass SHX G3 1 2) fun r10 G11 => if ¬ (r10 = 0 ∨ r10 = 1) then none else some (r10, G11)) = some (0, G4) ∧ Er1 7 G G4 ∧ XF t D (if D.1 p = 2 then 2 else 1) p G4 := by
    intro N2 G3 e3 h3
    obtain ⟨G4, a1, a2, a3⟩ := xPass_n (k := 2) (w := 2) hD h3 rfl (by decide) hn
    rw [q01 a1 (Or.inl rfl)]
    exact ⟨G4, rfl, e1.tr ((e3.tr a2).up (by decide)), a3⟩
  obtain ⟨G9, n1, n2, n3⟩ := xNote (f := 5) (by decide) h1
  rw [show (5 : Int32) = nI 5 from rfl, n1]
  simp only [ob]
  split
  · split
    · exact fin _ G9 n2 n3
    · split
      · exact fin N G2 Er1.rf h1
      · exact fin _ G9 n2 n3
  · exact fin N G2 Er1.rf h1
end PX
