/-! LAWS, read: ifs. -/
abbrev P3 : Type := List Int32 × List Int32 × List Int32
def lt3 : List P3 → List (List Int32)
  | [] => []
  | x :: r => x.1 :: x.2.1 :: x.2.2 :: lt3 r
theorem lt3_snoc : ∀ (A : List P3) (a b c : List Int32), lt3 (A ++ [(a, b, c)]) = lt3 A ++ [a] ++ [b] ++ [c]
  | [], _, _, _ => rfl
  | x :: A, a, b, c => by
    show x.1 :: x.2.1 :: x.2.2 :: lt3 (A ++ [(a, b, c)]) = _
    rw [lt3_snoc A a b c]; rfl
theorem lt3_len : ∀ (A : List P3), (lt3 A).length = 3 * A.length
  | [] => rfl
  | x :: A => by
    show (lt3 A).length + 1 + 1 + 1 = 3 * (A.length + 1)
    rw [lt3_len A]; omega
def MBq : List P3 → Nat → Nat → Hp → Prop
  | [], _, _, _ => True
  | y :: r, f, x, G => (f < 260 ∧ G.1 28 f = 1 ∧ G.1 29 f = nI x ∧ G.1 30 f = nI (x + y.1.length) ∧ G.1 31 f = nI (x + y.1.length + y.2.1.length) ∧ G.1 32 f = nI (x + y.1.length + y.2.1.length + y.2.2.length) ∧ MP y.1 x G ∧ MP y.2.1 (x + y.1.length) G ∧ MP y.2.2 (x + y.1.length + y.2.1.length) G) ∧ MBq r (f + 1) (x + y.1.length + y.2.1.length + y.2.2.length) G
theorem MBq_fr {G G2 : Hp} : ∀ (A : List P3) (f x : Nat), MBq A f x G → (∀ q j, 28 ≤ q → q ≤ 32 → j < f + A.length → G2.1 q j = G.1 q j) → (∀ q j, q = 33 ∨ q = 34 → j < x + (lt3 A).flatten.length → G2.1 q j = G.1 q j) → MBq A f x G2
  | [], _, _, _, _, _ => trivial
  | y :: r, f, x, h, e1, e2 => by
    obtain ⟨⟨h0, h1, h2, h3, h4, h5, h6, h7, h8⟩, h9⟩ := h
    have hfl : (lt3 (y :: r)).flatten.length = y.1.length + (y.2.1.length + (y.2.2.length + (lt3 r).flatten.length)) := by
      show (y.1 :: y.2.1 :: y.2.2 :: lt3 r).flatten.length = _
      rw [List.flatten_cons, List.flatten_cons, List.flatten_cons, List.length_append, List.length_append, List.length_append]
    rw [hfl] at e2
    rw [List.length_cons] at e1
    have mp : ∀ (p : List Int32) (c : Nat), MP p c G → c + p.length ≤ x + (y.1.length + (y.2.1.length + (y.2.2.length + (lt3 r).flatten.length))) → MP p c G2 := fun p c hp hc i hi => by
      rw [e2 33 _ (Or.inl rfl) (by omega), e2 34 _ (Or.inr rfl) (by omega)]; exact hp i hi
    refine ⟨⟨h0, ?_, ?_, ?_, ?_, ?_, mp _ _ h6 (by omega), mp _ _ h7 (by omega), mp _ _ h8 (by omega)⟩, MBq_fr r _ _ h9 (fun q j a b c => e1 q j a b (by omega)) (fun q j a b => e2 q j a (by omega))⟩
    · rw [e1 28 f (by omega) (by omega) (by omega)]; exact h1
    · rw [e1 29 f (by omega) (by omega) (by omega)]; exact h2
    · rw [e1 30 f (by omega) (by omega) (by omega)]; exact h3
    · rw [e1 31 f (by omega) (by omega) (by omega)]; exact h4
    · rw [e1 32 f (by omega) (by omega) (by omega)]; exact h5
theorem MBq_snoc {G : Hp} {y : P3} : ∀ (A : List P3) (f x : Nat), MBq A f x G → MBq [y] (f + A.length) (x + (lt3 A).flatten.length) G → MBq (A ++ [y]) f x G
  | [], f, x, _, h => h
  | z :: r, f, x, h, h2 => by
    refine ⟨h.1, MBq_snoc r _ _ h.2 ?_⟩
    have hfl : (lt3 (z :: r)).flatten.length = z.1.length + (z.2.1.length + (z.2.2.length + (lt3 r).flatten.length)) := by
      show (z.1 :: z.2.1 :: z.2.2 :: lt3 r).flatten.length = _
      rw [List.flatten_cons, List.flatten_cons, List.flatten_cons, List.length_append, List.length_append, List.length_append]
    rw [hfl, List.length_cons] at h2
    rw [show f + 1 + r.length = f + (r.length + 1) by omega, show x + z.1.length + z.2.1.length + z.2.2.length + (lt3 r).flatten.length = x + (z.1.length + (z.2.1.length + (z.2.2.length + (lt3 r).flatten.length))) by omega]
    exact h2
theorem MB_of {G : Hp} {U : List Int32} {e : Nat} (he : e ≤ 260) : ∀ (A : List P3) (f x : Nat), MBq A f x G → e = f + A.length + 1 → G.1 28 (f + A.length) = 0 → G.1 31 (f + A.length) = nI (x + (lt3 A).flatten.length) → G.1 32 (f + A.length) = nI (x + (lt3 A).flatten.length + U.length) → MP U (x + (lt3 A).flatten.length) G → MB (lt3 A ++ [U]) f e x G
  | [], f, x, _, h1, h2, h3, h4, h5 => ⟨h1.symm, he, h2, h3, h4, h5⟩
  | y :: r, f, x, h, h1, h2, h3, h4, h5 => by
    have hfl : (lt3 (y :: r)).flatten.length = y.1.length + (y.2.1.length + (y.2.2.length + (lt3 r).flatten.length)) := by
      show (y.1 :: y.2.1 :: y.2.2 :: lt3 r).flatten.length = _
      rw [List.flatten_cons, List.flatten_cons, List.flatten_cons, List.length_append, List.length_append, List.length_append]
    rw [List.length_cons] at h1 h2 h3 h4
    rw [hfl] at h3 h4 h5
    have ex : x + y.1.length + y.2.1.length + y.2.2.length + (lt3 r).flatten.length = x + (y.1.length + (y.2.1.length + (y.2.2.length + (lt3 r).flatten.length))) := by omega
    have ef : f + 1 + r.length = f + (r.length + 1) := by omega
    have IH := MB_of he r (f + 1) (x + y.1.length + y.2.1.length + y.2.2.length) h.2 (by omega) (by rw [ef]; exact h2) (by rw [ef, ex]; exact h3) (by rw [ef, ex]; exact h4) (by rw [ex]; exact h5)
    obtain ⟨⟨h0, k1, k2, k3, k4, k5, k6, k7, k8⟩, -⟩ := h
    show MB (y.1 :: y.2.1 :: y.2.2 :: (lt3 r ++ [U])) f e x G
    cases hr : lt3 r ++ [U] with
    | nil => simp at hr
    | cons d r2 =>
      rw [hr] at IH
      exact ⟨by omega, he, k1, k2, k3, k4, k5, k6, k7, k8, IH⟩
section LK
variable {t l w : Nat} {D : TKd} {N : Nat × Nat}
/-- how far a law is read -/
def LWx (t w : Nat) (D : TKd) (p : Nat) (N : Nat × Nat) (L : List (List Int32)) (G : Hp) : Prop := XP t D p N G ∧ XLw w L.flatten G ∧ XL w L G
def LWm (l : Nat) (D : TKd) (p : Nat) (N : Nat × Nat) (f x : Nat) (A : List P3) (G : Hp) : Prop := MPs l D p N G ∧ G.1 0 12 = 0 ∧ G.1 0 42 = nI (f + A.length) ∧ G.1 0 48 = nI (x + (lt3 A).flatten.length) ∧ MBq A f x G ∧ (x + (lt3 A).flatten.length ≤ 420 * (1 - l) + p ∧ 4 * (f + A.length) + 2 ≤ 520 * (1 - l) + p ∧ (lt3 A).flatten.length + 2 ≤ p ∧ 420 * (1 - l) ≤ x ∧ 130 * (1 - l) ≤ f) ∧ ∀ U ∈ lt3 A, okP U 0
/-- the rest of an if behind a fault, from 'then' on -/
theorem tail2 {f i b : Nat} {v : Int32} {G : Hp} (h : MF l D f i G) (h42 : G.1 0 42 = nI b) (hb : b < 260) : ∃ G2, ((fX11_term SHM G 0).bind fun G19 => (fX11_must SHM G19 0 36).bind fun G21 => (some (.inl (G21, v)) : Option ((Hp × Int32) ⊕ (Hp ⊕ Hp)))) = some (.inl (G2, v)) ∧ MF l D f i G2 ∧ G2.1 0 42 = nI (b + 1) ∧ ∀ c, EEL b c G G2 := by
  obtain ⟨G4, a1, a2, a3, a4⟩ := mTerm_f h h42 hb
  rw [a1]
  simp only [ob]
  rw [mMust_f a2]
  exact ⟨G4, rfl, a2, a3, a4⟩
theorem tail1 {f i b : Nat} {v : Int32} {G : Hp} (h : MF l D f i G) (h42 : G.1 0 42 = nI b) (hb : b < 260) : ∃ G2, ((ldA SHM G 0 45 1).bind fun a13 => (asI SHM G a13 (G.1 0 42) (G.1 0 48)).bind fun G14 => if (G14.1 0 13) = 0 then (fX11_expression SHM G14 0).bind fun G23 => (fX11_must SHM G23 0 35).bind fun G25 => (fX11_term SHM G25 0).bind fun G27 => (fX11_must SHM G27 0 36).bind fun G29 => (some (.inl (G29, v)) : Option ((Hp × Int32) ⊕ (Hp ⊕ Hp))) else (fX11_must SHM G14 0 35).bind fun G17 => (fX11_term SHM G17 0).bind fun G19 => (fX11_must SHM G19 0 36).bind fun G21 => some (.inl (G21, v))) = some (.inl (G2, v)) ∧ MF l D f i G2 ∧ G2.1 0 42 = nI (b + 1) ∧ ∀ c, EEL b c G G2 := by
  rw [ml_45 h.1, h42]
  simp only [ob]
  rw [asI_n (by rw [mn_30]; exact hb) (by omega)]
  simp only [ob]
  have m2 : MF l D f i (sI G 30 b (G.1 0 48)) := h.E rfl (fun k hk => sI_ne (by omega))
  have v2 : (sI G 30 b (G.1 0 48)).1 0 42 = nI b := (sI_ne (by omega)).trans h42
  have e2 : ∀ c, EEL b c G (sI G 30 b (G.1 0 48)) := fun c => EEL.s (by omega)
  generalize sI G 30 b (G.1 0 48) = G2 at m2 v2 e2
  rw [if_neg m2.pos.2.1, mMust_f m2]
  simp only [ob]
  obtain ⟨G4, a1, a2, a3, a4⟩ := tail2 (v := v) m2 v2 hb
  rw [a1]
  exact ⟨G4, rfl, a2, a3, fun c => (e2 c).tr (a4 c)⟩
/-- one if, side by side -/
theorem jIf {p f x : Nat} {A : List P3} {k x3 : Int32} {Gx Gm : Hp} (hD : TKo D) (hl : l ≤ 1) (hA : A.length < 4) (hX : LWx t w D p N (lt3 A) Gx) (hM : LWm l D p N f x A Gm) (hk : D.1 p = 34) :
    (∃ Gx2 fa i Gm2 b, fX6_readLaw_S36 SHX 1 Gx (nI A.length) = some (.inr (.inr (.inr Gx2))) ∧ XF t D fa i Gx2 ∧ ELL w Gx Gx2 ∧ fX11_tellLaw_S12 SHM 0 k x3 Gm (nI A.length) = some (.inl (Gm2, nI (A.length + 1))) ∧ MF l D fa i Gm2 ∧ Gm2.1 0 42 = nI b ∧ (b < 258 ∧ b < 130 * (f / 130 + 1)) ∧ f ≤ b ∧ EEL f x Gm Gm2) ∨ ∃ Gx2 Gm2 p2 y, fX6_readLaw_S36 SHX 1 Gx (nI A.length) = some (.inl (Gx2, nI (A.length + 1))) ∧ fX11_tellLaw_S12 SHM 0 k x3 Gm (nI A.length) = some (.inl (Gm2, nI (A.length + 1))) ∧ p < p2 ∧ LWx t w D p2 N (lt3 (A ++ [y])) Gx2 ∧ ELL w Gx Gx2 ∧ LWm l D p2 N f x (A ++ [y]) Gm2 ∧ EEL f x Gm Gm2 := by
  obtain ⟨hX1, hX2, hX3⟩ := hX
  obtain ⟨hM1, hM2, hM3, hM4, hM5, ⟨hb1, hb2, hb3, hb4, hb5⟩, hM6⟩ := hM
  have h3 := hX1.2.2.1
  have hlen := lt3_len A
  have hbr : f + A.length < 231 := by omega
  have eS : fX11_tellLaw_S12 SHM 0 k x3 Gm (nI A.length) = fX11_tellLaw_J38L12 SHM Gm 0 k x3 (nI A.length) := by
    unfold fX11_tellLaw_S12
    rw [hM1.2.2.2.2.1, if_pos rfl, mIs (k := 34) (w := 34) hD hM1 rfl (by decide), decide_eq_true hk]
    simp only [ob]
    rw [if_neg (show ¬ b2 true = 0 by decide), if_neg (show ¬ nI A.length = 4 from fun z => by have := (nI_eq (b := 4) (by omega) (by decide)).mp z; omega)]
  rw [eS]
  have eX : fX6_readLaw_S36 SHX 1 Gx (nI A.length) = bp (fX6_pass SHX Gx 1 270) fun r4 G5 => if r4 = 0 then some (.inr (.inr (.inr G5))) else bp (fX6_readSum_d SHX 8 G5 1 0 60) fun r7 G8 => if r7 = 0 then some (.inr (.inr (.inr G8))) else bp (fX6_readSum_d SHX 8 G8 1 0 271) fun r10 G11 => if r10 = 0 then some (.inr (.inr (.inr G11))) else bp (fX6_readSum_d SHX 8 G11 1 0 272) fun r13 G14 => if r13 = 0 then some (.inr (.inr (.inr G14))) else some (.inl (G14, nI (A.length + 1))) := by
    unfold fX6_readLaw_S36
    rw [if_neg (show ¬ (4 : Int32) < nI A.length from nI_nlt (a := 4) (by omega) (by decide)), hX1.2.2.2.2.1, if_pos (show ck (D.1 p) = 270 by rw [hk]; rfl), if_neg (show ¬ nI A.length = 4 from fun z => by have := (nI_eq (b := 4) (by omega) (by decide)).mp z; omega), nI_1]
    rfl
  rw [eX]
  unfold fX11_tellLaw_J38L12
  rw [hM1.2.2.2.2.1, if_pos (show (0 : Int32) ≤ 0 by decide), nI_1]
  simp only [obd]
  by_cases hp : p < 400
  · -- 'if' is passed
    obtain ⟨X5, x1, x2, x3'⟩ := xPass_y (k := 34) (w := 270) hD hX1 rfl hk (by decide) hp
    obtain ⟨M4, m1, m2, m3, m4⟩ := mGoes_y hD hM1 (by rw [hk]; decide) hp
    rw [x1, m1]
    simp only [obp, ob]
    rw [if_neg one_ne, ml_43 m3.1, m2.2 0 42 (by omega), hM3]
    simp only [ob]
    rw [asI_n (by rw [mn_28]; omega) (by omega), zb_1]
    simp only [ob]
    have hL6 : LM (sI M4 28 (f + A.length) 1) := m3.1
    rw [ml_44 hL6, sI_ne (by omega), sI_ne (by omega), m2.2 0 42 (by omega), m2.2 0 48 (by omega), hM3, hM4]
    simp only [ob]
    rw [asI_n (by rw [mn_29]; omega) (by omega)]
    simp only [ob]
    have m8 : MPs l D (p + 1) N (sI (sI M4 28 (f + A.length) 1) 29 (f + A.length) (nI (x + (lt3 A).flatten.length))) := m3.E rfl rfl (fun q j hq => by rw [sI_ne (by omega), sI_ne (by omega)]) (fun j hj => by rw [sI_ne (by omega), sI_ne (by omega)])
    have e8 : EEL f x Gm (sI (sI M4 28 (f + A.length) 1) 29 (f + A.length) (nI (x + (lt3 A).flatten.length))) := by
      have e4 : EEL f x Gm M4 := by rw [m4]; exact EEL.s (by omega)
      exact e4.tr ((EEL.s (by omega)).tr (EEL.s (by omega)))
    have a28 : (sI (sI M4 28 (f + A.length) 1) 29 (f + A.length) (nI (x + (lt3 A).flatten.length))).1 28 (f + A.length) = 1 := by rw [sI_ne (by omega), sI_same]
    have a29 : (sI (sI M4 28 (f + A.length) 1) 29 (f + A.length) (nI (x + (lt3 A).flatten.length))).1 29 (f + A.length) = nI (x + (lt3 A).flatten.length) := sI_same
    have a12 : (sI (sI M4 28 (f + A.length) 1) 29 (f + A.length) (nI (x + (lt3 A).flatten.length))).1 0 12 = 0 := by rw [sI_ne (by omega), sI_ne (by omega), m2.2 0 12 (by omega)]; exact hM2
    have a42 : (sI (sI M4 28 (f + A.length) 1) 29 (f + A.length) (nI (x + (lt3 A).flatten.length))).1 0 42 = nI (f + A.length) := by rw [sI_ne (by omega), sI_ne (by omega), m2.2 0 42 (by omega)]; exact hM3
    have a48 : (sI (sI M4 28 (f + A.length) 1) 29 (f + A.length) (nI (x + (lt3 A).flatten.length))).1 0 48 = nI (x + (lt3 A).flatten.length) := by rw [sI_ne (by omega), sI_ne (by omega), m2.2 0 48 (by omega)]; exact hM4
    have aB : MBq A f x (sI (sI M4 28 (f + A.length) 1) 29 (f + A.length) (nI (x + (lt3 A).flatten.length))) := MBq_fr A f x hM5 (fun q j q1 q2 hj => by rw [sI_ne (by omega), sI_ne (by omega), m2.2 q j (by omega)]) (fun q j hq hj => by rw [sI_ne (by omega), sI_ne (by omega), m2.2 q j (by omega)])
    generalize sI (sI M4 28 (f + A.length) 1) 29 (f + A.length) (nI (x + (lt3 A).flatten.length)) = M8 at m8 e8 a28 a29 a12 a42 a48 aB
    -- the first expression
    obtain ⟨r1, q1, q2, q3⟩ := jE0 (b := 13) (L := lt3 A) hD hl (by decide) (by decide) x3' (hX2.E1 x2) (XL.E1 hX2.1 hX3 x2) (by omega) m8 a12 a48 (by omega) (by omega)
    rw [show ck 13 = (60 : Int32) from rfl] at q3
    rw [q1]
    simp only [ob]
    have e10 : EEL f x Gm r1 := e8.tr (q2.eel.dn (Nat.le_refl f) (by omega) rfl (by omega))
    have r42 : r1.1 0 42 = nI (f + A.length) := (q2.2 0 42 (by omega) (by decide) (by omega)).trans a42
    rcases q3 with ⟨Gx2, fa, i, y1, y2, y3, y4⟩ | ⟨p2, U1, z1, z2, z3, z4, z5, z6, z7, z8, z9⟩
    · left
      rw [y1, mMust_f y4]
      simp only [obp, ob]
      rw [if_pos trivial]
      obtain ⟨G2, t1, t2, t3, t4⟩ := tail1 (v := nI (A.length + 1)) y4 r42 (by omega)
      rw [t1]
      exact ⟨Gx2, fa, i, G2, _, rfl, y2, x2.ell.tr y3, rfl, t2, t3, by omega, by omega, e10.tr ((t4 x).dn (by omega) (Nat.le_refl x) (by omega) rfl)⟩
    · rcases z9 with ⟨w1, w2, X8, w3, w4, w5, w6, w7⟩ | ⟨w1, X8, w3, w4, w5⟩
      · -- '<' is passed
        obtain ⟨M12, n1, n2, n3⟩ := mMustE_y (k := 13) (v := 13) hD z2 rfl w1 (by decide) w2
        rw [w3, n1]
        simp only [obp, ob]
        rw [if_neg one_ne, ml_45 n3.1, n2.2 0 42 (by omega), r42, n2.2 0 48 (by omega), z4]
        simp only [ob]
        rw [asI_n (by rw [mn_30]; omega) (by omega)]
        simp only [ob]
        have m14 : MPs l D (p2 + 1) N (sI M12 30 (f + A.length) (nI (x + (lt3 A).flatten.length + U1.length))) := n3.E rfl rfl (fun q j hq => sI_ne (by omega)) (fun j hj => sI_ne (by omega))
        have e14 : EEL f x Gm (sI M12 30 (f + A.length) (nI (x + (lt3 A).flatten.length + U1.length))) := e10.tr (EEL.tr (G2 := M12) ⟨n2.1, fun q j u1 u2 u3 u4 => n2.2 q j (by omega)⟩ (EEL.s (by omega)))
        have b30 : (sI M12 30 (f + A.length) (nI (x + (lt3 A).flatten.length + U1.length))).1 30 (f + A.length) = nI (x + (lt3 A).flatten.length + U1.length) := sI_same
        have bfr : ∀ q j, ¬ (q = 30 ∧ j = f + A.length) → ¬ (q = 0 ∧ j = 11) → (sI M12 30 (f + A.length) (nI (x + (lt3 A).flatten.length + U1.length))).1 q j = r1.1 q j := fun q j u1 u2 => by rw [sI_ne (by omega)]; exact n2.2 q j u2
        generalize sI M12 30 (f + A.length) (nI (x + (lt3 A).flatten.length + U1.length)) = M14 at m14 e14 b30 bfr
        rw [m14.2.2.2.2.1, if_pos rfl]
        -- the second expression
        obtain ⟨r2, q1', q2', q3'⟩ := jE0 (b := 35) (L := lt3 A ++ [U1]) (c0 := x + (lt3 A).flatten.length + U1.length) hD hl (by decide) (by decide) w4 w6 w5 (by rw [List.length_append]; show (lt3 A).length + 1 ≤ 12; omega) m14 ((bfr 0 12 (by omega) (by omega)).trans z3) ((bfr 0 48 (by omega) (by omega)).trans z4) (by omega) (by omega)
        rw [show ck 35 = (271 : Int32) from rfl] at q3'
        rw [q1']
        simp only [ob]
        have e23 : EEL f x Gm r2 := e14.tr (q2'.eel.dn (Nat.le_refl f) (by omega) rfl (by omega))
        have r42' : r2.1 0 42 = nI (f + A.length) := (q2'.2 0 42 (by omega) (by decide) (by omega)).trans ((bfr 0 42 (by omega) (by omega)).trans r42)
        rcases q3' with ⟨Gx2, fa, i, y1, y2, y3, y4⟩ | ⟨p3, U2, z1', z2', z3', z4', z5', z6', z7', z8', z9'⟩
        · left
          rw [y1, mMust_f y4]
          simp only [obp, ob]
          rw [if_pos trivial]
          obtain ⟨G2, t1, t2, t3, t4⟩ := tail2 (v := nI (A.length + 1)) y4 r42' (by omega)
          rw [t1]
          exact ⟨Gx2, fa, i, G2, _, rfl, y2, x2.ell.tr (w7.tr y3), rfl, t2, t3, by omega, by omega, e23.tr ((t4 x).dn (by omega) (Nat.le_refl x) (by omega) rfl)⟩
        · rcases z9' with ⟨w1', w2', X11, w3', w4', w5', w6', w7'⟩ | ⟨w1', X11, w3', w4', w5'⟩
          · -- 'then' is passed
            obtain ⟨M25, n1', n2', n3'⟩ := mMustE_y (k := 35) (v := 35) hD z2' rfl w1' (by decide) w2'
            rw [w3', n1']
            simp only [obp, ob]
            rw [if_neg one_ne]
            have eT : fX11_term SHM M25 0 = (fX11_expression SHM (sI M25 31 (f + A.length) (nI (x + (lt3 A).flatten.length + U1.length + U2.length))) 0).bind fun G5 => fX11_term_J24 SHM G5 0 := by
              unfold fX11_term
              rw [ml_46 n3'.1, n2'.2 0 42 (by omega), r42', n2'.2 0 48 (by omega), z4']
              simp only [ob]
              rw [asI_n (by rw [mn_31]; omega) (by omega)]
              simp only [ob]
              rw [sI_ne (by omega), n3'.2.2.2.2.1, if_pos rfl]
            rw [eT]
            have m27 : MPs l D (p3 + 1) N (sI M25 31 (f + A.length) (nI (x + (lt3 A).flatten.length + U1.length + U2.length))) := n3'.E rfl rfl (fun q j hq => sI_ne (by omega)) (fun j hj => sI_ne (by omega))
            have e27 : EEL f x Gm (sI M25 31 (f + A.length) (nI (x + (lt3 A).flatten.length + U1.length + U2.length))) := e23.tr (EEL.tr (G2 := M25) ⟨n2'.1, fun q j u1 u2 u3 u4 => n2'.2 q j (by omega)⟩ (EEL.s (by omega)))
            have b31 : (sI M25 31 (f + A.length) (nI (x + (lt3 A).flatten.length + U1.length + U2.length))).1 31 (f + A.length) = nI (x + (lt3 A).flatten.length + U1.length + U2.length) := sI_same
            have bfr' : ∀ q j, ¬ (q = 31 ∧ j = f + A.length) → ¬ (q = 0 ∧ j = 11) → (sI M25 31 (f + A.length) (nI (x + (lt3 A).flatten.length + U1.length + U2.length))).1 q j = r2.1 q j := fun q j u1 u2 => by rw [sI_ne (by omega)]; exact n2'.2 q j u2
            generalize sI M25 31 (f + A.length) (nI (x + (lt3 A).flatten.length + U1.length + U2.length)) = M27 at m27 e27 b31 bfr'
            -- the third expression
            obtain ⟨r3, q1'', q2'', q3''⟩ := jE0 (b := 36) (L := lt3 A ++ [U1] ++ [U2]) (c0 := x + (lt3 A).flatten.length + U1.length + U2.length) hD hl (by decide) (by decide) w4' w6' w5' (by rw [List.length_append, List.length_append]; show (lt3 A).length + 1 + 1 ≤ 12; omega) m27 ((bfr' 0 12 (by omega) (by omega)).trans z3') ((bfr' 0 48 (by omega) (by omega)).trans z4') (by omega) (by omega)
            rw [show ck 36 = (272 : Int32) from rfl] at q3''
            rw [q1'']
            simp only [ob]
            have e29 : EEL f x Gm r3 := e27.tr (q2''.eel.dn (Nat.le_refl f) (by omega) rfl (by omega))
            have r42'' : r3.1 0 42 = nI (f + A.length) := (q2''.2 0 42 (by omega) (by decide) (by omega)).trans ((bfr' 0 42 (by omega) (by omega)).trans r42')
            have hLr : LM r3 := m27.1.same (by rw [q2''.1])
            have eJ : ∀ v, r3.1 0 48 = v → fX11_term_J24 SHM r3 0 = some (sI (sI r3 32 (f + A.length) v) 0 42 (nI (f + A.length + 1))) := fun v hv => by
              unfold fX11_term_J24
              rw [ml_47 hLr, r42'', hv]
              simp only [ob]
              rw [asI_n (by rw [mn_32]; omega) (by omega)]
              simp only [ob, obd]
              rw [sI_ne (by omega), r42'', nI_1]
            have eJf : ∀ v, EEL f x r3 (sI (sI r3 32 (f + A.length) v) 0 42 (nI (f + A.length + 1))) := fun v => (EEL.s (by omega)).tr (EEL.s (by omega))
            rcases q3'' with ⟨Gx2, fa, i, y1, y2, y3, y4⟩ | ⟨p4, U3, z1'', z2'', z3'', z4'', z5'', z6'', z7'', z8'', z9''⟩
            · left
              have mf := y4.E (G2 := sI (sI r3 32 (f + A.length) (r3.1 0 48)) 0 42 (nI (f + A.length + 1))) rfl (fun j hj => by rw [sI_ne (by omega), sI_ne (by omega)])
              rw [y1, eJ _ rfl]
              simp only [obp, ob]
              rw [if_pos trivial, mMust_f mf]
              exact ⟨Gx2, fa, i, _, f + A.length + 1, rfl, y2, x2.ell.tr (w7.tr (w7'.tr y3)), rfl, mf, sI_same, by omega, by omega, e29.tr (eJf _)⟩
            · have m30 : MPs l D p4 N (sI (sI r3 32 (f + A.length) (r3.1 0 48)) 0 42 (nI (f + A.length + 1))) := z2''.E rfl rfl (fun q j hq => by rw [sI_ne (by omega), sI_ne (by omega)]) (fun j hj => by rw [sI_ne (by omega), sI_ne (by omega)])
              rcases z9'' with ⟨w1'', w2'', X14, w3'', w4'', w5'', w6'', w7''⟩ | ⟨w1'', X14, w3'', w4'', w5''⟩
              · -- 'else' is passed
                right
                obtain ⟨M31, n1'', n2'', n3''⟩ := mMustE_y (k := 36) (v := 36) hD m30 rfl w1'' (by decide) w2''
                rw [w3'', eJ _ rfl]
                simp only [obp, ob]
                rw [if_neg one_ne, n1'']
                simp only [ob]
                have g1 : ∀ q j, ¬ (q = 32 ∧ j = f + A.length) → ¬ (q = 0 ∧ (j = 11 ∨ j = 42)) → M31.1 q j = r3.1 q j := fun q j u1 u2 => by rw [n2''.2 q j (by omega), sI_ne (by omega), sI_ne (by omega)]
                have g32 : M31.1 32 (f + A.length) = nI (x + (lt3 A).flatten.length + U1.length + U2.length + U3.length) := by rw [n2''.2 32 _ (by omega), sI_ne (by omega), sI_same, z4'']
                have g42 : M31.1 0 42 = nI (f + A.length + 1) := by rw [n2''.2 0 42 (by omega), sI_same]
                have hflat : (lt3 (A ++ [(U1, U2, U3)])).flatten.length = (lt3 A).flatten.length + U1.length + U2.length + U3.length := by
                  rw [lt3_snoc, flat_snoc, flat_snoc, flat_snoc, List.length_append, List.length_append, List.length_append]
                have hfl2 : (lt3 A ++ [U1] ++ [U2] ++ [U3]).flatten.length = (lt3 A).flatten.length + U1.length + U2.length + U3.length := by
                  rw [flat_snoc, flat_snoc, flat_snoc, List.length_append, List.length_append, List.length_append]
                rw [hfl2] at z8''
                -- codes and branches stay
                have k3 : ∀ q j, 28 ≤ q → q ≤ 32 → r3.1 q j = M27.1 q j := fun q j u1 u2 => q2''.2 q j (by omega) (by omega) (by omega)
                have k2 : ∀ q j, 28 ≤ q → q ≤ 32 → r2.1 q j = M14.1 q j := fun q j u1 u2 => q2'.2 q j (by omega) (by omega) (by omega)
                have k1 : ∀ q j, 28 ≤ q → q ≤ 32 → r1.1 q j = M8.1 q j := fun q j u1 u2 => q2.2 q j (by omega) (by omega) (by omega)
                have c3 : ∀ q j, q = 33 ∨ q = 34 → j < x + (lt3 A).flatten.length + U1.length + U2.length → M31.1 q j = r2.1 q j := fun q j u1 u2 => by rw [g1 q j (by omega) (by omega), q2''.2 q j (by omega) (by omega) (by omega), bfr' q j (by omega) (by omega)]
                have c2 : ∀ q j, q = 33 ∨ q = 34 → j < x + (lt3 A).flatten.length + U1.length → M31.1 q j = r1.1 q j := fun q j u1 u2 => by rw [c3 q j u1 (by omega), q2'.2 q j (by omega) (by omega) (by omega), bfr q j (by omega) (by omega)]
                have c1 : ∀ q j, q = 33 ∨ q = 34 → j < x + (lt3 A).flatten.length → M31.1 q j = M8.1 q j := fun q j u1 u2 => by rw [c2 q j u1 (by omega), q2.2 q j (by omega) (by omega) (by omega)]
                have bb : ∀ q j, 28 ≤ q → q ≤ 32 → j < f + A.length → M31.1 q j = M8.1 q j := fun q j u1 u2 u3 => by rw [g1 q j (by omega) (by omega), k3 q j u1 u2, bfr' q j (by omega) (by omega), k2 q j u1 u2, bfr q j (by omega) (by omega), k1 q j u1 u2]
                refine ⟨X14, M31, p4 + 1, (U1, U2, U3), rfl, rfl, by omega, ⟨w4'', by rw [lt3_snoc]; exact w6'', by rw [lt3_snoc]; exact w5''⟩, x2.ell.tr (w7.tr (w7'.tr w7'')), ⟨n3'', (g1 0 12 (by omega) (by omega)).trans z3'', by rw [List.length_append]; exact g42, by rw [g1 0 48 (by omega) (by omega), z4'', hflat]; congr 1; omega, MBq_snoc A f x (MBq_fr A f x aB bb c1) ⟨⟨by omega, ?_, ?_, ?_, ?_, ?_, ?_, ?_, ?_⟩, trivial⟩, ⟨?_, ?_, ?_, hb4, hb5⟩, fun U hU => ?_⟩, (e29.tr (eJf _)).tr ⟨n2''.1, fun q j u1 u2 u3 u4 => n2''.2 q j (by omega)⟩⟩
                · rw [g1 28 _ (by omega) (by omega), k3 28 _ (by omega) (by omega), bfr' 28 _ (by omega) (by omega), k2 28 _ (by omega) (by omega), bfr 28 _ (by omega) (by omega), k1 28 _ (by omega) (by omega)]; exact a28
                · rw [g1 29 _ (by omega) (by omega), k3 29 _ (by omega) (by omega), bfr' 29 _ (by omega) (by omega), k2 29 _ (by omega) (by omega), bfr 29 _ (by omega) (by omega), k1 29 _ (by omega) (by omega)]; exact a29
                · rw [g1 30 _ (by omega) (by omega), k3 30 _ (by omega) (by omega), bfr' 30 _ (by omega) (by omega), k2 30 _ (by omega) (by omega)]; exact b30
                · rw [g1 31 _ (by omega) (by omega), k3 31 _ (by omega) (by omega)]; exact b31
                · exact g32
                · intro i hi
                  have hi' : i < U1.length := hi
                  rw [c2 33 _ (Or.inl rfl) (by omega), c2 34 _ (Or.inr rfl) (by omega)]; exact z5 i hi
                · intro i hi
                  have hi' : i < U2.length := hi
                  show M31.1 33 (x + (lt3 A).flatten.length + U1.length + i) = _ ∧ (_ → M31.1 34 (x + (lt3 A).flatten.length + U1.length + i) = _)
                  rw [c3 33 _ (Or.inl rfl) (by omega), c3 34 _ (Or.inr rfl) (by omega)]; exact z5' i hi
                · intro i hi
                  show M31.1 33 (x + (lt3 A).flatten.length + U1.length + U2.length + i) = _ ∧ (_ → M31.1 34 (x + (lt3 A).flatten.length + U1.length + U2.length + i) = _)
                  rw [g1 33 _ (by omega) (by omega), g1 34 _ (by omega) (by omega)]; exact z5'' i hi
                · rw [hflat]; omega
                · rw [List.length_append]; show 4 * (f + (A.length + 1)) + 2 ≤ 520 * (1 - l) + (p4 + 1); omega
                · rw [hflat]; omega
                · rw [lt3_snoc] at hU
                  rcases List.mem_append.mp hU with hU | hU
                  · rcases List.mem_append.mp hU with hU | hU
                    · rcases List.mem_append.mp hU with hU | hU
                      · exact hM6 U hU
                      · rw [List.mem_singleton.mp hU]; exact z6
                    · rw [List.mem_singleton.mp hU]; exact z6'
                  · rw [List.mem_singleton.mp hU]; exact z6''
              · left
                obtain ⟨M31, n1'', n2'', n3''⟩ := mMustE_n (k := 36) (v := 36) hD m30 rfl (by decide) w1''
                rw [w3'', eJ _ rfl]
                simp only [obp, ob]
                rw [if_pos trivial, n1'']
                simp only [ob]
                exact ⟨X14, _, p4, M31, f + A.length + 1, rfl, w4'', x2.ell.tr (w7.tr (w7'.tr w5'')), rfl, n3'', by rw [n2''.2 0 42 (by omega), sI_same], by omega, by omega, (e29.tr (eJf _)).tr ⟨n2''.1, fun q j u1 u2 u3 u4 => n2''.2 q j (by omega)⟩⟩
          · left
            obtain ⟨M25, n1', n2', n3'⟩ := mMustE_n (k := 35) (v := 35) hD z2' rfl (by decide) w1'
            rw [w3', n1']
            simp only [obp, ob]
            rw [if_pos trivial]
            obtain ⟨G2, t1, t2, t3, t4⟩ := tail2 (v := nI (A.length + 1)) n3' ((n2'.2 0 42 (by omega)).trans r42') (by omega)
            rw [t1]
            exact ⟨X11, _, p3, G2, _, rfl, w4', x2.ell.tr (w7.tr w5'), rfl, t2, t3, by omega, by omega, (e23.tr ⟨n2'.1, fun q j u1 u2 u3 u4 => n2'.2 q j (by omega)⟩).tr ((t4 x).dn (by omega) (Nat.le_refl x) (by omega) rfl)⟩
      · left
        obtain ⟨M12, n1, n2, n3⟩ := mMustE_n (k := 13) (v := 13) hD z2 rfl (by decide) w1
        rw [w3, n1]
        simp only [obp, ob]
        rw [if_pos trivial]
        obtain ⟨G2, t1, t2, t3, t4⟩ := tail1 (v := nI (A.length + 1)) n3 ((n2.2 0 42 (by omega)).trans r42) (by omega)
        rw [t1]
        exact ⟨X8, _, p2, G2, _, rfl, w4, x2.ell.tr w5, rfl, t2, t3, by omega, by omega, (e10.tr ⟨n2.1, fun q j u1 u2 u3 u4 => n2.2 q j (by omega)⟩).tr ((t4 x).dn (by omega) (Nat.le_refl x) (by omega) rfl)⟩
  · left
    obtain ⟨X5, x1, x2, x3'⟩ := xPass_n (k := 34) (w := 270) hD hX1 rfl (by decide) (fun z => hp z.2)
    obtain ⟨M4, m1, m2, m3⟩ := mGoesE_n hM1 hp
    rw [if_pos hk] at x3'
    rw [x1, m1]
    simp only [obp, ob]
    rw [if_pos trivial, ml_43 m3.1, m2.2 0 42 (by omega), hM3]
    simp only [ob]
    rw [asI_n (by rw [mn_28]; omega) (by omega)]
    simp only [ob]
    have hL6 : LM (sI M4 28 (f + A.length) (zb 1)) := m3.1
    rw [ml_44 hL6, sI_ne (by omega), sI_ne (by omega), m2.2 0 42 (by omega), hM3]
    simp only [ob]
    rw [asI_n (by rw [mn_29]; omega) (by omega)]
    simp only [ob]
    have mf : MF l D 2 p (sI (sI M4 28 (f + A.length) (zb 1)) 29 (f + A.length) (M4.1 0 48)) := m3.E rfl (fun j hj => by rw [sI_ne (by omega), sI_ne (by omega)])
    have e8 : EEL f x Gm (sI (sI M4 28 (f + A.length) (zb 1)) 29 (f + A.length) (M4.1 0 48)) := EEL.tr (G2 := M4) ⟨m2.1, fun q j u1 u2 u3 u4 => m2.2 q j (by omega)⟩ ((EEL.s (by omega)).tr (EEL.s (by omega)))
    have v42 : (sI (sI M4 28 (f + A.length) (zb 1)) 29 (f + A.length) (M4.1 0 48)).1 0 42 = nI (f + A.length) := by rw [sI_ne (by omega), sI_ne (by omega), m2.2 0 42 (by omega)]; exact hM3
    generalize sI (sI M4 28 (f + A.length) (zb 1)) 29 (f + A.length) (M4.1 0 48) = M8 at mf e8 v42
    obtain ⟨M10, q1, q2, q3⟩ := mExpr_f mf
    rw [q1]
    simp only [ob]
    rw [mMust_f q2]
    simp only [ob]
    obtain ⟨G2, t1, t2, t3, t4⟩ := tail1 (v := nI (A.length + 1)) q2 ((q3.2 0 42 (by omega)).trans v42) (by omega)
    rw [t1]
    exact ⟨X5, 2, p, G2, _, rfl, x3', x2.ell, rfl, t2, t3, by omega, by omega, (e8.tr ⟨q3.1, fun q j u1 u2 u3 u4 => q3.2 q j (by omega)⟩).tr ((t4 x).dn (by omega) (Nat.le_refl x) (by omega) rfl)⟩
end LK
