/-! TELLS: what 'being', 'way' and 'bridge' begin with: a name, a number. -/
/-- in the class only the reader's own cells and the names have changed -/
def ERd (G G2 : Hp) : Prop := G2.2.2 = G.2.2 ∧ (∀ q, q ≠ 8 → G2.2.1 q = G.2.1 q) ∧ ∀ q k, q ≠ 1 → G2.1 q k = G.1 q k
theorem ERd.rf {G : Hp} : ERd G G := ⟨rfl, fun _ _ => rfl, fun _ _ _ => rfl⟩
theorem ERd.tr {G G2 G3 : Hp} (h : ERd G G2) (h2 : ERd G2 G3) : ERd G G3 := ⟨h2.1.trans h.1, fun q a => (h2.2.1 q a).trans (h.2.1 q a), fun q k a => (h2.2.2 q k a).trans (h.2.2 q k a)⟩
theorem Er1.rd {m : Nat} {G G2 : Hp} (h : Er1 m G G2) : ERd G G2 := ⟨by rw [h.1], fun q _ => by rw [h.1], fun q k a => h.2 q k (by omega)⟩
theorem Er8.rd {G G2 : Hp} (h : Er8 G G2) : ERd G G2 := ⟨h.1, h.2.1, fun q k a => h.2.2 q k (by omega)⟩
theorem ERd.xl {t : Nat} {G G2 : Hp} (h : ERd G G2) : EXl t G G2 := ⟨fun q k _ => by rw [h.1], fun q a _ _ _ => h.2.1 q a, fun q k a _ => h.2.2 q k a⟩
section HD
variable {t l p cl br co : Nat} {D : TKd} {N : Nat × Nat} {T : Txt} {NM : List (List Nat × Bool)} {Gx Gm : Hp}
theorem jHead {i c most kk a b : Nat} {w m1 la lb : Int32} {K : Hp → Option (Int32 × Hp)} (hD : TKo D) (hX : BXs t D p N T NM Gx) (hM : BMs l D p N T NM cl br co Gm) (hJ : BJ l p N T NM cl br co) (hk : D.1 p = kk) (hw : w = ck kk) (hkk : okK kk = true ∧ kk ≠ 0) (hc : Gx.1 (43 - t) i = nI c) (hcm : c ≤ most ∧ most < 10) (hm1 : m1 = nI most) (hla : la = nI a) (hlb : lb = nI b) (hab : a < 20000 ∧ b < 20000) (hNM : c < most → NM.length < 23) {ox : Option (Int32 × Hp)} (hox : ox = (ldO SHX Gx 1 9 8).bind fun a1 => if (Gx.1 a1 i) < m1 then bp (fX6_pass SHX Gx 1 w) fun r3 G4 => if r3 = 0 then some (0, G4) else bp (fX6_readNewName SHX G4 1) fun r6 G7 => if r6 = 0 then some (0, G7) else bp (fX6_readNumber SHX G7 1 la lb) fun r9 G10 => if r9 = 0 then some (0, G10) else K G10 else bp (fX6_refuse SHX Gx 1 2) fun r22 G23 => if ¬ (r22 = 0 ∨ r22 = 1) then none else some (r22, G23)) :
    (∃ X f i M, ox = some (0, X) ∧ XF t D f i X ∧ EXl t Gx X ∧ fX11_roomFor SHM Gm 0 (nI c) m1 = some M ∧ MF l D f i M ∧ Er0 Gm M) ∨ (c < most ∧ ∃ M24, fX11_roomFor SHM Gm 0 (nI c) m1 = some M24 ∧ MPs l D (p + 1) N M24 ∧ Er0 Gm M24 ∧ ((∃ X f i M5, ox = some (0, X) ∧ XF t D f i X ∧ EXl t Gx X ∧ fX11_named SHM M24 0 = some (nI (p + 1), M5) ∧ MF l D f i M5 ∧ Er0 M24 M5) ∨ ∃ N1 M5, fX11_named SHM M24 0 = some (nI (p + 1), M5) ∧ Er0 M24 M5 ∧ MPs l D (p + 2) N1 M5 ∧ ((∃ X f i v M8, ox = some (0, X) ∧ XF t D f i X ∧ EXl t Gx X ∧ fX11_bounded SHM M5 0 la lb = some (v, M8) ∧ MF l D f i M8 ∧ Er0 M5 M8) ∨ ∃ X10 N2 M8, ox = K X10 ∧ fX11_bounded SHM M5 0 la lb = some (nI (D.2.2.1 (p + 2)), M8) ∧ Er0 M5 M8 ∧ MPs l D (p + 3) N2 M8 ∧ XP t D (p + 3) N2 X10 ∧ X10.1 1 7 = nI (D.2.2.1 (p + 2)) ∧ XNm (NM.map (·.1) ++ [D.2.2.2.1 (p + 1)]) X10 ∧ ERd Gx X10 ∧ (N2.1 = 0 → N.1 = 0 ∧ a ≤ D.2.2.1 (p + 2) ∧ D.2.2.1 (p + 2) ≤ b) ∧ okN (p + 3) N2 ∧ D.1 (p + 1) = 1))) := by
  subst hox
  have ht := hX.1.1.1
  rw [xl_rtext hX.1.1]
  simp only [ob]
  rw [hc, hm1]
  by_cases h8 : c < most
  · rw [if_pos (nI_lt h8 (by omega))]
    by_cases hp : p < 400
    · right
      obtain ⟨X4, x1, x2, x3⟩ := xPass_y hD hX.1 hw hk hkk.2 hp
      obtain ⟨M24, m1', m2, m3⟩ := mRoom_y (c := c) (most := most) hD hM.1 rfl rfl h8 (by omega) (by rw [hk]; exact hkk.2) hp
      refine ⟨h8, M24, m1', m3, m2, ?_⟩
      rw [x1]
      simp only [obp]
      rw [if_neg one_ne]
      have hBX4 := hX.E x2 (by decide) x3 (fun z => z)
      have hBM7 := hM.E m2 m3 (fun z => z)
      have hJ2 := hJ.s (show p ≤ p + 1 by omega)
      have hNl : (NM.map (·.1)).length < 23 := by rw [List.length_map]; exact hNM h8
      by_cases e1 : D.1 (p + 1) = 1 ∧ p + 1 < 400
      · obtain ⟨X7, y1, y2, y3, y4⟩ := xNew_y hD x3 hBX4.2.1 hNl e1.1 e1.2
        obtain ⟨M5, n1, n2, n3⟩ := mNamed_y hD m3 hJ2.2.1 hBM7.2.2.1 e1.1 e1.2
        right
        refine ⟨_, M5, n1, n2, n3, ?_⟩
        rw [y1]
        simp only [obp]
        rw [if_neg one_ne]
        have hok : okN (p + 2) (ntp (decide (D.2.2.2.1 (p + 1) ∈ NM.map (·.1))) 3 (p + 1) N) := hJ2.2.1.n (by decide)
        by_cases e2 : D.1 (p + 2) = 2 ∧ p + 2 < 400
        · right
          obtain ⟨X10, u1, u2, u3, u4⟩ := xNumb_y (a := a) (b := b) hD y3 hla hlb hab e2.1 e2.2
          obtain ⟨M8, v1, v2, v3⟩ := mNumb_y (a := a) (b := b) hD n3 hok hla hlb hab e2.1 e2.2
          rw [u1]
          simp only [obp]
          rw [if_neg one_ne]
          refine ⟨X10, _, M8, rfl, v1, v2, v3, u3, u4, y4.E (u2.2 1 12 (by omega)) (by rw [u2.1]), x2.rd.tr (y2.rd.tr u2.rd), fun z => ?_, hok.n (by decide), e1.1⟩
          obtain ⟨z1, z2⟩ := ntp_0 (by decide) z
          obtain ⟨z3, -⟩ := ntp_0 (by decide) z1
          unfold badV at z2
          rw [Bool.not_eq_false', Bool.and_eq_true, decide_eq_true_iff, decide_eq_true_iff] at z2
          exact ⟨z3, z2⟩
        · left
          obtain ⟨X10, u1, u2, u3⟩ := xNumb_n (la := la) (lb := lb) hD y3 e2
          obtain ⟨v, M8, v1, v2, v3⟩ := mNumb_n (la := la) (lb := lb) hD n3 hok e2
          rw [u1]
          exact ⟨X10, _, p + 2, v, M8, rfl, u3, x2.xl.tr (y2.xl.tr u2.xl), v1, v3, v2⟩
      · left
        obtain ⟨X7, y1, y2, y3⟩ := xNew_n hD x3 hBX4.2.1 hNl e1
        obtain ⟨M5, n1, n2, n3⟩ := mNamed_n hD m3 hBM7.2.2.1 e1
        rw [y1]
        exact ⟨X7, _, p + 1, M5, rfl, y3, x2.xl.tr y2.xl, n1, n3, n2⟩
    · left
      obtain ⟨X4, x1, x2, x3⟩ := xPass_n hD hX.1 hw hkk.1 (fun z => hp z.2)
      obtain ⟨M7, m1', m2, m3⟩ := mRoom_n (c := c) (most := most) hM.1 rfl rfl hcm.1 (by omega) (fun z => hp z.2)
      rw [if_pos hk] at x3
      rw [x1]
      exact ⟨X4, 2, p, M7, rfl, x3, x2.xl, m1', m3, m2⟩
  · rw [if_neg (nI_nlt (by omega) (by omega))]
    left
    obtain ⟨X4, x1, x2, x3⟩ := xRefuse (f := 2) hX.1
    obtain ⟨M7, m1', m2, m3⟩ := mRoom_n (c := c) (most := most) hM.1 rfl rfl hcm.1 (by omega) (fun z => h8 z.1)
    have x1' : fX6_refuse SHX Gx 1 2 = some (0, X4) := x1
    rw [q01 x1' (Or.inl rfl)]
    exact ⟨X4, 2, p, M7, rfl, x3, x2.xl, m1', m3, m2⟩
/-- the end of such a tell: ';', the name kept, the count up -/
theorem ends_ok {w : List Nat} {M M2 : Hp} (h : MNm (NM ++ [(w, false)]) M) (e20 : M2.1 0 20 = M.1 0 20) (e9 : ∀ j, M2.1 9 j = M.1 9 j) (e8 : M2.2.1 8 = M.2.1 8) : MNm (NM ++ [(w, false)]) M2 := by
  obtain ⟨w1, w2, w3, w4⟩ := h
  exact ⟨e20.trans w1, w2, w3, fun j hj => ⟨by rw [e8]; exact (w4 j hj).1, (e9 j).trans (w4 j hj).2⟩⟩
theorem trB_n {o : Option Nat} (h : ∀ j, o = some j → j < 8) : trB o = nI (match o with | none => 0 | some j => 2 ^ j) := by
  cases o with
  | none => rfl
  | some j => exact shl1 (by have := h j rfl; omega)
end HD
