/-! LAWS, read: the whole of one. -/
section LL
variable {t l w : Nat} {D : TKd} {N : Nat × Nat}
/-- what a law's reading changes in the reference, and where it is kept -/
def EEK (l k b c : Nat) (G G2 : Hp) : Prop := G2.2 = G.2 ∧ ∀ q j, ¬ (q = 0 ∧ (j = 11 ∨ j = 12 ∨ j = 13 ∨ j = 14 ∨ j = 42 ∨ j = 48 ∨ j = 54)) → q ≠ 36 → ¬ ((q = 33 ∨ q = 34) ∧ c ≤ j ∧ j < 420 * (c / 420 + 1)) → ¬ ((28 ≤ q ∧ q ≤ 32) ∧ b ≤ j ∧ j < 130 * (b / 130 + 1)) → ¬ ((q = 26 ∨ q = 27) ∧ j = 3 * (1 - l) + k) → G2.1 q j = G.1 q j
theorem EEL.k {k b c : Nat} {G G2 : Hp} (h : EEL b c G G2) : EEK l k b c G G2 := ⟨h.1, fun q j x y z u _ => h.2 q j x y z u⟩
theorem EEK.tr {k b c : Nat} {G G2 G3 : Hp} (h : EEK l k b c G G2) (h2 : EEK l k b c G2 G3) : EEK l k b c G G3 := ⟨h2.1.trans h.1, fun q j x y z u v => (h2.2 q j x y z u v).trans (h.2 q j x y z u v)⟩
/-- a law is read: class, reference -/
def LOK (t l w k f x : Nat) (D : TKd) (N : Nat × Nat) (p : Nat) (L : List (List Int32)) (e : Nat) (Gx2 Gm2 : Hp) : Prop := XP t D p N Gx2 ∧ XL w L Gx2 ∧ WFL L ∧ MPs l D p N Gm2 ∧ Gm2.1 0 12 = 0 ∧ Gm2.1 0 42 = nI e ∧ Gm2.1 0 48 = nI (x + L.flatten.length) ∧ MB L f e x Gm2 ∧ Gm2.1 26 (3 * (1 - l) + k) = nI f ∧ Gm2.1 27 (3 * (1 - l) + k) = nI e ∧ f < e ∧ x + L.flatten.length ≤ 420 * (1 - l) + p ∧ 4 * e ≤ 520 * (1 - l) + p
theorem jLast {p f x k : Nat} {A : List P3} {Gx Gm : Hp} (hD : TKo D) (hl : l ≤ 1) (hk3 : k < 3) (hA : A.length ≤ 4) (hX : LWx t w D p N (lt3 A) Gx) (hM : LWm l D p N f x A Gm) :
    (∃ Gx2 fa i Gm2, (bp (fX6_readSum_d SHX 8 Gx 1 0 59) fun r13 G14 => if ¬ (r13 = 0 ∨ r13 = 1) then none else some (r13, G14)) = some (0, Gx2) ∧ XF t D fa i Gx2 ∧ ELL w Gx Gx2 ∧ fX11_tellLaw_J129 SHM Gm 0 (nI k) (nI f) = some Gm2 ∧ MF l D fa i Gm2 ∧ EEK l k f x Gm Gm2) ∨ ∃ Gx2 Gm2 p2 L e, (bp (fX6_readSum_d SHX 8 Gx 1 0 59) fun r13 G14 => if ¬ (r13 = 0 ∨ r13 = 1) then none else some (r13, G14)) = some (1, Gx2) ∧ fX11_tellLaw_J129 SHM Gm 0 (nI k) (nI f) = some Gm2 ∧ p < p2 ∧ ELL w Gx Gx2 ∧ EEK l k f x Gm Gm2 ∧ LOK t l w k f x D N p2 L e Gx2 Gm2 := by
  obtain ⟨hX1, hX2, hX3⟩ := hX
  obtain ⟨hM1, hM2, hM3, hM4, hM5, ⟨hb1, hb2, hb3, hb4, hb5⟩, hM6⟩ := hM
  have h3 := hX1.2.2.1
  have hlen := lt3_len A
  have hbr : f + A.length < 231 := by omega
  unfold fX11_tellLaw_J129
  rw [ml_43 hM1.1, hM3]
  simp only [ob]
  rw [asI_n (by rw [mn_28]; omega) (by omega), zb_0]
  simp only [ob]
  have m2 : MPs l D p N (sI Gm 28 (f + A.length) 0) := hM1.E rfl rfl (fun q j hq => sI_ne (by omega)) (fun j hj => sI_ne (by omega))
  have n2 : ∀ q j, ¬ (q = 28 ∧ j = f + A.length) → (sI Gm 28 (f + A.length) 0).1 q j = Gm.1 q j := fun q j h => sI_ne (by omega)
  have v2 : (sI Gm 28 (f + A.length) 0).1 28 (f + A.length) = 0 := sI_same
  have e2 : EEL f x Gm (sI Gm 28 (f + A.length) 0) := EEL.s (by omega)
  generalize sI Gm 28 (f + A.length) 0 = M2 at m2 n2 v2 e2
  have eT : fX11_term SHM M2 0 = (fX11_expression SHM (sI M2 31 (f + A.length) (nI (x + (lt3 A).flatten.length))) 0).bind fun G5 => fX11_term_J24 SHM G5 0 := by
    unfold fX11_term
    rw [ml_46 m2.1, n2 0 42 (by omega), hM3, n2 0 48 (by omega), hM4]
    simp only [ob]
    rw [asI_n (by rw [mn_31]; omega) (by omega)]
    simp only [ob]
    rw [sI_ne (by omega), m2.2.2.2.2.1, if_pos rfl]
  rw [eT]
  have m3 : MPs l D p N (sI M2 31 (f + A.length) (nI (x + (lt3 A).flatten.length))) := m2.E rfl rfl (fun q j hq => sI_ne (by omega)) (fun j hj => sI_ne (by omega))
  have n3 : ∀ q j, ¬ (q = 31 ∧ j = f + A.length) → (sI M2 31 (f + A.length) (nI (x + (lt3 A).flatten.length))).1 q j = M2.1 q j := fun q j h => sI_ne (by omega)
  have v3 : (sI M2 31 (f + A.length) (nI (x + (lt3 A).flatten.length))).1 31 (f + A.length) = nI (x + (lt3 A).flatten.length) := sI_same
  have e3 : EEL f x Gm (sI M2 31 (f + A.length) (nI (x + (lt3 A).flatten.length))) := e2.tr (EEL.s (by omega))
  generalize sI M2 31 (f + A.length) (nI (x + (lt3 A).flatten.length)) = M3 at m3 n3 v3 e3
  obtain ⟨r3, q1, q2, q3⟩ := jE0 (b := 4) (L := lt3 A) hD hl (by decide) (by decide) hX1 hX2 hX3 (by omega) m3 ((n3 0 12 (by omega)).trans ((n2 0 12 (by omega)).trans hM2)) ((n3 0 48 (by omega)).trans ((n2 0 48 (by omega)).trans hM4)) (by omega) (by omega)
  rw [show ck 4 = (59 : Int32) from rfl] at q3
  rw [q1]
  simp only [ob]
  have e4 : EEL f x Gm r3 := e3.tr (q2.eel.dn (Nat.le_refl f) (by omega) rfl (by omega))
  have r42 : r3.1 0 42 = nI (f + A.length) := (q2.2 0 42 (by omega) (by decide) (by omega)).trans ((n3 0 42 (by omega)).trans ((n2 0 42 (by omega)).trans hM3))
  have hLr : LM r3 := m3.1.same (by rw [q2.1])
  have eJ : fX11_term_J24 SHM r3 0 = some (sI (sI r3 32 (f + A.length) (r3.1 0 48)) 0 42 (nI (f + A.length + 1))) := by
    unfold fX11_term_J24
    rw [ml_47 hLr, r42]
    simp only [ob]
    rw [asI_n (by rw [mn_32]; omega) (by omega)]
    simp only [ob, obd]
    rw [sI_ne (by omega), r42, nI_1]
  have eJf : EEL f x r3 (sI (sI r3 32 (f + A.length) (r3.1 0 48)) 0 42 (nI (f + A.length + 1))) := (EEL.s (by omega)).tr (EEL.s (by omega))
  rw [eJ]
  simp only [ob]
  rcases q3 with ⟨Gx2, fa, i, y1, y2, y3, y4⟩ | ⟨p4, U, z1, z2, z3, z4, z5, z6, z7, z8, z9⟩
  · left
    have mf := y4.E (G2 := sI (sI r3 32 (f + A.length) (r3.1 0 48)) 0 42 (nI (f + A.length + 1))) rfl (fun j hj => by rw [sI_ne (by omega), sI_ne (by omega)])
    rw [q01 y1 (Or.inl rfl), mMust_f mf]
    simp only [ob]
    rw [if_neg mf.pos.1]
    exact ⟨Gx2, fa, i, _, rfl, y2, y3, rfl, mf, (e4.tr eJf).k⟩
  · have m5 : MPs l D p4 N (sI (sI r3 32 (f + A.length) (r3.1 0 48)) 0 42 (nI (f + A.length + 1))) := z2.E rfl rfl (fun q j hq => by rw [sI_ne (by omega), sI_ne (by omega)]) (fun j hj => by rw [sI_ne (by omega), sI_ne (by omega)])
    rcases z9 with ⟨w1, w2, X14, w3, w4, w5, w6, w7⟩ | ⟨w1, X14, w3, w4, w5⟩
    · right
      obtain ⟨M6, n1, n2', n3'⟩ := mMustE_y (k := 4) (v := 4) hD m5 rfl w1 (by decide) w2
      rw [q01 w3 (Or.inr rfl), n1]
      simp only [ob]
      have g1 : ∀ q j, ¬ (q = 32 ∧ j = f + A.length) → ¬ (q = 0 ∧ (j = 11 ∨ j = 42)) → M6.1 q j = r3.1 q j := fun q j u1 u2 => by rw [n2'.2 q j (by omega), sI_ne (by omega), sI_ne (by omega)]
      have g32 : M6.1 32 (f + A.length) = nI (x + (lt3 A).flatten.length + U.length) := by rw [n2'.2 32 _ (by omega), sI_ne (by omega), sI_same, z4]
      have g42 : M6.1 0 42 = nI (f + A.length + 1) := by rw [n2'.2 0 42 (by omega), sI_same]
      have i3 : (3 : Int32) * nI (1 - l) + nI k = nI (3 * (1 - l) + k) := by rw [show (3 : Int32) * nI (1 - l) = nI (3 * (1 - l)) from pk_mul 3 (1 - l), nI_add]
      rw [n3'.2.2.2.2.1, if_pos (by decide), ml_40 n3'.1, n3'.2.2.2.2.2.2.2.2, i3]
      simp only [ob]
      rw [asI_n (by rw [mn_26]; omega) (by omega)]
      simp only [ob]
      have hL9 : LM (sI M6 26 (3 * (1 - l) + k) (nI f)) := n3'.1
      rw [ml_41 hL9, sI_ne (Or.inl (by decide)), sI_ne (Or.inl (by decide)), n3'.2.2.2.2.2.2.2.2, i3, g42]
      simp only [ob]
      rw [asI_n (by rw [mn_27]; omega) (by omega)]
      have gf : ∀ q j, ¬ ((q = 26 ∨ q = 27) ∧ j = 3 * (1 - l) + k) → (sI (sI M6 26 (3 * (1 - l) + k) (nI f)) 27 (3 * (1 - l) + k) (nI (f + A.length + 1))).1 q j = M6.1 q j := fun q j u => by rw [sI_ne (by omega), sI_ne (by omega)]
      have g26 : (sI (sI M6 26 (3 * (1 - l) + k) (nI f)) 27 (3 * (1 - l) + k) (nI (f + A.length + 1))).1 26 (3 * (1 - l) + k) = nI f := by rw [sI_ne (Or.inl (by decide)), sI_same]
      have g27 : (sI (sI M6 26 (3 * (1 - l) + k) (nI f)) 27 (3 * (1 - l) + k) (nI (f + A.length + 1))).1 27 (3 * (1 - l) + k) = nI (f + A.length + 1) := sI_same
      have m7 : MPs l D (p4 + 1) N (sI (sI M6 26 (3 * (1 - l) + k) (nI f)) 27 (3 * (1 - l) + k) (nI (f + A.length + 1))) := n3'.E rfl rfl (fun q j hq => gf q j (by omega)) (fun j hj => gf 0 j (by omega))
      have hr7 : (sI (sI M6 26 (3 * (1 - l) + k) (nI f)) 27 (3 * (1 - l) + k) (nI (f + A.length + 1))).2 = M6.2 := rfl
      generalize sI (sI M6 26 (3 * (1 - l) + k) (nI f)) 27 (3 * (1 - l) + k) (nI (f + A.length + 1)) = M7 at gf g26 g27 m7 hr7
      have hfl2 : (lt3 A ++ [U]).flatten.length = (lt3 A).flatten.length + U.length := by rw [flat_snoc, List.length_append]
      rw [hfl2] at z8
      have kk : ∀ q j, 28 ≤ q → q ≤ 32 → ¬ (q = 32 ∧ j = f + A.length) → M7.1 q j = M3.1 q j := fun q j u1 u2 u3 => by rw [gf q j (by omega), g1 q j u3 (by omega), q2.2 q j (by omega) (by omega) (by omega)]
      have cc : ∀ q j, q = 33 ∨ q = 34 → M7.1 q j = r3.1 q j := fun q j u => by rw [gf q j (by omega), g1 q j (by omega) (by omega)]
      have cc2 : ∀ q j, q = 33 ∨ q = 34 → j < x + (lt3 A).flatten.length → M7.1 q j = Gm.1 q j := fun q j u1 u2 => by rw [cc q j u1, q2.2 q j (by omega) (by omega) (by omega), n3 q j (by omega), n2 q j (by omega)]
      have hB : MB (lt3 A ++ [U]) f (f + A.length + 1) x M7 := by
        refine MB_of (by omega) A f x (MBq_fr A f x hM5 (fun q j u1 u2 u3 => by rw [kk q j u1 u2 (by omega), n3 q j (by omega), n2 q j (by omega)]) cc2) rfl ?_ ?_ ?_ (fun i hi => ?_)
        · rw [kk 28 _ (by omega) (by omega) (by omega), n3 28 _ (by omega)]; exact v2
        · rw [kk 31 _ (by omega) (by omega) (by omega)]; exact v3
        · rw [gf 32 _ (by omega)]; exact g32
        · rw [cc 33 _ (Or.inl rfl), cc 34 _ (Or.inr rfl)]; exact z5 i hi
      refine ⟨X14, M7, p4 + 1, lt3 A ++ [U], f + A.length + 1, rfl, rfl, by omega, w7, ((e4.tr eJf).k.tr ⟨n2'.1, fun q j u1 u2 u3 u4 u5 => n2'.2 q j (by omega)⟩).tr ⟨hr7, fun q j u1 u2 u3 u4 u5 => gf q j u5⟩, w4, w5, ⟨⟨A.length, hA, by rw [List.length_append, hlen]; rfl⟩, by rw [hfl2]; omega, fun V hV => ?_⟩, m7, by rw [gf 0 12 (by omega), g1 0 12 (by omega) (by omega)]; exact z3, by rw [gf 0 42 (by omega)]; exact g42, by rw [gf 0 48 (by omega), g1 0 48 (by omega) (by omega), z4, hfl2]; congr 1; omega, hB, g26, g27, by omega, by rw [hfl2]; omega, by omega⟩
      rcases List.mem_append.mp hV with hV | hV
      · exact hM6 V hV
      · rw [List.mem_singleton.mp hV]; exact z6
    · left
      obtain ⟨M6, n1, n2', n3'⟩ := mMustE_n (k := 4) (v := 4) hD m5 rfl (by decide) w1
      rw [q01 w3 (Or.inl rfl), n1]
      simp only [ob]
      rw [if_neg n3'.pos.1]
      exact ⟨X14, _, p4, M6, rfl, w4, w5, rfl, n3', ((e4.tr eJf).tr ⟨n2'.1, fun q j u1 u2 u3 u4 => n2'.2 q j (by omega)⟩).k⟩
def cLT (fx : Nat) (s : Hp × Int32) : Option (Int32 × Hp) := (iter (fun s : Hp × Int32 => fX6_readLaw_S36 SHX 1 s.1 s.2) fx s).bind (Sum.elim (fun u16 => bd u16 fun G12 => bp (fX6_readSum_d SHX 8 G12 1 0 59) fun r13 G14 => if ¬ (r13 = 0 ∨ r13 = 1) then none else some (r13, G14)) (Sum.elim (fun u21 => bd u21 fun G17 => bp (fX6_refuse SHX G17 1 2) fun r18 G19 => if ¬ (r18 = 0 ∨ r18 = 1) then none else some (r18, G19)) (fun u23 => bd u23 fun G22 => some (0, G22))))
def mLT (k x3 : Int32) (fm : Nat) (s : Hp × Int32) : Option Hp := (iter (fun s : Hp × Int32 => fX11_tellLaw_S12 SHM 0 k x3 s.1 s.2) fm s).bind (Sum.elim (fun u6 => bd u6 fun G5 => fX11_tellLaw_J129 SHM G5 0 k x3) (fun u8 => bd u8 fun G7 => some G7))
theorem jLoop {f x k : Nat} (hD : TKo D) (hl : l ≤ 1) (hk3 : k < 3) : ∀ m (A : List P3) p Gx Gm, A.length + m = 5 → A.length ≤ 4 → LWx t w D p N (lt3 A) Gx → LWm l D p N f x A Gm → ∀ fx fm, m ≤ fx → m ≤ fm →
    (∃ Gx2 fa i Gm2, cLT fx (Gx, nI A.length) = some (0, Gx2) ∧ XF t D fa i Gx2 ∧ ELL w Gx Gx2 ∧ mLT (nI k) (nI f) fm (Gm, nI A.length) = some Gm2 ∧ MF l D fa i Gm2 ∧ EEK l k f x Gm Gm2) ∨ ∃ Gx2 Gm2 p2 L e, cLT fx (Gx, nI A.length) = some (1, Gx2) ∧ mLT (nI k) (nI f) fm (Gm, nI A.length) = some Gm2 ∧ p < p2 ∧ ELL w Gx Gx2 ∧ EEK l k f x Gm Gm2 ∧ LOK t l w k f x D N p2 L e Gx2 Gm2
  | 0, A, p, Gx, Gm, h1, h2, _, _, _, _, _, _ => by omega
  | m + 1, A, p, Gx, Gm, h1, h2, hX, hM, fx, fm, hfx, hfm => by
    obtain ⟨fx, rfl⟩ : ∃ z, fx = z + 1 := ⟨fx - 1, by omega⟩
    obtain ⟨fm, rfl⟩ : ∃ z, fm = z + 1 := ⟨fm - 1, by omega⟩
    have hXk := hX.1.2.2.2.2.1
    have hM1 := hM.1
    by_cases hk : D.1 p = 34
    · by_cases h4 : A.length = 4
      · -- a fifth if
        left
        obtain ⟨G19, a1, a2, a3⟩ := xRefuse (f := 2) hX.1
        obtain ⟨G6, b1, b2', b3⟩ := mFailE (f := 2) (Or.inr rfl) hM1
        have sx : (fun s : Hp × Int32 => fX6_readLaw_S36 SHX 1 s.1 s.2) (Gx, nI A.length) = some (.inr (.inr (.inl Gx))) := by
          show fX6_readLaw_S36 SHX 1 Gx (nI A.length) = _
          unfold fX6_readLaw_S36
          rw [if_neg (show ¬ (4 : Int32) < nI A.length from nI_nlt (a := 4) (by omega) (by decide)), hXk, if_pos (show ck (D.1 p) = 270 by rw [hk]; rfl), if_pos (by rw [h4]; rfl)]
        have sm : (fun s : Hp × Int32 => fX11_tellLaw_S12 SHM 0 (nI k) (nI f) s.1 s.2) (Gm, nI A.length) = some (.inr (.inr G6)) := by
          show fX11_tellLaw_S12 SHM 0 (nI k) (nI f) Gm (nI A.length) = _
          unfold fX11_tellLaw_S12
          rw [hM1.2.2.2.2.1, if_pos rfl, mIs (k := 34) (w := 34) hD hM1 rfl (by decide), decide_eq_true hk]
          simp only [ob]
          rw [if_neg (show ¬ b2 true = 0 by decide), if_pos (by rw [h4]; rfl), show (2 : Int32) = nI 2 from rfl, b1]
          simp only [ob]
          unfold fX11_tellLaw_J38L12
          rw [if_neg b3.pos.1]
        refine ⟨G19, 2, p, G6, ?_, a3, a2.ell, ?_, b3, b2'.1, fun q j u1 u2 u3 u4 u5 => b2'.2 q j (by omega)⟩
        · unfold cLT
          rw [iter_out sx]
          exact q01 a1 (Or.inl rfl)
        · unfold mLT
          rw [iter_out sm]
          rfl
      · rcases jIf (k := nI k) (x3 := nI f) hD hl (by omega) hX hM hk with ⟨Gx2, fa, i, Gm2, b, c1, c2, c3, c4, c5, c6, c7, c7b, c8⟩ | ⟨Gx2, Gm2, p2, y, c1, c2, c3, c4, c5, c6, c7⟩
        · left
          obtain ⟨Gm3, d1, d2, d3⟩ := mJ129_f (k := nI k) (x := nI f) c5 c6 (by omega)
          obtain ⟨fm, rfl⟩ : ∃ z, fm = z + 1 := ⟨fm - 1, by omega⟩
          refine ⟨Gx2, fa, i, Gm3, ?_, c2, c3, ?_, d2, (c8.tr ((d3 x).dn c7b (Nat.le_refl x) (by omega) rfl)).k⟩
          · have sx : (fun s : Hp × Int32 => fX6_readLaw_S36 SHX 1 s.1 s.2) (Gx, nI A.length) = some (.inr (.inr (.inr Gx2))) := c1
            unfold cLT
            rw [iter_out sx]
            rfl
          · have sm : (fun s : Hp × Int32 => fX11_tellLaw_S12 SHM 0 (nI k) (nI f) s.1 s.2) (Gm, nI A.length) = some (.inl (Gm2, nI (A.length + 1))) := c4
            have sm2 : (fun s : Hp × Int32 => fX11_tellLaw_S12 SHM 0 (nI k) (nI f) s.1 s.2) (Gm2, nI (A.length + 1)) = some (.inr (.inl Gm2)) := mLawS_f c5
            unfold mLT
            rw [iter_in sm, iter_out sm2]
            exact d1
        · have hlen : (A ++ [y]).length = A.length + 1 := by rw [List.length_append]; rfl
          have sx : (fun s : Hp × Int32 => fX6_readLaw_S36 SHX 1 s.1 s.2) (Gx, nI A.length) = some (.inl (Gx2, nI (A.length + 1))) := c1
          have sm : (fun s : Hp × Int32 => fX11_tellLaw_S12 SHM 0 (nI k) (nI f) s.1 s.2) (Gm, nI A.length) = some (.inl (Gm2, nI (A.length + 1))) := c2
          have ex : cLT (fx + 1) (Gx, nI A.length) = cLT fx (Gx2, nI (A ++ [y]).length) := by
            unfold cLT
            rw [iter_in sx, hlen]
          have em : mLT (nI k) (nI f) (fm + 1) (Gm, nI A.length) = mLT (nI k) (nI f) fm (Gm2, nI (A ++ [y]).length) := by
            unfold mLT
            rw [iter_in sm, hlen]
          rw [ex, em]
          rcases jLoop hD hl hk3 m (A ++ [y]) p2 Gx2 Gm2 (by omega) (by omega) c4 c6 fx fm (by omega) (by omega) with ⟨Gx3, fa, i, Gm3, d1, d2, d3, d4, d5, d6⟩ | ⟨Gx3, Gm3, p3, L, e, d1, d2, d3, d4, d5, d6⟩
          · exact Or.inl ⟨Gx3, fa, i, Gm3, d1, d2, c5.tr d3, d4, d5, c7.k.tr d6⟩
          · exact Or.inr ⟨Gx3, Gm3, p3, L, e, d1, d2, by omega, c5.tr d4, c7.k.tr d5, d6⟩
    · have sx : (fun s : Hp × Int32 => fX6_readLaw_S36 SHX 1 s.1 s.2) (Gx, nI A.length) = some (.inr (.inl Gx)) := by
        show fX6_readLaw_S36 SHX 1 Gx (nI A.length) = _
        unfold fX6_readLaw_S36
        rw [if_neg (show ¬ (4 : Int32) < nI A.length from nI_nlt (a := 4) (by omega) (by decide)), hXk, if_neg (show ¬ ck (D.1 p) = 270 from fun z => hk ((ck_eq (b := 34) (hD.2.1 p) (by decide)).mp z))]
      have sm : (fun s : Hp × Int32 => fX11_tellLaw_S12 SHM 0 (nI k) (nI f) s.1 s.2) (Gm, nI A.length) = some (.inr (.inl Gm)) := by
        show fX11_tellLaw_S12 SHM 0 (nI k) (nI f) Gm (nI A.length) = _
        unfold fX11_tellLaw_S12
        rw [hM1.2.2.2.2.1, if_pos rfl, mIs (k := 34) (w := 34) hD hM1 rfl (by decide), decide_eq_false hk]
        simp only [ob]
        rw [if_pos (show b2 false = 0 from rfl)]
      have ex : cLT (fx + 1) (Gx, nI A.length) = bp (fX6_readSum_d SHX 8 Gx 1 0 59) fun r13 G14 => if ¬ (r13 = 0 ∨ r13 = 1) then none else some (r13, G14) := by
        unfold cLT
        rw [iter_out sx]
        rfl
      have em : mLT (nI k) (nI f) (fm + 1) (Gm, nI A.length) = fX11_tellLaw_J129 SHM Gm 0 (nI k) (nI f) := by
        unfold mLT
        rw [iter_out sm]
        rfl
      rw [ex, em]
      exact jLast hD hl hk3 h2 hX hM
end LL
