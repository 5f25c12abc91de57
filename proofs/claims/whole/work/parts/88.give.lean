/-! TELLS: what a way gives and drops. -/
def WV (n : Nat) (v u a b : Int32) : Prop := ∃ w y, w < 2 ^ n ∧ y < 2 ^ n ∧ v = nI w ∧ u = nI y ∧ a = nI w ∧ b = nI y
theorem wv_clr {n w j : Nat} (hn : n ≤ 8) (hw : w < 2 ^ n) : ∃ y, y < 2 ^ n ∧ nI w &&& (nI (2 ^ j) ^^^ (-1)) = nI y := by
  have h256 : w < 256 := Nat.lt_of_lt_of_le hw (Nat.pow_le_pow_right (n := 2) (by decide) hn)
  refine ⟨w &&& (255 ^^^ 2 ^ j), Nat.lt_of_le_of_lt Nat.and_le_left hw, ?_⟩
  have := set_eq (a := w) (g := 0) (d := 2 ^ j) h256 (by decide)
  rw [nI_or, Nat.or_zero] at this
  exact this
theorem wv_set {n w j : Nat} (hj : j < n) (hw : w < 2 ^ n) : ∃ y, y < 2 ^ n ∧ nI w ||| nI (2 ^ j) = nI y := ⟨w ||| 2 ^ j, Nat.or_lt_two_pow hw (Nat.pow_lt_pow_right (by decide) hj), nI_or⟩
theorem WV.give {n j : Nat} {v u a b : Int32} (h : WV n v u a b) (hn : n ≤ 8) (hj : j < n) : WV n (v ||| nI (2 ^ j)) (u &&& (nI (2 ^ j) ^^^ (-1))) (a ||| nI (2 ^ j)) (b &&& (nI (2 ^ j) ^^^ (-1))) := by
  obtain ⟨w, y, h1, h2, rfl, rfl, rfl, rfl⟩ := h
  obtain ⟨w2, k1, k2⟩ := wv_set hj h1
  obtain ⟨y2, k3, k4⟩ := wv_clr (j := j) hn h2
  exact ⟨w2, y2, k1, k3, k2, k4, k2, k4⟩
theorem WV.drop {n j : Nat} {v u a b : Int32} (h : WV n v u a b) (hn : n ≤ 8) (hj : j < n) : WV n (v &&& (nI (2 ^ j) ^^^ (-1))) (u ||| nI (2 ^ j)) (a &&& (nI (2 ^ j) ^^^ (-1))) (b ||| nI (2 ^ j)) := by
  obtain ⟨w, y, h1, h2, rfl, rfl, rfl, rfl⟩ := h
  obtain ⟨w2, k1, k2⟩ := wv_set hj h2
  obtain ⟨y2, k3, k4⟩ := wv_clr (j := j) hn h1
  exact ⟨y2, w2, k3, k1, k4, k2, k4, k2⟩
section GV
variable {t l p cl br co : Nat} {D : TKd} {N : Nat × Nat} {T : Txt} {NM : List (List Nat × Bool)} {Gx Gm : Hp}
theorem mGive {x : Nat} {r1 r4 tr : Int32} {M M3 M5 : Hp} (hx : x < 8) (h1 : fX11_is SHM M 0 24 = some r1) (h2 : fX11_goesOn SHM M 0 = some M3) (h3 : fX11_knownTrait SHM M3 0 = some (tr, M5)) (hL : LM M5) : fX11_tellWay_J74L49 SHM M 0 (nI x) r4 = some (.inl (sI (sI M5 16 x (if r1 = 0 then M5.1 16 x &&& (tr ^^^ (-1)) else M5.1 16 x ||| tr)) 17 x (if r1 = 0 then M5.1 17 x ||| tr else M5.1 17 x &&& (tr ^^^ (-1))))) := by
  unfold fX11_tellWay_J74L49
  rw [h1]
  simp only [ob]
  rw [h2]
  simp only [ob]
  rw [h3]
  simp only [obp]
  rw [ml_29 hL]
  simp only [ob]
  rw [aI_n (by rw [mn_16]; exact hx) (by omega)]
  simp only [ob]
  unfold fX11_tellWay_J123L49
  have hL2 : ∀ v, LM (sI M5 16 x v) := fun v => hL
  have e17 : ∀ v, (sI M5 16 x v).1 17 x = M5.1 17 x := fun v => sI_ne (by omega)
  by_cases e : r1 = 0
  · rw [if_pos e, if_pos e, if_pos e, asI_n (by rw [mn_16]; exact hx) (by omega)]
    simp only [ob]
    rw [ml_30 (hL2 _)]
    simp only [ob]
    rw [if_pos e, aI_n (by rw [mn_17]; exact hx) (by omega), e17]
    simp only [ob]
    rw [asI_n (by rw [mn_17]; exact hx) (by omega)]
    rfl
  · rw [if_neg e, if_neg e, if_neg e, asI_n (by rw [mn_16]; exact hx) (by omega)]
    simp only [ob]
    rw [ml_30 (hL2 _)]
    simp only [ob]
    rw [if_neg e, aI_n (by rw [mn_17]; exact hx) (by omega), e17]
    simp only [ob]
    rw [asI_n (by rw [mn_17]; exact hx) (by omega)]
    rfl
theorem jGive {x : Nat} {r4 : Int32} (hD : TKo D) (hX : XP t D p N Gx) (hT : XTn (trs NM) Gx) (h0 : Gx.1 (43 - t) 0 = nI (trs NM).length) (hM : MPs l D p N Gm) (hNM : MNm NM Gm) (hN : okN p N) (hp : 1 ≤ p) (hx : x < 8) (hv : Gm.1 16 x = 0) (hv2 : Gm.1 17 x = 0) :
    ∃ o, iter (fun s : Hp × Int32 × Int32 × Int32 => fX6_readWay_S71 SHX 1 s.1 s.2.1 s.2.2.1 s.2.2.2) fuel ((Gx, 0, 0, 0) : Hp × Int32 × Int32 × Int32) = some o ∧ ∃ M2, iter (fun s : Hp => fX11_tellWay_S49 SHM 0 (nI x) r4 s) fuel Gm = some M2 ∧ Ecx 16 17 x Gm M2 ∧ ((∃ X2 f i, o = Sum.inr X2 ∧ XF t D f i X2 ∧ Er1 8 Gx X2 ∧ MF l D f i M2) ∨ ∃ X2 v u p2 N2, o = Sum.inl (X2, v, u) ∧ XP t D p2 N2 X2 ∧ Er1 8 Gx X2 ∧ MPs l D p2 N2 M2 ∧ okN p2 N2 ∧ p ≤ p2 ∧ (N2.1 = 0 → N.1 = 0 ∧ WV (trs NM).length v u (M2.1 16 x) (M2.1 17 x))) := by
  have ht := hX.1.1
  refine iter_go (P := fun i (s : Hp × Int32 × Int32 × Int32) => ∃ Mi Ni, XP t D (p + 2 * i) Ni s.1 ∧ Er1 8 Gx s.1 ∧ s.2.2.2 = nI i ∧ MPs l D (p + 2 * i) Ni Mi ∧ Ecx 16 17 x Gm Mi ∧ okN (p + 2 * i) Ni ∧ (Ni.1 = 0 → N.1 = 0 ∧ WV (trs NM).length s.2.1 s.2.2.1 (Mi.1 16 x) (Mi.1 17 x)) ∧ ∀ fu r, iter (fun s : Hp => fX11_tellWay_S49 SHM 0 (nI x) r4 s) fu Mi = some r → iter (fun s : Hp => fX11_tellWay_S49 SHM 0 (nI x) r4 s) (fu + i) Gm = some r) 400 (Gx, 0, 0, 0) (by decide) ⟨Gm, N, hX, Er1.rf, rfl, hM, Ecx.rf, hN, fun z => ⟨z, 0, 0, Nat.two_pow_pos _, Nat.two_pow_pos _, rfl, rfl, hv, hv2⟩, fun fu r z => z⟩ (fun i s hi hP => ?_) (fun s hP => ?_)
  · obtain ⟨X, v, u, c⟩ := s
    obtain ⟨Mi, Ni, h1, h2, h3, h4, h5, h6, h7, h8⟩ := hP
    have h3' : c = nI i := h3
    subst h3'
    have h1' : XP t D (p + 2 * i) Ni X := h1
    have h2' : Er1 8 Gx X := h2
    have h7' : Ni.1 = 0 → N.1 = 0 ∧ WV (trs NM).length v u (Mi.1 16 x) (Mi.1 17 x) := h7
    have hNMi : MNm NM Mi := h5.nm hNM (by omega)
    have h8n := hT.1
    have eX : fX6_readWay_S71 SHX 1 X v u (nI i) = if D.1 (p + 2 * i) = 24 then fX6_readWay_J113L71 SHX X 1 v u (nI i) 1 else if D.1 (p + 2 * i) = 25 then fX6_readWay_J113L71 SHX X 1 v u (nI i) 0 else some (.inr (.inl (X, v, u))) := by
      unfold fX6_readWay_S71 fX6_readWay_J98L71
      rw [if_neg (show ¬ (400 : Int32) ≤ nI i from nI_ge (b := 400) hi (by decide)), h1'.2.2.2.2.1]
      by_cases e : D.1 (p + 2 * i) = 24
      · rw [if_pos e, if_pos (by rw [e]; rfl), if_pos (by rw [e]; rfl)]
      · rw [if_neg e, if_neg (show ¬ ck (D.1 (p + 2 * i)) = 265 from fun z => e ((ck_eq (b := 24) (hD.2.1 _) rfl).mp z))]
        by_cases e2 : D.1 (p + 2 * i) = 25
        · rw [if_pos e2, if_pos (by rw [e2]; rfl), if_neg (show ¬ ck (D.1 (p + 2 * i)) = 265 from fun z => e ((ck_eq (b := 24) (hD.2.1 _) rfl).mp z))]
        · rw [if_neg e2, if_neg (show ¬ ck (D.1 (p + 2 * i)) = 266 from fun z => e2 ((ck_eq (b := 25) (hD.2.1 _) rfl).mp z))]
    have i24 : fX11_is SHM Mi 0 24 = some (b2 (decide (D.1 (p + 2 * i) = 24))) := mIs (k := 24) (w := 24) hD h4 rfl (by decide)
    have eM : fX11_tellWay_S49 SHM 0 (nI x) r4 Mi = if D.1 (p + 2 * i) = 24 ∨ D.1 (p + 2 * i) = 25 then fX11_tellWay_J74L49 SHM Mi 0 (nI x) r4 else some (.inr Mi) := by
      unfold fX11_tellWay_S49
      rw [h4.2.2.2.2.1, if_pos rfl, i24]
      simp only [ob]
      by_cases e : D.1 (p + 2 * i) = 24
      · rw [if_pos (Or.inl e), if_neg (by rw [b2_0, decide_eq_false_iff_not]; exact fun z => z e)]
      · rw [if_pos (show b2 (decide (D.1 (p + 2 * i) = 24)) = 0 by rw [b2_0, decide_eq_false_iff_not]; exact e), mIs (k := 25) (w := 25) hD h4 rfl (by decide)]
        simp only [ob]
        by_cases e2 : D.1 (p + 2 * i) = 25
        · rw [if_pos (Or.inr e2), if_neg (by rw [b2_0, decide_eq_false_iff_not]; exact fun z => z e2)]
        · rw [if_neg (show ¬ (D.1 (p + 2 * i) = 24 ∨ D.1 (p + 2 * i) = 25) from fun z => z.elim e e2), if_pos (by rw [b2_0, decide_eq_false_iff_not]; exact e2)]
    show (∃ s2, fX6_readWay_S71 SHX 1 X v u (nI i) = some (.inl s2) ∧ _) ∨ ∃ o, fX6_readWay_S71 SHX 1 X v u (nI i) = some (.inr o) ∧ _
    by_cases e : D.1 (p + 2 * i) = 24 ∨ D.1 (p + 2 * i) = 25
    · rw [if_pos e] at eM
      have eX2 : fX6_readWay_S71 SHX 1 X v u (nI i) = fX6_readWay_J113L71 SHX X 1 v u (nI i) (b2 (decide (D.1 (p + 2 * i) = 24))) := by
        rw [eX]
        by_cases e1 : D.1 (p + 2 * i) = 24
        · rw [if_pos e1, e1]; rfl
        · rw [if_neg e1, if_pos (by omega), decide_eq_false e1]; rfl
      rw [eX2]
      unfold fX6_readWay_J113L71
      have hk0 : D.1 (p + 2 * i) ≠ 0 := by omega
      by_cases hpi : p + 2 * i < 400
      · obtain ⟨X2, y1, y2, y3⟩ := xPass_y (k := D.1 (p + 2 * i)) (w := X.1 1 5) hD h1' h1'.2.2.2.2.1 rfl hk0 hpi
        obtain ⟨M3, n1, n2, n3, -⟩ := mGoes_y hD h4 hk0 hpi
        rw [y1]
        simp only [obp]
        rw [if_neg one_ne]
        have hT2 : XTn (trs NM) X2 := hT.E (by rw [y2.1, h2'.1])
        have h02 : X2.1 (43 - t) 0 = nI (trs NM).length := (y2.2 _ _ (by omega)).trans ((h2'.2 _ _ (by omega)).trans h0)
        have hNM3 : MNm NM M3 := hNMi.E n2
        have y2w : Er1 8 X X2 := ⟨y2.1, fun q k hq => y2.2 q k (by omega)⟩
        by_cases e1 : D.1 (p + 2 * i + 1) = 1 ∧ p + 2 * i + 1 < 400
        · left
          obtain ⟨X4, x1, x2, x3, x4⟩ := xTrait_y hD y3 hT2 h02 e1.1 e1.2
          obtain ⟨M7, m1, m2, m3⟩ := mKnown_y hD n3 (h6.s (by omega)) hNM3 e1.1 e1.2
          rw [mGive hx i24 n1 m1 m3.1] at eM
          rw [x1]
          simp only [obp]
          rw [if_neg one_ne, x4]
          simp only [obd]
          have c16 : ∀ q, q = 16 ∨ q = 17 → M7.1 q x = Mi.1 q x := fun q hq => (m2.2 q x (by omega)).trans (n2.2 q x (by omega))
          rw [c16 16 (by omega), c16 17 (by omega)] at eM
          have hms : ∀ a b, MPs l D (p + 2 * i + 1 + 1) (ntp (fi (trs NM) (D.2.2.2.1 (p + 2 * i + 1))).isNone 4 (p + 2 * i + 1) Ni) (sI (sI M7 16 x a) 17 x b) := fun a b => m3.E rfl rfl (fun q k hq => (sI_ne (by omega)).trans (sI_ne (by omega))) (fun k hk => (sI_ne (by omega)).trans (sI_ne (by omega)))
          have hcx : ∀ a b, Ecx 16 17 x Gm (sI (sI M7 16 x a) 17 x b) := fun a b => h5.tr (n2.cx.tr (m2.cx.tr ((Ecx.s (Or.inl rfl)).tr (Ecx.s (Or.inr rfl)))))
          have hpp : p + 2 * i + 1 + 1 = p + 2 * (i + 1) := by omega
          have hwv : (ntp (fi (trs NM) (D.2.2.2.1 (p + 2 * i + 1))).isNone 4 (p + 2 * i + 1) Ni).1 = 0 → ∃ j, j < (trs NM).length ∧ fi (trs NM) (D.2.2.2.1 (p + 2 * i + 1)) = some j ∧ Ni.1 = 0 := fun z => by
            obtain ⟨z1, z2⟩ := ntp_0 (by decide) z
            cases hf : fi (trs NM) (D.2.2.2.1 (p + 2 * i + 1)) with
            | none => rw [hf] at z2; cases z2
            | some j => exact ⟨j, fi_lt _ _ _ hf, rfl, z1⟩
          rw [hpp] at hms x3
          have hok : okN (p + 2 * (i + 1)) (ntp (fi (trs NM) (D.2.2.2.1 (p + 2 * i + 1))).isNone 4 (p + 2 * i + 1) Ni) := by
            have := (h6.s (show p + 2 * i ≤ p + 2 * i + 1 by omega)).n (f := 4) (b := (fi (trs NM) (D.2.2.2.1 (p + 2 * i + 1))).isNone) (by decide)
            rw [hpp] at this; exact this
          by_cases e24 : D.1 (p + 2 * i) = 24
          · rw [decide_eq_true e24] at eM ⊢
            rw [if_neg (show ¬ b2 true = 0 by decide)]
            unfold fX6_readWay_J161L71
            rw [if_neg (show ¬ b2 true = 0 by decide)]
            rw [if_neg (show ¬ b2 true = 0 by decide), if_neg (show ¬ b2 true = 0 by decide)] at eM
            simp only [obd]
            rw [nI_1]
            have eM2 : (fun s : Hp => fX11_tellWay_S49 SHM 0 (nI x) r4 s) Mi = _ := eM
            refine ⟨_, rfl, (sI (sI M7 16 x (Mi.1 16 x ||| trB (fi (trs NM) (D.2.2.2.1 (p + 2 * i + 1))))) 17 x (Mi.1 17 x &&& (trB (fi (trs NM) (D.2.2.2.1 (p + 2 * i + 1))) ^^^ (-1)))), _, x3, h2'.tr (y2w.tr x2), rfl, hms _ _, hcx _ _, hok, fun z => ?_, fun fu r z => ?_⟩
            rotate_left 1
            · have := h8 (fu + 1) r ((iter_in eM2).trans z)
              rw [show fu + (i + 1) = fu + 1 + i from by omega]; exact this
            · obtain ⟨j, z1, z2, z3⟩ := hwv z
              obtain ⟨z4, z5⟩ := h7' z3
              refine ⟨z4, ?_⟩
              rw [sI_ne (show (16 : Nat) ≠ 17 ∨ _ by omega), sI_same, sI_same, z2]
              show WV _ (v ||| (1 : Int32) <<< (nI j &&& 31)) (u &&& ((1 : Int32) <<< (nI j &&& 31) ^^^ (-1))) (_ ||| (1 : Int32) <<< (nI j &&& 31)) (_ &&& ((1 : Int32) <<< (nI j &&& 31) ^^^ (-1)))
              rw [shl1 (by omega)]
              exact z5.give h8n z1
          · rw [decide_eq_false e24] at eM ⊢
            rw [if_pos (show b2 false = 0 from rfl)]
            unfold fX6_readWay_J161L71
            rw [if_pos (show b2 false = 0 from rfl)]
            rw [if_pos (show b2 false = 0 from rfl), if_pos (show b2 false = 0 from rfl)] at eM
            simp only [obd]
            rw [nI_1]
            have eM2 : (fun s : Hp => fX11_tellWay_S49 SHM 0 (nI x) r4 s) Mi = _ := eM
            refine ⟨_, rfl, (sI (sI M7 16 x (Mi.1 16 x &&& (trB (fi (trs NM) (D.2.2.2.1 (p + 2 * i + 1))) ^^^ (-1)))) 17 x (Mi.1 17 x ||| trB (fi (trs NM) (D.2.2.2.1 (p + 2 * i + 1))))), _, x3, h2'.tr (y2w.tr x2), rfl, hms _ _, hcx _ _, hok, fun z => ?_, fun fu r z => ?_⟩
            rotate_left 1
            · have := h8 (fu + 1) r ((iter_in eM2).trans z)
              rw [show fu + (i + 1) = fu + 1 + i from by omega]; exact this
            · obtain ⟨j, z1, z2, z3⟩ := hwv z
              obtain ⟨z4, z5⟩ := h7' z3
              refine ⟨z4, ?_⟩
              rw [sI_ne (show (16 : Nat) ≠ 17 ∨ _ by omega), sI_same, sI_same, z2]
              show WV _ (v &&& ((1 : Int32) <<< (nI j &&& 31) ^^^ (-1))) (u ||| (1 : Int32) <<< (nI j &&& 31)) (_ &&& ((1 : Int32) <<< (nI j &&& 31) ^^^ (-1))) (_ ||| (1 : Int32) <<< (nI j &&& 31))
              rw [shl1 (by omega)]
              exact z5.drop h8n z1
        · right
          obtain ⟨X4, x1, x2, x3⟩ := xTrait_n hD y3 hT2 h02 e1
          obtain ⟨M7, m1, m2, m3⟩ := mKnown_n hD n3 e1
          rw [mGive hx i24 n1 m1 m3.1] at eM
          rw [x1]
          have eM2 : (fun s : Hp => fX11_tellWay_S49 SHM 0 (nI x) r4 s) Mi = _ := eM
          have mf : ∀ a b, MF l D (if D.1 (p + 2 * i + 1) = 1 then 2 else 1) (p + 2 * i + 1) (sI (sI M7 16 x a) 17 x b) := fun a b => m3.E rfl (fun k hk => (sI_ne (by omega)).trans (sI_ne (by omega)))
          have eO : ∀ a b, (fun s : Hp => fX11_tellWay_S49 SHM 0 (nI x) r4 s) (sI (sI M7 16 x a) 17 x b) = some (.inr (sI (sI M7 16 x a) 17 x b)) := fun a b => by
            show fX11_tellWay_S49 SHM 0 (nI x) r4 _ = _
            unfold fX11_tellWay_S49
            rw [if_neg (mf a b).pos.2.1]
          have := h8 2 _ ((iter_in eM2).trans (iter_out (eO _ _)))
          exact ⟨_, rfl, _, iter_mono _ _ _ _ this (by unfold fuel; omega), h5.tr (n2.cx.tr (m2.cx.tr ((Ecx.s (Or.inl rfl)).tr (Ecx.s (Or.inr rfl))))), Or.inl ⟨X4, _, _, rfl, x3, h2'.tr (y2w.tr x2), mf _ _⟩⟩
      · right
        obtain ⟨X2, y1, y2, y3⟩ := xPass_n (k := D.1 (p + 2 * i)) (w := X.1 1 5) hD h1' h1'.2.2.2.2.1 (hD.2.1 _) (fun z => hpi z.2)
        obtain ⟨M3, n1, n2, n3⟩ := mGoes_n h4 hpi
        rw [if_pos rfl] at y3
        rw [mGive hx i24 n1 (mKnown_f n3) n3.1] at eM
        rw [y1]
        have y2w : Er1 8 X X2 := ⟨y2.1, fun q k hq => y2.2 q k (by omega)⟩
        have eM2 : (fun s : Hp => fX11_tellWay_S49 SHM 0 (nI x) r4 s) Mi = _ := eM
        have mf : ∀ a b, MF l D 2 (p + 2 * i) (sI (sI M3 16 x a) 17 x b) := fun a b => n3.E rfl (fun k hk => (sI_ne (by omega)).trans (sI_ne (by omega)))
        have eO : ∀ a b, (fun s : Hp => fX11_tellWay_S49 SHM 0 (nI x) r4 s) (sI (sI M3 16 x a) 17 x b) = some (.inr (sI (sI M3 16 x a) 17 x b)) := fun a b => by
          show fX11_tellWay_S49 SHM 0 (nI x) r4 _ = _
          unfold fX11_tellWay_S49
          rw [if_neg (mf a b).pos.2.1]
        have := h8 2 _ ((iter_in eM2).trans (iter_out (eO _ _)))
        exact ⟨_, rfl, _, iter_mono _ _ _ _ this (by unfold fuel; omega), h5.tr (n2.cx.tr ((Ecx.s (Or.inl rfl)).tr (Ecx.s (Or.inr rfl)))), Or.inl ⟨X2, _, _, rfl, y3, h2'.tr y2w, mf _ _⟩⟩
    · right
      rw [if_neg e] at eM
      rw [eX, if_neg (fun z => e (Or.inl z)), if_neg (fun z => e (Or.inr z))]
      have eM2 : (fun s : Hp => fX11_tellWay_S49 SHM 0 (nI x) r4 s) Mi = _ := eM
      have := h8 1 _ (iter_out eM2)
      exact ⟨_, rfl, _, iter_mono _ _ _ _ this (by unfold fuel; omega), h5, Or.inr ⟨X, v, u, p + 2 * i, Ni, rfl, h1', h2', h4, h6, by omega, h7'⟩⟩
  · obtain ⟨Mi, Ni, h1, -⟩ := hP
    have := h1.2.2.1.2.1
    omega
end GV
