/-! TELLS: the traits of a being; the end of a being's and a way's tell. -/
/-- the reference's reading, and cell x of a and b -/
def Ecx (a b x : Nat) (G G2 : Hp) : Prop := G2.2 = G.2 ∧ ∀ q k, ¬ (q = 0 ∧ (k = 11 ∨ k = 13 ∨ k = 14 ∨ k = 15 ∨ k = 16)) → ¬ ((q = a ∨ q = b) ∧ k = x) → G2.1 q k = G.1 q k
theorem Ecx.rf {a b x : Nat} {G : Hp} : Ecx a b x G G := ⟨rfl, fun _ _ _ _ => rfl⟩
theorem Ecx.tr {a b x : Nat} {G G2 G3 : Hp} (h : Ecx a b x G G2) (h2 : Ecx a b x G2 G3) : Ecx a b x G G3 := ⟨h2.1.trans h.1, fun q k u v => (h2.2 q k u v).trans (h.2 q k u v)⟩
theorem Er0.cx {a b x : Nat} {G G2 : Hp} (h : Er0 G G2) : Ecx a b x G G2 := ⟨h.1, fun q k u _ => h.2 q k u⟩
theorem Ecx.s {a b x q : Nat} {G : Hp} {v : Int32} (h : q = a ∨ q = b) : Ecx a b x G (sI G q x v) := ⟨rfl, fun q2 k2 _ e => sI_ne (by
  by_cases hq : q2 = q
  · right; intro hk; subst hq; exact e ⟨h, hk⟩
  · left; exact hq)⟩
theorem Ecx.nm {a b x : Nat} {NM : List (List Nat × Bool)} {G G2 : Hp} (h : MNm NM G) (e : Ecx a b x G G2) (ha : 9 < a ∧ 9 < b) : MNm NM G2 := by
  obtain ⟨w1, w2, w3, w4⟩ := h
  exact ⟨(e.2 0 20 (by omega) (by omega)).trans w1, w2, w3, fun j hj => ⟨by rw [e.1]; exact (w4 j hj).1, (e.2 9 j (by omega) (by omega)).trans (w4 j hj).2⟩⟩
theorem Ecx.yl {a b x l : Nat} {G G2 : Hp} (h : Ecx a b x G G2) (ha : sdM l a x ∧ sdM l b x) : EYl l G G2 := ⟨by rw [h.1], fun q _ => by rw [h.1], fun q k u _ _ _ v => h.2 q k (by omega) (fun z => by
  rcases z with ⟨z1 | z1, z2⟩
  · rw [z1, z2] at v; exact v ha.1
  · rw [z1, z2] at v; exact v ha.2)⟩
section OW
variable {t l p cl br co : Nat} {D : TKd} {N : Nat × Nat} {T : Txt} {NM : List (List Nat × Bool)} {Gx Gm : Hp}
theorem jOwn {x : Nat} {r4 : Int32} (hD : TKo D) (hX : XP t D p N Gx) (hT : XTn (trs NM) Gx) (h0 : Gx.1 (43 - t) 0 = nI (trs NM).length) (hM : MPs l D p N Gm) (hNM : MNm NM Gm) (hN : okN p N) (hp : 1 ≤ p) (hx : x < 14) (hv : Gm.1 13 x = 0) :
    ∃ o, iter (fun s : Hp × Int32 × Int32 => fX6_readBeing_S70 SHX 1 s.1 s.2.1 s.2.2) fuel ((Gx, 0, 0) : Hp × Int32 × Int32) = some o ∧ ∃ M2, iter (fun s : Hp => fX11_tellBeing_S43 SHM 0 (nI x) r4 s) fuel Gm = some M2 ∧ Ecx 13 13 x Gm M2 ∧ ((∃ X2 f i, o = Sum.inr X2 ∧ XF t D f i X2 ∧ Er1 8 Gx X2 ∧ MF l D f i M2) ∨ ∃ X2 v p2 N2, o = Sum.inl (X2, v) ∧ XP t D p2 N2 X2 ∧ Er1 8 Gx X2 ∧ MPs l D p2 N2 M2 ∧ okN p2 N2 ∧ p ≤ p2 ∧ (N2.1 = 0 → N.1 = 0 ∧ ∃ w, w < 2 ^ (trs NM).length ∧ v = nI w ∧ M2.1 13 x = nI w)) := by
  have ht := hX.1.1
  refine iter_go (P := fun i (s : Hp × Int32 × Int32) => ∃ Mi Ni, XP t D (p + i) Ni s.1 ∧ Er1 8 Gx s.1 ∧ s.2.2 = nI i ∧ MPs l D (p + i) Ni Mi ∧ Ecx 13 13 x Gm Mi ∧ okN (p + i) Ni ∧ (Ni.1 = 0 → N.1 = 0 ∧ ∃ w, w < 2 ^ (trs NM).length ∧ s.2.1 = nI w ∧ Mi.1 13 x = nI w) ∧ ∀ fu r, iter (fun s : Hp => fX11_tellBeing_S43 SHM 0 (nI x) r4 s) fu Mi = some r → iter (fun s : Hp => fX11_tellBeing_S43 SHM 0 (nI x) r4 s) (fu + i) Gm = some r) 400 (Gx, 0, 0) (by decide) ⟨Gm, N, hX, Er1.rf, rfl, hM, Ecx.rf, hN, fun z => ⟨z, 0, Nat.two_pow_pos _, rfl, hv⟩, fun fu r z => z⟩ (fun i s hi hP => ?_) (fun s hP => ?_)
  · obtain ⟨X, v, c⟩ := s
    obtain ⟨Mi, Ni, h1, h2, h3, h4, h5, h6, h7, h8⟩ := hP
    have h3' : c = nI i := h3
    subst h3'
    have h1' : XP t D (p + i) Ni X := h1
    have h2' : Er1 8 Gx X := h2
    have hTi : XTn (trs NM) X := hT.E (by rw [h2'.1])
    have h0i : X.1 (43 - t) 0 = nI (trs NM).length := (h2'.2 _ _ (by omega)).trans h0
    have hNMi : MNm NM Mi := h5.nm hNM (by omega)
    have eX : fX6_readBeing_S70 SHX 1 X v (nI i) = if D.1 (p + i) = 1 then bp (fX6_readTraitName SHX X 1) fun r3 G4 => if r3 = 0 then some (.inr (.inr G4)) else bd ((v ||| ((1 : Int32) <<< ((G4.1 1 8) &&& 31))) : Int32) fun x6 => bd ((nI i + 1) : Int32) fun x7 => some (.inl (G4, x6, x7)) else some (.inr (.inl (X, v))) := by
      unfold fX6_readBeing_S70
      rw [if_neg (show ¬ (400 : Int32) ≤ nI i from nI_ge (b := 400) hi (by decide)), h1'.2.2.2.2.1]
      by_cases e : D.1 (p + i) = 1
      · rw [if_pos e, if_pos (by rw [e]; rfl)]
      · rw [if_neg e, if_neg (show ¬ ck (D.1 (p + i)) = 1 from fun z => e ((ck_eq (b := 1) (hD.2.1 _) rfl).mp z))]
    have eM : (fun s : Hp => fX11_tellBeing_S43 SHM 0 (nI x) r4 s) Mi = if D.1 (p + i) = 1 then bp (fX11_knownTrait SHM Mi 0) fun r6 G7 => (asI SHM G7 13 (nI x) ((Mi.1 13 x) ||| r6)).bind fun G8 => some (.inl G8) else some (.inr Mi) := by
      show fX11_tellBeing_S43 SHM 0 (nI x) r4 Mi = _
      unfold fX11_tellBeing_S43
      rw [h4.2.2.2.2.1, if_pos rfl, mIs (k := 1) (w := 1) hD h4 rfl (by decide)]
      simp only [ob]
      by_cases e : D.1 (p + i) = 1
      · rw [if_pos e, if_neg (by rw [b2_0, decide_eq_false_iff_not]; exact fun z => z e), ml_26 h4.1]
        simp only [ob]
        rw [aI_n (by rw [mn_13]; exact hx) (by omega)]
        rfl
      · rw [if_neg e, if_pos (by rw [b2_0, decide_eq_false_iff_not]; exact e)]
    show (∃ s2, fX6_readBeing_S70 SHX 1 X v (nI i) = some (.inl s2) ∧ _) ∨ ∃ o, fX6_readBeing_S70 SHX 1 X v (nI i) = some (.inr o) ∧ _
    rw [eX]
    by_cases e : D.1 (p + i) = 1
    · rw [if_pos e]
      rw [if_pos e] at eM
      by_cases hpi : p + i < 400
      · left
        obtain ⟨X4, x1, x2, x3, x4⟩ := xTrait_y hD h1' hTi h0i e hpi
        obtain ⟨M7, m1, m2, m3⟩ := mKnown_y hD h4 h6 hNMi e hpi
        rw [m1] at eM
        simp only [obp] at eM
        rw [asI_n (by rw [mn_13]; exact hx) (by omega)] at eM
        simp only [ob] at eM
        rw [x1]
        simp only [obp]
        rw [if_neg one_ne, x4]
        simp only [obd]
        rw [nI_1]
        have eM2 : (fun s : Hp => fX11_tellBeing_S43 SHM 0 (nI x) r4 s) Mi = some (.inl (sI M7 13 x (Mi.1 13 x ||| trB (fi (trs NM) (D.2.2.2.1 (p + i)))))) := eM
        refine ⟨_, rfl, sI M7 13 x (Mi.1 13 x ||| trB (fi (trs NM) (D.2.2.2.1 (p + i)))), _, x3, h2'.tr x2, rfl, m3.E rfl rfl (fun q k hq => sI_ne (by omega)) (fun k hk => sI_ne (by omega)), h5.tr (m2.cx.tr (Ecx.s (Or.inl rfl))), h6.n (by decide), fun z => ?_, fun fu r z => ?_⟩
        · obtain ⟨z1, z2⟩ := ntp_0 (by decide) z
          obtain ⟨z3, w, w1, w2, w3⟩ := h7 z1
          cases hf : fi (trs NM) (D.2.2.2.1 (p + i)) with
          | none => rw [hf] at z2; cases z2
          | some j =>
            have hj := fi_lt _ _ _ hf
            have h8' := hT.1
            refine ⟨z3, w ||| 2 ^ j, Nat.or_lt_two_pow w1 (Nat.pow_lt_pow_right (by decide) hj), ?_, ?_⟩
            · show v ||| (1 : Int32) <<< (nI j &&& 31) = _
              have w2' : v = nI w := w2
              rw [w2', shl1 (by omega), nI_or]
            · rw [sI_same, w3]
              show nI w ||| (1 : Int32) <<< (nI j &&& 31) = _
              rw [shl1 (by omega), nI_or]
        · have := h8 (fu + 1) r ((iter_in eM2).trans z)
          rw [show fu + (i + 1) = fu + 1 + i from by omega]; exact this
      · right
        obtain ⟨X4, x1, x2, x3⟩ := xTrait_n hD h1' hTi h0i (fun z => hpi z.2)
        obtain ⟨M7, m1, m2, m3⟩ := mKnown_n hD h4 (fun z => hpi z.2)
        rw [m1] at eM
        simp only [obp] at eM
        rw [asI_n (by rw [mn_13]; exact hx) (by omega)] at eM
        simp only [ob] at eM
        rw [x1]
        have mf := m3.E (G2 := sI M7 13 x (Mi.1 13 x ||| 0)) rfl (fun k hk => sI_ne (by omega))
        have eO : (fun s : Hp => fX11_tellBeing_S43 SHM 0 (nI x) r4 s) (sI M7 13 x (Mi.1 13 x ||| 0)) = some (.inr (sI M7 13 x (Mi.1 13 x ||| 0))) := by
          show fX11_tellBeing_S43 SHM 0 (nI x) r4 _ = _
          unfold fX11_tellBeing_S43
          rw [if_neg mf.pos.2.1]
        have eM2 : (fun s : Hp => fX11_tellBeing_S43 SHM 0 (nI x) r4 s) Mi = some (.inl (sI M7 13 x (Mi.1 13 x ||| 0))) := eM
        have := h8 2 _ ((iter_in eM2).trans (iter_out eO))
        exact ⟨_, rfl, _, iter_mono _ _ _ _ this (by unfold fuel; omega), h5.tr (m2.cx.tr (Ecx.s (Or.inl rfl))), Or.inl ⟨X4, _, _, rfl, x3, h2'.tr x2, mf⟩⟩
    · right
      rw [if_neg e]
      rw [if_neg e] at eM
      have := h8 1 _ (iter_out eM)
      exact ⟨_, rfl, _, iter_mono _ _ _ _ this (by unfold fuel; omega), h5, Or.inr ⟨X, v, p + i, Ni, rfl, h1', h2', h4, h6, by omega, h7⟩⟩
  · obtain ⟨Mi, Ni, h1, -⟩ := hP
    have := h1.2.2.1.2.1
    omega
end OW
