/-! ALL: both sides, and the step. -/
theorem clo_s {r : Nat → Int32} : ∀ c b, clo r b (c + 1) = clo r b c ++ (if r (4 + (b + c)) = 0 then [b + c] else [])
  | 0, b => by
    show (if r (4 + b) = 0 then b :: [] else []) = [] ++ _
    rw [List.nil_append, Nat.add_zero]
  | c + 1, b => by
    have ih := clo_s (r := r) c (b + 1)
    rw [show b + 1 + c = b + (c + 1) by omega] at ih
    by_cases h : r (4 + b) = 0
    · rw [clo_y h, clo_y h, ih]; rfl
    · rw [clo_n h, clo_n h, ih]
theorem clo_mem {r : Nat → Int32} : ∀ c b x, r (4 + x) = 0 → b ≤ x → x < b + c → x ∈ clo r b c
  | 0, _, _, _, _, _ => by omega
  | c + 1, b, x, h, h1, h2 => by
    by_cases e : x = b
    · subst e; rw [clo_y h]; exact List.mem_cons_self ..
    · have := clo_mem c (b + 1) x h (by omega) (by omega)
      by_cases h0 : r (4 + b) = 0
      · rw [clo_y h0]; exact List.mem_cons_of_mem _ this
      · rw [clo_n h0]; exact this
theorem getD_mem {L : List Nat} {j : Nat} (h : j < L.length) : L.getD j 0 ∈ L := by
  rw [List.getD_eq_getElem?_getD, List.getElem?_eq_getElem h]; exact List.getElem_mem h
theorem PA_at {c1 c2 : Nat} {G : Hp} : ∀ (bs ps : List Nat), PA c1 c2 bs ps G → ∀ j, j < bs.length → G.1 c1 (bs.getD j 0) = nI (ps.getD j 0 / 5) ∧ G.1 c2 (bs.getD j 0) = wv (ps.getD j 0 % 5)
  | [], [], _, j, h => by cases h
  | _ :: _, _ :: _, h, 0, _ => h.1
  | _ :: bs, _ :: ps, h, j + 1, hj => PA_at bs ps h.2 j (by simpa using hj)
  | [], _ :: _, h, _, _ => h.elim
  | _ :: _, [], h, _, _ => h.elim
def p35 (o : OB) : Prop := ∀ z, o = some z → ∀ x ∈ z.2, x < 35
theorem fo_35 {f : Nat → OB → OB} : ∀ c p o, p + c ≤ 35 → (∀ p2 o, p2 < 35 → p35 o → p35 (f p2 o)) → p35 o → p35 (fo f p c o)
  | 0, _, _, _, _, h => h
  | c + 1, p, o, hp, hf, h => fo_35 c (p + 1) (f p o) (by omega) hf (hf p o (by omega) h)
theorem srch_35 {T : Txt} : ∀ (bs : List Nat) (q : Nat → Int32) (lost : Nat) (ps : List Nat) (o : OB), (∀ x ∈ ps, x < 35) → p35 o → p35 (srch T bs q lost ps o)
  | [], _, lost, ps, o, h1, h2 => by
    show p35 (if lost < cst o then some (lost, ps) else o)
    split
    · intro z hz x hx
      simp only [Option.some.injEq] at hz
      subst hz
      exact h1 x hx
    · exact h2
  | b :: bs, q, lost, ps, o, h1, h2 => by
    rw [srch_c]
    refine fo_35 35 0 o (by omega) (fun p2 o2 hp2 ho2 => ?_) h2
    unfold fP
    split
    · refine srch_35 bs _ _ _ o2 (fun x hx => ?_) ho2
      rcases List.mem_append.mp hx with h | h
      · exact h1 x h
      · rw [List.mem_singleton.mp h]; exact hp2
    · exact ho2
theorem xFindAll {t : Nat} {T : Txt} {r : Nat → Int32} {G : Hp} (hx : LX t G) (hT : XT t T G) (hW : WFT T) (hG : XG T 53 r G) (hr : WFG T r) : ∃ G2, fX5_findForAll SHX G 287 t 53 = some (if srch T (clo r 0 (T.1 3)) r 0 [] none = none then 0 else 1, G2) ∧ E287 G G2 ∧ BX (clo r 0 (T.1 3)) (srch T (clo r 0 (T.1 3)) r 0 [] none) G2 := by
  have ht := hx.1
  have hw := hW.1
  have h128 : 2 ^ T.1 1 ≤ 128 := Nat.le_trans (pow_le hw.2.1) (by decide)
  unfold fX5_findForAll
  rw [xl_287_6 hx]
  simp only [ob]
  obtain ⟨G3, c1, c2', c3⟩ := xCopyG (g := 290) (o := 53) hx hW isG_290 isG_53 (by decide) hG
  rw [c1]
  simp only [ob, obd]
  have e3 : E287 G G3 := ⟨c2'.1, fun q k hq => c2'.2 q k (by omega)⟩
  have e4 : E287 G (sI G3 287 3 1000000) := e3.tr (E287.s (by decide))
  have g4 : XG T 290 r (sI G3 287 3 1000000) := XG_fr c3 (fun q k a b => sI_ne (by omega))
  have v4 : (sI G3 287 3 1000000).1 287 3 = 1000000 := sI_same
  generalize sI G3 287 3 1000000 = G4 at e4 g4 v4
  have hx4 := e4.X.L hx
  have hT4 := e4.X.T ht hT
  rw [hT4.1 1 (by decide), shl1 (by omega), hT4.1 3 (by decide), xl_287_11 hx4]
  simp only [ob]
  obtain ⟨G8, f1, f2, f3, f4⟩ := xFill (G := G4) (q := 299) (lo := T.1 3 * 128) (hi := T.1 3 * 128 + 2 ^ T.1 1) (v := 0) (Nat.le_add_right _ _) (by rw [xnn_299]; omega) (by rw [xnn_299]; omega)
  rw [show nI (T.1 3) * 128 = nI (T.1 3 * 128) from pk_mul (T.1 3) 128, nI_add, f1]
  simp only [ob]
  have e8 : E287 G G8 := e4.tr ⟨f2, fun q k hq => f3 q k (by omega)⟩
  have hx8 := e8.X.L hx
  have hT8 := e8.X.T ht hT
  have g8 : XG T 290 r G8 := XG_fr g4 (fun q k a b => f3 q k (by omega))
  have v8 : G8.1 287 3 = 1000000 := (f3 287 3 (by omega)).trans v4
  rw [hT8.1 3 (by decide)]
  obtain ⟨G11, t1, t2, t3⟩ := xTab hx8 hT8 hW g8 hr (fun left hl => ⟨0, by omega, f4 _ (by omega) (by omega), LB_0⟩)
  rw [show nI (T.1 3) - 1 = wv (T.1 3) from rfl, t1]
  simp only [ob]
  have hx11 := t2.L hx8
  have hT11 := t2.T ht hT8
  have g11 := t2.G g8
  have v11 : G11.1 287 3 = 1000000 := (t2.2 287 3 (by decide) (by decide)).trans v8
  obtain ⟨m, m1, m2⟩ := id hr.2.2.2
  rw [xl_287_11 hx11, xl_287_6 hx11]
  simp only [ob]
  obtain ⟨x, x1, x2, x3⟩ := t3 0 (by omega) m m1
  rw [Nat.zero_mul, Nat.zero_add] at x2
  rw [show G11.1 290 6 = nI m from g11.2.2.2.2.2.1.trans m2, aI_n (by rw [xnn_299]; omega) (by omega), x2]
  simp only [ob]
  rw [Nat.sub_zero] at x3
  by_cases hbig : 1000000 ≤ x
  · rw [if_pos (show (1000000 : Int32) ≤ nI x from nI_le (a := 1000000) hbig (by omega)), v11, if_pos (by decide), x3 r 0 [] none hr (fun _ h => h) m2 (by show 1000000 ≤ 0 + x; omega), if_pos rfl]
    exact ⟨_, rfl, e8.tr t2.X, v11⟩
  · rw [if_neg (show ¬ (1000000 : Int32) ≤ nI x from nI_ge (b := 1000000) (by omega) (by decide))]
    obtain ⟨Gw, l1, l2, l3⟩ := xLookUp hx11 hT11 hW
    rw [l1]
    simp only [ob]
    obtain ⟨G18, d1, d2, d3, d4⟩ := xChoose (t := t) (r := r) (all := clo r 0 (T.1 3)) hW 8 0 (by omega) (by omega) r 0 [] none [] Gw (l2.L hx11) (l2.T ht hT11) (XG_fr g11 (fun q k a b => l2.2 q k (by omega))) hr (fun _ h => h) (fun _ _ => rfl) (fun b hb => AL_fr hW (t3 b hb) (fun k _ _ => l2.2 299 k (by decide))) l3 ((l2.2 287 3 (by decide)).trans v11) trivial (fun _ h => by cases h) (by rw [Nat.sub_zero]; rfl) (by show 0 < 1000000; decide)
    rw [Nat.sub_zero] at d4
    rw [show (0 : Int32) = nI 0 from rfl, d1]
    simp only [ob]
    cases ho : srch T (clo r 0 (T.1 3)) r 0 [] none with
    | none =>
      rw [ho] at d4
      rw [show G18.1 287 3 = 1000000 from d4, if_pos (by decide), if_pos rfl]
      exact ⟨_, rfl, ((e8.tr t2.X).tr l2.X).tr d2.X, d4⟩
    | some z =>
      rw [ho] at d4
      rw [show G18.1 287 3 = nI z.1 from d4.2.1, if_neg (show ¬ (1000000 : Int32) ≤ nI z.1 from nI_ge (b := 1000000) d4.1 (by decide)), if_neg (by simp)]
      exact ⟨_, rfl, ((e8.tr t2.X).tr l2.X).tr d2.X, d4⟩
theorem bnd_3 : ∀ n, n ≤ 3 → 35 * (1 + bnd n) + 1 ≤ 2000000 := by decide
theorem mFillsAll {T : Txt} {t l : Nat} {r : Nat → Int32} {n u nx : Nat} {hi : Nat → Nat → Int32} {hb : Nat} {sl : Nat → Nat → Int32} {m : Nat} {Gx Gm : Hp} (h : Inv0 T t l r n u nx hi hb sl m Gx Gm) : ∃ G2, fX11_fillsAll SHM Gm 0 = some G2 ∧ EssM Gm G2 ∧ G2.1 0 69 = nI (clo r 0 (T.1 3)).length ∧ (∀ j, j < (clo r 0 (T.1 3)).length → G2.1 45 j = nI ((clo r 0 (T.1 3)).getD j 0)) ∧ BM (clo r 0 (T.1 3)).length (srch T (clo r 0 (T.1 3)) r 0 [] none) G2 := by
  have hW := h.2.2.2.2.1
  have hr := h.2.2.2.2.2.2.2.1
  have hw := hW.1
  obtain ⟨Gc, c1, c2', c3, c4, -, -⟩ := h.C
  unfold fX11_fillsAll
  rw [c1]
  simp only [ob, obd]
  have e3 : EssM Gm (sI Gc 0 69 0) := c2'.tr (EssM.sI (by unfold scrM; omega))
  have r3 : MR r (sI Gc 0 69 0) := c3.E (fun k _ => sI_ne (Or.inl (by decide)))
  have v3 : (sI Gc 0 69 0).1 0 69 = nI 0 := sI_same
  have m3 : ML0 l T (sI Gc 0 69 0) := (EssM.sI (G := Gc) (q := 0) (k := 69) (v := 0) (by unfold scrM; omega)).M c4
  generalize sI Gc 0 69 0 = G3 at e3 r3 v3 m3
  obtain ⟨G5, b1, b2', b3, b4, b5⟩ := iter_go (f := fun s : Hp × Int32 => fX11_fillsAll_S11 SHM 0 s.1 s.2) (P := fun b s => s.2 = nI b ∧ EssM G3 s.1 ∧ MR r s.1 ∧ s.1.1 0 69 = nI (clo r 0 b).length ∧ ∀ j, j < (clo r 0 b).length → s.1.1 45 j = nI ((clo r 0 b).getD j 0)) (Q := fun o => EssM G3 o ∧ MR r o ∧ o.1 0 69 = nI (clo r 0 (T.1 3)).length ∧ ∀ j, j < (clo r 0 (T.1 3)).length → o.1 45 j = nI ((clo r 0 (T.1 3)).getD j 0)) (T.1 3) (G3, 0) (by omega) ⟨rfl, EssM.rf, r3, v3, fun j hj => by cases hj⟩ (by
    rintro b ⟨G1, x⟩ hb ⟨rfl, f1, f2, f3, f4⟩
    left
    dsimp only at f1 f2 f3 f4 ⊢
    have hM1 := f1.M m3
    have hl := clo_len (r := r) b 0
    have hs := clo_s (r := r) b 0
    rw [Nat.zero_add] at hs
    unfold fX11_fillsAll_S11
    rw [ml_31 hM1.1]
    simp only [ob]
    rw [aI_l (n := 0) hM1 mn_18, hM1.2.2.2.1.1.2.2.2.1]
    simp only [ob]
    rw [if_neg (nI_ge hb (by omega)), ml_59 hM1.1]
    simp only [ob]
    rw [show (4 : Int32) + nI b = nI (4 + b) from nI_add 4 b, m40 (by omega), f2 (4 + b) (by omega)]
    simp only [ob]
    by_cases h0 : r (4 + b) = 0
    · rw [if_pos h0] at hs
      rw [if_pos h0, ml_68 hM1.1]
      simp only [ob]
      rw [f3, asI_n (by rw [mn_45]; omega) (by omega)]
      simp only [ob, obd]
      rw [sI_ne (Or.inl (by decide)), f3, nI_1]
      refine ⟨_, rfl, nI_1 b, f1.tr ((EssM.sI (by unfold scrM; omega)).tr (EssM.sI (by unfold scrM; omega))), f2.E (fun k _ => by dsimp only; rw [sI_ne (Or.inl (by decide)), sI_ne (Or.inl (by decide))]), ?_, fun j hj => ?_⟩
      · show (sI _ 0 69 _).1 0 69 = _
        rw [sI_same, hs, List.length_append]; rfl
      · show (sI (sI G1 45 (clo r 0 b).length (nI b)) 0 69 _).1 45 j = _
        rw [hs, List.length_append] at hj
        have hj2 : j < (clo r 0 b).length + 1 := hj
        rw [sI_ne (Or.inl (by decide)), hs]
        by_cases e : j = (clo r 0 b).length
        · rw [e, sI_same, getD_snoc]
        · rw [sI_ne (Or.inr e), getD_pre (by omega)]; exact f4 j (by omega)
    · rw [if_neg h0, List.append_nil] at hs
      rw [if_neg h0]
      simp only [obd]
      refine ⟨_, rfl, nI_1 b, f1, f2, ?_⟩
      rw [hs]; exact ⟨f3, f4⟩) (by
    rintro ⟨G1, x⟩ ⟨rfl, f1, f2, f3, f4⟩
    dsimp only at f1 f2 f3 f4 ⊢
    have hM1 := f1.M m3
    unfold fX11_fillsAll_S11
    rw [ml_31 hM1.1]
    simp only [ob]
    rw [aI_l (n := 0) hM1 mn_18, hM1.2.2.2.1.1.2.2.2.1]
    simp only [ob]
    rw [if_pos (nI_le (Nat.le_refl _) (by omega))]
    exact ⟨_, rfl, f1, f2, f3, f4⟩)
  rw [b1]
  simp only [ob]
  have hM5 := b2'.M m3
  have hlen : (clo r 0 (T.1 3)).length ≤ 4 := Nat.le_trans (clo_len _ _) hw.2.2.2.1
  rw [b4]
  have J : ∀ (s0 v : Int32), (∃ G2, (iter (fun s : Hp × Int32 => fX11_fillsAll_S113 SHM 0 s.1 s.2) fuel ((sI (sI (sI G5 0 73 v) 46 0 (-1)) 47 0 (r 21), s0) : Hp × Int32)) = some G2 ∧ EssM Gm G2 ∧ G2.1 0 69 = nI (clo r 0 (T.1 3)).length ∧ (∀ j, j < (clo r 0 (T.1 3)).length → G2.1 45 j = nI ((clo r 0 (T.1 3)).getD j 0)) ∧ BM (clo r 0 (T.1 3)).length (srch T (clo r 0 (T.1 3)) r 0 [] none) G2) → ∃ G2, fX11_fillsAll_J92 SHM (sI G5 0 73 v) 0 s0 = some G2 ∧ EssM Gm G2 ∧ G2.1 0 69 = nI (clo r 0 (T.1 3)).length ∧ (∀ j, j < (clo r 0 (T.1 3)).length → G2.1 45 j = nI ((clo r 0 (T.1 3)).getD j 0)) ∧ BM (clo r 0 (T.1 3)).length (srch T (clo r 0 (T.1 3)) r 0 [] none) G2 := by
    rintro s0 v ⟨G2, k1, k2⟩
    refine ⟨G2, ?_, k2⟩
    unfold fX11_fillsAll_J92
    have hL1 : LM (sI G5 0 73 v) := hM5.1
    rw [ml_70 hL1]
    simp only [ob]
    rw [show (0 : Int32) = nI 0 from rfl, asI_n (by rw [mn_46]; decide) (by decide)]
    simp only [ob]
    have hL2 : LM (sI (sI G5 0 73 v) 46 0 (-1)) := hM5.1
    rw [ml_71 hL2, ml_59 hL2]
    simp only [ob]
    rw [show (21 : Int32) = nI 21 from rfl, m40 (by decide), sI_ne (Or.inl (by decide)), sI_ne (Or.inl (by decide)), b3 21 (by decide)]
    simp only [ob]
    rw [asI_n (by rw [mn_47]; decide) (by decide)]
    simp only [ob, obd]
    rw [k1]
    rfl
  have f6 : ∀ v, EssM G5 (sI (sI (sI G5 0 73 v) 46 0 (-1)) 47 0 (r 21)) := fun v => ((EssM.sI (by unfold scrM; omega)).tr (EssM.sI (by unfold scrM; omega))).tr (EssM.sI (by unfold scrM; omega))
  have n6 : ∀ v q k, ¬ (q = 0 ∧ k = 73) → q ≠ 46 → q ≠ 47 → (sI (sI (sI G5 0 73 v) 46 0 (-1)) 47 0 (r 21)).1 q k = G5.1 q k := fun v q k a1 a2 a3 => by rw [sI_ne (Or.inl a3), sI_ne (Or.inl a2), sI_ne (by omega)]
  have w6 : ∀ v, (sI (sI (sI G5 0 73 v) 46 0 (-1)) 47 0 (r 21)).1 0 73 = v := fun v => by rw [sI_ne (Or.inl (by decide)), sI_ne (Or.inl (by decide)), sI_same]
  have x6 : ∀ v, (sI (sI (sI G5 0 73 v) 46 0 (-1)) 47 0 (r 21)).1 46 0 = wv 0 := fun v => by rw [sI_ne (Or.inl (by decide)), sI_same]; rfl
  have y6 : ∀ v, (sI (sI (sI G5 0 73 v) 46 0 (-1)) 47 0 (r 21)).1 47 0 = r 21 := fun v => sI_same
  unfold fX11_fillsAll_J77
  simp only [obd]
  rw [show (sI G5 0 73 0).1 0 69 = nI (clo r 0 (T.1 3)).length by rw [sI_ne (Or.inr (by decide))]; exact b4, show (sI G5 0 73 (-1)).1 0 69 = nI (clo r 0 (T.1 3)).length by rw [sI_ne (Or.inr (by decide))]; exact b4]
  have EE : ∀ v, EssM Gm (sI (sI (sI G5 0 73 v) 46 0 (-1)) 47 0 (r 21)) := fun v => (e3.tr b2').tr (f6 v)
  cases hall : clo r 0 (T.1 3) with
  | nil =>
    rw [hall] at b4 b5 J
    rw [if_pos (show nI ([] : List Nat).length = 0 from rfl), if_pos (show nI ([] : List Nat).length = 0 from rfl)]
    refine J (-1) 0 ?_
    obtain ⟨f, hf⟩ := fuel_is 1 (by decide)
    rw [hf]
    have ho : (fun s : Hp × Int32 => fX11_fillsAll_S113 SHM 0 s.1 s.2) (sI (sI (sI G5 0 73 0) 46 0 (-1)) 47 0 (r 21), (-1)) = some (.inr (sI (sI (sI G5 0 73 0) 46 0 (-1)) 47 0 (r 21))) := by
      dsimp only
      unfold fX11_fillsAll_S113
      rw [if_pos (by decide)]
    rw [iter_out ho]
    exact ⟨_, rfl, EE 0, (n6 0 0 69 (by omega) (by decide) (by decide)).trans b4, fun j hj => (by cases hj), ⟨by decide, w6 0, rfl, fun j hj => (by cases hj)⟩⟩
  | cons b bs =>
    rw [hall] at b4 b5 J hlen
    rw [List.length_cons] at hlen
    have hne : ¬ nI (b :: bs).length = 0 := fun z => by
      have := (nI_eq (b := 0) (by rw [List.length_cons]; omega) (by decide)).mp z
      rw [List.length_cons] at this; omega
    rw [if_neg hne, if_neg hne]
    refine J 0 (-1) ?_
    have hab : ∀ j, j < (b :: bs).length → (b :: bs).getD j 0 < T.1 3 := fun j hj => by
      have := clo_lt (r := r) (T.1 3) 0 ((b :: bs).getD j 0) (by rw [hall]; exact getD_mem hj)
      omega
    obtain ⟨m1, G2, k1, k2, k3, k4, k5⟩ := mLevel (l := l) (r := r) (all := b :: bs) hr hW (by rw [List.length_cons]; omega) hab bs b [] rfl 35 0 rfl r 0 [] none (sI (sI (sI G5 0 73 (-1)) 46 0 (-1)) 47 0 (r 21)) ⟨(f6 (-1)).M hM5, (n6 (-1) 0 69 (by omega) (by decide) (by decide)).trans b4, fun j hj => (n6 (-1) 45 j (by omega) (by decide) (by decide)).trans (b5 j hj), ⟨rfl, fun j hj => (by cases hj)⟩, ⟨fun j hj => (n6 (-1) 40 j (by omega) (by decide) (by decide)).trans (b3 j (by omega)), (n6 (-1) 40 25 (by omega) (by decide) (by decide)).trans (b3 25 (by decide)), fun j hj _ => (n6 (-1) 40 _ (by omega) (by decide) (by decide)).trans (b3 _ (by omega))⟩, hr, y6 (-1), x6 (-1), fun a _ => ⟨fun z => ⟨z, fun j hj => (by cases hj)⟩, fun z => z.1⟩, rfl, w6 (-1)⟩
    have hm1 := Nat.le_trans k1 (bnd_3 bs.length (by omega))
    obtain ⟨f, hf⟩ := fuel_is (m1 + 1) (by omega)
    rw [hf, show f + (m1 + 1) = (f + 1) + m1 by omega]
    have k2' := k2 (f + 1)
    rw [show nI ([] : List Nat).length = 0 from rfl] at k2'
    rw [k2']
    have ho : (fun s : Hp × Int32 => fX11_fillsAll_S113 SHM 0 s.1 s.2) (G2, wv ([] : List Nat).length) = some (.inr G2) := by
      show fX11_fillsAll_S113 SHM 0 G2 (wv 0) = _
      unfold fX11_fillsAll_S113
      rw [if_pos (by decide)]
    rw [iter_out ho]
    refine ⟨_, rfl, (EE (-1)).tr k3.M, ?_, fun j hj => ?_, ?_⟩
    · rw [k3.2 0 69 (by decide) (by decide) (by decide) (by omega) (by omega)]; exact (n6 (-1) 0 69 (by omega) (by decide) (by decide)).trans b4
    · rw [k3.2 45 j (by decide) (by decide) (by decide) (by omega) (by omega)]; exact (n6 (-1) 45 j (by omega) (by decide) (by decide)).trans (b5 j hj)
    · rw [srch_c]; exact k5
theorem pk35b : ∀ p, p < 35 → ((nI p - nI p / 5 * 5 = 0) ↔ p % 5 = 0) := by decide +kernel
theorem step17 {Gx Gm : Hp} (hI : Inv Gx Gm) (b w : Int32) : Step17 SHX SHM Inv Gx Gm b w := by
  have hI0 := hI
  obtain ⟨T, t, l, r, n, u, nx, hi, hb, sl, m, h⟩ := hI
  have hM := h.M
  have hx := h.1
  have hW := h.2.2.2.2.1
  have hT := h.2.2.2.2.2.1
  have hr := h.2.2.2.2.2.2.2.1
  have hG := h.2.2.2.2.2.2.2.2.1
  have h39 := h.2.2.2.2.2.2.2.2.2.1
  have hw := hW.1
  obtain ⟨G2, x1, x2, x3⟩ := xFindAll hx hT hW hG hr
  obtain ⟨G3, y1, y2, y3, y4, y5⟩ := mFillsAll h
  have fin := x2.X.I y2 h
  have hx2 := x2.X.L hx
  have h35 := srch_35 (T := T) (clo r 0 (T.1 3)) r 0 [] none (fun x hx => by cases hx) (fun z hz => by cases hz)
  have hlen : (clo r 0 (T.1 3)).length ≤ 4 := Nat.le_trans (clo_len _ _) hw.2.2.2.1
  unfold Step17 fX10_all fX11_all
  by_cases hm1 : b = -1
  · subst hm1
    rw [if_pos rfl, if_pos rfl, xl_0_9 hx, xl_text hx, xl_0_3 hx]
    simp only [ob]
    unfold fX11_all_J24 fX11_all_J43
    rw [x1, if_pos rfl, y1]
    simp only [obp, ob]
    cases ho : srch T (clo r 0 (T.1 3)) r 0 [] none with
    | none =>
      rw [ho] at y5
      rw [if_pos rfl, if_pos rfl, show G3.1 0 73 = -1 from y5, if_neg (by decide)]
      exact ⟨_, _, _, rfl, rfl, fin⟩
    | some z =>
      rw [ho] at x3 y5
      rw [if_neg (show ¬ (some z = none) by simp), if_neg one_ne, xl_0_9 hx2, show G3.1 0 73 = nI z.1 from y5.2.1, if_pos (nI_pos' (by have := y5.1; omega)), if_pos trivial]
      simp only [ob]
      rw [show G2.1 287 3 = nI z.1 from x3.2.1]
      exact ⟨_, _, _, rfl, rfl, fin⟩
  · rw [if_neg hm1, if_neg hm1, xl_text hx]
    simp only [ob]
    by_cases hb : rng b (T.1 3)
    · obtain ⟨b, hb, rfl⟩ := hb
      rw [xBridge_y hT hW hb, mBridge_y hM hb]
      simp only [ob, if_neg one_ne]
      by_cases ha : rng w 2
      · obtain ⟨k, hk, rfl⟩ := ha
        rw [in2_y hk, if_neg (nI_pos (by omega)), if_pos (show nI k ≤ 1 from nI_le (b := 1) (by omega) (by decide)), xl_0_3 hx]
        simp only [ob, if_neg one_ne]
        unfold fX11_all_J24
        rw [if_neg hm1, xg_1 isG_53 hx, ml_58 hM.1]
        simp only [ob]
        rw [aI_n (by rw [xgn_1 isG_53]; omega) (by omega), hG.2.1 b (by omega), show (4 : Int32) + nI b = nI (4 + b) from nI_add 4 b, aI_n (by rw [mn_39]; omega) (by omega), h39 (4 + b) (by omega)]
        simp only [ob]
        by_cases h0 : r (4 + b) = 0
        · rw [if_pos h0, if_pos h0, xl_0_9 hx]
          simp only [ob]
          unfold fX11_all_J43
          rw [x1, y1]
          simp only [obp, ob]
          cases ho : srch T (clo r 0 (T.1 3)) r 0 [] none with
          | none =>
            rw [ho] at y5
            rw [if_pos rfl, if_pos rfl, show G3.1 0 73 = -1 from y5, if_neg (by decide)]
            exact ⟨_, _, _, rfl, rfl, fin⟩
          | some z =>
            rw [ho] at x3 y5 h35
            obtain ⟨j0, j1, j2⟩ := List.getElem_of_mem (clo_mem (T.1 3) 0 b h0 (by omega) (by omega))
            obtain ⟨o, q1, j, q2, q3, rfl⟩ := iter_go (f := fun s : Int32 × Int32 => fX11_all_S72 SHM 0 (nI b) (nI k) G3 s.1 s.2) (P := fun i s => s.2 = nI i ∧ ((∃ j, j < i ∧ (clo r 0 (T.1 3)).getD j 0 = b ∧ s.1 = nI (z.2.getD j 0)) ∨ ∀ j, j < i → (clo r 0 (T.1 3)).getD j 0 ≠ b)) (Q := fun o => ∃ j, j < (clo r 0 (T.1 3)).length ∧ (clo r 0 (T.1 3)).getD j 0 = b ∧ o = nI (z.2.getD j 0)) (clo r 0 (T.1 3)).length ((0, 0) : Int32 × Int32) (by omega) ⟨rfl, Or.inr (fun j hj => by omega)⟩ (by
              rintro i ⟨s1, s2⟩ hi ⟨rfl, hP⟩
              left
              dsimp only at hP ⊢
              have hLM := y2.L hM.1
              have hlt := clo_lt (r := r) (T.1 3) 0 _ (getD_mem hi)
              unfold fX11_all_S72
              rw [y3, if_neg (nI_ge hi (by omega)), ml_68 hLM]
              simp only [ob]
              rw [aI_n (by rw [mn_45]; omega) (by omega), y4 i hi]
              simp only [ob]
              by_cases e : (clo r 0 (T.1 3)).getD i 0 = b
              · rw [if_pos (by rw [e]), ml_72 hLM]
                simp only [ob]
                rw [aI_n (by rw [mn_48]; omega) (by omega), y5.2.2.2 i hi]
                simp only [ob, obd]
                exact ⟨_, rfl, nI_1 i, Or.inl ⟨i, by omega, e, rfl⟩⟩
              · rw [if_neg (fun zz => e ((nI_eq (by omega) (by omega)).mp zz))]
                simp only [obd]
                refine ⟨_, rfl, nI_1 i, ?_⟩
                rcases hP with ⟨j, a1, a2, a3⟩ | hP
                · exact Or.inl ⟨j, by omega, a2, a3⟩
                · exact Or.inr (fun j hj => by
                    by_cases ej : j = i
                    · rw [ej]; exact e
                    · exact hP j (by omega))) (by
              rintro ⟨s1, s2⟩ ⟨rfl, hP⟩
              dsimp only at hP ⊢
              unfold fX11_all_S72
              rw [y3, if_pos (nI_le (Nat.le_refl _) (by omega))]
              refine ⟨_, rfl, ?_⟩
              rcases hP with hP | hP
              · exact hP
              · exact absurd (by rw [List.getD_eq_getElem?_getD, List.getElem?_eq_getElem j1, j2]; rfl) (hP j0 j1))
            have hpl : j < z.2.length := by rw [y5.2.2.1]; exact q2
            have hp := h35 z rfl _ (getD_mem hpl)
            obtain ⟨g1, g2⟩ := PA_at _ _ x3.2.2 j q2
            rw [q3] at g1 g2
            rw [if_neg (show ¬ (some z = none) by simp), if_neg one_ne, show G3.1 0 73 = nI z.1 from y5.2.1, if_pos (nI_pos' (by have := y5.1; omega)), if_neg hm1, q1, xl_0_9 hx2]
            simp only [ob, obd]
            rw [xl_287_4 hx2, xl_287_5 hx2]
            simp only [ob]
            rw [aI_n (by rw [show ln SHX 288 = 4 by decide +kernel]; omega) (by omega), g1, aI_n (by rw [show ln SHX 289 = 4 by decide +kernel]; omega) (by omega), g2]
            simp only [ob]
            rw [xTold (by omega), (pk35 _ hp).2, (pk35 _ hp).1]
            simp only [ob]
            by_cases k0 : nI k = 0
            · rw [if_pos k0, if_pos k0]
              exact ⟨_, _, _, rfl, rfl, fin⟩
            · rw [if_neg k0, if_neg k0]
              by_cases e0 : z.2.getD j 0 % 5 = 0
              · rw [if_pos e0, show nI (z.2.getD j 0) - nI (z.2.getD j 0 / 5) * 5 = 0 by rw [← (pk35 _ hp).1]; exact (pk35b _ hp).mpr e0, if_pos rfl]
                exact ⟨_, _, _, rfl, rfl, fin⟩
              · rw [if_neg e0, if_neg (fun zz => e0 ((pk35b _ hp).mp (by rw [(pk35 _ hp).1]; exact zz)))]
                exact ⟨_, _, _, rfl, rfl, fin⟩
        · rw [if_neg h0, if_neg h0]
          exact ⟨_, _, _, rfl, rfl, hI0⟩
      · rw [in2_n ha]
        rcases rngN (by decide) ha with h0 | ⟨h0, h1⟩
        · rw [if_pos h0]; exact ⟨_, _, _, rfl, rfl, hI0⟩
        · rw [if_neg h0, if_neg (show ¬ w ≤ 1 from h1)]; exact ⟨_, _, _, rfl, rfl, hI0⟩
    · rw [xBridge_n hT hW hb, mBridge_n hM hb]
      exact ⟨_, _, _, rfl, rfl, hI0⟩
