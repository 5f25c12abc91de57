/-! ALL: the class's table and its search. -/
theorem AL_fr {T : Txt} {r : Nat → Int32} {b : Nat} {G G2 : Hp} (hW : WFT T) (h : AL T r b G) (e : ∀ k, b * 128 ≤ k → k < b * 128 + 128 → G2.1 299 k = G.1 299 k) : AL T r b G2 := fun left hl => by
  have h128 : 2 ^ T.1 1 ≤ 128 := Nat.le_trans (pow_le hW.1.2.1) (by decide)
  obtain ⟨x, x1, x2, x3⟩ := h left hl
  exact ⟨x, x1, (e _ (by omega) (by omega)).trans x2, x3⟩
theorem xTab {t : Nat} {T : Txt} {r : Nat → Int32} {G : Hp} (hx : LX t G) (hT : XT t T G) (hW : WFT T) (hG : XG T 290 r G) (hr : WFG T r) (hB : AL T r (T.1 3) G) : ∃ G2, iter (fun s : Hp × Int32 => fX5_findForAll_S55 SHX 287 t (nI (2 ^ T.1 1)) s.1 s.2) fuel ((G, wv (T.1 3)) : Hp × Int32) = some G2 ∧ E297 G G2 ∧ ∀ b, b ≤ T.1 3 → AL T r b G2 := by
  have ht := hx.1
  have hw := hW.1
  have h128 : 2 ^ T.1 1 ≤ 128 := Nat.le_trans (pow_le hw.2.1) (by decide)
  refine iter_go (f := fun s : Hp × Int32 => fX5_findForAll_S55 SHX 287 t (nI (2 ^ T.1 1)) s.1 s.2) (P := fun i s => s.2 = wv (T.1 3 - i) ∧ E297 G s.1 ∧ ∀ b, T.1 3 - i ≤ b → b ≤ T.1 3 → AL T r b s.1) (Q := fun o => E297 G o ∧ ∀ b, b ≤ T.1 3 → AL T r b o) (T.1 3) (G, wv (T.1 3)) (by omega) ⟨rfl, E297.rf, fun b h1 h2 => by rw [show b = T.1 3 by omega]; exact hB⟩ ?_ ?_
  · rintro i ⟨G1, x⟩ hi ⟨rfl, hE, hA⟩
    left
    dsimp only at hE hA ⊢
    obtain ⟨b, hb⟩ : ∃ b, T.1 3 - i = b + 1 := ⟨T.1 3 - i - 1, by omega⟩
    have hb2 : T.1 3 - (i + 1) = b := by omega
    have hx1 := hE.L hx
    have hT1 := hE.T ht hT
    have hG1 := hE.G hG
    rw [hb, wv_s, hb2]
    unfold fX5_findForAll_S55
    rw [if_neg (nI_pos (by omega)), xl_287_6 hx1]
    simp only [ob]
    rw [xg_1 isG_290 hx1]
    simp only [ob]
    rw [aI_n (by rw [xgn_1 isG_290]; omega) (by omega), hG1.2.1 b (by omega)]
    simp only [ob]
    by_cases h0 : r (4 + b) = 0
    · rw [if_pos h0]
      obtain ⟨G11, z, p1, p2, p3, p4⟩ := xPrices hx1 hT1 hW hG1 hr (show b < T.1 3 by omega)
      rw [p1]
      simp only [ob]
      have hx11 := p2.L hx1
      have hA11 : ∀ b2, b + 1 ≤ b2 → b2 ≤ T.1 3 → AL T r b2 G11 := fun b2 h1 h2 => AL_fr hW (hA b2 (by omega) h2) (fun k _ _ => p3 k)
      obtain ⟨G13, q1, q2, q3, q4, q5⟩ := iter_go (f := fun s : Hp × Int32 => fX5_findForAll_S83 SHX 287 t (nI (2 ^ T.1 1)) (nI b) s.1 s.2) (P := fun j s => s.2 = nI j ∧ E297 G11 s.1 ∧ (∀ k, s.1.1 298 k = G11.1 298 k) ∧ (∀ k, ¬ (b * 128 ≤ k ∧ k < b * 128 + 128) → s.1.1 299 k = G11.1 299 k) ∧ ∀ left, left < j → ∃ x, x ≤ 1000000 ∧ s.1.1 299 (b * 128 + left) = nI x ∧ LB T r (clo r b (T.1 3 - b)) left x) (Q := fun o => E297 G11 o ∧ (∀ k, o.1 298 k = G11.1 298 k) ∧ (∀ k, ¬ (b * 128 ≤ k ∧ k < b * 128 + 128) → o.1 299 k = G11.1 299 k) ∧ ∀ left, left < 2 ^ T.1 1 → ∃ x, x ≤ 1000000 ∧ o.1 299 (b * 128 + left) = nI x ∧ LB T r (clo r b (T.1 3 - b)) left x) (2 ^ T.1 1) (G11, 0) (by omega) ⟨rfl, E297.rf, fun _ => rfl, fun _ _ => rfl, fun left h => by omega⟩ (by
        rintro j ⟨G2, x⟩ hj ⟨rfl, hE2, k1, k2, k3⟩
        left
        dsimp only at hE2 k1 k2 k3 ⊢
        have hx2 := hE2.L hx11
        obtain ⟨x, l1, l2, l3⟩ := xLeast (left := j) hx2 hW (show b < T.1 3 by omega) hj (show PR T r b z G2 from fun a ha => by rw [k1 a]; exact p4 a ha) (AL_fr hW (hA11 (b + 1) (by omega) (by omega)) (fun k u1 u2 => k2 k (by omega))) h0
        unfold fX5_findForAll_S83
        rw [if_neg (nI_ge hj (by omega)), xl_287_11 hx2]
        simp only [ob]
        rw [l1]
        simp only [ob]
        rw [show nI b * 128 = nI (b * 128) from pk_mul b 128, nI_add, asI_n (by rw [xnn_299]; omega) (by omega)]
        simp only [ob, obd]
        refine ⟨_, rfl, nI_1 j, hE2.tr (E297.s (Or.inr rfl)), fun k => ?_, fun k hk => ?_, fun left hl => ?_⟩
        · show (sI G2 299 _ _).1 298 k = _
          rw [sI_ne (Or.inl (by decide))]; exact k1 k
        · show (sI G2 299 (b * 128 + j) _).1 299 k = _
          rw [sI_ne (by omega)]; exact k2 k hk
        · show ∃ x2, x2 ≤ 1000000 ∧ (sI G2 299 (b * 128 + j) (nI x)).1 299 (b * 128 + left) = nI x2 ∧ _
          by_cases e : left = j
          · subst e; exact ⟨x, l2, sI_same, l3⟩
          · rw [sI_ne (by omega)]; exact k3 left (by omega)) (by
        rintro ⟨G2, x⟩ ⟨rfl, hE2, k1, k2, k3⟩
        dsimp only at hE2 k1 k2 k3 ⊢
        unfold fX5_findForAll_S83
        rw [if_pos (nI_le (Nat.le_refl _) (by omega))]
        exact ⟨_, rfl, hE2, k1, k2, k3⟩)
      rw [q1]
      simp only [ob, obd]
      refine ⟨_, rfl, wv_dec b, (hE.tr p2).tr q2, fun b2 h1 h2 => ?_⟩
      by_cases e : b2 = b
      · subst e; exact q5
      · exact AL_fr hW (hA11 b2 (by omega) h2) (fun k u1 u2 => q4 k (by omega))
    · rw [if_neg h0, xl_287_11 hx1]
      simp only [ob]
      have ec : cpI SHX G1 299 ((nI b + 1) * 128) 299 (nI b * 128) (nI (2 ^ T.1 1)) = some (rI G1 299 (va_cpy (G1.1 299) (G1.1 299) ((b + 1) * 128) (b * 128) (2 ^ T.1 1))) := by
        unfold cpI
        rw [nI_1, show nI (b + 1) * 128 = nI ((b + 1) * 128) from pk_mul (b + 1) 128, show nI b * 128 = nI (b * 128) from pk_mul b 128, nI_clamp (by omega), nI_clamp (by omega), nI_clamp (by omega), xnn_299, if_pos ⟨⟨nI_pos (by omega), nI_pos (by omega), nI_pos (by omega)⟩, by omega, by omega⟩]
      rw [ec]
      simp only [ob, obd]
      refine ⟨_, rfl, wv_dec b, hE.tr ⟨rfl, fun q k h1 h2 => by rw [rI_ne h2]⟩, fun b2 h1 h2 => ?_⟩
      by_cases e : b2 = b
      · subst e
        intro left hl
        obtain ⟨x, x1, x2, x3⟩ := hA (b2 + 1) (by omega) (by omega) left hl
        refine ⟨x, x1, ?_, ?_⟩
        · show (rI G1 299 _).1 299 _ = _
          rw [rI_same, pk_cpy_in (by omega) (by omega), show (b2 + 1) * 128 + (b2 * 128 + left - b2 * 128) = (b2 + 1) * 128 + left by omega]
          exact x2
        · rw [show T.1 3 - b2 = (T.1 3 - (b2 + 1)) + 1 by omega, clo_n h0]; exact x3
      · refine AL_fr hW (hA b2 (by omega) h2) (fun k u1 u2 => ?_)
        show (rI G1 299 _).1 299 k = _
        rw [rI_same, pk_cpy_out (by omega)]
  · rintro ⟨G1, x⟩ ⟨rfl, hE, hA⟩
    dsimp only at hE hA ⊢
    unfold fX5_findForAll_S55
    rw [Nat.sub_self, wv_0, if_pos (by decide)]
    exact ⟨_, rfl, hE, fun b hb => hA b (by omega) hb⟩
/-- beings and ways as the class keeps them, by bridge -/
def PA (c1 c2 : Nat) : List Nat → List Nat → Hp → Prop
  | [], [], _ => True
  | b :: bs, p :: ps, G => (G.1 c1 b = nI (p / 5) ∧ G.1 c2 b = wv (p % 5)) ∧ PA c1 c2 bs ps G
  | _, _, _ => False
theorem PA_fr {c1 c2 d1 d2 : Nat} {G G2 : Hp} : ∀ (bs ps : List Nat), PA c1 c2 bs ps G → (∀ b ∈ bs, G2.1 d1 b = G.1 c1 b ∧ G2.1 d2 b = G.1 c2 b) → PA d1 d2 bs ps G2
  | [], [], _, _ => trivial
  | b :: bs, p :: ps, h, e => ⟨⟨(e b (List.mem_cons_self ..)).1.trans h.1.1, (e b (List.mem_cons_self ..)).2.trans h.1.2⟩, PA_fr bs ps h.2 (fun b2 hb => e b2 (List.mem_cons_of_mem _ hb))⟩
  | [], _ :: _, h, _ => h.elim
  | _ :: _, [], h, _ => h.elim
theorem PA_snoc {c1 c2 : Nat} {G : Hp} {b p : Nat} : ∀ (bs ps : List Nat), PA c1 c2 bs ps G → G.1 c1 b = nI (p / 5) → G.1 c2 b = wv (p % 5) → PA c1 c2 (bs ++ [b]) (ps ++ [p]) G
  | [], [], _, e1, e2 => ⟨⟨e1, e2⟩, trivial⟩
  | _ :: bs, _ :: ps, h, e1, e2 => ⟨h.1, PA_snoc bs ps h.2 e1 e2⟩
  | [], _ :: _, h, _, _ => h.elim
  | _ :: _, [], h, _, _ => h.elim
theorem PA_len {c1 c2 : Nat} {G : Hp} : ∀ (bs ps : List Nat), PA c1 c2 bs ps G → bs.length = ps.length
  | [], [], _ => rfl
  | _ :: bs, _ :: ps, h => by rw [List.length_cons, List.length_cons, PA_len bs ps h.2]
  | [], _ :: _, h => h.elim
  | _ :: _, [], h => h.elim
theorem PA_pre {c1 c2 : Nat} {G : Hp} {b p : Nat} : ∀ (bs ps : List Nat), bs.length = ps.length → PA c1 c2 (bs ++ [b]) (ps ++ [p]) G → PA c1 c2 bs ps G
  | [], [], _, _ => trivial
  | _ :: bs, _ :: ps, h, e => ⟨e.1, PA_pre bs ps (by simpa using h) e.2⟩
  | [], _ :: _, h, _ => by simp at h
  | _ :: _, [], h, _ => by simp at h
def BX (all : List Nat) (o : OB) (G : Hp) : Prop := match o with
  | none => G.1 287 3 = 1000000
  | some p => p.1 < 1000000 ∧ G.1 287 3 = nI p.1 ∧ PA 288 289 all p.2 G
theorem BX.c {all : List Nat} {o : OB} {G : Hp} (h : BX all o G) : G.1 287 3 = nI (cst o) ∧ cst o ≤ 1000000 := by
  cases o with
  | none => exact ⟨h, Nat.le_refl _⟩
  | some p => exact ⟨h.2.1, Nat.le_of_lt h.1⟩
theorem BX_fr {all : List Nat} {o : OB} {G G2 : Hp} (h : BX all o G) (e0 : G2.1 287 3 = G.1 287 3) (e : ∀ q k, q = 288 ∨ q = 289 → G2.1 q k = G.1 q k) : BX all o G2 := by
  cases o with
  | none => exact e0.trans h
  | some p => exact ⟨h.1, e0.trans h.2.1, PA_fr _ _ h.2.2 (fun b _ => ⟨e 288 b (Or.inl rfl), e 289 b (Or.inr rfl)⟩)⟩
theorem xLearnG {t g c : Nat} {T : Txt} {r : Nat → Int32} {G : Hp} {s : Int32} (hx : LX t G) (hW : WFT T) (hg : isG g) (h : XG T g r G) (hc : c ≤ 9) (h21 : r 21 = nI c) : ∃ G2, fX1_learn SHX G g s = some G2 ∧ EG g G G2 ∧ XG T g (rLearn r s) G2 := by
  have hw1 := hW.1
  unfold fX1_learn rLearn
  rw [xg_3 hg hx]
  simp only [ob]
  rw [xgn_3 hg, h.2.2.2.1, h21]
  by_cases e9 : c = 9
  · subst e9; rw [if_pos (show nI 9 ≤ nI 9 by decide), if_pos (show nI 9 = 9 from rfl)]
    exact ⟨G, rfl, EG.rf, h⟩
  · rw [if_neg (nI_ge (b := 9) (by omega) (by decide)), if_neg (show ¬ nI c = 9 from fun q => e9 ((nI_eq (b := 9) (by omega) (by decide)).mp q)), asI_n (by rw [xgn_3 hg]; omega) (by omega), nI_clamp (by omega)]
    simp only [ob, obd]
    rw [show (sI G (g + 4) c s).1 g 4 = nI c by rw [sI_ne (by omega), h.2.2.2.1, h21], nI_1]
    exact ⟨_, rfl, (EG.sI (by omega)).tr (EG.sI (by omega)), h.lr (by omega) (by omega) h21⟩
theorem XG_back {T : Txt} {g : Nat} {q q2 : Nat → Int32} {G : Hp} (hW : WFT T) (h : XG T g q2 G) (e1 : ∀ k, k < 12 → q2 k = q k) (e2 : q2 22 = q 22 ∧ q2 23 = q 23 ∧ q2 24 = q 24) (e3 : ∀ k, k < 9 → nI k < q 21 → nI k < q2 21 ∧ q2 (12 + k) = q (12 + k)) : XG T g q (sI (sI G g 6 (q 25)) g 4 (q 21)) := by
  have hw := hW.1
  obtain ⟨h1, h2, h3, h4, h5, h6, h7, h8⟩ := h
  refine ⟨fun b hb => ?_, fun b hb => ?_, fun k hk hk2 => ?_, ?_, ?_, ?_, ?_, ?_⟩
  · rw [sI_ne (by omega), sI_ne (by omega), sI_ne (by omega), sI_ne (by omega), (h1 b hb).1, (h1 b hb).2, e1 _ (by omega), e1 _ (by omega)]; exact ⟨rfl, rfl⟩
  · rw [sI_ne (by omega), sI_ne (by omega), h2 b hb, e1 _ (by omega)]
  · rw [sI_ne (by omega), sI_ne (by omega), h3 k (e3 k hk2 hk).1 hk2, (e3 k hk2 hk).2]
  · rw [sI_same]
  · rw [sI_ne (by omega), sI_ne (by omega), h5, e2.2.2]
  · rw [sI_ne (by omega), sI_same]
  · rw [sI_ne (by omega), sI_ne (by omega), h7, e2.1]
  · rw [sI_ne (by omega), sI_ne (by omega), h8, e2.2.1]
theorem nq_back {T : Txt} {q : Nat → Int32} {p : Nat} (h : WFG T q) : (nq T q p 22 = q 22 ∧ nq T q p 23 = q 23 ∧ nq T q p 24 = q 24) ∧ ∀ k, k < 9 → nI k < q 21 → nI k < nq T q p 21 ∧ nq T q p (12 + k) = q (12 + k) := by
  obtain ⟨-, -, ⟨c, c1, c2', -⟩, -⟩ := h
  unfold nq
  split
  · exact ⟨⟨off_l (by decide), off_l (by decide), off_l (by decide)⟩, fun k hk hl => ⟨by rw [off_21]; exact hl, off_l (by omega)⟩⟩
  · unfold rLearn
    rw [off_21, c2']
    by_cases e9 : c = 9
    · subst e9
      rw [if_pos (show nI 9 = 9 from rfl)]
      exact ⟨⟨off_l (by decide), off_l (by decide), off_l (by decide)⟩, fun k hk hl => ⟨by rw [off_21, c2']; exact hl, off_l (by omega)⟩⟩
    · rw [if_neg (show ¬ nI c = 9 from fun z => e9 ((nI_eq (b := 9) (by omega) (by decide)).mp z)), nI_clamp (by omega), nI_1]
      refine ⟨⟨by rw [upn (by omega), upn (by omega)]; exact off_l (by decide), by rw [upn (by omega), upn (by omega)]; exact off_l (by decide), by rw [upn (by omega), upn (by omega)]; exact off_l (by decide)⟩, fun k hk hl => ?_⟩
      have hkc := (nI_ltI (by omega) (by omega)).mp hl
      rw [ups, upn (by omega), upn (by omega)]
      exact ⟨nI_lt (by omega) (by omega), off_l (by omega)⟩
