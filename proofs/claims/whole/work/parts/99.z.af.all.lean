/-! ALL: the reference's levels; all itself. -/
def bnd : Nat → Nat
  | 0 => 0
  | n + 1 => 35 * (1 + bnd n) + 1
/-- what the search from level k on changes -/
def EP (k : Nat) (G G2 : Hp) : Prop := G2.2 = G.2 ∧ ∀ q j, q ≠ 40 → q ≠ 41 → q ≠ 48 → ¬ (q = 0 ∧ j = 73) → ¬ ((q = 46 ∨ q = 47) ∧ k ≤ j) → G2.1 q j = G.1 q j
theorem EP.rf {k : Nat} {G : Hp} : EP k G G := ⟨rfl, fun _ _ _ _ _ _ _ => rfl⟩
theorem EP.tr {k : Nat} {G G2 G3 : Hp} (h : EP k G G2) (h2 : EP k G2 G3) : EP k G G3 := ⟨h2.1.trans h.1, fun q j a b c d e => (h2.2 q j a b c d e).trans (h.2 q j a b c d e)⟩
theorem EP.up {k k2 : Nat} {G G2 : Hp} (h : EP k2 G G2) (hk : k ≤ k2) : EP k G G2 := ⟨h.1, fun q j a b c d e => h.2 q j a b c d (by omega)⟩
theorem EN.P {k : Nat} {G G2 : Hp} (h : EN k G G2) : EP k G G2 := ⟨h.1, fun q j a b _ _ e => h.2 q j a b (by omega)⟩
theorem EP.M {k : Nat} {G G2 : Hp} (h : EP k G G2) : EssM G G2 := ⟨h.1, fun q j hn => h.2 q j (fun e => hn (by unfold scrM; omega)) (fun e => hn (by unfold scrM; omega)) (fun e => hn (by unfold scrM; omega)) (fun e => hn (by unfold scrM; omega)) (fun e => hn (by unfold scrM; omega))⟩
theorem EP.s {k q j : Nat} {G : Hp} {v : Int32} (h : q = 48 ∨ (q = 0 ∧ j = 73) ∨ ((q = 46 ∨ q = 47) ∧ k ≤ j)) : EP k G (sI G q j v) := ⟨rfl, fun q2 j2 a b c d e => sI_ne (by omega)⟩
theorem PSm_snoc {T : Txt} {k x : Nat} {ps : List Nat} {G : Hp} (h : PSm T k ps G) (h1 : x < 35) (h2 : x / 5 < T.1 1) (h3 : x % 5 ≤ T.1 2) (h4 : G.1 46 k = nI x) : PSm T (k + 1) (ps ++ [x]) G := by
  refine ⟨by rw [List.length_append, h.1]; rfl, fun j hj => ?_⟩
  by_cases e : j = k
  · rw [e, show (ps ++ [x]).getD k 0 = x by rw [← h.1]; exact getD_snoc]
    exact ⟨h1, h2, h3, h4⟩
  · rw [getD_pre (by rw [h.1]; omega)]
    exact h.2 j (by omega)
theorem bt_nq {T : Txt} {q : Nat → Int32} {p a : Nat} (hW : WFT T) (hq : WFG T q) (hp : p < 35) (ha : a < 7) : bt (nq T q p 25) a = true ↔ bt (q 25) a = true ∧ p / 5 ≠ a := by
  obtain ⟨m, m1, m2⟩ := hq.2.2.2
  have hm : m < 256 := Nat.lt_of_lt_of_le m1 (Nat.le_trans (pow_le hW.1.2.1) (by decide))
  rw [nq_25 hq m2 hm hp, m2, bt_nI (by omega), bt_nI (by omega), Nat.testBit_and, Nat.testBit_xor, Nat.testBit_two_pow]
  have h255 : ∀ a, a < 7 → Nat.testBit 255 a = true := by decide
  rw [h255 a ha]
  cases m.testBit a
  · simp
  · simp
/-- what holds at level k, the next pick being p -/
def LV (l k p : Nat) (T : Txt) (r q : Nat → Int32) (all ps : List Nat) (lost : Nat) (o : OB) (G : Hp) : Prop :=
  ML0 l T G ∧ G.1 0 69 = nI all.length ∧ (∀ j, j < all.length → G.1 45 j = nI (all.getD j 0)) ∧ PSm T k ps G ∧ MQr r q G ∧ WFG T q ∧ G.1 47 k = q 21 ∧ G.1 46 k = wv p ∧ (∀ a, a < 7 → (bt (q 25) a = true ↔ bt (r 25) a = true ∧ ∀ j, j < k → ps.getD j 0 / 5 ≠ a)) ∧ (ps.map (vP T)).sum = lost ∧ BM all.length o G
theorem wv_cmp1 {n k : Nat} (hn : n < 100) (hk : k < 100) : (nI n - 1 ≤ nI k) ↔ n ≤ k + 1 := by
  cases n with
  | zero => exact ⟨fun _ => by omega, fun _ => Int32.le_iff_toInt_le.mpr (by rw [nI_toInt (by omega)]; show (-1 : Int) ≤ _; omega)⟩
  | succ n => rw [nI_pred, nI_leI (by omega) (by omega)]; omega
theorem mLevel {l : Nat} {T : Txt} {r : Nat → Int32} {all : List Nat} (hr : WFG T r) (hW : WFT T) (ha4 : all.length ≤ 4) (hab : ∀ j, j < all.length → all.getD j 0 < T.1 3) : ∀ (bs : List Nat) (b : Nat) (pre : List Nat), pre ++ b :: bs = all → ∀ (j p : Nat), p + j = 35 → ∀ q lost ps o G, LV l pre.length p T r q all ps lost o G →
    ∃ m G2, m ≤ j * (1 + bnd bs.length) + 1 ∧ (∀ fu, iter (fun s : Hp × Int32 => fX11_fillsAll_S113 SHM 0 s.1 s.2) (fu + m) (G, nI pre.length) = iter (fun s : Hp × Int32 => fX11_fillsAll_S113 SHM 0 s.1 s.2) fu (G2, wv pre.length)) ∧ EP pre.length G G2 ∧ MQr r q G2 ∧ BM all.length (fo (fP T b bs q lost ps) p j o) G2 := by
  intro bs
  induction bs with
  | nil =>
    intro b pre hpre j
    induction j using Nat.strongRecOn with
    | _ j ih =>
      intro p hpj q lost ps o G hL
      obtain ⟨hM, h69, h45, hP, hQ, hq, h47, h46, hus, hlo, hB⟩ := hL
      have hlen : all.length = pre.length + 1 := by rw [← hpre, List.length_append]; rfl
      have hbk : all.getD pre.length 0 = b := by rw [← hpre, List.getD_eq_getElem?_getD, List.getElem?_append_right (Nat.le_refl _), Nat.sub_self]; rfl
      have hk4 : pre.length < 4 := by omega
      obtain ⟨p2, G2, u1, u2, u3, u4, u5, u6, u7, u8⟩ := mNext (p := p) (lost := lost) (o := o) (n := all.length) hM hr hq hQ hk4 ((h45 _ (by omega)).trans (by rw [hbk])) (by rw [← hbk]; exact hab _ (by omega)) hP hus hlo hB h47 h46 (by omega)
      have hsk : fo (fP T b [] q lost ps) p j o = fo (fP T b [] q lost ps) p2 (35 - p2) o := by
        rw [show j = (p2 - p) + (35 - p2) by omega, fo_skip _ _ (fun x x1 x2 => cpk_skip (u3 x x1 (by omega))), show p + (p2 - p) = p2 by omega]
      by_cases e35 : p2 = 35
      · refine ⟨1, G2, by omega, fun fu => ?_, u5.P, u7 e35, ?_⟩
        · refine iter_in ?_
          dsimp only
          unfold fX11_fillsAll_S113
          rw [if_neg (nI_pos (by omega)), u4, if_pos e35]
          simp only [obp, obd]
          rw [if_pos trivial, wv_dec]
        · rw [hsk, e35]
          exact BM_fr hB (u5.2 0 73 (by decide) (by decide) (by omega)) (fun x => u5.2 48 x (by decide) (by decide) (by omega))
      · obtain ⟨y1, y2, y3⟩ := u8 (by omega)
        obtain ⟨v1, v2⟩ := cpk_y y1
        have hva : p2 / 5 < T.1 1 ∧ p2 % 5 ≤ T.1 2 := by
          unfold vld at v1
          rw [Bool.and_eq_true, Bool.and_eq_true, Bool.and_eq_true, decide_eq_true_iff, decide_eq_true_iff] at v1
          exact ⟨v1.1, v1.2.1⟩
        have hM2 := u5.M.M hM
        have hP2 : PSm T (pre.length + 1) (ps ++ [p2]) G2 := PSm_snoc (PSm_fr hP (fun x hx => u5.2 46 x (by decide) (by decide) (by omega))) (by omega) hva.1 hva.2 u6
        have hsum : ((ps ++ [p2]).map (vP T)).sum = lost + vP T p2 := by rw [List.map_append, List.sum_append, hlo]; simp
        have h69' : G2.1 0 69 = nI (pre.length + 1) := by rw [u5.2 0 69 (by decide) (by decide) (by omega), h69, hlen]
        have hls : lost + vP T p2 < 1000000 := by
          have := sum_le (ps := ps ++ [p2]) hW (fun x hx => by have := hP2.2 x (by rw [← hP2.1]; exact hx); exact ⟨this.2.1, this.2.2.1⟩) (pre.length + 1) (by rw [hP2.1]; exact Nat.le_refl _)
          rw [← hP2.1, List.take_length, hsum, hP2.1] at this
          omega
        -- the leaf: it is the best
        have e7 : EP pre.length G2 (sI G2 0 73 (nI (lost + vP T p2))) := EP.s (by omega)
        have v7 : (sI G2 0 73 (nI (lost + vP T p2))).1 0 73 = nI (lost + vP T p2) := sI_same
        have n7 : ∀ q2 x, ¬ (q2 = 0 ∧ x = 73) → (sI G2 0 73 (nI (lost + vP T p2))).1 q2 x = G2.1 q2 x := fun q2 x h => sI_ne (by omega)
        have key : ∃ G9, fX11_fillsAll_S113 SHM 0 G (nI pre.length) = some (.inl (G9, nI pre.length)) ∧ EP pre.length G2 G9 ∧ (∀ x, G9.1 46 x = G2.1 46 x) ∧ (∀ x, G9.1 47 x = G2.1 47 x) ∧ (∀ x, G9.1 40 x = G2.1 40 x) ∧ BM all.length (some (lost + vP T p2, ps ++ [p2])) G9 := by
          unfold fX11_fillsAll_S113
          rw [if_neg (nI_pos (by omega)), u4, if_neg e35]
          simp only [obp, obd]
          rw [if_neg one_ne, h69', if_pos ((wv_cmp1 (by omega) (by omega)).mpr (Nat.le_refl _)), mSum hM2 (by omega) hP2, hsum]
          simp only [ob]
          generalize sI G2 0 73 (nI (lost + vP T p2)) = G7 at e7 v7 n7
          obtain ⟨G9, w1, w2, w3, w4⟩ := iter_go (f := fun s : Hp × Int32 => fX11_fillsAll_S181 SHM 0 (nI pre.length) s.1 s.2) (P := fun i s => s.2 = nI i ∧ s.1.2 = G7.2 ∧ (∀ q2 x, q2 ≠ 48 → s.1.1 q2 x = G7.1 q2 x) ∧ ∀ x, x < i → s.1.1 48 x = G7.1 46 x) (Q := fun o2 => o2.2 = G7.2 ∧ (∀ q2 x, q2 ≠ 48 → o2.1 q2 x = G7.1 q2 x) ∧ ∀ x, x < pre.length + 1 → o2.1 48 x = G7.1 46 x) (pre.length + 1) (G7, 0) (by omega) ⟨rfl, rfl, fun _ _ _ => rfl, fun x hx => by omega⟩ (by
            rintro i ⟨G1, x⟩ hi ⟨rfl, f1, f2, f3⟩
            left
            dsimp only at f1 f2 f3 ⊢
            have hL1 : LM G1 := (e7.M.L hM2.1).same (by rw [f1])
            unfold fX11_fillsAll_S181
            rw [f2 0 69 (by decide), n7 0 69 (by decide), h69', if_neg (nI_ge hi (by omega)), ml_72 hL1, ml_70 hL1]
            simp only [ob]
            rw [aI_n (by rw [mn_46]; omega) (by omega), f2 46 i (by decide)]
            simp only [ob]
            rw [asI_n (by rw [mn_48]; omega) (by omega)]
            simp only [ob, obd]
            refine ⟨_, rfl, nI_1 i, f1, fun q2 x hq2 => ?_, fun x hx => ?_⟩
            · show (sI G1 48 i _).1 q2 x = _
              rw [sI_ne (Or.inl hq2)]; exact f2 q2 x hq2
            · show (sI G1 48 i _).1 48 x = _
              by_cases e : x = i
              · rw [e, sI_same]
              · rw [sI_ne (Or.inr e)]; exact f3 x (by omega)) (by
            rintro ⟨G1, x⟩ ⟨rfl, f1, f2, f3⟩
            dsimp only at f1 f2 f3 ⊢
            unfold fX11_fillsAll_S181
            rw [f2 0 69 (by decide), n7 0 69 (by decide), h69', if_pos (nI_le (Nat.le_refl _) (by omega))]
            exact ⟨_, rfl, f1, f2, f3⟩)
          rw [w1]
          simp only [ob]
          refine ⟨G9, rfl, e7.tr ⟨w2, fun q2 x a b c d e => w3 q2 x c⟩, fun x => (w3 46 x (by decide)).trans (n7 46 x (by omega)), fun x => (w3 47 x (by decide)).trans (n7 47 x (by omega)), fun x => (w3 40 x (by decide)).trans (n7 40 x (by omega)), ⟨hls, (w3 0 73 (by decide)).trans v7, by rw [hlen]; exact hP2.1, fun x hx => ?_⟩⟩
          rw [w4 x (by omega), n7 46 x (by omega)]
          exact (hP2.2 x (by omega)).2.2.2
        obtain ⟨G9, s1, s2, s3, s4, s5, s6⟩ := key
        have hQ9 : MQr r q G9 := by
          obtain ⟨bk1, bk2⟩ := nq_back (p := p2) hq
          exact ⟨fun x hx => (s5 x).trans (y2.1 x hx), (s5 25).trans y2.2.1, fun x hx hl => by rw [s5, y2.2.2 x hx (bk2 x hx hl).1, (bk2 x hx hl).2]⟩
        have hE9 : EP pre.length G G9 := u5.P.tr s2
        obtain ⟨m, G3, w1, w2, w3, w4, w5⟩ := ih (35 - (p2 + 1)) (by omega) (p2 + 1) (by omega) q lost ps (some (lost + vP T p2, ps ++ [p2])) G9 ⟨hE9.M.M hM, (hE9.2 0 69 (by decide) (by decide) (by decide) (by omega) (by omega)).trans h69, fun x hx => (hE9.2 45 x (by decide) (by decide) (by decide) (by omega) (by omega)).trans (h45 x hx), PSm_fr hP (fun x hx => hE9.2 46 x (by decide) (by decide) (by decide) (by omega) (by omega)), hQ9, hq, by rw [s4, u5.2 47 _ (by decide) (by decide) (by omega)]; exact h47, by rw [s3, u6, wv_s], hus, hlo, s6⟩
        refine ⟨m + 1, G3, ?_, fun fu => ?_, hE9.tr w3, w4, ?_⟩
        · show _ ≤ j * (1 + bnd 0) + 1
          have : bnd 0 = 0 := rfl
          rw [show bnd ([] : List Nat).length = 0 from rfl] at w1
          rw [this]
          omega
        · rw [show fu + (m + 1) = (fu + m) + 1 by omega]
          rw [iter_in (s2 := (G9, nI pre.length)) s1]
          exact w2 fu
        · rw [hsk, show 35 - p2 = (35 - (p2 + 1)) + 1 by omega]
          show BM all.length (fo (fP T b [] q lost ps) (p2 + 1) (35 - (p2 + 1)) (fP T b [] q lost ps p2 o)) G3
          have : fP T b [] q lost ps p2 o = some (lost + vP T p2, ps ++ [p2]) := by
            unfold fP
            rw [v1, if_pos rfl]
            show (if lost + vP T p2 < cst o then some (lost + vP T p2, ps ++ [p2]) else o) = _
            rw [if_pos v2]
          rw [this]
          exact w5
  | cons b2 bs IH =>
    intro b pre hpre j
    induction j using Nat.strongRecOn with
    | _ j ih =>
      intro p hpj q lost ps o G hL
      obtain ⟨hM, h69, h45, hP, hQ, hq, h47, h46, hus, hlo, hB⟩ := hL
      have hlen : all.length = pre.length + 1 + (bs.length + 1) := by rw [← hpre, List.length_append, List.length_cons, List.length_cons]; omega
      have hbk : all.getD pre.length 0 = b := by rw [← hpre, List.getD_eq_getElem?_getD, List.getElem?_append_right (Nat.le_refl _), Nat.sub_self]; rfl
      have hk4 : pre.length < 4 := by omega
      obtain ⟨p2, G2, u1, u2, u3, u4, u5, u6, u7, u8⟩ := mNext (p := p) (lost := lost) (o := o) (n := all.length) hM hr hq hQ hk4 ((h45 _ (by omega)).trans (by rw [hbk])) (by rw [← hbk]; exact hab _ (by omega)) hP hus hlo hB h47 h46 (by omega)
      have hsk : fo (fP T b (b2 :: bs) q lost ps) p j o = fo (fP T b (b2 :: bs) q lost ps) p2 (35 - p2) o := by
        rw [show j = (p2 - p) + (35 - p2) by omega, fo_skip _ _ (fun x x1 x2 => cpk_skip (u3 x x1 (by omega))), show p + (p2 - p) = p2 by omega]
      by_cases e35 : p2 = 35
      · refine ⟨1, G2, by omega, fun fu => ?_, u5.P, u7 e35, ?_⟩
        · refine iter_in ?_
          dsimp only
          unfold fX11_fillsAll_S113
          rw [if_neg (nI_pos (by omega)), u4, if_pos e35]
          simp only [obp, obd]
          rw [if_pos trivial, wv_dec]
        · rw [hsk, e35]
          exact BM_fr hB (u5.2 0 73 (by decide) (by decide) (by omega)) (fun x => u5.2 48 x (by decide) (by decide) (by omega))
      · obtain ⟨y1, y2, y3⟩ := u8 (by omega)
        obtain ⟨v1, v2⟩ := cpk_y y1
        have hva : p2 / 5 < T.1 1 ∧ p2 % 5 ≤ T.1 2 := by
          unfold vld at v1
          rw [Bool.and_eq_true, Bool.and_eq_true, Bool.and_eq_true, decide_eq_true_iff, decide_eq_true_iff] at v1
          exact ⟨v1.1, v1.2.1⟩
        have hM2 := u5.M.M hM
        have hP2 : PSm T (pre.length + 1) (ps ++ [p2]) G2 := PSm_snoc (PSm_fr hP (fun x hx => u5.2 46 x (by decide) (by decide) (by omega))) (by omega) hva.1 hva.2 u6
        have hsum : ((ps ++ [p2]).map (vP T)).sum = lost + vP T p2 := by rw [List.map_append, List.sum_append, hlo]; simp
        have h69' : G2.1 0 69 = nI all.length := by rw [u5.2 0 69 (by decide) (by decide) (by omega), h69]
        have key : ∃ G9, fX11_fillsAll_S113 SHM 0 G (nI pre.length) = some (.inl (G9, nI (pre.length + 1))) ∧ EP (pre.length + 1) G2 G9 ∧ G9.1 46 (pre.length + 1) = wv 0 ∧ G9.1 47 (pre.length + 1) = nq T q p2 21 ∧ (∀ x, G9.1 40 x = G2.1 40 x) ∧ (∀ x, G9.1 48 x = G2.1 48 x) ∧ G9.1 0 73 = G2.1 0 73 := by
          unfold fX11_fillsAll_S113
          rw [if_neg (nI_pos (by omega)), u4, if_neg e35]
          simp only [obp, obd]
          rw [if_neg one_ne, h69', if_neg (fun z => by have := (wv_cmp1 (by omega) (by omega)).mp z; omega), nI_1, ml_70 hM2.1]
          simp only [ob]
          rw [asI_n (by rw [mn_46]; omega) (by omega)]
          simp only [ob]
          have hL13 : LM (sI G2 46 (pre.length + 1) (-1)) := hM2.1
          rw [ml_71 hL13, ml_59 hL13]
          simp only [ob]
          rw [show (21 : Int32) = nI 21 from rfl, m40 (by decide), sI_ne (Or.inl (by decide)), y3]
          simp only [ob]
          rw [asI_n (by rw [mn_47]; omega) (by omega)]
          simp only [ob]
          exact ⟨_, rfl, (EP.s (by omega)).tr (EP.s (by omega)), by rw [sI_ne (Or.inl (by decide)), sI_same]; rfl, sI_same, fun x => by rw [sI_ne (Or.inl (by decide)), sI_ne (Or.inl (by decide))], fun x => by rw [sI_ne (Or.inl (by decide)), sI_ne (Or.inl (by decide))], by rw [sI_ne (Or.inl (by decide)), sI_ne (Or.inl (by decide))]⟩
        obtain ⟨G9, s1, s2, s3, s4, s5, s6, s7⟩ := key
        have hE9 : EP pre.length G G9 := u5.P.tr (s2.up (by omega))
        have hpl : (pre ++ [b]).length = pre.length + 1 := by rw [List.length_append]; rfl
        have hus2 : ∀ a, a < 7 → (bt (nq T q p2 25) a = true ↔ bt (r 25) a = true ∧ ∀ x, x < pre.length + 1 → (ps ++ [p2]).getD x 0 / 5 ≠ a) := fun a ha => by
          rw [bt_nq hW hq (by omega) ha, hus a ha]
          constructor
          · rintro ⟨⟨z1, z2⟩, z3⟩
            refine ⟨z1, fun x hx => ?_⟩
            by_cases e : x = pre.length
            · rw [e, show (ps ++ [p2]).getD pre.length 0 = p2 by rw [← hP.1]; exact getD_snoc]; exact z3
            · rw [getD_pre (by rw [hP.1]; omega)]; exact z2 x (by omega)
          · rintro ⟨z1, z2⟩
            refine ⟨⟨z1, fun x hx => ?_⟩, ?_⟩
            · have := z2 x (by omega)
              rw [getD_pre (by rw [hP.1]; omega)] at this
              exact this
            · have := z2 pre.length (by omega)
              rw [show (ps ++ [p2]).getD pre.length 0 = p2 by rw [← hP.1]; exact getD_snoc] at this
              exact this
        obtain ⟨m1, G4, w1, w2, w3, w4, w5⟩ := IH b2 (pre ++ [b]) (by rw [← hpre, List.append_assoc]; rfl) 35 0 (by omega) (nq T q p2) (lost + vP T p2) (ps ++ [p2]) o G9 (by
          rw [hpl]
          exact ⟨hE9.M.M hM, (hE9.2 0 69 (by decide) (by decide) (by decide) (by omega) (by omega)).trans h69, fun x hx => (hE9.2 45 x (by decide) (by decide) (by decide) (by omega) (by omega)).trans (h45 x hx), PSm_fr hP2 (fun x hx => s2.2 46 x (by decide) (by decide) (by decide) (by omega) (by omega)), y2.E (fun x _ _ => s5 x), WFG_nq hq hW (by omega) hva.1 hva.2, s4, s3, hus2, hsum, BM_fr hB (s7.trans (u5.2 0 73 (by decide) (by decide) (by omega))) (fun x => (s6 x).trans (u5.2 48 x (by decide) (by decide) (by omega)))⟩)
        rw [hpl] at w2 w3
        have hE4 : EP pre.length G G4 := hE9.tr (w3.up (by omega))
        have hQ4 : MQr r q G4 := by
          obtain ⟨bk1, bk2⟩ := nq_back (p := p2) hq
          exact ⟨w4.1, w4.2.1, fun x hx hl => by rw [w4.2.2 x hx (bk2 x hx hl).1, (bk2 x hx hl).2]⟩
        have h46' : G4.1 46 pre.length = wv (p2 + 1) := by
          rw [w3.2 46 _ (by decide) (by decide) (by decide) (by omega) (by omega), s2.2 46 _ (by decide) (by decide) (by decide) (by omega) (by omega), u6, wv_s]
        have h47' : G4.1 47 pre.length = q 21 := by
          rw [w3.2 47 _ (by decide) (by decide) (by decide) (by omega) (by omega), s2.2 47 _ (by decide) (by decide) (by decide) (by omega) (by omega), u5.2 47 _ (by decide) (by decide) (by omega)]
          exact h47
        obtain ⟨m2, G3, x1, x2, x3, x4, x5⟩ := ih (35 - (p2 + 1)) (by omega) (p2 + 1) (by omega) q lost ps _ G4 ⟨hE4.M.M hM, (hE4.2 0 69 (by decide) (by decide) (by decide) (by omega) (by omega)).trans h69, fun x hx => (hE4.2 45 x (by decide) (by decide) (by decide) (by omega) (by omega)).trans (h45 x hx), PSm_fr hP (fun x hx => hE4.2 46 x (by decide) (by decide) (by decide) (by omega) (by omega)), hQ4, hq, h47', h46', hus, hlo, w5⟩
        refine ⟨m2 + m1 + 1, G3, ?_, fun fu => ?_, hE4.tr x3, x4, ?_⟩
        · have hb1 : bnd (b2 :: bs).length = 35 * (1 + bnd bs.length) + 1 := rfl
          have hm1 : m1 ≤ bnd (b2 :: bs).length := by rw [hb1]; exact w1
          have hj : 35 - (p2 + 1) + 1 ≤ j := by omega
          have := Nat.mul_le_mul_right (1 + bnd (b2 :: bs).length) hj
          rw [Nat.add_mul, Nat.one_mul] at this
          omega
        · rw [show fu + (m2 + m1 + 1) = ((fu + m2) + m1) + 1 by omega]
          rw [iter_in (s2 := (G9, nI (pre.length + 1))) s1, w2 (fu + m2), wv_s]
          exact x2 fu
        · rw [hsk, show 35 - p2 = (35 - (p2 + 1)) + 1 by omega]
          show BM all.length (fo (fP T b (b2 :: bs) q lost ps) (p2 + 1) (35 - (p2 + 1)) (fP T b (b2 :: bs) q lost ps p2 o)) G3
          have : fP T b (b2 :: bs) q lost ps p2 o = fo (fP T b2 bs (nq T q p2) (lost + vP T p2) (ps ++ [p2])) 0 35 o := by
            rw [← srch_c]
            unfold fP
            rw [v1, if_pos rfl]
          rw [this]
          exact x5
