/-! ALL: the class's search. -/
/-- nothing but the plan's best, who is left, and what is tried from bridge b on has changed -/
def E296 (b : Nat) (G G2 : Hp) : Prop := G2.2 = G.2 ∧ ∀ q k, ¬ (q = 287 ∧ k = 3) → ¬ (288 ≤ q ∧ q ≤ 294) → ¬ ((q = 295 ∨ q = 296) ∧ b ≤ k) → G2.1 q k = G.1 q k
theorem E296.rf {b : Nat} {G : Hp} : E296 b G G := ⟨rfl, fun _ _ _ _ _ => rfl⟩
theorem E296.tr {b : Nat} {G G2 G3 : Hp} (h : E296 b G G2) (h2 : E296 b G2 G3) : E296 b G G3 := ⟨h2.1.trans h.1, fun q k x y z => (h2.2 q k x y z).trans (h.2 q k x y z)⟩
theorem E296.up {b c : Nat} {G G2 : Hp} (h : E296 c G G2) (hc : b ≤ c) : E296 b G G2 := ⟨h.1, fun q k x y z => h.2 q k x y (by omega)⟩
theorem E296.s {b q k : Nat} {G : Hp} {v : Int32} (h : (q = 287 ∧ k = 3) ∨ (288 ≤ q ∧ q ≤ 294) ∨ ((q = 295 ∨ q = 296) ∧ b ≤ k)) : E296 b G (sI G q k v) := ⟨rfl, fun q2 k2 x y z => sI_ne (by omega)⟩
theorem E296.L {t b : Nat} {G G2 : Hp} (h : E296 b G G2) (hx : LX t G) : LX t G2 := hx.same (by rw [h.1])
theorem E296.T {t b : Nat} {T : Txt} {G G2 : Hp} (ht : t = 11 ∨ t = 32) (h : E296 b G G2) (hT : XT t T G) : XT t T G2 := XT_fr hT (fun q k _ _ _ _ => h.2 q k (by omega) (by omega) (by omega)) (by rw [h.1])
theorem E296.A {b : Nat} {T : Txt} {r : Nat → Int32} {G G2 : Hp} (h : E296 b G G2) (hA : ∀ b, b ≤ T.1 3 → AL T r b G) : ∀ b, b ≤ T.1 3 → AL T r b G2 := fun b2 hb left hl => by
  obtain ⟨x, x1, x2, x3⟩ := hA b2 hb left hl
  exact ⟨x, x1, (h.2 299 _ (by omega) (by omega) (by omega)).trans x2, x3⟩
theorem E296.W {b : Nat} {T : Txt} {G G2 : Hp} (h : E296 b G G2) (hw : WT T G) : WT T G2 := fun p a b c => (h.2 297 p (by omega) (by omega) (by omega)).trans (hw p a b c)
theorem E296.P {b : Nat} {dn ps : List Nat} {G G2 : Hp} (h : E296 b G G2) (hd : ∀ x ∈ dn, x < b) (hp : PA 295 296 dn ps G) : PA 295 296 dn ps G2 := PA_fr _ _ hp (fun x hx => by
  have := hd x hx
  exact ⟨h.2 295 x (by omega) (by omega) (by omega), h.2 296 x (by omega) (by omega) (by omega)⟩)
theorem E296.X {b : Nat} {G G2 : Hp} (h : E296 b G G2) : E287 G G2 := ⟨h.1, fun q k hq => h.2 q k (by omega) (by omega) (by omega)⟩
def CHS (t : Nat) (T : Txt) (r : Nat → Int32) (all : List Nat) (b : Nat) (rc : Hp → Nat → Nat → Int32 → Int32 → Option Hp) : Prop :=
  ∀ q lost ps o dn G, LX t G → XT t T G → XG T 290 q G → WFG T q → sub r q → (∀ k, k < 4 → q (4 + k) = r (4 + k)) → (∀ b, b ≤ T.1 3 → AL T r b G) → WT T G → BX all o G → PA 295 296 dn ps G → (∀ x ∈ dn, x < b) → dn ++ clo r b (T.1 3 - b) = all → lost < cst o → ∃ G2, rc G 287 t (nI b) (nI lost) = some G2 ∧ E296 b G G2 ∧ XG T 290 q G2 ∧ BX all (srch T (clo r b (T.1 3 - b)) q lost ps o) G2
theorem xBehind {t b p lost : Nat} {T : Txt} {r q : Nat → Int32} {all dn ps : List Nat} {o : OB} {rc : Hp → Nat → Nat → Int32 → Int32 → Option Hp} {G : Hp} (IH : CHS t T r all (b + 1) rc) (hW : WFT T) (hb : b < T.1 3) (hx : LX t G) (hT : XT t T G) (hG : XG T 290 q G) (hq : WFG T q) (hs : sub r q) (hph : ∀ k, k < 4 → q (4 + k) = r (4 + k)) (hA : ∀ b, b ≤ T.1 3 → AL T r b G) (hWT : WT T G) (hB : BX all o G) (hP : PA 295 296 dn ps G) (hd : ∀ x ∈ dn, x < b) (hall : dn ++ clo r b (T.1 3 - b) = all) (h0 : r (4 + b) = 0) (hl : lost < cst o) (hp : p < 35) (ha : p / 5 < T.1 1) (hi : p % 5 ≤ T.1 2) (t1 : G.1 295 b = nI (p / 5)) (t2 : G.1 296 b = wv (p % 5)) :
    ∃ G2, fX5_chooseBehind SHX rc G 287 t (nI b) (nI lost) (nI (aSet T (p / 5) (p % 5))) = some G2 ∧ E296 b G G2 ∧ XG T 290 q G2 ∧ BX all (srch T (clo r (b + 1) (T.1 3 - (b + 1))) (nq T q p) lost (ps ++ [p]) o) G2 := by
  have ht := hx.1
  have hw := hW.1
  obtain ⟨hq1, hq2, ⟨c, c1, c2', c3⟩, m, m1, m2⟩ := hq
  have hqq : WFG T q := ⟨hq1, hq2, ⟨c, c1, c2', c3⟩, m, m1, m2⟩
  have e4 : G.1 290 4 = q 21 := hG.2.2.2.1
  have e6 : G.1 290 6 = q 25 := hG.2.2.2.2.2.1
  have hoff : XG T 290 (off q (p / 5)) (sI G 290 6 (q 25 &&& ((1 : Int32) <<< (nI (p / 5) &&& 31) ^^^ (-1)))) := hG.f6 hw.2.2.2.1
  have bk := nq_back (p := p) hqq
  have hsplit : clo r b (T.1 3 - b) = b :: clo r (b + 1) (T.1 3 - (b + 1)) := by rw [show T.1 3 - b = (T.1 3 - (b + 1)) + 1 by omega, clo_y h0]
  -- the rest, once the set is learnt or not
  have J : ∀ G1 : Hp, E296 b G G1 → (∀ k, G1.1 295 k = G.1 295 k) → (∀ k, G1.1 296 k = G.1 296 k) → (∀ k, k < 4 → G1.1 288 k = G.1 288 k ∧ G1.1 289 k = G.1 289 k) → G1.1 287 3 = G.1 287 3 → (∀ k, G1.1 288 k = G.1 288 k ∧ G1.1 289 k = G.1 289 k) → XG T 290 (nq T q p) G1 → ∃ G2, fX5_chooseBehind_J56 SHX rc G1 287 t (nI b) (nI lost) (q 25) (q 21) = some G2 ∧ E296 b G G2 ∧ XG T 290 q G2 ∧ BX all (srch T (clo r (b + 1) (T.1 3 - (b + 1))) (nq T q p) lost (ps ++ [p]) o) G2 := by
    intro G1 g1 g2 g3 _ g5 g6 g7
    have hx1 := g1.L hx
    obtain ⟨G2, k1, k2, k3, k4⟩ := IH (nq T q p) lost (ps ++ [p]) o (dn ++ [b]) G1 hx1 (g1.T ht hT) g7 (WFG_nq hqq hW hp ha hi) (fun s h => lrn_nq hqq (hs s h)) (fun k hk => by rw [nq_ph hqq (by omega)]; exact hph k hk) (g1.A hA) (g1.W hWT) (BX_fr hB g5 (fun q k h => by rcases h with rfl | rfl; exact (g6 k).1; exact (g6 k).2)) (PA_snoc _ _ (PA_fr _ _ hP (fun x _ => ⟨g2 x, g3 x⟩)) ((g2 b).trans t1) ((g3 b).trans t2)) (fun x hx => by
      rcases List.mem_append.mp hx with h | h
      · have := hd x h; omega
      · rw [List.mem_singleton.mp h]; omega) (by rw [← hall, hsplit, List.append_assoc]; rfl) hl
    unfold fX5_chooseBehind_J56
    rw [nI_1, k1]
    simp only [ob]
    have hx2 := k2.L hx1
    rw [xl_287_6 hx2]
    simp only [ob, obd]
    have hx3 : LX t (sI G2 290 6 (q 25)) := hx2
    rw [xl_287_6 hx3]
    simp only [ob]
    refine ⟨_, rfl, (g1.tr (k2.up (by omega))).tr ((E296.s (by omega)).tr (E296.s (by omega))), XG_back hW k3 (fun k hk => nq_ph hqq hk) bk.1 bk.2, BX_fr k4 ?_ (fun q k h => ?_)⟩
    · rw [sI_ne (by omega), sI_ne (by omega)]
    · rw [sI_ne (by omega), sI_ne (by omega)]
  unfold fX5_chooseBehind
  rw [xl_287_6 hx, xl_287_7 hx]
  simp only [ob, obd]
  rw [aI_n (by rw [xnn_295]; omega) (by omega), t1, e6, e4]
  simp only [ob]
  have fr8 : E296 b G (sI G 290 6 (q 25 &&& ((1 : Int32) <<< (nI (p / 5) &&& 31) ^^^ (-1)))) := E296.s (by omega)
  have ne8 : ∀ q2 k, q2 ≠ 290 → (sI G 290 6 (q 25 &&& ((1 : Int32) <<< (nI (p / 5) &&& 31) ^^^ (-1)))).1 q2 k = G.1 q2 k := fun q2 k h => sI_ne (Or.inl h)
  generalize sI G 290 6 (q 25 &&& ((1 : Int32) <<< (nI (p / 5) &&& 31) ^^^ (-1))) = G8 at hoff fr8 ne8
  by_cases hod : nI (aSet T (p / 5) (p % 5)) &&& 1 = 0
  · rw [if_pos hod, xl_287_6 (fr8.L hx)]
    simp only [ob]
    obtain ⟨G12, l1, l2, l3⟩ := xLearnG (s := nI (aSet T (p / 5) (p % 5))) (fr8.L hx) hW isG_290 hoff c1 (by rw [off_21]; exact c2')
    rw [l1]
    simp only [ob]
    have ne12 : ∀ q2 k, ¬ (290 ≤ q2 ∧ q2 ≤ 294) → G12.1 q2 k = G.1 q2 k := fun q2 k h => (l2.2 q2 k (by omega)).trans (ne8 q2 k (by omega))
    refine J G12 (fr8.tr ⟨l2.1, fun q2 k x y z => l2.2 q2 k (by omega)⟩) (fun k => ne12 _ k (by omega)) (fun k => ne12 _ k (by omega)) (fun k _ => ⟨ne12 _ k (by omega), ne12 _ k (by omega)⟩) (ne12 _ _ (by omega)) (fun k => ⟨ne12 _ k (by omega), ne12 _ k (by omega)⟩) ?_
    unfold nq
    rw [if_neg (by rw [(odd_bit _).mp hod]; decide)]
    exact l3
  · rw [if_neg hod]
    refine J G8 fr8 (fun k => ne8 _ k (by omega)) (fun k => ne8 _ k (by omega)) (fun k _ => ⟨ne8 _ k (by omega), ne8 _ k (by omega)⟩) (ne8 _ _ (by omega)) (fun k => ⟨ne8 _ k (by omega), ne8 _ k (by omega)⟩) ?_
    unfold nq
    rw [if_pos (by
      cases hh : (aSet T (p / 5) (p % 5)).testBit 0 with
      | true => rfl
      | false => exact absurd ((odd_bit _).mpr hh) hod)]
    exact hoff
theorem vld_n1 {T : Txt} {q : Nat → Int32} {b p : Nat} (h : ¬ (p / 5 < T.1 1 ∧ p % 5 ≤ T.1 2 ∧ bt (q 25) (p / 5) = true ∧ tkn T q b (aSet T (p / 5) (p % 5)) = true)) : vld T q b p = false := by
  cases hv : vld T q b p with
  | false => rfl
  | true =>
    unfold vld at hv
    rw [Bool.and_eq_true, Bool.and_eq_true, Bool.and_eq_true, decide_eq_true_iff, decide_eq_true_iff] at hv
    exact absurd hv h
theorem vld_y {T : Txt} {q : Nat → Int32} {b p : Nat} (h1 : p / 5 < T.1 1) (h2 : p % 5 ≤ T.1 2) (h3 : bt (q 25) (p / 5) = true) (h4 : tkn T q b (aSet T (p / 5) (p % 5)) = true) : vld T q b p = true := by
  unfold vld
  rw [Bool.and_eq_true, Bool.and_eq_true, Bool.and_eq_true, decide_eq_true_iff, decide_eq_true_iff]
  exact ⟨h1, h2, h3, h4⟩
theorem fP_n {T : Txt} {b : Nat} {bs : List Nat} {q : Nat → Int32} {lost : Nat} {ps : List Nat} {p : Nat} {o : OB} (h : ¬ (p / 5 < T.1 1 ∧ p % 5 ≤ T.1 2 ∧ bt (q 25) (p / 5) = true ∧ tkn T q b (aSet T (p / 5) (p % 5)) = true)) : fP T b bs q lost ps p o = o := by
  unfold fP; rw [vld_n1 h]; rfl
theorem fW_n {T : Txt} {b : Nat} {bs : List Nat} {q : Nat → Int32} {lost : Nat} {ps : List Nat} {p : Nat} {o : OB} (h : ¬ (p / 5 < T.1 1 ∧ p % 5 ≤ T.1 2 ∧ bt (q 25) (p / 5) = true ∧ tkn T q b (aSet T (p / 5) (p % 5)) = true)) : fW T b bs q lost ps p o = o := by
  cases hw : wth T p with
  | true => rw [fW_t hw]; exact fP_n h
  | false => exact fW_f hw
theorem xWays {t b a lost : Nat} {T : Txt} {r q : Nat → Int32} {all dn ps : List Nat} {o : OB} {rc : Hp → Nat → Nat → Int32 → Int32 → Option Hp} {G : Hp} {bh : Int32} (IH : CHS t T r all (b + 1) rc) (hW : WFT T) (hb : b < T.1 3) (hx : LX t G) (hT : XT t T G) (hG : XG T 290 q G) (hq : WFG T q) (hs : sub r q) (hph : ∀ k, k < 4 → q (4 + k) = r (4 + k)) (hA : ∀ b, b ≤ T.1 3 → AL T r b G) (hWT : WT T G) (hP : PA 295 296 dn ps G) (hd : ∀ x ∈ dn, x < b) (hall : dn ++ clo r b (T.1 3 - b) = all) (h0 : r (4 + b) = 0) (hl1 : lost < 1000000) (ha : a < T.1 1) (hB : BX all (fo (fW T b (clo r (b + 1) (T.1 3 - (b + 1))) q lost ps) 0 (5 * a) o) G) {left : Nat} (hlf : q 25 = nI left) (hlf2 : left < 2 ^ T.1 1) (hbh : bh = G.1 299 ((b + 1) * 128 + (left &&& (255 ^^^ 2 ^ a)))) :
    ∃ G2, iter (fun s : Hp × Int32 => fX5_choose_S108 SHX rc 287 t (nI b) (nI lost) (nI a) bh s.1 s.2) fuel ((G, (-1)) : Hp × Int32) = some G2 ∧ E296 b G G2 ∧ XG T 290 q G2 ∧ BX all (fo (fW T b (clo r (b + 1) (T.1 3 - (b + 1))) q lost ps) 0 (5 * (a + 1)) o) G2 := by
  have ht := hx.1
  have hw := hW.1
  have h128 : 2 ^ T.1 1 ≤ 128 := Nat.le_trans (pow_le hw.2.1) (by decide)
  have hla := (hW.2.1 a ha).1
  obtain ⟨y, y1, y2, y3⟩ := hA (b + 1) (by omega) (left &&& (255 ^^^ 2 ^ a)) (Nat.lt_of_le_of_lt Nat.and_le_left hlf2)
  rw [y2] at hbh
  subst hbh
  generalize hf : fW T b (clo r (b + 1) (T.1 3 - (b + 1))) q lost ps = f at hB ⊢
  have e5 : ∀ i, i < 5 → (5 * a + i) / 5 = a ∧ (5 * a + i) % 5 = i := fun i hi => by omega
  refine iter_go (f := fun s : Hp × Int32 => fX5_choose_S108 SHX rc 287 t (nI b) (nI lost) (nI a) (nI y) s.1 s.2) (P := fun i s => s.2 = wv i ∧ E296 b G s.1 ∧ XG T 290 q s.1 ∧ BX all (fo f 0 (5 * a + i) o) s.1) (Q := fun o2 => E296 b G o2 ∧ XG T 290 q o2 ∧ BX all (fo f 0 (5 * (a + 1)) o) o2) (T.1 2 + 1) (G, (-1)) (by omega) ⟨rfl, E296.rf, hG, hB⟩ ?_ ?_
  · rintro i ⟨G1, x⟩ hi ⟨rfl, hE, hG1, hB1⟩
    dsimp only at hE hG1 hB1 ⊢
    have hx1 := hE.L hx
    have hT1 := hE.T ht hT
    have hci := cost_99 hW (show i ≤ T.1 2 by omega)
    unfold fX5_choose_S108
    rw [hT1.1 2 (by decide), if_neg (wv_ge (by omega) (by omega)), xl_287_6 hx1]
    simp only [ob]
    rw [xThereB hG1 (by omega)]
    simp only [ob]
    cases hth : bt (q 25) a with
    | false =>
      rw [if_pos (show b2 false = 0 from rfl)]
      right
      refine ⟨_, rfl, hE, hG1, ?_⟩
      rw [show 5 * (a + 1) = (5 * a + i) + (5 - i) by omega, fo_more _ (fun j j1 j2 o2 => by
        rw [← hf]
        refine fW_n (fun h => ?_)
        have := h.2.2.1
        rw [Nat.zero_add, show j / 5 = a by omega, hth] at this
        cases this)]
      exact hB1
    | true =>
      rw [if_neg (show ¬ b2 true = 0 by decide), xt_6 ht hx1]
      simp only [ob]
      rw [aI_n (by rw [xn_6 ht]; omega) (by omega), (hT1.2.1 a ha).1, xCost ⟨t, hx1⟩ ht hT1 hW (by omega)]
      simp only [ob, obd]
      rw [xSet ⟨t, hx1⟩ ht hT1 hW ha (by omega)]
      simp only [ob]
      have hs256 := aSet_256 hW ha (show i ≤ T.1 2 by omega)
      have hc1 := hB1.c.2
      left
      obtain ⟨p1, p2⟩ := e5 i (by omega)
      have eS : fo f 0 (5 * a + (i + 1)) o = f (5 * a + i) (fo f 0 (5 * a + i) o) := by
        rw [show 5 * a + (i + 1) = (5 * a + i) + 1 by omega, fo_s, Nat.zero_add]
      have hwi := hE.W hWT (5 * a + i) (by omega) (by rw [p1]; exact ha) (by rw [p2]; omega)
      rw [xl_287_9 hx1]
      simp only [ob]
      rw [xPair]
      simp only [ob]
      rw [show a * 5 + i = 5 * a + i by omega, aI_n (by rw [xnn_297]; omega) (by omega), hwi]
      simp only [ob]
      cases hwt : wth T (5 * a + i) with
      | false =>
        rw [if_pos (show b2 false = 0 from rfl)]
        unfold fX5_choose_J188L108 fX5_choose_J189L108
        rw [if_pos rfl]
        simp only [obd]
        refine ⟨_, rfl, wv_inc i, hE, hG1, ?_⟩
        show BX all (fo f 0 (5 * a + (i + 1)) o) G1
        rw [eS]
        have : f (5 * a + i) (fo f 0 (5 * a + i) o) = fo f 0 (5 * a + i) o := by
          rw [← hf]; exact fW_f hwt
        rw [this]
        exact hB1
      | true =>
      rw [if_neg (show ¬ b2 true = 0 by decide), nI_add, nI_add, nI_add, hB1.c.1]
      by_cases hle : cst (fo f 0 (5 * a + i) o) ≤ lost + T.2.1 0 a + aCost T i + y
      · rw [if_pos (nI_le hle (by omega))]
        unfold fX5_choose_J188L108 fX5_choose_J189L108
        rw [if_pos rfl]
        simp only [obd]
        refine ⟨_, rfl, wv_inc i, hE, hG1, ?_⟩
        show BX all (fo f 0 (5 * a + (i + 1)) o) G1
        rw [eS]
        have : f (5 * a + i) (fo f 0 (5 * a + i) o) = fo f 0 (5 * a + i) o := by
          have h2 : fW T b (clo r (b + 1) (T.1 3 - (b + 1))) q lost ps (5 * a + i) (fo f 0 (5 * a + i) o) = fo f 0 (5 * a + i) o := by
            rw [fW_t hwt]
            unfold fP
            cases hv : vld T q b (5 * a + i) with
            | false => rfl
            | true =>
              rw [if_pos rfl]
              refine y3 _ _ _ _ (WFG_nq hq hW (by omega) (by omega) (by omega)) (fun s h => lrn_nq hq (hs s h)) (by rw [nq_25 hq hlf (by omega) (by omega), p1]) ?_
              unfold vP
              rw [p1, p2]
              omega
          rw [hf] at h2
          exact h2
        rw [this]
        exact hB1
      · rw [if_neg (nI_ge (by omega) (by omega))]
        unfold fX5_choose_J189L108
        rw [if_neg one_ne, xl_287_6 hx1]
        simp only [ob]
        rw [xTakes hx1 ht hT1 hW isG_290 hG1 hq hb hs256]
        simp only [ob]
        cases htk : tkn T q b (aSet T a i) with
        | false =>
          rw [if_pos (show b2 false = 0 from rfl)]
          simp only [obd]
          refine ⟨_, rfl, wv_inc i, hE, hG1, ?_⟩
          show BX all (fo f 0 (5 * a + (i + 1)) o) G1
          rw [eS]
          have : f (5 * a + i) (fo f 0 (5 * a + i) o) = fo f 0 (5 * a + i) o := by
            rw [← hf]
            refine fW_n (fun h => ?_)
            have := h.2.2.2
            rw [p1, p2, htk] at this
            cases this
          rw [this]
          exact hB1
        | true =>
          rw [if_neg (show ¬ b2 true = 0 by decide), xl_287_7 hx1]
          simp only [ob]
          rw [asI_n (by rw [xnn_295]; omega) (by omega)]
          simp only [ob]
          have hx17 : LX t (sI G1 295 b (nI a)) := hx1
          rw [xl_287_8 hx17]
          simp only [ob]
          rw [asI_n (by rw [xnn_296]; omega) (by omega)]
          simp only [ob]
          have f19 : E296 b G1 (sI (sI G1 295 b (nI a)) 296 b (wv i)) := (E296.s (by omega)).tr (E296.s (by omega))
          have n19 : ∀ q2 k, q2 ≠ 295 → q2 ≠ 296 → (sI (sI G1 295 b (nI a)) 296 b (wv i)).1 q2 k = G1.1 q2 k := fun q2 k u1 u2 => by rw [sI_ne (Or.inl u2), sI_ne (Or.inl u1)]
          have v1 : (sI (sI G1 295 b (nI a)) 296 b (wv i)).1 295 b = nI a := by rw [sI_ne (Or.inl (by decide)), sI_same]
          have v2 : (sI (sI G1 295 b (nI a)) 296 b (wv i)).1 296 b = wv i := sI_same
          generalize sI (sI G1 295 b (nI a)) 296 b (wv i) = G19 at f19 n19 v1 v2
          have hE19 := hE.tr f19
          have hv := vld_y (T := T) (q := q) (b := b) (p := 5 * a + i) (by rw [p1]; exact ha) (by rw [p2]; omega) (by rw [p1]; exact hth) (by rw [p1, p2]; exact htk)
          obtain ⟨G21, z1, z2, z3, z4⟩ := xBehind (p := 5 * a + i) (lost := lost + T.2.1 0 a + aCost T i) (o := fo f 0 (5 * a + i) o) IH hW hb (hE19.L hx) (hE19.T ht hT) (XG_fr hG1 (fun q2 k u1 u2 => n19 q2 k (by omega) (by omega))) hq hs hph (hE19.A hA) (hE19.W hWT) (BX_fr hB1 (n19 _ _ (by decide) (by decide)) (fun q2 k u => n19 q2 k (by omega) (by omega))) (hE19.P hd hP) hd hall h0 (by omega) (by omega) (by rw [p1]; exact ha) (by rw [p2]; omega) (by rw [p1]; exact v1) (by rw [p2]; exact v2)
          rw [p1, p2] at z1
          rw [z1]
          simp only [ob, obd]
          refine ⟨_, rfl, wv_inc i, hE19.tr z2, z3, ?_⟩
          show BX all (fo f 0 (5 * a + (i + 1)) o) G21
          rw [eS]
          have : f (5 * a + i) (fo f 0 (5 * a + i) o) = srch T (clo r (b + 1) (T.1 3 - (b + 1))) (nq T q (5 * a + i)) (lost + T.2.1 0 a + aCost T i) (ps ++ [5 * a + i]) (fo f 0 (5 * a + i) o) := by
            have h2 : fW T b (clo r (b + 1) (T.1 3 - (b + 1))) q lost ps (5 * a + i) (fo f 0 (5 * a + i) o) = srch T (clo r (b + 1) (T.1 3 - (b + 1))) (nq T q (5 * a + i)) (lost + T.2.1 0 a + aCost T i) (ps ++ [5 * a + i]) (fo f 0 (5 * a + i) o) := by
              rw [fW_t hwt]
              unfold fP
              rw [hv, if_pos rfl]
              have hvp : lost + vP T (5 * a + i) = lost + T.2.1 0 a + aCost T i := by
                unfold vP
                rw [p1, p2]
                omega
              rw [hvp]
            rw [hf] at h2
            exact h2
          rw [this]
          exact z4
  · rintro ⟨G1, x⟩ ⟨rfl, hE, hG1, hB1⟩
    dsimp only at hE hG1 hB1 ⊢
    have hT1 := hE.T ht hT
    unfold fX5_choose_S108
    rw [hT1.1 2 (by decide), if_pos (wv_end (by omega))]
    refine ⟨_, rfl, hE, hG1, ?_⟩
    rw [show 5 * (a + 1) = (5 * a + (T.1 2 + 1)) + (5 - (T.1 2 + 1)) by omega, fo_more _ (fun j j1 j2 o2 => by
      rw [← hf]
      refine fW_n (fun h => ?_)
      have := h.2.1
      rw [Nat.zero_add] at this
      omega)]
    exact hB1
theorem xChoose {t : Nat} {T : Txt} {r : Nat → Int32} {all : List Nat} (hW : WFT T) : ∀ d b, b ≤ T.1 3 → T.1 3 - b < d → CHS t T r all b (fX5_choose_d SHX d) := by
  have hw := hW.1
  have h128 : 2 ^ T.1 1 ≤ 128 := Nat.le_trans (pow_le hw.2.1) (by decide)
  intro d
  induction d with
  | zero => intro b _ h; omega
  | succ d ih =>
    intro b hb hd q lost ps o dn G hx hT hG hq hs hph hA hWT hB hP hdn hall hl
    have ht := hx.1
    have hc := hB.c
    show ∃ G2, fX5_choose SHX (fX5_choose_d SHX d) G 287 t (nI b) (nI lost) = some G2 ∧ _
    unfold fX5_choose
    rw [hT.1 3 (by decide)]
    by_cases e : b = T.1 3
    · subst e
      rw [if_neg (nI_nlt (Nat.le_refl _) (by omega))]
      simp only [obd]
      have hx11 : LX t (sI G 287 3 (nI lost)) := hx
      rw [xl_287_7 hx11, xl_287_4 hx11]
      simp only [ob]
      rw [cp4 (by rw [xnn_295]; omega) (by rw [show ln SHX 288 = 4 by decide +kernel]; omega)]
      simp only [ob]
      generalize hG14 : rI (sI G 287 3 (nI lost)) 288 (fun k => if k < 4 then (sI G 287 3 (nI lost)).1 295 k else (sI G 287 3 (nI lost)).1 288 k) = G14
      have hx14 : LX t G14 := by rw [← hG14]; exact hx
      rw [xl_287_8 hx14, xl_287_5 hx14]
      simp only [ob]
      rw [cp4 (by rw [xnn_296]; omega) (by rw [show ln SHX 289 = 4 by decide +kernel]; omega)]
      simp only [ob]
      have n14 : ∀ q2 k, q2 ≠ 288 → G14.1 q2 k = (sI G 287 3 (nI lost)).1 q2 k := fun q2 k h => by rw [← hG14, rI_ne h]
      have s14 : ∀ k, k < 4 → G14.1 288 k = G.1 295 k := fun k hk => by rw [← hG14, rI_same]; simp only [if_pos hk]; exact sI_ne (Or.inl (by decide))
      have r14 : G14.2 = G.2 := by rw [← hG14]; rfl
      rw [Nat.sub_self] at hall ⊢
      have hall2 : dn = all := by rw [← hall]; exact (List.append_nil dn).symm
      subst hall2
      refine ⟨_, rfl, ⟨r14, fun q2 k u1 u2 u3 => ?_⟩, XG_fr hG (fun q2 k u1 u2 => ?_), ?_⟩
      · rw [rI_ne (by omega), n14 q2 k (by omega), sI_ne (by omega)]
      · rw [rI_ne (by omega), n14 q2 k (by omega), sI_ne (by omega)]
      · show BX dn (if lost < cst o then some (lost, ps) else o) _
        rw [if_pos hl]
        refine ⟨by show lost < 1000000; omega, ?_, PA_fr _ _ hP (fun x hx => ?_)⟩
        · rw [rI_ne (by decide), n14 287 3 (by decide), sI_same]
        · have hx4 := hdn x hx
          refine ⟨?_, ?_⟩
          · rw [rI_ne (by decide), s14 x (by omega)]
          · rw [rI_same]
            simp only [if_pos (show x < 4 by omega)]
            rw [n14 296 x (by decide), sI_ne (Or.inl (by decide))]
    · rw [if_pos (nI_lt (by omega) (by omega)), xl_287_6 hx]
      simp only [ob]
      rw [xg_1 isG_290 hx]
      simp only [ob]
      rw [aI_n (by rw [xgn_1 isG_290]; omega) (by omega), hG.2.1 b (by omega), hph b (by omega)]
      simp only [ob]
      have IH := ih (b + 1) (by omega) (by omega)
      by_cases h0 : r (4 + b) = 0
      · rw [if_pos h0]
        have hsplit : clo r b (T.1 3 - b) = b :: clo r (b + 1) (T.1 3 - (b + 1)) := by rw [show T.1 3 - b = (T.1 3 - (b + 1)) + 1 by omega, clo_y h0]
        rw [hsplit, srch_c, ← fo_W hW]
        generalize hf : fW T b (clo r (b + 1) (T.1 3 - (b + 1))) q lost ps = f
        obtain ⟨m, m1, m2⟩ := hq.2.2.2
        have main : ∃ o2, iter (fun s : Hp × Int32 => fX5_choose_S67 SHX (fX5_choose_d SHX d) 287 t (nI b) (nI lost) s.1 s.2) fuel ((G, 0) : Hp × Int32) = some o2 ∧ E296 b G o2 ∧ XG T 290 q o2 ∧ BX all (fo f 0 35 o) o2 := by
          refine iter_go (f := fun s : Hp × Int32 => fX5_choose_S67 SHX (fX5_choose_d SHX d) 287 t (nI b) (nI lost) s.1 s.2) (P := fun a s => s.2 = nI a ∧ E296 b G s.1 ∧ XG T 290 q s.1 ∧ BX all (fo f 0 (5 * a) o) s.1) (Q := fun o2 => E296 b G o2 ∧ XG T 290 q o2 ∧ BX all (fo f 0 35 o) o2) (T.1 1) (G, 0) (by omega) ⟨rfl, E296.rf, hG, hB⟩ ?_ ?_
          · rintro a ⟨G1, x⟩ ha ⟨rfl, hE, hG1, hB1⟩
            left
            dsimp only at hE hG1 hB1 ⊢
            have hx1 := hE.L hx
            have hT1 := hE.T ht hT
            have hlt : m &&& (255 ^^^ 2 ^ a) < 2 ^ T.1 1 := Nat.lt_of_le_of_lt Nat.and_le_left m1
            unfold fX5_choose_S67
            rw [hT1.1 1 (by decide), if_neg (nI_ge ha (by omega)), xl_287_11 hx1, xl_287_6 hx1]
            simp only [ob]
            rw [show G1.1 290 6 = nI m from hG1.2.2.2.2.2.1.trans m2, m_there (by omega) (by omega), nI_1, show nI (b + 1) * 128 = nI ((b + 1) * 128) from pk_mul (b + 1) 128, nI_add, aI_n (by rw [xnn_299]; omega) (by omega)]
            simp only [ob]
            obtain ⟨G2, w1, w2, w3, w4⟩ := xWays (a := a) (lost := lost) (ps := ps) (o := o) IH hW (by omega) hx1 hT1 hG1 hq hs hph (hE.A hA) (hE.W hWT) (hE.P hdn hP) hdn hall h0 (by omega) ha (by rw [hf]; exact hB1) m2 m1 rfl
            rw [w1]
            simp only [ob, obd]
            rw [hf] at w4
            exact ⟨_, rfl, nI_1 a, hE.tr w2, w3, w4⟩
          · rintro ⟨G1, x⟩ ⟨rfl, hE, hG1, hB1⟩
            dsimp only at hE hG1 hB1 ⊢
            have hT1 := hE.T ht hT
            unfold fX5_choose_S67
            rw [hT1.1 1 (by decide), if_pos (nI_le (Nat.le_refl _) (by omega))]
            refine ⟨_, rfl, hE, hG1, ?_⟩
            rw [show 35 = 5 * T.1 1 + (35 - 5 * T.1 1) by omega, fo_more _ (fun j j1 j2 o2 => by
              rw [← hf]
              refine fW_n (fun h => ?_)
              have := h.1
              rw [Nat.zero_add] at this
              omega)]
            exact hB1
        obtain ⟨o2, k1, k2, k3, k4⟩ := main
        rw [k1]
        simp only [ob, obd]
        exact ⟨_, rfl, k2, k3, k4⟩
      · rw [if_neg h0, nI_1]
        have hsplit : clo r b (T.1 3 - b) = clo r (b + 1) (T.1 3 - (b + 1)) := by rw [show T.1 3 - b = (T.1 3 - (b + 1)) + 1 by omega, clo_n h0]
        obtain ⟨G2, k1, k2, k3, k4⟩ := IH q lost ps o dn G hx hT hG hq hs hph hA hWT hB hP (fun x hx => by have := hdn x hx; omega) (by rw [← hsplit]; exact hall) hl
        rw [k1]
        simp only [ob]
        rw [hsplit]
        exact ⟨_, rfl, k2.up (by omega), k3, k4⟩
