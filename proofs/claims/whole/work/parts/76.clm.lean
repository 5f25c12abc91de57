/-! CLAUSES, read: the reference's course. -/
def kfin (o : Hp ⊕ Hp ⊕ Hp ⊕ Hp) : Option Hp := Sum.elim (fun u4 => bd u4 fun G3 => some G3) (Sum.elim (fun u6 => bd u6 fun G5 => some G5) (Sum.elim (fun u8 => bd u8 fun G7 => some G7) (fun u10 => bd u10 fun G9 => some G9))) o
def kF9 : Hp × Int32 × Int32 → Option ((Hp × Int32 × Int32) ⊕ (Hp ⊕ Hp ⊕ Hp ⊕ Hp)) := fun s => fX11_tellClause_S9 SHM 0 s.1 s.2.1 s.2.2
def kS22 : Hp × Int32 × Int32 → Option ((Hp × Int32 × Int32) ⊕ ((Hp × Int32) ⊕ Hp)) := fun s => fX11_tellClause_S22 SHM 0 s.1 s.2.1 s.2.2
def kS152 : Hp × Int32 → Option ((Hp × Int32) ⊕ (Hp × Int32)) := fun s => fX11_tellClause_S152 SHM 0 s.1 s.2
def kB2 (n : Nat) (s : Hp × Int32) : Option ((Hp × Int32 × Int32) ⊕ (Hp ⊕ Hp ⊕ Hp ⊕ Hp)) := (iter kS152 n s).bind fun u17 => bd u17.1 fun G15 => bd u17.2 fun x16 => fX11_tellClause_J175L9 SHM G15 0 x16
def kA3 (u : (Hp × Int32) ⊕ Hp) : Option ((Hp × Int32 × Int32) ⊕ (Hp ⊕ Hp ⊕ Hp ⊕ Hp)) := Sum.elim (fun u18 => bd u18.1 fun G4 => bd u18.2 fun x5 => bp (fX11_knownTrait SHM G4 0) fun r6 G7 => if (G7.1 0 13) ≤ 0 then (fX11_bitOf r6).bind fun r9 => (fX11_emitWord SHM G7 0 r9).bind fun G11 => (fX11_notsCome SHM G11 0).bind fun G13 => kB2 fuel (G13, x5) else some (.inr (.inr (.inr (.inl G7))))) (fun u20 => bd u20 fun G19 => some (.inr (.inr (.inl G19)))) u
def kA2 (n : Nat) (s : Hp × Int32 × Int32) : Option ((Hp × Int32 × Int32) ⊕ (Hp ⊕ Hp ⊕ Hp ⊕ Hp)) := (iter kS22 n s).bind kA3
def kfn (m : Nat) (o : (Hp × Int32 × Int32) ⊕ (Hp ⊕ Hp ⊕ Hp ⊕ Hp)) (r : Hp) : Prop := match o with
  | .inl s => ∃ o2, iter kF9 m s = some o2 ∧ kfin o2 = some r
  | .inr o2 => kfin o2 = some r
theorem kfn_mono {n m : Nat} {o : (Hp × Int32 × Int32) ⊕ (Hp ⊕ Hp ⊕ Hp ⊕ Hp)} {r : Hp} (h : kfn n o r) (hm : n ≤ m) : kfn m o r := by
  cases o with
  | inl s =>
    obtain ⟨o2, h1, h2⟩ : ∃ o2, iter kF9 n s = some o2 ∧ kfin o2 = some r := h
    exact ⟨o2, iter_mono n m s o2 h1 hm, h2⟩
  | inr o2 => exact h
def KA (t : Nat) (G : Hp) (dp nt : Nat) (r : Hp) : Prop := ∃ n o, n ≤ 402 - t ∧ kA2 n (G, nI dp, nI nt) = some o ∧ kfn (402 - t) o r
def KB (t : Nat) (G : Hp) (dp : Nat) (r : Hp) : Prop := ∃ n o, n ≤ 402 - t ∧ kB2 n (G, nI dp) = some o ∧ kfn (402 - t) o r
theorem kB2_mono {n m : Nat} {s : Hp × Int32} {o : (Hp × Int32 × Int32) ⊕ (Hp ⊕ Hp ⊕ Hp ⊕ Hp)} (h : kB2 n s = some o) (hm : n ≤ m) : kB2 m s = some o := by
  obtain ⟨u, h1, h2⟩ := bn h
  unfold kB2
  rw [iter_mono n m s u h1 hm]
  exact h2
theorem kA2_mono {n m : Nat} {s : Hp × Int32 × Int32} {o : (Hp × Int32 × Int32) ⊕ (Hp ⊕ Hp ⊕ Hp ⊕ Hp)} (h : kA2 n s = some o) (hm : n ≤ m) : kA2 m s = some o := by
  obtain ⟨u, h1, h2⟩ := bn h
  unfold kA2
  rw [iter_mono n m s u h1 hm]
  exact h2
theorem kF9_1 {G : Hp} {dp : Int32} (h : G.1 0 13 = 0) : kF9 (G, dp, 1) = kA2 fuel (G, dp, nI 0) := by
  show fX11_tellClause_S9 SHM 0 G dp 1 = _
  unfold fX11_tellClause_S9
  rw [if_neg one_ne, if_pos h]
  rfl
theorem clause_done {t : Nat} {G r : Hp} (h13 : G.1 0 13 = 0) (h : KA t (sI G 0 52 0) 0 0 r) : fX11_tellClause SHM G 0 = some r := by
  obtain ⟨n, o, h1, h2, h3⟩ := h
  unfold fX11_tellClause
  simp only [obd]
  have hb : kF9 (sI G 0 52 0, 0, 1) = some o := by
    rw [kF9_1 (by rw [sI_ne (Or.inr (by decide))]; exact h13)]
    exact kA2_mono h2 (by unfold fuel; omega)
  have key : ∃ o2, iter kF9 fuel (sI G 0 52 0, 0, 1) = some o2 ∧ kfin o2 = some r := by
    obtain ⟨f, hf⟩ := fuel_is 1 (by decide)
    rw [hf]
    cases o with
    | inl s =>
      obtain ⟨o2, k1, k2⟩ : ∃ o2, iter kF9 (402 - t) s = some o2 ∧ kfin o2 = some r := h3
      refine ⟨o2, ?_, k2⟩
      rw [iter_in hb]
      exact iter_mono _ _ _ _ k1 (by unfold fuel at hf; omega)
    | inr o2 => exact ⟨o2, iter_out hb, h3⟩
  obtain ⟨o2, k1, k2⟩ := key
  show (iter kF9 fuel (sI G 0 52 0, 0, 1)).bind _ = _
  rw [k1]
  simp only [ob]
  exact k2
/-- what a clause's reading changes in the reference -/
def EQc (c0 : Nat) (G G2 : Hp) : Prop := G2.2 = G.2 ∧ ∀ q j, ¬ (q = 0 ∧ (j = 11 ∨ j = 13 ∨ j = 14 ∨ j = 15 ∨ j = 16 ∨ j = 36 ∨ j = 52)) → q ≠ 35 → ¬ (q = 23 ∧ c0 ≤ j ∧ j < 420 * (c0 / 420 + 1)) → G2.1 q j = G.1 q j
theorem EQc.rf {c0 : Nat} {G : Hp} : EQc c0 G G := ⟨rfl, fun _ _ _ _ _ => rfl⟩
theorem EQc.tr {c0 : Nat} {G G2 G3 : Hp} (h : EQc c0 G G2) (h2 : EQc c0 G2 G3) : EQc c0 G G3 := ⟨h2.1.trans h.1, fun q j x y z => (h2.2 q j x y z).trans (h.2 q j x y z)⟩
theorem EQc.s {c0 q k : Nat} {G : Hp} {v : Int32} (h : (q = 0 ∧ (k = 11 ∨ k = 13 ∨ k = 14 ∨ k = 15 ∨ k = 16 ∨ k = 36 ∨ k = 52)) ∨ q = 35) : EQc c0 G (sI G q k v) := ⟨rfl, fun q2 k2 x y z => sI_ne (by omega)⟩
theorem Er0.q {c0 : Nat} {G G2 : Hp} (h : Er0 G G2) : EQc c0 G G2 := ⟨h.1, fun q j x _ _ => h.2 q j (by omega)⟩
theorem EWd.q {c0 : Nat} {G G2 : Hp} (h : EWd c0 G G2) : EQc c0 G G2 := ⟨h.1, fun q j x _ z => h.2 q j (by omega) z⟩
theorem EQc.nm {c0 : Nat} {NM : List (List Nat × Bool)} {G G2 : Hp} (h : EQc c0 G G2) (hM : MNm NM G) : MNm NM G2 := by
  obtain ⟨h1, h2, h3, h4⟩ := hM
  refine ⟨(h.2 0 20 (by omega) (by omega) (by omega)).trans h1, h2, h3, fun j hj => ?_⟩
  rw [h.1, h.2 9 j (by omega) (by omega) (by omega)]; exact h4 j hj
/-- how far a clause is -/
def CC (l : Nat) (D : TKd) (p : Nat) (N : Nat × Nat) (NM : List (List Nat × Bool)) (c0 : Nat) (S C : List Nat) (G : Hp) : Prop := MPs l D p N G ∧ MNm NM G ∧ SWd c0 S C G ∧ (420 * (1 - l) ≤ c0 ∧ c0 + C.length + S.length ≤ 420 * (1 - l) + p) ∧ (∀ y ∈ S, y < 100) ∧ S.length ≤ 78
theorem SWd.push {c0 x : Nat} {S C : List Nat} {G : Hp} (h : SWd c0 S C G) : SWd c0 (x :: S) C (sI (sI G 35 S.length (nI x)) 0 52 (nI (S.length + 1))) := by
  obtain ⟨h1, h2, h3, h4⟩ := h
  refine ⟨by rw [sI_same]; rfl, ⟨?_, SK_fr S h2 (fun j hj => ?_)⟩, ?_, CQ_fr h4 (fun j => ?_)⟩
  · rw [sI_ne (Or.inl (by decide)), sI_same]
  · rw [sI_ne (Or.inl (by decide)), sI_ne (Or.inr (by omega))]
  · rw [sI_ne (Or.inr (by decide)), sI_ne (Or.inl (by decide))]; exact h3
  · rw [sI_ne (by omega), sI_ne (by omega)]
section KR
variable {l p c0 dp nt : Nat} {D : TKd} {N : Nat × Nat} {NM : List (List Nat × Bool)} {S C : List Nat} {G : Hp}
theorem mWaits0 (h : CC l D p N NM c0 S C G) : ∃ G3, (∀ v, v = nI (D.1 p) → fX11_waitsFor SHM G 0 v = (fX11_goesOn SHM G3 0).bind fun G5 => some G5) ∧ EQc c0 G G3 ∧ MPs l D p N G3 ∧ SWd c0 (D.1 p :: S) C G3 := by
  obtain ⟨h1, h2, h3, h4, h5, h6⟩ := h
  refine ⟨sI (sI G 35 S.length (nI (D.1 p))) 0 52 (nI (S.length + 1)), ?_, (EQc.s (by omega)).tr (EQc.s (by omega)), h1.E rfl rfl (fun q j hq => by rw [sI_ne (by omega), sI_ne (by omega)]) (fun j hj => by rw [sI_ne (by omega), sI_ne (by omega)]), h3.push⟩
  rintro v rfl
  unfold fX11_waitsFor
  rw [ml_51 h1.1, h3.1]
  simp only [ob]
  rw [asI_n (by rw [mn_35]; omega) (by omega)]
  simp only [ob, obd]
  rw [sI_ne (by omega), h3.1, nI_1]
theorem mWaits_y (hD : TKo D) (h : CC l D p N NM c0 S C G) (hS : S.length ≤ 77) (hk : D.1 p ≠ 0) (hp : p < 400) : ∃ G2, fX11_waitsFor SHM G 0 (nI (D.1 p)) = some G2 ∧ EQc c0 G G2 ∧ CC l D (p + 1) N NM c0 (D.1 p :: S) C G2 := by
  obtain ⟨G3, a1, a2, a3, a4⟩ := mWaits0 h
  obtain ⟨G2, b1, b2', b3, b4⟩ := mGoes_y hD a3 hk hp
  have := okK_lt hD p
  rw [a1 _ rfl, b1]
  refine ⟨G2, rfl, a2.tr b2'.q, b3, (a2.tr b2'.q).nm h.2.1, a4.E (b2'.2 0 52 (by omega)) (b2'.2 0 36 (by omega)) (fun q j hq => b2'.2 q j (by omega)), by have := h.2.2.2.1; rw [List.length_cons]; omega, fun y hy => ?_, by rw [List.length_cons]; omega⟩
  rcases List.mem_cons.mp hy with e | e
  · omega
  · exact h.2.2.2.2.1 y e
theorem mWaits_n (h : CC l D p N NM c0 S C G) (hp : ¬ p < 400) : ∃ G2, fX11_waitsFor SHM G 0 (nI (D.1 p)) = some G2 ∧ EQc c0 G G2 ∧ MF l D 2 p G2 := by
  obtain ⟨G3, a1, a2, a3, a4⟩ := mWaits0 h
  obtain ⟨G2, b1, b2', b3⟩ := mGoes_n a3 hp
  rw [a1 _ rfl, b1]
  exact ⟨G2, rfl, a2.tr b2'.q, b3⟩
/-- the step of 'not', of ( -/
theorem kS22_not (hD : TKo D) (h : MPs l D p N G) (hk : D.1 p = 28) (hnt : nt < 6) : kS22 (G, nI dp, nI nt) = (fX11_waitsFor SHM G 0 (nI (D.1 p))).bind fun G7 => some (.inl (G7, nI dp, nI (nt + 1))) := by
  show fX11_tellClause_S22 SHM 0 G (nI dp) (nI nt) = _
  unfold fX11_tellClause_S22 fX11_tellClause_J40L22 fX11_tellClause_J59L22 fX11_tellClause_J75L22 fX11_tellClause_J94L22
  rw [mIs (k := 28) (w := 28) hD h rfl (by decide), mIs (k := 6) (w := 6) hD h rfl (by decide), decide_eq_true hk, decide_eq_false (show ¬ D.1 p = 6 by omega)]
  simp only [ob, obd]
  rw [if_neg (show ¬ b2 true = 0 by decide), if_pos (show b2 false = 0 from rfl), if_pos (show b2 false = 0 from rfl), if_neg (show ¬ nI nt = 6 from fun z => by have := (nI_eq (b := 6) (by omega) (by decide)).mp z; omega), h.2.2.2.2.1, if_pos (by decide), if_pos (show b2 false = 0 from rfl), if_pos (show b2 false = 0 from rfl), ml_5 h.1, Int32.add_zero, nI_1]
  simp only [ob]
  rw [mKd h]
  rfl
theorem kS22_open (hD : TKo D) (h : MPs l D p N G) (hk : D.1 p = 6) (hdp : dp < 6) : kS22 (G, nI dp, nI nt) = (fX11_waitsFor SHM G 0 (nI (D.1 p))).bind fun G7 => some (.inl (G7, nI (dp + 1), nI 0)) := by
  show fX11_tellClause_S22 SHM 0 G (nI dp) (nI nt) = _
  unfold fX11_tellClause_S22 fX11_tellClause_J40L22 fX11_tellClause_J59L22 fX11_tellClause_J75L22 fX11_tellClause_J94L22
  rw [mIs (k := 28) (w := 28) hD h rfl (by decide), mIs (k := 6) (w := 6) hD h rfl (by decide), decide_eq_true hk, decide_eq_false (show ¬ D.1 p = 28 by omega)]
  simp only [ob, obd]
  rw [if_pos (show b2 false = 0 from rfl), if_neg (show ¬ b2 true = 0 by decide), if_neg (show ¬ b2 true = 0 by decide), if_neg (show ¬ nI dp = 6 from fun z => by have := (nI_eq (b := 6) (by omega) (by decide)).mp z; omega), if_neg (show ¬ b2 true = 0 by decide), h.2.2.2.2.1, if_pos (by decide), if_neg (show ¬ b2 true = 0 by decide), if_neg (show ¬ b2 true = 0 by decide), ml_5 h.1, nI_1]
  simp only [ob]
  rw [mKd h]
  rfl
/-- one too many -/
theorem kS22_many (hD : TKo D) (h : MPs l D p N G) (hc : (D.1 p = 28 ∧ nt = 6) ∨ (D.1 p = 6 ∧ dp = 6)) : ∃ G2, kS22 (G, nI dp, nI nt) = some (.inr (.inr G2)) ∧ Er0 G G2 ∧ MF l D 2 p G2 := by
  obtain ⟨G2, a1, a2, a3⟩ := mFail (f := 2) (Or.inr rfl) h
  refine ⟨G2, ?_, a2, a3⟩
  show fX11_tellClause_S22 SHM 0 G (nI dp) (nI nt) = _
  unfold fX11_tellClause_S22 fX11_tellClause_J40L22 fX11_tellClause_J59L22 fX11_tellClause_J70L22
  rw [mIs (k := 28) (w := 28) hD h rfl (by decide), mIs (k := 6) (w := 6) hD h rfl (by decide)]
  simp only [ob]
  have hJ : ∀ v, (fX11_fail SHM G 0 2).bind (fun G2 => fX11_tellClause_J75L22 SHM G2 0 (nI dp) (nI nt) v) = some (.inr (.inr G2)) := fun v => by
    rw [show (2 : Int32) = nI 2 from rfl, a1]
    simp only [ob]
    unfold fX11_tellClause_J75L22
    rw [if_neg a3.pos.1]
  rcases hc with ⟨e, rfl⟩ | ⟨e, rfl⟩
  · rw [decide_eq_true e, decide_eq_false (show ¬ D.1 p = 6 by omega), if_neg (show ¬ b2 true = 0 by decide), if_pos (show b2 false = 0 from rfl), if_pos (show b2 false = 0 from rfl), if_pos (show nI 6 = 6 from rfl)]
    exact hJ _
  · rw [decide_eq_false (show ¬ D.1 p = 28 by omega), decide_eq_true e, if_pos (show b2 false = 0 from rfl), if_neg (show ¬ b2 true = 0 by decide), if_neg (show ¬ b2 true = 0 by decide), if_pos (show nI 6 = 6 from rfl)]
    exact hJ _
theorem KA_many (hD : TKo D) (h : CC l D p N NM c0 S C G) (hc : (D.1 p = 28 ∧ nt = 6) ∨ (D.1 p = 6 ∧ dp = 6)) : ∃ r, EQc c0 G r ∧ MF l D 2 p r ∧ KA p G dp nt r := by
  have h3 := h.1.2.2.1
  obtain ⟨G2, a1, a2, a3⟩ := kS22_many hD h.1 hc
  refine ⟨G2, a2.q, a3, 1, .inr (.inr (.inl G2)), by omega, ?_, rfl⟩
  unfold kA2
  rw [iter_out a1]
  rfl
/-- a word waits, then a fault -/
theorem KA_room {s2 : Hp → Hp × Int32 × Int32} (hb : kS22 (G, nI dp, nI nt) = (fX11_waitsFor SHM G 0 (nI (D.1 p))).bind fun G7 => some (.inl (s2 G7))) (hs : ∀ G, (s2 G).1 = G) (h : CC l D p N NM c0 S C G) (hp : ¬ p < 400) : ∃ r, EQc c0 G r ∧ MF l D 2 p r ∧ KA p G dp nt r := by
  have h3 := h.1.2.2.1
  obtain ⟨G2, a1, a2, a3⟩ := mWaits_n h hp
  rw [a1] at hb
  simp only [ob] at hb
  refine ⟨G2, a2, a3, 2, .inr (.inr (.inr (.inl G2))), by omega, ?_, rfl⟩
  have hb2 : kS22 (s2 G2) = some (.inr (.inl (G2, (s2 G2).2.1))) := by
    show fX11_tellClause_S22 SHM 0 (s2 G2).1 (s2 G2).2.1 (s2 G2).2.2 = _
    rw [hs]
    unfold fX11_tellClause_S22
    rw [mIs_f a3, mIs_f a3]
    simp only [ob]
    rw [if_pos trivial, if_pos trivial]
  unfold kA2
  rw [iter_in hb, iter_out hb2]
  simp only [ob]
  unfold kA3
  simp only [Sum.elim_inl, obd]
  rw [mKnown_f a3]
  simp only [obp]
  rw [if_neg a3.pos.1]
theorem KA_not (hD : TKo D) (h : CC l D p N NM c0 S C G) (hS : S.length ≤ 77) (hk : D.1 p = 28) (hnt : nt < 6) (hp : p < 400) : ∃ G2, EQc c0 G G2 ∧ CC l D (p + 1) N NM c0 (28 :: S) C G2 ∧ ∀ r, KA (p + 1) G2 dp (nt + 1) r → KA p G dp nt r := by
  obtain ⟨G2, a1, a2, a3⟩ := mWaits_y hD h hS (by omega) hp
  have hb := kS22_not (dp := dp) hD h.1 hk hnt
  rw [a1] at hb
  simp only [ob] at hb
  rw [hk] at a3
  refine ⟨G2, a2, a3, ?_⟩
  rintro r ⟨n, o, r1, r2, r3⟩
  refine ⟨n + 1, o, by omega, ?_, kfn_mono r3 (by omega)⟩
  unfold kA2
  rw [iter_in hb]
  exact r2
theorem KA_open (hD : TKo D) (h : CC l D p N NM c0 S C G) (hS : S.length ≤ 77) (hk : D.1 p = 6) (hdp : dp < 6) (hp : p < 400) : ∃ G2, EQc c0 G G2 ∧ CC l D (p + 1) N NM c0 (6 :: S) C G2 ∧ ∀ r, KA (p + 1) G2 (dp + 1) 0 r → KA p G dp nt r := by
  obtain ⟨G2, a1, a2, a3⟩ := mWaits_y hD h hS (by omega) hp
  have hb := kS22_open (nt := nt) hD h.1 hk hdp
  rw [a1] at hb
  simp only [ob] at hb
  rw [hk] at a3
  refine ⟨G2, a2, a3, ?_⟩
  rintro r ⟨n, o, r1, r2, r3⟩
  refine ⟨n + 1, o, by omega, ?_, kfn_mono r3 (by omega)⟩
  unfold kA2
  rw [iter_in hb]
  exact r2
def rawk (TR : List (List Nat)) (w : List Nat) : Nat := (fi TR w).getD 20
theorem bit_tr : ∀ j, j < 8 → ∀ k, k < 7 → ((trB (some j) >>> (nI k &&& 31) = 1) ↔ k = j) := by decide +kernel
theorem bit_0 : ∀ k, k < 7 → ¬ ((0 : Int32) >>> (nI k &&& 31) = 1) := by decide +kernel
theorem mBitOf {o : Option Nat} (ho : ∀ j, o = some j → j < 8) : fX11_bitOf (trB o) = some (nI (cmk (o.getD 20))) := by
  unfold fX11_bitOf
  obtain ⟨z, h1, rfl⟩ := iter_go (f := fun s : Int32 => fX11_bitOf_S2 (trB o) s) (P := fun i s => s = nI i ∧ ∀ k, k < i → o ≠ some k) (Q := fun z => z = nI (cmk (o.getD 20))) 7 (0 : Int32) (by decide) ⟨rfl, fun k hk => by omega⟩ (by
    rintro i s hi ⟨rfl, hk⟩
    unfold fX11_bitOf_S2
    rw [if_neg (show ¬ (7 : Int32) ≤ nI i from nI_ge (b := 7) hi (by decide))]
    cases o with
    | none =>
      rw [if_neg (show ¬ trB none >>> (nI i &&& 31) = 1 from bit_0 i hi)]
      simp only [obd]
      exact Or.inl ⟨_, rfl, nI_1 i, fun k _ z => by cases z⟩
    | some j =>
      have hj := ho j rfl
      by_cases e : i = j
      · rw [if_pos ((bit_tr j hj i hi).mpr e)]
        refine Or.inr ⟨_, rfl, ?_⟩
        rw [e]
        show nI j = nI (cmk j)
        unfold cmk
        rw [if_neg (by omega)]
      · rw [if_neg (fun z => e ((bit_tr j hj i hi).mp z))]
        simp only [obd]
        refine Or.inl ⟨_, rfl, nI_1 i, fun k hk2 z => ?_⟩
        by_cases ek : k = i
        · rw [ek] at z; cases z; exact e rfl
        · exact hk k (by omega) z) (by
    rintro s ⟨rfl, hk⟩
    unfold fX11_bitOf_S2
    rw [if_pos (show (7 : Int32) ≤ nI 7 by decide)]
    refine ⟨_, rfl, ?_⟩
    cases o with
    | none => rfl
    | some j =>
      have hj := ho j rfl
      have : j = 7 := by
        rcases Nat.lt_or_ge j 7 with q | q
        · exact absurd rfl (hk j q)
        · omega
      subst this
      rfl)
  rw [h1]
  rfl
theorem KA_trait {n : Nat} (hD : TKo D) (h : CC l D p N NM c0 (List.replicate n 28 ++ S) C G) (hN : okN p N) (hl : l ≤ 1) (ht : tp (fun y => decide (y = 28)) S = false) (h8 : (trs NM).length ≤ 8) (hk : D.1 p = 1) (hp : p < 400) : ∃ G2, EQc c0 G G2 ∧ CC l D (p + 1) (ntp (fi (trs NM) (D.2.2.2.1 p)).isNone 4 p N) NM c0 S (C ++ ([rawk (trs NM) (D.2.2.2.1 p)] ++ List.replicate n 8)) G2 ∧ ∀ r, KB (p + 1) G2 dp r → KA p G dp nt r := by
  have h0 := h
  obtain ⟨h1, h2, h3, h4, h5, h6⟩ := h
  have hb := h1.2.2.1
  have hlen : (List.replicate n 28 ++ S).length = n + S.length := by rw [List.length_append, List.length_replicate]
  rw [hlen] at h4 h6
  obtain ⟨G7, a1, a2, a3⟩ := mKnown_y hD h1 hN h2 hk hp
  have s7 : SWd c0 (List.replicate n 28 ++ S) C G7 := h3.E (a2.2 0 52 (by omega)) (a2.2 0 36 (by omega)) (fun q j hq => a2.2 q j (by omega))
  have hbo := mBitOf (o := fi (trs NM) (D.2.2.2.1 p)) (fun j hj => by have := fi_lt _ _ _ hj; omega)
  obtain ⟨G11, b1, b2', b3⟩ := mEmitW (u := rawk (trs NM) (D.2.2.2.1 p)) a3.1 s7 rfl (by omega)
  obtain ⟨G13, c1, c2', c3⟩ := mNots (n := n) (a3.1.same (by rw [b2'.1])) b3 ht (fun y hy => h5 y (List.mem_append_right _ hy)) (by omega) (by rw [List.length_append]; show c0 < 840 ∧ c0 + (C.length + 1) + n ≤ 420 * (c0 / 420 + 1); omega)
  have m13 := c2'.mp (b2'.mp a3)
  have e13 : EQc c0 G G13 := a2.q.tr (b2'.q.tr c2'.q)
  refine ⟨G13, e13, ⟨m13, e13.nm h2, by rw [← List.append_assoc]; exact c3, ?_, fun y hy => h5 y (List.mem_append_right _ hy), by omega⟩, ?_⟩
  · rw [List.length_append, List.length_append, List.length_replicate]; show 420 * (1 - l) ≤ c0 ∧ c0 + (C.length + (1 + n)) + S.length ≤ _; omega
  · rintro r ⟨m, o, r1, r2, r3⟩
    have hb : kS22 (G, nI dp, nI nt) = some (.inr (.inl (G, nI dp))) := by
      show fX11_tellClause_S22 SHM 0 G (nI dp) (nI nt) = _
      unfold fX11_tellClause_S22
      rw [mIs (k := 28) (w := 28) hD h1 rfl (by decide), mIs (k := 6) (w := 6) hD h1 rfl (by decide), decide_eq_false (show ¬ D.1 p = 28 by omega), decide_eq_false (show ¬ D.1 p = 6 by omega)]
      simp only [ob]
      rw [if_pos (show b2 false = 0 from rfl), if_pos (show b2 false = 0 from rfl)]
    refine ⟨1, o, by omega, ?_, kfn_mono r3 (by omega)⟩
    unfold kA2
    rw [iter_out hb]
    simp only [ob]
    unfold kA3
    simp only [Sum.elim_inl, obd]
    rw [a1]
    simp only [obp]
    rw [a3.2.2.2.2.1, if_pos (by decide), hbo]
    simp only [ob]
    rw [show (fi (trs NM) (D.2.2.2.1 p)).getD 20 = rawk (trs NM) (D.2.2.2.1 p) from rfl, b1]
    simp only [ob]
    rw [c1]
    simp only [ob]
    exact kB2_mono r2 (by unfold fuel; omega)
theorem KA_trait_f (hD : TKo D) (h : CC l D p N NM c0 S C G) (hk : D.1 p ≠ 28 ∧ D.1 p ≠ 6) (hn : ¬ (D.1 p = 1 ∧ p < 400)) : ∃ r, EQc c0 G r ∧ MF l D (if D.1 p = 1 then 2 else 1) p r ∧ KA p G dp nt r := by
  have h3 := h.1.2.2.1
  obtain ⟨G7, a1, a2, a3⟩ := mKnown_n hD h.1 hn
  have hb : kS22 (G, nI dp, nI nt) = some (.inr (.inl (G, nI dp))) := by
    show fX11_tellClause_S22 SHM 0 G (nI dp) (nI nt) = _
    unfold fX11_tellClause_S22
    rw [mIs (k := 28) (w := 28) hD h.1 rfl (by decide), mIs (k := 6) (w := 6) hD h.1 rfl (by decide), decide_eq_false hk.1, decide_eq_false hk.2]
    simp only [ob]
    rw [if_pos (show b2 false = 0 from rfl), if_pos (show b2 false = 0 from rfl)]
  refine ⟨G7, a2.q, a3, 1, .inr (.inr (.inr (.inl G7))), by omega, ?_, rfl⟩
  unfold kA2
  rw [iter_out hb]
  simp only [ob]
  unfold kA3
  simp only [Sum.elim_inl, obd]
  rw [a1]
  simp only [obp]
  rw [if_neg a3.pos.1]
end KR
