/-! READING: names. -/
theorem ntp2 {b : Bool} {f p : Nat} {N : Nat × Nat} (hf : f ≠ 0) : ntp true f p (ntp b f p N) = ntp true f p N := by
  unfold ntp
  by_cases h : N.1 = 0
  · cases b
    · simp [h]
    · simp [h, hf]
  · simp [h]
def XNm (NW : List (List Nat)) (G : Hp) : Prop := G.1 1 12 = nI NW.length ∧ NW.length ≤ 23 ∧ (∀ w ∈ NW, okW w) ∧ ∀ j, j < NW.length → G.2.1 8 j = wcode (lN 32) (NW.getD j [])
def XTn (TR : List (List Nat)) (G : Hp) : Prop := TR.length ≤ 8 ∧ (∀ w ∈ TR, okW w) ∧ ∀ j, j < TR.length → G.2.1 9 j = wcode (lN 32) (TR.getD j [])
theorem getDw_mem {L : List (List Nat)} {j : Nat} (h : j < L.length) : L.getD j [] ∈ L := by
  rw [List.getD_eq_getElem?_getD, List.getElem?_eq_getElem h]; exact List.getElem_mem h
theorem getDw_of {L : List (List Nat)} {w : List Nat} (h : w ∈ L) : ∃ j, j < L.length ∧ L.getD j [] = w := by
  obtain ⟨j, h1, h2⟩ := List.getElem_of_mem h
  exact ⟨j, h1, by rw [List.getD_eq_getElem?_getD, List.getElem?_eq_getElem h1, h2]; rfl⟩
theorem getDw_pre {L : List (List Nat)} {x : List Nat} {j : Nat} (h : j < L.length) : (L ++ [x]).getD j [] = L.getD j [] := by
  rw [List.getD_eq_getElem?_getD, List.getD_eq_getElem?_getD, List.getElem?_append_left h]
theorem getDw_snoc {L : List (List Nat)} {x : List Nat} : (L ++ [x]).getD L.length [] = x := by
  rw [List.getD_eq_getElem?_getD, List.getElem?_append_right (Nat.le_refl _), Nat.sub_self]; rfl
/-- the first place of a word -/
def fi : List (List Nat) → List Nat → Option Nat
  | [], _ => none
  | x :: r, w => if x = w then some 0 else (fi r w).map (· + 1)
theorem fi_none : ∀ (L : List (List Nat)) (w : List Nat), (∀ j, j < L.length → L.getD j [] ≠ w) → fi L w = none
  | [], _, _ => rfl
  | x :: r, w, h => by
    have h0 : x ≠ w := h 0 (by simp)
    unfold fi
    rw [if_neg h0, fi_none r w (fun j hj => h (j + 1) (by simpa using hj))]; rfl
theorem fi_some : ∀ (L : List (List Nat)) (w : List Nat) (i : Nat), i < L.length → L.getD i [] = w → (∀ j, j < i → L.getD j [] ≠ w) → fi L w = some i
  | [], _, _, h, _, _ => by cases h
  | x :: r, w, 0, _, h, _ => by unfold fi; exact if_pos h
  | x :: r, w, i + 1, hi, h, hj => by
    have h0 : x ≠ w := hj 0 (by omega)
    unfold fi
    rw [if_neg h0, fi_some r w i (by simpa using hi) h (fun j q => hj (j + 1) (by omega))]; rfl
theorem fi_lt : ∀ (L : List (List Nat)) (w : List Nat) (i : Nat), fi L w = some i → i < L.length
  | [], _, _, h => by cases h
  | x :: r, w, i, h => by
    unfold fi at h
    split at h
    · cases h; simp
    · cases hr : fi r w with
      | none => rw [hr] at h; cases h
      | some j =>
        rw [hr] at h
        have := fi_lt r w j hr
        cases h
        simp; omega
/-- the traits among the names -/
def trs : List (List Nat × Bool) → List (List Nat)
  | [] => []
  | x :: r => if x.2 then x.1 :: trs r else trs r
theorem trs_app : ∀ (A B : List (List Nat × Bool)), trs (A ++ B) = trs A ++ trs B
  | [], _ => rfl
  | x :: A, B => by
    show (if x.2 then x.1 :: trs (A ++ B) else trs (A ++ B)) = (if x.2 then x.1 :: trs A else trs A) ++ trs B
    rw [trs_app A B]
    split <;> rfl
theorem trs_mem : ∀ (A : List (List Nat × Bool)) (w : List Nat), w ∈ trs A → (w, true) ∈ A
  | [], _, h => by cases h
  | (x, b) :: A, w, h => by
    cases b with
    | true =>
      rcases List.mem_cons.mp (show w ∈ x :: trs A from h) with h | h
      · subst h; exact List.mem_cons_self ..
      · exact List.mem_cons_of_mem _ (trs_mem A w h)
    | false => exact List.mem_cons_of_mem _ (trs_mem A w h)
theorem trs_le : ∀ (A : List (List Nat × Bool)), (trs A).length ≤ A.length
  | [] => Nat.le_refl _
  | x :: A => by
    have := trs_le A
    show (if x.2 then x.1 :: trs A else trs A).length ≤ A.length + 1
    split
    · rw [List.length_cons]; omega
    · omega
def MNm (NM : List (List Nat × Bool)) (G : Hp) : Prop := G.1 0 20 = nI NM.length ∧ NM.length ≤ 23 ∧ (∀ x ∈ NM, okW x.1) ∧ ∀ j, j < NM.length → G.2.1 8 j = wcode (lN 27) (NM.getD j ([], false)).1 ∧ G.1 9 j = if (NM.getD j ([], false)).2 then nI (trs (NM.take j)).length else -1
theorem getDm_mem {L : List (List Nat × Bool)} {j : Nat} (h : j < L.length) : L.getD j ([], false) ∈ L := by
  rw [List.getD_eq_getElem?_getD, List.getElem?_eq_getElem h]; exact List.getElem_mem h
theorem getDm_pre {L : List (List Nat × Bool)} {x : List Nat × Bool} {j : Nat} (h : j < L.length) : (L ++ [x]).getD j ([], false) = L.getD j ([], false) := by
  rw [List.getD_eq_getElem?_getD, List.getD_eq_getElem?_getD, List.getElem?_append_left h]
theorem getDm_snoc {L : List (List Nat × Bool)} {x : List Nat × Bool} : (L ++ [x]).getD L.length ([], false) = x := by
  rw [List.getD_eq_getElem?_getD, List.getElem?_append_right (Nat.le_refl _), Nat.sub_self]; rfl
theorem fi_trs {NM : List (List Nat × Bool)} {k : Nat} {w : List Nat} (hk : k < NM.length) (h1 : (NM.getD k ([], false)).1 = w) (h2 : (NM.getD k ([], false)).2 = true) (h3 : ∀ j, j < k → ¬ ((NM.getD j ([], false)).1 = w ∧ (NM.getD j ([], false)).2 = true)) : fi (trs NM) w = some (trs (NM.take k)).length := by
  have e : NM = NM.take k ++ NM.getD k ([], false) :: NM.drop (k + 1) := by
    rw [List.getD_eq_getElem?_getD, List.getElem?_eq_getElem hk]
    simp only [Option.getD_some]
    rw [← List.drop_eq_getElem_cons hk, List.take_append_drop]
  have hno : ∀ x ∈ trs (NM.take k), x ≠ w := fun x hx e => by
    have hm := trs_mem _ _ hx
    rw [e] at hm
    obtain ⟨j, ja, jb⟩ := List.getElem_of_mem hm
    rw [List.length_take] at ja
    rw [List.getElem_take] at jb
    refine h3 j (by omega) ?_
    rw [List.getD_eq_getElem?_getD, List.getElem?_eq_getElem (by omega), Option.getD_some, jb]
    exact ⟨rfl, rfl⟩
  have ht : trs NM = trs (NM.take k) ++ w :: trs (NM.drop (k + 1)) := by
    have e2 := congrArg trs e
    rw [trs_app] at e2
    rw [e2]
    congr 1
    show (if (NM.getD k ([], false)).2 then (NM.getD k ([], false)).1 :: trs (NM.drop (k + 1)) else _) = _
    rw [h2, if_pos rfl, h1]
  rw [ht]
  refine fi_some _ _ _ (by rw [List.length_append, List.length_cons]; omega) ?_ (fun j hj => ?_)
  · rw [List.getD_eq_getElem?_getD, List.getElem?_append_right (Nat.le_refl _), Nat.sub_self]; rfl
  · rw [List.getD_eq_getElem?_getD, List.getElem?_append_left hj, List.getElem?_eq_getElem hj, Option.getD_some]
    exact hno _ (List.getElem_mem hj)
theorem fi_trs0 {NM : List (List Nat × Bool)} {w : List Nat} (h3 : ∀ j, j < NM.length → ¬ ((NM.getD j ([], false)).1 = w ∧ (NM.getD j ([], false)).2 = true)) : fi (trs NM) w = none := by
  refine fi_none _ _ (fun j hj e => ?_)
  have hm := trs_mem _ _ (getDw_mem hj)
  rw [e] at hm
  obtain ⟨i, ia, ib⟩ := List.getElem_of_mem hm
  refine h3 i ia ?_
  rw [List.getD_eq_getElem?_getD, List.getElem?_eq_getElem ia, Option.getD_some, ib]
  exact ⟨rfl, rfl⟩
/-- what a new name changes in the class -/
def Er8 (G G2 : Hp) : Prop := G2.2.2 = G.2.2 ∧ (∀ q, q ≠ 8 → G2.2.1 q = G.2.1 q) ∧ ∀ q k, ¬ (q = 1 ∧ (k ≤ 6 ∨ k = 12)) → G2.1 q k = G.1 q k
theorem Er1.r8 {G G2 : Hp} (h : Er1 6 G G2) : Er8 G G2 := ⟨by rw [h.1], fun q _ => by rw [h.1], fun q k a => h.2 q k (by omega)⟩
theorem Er8.tr {G G2 G3 : Hp} (h : Er8 G G2) (h2 : Er8 G2 G3) : Er8 G G3 := ⟨h2.1.trans h.1, fun q a => (h2.2.1 q a).trans (h.2.1 q a), fun q k a => (h2.2.2 q k a).trans (h.2.2 q k a)⟩
section NX
variable {t p : Nat} {D : TKd} {N : Nat × Nat} {G : Hp} {NW TR : List (List Nat)}
theorem xNewLoop {b : Bool} (hD : TKo D) (h : XP t D p N G) (hN : XNm NW G) (hk : D.1 p = 1) : ∃ G2, iter (fun s : Hp × Int32 => fX6_readNewName_S15 SHX 1 (G.2.1 5 p) s.1 s.2) fuel ((G, 0) : Hp × Int32) = some G2 ∧ Er1 6 G G2 ∧ XP t D p (ntp (decide (D.2.2.2.1 p ∈ NW)) 3 p N) G2 := by
  have hw := hD.2.2.2.2.2.2.2 p hk
  have e5 : G.2.1 5 p = wcode (lN 32) (D.2.2.2.1 p) := (h.2.1 p h.2.2.1.1 h.2.2.1.2.1).2.2.2 hk
  obtain ⟨o, h1, h2, h3⟩ := iter_go (f := fun s : Hp × Int32 => fX6_readNewName_S15 SHX 1 (G.2.1 5 p) s.1 s.2) (P := fun i s => s.2 = nI i ∧ Er1 6 G s.1 ∧ ∃ b : Bool, (b = true ↔ ∃ j, j < i ∧ NW.getD j [] = D.2.2.2.1 p) ∧ XP t D p (ntp b 3 p N) s.1) (Q := fun o => Er1 6 G o ∧ XP t D p (ntp (decide (D.2.2.2.1 p ∈ NW)) 3 p N) o) NW.length (G, 0) (by have := hN.2.1; omega) ⟨rfl, Er1.rf, false, ⟨fun z => (by cases z), fun ⟨j, j1, _⟩ => (by omega)⟩, by rw [ntp_n]; exact h⟩ (by
    rintro i ⟨G1, x⟩ hi ⟨rfl, hE, b, hb, hX⟩
    left
    dsimp only at hE hX ⊢
    have h23 := hN.2.1
    unfold fX6_readNewName_S15
    rw [hE.2 1 12 (by omega), hN.1, if_neg (nI_ge hi (by omega)), xl_1_11 hX.1]
    simp only [ob]
    rw [aJ_n (by rw [xnn_8]; omega) (by omega), hE.1, hN.2.2.2 i hi, e5]
    simp only [ob]
    by_cases e : NW.getD i [] = D.2.2.2.1 p
    · rw [if_pos ((lg_cmp_eq _ _).mpr (by rw [e]))]
      obtain ⟨G7, n1, n2, n3⟩ := xNote (f := 3) (by decide) hX
      rw [show (3 : Int32) = nI 3 from rfl, n1]
      simp only [ob, obd]
      rw [ntp2 (by decide)] at n3
      exact ⟨_, rfl, nI_1 i, hE.tr n2, true, ⟨fun _ => ⟨i, by omega, e⟩, fun _ => rfl⟩, n3⟩
    · rw [if_neg (fun q => e ((wcode_inj (by decide) (by decide) (hN.2.2.1 _ (getDw_mem hi)) hw).mp ((lg_cmp_eq _ _).mp q)))]
      simp only [obd]
      refine ⟨_, rfl, nI_1 i, hE, b, ?_, hX⟩
      rw [hb]
      constructor
      · rintro ⟨j, j1, j2⟩; exact ⟨j, by omega, j2⟩
      · rintro ⟨j, j1, j2⟩
        by_cases ej : j = i
        · rw [ej] at j2; exact absurd j2 e
        · exact ⟨j, by omega, j2⟩) (by
    rintro ⟨G1, x⟩ ⟨rfl, hE, b, hb, hX⟩
    dsimp only at hE hX ⊢
    have h23 := hN.2.1
    unfold fX6_readNewName_S15
    rw [hE.2 1 12 (by omega), hN.1, if_pos (nI_le (Nat.le_refl _) (by omega))]
    refine ⟨_, rfl, hE, ?_⟩
    have : b = decide (D.2.2.2.1 p ∈ NW) := by
      rw [Bool.eq_iff_iff, hb, decide_eq_true_iff]
      constructor
      · rintro ⟨j, j1, j2⟩; rw [← j2]; exact getDw_mem j1
      · intro z; exact getDw_of z
    rw [← this]
    exact hX)
  exact ⟨o, h1, h2, h3⟩
theorem xNew_y (hD : TKo D) (h : XP t D p N G) (hN : XNm NW G) (hl : NW.length < 23) (hk : D.1 p = 1) (hp : p < 400) : ∃ G2, fX6_readNewName SHX G 1 = some (1, G2) ∧ Er8 G G2 ∧ XP t D (p + 1) (ntp (decide (D.2.2.2.1 p ∈ NW)) 3 p N) G2 ∧ XNm (NW ++ [D.2.2.2.1 p]) G2 := by
  have hw := hD.2.2.2.2.2.2.2 p hk
  have e5 : G.2.1 5 p = wcode (lN 32) (D.2.2.2.1 p) := (h.2.1 p h.2.2.1.1 h.2.2.1.2.1).2.2.2 hk
  unfold fX6_readNewName
  rw [xVal h]
  simp only [ob]
  rw [h.2.2.2.2.1, hk, if_pos (show ck 1 = 1 from rfl)]
  obtain ⟨G7, a1, a2, a3⟩ := xNewLoop (b := true) hD h hN hk
  rw [a1]
  simp only [ob, obd]
  rw [xl_1_11 a3.1]
  simp only [ob]
  rw [xnn_8, a2.2 1 12 (by omega), hN.1, if_neg (nI_ge hl (by decide)), asJ_n (by rw [xnn_8]; exact hl) (by omega)]
  simp only [ob]
  have i12 : (sJ G7 8 NW.length (G.2.1 5 p)).1 1 12 = nI NW.length := (a2.2 1 12 (by omega)).trans hN.1
  rw [i12, nI_1]
  have hG15 : XP t D p (ntp (decide (D.2.2.2.1 p ∈ NW)) 3 p N) (sI (sJ G7 8 NW.length (G.2.1 5 p)) 1 12 (nI (NW.length + 1))) := by
    obtain ⟨q1, q2, q3, q4, q5, q6, q7⟩ := a3
    refine ⟨q1, q2.E (fun q k hq => sI_ne (by omega)) (sJ_row (by decide)), q3, ?_, ?_, ?_, fun z => ?_⟩
    · rw [sI_ne (Or.inr (by decide))]; exact q4
    · rw [sI_ne (Or.inr (by decide))]; exact q5
    · rw [sI_ne (Or.inr (by decide))]; exact q6
    · rw [sI_ne (Or.inr (by decide))]; exact q7 z
  have e15 : Er8 G7 (sI (sJ G7 8 NW.length (G.2.1 5 p)) 1 12 (nI (NW.length + 1))) := ⟨rfl, fun q hq => sJ_row hq, fun q k hq => sI_ne (by omega)⟩
  have v12 : (sI (sJ G7 8 NW.length (G.2.1 5 p)) 1 12 (nI (NW.length + 1))).1 1 12 = nI (NW.length + 1) := sI_same
  have v8 : (sI (sJ G7 8 NW.length (G.2.1 5 p)) 1 12 (nI (NW.length + 1))).2.1 8 NW.length = G.2.1 5 p := sJ_same
  have n8 : ∀ j, j ≠ NW.length → (sI (sJ G7 8 NW.length (G.2.1 5 p)) 1 12 (nI (NW.length + 1))).2.1 8 j = G7.2.1 8 j := fun j hj => sJ_ne (Or.inr hj)
  generalize sI (sJ G7 8 NW.length (G.2.1 5 p)) 1 12 (nI (NW.length + 1)) = G15 at hG15 e15 v12 v8 n8
  obtain ⟨G17, b1, b2', b3⟩ := xPass_y (k := 1) (w := 1) hD hG15 rfl hk (by decide) hp
  rw [q01 b1 (Or.inr rfl)]
  refine ⟨G17, rfl, a2.r8.tr (e15.tr b2'.r8), b3, ?_, ?_, fun w hw2 => ?_, fun j hj => ?_⟩
  · rw [b2'.2 1 12 (by omega), v12, List.length_append]; rfl
  · rw [List.length_append]; show NW.length + 1 ≤ 23; omega
  · rcases List.mem_append.mp hw2 with q | q
    · exact hN.2.2.1 w q
    · rw [List.mem_singleton.mp q]; exact hw
  · rw [List.length_append] at hj
    have hj2 : j < NW.length + 1 := hj
    rw [b2'.1]
    by_cases ej : j = NW.length
    · rw [ej, v8, getDw_snoc, e5]
    · rw [n8 j ej, a2.1, getDw_pre (by omega)]; exact hN.2.2.2 j (by omega)
theorem xNew_n (hD : TKo D) (h : XP t D p N G) (hN : XNm NW G) (hl : NW.length < 23) (hn : ¬ (D.1 p = 1 ∧ p < 400)) : ∃ G2, fX6_readNewName SHX G 1 = some (0, G2) ∧ Er8 G G2 ∧ XF t D (if D.1 p = 1 then 2 else 1) p G2 := by
  unfold fX6_readNewName
  rw [xVal h]
  simp only [ob]
  rw [h.2.2.2.2.1]
  by_cases hk : D.1 p = 1
  · rw [hk, if_pos (show ck 1 = 1 from rfl)]
    obtain ⟨G7, a1, a2, a3⟩ := xNewLoop (b := true) hD h hN hk
    rw [a1]
    simp only [ob, obd]
    rw [xl_1_11 a3.1]
    simp only [ob]
    rw [xnn_8, a2.2 1 12 (by omega), hN.1, if_neg (nI_ge hl (by decide)), asJ_n (by rw [xnn_8]; exact hl) (by omega)]
    simp only [ob]
    have hG15 : ∀ v, XP t D p (ntp (decide (D.2.2.2.1 p ∈ NW)) 3 p N) (sI (sJ G7 8 NW.length (G.2.1 5 p)) 1 12 v) := fun v => by
      obtain ⟨q1, q2, q3, q4, q5, q6, q7⟩ := a3
      refine ⟨q1, q2.E (fun q k hq => sI_ne (by omega)) (sJ_row (by decide)), q3, ?_, ?_, ?_, fun z => ?_⟩
      · rw [sI_ne (Or.inr (by decide))]; exact q4
      · rw [sI_ne (Or.inr (by decide))]; exact q5
      · rw [sI_ne (Or.inr (by decide))]; exact q6
      · rw [sI_ne (Or.inr (by decide))]; exact q7 z
    have e15 : ∀ v, Er8 G7 (sI (sJ G7 8 NW.length (G.2.1 5 p)) 1 12 v) := fun v => ⟨rfl, fun q hq => sJ_row hq, fun q k hq => sI_ne (by omega)⟩
    obtain ⟨G17, b1, b2', b3⟩ := xPass_n (k := 1) (w := 1) hD (hG15 _) rfl (by decide) hn
    rw [q01 b1 (Or.inl rfl)]
    rw [hk] at b3
    exact ⟨G17, rfl, a2.r8.tr ((e15 _).tr b2'.r8), b3⟩
  · rw [if_neg (show ¬ ck (D.1 p) = 1 from fun z => hk ((ck_eq (hD.2.1 p) (b := 1) (by decide)).mp z))]
    obtain ⟨G17, b1, b2', b3⟩ := xPass_n (k := 1) (w := 1) hD h rfl (by decide) hn
    rw [q01 b1 (Or.inl rfl)]
    exact ⟨G17, rfl, b2'.r8, b3⟩
/-- the class looks a name up among the traits -/
theorem xLookT (h : XP t D p N G) (hT : XTn TR G) (h0 : G.1 (43 - t) 0 = nI TR.length) : ∃ (G5 : Hp) (r : Option Nat), iter (fun s : Hp × Int32 => fX6_readTraitName_S15 SHX 1 s.1 s.2) fuel ((sI G 1 8 (-1), wv TR.length) : Hp × Int32) = some G5 ∧ (G5.2 = G.2 ∧ ∀ q k, ¬ (q = 1 ∧ k = 8) → G5.1 q k = G.1 q k) ∧ G5.1 1 8 = (match r with | none => -1 | some i => nI i) ∧ (r = none → ∀ j, j < TR.length → wcode (lN 32) (TR.getD j []) ≠ G.2.1 5 p) ∧ (∀ i, r = some i → i < TR.length ∧ wcode (lN 32) (TR.getD i []) = G.2.1 5 p ∧ ∀ j, j < i → wcode (lN 32) (TR.getD j []) ≠ G.2.1 5 p) := by
  have h8 := hT.1
  obtain ⟨o, k1, k2, r, k3, k4, k5⟩ := iter_go (f := fun s : Hp × Int32 => fX6_readTraitName_S15 SHX 1 s.1 s.2) (P := fun m s => s.2 = wv (TR.length - m) ∧ (s.1.2 = G.2 ∧ ∀ q k, ¬ (q = 1 ∧ k = 8) → s.1.1 q k = G.1 q k) ∧ ∃ r : Option Nat, s.1.1 1 8 = (match r with | none => -1 | some i => nI i) ∧ (r = none → ∀ j, TR.length - m ≤ j → j < TR.length → wcode (lN 32) (TR.getD j []) ≠ G.2.1 5 p) ∧ (∀ i, r = some i → TR.length - m ≤ i ∧ i < TR.length ∧ wcode (lN 32) (TR.getD i []) = G.2.1 5 p ∧ ∀ j, TR.length - m ≤ j → j < i → wcode (lN 32) (TR.getD j []) ≠ G.2.1 5 p)) (Q := fun G5 => (G5.2 = G.2 ∧ ∀ q k, ¬ (q = 1 ∧ k = 8) → G5.1 q k = G.1 q k) ∧ ∃ r : Option Nat, G5.1 1 8 = (match r with | none => -1 | some i => nI i) ∧ (r = none → ∀ j, j < TR.length → wcode (lN 32) (TR.getD j []) ≠ G.2.1 5 p) ∧ (∀ i, r = some i → i < TR.length ∧ wcode (lN 32) (TR.getD i []) = G.2.1 5 p ∧ ∀ j, j < i → wcode (lN 32) (TR.getD j []) ≠ G.2.1 5 p)) TR.length (sI G 1 8 (-1), wv TR.length) (by omega) ⟨rfl, ⟨rfl, fun q k hq => sI_ne (by omega)⟩, none, sI_same, fun _ j a b => by omega, fun i hi => by cases hi⟩ (by
    rintro m ⟨G1, x⟩ hm ⟨rfl, ⟨f1, f2⟩, r, r1, r2, r3⟩
    left
    dsimp only at f1 f2 r1 ⊢
    obtain ⟨j0, hj0⟩ : ∃ j0, TR.length - m = j0 + 1 := ⟨TR.length - m - 1, by omega⟩
    have hj1 : TR.length - (m + 1) = j0 := by omega
    rw [hj0] at r2 r3 ⊢
    rw [hj1, wv_s]
    have hx1 : LX t G1 := h.1.same (by rw [f1])
    have hX1 : XP t D p N G1 := by
      obtain ⟨q1, q2, q3, q4, q5, q6, q7⟩ := h
      exact ⟨hx1, q2.E (fun q k hq => f2 q k (by omega)) (by rw [f1]), q3, (f2 1 6 (by omega)).trans q4, (f2 1 5 (by omega)).trans q5, (f2 1 3 (by omega)).trans q6, fun z => (f2 1 4 (by omega)).trans (q7 z)⟩
    unfold fX6_readTraitName_S15
    rw [if_neg (nI_pos (by omega)), xl_1_13 hx1]
    simp only [ob]
    rw [aJ_n (by rw [xnn_9]; omega) (by omega), xVal hX1, f1, hT.2.2 j0 (by omega), wv_dec]
    simp only [ob, obd]
    by_cases e : wcode (lN 32) (TR.getD j0 []) = G.2.1 5 p
    · rw [if_pos ((lg_cmp_eq _ _).mpr e)]
      refine ⟨_, rfl, rfl, ⟨f1, fun q k hq => ?_⟩, some j0, sI_same, fun z => (by cases z), fun i hi => ?_⟩
      · show (sI G1 1 8 (nI j0)).1 q k = _
        rw [sI_ne (by omega)]; exact f2 q k hq
      · cases hi
        exact ⟨Nat.le_refl _, by omega, e, fun j a b => by omega⟩
    · rw [if_neg (fun q => e ((lg_cmp_eq _ _).mp q))]
      refine ⟨_, rfl, rfl, ⟨f1, f2⟩, r, r1, fun z j a b => ?_, fun i hi => ?_⟩
      · by_cases ej : j = j0
        · rw [ej]; exact e
        · exact r2 z j (by omega) b
      · obtain ⟨a1, a2, a3, a4⟩ := r3 i hi
        refine ⟨by omega, a2, a3, fun j b1 b2' => ?_⟩
        by_cases ej : j = j0
        · rw [ej]; exact e
        · exact a4 j (by omega) b2') (by
    rintro ⟨G1, x⟩ ⟨rfl, hf, r, r1, r2, r3⟩
    dsimp only at hf r1 ⊢
    rw [Nat.sub_self] at r2 r3 ⊢
    unfold fX6_readTraitName_S15
    rw [wv_0, if_pos (by decide)]
    exact ⟨_, rfl, hf, r, r1, fun z j hj => r2 z j (Nat.zero_le _) hj, fun i hi => ⟨(r3 i hi).2.1, (r3 i hi).2.2.1, fun j hj => (r3 i hi).2.2.2 j (Nat.zero_le _) hj⟩⟩)
  exact ⟨o, r, k1, k2, k3, k4, k5⟩
theorem xTrait_y (hD : TKo D) (h : XP t D p N G) (hT : XTn TR G) (h0 : G.1 (43 - t) 0 = nI TR.length) (hk : D.1 p = 1) (hp : p < 400) : ∃ G2, fX6_readTraitName SHX G 1 = some (1, G2) ∧ Er1 8 G G2 ∧ XP t D (p + 1) (ntp (fi TR (D.2.2.2.1 p)).isNone 4 p N) G2 ∧ G2.1 1 8 = nI ((fi TR (D.2.2.2.1 p)).getD 0) := by
  have hw := hD.2.2.2.2.2.2.2 p hk
  have e5 : G.2.1 5 p = wcode (lN 32) (D.2.2.2.1 p) := (h.2.1 p h.2.2.1.1 h.2.2.1.2.1).2.2.2 hk
  obtain ⟨G5, r, k1, ⟨f1, f2⟩, k3, k4, k5⟩ := xLookT h hT h0
  have ht := h.1.1
  unfold fX6_readTraitName
  simp only [obd]
  have hx1 : LX t (sI G 1 8 (-1)) := h.1
  rw [xl_rtext hx1]
  simp only [ob]
  rw [sI_ne (by omega), h0, show nI TR.length - 1 = wv TR.length from rfl, k1]
  simp only [ob]
  have hX5 : XP t D p N G5 := by
    obtain ⟨q1, q2, q3, q4, q5, q6, q7⟩ := h
    exact ⟨q1.same (by rw [f1]), q2.E (fun q k hq => f2 q k (by omega)) (by rw [f1]), q3, (f2 1 6 (by omega)).trans q4, (f2 1 5 (by omega)).trans q5, (f2 1 3 (by omega)).trans q6, fun z => (f2 1 4 (by omega)).trans (q7 z)⟩
  have e5' : Er1 8 G G5 := ⟨f1, fun q k hq => f2 q k (by omega)⟩
  cases r with
  | none =>
    rw [fi_none TR (D.2.2.2.1 p) (fun j hj e => k4 rfl j hj (by rw [e, e5]))]
    rw [show G5.1 1 8 = -1 from k3, if_pos rfl]
    have e10 : Er1 8 G5 (sI G5 1 8 0) := Er1.s (by decide)
    have hX10 : XP t D p N (sI G5 1 8 0) := hX5.E e10 (sI_ne (Or.inr (by decide))) (sI_ne (Or.inr (by decide))) (sI_ne (Or.inr (by decide))) (sI_ne (Or.inr (by decide)))
    have v8 : (sI G5 1 8 0).1 1 8 = nI 0 := sI_same
    generalize sI G5 1 8 0 = G10 at e10 hX10 v8
    rw [hX10.2.2.2.2.1, hk, if_pos (show ck 1 = 1 from rfl)]
    obtain ⟨G16, n1, n2, n3⟩ := xNote (f := 4) (by decide) hX10
    rw [show (4 : Int32) = nI 4 from rfl, n1]
    simp only [ob]
    obtain ⟨G18, b1, b2', b3⟩ := xPass_y (k := 1) (w := 1) hD n3 rfl hk (by decide) hp
    rw [q01 b1 (Or.inr rfl)]
    exact ⟨G18, rfl, e5'.tr (e10.tr ((n2.tr b2').up (by decide))), b3, by rw [b2'.2 1 8 (by omega), n2.2 1 8 (by omega), v8]; rfl⟩
  | some i =>
    obtain ⟨i1, i2, i3⟩ := k5 i rfl
    rw [fi_some TR (D.2.2.2.1 p) i i1 ((wcode_inj (by decide) (by decide) (hT.2.1 _ (getDw_mem i1)) hw).mp (i2.trans e5)) (fun j hj e => i3 j hj (by rw [e, e5]))]
    have h8 := hT.1
    rw [show G5.1 1 8 = nI i from k3, if_neg (nI_nm1 (by omega))]
    show ∃ G2, _ ∧ _ ∧ XP t D (p + 1) (ntp false 4 p N) G2 ∧ _
    rw [ntp_n]
    obtain ⟨G8, b1, b2', b3⟩ := xPass_y (k := 1) (w := 1) hD hX5 rfl hk (by decide) hp
    rw [q01 b1 (Or.inr rfl)]
    exact ⟨G8, rfl, e5'.tr (b2'.up (by decide)), b3, by rw [b2'.2 1 8 (by omega)]; exact k3⟩
theorem xTrait_n (hD : TKo D) (h : XP t D p N G) (hT : XTn TR G) (h0 : G.1 (43 - t) 0 = nI TR.length) (hn : ¬ (D.1 p = 1 ∧ p < 400)) : ∃ G2, fX6_readTraitName SHX G 1 = some (0, G2) ∧ Er1 8 G G2 ∧ XF t D (if D.1 p = 1 then 2 else 1) p G2 := by
  obtain ⟨G5, r, k1, ⟨f1, f2⟩, k3, k4, k5⟩ := xLookT h hT h0
  have ht := h.1.1
  unfold fX6_readTraitName
  simp only [obd]
  have hx1 : LX t (sI G 1 8 (-1)) := h.1
  rw [xl_rtext hx1]
  simp only [ob]
  rw [sI_ne (by omega), h0, show nI TR.length - 1 = wv TR.length from rfl, k1]
  simp only [ob]
  have hX5 : XP t D p N G5 := by
    obtain ⟨q1, q2, q3, q4, q5, q6, q7⟩ := h
    exact ⟨q1.same (by rw [f1]), q2.E (fun q k hq => f2 q k (by omega)) (by rw [f1]), q3, (f2 1 6 (by omega)).trans q4, (f2 1 5 (by omega)).trans q5, (f2 1 3 (by omega)).trans q6, fun z => (f2 1 4 (by omega)).trans (q7 z)⟩
  have e5' : Er1 8 G G5 := ⟨f1, fun q k hq => f2 q k (by omega)⟩
  have fin : ∀ (N2 : Nat × Nat) (G3 : Hp), Er1 8 G5 G3 → XP t D p N2 G3 → ∃ G4, (bp (fX6_pass SHX G3 1 1) fun r10 G11 => if ¬ (r10 = 0 ∨ r10 = 1) then none else some (r10, G11)) = some (0, G4) ∧ Er1 8 G G4 ∧ XF t D (if D.1 p = 1 then 2 else 1) p G4 := by
    intro N2 G3 e3 h3
    obtain ⟨G4, a1, a2, a3⟩ := xPass_n (k := 1) (w := 1) hD h3 rfl (by decide) hn
    rw [q01 a1 (Or.inl rfl)]
    exact ⟨G4, rfl, e5'.tr (e3.tr (a2.up (by decide))), a3⟩
  have e10 : Er1 8 G5 (sI G5 1 8 0) := Er1.s (by decide)
  have hX10 : XP t D p N (sI G5 1 8 0) := hX5.E e10 (sI_ne (Or.inr (by decide))) (sI_ne (Or.inr (by decide))) (sI_ne (Or.inr (by decide))) (sI_ne (Or.inr (by decide)))
  generalize sI G5 1 8 0 = G10 at e10 hX10
  obtain ⟨G16, n1, n2, n3⟩ := xNote (f := 4) (by decide) hX10
  rw [show (4 : Int32) = nI 4 from rfl, n1]
  simp only [ob]
  split
  · split
    · exact fin _ G16 (e10.tr (n2.up (by decide))) n3
    · exact fin N G10 e10 hX10
  · exact fin N G5 Er1.rf hX5
end NX
