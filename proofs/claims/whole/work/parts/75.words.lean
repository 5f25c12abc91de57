/-! CLAUSES, read: the reference's waiting words. -/
/-- codes of a clause: 20 is a trait that there is not -/
def cmk (k : Nat) : Nat := if k = 20 then 7 else k
def cxk (k : Nat) : Nat := if k = 20 then 0 else k
def wc (x : Nat) : Nat := if x = 28 then 8 else if x = 27 then 9 else 10
def isWd (x : Nat) : Prop := x = 28 ∨ x = 27 ∨ x = 26
def CQ (C : List Nat) (c0 : Nat) (G : Hp) : Prop := ∀ i, i < C.length → G.1 23 (c0 + i) = nI (cmk (C.getD i 0))
def SWd (c0 : Nat) (S C : List Nat) (G : Hp) : Prop := G.1 0 52 = nI S.length ∧ SK 35 S G ∧ G.1 0 36 = nI (c0 + C.length) ∧ CQ C c0 G
def EWd (c0 : Nat) (G G2 : Hp) : Prop := G2.2 = G.2 ∧ ∀ q j, ¬ (q = 0 ∧ (j = 36 ∨ j = 52)) → ¬ (q = 23 ∧ c0 ≤ j ∧ j < 420 * (c0 / 420 + 1)) → G2.1 q j = G.1 q j
theorem EWd.rf {c0 : Nat} {G : Hp} : EWd c0 G G := ⟨rfl, fun _ _ _ _ => rfl⟩
theorem EWd.tr {c0 : Nat} {G G2 G3 : Hp} (h : EWd c0 G G2) (h2 : EWd c0 G2 G3) : EWd c0 G G3 := ⟨h2.1.trans h.1, fun q j x z => (h2.2 q j x z).trans (h.2 q j x z)⟩
theorem EWd.mp {l p c0 : Nat} {D : TKd} {N : Nat × Nat} {G G2 : Hp} (h : EWd c0 G G2) (hm : MPs l D p N G) : MPs l D p N G2 := hm.E (by rw [h.1]) (by rw [h.1]) (fun q j hq => h.2 q j (by omega) (by omega)) (fun j hj => h.2 0 j (by omega) (by omega))
theorem EWd.mf {l c0 f i : Nat} {D : TKd} {G G2 : Hp} (h : EWd c0 G G2) (hm : MF l D f i G) : MF l D f i G2 := hm.E (by rw [h.1]) (fun j hj => h.2 0 j (by omega) (by omega))
theorem CQ_fr {C : List Nat} {c0 : Nat} {G G2 : Hp} (h : CQ C c0 G) (e : ∀ j, G2.1 23 j = G.1 23 j) : CQ C c0 G2 := fun i hi => (e _).trans (h i hi)
theorem CQ_snoc {C : List Nat} {u c0 : Nat} {G G2 : Hp} (h : CQ C c0 G) (e : ∀ j, j ≠ c0 + C.length → G2.1 23 j = G.1 23 j) (h1 : G2.1 23 (c0 + C.length) = nI (cmk u)) : CQ (C ++ [u]) c0 G2 := fun i hi => by
  rw [List.length_append] at hi
  have hi2 : i < C.length + 1 := hi
  by_cases e1 : i = C.length
  · rw [e1, getD_snoc]; exact h1
  · rw [getD_pre (by omega), e _ (by omega)]; exact h i (by omega)
theorem SWd.E {c0 : Nat} {S C : List Nat} {G G2 : Hp} (h : SWd c0 S C G) (e52 : G2.1 0 52 = G.1 0 52) (e36 : G2.1 0 36 = G.1 0 36) (e : ∀ q j, q = 35 ∨ q = 23 → G2.1 q j = G.1 q j) : SWd c0 S C G2 := by
  obtain ⟨h1, h2, h3, h4⟩ := h
  exact ⟨e52.trans h1, SK_fr S h2 (fun j _ => e 35 j (Or.inl rfl)), e36.trans h3, CQ_fr h4 (fun j => e 23 j (Or.inr rfl))⟩
theorem mEmitW {c0 u : Nat} {S C : List Nat} {a : Int32} {G : Hp} (hL : LM G) (h : SWd c0 S C G) (ha : a = nI (cmk u)) (hc : c0 < 840 ∧ c0 + C.length < 420 * (c0 / 420 + 1)) : ∃ G2, fX11_emitWord SHM G 0 a = some G2 ∧ EWd c0 G G2 ∧ SWd c0 S (C ++ [u]) G2 := by
  obtain ⟨h1, h2, h3, h4⟩ := h
  unfold fX11_emitWord
  rw [ml_37 hL, h3]
  simp only [ob]
  rw [asI_n (by rw [mn_23]; omega) (by omega)]
  simp only [ob, obd]
  rw [sI_ne (by omega), h3, nI_1]
  refine ⟨_, rfl, ⟨rfl, fun q j q1 q2 => by rw [sI_ne (by omega), sI_ne (by omega)]⟩, ?_, SK_fr S h2 (fun j _ => by rw [sI_ne (by omega), sI_ne (by omega)]), by rw [sI_same, List.length_append]; rfl, CQ_snoc h4 (fun j hj => by rw [sI_ne (by omega), sI_ne (by omega)]) (by rw [sI_ne (by omega), sI_same, ha])⟩
  rw [sI_ne (by omega), sI_ne (by omega)]; exact h1
theorem mWordC {c0 x : Nat} {S C : List Nat} {G : Hp} (hL : LM G) (h : SWd c0 (x :: S) C G) (hx : isWd x) (hl : S.length < 80) (hc : c0 < 840 ∧ c0 + C.length < 420 * (c0 / 420 + 1)) : ∃ G2, fX11_wordComes SHM G 0 = some G2 ∧ EWd c0 G G2 ∧ SWd c0 S (C ++ [wc x]) G2 := by
  obtain ⟨h1, h2, h3, h4⟩ := h
  unfold fX11_wordComes
  rw [h1, List.length_cons, nI_pred]
  simp only [obd]
  have s1 : SWd c0 S C (sI G 0 52 (nI S.length)) := ⟨sI_same, SK_fr S h2.2 (fun j _ => sI_ne (by omega)), (sI_ne (by omega)).trans h3, CQ_fr h4 (fun j => sI_ne (by omega))⟩
  have e1 : EWd c0 G (sI G 0 52 (nI S.length)) := ⟨rfl, fun q j q1 q2 => sI_ne (by omega)⟩
  have v1 : (sI G 0 52 (nI S.length)).1 35 S.length = nI x := (sI_ne (by omega)).trans h2.1
  have L1 : LM (sI G 0 52 (nI S.length)) := hL
  generalize sI G 0 52 (nI S.length) = G1 at s1 e1 v1 L1
  rw [ml_51 L1, s1.1]
  simp only [ob]
  rw [aI_n (by rw [mn_35]; exact hl) (by omega), v1]
  simp only [ob]
  have hk : ∀ a, a = nI (cmk (wc x)) → ∃ G2, (fX11_emitWord SHM G1 0 a).bind (fun G7 => some G7) = some G2 ∧ EWd c0 G G2 ∧ SWd c0 S (C ++ [wc x]) G2 := fun a ha => by
    obtain ⟨G2, a1, a2, a3⟩ := mEmitW L1 s1 ha hc
    rw [a1]
    exact ⟨G2, rfl, e1.tr a2, a3⟩
  rcases hx with rfl | rfl | rfl
  · rw [if_pos (show nI 28 = 28 from rfl)]; exact hk 8 rfl
  · rw [if_neg (show ¬ nI 27 = 28 by decide), if_pos (show nI 27 = 27 from rfl)]; exact hk 9 rfl
  · rw [if_neg (show ¬ nI 26 = 28 by decide), if_neg (show ¬ nI 26 = 27 by decide)]; exact hk 10 rfl
def tp (c : Nat → Bool) : List Nat → Bool
  | [] => false
  | x :: _ => c x
theorem mIsTop {c0 x : Nat} {S C : List Nat} {w : Int32} {G : Hp} (hL : LM G) (h : SWd c0 S C G) (hw : w = nI x) (hx : x < 100) (hS : ∀ y ∈ S, y < 100) (hl : S.length ≤ 80) : fX11_isTop SHM G 0 w = some (b2 (tp (fun y => decide (y = x)) S)) := by
  obtain ⟨h1, h2, -, -⟩ := h
  unfold fX11_isTop
  cases S with
  | nil => rw [h1, if_pos (show nI ([] : List Nat).length ≤ 0 by decide)]; rfl
  | cons y S2 =>
    rw [List.length_cons] at hl
    rw [h1, List.length_cons, if_neg (show ¬ nI (S2.length + 1) ≤ 0 from nI_ge (a := 0) (by omega) (by omega)), ml_51 hL, nI_pred]
    simp only [ob]
    rw [aI_n (by rw [mn_35]; omega) (by omega), h2.1]
    simp only [ob]
    have hy := hS y (List.mem_cons_self ..)
    rw [hw]
    show (if nI y = nI x then some 1 else some 0) = some (b2 (decide (y = x)))
    by_cases e : y = x
    · rw [if_pos (by rw [e]), decide_eq_true e]; rfl
    · rw [if_neg (fun z => e ((nI_eq (by omega) (by omega)).mp z)), decide_eq_false e]; rfl
/-- words on top come out while they are so -/
theorem popLoop {f : Hp → Option (Hp ⊕ Hp)} {c : Nat → Bool} {I : Hp → Prop} {c0 : Nat} (hI : ∀ G G2, I G → EWd c0 G G2 → I G2) (hL : ∀ G, I G → LM G) (hf : ∀ G S C, I G → SWd c0 S C G → (∀ y ∈ S, y < 100) → S.length ≤ 80 → f G = if tp c S then (fX11_wordComes SHM G 0).bind (fun G4 => some (.inl G4)) else some (.inr G)) : ∀ (X S C : List Nat) (G : Hp) (fu : Nat), I G → SWd c0 (X ++ S) C G → (∀ x ∈ X, isWd x ∧ c x = true) → tp c S = false → (∀ y ∈ S, y < 100) → (X ++ S).length ≤ 80 → (c0 < 840 ∧ c0 + C.length + X.length ≤ 420 * (c0 / 420 + 1)) → X.length < fu → ∃ G2, iter f fu G = some G2 ∧ EWd c0 G G2 ∧ SWd c0 S (C ++ X.map wc) G2
  | [], S, C, G, fu, hG, h, _, ht, hS, hl, _, hu => by
    obtain ⟨fu, rfl⟩ : ∃ z, fu = z + 1 := ⟨fu - 1, by simp at hu; omega⟩
    have hb : f G = some (.inr G) := by rw [hf G S C hG h hS hl, ht]; rfl
    rw [iter_out hb, List.map_nil, List.append_nil]
    exact ⟨G, rfl, EWd.rf, h⟩
  | x :: X, S, C, G, fu, hG, h, hX, ht, hS, hl, hc, hu => by
    obtain ⟨fu, rfl⟩ : ∃ z, fu = z + 1 := ⟨fu - 1, by simp at hu; omega⟩
    rw [List.length_cons] at hc hu
    have hl2 : (X ++ S).length + 1 ≤ 80 := by rw [List.cons_append, List.length_cons] at hl; exact hl
    have hx := hX x (List.mem_cons_self ..)
    have hall : ∀ y ∈ x :: X ++ S, y < 100 := fun y hy => by
      rcases List.mem_append.mp hy with q | q
      · rcases (hX y q).1 with e | e | e <;> omega
      · exact hS y q
    obtain ⟨G1, a1, a2, a3⟩ := mWordC (S := X ++ S) (hL G hG) h hx.1 (by omega) (by omega)
    have hb : f G = some (.inl G1) := by
      rw [hf G (x :: X ++ S) C hG h hall hl, show tp c (x :: X ++ S) = true from hx.2, if_pos rfl, a1]; rfl
    obtain ⟨G2, b1, b2', b3⟩ := popLoop hI hL hf X S (C ++ [wc x]) G1 fu (hI G G1 hG a2) a3 (fun y hy => hX y (List.mem_cons_of_mem _ hy)) ht hS (by omega) (by rw [List.length_append]; show c0 < 840 ∧ c0 + (C.length + 1) + X.length ≤ 420 * (c0 / 420 + 1); omega) (by omega)
    refine ⟨G2, ?_, a2.tr b2', ?_⟩
    · rw [iter_in hb]; exact b1
    · rw [List.map_cons, show C ++ wc x :: X.map wc = C ++ [wc x] ++ X.map wc by simp]; exact b3
theorem rep_isWd {n x : Nat} (h : x ∈ List.replicate n 28) : isWd x := Or.inl (List.eq_of_mem_replicate h)
theorem rep_wc : ∀ n, (List.replicate n 28).map wc = List.replicate n 8
  | 0 => rfl
  | n + 1 => by rw [List.replicate_succ, List.map_cons, rep_wc n]; rfl
section WD
variable {c0 : Nat} {S C : List Nat} {G : Hp}
theorem mNots {n : Nat} (hL : LM G) (h : SWd c0 (List.replicate n 28 ++ S) C G) (ht : tp (fun y => decide (y = 28)) S = false) (hS : ∀ y ∈ S, y < 100) (hl : n + S.length ≤ 80) (hc : c0 < 840 ∧ c0 + C.length + n ≤ 420 * (c0 / 420 + 1)) : ∃ G2, fX11_notsCome SHM G 0 = some G2 ∧ EWd c0 G G2 ∧ SWd c0 S (C ++ List.replicate n 8) G2 := by
  unfold fX11_notsCome
  cases n with
  | zero =>
    rw [mIsTop (x := 28) (w := 28) hL h rfl (by decide) hS (by rw [List.replicate_zero, List.nil_append]; omega)]
    simp only [ob]
    rw [show tp (fun y => decide (y = 28)) (List.replicate 0 28 ++ S) = false from ht, if_pos (show b2 false = 0 from rfl), List.replicate_zero, List.append_nil]
    exact ⟨G, rfl, EWd.rf, h⟩
  | succ n =>
    have hlen : (List.replicate n 28 ++ S).length = n + S.length := by rw [List.length_append, List.length_replicate]
    have hall : ∀ y ∈ List.replicate (n + 1) 28 ++ S, y < 100 := fun y hy => by
      rcases List.mem_append.mp hy with q | q
      · rw [List.eq_of_mem_replicate q]; decide
      · exact hS y q
    rw [mIsTop (x := 28) (w := 28) hL h rfl (by decide) hall (by rw [List.length_append, List.length_replicate]; omega)]
    simp only [ob]
    rw [show tp (fun y => decide (y = 28)) (List.replicate (n + 1) 28 ++ S) = true from rfl, if_neg (show ¬ b2 true = 0 by decide)]
    have h' : SWd c0 (28 :: (List.replicate n 28 ++ S)) C G := h
    obtain ⟨G4, a1, a2, a3⟩ := mWordC hL h' (Or.inl rfl) (by omega) (by omega)
    rw [a1]
    simp only [ob]
    obtain ⟨G2, b1, b2', b3⟩ := popLoop (f := fun s : Hp => fX11_notsCome_S0 SHM 0 s) (c := fun y => decide (y = 28)) (I := LM) (c0 := c0) (fun G G2 hG e => hG.same (by rw [e.1])) (fun G hG => hG) (fun G S C hG h hS hl => by
      unfold fX11_notsCome_S0
      rw [mIsTop (x := 28) (w := 28) hG h rfl (by decide) hS hl]
      simp only [ob]
      cases tp (fun y => decide (y = 28)) S with
      | false => rw [if_pos (show b2 false = 0 from rfl), if_neg (by decide)]
      | true => rw [if_neg (show ¬ b2 true = 0 by decide), if_pos rfl]) (List.replicate n 28) S (C ++ [wc 28]) G4 fuel (hL.same (by rw [a2.1])) a3 (fun x hx => ⟨rep_isWd hx, by rw [List.eq_of_mem_replicate hx]; rfl⟩) ht hS (by omega) (by rw [List.length_append, List.length_replicate]; show c0 < 840 ∧ c0 + (C.length + 1) + n ≤ 420 * (c0 / 420 + 1); omega) (by rw [List.length_replicate]; unfold fuel; omega)
    rw [b1]
    refine ⟨G2, rfl, a2.tr b2', ?_⟩
    rw [rep_wc] at b3
    rw [List.replicate_succ, show C ++ 8 :: List.replicate n 8 = C ++ [wc 28] ++ List.replicate n 8 by simp [wc]]
    exact b3
/-- words ahead of a ) come out, up to its ( -/
theorem mCloseW {X : List Nat} (hL : LM G) (h : SWd c0 (X ++ 6 :: S) C G) (hX : ∀ x ∈ X, x = 27 ∨ x = 26) (hS : ∀ y ∈ S, y < 100) (hl : (X ++ 6 :: S).length ≤ 80) (hc : c0 < 840 ∧ c0 + C.length + X.length ≤ 420 * (c0 / 420 + 1)) : ∃ G4, EWd c0 G G4 ∧ SWd c0 (6 :: S) (C ++ X.map wc) G4 ∧ fX11_closes SHM G 0 = ((fX11_goesOn SHM (sI G4 0 52 (nI S.length)) 0).bind fun G7 => (fX11_notsCome SHM G7 0).bind fun G9 => some G9) := by
  have hall : ∀ y ∈ X ++ 6 :: S, y < 100 := fun y hy => by
    rcases List.mem_append.mp hy with q | q
    · rcases hX y q with e | e <;> omega
    · rcases List.mem_cons.mp q with e | e
      · omega
      · exact hS y e
  have hS6 : ∀ y ∈ 6 :: S, y < 100 := fun y hy => hall y (List.mem_append_right _ hy)
  unfold fX11_closes
  rw [mIsTop (x := 27) (w := 27) hL h rfl (by decide) hall hl, mIsTop (x := 26) (w := 26) hL h rfl (by decide) hall hl]
  simp only [ob, obd]
  cases X with
  | nil =>
    rw [show tp (fun y => decide (y = 27)) ([] ++ 6 :: S) = false from rfl, show tp (fun y => decide (y = 26)) ([] ++ 6 :: S) = false from rfl, if_pos (show b2 false = 0 from rfl), if_pos (show b2 false = 0 from rfl)]
    have h1 : G.1 0 52 = nI (6 :: S).length := h.1
    rw [h1, List.length_cons, nI_pred, List.map_nil, List.append_nil]
    exact ⟨G, EWd.rf, h, rfl⟩
  | cons x X =>
    have hx := hX x (List.mem_cons_self ..)
    rw [List.length_cons] at hc
    have hl2 : (X ++ 6 :: S).length + 1 ≤ 80 := by rw [List.cons_append, List.length_cons] at hl; exact hl
    obtain ⟨G2, a1, a2, a3⟩ := mWordC (S := X ++ 6 :: S) hL h (Or.inr hx) (by omega) (by omega)
    obtain ⟨G4, b1, b2', b3⟩ := popLoop (f := fun s : Hp => fX11_closes_S0 SHM 0 s) (c := fun y => decide (y = 27) || decide (y = 26)) (I := LM) (c0 := c0) (fun G G2 hG e => hG.same (by rw [e.1])) (fun G hG => hG) (fun G S C hG h hS hl => by
      unfold fX11_closes_S0
      rw [mIsTop (x := 27) (w := 27) hG h rfl (by decide) hS hl, mIsTop (x := 26) (w := 26) hG h rfl (by decide) hS hl]
      simp only [ob]
      have ho : tp (fun y => decide (y = 27) || decide (y = 26)) S = (tp (fun y => decide (y = 27)) S || tp (fun y => decide (y = 26)) S) := by cases S <;> rfl
      rw [ho]
      cases tp (fun y => decide (y = 27)) S with
      | true => rw [if_neg (show ¬ b2 true = 0 by decide)]; exact (if_pos rfl).symm
      | false =>
        rw [if_pos (show b2 false = 0 from rfl)]
        cases tp (fun y => decide (y = 26)) S with
        | true => rw [if_neg (show ¬ b2 true = 0 by decide)]; exact (if_pos rfl).symm
        | false => rw [if_pos (show b2 false = 0 from rfl)]; exact (if_neg (by decide)).symm) X (6 :: S) (C ++ [wc x]) G2 fuel (hL.same (by rw [a2.1])) a3 (fun y hy => ⟨Or.inr (hX y (List.mem_cons_of_mem _ hy)), by rcases hX y (List.mem_cons_of_mem _ hy) with rfl | rfl <;> rfl⟩) rfl hS6 (by omega) (by rw [List.length_append]; show c0 < 840 ∧ c0 + (C.length + 1) + X.length ≤ 420 * (c0 / 420 + 1); omega) (by unfold fuel; rw [List.length_append] at hl2; omega)
    have hJ : fX11_closes_J18 SHM G 0 = ((fX11_goesOn SHM (sI G4 0 52 (nI S.length)) 0).bind fun G7 => (fX11_notsCome SHM G7 0).bind fun G9 => some G9) := by
      unfold fX11_closes_J18
      rw [a1]
      simp only [ob]
      rw [b1]
      simp only [ob, obd]
      rw [b3.1, List.length_cons, nI_pred]
    refine ⟨G4, a2.tr b2', ?_, ?_⟩
    · rw [List.map_cons, show C ++ wc x :: X.map wc = C ++ [wc x] ++ X.map wc by simp]; exact b3
    · rcases hx with rfl | rfl
      · rw [show tp (fun y => decide (y = 27)) (27 :: X ++ 6 :: S) = true from rfl, if_neg (show ¬ b2 true = 0 by decide)]; exact hJ
      · rw [show tp (fun y => decide (y = 27)) (26 :: X ++ 6 :: S) = false from rfl, show tp (fun y => decide (y = 26)) (26 :: X ++ 6 :: S) = true from rfl, if_pos (show b2 false = 0 from rfl), if_neg (show ¬ b2 true = 0 by decide)]; exact hJ
end WD
