/-! EXPRESSIONS: the reference's waiting list, step by step. -/
def oc (x : Nat) : Int32 := if x = 8 then -11 else if x = 9 then -12 else if x = 10 then -13 else -14
def isOp (x : Nat) : Prop := x = 8 ∨ x = 9 ∨ x = 10 ∨ x = 15
def popS (s : Bool) (x : Nat) : Prop := isOp x ∧ (s = true → x = 10 ∨ x = 15)
/-- what is no more taken off -/
def stays (s : Bool) : List Nat → Prop
  | [] => True
  | x :: _ => x = 6 ∨ (s = true ∧ (x = 8 ∨ x = 9))
def SK (q : Nat) : List Nat → Hp → Prop
  | [], _ => True
  | x :: s, G => G.1 q s.length = nI x ∧ SK q s G
theorem SK_fr {q : Nat} {G G2 : Hp} : ∀ (S : List Nat), SK q S G → (∀ j, j < S.length → G2.1 q j = G.1 q j) → SK q S G2
  | [], _, _ => trivial
  | x :: s, h, e => ⟨(e _ (by simp)).trans h.1, SK_fr s h.2 (fun j hj => e j (by simp; omega))⟩
theorem SK_app {q : Nat} {G : Hp} : ∀ (X S : List Nat), SK q (X ++ S) G → SK q S G
  | [], _, h => h
  | _ :: X, S, h => SK_app X S h.2
def SC (c0 : Nat) (S : List Nat) (C : List Int32) (G : Hp) : Prop := G.1 0 54 = nI S.length ∧ SK 36 S G ∧ G.1 0 48 = nI (c0 + C.length) ∧ MP C c0 G
theorem getDi_pre {L : List Int32} {x : Int32} {j : Nat} (h : j < L.length) : (L ++ [x]).getD j 0 = L.getD j 0 := by
  rw [List.getD_eq_getElem?_getD, List.getD_eq_getElem?_getD, List.getElem?_append_left h]
theorem getDi_snoc {L : List Int32} {x : Int32} : (L ++ [x]).getD L.length 0 = x := by
  rw [List.getD_eq_getElem?_getD, List.getElem?_append_right (Nat.le_refl _), Nat.sub_self]; rfl
theorem MP_snoc {C : List Int32} {u : Int32} {c0 : Nat} {G G2 : Hp} (h : MP C c0 G) (e : ∀ q j, (q = 33 ∨ q = 34) → j ≠ c0 + C.length → G2.1 q j = G.1 q j) (h1 : G2.1 33 (c0 + C.length) = mcode u) (h2 : mcode u < 2 → G2.1 34 (c0 + C.length) = mint u) : MP (C ++ [u]) c0 G2 := fun i hi => by
  rw [List.length_append] at hi
  have hi2 : i < C.length + 1 := hi
  by_cases e1 : i = C.length
  · rw [e1, getDi_snoc]; exact ⟨h1, h2⟩
  · rw [getDi_pre (by omega), e 33 _ (Or.inl rfl) (by omega), e 34 _ (Or.inr rfl) (by omega)]
    exact h i (by omega)
/-- what an expression may change -/
def EE (b : Nat) (G G2 : Hp) : Prop := G2.2 = G.2 ∧ ∀ q j, ¬ (q = 0 ∧ (j = 11 ∨ j = 12 ∨ j = 13 ∨ j = 14 ∨ j = 48 ∨ j = 54)) → q ≠ 36 → ¬ ((q = 33 ∨ q = 34) ∧ b ≤ j ∧ j < 420 * (b / 420 + 1)) → G2.1 q j = G.1 q j
theorem EE.rf {b : Nat} {G : Hp} : EE b G G := ⟨rfl, fun _ _ _ _ _ => rfl⟩
theorem EE.tr {b : Nat} {G G2 G3 : Hp} (h : EE b G G2) (h2 : EE b G2 G3) : EE b G G3 := ⟨h2.1.trans h.1, fun q j x y z => (h2.2 q j x y z).trans (h.2 q j x y z)⟩
theorem EE.s {b q k : Nat} {G : Hp} {v : Int32} (h : (q = 0 ∧ (k = 11 ∨ k = 12 ∨ k = 13 ∨ k = 14 ∨ k = 48 ∨ k = 54)) ∨ q = 36 ∨ ((q = 33 ∨ q = 34) ∧ b ≤ k ∧ k < 420 * (b / 420 + 1))) : EE b G (sI G q k v) := ⟨rfl, fun q2 k2 x y z => sI_ne (by omega)⟩
/-- codes and waiting ones alone -/
def EC2 (b : Nat) (G G2 : Hp) : Prop := G2.2 = G.2 ∧ ∀ q j, ¬ (q = 0 ∧ (j = 48 ∨ j = 54)) → ¬ ((q = 33 ∨ q = 34) ∧ b ≤ j ∧ j < 420 * (b / 420 + 1)) → G2.1 q j = G.1 q j
theorem EC2.rf {b : Nat} {G : Hp} : EC2 b G G := ⟨rfl, fun _ _ _ _ => rfl⟩
theorem EC2.tr {b : Nat} {G G2 G3 : Hp} (h : EC2 b G G2) (h2 : EC2 b G2 G3) : EC2 b G G3 := ⟨h2.1.trans h.1, fun q j x z => (h2.2 q j x z).trans (h.2 q j x z)⟩
theorem EC2.e {b : Nat} {G G2 : Hp} (h : EC2 b G G2) : EE b G G2 := ⟨h.1, fun q j x _ z => h.2 q j (by omega) z⟩
theorem mEmit {c : Nat} {a v : Int32} {G : Hp} (hL : LM G) (h48 : G.1 0 48 = nI c) (hc : c < 840) : ∃ G2, fX11_emit SHM G 0 a v = some G2 ∧ G2.2 = G.2 ∧ G2.1 0 48 = nI (c + 1) ∧ G2.1 33 c = a ∧ G2.1 34 c = v ∧ ∀ q j, ¬ (q = 0 ∧ j = 48) → ¬ ((q = 33 ∨ q = 34) ∧ j = c) → G2.1 q j = G.1 q j := by
  unfold fX11_emit
  rw [ml_49 hL, h48]
  simp only [ob]
  rw [asI_n (by rw [mn_33]; exact hc) (by omega)]
  simp only [ob]
  have L2 : LM (sI G 33 c a) := hL
  rw [ml_50 L2, sI_ne (Or.inl (by decide)), h48]
  simp only [ob]
  rw [asI_n (by rw [mn_34]; exact hc) (by omega)]
  simp only [ob, obd]
  rw [sI_ne (Or.inl (by decide)), sI_ne (Or.inl (by decide)), h48, nI_1]
  refine ⟨_, rfl, rfl, sI_same, ?_, ?_, fun q j h1 h2 => ?_⟩
  · rw [sI_ne (by omega), sI_ne (by omega), sI_same]
  · rw [sI_ne (by omega), sI_same]
  · rw [sI_ne (by omega), sI_ne (by omega), sI_ne (by omega)]
theorem oc_code : ∀ x, x = 8 ∨ x = 9 ∨ x = 10 ∨ x = 15 → mcode (oc x) = (if x = 8 then 2 else if x = 9 then 3 else if x = 10 then 4 else 5) ∧ ¬ mcode (oc x) < 2 := by
  rintro x (rfl | rfl | rfl | rfl) <;> decide
/-- one comes off -/
theorem mOff {x c0 : Nat} {S : List Nat} {C : List Int32} {G : Hp} {s : Int32} (hL : LM G) (h : SC c0 (x :: S) C G) (hx : isOp x) (hc : c0 < 840 ∧ c0 + C.length < 420 * (c0 / 420 + 1)) : ∃ G2, EC2 c0 G G2 ∧ SC c0 S (C ++ [oc x]) G2 ∧ fX11_comesOut_J42L0 SHM G 0 s (nI x) = some (.inl G2) ∧ fX11_comesOut_J42 SHM G 0 s (nI x) = (iter (fun z : Hp => fX11_comesOut_S0 SHM 0 s z) fuel G2).bind (Sum.elim (fun u5 => bd u5 fun G4 => some G4) (fun u7 => bd u7 fun G6 => some G6)) := by
  obtain ⟨h1, h2, h3, h4⟩ := h
  have hs : nI (x :: S).length - 1 = nI S.length := by rw [List.length_cons, nI_pred]
  have hL1 : LM (sI G 0 54 (nI S.length)) := hL
  obtain ⟨o1, o2⟩ := oc_code x hx
  obtain ⟨G2, a1, a2, a3, a4, a5, a6⟩ := mEmit (a := if x = 8 then 2 else if x = 9 then 3 else if x = 10 then 4 else 5) (v := 0) hL1 (by rw [sI_ne (Or.inr (by decide))]; exact h3) (by omega)
  have f2 : EC2 c0 G G2 := ⟨a2, fun q j q1 q2 => by rw [a6 q j (by omega) (by omega), sI_ne (by omega)]⟩
  have hSC : SC c0 S (C ++ [oc x]) G2 := by
    refine ⟨?_, SK_fr S h2.2 (fun j hj => ?_), ?_, MP_snoc h4 (fun q j hq hj => ?_) (by rw [a4, o1]) (fun z => absurd z o2)⟩
    · rw [a6 0 54 (by omega) (by omega), sI_same]
    · rw [a6 36 j (by omega) (by omega), sI_ne (Or.inl (by decide))]
    · rw [a3, List.length_append]; rfl
    · rw [a6 q j (by omega) (by omega), sI_ne (by omega)]
  refine ⟨G2, f2, hSC, ?_, ?_⟩
  · unfold fX11_comesOut_J42L0
    rw [h1, hs]
    simp only [obd]
    rcases hx with rfl | rfl | rfl | rfl
    · rw [if_pos (show nI 8 = 8 from rfl)]
      rw [if_pos rfl] at a1
      rw [a1]; rfl
    · rw [if_neg (show ¬ nI 9 = 8 by decide), if_pos (show nI 9 = 9 from rfl)]
      rw [if_neg (by decide), if_pos rfl] at a1
      rw [a1]; rfl
    · rw [if_neg (show ¬ nI 10 = 8 by decide), if_neg (show ¬ nI 10 = 9 by decide), if_pos (show nI 10 = 10 from rfl)]
      rw [if_neg (by decide), if_neg (by decide), if_pos rfl] at a1
      rw [a1]; rfl
    · rw [if_neg (show ¬ nI 15 = 8 by decide), if_neg (show ¬ nI 15 = 9 by decide), if_neg (show ¬ nI 15 = 10 by decide)]
      rw [if_neg (by decide), if_neg (by decide), if_neg (by decide)] at a1
      rw [a1]; rfl
  · unfold fX11_comesOut_J42 fX11_comesOut_J84
    rw [h1, hs]
    simp only [obd]
    rcases hx with rfl | rfl | rfl | rfl
    · rw [if_pos (show nI 8 = 8 from rfl)]
      rw [if_pos rfl] at a1
      rw [a1]; rfl
    · rw [if_neg (show ¬ nI 9 = 8 by decide), if_pos (show nI 9 = 9 from rfl)]
      rw [if_neg (by decide), if_pos rfl] at a1
      rw [a1]; rfl
    · rw [if_neg (show ¬ nI 10 = 8 by decide), if_neg (show ¬ nI 10 = 9 by decide), if_pos (show nI 10 = 10 from rfl)]
      rw [if_neg (by decide), if_neg (by decide), if_pos rfl] at a1
      rw [a1]; rfl
    · rw [if_neg (show ¬ nI 15 = 8 by decide), if_neg (show ¬ nI 15 = 9 by decide), if_neg (show ¬ nI 15 = 10 by decide)]
      rw [if_neg (by decide), if_neg (by decide), if_neg (by decide)] at a1
      rw [a1]; rfl
/-- what is looked at on top -/
theorem mTop {α : Type} {c0 : Nat} {S : List Nat} {C : List Int32} {G : Hp} {s : Bool} {e : α} {j : Int32 → Option α} (hL : LM G) (h : SC c0 S C G) (hl : S.length ≤ 64) (x0 : e = e) : (∀ (hs : stays s S) (y : α), ((if (G.1 0 54) ≤ 0 then some e else (ldA SHM G 0 53 1).bind fun a2 => (aI SHM G a2 ((G.1 0 54) - 1)).bind fun v3 => if v3 = 6 then some y else if b2 s = 0 then j v3 else if v3 = 8 then some y else if v3 = 9 then some y else j v3) = some e ∨ (if (G.1 0 54) ≤ 0 then some e else (ldA SHM G 0 53 1).bind fun a2 => (aI SHM G a2 ((G.1 0 54) - 1)).bind fun v3 => if v3 = 6 then some y else if b2 s = 0 then j v3 else if v3 = 8 then some y else if v3 = 9 then some y else j v3) = some y)) ∧ ∀ x S2, S = x :: S2 → popS s x → ∀ y : α, (if (G.1 0 54) ≤ 0 then some e else (ldA SHM G 0 53 1).bind fun a2 => (aI SHM G a2 ((G.1 0 54) - 1)).bind fun v3 => if v3 = 6 then some y else if b2 s = 0 then j v3 else if v3 = 8 then some y else if v3 = 9 then some y else j v3) = j (nI x) := by
  obtain ⟨h1, h2, -, -⟩ := h
  have key : ∀ x S2, S = x :: S2 → ∀ y : α, (if (G.1 0 54) ≤ 0 then some e else (ldA SHM G 0 53 1).bind fun a2 => (aI SHM G a2 ((G.1 0 54) - 1)).bind fun v3 => if v3 = 6 then some y else if b2 s = 0 then j v3 else if v3 = 8 then some y else if v3 = 9 then some y else j v3) = (if nI x = 6 then some y else if b2 s = 0 then j (nI x) else if nI x = 8 then some y else if nI x = 9 then some y else j (nI x)) := by
    rintro x S2 rfl y
    rw [h1, List.length_cons, nI_pred]
    rw [List.length_cons] at hl
    rw [if_neg (show ¬ nI (S2.length + 1) ≤ 0 from nI_ge (a := 0) (by omega) (by omega)), ml_53 hL]
    simp only [ob]
    rw [aI_n (by rw [mn_36]; omega) (by omega), h2.1]
    simp only [ob]
  refine ⟨fun hs y => ?_, fun x S2 e1 hp y => ?_⟩
  · cases S with
    | nil => left; rw [h1, if_pos (show nI ([] : List Nat).length ≤ 0 by decide)]
    | cons x S2 =>
      right
      rw [key x S2 rfl]
      rcases hs with rfl | ⟨rfl, rfl | rfl⟩
      · rw [if_pos (show nI 6 = 6 from rfl)]
      · rw [if_neg (show ¬ nI 8 = 6 by decide), if_neg (show ¬ b2 true = 0 by decide), if_pos (show nI 8 = 8 from rfl)]
      · rw [if_neg (show ¬ nI 9 = 6 by decide), if_neg (show ¬ b2 true = 0 by decide), if_neg (show ¬ nI 9 = 8 by decide), if_pos (show nI 9 = 9 from rfl)]
  · rw [key x S2 e1]
    obtain ⟨q1, q2⟩ := hp
    cases s with
    | false =>
      rw [if_neg (show ¬ nI x = 6 by rcases q1 with rfl | rfl | rfl | rfl <;> decide), if_pos (show b2 false = 0 from rfl)]
    | true =>
      rw [if_neg (show ¬ nI x = 6 by rcases q1 with rfl | rfl | rfl | rfl <;> decide), if_neg (show ¬ b2 true = 0 by decide), if_neg (show ¬ nI x = 8 by rcases q2 rfl with rfl | rfl <;> decide), if_neg (show ¬ nI x = 9 by rcases q2 rfl with rfl | rfl <;> decide)]
theorem mComeS {c0 : Nat} {s : Bool} : ∀ (X S : List Nat) (C : List Int32) (G : Hp) (fu : Nat), LM G → SC c0 (X ++ S) C G → (∀ x ∈ X, popS s x) → stays s S → (c0 < 840 ∧ c0 + C.length + X.length ≤ 420 * (c0 / 420 + 1)) → (X ++ S).length ≤ 64 → X.length < fu → ∃ o G2, iter (fun z : Hp => fX11_comesOut_S0 SHM 0 (b2 s) z) fu G = some o ∧ (o = .inl G2 ∨ o = .inr G2) ∧ EC2 c0 G G2 ∧ SC c0 S (C ++ X.map oc) G2
  | [], S, C, G, fu, hL, h, _, hs, _, hl, hf => by
    obtain ⟨fu, rfl⟩ : ∃ f, fu = f + 1 := ⟨fu - 1, by simp at hf; omega⟩
    have ht := (mTop (α := Hp ⊕ (Hp ⊕ Hp)) (s := s) (e := .inr (.inl G)) (j := fun v3 => fX11_comesOut_J42L0 SHM G 0 (b2 s) v3) hL h hl rfl).1 hs (.inr (.inr G))
    rw [List.map_nil, List.append_nil]
    rcases ht with ht | ht
    · exact ⟨_, G, iter_out ht, Or.inl rfl, EC2.rf, h⟩
    · exact ⟨_, G, iter_out ht, Or.inr rfl, EC2.rf, h⟩
  | x :: X, S, C, G, fu, hL, h, hp, hs, hc, hl, hf => by
    obtain ⟨fu, rfl⟩ : ∃ f, fu = f + 1 := ⟨fu - 1, by simp at hf; omega⟩
    rw [List.length_cons] at hc hf
    have hl2 : (X ++ S).length + 1 ≤ 64 := by rw [List.cons_append, List.length_cons] at hl; exact hl
    have ht := (mTop (α := Hp ⊕ (Hp ⊕ Hp)) (s := s) (e := .inr (.inl G)) (j := fun v3 => fX11_comesOut_J42L0 SHM G 0 (b2 s) v3) hL h hl rfl).2 x (X ++ S) rfl (hp x (List.mem_cons_self ..)) (.inr (.inr G))
    obtain ⟨G2, a1, a2, a3, -⟩ := mOff (s := b2 s) hL h (hp x (List.mem_cons_self ..)).1 (by omega)
    obtain ⟨o, G3, b1, b2', b3, b4⟩ := mComeS X S (C ++ [oc x]) G2 fu (hL.same (by rw [a1.1])) a2 (fun z hz => hp z (List.mem_cons_of_mem _ hz)) hs (by rw [List.length_append]; show c0 < 840 ∧ c0 + (C.length + 1) + X.length ≤ 420 * (c0 / 420 + 1); omega) (by omega) (by omega)
    refine ⟨o, G3, ?_, b2', a1.tr b3, ?_⟩
    · rw [iter_in (s2 := G2) (ht.trans a3)]; exact b1
    · rw [List.map_cons, show C ++ oc x :: X.map oc = C ++ [oc x] ++ X.map oc by simp]; exact b4
theorem mCome {c0 : Nat} {s : Bool} {X S : List Nat} {C : List Int32} {G : Hp} (hL : LM G) (h : SC c0 (X ++ S) C G) (hp : ∀ x ∈ X, popS s x) (hs : stays s S) (hc : c0 < 840 ∧ c0 + C.length + X.length ≤ 420 * (c0 / 420 + 1)) (hl : (X ++ S).length ≤ 64) : ∃ G2, fX11_comesOut SHM G 0 (b2 s) = some G2 ∧ EC2 c0 G G2 ∧ SC c0 S (C ++ X.map oc) G2 := by
  unfold fX11_comesOut
  cases X with
  | nil =>
    have ht := (mTop (α := Hp) (s := s) (e := G) (j := fun v3 => fX11_comesOut_J42 SHM G 0 (b2 s) v3) hL h hl rfl).1 hs G
    rw [List.map_nil, List.append_nil]
    rcases ht with ht | ht
    · exact ⟨G, ht, EC2.rf, h⟩
    · exact ⟨G, ht, EC2.rf, h⟩
  | cons x X =>
    rw [List.length_cons] at hc
    have hl2 : (X ++ S).length + 1 ≤ 64 := by rw [List.cons_append, List.length_cons] at hl; exact hl
    have hx := hp x (List.mem_cons_self ..)
    have ht := (mTop (α := Hp) (s := s) (e := G) (j := fun v3 => fX11_comesOut_J42 SHM G 0 (b2 s) v3) hL h hl rfl).2 x (X ++ S) rfl hx G
    obtain ⟨G2, a1, a2, -, a4⟩ := mOff (s := b2 s) hL h hx.1 (by omega)
    obtain ⟨o, G3, b1, b2', b3, b4⟩ := mComeS (s := s) X S (C ++ [oc x]) G2 fuel (hL.same (by rw [a1.1])) a2 (fun z hz => hp z (List.mem_cons_of_mem _ hz)) hs (by rw [List.length_append]; show c0 < 840 ∧ c0 + (C.length + 1) + X.length ≤ 420 * (c0 / 420 + 1); omega) (by omega) (by unfold fuel; rw [List.length_append] at hl2; omega)
    refine ⟨G3, ?_, a1.tr b3, ?_⟩
    · rw [ht, a4, b1]
      rcases b2' with rfl | rfl <;> rfl
    · rw [List.map_cons, show C ++ oc x :: X.map oc = C ++ [oc x] ++ X.map oc by simp]; exact b4
