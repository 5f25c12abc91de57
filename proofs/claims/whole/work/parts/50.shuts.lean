/-! shuts. -/
def bl (s : Nat) : List Nat := (List.range 8).filter (fun k => s.testBit k)
def gi (s i : Nat) : Nat := match (bl s)[i]? with
  | none => 0
  | some k => k + 1
set_option maxRecDepth 100000 in
theorem ith_all : ∀ s, s < 256 → ∀ i, i < 3 → fX11_ithOf 0 (nI s) (nI i) = some (wv (gi s i)) ∧ fX10_bitAt (nI s) (nI i) = some (wv (gi s i)) ∧ gi s i < 10 := by decide +kernel
theorem wv_cmp : ∀ a, a < 10 → ∀ b, b < 10 → (wv a = wv b ↔ a = b) ∧ (wv b ≤ wv a ↔ b ≤ a) := by decide +kernel
def key3 (s : Nat) : Nat := gi s 0 * 100 + gi s 1 * 10 + gi s 2
def key (s : Nat) : Nat := pc s * 1000 + key3 s
theorem ie_S {s o i : Nat} (hs : s < 256) (ho : o < 256) (hi : i < 3) : fX11_isEarlier_S2 0 (nI s) (nI o) (nI i) = if gi s i = gi o i then some (.inl (nI (i + 1))) else some (.inr (.inr (nI i))) := by
  unfold fX11_isEarlier_S2
  rw [if_neg (show ¬ (3 : Int32) ≤ nI i from nI_ge (b := 3) hi (by decide)), (ith_all s hs i hi).1, (ith_all o ho i hi).1]
  simp only [ob]
  have c := (wv_cmp _ (ith_all s hs i hi).2.2 _ (ith_all o ho i hi).2.2).1
  by_cases e : gi s i = gi o i
  · rw [if_pos (c.mpr e), if_pos e]; simp only [obd]; rw [nI_1]
  · rw [if_neg (fun q => e (c.mp q)), if_neg e]
theorem ie_end {s o i : Nat} (hs : s < 256) (ho : o < 256) (hi : i < 3) : ((fX11_ithOf 0 (nI s) (nI i)).bind fun r4 => (fX11_ithOf 0 (nI o) (nI i)).bind fun r5 => if r5 ≤ r4 then some 0 else some 1) = some (b2 (decide (gi s i < gi o i))) := by
  rw [(ith_all s hs i hi).1, (ith_all o ho i hi).1]
  simp only [ob]
  have c := (wv_cmp _ (ith_all s hs i hi).2.2 _ (ith_all o ho i hi).2.2).2
  by_cases e : gi o i ≤ gi s i
  · rw [if_pos (c.mpr e), decide_eq_false (by omega)]; rfl
  · rw [if_neg (fun q => e (c.mp q)), decide_eq_true (by omega)]; rfl
theorem mEarlier {s o : Nat} (hs : s < 256) (ho : o < 256) : fX11_isEarlier 0 (nI s) (nI o) = some (b2 (decide (key3 s < key3 o))) := by
  have g0 := (ith_all s hs 0 (by decide)).2.2
  have g1 := (ith_all s hs 1 (by decide)).2.2
  have g2 := (ith_all s hs 2 (by decide)).2.2
  have f0 := (ith_all o ho 0 (by decide)).2.2
  have f1 := (ith_all o ho 1 (by decide)).2.2
  have f2 := (ith_all o ho 2 (by decide)).2.2
  have s0 := ie_S hs ho (i := 0) (by decide)
  have s1 := ie_S hs ho (i := 1) (by decide)
  have s2 := ie_S hs ho (i := 2) (by decide)
  have s3 : fX11_isEarlier_S2 0 (nI s) (nI o) (nI 3) = some (.inr (.inl ())) := by
    unfold fX11_isEarlier_S2
    rw [if_pos (show (3 : Int32) ≤ nI 3 by decide)]
  unfold fX11_isEarlier key3
  obtain ⟨f, hf⟩ := fuel_is 4 (by decide)
  rw [hf, show (0 : Int32) = nI 0 from rfl]
  by_cases e0 : gi s 0 = gi o 0
  · rw [if_pos e0] at s0
    rw [iter_in s0]
    by_cases e1 : gi s 1 = gi o 1
    · rw [if_pos e1] at s1
      rw [iter_in s1]
      by_cases e2 : gi s 2 = gi o 2
      · rw [if_pos e2] at s2
        rw [iter_in s2, iter_out s3]
        simp only [ob, Sum.elim_inl]
        rw [decide_eq_false (by omega)]; rfl
      · rw [if_neg e2] at s2
        rw [iter_out s2]
        simp only [ob, Sum.elim_inr, obd]
        have := ie_end hs ho (i := 2) (by decide)
        rw [show (nI 0 : Int32) = 0 from rfl, this]
        congr 2
        exact decide_eq_decide.mpr (by omega)
    · rw [if_neg e1] at s1
      rw [iter_out s1]
      simp only [ob, Sum.elim_inr, obd]
      have := ie_end hs ho (i := 1) (by decide)
      rw [show (nI 0 : Int32) = 0 from rfl, this]
      congr 2
      exact decide_eq_decide.mpr (by omega)
  · rw [if_neg e0] at s0
    rw [iter_out s0]
    simp only [ob, Sum.elim_inr, obd]
    have := ie_end hs ho (i := 0) (by decide)
    rw [show (nI 0 : Int32) = 0 from rfl] at this ⊢
    rw [this]
    congr 2
    exact decide_eq_decide.mpr (by omega)
/-! the choices, in order -/
def enL (f : Nat → List Nat) : Nat → Nat → List Nat
  | _, 0 => []
  | x, c + 1 => f x ++ enL f (x + 1) c
def enu (n : Nat) : Nat → Nat → Nat → List Nat
  | 0, _, bars => [bars]
  | m + 1, x, bars => enL (fun t => enu n m (t + 1) (bars ||| 2 ^ t)) x (n - x)
def enp (n : Nat) : Nat → List Nat
  | 0 => []
  | i + 1 => enp n i ++ enu n i 0 0
def fnd (o : Option Nat) : Int32 := match o with
  | none => -1
  | some s => nI s
theorem enL_lt {f : Nat → List Nat} {n : Nat} : ∀ c x, x + c ≤ n → (∀ t, t < n → ∀ s ∈ f t, s < 256) → ∀ s ∈ enL f x c, s < 256
  | 0, _, _, _, s, hs => by cases hs
  | c + 1, x, hx, h, s, hs => by
    change s ∈ f x ++ enL f (x + 1) c at hs
    rw [List.mem_append] at hs
    rcases hs with hs | hs
    · exact h x (by omega) s hs
    · exact enL_lt c (x + 1) (by omega) h s hs
theorem enu_lt {n : Nat} (hn : n ≤ 8) : ∀ m x bars, bars < 256 → ∀ s ∈ enu n m x bars, s < 256
  | 0, _, bars, hb, s, hs => by
    change s ∈ [bars] at hs
    rw [List.mem_singleton] at hs
    omega
  | m + 1, x, bars, hb, s, hs => by
    by_cases hx : x ≤ n
    · exact enL_lt (n := n) _ x (by omega) (fun t ht s hs => enu_lt hn m (t + 1) _ (Nat.or_lt_two_pow (n := 8) hb (Nat.pow_lt_pow_right (by decide) (by omega))) s hs) s hs
    · change s ∈ enL (fun t => enu n m (t + 1) (bars ||| 2 ^ t)) x (n - x) at hs
      rw [show n - x = 0 by omega] at hs
      cases hs
theorem fnd_m1 {o : Option Nat} (h : ∀ s, o = some s → s < 256) : fnd o = -1 ↔ o = none := by
  cases o with
  | none => exact ⟨fun _ => rfl, fun _ => rfl⟩
  | some s => exact ⟨fun q => absurd q (nI_nm1 (by have := h s rfl; omega)), fun q => by cases q⟩
def PS (L : List Nat) (s : Nat) : Bool := decide (shN L s = L.length)
theorem find_mem {p : Nat → Bool} {l : List Nat} {s : Nat} (h : l.find? p = some s) : s ∈ l := List.mem_of_find?_eq_some h
theorem xBars {t n : Nat} {L : List Nat} {G : Hp} (hx : LX t G) (hL : L.length ≤ 35) (h2 : ∀ x ∈ L, x < 256) (hC : CLx L G) (hn : n ≤ 8) : ∀ m d x bars, m < d → x ≤ n → bars < 256 → m < 100 → fX0_barsWith_d SHX G d 300 (nI m) (nI x) (nI bars) (nI n) = some (fnd ((enu n m x bars).find? (PS L))) := by
  intro m
  induction m with
  | zero =>
    intro d x bars hd hxn hb _
    obtain ⟨d, rfl⟩ : ∃ k, d = k + 1 := ⟨d - 1, by omega⟩
    show fX0_barsWith SHX (fX0_barsWith_d SHX G d) G 300 (nI 0) (nI x) (nI bars) (nI n) = _
    unfold fX0_barsWith
    rw [if_neg (show ¬ (0 : Int32) < nI 0 by decide), xShut hx hL h2 hC]
    simp only [ob]
    have hl := shN_le (L := L) (s := bars)
    rw [hC.1]
    show _ = some (fnd (List.find? (PS L) [bars]))
    by_cases e : shN L bars = L.length
    · rw [if_pos (by rw [e]), List.find?_cons_of_pos (show PS L bars = true from decide_eq_true e)]; rfl
    · rw [if_neg (fun q => e ((nI_eq (by omega) (by omega)).mp q)), List.find?_cons_of_neg (by unfold PS; rw [decide_eq_false e]; decide)]; rfl
  | succ m ih =>
    intro d x bars hd hxn hb hm
    obtain ⟨d, rfl⟩ : ∃ k, d = k + 1 := ⟨d - 1, by omega⟩
    show fX0_barsWith SHX (fX0_barsWith_d SHX G d) G 300 (nI (m + 1)) (nI x) (nI bars) (nI n) = _
    unfold fX0_barsWith
    rw [if_pos (show (0 : Int32) < nI (m + 1) from nI_lt (a := 0) (by omega) (by omega))]
    have hf : ∀ y c, y + c = n → enL (fun t => enu n m (t + 1) (bars ||| 2 ^ t)) y c = enu n (m + 1) y bars := fun y c h => by
      show _ = enL _ y (n - y)
      rw [show n - y = c by omega]
    obtain ⟨o, b1, b2'⟩ := iter_go (f := fun s : Int32 => fX0_barsWith_S25 SHX (fX0_barsWith_d SHX G d) 300 (nI (m + 1)) (nI bars) (nI n) G s) (P := fun i s => s = nI (x + i) ∧ (enu n (m + 1) x bars).find? (PS L) = (enu n (m + 1) (x + i) bars).find? (PS L)) (Q := fun o => Sum.elim (fun _ => (enu n (m + 1) x bars).find? (PS L) = none) (fun v => v = fnd ((enu n (m + 1) x bars).find? (PS L))) o) (n - x) (nI x) (by omega) ⟨rfl, rfl⟩ (by
      rintro i s hi ⟨rfl, hq⟩
      have p8 : bars ||| 2 ^ (x + i) < 256 := Nat.or_lt_two_pow (n := 8) hb (Nat.pow_lt_pow_right (by decide) (by omega))
      have rc := ih d (x + i + 1) (bars ||| 2 ^ (x + i)) (by omega) (by omega) p8 (by omega)
      have es : enu n (m + 1) (x + i) bars = enu n m (x + i + 1) (bars ||| 2 ^ (x + i)) ++ enu n (m + 1) (x + (i + 1)) bars := by
        rw [← hf (x + i) ((n - (x + i) - 1) + 1) (by omega), ← hf (x + (i + 1)) (n - (x + i) - 1) (by omega)]
        rfl
      rw [es, List.find?_append] at hq
      unfold fX0_barsWith_S25
      rw [if_neg (nI_ge (by omega) (by omega)), nI_pred, shl1 (by omega), nI_or, nI_1, rc]
      simp only [ob]
      have lt : ∀ s, (enu n m (x + i + 1) (bars ||| 2 ^ (x + i))).find? (PS L) = some s → s < 256 := fun s h => enu_lt hn m _ _ p8 s (find_mem h)
      cases hfd : (enu n m (x + i + 1) (bars ||| 2 ^ (x + i))).find? (PS L) with
      | none =>
        rw [hfd] at hq
        rw [if_pos (show fnd none = -1 from rfl)]
        left
        simp only [obd]
        refine ⟨_, rfl, rfl, ?_⟩
        rw [hq]; rfl
      | some s =>
        rw [hfd] at hq lt
        rw [if_neg (fun q => by have := (fnd_m1 lt).mp q; cases this)]
        right
        refine ⟨_, rfl, ?_⟩
        show fnd (some s) = fnd _
        rw [hq]; rfl) (by
      rintro s ⟨rfl, hq⟩
      unfold fX0_barsWith_S25
      rw [if_pos (nI_le (by omega) (by omega))]
      refine ⟨_, rfl, ?_⟩
      show List.find? (PS L) (enu n (m + 1) x bars) = none
      rw [hq, ← hf (x + (n - x)) 0 (by omega)]; rfl)
    rw [b1]
    simp only [ob]
    cases o with
    | inl y =>
      simp only [Sum.elim_inl]
      rw [show (enu n (m + 1) x bars).find? (PS L) = none from b2']; rfl
    | inr y =>
      simp only [Sum.elim_inr, obd]
      rw [show y = fnd ((enu n (m + 1) x bars).find? (PS L)) from b2']
theorem enp_pre {n : Nat} {p : Nat → Bool} {s : Nat} {i : Nat} (h : (enp n i).find? p = some s) : ∀ k, i ≤ k → (enp n k).find? p = some s := by
  intro k hk
  induction k with
  | zero => rw [show i = 0 by omega] at h; exact h
  | succ k ih =>
    by_cases e : i = k + 1
    · rw [← e]; exact h
    · show (enp n k ++ enu n k 0 0).find? p = some s
      rw [List.find?_append, ih (by omega)]; rfl
theorem enp_lt {n : Nat} (hn : n ≤ 8) : ∀ i, ∀ s ∈ enp n i, s < 256
  | 0, s, hs => by cases hs
  | i + 1, s, hs => by
    change s ∈ enp n i ++ enu n i 0 0 at hs
    rw [List.mem_append] at hs
    rcases hs with hs | hs
    · exact enp_lt hn i s hs
    · exact enu_lt hn i 0 0 (by decide) s hs
theorem xFew {t n : Nat} {L : List Nat} {G : Hp} (hx : LX t G) (hL : L.length ≤ 35) (h2 : ∀ x ∈ L, x < 256) (hC : CLx L G) (hn : n ≤ 8) : fX0_fewestBars SHX G 300 (nI n) = some (fnd ((enp n 4).find? (PS L))) := by
  unfold fX0_fewestBars
  obtain ⟨o, b1, rfl⟩ := iter_go (f := fun s : Int32 × Int32 => fX0_fewestBars_S4 SHX 300 (nI n) G s.1 s.2) (P := fun i s => s = (fnd ((enp n i).find? (PS L)), nI i)) (Q := fun o => o = fnd ((enp n 4).find? (PS L))) 4 (((-1), 0) : Int32 × Int32) (by decide) rfl (by
    rintro i s hi rfl
    dsimp only
    unfold fX0_fewestBars_S4
    rw [if_neg (show ¬ (3 : Int32) < nI i from nI_nlt (a := 3) (by omega) (by decide))]
    have lt : ∀ s, (enp n i).find? (PS L) = some s → s < 256 := fun s h => enp_lt hn i s (find_mem h)
    cases hfd : (enp n i).find? (PS L) with
    | none =>
      left
      rw [if_pos (show fnd none = -1 from rfl), show (0 : Int32) = nI 0 from rfl, xBars hx hL h2 hC hn i 8 0 0 (by omega) (by omega) (by decide) (by omega)]
      simp only [ob, obd]
      refine ⟨_, rfl, ?_⟩
      rw [nI_1]
      congr 2
      show _ = (enp n i ++ enu n i 0 0).find? (PS L)
      rw [List.find?_append, hfd]; rfl
    | some s =>
      right
      rw [hfd] at lt
      rw [if_neg (fun q => by have := (fnd_m1 lt).mp q; cases this)]
      refine ⟨_, rfl, ?_⟩
      rw [enp_pre hfd 4 (by omega)]) (by
    rintro s rfl
    dsimp only
    unfold fX0_fewestBars_S4
    rw [if_pos (show (3 : Int32) < nI 4 by decide)]
    exact ⟨_, rfl, rfl⟩)
  rw [b1]; rfl
/-! the least key -/
def srt : List Nat → Bool
  | [] => true
  | a :: l => l.all (fun b => decide (key a < key b)) && srt l
def chk (n : Nat) : Bool := srt (enp n 4) && (enp n 4).all (fun s => decide (s < 2 ^ n) && decide (pc s ≤ 3)) && (List.range (2 ^ n)).all (fun s => !decide (pc s ≤ 3) || (enp n 4).contains s)
set_option maxRecDepth 100000 in
theorem chk_all : ∀ n, n < 9 → chk n = true := by decide +kernel
theorem srt_mem : ∀ {l : List Nat} {p : Nat → Bool} {x y : Nat}, srt l = true → l.find? p = some x → y ∈ l → p y = true → key x ≤ key y
  | [], _, _, _, _, h, _, _ => by cases h
  | a :: l, p, x, y, hs, h, hy, hp => by
    change (l.all (fun b => decide (key a < key b)) && srt l) = true at hs
    rw [Bool.and_eq_true] at hs
    cases hpa : p a with
    | true =>
      rw [List.find?_cons_of_pos hpa] at h
      simp only [Option.some.injEq] at h
      subst h
      rcases List.mem_cons.mp hy with e | hy
      · rw [e]; exact Nat.le_refl _
      · have := List.all_eq_true.mp hs.1 y hy
        exact Nat.le_of_lt (of_decide_eq_true this)
    | false =>
      rw [List.find?_cons_of_neg (by rw [hpa]; decide)] at h
      rcases List.mem_cons.mp hy with e | hy
      · rw [e, hpa] at hp; cases hp
      · exact srt_mem hs.2 h hy hp
theorem srt_inj {x y : Nat} (e : key x = key y) : ∀ l : List Nat, srt l = true → x ∈ l → y ∈ l → x = y := by
  intro l
  induction l with
  | nil => intro _ hx; cases hx
  | cons a l ih =>
    intro hs hx hy
    change (l.all (fun b => decide (key a < key b)) && srt l) = true at hs
    rw [Bool.and_eq_true] at hs
    have al := List.all_eq_true.mp hs.1
    rcases List.mem_cons.mp hx with ex | hx <;> rcases List.mem_cons.mp hy with ey | hy
    · rw [ex, ey]
    · have := of_decide_eq_true (al y hy); rw [← ex] at this; omega
    · have := of_decide_eq_true (al x hx); rw [← ey] at this; omega
    · exact ih hs.2 hx hy
def bm (ok : Nat → Bool) : Nat → Option Nat
  | 0 => none
  | s + 1 => if ok s then (match bm ok s with | none => some s | some b => if key s < key b then some s else some b) else bm ok s
theorem bm_spec {ok : Nat → Bool} : ∀ N, (∀ b, bm ok N = some b → b < N ∧ ok b = true ∧ ∀ s, s < N → ok s = true → key b ≤ key s) ∧ (bm ok N = none → ∀ s, s < N → ok s = false)
  | 0 => ⟨fun b h => (by cases h), fun _ s hs => (by omega)⟩
  | N + 1 => by
    obtain ⟨i1, i2⟩ := bm_spec (ok := ok) N
    have eb : bm ok (N + 1) = if ok N then (match bm ok N with | none => some N | some b => if key N < key b then some N else some b) else bm ok N := rfl
    rw [eb]
    cases hk : ok N with
    | false =>
      simp only [Bool.false_eq_true, if_false]
      refine ⟨fun b h => ?_, fun h s hs => ?_⟩
      · obtain ⟨a1, a2, a3⟩ := i1 b h
        refine ⟨by omega, a2, fun s hs ho => ?_⟩
        by_cases e : s = N
        · rw [e, hk] at ho; cases ho
        · exact a3 s (by omega) ho
      · by_cases e : s = N
        · rw [e]; exact hk
        · exact i2 h s (by omega)
    | true =>
      simp only [if_true]
      cases hb : bm ok N with
      | none =>
        refine ⟨fun b h => ?_, fun h => by cases h⟩
        simp only [Option.some.injEq] at h
        subst h
        refine ⟨by omega, hk, fun s hs ho => ?_⟩
        by_cases e : s = N
        · rw [e]; exact Nat.le_refl _
        · rw [i2 hb s (by omega)] at ho; cases ho
      | some c =>
        obtain ⟨a1, a2, a3⟩ := i1 c hb
        dsimp only
        by_cases hlt : key N < key c
        · rw [if_pos hlt]
          refine ⟨fun b h => ?_, fun h => by cases h⟩
          simp only [Option.some.injEq] at h
          subst h
          refine ⟨by omega, hk, fun s hs ho => ?_⟩
          by_cases e : s = N
          · rw [e]; exact Nat.le_refl _
          · have := a3 s (by omega) ho; omega
        · rw [if_neg hlt]
          refine ⟨fun b h => ?_, fun h => by cases h⟩
          simp only [Option.some.injEq] at h
          subst h
          refine ⟨by omega, a2, fun s hs ho => ?_⟩
          by_cases e : s = N
          · rw [e]; omega
          · exact a3 s (by omega) ho
def okS (P : Nat → Bool) (s : Nat) : Bool := decide (pc s ≤ 3) && P s
theorem find_bm {P : Nat → Bool} {n : Nat} (hn : n ≤ 8) : (enp n 4).find? P = bm (okS P) (2 ^ n) := by
  have hc := chk_all n (by omega)
  unfold chk at hc
  rw [Bool.and_eq_true, Bool.and_eq_true] at hc
  obtain ⟨⟨c1, c2'⟩, c3⟩ := hc
  have m1 : ∀ s ∈ enp n 4, s < 2 ^ n ∧ pc s ≤ 3 := fun s hs => by
    have := List.all_eq_true.mp c2' s hs
    rw [Bool.and_eq_true, decide_eq_true_iff, decide_eq_true_iff] at this
    exact this
  have m2 : ∀ s, s < 2 ^ n → pc s ≤ 3 → s ∈ enp n 4 := fun s hs hp => by
    have := List.all_eq_true.mp c3 s (List.mem_range.mpr hs)
    rw [decide_eq_true hp] at this
    simpa using this
  obtain ⟨b1, b2'⟩ := bm_spec (ok := okS P) (2 ^ n)
  cases hf : (enp n 4).find? P with
  | none =>
    cases hb : bm (okS P) (2 ^ n) with
    | none => rfl
    | some b =>
      obtain ⟨q1, q2, -⟩ := b1 b hb
      unfold okS at q2
      rw [Bool.and_eq_true, decide_eq_true_iff] at q2
      have := List.find?_eq_none.mp hf b (m2 b q1 q2.1)
      exact absurd q2.2 this
  | some x =>
    have hx := find_mem hf
    have hP : P x = true := List.find?_some hf
    have okx : okS P x = true := by unfold okS; rw [decide_eq_true (m1 x hx).2, hP]; rfl
    cases hb : bm (okS P) (2 ^ n) with
    | none =>
      have := b2' hb x (m1 x hx).1
      rw [okx] at this; cases this
    | some b =>
      obtain ⟨q1, q2, q3⟩ := b1 b hb
      unfold okS at q2
      rw [Bool.and_eq_true, decide_eq_true_iff] at q2
      have hbm := m2 b q1 q2.1
      have k1 := srt_mem c1 hf hbm q2.2
      have k2 := q3 x (m1 x hx).1 okx
      rw [srt_inj (by omega) _ c1 hx hbm]
theorem key_lt {s o : Nat} (hs : s < 256) (ho : o < 256) : key s < key o ↔ pc s < pc o ∨ (pc s = pc o ∧ key3 s < key3 o) := by
  have g0 := (ith_all s hs 0 (by decide)).2.2
  have g1 := (ith_all s hs 1 (by decide)).2.2
  have g2 := (ith_all s hs 2 (by decide)).2.2
  have f0 := (ith_all o ho 0 (by decide)).2.2
  have f1 := (ith_all o ho 1 (by decide)).2.2
  have f2 := (ith_all o ho 2 (by decide)).2.2
  unfold key key3
  omega
theorem mShuts {l : Nat} {T : Txt} {L : List Nat} {G : Hp} {w : Int32} (hM : ML0 l T G) (hL : L.length ≤ 35) (h2 : ∀ x ∈ L, x < 256) (hC : CLm L G) : iter (fun s : Int32 × Int32 => fX11_shuts_S29 SHM 0 w G s.1 s.2) fuel (((-1), 0) : Int32 × Int32) = some (fnd (bm (okS (PS L)) (2 ^ T.1 0))) := by
  have hw := hM.2.2.2.2.1
  have p8 : 2 ^ T.1 0 ≤ 256 := Nat.le_trans (pow_le hw.1) (by decide)
  obtain ⟨o, b1, rfl⟩ := iter_go (f := fun s : Int32 × Int32 => fX11_shuts_S29 SHM 0 w G s.1 s.2) (P := fun i s => s = (fnd (bm (okS (PS L)) i), nI i)) (Q := fun o => o = fnd (bm (okS (PS L)) (2 ^ T.1 0))) (2 ^ T.1 0) (((-1), 0) : Int32 × Int32) (by omega) rfl (by
    rintro i s hi rfl
    left
    dsimp only
    have eb : bm (okS (PS L)) (i + 1) = if okS (PS L) i then (match bm (okS (PS L)) i with | none => some i | some b => if key i < key b then some i else some b) else bm (okS (PS L)) i := rfl
    unfold fX11_shuts_S29
    rw [ml_23 hM.1]
    simp only [ob]
    rw [aI_l (n := 0) hM mn_10, hM.2.2.2.1.1.1]
    simp only [ob]
    have hpl := pc_le (s := i)
    rw [shl1 hw.1, if_neg (nI_ge hi (by omega)), (pc_all i (by omega)).1]
    simp only [ob]
    by_cases h3 : pc i ≤ 3
    · rw [if_neg (show ¬ (3 : Int32) < nI (pc i) from nI_nlt (a := 3) h3 (by decide)), mShut hM.1 hL h2 hC]
      simp only [ob]
      have hl := shN_le (L := L) (s := i)
      rw [hC.1]
      by_cases e : shN L i = L.length
      · have hok : okS (PS L) i = true := by unfold okS PS; rw [decide_eq_true h3, decide_eq_true e]; rfl
        rw [hok, if_pos rfl] at eb
        rw [if_pos (nI_le (by omega) (by omega))]
        cases hb : bm (okS (PS L)) i with
        | none =>
          rw [hb] at eb
          rw [if_pos (show fnd none < 0 by show (-1 : Int32) < 0; decide)]
          simp only [obd]
          exact ⟨_, rfl, by rw [eb, nI_1]; rfl⟩
        | some b =>
          rw [hb] at eb
          dsimp only at eb
          have hbl := ((bm_spec (ok := okS (PS L)) i).1 b hb).1
          have hpb := pc_le (s := b)
          have kl := key_lt (s := i) (o := b) (by omega) (by omega)
          rw [if_neg (show ¬ fnd (some b) < 0 from nI_pos (by omega)), show fX11_bits (fnd (some b)) = some (nI (pc b)) from (pc_all b (by omega)).1]
          simp only [ob]
          by_cases q1 : pc i < pc b
          · rw [if_pos (nI_lt q1 (by omega))]
            rw [if_pos (kl.mpr (Or.inl q1))] at eb
            simp only [obd]
            exact ⟨_, rfl, by rw [eb, nI_1]; rfl⟩
          · rw [if_neg (nI_nlt (by omega) (by omega))]
            by_cases q2 : pc i = pc b
            · rw [if_pos (by rw [q2]), show fX11_isEarlier 0 (nI i) (fnd (some b)) = some (b2 (decide (key3 i < key3 b))) from mEarlier (by omega) (by omega)]
              simp only [ob]
              by_cases q3 : key3 i < key3 b
              · rw [decide_eq_true q3, if_neg (show ¬ b2 true = 0 by decide)]
                rw [if_pos (kl.mpr (Or.inr ⟨q2, q3⟩))] at eb
                simp only [obd]
                exact ⟨_, rfl, by rw [eb, nI_1]; rfl⟩
              · rw [decide_eq_false q3, if_pos (show b2 false = 0 from rfl)]
                rw [if_neg (fun q => by rcases kl.mp q with z | z <;> omega)] at eb
                simp only [obd]
                exact ⟨_, rfl, by rw [eb, nI_1]⟩
            · rw [if_neg (fun q => q2 ((nI_eq (by omega) (by omega)).mp q))]
              rw [if_neg (fun q => by rcases kl.mp q with z | z <;> omega)] at eb
              simp only [obd]
              exact ⟨_, rfl, by rw [eb, nI_1]⟩
      · have hok : okS (PS L) i = false := by unfold okS PS; rw [decide_eq_false e, Bool.and_false]
        rw [hok] at eb
        rw [if_neg (nI_ge (by omega) (by omega))]
        simp only [obd]
        exact ⟨_, rfl, by rw [eb, nI_1]; rfl⟩
    · have hok : okS (PS L) i = false := by unfold okS; rw [decide_eq_false h3]; rfl
      rw [hok] at eb
      rw [if_pos (show (3 : Int32) < nI (pc i) from nI_lt (a := 3) (by omega) (by omega))]
      simp only [obd]
      exact ⟨_, rfl, by rw [eb, nI_1]; rfl⟩) (by
    rintro s rfl
    dsimp only
    unfold fX11_shuts_S29
    rw [ml_23 hM.1]
    simp only [ob]
    rw [aI_l (n := 0) hM mn_10, hM.2.2.2.1.1.1]
    simp only [ob]
    rw [shl1 hw.1, if_pos (nI_le (Nat.le_refl _) (by omega))]
    exact ⟨_, rfl, rfl⟩)
  exact b1
theorem step19 {Gx Gm : Hp} (hI : Inv Gx Gm) (b w : Int32) : Step19 SHX SHM Inv Gx Gm b w := by
  have hI0 := hI
  obtain ⟨T, t, l, r, n, u, nx, hi, hb, sl, m, h⟩ := hI
  have hM := h.M
  have hx := h.1
  have ht := hx.1
  have hW := h.2.2.2.2.1
  have hT := h.2.2.2.2.2.1
  have hr := h.2.2.2.2.2.2.2.1
  have hG := h.2.2.2.2.2.2.2.2.1
  have h39 := h.2.2.2.2.2.2.2.2.2.1
  have hw := hW.1
  unfold Step19 fX10_shuts fX11_shuts
  rw [xl_text hx]
  simp only [ob]
  by_cases hb : rng b (T.1 3)
  · obtain ⟨b, hb, rfl⟩ := hb
    rw [xBridge_y hT hW hb, mBridge_y hM hb]
    simp only [ob, if_neg one_ne]
    by_cases ha : wrng w 3
    · obtain ⟨k, hk, rfl⟩ := ha
      have f1 : fX11_in (wv k) (-1) 2 = some 1 ∧ ¬ wv k < (-1) ∧ wv k < 3 := by
        have : ∀ k, k < 4 → fX11_in (wv k) (-1) 2 = some 1 ∧ ¬ wv k < (-1) ∧ wv k < 3 := by decide +kernel
        exact this k (by omega)
      obtain ⟨G2, x1, x2, x3⟩ := xGather hx hT hW hG hr hb
      obtain ⟨G3, y1, y2, y3⟩ := mFills hM h39 hr hb
      obtain ⟨k1, k2⟩ := cl_ok (r := r) (b := b) hW
      have hx2 := x2.X.L hx
      have hT2 := x2.X.T ht hT
      rw [f1.1, if_neg f1.2.1, if_pos f1.2.2, y1, xl_0_10 hx, xl_0_3 hx]
      simp only [ob, if_neg one_ne]
      rw [x1, mShuts (y2.M hM) k1 k2 y3]
      simp only [ob, obd]
      rw [xl_0_10 hx2, xl_text hx2]
      simp only [ob]
      rw [hT2.1 0 (by decide), xFew hx2 k1 k2 x3 hw.1]
      simp only [ob]
      have fin := x2.X.I y2 h
      have lt : ∀ s, (enp (T.1 0) 4).find? (PS (clA T r b (T.1 1))) = some s → s < 256 := fun s h => enp_lt hw.1 4 s (find_mem h)
      rw [find_bm hw.1] at lt ⊢
      cases hf : bm (okS (PS (clA T r b (T.1 1)))) (2 ^ T.1 0) with
      | none =>
        rw [if_pos (show fnd none = -1 from rfl), if_neg (show ¬ (0 : Int32) ≤ fnd none by show ¬ (0 : Int32) ≤ -1; decide)]
        exact ⟨_, _, _, rfl, rfl, fin⟩
      | some s =>
        have hs := lt s hf
        rw [hf] at lt
        rw [if_neg (fun q => by have := (fnd_m1 lt).mp q; cases this), if_pos (show (0 : Int32) ≤ fnd (some s) from nI_pos' (by omega))]
        cases k with
        | zero =>
          rw [if_pos (show wv 0 = -1 from rfl), if_pos (show wv 0 = -1 from rfl), show fJ6_bitCount_0f7a4 (fnd (some s)) = some (nI (pc s)) from (pc_all s hs).2, show fX11_bits (fnd (some s)) = some (nI (pc s)) from (pc_all s hs).1]
          exact ⟨_, _, _, rfl, rfl, fin⟩
        | succ k =>
          rw [wv_s, if_neg (nI_nm1 (by omega)), if_neg (nI_nm1 (by omega)), show fX10_bitAt (fnd (some s)) (nI k) = some (wv (gi s k)) from (ith_all s hs k (by omega)).2.1, show fX11_ithOf 0 (fnd (some s)) (nI k) = some (wv (gi s k)) from (ith_all s hs k (by omega)).1]
          exact ⟨_, _, _, rfl, rfl, fin⟩
    · rcases wrng_not (by decide) ha with q | ⟨q, q'⟩
      · have : fX11_in w (-1) 2 = some 0 := by unfold fX11_in; rw [if_pos q]
        rw [this, if_pos q]; exact ⟨_, _, _, rfl, rfl, hI0⟩
      · have q1 : ¬ w < (-1) := fun z => q (Int32.lt_trans z (by decide))
        have q2 : ¬ w < 3 := Int32.not_lt.mpr q'
        have : fX11_in w (-1) 2 = some 0 := by
          unfold fX11_in
          rw [if_neg q1, if_pos (Int32.lt_iff_toInt_lt.mpr (by have := Int32.le_iff_toInt_le.mp q'; rw [show (nI 3).toInt = 3 by decide] at this; rw [show (2 : Int32).toInt = 2 by decide]; omega))]
        rw [this, if_neg q1, if_neg q2]; exact ⟨_, _, _, rfl, rfl, hI0⟩
  · rw [xBridge_n hT hW hb, mBridge_n hM hb]
    exact ⟨_, _, _, rfl, rfl, hI0⟩
