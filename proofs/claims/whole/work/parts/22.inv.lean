/-! THE PURE PART: what both heaps tell. -/
/-- a text: numbers (traits, beings, ways, bridges, storm, seed), rows (loss, own; cost, gives, drops; stones, load), clauses, laws -/
abbrev Txt : Type := (Nat → Nat) × (Nat → Nat → Nat) × (Nat → List Nat) × (Nat → List (List Int32))
def stC (s : Nat) (st : List Bool) (k : Nat) : List Bool :=
  if k < 8 then s.testBit k :: st else match st with
    | [] => []
    | b :: r => if k = 8 then (!b) :: r else match r with
      | [] => [b]
      | a :: r2 => (if k = 9 then a && b else a || b) :: r2
def evC (c : List Nat) (s : Nat) : Bool := (c.foldl (stC s) []).headD false
def okC : List Nat → Nat → Prop
  | [], d => d = 1
  | k :: c, d => if k < 8 then d + 1 ≤ 60 ∧ okC c (d + 1) else if k = 8 then 1 ≤ d ∧ okC c d else k ≤ 10 ∧ 2 ≤ d ∧ okC c (d - 1)
/-- one step of a part of a law: a number, a variable, an operation; none: divided by 0 -/
def stL (v : Nat → Int32) (st : List Int32) (k : Int32) : Option (List Int32) :=
  if 0 ≤ k then some (k :: st) else if (-11) < k then some (v ((-1) - k).toNatClampNeg :: st) else match st with
    | b :: a :: r => if k = (-14) ∧ b = 0 then none else some ((if k = (-11) then a + b else if k = (-12) then a - b else if k = (-13) then a * b else a / b) :: r)
    | st => some st
def evP (v : Nat → Int32) : List Int32 → List Int32 → Option Int32
  | [], st => some (st.headD 0)
  | k :: p, st => (stL v st k).bind (evP v p)
def okP : List Int32 → Nat → Prop
  | [], d => d = 1
  | k :: p, d => if 0 ≤ k then d + 1 ≤ 16 ∧ okP p (d + 1) else if (-11) < k then (-10) < k ∧ d + 1 ≤ 16 ∧ okP p (d + 1) else (-15) < k ∧ 2 ≤ d ∧ okP p (d - 1)
def evL (v : Nat → Int32) : List (List Int32) → Int32
  | a :: b :: c :: d :: r => match evP v a [], evP v b [] with
    | some x, some y => if x < y then (evP v c []).getD 0 else evL v (d :: r)
    | _, _ => 0
  | p :: _ => (evP v p []).getD 0
  | [] => 0
def WFL (L : List (List Int32)) : Prop := (∃ n, n ≤ 4 ∧ L.length = 3 * n + 1) ∧ L.flatten.length ≤ 400 ∧ ∀ p ∈ L, okP p 0
def WFT (T : Txt) : Prop := (T.1 0 ≤ 8 ∧ T.1 1 ≤ 7 ∧ T.1 2 ≤ 4 ∧ T.1 3 ≤ 4 ∧ T.1 4 ≤ 100 ∧ T.1 5 ≤ 9999) ∧ (∀ a, a < T.1 1 → T.2.1 0 a ≤ 99 ∧ T.2.1 1 a < 2 ^ T.1 0) ∧ (∀ w, w < T.1 2 → T.2.1 2 w ≤ 99 ∧ T.2.1 3 w < 2 ^ T.1 0 ∧ T.2.1 4 w < 2 ^ T.1 0) ∧
  (∀ b, b < T.1 3 → (1 ≤ T.2.1 5 b ∧ T.2.1 5 b ≤ 99) ∧ T.2.1 6 b ≤ 99 ∧ okC (T.2.2.1 b) 0) ∧ ∀ k, k < 3 → WFL (T.2.2.2 k)
/-- the class's Law at w holds the parts L -/
def XL (w : Nat) (L : List (List Int32)) (G : Hp) : Prop := G.1 w 3 = nI L.length ∧ (∀ j, j < L.length → G.1 (w + 2) j = nI (L.take (j + 1)).flatten.length) ∧ ∀ i, i < L.flatten.length → G.1 (w + 1) i = L.flatten.getD i 0
def bitX (f : Nat → Int64) (b s : Nat) : Bool := (f (b * 4 + s / 64)).toUInt64.toNat.testBit (s % 64)
def XT (t : Nat) (T : Txt) (G : Hp) : Prop := (∀ i, i < 6 → G.1 t i = nI (T.1 i)) ∧ (∀ a, a < T.1 1 → G.1 (t + 1) a = nI (T.2.1 0 a) ∧ G.1 (t + 2) a = nI (T.2.1 1 a)) ∧ (∀ w, w < T.1 2 → G.1 (t + 3) w = nI (T.2.1 2 w) ∧ G.1 (t + 4) w = nI (T.2.1 3 w) ∧ G.1 (t + 5) w = nI (T.2.1 4 w)) ∧
  (∀ b, b < T.1 3 → G.1 (t + 6) b = nI (T.2.1 5 b) ∧ G.1 (t + 7) b = nI (T.2.1 6 b) ∧ ∀ s, s < 256 → bitX (G.2.1 (t + 8)) b s = evC (T.2.2.1 b) s) ∧ XL (t + 9) (T.2.2.2 0) G ∧ XL (t + 13) (T.2.2.2 1) G ∧ XL (t + 17) (T.2.2.2 2) G
/-- the reference's code of a step -/
def mcode (k : Int32) : Int32 := if 0 ≤ k then 0 else if (-11) < k then 1 else if k = (-11) then 2 else if k = (-12) then 3 else if k = (-13) then 4 else 5
def mint (k : Int32) : Int32 := if 0 ≤ k then k else if (-11) < k then (-1) - k else 0
def MP (p : List Int32) (c : Nat) (G : Hp) : Prop := ∀ i, i < p.length → G.1 33 (c + i) = mcode (p.getD i 0) ∧ (mcode (p.getD i 0) < 2 → G.1 34 (c + i) = mint (p.getD i 0))
/-- branches f .. of the reference hold the parts L, from code c on -/
def MB : List (List Int32) → Nat → Nat → Nat → Hp → Prop
  | a :: b :: c :: d :: r, f, e, x, G => f < e ∧ e ≤ 260 ∧ G.1 28 f = 1 ∧ G.1 29 f = nI x ∧ G.1 30 f = nI (x + a.length) ∧ G.1 31 f = nI (x + a.length + b.length) ∧ G.1 32 f = nI (x + a.length + b.length + c.length) ∧ MP a x G ∧ MP b (x + a.length) G ∧ MP c (x + a.length + b.length) G ∧ MB (d :: r) (f + 1) e (x + a.length + b.length + c.length) G
  | p :: _, f, e, x, G => f + 1 = e ∧ e ≤ 260 ∧ G.1 28 f = 0 ∧ G.1 31 f = nI x ∧ G.1 32 f = nI (x + p.length) ∧ MP p x G
  | [], _, _, _, _ => False
def dfl (k : Nat) : List (List Int32) := if k = 2 then [[(-6)]] else [[1]]
def MLc (l k br co : Nat) (L : List (List Int32)) (G : Hp) : Prop := (L = dfl k ∧ G.1 26 (3 * l + k) = G.1 27 (3 * l + k)) ∨ ∃ f e x, G.1 26 (3 * l + k) = nI f ∧ G.1 27 (3 * l + k) = nI e ∧ f < e ∧ ((130 * l ≤ f ∧ e ≤ br) ∧ 420 * l ≤ x ∧ x + L.flatten.length ≤ co) ∧ MB L f e x G
def ML (l k : Nat) (L : List (List Int32)) (G : Hp) : Prop := MLc l k (130 * l + 101) (420 * l + 400) L G
/-- side l of the reference holds T, below the ends cl, br, co -/
def MTc (l cl br co : Nat) (T : Txt) (G : Hp) : Prop := (G.1 10 l = nI (T.1 0) ∧ G.1 11 l = nI (T.1 1) ∧ G.1 14 l = nI (T.1 2) ∧ G.1 18 l = nI (T.1 3) ∧ G.1 24 l = nI (T.1 4) ∧ G.1 25 l = nI (T.1 5)) ∧ (∀ a, a < T.1 1 → G.1 12 (7 * l + a) = nI (T.2.1 0 a) ∧ G.1 13 (7 * l + a) = nI (T.2.1 1 a)) ∧ (∀ w, w < T.1 2 → G.1 15 (4 * l + w) = nI (T.2.1 2 w) ∧ G.1 16 (4 * l + w) = nI (T.2.1 3 w) ∧ G.1 17 (4 * l + w) = nI (T.2.1 4 w)) ∧
  (∀ b, b < T.1 3 → G.1 19 (4 * l + b) = nI (T.2.1 5 b) ∧ G.1 20 (4 * l + b) = nI (T.2.1 6 b) ∧ ∃ c, G.1 21 (4 * l + b) = nI c ∧ G.1 22 (4 * l + b) = nI (c + (T.2.2.1 b).length) ∧ (420 * l ≤ c ∧ c + (T.2.2.1 b).length ≤ cl) ∧ ∀ i, i < (T.2.2.1 b).length → G.1 23 (c + i) = nI ((T.2.2.1 b).getD i 0)) ∧ ∀ k, k < 3 → MLc l k br co (T.2.2.2 k) G
def MT (l : Nat) (T : Txt) (G : Hp) : Prop := MTc l (420 * l + 400) (130 * l + 101) (420 * l + 400) T G
/-- how all goes on, as a row of 26 ints -/
def WFG (T : Txt) (r : Nat → Int32) : Prop := (∀ b, b < T.1 3 → ∃ s, s ≤ 99 ∧ r b = nI s ∧ (r (4 + b) ≠ 2 → 1 ≤ s)) ∧ (∀ b, b < 4 → (r (4 + b) = 0 ∨ r (4 + b) = 1 ∨ r (4 + b) = 2) ∧ (T.1 3 ≤ b → r (4 + b) = 0)) ∧ (∃ c, c ≤ 9 ∧ r 21 = nI c ∧ ∀ k, k < c → ∃ s, s < 256 ∧ r (12 + k) = nI s) ∧ ∃ m, m < 2 ^ T.1 1 ∧ r 25 = nI m
def XG (T : Txt) (g : Nat) (r : Nat → Int32) (G : Hp) : Prop := (∀ b, b < T.1 3 → G.1 (g + 1) b = r b ∧ G.1 (g + 3) b = r (8 + b)) ∧ (∀ b, b < 4 → G.1 (g + 2) b = r (4 + b)) ∧ (∀ k, nI k < r 21 → k < 9 → G.1 (g + 4) k = r (12 + k)) ∧ G.1 g 4 = r 21 ∧ G.1 g 5 = r 24 ∧ G.1 g 6 = r 25 ∧ G.1 g 7 = r 22 ∧ G.1 g 8 = r 23
/-- where the class's history has the j-th of u things, the next being at nx -/
def hq (nx u j : Nat) : Nat := 68 + 5 * ((nx + 40 - u + j) % 40)
/-- the rest: tape, history, slots, what is told -/
def RT (n : Nat) (Gx Gm : Hp) : Prop := n ≤ 2000 ∧ Gx.1 2 0 = nI n ∧ Gm.1 0 2 = nI n ∧ ∀ j, j < n → Gx.1 7 j = Gm.1 1 j ∧ (-128) ≤ Gx.1 7 j ∧ Gx.1 7 j ≤ 127
def RH (T : Txt) (u nx : Nat) (hi : Nat → Nat → Int32) (Gx Gm : Hp) : Prop := u ≤ 40 ∧ nx < 40 ∧ Gx.1 66 0 = nI u ∧ Gx.1 66 1 = nI nx ∧ Gm.1 0 64 = nI u ∧ ∀ j, j < u → WFG T (hi j) ∧ XG T (hq nx u j) (hi j) Gx ∧ ∀ k, k < 26 → Gm.1 43 (26 * j + k) = hi j k
def RS (T : Txt) (hb : Nat) (sl : Nat → Nat → Int32) (Gx Gm : Hp) : Prop := hb < 8 ∧ Gx.1 0 7 = nI hb ∧ ∀ i, i < 3 → Gm.1 51 i = (if hb.testBit i then 1 else 0) ∧ (hb.testBit i = true → WFG T (sl i) ∧ XG T (269 + 5 * i) (sl i) Gx ∧ ∀ k, k < 26 → Gm.1 52 (26 * i + k) = sl i k)
def RO (T : Txt) (m : Nat) (Gx Gm : Hp) : Prop := m ≤ 20 ∧ Gx.1 284 0 = nI m ∧ Gm.1 0 74 = nI m ∧ ∀ i, i < m → ∃ a, a < T.1 0 ∧ Gx.1 285 i = nI a ∧ Gm.1 49 i = nI a ∧ Gx.1 286 i = Gm.1 50 i ∧ (Gm.1 50 i = 0 ∨ Gm.1 50 i = 1)
/-- the words as both keep them: letters to base 32, to base 27 -/
def wcode (b : Int64) (w : List Nat) : Int64 := w.foldl (fun c x => c * b + lN x) 0
def WORD : List (List Nat) := [[20,18,1,9,20], [2,5,9,14,7], [23,1,25], [2,18,9,4,7,5], [23,5,1,18,19], [13,5,14,4,19], [1,19,11,19], [19,20,15,18,13], [19,5,5,4], [7,9,22,5,19], [4,18,15,16,19], [15,18], [1,14,4], [14,15,20], [9,6], [20,8,5,14], [5,12,19,5], [19,20,15,14,5,19], [12,15,1,4], [25,5,1,18], [19,20,15,15,4], [23,8,9,3,8], [12,15,19,19], [13,1,14,25], [15,16,5,14], [12,5,1,18,14,20]]
/-- which word the reference has at its place -/
def mword (i : Nat) : Nat := [0, 1, 2, 3, 9, 10, 11, 12, 13, 4, 5, 6, 7, 8, 14, 15, 16, 17, 18, 19, 20, 21, 22, 23, 24, 25].getD i 0
def RK (Gx Gm : Hp) : Prop := ∀ i, i < 26 → Gx.2.1 6 i = wcode 32 (WORD.getD i []) ∧ Gm.2.1 7 i = wcode 27 (WORD.getD (mword i) [])
def Inv0 (T : Txt) (t l : Nat) (r : Nat → Int32) (n u nx : Nat) (hi : Nat → Nat → Int32) (hb : Nat) (sl : Nat → Nat → Int32) (m : Nat) (Gx Gm : Hp) : Prop :=
  LX t Gx ∧ LM Gm ∧ l ≤ 1 ∧ Gm.1 0 18 = nI l ∧ WFT T ∧ XT t T Gx ∧ MT l T Gm ∧ WFG T r ∧ XG T 53 r Gx ∧ (∀ k, k < 26 → Gm.1 39 k = r k) ∧ RT n Gx Gm ∧ RH T u nx hi Gx Gm ∧ RS T hb sl Gx Gm ∧ RO T m Gx Gm ∧ RK Gx Gm ∧ Gx.1 0 1 = Gm.1 0 17
def Inv (Gx Gm : Hp) : Prop := ∃ T t l r n u nx hi hb sl m, Inv0 T t l r n u nx hi hb sl m Gx Gm
