/-! YEARS, on both sides. -/
theorem max_sub : ∀ s, s < 100 → ∀ w, w < 11 → imax 0 (nI s - nI w) = nI (s - w) := by decide +kernel
theorem held_sub : ∀ s, s < 100 → ∀ w, w < 10 → ∀ m, m < 2 → fX11_held ((nI s - nI w) - nI m) 0 99 = some (nI (s - (w + m))) := by decide +kernel
def sN (r : Nat → Int32) (b : Nat) : Nat := (r b).toNatClampNeg
theorem WFG.s {T : Txt} {r : Nat → Int32} {b : Nat} (hw : WFG T r) (hb : b < T.1 3) : r b = nI (sN r b) ∧ sN r b ≤ 99 ∧ (r (4 + b) ≠ 2 → 1 ≤ sN r b) := by
  obtain ⟨s, s1, s2, s3⟩ := hw.1 b hb
  unfold sN
  rw [s2, nI_clamp (by omega)]
  exact ⟨rfl, s1, s3⟩
/-- by how much a bridge wears in a year -/
def wY (T : Txt) (r : Nat → Int32) (more b : Nat) : Nat := hld 9 (law T 0 r b 0 0) + more
def yV (T : Txt) (r : Nat → Int32) (more b : Nat) : Int32 := nI (sN r b - wY T r more b)
def yB (R : Nat → Int32) (b : Nat) (v : Int32) : Nat → Int32 := if v = 0 then upd (upd (upd R (8 + b) (R (8 + b) + 1)) b v) (4 + b) 2 else upd (upd R (8 + b) (R (8 + b) + 1)) b v
def yRow (w : Nat → Int32) (r : Nat → Int32) : Nat → Nat → Int32
  | 0 => r
  | n + 1 => if r (4 + n) = 1 then yB (yRow w r n) n (w n) else yRow w r n
/-- a year -/
def rYear (T : Txt) (r : Nat → Int32) (more : Nat) : Nat → Int32 := upd (yRow (yV T r more) r (T.1 3)) 23 (r 23 + 1)
theorem yB_out {R : Nat → Int32} {b k : Nat} {v : Int32} (h : k ≠ b ∧ k ≠ 4 + b ∧ k ≠ 8 + b) : yB R b v k = R k := by
  unfold yB
  split
  · rw [upn h.2.1, upn h.1, upn h.2.2]
  · rw [upn h.1, upn h.2.2]
theorem yRow_out {w r : Nat → Int32} {k : Nat} : ∀ n, (∀ b, b < n → k ≠ b ∧ k ≠ 4 + b ∧ k ≠ 8 + b) → yRow w r n k = r k
  | 0, _ => rfl
  | n + 1, h => by
    have := yRow_out (w := w) (r := r) n (fun b hb => h b (by omega))
    show (if r (4 + n) = 1 then yB (yRow w r n) n (w n) else yRow w r n) k = r k
    split
    · rw [yB_out (h n (by omega))]; exact this
    · exact this
theorem yRow_s {w r : Nat → Int32} {n : Nat} (h : r (4 + n) = 1) : yRow w r (n + 1) = yB (yRow w r n) n (w n) := if_pos h
theorem yRow_n {w r : Nat → Int32} {n : Nat} (h : ¬ r (4 + n) = 1) : yRow w r (n + 1) = yRow w r n := if_neg h
/-- what a bridge is after the years' loop -/
theorem yRow_at {w r : Nat → Int32} {b : Nat} : ∀ n, b < n → n ≤ 4 → (r (4 + b) = 1 → yRow w r n b = w b ∧ yRow w r n (4 + b) = (if w b = 0 then 2 else 1)) ∧ (r (4 + b) ≠ 1 → yRow w r n b = r b ∧ yRow w r n (4 + b) = r (4 + b))
  | n + 1, h, h4 => by
    by_cases e : b = n
    · subst e
      have o1 : yRow w r b b = r b := yRow_out b (fun c hc => by omega)
      have o2 : yRow w r b (4 + b) = r (4 + b) := yRow_out b (fun c hc => by omega)
      refine ⟨fun hp => ?_, fun hp => ?_⟩
      · rw [yRow_s hp]
        unfold yB
        by_cases v0 : w b = 0
        · rw [if_pos v0, if_pos v0, upn (by omega), ups, ups]; exact ⟨rfl, rfl⟩
        · rw [if_neg v0, if_neg v0, ups, upn (by omega), upn (by omega), o2]; exact ⟨rfl, hp⟩
      · rw [yRow_n hp]; exact ⟨o1, o2⟩
    · have ih := yRow_at (w := w) (r := r) (b := b) n (by omega) (by omega)
      by_cases hn : r (4 + n) = 1
      · rw [yRow_s hn, yB_out (k := b) (by omega), yB_out (k := 4 + b) (by omega)]; exact ih
      · rw [yRow_n hn]; exact ih
theorem wY_le {T : Txt} {r : Nat → Int32} {more b : Nat} (h : more ≤ 1) : wY T r more b < 11 := by
  have := hld_le (m := 9) (v := law T 0 r b 0 0)
  unfold wY; omega
theorem WFG_year {T : Txt} {r : Nat → Int32} {more : Nat} (h : WFG T r) (hW : WFT T) : WFG T (rYear T r more) := by
  have hw := hW.1
  have S := fun b hb => h.s (b := b) hb
  obtain ⟨h1, h2, ⟨c, c1, c2, c3⟩, m, m1, m2⟩ := h
  unfold rYear
  refine ⟨fun b hb => ?_, fun b hb => ?_, ⟨c, c1, ?_, fun k hk => ?_⟩, m, m1, ?_⟩
  · obtain ⟨q1, q2⟩ := yRow_at (w := yV T r more) (r := r) (T.1 3) hb (by omega)
    rw [upn (by omega), upn (by omega)]
    by_cases hp : r (4 + b) = 1
    · obtain ⟨a1, a2⟩ := q1 hp
      obtain ⟨s1, s2, s3⟩ := S b hb
      refine ⟨sN r b - wY T r more b, by omega, a1, fun hq => ?_⟩
      rw [a2] at hq
      by_cases v0 : yV T r more b = 0
      · rw [if_pos v0] at hq; exact absurd rfl hq
      · rcases Nat.eq_zero_or_pos (sN r b - wY T r more b) with z | z
        · exact absurd (show yV T r more b = 0 by unfold yV; rw [z]; rfl) v0
        · exact z
    · obtain ⟨a1, a2⟩ := q2 hp
      rw [a1, a2]; exact h1 b hb
  · rw [upn (by omega)]
    by_cases hb3 : b < T.1 3
    · obtain ⟨q1, q2⟩ := yRow_at (w := yV T r more) (r := r) (T.1 3) hb3 (by omega)
      by_cases hp : r (4 + b) = 1
      · rw [(q1 hp).2]
        refine ⟨?_, fun q => by omega⟩
        split
        · exact Or.inr (Or.inr rfl)
        · exact Or.inr (Or.inl rfl)
      · rw [(q2 hp).2]; exact h2 b hb
    · rw [yRow_out _ (fun c hc => by omega)]; exact h2 b hb
  · rw [upn (by omega), yRow_out _ (fun c hc => by omega)]; exact c2
  · rw [upn (by omega), yRow_out _ (fun c hc => by omega)]; exact c3 k hk
  · rw [upn (by omega), yRow_out _ (fun c hc => by omega)]; exact m2
theorem EG.rf {g : Nat} {G : Hp} : EG g G G := ⟨rfl, fun _ _ _ => rfl⟩
theorem EG.tr {g : Nat} {G G2 G3 : Hp} (h : EG g G G2) (h2 : EG g G2 G3) : EG g G G3 := ⟨h2.1.trans h.1, fun q k hn => (h2.2 q k hn).trans (h.2 q k hn)⟩
theorem EG.sI {g q k : Nat} {G : Hp} {v : Int32} (h : g ≤ q ∧ q ≤ g + 4) : EG g G (sI G q k v) := ⟨rfl, fun q2 k2 hn => sI_ne (by omega)⟩
theorem EG.L {t g : Nat} {G G2 : Hp} (h : EG g G G2) (hx : LX t G) : LX t G2 := hx.same (by rw [h.1])
theorem EG.T {t g : Nat} {T : Txt} {G G2 : Hp} (ht : t = 11 ∨ t = 32) (hg : isG g) (h : EG g G G2) (hT : XT t T G) : XT t T G2 := by
  have := isG_r hg
  exact XT_fr hT (fun q k a b c d => h.2 q k (by omega)) (by rw [h.1])
/-- what only years use, and the Going at g -/
def EY (t g : Nat) (G G2 : Hp) : Prop := G2.2 = G.2 ∧ ∀ q k, ¬ (g ≤ q ∧ q ≤ g + 4) → q ≠ 60 → q ≠ 59 → q ≠ t + 12 → q ≠ t + 16 → q ≠ t + 20 → G2.1 q k = G.1 q k
theorem EY.tr {t g : Nat} {G G2 G3 : Hp} (h : EY t g G G2) (h2 : EY t g G2 G3) : EY t g G G3 := ⟨h2.1.trans h.1, fun q k a b c d e f => (h2.2 q k a b c d e f).trans (h.2 q k a b c d e f)⟩
theorem EY.rf {t g : Nat} {G : Hp} : EY t g G G := ⟨rfl, fun _ _ _ _ _ _ _ _ => rfl⟩
theorem EY.of {t g : Nat} {G G2 : Hp} (h : EK t G G2) : EY t g G G2 := ⟨h.1, fun q k _ _ c d e f => h.2 q k c d e f⟩
theorem EY.g {t g : Nat} {G G2 : Hp} (h : EG g G G2) : EY t g G G2 := ⟨h.1, fun q k a _ _ _ _ _ => h.2 q k a⟩
theorem EY.L {t g : Nat} {G G2 : Hp} (h : EY t g G G2) (hx : LX t G) : LX t G2 := hx.same (by rw [h.1])
theorem EY.T {t g : Nat} {T : Txt} {G G2 : Hp} (ht : t = 11 ∨ t = 32) (hg : isG g) (h : EY t g G G2) (hT : XT t T G) : XT t T G2 := by
  have := isG_r hg
  exact XT_fr hT (fun q k a b c d => h.2 q k (by omega) (by omega) (by omega) (by omega) (by omega) (by omega)) (by rw [h.1])
/-- what the wear of a year uses -/
def E60 (t : Nat) (G G2 : Hp) : Prop := G2.2 = G.2 ∧ ∀ q k, q ≠ 60 → q ≠ 59 → q ≠ t + 12 → q ≠ t + 16 → q ≠ t + 20 → G2.1 q k = G.1 q k
theorem E60.tr {t : Nat} {G G2 G3 : Hp} (h : E60 t G G2) (h2 : E60 t G2 G3) : E60 t G G3 := ⟨h2.1.trans h.1, fun q k b c d e f => (h2.2 q k b c d e f).trans (h.2 q k b c d e f)⟩
theorem E60.rf {t : Nat} {G : Hp} : E60 t G G := ⟨rfl, fun _ _ _ _ _ _ _ => rfl⟩
theorem E60.of {t : Nat} {G G2 : Hp} (h : EK t G G2) : E60 t G G2 := ⟨h.1, fun q k _ c d e f => h.2 q k c d e f⟩
theorem E60.s {t k : Nat} {G : Hp} {v : Int32} : E60 t G (sI G 60 k v) := ⟨rfl, fun q2 k2 h _ _ _ _ => sI_ne (Or.inl h)⟩
theorem E60.L {t : Nat} {G G2 : Hp} (h : E60 t G G2) (hx : LX t G) : LX t G2 := hx.same (by rw [h.1])
theorem E60.T {t : Nat} {T : Txt} {G G2 : Hp} (ht : t = 11 ∨ t = 32) (h : E60 t G G2) (hT : XT t T G) : XT t T G2 := XT_fr hT (fun q k a b c d => h.2 q k (by omega) (by omega) (by omega) (by omega) (by omega)) (by rw [h.1])
theorem E60.G {t g : Nat} {T : Txt} {r : Nat → Int32} {G G2 : Hp} (ht : t = 11 ∨ t = 32) (hg : isG g) (h : E60 t G G2) (hG : XG T g r G) : XG T g r G2 := by
  have := isG_r hg
  exact XG_fr hG (fun q k a b => h.2 q k (by omega) (by omega) (by omega) (by omega) (by omega))
theorem EY.w {t g : Nat} {G G2 : Hp} (h : E60 t G G2) : EY t g G G2 := ⟨h.1, fun q k _ b c d e f => h.2 q k b c d e f⟩
theorem xLoseG {t g b s w : Nat} {T : Txt} {r : Nat → Int32} {G : Hp} (hx : LX t G) (hW : WFT T) (hg : isG g) (h : XG T g r G) (hb : b < T.1 3) (hs : r b = nI s) (h99 : s ≤ 99) (hw : w < 11) : ∃ G2, fX1_loseStones SHX G g (nI b) (nI w) = some G2 ∧ EG g G G2 ∧ XG T g (if nI (s - w) = 0 then upd (upd r b (nI (s - w))) (4 + b) 2 else upd r b (nI (s - w))) G2 := by
  have hw1 := hW.1
  unfold fX1_loseStones
  rw [xg_0 hg hx]
  simp only [ob]
  rw [aI_n (by rw [xgn_0 hg]; omega) (by omega), (h.1 b hb).1, hs]
  simp only [ob]
  rw [max_sub s (by omega) w hw, asI_n (by rw [xgn_0 hg]; omega) (by omega)]
  simp only [ob]
  have h1 : XG T g (upd r b (nI (s - w))) (sI G (g + 1) b (nI (s - w))) := h.st (by omega) (by omega)
  have hx2 : LX t (sI G (g + 1) b (nI (s - w))) := hx
  have e1 : (sI G (g + 1) b (nI (s - w))).1 (g + 1) b = nI (s - w) := sI_same
  have E1' : EG g G (sI G (g + 1) b (nI (s - w))) := EG.sI (by omega)
  generalize sI G (g + 1) b (nI (s - w)) = G4 at h1 hx2 e1 E1'
  rw [xg_0 hg hx2, xg_1 hg hx2]
  simp only [ob]
  rw [aI_n (by rw [xgn_0 hg]; omega) (by omega), e1]
  simp only [ob]
  by_cases e0 : nI (s - w) = 0
  · rw [if_pos e0, if_pos e0, asI_n (by rw [xgn_1 hg]; omega) (by omega)]
    exact ⟨_, rfl, E1'.tr (EG.sI (by omega)), h1.ph (by omega) (by omega)⟩
  · rw [if_neg e0, if_neg e0]
    exact ⟨_, rfl, E1', h1⟩
theorem xWearAll {t g more : Nat} {T : Txt} {r : Nat → Int32} {G : Hp} (hx : LX t G) (hT : XT t T G) (hW : WFT T) (hg : isG g) (hG : XG T g r G) : ∃ G2, iter (fun s : Hp × Int32 => fX3_passYear_S3 SHX 58 t g (nI more) s.1 s.2) fuel ((G, 0) : Hp × Int32) = some G2 ∧ E60 t G G2 ∧ ∀ b, b < T.1 3 → r (4 + b) = 1 → G2.1 60 b = nI (wY T r more b) := by
  have ht := hx.1
  have hw := hW.1
  refine iter_go (f := fun s : Hp × Int32 => fX3_passYear_S3 SHX 58 t g (nI more) s.1 s.2) (P := fun i s => s.2 = nI i ∧ E60 t G s.1 ∧ ∀ b, b < i → r (4 + b) = 1 → s.1.1 60 b = nI (wY T r more b)) (Q := fun o => E60 t G o ∧ ∀ b, b < T.1 3 → r (4 + b) = 1 → o.1 60 b = nI (wY T r more b)) (T.1 3) (G, 0) (by omega) ⟨rfl, E60.rf, fun b hb => by omega⟩ ?_ ?_
  · rintro i ⟨G1, x⟩ hi ⟨rfl, hE, hv⟩
    left
    dsimp only at hE hv ⊢
    have hx1 := hE.L hx
    have hT1 := hE.T ht hT
    have hG1 := hE.G ht hg hG
    unfold fX3_passYear_S3
    rw [hT1.1 3 (by decide), if_neg (nI_ge hi (by omega)), xl_58_1 hx1, xg_1 hg hx1]
    simp only [ob]
    rw [aI_n (by rw [xgn_1 hg]; omega) (by omega), hG1.2.1 i (by omega)]
    simp only [ob]
    by_cases hp : r (4 + i) = 1
    · rw [if_pos hp]
      obtain ⟨G9, a1, a2⟩ := xWears hx1 hT1 hW hg hG1 hi
      rw [a1]
      simp only [obp]
      rw [asI_n (by rw [xnn_60]; omega) (by omega)]
      simp only [ob, obd]
      refine ⟨_, rfl, nI_1 i, (hE.tr (E60.of a2)).tr E60.s, fun b hb hq => ?_⟩
      by_cases e : b = i
      · subst e; show (sI G9 60 b _).1 60 b = _; rw [sI_same]; exact nI_add _ _
      · show (sI G9 60 i _).1 60 b = _
        rw [sI_ne (Or.inr e), a2.2 60 b (by decide) (by omega) (by omega) (by omega)]; exact hv b (by omega) hq
    · rw [if_neg hp, asI_n (by rw [xnn_60]; omega) (by omega)]
      simp only [ob, obd]
      refine ⟨_, rfl, nI_1 i, hE.tr E60.s, fun b hb hq => ?_⟩
      have e : b ≠ i := fun e => hp (by rw [← e]; exact hq)
      show (sI G1 60 i _).1 60 b = _
      rw [sI_ne (Or.inr e)]; exact hv b (by omega) hq
  · rintro ⟨G1, x⟩ ⟨rfl, hE, hv⟩
    dsimp only at hE hv ⊢
    have hT1 := hE.T ht hT
    unfold fX3_passYear_S3
    rw [hT1.1 3 (by decide), if_pos (nI_le (Nat.le_refl _) (by omega))]
    exact ⟨_, rfl, hE, hv⟩
theorem xPassYear {t g more : Nat} {T : Txt} {r : Nat → Int32} {G : Hp} (hx : LX t G) (hT : XT t T G) (hW : WFT T) (hg : isG g) (hG : XG T g r G) (hw : WFG T r) (hm : more ≤ 1) : ∃ G2, fX3_passYear SHX G 58 t g (nI more) = some G2 ∧ EY t g G G2 ∧ XG T g (rYear T r more) G2 := by
  have ht := hx.1
  have hw1 := hW.1
  have hgr := isG_r hg
  obtain ⟨G2, a1, a2, a3⟩ := xWearAll (more := more) hx hT hW hg hG
  have hx2 := a2.L hx
  have hT2 := a2.T ht hT
  have hG2 := a2.G ht hg hG
  obtain ⟨G4, b1, b2, b3⟩ := iter_go (f := fun s : Hp × Int32 => fX3_passYear_S53 SHX 58 t g s.1 s.2) (P := fun i s => s.2 = nI i ∧ EG g G2 s.1 ∧ XG T g (yRow (yV T r more) r i) s.1) (Q := fun o => EG g G2 o ∧ XG T g (yRow (yV T r more) r (T.1 3)) o) (T.1 3) (G2, 0) (by omega) ⟨rfl, EG.rf, hG2⟩ (by
    rintro i ⟨G3, x⟩ hi ⟨rfl, hE, hG3⟩
    left
    dsimp only at hE hG3 ⊢
    have hx3 := hE.L hx2
    have hT3 := hE.T ht hg hT2
    have o1 : yRow (yV T r more) r i i = r i := yRow_out i (fun c hc => by omega)
    have o2 : yRow (yV T r more) r i (4 + i) = r (4 + i) := yRow_out i (fun c hc => by omega)
    unfold fX3_passYear_S53
    rw [hT3.1 3 (by decide), if_neg (nI_ge hi (by omega)), xg_1 hg hx3]
    simp only [ob]
    rw [aI_n (by rw [xgn_1 hg]; omega) (by omega), hG3.2.1 i (by omega), o2]
    simp only [ob]
    by_cases hp : r (4 + i) = 1
    · rw [if_pos hp, xg_2 hg hx3]
      simp only [ob]
      rw [aI_n (by rw [xgn_2 hg]; omega) (by omega), (hG3.1 i hi).2]
      simp only [ob]
      rw [asI_n (by rw [xgn_2 hg]; omega) (by omega)]
      simp only [ob]
      have hG8 := hG3.sd (b := i) (v := yRow (yV T r more) r i (8 + i) + 1) (by omega) (by omega)
      have E8 : EG g G3 (sI G3 (g + 3) i (yRow (yV T r more) r i (8 + i) + 1)) := EG.sI (by omega)
      generalize sI G3 (g + 3) i (yRow (yV T r more) r i (8 + i) + 1) = G8 at hG8 E8
      have hx8 := E8.L hx3
      rw [xl_58_1 hx8]
      simp only [ob]
      rw [aI_n (by rw [xnn_60]; omega) (by omega), E8.2 60 i (by omega), hE.2 60 i (by omega), a3 i hi hp]
      simp only [ob]
      obtain ⟨s1, s2, s3⟩ := hw.s hi
      obtain ⟨G12, l1, l2, l3⟩ := xLoseG (s := sN r i) (w := wY T r more i) hx8 hW hg hG8 hi (by rw [upn (by omega), o1]; exact s1) s2 (wY_le hm)
      rw [l1]
      simp only [ob, obd]
      refine ⟨_, rfl, nI_1 i, (hE.tr E8).tr l2, ?_⟩
      rw [yRow_s hp]
      exact l3
    · rw [if_neg hp]
      simp only [obd]
      refine ⟨_, rfl, nI_1 i, hE, ?_⟩
      rw [yRow_n hp]; exact hG3) (by
    rintro ⟨G3, x⟩ ⟨rfl, hE, hG3⟩
    dsimp only at hE hG3 ⊢
    have hT3 := hE.T ht hg hT2
    unfold fX3_passYear_S53
    rw [hT3.1 3 (by decide), if_pos (nI_le (Nat.le_refl _) (by omega))]
    exact ⟨_, rfl, hE, hG3⟩)
  unfold fX3_passYear
  rw [a1]
  simp only [ob, obd]
  rw [b1]
  simp only [ob]
  rw [b3.2.2.2.2.2.2.2, yRow_out (k := 23) _ (fun c hc => by omega)]
  exact ⟨_, rfl, ((EY.w a2).tr (EY.g b2)).tr (EY.g (EG.sI (by omega))), b3.f8 (by omega)⟩
/-- what only years use in the reference -/
def EW (G G2 : Hp) : Prop := G2.2 = G.2 ∧ ∀ q k, q ≠ 37 → q ≠ 38 → q ≠ 40 → q ≠ 42 → ¬ (q = 0 ∧ k = 57) → G2.1 q k = G.1 q k
theorem EW.tr {G G2 G3 : Hp} (h : EW G G2) (h2 : EW G2 G3) : EW G G3 := ⟨h2.1.trans h.1, fun q k a b c d e => (h2.2 q k a b c d e).trans (h.2 q k a b c d e)⟩
theorem EW.rf {G : Hp} : EW G G := ⟨rfl, fun _ _ _ _ _ _ _ => rfl⟩
theorem EW.of {G G2 : Hp} (h : EL G G2) : EW G G2 := ⟨h.1, fun q k a b _ _ e => h.2 q k a b e⟩
theorem EW.s40 {k : Nat} {G : Hp} {v : Int32} : EW G (sI G 40 k v) := ⟨rfl, fun q2 k2 _ _ h _ _ => sI_ne (Or.inl h)⟩
theorem EW.s42 {k : Nat} {G : Hp} {v : Int32} : EW G (sI G 42 k v) := ⟨rfl, fun q2 k2 _ _ _ h _ => sI_ne (Or.inl h)⟩
theorem EW.M {G G2 : Hp} (h : EW G G2) : EssM G G2 := ⟨h.1, fun q k hn => by
  unfold scrM at hn
  exact h.2 q k (by omega) (by omega) (by omega) (by omega) (by omega)⟩
theorem mYear0 {l more : Nat} {T : Txt} {r : Nat → Int32} {G : Hp} (hM : ML0 l T G) (hR : MR r G) (hw : WFG T r) (hm : more ≤ 1) : ∃ G2, fX11_yearGoes_J19 SHM G 0 (nI more) = some G2 ∧ EW G G2 ∧ MR (rYear T r more) G2 := by
  have hW := hM.2.2.2.2
  have hw1 := hW.1
  obtain ⟨G2, a1, a2, a3, a4⟩ := iter_go (f := fun s : Hp × Int32 => fX11_yearGoes_S22 SHM 0 (nI more) s.1 s.2) (P := fun i s => s.2 = nI i ∧ EW G s.1 ∧ MR r s.1 ∧ ∀ b, b < i → r (4 + b) = 1 → s.1.1 42 b = yV T r more b) (Q := fun o => EW G o ∧ MR r o ∧ ∀ b, b < T.1 3 → r (4 + b) = 1 → o.1 42 b = yV T r more b) (T.1 3) (G, 0) (by omega) ⟨rfl, EW.rf, hR, fun b hb => by omega⟩ (by
    rintro i ⟨G1, x⟩ hi ⟨rfl, hE, hR1, hv⟩
    left
    dsimp only at hE hR1 hv ⊢
    have hM1 := hE.M.M hM
    unfold fX11_yearGoes_S22
    rw [ml_31 hM1.1]
    simp only [ob]
    rw [aI_l (n := 0) hM1 mn_18, hM1.2.2.2.1.1.2.2.2.1]
    simp only [ob]
    rw [if_neg (nI_ge hi (by omega)), ml_63 hM1.1, ml_59 hM1.1]
    simp only [ob]
    rw [show (4 : Int32) + nI i = nI (4 + i) from nI_add 4 i, m40 (by omega), hR1 _ (by omega)]
    simp only [ob]
    rw [m40 (by omega), hR1 _ (by omega)]
    simp only [ob]
    by_cases hp : r (4 + i) = 1
    · rw [if_pos hp]
      obtain ⟨G9, y1, y2⟩ := mWears hM1 hR1 hw hi
      rw [y1]
      simp only [obp]
      obtain ⟨s1, s2, s3⟩ := hw.s hi
      rw [s1, held_sub (sN r i) (by omega) _ (Nat.lt_succ_of_le hld_le) more (by omega)]
      simp only [ob]
      rw [asI_n (by rw [mn_42]; omega) (by omega)]
      simp only [ob, obd]
      refine ⟨_, rfl, nI_1 i, (hE.tr (EW.of y2)).tr EW.s42, (y2.R hR1).E (fun k hk => sI_ne (Or.inl (by decide))), fun b hb hq => ?_⟩
      by_cases e : b = i
      · subst e; show (sI G9 42 b _).1 42 b = _; rw [sI_same]; rfl
      · show (sI G9 42 i _).1 42 b = _
        rw [sI_ne (Or.inr e), y2.2 42 b (by decide) (by decide) (by omega)]; exact hv b (by omega) hq
    · rw [if_neg hp, asI_n (by rw [mn_42]; omega) (by omega)]
      simp only [ob, obd]
      refine ⟨_, rfl, nI_1 i, hE.tr EW.s42, hR1.E (fun k hk => sI_ne (Or.inl (by decide))), fun b hb hq => ?_⟩
      have e : b ≠ i := fun e => hp (by rw [← e]; exact hq)
      show (sI G1 42 i _).1 42 b = _
      rw [sI_ne (Or.inr e)]; exact hv b (by omega) hq) (by
    rintro ⟨G1, x⟩ ⟨rfl, hE, hR1, hv⟩
    dsimp only at hE hR1 hv ⊢
    have hM1 := hE.M.M hM
    unfold fX11_yearGoes_S22
    rw [ml_31 hM1.1]
    simp only [ob]
    rw [aI_l (n := 0) hM1 mn_18, hM1.2.2.2.1.1.2.2.2.1]
    simp only [ob]
    rw [if_pos (nI_le (Nat.le_refl _) (by omega))]
    exact ⟨_, rfl, hE, hR1, hv⟩)
  have hM2 := a2.M.M hM
  obtain ⟨G4, b1, b2, b3, b4⟩ := iter_go (f := fun s : Hp × Int32 => fX11_yearGoes_S90 SHM 0 s.1 s.2) (P := fun i s => s.2 = nI i ∧ EW G2 s.1 ∧ MR (yRow (yV T r more) r i) s.1 ∧ ∀ b, b < T.1 3 → r (4 + b) = 1 → s.1.1 42 b = yV T r more b) (Q := fun o => EW G2 o ∧ MR (yRow (yV T r more) r (T.1 3)) o ∧ True) (T.1 3) (G2, 0) (by omega) ⟨rfl, EW.rf, a3, a4⟩ (by
    rintro i ⟨G3, x⟩ hi ⟨rfl, hE, hR3, hv⟩
    left
    dsimp only at hE hR3 hv ⊢
    have hM3 := hE.M.M hM2
    have o2 : yRow (yV T r more) r i (4 + i) = r (4 + i) := yRow_out i (fun c hc => by omega)
    unfold fX11_yearGoes_S90
    rw [ml_31 hM3.1]
    simp only [ob]
    rw [aI_l (n := 0) hM3 mn_18, hM3.2.2.2.1.1.2.2.2.1]
    simp only [ob]
    rw [if_neg (nI_ge hi (by omega)), ml_63 hM3.1, ml_59 hM3.1]
    simp only [ob]
    rw [show (4 : Int32) + nI i = nI (4 + i) from nI_add 4 i, m40 (by omega), hR3 _ (by omega), o2]
    simp only [ob]
    by_cases hp : r (4 + i) = 1
    · rw [if_pos hp, aI_n (by rw [mn_42]; omega) (by omega), hv i hi hp]
      simp only [ob]
      rw [ms40 (by omega)]
      simp only [ob, obd]
      have R10 := hR3.s (k := i) (v := yV T r more i)
      have L10 : LM (sI G3 40 i (yV T r more i)) := hM3.1
      have E10 : EW G3 (sI G3 40 i (yV T r more i)) := EW.s40
      have c10 : ∀ b, (sI G3 40 i (yV T r more i)).1 42 b = G3.1 42 b := fun b => sI_ne (Or.inl (by decide))
      generalize sI G3 40 i (yV T r more i) = G10 at R10 L10 E10 c10
      rw [ml_59 L10]
      simp only [ob]
      rw [show (8 : Int32) + nI i = nI (8 + i) from nI_add 8 i, m40 (by omega), R10 _ (by omega), upn (by omega)]
      simp only [ob]
      rw [ms40 (by omega)]
      simp only [ob]
      have R14 := R10.s (k := 8 + i) (v := yRow (yV T r more) r i (8 + i) + 1)
      have L14 : LM (sI G10 40 (8 + i) (yRow (yV T r more) r i (8 + i) + 1)) := L10
      have E14 : EW G10 (sI G10 40 (8 + i) (yRow (yV T r more) r i (8 + i) + 1)) := EW.s40
      have c14 : ∀ b, (sI G10 40 (8 + i) (yRow (yV T r more) r i (8 + i) + 1)).1 42 b = G10.1 42 b := fun b => sI_ne (Or.inl (by decide))
      generalize sI G10 40 (8 + i) (yRow (yV T r more) r i (8 + i) + 1) = G14 at R14 L14 E14 c14
      rw [ml_59 L14]
      simp only [ob]
      rw [m40 (by omega), R14 _ (by omega), upn (by omega), ups]
      simp only [ob]
      rw [fa_upd_swap _ (show i ≠ 8 + i by omega)] at R14
      have Ev : ∀ b, b < T.1 3 → r (4 + b) = 1 → G14.1 42 b = yV T r more b := fun b hb hq => by
        rw [c14 b, c10 b]; exact hv b hb hq
      by_cases v0 : yV T r more i = 0
      · rw [if_pos v0, ms40 (by omega)]
        simp only [ob, obd]
        refine ⟨_, rfl, nI_1 i, ((hE.tr E10).tr E14).tr EW.s40, ?_, fun b hb hq => ?_⟩
        · have := R14.s (k := 4 + i) (v := 2)
          rw [yRow_s hp]; unfold yB; rw [if_pos v0]; exact this
        · show (sI G14 40 _ _).1 42 b = _
          rw [sI_ne (Or.inl (by decide))]; exact Ev b hb hq
      · rw [if_neg v0]
        refine ⟨_, rfl, nI_1 i, (hE.tr E10).tr E14, ?_, Ev⟩
        rw [yRow_s hp]; unfold yB; rw [if_neg v0]; exact R14
    · rw [if_neg hp]
      simp only [obd]
      refine ⟨_, rfl, nI_1 i, hE, ?_, hv⟩
      rw [yRow_n hp]; exact hR3) (by
    rintro ⟨G3, x⟩ ⟨rfl, hE, hR3, hv⟩
    dsimp only at hE hR3 hv ⊢
    have hM3 := hE.M.M hM2
    unfold fX11_yearGoes_S90
    rw [ml_31 hM3.1]
    simp only [ob]
    rw [aI_l (n := 0) hM3 mn_18, hM3.2.2.2.1.1.2.2.2.1]
    simp only [ob]
    rw [if_pos (nI_le (Nat.le_refl _) (by omega))]
    exact ⟨_, rfl, hE, hR3, trivial⟩)
  have hM4 := b2.M.M hM2
  unfold fX11_yearGoes_J19
  rw [a1]
  simp only [ob, obd]
  rw [b1]
  simp only [ob]
  rw [ml_59 hM4.1]
  simp only [ob]
  rw [show (23 : Int32) = nI 23 from rfl, m40 (by decide), b3 _ (by decide), yRow_out (k := 23) _ (fun c hc => by omega)]
  simp only [ob]
  rw [ms40 (by decide)]
  simp only [ob]
  exact ⟨_, rfl, (a2.tr b2).tr EW.s40, b3.s⟩
