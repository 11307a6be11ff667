set_option maxRecDepth 8000
/-! blocks: that none falls -/
abbrev upN (f : Nat → Nat) (k v : Nat) : Nat → Nat := fun b => if b = k then v else f b
def bS (s : Nat → Int) (w : Nat → Nat) (b : Nat) : Int := cum s (w (b + 1)) - cum s (w b)
def mrgW (s m : Nat → Int) : Nat → Nat → (Nat → Nat) → Nat × (Nat → Nat)
  | 0, b, w => (b, w)
  | n + 1, b, w => if 1 < b ∧ bS s w (b - 1) * bS m w (b - 2) ≤ bS s w (b - 2) * bS m w (b - 1) then mrgW s m n (b - 1) (upN w (b - 1) (w b)) else (b, w)
def blk (P : Pt) : Nat → Nat × (Nat → Nat)
  | 0 => (0, fun _ => 0)
  | i + 1 => mrgW P.s P.m ((blk P i).1 + 1) ((blk P i).1 + 1) (upN (blk P i).2 ((blk P i).1 + 1) (i + 1))
def BkI (P : Pt) (i : Nat) (b : Nat) (w : Nat → Nat) (e : Nat) : Prop := (b ≤ i) ∧ (w 0 = 0) ∧ (w b = i) ∧ (∀ j, j < b → w j < w (j + 1)) ∧ (∀ j, j + e < b → bS P.s w j * bS P.m w (j + 1) < bS P.s w (j + 1) * bS P.m w j)
theorem BkI.of {P : Pt} {i : Nat} {b : Nat} {w : Nat → Nat} {e : Nat} (h : (b ≤ i) ∧ (w 0 = 0) ∧ (w b = i) ∧ (∀ j, j < b → w j < w (j + 1)) ∧ (∀ j, j + e < b → bS P.s w j * bS P.m w (j + 1) < bS P.s w (j + 1) * bS P.m w j)) : BkI P i b w e := h
theorem BkI.le {P : Pt} {i : Nat} {b : Nat} {w : Nat → Nat} {e : Nat} (h : BkI P i b w e) : b ≤ i := h.1
theorem BkI.w0 {P : Pt} {i : Nat} {b : Nat} {w : Nat → Nat} {e : Nat} (h : BkI P i b w e) : w 0 = 0 := h.2.1
theorem BkI.wb {P : Pt} {i : Nat} {b : Nat} {w : Nat → Nat} {e : Nat} (h : BkI P i b w e) : w b = i := h.2.2.1
theorem BkI.inc {P : Pt} {i : Nat} {b : Nat} {w : Nat → Nat} {e : Nat} (h : BkI P i b w e) : ∀ j, j < b → w j < w (j + 1) := h.2.2.2.1
theorem BkI.mean {P : Pt} {i : Nat} {b : Nat} {w : Nat → Nat} {e : Nat} (h : BkI P i b w e) : ∀ j, j + e < b → bS P.s w j * bS P.m w (j + 1) < bS P.s w (j + 1) * bS P.m w j := h.2.2.2.2
theorem BkI.lew {P : Pt} {i b e : Nat} {w : Nat → Nat} (h : BkI P i b w e) : ∀ {y : Nat} (x : Nat), x ≤ y → y ≤ b → w x ≤ w y := by
  intro y
  induction y with
  | zero => intro x hx hy; have : x = 0 := by omega
            subst this; omega
  | succ y ih =>
    intro x hx hy
    by_cases e : x = y + 1
    · subst e; omega
    · have h1 := ih x (by omega) (by omega)
      have h2 := h.inc y (by omega)
      omega
theorem bS_upN {s : Nat → Int} {w : Nat → Nat} {k v j : Nat} (h : j + 1 < k) : bS s (upN w k v) j = bS s w j := by
  unfold bS upN
  rw [if_neg (by omega), if_neg (by omega)]
theorem bS_mrg {s : Nat → Int} {w : Nat → Nat} {b : Nat} (h : 1 < b) : bS s (upN w (b - 1) (w b)) (b - 2) = bS s w (b - 2) + bS s w (b - 1) := by
  unfold bS upN
  rw [if_pos (by omega), if_neg (by omega), show b - 1 + 1 = b by omega, show b - 2 + 1 = b - 1 by omega]
  omega
theorem bS_push {s : Nat → Int} {w : Nat → Nat} {b i : Nat} (hw : w b = i) : bS s (upN w (b + 1) (i + 1)) b = s i := by
  unfold bS upN
  rw [if_pos rfl, if_neg (by omega), hw]
  show cum s i + s i - cum s i = s i
  omega
theorem BkI.mrg1 {P : Pt} {i b : Nat} {w : Nat → Nat} (h : BkI P i b w 2) (hb : 1 < b) : BkI P i (b - 1) (upN w (b - 1) (w b)) 2 := by
  have g1 := h.inc (b - 1) (by omega)
  have g2 := h.inc (b - 2) (by omega)
  rw [show b - 1 + 1 = b by omega] at g1
  rw [show b - 2 + 1 = b - 1 by omega] at g2
  refine BkI.of ⟨by have := h.le; omega, ?_, ?_, fun j hj => ?_, fun j hj => ?_⟩
  · unfold upN
    rw [if_neg (by omega)]
    exact h.w0
  · unfold upN
    rw [if_pos rfl]
    exact h.wb
  · have g3 := h.inc j (by omega)
    unfold upN
    by_cases e : j + 1 = b - 1
    · rw [if_neg (by omega), if_pos e]
      rw [e] at g3
      omega
    · rw [if_neg (by omega), if_neg (by omega)]
      exact g3
  · rw [bS_upN (by omega), bS_upN (by omega), bS_upN (by omega), bS_upN (by omega)]
    exact h.mean j (by omega)
theorem BkI.mrg {P : Pt} {i : Nat} : ∀ (n b : Nat) (w : Nat → Nat), b ≤ n → BkI P i b w 2 → BkI P i (mrgW P.s P.m n b w).1 (mrgW P.s P.m n b w).2 1 := by
  intro n
  induction n with
  | zero =>
    intro b w hb h
    have : b = 0 := by omega
    subst this
    exact BkI.of ⟨h.le, h.w0, h.wb, h.inc, fun j hj => absurd hj (Nat.not_lt_zero _)⟩
  | succ n ih =>
    intro b w hb h
    unfold mrgW
    by_cases c : 1 < b ∧ bS P.s w (b - 1) * bS P.m w (b - 2) ≤ bS P.s w (b - 2) * bS P.m w (b - 1)
    · rw [if_pos c]
      exact ih _ _ (by omega) (h.mrg1 c.1)
    · rw [if_neg c]
      refine BkI.of ⟨h.le, h.w0, h.wb, h.inc, fun j hj => ?_⟩
      by_cases e : j + 2 < b
      · exact h.mean j e
      · have e1 : b - 1 = j + 1 := by omega
        have e2 : b - 2 = j := by omega
        rw [e1, e2] at c
        by_cases c2 : bS P.s w j * bS P.m w (j + 1) < bS P.s w (j + 1) * bS P.m w j
        · exact c2
        · exact absurd ⟨by omega, Int.not_lt.mp c2⟩ c
theorem BkI.push {P : Pt} {i b : Nat} {w : Nat → Nat} (h : BkI P i b w 1) : BkI P (i + 1) (b + 1) (upN w (b + 1) (i + 1)) 2 := by
  refine BkI.of ⟨by have := h.le; omega, ?_, ?_, fun j hj => ?_, fun j hj => ?_⟩
  · unfold upN
    rw [if_neg (by omega)]
    exact h.w0
  · unfold upN
    rw [if_pos rfl]
  · unfold upN
    by_cases e : j = b
    · subst e
      rw [if_neg (by omega), if_pos rfl, h.wb]
      omega
    · rw [if_neg (by omega), if_neg (by omega)]
      exact h.inc j (by omega)
  · rw [bS_upN (by omega), bS_upN (by omega), bS_upN (by omega), bS_upN (by omega)]
    exact h.mean j (by omega)
theorem blk_ok (P : Pt) : ∀ i, BkI P i (blk P i).1 (blk P i).2 1
  | 0 => BkI.of ⟨Nat.le_refl _, rfl, rfl, fun j hj => absurd hj (Nat.not_lt_zero _), fun j hj => absurd hj (Nat.not_lt_zero _)⟩
  | i + 1 => BkI.mrg _ _ _ (Nat.le_refl _) (blk_ok P i).push
theorem cum_lin {s m : Nat → Int} : ∀ n, cum (fun i => 99999 * m i - s i) n = 99999 * cum m n - cum s n
  | 0 => rfl
  | n + 1 => by
    show cum (fun i => 99999 * m i - s i) n + (99999 * m n - s n) = 99999 * (cum m n + m n) - (cum s n + s n)
    rw [cum_lin n]
    omega
/-- what the sums of a block are -/
theorem bS_b {P : Pt} {c i b e j : Nat} {w : Nat → Nat} (hP : PtOK P c) (h : BkI P i b w e) (hi : i ≤ P.n) (hj : j < b) : (1 ≤ bS P.m w j ∧ bS P.m w j ≤ c) ∧ 0 ≤ bS P.s w j ∧ bS P.s w j ≤ 99999 * bS P.m w j := by
  have g1 := h.inc j hj
  have g2 := h.lew (y := b) (j + 1) (by omega) (Nat.le_refl _)
  have g3 := h.wb
  have m0 : ∀ i, i < P.n → 0 ≤ P.m i := fun i hi => by have := hP.m1 i hi; omega
  have s0 : ∀ i, i < P.n → 0 ≤ P.s i := fun i hi => (hP.s1 i hi).1
  have d0 : ∀ i, i < P.n → 0 ≤ (fun i => 99999 * P.m i - P.s i) i := fun i hi => by have := hP.s1 i hi; show 0 ≤ 99999 * P.m i - P.s i; omega
  have a1 := cum_le m0 (j := w (j + 1)) (w j + 1) (by omega) (by omega)
  have a2 := hP.m1 (w j) (by omega)
  have a3 : cum P.m (w j + 1) = cum P.m (w j) + P.m (w j) := rfl
  have a4 := cum_le m0 (j := w j) 0 (by omega) (by omega)
  have a5 : cum P.m 0 = 0 := rfl
  have a6 := cum_le m0 (j := P.n) (w (j + 1)) (by omega) (Nat.le_refl _)
  have a7 := hP.tot
  have b1 := cum_le s0 (j := w (j + 1)) (w j) (by omega) (by omega)
  have d1 := cum_le d0 (j := w (j + 1)) (w j) (by omega) (by omega)
  rw [cum_lin, cum_lin] at d1
  unfold bS
  omega
def blkOf (w : Nat → Nat) (i : Nat) : Nat → Nat
  | 0 => 0
  | n + 1 => if w n ≤ i then n else blkOf w i n
theorem blkOf_eq {w : Nat → Nat} {i j : Nat} : ∀ b : Nat, (∀ x y, x ≤ y → y ≤ b → w x ≤ w y) → j < b → w j ≤ i → i < w (j + 1) → blkOf w i b = j
  | 0, _, hj, _, _ => absurd hj (Nat.not_lt_zero j)
  | b + 1, hw, hj, h1, h2 => by
    unfold blkOf
    by_cases e : j = b
    · subst e
      rw [if_pos h1]
    · have := hw (j + 1) b (by omega) (by omega)
      rw [if_neg (by omega)]
      exact blkOf_eq b (fun x y a c => hw x y a (by omega)) (by omega) h1 h2
/-- a POINT's flow -/
def bMean (P : Pt) (j : Nat) : Int := (bS P.s (blk P P.n).2 j).tdiv (bS P.m (blk P P.n).2 j)
def flw (P : Pt) (i : Nat) : Int := bMean P (blkOf (blk P P.n).2 i (blk P P.n).1)
theorem flw_in {P : Pt} {i j : Nat} (hj : j < (blk P P.n).1) (h1 : (blk P P.n).2 j ≤ i) (h2 : i < (blk P P.n).2 (j + 1)) : flw P i = bMean P j := by
  unfold flw
  rw [blkOf_eq (j := j) (blk P P.n).1 (fun x y a c => (blk_ok P P.n).lew x a c) hj h1 h2]
/-- each POINT lies in a block -/
theorem blk_has {P : Pt} {i e : Nat} {b : Nat} {w : Nat → Nat} {n : Nat} (h : BkI P n b w e) : i < n → ∃ j, j < b ∧ w j ≤ i ∧ i < w (j + 1) := by
  intro hi
  have key : ∀ y, y ≤ b → i < w y → ∃ j, j < y ∧ w j ≤ i ∧ i < w (j + 1) := by
    intro y
    induction y with
    | zero => intro _ hy; rw [h.w0] at hy; omega
    | succ y ih =>
      intro hy hw
      by_cases c : w y ≤ i
      · exact ⟨y, by omega, c, hw⟩
      · obtain ⟨j, g1, g2⟩ := ih (by omega) (by omega)
        exact ⟨j, by omega, g2⟩
  obtain ⟨j, g1, g2⟩ := key b (Nat.le_refl _) (by rw [h.wb]; exact hi)
  exact ⟨j, g1, g2⟩
theorem div_mono {a b c d : Int} (ha : 0 ≤ a) (hc : 0 ≤ c) (hb : 0 < b) (hd : 0 < d) (h : a * d ≤ c * b) : a.tdiv b ≤ c.tdiv d := by
  rw [Int.tdiv_eq_ediv_of_nonneg ha, Int.tdiv_eq_ediv_of_nonneg hc]
  rw [Int.le_ediv_iff_mul_le hd]
  have h1 : a / b * b ≤ a := Int.ediv_mul_le a (by omega)
  have h2 : a / b * b * d ≤ a * d := Int.mul_le_mul_of_nonneg_right h1 (by omega)
  have h3 : a / b * d * b ≤ c * b := by
    rw [Int.mul_right_comm]
    exact Int.le_trans h2 h
  exact Int.le_of_mul_le_mul_right h3 hb
theorem bMean_b {P : Pt} {c j : Nat} (hP : PtOK P c) (hj : j < (blk P P.n).1) : 0 ≤ bMean P j ∧ bMean P j ≤ 99999 := by
  have h := bS_b hP (blk_ok P P.n) (Nat.le_refl _) hj
  unfold bMean
  generalize bS P.s (blk P P.n).2 j = s at *
  generalize bS P.m (blk P P.n).2 j = m at *
  rw [Int.tdiv_eq_ediv_of_nonneg h.2.1]
  exact ⟨Int.ediv_nonneg h.2.1 (by omega), Int.ediv_le_of_le_mul (by omega) (by omega)⟩
theorem bMean_mono {P : Pt} {c j : Nat} (hP : PtOK P c) (hj : j + 1 < (blk P P.n).1) : bMean P j ≤ bMean P (j + 1) := by
  have h1 := bS_b hP (blk_ok P P.n) (Nat.le_refl _) (j := j) (by omega)
  have h2 := bS_b hP (blk_ok P P.n) (Nat.le_refl _) hj
  have h3 := (blk_ok P P.n).mean j hj
  unfold bMean
  exact div_mono h1.2.1 h2.2.1 (by omega) (by omega) (by omega)
theorem flw_b {P : Pt} {c i : Nat} (hP : PtOK P c) (hi : i < P.n) : 0 ≤ flw P i ∧ flw P i ≤ 99999 := by
  obtain ⟨j, g1, g2, g3⟩ := blk_has (blk_ok P P.n) hi
  rw [flw_in g1 g2 g3]
  exact bMean_b hP g1
theorem flw_mono {P : Pt} {c i : Nat} (hP : PtOK P c) (hi : i + 1 < P.n) : flw P i ≤ flw P (i + 1) := by
  obtain ⟨j, g1, g2, g3⟩ := blk_has (blk_ok P P.n) (i := i) (by omega)
  rw [flw_in g1 g2 g3]
  by_cases c1 : i + 1 < (blk P P.n).2 (j + 1)
  · rw [flw_in g1 (by omega) c1]
    omega
  · have e : (blk P P.n).2 (j + 1) = i + 1 := by omega
    have hj : j + 1 < (blk P P.n).1 := by
      by_cases e2 : j + 1 = (blk P P.n).1
      · have := (blk_ok P P.n).wb
        rw [← e2, e] at this
        omega
      · omega
    have g4 := (blk_ok P P.n).inc (j + 1) hj
    rw [flw_in hj (by omega) (by omega)]
    exact bMean_mono hP hj
section BLK
variable {t F : Nat} {A A0 : rz_A} {P : Pt} {c : Nat}
/-! the class: blocks -/
def BkC (A : rz_A) (P : Pt) (i : Nat) (b : Nat) (w : Nat → Nat) : Prop := (A.1 57 0 = P.n) ∧ (∀ j, j < b → A.1 60 j = bS P.s w j ∧ A.1 61 j = bS P.m w j ∧ A.1 62 j = (w (j + 1) : Int) - w j) ∧ (∀ j, i ≤ j → j < P.n → A.1 60 j = P.s j ∧ A.1 61 j = P.m j)
theorem BkC.of {A : rz_A} {P : Pt} {i : Nat} {b : Nat} {w : Nat → Nat} (h : (A.1 57 0 = P.n) ∧ (∀ j, j < b → A.1 60 j = bS P.s w j ∧ A.1 61 j = bS P.m w j ∧ A.1 62 j = (w (j + 1) : Int) - w j) ∧ (∀ j, i ≤ j → j < P.n → A.1 60 j = P.s j ∧ A.1 61 j = P.m j)) : BkC A P i b w := h
theorem BkC.n {A : rz_A} {P : Pt} {i : Nat} {b : Nat} {w : Nat → Nat} (h : BkC A P i b w) : A.1 57 0 = P.n := h.1
theorem BkC.bl {A : rz_A} {P : Pt} {i : Nat} {b : Nat} {w : Nat → Nat} (h : BkC A P i b w) : ∀ j, j < b → A.1 60 j = bS P.s w j ∧ A.1 61 j = bS P.m w j ∧ A.1 62 j = (w (j + 1) : Int) - w j := h.2.1
theorem BkC.un {A : rz_A} {P : Pt} {i : Nat} {b : Nat} {w : Nat → Nat} (h : BkC A P i b w) : ∀ j, i ≤ j → j < P.n → A.1 60 j = P.s j ∧ A.1 61 j = P.m j := h.2.2
theorem joinC_in (hP : PtOK P c) (hc : c ≤ 60) {k4 : Int → Int → rz_A → Option (Int × rz_A)} {r : Int} {Q : rz_A → Prop} {i : Nat} (hi : i < P.n) : ∀ (n fu b : Nat) (w : Nat → Nat) (A : rz_A), b ≤ fu → b ≤ n → BkI P (i + 1) b w 2 → BkC A P (i + 1) b w → (∀ A1, BkC A1 P (i + 1) (mrgW P.s P.m fu b w).1 (mrgW P.s P.m fu b w).2 → Ret (k4 (mrgW P.s P.m fu b w).1 ((i : Int) + 1) A1) r Q) → Ret (x74_joinBlocks_49 F k4 (n + 1) b i A) r Q := by
  have hle := hP.le
  intro n
  induction n with
  | zero =>
    intro fu b w A h1 h2 hI hA hk
    have e : b = 0 := by omega
    subst e
    have em : mrgW P.s P.m fu 0 w = (0, w) := by
      cases fu with
      | zero => rfl
      | succ fu => unfold mrgW; rw [if_neg (fun hh => by omega)]
    rw [em] at hk
    unfold x74_joinBlocks_49
    rw [if_neg (by omega), g32p (by omega)]
    exact hk A hA
  | succ n ih =>
    intro fu b w A h1 h2 hI hA hk
    have hbi := hI.le
    unfold x74_joinBlocks_49
    by_cases hb : 1 < b
    · cases fu with
      | zero => omega
      | succ fu =>
        have e1 : ((b : Int) - 1).toNat = b - 1 := by omega
        have e2 : ((b : Int) - 2).toNat = b - 2 := by omega
        obtain ⟨a1, a2, a3⟩ := hA.bl (b - 1) (by omega)
        obtain ⟨a4, a5, a6⟩ := hA.bl (b - 2) (by omega)
        have b1 := bS_b hP hI (by omega) (j := b - 1) (by omega)
        have b2 := bS_b hP hI (by omega) (j := b - 2) (by omega)
        have b3 : r64 (bS P.s w (b - 1) * bS P.m w (b - 2)) := mul_b (by omega) (by omega)
        have b4 : r64 (bS P.s w (b - 2) * bS P.m w (b - 1)) := mul_b (by omega) (by omega)
        unfold mrgW at hk
        rw [if_pos (by omega), g32p (by omega), g32p (by omega)]
        unfold x75_isAbove
        rw [gxp (by omega) (by omega), gxp (by omega) (by omega), e1, e2, a1, a2, a4, a5, g64p b3, g64p b4]
        by_cases c1 : bS P.s w (b - 2) * bS P.m w (b - 1) < bS P.s w (b - 1) * bS P.m w (b - 2)
        · rw [if_pos c1]
          simp only [rz_b_some]
          rw [if_neg (by decide), g32p (by omega)]
          rw [if_neg (fun hh => by have := hh.2; omega)] at hk
          exact hk A hA
        · rw [if_neg c1]
          simp only [rz_b_some]
          rw [if_pos (by decide), gxp (by omega) (by omega), gxp (by omega) (by omega), a1, a2, a3, a4, a5, a6]
          rw [if_pos ⟨hb, by omega⟩] at hk
          have w1 := hI.lew (y := b) (b - 1 + 1) (by omega) (by omega)
          have w2 := hI.wb
          have w3 := hI.lew (y := b) (b - 1) (by omega) (by omega)
          have w4 := hI.lew (y := b) (b - 2) (by omega) (by omega)
          have w5 := hI.lew (y := b) (b - 2 + 1) (by omega) (by omega)
          rw [g32p (by omega), g32p (by omega), g32p (by omega), g32p (by omega), show (b : Int) + (-1) = ((b - 1 : Nat) : Int) by omega]
          refine ih fu (b - 1) _ _ (by omega) (by omega) (hI.mrg1 hb) ?_ hk
          refine BkC.of ⟨hA.n, fun j hj => ?_, fun j h3 h4 => ?_⟩
          · show (if j = b - 2 then _ else A.1 60 j) = _ ∧ (if j = b - 2 then _ else A.1 61 j) = _ ∧ (if j = b - 2 then _ else A.1 62 j) = _
            by_cases e : j = b - 2
            · subst e
              rw [if_pos rfl, if_pos rfl, if_pos rfl, bS_mrg hb, bS_mrg hb]
              refine ⟨rfl, rfl, ?_⟩
              unfold upN
              rw [if_pos (by omega), if_neg (by omega), show b - 2 + 1 = b - 1 by omega, show b - 1 + 1 = b by omega]
              omega
            · rw [if_neg e, if_neg e, if_neg e, bS_upN (by omega), bS_upN (by omega)]
              have := hA.bl j (by omega)
              refine ⟨this.1, this.2.1, ?_⟩
              unfold upN
              rw [if_neg (by omega), if_neg (by omega)]
              exact this.2.2
          · have := hA.un j h3 h4
            show (if j = b - 2 then _ else A.1 60 j) = _ ∧ (if j = b - 2 then _ else A.1 61 j) = _
            rw [if_neg (by omega), if_neg (by omega)]
            exact this
    · have em : mrgW P.s P.m fu b w = (b, w) := by
        cases fu with
        | zero => rfl
        | succ fu => unfold mrgW; rw [if_neg (fun hh => hb hh.1)]
      rw [em] at hk
      rw [if_neg (by omega), g32p (by omega)]
      exact hk A hA
theorem joinC_loop (hP : PtOK P c) (hc : c ≤ 60) (hF : 1000 ≤ F) : ∀ (n i : Nat) (A : rz_A), i ≤ P.n → P.n < n + i → BkC A P i (blk P i).1 (blk P i).2 → Ret (x74_joinBlocks_4 F n (blk P i).1 i A) ((blk P P.n).1 : Int) (fun A1 => BkC A1 P P.n (blk P P.n).1 (blk P P.n).2) := by
  have hle := hP.le
  intro n
  induction n with
  | zero => intro i A h1 h2; omega
  | succ n ih =>
    intro i A h1 h2 hA
    have hI := blk_ok P i
    have hbl := hI.le
    unfold x74_joinBlocks_4
    rw [hA.n]
    by_cases hi : i < P.n
    · obtain ⟨a1, a2⟩ := hA.un i (Nat.le_refl _) hi
      rw [if_pos (by omega), gxp (by omega) (by omega), gxp (by omega) (by omega), g32p (by omega), Int.toNat_natCast, Int.toNat_natCast, a1, a2]
      rw [show ((blk P i).1 : Int) + 1 = (((blk P i).1 + 1 : Nat) : Int) by omega]
      obtain ⟨f, rfl⟩ : ∃ f, F = f + 1 := ⟨F - 1, by omega⟩
      refine joinC_in hP hc hi f ((blk P i).1 + 1) ((blk P i).1 + 1) (upN (blk P i).2 ((blk P i).1 + 1) (i + 1)) _ (Nat.le_refl _) (by omega) hI.push ?_ (fun A1 hA1 => ?_)
      · refine BkC.of ⟨hA.n, fun j hj => ?_, fun j h3 h4 => ?_⟩
        · show (if j = (blk P i).1 then _ else A.1 60 j) = _ ∧ (if j = (blk P i).1 then _ else A.1 61 j) = _ ∧ (if j = (blk P i).1 then _ else A.1 62 j) = _
          by_cases e : j = (blk P i).1
          · subst e
            rw [if_pos rfl, if_pos rfl, if_pos rfl, bS_push hI.wb, bS_push hI.wb]
            refine ⟨rfl, rfl, ?_⟩
            unfold upN
            rw [if_pos rfl, if_neg (by omega), hI.wb]
            omega
          · rw [if_neg e, if_neg e, if_neg e, bS_upN (by omega), bS_upN (by omega)]
            have := hA.bl j (by omega)
            refine ⟨this.1, this.2.1, ?_⟩
            unfold upN
            rw [if_neg (by omega), if_neg (by omega)]
            exact this.2.2
        · have := hA.un j (by omega) h4
          show (if j = (blk P i).1 then _ else A.1 60 j) = _ ∧ (if j = (blk P i).1 then _ else A.1 61 j) = _
          rw [if_neg (by omega), if_neg (by omega)]
          exact this
      · rw [show (i : Int) + 1 = ((i + 1 : Nat) : Int) by omega]
        exact ih (i + 1) A1 (by omega) (by omega) hA1
    · have e : i = P.n := by omega
      subst e
      rw [if_neg (by omega)]
      exact Ret.mk hA
theorem joinC (hP : PtOK P c) (hc : c ≤ 60) (hF : 1000 ≤ F) (hA : PtC A P) : Ret (x74_joinBlocks F A) ((blk P P.n).1 : Int) (fun A1 => BkC A1 P P.n (blk P P.n).1 (blk P P.n).2) := by
  have hle := hP.le
  unfold x74_joinBlocks
  exact joinC_loop hP hc hF F 0 A (by omega) (by omega) (BkC.of ⟨hA.1, fun j hj => absurd hj (Nat.not_lt_zero j), fun j _ hj => (hA.2 j hj).2⟩)
/-! the class: flows -/
theorem flowsC_in (hP : PtOK P c) (hc : c ≤ 60) {k4 : Int → Int → Int → rz_A → Option (Unit × rz_A)} {Q : rz_A → Prop} {v1 : Int} {j : Nat} (hj : j < (blk P P.n).1) : ∀ (n x : Nat) (A : rz_A), (blk P P.n).2 j + x ≤ (blk P P.n).2 (j + 1) → (blk P P.n).2 (j + 1) < (blk P P.n).2 j + x + n → BkC A P P.n (blk P P.n).1 (blk P P.n).2 → (∀ i, i < (blk P P.n).2 j + x → A.1 59 i = flw P i) → (∀ A1, BkC A1 P P.n (blk P P.n).1 (blk P P.n).2 → (∀ i, i < (blk P P.n).2 (j + 1) → A1.1 59 i = flw P i) → Ret (k4 v1 ((blk P P.n).2 (j + 1) : Nat) ((j : Int) + 1) A1) () Q) → Ret (x76_setFlows_33 F k4 n v1 ((blk P P.n).2 j + x : Nat) j (bMean P j) x A) () Q := by
  have hle := hP.le
  have hI := blk_ok P P.n
  have hb := hI.le
  have hw := hI.lew (y := (blk P P.n).1) (j + 1) (by omega) (Nat.le_refl _)
  have hwb := hI.wb
  intro n
  induction n with
  | zero => intro x A h1 h2; omega
  | succ n ih =>
    intro x A h1 h2 hA h3 hk
    obtain ⟨_, _, a3⟩ := hA.bl j hj
    unfold x76_setFlows_33
    rw [gxp (by omega) (by omega), Int.toNat_natCast, a3]
    by_cases hx : (blk P P.n).2 j + x < (blk P P.n).2 (j + 1)
    · rw [if_pos (by omega), gxp (by omega) (by omega), g32p (by omega), g32p (by omega), Int.toNat_natCast, show (((blk P P.n).2 j + x : Nat) : Int) + 1 = (((blk P P.n).2 j + (x + 1) : Nat) : Int) by omega, show (x : Int) + 1 = ((x + 1 : Nat) : Int) by omega]
      refine ih (x + 1) _ (by omega) (by omega) (BkC.of ⟨hA.n, hA.bl, hA.un⟩) (fun i hi => ?_) hk
      show (if i = (blk P P.n).2 j + x then _ else A.1 59 i) = _
      by_cases e : i = (blk P P.n).2 j + x
      · rw [if_pos e, e, flw_in hj (by omega) hx]
      · rw [if_neg e]
        exact h3 i (by omega)
    · have e : (blk P P.n).2 j + x = (blk P P.n).2 (j + 1) := by omega
      rw [if_neg (by omega), g32p (by omega), e]
      exact hk A hA (fun i hi => h3 i (by omega))
theorem flowsC_loop (hP : PtOK P c) (hc : c ≤ 60) (hF : 1000 ≤ F) : ∀ (n j : Nat) (A : rz_A), j ≤ (blk P P.n).1 → (blk P P.n).1 < n + j → BkC A P P.n (blk P P.n).1 (blk P P.n).2 → (∀ i, i < (blk P P.n).2 j → A.1 59 i = flw P i) → Ret (x76_setFlows_4 F n (blk P P.n).1 ((blk P P.n).2 j : Nat) j A) () (fun A1 => ∀ i, i < P.n → A1.1 59 i = flw P i) := by
  have hle := hP.le
  have hI := blk_ok P P.n
  have hb := hI.le
  have hwb := hI.wb
  intro n
  induction n with
  | zero => intro j A h1 h2; omega
  | succ n ih =>
    intro j A h1 h2 hA h3
    unfold x76_setFlows_4
    by_cases hj : j < (blk P P.n).1
    · obtain ⟨a1, a2, _⟩ := hA.bl j hj
      have b1 := bS_b hP hI (Nat.le_refl _) hj
      have b2 := bMean_b hP hj
      have hw := hI.lew (y := (blk P P.n).1) (j + 1) (by omega) (Nat.le_refl _)
      have hw2 := hI.inc j hj
      have e2 : (bS P.s (blk P P.n).2 j).tdiv (bS P.m (blk P P.n).2 j) = bMean P j := rfl
      rw [if_pos (by omega), gxp (by omega) (by omega), Int.toNat_natCast, a1, a2]
      unfold x77_share
      rw [if_neg (by omega), Int.mul_one, e2, g64p (by omega), gnp (by omega), g64p (by omega)]
      simp only [rz_b_some]
      rw [g32p (by omega)]
      have := flowsC_in (F := F) (v1 := ((blk P P.n).1 : Int)) (k4 := x76_setFlows_4 F n) (Q := fun A1 => ∀ i, i < P.n → A1.1 59 i = flw P i) hP hc hj F 0 A (by omega) (by omega) hA (fun i hi => h3 i (by omega)) (fun A1 hA1 h4 => by
        rw [show (j : Int) + 1 = ((j + 1 : Nat) : Int) by omega]
        exact ih (j + 1) A1 (by omega) (by omega) hA1 h4)
      exact this
    · have e : j = (blk P P.n).1 := by omega
      subst e
      rw [if_neg (by omega)]
      rw [hwb] at h3
      exact Ret.mk h3
theorem flowsC (hP : PtOK P c) (hc : c ≤ 60) (hF : 1000 ≤ F) (hA : BkC A P P.n (blk P P.n).1 (blk P P.n).2) : Ret (x76_setFlows F (blk P P.n).1 A) () (fun A1 => ∀ i, i < P.n → A1.1 59 i = flw P i) := by
  have hle := hP.le
  have hI := blk_ok P P.n
  have hb := hI.le
  unfold x76_setFlows
  have := flowsC_loop hP hc hF F 0 A (by omega) (by omega) hA (fun i hi => by rw [hI.w0] at hi; omega)
  rw [hI.w0] at this
  exact this
/-! the reference: blocks -/
abbrev csB : List Nat := [138, 140, 141, 143]
def BkM (A : rz_A) (P : Pt) (b : Nat) (w : Nat → Nat) : Prop := (PtM A P) ∧ (∀ j, j < b → A.2 143 j = bS P.s w j ∧ A.1 141 j = bS P.m w j ∧ A.1 140 j = (w j : Int))
theorem BkM.of {A : rz_A} {P : Pt} {b : Nat} {w : Nat → Nat} (h : (PtM A P) ∧ (∀ j, j < b → A.2 143 j = bS P.s w j ∧ A.1 141 j = bS P.m w j ∧ A.1 140 j = (w j : Int))) : BkM A P b w := h
theorem BkM.pt {A : rz_A} {P : Pt} {b : Nat} {w : Nat → Nat} (h : BkM A P b w) : PtM A P := h.1
theorem BkM.bl {A : rz_A} {P : Pt} {b : Nat} {w : Nat → Nat} (h : BkM A P b w) : ∀ j, j < b → A.2 143 j = bS P.s w j ∧ A.1 141 j = bS P.m w j ∧ A.1 140 j = (w j : Int) := h.2
theorem joinM_in (hP : PtOK P c) (hc : c ≤ 60) {k4 : Int → Int → rz_A → Option (Unit × rz_A)} {Q : rz_A → Prop} {i : Nat} (hi : i < P.n) : ∀ (n fu b : Nat) (w : Nat → Nat) (A : rz_A), Fr csB [] A0 A → b ≤ fu → b ≤ n → BkI P (i + 1) b w 2 → BkM A P b w → (∀ A1, Fr csB [] A0 A1 → BkM A1 P (mrgW P.s P.m fu b w).1 (mrgW P.s P.m fu b w).2 → Ret (k4 (mrgW P.s P.m fu b w).1 ((i : Int) + 1) A1) () Q) → Ret (x182_makes_417 F k4 (n + 1) b i A) () Q := by
  have hle := hP.le
  intro n
  induction n with
  | zero =>
    intro fu b w A hfr h1 h2 hI hA hk
    have e : b = 0 := by omega
    subst e
    have em : mrgW P.s P.m fu 0 w = (0, w) := by
      cases fu with
      | zero => rfl
      | succ fu => unfold mrgW; rw [if_neg (fun hh => by omega)]
    rw [em] at hk
    unfold x182_makes_417
    rw [if_neg (by omega), g32p (by omega)]
    exact hk A hfr hA
  | succ n ih =>
    intro fu b w A hfr h1 h2 hI hA hk
    have hbi := hI.le
    unfold x182_makes_417
    by_cases hb : 1 < b
    · cases fu with
      | zero => omega
      | succ fu =>
        have e1 : ((b : Int) - 1).toNat = b - 1 := by omega
        have e2 : ((b : Int) - 2).toNat = b - 2 := by omega
        obtain ⟨a1, a2, a3⟩ := hA.bl (b - 1) (by omega)
        obtain ⟨a4, a5, a6⟩ := hA.bl (b - 2) (by omega)
        have b1 := bS_b hP hI (by omega) (j := b - 1) (by omega)
        have b2 := bS_b hP hI (by omega) (j := b - 2) (by omega)
        have b3 : r64 (bS P.s w (b - 1) * bS P.m w (b - 2)) := mul_b (by omega) (by omega)
        have b4 : r64 (bS P.s w (b - 2) * bS P.m w (b - 1)) := mul_b (by omega) (by omega)
        unfold mrgW at hk
        rw [if_pos (by omega), g32p (by omega), gxp (by omega) (by omega), g32p (by omega), gxp (by omega) (by omega), e1, e2, a1, a2, a4, a5, g64p b3, g64p b4]
        by_cases c1 : bS P.s w (b - 1) * bS P.m w (b - 2) ≤ bS P.s w (b - 2) * bS P.m w (b - 1)
        · rw [if_pos c1, g64p (by omega), g32p (by omega), g32p (by omega), show (b : Int) + (-1) = ((b - 1 : Nat) : Int) by omega]
          rw [if_pos ⟨hb, c1⟩] at hk
          refine ih fu (b - 1) _ _ (Fr.aI (Fr.aL hfr (Or.inl (by decide))) (Or.inl (by decide))) (by omega) (by omega) (hI.mrg1 hb) ?_ hk
          refine BkM.of ⟨hA.pt, fun j hj => ?_⟩
          show (if j = b - 2 then _ else A.2 143 j) = _ ∧ (if j = b - 2 then _ else A.1 141 j) = _ ∧ A.1 140 j = _
          have h140 := (hA.bl j (by omega)).2.2
          have hup : upN w (b - 1) (w b) j = w j := if_neg (by omega)
          rw [hup]
          by_cases e : j = b - 2
          · subst e
            rw [if_pos rfl, if_pos rfl, bS_mrg hb, bS_mrg hb]
            exact ⟨rfl, rfl, h140⟩
          · rw [if_neg e, if_neg e, bS_upN (by omega), bS_upN (by omega)]
            exact hA.bl j (by omega)
        · rw [if_neg c1, g32p (by omega)]
          rw [if_neg (fun hh => c1 hh.2)] at hk
          exact hk A hfr hA
    · have em : mrgW P.s P.m fu b w = (b, w) := by
        cases fu with
        | zero => rfl
        | succ fu => unfold mrgW; rw [if_neg (fun hh => hb hh.1)]
      rw [em] at hk
      rw [if_neg (by omega), g32p (by omega)]
      exact hk A hfr hA
/-! the reference: flows -/
theorem flowsM_in (hP : PtOK P c) (hc : c ≤ 60) {k4 : Int → Int → rz_A → Option (Unit × rz_A)} {Q : rz_A → Prop} {j : Nat} (hj : j < (blk P P.n).1) : ∀ (n i : Nat) (A : rz_A), Fr csB [] A0 A → (blk P P.n).2 j ≤ i → i ≤ (blk P P.n).2 (j + 1) → (blk P P.n).2 (j + 1) < i + n → BkM A P (blk P P.n).1 (blk P P.n).2 → (∀ x, x < i → A.1 138 x = flw P x) → (∀ A1, Fr csB [] A0 A1 → BkM A1 P (blk P P.n).1 (blk P P.n).2 → (∀ x, x < (blk P P.n).2 (j + 1) → A1.1 138 x = flw P x) → Ret (k4 (blk P P.n).1 ((j : Int) + 1) A1) () Q) → Ret (x182_makes_540 F k4 n (blk P P.n).1 j i A) () Q := by
  have hle := hP.le
  have hI := blk_ok P P.n
  have hb := hI.le
  have hw := hI.lew (y := (blk P P.n).1) (j + 1) (by omega) (Nat.le_refl _)
  have hwb := hI.wb
  have b1 := bS_b hP hI (Nat.le_refl _) hj
  have b2 := bMean_b hP hj
  intro n
  induction n with
  | zero => intro i A hfr h0 h1 h2; omega
  | succ n ih =>
    intro i A hfr h0 h1 h2 hA h3 hk
    obtain ⟨a1, a2, a3⟩ := hA.bl j hj
    have e2 : (bS P.s (blk P P.n).2 j).tdiv (bS P.m (blk P P.n).2 j) = bMean P j := rfl
    have e3 : ((j : Int) + 1).toNat = j + 1 := by omega
    have step : i < (blk P P.n).2 (j + 1) → Ret (x182_makes_540 F k4 n (blk P P.n).1 j ((i : Int) + 1) (aI A 138 i (bMean P j))) () Q := by
      intro hx
      rw [show (i : Int) + 1 = ((i + 1 : Nat) : Int) by omega]
      refine ih (i + 1) _ (Fr.aI hfr (Or.inl (by decide))) (by omega) (by omega) (by omega) (BkM.of ⟨hA.pt, hA.bl⟩) (fun x hxx => ?_) hk
      show (if x = i then _ else A.1 138 x) = _
      by_cases e : x = i
      · rw [if_pos e, e, flw_in hj h0 hx]
      · rw [if_neg e]
        exact h3 x (by omega)
    have stop : i = (blk P P.n).2 (j + 1) → Ret (k4 (blk P P.n).1 ((j : Int) + 1) A) () Q := fun e => hk A hfr hA (fun x hx => h3 x (by omega))
    unfold x182_makes_540
    rw [g32p (by omega)]
    by_cases hl : j + 1 < (blk P P.n).1
    · rw [if_pos (by omega), gxp (by omega) (by omega), e3, (hA.bl (j + 1) hl).2.2]
      by_cases hx : i < (blk P P.n).2 (j + 1)
      · rw [if_pos (by omega), gxp (by omega) (by omega), Int.toNat_natCast, a1, a2, e2, gnp (by omega), g64p (by omega), g32p (by omega), gxp (by omega) (by omega), g32p (by omega), Int.toNat_natCast]
        exact step hx
      · rw [if_neg (by omega)]
        exact stop (by omega)
    · have ej : j + 1 = (blk P P.n).1 := by omega
      have ew : (blk P P.n).2 (j + 1) = P.n := by rw [ej]; exact hwb
      rw [if_neg (by omega), hA.pt.1]
      by_cases hx : i < (blk P P.n).2 (j + 1)
      · rw [if_pos (by omega), gxp (by omega) (by omega), Int.toNat_natCast, a1, a2, e2, gnp (by omega), g64p (by omega), g32p (by omega), gxp (by omega) (by omega), g32p (by omega), Int.toNat_natCast]
        exact step hx
      · rw [if_neg (by omega)]
        exact stop (by omega)
/-- the reference's rows hold the CURVE -/
def CvM (A : rz_A) (P : Pt) : Prop := A.1 91 67 = P.n ∧ (∀ i, i < P.n → A.1 137 i = P.h i) ∧ ∀ i, i < P.n → A.1 138 i = flw P i
def CvC (A : rz_A) (P : Pt) : Prop := A.1 57 0 = P.n ∧ (∀ i, i < P.n → A.1 58 i = P.h i) ∧ ∀ i, i < P.n → A.1 59 i = flw P i
theorem flowsM_loop (hP : PtOK P c) (hc : c ≤ 60) (hF : 1000 ≤ F) : ∀ (n j : Nat) (A : rz_A), Fr csB [] A0 A → j ≤ (blk P P.n).1 → (blk P P.n).1 < n + j → BkM A P (blk P P.n).1 (blk P P.n).2 → (∀ i, i < (blk P P.n).2 j → A.1 138 i = flw P i) → Ret (x182_makes_524 F n (blk P P.n).1 j A) () (fun A1 => Fr csB [] A0 A1 ∧ CvM A1 P) := by
  have hle := hP.le
  have hI := blk_ok P P.n
  have hb := hI.le
  have hwb := hI.wb
  intro n
  induction n with
  | zero => intro j A hfr h1 h2; omega
  | succ n ih =>
    intro j A hfr h1 h2 hA h3
    unfold x182_makes_524
    by_cases hj : j < (blk P P.n).1
    · have hw := hI.lew (y := (blk P P.n).1) (j + 1) (by omega) (Nat.le_refl _)
      have hw2 := hI.inc j hj
      rw [if_pos (by omega), gxp (by omega) (by omega), Int.toNat_natCast, (hA.bl j hj).2.2]
      exact flowsM_in (F := F) (A0 := A0) hP hc hj F _ A hfr (Nat.le_refl _) (by omega) (by omega) hA h3 (fun A1 hfr1 hA1 h4 => by
        rw [show (j : Int) + 1 = ((j + 1 : Nat) : Int) by omega]
        exact ih (j + 1) A1 hfr1 (by omega) (by omega) hA1 h4)
    · have e : j = (blk P P.n).1 := by omega
      subst e
      rw [if_neg (by omega)]
      rw [hwb] at h3
      exact Ret.mk ⟨hfr, hA.pt.1, fun i hi => (hA.pt.2 i hi).1, h3⟩
theorem joinM_loop (hP : PtOK P c) (hc : c ≤ 60) (hF : 1000 ≤ F) : ∀ (n i : Nat) (A : rz_A), Fr csB [] A0 A → i ≤ P.n → P.n < n + i → BkM A P (blk P i).1 (blk P i).2 → Ret (x182_makes_368 F n (blk P i).1 i A) () (fun A1 => Fr csB [] A0 A1 ∧ CvM A1 P) := by
  have hle := hP.le
  intro n
  induction n with
  | zero => intro i A hfr h1 h2; omega
  | succ n ih =>
    intro i A hfr h1 h2 hA
    have hI := blk_ok P i
    have hbl := hI.le
    unfold x182_makes_368
    rw [hA.pt.1]
    by_cases hi : i < P.n
    · obtain ⟨_, a1, a2⟩ := hA.pt.2 i hi
      rw [if_pos (by omega), gxp (by omega) (by omega), gxp (by omega) (by omega), g32p (by omega), Int.toNat_natCast, Int.toNat_natCast, a1, a2]
      rw [show ((blk P i).1 : Int) + 1 = (((blk P i).1 + 1 : Nat) : Int) by omega]
      obtain ⟨f, rfl⟩ : ∃ f, F = f + 1 := ⟨F - 1, by omega⟩
      refine joinM_in (A0 := A0) hP hc hi f ((blk P i).1 + 1) ((blk P i).1 + 1) (upN (blk P i).2 ((blk P i).1 + 1) (i + 1)) _ (Fr.aI (Fr.aI (Fr.aL hfr (Or.inl (by decide))) (Or.inl (by decide))) (Or.inl (by decide))) (Nat.le_refl _) (by omega) hI.push ?_ (fun A1 hfr1 hA1 => ?_)
      · refine BkM.of ⟨hA.pt, fun j hj => ?_⟩
        show (if j = (blk P i).1 then _ else A.2 143 j) = _ ∧ (if j = (blk P i).1 then _ else A.1 141 j) = _ ∧ (if j = (blk P i).1 then _ else A.1 140 j) = _
        have hup : upN (blk P i).2 ((blk P i).1 + 1) (i + 1) j = (blk P i).2 j := if_neg (by omega)
        rw [hup]
        by_cases e : j = (blk P i).1
        · subst e
          rw [if_pos rfl, if_pos rfl, if_pos rfl, bS_push hI.wb, bS_push hI.wb, hI.wb]
          exact ⟨rfl, rfl, rfl⟩
        · rw [if_neg e, if_neg e, if_neg e, bS_upN (by omega), bS_upN (by omega)]
          exact hA.bl j (by omega)
      · rw [show (i : Int) + 1 = ((i + 1 : Nat) : Int) by omega]
        exact ih (i + 1) A1 hfr1 (by omega) (by omega) hA1
    · have e : i = P.n := by omega
      subst e
      rw [if_neg (by omega)]
      exact flowsM_loop (A0 := A0) hP hc hF F 0 A hfr (by omega) (by omega) hA (fun i hi => by rw [hI.w0] at hi; omega)
end BLK
