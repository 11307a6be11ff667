set_option maxRecDepth 8000
section HEIG
variable {t t' F : Nat} {A A0 A' A1 B : rz_A} {S S' T : St} {p u k a b c v w s r : Int} {cs : List Nat} {fs : List (Nat × Nat)} {q m i j n N : Nat}
theorem ins_ok {f R K : Nat → Int} (hj : j ≤ N) (hr : ∀ i, i < N → 0 ≤ f i ∧ f i < (N : Int)) (hs : ∀ i j, i < j → j < N → K (f i).toNat < K (f j).toNat ∨ (K (f i).toNat = K (f j).toNat ∧ f i < f j)) (ha : ∀ h, h < N → ∃ i, i < N ∧ f i = ((h : Nat) : Int)) (R1 : ∀ b, b < j → R b = f b) (R2 : R j = (N : Int)) (R3 : ∀ b, j < b → b ≤ N → R b = f (b - 1)) (lo : 0 < j → K (f (j - 1)).toNat ≤ K N) (hi : ∀ b, j ≤ b → b < N → K N < K (f b).toNat) : (∀ i, i < N + 1 → 0 ≤ R i ∧ R i < ((N + 1 : Nat) : Int)) ∧ (∀ i k, i < k → k < N + 1 → K (R i).toNat < K (R k).toNat ∨ (K (R i).toNat = K (R k).toNat ∧ R i < R k)) ∧ (∀ h, h < N + 1 → ∃ i, i < N + 1 ∧ R i = ((h : Nat) : Int)) := by
  refine ⟨fun i h1 => ?_, fun i k h1 h2 => ?_, fun h h1 => ?_⟩
  · rcases Nat.lt_trichotomy i j with c | c | c
    · have := hr i (by omega)
      rw [R1 i c]
      omega
    · rw [c, R2]
      omega
    · have := hr (i - 1) (by omega)
      rw [R3 i c (by omega)]
      omega
  · rcases Nat.lt_trichotomy k j with c | c | c
    · rw [R1 i (by omega), R1 k c]
      exact hs i k h1 (by omega)
    · subst c
      have l1 := lo (by omega)
      have h3 := hr i (by omega)
      have l2 : K (f i).toNat ≤ K (f (k - 1)).toNat := by
        by_cases e : i = k - 1
        · rw [e]
          exact Int.le_refl _
        · have := hs i (k - 1) (by omega) (by omega)
          omega
      rw [R1 i h1, R2, Int.toNat_natCast]
      omega
    · rw [R3 k c (by omega)]
      rcases Nat.lt_trichotomy i j with d | d | d
      · rw [R1 i d]
        exact hs i (k - 1) (by omega) (by omega)
      · have := hi (k - 1) (by omega) (by omega)
        rw [d, R2, Int.toNat_natCast]
        exact Or.inl this
      · rw [R3 i d (by omega)]
        exact hs (i - 1) (k - 1) (by omega) (by omega)
  · by_cases c : h = N
    · exact ⟨j, by omega, by rw [R2, c]⟩
    · obtain ⟨i, h2, h3⟩ := ha h (by omega)
      by_cases d : i < j
      · exact ⟨i, by omega, by rw [R1 i d, h3]⟩
      · exact ⟨i + 1, by omega, by rw [R3 (i + 1) (by omega) (by omega), Nat.add_sub_cancel, h3]⟩
def r25 (B : rz_A) (g : Nat → Int) : rz_A := (fun a => if a = 25 then g else B.1 a, B.2)
theorem r25_aI {g : Nat → Int} : aI (r25 B g) 25 j v = r25 B (up g j v) := by
  refine Prod.ext (funext fun a => ?_) rfl
  show (if a = 25 then (fun b => if b = j then v else g b) else if a = 25 then g else B.1 a) = if a = 25 then up g j v else B.1 a
  by_cases e : a = 25
  · rw [if_pos e, if_pos e]
  · rw [if_neg e, if_neg e, if_neg e]
theorem r25_B : B = r25 B (B.1 25) := by
  refine Prod.ext (funext fun a => ?_) rfl
  show B.1 a = if a = 25 then B.1 25 else B.1 a
  by_cases e : a = 25
  · rw [if_pos e, e]
  · rw [if_neg e]
theorem come135 {g : Nat → Int} (h18 : B.1 18 0 = (N : Int)) (hN : N < 300) (hj : j ≤ N) : x13_come_135 F j (r25 B g) = some ((N : Int), aI (r25 B (up g j N)) 18 0 (((N + 1 : Nat) : Int))) := by
  have e : (r25 B g).1 18 0 = (N : Int) := h18
  unfold x13_come_135
  rw [e, gxp (by omega) (by omega), g32p (by omega), g32p (by omega), Int.toNat_natCast, r25_aI, show (N : Int) + 1 - 1 = N by omega, show (N : Int) + 1 = ((N + 1 : Nat) : Int) by omega]
theorem comeC_l {f : Nat → Int} {K : Nat → Int} (h18 : B.1 18 0 = (N : Int)) (hN : N < 300) (hK : ∀ h, h < N → B.1 19 h * 16384 + B.1 20 h = K h) (h19 : ∀ h, h < N → 0 ≤ B.1 19 h ∧ B.1 19 h < 6) (h20 : ∀ h, h < N → 0 ≤ B.1 20 h ∧ B.1 20 h ≤ 9999) (hp : 0 ≤ p ∧ p < 6) (hu : 0 ≤ u ∧ u ≤ 9999) (hKN : p * 16384 + u = K N) (hr : ∀ i, i < N → 0 ≤ f i ∧ f i < (N : Int)) : ∀ (n j : Nat) (g : Nat → Int), j ≤ N → j < n → (∀ b, b < j → g b = f b) → (∀ b, j < b → b ≤ N → g b = f (b - 1)) → (∀ b, j ≤ b → b < N → K N < K (f b).toNat) → ∃ (i : Nat) (R : Nat → Int), x13_come_69 F n p u j (r25 B g) = some ((N : Int), aI (r25 B R) 18 0 (((N + 1 : Nat) : Int))) ∧ i ≤ N ∧ (∀ b, b < i → R b = f b) ∧ R i = (N : Int) ∧ (∀ b, i < b → b ≤ N → R b = f (b - 1)) ∧ (0 < i → K (f (i - 1)).toNat ≤ K N) ∧ (∀ b, i ≤ b → b < N → K N < K (f b).toNat) := by
  intro n
  induction n with
  | zero => intro j g h1 h2; omega
  | succ n ih =>
    intro j g h1 h2 g1 g2 g3
    have last : (0 < j → K (f (j - 1)).toNat ≤ K N) → ∃ (i : Nat) (R : Nat → Int), x13_come_135 F j (r25 B g) = some ((N : Int), aI (r25 B R) 18 0 (((N + 1 : Nat) : Int))) ∧ i ≤ N ∧ (∀ b, b < i → R b = f b) ∧ R i = (N : Int) ∧ (∀ b, i < b → b ≤ N → R b = f (b - 1)) ∧ (0 < i → K (f (i - 1)).toNat ≤ K N) ∧ (∀ b, i ≤ b → b < N → K N < K (f b).toNat) := fun hh =>
      ⟨j, up g j N, come135 h18 hN h1, h1, fun b hb => by rw [up_ne (by omega)]; exact g1 b hb, up_same, fun b hb hc => by rw [up_ne (by omega)]; exact g2 b hb hc, hh, g3⟩
    unfold x13_come_69
    by_cases c1 : 0 < j
    · have e1 : ((j : Int) - 1).toNat = j - 1 := by omega
      have e2 : (r25 B g).1 25 (j - 1) = f (j - 1) := g1 (j - 1) (by omega)
      have h3 := hr (j - 1) (by omega)
      have e3 := hK (f (j - 1)).toNat (by omega)
      have e4 := h19 (f (j - 1)).toNat (by omega)
      have e5 := h20 (f (j - 1)).toNat (by omega)
      have e6 : (r25 B g).1 19 = B.1 19 := rfl
      have e7 : (r25 B g).1 20 = B.1 20 := rfl
      rw [if_pos (by omega), g32p (by omega), gxp (by omega) (by omega), e1, e2, gxp (by omega) (by omega), e6, e7, keyC (by omega) (by omega)]
      simp only [rz_b_some]
      rw [keyC (by omega) (by omega)]
      simp only [rz_b_some]
      rw [e3, hKN]
      by_cases c2 : K N < K (f (j - 1)).toNat
      · rw [if_pos c2, gxp (by omega) (by omega), g32p (by omega), Int.toNat_natCast, e2, r25_aI, show (j : Int) + (-1) = ((j - 1 : Nat) : Int) by omega]
        refine ih (j - 1) _ (by omega) (by omega) (fun b hb => by rw [up_ne (by omega)]; exact g1 b (by omega)) (fun b hb hc => ?_) (fun b hb hc => ?_)
        · by_cases d : b = j
          · rw [d, up_same]
          · rw [up_ne d]
            exact g2 b (by omega) hc
        · by_cases d : b = j - 1
          · rw [d]
            exact c2
          · exact g3 b (by omega) hc
      · rw [if_neg c2]
        exact last (fun _ => by omega)
    · rw [if_neg (by omega)]
      exact last (fun hh => absurd hh c1)
def St.height1 (S : St) (p u k r : Int) : St := ((fun c => if c = 4 then S.nH + 1 else S.1 c), (fun c => if c = 23 then (fun _ => (up S.hP S.nH p)) else if c = 24 then (fun _ => (up S.hT S.nH u)) else if c = 25 then (fun _ => (up S.hK S.nH k)) else if c = 26 then (fun _ => (up S.hR S.nH r)) else if c = 27 then (fun _ => (up S.hKn S.nH S.now)) else if c = 28 then (fun _ => (up S.hS S.nH (-1))) else S.2 c))
def St.height (S : St) (p u k r : Int) : Int × St := if S.isP p then (if 0 ≤ k ∧ k ≤ 1 then (if 0 ≤ u ∧ ¬ r < (if k = 1 then 0 else -1) then (if u ≤ S.now ∧ r ≤ 9999 ∧ S.nH < 300 then ((S.nH : Int), S.height1 p u k r) else S.no 5) else S.no 3) else S.no 1) else S.no 0
theorem comeC (h : DC A S t) (hO : OK t S) (hF : 1000 ≤ F) (hp : S.isP p) (hu : 0 ≤ u ∧ u ≤ S.now) (hn : S.nH < 300) : Ret (rz_b (x6_forget F A) fun _ A15 => rz_b (x13_come F p u k r (A15.1 0 16) A15) fun r16 A16 => some (r16, A16)) (S.nH : Int) (fun A1 => DC A1 (S.height1 p u k r) (t + 1)) := by
  have hnP := hO.nP
  have hnow := hO.now
  unfold x6_forget
  simp only [rz_b_some]
  unfold x13_come
  rw [show (aI A 51 5 0).1 0 16 = S.now from h.1.now, show (aI A 51 5 0).1 18 0 = (S.nH : Int) from h.1.nH, gxp (by omega) (by omega), Int.toNat_natCast]
  have hC9 := h.1
  have k1 : (fun b => if b = S.nH then p else A.1 19 b) = up S.hP S.nH p := by rw [h.1.hP]
  have k2 : (fun b => if b = S.nH then u else A.1 20 b) = up S.hT S.nH u := by rw [h.1.hT]
  have k3 : (fun b => if b = S.nH then k else A.1 21 b) = up S.hK S.nH k := by rw [h.1.hK]
  have k4 : (fun b => if b = S.nH then r else A.1 22 b) = up S.hR S.nH r := by rw [h.1.hR]
  have k5 : (fun b => if b = S.nH then S.now else A.1 23 b) = up S.hKn S.nH S.now := by rw [h.1.hKn]
  have k6 : ∀ i, i < S.nH + 1 → (if i = S.nH then 2147483647 else A.1 24 i) = if up S.hS S.nH (-1) i < 0 then 2147483647 else up S.hS S.nH (-1) i := fun i hi => by
    have h4 := hC9.hS i
    unfold up
    by_cases e : i = S.nH
    · rw [if_pos e, if_pos e, if_pos (by decide)]
    · rw [if_neg e, if_neg e]
      exact h4 (by omega)
  have k7 : ((cntN (fun i => decide (0 ≤ S.hS i)) S.nH : Nat) : Int) = (cntN (fun i => decide (0 ≤ up S.hS S.nH (-1) i)) (S.nH + 1) : Nat) := by
    have e1 : cntN (fun i => decide (0 ≤ up S.hS S.nH (-1) i)) (S.nH + 1) = cntN (fun i => decide (0 ≤ up S.hS S.nH (-1) i)) S.nH + if decide (0 ≤ up S.hS S.nH (-1) S.nH) then 1 else 0 := rfl
    rw [e1, up_same, if_neg (by decide), cntN_congr (P := fun i => decide (0 ≤ up S.hS S.nH (-1) i)) (Q := fun i => decide (0 ≤ S.hS i)) (fun i hi => by
      show decide (0 ≤ up S.hS S.nH (-1) i) = decide (0 ≤ S.hS i)
      rw [up_ne (by omega)])]
    rfl
  have k7' := hC9.hSm.trans k7
  have hKK : ∀ h, h < S.nH → (up S.hP S.nH p h * 16384 + up S.hT S.nH u h) = S.hP h * 16384 + S.hT h := fun h hh => by
    rw [up_ne (by omega), up_ne (by omega)]
  have l0 := comeC_l (F := F) (p := p) (u := u) (N := S.nH) (f := A.1 25) (K := fun h => up S.hP S.nH p h * 16384 + up S.hT S.nH u h) (B := aI (aI (aI (aI (aI (aI (aI A 51 5 0) 19 S.nH p) 20 S.nH u) 21 S.nH k) 22 S.nH r) 23 S.nH S.now) 24 S.nH 2147483647) h.1.nH hn
    (fun h' hh => by
      show (fun b => if b = S.nH then p else A.1 19 b) h' * 16384 + (fun b => if b = S.nH then u else A.1 20 b) h' = _
      rw [k1, k2])
    (fun h' hh => by
      have h2 := hO.h h' hh
      show 0 ≤ (fun b => if b = S.nH then p else A.1 19 b) h' ∧ (fun b => if b = S.nH then p else A.1 19 b) h' < 6
      rw [k1, up_ne (by omega)]
      omega)
    (fun h' hh => by
      have h2 := hO.h h' hh
      show 0 ≤ (fun b => if b = S.nH then u else A.1 20 b) h' ∧ (fun b => if b = S.nH then u else A.1 20 b) h' ≤ 9999
      rw [k2, up_ne (by omega)]
      omega)
    (by omega) (by omega)
    (by
      show _ = up S.hP S.nH p S.nH * 16384 + up S.hT S.nH u S.nH
      rw [up_same, up_same])
    hC9.ordR F S.nH (A.1 25) (by omega) (by omega) (fun b hb => rfl) (fun b hb hc => by omega) (fun b hb hc => by omega)
  have l1 := Eq.trans (congrArg (x13_come_69 F F p u (S.nH : Int)) (r25_B (B := aI (aI (aI (aI (aI (aI (aI A 51 5 0) 19 S.nH p) 20 S.nH u) 21 S.nH k) 22 S.nH r) 23 S.nH S.now) 24 S.nH 2147483647))) rfl
  rw [l1]
  obtain ⟨j, R, e, h1, R1, R2, R3, lo, hi⟩ := l0
  have e' : x13_come_69 F F p u (S.nH : Int) (r25 (aI (aI (aI (aI (aI (aI (aI A 51 5 0) 19 S.nH p) 20 S.nH u) 21 S.nH k) 22 S.nH r) 23 S.nH S.now) 24 S.nH 2147483647) ((aI (aI (aI (aI (aI (aI (aI A 51 5 0) 19 S.nH p) 20 S.nH u) 21 S.nH k) 22 S.nH r) 23 S.nH S.now) 24 S.nH 2147483647).1 25)) = _ := e
  rw [e']
  simp only [rz_b_some]
  have hO1 := ins_ok (K := fun h => up S.hP S.nH p h * 16384 + up S.hT S.nH u h) h1 hC9.ordR (fun i j hij hj => by
    have h2 := hC9.ordS i j hij hj
    have h3 := hC9.ordR i (by omega)
    have h4 := hC9.ordR j hj
    show (up S.hP S.nH p (A.1 25 i).toNat * 16384 + up S.hT S.nH u (A.1 25 i).toNat) < (up S.hP S.nH p (A.1 25 j).toNat * 16384 + up S.hT S.nH u (A.1 25 j).toNat) ∨ ((up S.hP S.nH p (A.1 25 i).toNat * 16384 + up S.hT S.nH u (A.1 25 i).toNat) = (up S.hP S.nH p (A.1 25 j).toNat * 16384 + up S.hT S.nH u (A.1 25 j).toNat) ∧ A.1 25 i < A.1 25 j)
    rw [hKK _ (by omega), hKK _ (by omega)]
    exact h2) hC9.ordA R1 R2 R3 lo hi
  have o1 := hO1.1
  have o2 := hO1.2.1
  have o3 := hO1.2.2
  exact Ret.mk ⟨(RC.of ⟨(RC.now hC9 :), (RC.limit hC9 :), (RC.nP hC9 :), (RC.nZ hC9 :), (rfl), (RC.nF hC9 :), (RC.nU hC9 :), (RC.nS hC9 :), (RC.nB hC9 :), (RC.nT hC9 :), (RC.nR hC9 :), (RC.zero hC9 :), (RC.low hC9 :), (RC.beside hC9 :), (RC.stN hC9 :), (RC.stF0 hC9 :), (RC.stF1 hC9 :), (RC.stF2 hC9 :), (RC.stF3 hC9 :), (RC.stF4 hC9 :), (RC.stF5 hC9 :), (RC.bN0 hC9 :), (RC.bN1 hC9 :), (RC.bN2 hC9 :), (RC.bN3 hC9 :), (RC.bN4 hC9 :), (RC.bN5 hC9 :), (RC.bH0 hC9 :), (RC.bH1 hC9 :), (RC.bH2 hC9 :), (RC.bH3 hC9 :), (RC.bH4 hC9 :), (RC.bH5 hC9 :), (RC.bF0 hC9 :), (RC.bF1 hC9 :), (RC.bF2 hC9 :), (RC.bF3 hC9 :), (RC.bF4 hC9 :), (RC.bF5 hC9 :), (RC.zP hC9 :), (RC.zZ hC9 :), (RC.zF hC9 :), (RC.zK hC9 :), (k1), (k2), (k3), (k4), (k5), (k6), (k7'), (RC.fP hC9 :), (RC.fT hC9 :), (RC.fN hC9 :), (RC.fW hC9 :), (RC.fKn hC9 :), (RC.fS hC9 :), (RC.uP hC9 :), (RC.uK hC9 :), (RC.uF hC9 :), (RC.uT hC9 :), (RC.uM hC9 :), (RC.uKn hC9 :), (RC.sP hC9 :), (RC.sD hC9 :), (RC.sT hC9 :), (RC.sN hC9 :), (RC.st hC9 :), (RC.pP hC9 :), (RC.pT hC9 :), (RC.pF hC9 :), (RC.tB hC9 :), (RC.rB hC9 :), (RC.ref hC9 :), (o1), (o2), (o3)⟩), h.2.forget rfl rfl rfl⟩
theorem heightC (h : DC A S t) (hO : OK t S) (ht : t < 512) (hF : 1000 ≤ F) : Ret (x12_height F p u k r A) (S.height p u k r).1 (fun A1 => DC A1 (S.height p u k r).2 (t + 1)) := by
  have hnH := hO.nH
  unfold x12_height St.height
  by_cases hp : S.isP p
  · rw [hasC1 h.1 hp, if_pos hp]
    simp only [rz_b_some]
    rw [if_neg (by decide), h.1.now, h.1.nH]
    by_cases c1 : 0 ≤ k ∧ k ≤ 1
    · rw [if_pos c1.1, if_neg (by omega), if_pos c1]
      by_cases c2 : 0 ≤ u
      · rw [if_pos c2]
        have key : ∀ x : Int, Ret (if r < x then (rz_b (x1_refuse F (-4) A) fun r10 A10 => some (r10, A10)) else if u ≤ S.now then (if r ≤ 9999 then (if 300 ≤ (S.nH : Int) then (rz_b (x1_refuse F (-6) A) fun r14 A14 => some (r14, A14)) else (rz_b (x6_forget F A) fun _ A15 => rz_b (x13_come F p u k r (A15.1 0 16) A15) fun r16 A16 => some (r16, A16))) else (rz_b (x1_refuse F (-6) A) fun r14 A14 => some (r14, A14))) else (rz_b (x1_refuse F (-6) A) fun r14 A14 => some (r14, A14))) (if 0 ≤ u ∧ ¬ r < x then (if u ≤ S.now ∧ r ≤ 9999 ∧ S.nH < 300 then ((S.nH : Int), S.height1 p u k r) else S.no 5) else S.no 3).1 (fun A1 => DC A1 (if 0 ≤ u ∧ ¬ r < x then (if u ≤ S.now ∧ r ≤ 9999 ∧ S.nH < 300 then ((S.nH : Int), S.height1 p u k r) else S.no 5) else S.no 3).2 (t + 1)) := fun x => by
          by_cases c3 : r < x
          · rw [if_pos c3, if_neg (fun hh => hh.2 c3)]
            exact lk1 h.up hO ht (by decide) (by decide)
          · rw [if_neg c3, if_pos (show 0 ≤ u ∧ ¬ r < x from ⟨c2, c3⟩)]
            by_cases c4 : u ≤ S.now
            · rw [if_pos c4]
              by_cases c5 : r ≤ 9999
              · rw [if_pos c5]
                by_cases c6 : S.nH < 300
                · rw [if_neg (by omega), if_pos (show u ≤ S.now ∧ r ≤ 9999 ∧ S.nH < 300 from ⟨c4, c5, c6⟩)]
                  exact comeC h hO hF hp ⟨c2, c4⟩ c6
                · rw [if_pos (by omega), if_neg (by omega)]
                  exact lk1 h.up hO ht (by decide) (by decide)
              · rw [if_neg c5, if_neg (by omega)]
                exact lk1 h.up hO ht (by decide) (by decide)
            · rw [if_neg c4, if_neg (by omega)]
              exact lk1 h.up hO ht (by decide) (by decide)
        by_cases c7 : k = 1
        · rw [if_pos c7, if_pos c7]
          exact key 0
        · rw [if_neg c7, if_neg c7]
          exact key (-1)
      · rw [if_neg c2, if_neg (fun hh => c2 hh.1)]
        exact lk1 h.up hO ht (by decide) (by decide)
    · rw [if_neg c1]
      by_cases d1 : 0 ≤ k
      · rw [if_pos d1, if_pos (by omega)]
        exact lk1 h.up hO ht (by decide) (by decide)
      · rw [if_neg d1]
        exact lk1 h.up hO ht (by decide) (by decide)
  · rw [hasC0 h.1 hp, if_neg hp]
    simp only [rz_b_some]
    rw [if_pos (by decide)]
    exact lk1 h.up hO ht (by decide) (by decide)
theorem heightM (h : DM A S t) (hO : OK t S) (ht : t < 512) : Ret (x150_height F p u k r A) (S.height p u k r).1 (fun A1 => DM A1 (S.height p u k r).2 (t + 1)) := by
  have hnH := hO.nH
  have hsm := h.2.sm
  unfold x150_height St.height
  by_cases hp : S.isP p
  · rw [hasM1 h.1 hp, if_pos hp]
    simp only [rz_b_some]
    rw [if_neg (by decide), h.1.now, h.1.nH]
    by_cases c1 : 0 ≤ k ∧ k ≤ 1
    · rw [if_pos c1.1, if_neg (by omega), if_pos c1]
      by_cases c2 : 0 ≤ u
      · rw [if_pos c2]
        have key : ∀ x : Int, Ret (if r < x then (rz_b (x142_no F (-4) A) fun r10 A10 => some (r10, A10)) else if u ≤ S.now then (if r ≤ 9999 then (if (S.nH : Int) = 300 then (rz_b (x142_no F (-6) A) fun r14 A14 => some (r14, A14)) else (rz_gx (S.nH : Int) 300 <| rz_g32 ((A.1 91 11) + 1) <| rz_g32 ((S.nH : Int) + 1) <| some ((S.nH : Int), (aI (aI (aI (aI (aI (aI (aI (aI A 104 ((S.nH : Int)).toNat p) 105 ((S.nH : Int)).toNat u) 106 ((S.nH : Int)).toNat k) 107 ((S.nH : Int)).toNat r) 108 ((S.nH : Int)).toNat S.now) 109 ((S.nH : Int)).toNat (-1)) 91 11 ((A.1 91 11) + 1)) 91 3 ((S.nH : Int) + 1))))) else (rz_b (x142_no F (-6) A) fun r14 A14 => some (r14, A14))) else (rz_b (x142_no F (-6) A) fun r14 A14 => some (r14, A14))) (if 0 ≤ u ∧ ¬ r < x then (if u ≤ S.now ∧ r ≤ 9999 ∧ S.nH < 300 then ((S.nH : Int), S.height1 p u k r) else S.no 5) else S.no 3).1 (fun A1 => DM A1 (if 0 ≤ u ∧ ¬ r < x then (if u ≤ S.now ∧ r ≤ 9999 ∧ S.nH < 300 then ((S.nH : Int), S.height1 p u k r) else S.no 5) else S.no 3).2 (t + 1)) := fun x => by
          by_cases c3 : r < x
          · rw [if_pos c3, if_neg (fun hh => hh.2 c3)]
            exact lm1 h.up hO ht (by decide) (by decide)
          · rw [if_neg c3, if_pos (show 0 ≤ u ∧ ¬ r < x from ⟨c2, c3⟩)]
            by_cases c4 : u ≤ S.now
            · rw [if_pos c4]
              by_cases c5 : r ≤ 9999
              · rw [if_pos c5]
                by_cases c6 : S.nH < 300
                · rw [if_neg (by omega), if_pos (show u ≤ S.now ∧ r ≤ 9999 ∧ S.nH < 300 from ⟨c4, c5, c6⟩), gxp (by omega) (by omega), g32p (by omega), g32p (by omega), Int.toNat_natCast]
                  have hM9 := h.1
                  have k1 : (fun b => if b = S.nH then p else A.1 104 b) = up S.hP S.nH p := by rw [h.1.hP]
                  have k2 : (fun b => if b = S.nH then u else A.1 105 b) = up S.hT S.nH u := by rw [h.1.hT]
                  have k3 : (fun b => if b = S.nH then k else A.1 106 b) = up S.hK S.nH k := by rw [h.1.hK]
                  have k4 : (fun b => if b = S.nH then r else A.1 107 b) = up S.hR S.nH r := by rw [h.1.hR]
                  have k5 : (fun b => if b = S.nH then S.now else A.1 108 b) = up S.hKn S.nH S.now := by rw [h.1.hKn]
                  have k6 : (fun b => if b = S.nH then -1 else A.1 109 b) = up S.hS S.nH (-1) := by rw [h.1.hS]
                  have k7 : (S.nH : Int) + 1 = ((S.nH + 1 : Nat) : Int) := by omega
                  exact Ret.mk ⟨(RM.of ⟨(RM.now hM9 :), (RM.nP hM9 :), (RM.nZ hM9 :), (k7), (RM.nF hM9 :), (RM.nS hM9 :), (RM.nU hM9 :), (RM.nB hM9 :), (RM.nT hM9 :), (RM.nR hM9 :), (RM.limit hM9 :), (RM.zero hM9 :), (RM.low hM9 :), (RM.beside hM9 :), (RM.stN hM9 :), (RM.bN hM9 :), (RM.stF hM9 :), (RM.bH hM9 :), (RM.bF hM9 :), (RM.zP hM9 :), (RM.zZ hM9 :), (RM.zF hM9 :), (RM.zK hM9 :), (k1), (k2), (k3), (k4), (k5), (k6), (RM.fP hM9 :), (RM.fT hM9 :), (RM.fN hM9 :), (RM.fW hM9 :), (RM.fKn hM9 :), (RM.fS hM9 :), (RM.uP hM9 :), (RM.uK hM9 :), (RM.uF hM9 :), (RM.uT hM9 :), (RM.uM hM9 :), (RM.uKn hM9 :), (RM.sP hM9 :), (RM.sD hM9 :), (RM.sT hM9 :), (RM.sN hM9 :), (RM.st hM9 :), (RM.pP hM9 :), (RM.pT hM9 :), (RM.pF hM9 :), (RM.tB hM9 :), (RM.rB hM9 :), (RM.ref hM9 :)⟩), h.2.bump rfl rfl⟩
                · rw [if_pos (by omega), if_neg (by omega)]
                  exact lm1 h.up hO ht (by decide) (by decide)
              · rw [if_neg c5, if_neg (by omega)]
                exact lm1 h.up hO ht (by decide) (by decide)
            · rw [if_neg c4, if_neg (by omega)]
              exact lm1 h.up hO ht (by decide) (by decide)
        by_cases c7 : k = 1
        · rw [if_neg (by omega), if_pos c7]
          exact key 0
        · rw [if_pos (by omega), if_neg c7]
          exact key (-1)
      · rw [if_neg c2, if_neg (fun hh => c2 hh.1)]
        exact lm1 h.up hO ht (by decide) (by decide)
    · rw [if_neg c1]
      by_cases d1 : 0 ≤ k
      · rw [if_pos d1, if_pos (by omega)]
        exact lm1 h.up hO ht (by decide) (by decide)
      · rw [if_neg d1]
        exact lm1 h.up hO ht (by decide) (by decide)
  · rw [hasM0 h.1 hp, if_neg hp]
    simp only [rz_b_some]
    rw [if_pos (by decide)]
    exact lm1 h.up hO ht (by decide) (by decide)
theorem heightO (hO : OK t S) : OK (t + 1) (S.height p u k r).2 := by
  have h0 := hO.now
  unfold St.height
  by_cases hp : S.isP p
  · rw [if_pos hp]
    by_cases c1 : 0 ≤ k ∧ k ≤ 1
    · rw [if_pos c1]
      by_cases c2 : 0 ≤ u ∧ ¬ r < (if k = 1 then 0 else -1)
      · rw [if_pos c2]
        by_cases c3 : u ≤ S.now ∧ r ≤ 9999 ∧ S.nH < 300
        · rw [if_pos c3]
          have hr : -1 ≤ r := by
            have := c2.2
            split at this <;> omega
          have k1 : S.nH + 1 ≤ 300 := by omega
          have k2 : ∀ i, i < S.nH + 1 → (0 ≤ up S.hP S.nH p i ∧ up S.hP S.nH p i < (S.nP : Int)) ∧ (0 ≤ up S.hT S.nH u i ∧ up S.hT S.nH u i ≤ 9999) ∧ (0 ≤ up S.hK S.nH k i ∧ up S.hK S.nH k i ≤ 1) ∧ (-1 ≤ up S.hR S.nH r i ∧ up S.hR S.nH r i ≤ 9999) ∧ (0 ≤ up S.hKn S.nH S.now i ∧ up S.hKn S.nH S.now i ≤ 9999) ∧ (-1 ≤ up S.hS S.nH (-1) i ∧ up S.hS S.nH (-1) i ≤ 9999) ∧ (0 ≤ up S.hS S.nH (-1) i → 0 ≤ up S.hR S.nH r i) := fun i hi => by
            have h2 := hO.h i
            by_cases e : i = S.nH
            · rw [e, up_same, up_same, up_same, up_same, up_same, up_same]
              omega
            · rw [up_ne e, up_ne e, up_ne e, up_ne e, up_ne e, up_ne e]
              exact h2 (by omega)
          exact (OK.of ⟨(OK.now (hO.mono) :), (OK.limit (hO.mono) :), (OK.nP (hO.mono) :), (OK.nZ (hO.mono) :), (k1), (OK.nF (hO.mono) :), (OK.nU (hO.mono) :), (OK.nS (hO.mono) :), (OK.nB (hO.mono) :), (OK.nT (hO.mono) :), (OK.nR (hO.mono) :), (OK.zero (hO.mono) :), (OK.low (hO.mono) :), (OK.beside (hO.mono) :), (OK.stN (hO.mono) :), (OK.stF (hO.mono) :), (OK.bN (hO.mono) :), (OK.b (hO.mono) :), (OK.bs (hO.mono) :), (OK.z (hO.mono) :), (k2), (OK.f (hO.mono) :), (OK.u (hO.mono) :), (OK.s (hO.mono) :), (OK.sv (hO.mono) :), (OK.p (hO.mono) :), (OK.tB (hO.mono) :), (OK.rB (hO.mono) :), (OK.ref (hO.mono) :)⟩)
        · rw [if_neg c3]
          exact hO.no 5
      · rw [if_neg c2]
        exact hO.no 3
    · rw [if_neg c1]
      exact hO.no 1
  · rw [if_neg hp]
    exact hO.no 0
end HEIG
