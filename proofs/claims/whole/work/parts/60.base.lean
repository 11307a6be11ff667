set_option maxRecDepth 8000
section BASE
variable {t t' F : Nat} {A A0 A' A1 : rz_A} {S S' T : St} {p u k a b c v w s f : Int} {cs : List Nat} {fs : List (Nat × Nat)} {q m i j n : Nat}
/-! base -/
abbrev St.falls (S : St) (q : Nat) (s a b : Int) : Prop := 0 < s ∧ ¬ (S.bH q (s - 1).toNat < a ∧ ¬ b < S.bF q (s - 1).toNat)
def St.base1 (S : St) (q n : Nat) (a b : Int) : St := (S.1, (fun c => if c = 17 then ((up2 S.bH q n a)) else if c = 18 then ((up2 S.bF q n b)) else if c = 16 then (fun _ => (up S.bN q ((n : Int) + 1))) else S.2 c))
def St.base (S : St) (p s a b : Int) : Int × St := if S.isP p then (if 0 ≤ s ∧ s ≤ S.bN p.toNat then (if -9999 ≤ a ∧ 0 ≤ b ∧ ¬ S.falls p.toNat s a b then (if a ≤ 99999 ∧ b ≤ 99999 ∧ s < 8 then (s + 1, S.base1 p.toNat s.toNat a b) else S.no 5) else S.no 3) else S.no 0) else S.no 0
theorem base_step (hq : q < 6) : x94_base F q s a b A = (rz_b (x5_has F q A) fun r1 A1 => if r1 = 0 then (rz_b (x1_refuse F (-1) A1) fun r A => some (r, A)) else (rz_gx (q : Int) 6 <| if 0 ≤ s then (if A1.1 (69 + 3 * q) 0 < s then (rz_b (x1_refuse F (-1) A1) fun r A => some (r, A)) else if (-9999) ≤ a then (if 0 ≤ b then (rz_b (x95_falls_b F q s a b A1) fun r A => if r = 0 then (if a ≤ 99999 then (if b ≤ 99999 then (if 8 ≤ s then (rz_b (x1_refuse F (-6) A) fun r A => some (r, A)) else (rz_b (x96_putAt_b F q s a b A) fun r A => some (r, A))) else (rz_b (x1_refuse F (-6) A) fun r A => some (r, A))) else (rz_b (x1_refuse F (-6) A) fun r A => some (r, A))) else (rz_b (x1_refuse F (-4) A) fun r A => some (r, A))) else (rz_b (x1_refuse F (-4) A1) fun r A => some (r, A))) else (rz_b (x1_refuse F (-4) A1) fun r A => some (r, A))) else (rz_b (x1_refuse F (-1) A1) fun r A => some (r, A)))) := by
  match q, hq with
  | 0, _ => rfl
  | 1, _ => rfl
  | 2, _ => rfl
  | 3, _ => rfl
  | 4, _ => rfl
  | 5, _ => rfl
  | p + 6, hp => exact absurd hp (by omega)
theorem fallsC (h : RC A S) (hO : OK t S) (hq : q < 6) (hs : 0 ≤ s ∧ s ≤ S.bN q) : x95_falls_b F q s a b A = some (if S.falls q s a b then 1 else 0, A) := by
  have hb := hO.bN q hq
  obtain ⟨e1, e2, e3⟩ := base_row h hq
  unfold x95_falls_b St.falls
  by_cases c1 : 0 < s
  · rw [if_pos c1, g32p (by omega), gxp (by omega) (by omega), e2, e3]
    by_cases c2 : S.bH q (s - 1).toNat < a
    · rw [if_pos c2]
      by_cases c3 : b < S.bF q (s - 1).toNat
      · rw [if_pos c3, if_pos ⟨c1, fun hh => hh.2 c3⟩]
      · rw [if_neg c3, if_neg (fun hh => hh.2 ⟨c2, c3⟩)]
    · rw [if_neg c2, if_pos ⟨c1, fun hh => c2 hh.1⟩]
  · rw [if_neg c1, if_neg (fun hh => c1 hh.1)]
theorem RC.base (h : RC A S) (hq : q < 6) : RC (aI (aI (aI A (70 + 3 * q) n a) (71 + 3 * q) n b) (69 + 3 * q) 0 ((n : Int) + 1)) (S.base1 q n a b) := by
  have hC9 := h
  obtain ⟨e1, e2, e3⟩ := base_row h hq
  have k1 : (fun c => if c = n then a else A.1 (70 + 3 * q) c) = up (S.bH q) n a := by rw [e2]
  have k2 : (fun c => if c = n then b else A.1 (71 + 3 * q) c) = up (S.bF q) n b := by rw [e3]
  match q, hq, k1, k2 with
  | 0, _, k1, k2 => exact (RC.of ⟨(RC.now hC9 :), (RC.limit hC9 :), (RC.nP hC9 :), (RC.nZ hC9 :), (RC.nH hC9 :), (RC.nF hC9 :), (RC.nU hC9 :), (RC.nS hC9 :), (RC.nB hC9 :), (RC.nT hC9 :), (RC.nR hC9 :), (RC.zero hC9 :), (RC.low hC9 :), (RC.beside hC9 :), (RC.stN hC9 :), (RC.stF0 hC9 :), (RC.stF1 hC9 :), (RC.stF2 hC9 :), (RC.stF3 hC9 :), (RC.stF4 hC9 :), (RC.stF5 hC9 :), (rfl), (RC.bN1 hC9 :), (RC.bN2 hC9 :), (RC.bN3 hC9 :), (RC.bN4 hC9 :), (RC.bN5 hC9 :), (k1), (RC.bH1 hC9 :), (RC.bH2 hC9 :), (RC.bH3 hC9 :), (RC.bH4 hC9 :), (RC.bH5 hC9 :), (k2), (RC.bF1 hC9 :), (RC.bF2 hC9 :), (RC.bF3 hC9 :), (RC.bF4 hC9 :), (RC.bF5 hC9 :), (RC.zP hC9 :), (RC.zZ hC9 :), (RC.zF hC9 :), (RC.zK hC9 :), (RC.hP hC9 :), (RC.hT hC9 :), (RC.hK hC9 :), (RC.hR hC9 :), (RC.hKn hC9 :), (RC.hS hC9 :), (RC.hSm hC9 :), (RC.fP hC9 :), (RC.fT hC9 :), (RC.fN hC9 :), (RC.fW hC9 :), (RC.fKn hC9 :), (RC.fS hC9 :), (RC.uP hC9 :), (RC.uK hC9 :), (RC.uF hC9 :), (RC.uT hC9 :), (RC.uM hC9 :), (RC.uKn hC9 :), (RC.sP hC9 :), (RC.sD hC9 :), (RC.sT hC9 :), (RC.sN hC9 :), (RC.st hC9 :), (RC.pP hC9 :), (RC.pT hC9 :), (RC.pF hC9 :), (RC.tB hC9 :), (RC.rB hC9 :), (RC.ref hC9 :), (RC.ordR hC9 :), (RC.ordS hC9 :), (RC.ordA hC9 :)⟩)
  | 1, _, k1, k2 => exact (RC.of ⟨(RC.now hC9 :), (RC.limit hC9 :), (RC.nP hC9 :), (RC.nZ hC9 :), (RC.nH hC9 :), (RC.nF hC9 :), (RC.nU hC9 :), (RC.nS hC9 :), (RC.nB hC9 :), (RC.nT hC9 :), (RC.nR hC9 :), (RC.zero hC9 :), (RC.low hC9 :), (RC.beside hC9 :), (RC.stN hC9 :), (RC.stF0 hC9 :), (RC.stF1 hC9 :), (RC.stF2 hC9 :), (RC.stF3 hC9 :), (RC.stF4 hC9 :), (RC.stF5 hC9 :), (RC.bN0 hC9 :), (rfl), (RC.bN2 hC9 :), (RC.bN3 hC9 :), (RC.bN4 hC9 :), (RC.bN5 hC9 :), (RC.bH0 hC9 :), (k1), (RC.bH2 hC9 :), (RC.bH3 hC9 :), (RC.bH4 hC9 :), (RC.bH5 hC9 :), (RC.bF0 hC9 :), (k2), (RC.bF2 hC9 :), (RC.bF3 hC9 :), (RC.bF4 hC9 :), (RC.bF5 hC9 :), (RC.zP hC9 :), (RC.zZ hC9 :), (RC.zF hC9 :), (RC.zK hC9 :), (RC.hP hC9 :), (RC.hT hC9 :), (RC.hK hC9 :), (RC.hR hC9 :), (RC.hKn hC9 :), (RC.hS hC9 :), (RC.hSm hC9 :), (RC.fP hC9 :), (RC.fT hC9 :), (RC.fN hC9 :), (RC.fW hC9 :), (RC.fKn hC9 :), (RC.fS hC9 :), (RC.uP hC9 :), (RC.uK hC9 :), (RC.uF hC9 :), (RC.uT hC9 :), (RC.uM hC9 :), (RC.uKn hC9 :), (RC.sP hC9 :), (RC.sD hC9 :), (RC.sT hC9 :), (RC.sN hC9 :), (RC.st hC9 :), (RC.pP hC9 :), (RC.pT hC9 :), (RC.pF hC9 :), (RC.tB hC9 :), (RC.rB hC9 :), (RC.ref hC9 :), (RC.ordR hC9 :), (RC.ordS hC9 :), (RC.ordA hC9 :)⟩)
  | 2, _, k1, k2 => exact (RC.of ⟨(RC.now hC9 :), (RC.limit hC9 :), (RC.nP hC9 :), (RC.nZ hC9 :), (RC.nH hC9 :), (RC.nF hC9 :), (RC.nU hC9 :), (RC.nS hC9 :), (RC.nB hC9 :), (RC.nT hC9 :), (RC.nR hC9 :), (RC.zero hC9 :), (RC.low hC9 :), (RC.beside hC9 :), (RC.stN hC9 :), (RC.stF0 hC9 :), (RC.stF1 hC9 :), (RC.stF2 hC9 :), (RC.stF3 hC9 :), (RC.stF4 hC9 :), (RC.stF5 hC9 :), (RC.bN0 hC9 :), (RC.bN1 hC9 :), (rfl), (RC.bN3 hC9 :), (RC.bN4 hC9 :), (RC.bN5 hC9 :), (RC.bH0 hC9 :), (RC.bH1 hC9 :), (k1), (RC.bH3 hC9 :), (RC.bH4 hC9 :), (RC.bH5 hC9 :), (RC.bF0 hC9 :), (RC.bF1 hC9 :), (k2), (RC.bF3 hC9 :), (RC.bF4 hC9 :), (RC.bF5 hC9 :), (RC.zP hC9 :), (RC.zZ hC9 :), (RC.zF hC9 :), (RC.zK hC9 :), (RC.hP hC9 :), (RC.hT hC9 :), (RC.hK hC9 :), (RC.hR hC9 :), (RC.hKn hC9 :), (RC.hS hC9 :), (RC.hSm hC9 :), (RC.fP hC9 :), (RC.fT hC9 :), (RC.fN hC9 :), (RC.fW hC9 :), (RC.fKn hC9 :), (RC.fS hC9 :), (RC.uP hC9 :), (RC.uK hC9 :), (RC.uF hC9 :), (RC.uT hC9 :), (RC.uM hC9 :), (RC.uKn hC9 :), (RC.sP hC9 :), (RC.sD hC9 :), (RC.sT hC9 :), (RC.sN hC9 :), (RC.st hC9 :), (RC.pP hC9 :), (RC.pT hC9 :), (RC.pF hC9 :), (RC.tB hC9 :), (RC.rB hC9 :), (RC.ref hC9 :), (RC.ordR hC9 :), (RC.ordS hC9 :), (RC.ordA hC9 :)⟩)
  | 3, _, k1, k2 => exact (RC.of ⟨(RC.now hC9 :), (RC.limit hC9 :), (RC.nP hC9 :), (RC.nZ hC9 :), (RC.nH hC9 :), (RC.nF hC9 :), (RC.nU hC9 :), (RC.nS hC9 :), (RC.nB hC9 :), (RC.nT hC9 :), (RC.nR hC9 :), (RC.zero hC9 :), (RC.low hC9 :), (RC.beside hC9 :), (RC.stN hC9 :), (RC.stF0 hC9 :), (RC.stF1 hC9 :), (RC.stF2 hC9 :), (RC.stF3 hC9 :), (RC.stF4 hC9 :), (RC.stF5 hC9 :), (RC.bN0 hC9 :), (RC.bN1 hC9 :), (RC.bN2 hC9 :), (rfl), (RC.bN4 hC9 :), (RC.bN5 hC9 :), (RC.bH0 hC9 :), (RC.bH1 hC9 :), (RC.bH2 hC9 :), (k1), (RC.bH4 hC9 :), (RC.bH5 hC9 :), (RC.bF0 hC9 :), (RC.bF1 hC9 :), (RC.bF2 hC9 :), (k2), (RC.bF4 hC9 :), (RC.bF5 hC9 :), (RC.zP hC9 :), (RC.zZ hC9 :), (RC.zF hC9 :), (RC.zK hC9 :), (RC.hP hC9 :), (RC.hT hC9 :), (RC.hK hC9 :), (RC.hR hC9 :), (RC.hKn hC9 :), (RC.hS hC9 :), (RC.hSm hC9 :), (RC.fP hC9 :), (RC.fT hC9 :), (RC.fN hC9 :), (RC.fW hC9 :), (RC.fKn hC9 :), (RC.fS hC9 :), (RC.uP hC9 :), (RC.uK hC9 :), (RC.uF hC9 :), (RC.uT hC9 :), (RC.uM hC9 :), (RC.uKn hC9 :), (RC.sP hC9 :), (RC.sD hC9 :), (RC.sT hC9 :), (RC.sN hC9 :), (RC.st hC9 :), (RC.pP hC9 :), (RC.pT hC9 :), (RC.pF hC9 :), (RC.tB hC9 :), (RC.rB hC9 :), (RC.ref hC9 :), (RC.ordR hC9 :), (RC.ordS hC9 :), (RC.ordA hC9 :)⟩)
  | 4, _, k1, k2 => exact (RC.of ⟨(RC.now hC9 :), (RC.limit hC9 :), (RC.nP hC9 :), (RC.nZ hC9 :), (RC.nH hC9 :), (RC.nF hC9 :), (RC.nU hC9 :), (RC.nS hC9 :), (RC.nB hC9 :), (RC.nT hC9 :), (RC.nR hC9 :), (RC.zero hC9 :), (RC.low hC9 :), (RC.beside hC9 :), (RC.stN hC9 :), (RC.stF0 hC9 :), (RC.stF1 hC9 :), (RC.stF2 hC9 :), (RC.stF3 hC9 :), (RC.stF4 hC9 :), (RC.stF5 hC9 :), (RC.bN0 hC9 :), (RC.bN1 hC9 :), (RC.bN2 hC9 :), (RC.bN3 hC9 :), (rfl), (RC.bN5 hC9 :), (RC.bH0 hC9 :), (RC.bH1 hC9 :), (RC.bH2 hC9 :), (RC.bH3 hC9 :), (k1), (RC.bH5 hC9 :), (RC.bF0 hC9 :), (RC.bF1 hC9 :), (RC.bF2 hC9 :), (RC.bF3 hC9 :), (k2), (RC.bF5 hC9 :), (RC.zP hC9 :), (RC.zZ hC9 :), (RC.zF hC9 :), (RC.zK hC9 :), (RC.hP hC9 :), (RC.hT hC9 :), (RC.hK hC9 :), (RC.hR hC9 :), (RC.hKn hC9 :), (RC.hS hC9 :), (RC.hSm hC9 :), (RC.fP hC9 :), (RC.fT hC9 :), (RC.fN hC9 :), (RC.fW hC9 :), (RC.fKn hC9 :), (RC.fS hC9 :), (RC.uP hC9 :), (RC.uK hC9 :), (RC.uF hC9 :), (RC.uT hC9 :), (RC.uM hC9 :), (RC.uKn hC9 :), (RC.sP hC9 :), (RC.sD hC9 :), (RC.sT hC9 :), (RC.sN hC9 :), (RC.st hC9 :), (RC.pP hC9 :), (RC.pT hC9 :), (RC.pF hC9 :), (RC.tB hC9 :), (RC.rB hC9 :), (RC.ref hC9 :), (RC.ordR hC9 :), (RC.ordS hC9 :), (RC.ordA hC9 :)⟩)
  | 5, _, k1, k2 => exact (RC.of ⟨(RC.now hC9 :), (RC.limit hC9 :), (RC.nP hC9 :), (RC.nZ hC9 :), (RC.nH hC9 :), (RC.nF hC9 :), (RC.nU hC9 :), (RC.nS hC9 :), (RC.nB hC9 :), (RC.nT hC9 :), (RC.nR hC9 :), (RC.zero hC9 :), (RC.low hC9 :), (RC.beside hC9 :), (RC.stN hC9 :), (RC.stF0 hC9 :), (RC.stF1 hC9 :), (RC.stF2 hC9 :), (RC.stF3 hC9 :), (RC.stF4 hC9 :), (RC.stF5 hC9 :), (RC.bN0 hC9 :), (RC.bN1 hC9 :), (RC.bN2 hC9 :), (RC.bN3 hC9 :), (RC.bN4 hC9 :), (rfl), (RC.bH0 hC9 :), (RC.bH1 hC9 :), (RC.bH2 hC9 :), (RC.bH3 hC9 :), (RC.bH4 hC9 :), (k1), (RC.bF0 hC9 :), (RC.bF1 hC9 :), (RC.bF2 hC9 :), (RC.bF3 hC9 :), (RC.bF4 hC9 :), (k2), (RC.zP hC9 :), (RC.zZ hC9 :), (RC.zF hC9 :), (RC.zK hC9 :), (RC.hP hC9 :), (RC.hT hC9 :), (RC.hK hC9 :), (RC.hR hC9 :), (RC.hKn hC9 :), (RC.hS hC9 :), (RC.hSm hC9 :), (RC.fP hC9 :), (RC.fT hC9 :), (RC.fN hC9 :), (RC.fW hC9 :), (RC.fKn hC9 :), (RC.fS hC9 :), (RC.uP hC9 :), (RC.uK hC9 :), (RC.uF hC9 :), (RC.uT hC9 :), (RC.uM hC9 :), (RC.uKn hC9 :), (RC.sP hC9 :), (RC.sD hC9 :), (RC.sT hC9 :), (RC.sN hC9 :), (RC.st hC9 :), (RC.pP hC9 :), (RC.pT hC9 :), (RC.pF hC9 :), (RC.tB hC9 :), (RC.rB hC9 :), (RC.ref hC9 :), (RC.ordR hC9 :), (RC.ordS hC9 :), (RC.ordA hC9 :)⟩)
  | p + 6, hp, _, _ => exact absurd hp (by omega)
abbrev bRows : List Nat := [69, 70, 71, 72, 73, 74, 75, 76, 77, 78, 79, 80, 81, 82, 83, 84, 85, 86]
theorem memb (hq : q < 6) : 69 + 3 * q ∈ bRows ∧ 70 + 3 * q ∈ bRows ∧ 71 + 3 * q ∈ bRows := by
  match q, hq with
  | 0, _ => decide
  | 1, _ => decide
  | 2, _ => decide
  | 3, _ => decide
  | 4, _ => decide
  | 5, _ => decide
  | p + 6, hp => exact absurd hp (by omega)
theorem baseC (h : DC A S t) (hO : OK t S) (ht : t < 512) : Ret (x94_base F p s a b A) (S.base p s a b).1 (fun A1 => DC A1 (S.base p s a b).2 (t + 1)) := by
  have hnP := hO.nP
  by_cases hp : S.isP p
  · obtain ⟨q, rfl⟩ : ∃ q : Nat, p = q := ⟨p.toNat, by omega⟩
    have hq : q < 6 := by omega
    have hb := hO.bN q hq
    have e1 := (base_row h.1 hq).1
    unfold St.base
    rw [base_step hq, hasC1 h.1 hp, if_pos hp]
    simp only [rz_b_some, Int.toNat_natCast]
    rw [if_neg (by decide), gxp (by omega) (by omega), e1]
    by_cases c1 : 0 ≤ s ∧ s ≤ S.bN q
    · rw [if_pos c1.1, if_neg (by omega), if_pos c1, fallsC h.1 hO hq c1]
      simp only [rz_b_some]
      by_cases c2 : -9999 ≤ a ∧ 0 ≤ b ∧ ¬ S.falls q s a b
      · rw [if_pos c2.1, if_pos c2.2.1, if_neg c2.2.2, if_pos rfl, if_pos c2]
        by_cases c3 : a ≤ 99999 ∧ b ≤ 99999 ∧ s < 8
        · rw [if_pos c3.1, if_pos c3.2.1, if_neg (by omega), if_pos c3]
          unfold x96_putAt_b
          rw [gxp (by omega) (by omega), g32p (by omega)]
          simp only [rz_b_some]
          obtain ⟨n, rfl⟩ : ∃ n : Nat, s = n := ⟨s.toNat, by omega⟩
          rw [Int.toNat_natCast]
          have hm := memb hq
          have fr : Fr bRows [] A (aI (aI (aI A (70 + 3 * q) n a) (71 + 3 * q) n b) (69 + 3 * q) 0 ((n : Int) + 1)) := Fr.aI (Fr.aI (Fr.aI Fr.rfl (Or.inl hm.2.1)) (Or.inl hm.2.2)) (Or.inl hm.1)
          have hci := h.2.up.fr fr (by decide)
          exact Ret.mk ⟨h.1.base hq, hci⟩
        · rw [if_neg c3]
          by_cases d1 : a ≤ 99999
          · rw [if_pos d1]
            by_cases d2 : b ≤ 99999
            · rw [if_pos d2, if_pos (by omega)]
              exact lk1 h.up hO ht (by decide) (by decide)
            · rw [if_neg d2]
              exact lk1 h.up hO ht (by decide) (by decide)
          · rw [if_neg d1]
            exact lk1 h.up hO ht (by decide) (by decide)
      · rw [if_neg c2]
        by_cases d1 : -9999 ≤ a
        · rw [if_pos d1]
          by_cases d2 : 0 ≤ b
          · have d3 : S.falls q s a b := Classical.byContradiction fun hh => c2 ⟨d1, d2, hh⟩
            rw [if_pos d2, if_pos d3, if_neg (by decide)]
            exact lk1 h.up hO ht (by decide) (by decide)
          · rw [if_neg d2]
            exact lk1 h.up hO ht (by decide) (by decide)
        · rw [if_neg d1]
          exact lk1 h.up hO ht (by decide) (by decide)
    · rw [if_neg c1]
      by_cases d1 : 0 ≤ s
      · rw [if_pos d1, if_pos (by omega)]
        exact lk1 h.up hO ht (by decide) (by decide)
      · rw [if_neg d1]
        exact lk1 h.up hO ht (by decide) (by decide)
  · unfold x94_base St.base
    rw [hasC0 h.1 hp, if_neg hp]
    simp only [rz_b_some]
    rw [if_pos (by decide)]
    exact lk1 h.up hO ht (by decide) (by decide)
theorem base86M (h : DM A S t) (hO : OK t S) (ht : t < 512) (hq : q < 6) (hs : 0 ≤ s ∧ s ≤ S.bN q) : Ret (x190_base_86 F q s a b A) (if a ≤ 99999 ∧ b ≤ 99999 ∧ s < 8 then (s + 1, S.base1 q s.toNat a b) else S.no 5).1 (fun A1 => DM A1 (if a ≤ 99999 ∧ b ≤ 99999 ∧ s < 8 then (s + 1, S.base1 q s.toNat a b) else S.no 5).2 (t + 1)) := by
  have hb := hO.bN q hq
  unfold x190_base_86
  by_cases c3 : a ≤ 99999 ∧ b ≤ 99999 ∧ s < 8
  · rw [if_pos c3.1, if_pos c3.2.1, if_neg (by omega), if_pos c3]
    obtain ⟨n, rfl⟩ : ∃ n : Nat, s = n := ⟨s.toNat, by omega⟩
    have e1 : (8 * (q : Int) + n).toNat = 8 * q + n := by omega
    rw [g32p (by omega), g32p (by omega), gxp (by omega) (by omega), g32p (by omega), gxp (by omega) (by omega), Int.toNat_natCast, e1, Int.toNat_natCast]
    have hM9 := h.1
    have hN : (fun b => if b = q then (n : Int) + 1 else A.1 96 b) = up S.bN q ((n : Int) + 1) := by rw [h.1.bN]
    have key : ∀ (R : Nat → Int) (G : Nat → Nat → Int) (v : Int), (∀ p i, p < 6 → i < 8 → R (8 * p + i) = G p i) → ∀ p i, p < 6 → i < 8 → (if 8 * p + i = 8 * q + n then v else R (8 * p + i)) = up2 G q n v p i := fun R G v hR p i h1 h2 => by
      have h3 := hR p i h1 h2
      unfold up2 up
      by_cases c4 : p = q
      · rw [if_pos c4, c4]
        rw [c4] at h3
        by_cases c5 : i = n
        · rw [if_pos (by omega), if_pos c5]
        · rw [if_neg (by omega), if_neg c5, h3]
      · rw [if_neg c4, if_neg (by omega), h3]
    have hH := key _ _ a h.1.bH
    have hF := key _ _ b h.1.bF
    have fr : Fr [96, 98, 99] [] A (aI (aI (aI A 98 (8 * q + n) a) 99 (8 * q + n) b) 96 q ((n : Int) + 1)) := Fr.aI (Fr.aI (Fr.aI Fr.rfl (Or.inl (by decide))) (Or.inl (by decide))) (Or.inl (by decide))
    have hmi := h.2.up.fr fr (by decide)
    exact Ret.mk ⟨(RM.of ⟨(RM.now hM9 :), (RM.nP hM9 :), (RM.nZ hM9 :), (RM.nH hM9 :), (RM.nF hM9 :), (RM.nS hM9 :), (RM.nU hM9 :), (RM.nB hM9 :), (RM.nT hM9 :), (RM.nR hM9 :), (RM.limit hM9 :), (RM.zero hM9 :), (RM.low hM9 :), (RM.beside hM9 :), (RM.stN hM9 :), (hN), (RM.stF hM9 :), (hH), (hF), (RM.zP hM9 :), (RM.zZ hM9 :), (RM.zF hM9 :), (RM.zK hM9 :), (RM.hP hM9 :), (RM.hT hM9 :), (RM.hK hM9 :), (RM.hR hM9 :), (RM.hKn hM9 :), (RM.hS hM9 :), (RM.fP hM9 :), (RM.fT hM9 :), (RM.fN hM9 :), (RM.fW hM9 :), (RM.fKn hM9 :), (RM.fS hM9 :), (RM.uP hM9 :), (RM.uK hM9 :), (RM.uF hM9 :), (RM.uT hM9 :), (RM.uM hM9 :), (RM.uKn hM9 :), (RM.sP hM9 :), (RM.sD hM9 :), (RM.sT hM9 :), (RM.sN hM9 :), (RM.st hM9 :), (RM.pP hM9 :), (RM.pT hM9 :), (RM.pF hM9 :), (RM.tB hM9 :), (RM.rB hM9 :), (RM.ref hM9 :)⟩), hmi⟩
  · rw [if_neg c3]
    by_cases d1 : a ≤ 99999
    · rw [if_pos d1]
      by_cases d2 : b ≤ 99999
      · rw [if_pos d2, if_pos (by omega)]
        exact lm1 h.up hO ht (by decide) (by decide)
      · rw [if_neg d2]
        exact lm1 h.up hO ht (by decide) (by decide)
    · rw [if_neg d1]
      exact lm1 h.up hO ht (by decide) (by decide)
theorem baseM (h : DM A S t) (hO : OK t S) (ht : t < 512) : Ret (x190_base F p s a b A) (S.base p s a b).1 (fun A1 => DM A1 (S.base p s a b).2 (t + 1)) := by
  have hnP := hO.nP
  unfold x190_base St.base
  by_cases hp : S.isP p
  · obtain ⟨q, rfl⟩ : ∃ q : Nat, p = q := ⟨p.toNat, by omega⟩
    have hq : q < 6 := by omega
    have hb := hO.bN q hq
    rw [hasM1 h.1 hp, if_pos hp]
    simp only [rz_b_some, Int.toNat_natCast]
    rw [if_neg (by decide), h.1.bN]
    by_cases c1 : 0 ≤ s ∧ s ≤ S.bN q
    · have last := base86M (F := F) (a := a) (b := b) h hO ht hq c1
      rw [if_pos c1.1, gxp (by omega) (by omega), if_neg (by omega), if_pos c1]
      by_cases c2 : -9999 ≤ a ∧ 0 ≤ b ∧ ¬ S.falls q s a b
      · rw [if_pos c2.1, if_pos c2.2.1, if_pos c2]
        by_cases d1 : 0 < s
        · have e1 : (8 * (q : Int) + s - 1).toNat = 8 * q + (s - 1).toNat := by omega
          have e2 := h.1.bH q (s - 1).toNat hq (by omega)
          have e3 := h.1.bF q (s - 1).toNat hq (by omega)
          have hf : S.bH q (s - 1).toNat < a ∧ ¬ b < S.bF q (s - 1).toNat := Classical.byContradiction fun hh => c2.2.2 ⟨d1, hh⟩
          rw [if_pos d1, g32p (by omega), g32p (by omega), g32p (by omega), gxp (by omega) (by omega), e1, e2, e3, if_pos hf.1, if_neg hf.2]
          exact last
        · rw [if_neg d1]
          exact last
      · rw [if_neg c2]
        by_cases d1 : -9999 ≤ a
        · rw [if_pos d1]
          by_cases d2 : 0 ≤ b
          · have d3 : S.falls q s a b := Classical.byContradiction fun hh => c2 ⟨d1, d2, hh⟩
            have d4 := d3.1
            have e1 : (8 * (q : Int) + s - 1).toNat = 8 * q + (s - 1).toNat := by omega
            have e2 := h.1.bH q (s - 1).toNat hq (by omega)
            have e3 := h.1.bF q (s - 1).toNat hq (by omega)
            rw [if_pos d2, if_pos d4, g32p (by omega), g32p (by omega), g32p (by omega), gxp (by omega) (by omega), e1, e2, e3]
            by_cases d5 : S.bH q (s - 1).toNat < a
            · rw [if_pos d5, if_pos (Classical.byContradiction fun hh => d3.2 ⟨d5, hh⟩)]
              exact lm1 h.up hO ht (by decide) (by decide)
            · rw [if_neg d5]
              exact lm1 h.up hO ht (by decide) (by decide)
          · rw [if_neg d2]
            exact lm1 h.up hO ht (by decide) (by decide)
        · rw [if_neg d1]
          exact lm1 h.up hO ht (by decide) (by decide)
    · rw [if_neg c1]
      by_cases d1 : 0 ≤ s
      · rw [if_pos d1, gxp (by omega) (by omega), if_pos (by omega)]
        exact lm1 h.up hO ht (by decide) (by decide)
      · rw [if_neg d1]
        exact lm1 h.up hO ht (by decide) (by decide)
  · rw [hasM0 h.1 hp, if_neg hp]
    simp only [rz_b_some]
    rw [if_pos (by decide)]
    exact lm1 h.up hO ht (by decide) (by decide)
theorem baseO (hO : OK t S) : OK (t + 1) (S.base p s a b).2 := by
  have hnP := hO.nP
  unfold St.base
  by_cases hp : S.isP p
  · have hq : p.toNat < 6 := by omega
    have hb := hO.bN p.toNat hq
    rw [if_pos hp]
    by_cases c1 : 0 ≤ s ∧ s ≤ S.bN p.toNat
    · rw [if_pos c1]
      by_cases c2 : -9999 ≤ a ∧ 0 ≤ b ∧ ¬ S.falls p.toNat s a b
      · rw [if_pos c2]
        by_cases c3 : a ≤ 99999 ∧ b ≤ 99999 ∧ s < 8
        · rw [if_pos c3]
          obtain ⟨n, rfl⟩ : ∃ n : Nat, s = n := ⟨s.toNat, by omega⟩
          obtain ⟨c21, c22, c23⟩ := c2
          have hf : 0 < n → S.bH p.toNat (n - 1) < a ∧ ¬ b < S.bF p.toNat (n - 1) := fun hn => Classical.byContradiction fun hh => c23 ⟨by omega, by rw [show ((n : Int) - 1).toNat = n - 1 by omega]; exact hh⟩
          rw [Int.toNat_natCast]
          have h1 : ∀ r, r < 6 → 0 ≤ up S.bN p.toNat ((n : Int) + 1) r ∧ up S.bN p.toNat ((n : Int) + 1) r ≤ 8 := fun r hr => by
            have h3 := hO.bN r hr
            unfold up
            split <;> omega
          have h2 : ∀ r i : Nat, r < 6 → (i : Int) < up S.bN p.toNat ((n : Int) + 1) r → (-9999 ≤ up2 S.bH p.toNat n a r i ∧ up2 S.bH p.toNat n a r i ≤ 99999) ∧ 0 ≤ up2 S.bF p.toNat n b r i ∧ up2 S.bF p.toNat n b r i ≤ 99999 := fun r i hr hi => by
            have h3 := hO.b r i hr
            unfold up at hi
            unfold up2 up
            by_cases c4 : r = p.toNat
            · rw [if_pos c4] at hi
              rw [if_pos c4, if_pos c4]
              rw [c4] at h3
              by_cases c5 : i = n
              · rw [if_pos c5, if_pos c5]
                omega
              · rw [if_neg c5, if_neg c5]
                exact h3 (by omega)
            · rw [if_neg c4] at hi
              rw [if_neg c4, if_neg c4]
              exact h3 hi
          have h4 : ∀ r i : Nat, r < 6 → (i : Int) + 1 < up S.bN p.toNat ((n : Int) + 1) r → up2 S.bH p.toNat n a r i < up2 S.bH p.toNat n a r (i + 1) ∧ up2 S.bF p.toNat n b r i ≤ up2 S.bF p.toNat n b r (i + 1) := fun r i hr hi => by
            have h3 := hO.bs r i hr
            unfold up at hi
            unfold up2 up
            by_cases c4 : r = p.toNat
            · rw [if_pos c4] at hi
              rw [if_pos c4, if_pos c4]
              rw [c4] at h3
              by_cases c5 : i + 1 = n
              · have h5 := hf (by omega)
                rw [show n - 1 = i by omega] at h5
                rw [if_pos c5, if_pos c5, if_neg (by omega), if_neg (by omega)]
                omega
              · rw [if_neg c5, if_neg c5, if_neg (by omega), if_neg (by omega)]
                exact h3 (by omega)
            · rw [if_neg c4] at hi
              rw [if_neg c4, if_neg c4]
              exact h3 hi
          exact (OK.of ⟨(OK.now (hO.mono) :), (OK.limit (hO.mono) :), (OK.nP (hO.mono) :), (OK.nZ (hO.mono) :), (OK.nH (hO.mono) :), (OK.nF (hO.mono) :), (OK.nU (hO.mono) :), (OK.nS (hO.mono) :), (OK.nB (hO.mono) :), (OK.nT (hO.mono) :), (OK.nR (hO.mono) :), (OK.zero (hO.mono) :), (OK.low (hO.mono) :), (OK.beside (hO.mono) :), (OK.stN (hO.mono) :), (OK.stF (hO.mono) :), (h1), (h2), (h4), (OK.z (hO.mono) :), (OK.h (hO.mono) :), (OK.f (hO.mono) :), (OK.u (hO.mono) :), (OK.s (hO.mono) :), (OK.sv (hO.mono) :), (OK.p (hO.mono) :), (OK.tB (hO.mono) :), (OK.rB (hO.mono) :), (OK.ref (hO.mono) :)⟩)
        · rw [if_neg c3]
          exact hO.no 5
      · rw [if_neg c2]
        exact hO.no 3
    · rw [if_neg c1]
      exact hO.no 0
  · rw [if_neg hp]
    exact hO.no 0
/-! feed -/
def byt (v : Int) (i : Nat) : Int := rz_oL gAnd (rz_oS gShr v (8 * (i : Int))) 255
theorem byt_l (y : Int64) : (y &&& Int64.ofInt 255).toInt = ((y.toBitVec.toNat % 256 : Nat) : Int) := by
  have h1 : (y &&& Int64.ofInt 255).toBitVec.toNat = y.toBitVec.toNat % 256 := by
    rw [Int64.toBitVec_and, BitVec.toNat_and, show (Int64.ofInt 255).toBitVec.toNat = 2 ^ 8 - 1 from by decide, Nat.and_two_pow_sub_one_eq_mod]
  show (y &&& Int64.ofInt 255).toBitVec.toInt = _
  rw [BitVec.toInt_eq_toNat_of_lt (by omega), h1]
theorem byt_i (y : Int32) : (y &&& Int32.ofInt 255).toInt = ((y.toBitVec.toNat % 256 : Nat) : Int) := by
  have h1 : (y &&& Int32.ofInt 255).toBitVec.toNat = y.toBitVec.toNat % 256 := by
    rw [Int32.toBitVec_and, BitVec.toNat_and, show (Int32.ofInt 255).toBitVec.toNat = 2 ^ 8 - 1 from by decide, Nat.and_two_pow_sub_one_eq_mod]
  show (y &&& Int32.ofInt 255).toBitVec.toInt = _
  rw [BitVec.toInt_eq_toNat_of_lt (by omega), h1]
theorem byt_ok (v : Int) (i : Nat) : rz_oI fAnd (rz_oN (rz_oS gShr v (8 * (i : Int)))) 255 = byt v i ∧ 0 ≤ byt v i ∧ byt v i ≤ 255 := by
  have e1 : byt v i = (((gShr (Int64.ofInt v) (Int32.ofInt (8 * (i : Int)))).toBitVec.toNat % 256 : Nat) : Int) := by
    unfold byt rz_oL rz_oS gAnd
    rw [Int64.ofInt_toInt, byt_l]
  refine ⟨?_, by omega, by omega⟩
  rw [e1]
  unfold rz_oI rz_oN rz_oS fAnd
  rw [Int32.ofInt_toInt, Int64.ofInt_toInt, byt_i]
  have e2 : (gShr (Int64.ofInt v) (Int32.ofInt (8 * (i : Int)))).toInt32.toBitVec.toNat = (gShr (Int64.ofInt v) (Int32.ofInt (8 * (i : Int)))).toBitVec.toNat % 2 ^ 32 := by
    rw [Int64.toBitVec_toInt32, BitVec.signExtend_eq_setWidth_of_le _ (by decide), BitVec.toNat_setWidth]
  rw [e2]
  omega
def St.put8 (S : St) (b : Int) : St := ((fun c => if c = 9 then S.nT + 1 else S.1 c), (fun c => if c = 49 then (fun _ => (up S.tB S.nT b)) else S.2 c))
def St.fd (S : St) (v : Int) : Nat → St
  | 0 => S
  | i + 1 => (S.fd v i).put8 (byt v i)
def St.feed (S : St) (s v : Int) : Int × St := if s < 1 then S.no 3 else if s ≤ 8 then (if 60 < (S.nT : Int) + s then S.no 5 else ((S.nT : Int) + s, S.fd v s.toNat)) else S.no 5
theorem fd_nT (S : St) (v : Int) : ∀ i, (S.fd v i).nT = S.nT + i
  | 0 => rfl
  | i + 1 => by
    show (S.fd v i).nT + 1 = _
    rw [fd_nT S v i]
    omega
theorem RC.put8 (h : RC A S) : RC (aI (aI A 41 S.nT b) 40 1 ((S.nT : Int) + 1)) (S.put8 b) := by
  have hC9 := h
  have k1 : (fun c => if c = S.nT then b else A.1 41 c) = up S.tB S.nT b := by rw [h.tB]
  have k2 : (S.nT : Int) + 1 = ((S.nT + 1 : Nat) : Int) := by omega
  exact (RC.of ⟨(RC.now hC9 :), (RC.limit hC9 :), (RC.nP hC9 :), (RC.nZ hC9 :), (RC.nH hC9 :), (RC.nF hC9 :), (RC.nU hC9 :), (RC.nS hC9 :), (RC.nB hC9 :), (k2), (RC.nR hC9 :), (RC.zero hC9 :), (RC.low hC9 :), (RC.beside hC9 :), (RC.stN hC9 :), (RC.stF0 hC9 :), (RC.stF1 hC9 :), (RC.stF2 hC9 :), (RC.stF3 hC9 :), (RC.stF4 hC9 :), (RC.stF5 hC9 :), (RC.bN0 hC9 :), (RC.bN1 hC9 :), (RC.bN2 hC9 :), (RC.bN3 hC9 :), (RC.bN4 hC9 :), (RC.bN5 hC9 :), (RC.bH0 hC9 :), (RC.bH1 hC9 :), (RC.bH2 hC9 :), (RC.bH3 hC9 :), (RC.bH4 hC9 :), (RC.bH5 hC9 :), (RC.bF0 hC9 :), (RC.bF1 hC9 :), (RC.bF2 hC9 :), (RC.bF3 hC9 :), (RC.bF4 hC9 :), (RC.bF5 hC9 :), (RC.zP hC9 :), (RC.zZ hC9 :), (RC.zF hC9 :), (RC.zK hC9 :), (RC.hP hC9 :), (RC.hT hC9 :), (RC.hK hC9 :), (RC.hR hC9 :), (RC.hKn hC9 :), (RC.hS hC9 :), (RC.hSm hC9 :), (RC.fP hC9 :), (RC.fT hC9 :), (RC.fN hC9 :), (RC.fW hC9 :), (RC.fKn hC9 :), (RC.fS hC9 :), (RC.uP hC9 :), (RC.uK hC9 :), (RC.uF hC9 :), (RC.uT hC9 :), (RC.uM hC9 :), (RC.uKn hC9 :), (RC.sP hC9 :), (RC.sD hC9 :), (RC.sT hC9 :), (RC.sN hC9 :), (RC.st hC9 :), (RC.pP hC9 :), (RC.pT hC9 :), (RC.pF hC9 :), (k1), (RC.rB hC9 :), (RC.ref hC9 :), (RC.ordR hC9 :), (RC.ordS hC9 :), (RC.ordA hC9 :)⟩)
theorem RM.put8 (h : RM A S) : RM (aI (aI A 91 8 ((S.nT : Int) + 1)) 130 S.nT b) (S.put8 b) := by
  have hM9 := h
  have k1 : (fun c => if c = S.nT then b else A.1 130 c) = up S.tB S.nT b := by rw [h.tB]
  have k2 : (S.nT : Int) + 1 = ((S.nT + 1 : Nat) : Int) := by omega
  exact (RM.of ⟨(RM.now hM9 :), (RM.nP hM9 :), (RM.nZ hM9 :), (RM.nH hM9 :), (RM.nF hM9 :), (RM.nS hM9 :), (RM.nU hM9 :), (RM.nB hM9 :), (k2), (RM.nR hM9 :), (RM.limit hM9 :), (RM.zero hM9 :), (RM.low hM9 :), (RM.beside hM9 :), (RM.stN hM9 :), (RM.bN hM9 :), (RM.stF hM9 :), (RM.bH hM9 :), (RM.bF hM9 :), (RM.zP hM9 :), (RM.zZ hM9 :), (RM.zF hM9 :), (RM.zK hM9 :), (RM.hP hM9 :), (RM.hT hM9 :), (RM.hK hM9 :), (RM.hR hM9 :), (RM.hKn hM9 :), (RM.hS hM9 :), (RM.fP hM9 :), (RM.fT hM9 :), (RM.fN hM9 :), (RM.fW hM9 :), (RM.fKn hM9 :), (RM.fS hM9 :), (RM.uP hM9 :), (RM.uK hM9 :), (RM.uF hM9 :), (RM.uT hM9 :), (RM.uM hM9 :), (RM.uKn hM9 :), (RM.sP hM9 :), (RM.sD hM9 :), (RM.sT hM9 :), (RM.sN hM9 :), (RM.st hM9 :), (RM.pP hM9 :), (RM.pT hM9 :), (RM.pF hM9 :), (k1), (RM.rB hM9 :), (RM.ref hM9 :)⟩)
theorem takeC (hs : s ≤ 8) (h60 : (S.nT : Int) + s ≤ 60) : ∀ (n z i : Nat) (A : rz_A), ((i + z : Nat) : Int) = s → z < n → DC A (S.fd v i) t' → Ret (x41_take_3 F n s v i A) ((S.nT : Int) + s) (fun A1 => DC A1 (S.fd v s.toNat) t') := by
  intro n
  induction n with
  | zero => intro z i A h1 h2; omega
  | succ n ih =>
    intro z i A h1 h2 h
    unfold x41_take_3
    rw [h.1.nT, fd_nT]
    cases z with
    | zero =>
      have es : s.toNat = i := by omega
      rw [if_neg (by omega)]
      refine Ret.eq (Ret.mk ?_) (by omega)
      rw [es]
      exact h
    | succ z =>
      have g32 : r32 ((i : Int) + 1) := by omega
      have en : ((S.nT + i : Nat) : Int).toNat = (S.fd v i).nT := by rw [fd_nT]; omega
      have en2 : ((S.nT + i : Nat) : Int) = ((S.fd v i).nT : Int) := by rw [fd_nT]
      rw [if_pos (by omega), if_pos (by omega), g32p (by omega), gxp (by omega) (by omega), g32p (by omega), g32p g32, (byt_ok v i).1, en, en2, show (i : Int) + 1 = ((i + 1 : Nat) : Int) by omega]
      have fr : Fr [41] [(40, 1)] A (aI (aI A 41 (S.fd v i).nT (byt v i)) 40 1 (((S.fd v i).nT : Int) + 1)) := Fr.aI (Fr.aI Fr.rfl (Or.inl (by decide))) (Or.inr (by decide))
      have hci := h.2.fr fr (by decide)
      exact ih z (i + 1) _ (by omega) (by omega) ⟨h.1.put8, hci⟩
theorem takeM (hs : s ≤ 8) (h60 : (S.nT : Int) + s ≤ 60) : ∀ (n z i : Nat) (A : rz_A), ((i + z : Nat) : Int) = s → z < n → DM A (S.fd v i) t' → Ret (x167_feed_39 F n s v i A) ((S.nT : Int) + s) (fun A1 => DM A1 (S.fd v s.toNat) t') := by
  intro n
  induction n with
  | zero => intro z i A h1 h2; omega
  | succ n ih =>
    intro z i A h1 h2 h
    unfold x167_feed_39
    rw [h.1.nT, fd_nT]
    cases z with
    | zero =>
      have es : s.toNat = i := by omega
      rw [if_neg (by omega)]
      refine Ret.eq (Ret.mk ?_) (by omega)
      rw [es]
      exact h
    | succ z =>
      have g32 : r32 ((i : Int) + 1) := by omega
      have en : ((S.nT + i : Nat) : Int).toNat = (S.fd v i).nT := by rw [fd_nT]; omega
      have en2 : ((S.nT + i : Nat) : Int) = ((S.fd v i).nT : Int) := by rw [fd_nT]
      have hb := (byt_ok v i).2
      have eb : rz_oL gAnd (rz_oS gShr v (8 * (i : Int))) 255 = byt v i := rfl
      rw [if_pos (by omega), g32p (by omega), g32p (by omega), eb, g32p (by omega), gxp (by omega) (by omega), g32p g32, en, en2, show (i : Int) + 1 = ((i + 1 : Nat) : Int) by omega]
      have fr : Fr [130] [(91, 8)] A (aI (aI A 91 8 (((S.fd v i).nT : Int) + 1)) 130 (S.fd v i).nT (byt v i)) := Fr.aI (Fr.aI Fr.rfl (Or.inr (by decide))) (Or.inl (by decide))
      have hmi := h.2.fr fr (by decide)
      exact ih z (i + 1) _ (by omega) (by omega) ⟨h.1.put8, hmi⟩
theorem feedC (h : DC A S t) (hO : OK t S) (ht : t < 512) (hF : 1000 ≤ F) : Ret (x40_feed F s v A) (S.feed s v).1 (fun A1 => DC A1 (S.feed s v).2 (t + 1)) := by
  have hnT := hO.nT
  unfold x40_feed St.feed
  by_cases c1 : s < 1
  · rw [if_pos c1, if_pos c1]
    exact lk1 h.up hO ht (by decide) (by decide)
  · rw [if_neg c1, if_neg c1]
    by_cases c2 : s ≤ 8
    · rw [if_pos c2, if_pos c2, h.1.nT, g32p (by omega)]
      by_cases c3 : 60 < (S.nT : Int) + s
      · rw [if_pos (by omega), if_pos c3]
        exact lk1 h.up hO ht (by decide) (by decide)
      · rw [if_neg (by omega), if_neg c3]
        unfold x41_take
        have hl := takeC (F := F) (S := S) (v := v) (t' := t + 1) c2 (by omega) F s.toNat 0 A (by omega) (by omega) h.up
        exact Ret.bind hl (fun A1 _ hA => Ret.mk hA)
    · rw [if_neg c2, if_neg c2]
      exact lk1 h.up hO ht (by decide) (by decide)
theorem feedM (h : DM A S t) (hO : OK t S) (ht : t < 512) (hF : 1000 ≤ F) : Ret (x167_feed F s v A) (S.feed s v).1 (fun A1 => DM A1 (S.feed s v).2 (t + 1)) := by
  have hnT := hO.nT
  unfold x167_feed St.feed
  by_cases c1 : s < 1
  · rw [if_pos c1, if_pos c1]
    exact lm1 h.up hO ht (by decide) (by decide)
  · rw [if_neg c1, if_neg c1]
    by_cases c2 : s ≤ 8
    · rw [if_pos c2, if_pos c2, h.1.nT, g32p (by omega)]
      by_cases c3 : 60 < (S.nT : Int) + s
      · rw [if_pos c3, if_pos c3]
        exact lm1 h.up hO ht (by decide) (by decide)
      · rw [if_neg c3, if_neg c3]
        exact takeM (F := F) (S := S) (v := v) (t' := t + 1) c2 (by omega) F s.toNat 0 A (by omega) (by omega) h.up
    · rw [if_neg c2, if_neg c2]
      exact lm1 h.up hO ht (by decide) (by decide)
theorem OK.put8 (hO : OK t S) (hn : S.nT < 60) (hb : 0 ≤ b ∧ b ≤ 255) : OK t (S.put8 b) := by
  have h1 : S.nT + 1 ≤ 60 := by omega
  have h2 : ∀ i, i < S.nT + 1 → 0 ≤ up S.tB S.nT b i ∧ up S.tB S.nT b i ≤ 255 := fun i hi => by
    have h3 := hO.tB i
    unfold up
    by_cases e : i = S.nT
    · rw [if_pos e]
      exact hb
    · rw [if_neg e]
      exact h3 (by omega)
  exact (OK.of ⟨(OK.now hO :), (OK.limit hO :), (OK.nP hO :), (OK.nZ hO :), (OK.nH hO :), (OK.nF hO :), (OK.nU hO :), (OK.nS hO :), (OK.nB hO :), (h1), (OK.nR hO :), (OK.zero hO :), (OK.low hO :), (OK.beside hO :), (OK.stN hO :), (OK.stF hO :), (OK.bN hO :), (OK.b hO :), (OK.bs hO :), (OK.z hO :), (OK.h hO :), (OK.f hO :), (OK.u hO :), (OK.s hO :), (OK.sv hO :), (OK.p hO :), (h2), (OK.rB hO :), (OK.ref hO :)⟩)
theorem fdO (hO : OK t S) : ∀ i, S.nT + i ≤ 60 → OK t (S.fd v i)
  | 0, _ => hO
  | i + 1, hi => (fdO hO i (by omega)).put8 (by rw [fd_nT]; omega) (byt_ok v i).2
theorem feedO (hO : OK t S) : OK (t + 1) (S.feed s v).2 := by
  unfold St.feed
  by_cases c1 : s < 1
  · rw [if_pos c1]
    exact hO.no 3
  · rw [if_neg c1]
    by_cases c2 : s ≤ 8
    · rw [if_pos c2]
      by_cases c3 : 60 < (S.nT : Int) + s
      · rw [if_pos c3]
        exact hO.no 5
      · rw [if_neg c3]
        exact (fdO hO s.toNat (by omega)).mono
    · rw [if_neg c2]
      exact hO.no 5
end BASE
