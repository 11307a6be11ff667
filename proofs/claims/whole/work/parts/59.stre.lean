set_option maxRecDepth 8000
section STRE
variable {t t' F : Nat} {A A0 A' A1 : rz_A} {S S' T : St} {p u k a b c v w : Int} {cs : List Nat} {fs : List (Nat × Nat)} {q m i j n : Nat}
/-! stretch -/
def St.bg (S : St) (q : Nat) (v : Int) : Nat → Nat → Bool
  | 0, _ => false
  | z + 1, i => if S.stF q i = v then true else S.bg q v z (i + 1)
def St.stretch1 (S : St) (q : Nat) (v : Int) : St := (S.1, (fun c => if c = 15 then ((up2 S.stF q (S.stN q).toNat v)) else if c = 14 then (fun _ => (up S.stN q (S.stN q + 1))) else S.2 c))
def St.stretch (S : St) (p v : Int) : Int × St := if S.isP p then (if S.bg p.toNat v (S.stN p.toNat).toNat 0 = true then S.no 2 else if timV v v = 0 then (if S.stN p.toNat = 8 then S.no 5 else (S.stN p.toNat + 1, S.stretch1 p.toNat v)) else S.noV (timV v v)) else S.no 0
theorem begins_step (hp : q < 6) {i : Int} : x66_beginsAt_2 F (n + 1) q v i A = (rz_gx (q : Int) 6 <| if i < A.1 6 q then (rz_gx i 8 <| if A.1 (8 + q) i.toNat = v then some (1, A) else (rz_g32 (i + 1) <| x66_beginsAt_2 F n q v (i + 1) A)) else some (0, A)) := by
  match q, hp with
  | 0, _ => rfl
  | 1, _ => rfl
  | 2, _ => rfl
  | 3, _ => rfl
  | 4, _ => rfl
  | 5, _ => rfl
  | p + 6, hp => exact absurd hp (by omega)
theorem begin_step (hp : q < 6) : x67_begin F q v A = (rz_gx (q : Int) 6 <| rz_gx (A.1 6 q) 8 <| rz_g32 (A.1 6 q + 1) <| some (A.1 6 q + 1, aI (aI A (8 + q) (A.1 6 q).toNat v) 6 q (A.1 6 q + 1))) := by
  match q, hp with
  | 0, _ => rfl
  | 1, _ => rfl
  | 2, _ => rfl
  | 3, _ => rfl
  | 4, _ => rfl
  | 5, _ => rfl
  | p + 6, hp => exact absurd hp (by omega)
theorem beginsC (h : RC A S) (hO : OK t S) (hp : q < 6) : ∀ (n z i : Nat), i + z = (S.stN q).toNat → z < n → x66_beginsAt_2 F n q v i A = some (if S.bg q v z i = true then 1 else 0, A) := by
  have hb := hO.stN q hp
  intro n
  induction n with
  | zero => intro z i h1 h2; omega
  | succ n ih =>
    intro z i h1 h2
    rw [begins_step hp, gxp (by omega) (by omega), h.stN, stF_row h hp, Int.toNat_natCast]
    cases z with
    | zero =>
      rw [if_neg (by omega)]
      rfl
    | succ z =>
      have g32 : r32 ((i : Int) + 1) := by omega
      unfold St.bg
      rw [if_pos (by omega), gxp (by omega) (by omega), g32p g32, show (i : Int) + 1 = ((i + 1 : Nat) : Int) by omega]
      by_cases c1 : S.stF q i = v
      · rw [if_pos c1, if_pos c1, if_pos rfl]
      · rw [if_neg c1, if_neg c1]
        exact ih z (i + 1) (by omega) (by omega)
theorem RC.stre (h : RC A S) (hq : q < 6) : RC (aI (aI A (8 + q) (A.1 6 q).toNat v) 6 q (A.1 6 q + 1)) (S.stretch1 q v) := by
  have hC9 := h
  have e := h.stN
  have hN : (fun b => if b = q then A.1 6 q + 1 else A.1 6 b) = up S.stN q (S.stN q + 1) := by rw [e]
  have k0 : (fun b => if b = (A.1 6 q).toNat then v else A.1 (8 + q) b) = up (S.stF q) (S.stN q).toNat v := by rw [stF_row h hq, e]
  match q, hq, hN, k0 with
  | 0, _, hN, k0 => exact (RC.of ⟨(RC.now hC9 :), (RC.limit hC9 :), (RC.nP hC9 :), (RC.nZ hC9 :), (RC.nH hC9 :), (RC.nF hC9 :), (RC.nU hC9 :), (RC.nS hC9 :), (RC.nB hC9 :), (RC.nT hC9 :), (RC.nR hC9 :), (RC.zero hC9 :), (RC.low hC9 :), (RC.beside hC9 :), (hN), (k0), (RC.stF1 hC9 :), (RC.stF2 hC9 :), (RC.stF3 hC9 :), (RC.stF4 hC9 :), (RC.stF5 hC9 :), (RC.bN0 hC9 :), (RC.bN1 hC9 :), (RC.bN2 hC9 :), (RC.bN3 hC9 :), (RC.bN4 hC9 :), (RC.bN5 hC9 :), (RC.bH0 hC9 :), (RC.bH1 hC9 :), (RC.bH2 hC9 :), (RC.bH3 hC9 :), (RC.bH4 hC9 :), (RC.bH5 hC9 :), (RC.bF0 hC9 :), (RC.bF1 hC9 :), (RC.bF2 hC9 :), (RC.bF3 hC9 :), (RC.bF4 hC9 :), (RC.bF5 hC9 :), (RC.zP hC9 :), (RC.zZ hC9 :), (RC.zF hC9 :), (RC.zK hC9 :), (RC.hP hC9 :), (RC.hT hC9 :), (RC.hK hC9 :), (RC.hR hC9 :), (RC.hKn hC9 :), (RC.hS hC9 :), (RC.hSm hC9 :), (RC.fP hC9 :), (RC.fT hC9 :), (RC.fN hC9 :), (RC.fW hC9 :), (RC.fKn hC9 :), (RC.fS hC9 :), (RC.uP hC9 :), (RC.uK hC9 :), (RC.uF hC9 :), (RC.uT hC9 :), (RC.uM hC9 :), (RC.uKn hC9 :), (RC.sP hC9 :), (RC.sD hC9 :), (RC.sT hC9 :), (RC.sN hC9 :), (RC.st hC9 :), (RC.pP hC9 :), (RC.pT hC9 :), (RC.pF hC9 :), (RC.tB hC9 :), (RC.rB hC9 :), (RC.ref hC9 :), (RC.ordR hC9 :), (RC.ordS hC9 :), (RC.ordA hC9 :)⟩)
  | 1, _, hN, k0 => exact (RC.of ⟨(RC.now hC9 :), (RC.limit hC9 :), (RC.nP hC9 :), (RC.nZ hC9 :), (RC.nH hC9 :), (RC.nF hC9 :), (RC.nU hC9 :), (RC.nS hC9 :), (RC.nB hC9 :), (RC.nT hC9 :), (RC.nR hC9 :), (RC.zero hC9 :), (RC.low hC9 :), (RC.beside hC9 :), (hN), (RC.stF0 hC9 :), (k0), (RC.stF2 hC9 :), (RC.stF3 hC9 :), (RC.stF4 hC9 :), (RC.stF5 hC9 :), (RC.bN0 hC9 :), (RC.bN1 hC9 :), (RC.bN2 hC9 :), (RC.bN3 hC9 :), (RC.bN4 hC9 :), (RC.bN5 hC9 :), (RC.bH0 hC9 :), (RC.bH1 hC9 :), (RC.bH2 hC9 :), (RC.bH3 hC9 :), (RC.bH4 hC9 :), (RC.bH5 hC9 :), (RC.bF0 hC9 :), (RC.bF1 hC9 :), (RC.bF2 hC9 :), (RC.bF3 hC9 :), (RC.bF4 hC9 :), (RC.bF5 hC9 :), (RC.zP hC9 :), (RC.zZ hC9 :), (RC.zF hC9 :), (RC.zK hC9 :), (RC.hP hC9 :), (RC.hT hC9 :), (RC.hK hC9 :), (RC.hR hC9 :), (RC.hKn hC9 :), (RC.hS hC9 :), (RC.hSm hC9 :), (RC.fP hC9 :), (RC.fT hC9 :), (RC.fN hC9 :), (RC.fW hC9 :), (RC.fKn hC9 :), (RC.fS hC9 :), (RC.uP hC9 :), (RC.uK hC9 :), (RC.uF hC9 :), (RC.uT hC9 :), (RC.uM hC9 :), (RC.uKn hC9 :), (RC.sP hC9 :), (RC.sD hC9 :), (RC.sT hC9 :), (RC.sN hC9 :), (RC.st hC9 :), (RC.pP hC9 :), (RC.pT hC9 :), (RC.pF hC9 :), (RC.tB hC9 :), (RC.rB hC9 :), (RC.ref hC9 :), (RC.ordR hC9 :), (RC.ordS hC9 :), (RC.ordA hC9 :)⟩)
  | 2, _, hN, k0 => exact (RC.of ⟨(RC.now hC9 :), (RC.limit hC9 :), (RC.nP hC9 :), (RC.nZ hC9 :), (RC.nH hC9 :), (RC.nF hC9 :), (RC.nU hC9 :), (RC.nS hC9 :), (RC.nB hC9 :), (RC.nT hC9 :), (RC.nR hC9 :), (RC.zero hC9 :), (RC.low hC9 :), (RC.beside hC9 :), (hN), (RC.stF0 hC9 :), (RC.stF1 hC9 :), (k0), (RC.stF3 hC9 :), (RC.stF4 hC9 :), (RC.stF5 hC9 :), (RC.bN0 hC9 :), (RC.bN1 hC9 :), (RC.bN2 hC9 :), (RC.bN3 hC9 :), (RC.bN4 hC9 :), (RC.bN5 hC9 :), (RC.bH0 hC9 :), (RC.bH1 hC9 :), (RC.bH2 hC9 :), (RC.bH3 hC9 :), (RC.bH4 hC9 :), (RC.bH5 hC9 :), (RC.bF0 hC9 :), (RC.bF1 hC9 :), (RC.bF2 hC9 :), (RC.bF3 hC9 :), (RC.bF4 hC9 :), (RC.bF5 hC9 :), (RC.zP hC9 :), (RC.zZ hC9 :), (RC.zF hC9 :), (RC.zK hC9 :), (RC.hP hC9 :), (RC.hT hC9 :), (RC.hK hC9 :), (RC.hR hC9 :), (RC.hKn hC9 :), (RC.hS hC9 :), (RC.hSm hC9 :), (RC.fP hC9 :), (RC.fT hC9 :), (RC.fN hC9 :), (RC.fW hC9 :), (RC.fKn hC9 :), (RC.fS hC9 :), (RC.uP hC9 :), (RC.uK hC9 :), (RC.uF hC9 :), (RC.uT hC9 :), (RC.uM hC9 :), (RC.uKn hC9 :), (RC.sP hC9 :), (RC.sD hC9 :), (RC.sT hC9 :), (RC.sN hC9 :), (RC.st hC9 :), (RC.pP hC9 :), (RC.pT hC9 :), (RC.pF hC9 :), (RC.tB hC9 :), (RC.rB hC9 :), (RC.ref hC9 :), (RC.ordR hC9 :), (RC.ordS hC9 :), (RC.ordA hC9 :)⟩)
  | 3, _, hN, k0 => exact (RC.of ⟨(RC.now hC9 :), (RC.limit hC9 :), (RC.nP hC9 :), (RC.nZ hC9 :), (RC.nH hC9 :), (RC.nF hC9 :), (RC.nU hC9 :), (RC.nS hC9 :), (RC.nB hC9 :), (RC.nT hC9 :), (RC.nR hC9 :), (RC.zero hC9 :), (RC.low hC9 :), (RC.beside hC9 :), (hN), (RC.stF0 hC9 :), (RC.stF1 hC9 :), (RC.stF2 hC9 :), (k0), (RC.stF4 hC9 :), (RC.stF5 hC9 :), (RC.bN0 hC9 :), (RC.bN1 hC9 :), (RC.bN2 hC9 :), (RC.bN3 hC9 :), (RC.bN4 hC9 :), (RC.bN5 hC9 :), (RC.bH0 hC9 :), (RC.bH1 hC9 :), (RC.bH2 hC9 :), (RC.bH3 hC9 :), (RC.bH4 hC9 :), (RC.bH5 hC9 :), (RC.bF0 hC9 :), (RC.bF1 hC9 :), (RC.bF2 hC9 :), (RC.bF3 hC9 :), (RC.bF4 hC9 :), (RC.bF5 hC9 :), (RC.zP hC9 :), (RC.zZ hC9 :), (RC.zF hC9 :), (RC.zK hC9 :), (RC.hP hC9 :), (RC.hT hC9 :), (RC.hK hC9 :), (RC.hR hC9 :), (RC.hKn hC9 :), (RC.hS hC9 :), (RC.hSm hC9 :), (RC.fP hC9 :), (RC.fT hC9 :), (RC.fN hC9 :), (RC.fW hC9 :), (RC.fKn hC9 :), (RC.fS hC9 :), (RC.uP hC9 :), (RC.uK hC9 :), (RC.uF hC9 :), (RC.uT hC9 :), (RC.uM hC9 :), (RC.uKn hC9 :), (RC.sP hC9 :), (RC.sD hC9 :), (RC.sT hC9 :), (RC.sN hC9 :), (RC.st hC9 :), (RC.pP hC9 :), (RC.pT hC9 :), (RC.pF hC9 :), (RC.tB hC9 :), (RC.rB hC9 :), (RC.ref hC9 :), (RC.ordR hC9 :), (RC.ordS hC9 :), (RC.ordA hC9 :)⟩)
  | 4, _, hN, k0 => exact (RC.of ⟨(RC.now hC9 :), (RC.limit hC9 :), (RC.nP hC9 :), (RC.nZ hC9 :), (RC.nH hC9 :), (RC.nF hC9 :), (RC.nU hC9 :), (RC.nS hC9 :), (RC.nB hC9 :), (RC.nT hC9 :), (RC.nR hC9 :), (RC.zero hC9 :), (RC.low hC9 :), (RC.beside hC9 :), (hN), (RC.stF0 hC9 :), (RC.stF1 hC9 :), (RC.stF2 hC9 :), (RC.stF3 hC9 :), (k0), (RC.stF5 hC9 :), (RC.bN0 hC9 :), (RC.bN1 hC9 :), (RC.bN2 hC9 :), (RC.bN3 hC9 :), (RC.bN4 hC9 :), (RC.bN5 hC9 :), (RC.bH0 hC9 :), (RC.bH1 hC9 :), (RC.bH2 hC9 :), (RC.bH3 hC9 :), (RC.bH4 hC9 :), (RC.bH5 hC9 :), (RC.bF0 hC9 :), (RC.bF1 hC9 :), (RC.bF2 hC9 :), (RC.bF3 hC9 :), (RC.bF4 hC9 :), (RC.bF5 hC9 :), (RC.zP hC9 :), (RC.zZ hC9 :), (RC.zF hC9 :), (RC.zK hC9 :), (RC.hP hC9 :), (RC.hT hC9 :), (RC.hK hC9 :), (RC.hR hC9 :), (RC.hKn hC9 :), (RC.hS hC9 :), (RC.hSm hC9 :), (RC.fP hC9 :), (RC.fT hC9 :), (RC.fN hC9 :), (RC.fW hC9 :), (RC.fKn hC9 :), (RC.fS hC9 :), (RC.uP hC9 :), (RC.uK hC9 :), (RC.uF hC9 :), (RC.uT hC9 :), (RC.uM hC9 :), (RC.uKn hC9 :), (RC.sP hC9 :), (RC.sD hC9 :), (RC.sT hC9 :), (RC.sN hC9 :), (RC.st hC9 :), (RC.pP hC9 :), (RC.pT hC9 :), (RC.pF hC9 :), (RC.tB hC9 :), (RC.rB hC9 :), (RC.ref hC9 :), (RC.ordR hC9 :), (RC.ordS hC9 :), (RC.ordA hC9 :)⟩)
  | 5, _, hN, k0 => exact (RC.of ⟨(RC.now hC9 :), (RC.limit hC9 :), (RC.nP hC9 :), (RC.nZ hC9 :), (RC.nH hC9 :), (RC.nF hC9 :), (RC.nU hC9 :), (RC.nS hC9 :), (RC.nB hC9 :), (RC.nT hC9 :), (RC.nR hC9 :), (RC.zero hC9 :), (RC.low hC9 :), (RC.beside hC9 :), (hN), (RC.stF0 hC9 :), (RC.stF1 hC9 :), (RC.stF2 hC9 :), (RC.stF3 hC9 :), (RC.stF4 hC9 :), (k0), (RC.bN0 hC9 :), (RC.bN1 hC9 :), (RC.bN2 hC9 :), (RC.bN3 hC9 :), (RC.bN4 hC9 :), (RC.bN5 hC9 :), (RC.bH0 hC9 :), (RC.bH1 hC9 :), (RC.bH2 hC9 :), (RC.bH3 hC9 :), (RC.bH4 hC9 :), (RC.bH5 hC9 :), (RC.bF0 hC9 :), (RC.bF1 hC9 :), (RC.bF2 hC9 :), (RC.bF3 hC9 :), (RC.bF4 hC9 :), (RC.bF5 hC9 :), (RC.zP hC9 :), (RC.zZ hC9 :), (RC.zF hC9 :), (RC.zK hC9 :), (RC.hP hC9 :), (RC.hT hC9 :), (RC.hK hC9 :), (RC.hR hC9 :), (RC.hKn hC9 :), (RC.hS hC9 :), (RC.hSm hC9 :), (RC.fP hC9 :), (RC.fT hC9 :), (RC.fN hC9 :), (RC.fW hC9 :), (RC.fKn hC9 :), (RC.fS hC9 :), (RC.uP hC9 :), (RC.uK hC9 :), (RC.uF hC9 :), (RC.uT hC9 :), (RC.uM hC9 :), (RC.uKn hC9 :), (RC.sP hC9 :), (RC.sD hC9 :), (RC.sT hC9 :), (RC.sN hC9 :), (RC.st hC9 :), (RC.pP hC9 :), (RC.pT hC9 :), (RC.pF hC9 :), (RC.tB hC9 :), (RC.rB hC9 :), (RC.ref hC9 :), (RC.ordR hC9 :), (RC.ordS hC9 :), (RC.ordA hC9 :)⟩)
  | p + 6, hp, _, _ => exact absurd hp (by omega)
theorem mem6 (hq : q < 6) : 8 + q ∈ [6, 8, 9, 10, 11, 12, 13] := by
  match q, hq with
  | 0, _ => decide
  | 1, _ => decide
  | 2, _ => decide
  | 3, _ => decide
  | 4, _ => decide
  | 5, _ => decide
  | p + 6, hp => exact absurd hp (by omega)
theorem stretchC (h : DC A S t) (hO : OK t S) (ht : t < 512) (hF : 1000 ≤ F) : Ret (x65_stretch F p v A) (S.stretch p v).1 (fun A1 => DC A1 (S.stretch p v).2 (t + 1)) := by
  have hnP := hO.nP
  unfold x65_stretch St.stretch
  by_cases hp : S.isP p
  · obtain ⟨q, rfl⟩ : ∃ q : Nat, p = q := ⟨p.toNat, by omega⟩
    have hq : q < 6 := by omega
    have hb := hO.stN q hq
    rw [hasC1 h.1 hp, if_pos hp]
    simp only [rz_b_some, Int.toNat_natCast]
    unfold x66_beginsAt
    have hl := beginsC (F := F) (v := v) h.1 hO hq F (S.stN q).toNat 0 (by omega) (by omega)
    have hl' : x66_beginsAt_2 F F q v 0 A = some (if S.bg q v (S.stN q).toNat 0 = true then 1 else 0, A) := hl
    rw [if_neg (by decide), hl']
    simp only [rz_b_some]
    by_cases c1 : S.bg q v (S.stN q).toNat 0 = true
    · rw [if_pos c1, if_neg (by decide), if_pos c1]
      exact lk1 h.up hO ht (by decide) (by decide)
    · rw [if_neg c1, if_pos rfl, if_neg c1, timC]
      simp only [rz_b_some]
      by_cases c2 : timV v v = 0
      · rw [if_pos c2, if_pos c2, gxp (by omega) (by omega), h.1.stN]
        by_cases c3 : S.stN q = 8
        · rw [if_pos (by omega), if_pos c3]
          exact lk1 h.up hO ht (by decide) (by decide)
        · have e := congrFun h.1.stN q
          rw [if_neg (by omega), if_neg c3, begin_step hq, gxp (by omega) (by omega), gxp (by omega) (by omega), g32p (by omega)]
          simp only [rz_b_some]
          have fr : Fr [6, 8, 9, 10, 11, 12, 13] [] A (aI (aI A (8 + q) (A.1 6 q).toNat v) 6 q (A.1 6 q + 1)) := Fr.aI (Fr.aI Fr.rfl (Or.inl (mem6 hq))) (Or.inl (by decide))
          have hci := h.2.up.fr fr (by decide)
          have hrc := h.1.stre (v := v) hq
          exact Ret.eq (Ret.mk ⟨hrc, hci⟩) (by rw [e])
      · rw [if_neg c2, if_neg c2]
        exact lk1v h.up hO ht (timV_n c2)
  · rw [hasC0 h.1 hp, if_neg hp]
    simp only [rz_b_some]
    rw [if_pos (by decide)]
    exact lk1 h.up hO ht (by decide) (by decide)
theorem beginsM (h : RM A S) (hO : OK t S) (hp : q < 6) : ∀ (n z i : Nat), i + z = (S.stN q).toNat → z < n → x178_stretch_16 F n q v i A = if S.bg q v z i = true then (rz_b (x142_no F (-3) A) fun r9 A9 => some (r9, A9)) else x178_stretch_54 F q v A := by
  have hb := hO.stN q hp
  intro n
  induction n with
  | zero => intro z i h1 h2; omega
  | succ n ih =>
    intro z i h1 h2
    unfold x178_stretch_16
    rw [gxp (by omega) (by omega), h.stN, Int.toNat_natCast]
    cases z with
    | zero =>
      rw [if_neg (by omega)]
      rfl
    | succ z =>
      have g32 : r32 ((i : Int) + 1) := by omega
      have e1 : (8 * (q : Int) + i).toNat = 8 * q + i := by omega
      have e2 := h.stF q i hp (by omega)
      unfold St.bg
      rw [if_pos (by omega), g32p (by omega), g32p (by omega), gxp (by omega) (by omega), g32p g32, e1, e2, show (i : Int) + 1 = ((i + 1 : Nat) : Int) by omega]
      by_cases c1 : S.stF q i = v
      · rw [if_pos c1, if_pos c1, if_pos rfl]
      · rw [if_neg c1, if_neg c1]
        exact ih z (i + 1) (by omega) (by omega)
theorem stretchM (h : DM A S t) (hO : OK t S) (ht : t < 512) (hF : 1000 ≤ F) : Ret (x178_stretch F p v A) (S.stretch p v).1 (fun A1 => DM A1 (S.stretch p v).2 (t + 1)) := by
  have hnP := hO.nP
  have hsm := h.2.sm
  unfold x178_stretch St.stretch
  by_cases hp : S.isP p
  · obtain ⟨q, rfl⟩ : ∃ q : Nat, p = q := ⟨p.toNat, by omega⟩
    have hq : q < 6 := by omega
    have hb := hO.stN q hq
    rw [hasM1 h.1 hp, if_pos hp]
    simp only [rz_b_some, Int.toNat_natCast]
    have hl := beginsM (F := F) (v := v) h.1 hO hq F (S.stN q).toNat 0 (by omega) (by omega)
    have hl' : x178_stretch_16 F F q v 0 A = if S.bg q v (S.stN q).toNat 0 = true then (rz_b (x142_no F (-3) A) fun r9 A9 => some (r9, A9)) else x178_stretch_54 F q v A := hl
    rw [if_neg (by decide), hl']
    by_cases c1 : S.bg q v (S.stN q).toNat 0 = true
    · rw [if_pos c1, if_pos c1]
      exact lm1 h.up hO ht (by decide) (by decide)
    · rw [if_neg c1, if_neg c1]
      unfold x178_stretch_54
      rw [timM]
      simp only [rz_b_some]
      by_cases c2 : timV v v = 0
      · have e1 : (8 * (q : Int) + S.stN q).toNat = 8 * q + (S.stN q).toNat := by omega
        rw [if_pos c2, if_pos c2, gxp (by omega) (by omega), h.1.stN, Int.toNat_natCast, e1]
        by_cases c3 : S.stN q = 8
        · rw [if_pos c3, if_pos c3]
          exact lm1 h.up hO ht (by decide) (by decide)
        · rw [if_neg c3, if_neg c3, g32p (by omega), g32p (by omega), gxp (by omega) (by omega), g32p (by omega), g32p (by omega)]
          have hM9 := h.1
          have hN : (fun b => if b = q then S.stN q + 1 else A.1 95 b) = up S.stN q (S.stN q + 1) := by rw [h.1.stN]
          have hS : ∀ p i, p < 6 → i < 8 → (if 8 * p + i = 8 * q + (S.stN q).toNat then v else A.1 97 (8 * p + i)) = up2 S.stF q (S.stN q).toNat v p i := fun p i h1 h2 => by
            have h3 := h.1.stF p i h1 h2
            unfold up2 up
            by_cases c4 : p = q
            · rw [if_pos c4, c4]
              rw [c4] at h3
              by_cases c5 : i = (S.stN q).toNat
              · rw [if_pos (by omega), if_pos c5]
              · rw [if_neg (by omega), if_neg c5, h3]
            · rw [if_neg c4, if_neg (by omega), h3]
          exact Ret.mk ⟨(RM.of ⟨(RM.now hM9 :), (RM.nP hM9 :), (RM.nZ hM9 :), (RM.nH hM9 :), (RM.nF hM9 :), (RM.nS hM9 :), (RM.nU hM9 :), (RM.nB hM9 :), (RM.nT hM9 :), (RM.nR hM9 :), (RM.limit hM9 :), (RM.zero hM9 :), (RM.low hM9 :), (RM.beside hM9 :), (hN), (RM.bN hM9 :), (hS), (RM.bH hM9 :), (RM.bF hM9 :), (RM.zP hM9 :), (RM.zZ hM9 :), (RM.zF hM9 :), (RM.zK hM9 :), (RM.hP hM9 :), (RM.hT hM9 :), (RM.hK hM9 :), (RM.hR hM9 :), (RM.hKn hM9 :), (RM.hS hM9 :), (RM.fP hM9 :), (RM.fT hM9 :), (RM.fN hM9 :), (RM.fW hM9 :), (RM.fKn hM9 :), (RM.fS hM9 :), (RM.uP hM9 :), (RM.uK hM9 :), (RM.uF hM9 :), (RM.uT hM9 :), (RM.uM hM9 :), (RM.uKn hM9 :), (RM.sP hM9 :), (RM.sD hM9 :), (RM.sT hM9 :), (RM.sN hM9 :), (RM.st hM9 :), (RM.pP hM9 :), (RM.pT hM9 :), (RM.pF hM9 :), (RM.tB hM9 :), (RM.rB hM9 :), (RM.ref hM9 :)⟩), h.2.bump rfl rfl⟩
      · rw [if_neg c2, if_neg c2]
        exact lm1v h.up hO ht (timV_n c2)
  · rw [hasM0 h.1 hp, if_neg hp]
    simp only [rz_b_some]
    rw [if_pos (by decide)]
    exact lm1 h.up hO ht (by decide) (by decide)
theorem stretchO (hO : OK t S) : OK (t + 1) (S.stretch p v).2 := by
  have hnP := hO.nP
  unfold St.stretch
  by_cases hp : S.isP p
  · have hq : p.toNat < 6 := by omega
    have hb := hO.stN p.toNat hq
    rw [if_pos hp]
    by_cases c1 : S.bg p.toNat v (S.stN p.toNat).toNat 0 = true
    · rw [if_pos c1]
      exact hO.no 2
    · rw [if_neg c1]
      by_cases c2 : timV v v = 0
      · rw [if_pos c2]
        by_cases c3 : S.stN p.toNat = 8
        · rw [if_pos c3]
          exact hO.no 5
        · rw [if_neg c3]
          have hv : 0 ≤ v ∧ v ≤ 9999 := by
            unfold timV at c2
            by_cases d1 : v < 0 ∨ v < 0
            · rw [if_pos d1] at c2
              omega
            · rw [if_neg d1] at c2
              by_cases d2 : 9999 < v ∨ 9999 < v
              · rw [if_pos d2] at c2
                omega
              · omega
          have h1 : ∀ r, r < 6 → 0 ≤ up S.stN p.toNat (S.stN p.toNat + 1) r ∧ up S.stN p.toNat (S.stN p.toNat + 1) r ≤ 8 := fun r hr => by
            have h3 := hO.stN r hr
            unfold up
            split <;> omega
          have h2 : ∀ r i : Nat, r < 6 → (i : Int) < up S.stN p.toNat (S.stN p.toNat + 1) r → 0 ≤ up2 S.stF p.toNat (S.stN p.toNat).toNat v r i ∧ up2 S.stF p.toNat (S.stN p.toNat).toNat v r i ≤ 9999 := fun r i hr hi => by
            have h3 := hO.stF r i hr
            unfold up at hi
            unfold up2 up
            by_cases c4 : r = p.toNat
            · rw [if_pos c4] at hi ⊢
              rw [c4] at h3
              by_cases c5 : i = (S.stN p.toNat).toNat
              · rw [if_pos c5]
                exact hv
              · rw [if_neg c5]
                exact h3 (by omega)
            · rw [if_neg c4] at hi ⊢
              exact h3 hi
          exact (OK.of ⟨(OK.now (hO.mono) :), (OK.limit (hO.mono) :), (OK.nP (hO.mono) :), (OK.nZ (hO.mono) :), (OK.nH (hO.mono) :), (OK.nF (hO.mono) :), (OK.nU (hO.mono) :), (OK.nS (hO.mono) :), (OK.nB (hO.mono) :), (OK.nT (hO.mono) :), (OK.nR (hO.mono) :), (OK.zero (hO.mono) :), (OK.low (hO.mono) :), (OK.beside (hO.mono) :), (h1), (h2), (OK.bN (hO.mono) :), (OK.b (hO.mono) :), (OK.bs (hO.mono) :), (OK.z (hO.mono) :), (OK.h (hO.mono) :), (OK.f (hO.mono) :), (OK.u (hO.mono) :), (OK.s (hO.mono) :), (OK.sv (hO.mono) :), (OK.p (hO.mono) :), (OK.tB (hO.mono) :), (OK.rB (hO.mono) :), (OK.ref (hO.mono) :)⟩)
      · rw [if_neg c2]
        exact hO.no _
  · rw [if_neg hp]
    exact hO.no 0
end STRE
