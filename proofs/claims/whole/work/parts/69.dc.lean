set_option maxRecDepth 8000
section CALLS9
variable {t t' F : Nat} {A A0 A' A1 : rz_A} {S S' : St} {a b c d e p r : Int} {cs : List Nat} {fs : List (Nat × Nat)} {x : Option (Int × rz_A)}
theorem CI.cg (h : CI A S t) (e1 : S'.vw = S.vw) (e2 : S'.fl = S.fl) : CI A S' t := CI.of ⟨h.st, by rw [e1]; exact h.vw, h.rd, h.dr, by rw [e1, e2]; exact h.cv⟩
theorem MI.cg (h : MI A S t) (e1 : S'.vw = S.vw) (e2 : S'.fl = S.fl) : MI A S' t := MI.of ⟨h.sm, h.st, by rw [e1, e2]; exact h.cv⟩
theorem DC.ofR (hD : DC A S t) (h : Ret x r (fun A1 => RC A1 S')) (fr : ∀ A1, x = some (r, A1) → Fr cs fs A A1) (hc : fr_okf ciRows ciSlots cs fs = true) (e1 : S'.vw = S.vw) (e2 : S'.fl = S.fl) : Ret x r (fun A1 => DC A1 S' (t + 1)) := by
  obtain ⟨A1, e, hA⟩ := h
  exact ⟨A1, e, hA, (hD.2.up.fr (fr A1 e) hc).cg e1 e2⟩
theorem DM.ofR (hD : DM A S t) (h : Ret x r (fun A1 => RM A1 S')) (fr : ∀ A1, x = some (r, A1) → Fr cs fs A A1) (hc : fr_okf miRows miSlots cs fs = true) (e1 : S'.vw = S.vw) (e2 : S'.fl = S.fl) : Ret x r (fun A1 => DM A1 S' (t + 1)) := by
  obtain ⟨A1, e, hA⟩ := h
  exact ⟨A1, e, hA, (hD.2.up.fr (fr A1 e) hc).cg e1 e2⟩
theorem goC' (hD : DC A S t) (hO : OK t S) (ht : t < 512) : Ret (x0_go F a A) (S.go a).1 (fun A1 => DC A1 (S.go a).2 (t + 1)) :=
  hD.ofR (goC hD.1 hO ht) (fun A1 e => wx0_go F e) (by decide) (by
    unfold St.go
    repeat' split
    all_goals rfl) (by
    unfold St.go
    repeat' split
    all_goals rfl)
theorem limitC' (hD : DC A S t) (hO : OK t S) (ht : t < 512) : Ret (x139_limit F a A) (S.setLimit a).1 (fun A1 => DC A1 (S.setLimit a).2 (t + 1)) :=
  hD.ofR (limitC hD.1 hO ht) (fun A1 e => wx139_limit F e) (by decide) (by
    unfold St.setLimit
    repeat' split
    all_goals rfl) (by
    unfold St.setLimit
    repeat' split
    all_goals rfl)
theorem putC' (hD : DC A S t) (hO : OK t S) (ht : t < 512) : Ret (x109_put F a A) (S.put a).1 (fun A1 => DC A1 (S.put a).2 (t + 1)) :=
  hD.ofR (putC hD.1 hO ht) (fun A1 e => wx109_put F e) (by decide) (by
    unfold St.put
    repeat' split
    all_goals rfl) (by
    unfold St.put
    repeat' split
    all_goals rfl)
theorem lowC' (hD : DC A S t) (hO : OK t S) (ht : t < 512) : Ret (x64_low F a b A) (S.setLow a b).1 (fun A1 => DC A1 (S.setLow a b).2 (t + 1)) :=
  hD.ofR (lowC hD.1 hO ht) (fun A1 e => wx64_low F e) (by decide) (by
    unfold St.setLow
    repeat' split
    all_goals rfl) (by
    unfold St.setLow
    repeat' split
    all_goals rfl)
theorem besideC' (hD : DC A S t) (hO : OK t S) (ht : t < 512) : Ret (x112_beside F a b A) (S.setBeside a b).1 (fun A1 => DC A1 (S.setBeside a b).2 (t + 1)) :=
  hD.ofR (besideC hD.1 hO ht) (fun A1 e => wx112_beside F e) (by decide) (by
    unfold St.setBeside
    repeat' split
    all_goals rfl) (by
    unfold St.setBeside
    repeat' split
    all_goals rfl)
theorem underC' (hD : DC A S t) (hO : OK t S) (ht : t < 512) : Ret (x82_under F a b c d e A) (S.under a b c d e).1 (fun A1 => DC A1 (S.under a b c d e).2 (t + 1)) :=
  hD.ofR (underC hD.1 hO ht) (fun A1 e => wx82_under F e) (by decide) (by
    unfold St.under
    repeat' split
    all_goals rfl) (by
    unfold St.under
    repeat' split
    all_goals rfl)
theorem goM' (hD : DM A S t) (hO : OK t S) (ht : t < 512) : Ret (x141_go F a A) (S.go a).1 (fun A1 => DM A1 (S.go a).2 (t + 1)) :=
  hD.ofR (goM hD.1 hO ht) (fun A1 e => wx141_go F e) (by decide) (by
    unfold St.go
    repeat' split
    all_goals rfl) (by
    unfold St.go
    repeat' split
    all_goals rfl)
theorem limitM' (hD : DM A S t) (hO : OK t S) (ht : t < 512) : Ret (x212_limit F a A) (S.setLimit a).1 (fun A1 => DM A1 (S.setLimit a).2 (t + 1)) :=
  hD.ofR (limitM hD.1 hO ht) (fun A1 e => wx212_limit F e) (by decide) (by
    unfold St.setLimit
    repeat' split
    all_goals rfl) (by
    unfold St.setLimit
    repeat' split
    all_goals rfl)
theorem putM' (hD : DM A S t) (hO : OK t S) (ht : t < 512) : Ret (x200_put F a A) (S.put a).1 (fun A1 => DM A1 (S.put a).2 (t + 1)) :=
  hD.ofR (putM hD.1 hO ht) (fun A1 e => wx200_put F e) (by decide) (by
    unfold St.put
    repeat' split
    all_goals rfl) (by
    unfold St.put
    repeat' split
    all_goals rfl)
theorem besideM' (hD : DM A S t) (hO : OK t S) (ht : t < 512) : Ret (x202_beside F a b A) (S.setBeside a b).1 (fun A1 => DM A1 (S.setBeside a b).2 (t + 1)) :=
  hD.ofR (besideM hD.1 hO ht) (fun A1 e => wx202_beside F e) (by decide) (by
    unfold St.setBeside
    repeat' split
    all_goals rfl) (by
    unfold St.setBeside
    repeat' split
    all_goals rfl)
theorem movedC' (hD : DC A S t) (hO : OK t S) (ht : t < 512) : Ret (x4_moved F a b c A) (S.moved a b c).1 (fun A1 => DC A1 (S.moved a b c).2 (t + 1)) := by
  have h := hD.1
  have hC9 := hD.1
  have h1 := hO.nP
  have h2 := hO.nZ
  unfold x4_moved St.moved x7_move x6_forget
  by_cases hp : S.isP a
  · rw [hasC1 h hp, if_pos hp]
    simp only [rz_b_some]
    rw [if_neg (by decide)]
    simp only [h.nZ, h.now]
    repeat' (first | split | (simp (disch := omega) only [g32p, g64p, gxp, gnp, gzp, rz_b_some, Int.toNat_natCast]))
    all_goals first | (first | exact lk1 hD.up hO ht (by decide) (by decide) | exact lk2 hD.up hO ht (by decide) (by decide) | (exfalso; omega)) | skip
    have e1 : (aI A 51 5 0).1 2 1 = S.nZ := h.nZ
    have e2 : (aI A 51 5 0).1 0 16 = S.now := h.now
    simp only [e1, e2]
    (simp (disch := omega) only [g32p, g64p, gxp, gnp, gzp, rz_b_some, Int.toNat_natCast])
    exact Ret.mk ⟨(RC.of ⟨(RC.now hC9 :), (RC.limit hC9 :), (RC.nP hC9 :), (rfl), (RC.nH hC9 :), (RC.nF hC9 :), (RC.nU hC9 :), (RC.nS hC9 :), (RC.nB hC9 :), (RC.nT hC9 :), (RC.nR hC9 :), (RC.zero hC9 :), (RC.low hC9 :), (RC.beside hC9 :), (RC.stN hC9 :), (RC.stF0 hC9 :), (RC.stF1 hC9 :), (RC.stF2 hC9 :), (RC.stF3 hC9 :), (RC.stF4 hC9 :), (RC.stF5 hC9 :), (RC.bN0 hC9 :), (RC.bN1 hC9 :), (RC.bN2 hC9 :), (RC.bN3 hC9 :), (RC.bN4 hC9 :), (RC.bN5 hC9 :), (RC.bH0 hC9 :), (RC.bH1 hC9 :), (RC.bH2 hC9 :), (RC.bH3 hC9 :), (RC.bH4 hC9 :), (RC.bH5 hC9 :), (RC.bF0 hC9 :), (RC.bF1 hC9 :), (RC.bF2 hC9 :), (RC.bF3 hC9 :), (RC.bF4 hC9 :), (RC.bF5 hC9 :), ((congrArg (fun f => up f _ _) h.zP)), ((congrArg (fun f => up f _ _) h.zZ)), ((congrArg (fun f => up f _ _) h.zF)), ((congrArg (fun f => up f _ _) h.zK)), (RC.hP hC9 :), (RC.hT hC9 :), (RC.hK hC9 :), (RC.hR hC9 :), (RC.hKn hC9 :), (RC.hS hC9 :), (RC.hSm hC9 :), (RC.fP hC9 :), (RC.fT hC9 :), (RC.fN hC9 :), (RC.fW hC9 :), (RC.fKn hC9 :), (RC.fS hC9 :), (RC.uP hC9 :), (RC.uK hC9 :), (RC.uF hC9 :), (RC.uT hC9 :), (RC.uM hC9 :), (RC.uKn hC9 :), (RC.sP hC9 :), (RC.sD hC9 :), (RC.sT hC9 :), (RC.sN hC9 :), (RC.st hC9 :), (RC.pP hC9 :), (RC.pT hC9 :), (RC.pF hC9 :), (RC.tB hC9 :), (RC.rB hC9 :), (RC.ref hC9 :), (RC.ordR hC9 :), (RC.ordS hC9 :), (RC.ordA hC9 :)⟩), hD.2.forget rfl rfl rfl⟩
  · rw [hasC0 h hp, if_neg hp]
    simp only [rz_b_some, if_true]
    (first | exact lk1 hD.up hO ht (by decide) (by decide) | exact lk2 hD.up hO ht (by decide) (by decide) | (exfalso; omega))
theorem measureC' (hD : DC A S t) (hO : OK t S) (ht : t < 512) : Ret (x34_measure F a b c d A) (S.measure a b c d).1 (fun A1 => DC A1 (S.measure a b c d).2 (t + 1)) := by
  have h := hD.1
  have hC9 := hD.1
  have h1 := hO.nP
  have h2 := hO.nF
  unfold x34_measure St.measure x35_come x6_forget
  by_cases hp : S.isP a
  · rw [hasC1 h hp, if_pos hp]
    simp only [rz_b_some]
    rw [if_neg (by decide)]
    simp only [h.nF, h.now]
    repeat' (first | split | (simp (disch := omega) only [g32p, g64p, gxp, gnp, gzp, rz_b_some, Int.toNat_natCast]))
    all_goals first | (first | exact lk1 hD.up hO ht (by decide) (by decide) | exact lk2 hD.up hO ht (by decide) (by decide) | (exfalso; omega)) | skip
    have e1 : (aI A 51 5 0).1 26 0 = S.nF := h.nF
    have e2 : (aI A 51 5 0).1 0 16 = S.now := h.now
    simp only [e1, e2]
    (simp (disch := omega) only [g32p, g64p, gxp, gnp, gzp, rz_b_some, Int.toNat_natCast])
    rw [show (S.nF : Int) + 1 - 1 = S.nF by omega]
    have hfS : ∀ i, i < S.nF + 1 → (if i = S.nF then (2147483647 : Int) else A.1 32 i) = if up S.fS S.nF (-1) i < 0 then 2147483647 else up S.fS S.nF (-1) i := fun i hi => by
      have h3 := h.fS i
      unfold up
      by_cases e : i = S.nF
      · simp [e]
      · simp only [e, if_false]
        exact h3 (by omega)
    exact Ret.mk ⟨(RC.of ⟨(RC.now hC9 :), (RC.limit hC9 :), (RC.nP hC9 :), (RC.nZ hC9 :), (RC.nH hC9 :), (rfl), (RC.nU hC9 :), (RC.nS hC9 :), (RC.nB hC9 :), (RC.nT hC9 :), (RC.nR hC9 :), (RC.zero hC9 :), (RC.low hC9 :), (RC.beside hC9 :), (RC.stN hC9 :), (RC.stF0 hC9 :), (RC.stF1 hC9 :), (RC.stF2 hC9 :), (RC.stF3 hC9 :), (RC.stF4 hC9 :), (RC.stF5 hC9 :), (RC.bN0 hC9 :), (RC.bN1 hC9 :), (RC.bN2 hC9 :), (RC.bN3 hC9 :), (RC.bN4 hC9 :), (RC.bN5 hC9 :), (RC.bH0 hC9 :), (RC.bH1 hC9 :), (RC.bH2 hC9 :), (RC.bH3 hC9 :), (RC.bH4 hC9 :), (RC.bH5 hC9 :), (RC.bF0 hC9 :), (RC.bF1 hC9 :), (RC.bF2 hC9 :), (RC.bF3 hC9 :), (RC.bF4 hC9 :), (RC.bF5 hC9 :), (RC.zP hC9 :), (RC.zZ hC9 :), (RC.zF hC9 :), (RC.zK hC9 :), (RC.hP hC9 :), (RC.hT hC9 :), (RC.hK hC9 :), (RC.hR hC9 :), (RC.hKn hC9 :), (RC.hS hC9 :), (RC.hSm hC9 :), ((congrArg (fun f => up f _ _) h.fP)), ((congrArg (fun f => up f _ _) h.fT)), ((congrArg (fun f => up f _ _) h.fN)), ((congrArg (fun f => up f _ _) h.fW)), ((congrArg (fun f => up f _ _) h.fKn)), (hfS), (RC.uP hC9 :), (RC.uK hC9 :), (RC.uF hC9 :), (RC.uT hC9 :), (RC.uM hC9 :), (RC.uKn hC9 :), (RC.sP hC9 :), (RC.sD hC9 :), (RC.sT hC9 :), (RC.sN hC9 :), (RC.st hC9 :), (RC.pP hC9 :), (RC.pT hC9 :), (RC.pF hC9 :), (RC.tB hC9 :), (RC.rB hC9 :), (RC.ref hC9 :), (RC.ordR hC9 :), (RC.ordS hC9 :), (RC.ordA hC9 :)⟩), hD.2.forget rfl rfl rfl⟩
  · rw [hasC0 h hp, if_neg hp]
    simp only [rz_b_some, if_true]
    (first | exact lk1 hD.up hO ht (by decide) (by decide) | exact lk2 hD.up hO ht (by decide) (by decide) | (exfalso; omega))
theorem dropC' (hD : DC A S t) (hO : OK t S) (ht : t < 512) : Ret (x36_drop F a A) (S.drop a).1 (fun A1 => DC A1 (S.drop a).2 (t + 1)) := by
  have h := hD.1
  have hC9 := hD.1
  have h1 := hO.nF
  have h0 := hO.now
  unfold x36_drop St.drop x37_has x6_forget
  simp only [h.nF]
  by_cases hp : 0 ≤ a ∧ a < (S.nF : Int)
  · have hf := h.fS a.toNat (by omega)
    have ho := hO.f a.toNat (by omega)
    rw [if_pos hp.1, if_pos hp.2, if_pos hp]
    simp only [rz_b_some]
    rw [if_neg (by decide)]
    (simp (disch := omega) only [g32p, g64p, gxp, gnp, gzp, rz_b_some, Int.toNat_natCast])
    by_cases hn : 0 ≤ S.fS a.toNat
    · rw [if_neg (by omega)] at hf
      rw [if_pos hn, hf, if_neg (by omega)]
      (first | exact lk1 hD.up hO ht (by decide) (by decide) | exact lk2 hD.up hO ht (by decide) (by decide) | (exfalso; omega))
    · rw [if_pos (by omega)] at hf
      rw [if_neg hn, hf, if_pos rfl]
      have hfS : ∀ i, i < S.nF → (if i = a.toNat then A.1 0 16 else A.1 32 i) = if up S.fS a.toNat S.now i < 0 then 2147483647 else up S.fS a.toNat S.now i := fun i hi => by
        have h3 := h.fS i hi
        have h4 := h.now
        unfold up
        by_cases e : i = a.toNat
        · subst e
          simp only [if_true]
          rw [if_neg (by omega)]
          exact h4
        · simp only [e, if_false]
          exact h3
      exact Ret.mk ⟨(RC.of ⟨(RC.now hC9 :), (RC.limit hC9 :), (RC.nP hC9 :), (RC.nZ hC9 :), (RC.nH hC9 :), (RC.nF hC9 :), (RC.nU hC9 :), (RC.nS hC9 :), (RC.nB hC9 :), (RC.nT hC9 :), (RC.nR hC9 :), (RC.zero hC9 :), (RC.low hC9 :), (RC.beside hC9 :), (RC.stN hC9 :), (RC.stF0 hC9 :), (RC.stF1 hC9 :), (RC.stF2 hC9 :), (RC.stF3 hC9 :), (RC.stF4 hC9 :), (RC.stF5 hC9 :), (RC.bN0 hC9 :), (RC.bN1 hC9 :), (RC.bN2 hC9 :), (RC.bN3 hC9 :), (RC.bN4 hC9 :), (RC.bN5 hC9 :), (RC.bH0 hC9 :), (RC.bH1 hC9 :), (RC.bH2 hC9 :), (RC.bH3 hC9 :), (RC.bH4 hC9 :), (RC.bH5 hC9 :), (RC.bF0 hC9 :), (RC.bF1 hC9 :), (RC.bF2 hC9 :), (RC.bF3 hC9 :), (RC.bF4 hC9 :), (RC.bF5 hC9 :), (RC.zP hC9 :), (RC.zZ hC9 :), (RC.zF hC9 :), (RC.zK hC9 :), (RC.hP hC9 :), (RC.hT hC9 :), (RC.hK hC9 :), (RC.hR hC9 :), (RC.hKn hC9 :), (RC.hS hC9 :), (RC.hSm hC9 :), (RC.fP hC9 :), (RC.fT hC9 :), (RC.fN hC9 :), (RC.fW hC9 :), (RC.fKn hC9 :), (hfS), (RC.uP hC9 :), (RC.uK hC9 :), (RC.uF hC9 :), (RC.uT hC9 :), (RC.uM hC9 :), (RC.uKn hC9 :), (RC.sP hC9 :), (RC.sD hC9 :), (RC.sT hC9 :), (RC.sN hC9 :), (RC.st hC9 :), (RC.pP hC9 :), (RC.pT hC9 :), (RC.pF hC9 :), (RC.tB hC9 :), (RC.rB hC9 :), (RC.ref hC9 :), (RC.ordR hC9 :), (RC.ordS hC9 :), (RC.ordA hC9 :)⟩), hD.2.forget rfl rfl rfl⟩
  · rw [if_neg hp]
    have e0 : (if 0 ≤ a then if a < (S.nF : Int) then some ((1 : Int), A) else some (0, A) else some (0, A)) = some (0, A) := by
      split
      · rw [if_neg (by omega)]
      · rfl
    rw [e0]
    simp only [rz_b_some, if_true]
    (first | exact lk1 hD.up hO ht (by decide) (by decide) | exact lk2 hD.up hO ht (by decide) (by decide) | (exfalso; omega))
theorem movedM' (hD : DM A S t) (hO : OK t S) (ht : t < 512) : Ret (x144_moved F a b c A) (S.moved a b c).1 (fun A1 => DM A1 (S.moved a b c).2 (t + 1)) := by
  have h := hD.1
  have hM9 := hD.1
  have hs : 0 ≤ A.1 91 11 ∧ A.1 91 11 < 512 := by
    have := hD.2.sm
    omega
  have h1 := hO.nP
  have h2 := hO.nZ
  unfold x144_moved St.moved
  by_cases hp : S.isP a
  · rw [hasM1 h hp, if_pos hp]
    simp only [rz_b_some]
    rw [if_neg (by decide)]
    simp only [h.nZ, h.now]
    repeat' (first | split | (simp (disch := omega) only [g32p, g64p, gxp, gnp, gzp, rz_b_some, Int.toNat_natCast]))
    all_goals first | (first | exact lm1 hD.up hO ht (by decide) (by decide) | exact lm2 hD.up hO ht (by decide) (by decide) | (exfalso; omega)) | skip
    exact Ret.mk ⟨(RM.of ⟨(RM.now hM9 :), (RM.nP hM9 :), (rfl), (RM.nH hM9 :), (RM.nF hM9 :), (RM.nS hM9 :), (RM.nU hM9 :), (RM.nB hM9 :), (RM.nT hM9 :), (RM.nR hM9 :), (RM.limit hM9 :), (RM.zero hM9 :), (RM.low hM9 :), (RM.beside hM9 :), (RM.stN hM9 :), (RM.bN hM9 :), (RM.stF hM9 :), (RM.bH hM9 :), (RM.bF hM9 :), ((congrArg (fun f => up f _ _) h.zP)), ((congrArg (fun f => up f _ _) h.zZ)), ((congrArg (fun f => up f _ _) h.zF)), ((congrArg (fun f => up f _ _) h.zK)), (RM.hP hM9 :), (RM.hT hM9 :), (RM.hK hM9 :), (RM.hR hM9 :), (RM.hKn hM9 :), (RM.hS hM9 :), (RM.fP hM9 :), (RM.fT hM9 :), (RM.fN hM9 :), (RM.fW hM9 :), (RM.fKn hM9 :), (RM.fS hM9 :), (RM.uP hM9 :), (RM.uK hM9 :), (RM.uF hM9 :), (RM.uT hM9 :), (RM.uM hM9 :), (RM.uKn hM9 :), (RM.sP hM9 :), (RM.sD hM9 :), (RM.sT hM9 :), (RM.sN hM9 :), (RM.st hM9 :), (RM.pP hM9 :), (RM.pT hM9 :), (RM.pF hM9 :), (RM.tB hM9 :), (RM.rB hM9 :), (RM.ref hM9 :)⟩), hD.2.bump rfl rfl⟩
  · rw [hasM0 h hp, if_neg hp]
    simp only [rz_b_some, if_true]
    (first | exact lm1 hD.up hO ht (by decide) (by decide) | exact lm2 hD.up hO ht (by decide) (by decide) | (exfalso; omega))
theorem lowM' (hD : DM A S t) (hO : OK t S) (ht : t < 512) : Ret (x177_low F a b A) (S.setLow a b).1 (fun A1 => DM A1 (S.setLow a b).2 (t + 1)) := by
  have h := hD.1
  have hM9 := hD.1
  have hs : 0 ≤ A.1 91 11 ∧ A.1 91 11 < 512 := by
    have := hD.2.sm
    omega
  have h1 := hO.nP
  unfold x177_low St.setLow
  by_cases hp : S.isP a
  · rw [hasM1 h hp, if_pos hp]
    simp only [rz_b_some]
    rw [if_neg (by decide)]
    repeat' (first | split | (simp (disch := omega) only [g32p, g64p, gxp, gnp, gzp, rz_b_some, Int.toNat_natCast]))
    all_goals first | (first | exact lm1 hD.up hO ht (by decide) (by decide) | exact lm2 hD.up hO ht (by decide) (by decide) | (exfalso; omega)) | skip
    rw [h.low]
    exact Ret.mk ⟨(RM.of ⟨(RM.now hM9 :), (RM.nP hM9 :), (RM.nZ hM9 :), (RM.nH hM9 :), (RM.nF hM9 :), (RM.nS hM9 :), (RM.nU hM9 :), (RM.nB hM9 :), (RM.nT hM9 :), (RM.nR hM9 :), (RM.limit hM9 :), (RM.zero hM9 :), ((congrArg (fun f => up f _ _) h.low)), (RM.beside hM9 :), (RM.stN hM9 :), (RM.bN hM9 :), (RM.stF hM9 :), (RM.bH hM9 :), (RM.bF hM9 :), (RM.zP hM9 :), (RM.zZ hM9 :), (RM.zF hM9 :), (RM.zK hM9 :), (RM.hP hM9 :), (RM.hT hM9 :), (RM.hK hM9 :), (RM.hR hM9 :), (RM.hKn hM9 :), (RM.hS hM9 :), (RM.fP hM9 :), (RM.fT hM9 :), (RM.fN hM9 :), (RM.fW hM9 :), (RM.fKn hM9 :), (RM.fS hM9 :), (RM.uP hM9 :), (RM.uK hM9 :), (RM.uF hM9 :), (RM.uT hM9 :), (RM.uM hM9 :), (RM.uKn hM9 :), (RM.sP hM9 :), (RM.sD hM9 :), (RM.sT hM9 :), (RM.sN hM9 :), (RM.st hM9 :), (RM.pP hM9 :), (RM.pT hM9 :), (RM.pF hM9 :), (RM.tB hM9 :), (RM.rB hM9 :), (RM.ref hM9 :)⟩), hD.2.bump rfl rfl⟩
  · rw [hasM0 h hp, if_neg hp]
    simp only [rz_b_some, if_true]
    (first | exact lm1 hD.up hO ht (by decide) (by decide) | exact lm2 hD.up hO ht (by decide) (by decide) | (exfalso; omega))
theorem measureM' (hD : DM A S t) (hO : OK t S) (ht : t < 512) : Ret (x163_measure F a b c d A) (S.measure a b c d).1 (fun A1 => DM A1 (S.measure a b c d).2 (t + 1)) := by
  have h := hD.1
  have hM9 := hD.1
  have hs : 0 ≤ A.1 91 11 ∧ A.1 91 11 < 512 := by
    have := hD.2.sm
    omega
  have h1 := hO.nP
  have h2 := hO.nF
  unfold x163_measure St.measure
  by_cases hp : S.isP a
  · rw [hasM1 h hp, if_pos hp]
    simp only [rz_b_some]
    rw [if_neg (by decide)]
    simp only [h.nF, h.now]
    repeat' (first | split | (simp (disch := omega) only [g32p, g64p, gxp, gnp, gzp, rz_b_some, Int.toNat_natCast]))
    all_goals first | (first | exact lm1 hD.up hO ht (by decide) (by decide) | exact lm2 hD.up hO ht (by decide) (by decide) | (exfalso; omega)) | skip
    exact Ret.mk ⟨(RM.of ⟨(RM.now hM9 :), (RM.nP hM9 :), (RM.nZ hM9 :), (RM.nH hM9 :), (rfl), (RM.nS hM9 :), (RM.nU hM9 :), (RM.nB hM9 :), (RM.nT hM9 :), (RM.nR hM9 :), (RM.limit hM9 :), (RM.zero hM9 :), (RM.low hM9 :), (RM.beside hM9 :), (RM.stN hM9 :), (RM.bN hM9 :), (RM.stF hM9 :), (RM.bH hM9 :), (RM.bF hM9 :), (RM.zP hM9 :), (RM.zZ hM9 :), (RM.zF hM9 :), (RM.zK hM9 :), (RM.hP hM9 :), (RM.hT hM9 :), (RM.hK hM9 :), (RM.hR hM9 :), (RM.hKn hM9 :), (RM.hS hM9 :), ((congrArg (fun f => up f _ _) h.fP)), ((congrArg (fun f => up f _ _) h.fT)), ((congrArg (fun f => up f _ _) h.fN)), ((congrArg (fun f => up f _ _) h.fW)), ((congrArg (fun f => up f _ _) h.fKn)), ((congrArg (fun f => up f _ _) h.fS)), (RM.uP hM9 :), (RM.uK hM9 :), (RM.uF hM9 :), (RM.uT hM9 :), (RM.uM hM9 :), (RM.uKn hM9 :), (RM.sP hM9 :), (RM.sD hM9 :), (RM.sT hM9 :), (RM.sN hM9 :), (RM.st hM9 :), (RM.pP hM9 :), (RM.pT hM9 :), (RM.pF hM9 :), (RM.tB hM9 :), (RM.rB hM9 :), (RM.ref hM9 :)⟩), hD.2.bump rfl rfl⟩
  · rw [hasM0 h hp, if_neg hp]
    simp only [rz_b_some, if_true]
    (first | exact lm1 hD.up hO ht (by decide) (by decide) | exact lm2 hD.up hO ht (by decide) (by decide) | (exfalso; omega))
theorem dropM' (hD : DM A S t) (hO : OK t S) (ht : t < 512) : Ret (x164_drop F a A) (S.drop a).1 (fun A1 => DM A1 (S.drop a).2 (t + 1)) := by
  have h := hD.1
  have hM9 := hD.1
  have hs : 0 ≤ A.1 91 11 ∧ A.1 91 11 < 512 := by
    have := hD.2.sm
    omega
  have h1 := hO.nF
  unfold x164_drop St.drop
  simp only [h.nF, h.fS, h.now]
  by_cases hp : 0 ≤ a ∧ a < (S.nF : Int)
  · rw [if_pos hp.1, if_pos hp, if_neg (by omega)]
    (simp (disch := omega) only [g32p, g64p, gxp, gnp, gzp, rz_b_some, Int.toNat_natCast])
    split
    · (first | exact lm1 hD.up hO ht (by decide) (by decide) | exact lm2 hD.up hO ht (by decide) (by decide) | (exfalso; omega))
    · (simp (disch := omega) only [g32p, g64p, gxp, gnp, gzp, rz_b_some, Int.toNat_natCast])
      exact Ret.mk ⟨(RM.of ⟨(RM.now hM9 :), (RM.nP hM9 :), (RM.nZ hM9 :), (RM.nH hM9 :), (RM.nF hM9 :), (RM.nS hM9 :), (RM.nU hM9 :), (RM.nB hM9 :), (RM.nT hM9 :), (RM.nR hM9 :), (RM.limit hM9 :), (RM.zero hM9 :), (RM.low hM9 :), (RM.beside hM9 :), (RM.stN hM9 :), (RM.bN hM9 :), (RM.stF hM9 :), (RM.bH hM9 :), (RM.bF hM9 :), (RM.zP hM9 :), (RM.zZ hM9 :), (RM.zF hM9 :), (RM.zK hM9 :), (RM.hP hM9 :), (RM.hT hM9 :), (RM.hK hM9 :), (RM.hR hM9 :), (RM.hKn hM9 :), (RM.hS hM9 :), (RM.fP hM9 :), (RM.fT hM9 :), (RM.fN hM9 :), (RM.fW hM9 :), (RM.fKn hM9 :), ((congrArg (fun f => up f _ _) h.fS)), (RM.uP hM9 :), (RM.uK hM9 :), (RM.uF hM9 :), (RM.uT hM9 :), (RM.uM hM9 :), (RM.uKn hM9 :), (RM.sP hM9 :), (RM.sD hM9 :), (RM.sT hM9 :), (RM.sN hM9 :), (RM.st hM9 :), (RM.pP hM9 :), (RM.pT hM9 :), (RM.pF hM9 :), (RM.tB hM9 :), (RM.rB hM9 :), (RM.ref hM9 :)⟩), hD.2.bump rfl rfl⟩
  · rw [if_neg hp]
    split
    · rw [if_pos (by omega)]
      (first | exact lm1 hD.up hO ht (by decide) (by decide) | exact lm2 hD.up hO ht (by decide) (by decide) | (exfalso; omega))
    · (first | exact lm1 hD.up hO ht (by decide) (by decide) | exact lm2 hD.up hO ht (by decide) (by decide) | (exfalso; omega))
theorem underM' (hD : DM A S t) (hO : OK t S) (ht : t < 512) : Ret (x186_under F a b c d e A) (S.under a b c d e).1 (fun A1 => DM A1 (S.under a b c d e).2 (t + 1)) := by
  have h := hD.1
  have hM9 := hD.1
  have hs : 0 ≤ A.1 91 11 ∧ A.1 91 11 < 512 := by
    have := hD.2.sm
    omega
  have h1 := hO.nP
  have h2 := hO.nU
  unfold x186_under St.under
  by_cases hp : S.isP a
  · rw [hasM1 h hp, if_pos hp]
    simp only [rz_b_some]
    rw [if_neg (by decide)]
    simp only [h.nU, h.now]
    (repeat' (first | (with_reducible refine Ret.g32 ?_ ?_; · omega) | (with_reducible refine Ret.gx ?_ ?_ ?_; · omega; · omega) | (with_reducible refine Ret.g64 ?_ ?_; · omega) | (with_reducible refine Ret.gn ?_ ?_; · omega) | with_reducible refine Ret.ite (fun _ => ?_) (fun _ => ?_)))
    all_goals first | ((simp (disch := omega) only [if_pos, if_neg]); (first | exact lm1 hD.up hO ht (by decide) (by decide) | exact lm2 hD.up hO ht (by decide) (by decide) | (exfalso; omega))) | (exfalso; omega) | skip
    (simp (disch := omega) only [g32p, g64p, gxp, gnp, gzp, rz_b_some, Int.toNat_natCast])
    (simp (disch := omega) only [if_pos, if_neg])
    exact Ret.mk ⟨(RM.of ⟨(RM.now hM9 :), (RM.nP hM9 :), (RM.nZ hM9 :), (RM.nH hM9 :), (RM.nF hM9 :), (RM.nS hM9 :), (rfl), (RM.nB hM9 :), (RM.nT hM9 :), (RM.nR hM9 :), (RM.limit hM9 :), (RM.zero hM9 :), (RM.low hM9 :), (RM.beside hM9 :), (RM.stN hM9 :), (RM.bN hM9 :), (RM.stF hM9 :), (RM.bH hM9 :), (RM.bF hM9 :), (RM.zP hM9 :), (RM.zZ hM9 :), (RM.zF hM9 :), (RM.zK hM9 :), (RM.hP hM9 :), (RM.hT hM9 :), (RM.hK hM9 :), (RM.hR hM9 :), (RM.hKn hM9 :), (RM.hS hM9 :), (RM.fP hM9 :), (RM.fT hM9 :), (RM.fN hM9 :), (RM.fW hM9 :), (RM.fKn hM9 :), (RM.fS hM9 :), ((congrArg (fun f => up f _ _) h.uP)), ((congrArg (fun f => up f _ _) h.uK)), ((congrArg (fun f => up f _ _) h.uF)), ((congrArg (fun f => up f _ _) h.uT)), ((congrArg (fun f => up f _ _) h.uM)), ((congrArg (fun f => up f _ _) h.uKn)), (RM.sP hM9 :), (RM.sD hM9 :), (RM.sT hM9 :), (RM.sN hM9 :), (RM.st hM9 :), (RM.pP hM9 :), (RM.pT hM9 :), (RM.pF hM9 :), (RM.tB hM9 :), (RM.rB hM9 :), (RM.ref hM9 :)⟩), hD.2.bump rfl rfl⟩
  · rw [hasM0 h hp, if_neg hp]
    simp only [rz_b_some, if_true]
    (first | exact lm1 hD.up hO ht (by decide) (by decide) | exact lm2 hD.up hO ht (by decide) (by decide) | (exfalso; omega))
end CALLS9
