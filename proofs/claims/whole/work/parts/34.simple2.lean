set_option maxRecDepth 8000
/-! the calls that only write down: further -/
section CALLS2
variable {t F : Nat} {A : rz_A} {S : St} {a b c d e p : Int}
theorem postO (hO : OK t S) : OK (t + 1) (S.post a).2 := by
  have h1 := hO.nP
  unfold St.post
  repeat' split
  · exact hO.no 3
  · exact hO.no 5
  · exact hO.no 5
  · have hz : ∀ i, i < S.nP + 1 → -999 ≤ up S.zero S.nP a i ∧ up S.zero S.nP a i ≤ 999 := fun i hi => by
      have h2 := hO.zero i
      unfold up
      split <;> omega
    have hl : ∀ i, i < S.nP + 1 → -2000 ≤ up S.low S.nP (-2000) i ∧ up S.low S.nP (-2000) i ≤ 9999 := fun i hi => by
      have h2 := hO.low i
      unfold up
      split <;> omega
    have hb : ∀ i, i < S.nP + 1 → -1 ≤ up S.beside S.nP (-1) i ∧ up S.beside S.nP (-1) i < ((S.nP + 1 : Nat) : Int) := fun i hi => by
      have h2 := hO.beside i
      unfold up
      split <;> omega
    have hZ := hO.z
    have hH := hO.h
    have hF := hO.f
    have hU := hO.u
    have hP := hO.p
    exact (OK.of ⟨(OK.now (hO.mono) :), (OK.limit (hO.mono) :), ((by show S.nP + 1 ≤ 6; omega)), (OK.nZ (hO.mono) :), (OK.nH (hO.mono) :), (OK.nF (hO.mono) :), (OK.nU (hO.mono) :), (OK.nS (hO.mono) :), (OK.nB (hO.mono) :), (OK.nT (hO.mono) :), (OK.nR (hO.mono) :), (hz), (hl), (hb), (OK.stN (hO.mono) :), (OK.stF (hO.mono) :), (OK.bN (hO.mono) :), (OK.b (hO.mono) :), (OK.bs (hO.mono) :), ((fun i hi => by have h2 := hZ i hi; show (0 ≤ S.zP i ∧ S.zP i < ((S.nP + 1 : Nat) : Int)) ∧ _; refine ⟨⟨h2.1.1, by omega⟩, h2.2⟩)), ((fun i hi => by have h2 := hH i hi; show (0 ≤ S.hP i ∧ S.hP i < ((S.nP + 1 : Nat) : Int)) ∧ _; refine ⟨⟨h2.1.1, by omega⟩, h2.2⟩)), ((fun i hi => by have h2 := hF i hi; show (0 ≤ S.fP i ∧ S.fP i < ((S.nP + 1 : Nat) : Int)) ∧ _; refine ⟨⟨h2.1.1, by omega⟩, h2.2⟩)), ((fun i hi => by have h2 := hU i hi; show (0 ≤ S.uP i ∧ S.uP i < ((S.nP + 1 : Nat) : Int)) ∧ _; refine ⟨⟨h2.1.1, by omega⟩, h2.2⟩)), (OK.s (hO.mono) :), (OK.sv (hO.mono) :), ((fun i hi => by have h2 := hP i hi; show (0 ≤ S.pP i ∧ S.pP i < ((S.nP + 1 : Nat) : Int)) ∧ _; refine ⟨⟨h2.1.1, by omega⟩, h2.2⟩)), (OK.tB (hO.mono) :), (OK.rB (hO.mono) :), (OK.ref (hO.mono) :)⟩)
theorem movedO (hO : OK t S) : OK (t + 1) (S.moved a b c).2 := by
  have h1 := hO.nZ
  have h0 := hO.now
  unfold St.moved
  repeat' split
  · exact hO.no 3
  · exact hO.no 3
  · exact hO.no 5
  · exact hO.no 5
  · exact hO.no 5
  · exact (OK.of ⟨(OK.now (hO.mono) :), (OK.limit (hO.mono) :), (OK.nP (hO.mono) :), ((by show S.nZ + 1 ≤ 60; omega)), (OK.nH (hO.mono) :), (OK.nF (hO.mono) :), (OK.nU (hO.mono) :), (OK.nS (hO.mono) :), (OK.nB (hO.mono) :), (OK.nT (hO.mono) :), (OK.nR (hO.mono) :), (OK.zero (hO.mono) :), (OK.low (hO.mono) :), (OK.beside (hO.mono) :), (OK.stN (hO.mono) :), (OK.stF (hO.mono) :), (OK.bN (hO.mono) :), (OK.b (hO.mono) :), (OK.bs (hO.mono) :), ((fun i hi => by
      have h2 := hO.z i
      have h3 : i < S.nZ + 1 := hi
      show (0 ≤ up S.zP S.nZ a i ∧ up S.zP S.nZ a i < (S.nP : Int)) ∧ (-999 ≤ up S.zZ S.nZ b i ∧ up S.zZ S.nZ b i ≤ 999) ∧ (0 ≤ up S.zF S.nZ c i ∧ up S.zF S.nZ c i ≤ 9999) ∧ 0 ≤ up S.zK S.nZ S.now i ∧ up S.zK S.nZ S.now i ≤ 9999
      unfold up
      split
      · omega
      · exact h2 (by omega))), (OK.h (hO.mono) :), (OK.f (hO.mono) :), (OK.u (hO.mono) :), (OK.s (hO.mono) :), (OK.sv (hO.mono) :), (OK.p (hO.mono) :), (OK.tB (hO.mono) :), (OK.rB (hO.mono) :), (OK.ref (hO.mono) :)⟩)
  · exact hO.no 0
theorem lowC (h : RC A S) (hO : OK t S) (ht : t < 512) : Ret (x64_low F a b A) (S.setLow a b).1 (fun A1 => RC A1 (S.setLow a b).2) := by
  have h1 := hO.nP
  unfold x64_low St.setLow
  by_cases hp : S.isP a
  · rw [hasC1 h hp, if_pos hp]
    simp only [rz_b_some]
    rw [if_neg (by decide)]
    repeat' (first | split | (simp (disch := omega) only [g32p, g64p, gxp, gnp, gzp, rz_b_some, Int.toNat_natCast]))
    all_goals first | (first | exact lfc1 h hO ht (by decide) (by decide) | exact lfc2 h hO ht (by decide) (by decide) | (exfalso; omega)) | skip
    rw [h.low]
    exact Ret.mk (RC.of ⟨(RC.now h :), (RC.limit h :), (RC.nP h :), (RC.nZ h :), (RC.nH h :), (RC.nF h :), (RC.nU h :), (RC.nS h :), (RC.nB h :), (RC.nT h :), (RC.nR h :), (RC.zero h :), ((congrArg (fun f => up f _ _) h.low)), (RC.beside h :), (RC.stN h :), (RC.stF0 h :), (RC.stF1 h :), (RC.stF2 h :), (RC.stF3 h :), (RC.stF4 h :), (RC.stF5 h :), (RC.bN0 h :), (RC.bN1 h :), (RC.bN2 h :), (RC.bN3 h :), (RC.bN4 h :), (RC.bN5 h :), (RC.bH0 h :), (RC.bH1 h :), (RC.bH2 h :), (RC.bH3 h :), (RC.bH4 h :), (RC.bH5 h :), (RC.bF0 h :), (RC.bF1 h :), (RC.bF2 h :), (RC.bF3 h :), (RC.bF4 h :), (RC.bF5 h :), (RC.zP h :), (RC.zZ h :), (RC.zF h :), (RC.zK h :), (RC.hP h :), (RC.hT h :), (RC.hK h :), (RC.hR h :), (RC.hKn h :), (RC.hS h :), (RC.hSm h :), (RC.fP h :), (RC.fT h :), (RC.fN h :), (RC.fW h :), (RC.fKn h :), (RC.fS h :), (RC.uP h :), (RC.uK h :), (RC.uF h :), (RC.uT h :), (RC.uM h :), (RC.uKn h :), (RC.sP h :), (RC.sD h :), (RC.sT h :), (RC.sN h :), (RC.st h :), (RC.pP h :), (RC.pT h :), (RC.pF h :), (RC.tB h :), (RC.rB h :), (RC.ref h :), (RC.ordR h :), (RC.ordS h :), (RC.ordA h :)⟩)
  · rw [hasC0 h hp, if_neg hp]
    simp only [rz_b_some, if_true]
    (first | exact lfc1 h hO ht (by decide) (by decide) | exact lfc2 h hO ht (by decide) (by decide) | (exfalso; omega))
theorem lowM (h : RM A S) (hO : OK t S) (ht : t < 512) (hs : 0 ≤ A.1 91 11 ∧ A.1 91 11 < 512) : Ret (x177_low F a b A) (S.setLow a b).1 (fun A1 => RM A1 (S.setLow a b).2) := by
  have h1 := hO.nP
  unfold x177_low St.setLow
  by_cases hp : S.isP a
  · rw [hasM1 h hp, if_pos hp]
    simp only [rz_b_some]
    rw [if_neg (by decide)]
    repeat' (first | split | (simp (disch := omega) only [g32p, g64p, gxp, gnp, gzp, rz_b_some, Int.toNat_natCast]))
    all_goals first | (first | exact lfm1 h hO ht (by decide) (by decide) | exact lfm2 h hO ht (by decide) (by decide) | (exfalso; omega)) | skip
    rw [h.low]
    exact Ret.mk (RM.of ⟨(RM.now h :), (RM.nP h :), (RM.nZ h :), (RM.nH h :), (RM.nF h :), (RM.nS h :), (RM.nU h :), (RM.nB h :), (RM.nT h :), (RM.nR h :), (RM.limit h :), (RM.zero h :), ((congrArg (fun f => up f _ _) h.low)), (RM.beside h :), (RM.stN h :), (RM.bN h :), (RM.stF h :), (RM.bH h :), (RM.bF h :), (RM.zP h :), (RM.zZ h :), (RM.zF h :), (RM.zK h :), (RM.hP h :), (RM.hT h :), (RM.hK h :), (RM.hR h :), (RM.hKn h :), (RM.hS h :), (RM.fP h :), (RM.fT h :), (RM.fN h :), (RM.fW h :), (RM.fKn h :), (RM.fS h :), (RM.uP h :), (RM.uK h :), (RM.uF h :), (RM.uT h :), (RM.uM h :), (RM.uKn h :), (RM.sP h :), (RM.sD h :), (RM.sT h :), (RM.sN h :), (RM.st h :), (RM.pP h :), (RM.pT h :), (RM.pF h :), (RM.tB h :), (RM.rB h :), (RM.ref h :)⟩)
  · rw [hasM0 h hp, if_neg hp]
    simp only [rz_b_some, if_true]
    (first | exact lfm1 h hO ht (by decide) (by decide) | exact lfm2 h hO ht (by decide) (by decide) | (exfalso; omega))
theorem far_no (i : Nat) : (S.far i).2 = (S.no i).2 := rfl
theorem lowO (hO : OK t S) : OK (t + 1) (S.setLow a b).2 := by
  unfold St.setLow
  repeat' split
  · exact hO.no 3
  · exact hO.no 5
  · exact (OK.of ⟨(OK.now (hO.mono) :), (OK.limit (hO.mono) :), (OK.nP (hO.mono) :), (OK.nZ (hO.mono) :), (OK.nH (hO.mono) :), (OK.nF (hO.mono) :), (OK.nU (hO.mono) :), (OK.nS (hO.mono) :), (OK.nB (hO.mono) :), (OK.nT (hO.mono) :), (OK.nR (hO.mono) :), (OK.zero (hO.mono) :), ((fun i hi => by
      have h2 := hO.low i hi
      show -2000 ≤ up S.low a.toNat b i ∧ up S.low a.toNat b i ≤ 9999
      unfold up
      split <;> omega)), (OK.beside (hO.mono) :), (OK.stN (hO.mono) :), (OK.stF (hO.mono) :), (OK.bN (hO.mono) :), (OK.b (hO.mono) :), (OK.bs (hO.mono) :), (OK.z (hO.mono) :), (OK.h (hO.mono) :), (OK.f (hO.mono) :), (OK.u (hO.mono) :), (OK.s (hO.mono) :), (OK.sv (hO.mono) :), (OK.p (hO.mono) :), (OK.tB (hO.mono) :), (OK.rB (hO.mono) :), (OK.ref (hO.mono) :)⟩)
  · exact hO.no 0
theorem besideC (h : RC A S) (hO : OK t S) (ht : t < 512) : Ret (x112_beside F a b A) (S.setBeside a b).1 (fun A1 => RC A1 (S.setBeside a b).2) := by
  have h1 := hO.nP
  unfold x112_beside St.setBeside
  by_cases hp : S.isP a
  · rw [hasC1 h hp, if_pos hp]
    simp only [rz_b_some]
    rw [if_neg (by decide)]
    by_cases hb : b = -1
    · rw [if_pos hb, if_pos hb]
      (simp (disch := omega) only [g32p, g64p, gxp, gnp, gzp, rz_b_some, Int.toNat_natCast])
      rw [h.beside]
      exact Ret.mk (RC.of ⟨(RC.now h :), (RC.limit h :), (RC.nP h :), (RC.nZ h :), (RC.nH h :), (RC.nF h :), (RC.nU h :), (RC.nS h :), (RC.nB h :), (RC.nT h :), (RC.nR h :), (RC.zero h :), (RC.low h :), ((congrArg (fun f => up f _ _) h.beside)), (RC.stN h :), (RC.stF0 h :), (RC.stF1 h :), (RC.stF2 h :), (RC.stF3 h :), (RC.stF4 h :), (RC.stF5 h :), (RC.bN0 h :), (RC.bN1 h :), (RC.bN2 h :), (RC.bN3 h :), (RC.bN4 h :), (RC.bN5 h :), (RC.bH0 h :), (RC.bH1 h :), (RC.bH2 h :), (RC.bH3 h :), (RC.bH4 h :), (RC.bH5 h :), (RC.bF0 h :), (RC.bF1 h :), (RC.bF2 h :), (RC.bF3 h :), (RC.bF4 h :), (RC.bF5 h :), (RC.zP h :), (RC.zZ h :), (RC.zF h :), (RC.zK h :), (RC.hP h :), (RC.hT h :), (RC.hK h :), (RC.hR h :), (RC.hKn h :), (RC.hS h :), (RC.hSm h :), (RC.fP h :), (RC.fT h :), (RC.fN h :), (RC.fW h :), (RC.fKn h :), (RC.fS h :), (RC.uP h :), (RC.uK h :), (RC.uF h :), (RC.uT h :), (RC.uM h :), (RC.uKn h :), (RC.sP h :), (RC.sD h :), (RC.sT h :), (RC.sN h :), (RC.st h :), (RC.pP h :), (RC.pT h :), (RC.pF h :), (RC.tB h :), (RC.rB h :), (RC.ref h :), (RC.ordR h :), (RC.ordS h :), (RC.ordA h :)⟩)
    · rw [if_neg hb, if_neg hb]
      by_cases hq : S.isP b
      · rw [hasC1 h hq, if_pos hq]
        simp only [rz_b_some]
        rw [if_neg (by decide)]
        split
        · (first | exact lfc1 h hO ht (by decide) (by decide) | exact lfc2 h hO ht (by decide) (by decide) | (exfalso; omega))
        · (simp (disch := omega) only [g32p, g64p, gxp, gnp, gzp, rz_b_some, Int.toNat_natCast])
          rw [h.beside]
          exact Ret.mk (RC.of ⟨(RC.now h :), (RC.limit h :), (RC.nP h :), (RC.nZ h :), (RC.nH h :), (RC.nF h :), (RC.nU h :), (RC.nS h :), (RC.nB h :), (RC.nT h :), (RC.nR h :), (RC.zero h :), (RC.low h :), ((congrArg (fun f => up f _ _) h.beside)), (RC.stN h :), (RC.stF0 h :), (RC.stF1 h :), (RC.stF2 h :), (RC.stF3 h :), (RC.stF4 h :), (RC.stF5 h :), (RC.bN0 h :), (RC.bN1 h :), (RC.bN2 h :), (RC.bN3 h :), (RC.bN4 h :), (RC.bN5 h :), (RC.bH0 h :), (RC.bH1 h :), (RC.bH2 h :), (RC.bH3 h :), (RC.bH4 h :), (RC.bH5 h :), (RC.bF0 h :), (RC.bF1 h :), (RC.bF2 h :), (RC.bF3 h :), (RC.bF4 h :), (RC.bF5 h :), (RC.zP h :), (RC.zZ h :), (RC.zF h :), (RC.zK h :), (RC.hP h :), (RC.hT h :), (RC.hK h :), (RC.hR h :), (RC.hKn h :), (RC.hS h :), (RC.hSm h :), (RC.fP h :), (RC.fT h :), (RC.fN h :), (RC.fW h :), (RC.fKn h :), (RC.fS h :), (RC.uP h :), (RC.uK h :), (RC.uF h :), (RC.uT h :), (RC.uM h :), (RC.uKn h :), (RC.sP h :), (RC.sD h :), (RC.sT h :), (RC.sN h :), (RC.st h :), (RC.pP h :), (RC.pT h :), (RC.pF h :), (RC.tB h :), (RC.rB h :), (RC.ref h :), (RC.ordR h :), (RC.ordS h :), (RC.ordA h :)⟩)
      · rw [hasC0 h hq, if_neg hq]
        simp only [rz_b_some, if_true]
        (first | exact lfc1 h hO ht (by decide) (by decide) | exact lfc2 h hO ht (by decide) (by decide) | (exfalso; omega))
  · rw [hasC0 h hp, if_neg hp]
    simp only [rz_b_some, if_true]
    (first | exact lfc1 h hO ht (by decide) (by decide) | exact lfc2 h hO ht (by decide) (by decide) | (exfalso; omega))
theorem besideM (h : RM A S) (hO : OK t S) (ht : t < 512) : Ret (x202_beside F a b A) (S.setBeside a b).1 (fun A1 => RM A1 (S.setBeside a b).2) := by
  have h1 := hO.nP
  unfold x202_beside St.setBeside x202_beside_21
  by_cases hp : S.isP a
  · rw [hasM1 h hp, if_pos hp]
    simp only [rz_b_some]
    rw [if_neg (by decide)]
    by_cases hb : b = -1
    · rw [if_pos hb, if_pos hb, if_neg (by omega)]
      (simp (disch := omega) only [g32p, g64p, gxp, gnp, gzp, rz_b_some, Int.toNat_natCast])
      rw [h.beside]
      exact Ret.mk (RM.of ⟨(RM.now h :), (RM.nP h :), (RM.nZ h :), (RM.nH h :), (RM.nF h :), (RM.nS h :), (RM.nU h :), (RM.nB h :), (RM.nT h :), (RM.nR h :), (RM.limit h :), (RM.zero h :), (RM.low h :), ((congrArg (fun f => up f _ _) h.beside)), (RM.stN h :), (RM.bN h :), (RM.stF h :), (RM.bH h :), (RM.bF h :), (RM.zP h :), (RM.zZ h :), (RM.zF h :), (RM.zK h :), (RM.hP h :), (RM.hT h :), (RM.hK h :), (RM.hR h :), (RM.hKn h :), (RM.hS h :), (RM.fP h :), (RM.fT h :), (RM.fN h :), (RM.fW h :), (RM.fKn h :), (RM.fS h :), (RM.uP h :), (RM.uK h :), (RM.uF h :), (RM.uT h :), (RM.uM h :), (RM.uKn h :), (RM.sP h :), (RM.sD h :), (RM.sT h :), (RM.sN h :), (RM.st h :), (RM.pP h :), (RM.pT h :), (RM.pF h :), (RM.tB h :), (RM.rB h :), (RM.ref h :)⟩)
    · rw [if_neg hb, if_neg hb]
      by_cases hq : S.isP b
      · rw [hasM1 h hq, if_pos hq]
        simp only [rz_b_some]
        rw [if_neg (by decide)]
        by_cases he : b = a
        · rw [if_pos he, if_pos he.symm]
          (first | exact lfm1 h hO ht (by decide) (by decide) | exact lfm2 h hO ht (by decide) (by decide) | (exfalso; omega))
        · rw [if_neg he, if_neg (fun x => he x.symm)]
          (simp (disch := omega) only [g32p, g64p, gxp, gnp, gzp, rz_b_some, Int.toNat_natCast])
          rw [h.beside]
          exact Ret.mk (RM.of ⟨(RM.now h :), (RM.nP h :), (RM.nZ h :), (RM.nH h :), (RM.nF h :), (RM.nS h :), (RM.nU h :), (RM.nB h :), (RM.nT h :), (RM.nR h :), (RM.limit h :), (RM.zero h :), (RM.low h :), ((congrArg (fun f => up f _ _) h.beside)), (RM.stN h :), (RM.bN h :), (RM.stF h :), (RM.bH h :), (RM.bF h :), (RM.zP h :), (RM.zZ h :), (RM.zF h :), (RM.zK h :), (RM.hP h :), (RM.hT h :), (RM.hK h :), (RM.hR h :), (RM.hKn h :), (RM.hS h :), (RM.fP h :), (RM.fT h :), (RM.fN h :), (RM.fW h :), (RM.fKn h :), (RM.fS h :), (RM.uP h :), (RM.uK h :), (RM.uF h :), (RM.uT h :), (RM.uM h :), (RM.uKn h :), (RM.sP h :), (RM.sD h :), (RM.sT h :), (RM.sN h :), (RM.st h :), (RM.pP h :), (RM.pT h :), (RM.pF h :), (RM.tB h :), (RM.rB h :), (RM.ref h :)⟩)
      · rw [hasM0 h hq, if_neg hq]
        simp only [rz_b_some, if_true]
        (first | exact lfm1 h hO ht (by decide) (by decide) | exact lfm2 h hO ht (by decide) (by decide) | (exfalso; omega))
  · rw [hasM0 h hp, if_neg hp]
    simp only [rz_b_some, if_true]
    (first | exact lfm1 h hO ht (by decide) (by decide) | exact lfm2 h hO ht (by decide) (by decide) | (exfalso; omega))
theorem besideO (hO : OK t S) : OK (t + 1) (S.setBeside a b).2 := by
  have key : (b = -1 ∨ S.isP b) → OK (t + 1) (S.1, (fun c => if c = 13 then (fun _ => (up S.beside a.toNat b)) else S.2 c)) := fun hb =>
    (OK.of ⟨(OK.now (hO.mono) :), (OK.limit (hO.mono) :), (OK.nP (hO.mono) :), (OK.nZ (hO.mono) :), (OK.nH (hO.mono) :), (OK.nF (hO.mono) :), (OK.nU (hO.mono) :), (OK.nS (hO.mono) :), (OK.nB (hO.mono) :), (OK.nT (hO.mono) :), (OK.nR (hO.mono) :), (OK.zero (hO.mono) :), (OK.low (hO.mono) :), ((fun i hi => by
      have h2 := hO.beside i hi
      show -1 ≤ up S.beside a.toNat b i ∧ up S.beside a.toNat b i < (S.nP : Int)
      have h3 : i < S.nP := hi
      unfold up
      split <;> omega)), (OK.stN (hO.mono) :), (OK.stF (hO.mono) :), (OK.bN (hO.mono) :), (OK.b (hO.mono) :), (OK.bs (hO.mono) :), (OK.z (hO.mono) :), (OK.h (hO.mono) :), (OK.f (hO.mono) :), (OK.u (hO.mono) :), (OK.s (hO.mono) :), (OK.sv (hO.mono) :), (OK.p (hO.mono) :), (OK.tB (hO.mono) :), (OK.rB (hO.mono) :), (OK.ref (hO.mono) :)⟩)
  unfold St.setBeside
  repeat' split
  · rename_i hb; exact key (Or.inl hb)
  · exact hO.no 0
  · rename_i hb _; exact key (Or.inr hb)
  · exact hO.no 0
  · exact hO.no 0
theorem measureC (h : RC A S) (hO : OK t S) (ht : t < 512) : Ret (x34_measure F a b c d A) (S.measure a b c d).1 (fun A1 => RC A1 (S.measure a b c d).2) := by
  have h1 := hO.nP
  have h2 := hO.nF
  unfold x34_measure St.measure x35_come x6_forget
  by_cases hp : S.isP a
  · rw [hasC1 h hp, if_pos hp]
    simp only [rz_b_some]
    rw [if_neg (by decide)]
    simp only [h.nF, h.now]
    repeat' (first | split | (simp (disch := omega) only [g32p, g64p, gxp, gnp, gzp, rz_b_some, Int.toNat_natCast]))
    all_goals first | (first | exact lfc1 h hO ht (by decide) (by decide) | exact lfc2 h hO ht (by decide) (by decide) | (exfalso; omega)) | skip
    have e1 : (aI A 51 5 0).1 26 0 = S.nF := h.nF
    have e2 : (aI A 51 5 0).1 0 16 = S.now := h.now
    simp only [e1, e2]
    (simp (disch := omega) only [g32p, g64p, gxp, gnp, gzp, rz_b_some, Int.toNat_natCast])
    rw [show (S.nF : Int) + 1 - 1 = S.nF by omega]
    have hfS : ∀ i, i < S.nF + 1 → (if i = S.nF then (2147483647 : Int) else A.1 32 i) = if up S.fS S.nF (-1) i < 0 then 2147483647 else up S.fS S.nF (-1) i := fun i hi => by
      have h3 := h.fS i
      unfold up
      by_cases e : i = S.nF
      · simp [e]
      · simp only [e, if_false]
        exact h3 (by omega)
    exact Ret.mk (RC.of ⟨(RC.now h :), (RC.limit h :), (RC.nP h :), (RC.nZ h :), (RC.nH h :), (rfl), (RC.nU h :), (RC.nS h :), (RC.nB h :), (RC.nT h :), (RC.nR h :), (RC.zero h :), (RC.low h :), (RC.beside h :), (RC.stN h :), (RC.stF0 h :), (RC.stF1 h :), (RC.stF2 h :), (RC.stF3 h :), (RC.stF4 h :), (RC.stF5 h :), (RC.bN0 h :), (RC.bN1 h :), (RC.bN2 h :), (RC.bN3 h :), (RC.bN4 h :), (RC.bN5 h :), (RC.bH0 h :), (RC.bH1 h :), (RC.bH2 h :), (RC.bH3 h :), (RC.bH4 h :), (RC.bH5 h :), (RC.bF0 h :), (RC.bF1 h :), (RC.bF2 h :), (RC.bF3 h :), (RC.bF4 h :), (RC.bF5 h :), (RC.zP h :), (RC.zZ h :), (RC.zF h :), (RC.zK h :), (RC.hP h :), (RC.hT h :), (RC.hK h :), (RC.hR h :), (RC.hKn h :), (RC.hS h :), (RC.hSm h :), ((congrArg (fun f => up f _ _) h.fP)), ((congrArg (fun f => up f _ _) h.fT)), ((congrArg (fun f => up f _ _) h.fN)), ((congrArg (fun f => up f _ _) h.fW)), ((congrArg (fun f => up f _ _) h.fKn)), (hfS), (RC.uP h :), (RC.uK h :), (RC.uF h :), (RC.uT h :), (RC.uM h :), (RC.uKn h :), (RC.sP h :), (RC.sD h :), (RC.sT h :), (RC.sN h :), (RC.st h :), (RC.pP h :), (RC.pT h :), (RC.pF h :), (RC.tB h :), (RC.rB h :), (RC.ref h :), (RC.ordR h :), (RC.ordS h :), (RC.ordA h :)⟩)
  · rw [hasC0 h hp, if_neg hp]
    simp only [rz_b_some, if_true]
    (first | exact lfc1 h hO ht (by decide) (by decide) | exact lfc2 h hO ht (by decide) (by decide) | (exfalso; omega))
theorem measureM (h : RM A S) (hO : OK t S) (ht : t < 512) (hs : 0 ≤ A.1 91 11 ∧ A.1 91 11 < 512) : Ret (x163_measure F a b c d A) (S.measure a b c d).1 (fun A1 => RM A1 (S.measure a b c d).2) := by
  have h1 := hO.nP
  have h2 := hO.nF
  unfold x163_measure St.measure
  by_cases hp : S.isP a
  · rw [hasM1 h hp, if_pos hp]
    simp only [rz_b_some]
    rw [if_neg (by decide)]
    simp only [h.nF, h.now]
    repeat' (first | split | (simp (disch := omega) only [g32p, g64p, gxp, gnp, gzp, rz_b_some, Int.toNat_natCast]))
    all_goals first | (first | exact lfm1 h hO ht (by decide) (by decide) | exact lfm2 h hO ht (by decide) (by decide) | (exfalso; omega)) | skip
    exact Ret.mk (RM.of ⟨(RM.now h :), (RM.nP h :), (RM.nZ h :), (RM.nH h :), (rfl), (RM.nS h :), (RM.nU h :), (RM.nB h :), (RM.nT h :), (RM.nR h :), (RM.limit h :), (RM.zero h :), (RM.low h :), (RM.beside h :), (RM.stN h :), (RM.bN h :), (RM.stF h :), (RM.bH h :), (RM.bF h :), (RM.zP h :), (RM.zZ h :), (RM.zF h :), (RM.zK h :), (RM.hP h :), (RM.hT h :), (RM.hK h :), (RM.hR h :), (RM.hKn h :), (RM.hS h :), ((congrArg (fun f => up f _ _) h.fP)), ((congrArg (fun f => up f _ _) h.fT)), ((congrArg (fun f => up f _ _) h.fN)), ((congrArg (fun f => up f _ _) h.fW)), ((congrArg (fun f => up f _ _) h.fKn)), ((congrArg (fun f => up f _ _) h.fS)), (RM.uP h :), (RM.uK h :), (RM.uF h :), (RM.uT h :), (RM.uM h :), (RM.uKn h :), (RM.sP h :), (RM.sD h :), (RM.sT h :), (RM.sN h :), (RM.st h :), (RM.pP h :), (RM.pT h :), (RM.pF h :), (RM.tB h :), (RM.rB h :), (RM.ref h :)⟩)
  · rw [hasM0 h hp, if_neg hp]
    simp only [rz_b_some, if_true]
    (first | exact lfm1 h hO ht (by decide) (by decide) | exact lfm2 h hO ht (by decide) (by decide) | (exfalso; omega))
theorem measureO (hO : OK t S) : OK (t + 1) (S.measure a b c d).2 := by
  have h1 := hO.nF
  have h0 := hO.now
  unfold St.measure
  split
  · repeat' split
    all_goals first | exact hO.no 3 | exact hO.no 5 | skip
    exact (OK.of ⟨(OK.now (hO.mono) :), (OK.limit (hO.mono) :), (OK.nP (hO.mono) :), (OK.nZ (hO.mono) :), (OK.nH (hO.mono) :), ((by show S.nF + 1 ≤ 60; omega)), (OK.nU (hO.mono) :), (OK.nS (hO.mono) :), (OK.nB (hO.mono) :), (OK.nT (hO.mono) :), (OK.nR (hO.mono) :), (OK.zero (hO.mono) :), (OK.low (hO.mono) :), (OK.beside (hO.mono) :), (OK.stN (hO.mono) :), (OK.stF (hO.mono) :), (OK.bN (hO.mono) :), (OK.b (hO.mono) :), (OK.bs (hO.mono) :), (OK.z (hO.mono) :), (OK.h (hO.mono) :), ((fun i hi => by
      have h2 := hO.f i
      have h3 : i < S.nF + 1 := hi
      show (0 ≤ up S.fP S.nF a i ∧ up S.fP S.nF a i < (S.nP : Int)) ∧ (0 ≤ up S.fT S.nF b i ∧ up S.fT S.nF b i ≤ 9999) ∧ (0 ≤ up S.fN S.nF c i ∧ up S.fN S.nF c i ≤ 99999) ∧ (0 ≤ up S.fW S.nF d i ∧ up S.fW S.nF d i ≤ 99) ∧ (0 ≤ up S.fKn S.nF S.now i ∧ up S.fKn S.nF S.now i ≤ 9999) ∧ -1 ≤ up S.fS S.nF (-1) i ∧ up S.fS S.nF (-1) i ≤ 9999
      unfold up
      split
      · omega
      · exact h2 (by omega))), (OK.u (hO.mono) :), (OK.s (hO.mono) :), (OK.sv (hO.mono) :), (OK.p (hO.mono) :), (OK.tB (hO.mono) :), (OK.rB (hO.mono) :), (OK.ref (hO.mono) :)⟩)
  · exact hO.no 0
theorem dropC (h : RC A S) (hO : OK t S) (ht : t < 512) : Ret (x36_drop F a A) (S.drop a).1 (fun A1 => RC A1 (S.drop a).2) := by
  have h1 := hO.nF
  have h0 := hO.now
  unfold x36_drop St.drop x37_has x6_forget
  simp only [h.nF]
  by_cases hp : 0 ≤ a ∧ a < (S.nF : Int)
  · have hf := h.fS a.toNat (by omega)
    have ho := hO.f a.toNat (by omega)
    rw [if_pos hp.1, if_pos hp.2, if_pos hp]
    simp only [rz_b_some]
    rw [if_neg (by decide)]
    (simp (disch := omega) only [g32p, g64p, gxp, gnp, gzp, rz_b_some, Int.toNat_natCast])
    by_cases hn : 0 ≤ S.fS a.toNat
    · rw [if_neg (by omega)] at hf
      rw [if_pos hn, hf, if_neg (by omega)]
      (first | exact lfc1 h hO ht (by decide) (by decide) | exact lfc2 h hO ht (by decide) (by decide) | (exfalso; omega))
    · rw [if_pos (by omega)] at hf
      rw [if_neg hn, hf, if_pos rfl]
      have hfS : ∀ i, i < S.nF → (if i = a.toNat then A.1 0 16 else A.1 32 i) = if up S.fS a.toNat S.now i < 0 then 2147483647 else up S.fS a.toNat S.now i := fun i hi => by
        have h3 := h.fS i hi
        have h4 := h.now
        unfold up
        by_cases e : i = a.toNat
        · subst e
          simp only [if_true]
          rw [if_neg (by omega)]
          exact h4
        · simp only [e, if_false]
          exact h3
      exact Ret.mk (RC.of ⟨(RC.now h :), (RC.limit h :), (RC.nP h :), (RC.nZ h :), (RC.nH h :), (RC.nF h :), (RC.nU h :), (RC.nS h :), (RC.nB h :), (RC.nT h :), (RC.nR h :), (RC.zero h :), (RC.low h :), (RC.beside h :), (RC.stN h :), (RC.stF0 h :), (RC.stF1 h :), (RC.stF2 h :), (RC.stF3 h :), (RC.stF4 h :), (RC.stF5 h :), (RC.bN0 h :), (RC.bN1 h :), (RC.bN2 h :), (RC.bN3 h :), (RC.bN4 h :), (RC.bN5 h :), (RC.bH0 h :), (RC.bH1 h :), (RC.bH2 h :), (RC.bH3 h :), (RC.bH4 h :), (RC.bH5 h :), (RC.bF0 h :), (RC.bF1 h :), (RC.bF2 h :), (RC.bF3 h :), (RC.bF4 h :), (RC.bF5 h :), (RC.zP h :), (RC.zZ h :), (RC.zF h :), (RC.zK h :), (RC.hP h :), (RC.hT h :), (RC.hK h :), (RC.hR h :), (RC.hKn h :), (RC.hS h :), (RC.hSm h :), (RC.fP h :), (RC.fT h :), (RC.fN h :), (RC.fW h :), (RC.fKn h :), (hfS), (RC.uP h :), (RC.uK h :), (RC.uF h :), (RC.uT h :), (RC.uM h :), (RC.uKn h :), (RC.sP h :), (RC.sD h :), (RC.sT h :), (RC.sN h :), (RC.st h :), (RC.pP h :), (RC.pT h :), (RC.pF h :), (RC.tB h :), (RC.rB h :), (RC.ref h :), (RC.ordR h :), (RC.ordS h :), (RC.ordA h :)⟩)
  · rw [if_neg hp]
    have e0 : (if 0 ≤ a then if a < (S.nF : Int) then some ((1 : Int), A) else some (0, A) else some (0, A)) = some (0, A) := by
      split
      · rw [if_neg (by omega)]
      · rfl
    rw [e0]
    simp only [rz_b_some, if_true]
    (first | exact lfc1 h hO ht (by decide) (by decide) | exact lfc2 h hO ht (by decide) (by decide) | (exfalso; omega))
theorem dropM (h : RM A S) (hO : OK t S) (ht : t < 512) (hs : 0 ≤ A.1 91 11 ∧ A.1 91 11 < 512) : Ret (x164_drop F a A) (S.drop a).1 (fun A1 => RM A1 (S.drop a).2) := by
  have h1 := hO.nF
  unfold x164_drop St.drop
  simp only [h.nF, h.fS, h.now]
  by_cases hp : 0 ≤ a ∧ a < (S.nF : Int)
  · rw [if_pos hp.1, if_pos hp, if_neg (by omega)]
    (simp (disch := omega) only [g32p, g64p, gxp, gnp, gzp, rz_b_some, Int.toNat_natCast])
    split
    · (first | exact lfm1 h hO ht (by decide) (by decide) | exact lfm2 h hO ht (by decide) (by decide) | (exfalso; omega))
    · (simp (disch := omega) only [g32p, g64p, gxp, gnp, gzp, rz_b_some, Int.toNat_natCast])
      exact Ret.mk (RM.of ⟨(RM.now h :), (RM.nP h :), (RM.nZ h :), (RM.nH h :), (RM.nF h :), (RM.nS h :), (RM.nU h :), (RM.nB h :), (RM.nT h :), (RM.nR h :), (RM.limit h :), (RM.zero h :), (RM.low h :), (RM.beside h :), (RM.stN h :), (RM.bN h :), (RM.stF h :), (RM.bH h :), (RM.bF h :), (RM.zP h :), (RM.zZ h :), (RM.zF h :), (RM.zK h :), (RM.hP h :), (RM.hT h :), (RM.hK h :), (RM.hR h :), (RM.hKn h :), (RM.hS h :), (RM.fP h :), (RM.fT h :), (RM.fN h :), (RM.fW h :), (RM.fKn h :), ((congrArg (fun f => up f _ _) h.fS)), (RM.uP h :), (RM.uK h :), (RM.uF h :), (RM.uT h :), (RM.uM h :), (RM.uKn h :), (RM.sP h :), (RM.sD h :), (RM.sT h :), (RM.sN h :), (RM.st h :), (RM.pP h :), (RM.pT h :), (RM.pF h :), (RM.tB h :), (RM.rB h :), (RM.ref h :)⟩)
  · rw [if_neg hp]
    split
    · rw [if_pos (by omega)]
      (first | exact lfm1 h hO ht (by decide) (by decide) | exact lfm2 h hO ht (by decide) (by decide) | (exfalso; omega))
    · (first | exact lfm1 h hO ht (by decide) (by decide) | exact lfm2 h hO ht (by decide) (by decide) | (exfalso; omega))
theorem dropO (hO : OK t S) : OK (t + 1) (S.drop a).2 := by
  have h0 := hO.now
  unfold St.drop
  repeat' split
  · exact hO.no 2
  · exact (OK.of ⟨(OK.now (hO.mono) :), (OK.limit (hO.mono) :), (OK.nP (hO.mono) :), (OK.nZ (hO.mono) :), (OK.nH (hO.mono) :), (OK.nF (hO.mono) :), (OK.nU (hO.mono) :), (OK.nS (hO.mono) :), (OK.nB (hO.mono) :), (OK.nT (hO.mono) :), (OK.nR (hO.mono) :), (OK.zero (hO.mono) :), (OK.low (hO.mono) :), (OK.beside (hO.mono) :), (OK.stN (hO.mono) :), (OK.stF (hO.mono) :), (OK.bN (hO.mono) :), (OK.b (hO.mono) :), (OK.bs (hO.mono) :), (OK.z (hO.mono) :), (OK.h (hO.mono) :), ((fun i hi => by
      have h2 := hO.f i hi
      show (0 ≤ S.fP i ∧ S.fP i < (S.nP : Int)) ∧ (0 ≤ S.fT i ∧ S.fT i ≤ 9999) ∧ (0 ≤ S.fN i ∧ S.fN i ≤ 99999) ∧ (0 ≤ S.fW i ∧ S.fW i ≤ 99) ∧ (0 ≤ S.fKn i ∧ S.fKn i ≤ 9999) ∧ -1 ≤ up S.fS a.toNat S.now i ∧ up S.fS a.toNat S.now i ≤ 9999
      unfold up
      split <;> omega)), (OK.u (hO.mono) :), (OK.s (hO.mono) :), (OK.sv (hO.mono) :), (OK.p (hO.mono) :), (OK.tB (hO.mono) :), (OK.rB (hO.mono) :), (OK.ref (hO.mono) :)⟩)
  · exact hO.no 0
theorem underC (h : RC A S) (hO : OK t S) (ht : t < 512) : Ret (x82_under F a b c d e A) (S.under a b c d e).1 (fun A1 => RC A1 (S.under a b c d e).2) := by
  have h1 := hO.nP
  have h2 := hO.nU
  unfold x82_under St.under x83_come
  by_cases hp : S.isP a
  · rw [hasC1 h hp, if_pos hp]
    simp only [rz_b_some]
    rw [if_neg (by decide)]
    simp only [h.nU, h.now]
    (repeat' (first | (with_reducible refine Ret.g32 ?_ ?_; · omega) | (with_reducible refine Ret.gx ?_ ?_ ?_; · omega; · omega) | (with_reducible refine Ret.g64 ?_ ?_; · omega) | (with_reducible refine Ret.gn ?_ ?_; · omega) | with_reducible refine Ret.ite (fun _ => ?_) (fun _ => ?_)))
    all_goals first | ((simp (disch := omega) only [if_pos, if_neg]); (first | exact lfc1 h hO ht (by decide) (by decide) | exact lfc2 h hO ht (by decide) (by decide) | (exfalso; omega))) | (exfalso; omega) | skip
    (simp (disch := omega) only [g32p, g64p, gxp, gnp, gzp, rz_b_some, Int.toNat_natCast])
    (simp (disch := omega) only [if_pos, if_neg])
    exact Ret.mk (RC.of ⟨(RC.now h :), (RC.limit h :), (RC.nP h :), (RC.nZ h :), (RC.nH h :), (RC.nF h :), (rfl), (RC.nS h :), (RC.nB h :), (RC.nT h :), (RC.nR h :), (RC.zero h :), (RC.low h :), (RC.beside h :), (RC.stN h :), (RC.stF0 h :), (RC.stF1 h :), (RC.stF2 h :), (RC.stF3 h :), (RC.stF4 h :), (RC.stF5 h :), (RC.bN0 h :), (RC.bN1 h :), (RC.bN2 h :), (RC.bN3 h :), (RC.bN4 h :), (RC.bN5 h :), (RC.bH0 h :), (RC.bH1 h :), (RC.bH2 h :), (RC.bH3 h :), (RC.bH4 h :), (RC.bH5 h :), (RC.bF0 h :), (RC.bF1 h :), (RC.bF2 h :), (RC.bF3 h :), (RC.bF4 h :), (RC.bF5 h :), (RC.zP h :), (RC.zZ h :), (RC.zF h :), (RC.zK h :), (RC.hP h :), (RC.hT h :), (RC.hK h :), (RC.hR h :), (RC.hKn h :), (RC.hS h :), (RC.hSm h :), (RC.fP h :), (RC.fT h :), (RC.fN h :), (RC.fW h :), (RC.fKn h :), (RC.fS h :), ((congrArg (fun f => up f _ _) h.uP)), ((congrArg (fun f => up f _ _) h.uK)), ((congrArg (fun f => up f _ _) h.uF)), ((congrArg (fun f => up f _ _) h.uT)), ((congrArg (fun f => up f _ _) h.uM)), ((congrArg (fun f => up f _ _) h.uKn)), (RC.sP h :), (RC.sD h :), (RC.sT h :), (RC.sN h :), (RC.st h :), (RC.pP h :), (RC.pT h :), (RC.pF h :), (RC.tB h :), (RC.rB h :), (RC.ref h :), (RC.ordR h :), (RC.ordS h :), (RC.ordA h :)⟩)
  · rw [hasC0 h hp, if_neg hp]
    simp only [rz_b_some, if_true]
    (first | exact lfc1 h hO ht (by decide) (by decide) | exact lfc2 h hO ht (by decide) (by decide) | (exfalso; omega))
theorem underM (h : RM A S) (hO : OK t S) (ht : t < 512) (hs : 0 ≤ A.1 91 11 ∧ A.1 91 11 < 512) : Ret (x186_under F a b c d e A) (S.under a b c d e).1 (fun A1 => RM A1 (S.under a b c d e).2) := by
  have h1 := hO.nP
  have h2 := hO.nU
  unfold x186_under St.under
  by_cases hp : S.isP a
  · rw [hasM1 h hp, if_pos hp]
    simp only [rz_b_some]
    rw [if_neg (by decide)]
    simp only [h.nU, h.now]
    (repeat' (first | (with_reducible refine Ret.g32 ?_ ?_; · omega) | (with_reducible refine Ret.gx ?_ ?_ ?_; · omega; · omega) | (with_reducible refine Ret.g64 ?_ ?_; · omega) | (with_reducible refine Ret.gn ?_ ?_; · omega) | with_reducible refine Ret.ite (fun _ => ?_) (fun _ => ?_)))
    all_goals first | ((simp (disch := omega) only [if_pos, if_neg]); (first | exact lfm1 h hO ht (by decide) (by decide) | exact lfm2 h hO ht (by decide) (by decide) | (exfalso; omega))) | (exfalso; omega) | skip
    (simp (disch := omega) only [g32p, g64p, gxp, gnp, gzp, rz_b_some, Int.toNat_natCast])
    (simp (disch := omega) only [if_pos, if_neg])
    exact Ret.mk (RM.of ⟨(RM.now h :), (RM.nP h :), (RM.nZ h :), (RM.nH h :), (RM.nF h :), (RM.nS h :), (rfl), (RM.nB h :), (RM.nT h :), (RM.nR h :), (RM.limit h :), (RM.zero h :), (RM.low h :), (RM.beside h :), (RM.stN h :), (RM.bN h :), (RM.stF h :), (RM.bH h :), (RM.bF h :), (RM.zP h :), (RM.zZ h :), (RM.zF h :), (RM.zK h :), (RM.hP h :), (RM.hT h :), (RM.hK h :), (RM.hR h :), (RM.hKn h :), (RM.hS h :), (RM.fP h :), (RM.fT h :), (RM.fN h :), (RM.fW h :), (RM.fKn h :), (RM.fS h :), ((congrArg (fun f => up f _ _) h.uP)), ((congrArg (fun f => up f _ _) h.uK)), ((congrArg (fun f => up f _ _) h.uF)), ((congrArg (fun f => up f _ _) h.uT)), ((congrArg (fun f => up f _ _) h.uM)), ((congrArg (fun f => up f _ _) h.uKn)), (RM.sP h :), (RM.sD h :), (RM.sT h :), (RM.sN h :), (RM.st h :), (RM.pP h :), (RM.pT h :), (RM.pF h :), (RM.tB h :), (RM.rB h :), (RM.ref h :)⟩)
  · rw [hasM0 h hp, if_neg hp]
    simp only [rz_b_some, if_true]
    (first | exact lfm1 h hO ht (by decide) (by decide) | exact lfm2 h hO ht (by decide) (by decide) | (exfalso; omega))
theorem underO (hO : OK t S) : OK (t + 1) (S.under a b c d e).2 := by
  have h1 := hO.nU
  have h0 := hO.now
  unfold St.under
  split
  · repeat' split
    all_goals first | exact hO.no 1 | exact hO.no 3 | exact hO.no 5 | skip
    exact (OK.of ⟨(OK.now (hO.mono) :), (OK.limit (hO.mono) :), (OK.nP (hO.mono) :), (OK.nZ (hO.mono) :), (OK.nH (hO.mono) :), (OK.nF (hO.mono) :), ((by show S.nU + 1 ≤ 40; omega)), (OK.nS (hO.mono) :), (OK.nB (hO.mono) :), (OK.nT (hO.mono) :), (OK.nR (hO.mono) :), (OK.zero (hO.mono) :), (OK.low (hO.mono) :), (OK.beside (hO.mono) :), (OK.stN (hO.mono) :), (OK.stF (hO.mono) :), (OK.bN (hO.mono) :), (OK.b (hO.mono) :), (OK.bs (hO.mono) :), (OK.z (hO.mono) :), (OK.h (hO.mono) :), (OK.f (hO.mono) :), ((fun i hi => by
      have h2 := hO.u i
      have h3 : i < S.nU + 1 := hi
      show (0 ≤ up S.uP S.nU a i ∧ up S.uP S.nU a i < (S.nP : Int)) ∧ (0 ≤ up S.uK S.nU b i ∧ up S.uK S.nU b i ≤ 1) ∧ (0 ≤ up S.uF S.nU c i ∧ up S.uF S.nU c i ≤ up S.uT S.nU d i ∧ up S.uT S.nU d i ≤ 9999) ∧ (0 ≤ up S.uM S.nU e i ∧ up S.uM S.nU e i ≤ 99) ∧ 0 ≤ up S.uKn S.nU S.now i ∧ up S.uKn S.nU S.now i ≤ 9999
      unfold up
      split
      · omega
      · exact h2 (by omega))), (OK.s (hO.mono) :), (OK.sv (hO.mono) :), (OK.p (hO.mono) :), (OK.tB (hO.mono) :), (OK.rB (hO.mono) :), (OK.ref (hO.mono) :)⟩)
  · exact hO.no 0
end CALLS2
