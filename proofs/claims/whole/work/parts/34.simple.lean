/-! the calls that only write down, or only read -/
abbrev St.isP (S : St) (p : Int) : Prop := 0 ≤ p ∧ p < (S.nP : Int)
section SIMPLE
variable {t F : Nat} {A : rz_A} {S : St} {a b c d e p : Int}
theorem refuseC (h : RC A S) (hO : OK t S) (ht : t < 512) (i : Nat) (hi : i < 6) (ha : a = -(i : Int) - 1) : x1_refuse F a A = some (a, aI A 1 i (A.1 1 i + 1)) := by
  have h1 := hO.ref i
  have h2 := h.ref i hi
  have e1 : ((-1) - a).toNat = i := by omega
  unfold x1_refuse
  rw [e1]
  (simp (disch := omega) only [g32p, g64p, gxp, gnp, gzp, rz_b_some, Int.toNat_natCast, if_pos, if_neg])
theorem noM (h : RM A S) (hO : OK t S) (ht : t < 512) (i : Nat) (hi : i < 6) (ha : a = -(i : Int) - 1) : x142_no F a A = some (a, aI A 132 (i + 1) (A.1 132 (i + 1) + 1)) := by
  have h1 := hO.ref i
  have h2 := h.ref i hi
  have e1 : (-a).toNat = i + 1 := by omega
  unfold x142_no
  rw [e1]
  (simp (disch := omega) only [g32p, g64p, gxp, gnp, gzp, rz_b_some, Int.toNat_natCast, if_pos, if_neg])
theorem leafC (h : RC A S) (hO : OK t S) (ht : t < 512) (i : Nat) (hi : i < 6) : Ret (rz_b (x1_refuse F (-(i : Int) - 1) A) fun r A => some (r, A)) (S.no i).1 (fun A1 => RC A1 (S.no i).2) := by
  exact Ret.bs (refuseC h hO ht i hi rfl) (Ret.mk (h.no hi))
theorem leafM (h : RM A S) (hO : OK t S) (ht : t < 512) (i : Nat) (hi : i < 6) : Ret (rz_b (x142_no F (-(i : Int) - 1) A) fun r A => some (r, A)) (S.no i).1 (fun A1 => RM A1 (S.no i).2) := by
  exact Ret.bs (noM h hO ht i hi rfl) (Ret.mk (h.no hi))
theorem farC (h : RC A S) (hO : OK t S) (ht : t < 512) (i : Nat) (hi : i < 6) : Ret (rz_b (x10_refuseAsTold F (-(i : Int) - 1) A) fun r A => some (r, A)) (S.far i).1 (fun A1 => RC A1 (S.far i).2) := by
  unfold x10_refuseAsTold
  rw [refuseC h hO ht i hi rfl]
  (simp (disch := omega) only [g32p, g64p, gxp, gnp, gzp, rz_b_some, Int.toNat_natCast])
  refine ⟨_, ?_, h.no hi⟩
  congr 1
  congr 1
  show _ = 1000000001 + (i : Int)
  omega
theorem farM (h : RM A S) (hO : OK t S) (ht : t < 512) (i : Nat) (hi : i < 6) : Ret (rz_b (x148_far F (-(i : Int) - 1) A) fun r A => some (r, A)) (S.far i).1 (fun A1 => RM A1 (S.far i).2) := by
  unfold x148_far
  rw [noM h hO ht i hi rfl]
  (simp (disch := omega) only [g32p, g64p, gxp, gnp, gzp, rz_b_some, Int.toNat_natCast])
  refine ⟨_, ?_, h.no hi⟩
  congr 1
  congr 1
  show _ = 1000000001 + (i : Int)
  omega
theorem hasC1 (h : RC A S) (hp : S.isP p) : x5_has F p A = some (1, A) := by
  unfold x5_has
  rw [h.nP]
  (simp (disch := omega) only [g32p, g64p, gxp, gnp, gzp, rz_b_some, Int.toNat_natCast, if_pos, if_neg])
theorem hasC0 (h : RC A S) (hp : ¬ S.isP p) : x5_has F p A = some (0, A) := by
  unfold x5_has
  rw [h.nP]
  split
  · split
    · omega
    · rfl
  · rfl
theorem hasM1 (h : RM A S) (hp : S.isP p) : x145_isPost F p A = some (1, A) := by
  unfold x145_isPost
  rw [h.nP]
  (simp (disch := omega) only [g32p, g64p, gxp, gnp, gzp, rz_b_some, Int.toNat_natCast, if_pos, if_neg])
theorem hasM0 (h : RM A S) (hp : ¬ S.isP p) : x145_isPost F p A = some (0, A) := by
  unfold x145_isPost
  rw [h.nP]
  split
  · split
    · omega
    · rfl
  · rfl
/-- times of a call: the refusal's number, or none -/
def tim (a b : Int) : Option Nat := if a < 0 ∨ b < 0 then some 3 else if 9999 < a ∨ 9999 < b then some 5 else none
end SIMPLE
section LEAF
variable {t F : Nat} {A : rz_A} {S : St} {a : Int} {i : Nat}
theorem lfc1 (h : RC A S) (hO : OK t S) (ht : t < 512) (hi : i < 6) (ha : a = -(i : Int) - 1) : Ret (rz_b (x1_refuse F a A) fun r A => some (r, A)) (S.no i).1 (fun A1 => RC A1 (S.no i).2) := by
  subst ha; exact leafC h hO ht i hi
theorem lfc2 (h : RC A S) (hO : OK t S) (ht : t < 512) (hi : i < 6) (ha : a = -(i : Int) - 1) : Ret (rz_b (x10_refuseAsTold F a A) fun r A => some (r, A)) (S.far i).1 (fun A1 => RC A1 (S.far i).2) := by
  subst ha; exact farC h hO ht i hi
theorem lfm1 (h : RM A S) (hO : OK t S) (ht : t < 512) (hi : i < 6) (ha : a = -(i : Int) - 1) : Ret (rz_b (x142_no F a A) fun r A => some (r, A)) (S.no i).1 (fun A1 => RM A1 (S.no i).2) := by
  subst ha; exact leafM h hO ht i hi
theorem lfm2 (h : RM A S) (hO : OK t S) (ht : t < 512) (hi : i < 6) (ha : a = -(i : Int) - 1) : Ret (rz_b (x148_far F a A) fun r A => some (r, A)) (S.far i).1 (fun A1 => RM A1 (S.far i).2) := by
  subst ha; exact farM h hO ht i hi
end LEAF
/-! go -/
def St.go1 (S : St) (n : Int) : St := (S.1, (fun c => if c = 0 then (fun _ _ => (S.now + n)) else S.2 c))
def St.go (S : St) (n : Int) : Int × St := if n < 1 then S.no 3 else if 9999 - S.now < n then S.no 5 else (S.now + n, S.go1 n)
/-! limit -/
def St.setLimit1 (S : St) (v : Int) : St := (S.1, (fun c => if c = 1 then (fun _ _ => (v)) else S.2 c))
def St.setLimit (S : St) (v : Int) : Int × St := if v < 0 then S.no 3 else if 100 < v then S.no 5 else (S.limit, S.setLimit1 v)
/-! put -/
def St.put1 (S : St) (v : Int) : St := ((fun c => if c = 10 then S.nR + 1 else S.1 c), (fun c => if c = 50 then (fun _ => (up S.rB S.nR v)) else S.2 c))
def St.put (S : St) (v : Int) : Int × St := if v < -128 then S.no 3 else if 127 < v then S.no 5 else if 12 ≤ S.nR then S.no 5 else (S.nR + 1, S.put1 v)
/-! post -/
def St.post1 (S : St) (z : Int) : St := ((fun c => if c = 2 then S.nP + 1 else S.1 c), (fun c => if c = 11 then (fun _ => (up S.zero S.nP z)) else if c = 12 then (fun _ => (up S.low S.nP (-2000))) else if c = 13 then (fun _ => (up S.beside S.nP (-1))) else S.2 c))
def St.post (S : St) (z : Int) : Int × St := if z < -999 then S.no 3 else if 999 < z then S.no 5 else if 6 ≤ S.nP then S.no 5 else (S.nP, S.post1 z)
/-! moved -/
def St.moved1 (S : St) (p z f : Int) : St := ((fun c => if c = 3 then S.nZ + 1 else S.1 c), (fun c => if c = 19 then (fun _ => (up S.zP S.nZ p)) else if c = 20 then (fun _ => (up S.zZ S.nZ z)) else if c = 21 then (fun _ => (up S.zF S.nZ f)) else if c = 22 then (fun _ => (up S.zK S.nZ S.now)) else S.2 c))
def St.moved (S : St) (p z f : Int) : Int × St := if S.isP p then (if z < -999 then S.no 3 else if f < 0 then S.no 3 else if 999 < z then S.no 5 else if S.now < f then S.no 5 else if 60 ≤ S.nZ then S.no 5 else (S.nZ + 1, S.moved1 p z f)) else S.no 0
/-! low -/
def St.setLow1 (S : St) (p v : Int) : St := (S.1, (fun c => if c = 12 then (fun _ => (up S.low p.toNat v)) else S.2 c))
def St.setLow (S : St) (p v : Int) : Int × St := if S.isP p then (if v < -2000 then S.far 3 else if 9999 < v then S.far 5 else (S.low p.toNat, S.setLow1 p v)) else S.far 0
/-! beside -/
def St.setBeside1 (S : St) (p o : Int) : St := (S.1, (fun c => if c = 13 then (fun _ => (up S.beside p.toNat o)) else S.2 c))
def St.setBeside (S : St) (p o : Int) : Int × St := if S.isP p then (if o = -1 then (S.beside p.toNat, S.setBeside1 p o) else if S.isP o then (if o = p then S.far 0 else (S.beside p.toNat, S.setBeside1 p o)) else S.far 0) else S.far 0
/-! measure -/
def St.measure1 (S : St) (p u n w : Int) : St := ((fun c => if c = 5 then S.nF + 1 else S.1 c), (fun c => if c = 29 then (fun _ => (up S.fP S.nF p)) else if c = 30 then (fun _ => (up S.fT S.nF u)) else if c = 31 then (fun _ => (up S.fN S.nF n)) else if c = 32 then (fun _ => (up S.fW S.nF w)) else if c = 33 then (fun _ => (up S.fKn S.nF S.now)) else if c = 34 then (fun _ => (up S.fS S.nF (-1))) else S.2 c))
def St.measure (S : St) (p u n w : Int) : Int × St := if S.isP p then (if u < 0 then S.no 3 else if n < 0 then S.no 3 else if w < 0 then S.no 3 else if S.now < u then S.no 5 else if 99999 < n then S.no 5 else if 99 < w then S.no 5 else if 60 ≤ S.nF then S.no 5 else (S.nF, S.measure1 p u n w)) else S.no 0
/-! drop -/
def St.drop1 (S : St) (f : Int) : St := (S.1, (fun c => if c = 34 then (fun _ => (up S.fS f.toNat S.now)) else S.2 c))
def St.drop (S : St) (f : Int) : Int × St := if 0 ≤ f ∧ f < (S.nF : Int) then (if 0 ≤ S.fS f.toNat then S.no 2 else (1, S.drop1 f)) else S.no 0
/-! under -/
def St.under1 (S : St) (p k f u n : Int) : St := ((fun c => if c = 6 then S.nU + 1 else S.1 c), (fun c => if c = 35 then (fun _ => (up S.uP S.nU p)) else if c = 36 then (fun _ => (up S.uK S.nU k)) else if c = 37 then (fun _ => (up S.uF S.nU f)) else if c = 38 then (fun _ => (up S.uT S.nU u)) else if c = 39 then (fun _ => (up S.uM S.nU n)) else if c = 40 then (fun _ => (up S.uKn S.nU S.now)) else S.2 c))
def St.under (S : St) (p k f u n : Int) : Int × St := if S.isP p then (if k < 0 then S.no 1 else if 1 < k then S.no 1 else if f < 0 then S.no 3 else if u < f then S.no 3 else if n < 0 then S.no 3 else if 9999 < u then S.no 5 else if 99 < n then S.no 5 else if 40 ≤ S.nU then S.no 5 else (S.nU + 1, S.under1 p k f u n)) else S.no 0
section CALLS1
variable {t F : Nat} {A : rz_A} {S : St} {a b c d e p : Int}
theorem goC (h : RC A S) (hO : OK t S) (ht : t < 512) : Ret (x0_go F a A) (S.go a).1 (fun A1 => RC A1 (S.go a).2) := by
  have h1 := hO.now
  unfold x0_go St.go
  rw [h.now]
  split
  · (first | exact lfc1 h hO ht (by decide) (by decide) | exact lfc2 h hO ht (by decide) (by decide) | (exfalso; omega))
  · (simp (disch := omega) only [g32p, g64p, gxp, gnp, gzp, rz_b_some, Int.toNat_natCast])
    split
    · (first | exact lfc1 h hO ht (by decide) (by decide) | exact lfc2 h hO ht (by decide) (by decide) | (exfalso; omega))
    · (simp (disch := omega) only [g32p, g64p, gxp, gnp, gzp, rz_b_some, Int.toNat_natCast])
      exact Ret.mk (RC.of ⟨(rfl), (RC.limit h :), (RC.nP h :), (RC.nZ h :), (RC.nH h :), (RC.nF h :), (RC.nU h :), (RC.nS h :), (RC.nB h :), (RC.nT h :), (RC.nR h :), (RC.zero h :), (RC.low h :), (RC.beside h :), (RC.stN h :), (RC.stF0 h :), (RC.stF1 h :), (RC.stF2 h :), (RC.stF3 h :), (RC.stF4 h :), (RC.stF5 h :), (RC.bN0 h :), (RC.bN1 h :), (RC.bN2 h :), (RC.bN3 h :), (RC.bN4 h :), (RC.bN5 h :), (RC.bH0 h :), (RC.bH1 h :), (RC.bH2 h :), (RC.bH3 h :), (RC.bH4 h :), (RC.bH5 h :), (RC.bF0 h :), (RC.bF1 h :), (RC.bF2 h :), (RC.bF3 h :), (RC.bF4 h :), (RC.bF5 h :), (RC.zP h :), (RC.zZ h :), (RC.zF h :), (RC.zK h :), (RC.hP h :), (RC.hT h :), (RC.hK h :), (RC.hR h :), (RC.hKn h :), (RC.hS h :), (RC.hSm h :), (RC.fP h :), (RC.fT h :), (RC.fN h :), (RC.fW h :), (RC.fKn h :), (RC.fS h :), (RC.uP h :), (RC.uK h :), (RC.uF h :), (RC.uT h :), (RC.uM h :), (RC.uKn h :), (RC.sP h :), (RC.sD h :), (RC.sT h :), (RC.sN h :), (RC.st h :), (RC.pP h :), (RC.pT h :), (RC.pF h :), (RC.tB h :), (RC.rB h :), (RC.ref h :), (RC.ordR h :), (RC.ordS h :), (RC.ordA h :)⟩)
theorem goM (h : RM A S) (hO : OK t S) (ht : t < 512) : Ret (x141_go F a A) (S.go a).1 (fun A1 => RM A1 (S.go a).2) := by
  have h1 := hO.now
  unfold x141_go St.go
  rw [h.now]
  split
  · (first | exact lfm1 h hO ht (by decide) (by decide) | exact lfm2 h hO ht (by decide) (by decide) | (exfalso; omega))
  · (simp (disch := omega) only [g32p, g64p, gxp, gnp, gzp, rz_b_some, Int.toNat_natCast])
    split
    · (first | exact lfm1 h hO ht (by decide) (by decide) | exact lfm2 h hO ht (by decide) (by decide) | (exfalso; omega))
    · (simp (disch := omega) only [g32p, g64p, gxp, gnp, gzp, rz_b_some, Int.toNat_natCast])
      exact Ret.mk (RM.of ⟨(rfl), (RM.nP h :), (RM.nZ h :), (RM.nH h :), (RM.nF h :), (RM.nS h :), (RM.nU h :), (RM.nB h :), (RM.nT h :), (RM.nR h :), (RM.limit h :), (RM.zero h :), (RM.low h :), (RM.beside h :), (RM.stN h :), (RM.bN h :), (RM.stF h :), (RM.bH h :), (RM.bF h :), (RM.zP h :), (RM.zZ h :), (RM.zF h :), (RM.zK h :), (RM.hP h :), (RM.hT h :), (RM.hK h :), (RM.hR h :), (RM.hKn h :), (RM.hS h :), (RM.fP h :), (RM.fT h :), (RM.fN h :), (RM.fW h :), (RM.fKn h :), (RM.fS h :), (RM.uP h :), (RM.uK h :), (RM.uF h :), (RM.uT h :), (RM.uM h :), (RM.uKn h :), (RM.sP h :), (RM.sD h :), (RM.sT h :), (RM.sN h :), (RM.st h :), (RM.pP h :), (RM.pT h :), (RM.pF h :), (RM.tB h :), (RM.rB h :), (RM.ref h :)⟩)
theorem goO (hO : OK t S) : OK (t + 1) (S.go a).2 := by
  have h1 := hO.now
  unfold St.go
  split
  · exact hO.no 3
  · split
    · exact hO.no 5
    · exact (OK.of ⟨(⟨by show 0 ≤ S.now + a; omega, by show S.now + a ≤ 9999; omega⟩), (OK.limit (hO.mono) :), (OK.nP (hO.mono) :), (OK.nZ (hO.mono) :), (OK.nH (hO.mono) :), (OK.nF (hO.mono) :), (OK.nU (hO.mono) :), (OK.nS (hO.mono) :), (OK.nB (hO.mono) :), (OK.nT (hO.mono) :), (OK.nR (hO.mono) :), (OK.zero (hO.mono) :), (OK.low (hO.mono) :), (OK.beside (hO.mono) :), (OK.stN (hO.mono) :), (OK.stF (hO.mono) :), (OK.bN (hO.mono) :), (OK.b (hO.mono) :), (OK.bs (hO.mono) :), (OK.z (hO.mono) :), (OK.h (hO.mono) :), (OK.f (hO.mono) :), (OK.u (hO.mono) :), (OK.s (hO.mono) :), (OK.sv (hO.mono) :), (OK.p (hO.mono) :), (OK.tB (hO.mono) :), (OK.rB (hO.mono) :), (OK.ref (hO.mono) :)⟩)
theorem limitC (h : RC A S) (hO : OK t S) (ht : t < 512) : Ret (x139_limit F a A) (S.setLimit a).1 (fun A1 => RC A1 (S.setLimit a).2) := by
  unfold x139_limit St.setLimit
  rw [h.limit]
  split
  · (first | exact lfc1 h hO ht (by decide) (by decide) | exact lfc2 h hO ht (by decide) (by decide) | (exfalso; omega))
  · split
    · (first | exact lfc1 h hO ht (by decide) (by decide) | exact lfc2 h hO ht (by decide) (by decide) | (exfalso; omega))
    · exact Ret.mk (RC.of ⟨(RC.now h :), (rfl), (RC.nP h :), (RC.nZ h :), (RC.nH h :), (RC.nF h :), (RC.nU h :), (RC.nS h :), (RC.nB h :), (RC.nT h :), (RC.nR h :), (RC.zero h :), (RC.low h :), (RC.beside h :), (RC.stN h :), (RC.stF0 h :), (RC.stF1 h :), (RC.stF2 h :), (RC.stF3 h :), (RC.stF4 h :), (RC.stF5 h :), (RC.bN0 h :), (RC.bN1 h :), (RC.bN2 h :), (RC.bN3 h :), (RC.bN4 h :), (RC.bN5 h :), (RC.bH0 h :), (RC.bH1 h :), (RC.bH2 h :), (RC.bH3 h :), (RC.bH4 h :), (RC.bH5 h :), (RC.bF0 h :), (RC.bF1 h :), (RC.bF2 h :), (RC.bF3 h :), (RC.bF4 h :), (RC.bF5 h :), (RC.zP h :), (RC.zZ h :), (RC.zF h :), (RC.zK h :), (RC.hP h :), (RC.hT h :), (RC.hK h :), (RC.hR h :), (RC.hKn h :), (RC.hS h :), (RC.hSm h :), (RC.fP h :), (RC.fT h :), (RC.fN h :), (RC.fW h :), (RC.fKn h :), (RC.fS h :), (RC.uP h :), (RC.uK h :), (RC.uF h :), (RC.uT h :), (RC.uM h :), (RC.uKn h :), (RC.sP h :), (RC.sD h :), (RC.sT h :), (RC.sN h :), (RC.st h :), (RC.pP h :), (RC.pT h :), (RC.pF h :), (RC.tB h :), (RC.rB h :), (RC.ref h :), (RC.ordR h :), (RC.ordS h :), (RC.ordA h :)⟩)
theorem limitM (h : RM A S) (hO : OK t S) (ht : t < 512) : Ret (x212_limit F a A) (S.setLimit a).1 (fun A1 => RM A1 (S.setLimit a).2) := by
  unfold x212_limit St.setLimit
  rw [h.limit]
  split
  · (first | exact lfm1 h hO ht (by decide) (by decide) | exact lfm2 h hO ht (by decide) (by decide) | (exfalso; omega))
  · split
    · (first | exact lfm1 h hO ht (by decide) (by decide) | exact lfm2 h hO ht (by decide) (by decide) | (exfalso; omega))
    · exact Ret.mk (RM.of ⟨(RM.now h :), (RM.nP h :), (RM.nZ h :), (RM.nH h :), (RM.nF h :), (RM.nS h :), (RM.nU h :), (RM.nB h :), (RM.nT h :), (RM.nR h :), (rfl), (RM.zero h :), (RM.low h :), (RM.beside h :), (RM.stN h :), (RM.bN h :), (RM.stF h :), (RM.bH h :), (RM.bF h :), (RM.zP h :), (RM.zZ h :), (RM.zF h :), (RM.zK h :), (RM.hP h :), (RM.hT h :), (RM.hK h :), (RM.hR h :), (RM.hKn h :), (RM.hS h :), (RM.fP h :), (RM.fT h :), (RM.fN h :), (RM.fW h :), (RM.fKn h :), (RM.fS h :), (RM.uP h :), (RM.uK h :), (RM.uF h :), (RM.uT h :), (RM.uM h :), (RM.uKn h :), (RM.sP h :), (RM.sD h :), (RM.sT h :), (RM.sN h :), (RM.st h :), (RM.pP h :), (RM.pT h :), (RM.pF h :), (RM.tB h :), (RM.rB h :), (RM.ref h :)⟩)
theorem limitO (hO : OK t S) : OK (t + 1) (S.setLimit a).2 := by
  unfold St.setLimit
  split
  · exact hO.no 3
  · split
    · exact hO.no 5
    · exact (OK.of ⟨(OK.now (hO.mono) :), (⟨by show 0 ≤ a; omega, by show a ≤ 100; omega⟩), (OK.nP (hO.mono) :), (OK.nZ (hO.mono) :), (OK.nH (hO.mono) :), (OK.nF (hO.mono) :), (OK.nU (hO.mono) :), (OK.nS (hO.mono) :), (OK.nB (hO.mono) :), (OK.nT (hO.mono) :), (OK.nR (hO.mono) :), (OK.zero (hO.mono) :), (OK.low (hO.mono) :), (OK.beside (hO.mono) :), (OK.stN (hO.mono) :), (OK.stF (hO.mono) :), (OK.bN (hO.mono) :), (OK.b (hO.mono) :), (OK.bs (hO.mono) :), (OK.z (hO.mono) :), (OK.h (hO.mono) :), (OK.f (hO.mono) :), (OK.u (hO.mono) :), (OK.s (hO.mono) :), (OK.sv (hO.mono) :), (OK.p (hO.mono) :), (OK.tB (hO.mono) :), (OK.rB (hO.mono) :), (OK.ref (hO.mono) :)⟩)
theorem putC (h : RC A S) (hO : OK t S) (ht : t < 512) : Ret (x109_put F a A) (S.put a).1 (fun A1 => RC A1 (S.put a).2) := by
  have h1 := hO.nR
  unfold x109_put St.put
  rw [h.nR]
  repeat' (first | split | (simp (disch := omega) only [g32p, g64p, gxp, gnp, gzp, rz_b_some, Int.toNat_natCast]))
  all_goals first | (first | exact lfc1 h hO ht (by decide) (by decide) | exact lfc2 h hO ht (by decide) (by decide) | (exfalso; omega)) | skip
  exact Ret.mk (RC.of ⟨(RC.now h :), (RC.limit h :), (RC.nP h :), (RC.nZ h :), (RC.nH h :), (RC.nF h :), (RC.nU h :), (RC.nS h :), (RC.nB h :), (RC.nT h :), (rfl), (RC.zero h :), (RC.low h :), (RC.beside h :), (RC.stN h :), (RC.stF0 h :), (RC.stF1 h :), (RC.stF2 h :), (RC.stF3 h :), (RC.stF4 h :), (RC.stF5 h :), (RC.bN0 h :), (RC.bN1 h :), (RC.bN2 h :), (RC.bN3 h :), (RC.bN4 h :), (RC.bN5 h :), (RC.bH0 h :), (RC.bH1 h :), (RC.bH2 h :), (RC.bH3 h :), (RC.bH4 h :), (RC.bH5 h :), (RC.bF0 h :), (RC.bF1 h :), (RC.bF2 h :), (RC.bF3 h :), (RC.bF4 h :), (RC.bF5 h :), (RC.zP h :), (RC.zZ h :), (RC.zF h :), (RC.zK h :), (RC.hP h :), (RC.hT h :), (RC.hK h :), (RC.hR h :), (RC.hKn h :), (RC.hS h :), (RC.hSm h :), (RC.fP h :), (RC.fT h :), (RC.fN h :), (RC.fW h :), (RC.fKn h :), (RC.fS h :), (RC.uP h :), (RC.uK h :), (RC.uF h :), (RC.uT h :), (RC.uM h :), (RC.uKn h :), (RC.sP h :), (RC.sD h :), (RC.sT h :), (RC.sN h :), (RC.st h :), (RC.pP h :), (RC.pT h :), (RC.pF h :), (RC.tB h :), ((congrArg (fun f => up f _ _) h.rB)), (RC.ref h :), (RC.ordR h :), (RC.ordS h :), (RC.ordA h :)⟩)
theorem putM (h : RM A S) (hO : OK t S) (ht : t < 512) : Ret (x200_put F a A) (S.put a).1 (fun A1 => RM A1 (S.put a).2) := by
  have h1 := hO.nR
  unfold x200_put St.put
  rw [h.nR]
  repeat' (first | split | (simp (disch := omega) only [g32p, g64p, gxp, gnp, gzp, rz_b_some, Int.toNat_natCast]))
  all_goals first | (first | exact lfm1 h hO ht (by decide) (by decide) | exact lfm2 h hO ht (by decide) (by decide) | (exfalso; omega)) | skip
  exact Ret.mk (RM.of ⟨(RM.now h :), (RM.nP h :), (RM.nZ h :), (RM.nH h :), (RM.nF h :), (RM.nS h :), (RM.nU h :), (RM.nB h :), (RM.nT h :), (rfl), (RM.limit h :), (RM.zero h :), (RM.low h :), (RM.beside h :), (RM.stN h :), (RM.bN h :), (RM.stF h :), (RM.bH h :), (RM.bF h :), (RM.zP h :), (RM.zZ h :), (RM.zF h :), (RM.zK h :), (RM.hP h :), (RM.hT h :), (RM.hK h :), (RM.hR h :), (RM.hKn h :), (RM.hS h :), (RM.fP h :), (RM.fT h :), (RM.fN h :), (RM.fW h :), (RM.fKn h :), (RM.fS h :), (RM.uP h :), (RM.uK h :), (RM.uF h :), (RM.uT h :), (RM.uM h :), (RM.uKn h :), (RM.sP h :), (RM.sD h :), (RM.sT h :), (RM.sN h :), (RM.st h :), (RM.pP h :), (RM.pT h :), (RM.pF h :), (RM.tB h :), ((congrArg (fun f => up f _ _) h.rB)), (RM.ref h :)⟩)
theorem putO (hO : OK t S) : OK (t + 1) (S.put a).2 := by
  have h1 := hO.nR
  unfold St.put
  repeat' split
  · exact hO.no 3
  · exact hO.no 5
  · exact hO.no 5
  · exact (OK.of ⟨(OK.now (hO.mono) :), (OK.limit (hO.mono) :), (OK.nP (hO.mono) :), (OK.nZ (hO.mono) :), (OK.nH (hO.mono) :), (OK.nF (hO.mono) :), (OK.nU (hO.mono) :), (OK.nS (hO.mono) :), (OK.nB (hO.mono) :), (OK.nT (hO.mono) :), ((by show S.nR + 1 ≤ 12; omega)), (OK.zero (hO.mono) :), (OK.low (hO.mono) :), (OK.beside (hO.mono) :), (OK.stN (hO.mono) :), (OK.stF (hO.mono) :), (OK.bN (hO.mono) :), (OK.b (hO.mono) :), (OK.bs (hO.mono) :), (OK.z (hO.mono) :), (OK.h (hO.mono) :), (OK.f (hO.mono) :), (OK.u (hO.mono) :), (OK.s (hO.mono) :), (OK.sv (hO.mono) :), (OK.p (hO.mono) :), (OK.tB (hO.mono) :), ((fun i hi => by
      have h2 := hO.rB i
      show -128 ≤ up S.rB S.nR a i ∧ up S.rB S.nR a i ≤ 127
      have h3 : i < S.nR + 1 := hi
      unfold up
      split <;> omega)), (OK.ref (hO.mono) :)⟩)
theorem postC (h : RC A S) (hO : OK t S) (ht : t < 512) : Ret (x2_post F a A) (S.post a).1 (fun A1 => RC A1 (S.post a).2) := by
  have h1 := hO.nP
  unfold x2_post St.post x3_come
  simp only [h.nP]
  repeat' (first | split | (simp (disch := omega) only [g32p, g64p, gxp, gnp, gzp, rz_b_some, Int.toNat_natCast]))
  all_goals first | (first | exact lfc1 h hO ht (by decide) (by decide) | exact lfc2 h hO ht (by decide) (by decide) | (exfalso; omega)) | skip
  rw [show (S.nP : Int) + 1 - 1 = S.nP by omega]
  exact Ret.mk (RC.of ⟨(RC.now h :), (RC.limit h :), (rfl), (RC.nZ h :), (RC.nH h :), (RC.nF h :), (RC.nU h :), (RC.nS h :), (RC.nB h :), (RC.nT h :), (RC.nR h :), ((congrArg (fun f => up f _ _) h.zero)), ((congrArg (fun f => up f _ _) h.low)), ((congrArg (fun f => up f _ _) h.beside)), (RC.stN h :), (RC.stF0 h :), (RC.stF1 h :), (RC.stF2 h :), (RC.stF3 h :), (RC.stF4 h :), (RC.stF5 h :), (RC.bN0 h :), (RC.bN1 h :), (RC.bN2 h :), (RC.bN3 h :), (RC.bN4 h :), (RC.bN5 h :), (RC.bH0 h :), (RC.bH1 h :), (RC.bH2 h :), (RC.bH3 h :), (RC.bH4 h :), (RC.bH5 h :), (RC.bF0 h :), (RC.bF1 h :), (RC.bF2 h :), (RC.bF3 h :), (RC.bF4 h :), (RC.bF5 h :), (RC.zP h :), (RC.zZ h :), (RC.zF h :), (RC.zK h :), (RC.hP h :), (RC.hT h :), (RC.hK h :), (RC.hR h :), (RC.hKn h :), (RC.hS h :), (RC.hSm h :), (RC.fP h :), (RC.fT h :), (RC.fN h :), (RC.fW h :), (RC.fKn h :), (RC.fS h :), (RC.uP h :), (RC.uK h :), (RC.uF h :), (RC.uT h :), (RC.uM h :), (RC.uKn h :), (RC.sP h :), (RC.sD h :), (RC.sT h :), (RC.sN h :), (RC.st h :), (RC.pP h :), (RC.pT h :), (RC.pF h :), (RC.tB h :), (RC.rB h :), (RC.ref h :), (RC.ordR h :), (RC.ordS h :), (RC.ordA h :)⟩)
theorem postM (h : RM A S) (hO : OK t S) (ht : t < 512) : Ret (x143_post F a A) (S.post a).1 (fun A1 => RM A1 (S.post a).2) := by
  have h1 := hO.nP
  unfold x143_post St.post
  simp only [h.nP]
  repeat' (first | split | (simp (disch := omega) only [g32p, g64p, gxp, gnp, gzp, rz_b_some, Int.toNat_natCast]))
  all_goals first | (first | exact lfm1 h hO ht (by decide) (by decide) | exact lfm2 h hO ht (by decide) (by decide) | (exfalso; omega)) | skip
  exact Ret.mk (RM.of ⟨(RM.now h :), (rfl), (RM.nZ h :), (RM.nH h :), (RM.nF h :), (RM.nS h :), (RM.nU h :), (RM.nB h :), (RM.nT h :), (RM.nR h :), (RM.limit h :), ((congrArg (fun f => up f _ _) h.zero)), ((congrArg (fun f => up f _ _) h.low)), ((congrArg (fun f => up f _ _) h.beside)), (RM.stN h :), (RM.bN h :), (RM.stF h :), (RM.bH h :), (RM.bF h :), (RM.zP h :), (RM.zZ h :), (RM.zF h :), (RM.zK h :), (RM.hP h :), (RM.hT h :), (RM.hK h :), (RM.hR h :), (RM.hKn h :), (RM.hS h :), (RM.fP h :), (RM.fT h :), (RM.fN h :), (RM.fW h :), (RM.fKn h :), (RM.fS h :), (RM.uP h :), (RM.uK h :), (RM.uF h :), (RM.uT h :), (RM.uM h :), (RM.uKn h :), (RM.sP h :), (RM.sD h :), (RM.sT h :), (RM.sN h :), (RM.st h :), (RM.pP h :), (RM.pT h :), (RM.pF h :), (RM.tB h :), (RM.rB h :), (RM.ref h :)⟩)
theorem movedC (h : RC A S) (hO : OK t S) (ht : t < 512) : Ret (x4_moved F a b c A) (S.moved a b c).1 (fun A1 => RC A1 (S.moved a b c).2) := by
  have h1 := hO.nP
  have h2 := hO.nZ
  unfold x4_moved St.moved x7_move x6_forget
  by_cases hp : S.isP a
  · rw [hasC1 h hp, if_pos hp]
    simp only [rz_b_some]
    rw [if_neg (by decide)]
    simp only [h.nZ, h.now]
    repeat' (first | split | (simp (disch := omega) only [g32p, g64p, gxp, gnp, gzp, rz_b_some, Int.toNat_natCast]))
    all_goals first | (first | exact lfc1 h hO ht (by decide) (by decide) | exact lfc2 h hO ht (by decide) (by decide) | (exfalso; omega)) | skip
    have e1 : (aI A 51 5 0).1 2 1 = S.nZ := h.nZ
    have e2 : (aI A 51 5 0).1 0 16 = S.now := h.now
    simp only [e1, e2]
    (simp (disch := omega) only [g32p, g64p, gxp, gnp, gzp, rz_b_some, Int.toNat_natCast])
    exact Ret.mk (RC.of ⟨(RC.now h :), (RC.limit h :), (RC.nP h :), (rfl), (RC.nH h :), (RC.nF h :), (RC.nU h :), (RC.nS h :), (RC.nB h :), (RC.nT h :), (RC.nR h :), (RC.zero h :), (RC.low h :), (RC.beside h :), (RC.stN h :), (RC.stF0 h :), (RC.stF1 h :), (RC.stF2 h :), (RC.stF3 h :), (RC.stF4 h :), (RC.stF5 h :), (RC.bN0 h :), (RC.bN1 h :), (RC.bN2 h :), (RC.bN3 h :), (RC.bN4 h :), (RC.bN5 h :), (RC.bH0 h :), (RC.bH1 h :), (RC.bH2 h :), (RC.bH3 h :), (RC.bH4 h :), (RC.bH5 h :), (RC.bF0 h :), (RC.bF1 h :), (RC.bF2 h :), (RC.bF3 h :), (RC.bF4 h :), (RC.bF5 h :), ((congrArg (fun f => up f _ _) h.zP)), ((congrArg (fun f => up f _ _) h.zZ)), ((congrArg (fun f => up f _ _) h.zF)), ((congrArg (fun f => up f _ _) h.zK)), (RC.hP h :), (RC.hT h :), (RC.hK h :), (RC.hR h :), (RC.hKn h :), (RC.hS h :), (RC.hSm h :), (RC.fP h :), (RC.fT h :), (RC.fN h :), (RC.fW h :), (RC.fKn h :), (RC.fS h :), (RC.uP h :), (RC.uK h :), (RC.uF h :), (RC.uT h :), (RC.uM h :), (RC.uKn h :), (RC.sP h :), (RC.sD h :), (RC.sT h :), (RC.sN h :), (RC.st h :), (RC.pP h :), (RC.pT h :), (RC.pF h :), (RC.tB h :), (RC.rB h :), (RC.ref h :), (RC.ordR h :), (RC.ordS h :), (RC.ordA h :)⟩)
  · rw [hasC0 h hp, if_neg hp]
    simp only [rz_b_some, if_true]
    (first | exact lfc1 h hO ht (by decide) (by decide) | exact lfc2 h hO ht (by decide) (by decide) | (exfalso; omega))
theorem movedM (h : RM A S) (hO : OK t S) (ht : t < 512) (hs : 0 ≤ A.1 91 11 ∧ A.1 91 11 < 512) : Ret (x144_moved F a b c A) (S.moved a b c).1 (fun A1 => RM A1 (S.moved a b c).2) := by
  have h1 := hO.nP
  have h2 := hO.nZ
  unfold x144_moved St.moved
  by_cases hp : S.isP a
  · rw [hasM1 h hp, if_pos hp]
    simp only [rz_b_some]
    rw [if_neg (by decide)]
    simp only [h.nZ, h.now]
    repeat' (first | split | (simp (disch := omega) only [g32p, g64p, gxp, gnp, gzp, rz_b_some, Int.toNat_natCast]))
    all_goals first | (first | exact lfm1 h hO ht (by decide) (by decide) | exact lfm2 h hO ht (by decide) (by decide) | (exfalso; omega)) | skip
    exact Ret.mk (RM.of ⟨(RM.now h :), (RM.nP h :), (rfl), (RM.nH h :), (RM.nF h :), (RM.nS h :), (RM.nU h :), (RM.nB h :), (RM.nT h :), (RM.nR h :), (RM.limit h :), (RM.zero h :), (RM.low h :), (RM.beside h :), (RM.stN h :), (RM.bN h :), (RM.stF h :), (RM.bH h :), (RM.bF h :), ((congrArg (fun f => up f _ _) h.zP)), ((congrArg (fun f => up f _ _) h.zZ)), ((congrArg (fun f => up f _ _) h.zF)), ((congrArg (fun f => up f _ _) h.zK)), (RM.hP h :), (RM.hT h :), (RM.hK h :), (RM.hR h :), (RM.hKn h :), (RM.hS h :), (RM.fP h :), (RM.fT h :), (RM.fN h :), (RM.fW h :), (RM.fKn h :), (RM.fS h :), (RM.uP h :), (RM.uK h :), (RM.uF h :), (RM.uT h :), (RM.uM h :), (RM.uKn h :), (RM.sP h :), (RM.sD h :), (RM.sT h :), (RM.sN h :), (RM.st h :), (RM.pP h :), (RM.pT h :), (RM.pF h :), (RM.tB h :), (RM.rB h :), (RM.ref h :)⟩)
  · rw [hasM0 h hp, if_neg hp]
    simp only [rz_b_some, if_true]
    (first | exact lfm1 h hO ht (by decide) (by decide) | exact lfm2 h hO ht (by decide) (by decide) | (exfalso; omega))
end CALLS1
