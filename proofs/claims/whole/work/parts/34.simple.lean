/-! the calls that only write down, or only read -/
abbrev St.isP (S : St) (p : Int) : Prop := 0 ≤ p ∧ p < (S.nP : Int)
section SIMPLE
variable {t F : Nat} {A : rz_A} {S : St} {a b c d e p : Int}
theorem refuseC (h : RC A S) (hO : OK t S) (ht : t < 512) (i : Nat) (hi : i < 6) (ha : a = -(i : Int) - 1) : x1_refuse F a A = some (a, aI A 1 i (A.1 1 i + 1)) := by
  have h1 := hO.ref i
  have h2 := h.ref i hi
  have e1 : ((-1) - a).toNat = i := by omega
  unfold x1_refuse
  rw [e1]
  gdi
theorem noM (h : RM A S) (hO : OK t S) (ht : t < 512) (i : Nat) (hi : i < 6) (ha : a = -(i : Int) - 1) : x142_no F a A = some (a, aI A 132 (i + 1) (A.1 132 (i + 1) + 1)) := by
  have h1 := hO.ref i
  have h2 := h.ref i hi
  have e1 : (-a).toNat = i + 1 := by omega
  unfold x142_no
  rw [e1]
  gdi
theorem leafC (h : RC A S) (hO : OK t S) (ht : t < 512) (i : Nat) (hi : i < 6) : Ret (rz_b (x1_refuse F (-(i : Int) - 1) A) fun r A => some (r, A)) (S.no i).1 (fun A1 => RC A1 (S.no i).2) := by
  rw [refuseC h hO ht i hi rfl]
  exact Ret.mk (h.no hi)
theorem leafM (h : RM A S) (hO : OK t S) (ht : t < 512) (i : Nat) (hi : i < 6) : Ret (rz_b (x142_no F (-(i : Int) - 1) A) fun r A => some (r, A)) (S.no i).1 (fun A1 => RM A1 (S.no i).2) := by
  rw [noM h hO ht i hi rfl]
  exact Ret.mk (h.no hi)
theorem farC (h : RC A S) (hO : OK t S) (ht : t < 512) (i : Nat) (hi : i < 6) : Ret (rz_b (x10_refuseAsTold F (-(i : Int) - 1) A) fun r A => some (r, A)) (S.far i).1 (fun A1 => RC A1 (S.far i).2) := by
  unfold x10_refuseAsTold
  rw [refuseC h hO ht i hi rfl]
  gd
  refine ⟨_, ?_, h.no hi⟩
  congr 1
  congr 1
  show _ = 1000000001 + (i : Int)
  omega
theorem farM (h : RM A S) (hO : OK t S) (ht : t < 512) (i : Nat) (hi : i < 6) : Ret (rz_b (x148_far F (-(i : Int) - 1) A) fun r A => some (r, A)) (S.far i).1 (fun A1 => RM A1 (S.far i).2) := by
  unfold x148_far
  rw [noM h hO ht i hi rfl]
  gd
  refine ⟨_, ?_, h.no hi⟩
  congr 1
  congr 1
  show _ = 1000000001 + (i : Int)
  omega
theorem hasC1 (h : RC A S) (hp : S.isP p) : x5_has F p A = some (1, A) := by
  unfold x5_has
  rw [h.nP]
  gdi
theorem hasC0 (h : RC A S) (hp : ¬ S.isP p) : x5_has F p A = some (0, A) := by
  unfold x5_has
  rw [h.nP]
  split
  · split
    · omega
    · rfl
  · rfl
theorem hasM1 (h : RM A S) (hp : S.isP p) : x145_isPost F p A = some (1, A) := by
  unfold x145_isPost
  rw [h.nP]
  gdi
theorem hasM0 (h : RM A S) (hp : ¬ S.isP p) : x145_isPost F p A = some (0, A) := by
  unfold x145_isPost
  rw [h.nP]
  split
  · split
    · omega
    · rfl
  · rfl
/-- times of a call: the refusal's number, or none -/
def tim (a b : Int) : Option Nat := if a < 0 ∨ b < 0 then some 3 else if 9999 < a ∨ 9999 < b then some 5 else none
end SIMPLE
macro "lfC" h:term "," o:term "," t:term : tactic => `(tactic| first | exact leafC $h $o $t 0 (by decide) | exact leafC $h $o $t 1 (by decide) | exact leafC $h $o $t 2 (by decide) | exact leafC $h $o $t 3 (by decide) | exact leafC $h $o $t 4 (by decide) | exact leafC $h $o $t 5 (by decide) | exact farC $h $o $t 0 (by decide) | exact farC $h $o $t 1 (by decide) | exact farC $h $o $t 2 (by decide) | exact farC $h $o $t 3 (by decide) | exact farC $h $o $t 4 (by decide) | exact farC $h $o $t 5 (by decide) | (exfalso; omega))
macro "lfM" h:term "," o:term "," t:term : tactic => `(tactic| first | exact leafM $h $o $t 0 (by decide) | exact leafM $h $o $t 1 (by decide) | exact leafM $h $o $t 2 (by decide) | exact leafM $h $o $t 3 (by decide) | exact leafM $h $o $t 4 (by decide) | exact leafM $h $o $t 5 (by decide) | exact farM $h $o $t 0 (by decide) | exact farM $h $o $t 1 (by decide) | exact farM $h $o $t 2 (by decide) | exact farM $h $o $t 3 (by decide) | exact farM $h $o $t 4 (by decide) | exact farM $h $o $t 5 (by decide) | (exfalso; omega))
/-! go -/
def St.go (S : St) (n : Int) : Int × St := if n < 1 then S.no 3 else if 9999 - S.now < n then S.no 5 else (S.now + n, { S with now := S.now + n })
/-! limit -/
def St.setLimit (S : St) (v : Int) : Int × St := if v < 0 then S.no 3 else if 100 < v then S.no 5 else (S.limit, { S with limit := v })
/-! put -/
def St.put (S : St) (v : Int) : Int × St := if v < -128 then S.no 3 else if 127 < v then S.no 5 else if 12 ≤ S.nR then S.no 5 else (S.nR + 1, { S with rB := up S.rB S.nR v, nR := S.nR + 1 })
/-! post -/
def St.post (S : St) (z : Int) : Int × St := if z < -999 then S.no 3 else if 999 < z then S.no 5 else if 6 ≤ S.nP then S.no 5 else (S.nP, { S with zero := up S.zero S.nP z, low := up S.low S.nP (-2000), beside := up S.beside S.nP (-1), nP := S.nP + 1 })
/-! moved -/
def St.moved (S : St) (p z f : Int) : Int × St := if ¬ S.isP p then S.no 0 else if z < -999 then S.no 3 else if f < 0 then S.no 3 else if 999 < z then S.no 5 else if S.now < f then S.no 5 else if 60 ≤ S.nZ then S.no 5 else (S.nZ + 1, { S with zP := up S.zP S.nZ p, zZ := up S.zZ S.nZ z, zF := up S.zF S.nZ f, zK := up S.zK S.nZ S.now, nZ := S.nZ + 1 })
/-! low -/
def St.setLow (S : St) (p v : Int) : Int × St := if ¬ S.isP p then S.far 0 else if v < -2000 then S.far 3 else if 9999 < v then S.far 5 else (S.low p.toNat, { S with low := up S.low p.toNat v })
/-! beside -/
def St.setBeside (S : St) (p o : Int) : Int × St := if ¬ S.isP p then S.far 0 else if o ≠ -1 ∧ (¬ S.isP o ∨ o = p) then S.far 0 else (S.beside p.toNat, { S with beside := up S.beside p.toNat o })
section CALLS1
variable {t F : Nat} {A : rz_A} {S : St} {a b c d e p : Int}
theorem goC (h : RC A S) (hO : OK t S) (ht : t < 512) : Ret (x0_go F a A) (S.go a).1 (fun A1 => RC A1 (S.go a).2) := by
  have h1 := hO.now
  unfold x0_go St.go
  rw [h.now]
  split
  · lfC h, hO, ht
  · gd
    split
    · lfC h, hO, ht
    · gd
      exact Ret.mk { h with now := rfl }
theorem goM (h : RM A S) (hO : OK t S) (ht : t < 512) : Ret (x141_go F a A) (S.go a).1 (fun A1 => RM A1 (S.go a).2) := by
  have h1 := hO.now
  unfold x141_go St.go
  rw [h.now]
  split
  · lfM h, hO, ht
  · gd
    split
    · lfM h, hO, ht
    · gd
      exact Ret.mk { h with now := rfl }
theorem goO (hO : OK t S) : OK (t + 1) (S.go a).2 := by
  have h1 := hO.now
  unfold St.go
  split
  · exact hO.no 3
  · split
    · exact hO.no 5
    · exact { hO.mono with now := ⟨by show 0 ≤ S.now + a; omega, by show S.now + a ≤ 9999; omega⟩ }
theorem limitC (h : RC A S) (hO : OK t S) (ht : t < 512) : Ret (x139_limit F a A) (S.setLimit a).1 (fun A1 => RC A1 (S.setLimit a).2) := by
  unfold x139_limit St.setLimit
  rw [h.limit]
  split
  · lfC h, hO, ht
  · split
    · lfC h, hO, ht
    · exact Ret.mk { h with limit := rfl }
theorem limitM (h : RM A S) (hO : OK t S) (ht : t < 512) : Ret (x212_limit F a A) (S.setLimit a).1 (fun A1 => RM A1 (S.setLimit a).2) := by
  unfold x212_limit St.setLimit
  rw [h.limit]
  split
  · lfM h, hO, ht
  · split
    · lfM h, hO, ht
    · exact Ret.mk { h with limit := rfl }
theorem limitO (hO : OK t S) : OK (t + 1) (S.setLimit a).2 := by
  unfold St.setLimit
  split
  · exact hO.no 3
  · split
    · exact hO.no 5
    · exact { hO.mono with limit := ⟨by show 0 ≤ a; omega, by show a ≤ 100; omega⟩ }
end CALLS1
