attribute [local irreducible] rz_g32 rz_g64 rz_gx rz_gn rz_gz rz_gp rz_b
/-! the calls that only write down, or only read -/
abbrev St.isP (S : St) (p : Int) : Prop := 0 ≤ p ∧ p < (S.nP : Int)
section SIMPLE
variable {t F : Nat} {A : rz_A} {S : St} {a b c d e p : Int}
theorem refuseC (h : RC A S) (hO : OK t S) (ht : t < 512) (i : Nat) (hi : i < 6) (ha : a = -(i : Int) - 1) : x1_refuse F a A = some (a, aI A 1 i (A.1 1 i + 1)) := by
  have h1 := hO.ref i
  have h2 := h.ref i hi
  have e1 : ((-1) - a).toNat = i := by omega
  unfold x1_refuse
  rw [e1]
  gdi
theorem noM (h : RM A S) (hO : OK t S) (ht : t < 512) (i : Nat) (hi : i < 6) (ha : a = -(i : Int) - 1) : x142_no F a A = some (a, aI A 132 (i + 1) (A.1 132 (i + 1) + 1)) := by
  have h1 := hO.ref i
  have h2 := h.ref i hi
  have e1 : (-a).toNat = i + 1 := by omega
  unfold x142_no
  rw [e1]
  gdi
theorem leafC (h : RC A S) (hO : OK t S) (ht : t < 512) (i : Nat) (hi : i < 6) : Ret (rz_b (x1_refuse F (-(i : Int) - 1) A) fun r A => some (r, A)) (S.no i).1 (fun A1 => RC A1 (S.no i).2) := by
  exact Ret.bs (refuseC h hO ht i hi rfl) (Ret.mk (h.no hi))
theorem leafM (h : RM A S) (hO : OK t S) (ht : t < 512) (i : Nat) (hi : i < 6) : Ret (rz_b (x142_no F (-(i : Int) - 1) A) fun r A => some (r, A)) (S.no i).1 (fun A1 => RM A1 (S.no i).2) := by
  exact Ret.bs (noM h hO ht i hi rfl) (Ret.mk (h.no hi))
theorem farC (h : RC A S) (hO : OK t S) (ht : t < 512) (i : Nat) (hi : i < 6) : Ret (rz_b (x10_refuseAsTold F (-(i : Int) - 1) A) fun r A => some (r, A)) (S.far i).1 (fun A1 => RC A1 (S.far i).2) := by
  unfold x10_refuseAsTold
  rw [refuseC h hO ht i hi rfl]
  gd
  refine ⟨_, ?_, h.no hi⟩
  congr 1
  congr 1
  show _ = 1000000001 + (i : Int)
  omega
theorem farM (h : RM A S) (hO : OK t S) (ht : t < 512) (i : Nat) (hi : i < 6) : Ret (rz_b (x148_far F (-(i : Int) - 1) A) fun r A => some (r, A)) (S.far i).1 (fun A1 => RM A1 (S.far i).2) := by
  unfold x148_far
  rw [noM h hO ht i hi rfl]
  gd
  refine ⟨_, ?_, h.no hi⟩
  congr 1
  congr 1
  show _ = 1000000001 + (i : Int)
  omega
theorem hasC1 (h : RC A S) (hp : S.isP p) : x5_has F p A = some (1, A) := by
  unfold x5_has
  rw [h.nP]
  gdi
theorem hasC0 (h : RC A S) (hp : ¬ S.isP p) : x5_has F p A = some (0, A) := by
  unfold x5_has
  rw [h.nP]
  split
  · split
    · omega
    · rfl
  · rfl
theorem hasM1 (h : RM A S) (hp : S.isP p) : x145_isPost F p A = some (1, A) := by
  unfold x145_isPost
  rw [h.nP]
  gdi
theorem hasM0 (h : RM A S) (hp : ¬ S.isP p) : x145_isPost F p A = some (0, A) := by
  unfold x145_isPost
  rw [h.nP]
  split
  · split
    · omega
    · rfl
  · rfl
/-- times of a call: the refusal's number, or none -/
def tim (a b : Int) : Option Nat := if a < 0 ∨ b < 0 then some 3 else if 9999 < a ∨ 9999 < b then some 5 else none
end SIMPLE
section LEAF
variable {t F : Nat} {A : rz_A} {S : St} {a : Int} {i : Nat}
theorem lfc1 (h : RC A S) (hO : OK t S) (ht : t < 512) (hi : i < 6) (ha : a = -(i : Int) - 1) : Ret (rz_b (x1_refuse F a A) fun r A => some (r, A)) (S.no i).1 (fun A1 => RC A1 (S.no i).2) := by
  subst ha; exact leafC h hO ht i hi
theorem lfc2 (h : RC A S) (hO : OK t S) (ht : t < 512) (hi : i < 6) (ha : a = -(i : Int) - 1) : Ret (rz_b (x10_refuseAsTold F a A) fun r A => some (r, A)) (S.far i).1 (fun A1 => RC A1 (S.far i).2) := by
  subst ha; exact farC h hO ht i hi
theorem lfm1 (h : RM A S) (hO : OK t S) (ht : t < 512) (hi : i < 6) (ha : a = -(i : Int) - 1) : Ret (rz_b (x142_no F a A) fun r A => some (r, A)) (S.no i).1 (fun A1 => RM A1 (S.no i).2) := by
  subst ha; exact leafM h hO ht i hi
theorem lfm2 (h : RM A S) (hO : OK t S) (ht : t < 512) (hi : i < 6) (ha : a = -(i : Int) - 1) : Ret (rz_b (x148_far F a A) fun r A => some (r, A)) (S.far i).1 (fun A1 => RM A1 (S.far i).2) := by
  subst ha; exact farM h hO ht i hi
end LEAF
macro "lfC" h:term "," o:term "," t:term : tactic => `(tactic| first | exact lfc1 $h $o $t (by decide) (by decide) | exact lfc2 $h $o $t (by decide) (by decide) | (exfalso; omega))
macro "lfM" h:term "," o:term "," t:term : tactic => `(tactic| first | exact lfm1 $h $o $t (by decide) (by decide) | exact lfm2 $h $o $t (by decide) (by decide) | (exfalso; omega))
/-! go -/
def St.go (S : St) (n : Int) : Int × St := if n < 1 then S.no 3 else if 9999 - S.now < n then S.no 5 else (S.now + n, { S with now := S.now + n })
/-! limit -/
def St.setLimit (S : St) (v : Int) : Int × St := if v < 0 then S.no 3 else if 100 < v then S.no 5 else (S.limit, { S with limit := v })
/-! put -/
def St.put (S : St) (v : Int) : Int × St := if v < -128 then S.no 3 else if 127 < v then S.no 5 else if 12 ≤ S.nR then S.no 5 else (S.nR + 1, { S with rB := up S.rB S.nR v, nR := S.nR + 1 })
/-! post -/
def St.post (S : St) (z : Int) : Int × St := if z < -999 then S.no 3 else if 999 < z then S.no 5 else if 6 ≤ S.nP then S.no 5 else (S.nP, { S with zero := up S.zero S.nP z, low := up S.low S.nP (-2000), beside := up S.beside S.nP (-1), nP := S.nP + 1 })
/-! moved -/
def St.moved (S : St) (p z f : Int) : Int × St := if S.isP p then (if z < -999 then S.no 3 else if f < 0 then S.no 3 else if 999 < z then S.no 5 else if S.now < f then S.no 5 else if 60 ≤ S.nZ then S.no 5 else (S.nZ + 1, { S with zP := up S.zP S.nZ p, zZ := up S.zZ S.nZ z, zF := up S.zF S.nZ f, zK := up S.zK S.nZ S.now, nZ := S.nZ + 1 })) else S.no 0
/-! low -/
def St.setLow (S : St) (p v : Int) : Int × St := if S.isP p then (if v < -2000 then S.far 3 else if 9999 < v then S.far 5 else (S.low p.toNat, { S with low := up S.low p.toNat v })) else S.far 0
/-! beside -/
def St.setBeside (S : St) (p o : Int) : Int × St := if S.isP p then (if o = -1 then (S.beside p.toNat, { S with beside := up S.beside p.toNat o }) else if S.isP o then (if o = p then S.far 0 else (S.beside p.toNat, { S with beside := up S.beside p.toNat o })) else S.far 0) else S.far 0
/-! measure -/
def St.measure (S : St) (p u n w : Int) : Int × St := if S.isP p then (if u < 0 then S.no 3 else if n < 0 then S.no 3 else if w < 0 then S.no 3 else if S.now < u then S.no 5 else if 99999 < n then S.no 5 else if 99 < w then S.no 5 else if 60 ≤ S.nF then S.no 5 else (S.nF, { S with fP := up S.fP S.nF p, fT := up S.fT S.nF u, fN := up S.fN S.nF n, fW := up S.fW S.nF w, fKn := up S.fKn S.nF S.now, fS := up S.fS S.nF (-1), nF := S.nF + 1 })) else S.no 0
/-! drop -/
def St.drop (S : St) (f : Int) : Int × St := if 0 ≤ f ∧ f < (S.nF : Int) then (if 0 ≤ S.fS f.toNat then S.no 2 else (1, { S with fS := up S.fS f.toNat S.now })) else S.no 0
/-! under -/
def St.under (S : St) (p k f u n : Int) : Int × St := if S.isP p then (if k < 0 then S.no 1 else if 1 < k then S.no 1 else if f < 0 then S.no 3 else if u < f then S.no 3 else if n < 0 then S.no 3 else if 9999 < u then S.no 5 else if 99 < n then S.no 5 else if 40 ≤ S.nU then S.no 5 else (S.nU + 1, { S with uP := up S.uP S.nU p, uK := up S.uK S.nU k, uF := up S.uF S.nU f, uT := up S.uT S.nU u, uM := up S.uM S.nU n, uKn := up S.uKn S.nU S.now, nU := S.nU + 1 })) else S.no 0
section CALLS1
variable {t F : Nat} {A : rz_A} {S : St} {a b c d e p : Int}
theorem goC (h : RC A S) (hO : OK t S) (ht : t < 512) : Ret (x0_go F a A) (S.go a).1 (fun A1 => RC A1 (S.go a).2) := by
  have h1 := hO.now
  unfold x0_go St.go
  rw [h.now]
  split
  · lfC h, hO, ht
  · gd
    split
    · lfC h, hO, ht
    · gd
      exact Ret.mk { h with now := rfl }
theorem goM (h : RM A S) (hO : OK t S) (ht : t < 512) : Ret (x141_go F a A) (S.go a).1 (fun A1 => RM A1 (S.go a).2) := by
  have h1 := hO.now
  unfold x141_go St.go
  rw [h.now]
  split
  · lfM h, hO, ht
  · gd
    split
    · lfM h, hO, ht
    · gd
      exact Ret.mk { h with now := rfl }
theorem goO (hO : OK t S) : OK (t + 1) (S.go a).2 := by
  have h1 := hO.now
  unfold St.go
  split
  · exact hO.no 3
  · split
    · exact hO.no 5
    · exact { hO.mono with now := ⟨by show 0 ≤ S.now + a; omega, by show S.now + a ≤ 9999; omega⟩ }
theorem limitC (h : RC A S) (hO : OK t S) (ht : t < 512) : Ret (x139_limit F a A) (S.setLimit a).1 (fun A1 => RC A1 (S.setLimit a).2) := by
  unfold x139_limit St.setLimit
  rw [h.limit]
  split
  · lfC h, hO, ht
  · split
    · lfC h, hO, ht
    · exact Ret.mk { h with limit := rfl }
theorem limitM (h : RM A S) (hO : OK t S) (ht : t < 512) : Ret (x212_limit F a A) (S.setLimit a).1 (fun A1 => RM A1 (S.setLimit a).2) := by
  unfold x212_limit St.setLimit
  rw [h.limit]
  split
  · lfM h, hO, ht
  · split
    · lfM h, hO, ht
    · exact Ret.mk { h with limit := rfl }
theorem limitO (hO : OK t S) : OK (t + 1) (S.setLimit a).2 := by
  unfold St.setLimit
  split
  · exact hO.no 3
  · split
    · exact hO.no 5
    · exact { hO.mono with limit := ⟨by show 0 ≤ a; omega, by show a ≤ 100; omega⟩ }
theorem putC (h : RC A S) (hO : OK t S) (ht : t < 512) : Ret (x109_put F a A) (S.put a).1 (fun A1 => RC A1 (S.put a).2) := by
  have h1 := hO.nR
  unfold x109_put St.put
  rw [h.nR]
  repeat' (first | split | gd)
  all_goals first | lfC h, hO, ht | skip
  exact Ret.mk { h with rB := (by rw [← h.rB] <;> rfl), nR := rfl }
theorem putM (h : RM A S) (hO : OK t S) (ht : t < 512) : Ret (x200_put F a A) (S.put a).1 (fun A1 => RM A1 (S.put a).2) := by
  have h1 := hO.nR
  unfold x200_put St.put
  rw [h.nR]
  repeat' (first | split | gd)
  all_goals first | lfM h, hO, ht | skip
  exact Ret.mk { h with rB := (by rw [← h.rB] <;> rfl), nR := rfl }
theorem putO (hO : OK t S) : OK (t + 1) (S.put a).2 := by
  have h1 := hO.nR
  unfold St.put
  repeat' split
  · exact hO.no 3
  · exact hO.no 5
  · exact hO.no 5
  · exact { hO.mono with nR := (by show S.nR + 1 ≤ 12; omega), rB := (fun i hi => by
      have h2 := hO.rB i
      show -128 ≤ up S.rB S.nR a i ∧ up S.rB S.nR a i ≤ 127
      have h3 : i < S.nR + 1 := hi
      unfold up
      split <;> omega) }
theorem postC (h : RC A S) (hO : OK t S) (ht : t < 512) : Ret (x2_post F a A) (S.post a).1 (fun A1 => RC A1 (S.post a).2) := by
  have h1 := hO.nP
  unfold x2_post St.post x3_come
  simp only [h.nP]
  repeat' (first | split | gd)
  all_goals first | lfC h, hO, ht | skip
  rw [show (S.nP : Int) + 1 - 1 = S.nP by omega]
  exact Ret.mk { h with zero := (by rw [← h.zero] <;> rfl), low := (by rw [← h.low] <;> rfl), beside := (by rw [← h.beside] <;> rfl), nP := rfl }
theorem postM (h : RM A S) (hO : OK t S) (ht : t < 512) : Ret (x143_post F a A) (S.post a).1 (fun A1 => RM A1 (S.post a).2) := by
  have h1 := hO.nP
  unfold x143_post St.post
  simp only [h.nP]
  repeat' (first | split | gd)
  all_goals first | lfM h, hO, ht | skip
  exact Ret.mk { h with zero := (by rw [← h.zero] <;> rfl), low := (by rw [← h.low] <;> rfl), beside := (by rw [← h.beside] <;> rfl), nP := rfl }
theorem movedC (h : RC A S) (hO : OK t S) (ht : t < 512) : Ret (x4_moved F a b c A) (S.moved a b c).1 (fun A1 => RC A1 (S.moved a b c).2) := by
  have h1 := hO.nP
  have h2 := hO.nZ
  unfold x4_moved St.moved x7_move x6_forget
  by_cases hp : S.isP a
  · rw [hasC1 h hp, if_pos hp]
    simp only [rz_b_some]
    rw [if_neg (by decide)]
    simp only [h.nZ, h.now]
    repeat' (first | split | gd)
    all_goals first | lfC h, hO, ht | skip
    have e1 : (aI A 51 5 0).1 2 1 = S.nZ := h.nZ
    have e2 : (aI A 51 5 0).1 0 16 = S.now := h.now
    simp only [e1, e2]
    gd
    exact Ret.mk { h with zP := (by rw [← h.zP] <;> rfl), zZ := (by rw [← h.zZ] <;> rfl), zF := (by rw [← h.zF] <;> rfl), zK := (by rw [← h.zK] <;> rfl), nZ := rfl }
  · rw [hasC0 h hp, if_neg hp]
    simp only [rz_b_some, if_true]
    lfC h, hO, ht
theorem movedM (h : RM A S) (hO : OK t S) (ht : t < 512) (hs : 0 ≤ A.1 91 11 ∧ A.1 91 11 < 512) : Ret (x144_moved F a b c A) (S.moved a b c).1 (fun A1 => RM A1 (S.moved a b c).2) := by
  have h1 := hO.nP
  have h2 := hO.nZ
  unfold x144_moved St.moved
  by_cases hp : S.isP a
  · rw [hasM1 h hp, if_pos hp]
    simp only [rz_b_some]
    rw [if_neg (by decide)]
    simp only [h.nZ, h.now]
    repeat' (first | split | gd)
    all_goals first | lfM h, hO, ht | skip
    exact Ret.mk { h with zP := (by rw [← h.zP] <;> rfl), zZ := (by rw [← h.zZ] <;> rfl), zF := (by rw [← h.zF] <;> rfl), zK := (by rw [← h.zK] <;> rfl), nZ := rfl }
  · rw [hasM0 h hp, if_neg hp]
    simp only [rz_b_some, if_true]
    lfM h, hO, ht
end CALLS1
