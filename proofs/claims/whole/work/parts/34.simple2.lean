set_option maxRecDepth 8000
attribute [local irreducible] rz_g32 rz_g64 rz_gx rz_gn rz_gz rz_gp rz_b
/-! the calls that only write down: further -/
section CALLS2
variable {t F : Nat} {A : rz_A} {S : St} {a b c d e p : Int}
theorem postO (hO : OK t S) : OK (t + 1) (S.post a).2 := by
  have h1 := hO.nP
  unfold St.post
  repeat' split
  · exact hO.no 3
  · exact hO.no 5
  · exact hO.no 5
  · have hz : ∀ i, i < S.nP + 1 → -999 ≤ up S.zero S.nP a i ∧ up S.zero S.nP a i ≤ 999 := fun i hi => by
      have h2 := hO.zero i
      unfold up
      split <;> omega
    have hl : ∀ i, i < S.nP + 1 → -2000 ≤ up S.low S.nP (-2000) i ∧ up S.low S.nP (-2000) i ≤ 9999 := fun i hi => by
      have h2 := hO.low i
      unfold up
      split <;> omega
    have hb : ∀ i, i < S.nP + 1 → -1 ≤ up S.beside S.nP (-1) i ∧ up S.beside S.nP (-1) i < ((S.nP + 1 : Nat) : Int) := fun i hi => by
      have h2 := hO.beside i
      unfold up
      split <;> omega
    have hZ := hO.z
    have hH := hO.h
    have hF := hO.f
    have hU := hO.u
    have hP := hO.p
    exact { hO.mono with
      nP := (by show S.nP + 1 ≤ 6; omega), zero := hz, low := hl, beside := hb
      z := (fun i hi => by have h2 := hZ i hi; show (0 ≤ S.zP i ∧ S.zP i < ((S.nP + 1 : Nat) : Int)) ∧ _; refine ⟨⟨h2.1.1, by omega⟩, h2.2⟩)
      h := (fun i hi => by have h2 := hH i hi; show (0 ≤ S.hP i ∧ S.hP i < ((S.nP + 1 : Nat) : Int)) ∧ _; refine ⟨⟨h2.1.1, by omega⟩, h2.2⟩)
      f := (fun i hi => by have h2 := hF i hi; show (0 ≤ S.fP i ∧ S.fP i < ((S.nP + 1 : Nat) : Int)) ∧ _; refine ⟨⟨h2.1.1, by omega⟩, h2.2⟩)
      u := (fun i hi => by have h2 := hU i hi; show (0 ≤ S.uP i ∧ S.uP i < ((S.nP + 1 : Nat) : Int)) ∧ _; refine ⟨⟨h2.1.1, by omega⟩, h2.2⟩)
      p := (fun i hi => by have h2 := hP i hi; show (0 ≤ S.pP i ∧ S.pP i < ((S.nP + 1 : Nat) : Int)) ∧ _; refine ⟨⟨h2.1.1, by omega⟩, h2.2⟩) }
theorem movedO (hO : OK t S) : OK (t + 1) (S.moved a b c).2 := by
  have h1 := hO.nZ
  have h0 := hO.now
  unfold St.moved
  repeat' split
  · exact hO.no 3
  · exact hO.no 3
  · exact hO.no 5
  · exact hO.no 5
  · exact hO.no 5
  · exact { hO.mono with nZ := (by show S.nZ + 1 ≤ 60; omega), z := (fun i hi => by
      have h2 := hO.z i
      have h3 : i < S.nZ + 1 := hi
      show (0 ≤ up S.zP S.nZ a i ∧ up S.zP S.nZ a i < (S.nP : Int)) ∧ (-999 ≤ up S.zZ S.nZ b i ∧ up S.zZ S.nZ b i ≤ 999) ∧ (0 ≤ up S.zF S.nZ c i ∧ up S.zF S.nZ c i ≤ 9999) ∧ 0 ≤ up S.zK S.nZ S.now i ∧ up S.zK S.nZ S.now i ≤ 9999
      unfold up
      split
      · omega
      · exact h2 (by omega)) }
  · exact hO.no 0
theorem lowC (h : RC A S) (hO : OK t S) (ht : t < 512) : Ret (x64_low F a b A) (S.setLow a b).1 (fun A1 => RC A1 (S.setLow a b).2) := by
  have h1 := hO.nP
  unfold x64_low St.setLow
  by_cases hp : S.isP a
  · rw [hasC1 h hp, if_pos hp]
    simp only [rz_b_some]
    rw [if_neg (by decide)]
    repeat' (first | split | gd)
    all_goals first | lfC h, hO, ht | skip
    rw [h.low]
    exact Ret.mk { h with low := (by rw [← h.low] <;> rfl) }
  · rw [hasC0 h hp, if_neg hp]
    simp only [rz_b_some, if_true]
    lfC h, hO, ht
theorem lowM (h : RM A S) (hO : OK t S) (ht : t < 512) (hs : 0 ≤ A.1 91 11 ∧ A.1 91 11 < 512) : Ret (x177_low F a b A) (S.setLow a b).1 (fun A1 => RM A1 (S.setLow a b).2) := by
  have h1 := hO.nP
  unfold x177_low St.setLow
  by_cases hp : S.isP a
  · rw [hasM1 h hp, if_pos hp]
    simp only [rz_b_some]
    rw [if_neg (by decide)]
    repeat' (first | split | gd)
    all_goals first | lfM h, hO, ht | skip
    rw [h.low]
    exact Ret.mk { h with low := (by rw [← h.low] <;> rfl) }
  · rw [hasM0 h hp, if_neg hp]
    simp only [rz_b_some, if_true]
    lfM h, hO, ht
theorem far_no (i : Nat) : (S.far i).2 = (S.no i).2 := rfl
theorem lowO (hO : OK t S) : OK (t + 1) (S.setLow a b).2 := by
  unfold St.setLow
  repeat' split
  · exact hO.no 3
  · exact hO.no 5
  · exact { hO.mono with low := (fun i hi => by
      have h2 := hO.low i hi
      show -2000 ≤ up S.low a.toNat b i ∧ up S.low a.toNat b i ≤ 9999
      unfold up
      split <;> omega) }
  · exact hO.no 0
theorem besideC (h : RC A S) (hO : OK t S) (ht : t < 512) : Ret (x112_beside F a b A) (S.setBeside a b).1 (fun A1 => RC A1 (S.setBeside a b).2) := by
  have h1 := hO.nP
  unfold x112_beside St.setBeside
  by_cases hp : S.isP a
  · rw [hasC1 h hp, if_pos hp]
    simp only [rz_b_some]
    rw [if_neg (by decide)]
    by_cases hb : b = -1
    · rw [if_pos hb, if_pos hb]
      gd
      rw [h.beside]
      exact Ret.mk { h with beside := (by rw [← h.beside] <;> rfl) }
    · rw [if_neg hb, if_neg hb]
      by_cases hq : S.isP b
      · rw [hasC1 h hq, if_pos hq]
        simp only [rz_b_some]
        rw [if_neg (by decide)]
        split
        · lfC h, hO, ht
        · gd
          rw [h.beside]
          exact Ret.mk { h with beside := (by rw [← h.beside] <;> rfl) }
      · rw [hasC0 h hq, if_neg hq]
        simp only [rz_b_some, if_true]
        lfC h, hO, ht
  · rw [hasC0 h hp, if_neg hp]
    simp only [rz_b_some, if_true]
    lfC h, hO, ht
theorem besideM (h : RM A S) (hO : OK t S) (ht : t < 512) : Ret (x202_beside F a b A) (S.setBeside a b).1 (fun A1 => RM A1 (S.setBeside a b).2) := by
  have h1 := hO.nP
  unfold x202_beside St.setBeside x202_beside_21
  by_cases hp : S.isP a
  · rw [hasM1 h hp, if_pos hp]
    simp only [rz_b_some]
    rw [if_neg (by decide)]
    by_cases hb : b = -1
    · rw [if_pos hb, if_pos hb, if_neg (by omega)]
      gd
      rw [h.beside]
      exact Ret.mk { h with beside := (by rw [← h.beside] <;> rfl) }
    · rw [if_neg hb, if_neg hb]
      by_cases hq : S.isP b
      · rw [hasM1 h hq, if_pos hq]
        simp only [rz_b_some]
        rw [if_neg (by decide)]
        by_cases he : b = a
        · rw [if_pos he, if_pos he.symm]
          lfM h, hO, ht
        · rw [if_neg he, if_neg (fun x => he x.symm)]
          gd
          rw [h.beside]
          exact Ret.mk { h with beside := (by rw [← h.beside] <;> rfl) }
      · rw [hasM0 h hq, if_neg hq]
        simp only [rz_b_some, if_true]
        lfM h, hO, ht
  · rw [hasM0 h hp, if_neg hp]
    simp only [rz_b_some, if_true]
    lfM h, hO, ht
theorem besideO (hO : OK t S) : OK (t + 1) (S.setBeside a b).2 := by
  have key : (b = -1 ∨ S.isP b) → OK (t + 1) { S with beside := up S.beside a.toNat b } := fun hb =>
    { hO.mono with beside := (fun i hi => by
      have h2 := hO.beside i hi
      show -1 ≤ up S.beside a.toNat b i ∧ up S.beside a.toNat b i < (S.nP : Int)
      have h3 : i < S.nP := hi
      unfold up
      split <;> omega) }
  unfold St.setBeside
  repeat' split
  · rename_i hb; exact key (Or.inl hb)
  · exact hO.no 0
  · rename_i hb _; exact key (Or.inr hb)
  · exact hO.no 0
  · exact hO.no 0
theorem measureC (h : RC A S) (hO : OK t S) (ht : t < 512) : Ret (x34_measure F a b c d A) (S.measure a b c d).1 (fun A1 => RC A1 (S.measure a b c d).2) := by
  have h1 := hO.nP
  have h2 := hO.nF
  unfold x34_measure St.measure x35_come x6_forget
  by_cases hp : S.isP a
  · rw [hasC1 h hp, if_pos hp]
    simp only [rz_b_some]
    rw [if_neg (by decide)]
    simp only [h.nF, h.now]
    repeat' (first | split | gd)
    all_goals first | lfC h, hO, ht | skip
    have e1 : (aI A 51 5 0).1 26 0 = S.nF := h.nF
    have e2 : (aI A 51 5 0).1 0 16 = S.now := h.now
    simp only [e1, e2]
    gd
    rw [show (S.nF : Int) + 1 - 1 = S.nF by omega]
    have hfS : ∀ i, i < S.nF + 1 → (if i = S.nF then (2147483647 : Int) else A.1 32 i) = if up S.fS S.nF (-1) i < 0 then 2147483647 else up S.fS S.nF (-1) i := fun i hi => by
      have h3 := h.fS i
      unfold up
      by_cases e : i = S.nF
      · simp [e]
      · simp only [e, if_false]
        exact h3 (by omega)
    exact Ret.mk { h with fP := (by rw [← h.fP] <;> rfl), fT := (by rw [← h.fT] <;> rfl), fN := (by rw [← h.fN] <;> rfl), fW := (by rw [← h.fW] <;> rfl), fKn := (by rw [← h.fKn] <;> rfl), fS := hfS, nF := rfl }
  · rw [hasC0 h hp, if_neg hp]
    simp only [rz_b_some, if_true]
    lfC h, hO, ht
theorem measureM (h : RM A S) (hO : OK t S) (ht : t < 512) (hs : 0 ≤ A.1 91 11 ∧ A.1 91 11 < 512) : Ret (x163_measure F a b c d A) (S.measure a b c d).1 (fun A1 => RM A1 (S.measure a b c d).2) := by
  have h1 := hO.nP
  have h2 := hO.nF
  unfold x163_measure St.measure
  by_cases hp : S.isP a
  · rw [hasM1 h hp, if_pos hp]
    simp only [rz_b_some]
    rw [if_neg (by decide)]
    simp only [h.nF, h.now]
    repeat' (first | split | gd)
    all_goals first | lfM h, hO, ht | skip
    exact Ret.mk { h with fP := (by rw [← h.fP] <;> rfl), fT := (by rw [← h.fT] <;> rfl), fN := (by rw [← h.fN] <;> rfl), fW := (by rw [← h.fW] <;> rfl), fKn := (by rw [← h.fKn] <;> rfl), fS := (by rw [← h.fS] <;> rfl), nF := rfl }
  · rw [hasM0 h hp, if_neg hp]
    simp only [rz_b_some, if_true]
    lfM h, hO, ht
theorem measureO (hO : OK t S) : OK (t + 1) (S.measure a b c d).2 := by
  have h1 := hO.nF
  have h0 := hO.now
  unfold St.measure
  split
  · repeat' split
    all_goals first | exact hO.no 3 | exact hO.no 5 | skip
    exact { hO.mono with nF := (by show S.nF + 1 ≤ 60; omega), f := (fun i hi => by
      have h2 := hO.f i
      have h3 : i < S.nF + 1 := hi
      show (0 ≤ up S.fP S.nF a i ∧ up S.fP S.nF a i < (S.nP : Int)) ∧ (0 ≤ up S.fT S.nF b i ∧ up S.fT S.nF b i ≤ 9999) ∧ (0 ≤ up S.fN S.nF c i ∧ up S.fN S.nF c i ≤ 99999) ∧ (0 ≤ up S.fW S.nF d i ∧ up S.fW S.nF d i ≤ 99) ∧ (0 ≤ up S.fKn S.nF S.now i ∧ up S.fKn S.nF S.now i ≤ 9999) ∧ -1 ≤ up S.fS S.nF (-1) i ∧ up S.fS S.nF (-1) i ≤ 9999
      unfold up
      split
      · omega
      · exact h2 (by omega)) }
  · exact hO.no 0
theorem dropC (h : RC A S) (hO : OK t S) (ht : t < 512) : Ret (x36_drop F a A) (S.drop a).1 (fun A1 => RC A1 (S.drop a).2) := by
  have h1 := hO.nF
  have h0 := hO.now
  unfold x36_drop St.drop x37_has x6_forget
  simp only [h.nF]
  by_cases hp : 0 ≤ a ∧ a < (S.nF : Int)
  · have hf := h.fS a.toNat (by omega)
    have ho := hO.f a.toNat (by omega)
    rw [if_pos hp.1, if_pos hp.2, if_pos hp]
    simp only [rz_b_some]
    rw [if_neg (by decide)]
    gd
    by_cases hn : 0 ≤ S.fS a.toNat
    · rw [if_neg (by omega)] at hf
      rw [if_pos hn, hf, if_neg (by omega)]
      lfC h, hO, ht
    · rw [if_pos (by omega)] at hf
      rw [if_neg hn, hf, if_pos rfl]
      have hfS : ∀ i, i < S.nF → (if i = a.toNat then A.1 0 16 else A.1 32 i) = if up S.fS a.toNat S.now i < 0 then 2147483647 else up S.fS a.toNat S.now i := fun i hi => by
        have h3 := h.fS i hi
        have h4 := h.now
        unfold up
        by_cases e : i = a.toNat
        · subst e
          simp only [if_true]
          rw [if_neg (by omega)]
          exact h4
        · simp only [e, if_false]
          exact h3
      exact Ret.mk { h with fS := hfS }
  · rw [if_neg hp]
    have e0 : (if 0 ≤ a then if a < (S.nF : Int) then some ((1 : Int), A) else some (0, A) else some (0, A)) = some (0, A) := by
      split
      · rw [if_neg (by omega)]
      · rfl
    rw [e0]
    simp only [rz_b_some, if_true]
    lfC h, hO, ht
theorem dropM (h : RM A S) (hO : OK t S) (ht : t < 512) (hs : 0 ≤ A.1 91 11 ∧ A.1 91 11 < 512) : Ret (x164_drop F a A) (S.drop a).1 (fun A1 => RM A1 (S.drop a).2) := by
  have h1 := hO.nF
  unfold x164_drop St.drop
  simp only [h.nF, h.fS, h.now]
  by_cases hp : 0 ≤ a ∧ a < (S.nF : Int)
  · rw [if_pos hp.1, if_pos hp, if_neg (by omega)]
    gd
    split
    · lfM h, hO, ht
    · gd
      exact Ret.mk { h with fS := (by rw [← h.fS] <;> rfl) }
  · rw [if_neg hp]
    split
    · rw [if_pos (by omega)]
      lfM h, hO, ht
    · lfM h, hO, ht
theorem dropO (hO : OK t S) : OK (t + 1) (S.drop a).2 := by
  have h0 := hO.now
  unfold St.drop
  repeat' split
  · exact hO.no 2
  · exact { hO.mono with f := (fun i hi => by
      have h2 := hO.f i hi
      show (0 ≤ S.fP i ∧ S.fP i < (S.nP : Int)) ∧ (0 ≤ S.fT i ∧ S.fT i ≤ 9999) ∧ (0 ≤ S.fN i ∧ S.fN i ≤ 99999) ∧ (0 ≤ S.fW i ∧ S.fW i ≤ 99) ∧ (0 ≤ S.fKn i ∧ S.fKn i ≤ 9999) ∧ -1 ≤ up S.fS a.toNat S.now i ∧ up S.fS a.toNat S.now i ≤ 9999
      unfold up
      split <;> omega) }
  · exact hO.no 0
theorem underC (h : RC A S) (hO : OK t S) (ht : t < 512) : Ret (x82_under F a b c d e A) (S.under a b c d e).1 (fun A1 => RC A1 (S.under a b c d e).2) := by
  have h1 := hO.nP
  have h2 := hO.nU
  unfold x82_under St.under x83_come
  by_cases hp : S.isP a
  · rw [hasC1 h hp, if_pos hp]
    simp only [rz_b_some]
    rw [if_neg (by decide)]
    simp only [h.nU, h.now]
    wk
    all_goals first | (sd; lfC h, hO, ht) | (exfalso; omega) | skip
    gd
    sd
    exact Ret.mk { h with uP := (by rw [← h.uP] <;> rfl), uK := (by rw [← h.uK] <;> rfl), uF := (by rw [← h.uF] <;> rfl), uT := (by rw [← h.uT] <;> rfl), uM := (by rw [← h.uM] <;> rfl), uKn := (by rw [← h.uKn] <;> rfl), nU := rfl }
  · rw [hasC0 h hp, if_neg hp]
    simp only [rz_b_some, if_true]
    lfC h, hO, ht
theorem underM (h : RM A S) (hO : OK t S) (ht : t < 512) (hs : 0 ≤ A.1 91 11 ∧ A.1 91 11 < 512) : Ret (x186_under F a b c d e A) (S.under a b c d e).1 (fun A1 => RM A1 (S.under a b c d e).2) := by
  have h1 := hO.nP
  have h2 := hO.nU
  unfold x186_under St.under
  by_cases hp : S.isP a
  · rw [hasM1 h hp, if_pos hp]
    simp only [rz_b_some]
    rw [if_neg (by decide)]
    simp only [h.nU, h.now]
    wk
    all_goals first | (sd; lfM h, hO, ht) | (exfalso; omega) | skip
    gd
    sd
    exact Ret.mk { h with uP := (by rw [← h.uP] <;> rfl), uK := (by rw [← h.uK] <;> rfl), uF := (by rw [← h.uF] <;> rfl), uT := (by rw [← h.uT] <;> rfl), uM := (by rw [← h.uM] <;> rfl), uKn := (by rw [← h.uKn] <;> rfl), nU := rfl }
  · rw [hasM0 h hp, if_neg hp]
    simp only [rz_b_some, if_true]
    lfM h, hO, ht
theorem underO (hO : OK t S) : OK (t + 1) (S.under a b c d e).2 := by
  have h1 := hO.nU
  have h0 := hO.now
  unfold St.under
  split
  · repeat' split
    all_goals first | exact hO.no 1 | exact hO.no 3 | exact hO.no 5 | skip
    exact { hO.mono with nU := (by show S.nU + 1 ≤ 40; omega), u := (fun i hi => by
      have h2 := hO.u i
      have h3 : i < S.nU + 1 := hi
      show (0 ≤ up S.uP S.nU a i ∧ up S.uP S.nU a i < (S.nP : Int)) ∧ (0 ≤ up S.uK S.nU b i ∧ up S.uK S.nU b i ≤ 1) ∧ (0 ≤ up S.uF S.nU c i ∧ up S.uF S.nU c i ≤ up S.uT S.nU d i ∧ up S.uT S.nU d i ≤ 9999) ∧ (0 ≤ up S.uM S.nU e i ∧ up S.uM S.nU e i ≤ 99) ∧ 0 ≤ up S.uKn S.nU S.now i ∧ up S.uKn S.nU S.now i ≤ 9999
      unfold up
      split
      · omega
      · exact h2 (by omega)) }
  · exact hO.no 0
end CALLS2
