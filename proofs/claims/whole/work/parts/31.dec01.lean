set_option maxRecDepth 16384
/-- Integer.bitCount, for the sets that there are -/
def rz_bc (x : Int32) : Int32 := by exact (
  let a := x - (fUshr x 1 &&& 1431655765)
  let b := (a &&& 858993459) + (fUshr a 2 &&& 858993459)
  let c := (b + fUshr b 4) &&& 252645135
  let e := c + fUshr c 8
  let f := e + fUshr e 16
  f &&& 63)
def x103_bitCount (F : Nat) (a : Int) (A : rz_A) : Option (Int × rz_A) := some ((rz_bc (Int32.ofInt a)).toInt, A)
theorem cx103_bitCount (F : Nat) {d : Nat} {a : Int} {A : rz_A} {r : Int} {A' : rz_A} (h : x103_bitCount F a A = some (r, A')) (ha : r32 a) (hw : wf A) : rg_Rn (d + 0) 103 [vI a] (toM A) (some (vI r)) (toM A') ∧ r32 r ∧ wf A' := by
  unfold x103_bitCount at h
  cases h
  refine ⟨?_, r32_toInt _, hw⟩
  show rg_At (d + 0) 103 0 [some (vI a)] [] (toM A) (some (vI (rz_bc (Int32.ofInt a)).toInt), toM A)
  rw [show vI (rz_bc (Int32.ofInt a)).toInt = .int (rz_bc (Int32.ofInt a)) by simp [vI]]
  exact ⟨60, rfl⟩
/-- RiverGauge.refuse(I)I -/
def x1_refuse (F : Nat) (a0 : Int) (A : rz_A) : Option (Int × rz_A) :=
  rz_g32 ((-1) - a0) <|
  if 0 ≤ ((-1) - a0) then
    if ((-1) - a0) < 6 then
      rz_gx ((-1) - a0) 6 <|
      rz_g32 ((A.1 1 (((-1) - a0)).toNat) + 1) <|
      some (a0, (aI A 1 (((-1) - a0)).toNat ((A.1 1 (((-1) - a0)).toNat) + 1)))
    else
      some (a0, A)
  else
    some (a0, A)
theorem cx1_refuse (F : Nat) {d : Nat} {a0 : Int} {A : rz_A} {r : Int} {A' : rz_A} (h : x1_refuse F a0 A = some (r, A')) (ha0 : r32 a0) (hw : wf A) : rg_Rn (d + 0) 1 [.ref 0, vI a0] (toM A) (some (vI r)) (toM A') ∧ (r32 r) ∧ wf A' := by
  show rz_B (d + 0) 1 0 [some (.ref 0), some (vI a0), none] [] A (some (vI r)) A' (r32 r)
  unfold x1_refuse at h
  refine rz_B.go 2 (pc' := 2) (L' := [some (.ref 0), some (vI a0), none]) (S' := [vI a0, vI (-1)]) rfl ?_
  obtain ⟨hk1, h⟩ := rz_g32_inv h
  refine rz_B.isub rfl ?_
  refine rz_B.go 3 (pc' := if decide (Int32.ofInt ((-1) - a0) < Int32.ofInt 0) = true then 27 else 8) (L' := [some (.ref 0), some (vI a0), some (vI ((-1) - a0))]) (S' := []) rfl ?_
  by_cases hc2 : 0 ≤ ((-1) - a0)
  · have h := if_T h hc2
    refine rz_B.ifF (mt (lt32 hk1 (by decide)).mp (Int.not_lt.mpr hc2)) ?_
    refine rz_B.go 5 (pc' := if decide (Int32.ofInt 6 ≤ Int32.ofInt ((-1) - a0)) = true then 27 else 17) (L' := [some (.ref 0), some (vI a0), some (vI ((-1) - a0))]) (S' := []) rfl ?_
    by_cases hc3 : ((-1) - a0) < 6
    · have h := if_T h hc3
      refine rz_B.ifF (mt (le32 (by decide) hk1).mp (Int.not_le.mpr hc3)) ?_
      refine rz_B.go 4 (pc' := 23) (L' := [some (.ref 0), some (vI a0), some (vI ((-1) - a0))]) (S' := [vI ((-1) - a0), .ref 1, vI ((-1) - a0), .ref 1]) rfl ?_
      obtain ⟨hi4, hj5, h⟩ := rz_gx_inv h
      refine rz_B.iald rfl rfl hi4 hj5 (by decide) ?_
      refine rz_B.go 1 (pc' := 25) (L' := [some (.ref 0), some (vI a0), some (vI ((-1) - a0))]) (S' := [vI 1, vI (A.1 1 (((-1) - a0)).toNat), vI ((-1) - a0), .ref 1]) rfl ?_
      obtain ⟨hk6, h⟩ := rz_g32_inv h
      refine rz_B.iadd rfl ?_
      refine rz_B.iast rfl rfl hi4 hj5 (by decide) ?_
      have hw7 : wf (aI A 1 (((-1) - a0)).toNat ((A.1 1 (((-1) - a0)).toNat) + 1)) := wf_aI hw hk6
      refine rz_B.go 1 (pc' := 28) (L' := [some (.ref 0), some (vI a0), some (vI ((-1) - a0))]) (S' := [vI a0]) rfl ?_
      cases h
      exact rz_B.ret rfl ha0 hw7
    · have h := if_F h hc3
      refine rz_B.ifT ((le32 (by decide) hk1).mpr (Int.not_lt.mp hc3)) ?_
      refine rz_B.go 1 (pc' := 28) (L' := [some (.ref 0), some (vI a0), some (vI ((-1) - a0))]) (S' := [vI a0]) rfl ?_
      cases h
      exact rz_B.ret rfl ha0 hw
  · have h := if_F h hc2
    refine rz_B.ifT ((lt32 hk1 (by decide)).mpr (Int.not_le.mp hc2)) ?_
    refine rz_B.go 1 (pc' := 28) (L' := [some (.ref 0), some (vI a0), some (vI ((-1) - a0))]) (S' := [vI a0]) rfl ?_
    cases h
    exact rz_B.ret rfl ha0 hw
/-- RiverGauge.go(I)I -/
def x0_go (F : Nat) (a0 : Int) (A : rz_A) : Option (Int × rz_A) :=
  if a0 < 1 then
    rz_b (x1_refuse F (-4) A) fun r2 A2 =>
    some (r2, A2)
  else
    rz_g32 (9999 - (A.1 0 16)) <|
    if (9999 - (A.1 0 16)) < a0 then
      rz_b (x1_refuse F (-6) A) fun r5 A5 =>
      some (r5, A5)
    else
      rz_g32 ((A.1 0 16) + a0) <|
      some (((A.1 0 16) + a0), (aI A 0 16 ((A.1 0 16) + a0)))
theorem cx0_go (F : Nat) {d : Nat} {a0 : Int} {A : rz_A} {r : Int} {A' : rz_A} (h : x0_go F a0 A = some (r, A')) (ha0 : r32 a0) (hw : wf A) : rg_Rn (d + 1) 0 [.ref 0, vI a0] (toM A) (some (vI r)) (toM A') ∧ (r32 r) ∧ wf A' := by
  show rz_B (d + 1) 0 0 [some (.ref 0), some (vI a0)] [] A (some (vI r)) A' (r32 r)
  unfold x0_go at h
  refine rz_B.go 3 (pc' := if decide (Int32.ofInt 1 ≤ Int32.ofInt a0) = true then 12 else 5) (L' := [some (.ref 0), some (vI a0)]) (S' := []) rfl ?_
  by_cases hc1 : a0 < 1
  · have h := if_T h hc1
    refine rz_B.ifF (mt (le32 (by decide) ha0).mp (Int.not_le.mpr hc1)) ?_
    refine rz_B.go 2 (pc' := 8) (L' := [some (.ref 0), some (vI a0)]) (S' := [vI (-4), .ref 0]) rfl ?_
    obtain ⟨r2, A2, hf2, h⟩ := rz_b_inv h
    obtain ⟨hg2, hr2, hw2⟩ := cx1_refuse F (d := d + 0) hf2 (by decide) hw
    refine rz_B.call (d := d + 0) (as := [.ref 0, vI (-4)]) (rest := []) (w := some (vI r2)) rfl hg2 ?_
    cases h
    exact rz_B.ret rfl hr2 hw2
  · have h := if_F h hc1
    refine rz_B.ifT ((le32 (by decide) ha0).mpr (Int.not_lt.mp hc1)) ?_
    refine rz_B.go 4 (pc' := 20) (L' := [some (.ref 0), some (vI a0)]) (S' := [vI (A.1 0 16), vI 9999, vI a0]) rfl ?_
    obtain ⟨hk3, h⟩ := rz_g32_inv h
    refine rz_B.isub rfl ?_
    refine rz_B.go 1 (pc' := if decide (Int32.ofInt a0 ≤ Int32.ofInt (9999 - (A.1 0 16))) = true then 31 else 24) (L' := [some (.ref 0), some (vI a0)]) (S' := []) rfl ?_
    by_cases hc4 : (9999 - (A.1 0 16)) < a0
    · have h := if_T h hc4
      refine rz_B.ifF (mt (le32 ha0 hk3).mp (Int.not_le.mpr hc4)) ?_
      refine rz_B.go 2 (pc' := 27) (L' := [some (.ref 0), some (vI a0)]) (S' := [vI (-6), .ref 0]) rfl ?_
      obtain ⟨r5, A5, hf5, h⟩ := rz_b_inv h
      obtain ⟨hg5, hr5, hw5⟩ := cx1_refuse F (d := d + 0) hf5 (by decide) hw
      refine rz_B.call (d := d + 0) (as := [.ref 0, vI (-6)]) (rest := []) (w := some (vI r5)) rfl hg5 ?_
      cases h
      exact rz_B.ret rfl hr5 hw5
    · have h := if_F h hc4
      refine rz_B.ifT ((le32 ha0 hk3).mpr (Int.not_lt.mp hc4)) ?_
      refine rz_B.go 4 (pc' := 37) (L' := [some (.ref 0), some (vI a0)]) (S' := [vI a0, vI (A.1 0 16), .ref 0]) rfl ?_
      obtain ⟨hk6, h⟩ := rz_g32_inv h
      refine rz_B.iadd rfl ?_
      refine rz_B.put 1 (pc' := 41) (L' := [some (.ref 0), some (vI a0)]) (S' := []) (c := 0) (k := 16) (x := ((A.1 0 16) + a0)) rfl ?_
      have hw7 : wf (aI A 0 16 ((A.1 0 16) + a0)) := wf_aI hw hk6
      refine rz_B.go 2 (pc' := 45) (L' := [some (.ref 0), some (vI a0)]) (S' := [vI ((A.1 0 16) + a0)]) rfl ?_
      cases h
      exact rz_B.ret rfl hk6 hw7
/-- RiverGauge$Posts.come(I)I -/
def x3_come (F : Nat) (a0 : Int) (A : rz_A) : Option (Int × rz_A) :=
  rz_gx (A.1 2 0) 6 <|
  rz_g32 ((A.1 2 0) + 1) <|
  rz_g32 (((A.1 2 0) + 1) - 1) <|
  some ((((A.1 2 0) + 1) - 1), (aI (aI (aI (aI A 3 ((A.1 2 0)).toNat a0) 4 ((A.1 2 0)).toNat (-2000)) 5 ((A.1 2 0)).toNat (-1)) 2 0 ((A.1 2 0) + 1)))
theorem cx3_come (F : Nat) {d : Nat} {a0 : Int} {A : rz_A} {r : Int} {A' : rz_A} (h : x3_come F a0 A = some (r, A')) (ha0 : r32 a0) (hw : wf A) : rg_Rn (d + 0) 3 [.ref 2, vI a0] (toM A) (some (vI r)) (toM A') ∧ (r32 r) ∧ wf A' := by
  show rz_B (d + 0) 3 0 [some (.ref 2), some (vI a0)] [] A (some (vI r)) A' (r32 r)
  unfold x3_come at h
  refine rz_B.go 5 (pc' := 9) (L' := [some (.ref 2), some (vI a0)]) (S' := [vI a0, vI (A.1 2 0), .ref 3]) rfl ?_
  obtain ⟨hi1, hj2, h⟩ := rz_gx_inv h
  refine rz_B.iast rfl rfl hi1 hj2 (by decide) ?_
  have hw3 : wf (aI A 3 ((A.1 2 0)).toNat a0) := wf_aI hw ha0
  refine rz_B.go 5 (pc' := 21) (L' := [some (.ref 2), some (vI a0)]) (S' := [vI (-2000), vI (A.1 2 0), .ref 4]) rfl ?_
  refine rz_B.iast rfl rfl hi1 hj2 (by decide) ?_
  have hw4 : wf (aI (aI A 3 ((A.1 2 0)).toNat a0) 4 ((A.1 2 0)).toNat (-2000)) := wf_aI hw3 (by decide)
  refine rz_B.go 5 (pc' := 31) (L' := [some (.ref 2), some (vI a0)]) (S' := [vI (-1), vI (A.1 2 0), .ref 5]) rfl ?_
  refine rz_B.iast rfl rfl hi1 hj2 (by decide) ?_
  have hw5 : wf (aI (aI (aI A 3 ((A.1 2 0)).toNat a0) 4 ((A.1 2 0)).toNat (-2000)) 5 ((A.1 2 0)).toNat (-1)) := wf_aI hw4 (by decide)
  refine rz_B.go 4 (pc' := 38) (L' := [some (.ref 2), some (vI a0)]) (S' := [vI 1, vI (A.1 2 0), .ref 2]) rfl ?_
  obtain ⟨hk6, h⟩ := rz_g32_inv h
  refine rz_B.iadd rfl ?_
  refine rz_B.put 1 (pc' := 42) (L' := [some (.ref 2), some (vI a0)]) (S' := []) (c := 2) (k := 0) (x := ((A.1 2 0) + 1)) rfl ?_
  have hw7 : wf (aI (aI (aI (aI A 3 ((A.1 2 0)).toNat a0) 4 ((A.1 2 0)).toNat (-2000)) 5 ((A.1 2 0)).toNat (-1)) 2 0 ((A.1 2 0) + 1)) := wf_aI hw5 hk6
  refine rz_B.go 3 (pc' := 47) (L' := [some (.ref 2), some (vI a0)]) (S' := [vI 1, vI ((A.1 2 0) + 1)]) rfl ?_
  obtain ⟨hk8, h⟩ := rz_g32_inv h
  refine rz_B.isub rfl ?_
  cases h
  exact rz_B.ret rfl hk8 hw7
/-- RiverGauge.post(I)I -/
def x2_post (F : Nat) (a0 : Int) (A : rz_A) : Option (Int × rz_A) :=
  if a0 < (-999) then
    rz_b (x1_refuse F (-4) A) fun r2 A2 =>
    some (r2, A2)
  else
    if a0 ≤ 999 then
      if 6 ≤ (A.1 2 0) then
        rz_b (x1_refuse F (-6) A) fun r5 A5 =>
        some (r5, A5)
      else
        rz_b (x3_come F a0 A) fun r6 A6 =>
        some (r6, A6)
    else
      rz_b (x1_refuse F (-6) A) fun r7 A7 =>
      some (r7, A7)
theorem cx2_post (F : Nat) {d : Nat} {a0 : Int} {A : rz_A} {r : Int} {A' : rz_A} (h : x2_post F a0 A = some (r, A')) (ha0 : r32 a0) (hw : wf A) : rg_Rn (d + 1) 2 [.ref 0, vI a0] (toM A) (some (vI r)) (toM A') ∧ (r32 r) ∧ wf A' := by
  show rz_B (d + 1) 2 0 [some (.ref 0), some (vI a0)] [] A (some (vI r)) A' (r32 r)
  unfold x2_post at h
  refine rz_B.go 3 (pc' := if decide (Int32.ofInt (-999) ≤ Int32.ofInt a0) = true then 14 else 7) (L' := [some (.ref 0), some (vI a0)]) (S' := []) rfl ?_
  by_cases hc1 : a0 < (-999)
  · have h := if_T h hc1
    refine rz_B.ifF (mt (le32 (by decide) ha0).mp (Int.not_le.mpr hc1)) ?_
    refine rz_B.go 2 (pc' := 10) (L' := [some (.ref 0), some (vI a0)]) (S' := [vI (-4), .ref 0]) rfl ?_
    obtain ⟨r2, A2, hf2, h⟩ := rz_b_inv h
    obtain ⟨hg2, hr2, hw2⟩ := cx1_refuse F (d := d + 0) hf2 (by decide) hw
    refine rz_B.call (d := d + 0) (as := [.ref 0, vI (-4)]) (rest := []) (w := some (vI r2)) rfl hg2 ?_
    cases h
    exact rz_B.ret rfl hr2 hw2
  · have h := if_F h hc1
    refine rz_B.ifT ((le32 (by decide) ha0).mpr (Int.not_lt.mp hc1)) ?_
    refine rz_B.go 3 (pc' := if decide (Int32.ofInt 999 < Int32.ofInt a0) = true then 33 else 21) (L' := [some (.ref 0), some (vI a0)]) (S' := []) rfl ?_
    by_cases hc3 : a0 ≤ 999
    · have h := if_T h hc3
      refine rz_B.ifF (mt (lt32 (by decide) ha0).mp (Int.not_lt.mpr hc3)) ?_
      refine rz_B.go 5 (pc' := if decide (Int32.ofInt (A.1 2 0) < Int32.ofInt 6) = true then 40 else 33) (L' := [some (.ref 0), some (vI a0)]) (S' := []) rfl ?_
      by_cases hc4 : 6 ≤ (A.1 2 0)
      · have h := if_T h hc4
        refine rz_B.ifF (mt (lt32 (hw 2 0).1 (by decide)).mp (Int.not_lt.mpr hc4)) ?_
        refine rz_B.go 2 (pc' := 36) (L' := [some (.ref 0), some (vI a0)]) (S' := [vI (-6), .ref 0]) rfl ?_
        obtain ⟨r5, A5, hf5, h⟩ := rz_b_inv h
        obtain ⟨hg5, hr5, hw5⟩ := cx1_refuse F (d := d + 0) hf5 (by decide) hw
        refine rz_B.call (d := d + 0) (as := [.ref 0, vI (-6)]) (rest := []) (w := some (vI r5)) rfl hg5 ?_
        cases h
        exact rz_B.ret rfl hr5 hw5
      · have h := if_F h hc4
        refine rz_B.ifT ((lt32 (hw 2 0).1 (by decide)).mpr (Int.not_le.mp hc4)) ?_
        refine rz_B.go 3 (pc' := 45) (L' := [some (.ref 0), some (vI a0)]) (S' := [vI a0, .ref 2]) rfl ?_
        obtain ⟨r6, A6, hf6, h⟩ := rz_b_inv h
        obtain ⟨hg6, hr6, hw6⟩ := cx3_come F (d := d + 0) hf6 ha0 hw
        refine rz_B.call (d := d + 0) (as := [.ref 2, vI a0]) (rest := []) (w := some (vI r6)) rfl hg6 ?_
        cases h
        exact rz_B.ret rfl hr6 hw6
    · have h := if_F h hc3
      refine rz_B.ifT ((lt32 (by decide) ha0).mpr (Int.not_le.mp hc3)) ?_
      refine rz_B.go 2 (pc' := 36) (L' := [some (.ref 0), some (vI a0)]) (S' := [vI (-6), .ref 0]) rfl ?_
      obtain ⟨r7, A7, hf7, h⟩ := rz_b_inv h
      obtain ⟨hg7, hr7, hw7⟩ := cx1_refuse F (d := d + 0) hf7 (by decide) hw
      refine rz_B.call (d := d + 0) (as := [.ref 0, vI (-6)]) (rest := []) (w := some (vI r7)) rfl hg7 ?_
      cases h
      exact rz_B.ret rfl hr7 hw7
/-- RiverGauge$Posts.has(I)Z -/
def x5_has (F : Nat) (a0 : Int) (A : rz_A) : Option (Int × rz_A) :=
  if 0 ≤ a0 then
    if a0 < (A.1 2 0) then
      some (1, A)
    else
      some (0, A)
  else
    some (0, A)
theorem cx5_has (F : Nat) {d : Nat} {a0 : Int} {A : rz_A} {r : Int} {A' : rz_A} (h : x5_has F a0 A = some (r, A')) (ha0 : r32 a0) (hw : wf A) : rg_Rn (d + 0) 5 [.ref 2, vI a0] (toM A) (some (vI r)) (toM A') ∧ (r32 r) ∧ wf A' := by
  show rz_B (d + 0) 5 0 [some (.ref 2), some (vI a0)] [] A (some (vI r)) A' (r32 r)
  unfold x5_has at h
  refine rz_B.go 2 (pc' := if decide (Int32.ofInt a0 < Int32.ofInt 0) = true then 16 else 4) (L' := [some (.ref 2), some (vI a0)]) (S' := []) rfl ?_
  by_cases hc1 : 0 ≤ a0
  · have h := if_T h hc1
    refine rz_B.ifF (mt (lt32 ha0 (by decide)).mp (Int.not_lt.mpr hc1)) ?_
    refine rz_B.go 4 (pc' := if decide (Int32.ofInt (A.1 2 0) ≤ Int32.ofInt a0) = true then 16 else 12) (L' := [some (.ref 2), some (vI a0)]) (S' := []) rfl ?_
    by_cases hc2 : a0 < (A.1 2 0)
    · have h := if_T h hc2
      refine rz_B.ifF (mt (le32 (hw 2 0).1 ha0).mp (Int.not_le.mpr hc2)) ?_
      refine rz_B.go 2 (pc' := 17) (L' := [some (.ref 2), some (vI a0)]) (S' := [vI 1]) rfl ?_
      cases h
      exact rz_B.ret rfl (by decide) hw
    · have h := if_F h hc2
      refine rz_B.ifT ((le32 (hw 2 0).1 ha0).mpr (Int.not_lt.mp hc2)) ?_
      refine rz_B.go 1 (pc' := 17) (L' := [some (.ref 2), some (vI a0)]) (S' := [vI 0]) rfl ?_
      cases h
      exact rz_B.ret rfl (by decide) hw
  · have h := if_F h hc1
    refine rz_B.ifT ((lt32 ha0 (by decide)).mpr (Int.not_le.mp hc1)) ?_
    refine rz_B.go 1 (pc' := 17) (L' := [some (.ref 2), some (vI a0)]) (S' := [vI 0]) rfl ?_
    cases h
    exact rz_B.ret rfl (by decide) hw
/-- RiverGauge$View.forget()V -/
def x6_forget (F : Nat) (A : rz_A) : Option (Unit × rz_A) :=
  some ((), (aI A 51 5 0))
theorem cx6_forget (F : Nat) {d : Nat} {A : rz_A} {r : Unit} {A' : rz_A} (h : x6_forget F A = some (r, A')) (hw : wf A) : rg_Rn (d + 0) 6 [.ref 51] (toM A) (none) (toM A') ∧ (True) ∧ wf A' := by
  show rz_B (d + 0) 6 0 [some (.ref 51)] [] A (none) A' (True)
  unfold x6_forget at h
  refine rz_B.put 3 (pc' := 5) (L' := [some (.ref 51)]) (S' := []) (c := 51) (k := 5) (x := 0) rfl ?_
  have hw1 : wf (aI A 51 5 0) := wf_aI hw (by decide)
  cases h
  exact rz_B.ret rfl trivial hw1
/-- RiverGauge$Posts.move(IIII)I -/
def x7_move (F : Nat) (a0 : Int) (a1 : Int) (a2 : Int) (a3 : Int) (A : rz_A) : Option (Int × rz_A) :=
  rz_gx (A.1 2 1) 60 <|
  rz_g32 ((A.1 2 1) + 1) <|
  some (((A.1 2 1) + 1), (aI (aI (aI (aI (aI A 14 ((A.1 2 1)).toNat a0) 15 ((A.1 2 1)).toNat a1) 16 ((A.1 2 1)).toNat a2) 17 ((A.1 2 1)).toNat a3) 2 1 ((A.1 2 1) + 1)))
theorem cx7_move (F : Nat) {d : Nat} {a0 : Int} {a1 : Int} {a2 : Int} {a3 : Int} {A : rz_A} {r : Int} {A' : rz_A} (h : x7_move F a0 a1 a2 a3 A = some (r, A')) (ha0 : r32 a0) (ha1 : r32 a1) (ha2 : r32 a2) (ha3 : r32 a3) (hw : wf A) : rg_Rn (d + 0) 7 [.ref 2, vI a0, vI a1, vI a2, vI a3] (toM A) (some (vI r)) (toM A') ∧ (r32 r) ∧ wf A' := by
  show rz_B (d + 0) 7 0 [some (.ref 2), some (vI a0), some (vI a1), some (vI a2), some (vI a3)] [] A (some (vI r)) A' (r32 r)
  unfold x7_move at h
  refine rz_B.go 5 (pc' := 9) (L' := [some (.ref 2), some (vI a0), some (vI a1), some (vI a2), some (vI a3)]) (S' := [vI a0, vI (A.1 2 1), .ref 14]) rfl ?_
  obtain ⟨hi1, hj2, h⟩ := rz_gx_inv h
  refine rz_B.iast rfl rfl hi1 hj2 (by decide) ?_
  have hw3 : wf (aI A 14 ((A.1 2 1)).toNat a0) := wf_aI hw ha0
  refine rz_B.go 5 (pc' := 19) (L' := [some (.ref 2), some (vI a0), some (vI a1), some (vI a2), some (vI a3)]) (S' := [vI a1, vI (A.1 2 1), .ref 15]) rfl ?_
  refine rz_B.iast rfl rfl hi1 hj2 (by decide) ?_
  have hw4 : wf (aI (aI A 14 ((A.1 2 1)).toNat a0) 15 ((A.1 2 1)).toNat a1) := wf_aI hw3 ha1
  refine rz_B.go 5 (pc' := 29) (L' := [some (.ref 2), some (vI a0), some (vI a1), some (vI a2), some (vI a3)]) (S' := [vI a2, vI (A.1 2 1), .ref 16]) rfl ?_
  refine rz_B.iast rfl rfl hi1 hj2 (by decide) ?_
  have hw5 : wf (aI (aI (aI A 14 ((A.1 2 1)).toNat a0) 15 ((A.1 2 1)).toNat a1) 16 ((A.1 2 1)).toNat a2) := wf_aI hw4 ha2
  refine rz_B.go 5 (pc' := 40) (L' := [some (.ref 2), some (vI a0), some (vI a1), some (vI a2), some (vI a3)]) (S' := [vI a3, vI (A.1 2 1), .ref 17]) rfl ?_
  refine rz_B.iast rfl rfl hi1 hj2 (by decide) ?_
  have hw6 : wf (aI (aI (aI (aI A 14 ((A.1 2 1)).toNat a0) 15 ((A.1 2 1)).toNat a1) 16 ((A.1 2 1)).toNat a2) 17 ((A.1 2 1)).toNat a3) := wf_aI hw5 ha3
  refine rz_B.go 4 (pc' := 47) (L' := [some (.ref 2), some (vI a0), some (vI a1), some (vI a2), some (vI a3)]) (S' := [vI 1, vI (A.1 2 1), .ref 2]) rfl ?_
  obtain ⟨hk7, h⟩ := rz_g32_inv h
  refine rz_B.iadd rfl ?_
  refine rz_B.put 1 (pc' := 51) (L' := [some (.ref 2), some (vI a0), some (vI a1), some (vI a2), some (vI a3)]) (S' := []) (c := 2) (k := 1) (x := ((A.1 2 1) + 1)) rfl ?_
  have hw8 : wf (aI (aI (aI (aI (aI A 14 ((A.1 2 1)).toNat a0) 15 ((A.1 2 1)).toNat a1) 16 ((A.1 2 1)).toNat a2) 17 ((A.1 2 1)).toNat a3) 2 1 ((A.1 2 1) + 1)) := wf_aI hw6 hk7
  refine rz_B.go 2 (pc' := 55) (L' := [some (.ref 2), some (vI a0), some (vI a1), some (vI a2), some (vI a3)]) (S' := [vI ((A.1 2 1) + 1)]) rfl ?_
  cases h
  exact rz_B.ret rfl hk7 hw8
/-- RiverGauge.moved(III)I -/
def x4_moved (F : Nat) (a0 : Int) (a1 : Int) (a2 : Int) (A : rz_A) : Option (Int × rz_A) :=
  rz_b (x5_has F a0 A) fun r1 A1 =>
  if r1 = 0 then
    rz_b (x1_refuse F (-1) A1) fun r3 A3 =>
    some (r3, A3)
  else
    if (-999) ≤ a1 then
      if a2 < 0 then
        rz_b (x1_refuse F (-4) A1) fun r6 A6 =>
        some (r6, A6)
      else
        if a1 ≤ 999 then
          if a2 ≤ (A1.1 0 16) then
            if 60 ≤ (A1.1 2 1) then
              rz_b (x1_refuse F (-6) A1) fun r10 A10 =>
              some (r10, A10)
            else
              rz_b (x6_forget F A1) fun _ A11 =>
              rz_b (x7_move F a0 a1 a2 (A11.1 0 16) A11) fun r12 A12 =>
              some (r12, A12)
          else
            rz_b (x1_refuse F (-6) A1) fun r13 A13 =>
            some (r13, A13)
        else
          rz_b (x1_refuse F (-6) A1) fun r14 A14 =>
          some (r14, A14)
    else
      rz_b (x1_refuse F (-4) A1) fun r15 A15 =>
      some (r15, A15)
theorem cx4_moved (F : Nat) {d : Nat} {a0 : Int} {a1 : Int} {a2 : Int} {A : rz_A} {r : Int} {A' : rz_A} (h : x4_moved F a0 a1 a2 A = some (r, A')) (ha0 : r32 a0) (ha1 : r32 a1) (ha2 : r32 a2) (hw : wf A) : rg_Rn (d + 1) 4 [.ref 0, vI a0, vI a1, vI a2] (toM A) (some (vI r)) (toM A') ∧ (r32 r) ∧ wf A' := by
  show rz_B (d + 1) 4 0 [some (.ref 0), some (vI a0), some (vI a1), some (vI a2)] [] A (some (vI r)) A' (r32 r)
  unfold x4_moved at h
  refine rz_B.go 3 (pc' := 5) (L' := [some (.ref 0), some (vI a0), some (vI a1), some (vI a2)]) (S' := [vI a0, .ref 2]) rfl ?_
  obtain ⟨r1, A1, hf1, h⟩ := rz_b_inv h
  obtain ⟨hg1, hr1, hw1⟩ := cx5_has F (d := d + 0) hf1 ha0 hw
  refine rz_B.call (d := d + 0) (as := [.ref 2, vI a0]) (rest := []) (w := some (vI r1)) rfl hg1 ?_
  refine rz_B.go 1 (pc' := if decide (¬ Int32.ofInt r1 = Int32.ofInt 0) = true then 17 else 11) (L' := [some (.ref 0), some (vI a0), some (vI a1), some (vI a2)]) (S' := []) rfl ?_
  by_cases hc2 : r1 = 0
  · have h := if_T h hc2
    refine rz_B.ifF (fun hn => hn ((eq32 hr1 (by decide)).mpr hc2)) ?_
    refine rz_B.go 2 (pc' := 13) (L' := [some (.ref 0), some (vI a0), some (vI a1), some (vI a2)]) (S' := [vI (-1), .ref 0]) rfl ?_
    obtain ⟨r3, A3, hf3, h⟩ := rz_b_inv h
    obtain ⟨hg3, hr3, hw3⟩ := cx1_refuse F (d := d + 0) hf3 (by decide) hw1
    refine rz_B.call (d := d + 0) (as := [.ref 0, vI (-1)]) (rest := []) (w := some (vI r3)) rfl hg3 ?_
    cases h
    exact rz_B.ret rfl hr3 hw3
  · have h := if_F h hc2
    refine rz_B.ifT (mt (eq32 hr1 (by decide)).mp hc2) ?_
    refine rz_B.go 3 (pc' := if decide (Int32.ofInt a1 < Int32.ofInt (-999)) = true then 28 else 24) (L' := [some (.ref 0), some (vI a0), some (vI a1), some (vI a2)]) (S' := []) rfl ?_
    by_cases hc4 : (-999) ≤ a1
    · have h := if_T h hc4
      refine rz_B.ifF (mt (lt32 ha1 (by decide)).mp (Int.not_lt.mpr hc4)) ?_
      refine rz_B.go 2 (pc' := if decide (Int32.ofInt 0 ≤ Int32.ofInt a2) = true then 35 else 28) (L' := [some (.ref 0), some (vI a0), some (vI a1), some (vI a2)]) (S' := []) rfl ?_
      by_cases hc5 : a2 < 0
      · have h := if_T h hc5
        refine rz_B.ifF (mt (le32 (by decide) ha2).mp (Int.not_le.mpr hc5)) ?_
        refine rz_B.go 2 (pc' := 31) (L' := [some (.ref 0), some (vI a0), some (vI a1), some (vI a2)]) (S' := [vI (-4), .ref 0]) rfl ?_
        obtain ⟨r6, A6, hf6, h⟩ := rz_b_inv h
        obtain ⟨hg6, hr6, hw6⟩ := cx1_refuse F (d := d + 0) hf6 (by decide) hw1
        refine rz_B.call (d := d + 0) (as := [.ref 0, vI (-4)]) (rest := []) (w := some (vI r6)) rfl hg6 ?_
        cases h
        exact rz_B.ret rfl hr6 hw6
      · have h := if_F h hc5
        refine rz_B.ifT ((le32 (by decide) ha2).mpr (Int.not_lt.mp hc5)) ?_
        refine rz_B.go 3 (pc' := if decide (Int32.ofInt 999 < Int32.ofInt a1) = true then 62 else 42) (L' := [some (.ref 0), some (vI a0), some (vI a1), some (vI a2)]) (S' := []) rfl ?_
        by_cases hc7 : a1 ≤ 999
        · have h := if_T h hc7
          refine rz_B.ifF (mt (lt32 (by decide) ha1).mp (Int.not_lt.mpr hc7)) ?_
          refine rz_B.go 4 (pc' := if decide (Int32.ofInt (A1.1 0 16) < Int32.ofInt a2) = true then 62 else 50) (L' := [some (.ref 0), some (vI a0), some (vI a1), some (vI a2)]) (S' := []) rfl ?_
          by_cases hc8 : a2 ≤ (A1.1 0 16)
          · have h := if_T h hc8
            refine rz_B.ifF (mt (lt32 (hw1 0 16).1 ha2).mp (Int.not_lt.mpr hc8)) ?_
            refine rz_B.go 5 (pc' := if decide (Int32.ofInt (A1.1 2 1) < Int32.ofInt 60) = true then 69 else 62) (L' := [some (.ref 0), some (vI a0), some (vI a1), some (vI a2)]) (S' := []) rfl ?_
            by_cases hc9 : 60 ≤ (A1.1 2 1)
            · have h := if_T h hc9
              refine rz_B.ifF (mt (lt32 (hw1 2 1).1 (by decide)).mp (Int.not_lt.mpr hc9)) ?_
              refine rz_B.go 2 (pc' := 65) (L' := [some (.ref 0), some (vI a0), some (vI a1), some (vI a2)]) (S' := [vI (-6), .ref 0]) rfl ?_
              obtain ⟨r10, A10, hf10, h⟩ := rz_b_inv h
              obtain ⟨hg10, hr10, hw10⟩ := cx1_refuse F (d := d + 0) hf10 (by decide) hw1
              refine rz_B.call (d := d + 0) (as := [.ref 0, vI (-6)]) (rest := []) (w := some (vI r10)) rfl hg10 ?_
              cases h
              exact rz_B.ret rfl hr10 hw10
            · have h := if_F h hc9
              refine rz_B.ifT ((lt32 (hw1 2 1).1 (by decide)).mpr (Int.not_le.mp hc9)) ?_
              refine rz_B.go 2 (pc' := 73) (L' := [some (.ref 0), some (vI a0), some (vI a1), some (vI a2)]) (S' := [.ref 51]) rfl ?_
              obtain ⟨_, A11, hf11, h⟩ := rz_b_inv h
              obtain ⟨hg11, hr11, hw11⟩ := cx6_forget F (d := d + 0) hf11 hw1
              refine rz_B.call (d := d + 0) (as := [.ref 51]) (rest := []) (w := none) rfl hg11 ?_
              refine rz_B.go 7 (pc' := 87) (L' := [some (.ref 0), some (vI a0), some (vI a1), some (vI a2)]) (S' := [vI (A11.1 0 16), vI a2, vI a1, vI a0, .ref 2]) rfl ?_
              obtain ⟨r12, A12, hf12, h⟩ := rz_b_inv h
              obtain ⟨hg12, hr12, hw12⟩ := cx7_move F (d := d + 0) hf12 ha0 ha1 ha2 (hw11 0 16).1 hw11
              refine rz_B.call (d := d + 0) (as := [.ref 2, vI a0, vI a1, vI a2, vI (A11.1 0 16)]) (rest := []) (w := some (vI r12)) rfl hg12 ?_
              cases h
              exact rz_B.ret rfl hr12 hw12
          · have h := if_F h hc8
            refine rz_B.ifT ((lt32 (hw1 0 16).1 ha2).mpr (Int.not_le.mp hc8)) ?_
            refine rz_B.go 2 (pc' := 65) (L' := [some (.ref 0), some (vI a0), some (vI a1), some (vI a2)]) (S' := [vI (-6), .ref 0]) rfl ?_
            obtain ⟨r13, A13, hf13, h⟩ := rz_b_inv h
            obtain ⟨hg13, hr13, hw13⟩ := cx1_refuse F (d := d + 0) hf13 (by decide) hw1
            refine rz_B.call (d := d + 0) (as := [.ref 0, vI (-6)]) (rest := []) (w := some (vI r13)) rfl hg13 ?_
            cases h
            exact rz_B.ret rfl hr13 hw13
        · have h := if_F h hc7
          refine rz_B.ifT ((lt32 (by decide) ha1).mpr (Int.not_le.mp hc7)) ?_
          refine rz_B.go 2 (pc' := 65) (L' := [some (.ref 0), some (vI a0), some (vI a1), some (vI a2)]) (S' := [vI (-6), .ref 0]) rfl ?_
          obtain ⟨r14, A14, hf14, h⟩ := rz_b_inv h
          obtain ⟨hg14, hr14, hw14⟩ := cx1_refuse F (d := d + 0) hf14 (by decide) hw1
          refine rz_B.call (d := d + 0) (as := [.ref 0, vI (-6)]) (rest := []) (w := some (vI r14)) rfl hg14 ?_
          cases h
          exact rz_B.ret rfl hr14 hw14
    · have h := if_F h hc4
      refine rz_B.ifT ((lt32 ha1 (by decide)).mpr (Int.not_le.mp hc4)) ?_
      refine rz_B.go 2 (pc' := 31) (L' := [some (.ref 0), some (vI a0), some (vI a1), some (vI a2)]) (S' := [vI (-4), .ref 0]) rfl ?_
      obtain ⟨r15, A15, hf15, h⟩ := rz_b_inv h
      obtain ⟨hg15, hr15, hw15⟩ := cx1_refuse F (d := d + 0) hf15 (by decide) hw1
      refine rz_B.call (d := d + 0) (as := [.ref 0, vI (-4)]) (rest := []) (w := some (vI r15)) rfl hg15 ?_
      cases h
      exact rz_B.ret rfl hr15 hw15
/-- RiverGauge.whyNotAt(III)I -/
def x9_whyNotAt (F : Nat) (a0 : Int) (a1 : Int) (a2 : Int) (A : rz_A) : Option (Int × rz_A) :=
  rz_b (x5_has F a0 A) fun r1 A1 =>
  if r1 = 0 then
    some ((-1), A1)
  else
    if 0 ≤ a1 then
      if a2 < 0 then
        some ((-4), A1)
      else
        if a1 ≤ 9999 then
          if 9999 < a2 then
            some ((-6), A1)
          else
            some (0, A1)
        else
          some ((-6), A1)
    else
      some ((-4), A1)
theorem cx9_whyNotAt (F : Nat) {d : Nat} {a0 : Int} {a1 : Int} {a2 : Int} {A : rz_A} {r : Int} {A' : rz_A} (h : x9_whyNotAt F a0 a1 a2 A = some (r, A')) (ha0 : r32 a0) (ha1 : r32 a1) (ha2 : r32 a2) (hw : wf A) : rg_Rn (d + 1) 9 [.ref 0, vI a0, vI a1, vI a2] (toM A) (some (vI r)) (toM A') ∧ (r32 r) ∧ wf A' := by
  show rz_B (d + 1) 9 0 [some (.ref 0), some (vI a0), some (vI a1), some (vI a2)] [] A (some (vI r)) A' (r32 r)
  unfold x9_whyNotAt at h
  refine rz_B.go 3 (pc' := 5) (L' := [some (.ref 0), some (vI a0), some (vI a1), some (vI a2)]) (S' := [vI a0, .ref 2]) rfl ?_
  obtain ⟨r1, A1, hf1, h⟩ := rz_b_inv h
  obtain ⟨hg1, hr1, hw1⟩ := cx5_has F (d := d + 0) hf1 ha0 hw
  refine rz_B.call (d := d + 0) (as := [.ref 2, vI a0]) (rest := []) (w := some (vI r1)) rfl hg1 ?_
  refine rz_B.go 1 (pc' := if decide (¬ Int32.ofInt r1 = Int32.ofInt 0) = true then 13 else 11) (L' := [some (.ref 0), some (vI a0), some (vI a1), some (vI a2)]) (S' := []) rfl ?_
  by_cases hc2 : r1 = 0
  · have h := if_T h hc2
    refine rz_B.ifF (fun hn => hn ((eq32 hr1 (by decide)).mpr hc2)) ?_
    refine rz_B.go 1 (pc' := 12) (L' := [some (.ref 0), some (vI a0), some (vI a1), some (vI a2)]) (S' := [vI (-1)]) rfl ?_
    cases h
    exact rz_B.ret rfl (by decide) hw1
  · have h := if_F h hc2
    refine rz_B.ifT (mt (eq32 hr1 (by decide)).mp hc2) ?_
    refine rz_B.go 2 (pc' := if decide (Int32.ofInt a1 < Int32.ofInt 0) = true then 21 else 17) (L' := [some (.ref 0), some (vI a0), some (vI a1), some (vI a2)]) (S' := []) rfl ?_
    by_cases hc3 : 0 ≤ a1
    · have h := if_T h hc3
      refine rz_B.ifF (mt (lt32 ha1 (by decide)).mp (Int.not_lt.mpr hc3)) ?_
      refine rz_B.go 2 (pc' := if decide (Int32.ofInt 0 ≤ Int32.ofInt a2) = true then 24 else 21) (L' := [some (.ref 0), some (vI a0), some (vI a1), some (vI a2)]) (S' := []) rfl ?_
      by_cases hc4 : a2 < 0
      · have h := if_T h hc4
        refine rz_B.ifF (mt (le32 (by decide) ha2).mp (Int.not_le.mpr hc4)) ?_
        refine rz_B.go 1 (pc' := 23) (L' := [some (.ref 0), some (vI a0), some (vI a1), some (vI a2)]) (S' := [vI (-4)]) rfl ?_
        cases h
        exact rz_B.ret rfl (by decide) hw1
      · have h := if_F h hc4
        refine rz_B.ifT ((le32 (by decide) ha2).mpr (Int.not_lt.mp hc4)) ?_
        refine rz_B.go 3 (pc' := if decide (Int32.ofInt 9999 < Int32.ofInt a1) = true then 38 else 31) (L' := [some (.ref 0), some (vI a0), some (vI a1), some (vI a2)]) (S' := []) rfl ?_
        by_cases hc5 : a1 ≤ 9999
        · have h := if_T h hc5
          refine rz_B.ifF (mt (lt32 (by decide) ha1).mp (Int.not_lt.mpr hc5)) ?_
          refine rz_B.go 3 (pc' := if decide (Int32.ofInt a2 ≤ Int32.ofInt 9999) = true then 43 else 38) (L' := [some (.ref 0), some (vI a0), some (vI a1), some (vI a2)]) (S' := []) rfl ?_
          by_cases hc6 : 9999 < a2
          · have h := if_T h hc6
            refine rz_B.ifF (mt (le32 ha2 (by decide)).mp (Int.not_le.mpr hc6)) ?_
            refine rz_B.go 2 (pc' := 44) (L' := [some (.ref 0), some (vI a0), some (vI a1), some (vI a2)]) (S' := [vI (-6)]) rfl ?_
            cases h
            exact rz_B.ret rfl (by decide) hw1
          · have h := if_F h hc6
            refine rz_B.ifT ((le32 ha2 (by decide)).mpr (Int.not_lt.mp hc6)) ?_
            refine rz_B.go 1 (pc' := 44) (L' := [some (.ref 0), some (vI a0), some (vI a1), some (vI a2)]) (S' := [vI 0]) rfl ?_
            cases h
            exact rz_B.ret rfl (by decide) hw1
        · have h := if_F h hc5
          refine rz_B.ifT ((lt32 (by decide) ha1).mpr (Int.not_le.mp hc5)) ?_
          refine rz_B.go 2 (pc' := 44) (L' := [some (.ref 0), some (vI a0), some (vI a1), some (vI a2)]) (S' := [vI (-6)]) rfl ?_
          cases h
          exact rz_B.ret rfl (by decide) hw1
    · have h := if_F h hc3
      refine rz_B.ifT ((lt32 ha1 (by decide)).mpr (Int.not_le.mp hc3)) ?_
      refine rz_B.go 1 (pc' := 23) (L' := [some (.ref 0), some (vI a0), some (vI a1), some (vI a2)]) (S' := [vI (-4)]) rfl ?_
      cases h
      exact rz_B.ret rfl (by decide) hw1
def x11_zeroOf_14 (F : Nat) : Nat → Int → Int → Int → Int → Int → Int → rz_A → Option (Int × rz_A)
  | 0, _, _, _, _, _, _, _ => none
  | n + 1, v1, v2, v3, v4, v5, v6, A =>
    if v6 < (A.1 2 1) then
      rz_gx v6 60 <|
      if (A.1 14 (v6).toNat) = v1 then
        if (A.1 17 (v6).toNat) ≤ v3 then
          if (A.1 16 (v6).toNat) ≤ v2 then
            if v5 ≤ (A.1 16 (v6).toNat) then
              rz_g32 (v6 + 1) <|
              x11_zeroOf_14 F n v1 v2 v3 (A.1 15 (v6).toNat) (A.1 16 (v6).toNat) (v6 + 1) A
            else
              rz_g32 (v6 + 1) <|
              x11_zeroOf_14 F n v1 v2 v3 v4 v5 (v6 + 1) A
          else
            rz_g32 (v6 + 1) <|
            x11_zeroOf_14 F n v1 v2 v3 v4 v5 (v6 + 1) A
        else
          rz_g32 (v6 + 1) <|
          x11_zeroOf_14 F n v1 v2 v3 v4 v5 (v6 + 1) A
      else
        rz_g32 (v6 + 1) <|
        x11_zeroOf_14 F n v1 v2 v3 v4 v5 (v6 + 1) A
    else
      some (v4, A)
theorem cx11_zeroOf_14 {d : Nat} (F : Nat) : ∀ (n : Nat) (v1 : Int) (v2 : Int) (v3 : Int) (v4 : Int) (v5 : Int) (v6 : Int) (A : rz_A) (r : Int) (A' : rz_A), x11_zeroOf_14 F n v1 v2 v3 v4 v5 v6 A = some (r, A') → r32 v1 → r32 v2 → r32 v3 → r32 v4 → r32 v5 → r32 v6 → wf A → rz_B (d + 0) 11 14 [some (.ref 2), some (vI v1), some (vI v2), some (vI v3), some (vI v4), some (vI v5), some (vI v6), none] [] A (some (vI r)) A' (r32 r) := by
  intro n
  induction n with
  | zero => intro v1 v2 v3 v4 v5 v6 A r A' h; cases h
  | succ n ih =>
    intro v1 v2 v3 v4 v5 v6 A r A' h hv1 hv2 hv3 hv4 hv5 hv6 hw
    rw [x11_zeroOf_14] at h
    refine rz_B.go 4 (pc' := if decide (Int32.ofInt (A.1 2 1) ≤ Int32.ofInt v6) = true then 104 else 23) (L' := [some (.ref 2), some (vI v1), some (vI v2), some (vI v3), some (vI v4), some (vI v5), some (vI v6), none]) (S' := []) rfl ?_
    by_cases hc1 : v6 < (A.1 2 1)
    · have h := if_T h hc1
      refine rz_B.ifF (mt (le32 (hw 2 1).1 hv6).mp (Int.not_le.mpr hc1)) ?_
      refine rz_B.go 3 (pc' := 29) (L' := [some (.ref 2), some (vI v1), some (vI v2), some (vI v3), some (vI v4), some (vI v5), some (vI v6), none]) (S' := [vI v6, .ref 14]) rfl ?_
      obtain ⟨hi2, hj3, h⟩ := rz_gx_inv h
      refine rz_B.iald rfl rfl hi2 hj3 (by decide) ?_
      refine rz_B.go 2 (pc' := if decide (¬ Int32.ofInt (A.1 14 (v6).toNat) = Int32.ofInt v1) = true then 60 else 34) (L' := [some (.ref 2), some (vI v1), some (vI v2), some (vI v3), some (vI v4), some (vI v5), some (vI v6), none]) (S' := []) rfl ?_
      by_cases hc4 : (A.1 14 (v6).toNat) = v1
      · have h := if_T h hc4
        refine rz_B.ifF (fun hn => hn ((eq32 (hw 14 (v6).toNat).1 hv1).mpr hc4)) ?_
        refine rz_B.go 3 (pc' := 40) (L' := [some (.ref 2), some (vI v1), some (vI v2), some (vI v3), some (vI v4), some (vI v5), some (vI v6), none]) (S' := [vI v6, .ref 17]) rfl ?_
        refine rz_B.iald rfl rfl hi2 hj3 (by decide) ?_
        refine rz_B.go 2 (pc' := if decide (Int32.ofInt v3 < Int32.ofInt (A.1 17 (v6).toNat)) = true then 60 else 45) (L' := [some (.ref 2), some (vI v1), some (vI v2), some (vI v3), some (vI v4), some (vI v5), some (vI v6), none]) (S' := []) rfl ?_
        by_cases hc5 : (A.1 17 (v6).toNat) ≤ v3
        · have h := if_T h hc5
          refine rz_B.ifF (mt (lt32 hv3 (hw 17 (v6).toNat).1).mp (Int.not_lt.mpr hc5)) ?_
          refine rz_B.go 3 (pc' := 51) (L' := [some (.ref 2), some (vI v1), some (vI v2), some (vI v3), some (vI v4), some (vI v5), some (vI v6), none]) (S' := [vI v6, .ref 16]) rfl ?_
          refine rz_B.iald rfl rfl hi2 hj3 (by decide) ?_
          refine rz_B.go 2 (pc' := if decide (Int32.ofInt v2 < Int32.ofInt (A.1 16 (v6).toNat)) = true then 60 else 56) (L' := [some (.ref 2), some (vI v1), some (vI v2), some (vI v3), some (vI v4), some (vI v5), some (vI v6), none]) (S' := []) rfl ?_
          by_cases hc6 : (A.1 16 (v6).toNat) ≤ v2
          · have h := if_T h hc6
            refine rz_B.ifF (mt (lt32 hv2 (hw 16 (v6).toNat).1).mp (Int.not_lt.mpr hc6)) ?_
            refine rz_B.go 8 (pc' := 74) (L' := [some (.ref 2), some (vI v1), some (vI v2), some (vI v3), some (vI v4), some (vI v5), some (vI v6), some (vI 1)]) (S' := [vI v6, .ref 16]) rfl ?_
            refine rz_B.iald rfl rfl hi2 hj3 (by decide) ?_
            refine rz_B.go 2 (pc' := if decide (Int32.ofInt (A.1 16 (v6).toNat) < Int32.ofInt v5) = true then 98 else 80) (L' := [some (.ref 2), some (vI v1), some (vI v2), some (vI v3), some (vI v4), some (vI v5), some (vI v6), some (vI 1)]) (S' := []) rfl ?_
            by_cases hc7 : v5 ≤ (A.1 16 (v6).toNat)
            · have h := if_T h hc7
              refine rz_B.ifF (mt (lt32 (hw 16 (v6).toNat).1 hv5).mp (Int.not_lt.mpr hc7)) ?_
              refine rz_B.go 3 (pc' := 86) (L' := [some (.ref 2), some (vI v1), some (vI v2), some (vI v3), some (vI v4), some (vI v5), some (vI v6), some (vI 1)]) (S' := [vI v6, .ref 16]) rfl ?_
              refine rz_B.iald rfl rfl hi2 hj3 (by decide) ?_
              refine rz_B.go 4 (pc' := 95) (L' := [some (.ref 2), some (vI v1), some (vI v2), some (vI v3), some (vI v4), some (vI (A.1 16 (v6).toNat)), some (vI v6), some (vI 1)]) (S' := [vI v6, .ref 15]) rfl ?_
              refine rz_B.iald rfl rfl hi2 hj3 (by decide) ?_
              refine rz_B.go 1 (pc' := 98) (L' := [some (.ref 2), some (vI v1), some (vI v2), some (vI v3), some (vI (A.1 15 (v6).toNat)), some (vI (A.1 16 (v6).toNat)), some (vI v6), some (vI 1)]) (S' := []) rfl ?_
              obtain ⟨hk8, h⟩ := rz_g32_inv h
              refine rz_B.iinc rfl (by decide) rfl (L' := [some (.ref 2), some (vI v1), some (vI v2), some (vI v3), some (vI (A.1 15 (v6).toNat)), some (vI (A.1 16 (v6).toNat)), some (vI (v6 + 1)), some (vI 1)]) rfl ?_
              refine rz_B.go 1 (pc' := 14) (L' := [some (.ref 2), some (vI v1), some (vI v2), some (vI v3), some (vI (A.1 15 (v6).toNat)), some (vI (A.1 16 (v6).toNat)), some (vI (v6 + 1)), some (vI 1)]) (S' := []) rfl ?_
              refine rz_B.more (rg_le_ok (L := [some (.ref 2), some (vI v1), some (vI v2), some (vI v3), some (vI (A.1 15 (v6).toNat)), some (vI (A.1 16 (v6).toNat)), some (vI (v6 + 1)), none]) (by simp [rg_le])) ?_
              exact ih _ _ _ _ _ _ _ _ _ h hv1 hv2 hv3 (hw 15 (v6).toNat).1 (hw 16 (v6).toNat).1 hk8 hw
            · have h := if_F h hc7
              refine rz_B.ifT ((lt32 (hw 16 (v6).toNat).1 hv5).mpr (Int.not_le.mp hc7)) ?_
              obtain ⟨hk9, h⟩ := rz_g32_inv h
              refine rz_B.iinc rfl (by decide) rfl (L' := [some (.ref 2), some (vI v1), some (vI v2), some (vI v3), some (vI v4), some (vI v5), some (vI (v6 + 1)), some (vI 1)]) rfl ?_
              refine rz_B.go 1 (pc' := 14) (L' := [some (.ref 2), some (vI v1), some (vI v2), some (vI v3), some (vI v4), some (vI v5), some (vI (v6 + 1)), some (vI 1)]) (S' := []) rfl ?_
              refine rz_B.more (rg_le_ok (L := [some (.ref 2), some (vI v1), some (vI v2), some (vI v3), some (vI v4), some (vI v5), some (vI (v6 + 1)), none]) (by simp [rg_le])) ?_
              exact ih _ _ _ _ _ _ _ _ _ h hv1 hv2 hv3 hv4 hv5 hk9 hw
          · have h := if_F h hc6
            refine rz_B.ifT ((lt32 hv2 (hw 16 (v6).toNat).1).mpr (Int.not_le.mp hc6)) ?_
            refine rz_B.go 4 (pc' := 98) (L' := [some (.ref 2), some (vI v1), some (vI v2), some (vI v3), some (vI v4), some (vI v5), some (vI v6), some (vI 0)]) (S' := []) rfl ?_
            obtain ⟨hk10, h⟩ := rz_g32_inv h
            refine rz_B.iinc rfl (by decide) rfl (L' := [some (.ref 2), some (vI v1), some (vI v2), some (vI v3), some (vI v4), some (vI v5), some (vI (v6 + 1)), some (vI 0)]) rfl ?_
            refine rz_B.go 1 (pc' := 14) (L' := [some (.ref 2), some (vI v1), some (vI v2), some (vI v3), some (vI v4), some (vI v5), some (vI (v6 + 1)), some (vI 0)]) (S' := []) rfl ?_
            refine rz_B.more (rg_le_ok (L := [some (.ref 2), some (vI v1), some (vI v2), some (vI v3), some (vI v4), some (vI v5), some (vI (v6 + 1)), none]) (by simp [rg_le])) ?_
            exact ih _ _ _ _ _ _ _ _ _ h hv1 hv2 hv3 hv4 hv5 hk10 hw
        · have h := if_F h hc5
          refine rz_B.ifT ((lt32 hv3 (hw 17 (v6).toNat).1).mpr (Int.not_le.mp hc5)) ?_
          refine rz_B.go 4 (pc' := 98) (L' := [some (.ref 2), some (vI v1), some (vI v2), some (vI v3), some (vI v4), some (vI v5), some (vI v6), some (vI 0)]) (S' := []) rfl ?_
          obtain ⟨hk11, h⟩ := rz_g32_inv h
          refine rz_B.iinc rfl (by decide) rfl (L' := [some (.ref 2), some (vI v1), some (vI v2), some (vI v3), some (vI v4), some (vI v5), some (vI (v6 + 1)), some (vI 0)]) rfl ?_
          refine rz_B.go 1 (pc' := 14) (L' := [some (.ref 2), some (vI v1), some (vI v2), some (vI v3), some (vI v4), some (vI v5), some (vI (v6 + 1)), some (vI 0)]) (S' := []) rfl ?_
          refine rz_B.more (rg_le_ok (L := [some (.ref 2), some (vI v1), some (vI v2), some (vI v3), some (vI v4), some (vI v5), some (vI (v6 + 1)), none]) (by simp [rg_le])) ?_
          exact ih _ _ _ _ _ _ _ _ _ h hv1 hv2 hv3 hv4 hv5 hk11 hw
      · have h := if_F h hc4
        refine rz_B.ifT (mt (eq32 (hw 14 (v6).toNat).1 hv1).mp hc4) ?_
        refine rz_B.go 4 (pc' := 98) (L' := [some (.ref 2), some (vI v1), some (vI v2), some (vI v3), some (vI v4), some (vI v5), some (vI v6), some (vI 0)]) (S' := []) rfl ?_
        obtain ⟨hk12, h⟩ := rz_g32_inv h
        refine rz_B.iinc rfl (by decide) rfl (L' := [some (.ref 2), some (vI v1), some (vI v2), some (vI v3), some (vI v4), some (vI v5), some (vI (v6 + 1)), some (vI 0)]) rfl ?_
        refine rz_B.go 1 (pc' := 14) (L' := [some (.ref 2), some (vI v1), some (vI v2), some (vI v3), some (vI v4), some (vI v5), some (vI (v6 + 1)), some (vI 0)]) (S' := []) rfl ?_
        refine rz_B.more (rg_le_ok (L := [some (.ref 2), some (vI v1), some (vI v2), some (vI v3), some (vI v4), some (vI v5), some (vI (v6 + 1)), none]) (by simp [rg_le])) ?_
        exact ih _ _ _ _ _ _ _ _ _ h hv1 hv2 hv3 hv4 hv5 hk12 hw
    · have h := if_F h hc1
      refine rz_B.ifT ((le32 (hw 2 1).1 hv6).mpr (Int.not_lt.mp hc1)) ?_
      refine rz_B.go 1 (pc' := 106) (L' := [some (.ref 2), some (vI v1), some (vI v2), some (vI v3), some (vI v4), some (vI v5), some (vI v6), none]) (S' := [vI v4]) rfl ?_
      cases h
      exact rz_B.ret rfl hv4 hw
/-- RiverGauge$Posts.zeroOf(III)I -/
def x11_zeroOf (F : Nat) (a0 : Int) (a1 : Int) (a2 : Int) (A : rz_A) : Option (Int × rz_A) :=
  rz_gx a0 6 <|
  x11_zeroOf_14 F F a0 a1 a2 (A.1 3 (a0).toNat) (-1) 0 A
theorem cx11_zeroOf (F : Nat) {d : Nat} {a0 : Int} {a1 : Int} {a2 : Int} {A : rz_A} {r : Int} {A' : rz_A} (h : x11_zeroOf F a0 a1 a2 A = some (r, A')) (ha0 : r32 a0) (ha1 : r32 a1) (ha2 : r32 a2) (hw : wf A) : rg_Rn (d + 0) 11 [.ref 2, vI a0, vI a1, vI a2] (toM A) (some (vI r)) (toM A') ∧ (r32 r) ∧ wf A' := by
  show rz_B (d + 0) 11 0 [some (.ref 2), some (vI a0), some (vI a1), some (vI a2), none, none, none, none] [] A (some (vI r)) A' (r32 r)
  unfold x11_zeroOf at h
  refine rz_B.go 3 (pc' := 5) (L' := [some (.ref 2), some (vI a0), some (vI a1), some (vI a2), none, none, none, none]) (S' := [vI a0, .ref 3]) rfl ?_
  obtain ⟨hi1, hj2, h⟩ := rz_gx_inv h
  refine rz_B.iald rfl rfl hi1 hj2 (by decide) ?_
  refine rz_B.go 5 (pc' := 14) (L' := [some (.ref 2), some (vI a0), some (vI a1), some (vI a2), some (vI (A.1 3 (a0).toNat)), some (vI (-1)), some (vI 0), none]) (S' := []) rfl ?_
  refine rz_B.more (rg_le_ok (L := [some (.ref 2), some (vI a0), some (vI a1), some (vI a2), some (vI (A.1 3 (a0).toNat)), some (vI (-1)), some (vI 0), none]) (by simp [rg_le])) ?_
  exact cx11_zeroOf_14 F F _ _ _ _ _ _ _ _ _ h ha0 ha1 ha2 (hw 3 (a0).toNat).1 (by decide) (by decide) hw
/-- RiverGauge.refuseAsTold(I)I -/
def x10_refuseAsTold (F : Nat) (a0 : Int) (A : rz_A) : Option (Int × rz_A) :=
  rz_b (x1_refuse F a0 A) fun r1 A1 =>
  rz_g32 (1000000000 - r1) <|
  some ((1000000000 - r1), A1)
theorem cx10_refuseAsTold (F : Nat) {d : Nat} {a0 : Int} {A : rz_A} {r : Int} {A' : rz_A} (h : x10_refuseAsTold F a0 A = some (r, A')) (ha0 : r32 a0) (hw : wf A) : rg_Rn (d + 1) 10 [.ref 0, vI a0] (toM A) (some (vI r)) (toM A') ∧ (r32 r) ∧ wf A' := by
  show rz_B (d + 1) 10 0 [some (.ref 0), some (vI a0)] [] A (some (vI r)) A' (r32 r)
  unfold x10_refuseAsTold at h
  refine rz_B.go 3 (pc' := 5) (L' := [some (.ref 0), some (vI a0)]) (S' := [vI a0, .ref 0, vI 1000000000]) rfl ?_
  obtain ⟨r1, A1, hf1, h⟩ := rz_b_inv h
  obtain ⟨hg1, hr1, hw1⟩ := cx1_refuse F (d := d + 0) hf1 ha0 hw
  refine rz_B.call (d := d + 0) (as := [.ref 0, vI a0]) (rest := [vI 1000000000]) (w := some (vI r1)) rfl hg1 ?_
  obtain ⟨hk2, h⟩ := rz_g32_inv h
  refine rz_B.isub rfl ?_
  cases h
  exact rz_B.ret rfl hk2 hw1
/-- RiverGauge.zeroAt(III)I -/
def x8_zeroAt (F : Nat) (a0 : Int) (a1 : Int) (a2 : Int) (A : rz_A) : Option (Int × rz_A) :=
  rz_b (x9_whyNotAt F a0 a1 a2 A) fun r1 A1 =>
  if r1 = 0 then
    rz_b (x11_zeroOf F a0 a1 a2 A1) fun r3 A3 =>
    some (r3, A3)
  else
    rz_b (x10_refuseAsTold F r1 A1) fun r4 A4 =>
    some (r4, A4)
theorem cx8_zeroAt (F : Nat) {d : Nat} {a0 : Int} {a1 : Int} {a2 : Int} {A : rz_A} {r : Int} {A' : rz_A} (h : x8_zeroAt F a0 a1 a2 A = some (r, A')) (ha0 : r32 a0) (ha1 : r32 a1) (ha2 : r32 a2) (hw : wf A) : rg_Rn (d + 2) 8 [.ref 0, vI a0, vI a1, vI a2] (toM A) (some (vI r)) (toM A') ∧ (r32 r) ∧ wf A' := by
  show rz_B (d + 2) 8 0 [some (.ref 0), some (vI a0), some (vI a1), some (vI a2), none] [] A (some (vI r)) A' (r32 r)
  unfold x8_zeroAt at h
  refine rz_B.go 4 (pc' := 4) (L' := [some (.ref 0), some (vI a0), some (vI a1), some (vI a2), none]) (S' := [vI a2, vI a1, vI a0, .ref 0]) rfl ?_
  obtain ⟨r1, A1, hf1, h⟩ := rz_b_inv h
  obtain ⟨hg1, hr1, hw1⟩ := cx9_whyNotAt F (d := d + 0) hf1 ha0 ha1 ha2 hw
  refine rz_B.call (d := d + 1) (as := [.ref 0, vI a0, vI a1, vI a2]) (rest := []) (w := some (vI r1)) rfl hg1 ?_
  refine rz_B.go 3 (pc' := if decide (Int32.ofInt r1 = Int32.ofInt 0) = true then 21 else 14) (L' := [some (.ref 0), some (vI a0), some (vI a1), some (vI a2), some (vI r1)]) (S' := []) rfl ?_
  by_cases hc2 : r1 = 0
  · have h := if_T h hc2
    refine rz_B.ifT ((eq32 hr1 (by decide)).mpr hc2) ?_
    refine rz_B.go 5 (pc' := 28) (L' := [some (.ref 0), some (vI a0), some (vI a1), some (vI a2), some (vI r1)]) (S' := [vI a2, vI a1, vI a0, .ref 2]) rfl ?_
    obtain ⟨r3, A3, hf3, h⟩ := rz_b_inv h
    obtain ⟨hg3, hr3, hw3⟩ := cx11_zeroOf F (d := d + 1) hf3 ha0 ha1 ha2 hw1
    refine rz_B.call (d := d + 1) (as := [.ref 2, vI a0, vI a1, vI a2]) (rest := []) (w := some (vI r3)) rfl hg3 ?_
    cases h
    exact rz_B.ret rfl hr3 hw3
  · have h := if_F h hc2
    refine rz_B.ifF (mt (eq32 hr1 (by decide)).mp hc2) ?_
    refine rz_B.go 2 (pc' := 17) (L' := [some (.ref 0), some (vI a0), some (vI a1), some (vI a2), some (vI r1)]) (S' := [vI r1, .ref 0]) rfl ?_
    obtain ⟨r4, A4, hf4, h⟩ := rz_b_inv h
    obtain ⟨hg4, hr4, hw4⟩ := cx10_refuseAsTold F (d := d + 0) hf4 hr1 hw1
    refine rz_B.call (d := d + 1) (as := [.ref 0, vI r1]) (rest := []) (w := some (vI r4)) rfl hg4 ?_
    cases h
    exact rz_B.ret rfl hr4 hw4
/-- RiverGauge$View.keyOf(II)I -/
def x14_keyOf (F : Nat) (a0 : Int) (a1 : Int) (A : rz_A) : Option (Int × rz_A) :=
  rz_g32 (a0 * 16384) <|
  rz_g32 ((a0 * 16384) + a1) <|
  some (((a0 * 16384) + a1), A)
theorem cx14_keyOf (F : Nat) {d : Nat} {a0 : Int} {a1 : Int} {A : rz_A} {r : Int} {A' : rz_A} (h : x14_keyOf F a0 a1 A = some (r, A')) (ha0 : r32 a0) (ha1 : r32 a1) (hw : wf A) : rg_Rn (d + 0) 14 [vI a0, vI a1] (toM A) (some (vI r)) (toM A') ∧ (r32 r) ∧ wf A' := by
  show rz_B (d + 0) 14 0 [some (vI a0), some (vI a1)] [] A (some (vI r)) A' (r32 r)
  unfold x14_keyOf at h
  refine rz_B.go 2 (pc' := 4) (L' := [some (vI a0), some (vI a1)]) (S' := [vI 16384, vI a0]) rfl ?_
  obtain ⟨hk1, h⟩ := rz_g32_inv h
  refine rz_B.imul rfl ?_
  refine rz_B.go 1 (pc' := 6) (L' := [some (vI a0), some (vI a1)]) (S' := [vI a1, vI (a0 * 16384)]) rfl ?_
  obtain ⟨hk2, h⟩ := rz_g32_inv h
  refine rz_B.iadd rfl ?_
  cases h
  exact rz_B.ret rfl hk2 hw
def x13_come_135 (F : Nat) (v6 : Int) (A : rz_A) : Option (Int × rz_A) :=
  rz_gx v6 300 <|
  rz_g32 ((A.1 18 0) + 1) <|
  rz_g32 (((A.1 18 0) + 1) - 1) <|
  some ((((A.1 18 0) + 1) - 1), (aI (aI A 25 (v6).toNat (A.1 18 0)) 18 0 ((A.1 18 0) + 1)))
theorem cx13_come_135 {d : Nat} (F : Nat) : ∀ (v6 : Int) (A : rz_A) (r : Int) (A' : rz_A), x13_come_135 F v6 A = some (r, A') → r32 v6 → wf A → rz_B (d + 1) 13 135 [some (.ref 18), none, none, none, none, none, some (vI v6)] [] A (some (vI r)) A' (r32 r) := by
  intro v6 A r A' h hv6 hw
  unfold x13_come_135 at h
  refine rz_B.go 5 (pc' := 145) (L' := [some (.ref 18), none, none, none, none, none, some (vI v6)]) (S' := [vI (A.1 18 0), vI v6, .ref 25]) rfl ?_
  obtain ⟨hi1, hj2, h⟩ := rz_gx_inv h
  refine rz_B.iast rfl rfl hi1 hj2 (by decide) ?_
  have hw3 : wf (aI A 25 (v6).toNat (A.1 18 0)) := wf_aI hw (hw 18 0).1
  refine rz_B.go 4 (pc' := 152) (L' := [some (.ref 18), none, none, none, none, none, some (vI v6)]) (S' := [vI 1, vI (A.1 18 0), .ref 18]) rfl ?_
  obtain ⟨hk4, h⟩ := rz_g32_inv h
  refine rz_B.iadd rfl ?_
  refine rz_B.put 1 (pc' := 156) (L' := [some (.ref 18), none, none, none, none, none, some (vI v6)]) (S' := []) (c := 18) (k := 0) (x := ((A.1 18 0) + 1)) rfl ?_
  have hw5 : wf (aI (aI A 25 (v6).toNat (A.1 18 0)) 18 0 ((A.1 18 0) + 1)) := wf_aI hw3 hk4
  refine rz_B.go 3 (pc' := 161) (L' := [some (.ref 18), none, none, none, none, none, some (vI v6)]) (S' := [vI 1, vI ((A.1 18 0) + 1)]) rfl ?_
  obtain ⟨hk6, h⟩ := rz_g32_inv h
  refine rz_B.isub rfl ?_
  cases h
  exact rz_B.ret rfl hk6 hw5
def x13_come_69 (F : Nat) : Nat → Int → Int → Int → rz_A → Option (Int × rz_A)
  | 0, _, _, _, _ => none
  | n + 1, v1, v2, v6, A =>
    if 0 < v6 then
      rz_g32 (v6 - 1) <|
      rz_gx (v6 - 1) 300 <|
      rz_gx (A.1 25 ((v6 - 1)).toNat) 300 <|
      rz_b (x14_keyOf F (A.1 19 ((A.1 25 ((v6 - 1)).toNat)).toNat) (A.1 20 ((A.1 25 ((v6 - 1)).toNat)).toNat) A) fun r7 A7 =>
      rz_b (x14_keyOf F v1 v2 A7) fun r8 A8 =>
      if r8 < r7 then
        rz_gx v6 300 <|
        rz_g32 (v6 + (-1)) <|
        x13_come_69 F n v1 v2 (v6 + (-1)) (aI A8 25 (v6).toNat (A8.1 25 ((v6 - 1)).toNat))
      else
        x13_come_135 F v6 A8
    else
      x13_come_135 F v6 A
theorem cx13_come_69 {d : Nat} (F : Nat) : ∀ (n : Nat) (v1 : Int) (v2 : Int) (v6 : Int) (A : rz_A) (r : Int) (A' : rz_A), x13_come_69 F n v1 v2 v6 A = some (r, A') → r32 v1 → r32 v2 → r32 v6 → wf A → rz_B (d + 1) 13 69 [some (.ref 18), some (vI v1), some (vI v2), none, none, none, some (vI v6)] [] A (some (vI r)) A' (r32 r) := by
  intro n
  induction n with
  | zero => intro v1 v2 v6 A r A' h; cases h
  | succ n ih =>
    intro v1 v2 v6 A r A' h hv1 hv2 hv6 hw
    rw [x13_come_69] at h
    refine rz_B.go 2 (pc' := if decide (Int32.ofInt v6 ≤ Int32.ofInt 0) = true then 135 else 74) (L' := [some (.ref 18), some (vI v1), some (vI v2), none, none, none, some (vI v6)]) (S' := []) rfl ?_
    by_cases hc1 : 0 < v6
    · have h := if_T h hc1
      refine rz_B.ifF (mt (le32 hv6 (by decide)).mp (Int.not_le.mpr hc1)) ?_
      refine rz_B.go 6 (pc' := 85) (L' := [some (.ref 18), some (vI v1), some (vI v2), none, none, none, some (vI v6)]) (S' := [vI 1, vI v6, .ref 25, .ref 19]) rfl ?_
      obtain ⟨hk2, h⟩ := rz_g32_inv h
      refine rz_B.isub rfl ?_
      obtain ⟨hi3, hj4, h⟩ := rz_gx_inv h
      refine rz_B.iald rfl rfl hi3 hj4 (by decide) ?_
      obtain ⟨hi5, hj6, h⟩ := rz_gx_inv h
      refine rz_B.iald rfl rfl hi5 hj6 (by decide) ?_
      refine rz_B.go 6 (pc' := 99) (L' := [some (.ref 18), some (vI v1), some (vI v2), none, none, none, some (vI v6)]) (S' := [vI 1, vI v6, .ref 25, .ref 20, vI (A.1 19 ((A.1 25 ((v6 - 1)).toNat)).toNat)]) rfl ?_
      refine rz_B.isub rfl ?_
      refine rz_B.iald rfl rfl hi3 hj4 (by decide) ?_
      refine rz_B.iald rfl rfl hi5 hj6 (by decide) ?_
      obtain ⟨r7, A7, hf7, h⟩ := rz_b_inv h
      obtain ⟨hg7, hr7, hw7⟩ := cx14_keyOf F (d := d + 0) hf7 (hw 19 ((A.1 25 ((v6 - 1)).toNat)).toNat).1 (hw 20 ((A.1 25 ((v6 - 1)).toNat)).toNat).1 hw
      refine rz_B.call (d := d + 0) (as := [vI (A.1 19 ((A.1 25 ((v6 - 1)).toNat)).toNat), vI (A.1 20 ((A.1 25 ((v6 - 1)).toNat)).toNat)]) (rest := []) (w := some (vI r7)) rfl hg7 ?_
      refine rz_B.go 2 (pc' := 107) (L' := [some (.ref 18), some (vI v1), some (vI v2), none, none, none, some (vI v6)]) (S' := [vI v2, vI v1, vI r7]) rfl ?_
      obtain ⟨r8, A8, hf8, h⟩ := rz_b_inv h
      obtain ⟨hg8, hr8, hw8⟩ := cx14_keyOf F (d := d + 0) hf8 hv1 hv2 hw7
      refine rz_B.call (d := d + 0) (as := [vI v1, vI v2]) (rest := [vI r7]) (w := some (vI r8)) rfl hg8 ?_
      refine rz_B.go 1 (pc' := if decide (Int32.ofInt r7 ≤ Int32.ofInt r8) = true then 135 else 113) (L' := [some (.ref 18), some (vI v1), some (vI v2), none, none, none, some (vI v6)]) (S' := []) rfl ?_
      by_cases hc9 : r8 < r7
      · have h := if_T h hc9
        refine rz_B.ifF (mt (le32 hr7 hr8).mp (Int.not_le.mpr hc9)) ?_
        refine rz_B.go 7 (pc' := 126) (L' := [some (.ref 18), some (vI v1), some (vI v2), none, none, none, some (vI v6)]) (S' := [vI 1, vI v6, .ref 25, vI v6, .ref 25]) rfl ?_
        refine rz_B.isub rfl ?_
        refine rz_B.iald rfl rfl hi3 hj4 (by decide) ?_
        obtain ⟨hi10, hj11, h⟩ := rz_gx_inv h
        refine rz_B.iast rfl rfl hi10 hj11 (by decide) ?_
        have hw12 : wf (aI A8 25 (v6).toNat (A8.1 25 ((v6 - 1)).toNat)) := wf_aI hw8 (hw8 25 ((v6 - 1)).toNat).1
        obtain ⟨hk13, h⟩ := rz_g32_inv h
        refine rz_B.iinc rfl (by decide) rfl (L' := [some (.ref 18), some (vI v1), some (vI v2), none, none, none, some (vI (v6 + (-1)))]) rfl ?_
        refine rz_B.go 1 (pc' := 69) (L' := [some (.ref 18), some (vI v1), some (vI v2), none, none, none, some (vI (v6 + (-1)))]) (S' := []) rfl ?_
        refine rz_B.more (rg_le_ok (L := [some (.ref 18), some (vI v1), some (vI v2), none, none, none, some (vI (v6 + (-1)))]) (by simp [rg_le])) ?_
        exact ih _ _ _ _ _ _ h hv1 hv2 hk13 hw12
      · have h := if_F h hc9
        refine rz_B.ifT ((le32 hr7 hr8).mpr (Int.not_lt.mp hc9)) ?_
        refine rz_B.more (rg_le_ok (L := [some (.ref 18), none, none, none, none, none, some (vI v6)]) (by simp [rg_le])) ?_
        exact cx13_come_135 F _ _ _ _ h hv6 hw8
    · have h := if_F h hc1
      refine rz_B.ifT ((le32 hv6 (by decide)).mpr (Int.not_lt.mp hc1)) ?_
      refine rz_B.more (rg_le_ok (L := [some (.ref 18), none, none, none, none, none, some (vI v6)]) (by simp [rg_le])) ?_
      exact cx13_come_135 F _ _ _ _ h hv6 hw
/-- RiverGauge$Heights.come(IIIII)I -/
def x13_come (F : Nat) (a0 : Int) (a1 : Int) (a2 : Int) (a3 : Int) (a4 : Int) (A : rz_A) : Option (Int × rz_A) :=
  rz_gx (A.1 18 0) 300 <|
  x13_come_69 F F a0 a1 (A.1 18 0) (aI (aI (aI (aI (aI (aI A 19 ((A.1 18 0)).toNat a0) 20 ((A.1 18 0)).toNat a1) 21 ((A.1 18 0)).toNat a2) 22 ((A.1 18 0)).toNat a3) 23 ((A.1 18 0)).toNat a4) 24 ((A.1 18 0)).toNat 2147483647)
theorem cx13_come (F : Nat) {d : Nat} {a0 : Int} {a1 : Int} {a2 : Int} {a3 : Int} {a4 : Int} {A : rz_A} {r : Int} {A' : rz_A} (h : x13_come F a0 a1 a2 a3 a4 A = some (r, A')) (ha0 : r32 a0) (ha1 : r32 a1) (ha2 : r32 a2) (ha3 : r32 a3) (ha4 : r32 a4) (hw : wf A) : rg_Rn (d + 1) 13 [.ref 18, vI a0, vI a1, vI a2, vI a3, vI a4] (toM A) (some (vI r)) (toM A') ∧ (r32 r) ∧ wf A' := by
  show rz_B (d + 1) 13 0 [some (.ref 18), some (vI a0), some (vI a1), some (vI a2), some (vI a3), some (vI a4), none] [] A (some (vI r)) A' (r32 r)
  unfold x13_come at h
  refine rz_B.go 5 (pc' := 9) (L' := [some (.ref 18), some (vI a0), some (vI a1), some (vI a2), some (vI a3), some (vI a4), none]) (S' := [vI a0, vI (A.1 18 0), .ref 19]) rfl ?_
  obtain ⟨hi1, hj2, h⟩ := rz_gx_inv h
  refine rz_B.iast rfl rfl hi1 hj2 (by decide) ?_
  have hw3 : wf (aI A 19 ((A.1 18 0)).toNat a0) := wf_aI hw ha0
  refine rz_B.go 5 (pc' := 19) (L' := [some (.ref 18), some (vI a0), some (vI a1), some (vI a2), some (vI a3), some (vI a4), none]) (S' := [vI a1, vI (A.1 18 0), .ref 20]) rfl ?_
  refine rz_B.iast rfl rfl hi1 hj2 (by decide) ?_
  have hw4 : wf (aI (aI A 19 ((A.1 18 0)).toNat a0) 20 ((A.1 18 0)).toNat a1) := wf_aI hw3 ha1
  refine rz_B.go 5 (pc' := 29) (L' := [some (.ref 18), some (vI a0), some (vI a1), some (vI a2), some (vI a3), some (vI a4), none]) (S' := [vI a2, vI (A.1 18 0), .ref 21]) rfl ?_
  refine rz_B.iast rfl rfl hi1 hj2 (by decide) ?_
  have hw5 : wf (aI (aI (aI A 19 ((A.1 18 0)).toNat a0) 20 ((A.1 18 0)).toNat a1) 21 ((A.1 18 0)).toNat a2) := wf_aI hw4 ha2
  refine rz_B.go 5 (pc' := 40) (L' := [some (.ref 18), some (vI a0), some (vI a1), some (vI a2), some (vI a3), some (vI a4), none]) (S' := [vI a3, vI (A.1 18 0), .ref 22]) rfl ?_
  refine rz_B.iast rfl rfl hi1 hj2 (by decide) ?_
  have hw6 : wf (aI (aI (aI (aI A 19 ((A.1 18 0)).toNat a0) 20 ((A.1 18 0)).toNat a1) 21 ((A.1 18 0)).toNat a2) 22 ((A.1 18 0)).toNat a3) := wf_aI hw5 ha3
  refine rz_B.go 5 (pc' := 51) (L' := [some (.ref 18), some (vI a0), some (vI a1), some (vI a2), some (vI a3), some (vI a4), none]) (S' := [vI a4, vI (A.1 18 0), .ref 23]) rfl ?_
  refine rz_B.iast rfl rfl hi1 hj2 (by decide) ?_
  have hw7 : wf (aI (aI (aI (aI (aI A 19 ((A.1 18 0)).toNat a0) 20 ((A.1 18 0)).toNat a1) 21 ((A.1 18 0)).toNat a2) 22 ((A.1 18 0)).toNat a3) 23 ((A.1 18 0)).toNat a4) := wf_aI hw6 ha4
  refine rz_B.go 5 (pc' := 62) (L' := [some (.ref 18), some (vI a0), some (vI a1), some (vI a2), some (vI a3), some (vI a4), none]) (S' := [vI 2147483647, vI (A.1 18 0), .ref 24]) rfl ?_
  refine rz_B.iast rfl rfl hi1 hj2 (by decide) ?_
  have hw8 : wf (aI (aI (aI (aI (aI (aI A 19 ((A.1 18 0)).toNat a0) 20 ((A.1 18 0)).toNat a1) 21 ((A.1 18 0)).toNat a2) 22 ((A.1 18 0)).toNat a3) 23 ((A.1 18 0)).toNat a4) 24 ((A.1 18 0)).toNat 2147483647) := wf_aI hw7 (by decide)
  refine rz_B.go 3 (pc' := 69) (L' := [some (.ref 18), some (vI a0), some (vI a1), some (vI a2), some (vI a3), some (vI a4), some (vI (A.1 18 0))]) (S' := []) rfl ?_
  refine rz_B.more (rg_le_ok (L := [some (.ref 18), some (vI a0), some (vI a1), none, none, none, some (vI (A.1 18 0))]) (by simp [rg_le])) ?_
  exact cx13_come_69 F F _ _ _ _ _ _ h ha0 ha1 (hw 18 0).1 hw8
/-- RiverGauge.height(IIII)I -/
def x12_height (F : Nat) (a0 : Int) (a1 : Int) (a2 : Int) (a3 : Int) (A : rz_A) : Option (Int × rz_A) :=
  rz_b (x5_has F a0 A) fun r1 A1 =>
  if r1 = 0 then
    rz_b (x1_refuse F (-1) A1) fun r3 A3 =>
    some (r3, A3)
  else
    if 0 ≤ a2 then
      if 1 < a2 then
        rz_b (x1_refuse F (-2) A1) fun r6 A6 =>
        some (r6, A6)
      else
        if 0 ≤ a1 then
          if a2 = 1 then
            if a3 < 0 then
              rz_b (x1_refuse F (-4) A1) fun r10 A10 =>
              some (r10, A10)
            else
              if a1 ≤ (A1.1 0 16) then
                if a3 ≤ 9999 then
                  if 300 ≤ (A1.1 18 0) then
                    rz_b (x1_refuse F (-6) A1) fun r14 A14 =>
                    some (r14, A14)
                  else
                    rz_b (x6_forget F A1) fun _ A15 =>
                    rz_b (x13_come F a0 a1 a2 a3 (A15.1 0 16) A15) fun r16 A16 =>
                    some (r16, A16)
                else
                  rz_b (x1_refuse F (-6) A1) fun r17 A17 =>
                  some (r17, A17)
              else
                rz_b (x1_refuse F (-6) A1) fun r18 A18 =>
                some (r18, A18)
          else
            if a3 < (-1) then
              rz_b (x1_refuse F (-4) A1) fun r20 A20 =>
              some (r20, A20)
            else
              if a1 ≤ (A1.1 0 16) then
                if a3 ≤ 9999 then
                  if 300 ≤ (A1.1 18 0) then
                    rz_b (x1_refuse F (-6) A1) fun r24 A24 =>
                    some (r24, A24)
                  else
                    rz_b (x6_forget F A1) fun _ A25 =>
                    rz_b (x13_come F a0 a1 a2 a3 (A25.1 0 16) A25) fun r26 A26 =>
                    some (r26, A26)
                else
                  rz_b (x1_refuse F (-6) A1) fun r27 A27 =>
                  some (r27, A27)
              else
                rz_b (x1_refuse F (-6) A1) fun r28 A28 =>
                some (r28, A28)
        else
          rz_b (x1_refuse F (-4) A1) fun r29 A29 =>
          some (r29, A29)
    else
      rz_b (x1_refuse F (-2) A1) fun r30 A30 =>
      some (r30, A30)
theorem cx12_height (F : Nat) {d : Nat} {a0 : Int} {a1 : Int} {a2 : Int} {a3 : Int} {A : rz_A} {r : Int} {A' : rz_A} (h : x12_height F a0 a1 a2 a3 A = some (r, A')) (ha0 : r32 a0) (ha1 : r32 a1) (ha2 : r32 a2) (ha3 : r32 a3) (hw : wf A) : rg_Rn (d + 2) 12 [.ref 0, vI a0, vI a1, vI a2, vI a3] (toM A) (some (vI r)) (toM A') ∧ (r32 r) ∧ wf A' := by
  show rz_B (d + 2) 12 0 [some (.ref 0), some (vI a0), some (vI a1), some (vI a2), some (vI a3)] [] A (some (vI r)) A' (r32 r)
  unfold x12_height at h
  refine rz_B.go 3 (pc' := 5) (L' := [some (.ref 0), some (vI a0), some (vI a1), some (vI a2), some (vI a3)]) (S' := [vI a0, .ref 2]) rfl ?_
  obtain ⟨r1, A1, hf1, h⟩ := rz_b_inv h
  obtain ⟨hg1, hr1, hw1⟩ := cx5_has F (d := d + 1) hf1 ha0 hw
  refine rz_B.call (d := d + 1) (as := [.ref 2, vI a0]) (rest := []) (w := some (vI r1)) rfl hg1 ?_
  refine rz_B.go 1 (pc' := if decide (¬ Int32.ofInt r1 = Int32.ofInt 0) = true then 17 else 11) (L' := [some (.ref 0), some (vI a0), some (vI a1), some (vI a2), some (vI a3)]) (S' := []) rfl ?_
  by_cases hc2 : r1 = 0
  · have h := if_T h hc2
    refine rz_B.ifF (fun hn => hn ((eq32 hr1 (by decide)).mpr hc2)) ?_
    refine rz_B.go 2 (pc' := 13) (L' := [some (.ref 0), some (vI a0), some (vI a1), some (vI a2), some (vI a3)]) (S' := [vI (-1), .ref 0]) rfl ?_
    obtain ⟨r3, A3, hf3, h⟩ := rz_b_inv h
    obtain ⟨hg3, hr3, hw3⟩ := cx1_refuse F (d := d + 1) hf3 (by decide) hw1
    refine rz_B.call (d := d + 1) (as := [.ref 0, vI (-1)]) (rest := []) (w := some (vI r3)) rfl hg3 ?_
    cases h
    exact rz_B.ret rfl hr3 hw3
  · have h := if_F h hc2
    refine rz_B.ifT (mt (eq32 hr1 (by decide)).mp hc2) ?_
    refine rz_B.go 2 (pc' := if decide (Int32.ofInt a2 < Int32.ofInt 0) = true then 26 else 21) (L' := [some (.ref 0), some (vI a0), some (vI a1), some (vI a2), some (vI a3)]) (S' := []) rfl ?_
    by_cases hc4 : 0 ≤ a2
    · have h := if_T h hc4
      refine rz_B.ifF (mt (lt32 ha2 (by decide)).mp (Int.not_lt.mpr hc4)) ?_
      refine rz_B.go 3 (pc' := if decide (Int32.ofInt a2 ≤ Int32.ofInt 1) = true then 33 else 26) (L' := [some (.ref 0), some (vI a0), some (vI a1), some (vI a2), some (vI a3)]) (S' := []) rfl ?_
      by_cases hc5 : 1 < a2
      · have h := if_T h hc5
        refine rz_B.ifF (mt (le32 ha2 (by decide)).mp (Int.not_le.mpr hc5)) ?_
        refine rz_B.go 2 (pc' := 29) (L' := [some (.ref 0), some (vI a0), some (vI a1), some (vI a2), some (vI a3)]) (S' := [vI (-2), .ref 0]) rfl ?_
        obtain ⟨r6, A6, hf6, h⟩ := rz_b_inv h
        obtain ⟨hg6, hr6, hw6⟩ := cx1_refuse F (d := d + 1) hf6 (by decide) hw1
        refine rz_B.call (d := d + 1) (as := [.ref 0, vI (-2)]) (rest := []) (w := some (vI r6)) rfl hg6 ?_
        cases h
        exact rz_B.ret rfl hr6 hw6
      · have h := if_F h hc5
        refine rz_B.ifT ((le32 ha2 (by decide)).mpr (Int.not_lt.mp hc5)) ?_
        refine rz_B.go 2 (pc' := if decide (Int32.ofInt a1 < Int32.ofInt 0) = true then 52 else 37) (L' := [some (.ref 0), some (vI a0), some (vI a1), some (vI a2), some (vI a3)]) (S' := []) rfl ?_
        by_cases hc7 : 0 ≤ a1
        · have h := if_T h hc7
          refine rz_B.ifF (mt (lt32 ha1 (by decide)).mp (Int.not_lt.mpr hc7)) ?_
          refine rz_B.go 4 (pc' := if decide (¬ Int32.ofInt a2 = Int32.ofInt 1) = true then 48 else 44) (L' := [some (.ref 0), some (vI a0), some (vI a1), some (vI a2), some (vI a3)]) (S' := [vI a3]) rfl ?_
          by_cases hc8 : a2 = 1
          · have h := if_T h hc8
            refine rz_B.ifF (fun hn => hn ((eq32 ha2 (by decide)).mpr hc8)) ?_
            refine rz_B.go 3 (pc' := if decide (Int32.ofInt 0 ≤ Int32.ofInt a3) = true then 59 else 52) (L' := [some (.ref 0), some (vI a0), some (vI a1), some (vI a2), some (vI a3)]) (S' := []) rfl ?_
            by_cases hc9 : a3 < 0
            · have h := if_T h hc9
              refine rz_B.ifF (mt (le32 (by decide) ha3).mp (Int.not_le.mpr hc9)) ?_
              refine rz_B.go 2 (pc' := 55) (L' := [some (.ref 0), some (vI a0), some (vI a1), some (vI a2), some (vI a3)]) (S' := [vI (-4), .ref 0]) rfl ?_
              obtain ⟨r10, A10, hf10, h⟩ := rz_b_inv h
              obtain ⟨hg10, hr10, hw10⟩ := cx1_refuse F (d := d + 1) hf10 (by decide) hw1
              refine rz_B.call (d := d + 1) (as := [.ref 0, vI (-4)]) (rest := []) (w := some (vI r10)) rfl hg10 ?_
              cases h
              exact rz_B.ret rfl hr10 hw10
            · have h := if_F h hc9
              refine rz_B.ifT ((le32 (by decide) ha3).mpr (Int.not_lt.mp hc9)) ?_
              refine rz_B.go 4 (pc' := if decide (Int32.ofInt (A1.1 0 16) < Int32.ofInt a1) = true then 88 else 67) (L' := [some (.ref 0), some (vI a0), some (vI a1), some (vI a2), some (vI a3)]) (S' := []) rfl ?_
              by_cases hc11 : a1 ≤ (A1.1 0 16)
              · have h := if_T h hc11
                refine rz_B.ifF (mt (lt32 (hw1 0 16).1 ha1).mp (Int.not_lt.mpr hc11)) ?_
                refine rz_B.go 3 (pc' := if decide (Int32.ofInt 9999 < Int32.ofInt a3) = true then 88 else 75) (L' := [some (.ref 0), some (vI a0), some (vI a1), some (vI a2), some (vI a3)]) (S' := []) rfl ?_
                by_cases hc12 : a3 ≤ 9999
                · have h := if_T h hc12
                  refine rz_B.ifF (mt (lt32 (by decide) ha3).mp (Int.not_lt.mpr hc12)) ?_
                  refine rz_B.go 5 (pc' := if decide (Int32.ofInt (A1.1 18 0) < Int32.ofInt 300) = true then 95 else 88) (L' := [some (.ref 0), some (vI a0), some (vI a1), some (vI a2), some (vI a3)]) (S' := []) rfl ?_
                  by_cases hc13 : 300 ≤ (A1.1 18 0)
                  · have h := if_T h hc13
                    refine rz_B.ifF (mt (lt32 (hw1 18 0).1 (by decide)).mp (Int.not_lt.mpr hc13)) ?_
                    refine rz_B.go 2 (pc' := 91) (L' := [some (.ref 0), some (vI a0), some (vI a1), some (vI a2), some (vI a3)]) (S' := [vI (-6), .ref 0]) rfl ?_
                    obtain ⟨r14, A14, hf14, h⟩ := rz_b_inv h
                    obtain ⟨hg14, hr14, hw14⟩ := cx1_refuse F (d := d + 1) hf14 (by decide) hw1
                    refine rz_B.call (d := d + 1) (as := [.ref 0, vI (-6)]) (rest := []) (w := some (vI r14)) rfl hg14 ?_
                    cases h
                    exact rz_B.ret rfl hr14 hw14
                  · have h := if_F h hc13
                    refine rz_B.ifT ((lt32 (hw1 18 0).1 (by decide)).mpr (Int.not_le.mp hc13)) ?_
                    refine rz_B.go 2 (pc' := 99) (L' := [some (.ref 0), some (vI a0), some (vI a1), some (vI a2), some (vI a3)]) (S' := [.ref 51]) rfl ?_
                    obtain ⟨_, A15, hf15, h⟩ := rz_b_inv h
                    obtain ⟨hg15, hr15, hw15⟩ := cx6_forget F (d := d + 1) hf15 hw1
                    refine rz_B.call (d := d + 1) (as := [.ref 51]) (rest := []) (w := none) rfl hg15 ?_
                    refine rz_B.go 8 (pc' := 115) (L' := [some (.ref 0), some (vI a0), some (vI a1), some (vI a2), some (vI a3)]) (S' := [vI (A15.1 0 16), vI a3, vI a2, vI a1, vI a0, .ref 18]) rfl ?_
                    obtain ⟨r16, A16, hf16, h⟩ := rz_b_inv h
                    obtain ⟨hg16, hr16, hw16⟩ := cx13_come F (d := d + 0) hf16 ha0 ha1 ha2 ha3 (hw15 0 16).1 hw15
                    refine rz_B.call (d := d + 1) (as := [.ref 18, vI a0, vI a1, vI a2, vI a3, vI (A15.1 0 16)]) (rest := []) (w := some (vI r16)) rfl hg16 ?_
                    cases h
                    exact rz_B.ret rfl hr16 hw16
                · have h := if_F h hc12
                  refine rz_B.ifT ((lt32 (by decide) ha3).mpr (Int.not_le.mp hc12)) ?_
                  refine rz_B.go 2 (pc' := 91) (L' := [some (.ref 0), some (vI a0), some (vI a1), some (vI a2), some (vI a3)]) (S' := [vI (-6), .ref 0]) rfl ?_
                  obtain ⟨r17, A17, hf17, h⟩ := rz_b_inv h
                  obtain ⟨hg17, hr17, hw17⟩ := cx1_refuse F (d := d + 1) hf17 (by decide) hw1
                  refine rz_B.call (d := d + 1) (as := [.ref 0, vI (-6)]) (rest := []) (w := some (vI r17)) rfl hg17 ?_
                  cases h
                  exact rz_B.ret rfl hr17 hw17
              · have h := if_F h hc11
                refine rz_B.ifT ((lt32 (hw1 0 16).1 ha1).mpr (Int.not_le.mp hc11)) ?_
                refine rz_B.go 2 (pc' := 91) (L' := [some (.ref 0), some (vI a0), some (vI a1), some (vI a2), some (vI a3)]) (S' := [vI (-6), .ref 0]) rfl ?_
                obtain ⟨r18, A18, hf18, h⟩ := rz_b_inv h
                obtain ⟨hg18, hr18, hw18⟩ := cx1_refuse F (d := d + 1) hf18 (by decide) hw1
                refine rz_B.call (d := d + 1) (as := [.ref 0, vI (-6)]) (rest := []) (w := some (vI r18)) rfl hg18 ?_
                cases h
                exact rz_B.ret rfl hr18 hw18
          · have h := if_F h hc8
            refine rz_B.ifT (mt (eq32 ha2 (by decide)).mp hc8) ?_
            refine rz_B.go 2 (pc' := if decide (Int32.ofInt (-1) ≤ Int32.ofInt a3) = true then 59 else 52) (L' := [some (.ref 0), some (vI a0), some (vI a1), some (vI a2), some (vI a3)]) (S' := []) rfl ?_
            by_cases hc19 : a3 < (-1)
            · have h := if_T h hc19
              refine rz_B.ifF (mt (le32 (by decide) ha3).mp (Int.not_le.mpr hc19)) ?_
              refine rz_B.go 2 (pc' := 55) (L' := [some (.ref 0), some (vI a0), some (vI a1), some (vI a2), some (vI a3)]) (S' := [vI (-4), .ref 0]) rfl ?_
              obtain ⟨r20, A20, hf20, h⟩ := rz_b_inv h
              obtain ⟨hg20, hr20, hw20⟩ := cx1_refuse F (d := d + 1) hf20 (by decide) hw1
              refine rz_B.call (d := d + 1) (as := [.ref 0, vI (-4)]) (rest := []) (w := some (vI r20)) rfl hg20 ?_
              cases h
              exact rz_B.ret rfl hr20 hw20
            · have h := if_F h hc19
              refine rz_B.ifT ((le32 (by decide) ha3).mpr (Int.not_lt.mp hc19)) ?_
              refine rz_B.go 4 (pc' := if decide (Int32.ofInt (A1.1 0 16) < Int32.ofInt a1) = true then 88 else 67) (L' := [some (.ref 0), some (vI a0), some (vI a1), some (vI a2), some (vI a3)]) (S' := []) rfl ?_
              by_cases hc21 : a1 ≤ (A1.1 0 16)
              · have h := if_T h hc21
                refine rz_B.ifF (mt (lt32 (hw1 0 16).1 ha1).mp (Int.not_lt.mpr hc21)) ?_
                refine rz_B.go 3 (pc' := if decide (Int32.ofInt 9999 < Int32.ofInt a3) = true then 88 else 75) (L' := [some (.ref 0), some (vI a0), some (vI a1), some (vI a2), some (vI a3)]) (S' := []) rfl ?_
                by_cases hc22 : a3 ≤ 9999
                · have h := if_T h hc22
                  refine rz_B.ifF (mt (lt32 (by decide) ha3).mp (Int.not_lt.mpr hc22)) ?_
                  refine rz_B.go 5 (pc' := if decide (Int32.ofInt (A1.1 18 0) < Int32.ofInt 300) = true then 95 else 88) (L' := [some (.ref 0), some (vI a0), some (vI a1), some (vI a2), some (vI a3)]) (S' := []) rfl ?_
                  by_cases hc23 : 300 ≤ (A1.1 18 0)
                  · have h := if_T h hc23
                    refine rz_B.ifF (mt (lt32 (hw1 18 0).1 (by decide)).mp (Int.not_lt.mpr hc23)) ?_
                    refine rz_B.go 2 (pc' := 91) (L' := [some (.ref 0), some (vI a0), some (vI a1), some (vI a2), some (vI a3)]) (S' := [vI (-6), .ref 0]) rfl ?_
                    obtain ⟨r24, A24, hf24, h⟩ := rz_b_inv h
                    obtain ⟨hg24, hr24, hw24⟩ := cx1_refuse F (d := d + 1) hf24 (by decide) hw1
                    refine rz_B.call (d := d + 1) (as := [.ref 0, vI (-6)]) (rest := []) (w := some (vI r24)) rfl hg24 ?_
                    cases h
                    exact rz_B.ret rfl hr24 hw24
                  · have h := if_F h hc23
                    refine rz_B.ifT ((lt32 (hw1 18 0).1 (by decide)).mpr (Int.not_le.mp hc23)) ?_
                    refine rz_B.go 2 (pc' := 99) (L' := [some (.ref 0), some (vI a0), some (vI a1), some (vI a2), some (vI a3)]) (S' := [.ref 51]) rfl ?_
                    obtain ⟨_, A25, hf25, h⟩ := rz_b_inv h
                    obtain ⟨hg25, hr25, hw25⟩ := cx6_forget F (d := d + 1) hf25 hw1
                    refine rz_B.call (d := d + 1) (as := [.ref 51]) (rest := []) (w := none) rfl hg25 ?_
                    refine rz_B.go 8 (pc' := 115) (L' := [some (.ref 0), some (vI a0), some (vI a1), some (vI a2), some (vI a3)]) (S' := [vI (A25.1 0 16), vI a3, vI a2, vI a1, vI a0, .ref 18]) rfl ?_
                    obtain ⟨r26, A26, hf26, h⟩ := rz_b_inv h
                    obtain ⟨hg26, hr26, hw26⟩ := cx13_come F (d := d + 0) hf26 ha0 ha1 ha2 ha3 (hw25 0 16).1 hw25
                    refine rz_B.call (d := d + 1) (as := [.ref 18, vI a0, vI a1, vI a2, vI a3, vI (A25.1 0 16)]) (rest := []) (w := some (vI r26)) rfl hg26 ?_
                    cases h
                    exact rz_B.ret rfl hr26 hw26
                · have h := if_F h hc22
                  refine rz_B.ifT ((lt32 (by decide) ha3).mpr (Int.not_le.mp hc22)) ?_
                  refine rz_B.go 2 (pc' := 91) (L' := [some (.ref 0), some (vI a0), some (vI a1), some (vI a2), some (vI a3)]) (S' := [vI (-6), .ref 0]) rfl ?_
                  obtain ⟨r27, A27, hf27, h⟩ := rz_b_inv h
                  obtain ⟨hg27, hr27, hw27⟩ := cx1_refuse F (d := d + 1) hf27 (by decide) hw1
                  refine rz_B.call (d := d + 1) (as := [.ref 0, vI (-6)]) (rest := []) (w := some (vI r27)) rfl hg27 ?_
                  cases h
                  exact rz_B.ret rfl hr27 hw27
              · have h := if_F h hc21
                refine rz_B.ifT ((lt32 (hw1 0 16).1 ha1).mpr (Int.not_le.mp hc21)) ?_
                refine rz_B.go 2 (pc' := 91) (L' := [some (.ref 0), some (vI a0), some (vI a1), some (vI a2), some (vI a3)]) (S' := [vI (-6), .ref 0]) rfl ?_
                obtain ⟨r28, A28, hf28, h⟩ := rz_b_inv h
                obtain ⟨hg28, hr28, hw28⟩ := cx1_refuse F (d := d + 1) hf28 (by decide) hw1
                refine rz_B.call (d := d + 1) (as := [.ref 0, vI (-6)]) (rest := []) (w := some (vI r28)) rfl hg28 ?_
                cases h
                exact rz_B.ret rfl hr28 hw28
        · have h := if_F h hc7
          refine rz_B.ifT ((lt32 ha1 (by decide)).mpr (Int.not_le.mp hc7)) ?_
          refine rz_B.go 2 (pc' := 55) (L' := [some (.ref 0), some (vI a0), some (vI a1), some (vI a2), some (vI a3)]) (S' := [vI (-4), .ref 0]) rfl ?_
          obtain ⟨r29, A29, hf29, h⟩ := rz_b_inv h
          obtain ⟨hg29, hr29, hw29⟩ := cx1_refuse F (d := d + 1) hf29 (by decide) hw1
          refine rz_B.call (d := d + 1) (as := [.ref 0, vI (-4)]) (rest := []) (w := some (vI r29)) rfl hg29 ?_
          cases h
          exact rz_B.ret rfl hr29 hw29
    · have h := if_F h hc4
      refine rz_B.ifT ((lt32 ha2 (by decide)).mpr (Int.not_le.mp hc4)) ?_
      refine rz_B.go 2 (pc' := 29) (L' := [some (.ref 0), some (vI a0), some (vI a1), some (vI a2), some (vI a3)]) (S' := [vI (-2), .ref 0]) rfl ?_
      obtain ⟨r30, A30, hf30, h⟩ := rz_b_inv h
      obtain ⟨hg30, hr30, hw30⟩ := cx1_refuse F (d := d + 1) hf30 (by decide) hw1
      refine rz_B.call (d := d + 1) (as := [.ref 0, vI (-2)]) (rest := []) (w := some (vI r30)) rfl hg30 ?_
      cases h
      exact rz_B.ret rfl hr30 hw30
/-- RiverGauge$Heights.has(I)Z -/
def x16_has (F : Nat) (a0 : Int) (A : rz_A) : Option (Int × rz_A) :=
  if 0 ≤ a0 then
    if a0 < (A.1 18 0) then
      some (1, A)
    else
      some (0, A)
  else
    some (0, A)
theorem cx16_has (F : Nat) {d : Nat} {a0 : Int} {A : rz_A} {r : Int} {A' : rz_A} (h : x16_has F a0 A = some (r, A')) (ha0 : r32 a0) (hw : wf A) : rg_Rn (d + 0) 16 [.ref 18, vI a0] (toM A) (some (vI r)) (toM A') ∧ (r32 r) ∧ wf A' := by
  show rz_B (d + 0) 16 0 [some (.ref 18), some (vI a0)] [] A (some (vI r)) A' (r32 r)
  unfold x16_has at h
  refine rz_B.go 2 (pc' := if decide (Int32.ofInt a0 < Int32.ofInt 0) = true then 16 else 4) (L' := [some (.ref 18), some (vI a0)]) (S' := []) rfl ?_
  by_cases hc1 : 0 ≤ a0
  · have h := if_T h hc1
    refine rz_B.ifF (mt (lt32 ha0 (by decide)).mp (Int.not_lt.mpr hc1)) ?_
    refine rz_B.go 4 (pc' := if decide (Int32.ofInt (A.1 18 0) ≤ Int32.ofInt a0) = true then 16 else 12) (L' := [some (.ref 18), some (vI a0)]) (S' := []) rfl ?_
    by_cases hc2 : a0 < (A.1 18 0)
    · have h := if_T h hc2
      refine rz_B.ifF (mt (le32 (hw 18 0).1 ha0).mp (Int.not_le.mpr hc2)) ?_
      refine rz_B.go 2 (pc' := 17) (L' := [some (.ref 18), some (vI a0)]) (S' := [vI 1]) rfl ?_
      cases h
      exact rz_B.ret rfl (by decide) hw
    · have h := if_F h hc2
      refine rz_B.ifT ((le32 (hw 18 0).1 ha0).mpr (Int.not_lt.mp hc2)) ?_
      refine rz_B.go 1 (pc' := 17) (L' := [some (.ref 18), some (vI a0)]) (S' := [vI 0]) rfl ?_
      cases h
      exact rz_B.ret rfl (by decide) hw
  · have h := if_F h hc1
    refine rz_B.ifT ((lt32 ha0 (by decide)).mpr (Int.not_le.mp hc1)) ?_
    refine rz_B.go 1 (pc' := 17) (L' := [some (.ref 18), some (vI a0)]) (S' := [vI 0]) rfl ?_
    cases h
    exact rz_B.ret rfl (by decide) hw
/-- RiverGauge$Heights.isStuck(I)Z -/
def x17_isStuck (F : Nat) (a0 : Int) (A : rz_A) : Option (Int × rz_A) :=
  rz_gx a0 300 <|
  if (A.1 22 (a0).toNat) < 0 then
    some (1, A)
  else
    some (0, A)
theorem cx17_isStuck (F : Nat) {d : Nat} {a0 : Int} {A : rz_A} {r : Int} {A' : rz_A} (h : x17_isStuck F a0 A = some (r, A')) (ha0 : r32 a0) (hw : wf A) : rg_Rn (d + 0) 17 [.ref 18, vI a0] (toM A) (some (vI r)) (toM A') ∧ (r32 r) ∧ wf A' := by
  show rz_B (d + 0) 17 0 [some (.ref 18), some (vI a0)] [] A (some (vI r)) A' (r32 r)
  unfold x17_isStuck at h
  refine rz_B.go 3 (pc' := 5) (L' := [some (.ref 18), some (vI a0)]) (S' := [vI a0, .ref 22]) rfl ?_
  obtain ⟨hi1, hj2, h⟩ := rz_gx_inv h
  refine rz_B.iald rfl rfl hi1 hj2 (by decide) ?_
  refine rz_B.go 1 (pc' := if decide (Int32.ofInt 0 ≤ Int32.ofInt (A.1 22 (a0).toNat)) = true then 13 else 9) (L' := [some (.ref 18), some (vI a0)]) (S' := []) rfl ?_
  by_cases hc3 : (A.1 22 (a0).toNat) < 0
  · have h := if_T h hc3
    refine rz_B.ifF (mt (le32 (by decide) (hw 22 (a0).toNat).1).mp (Int.not_le.mpr hc3)) ?_
    refine rz_B.go 2 (pc' := 14) (L' := [some (.ref 18), some (vI a0)]) (S' := [vI 1]) rfl ?_
    cases h
    exact rz_B.ret rfl (by decide) hw
  · have h := if_F h hc3
    refine rz_B.ifT ((le32 (by decide) (hw 22 (a0).toNat).1).mpr (Int.not_lt.mp hc3)) ?_
    refine rz_B.go 1 (pc' := 14) (L' := [some (.ref 18), some (vI a0)]) (S' := [vI 0]) rfl ?_
    cases h
    exact rz_B.ret rfl (by decide) hw
/-- RiverGauge.strike(I)I -/
def x15_strike (F : Nat) (a0 : Int) (A : rz_A) : Option (Int × rz_A) :=
  rz_b (x16_has F a0 A) fun r1 A1 =>
  if r1 = 0 then
    rz_b (x1_refuse F (-1) A1) fun r3 A3 =>
    some (r3, A3)
  else
    rz_gx a0 300 <|
    if (A1.1 24 (a0).toNat) = 2147483647 then
      rz_b (x17_isStuck F a0 A1) fun r7 A7 =>
      if r7 = 0 then
        rz_b (x6_forget F A7) fun _ A9 =>
        rz_g32 ((A9.1 18 1) + 1) <|
        some (1, (aI (aI A9 24 (a0).toNat (A9.1 0 16)) 18 1 ((A9.1 18 1) + 1)))
      else
        rz_b (x1_refuse F (-3) A7) fun r13 A13 =>
        some (r13, A13)
    else
      rz_b (x1_refuse F (-3) A1) fun r14 A14 =>
      some (r14, A14)
theorem cx15_strike (F : Nat) {d : Nat} {a0 : Int} {A : rz_A} {r : Int} {A' : rz_A} (h : x15_strike F a0 A = some (r, A')) (ha0 : r32 a0) (hw : wf A) : rg_Rn (d + 1) 15 [.ref 0, vI a0] (toM A) (some (vI r)) (toM A') ∧ (r32 r) ∧ wf A' := by
  show rz_B (d + 1) 15 0 [some (.ref 0), some (vI a0)] [] A (some (vI r)) A' (r32 r)
  unfold x15_strike at h
  refine rz_B.go 3 (pc' := 5) (L' := [some (.ref 0), some (vI a0)]) (S' := [vI a0, .ref 18]) rfl ?_
  obtain ⟨r1, A1, hf1, h⟩ := rz_b_inv h
  obtain ⟨hg1, hr1, hw1⟩ := cx16_has F (d := d + 0) hf1 ha0 hw
  refine rz_B.call (d := d + 0) (as := [.ref 18, vI a0]) (rest := []) (w := some (vI r1)) rfl hg1 ?_
  refine rz_B.go 1 (pc' := if decide (¬ Int32.ofInt r1 = Int32.ofInt 0) = true then 17 else 11) (L' := [some (.ref 0), some (vI a0)]) (S' := []) rfl ?_
  by_cases hc2 : r1 = 0
  · have h := if_T h hc2
    refine rz_B.ifF (fun hn => hn ((eq32 hr1 (by decide)).mpr hc2)) ?_
    refine rz_B.go 2 (pc' := 13) (L' := [some (.ref 0), some (vI a0)]) (S' := [vI (-1), .ref 0]) rfl ?_
    obtain ⟨r3, A3, hf3, h⟩ := rz_b_inv h
    obtain ⟨hg3, hr3, hw3⟩ := cx1_refuse F (d := d + 0) hf3 (by decide) hw1
    refine rz_B.call (d := d + 0) (as := [.ref 0, vI (-1)]) (rest := []) (w := some (vI r3)) rfl hg3 ?_
    cases h
    exact rz_B.ret rfl hr3 hw3
  · have h := if_F h hc2
    refine rz_B.ifT (mt (eq32 hr1 (by decide)).mp hc2) ?_
    refine rz_B.go 4 (pc' := 25) (L' := [some (.ref 0), some (vI a0)]) (S' := [vI a0, .ref 24]) rfl ?_
    obtain ⟨hi4, hj5, h⟩ := rz_gx_inv h
    refine rz_B.iald rfl rfl hi4 hj5 (by decide) ?_
    refine rz_B.go 2 (pc' := if decide (¬ Int32.ofInt (A1.1 24 (a0).toNat) = Int32.ofInt 2147483647) = true then 42 else 31) (L' := [some (.ref 0), some (vI a0)]) (S' := []) rfl ?_
    by_cases hc6 : (A1.1 24 (a0).toNat) = 2147483647
    · have h := if_T h hc6
      refine rz_B.ifF (fun hn => hn ((eq32 (hw1 24 (a0).toNat).1 (by decide)).mpr hc6)) ?_
      refine rz_B.go 3 (pc' := 36) (L' := [some (.ref 0), some (vI a0)]) (S' := [vI a0, .ref 18]) rfl ?_
      obtain ⟨r7, A7, hf7, h⟩ := rz_b_inv h
      obtain ⟨hg7, hr7, hw7⟩ := cx17_isStuck F (d := d + 0) hf7 ha0 hw1
      refine rz_B.call (d := d + 0) (as := [.ref 18, vI a0]) (rest := []) (w := some (vI r7)) rfl hg7 ?_
      refine rz_B.go 1 (pc' := if decide (Int32.ofInt r7 = Int32.ofInt 0) = true then 49 else 42) (L' := [some (.ref 0), some (vI a0)]) (S' := []) rfl ?_
      by_cases hc8 : r7 = 0
      · have h := if_T h hc8
        refine rz_B.ifT ((eq32 hr7 (by decide)).mpr hc8) ?_
        refine rz_B.go 2 (pc' := 53) (L' := [some (.ref 0), some (vI a0)]) (S' := [.ref 51]) rfl ?_
        obtain ⟨_, A9, hf9, h⟩ := rz_b_inv h
        obtain ⟨hg9, hr9, hw9⟩ := cx6_forget F (d := d + 0) hf9 hw7
        refine rz_B.call (d := d + 0) (as := [.ref 51]) (rest := []) (w := none) rfl hg9 ?_
        refine rz_B.go 6 (pc' := 68) (L' := [some (.ref 0), some (vI a0)]) (S' := [vI (A9.1 0 16), vI a0, .ref 24]) rfl ?_
        refine rz_B.iast rfl rfl hi4 hj5 (by decide) ?_
        have hw10 : wf (aI A9 24 (a0).toNat (A9.1 0 16)) := wf_aI hw9 (hw9 0 16).1
        refine rz_B.go 5 (pc' := 78) (L' := [some (.ref 0), some (vI a0)]) (S' := [vI 1, vI (A9.1 18 1), .ref 18]) rfl ?_
        obtain ⟨hk11, h⟩ := rz_g32_inv h
        refine rz_B.iadd rfl ?_
        refine rz_B.put 1 (pc' := 82) (L' := [some (.ref 0), some (vI a0)]) (S' := []) (c := 18) (k := 1) (x := ((A9.1 18 1) + 1)) rfl ?_
        have hw12 : wf (aI (aI A9 24 (a0).toNat (A9.1 0 16)) 18 1 ((A9.1 18 1) + 1)) := wf_aI hw10 hk11
        refine rz_B.go 1 (pc' := 83) (L' := [some (.ref 0), some (vI a0)]) (S' := [vI 1]) rfl ?_
        cases h
        exact rz_B.ret rfl (by decide) hw12
      · have h := if_F h hc8
        refine rz_B.ifF (mt (eq32 hr7 (by decide)).mp hc8) ?_
        refine rz_B.go 2 (pc' := 45) (L' := [some (.ref 0), some (vI a0)]) (S' := [vI (-3), .ref 0]) rfl ?_
        obtain ⟨r13, A13, hf13, h⟩ := rz_b_inv h
        obtain ⟨hg13, hr13, hw13⟩ := cx1_refuse F (d := d + 0) hf13 (by decide) hw7
        refine rz_B.call (d := d + 0) (as := [.ref 0, vI (-3)]) (rest := []) (w := some (vI r13)) rfl hg13 ?_
        cases h
        exact rz_B.ret rfl hr13 hw13
    · have h := if_F h hc6
      refine rz_B.ifT (mt (eq32 (hw1 24 (a0).toNat).1 (by decide)).mp hc6) ?_
      refine rz_B.go 2 (pc' := 45) (L' := [some (.ref 0), some (vI a0)]) (S' := [vI (-3), .ref 0]) rfl ?_
      obtain ⟨r14, A14, hf14, h⟩ := rz_b_inv h
      obtain ⟨hg14, hr14, hw14⟩ := cx1_refuse F (d := d + 0) hf14 (by decide) hw1
      refine rz_B.call (d := d + 0) (as := [.ref 0, vI (-3)]) (rest := []) (w := some (vI r14)) rfl hg14 ?_
      cases h
      exact rz_B.ret rfl hr14 hw14
/-- RiverGauge.whyNotTime(I)I -/
def x19_whyNotTime (F : Nat) (a0 : Int) (A : rz_A) : Option (Int × rz_A) :=
  if a0 < 0 then
    some ((-4), A)
  else
    if 9999 < a0 then
      some ((-6), A)
    else
      some (0, A)
theorem cx19_whyNotTime (F : Nat) {d : Nat} {a0 : Int} {A : rz_A} {r : Int} {A' : rz_A} (h : x19_whyNotTime F a0 A = some (r, A')) (ha0 : r32 a0) (hw : wf A) : rg_Rn (d + 0) 19 [vI a0] (toM A) (some (vI r)) (toM A') ∧ (r32 r) ∧ wf A' := by
  show rz_B (d + 0) 19 0 [some (vI a0)] [] A (some (vI r)) A' (r32 r)
  unfold x19_whyNotTime at h
  refine rz_B.go 2 (pc' := if decide (Int32.ofInt 0 ≤ Int32.ofInt a0) = true then 7 else 4) (L' := [some (vI a0)]) (S' := []) rfl ?_
  by_cases hc1 : a0 < 0
  · have h := if_T h hc1
    refine rz_B.ifF (mt (le32 (by decide) ha0).mp (Int.not_le.mpr hc1)) ?_
    refine rz_B.go 1 (pc' := 6) (L' := [some (vI a0)]) (S' := [vI (-4)]) rfl ?_
    cases h
    exact rz_B.ret rfl (by decide) hw
  · have h := if_F h hc1
    refine rz_B.ifT ((le32 (by decide) ha0).mpr (Int.not_lt.mp hc1)) ?_
    refine rz_B.go 3 (pc' := if decide (Int32.ofInt a0 ≤ Int32.ofInt 9999) = true then 19 else 14) (L' := [some (vI a0)]) (S' := []) rfl ?_
    by_cases hc2 : 9999 < a0
    · have h := if_T h hc2
      refine rz_B.ifF (mt (le32 ha0 (by decide)).mp (Int.not_le.mpr hc2)) ?_
      refine rz_B.go 2 (pc' := 20) (L' := [some (vI a0)]) (S' := [vI (-6)]) rfl ?_
      cases h
      exact rz_B.ret rfl (by decide) hw
    · have h := if_F h hc2
      refine rz_B.ifT ((le32 ha0 (by decide)).mpr (Int.not_lt.mp hc2)) ?_
      refine rz_B.go 1 (pc' := 20) (L' := [some (vI a0)]) (S' := [vI 0]) rfl ?_
      cases h
      exact rz_B.ret rfl (by decide) hw
def x22_inForce_6 (F : Nat) : Nat → Int → Int → Int → Int → Int → rz_A → Option (Int × rz_A)
  | 0, _, _, _, _, _, _ => none
  | n + 1, v1, v2, v3, v4, v5, A =>
    if v5 < (A.1 43 0) then
      rz_gx v5 20 <|
      if (A.1 44 (v5).toNat) = v1 then
        if (A.1 45 (v5).toNat) ≤ v2 then
          if (A.1 46 (v5).toNat) ≤ v3 then
            if 0 ≤ v4 then
              rz_gx v4 20 <|
              if (A.1 45 (v4).toNat) ≤ (A.1 45 (v5).toNat) then
                rz_g32 (v5 + 1) <|
                x22_inForce_6 F n v1 v2 v3 v5 (v5 + 1) A
              else
                rz_g32 (v5 + 1) <|
                x22_inForce_6 F n v1 v2 v3 v4 (v5 + 1) A
            else
              rz_g32 (v5 + 1) <|
              x22_inForce_6 F n v1 v2 v3 v5 (v5 + 1) A
          else
            rz_g32 (v5 + 1) <|
            x22_inForce_6 F n v1 v2 v3 v4 (v5 + 1) A
        else
          rz_g32 (v5 + 1) <|
          x22_inForce_6 F n v1 v2 v3 v4 (v5 + 1) A
      else
        rz_g32 (v5 + 1) <|
        x22_inForce_6 F n v1 v2 v3 v4 (v5 + 1) A
    else
      some (v4, A)
theorem cx22_inForce_6 {d : Nat} (F : Nat) : ∀ (n : Nat) (v1 : Int) (v2 : Int) (v3 : Int) (v4 : Int) (v5 : Int) (A : rz_A) (r : Int) (A' : rz_A), x22_inForce_6 F n v1 v2 v3 v4 v5 A = some (r, A') → r32 v1 → r32 v2 → r32 v3 → r32 v4 → r32 v5 → wf A → rz_B (d + 0) 22 6 [some (.ref 43), some (vI v1), some (vI v2), some (vI v3), some (vI v4), some (vI v5), none] [] A (some (vI r)) A' (r32 r) := by
  intro n
  induction n with
  | zero => intro v1 v2 v3 v4 v5 A r A' h; cases h
  | succ n ih =>
    intro v1 v2 v3 v4 v5 A r A' h hv1 hv2 hv3 hv4 hv5 hw
    rw [x22_inForce_6] at h
    refine rz_B.go 4 (pc' := if decide (Int32.ofInt (A.1 43 0) ≤ Int32.ofInt v5) = true then 92 else 15) (L' := [some (.ref 43), some (vI v1), some (vI v2), some (vI v3), some (vI v4), some (vI v5), none]) (S' := []) rfl ?_
    by_cases hc1 : v5 < (A.1 43 0)
    · have h := if_T h hc1
      refine rz_B.ifF (mt (le32 (hw 43 0).1 hv5).mp (Int.not_le.mpr hc1)) ?_
      refine rz_B.go 3 (pc' := 21) (L' := [some (.ref 43), some (vI v1), some (vI v2), some (vI v3), some (vI v4), some (vI v5), none]) (S' := [vI v5, .ref 44]) rfl ?_
      obtain ⟨hi2, hj3, h⟩ := rz_gx_inv h
      refine rz_B.iald rfl rfl hi2 hj3 (by decide) ?_
      refine rz_B.go 2 (pc' := if decide (¬ Int32.ofInt (A.1 44 (v5).toNat) = Int32.ofInt v1) = true then 52 else 26) (L' := [some (.ref 43), some (vI v1), some (vI v2), some (vI v3), some (vI v4), some (vI v5), none]) (S' := []) rfl ?_
      by_cases hc4 : (A.1 44 (v5).toNat) = v1
      · have h := if_T h hc4
        refine rz_B.ifF (fun hn => hn ((eq32 (hw 44 (v5).toNat).1 hv1).mpr hc4)) ?_
        refine rz_B.go 3 (pc' := 32) (L' := [some (.ref 43), some (vI v1), some (vI v2), some (vI v3), some (vI v4), some (vI v5), none]) (S' := [vI v5, .ref 45]) rfl ?_
        refine rz_B.iald rfl rfl hi2 hj3 (by decide) ?_
        refine rz_B.go 2 (pc' := if decide (Int32.ofInt v2 < Int32.ofInt (A.1 45 (v5).toNat)) = true then 52 else 37) (L' := [some (.ref 43), some (vI v1), some (vI v2), some (vI v3), some (vI v4), some (vI v5), none]) (S' := []) rfl ?_
        by_cases hc5 : (A.1 45 (v5).toNat) ≤ v2
        · have h := if_T h hc5
          refine rz_B.ifF (mt (lt32 hv2 (hw 45 (v5).toNat).1).mp (Int.not_lt.mpr hc5)) ?_
          refine rz_B.go 3 (pc' := 43) (L' := [some (.ref 43), some (vI v1), some (vI v2), some (vI v3), some (vI v4), some (vI v5), none]) (S' := [vI v5, .ref 46]) rfl ?_
          refine rz_B.iald rfl rfl hi2 hj3 (by decide) ?_
          refine rz_B.go 2 (pc' := if decide (Int32.ofInt v3 < Int32.ofInt (A.1 46 (v5).toNat)) = true then 52 else 48) (L' := [some (.ref 43), some (vI v1), some (vI v2), some (vI v3), some (vI v4), some (vI v5), none]) (S' := []) rfl ?_
          by_cases hc6 : (A.1 46 (v5).toNat) ≤ v3
          · have h := if_T h hc6
            refine rz_B.ifF (mt (lt32 hv3 (hw 46 (v5).toNat).1).mp (Int.not_lt.mpr hc6)) ?_
            refine rz_B.go 7 (pc' := if decide (Int32.ofInt v4 < Int32.ofInt 0) = true then 82 else 65) (L' := [some (.ref 43), some (vI v1), some (vI v2), some (vI v3), some (vI v4), some (vI v5), some (vI 1)]) (S' := []) rfl ?_
            by_cases hc7 : 0 ≤ v4
            · have h := if_T h hc7
              refine rz_B.ifF (mt (lt32 hv4 (by decide)).mp (Int.not_lt.mpr hc7)) ?_
              refine rz_B.go 3 (pc' := 71) (L' := [some (.ref 43), some (vI v1), some (vI v2), some (vI v3), some (vI v4), some (vI v5), some (vI 1)]) (S' := [vI v5, .ref 45]) rfl ?_
              refine rz_B.iald rfl rfl hi2 hj3 (by decide) ?_
              refine rz_B.go 3 (pc' := 78) (L' := [some (.ref 43), some (vI v1), some (vI v2), some (vI v3), some (vI v4), some (vI v5), some (vI 1)]) (S' := [vI v4, .ref 45, vI (A.1 45 (v5).toNat)]) rfl ?_
              obtain ⟨hi8, hj9, h⟩ := rz_gx_inv h
              refine rz_B.iald rfl rfl hi8 hj9 (by decide) ?_
              refine rz_B.go 1 (pc' := if decide (Int32.ofInt (A.1 45 (v5).toNat) < Int32.ofInt (A.1 45 (v4).toNat)) = true then 86 else 82) (L' := [some (.ref 43), some (vI v1), some (vI v2), some (vI v3), some (vI v4), some (vI v5), some (vI 1)]) (S' := []) rfl ?_
              by_cases hc10 : (A.1 45 (v4).toNat) ≤ (A.1 45 (v5).toNat)
              · have h := if_T h hc10
                refine rz_B.ifF (mt (lt32 (hw 45 (v5).toNat).1 (hw 45 (v4).toNat).1).mp (Int.not_lt.mpr hc10)) ?_
                refine rz_B.go 2 (pc' := 86) (L' := [some (.ref 43), some (vI v1), some (vI v2), some (vI v3), some (vI v5), some (vI v5), some (vI 1)]) (S' := []) rfl ?_
                obtain ⟨hk11, h⟩ := rz_g32_inv h
                refine rz_B.iinc rfl (by decide) rfl (L' := [some (.ref 43), some (vI v1), some (vI v2), some (vI v3), some (vI v5), some (vI (v5 + 1)), some (vI 1)]) rfl ?_
                refine rz_B.go 1 (pc' := 6) (L' := [some (.ref 43), some (vI v1), some (vI v2), some (vI v3), some (vI v5), some (vI (v5 + 1)), some (vI 1)]) (S' := []) rfl ?_
                refine rz_B.more (rg_le_ok (L := [some (.ref 43), some (vI v1), some (vI v2), some (vI v3), some (vI v5), some (vI (v5 + 1)), none]) (by simp [rg_le])) ?_
                exact ih _ _ _ _ _ _ _ _ h hv1 hv2 hv3 hv5 hk11 hw
              · have h := if_F h hc10
                refine rz_B.ifT ((lt32 (hw 45 (v5).toNat).1 (hw 45 (v4).toNat).1).mpr (Int.not_le.mp hc10)) ?_
                obtain ⟨hk12, h⟩ := rz_g32_inv h
                refine rz_B.iinc rfl (by decide) rfl (L' := [some (.ref 43), some (vI v1), some (vI v2), some (vI v3), some (vI v4), some (vI (v5 + 1)), some (vI 1)]) rfl ?_
                refine rz_B.go 1 (pc' := 6) (L' := [some (.ref 43), some (vI v1), some (vI v2), some (vI v3), some (vI v4), some (vI (v5 + 1)), some (vI 1)]) (S' := []) rfl ?_
                refine rz_B.more (rg_le_ok (L := [some (.ref 43), some (vI v1), some (vI v2), some (vI v3), some (vI v4), some (vI (v5 + 1)), none]) (by simp [rg_le])) ?_
                exact ih _ _ _ _ _ _ _ _ h hv1 hv2 hv3 hv4 hk12 hw
            · have h := if_F h hc7
              refine rz_B.ifT ((lt32 hv4 (by decide)).mpr (Int.not_le.mp hc7)) ?_
              refine rz_B.go 2 (pc' := 86) (L' := [some (.ref 43), some (vI v1), some (vI v2), some (vI v3), some (vI v5), some (vI v5), some (vI 1)]) (S' := []) rfl ?_
              obtain ⟨hk13, h⟩ := rz_g32_inv h
              refine rz_B.iinc rfl (by decide) rfl (L' := [some (.ref 43), some (vI v1), some (vI v2), some (vI v3), some (vI v5), some (vI (v5 + 1)), some (vI 1)]) rfl ?_
              refine rz_B.go 1 (pc' := 6) (L' := [some (.ref 43), some (vI v1), some (vI v2), some (vI v3), some (vI v5), some (vI (v5 + 1)), some (vI 1)]) (S' := []) rfl ?_
              refine rz_B.more (rg_le_ok (L := [some (.ref 43), some (vI v1), some (vI v2), some (vI v3), some (vI v5), some (vI (v5 + 1)), none]) (by simp [rg_le])) ?_
              exact ih _ _ _ _ _ _ _ _ h hv1 hv2 hv3 hv5 hk13 hw
          · have h := if_F h hc6
            refine rz_B.ifT ((lt32 hv3 (hw 46 (v5).toNat).1).mpr (Int.not_le.mp hc6)) ?_
            refine rz_B.go 4 (pc' := 86) (L' := [some (.ref 43), some (vI v1), some (vI v2), some (vI v3), some (vI v4), some (vI v5), some (vI 0)]) (S' := []) rfl ?_
            obtain ⟨hk14, h⟩ := rz_g32_inv h
            refine rz_B.iinc rfl (by decide) rfl (L' := [some (.ref 43), some (vI v1), some (vI v2), some (vI v3), some (vI v4), some (vI (v5 + 1)), some (vI 0)]) rfl ?_
            refine rz_B.go 1 (pc' := 6) (L' := [some (.ref 43), some (vI v1), some (vI v2), some (vI v3), some (vI v4), some (vI (v5 + 1)), some (vI 0)]) (S' := []) rfl ?_
            refine rz_B.more (rg_le_ok (L := [some (.ref 43), some (vI v1), some (vI v2), some (vI v3), some (vI v4), some (vI (v5 + 1)), none]) (by simp [rg_le])) ?_
            exact ih _ _ _ _ _ _ _ _ h hv1 hv2 hv3 hv4 hk14 hw
        · have h := if_F h hc5
          refine rz_B.ifT ((lt32 hv2 (hw 45 (v5).toNat).1).mpr (Int.not_le.mp hc5)) ?_
          refine rz_B.go 4 (pc' := 86) (L' := [some (.ref 43), some (vI v1), some (vI v2), some (vI v3), some (vI v4), some (vI v5), some (vI 0)]) (S' := []) rfl ?_
          obtain ⟨hk15, h⟩ := rz_g32_inv h
          refine rz_B.iinc rfl (by decide) rfl (L' := [some (.ref 43), some (vI v1), some (vI v2), some (vI v3), some (vI v4), some (vI (v5 + 1)), some (vI 0)]) rfl ?_
          refine rz_B.go 1 (pc' := 6) (L' := [some (.ref 43), some (vI v1), some (vI v2), some (vI v3), some (vI v4), some (vI (v5 + 1)), some (vI 0)]) (S' := []) rfl ?_
          refine rz_B.more (rg_le_ok (L := [some (.ref 43), some (vI v1), some (vI v2), some (vI v3), some (vI v4), some (vI (v5 + 1)), none]) (by simp [rg_le])) ?_
          exact ih _ _ _ _ _ _ _ _ h hv1 hv2 hv3 hv4 hk15 hw
      · have h := if_F h hc4
        refine rz_B.ifT (mt (eq32 (hw 44 (v5).toNat).1 hv1).mp hc4) ?_
        refine rz_B.go 4 (pc' := 86) (L' := [some (.ref 43), some (vI v1), some (vI v2), some (vI v3), some (vI v4), some (vI v5), some (vI 0)]) (S' := []) rfl ?_
        obtain ⟨hk16, h⟩ := rz_g32_inv h
        refine rz_B.iinc rfl (by decide) rfl (L' := [some (.ref 43), some (vI v1), some (vI v2), some (vI v3), some (vI v4), some (vI (v5 + 1)), some (vI 0)]) rfl ?_
        refine rz_B.go 1 (pc' := 6) (L' := [some (.ref 43), some (vI v1), some (vI v2), some (vI v3), some (vI v4), some (vI (v5 + 1)), some (vI 0)]) (S' := []) rfl ?_
        refine rz_B.more (rg_le_ok (L := [some (.ref 43), some (vI v1), some (vI v2), some (vI v3), some (vI v4), some (vI (v5 + 1)), none]) (by simp [rg_le])) ?_
        exact ih _ _ _ _ _ _ _ _ h hv1 hv2 hv3 hv4 hk16 hw
    · have h := if_F h hc1
      refine rz_B.ifT ((le32 (hw 43 0).1 hv5).mpr (Int.not_lt.mp hc1)) ?_
      refine rz_B.go 1 (pc' := 94) (L' := [some (.ref 43), some (vI v1), some (vI v2), some (vI v3), some (vI v4), some (vI v5), none]) (S' := [vI v4]) rfl ?_
      cases h
      exact rz_B.ret rfl hv4 hw
/-- RiverGauge$Standards.inForce(III)I -/
def x22_inForce (F : Nat) (a0 : Int) (a1 : Int) (a2 : Int) (A : rz_A) : Option (Int × rz_A) :=
  x22_inForce_6 F F a0 a1 a2 (-1) 0 A
theorem cx22_inForce (F : Nat) {d : Nat} {a0 : Int} {a1 : Int} {a2 : Int} {A : rz_A} {r : Int} {A' : rz_A} (h : x22_inForce F a0 a1 a2 A = some (r, A')) (ha0 : r32 a0) (ha1 : r32 a1) (ha2 : r32 a2) (hw : wf A) : rg_Rn (d + 0) 22 [.ref 43, vI a0, vI a1, vI a2] (toM A) (some (vI r)) (toM A') ∧ (r32 r) ∧ wf A' := by
  show rz_B (d + 0) 22 0 [some (.ref 43), some (vI a0), some (vI a1), some (vI a2), none, none, none] [] A (some (vI r)) A' (r32 r)
  unfold x22_inForce at h
  refine rz_B.go 4 (pc' := 6) (L' := [some (.ref 43), some (vI a0), some (vI a1), some (vI a2), some (vI (-1)), some (vI 0), none]) (S' := []) rfl ?_
  refine rz_B.more (rg_le_ok (L := [some (.ref 43), some (vI a0), some (vI a1), some (vI a2), some (vI (-1)), some (vI 0), none]) (by simp [rg_le])) ?_
  exact cx22_inForce_6 F F _ _ _ _ _ _ _ _ h ha0 ha1 ha2 (by decide) (by decide) hw
def x23_lettersOf_21 (F : Nat) (v1 : Int) (A : rz_A) : Option (Unit × rz_A) :=
  rz_g32 (v1.tdiv 96) <|
  rz_g32 (v1.tmod 96) <|
  some ((), (aI (aI A 49 0 (v1.tdiv 96)) 49 1 (v1.tmod 96)))
theorem cx23_lettersOf_21 {d : Nat} (F : Nat) : ∀ (v1 : Int) (A : rz_A) (r : Unit) (A' : rz_A), x23_lettersOf_21 F v1 A = some (r, A') → r32 v1 → wf A → rz_B (d + 0) 23 21 [some (.ref 43), some (vI v1), none] [] A (some (.ref 49)) A' (True) := by
  intro v1 A r A' h hv1 hw
  unfold x23_lettersOf_21 at h
  refine rz_B.go 5 (pc' := 29) (L' := [some (.ref 43), some (vI v1), none]) (S' := [vI 96, vI v1, vI 0, .ref 49]) rfl ?_
  obtain ⟨hk1, h⟩ := rz_g32_inv h
  refine rz_B.idiv rfl hv1 (by decide) (by decide) ?_
  refine rz_B.iast rfl rfl (by decide) (by decide) (by decide) ?_
  have hw2 : wf (aI A 49 0 (v1.tdiv 96)) := wf_aI hw hk1
  refine rz_B.go 5 (pc' := 39) (L' := [some (.ref 43), some (vI v1), none]) (S' := [vI 96, vI v1, vI 1, .ref 49]) rfl ?_
  obtain ⟨hk3, h⟩ := rz_g32_inv h
  refine rz_B.irem rfl hv1 (by decide) (by decide) ?_
  refine rz_B.iast rfl rfl (by decide) (by decide) (by decide) ?_
  have hw4 : wf (aI (aI A 49 0 (v1.tdiv 96)) 49 1 (v1.tmod 96)) := wf_aI hw2 hk3
  refine rz_B.go 2 (pc' := 45) (L' := [some (.ref 43), some (vI v1), none]) (S' := [.ref 49]) rfl ?_
  cases h
  exact rz_B.ret rfl trivial hw4
def x23_lettersOf_2 (F : Nat) : Nat → Int → Int → rz_A → Option (Unit × rz_A)
  | 0, _, _, _ => none
  | n + 1, v1, v2, A =>
    if v2 < 13 then
      rz_gx v2 13 <|
      rz_g32 (v2 + 1) <|
      x23_lettersOf_2 F n v1 (v2 + 1) (aI A 49 (v2).toNat 0)
    else
      x23_lettersOf_21 F v1 A
theorem cx23_lettersOf_2 {d : Nat} (F : Nat) : ∀ (n : Nat) (v1 : Int) (v2 : Int) (A : rz_A) (r : Unit) (A' : rz_A), x23_lettersOf_2 F n v1 v2 A = some (r, A') → r32 v1 → r32 v2 → wf A → rz_B (d + 0) 23 2 [some (.ref 43), some (vI v1), some (vI v2)] [] A (some (.ref 49)) A' (True) := by
  intro n
  induction n with
  | zero => intro v1 v2 A r A' h; cases h
  | succ n ih =>
    intro v1 v2 A r A' h hv1 hv2 hw
    rw [x23_lettersOf_2] at h
    refine rz_B.go 3 (pc' := if decide (Int32.ofInt 13 ≤ Int32.ofInt v2) = true then 21 else 8) (L' := [some (.ref 43), some (vI v1), some (vI v2)]) (S' := []) rfl ?_
    by_cases hc1 : v2 < 13
    · have h := if_T h hc1
      refine rz_B.ifF (mt (le32 (by decide) hv2).mp (Int.not_le.mpr hc1)) ?_
      refine rz_B.go 4 (pc' := 14) (L' := [some (.ref 43), some (vI v1), some (vI v2)]) (S' := [vI 0, vI v2, .ref 49]) rfl ?_
      obtain ⟨hi2, hj3, h⟩ := rz_gx_inv h
      refine rz_B.iast rfl rfl hi2 hj3 (by decide) ?_
      have hw4 : wf (aI A 49 (v2).toNat 0) := wf_aI hw (by decide)
      obtain ⟨hk5, h⟩ := rz_g32_inv h
      refine rz_B.iinc rfl (by decide) rfl (L' := [some (.ref 43), some (vI v1), some (vI (v2 + 1))]) rfl ?_
      refine rz_B.go 1 (pc' := 2) (L' := [some (.ref 43), some (vI v1), some (vI (v2 + 1))]) (S' := []) rfl ?_
      refine rz_B.more (rg_le_ok (L := [some (.ref 43), some (vI v1), some (vI (v2 + 1))]) (by simp [rg_le])) ?_
      exact ih _ _ _ _ _ h hv1 hk5 hw4
    · have h := if_F h hc1
      refine rz_B.ifT ((le32 (by decide) hv2).mpr (Int.not_lt.mp hc1)) ?_
      refine rz_B.more (rg_le_ok (L := [some (.ref 43), some (vI v1), none]) (by simp [rg_le])) ?_
      exact cx23_lettersOf_21 F _ _ _ _ h hv1 hw
/-- RiverGauge$Standards.lettersOf(I)[I -/
def x23_lettersOf (F : Nat) (a0 : Int) (A : rz_A) : Option (Unit × rz_A) :=
  x23_lettersOf_2 F F a0 0 A
theorem cx23_lettersOf (F : Nat) {d : Nat} {a0 : Int} {A : rz_A} {r : Unit} {A' : rz_A} (h : x23_lettersOf F a0 A = some (r, A')) (ha0 : r32 a0) (hw : wf A) : rg_Rn (d + 0) 23 [.ref 43, vI a0] (toM A) (some (.ref 49)) (toM A') ∧ (True) ∧ wf A' := by
  show rz_B (d + 0) 23 0 [some (.ref 43), some (vI a0), none] [] A (some (.ref 49)) A' (True)
  unfold x23_lettersOf at h
  refine rz_B.go 2 (pc' := 2) (L' := [some (.ref 43), some (vI a0), some (vI 0)]) (S' := []) rfl ?_
  refine rz_B.more (rg_le_ok (L := [some (.ref 43), some (vI a0), some (vI 0)]) (by simp [rg_le])) ?_
  exact cx23_lettersOf_2 F F _ _ _ _ _ h ha0 (by decide) hw
/-- java/lang/Math.min(JJ)J -/
def x28_min (F : Nat) (a0 : Int) (a1 : Int) (A : rz_A) : Option (Int × rz_A) :=
  if a0 ≤ a1 then
    some (a0, A)
  else
    some (a1, A)
theorem cx28_min (F : Nat) {d : Nat} {a0 : Int} {a1 : Int} {A : rz_A} {r : Int} {A' : rz_A} (h : x28_min F a0 a1 A = some (r, A')) (ha0 : r64 a0) (ha1 : r64 a1) (hw : wf A) : rg_Rn (d + 0) 28 [vL a0, vL a1] (toM A) (some (vL r)) (toM A') ∧ (r64 r) ∧ wf A' := by
  show rz_B (d + 0) 28 0 [some (vL a0), none, some (vL a1), none] [] A (some (vL r)) A' (r64 r)
  unfold x28_min at h
  refine rz_B.go 4 (pc' := if decide (0 < lg_cmp (Int64.ofInt a0) (Int64.ofInt a1)) = true then 10 else 6) (L' := [some (vL a0), none, some (vL a1), none]) (S' := []) rfl ?_
  by_cases hc1 : a0 ≤ a1
  · have h := if_T h hc1
    refine rz_B.ifF (mt (cmp_gt ha0 ha1).mp (Int.not_lt.mpr hc1)) ?_
    refine rz_B.go 2 (pc' := 11) (L' := [some (vL a0), none, some (vL a1), none]) (S' := [vL a0]) rfl ?_
    cases h
    exact rz_B.ret rfl ha0 hw
  · have h := if_F h hc1
    refine rz_B.ifT ((cmp_gt ha0 ha1).mpr (Int.not_le.mp hc1)) ?_
    refine rz_B.go 1 (pc' := 11) (L' := [some (vL a0), none, some (vL a1), none]) (S' := [vL a1]) rfl ?_
    cases h
    exact rz_B.ret rfl ha1 hw
/-- java/lang/Math.max(JJ)J -/
def x29_max (F : Nat) (a0 : Int) (a1 : Int) (A : rz_A) : Option (Int × rz_A) :=
  if a1 ≤ a0 then
    some (a0, A)
  else
    some (a1, A)
theorem cx29_max (F : Nat) {d : Nat} {a0 : Int} {a1 : Int} {A : rz_A} {r : Int} {A' : rz_A} (h : x29_max F a0 a1 A = some (r, A')) (ha0 : r64 a0) (ha1 : r64 a1) (hw : wf A) : rg_Rn (d + 0) 29 [vL a0, vL a1] (toM A) (some (vL r)) (toM A') ∧ (r64 r) ∧ wf A' := by
  show rz_B (d + 0) 29 0 [some (vL a0), none, some (vL a1), none] [] A (some (vL r)) A' (r64 r)
  unfold x29_max at h
  refine rz_B.go 4 (pc' := if decide (lg_cmp (Int64.ofInt a0) (Int64.ofInt a1) < 0) = true then 10 else 6) (L' := [some (vL a0), none, some (vL a1), none]) (S' := []) rfl ?_
  by_cases hc1 : a1 ≤ a0
  · have h := if_T h hc1
    refine rz_B.ifF (mt (cmp_lt ha0 ha1).mp (Int.not_lt.mpr hc1)) ?_
    refine rz_B.go 2 (pc' := 11) (L' := [some (vL a0), none, some (vL a1), none]) (S' := [vL a0]) rfl ?_
    cases h
    exact rz_B.ret rfl ha0 hw
  · have h := if_F h hc1
    refine rz_B.ifT ((cmp_lt ha0 ha1).mpr (Int.not_le.mp hc1)) ?_
    refine rz_B.go 1 (pc' := 11) (L' := [some (vL a0), none, some (vL a1), none]) (S' := [vL a1]) rfl ?_
    cases h
    exact rz_B.ret rfl ha1 hw
/-- RiverGauge$Standards.held(J)I -/
def x27_held (F : Nat) (a0 : Int) (A : rz_A) : Option (Int × rz_A) :=
  rz_b (x28_min F 1000000000 a0 A) fun r1 A1 =>
  rz_b (x29_max F (-1000000000) r1 A1) fun r2 A2 =>
  rz_g32 r2 <|
  some (r2, A2)
theorem cx27_held (F : Nat) {d : Nat} {a0 : Int} {A : rz_A} {r : Int} {A' : rz_A} (h : x27_held F a0 A = some (r, A')) (ha0 : r64 a0) (hw : wf A) : rg_Rn (d + 1) 27 [vL a0] (toM A) (some (vI r)) (toM A') ∧ (r32 r) ∧ wf A' := by
  show rz_B (d + 1) 27 0 [some (vL a0), none] [] A (some (vI r)) A' (r32 r)
  unfold x27_held at h
  refine rz_B.go 3 (pc' := 7) (L' := [some (vL a0), none]) (S' := [vL a0, vL 1000000000, vL (-1000000000)]) rfl ?_
  obtain ⟨r1, A1, hf1, h⟩ := rz_b_inv h
  obtain ⟨hg1, hr1, hw1⟩ := cx28_min F (d := d + 0) hf1 (by decide) ha0 hw
  refine rz_B.call (d := d + 0) (as := [vL 1000000000, vL a0]) (rest := [vL (-1000000000)]) (w := some (vL r1)) rfl hg1 ?_
  obtain ⟨r2, A2, hf2, h⟩ := rz_b_inv h
  obtain ⟨hg2, hr2, hw2⟩ := cx29_max F (d := d + 0) hf2 (by decide) hr1 hw1
  refine rz_B.call (d := d + 0) (as := [vL (-1000000000), vL r1]) (rest := []) (w := some (vL r2)) rfl hg2 ?_
  obtain ⟨hk3, h⟩ := rz_g32_inv h
  refine rz_B.l2i rfl ?_
  cases h
  exact rz_B.ret rfl hk3 hw2
/-- RiverGauge$Standards.joined(IJJ)I -/
def x26_joined (F : Nat) (a0 : Int) (a1 : Int) (a2 : Int) (A : rz_A) : Option (Int × rz_A) :=
  if a0 = (-28) then
    rz_g64 (a1 * a2) <|
    rz_b (x27_held F (a1 * a2) A) fun r3 A3 =>
    some (r3, A3)
  else
    if a0 = (-27) then
      rz_g64 (a1 - a2) <|
      rz_b (x27_held F (a1 - a2) A) fun r6 A6 =>
      some (r6, A6)
    else
      if a0 = (-26) then
        rz_g64 (a1 + a2) <|
        rz_b (x27_held F (a1 + a2) A) fun r9 A9 =>
        some (r9, A9)
      else
        if a0 = (-25) then
          if a2 < a1 then
            some (1, A)
          else
            some (0, A)
        else
          if a0 = (-24) then
            if a1 = a2 then
              some (1, A)
            else
              some (0, A)
          else
            if a0 = (-23) then
              if a1 < a2 then
                some (1, A)
              else
                some (0, A)
            else
              if a0 = (-21) then
                if a1 = 0 then
                  some (0, A)
                else
                  if a2 = 0 then
                    some (0, A)
                  else
                    some (1, A)
              else
                if a1 = 0 then
                  if a2 = 0 then
                    some (0, A)
                  else
                    some (1, A)
                else
                  some (1, A)
theorem cx26_joined (F : Nat) {d : Nat} {a0 : Int} {a1 : Int} {a2 : Int} {A : rz_A} {r : Int} {A' : rz_A} (h : x26_joined F a0 a1 a2 A = some (r, A')) (ha0 : r32 a0) (ha1 : r64 a1) (ha2 : r64 a2) (hw : wf A) : rg_Rn (d + 2) 26 [vI a0, vL a1, vL a2] (toM A) (some (vI r)) (toM A') ∧ (r32 r) ∧ wf A' := by
  show rz_B (d + 2) 26 0 [some (vI a0), some (vL a1), none, some (vL a2), none] [] A (some (vI r)) A' (r32 r)
  unfold x26_joined at h
  refine rz_B.go 1 (pc' := 1) (L' := [some (vI a0), some (vL a1), none, some (vL a2), none]) (S' := [vI a0]) rfl ?_
  by_cases hs1 : a0 = (-28)
  · have h := if_T h hs1
    have key : rz_B (d + 2) 26 62 [some (vI a0), some (vL a1), none, some (vL a2), none] [] A (some (vI r)) A' (r32 r) := by
      refine rz_B.go 2 (pc' := 64) (L' := [some (vI a0), some (vL a1), none, some (vL a2), none]) (S' := [vL a2, vL a1]) rfl ?_
      obtain ⟨hk2, h⟩ := rz_g64_inv h
      refine rz_B.lmul rfl ?_
      obtain ⟨r3, A3, hf3, h⟩ := rz_b_inv h
      obtain ⟨hg3, hr3, hw3⟩ := cx27_held F (d := d + 0) hf3 hk2 hw
      refine rz_B.call (d := d + 1) (as := [vL (a1 * a2)]) (rest := []) (w := some (vI r3)) rfl hg3 ?_
      cases h
      exact rz_B.ret rfl hr3 hw3
    have he := hs1
    · exact rz_B.tswI rfl ha0 (by omega) (off := 61) (by rw [he]; rfl) (by decide) rfl key
  · have h := if_F h hs1
    by_cases hs4 : a0 = (-27)
    · have h := if_T h hs4
      have key : rz_B (d + 2) 26 55 [some (vI a0), some (vL a1), none, some (vL a2), none] [] A (some (vI r)) A' (r32 r) := by
        refine rz_B.go 2 (pc' := 57) (L' := [some (vI a0), some (vL a1), none, some (vL a2), none]) (S' := [vL a2, vL a1]) rfl ?_
        obtain ⟨hk5, h⟩ := rz_g64_inv h
        refine rz_B.lsub rfl ?_
        obtain ⟨r6, A6, hf6, h⟩ := rz_b_inv h
        obtain ⟨hg6, hr6, hw6⟩ := cx27_held F (d := d + 0) hf6 hk5 hw
        refine rz_B.call (d := d + 1) (as := [vL (a1 - a2)]) (rest := []) (w := some (vI r6)) rfl hg6 ?_
        cases h
        exact rz_B.ret rfl hr6 hw6
      have he := hs4
      · exact rz_B.tswI rfl ha0 (by omega) (off := 54) (by rw [he]; rfl) (by decide) rfl key
    · have h := if_F h hs4
      by_cases hs7 : a0 = (-26)
      · have h := if_T h hs7
        have key : rz_B (d + 2) 26 48 [some (vI a0), some (vL a1), none, some (vL a2), none] [] A (some (vI r)) A' (r32 r) := by
          refine rz_B.go 2 (pc' := 50) (L' := [some (vI a0), some (vL a1), none, some (vL a2), none]) (S' := [vL a2, vL a1]) rfl ?_
          obtain ⟨hk8, h⟩ := rz_g64_inv h
          refine rz_B.ladd rfl ?_
          obtain ⟨r9, A9, hf9, h⟩ := rz_b_inv h
          obtain ⟨hg9, hr9, hw9⟩ := cx27_held F (d := d + 0) hf9 hk8 hw
          refine rz_B.call (d := d + 1) (as := [vL (a1 + a2)]) (rest := []) (w := some (vI r9)) rfl hg9 ?_
          cases h
          exact rz_B.ret rfl hr9 hw9
        have he := hs7
        · exact rz_B.tswI rfl ha0 (by omega) (off := 47) (by rw [he]; rfl) (by decide) rfl key
      · have h := if_F h hs7
        by_cases hs10 : a0 = (-25)
        · have h := if_T h hs10
          have key : rz_B (d + 2) 26 93 [some (vI a0), some (vL a1), none, some (vL a2), none] [] A (some (vI r)) A' (r32 r) := by
            refine rz_B.go 4 (pc' := if decide (lg_cmp (Int64.ofInt a1) (Int64.ofInt a2) ≤ 0) = true then 103 else 99) (L' := [some (vI a0), some (vL a1), none, some (vL a2), none]) (S' := []) rfl ?_
            by_cases hc11 : a2 < a1
            · have h := if_T h hc11
              refine rz_B.ifF (mt (cmp_le ha1 ha2).mp (Int.not_le.mpr hc11)) ?_
              refine rz_B.go 2 (pc' := 104) (L' := [some (vI a0), some (vL a1), none, some (vL a2), none]) (S' := [vI 1]) rfl ?_
              cases h
              exact rz_B.ret rfl (by decide) hw
            · have h := if_F h hc11
              refine rz_B.ifT ((cmp_le ha1 ha2).mpr (Int.not_lt.mp hc11)) ?_
              refine rz_B.go 1 (pc' := 104) (L' := [some (vI a0), some (vL a1), none, some (vL a2), none]) (S' := [vI 0]) rfl ?_
              cases h
              exact rz_B.ret rfl (by decide) hw
          have he := hs10
          · exact rz_B.tswI rfl ha0 (by omega) (off := 92) (by rw [he]; rfl) (by decide) rfl key
        · have h := if_F h hs10
          by_cases hs12 : a0 = (-24)
          · have h := if_T h hs12
            have key : rz_B (d + 2) 26 81 [some (vI a0), some (vL a1), none, some (vL a2), none] [] A (some (vI r)) A' (r32 r) := by
              refine rz_B.go 4 (pc' := if decide (¬ lg_cmp (Int64.ofInt a1) (Int64.ofInt a2) = 0) = true then 91 else 87) (L' := [some (vI a0), some (vL a1), none, some (vL a2), none]) (S' := []) rfl ?_
              by_cases hc13 : a1 = a2
              · have h := if_T h hc13
                refine rz_B.ifF (fun hn => hn ((cmp_eq ha1 ha2).mpr hc13)) ?_
                refine rz_B.go 2 (pc' := 92) (L' := [some (vI a0), some (vL a1), none, some (vL a2), none]) (S' := [vI 1]) rfl ?_
                cases h
                exact rz_B.ret rfl (by decide) hw
              · have h := if_F h hc13
                refine rz_B.ifT (mt (cmp_eq ha1 ha2).mp hc13) ?_
                refine rz_B.go 1 (pc' := 92) (L' := [some (vI a0), some (vL a1), none, some (vL a2), none]) (S' := [vI 0]) rfl ?_
                cases h
                exact rz_B.ret rfl (by decide) hw
            have he := hs12
            · exact rz_B.tswI rfl ha0 (by omega) (off := 80) (by rw [he]; rfl) (by decide) rfl key
          · have h := if_F h hs12
            by_cases hs14 : a0 = (-23)
            · have h := if_T h hs14
              have key : rz_B (d + 2) 26 69 [some (vI a0), some (vL a1), none, some (vL a2), none] [] A (some (vI r)) A' (r32 r) := by
                refine rz_B.go 4 (pc' := if decide (0 ≤ lg_cmp (Int64.ofInt a1) (Int64.ofInt a2)) = true then 79 else 75) (L' := [some (vI a0), some (vL a1), none, some (vL a2), none]) (S' := []) rfl ?_
                by_cases hc15 : a1 < a2
                · have h := if_T h hc15
                  refine rz_B.ifF (mt (cmp_ge ha1 ha2).mp (Int.not_le.mpr hc15)) ?_
                  refine rz_B.go 2 (pc' := 80) (L' := [some (vI a0), some (vL a1), none, some (vL a2), none]) (S' := [vI 1]) rfl ?_
                  cases h
                  exact rz_B.ret rfl (by decide) hw
                · have h := if_F h hc15
                  refine rz_B.ifT ((cmp_ge ha1 ha2).mpr (Int.not_lt.mp hc15)) ?_
                  refine rz_B.go 1 (pc' := 80) (L' := [some (vI a0), some (vL a1), none, some (vL a2), none]) (S' := [vI 0]) rfl ?_
                  cases h
                  exact rz_B.ret rfl (by decide) hw
              have he := hs14
              · exact rz_B.tswI rfl ha0 (by omega) (off := 68) (by rw [he]; rfl) (by decide) rfl key
            · have h := if_F h hs14
              by_cases hs16 : a0 = (-21)
              · have h := if_T h hs16
                have key : rz_B (d + 2) 26 105 [some (vI a0), some (vL a1), none, some (vL a2), none] [] A (some (vI r)) A' (r32 r) := by
                  refine rz_B.go 4 (pc' := if decide (lg_cmp (Int64.ofInt a1) (Int64.ofInt 0) = 0) = true then 121 else 111) (L' := [some (vI a0), some (vL a1), none, some (vL a2), none]) (S' := []) rfl ?_
                  by_cases hc17 : a1 = 0
                  · have h := if_T h hc17
                    refine rz_B.ifT ((cmp_eq ha1 (by decide)).mpr hc17) ?_
                    refine rz_B.go 1 (pc' := 122) (L' := [some (vI a0), some (vL a1), none, some (vL a2), none]) (S' := [vI 0]) rfl ?_
                    cases h
                    exact rz_B.ret rfl (by decide) hw
                  · have h := if_F h hc17
                    refine rz_B.ifF (mt (cmp_eq ha1 (by decide)).mp hc17) ?_
                    refine rz_B.go 4 (pc' := if decide (lg_cmp (Int64.ofInt a2) (Int64.ofInt 0) = 0) = true then 121 else 117) (L' := [some (vI a0), some (vL a1), none, some (vL a2), none]) (S' := []) rfl ?_
                    by_cases hc18 : a2 = 0
                    · have h := if_T h hc18
                      refine rz_B.ifT ((cmp_eq ha2 (by decide)).mpr hc18) ?_
                      refine rz_B.go 1 (pc' := 122) (L' := [some (vI a0), some (vL a1), none, some (vL a2), none]) (S' := [vI 0]) rfl ?_
                      cases h
                      exact rz_B.ret rfl (by decide) hw
                    · have h := if_F h hc18
                      refine rz_B.ifF (mt (cmp_eq ha2 (by decide)).mp hc18) ?_
                      refine rz_B.go 2 (pc' := 122) (L' := [some (vI a0), some (vL a1), none, some (vL a2), none]) (S' := [vI 1]) rfl ?_
                      cases h
                      exact rz_B.ret rfl (by decide) hw
                have he := hs16
                · exact rz_B.tswI rfl ha0 (by omega) (off := 104) (by rw [he]; rfl) (by decide) rfl key
              · have h := if_F h hs16
                have key : rz_B (d + 2) 26 123 [some (vI a0), some (vL a1), none, some (vL a2), none] [] A (some (vI r)) A' (r32 r) := by
                  refine rz_B.go 4 (pc' := if decide (¬ lg_cmp (Int64.ofInt a1) (Int64.ofInt 0) = 0) = true then 135 else 129) (L' := [some (vI a0), some (vL a1), none, some (vL a2), none]) (S' := []) rfl ?_
                  by_cases hc19 : a1 = 0
                  · have h := if_T h hc19
                    refine rz_B.ifF (fun hn => hn ((cmp_eq ha1 (by decide)).mpr hc19)) ?_
                    refine rz_B.go 4 (pc' := if decide (lg_cmp (Int64.ofInt a2) (Int64.ofInt 0) = 0) = true then 139 else 135) (L' := [some (vI a0), some (vL a1), none, some (vL a2), none]) (S' := []) rfl ?_
                    by_cases hc20 : a2 = 0
                    · have h := if_T h hc20
                      refine rz_B.ifT ((cmp_eq ha2 (by decide)).mpr hc20) ?_
                      refine rz_B.go 1 (pc' := 140) (L' := [some (vI a0), some (vL a1), none, some (vL a2), none]) (S' := [vI 0]) rfl ?_
                      cases h
                      exact rz_B.ret rfl (by decide) hw
                    · have h := if_F h hc20
                      refine rz_B.ifF (mt (cmp_eq ha2 (by decide)).mp hc20) ?_
                      refine rz_B.go 2 (pc' := 140) (L' := [some (vI a0), some (vL a1), none, some (vL a2), none]) (S' := [vI 1]) rfl ?_
                      cases h
                      exact rz_B.ret rfl (by decide) hw
                  · have h := if_F h hc19
                    refine rz_B.ifT (mt (cmp_eq ha1 (by decide)).mp hc19) ?_
                    refine rz_B.go 2 (pc' := 140) (L' := [some (vI a0), some (vL a1), none, some (vL a2), none]) (S' := [vI 1]) rfl ?_
                    cases h
                    exact rz_B.ret rfl (by decide) hw
                by_cases he21 : a0 = (-22)
                · exact rz_B.tswI rfl ha0 (by omega) (off := 122) (by rw [he21]; rfl) (by decide) rfl key
                exact rz_B.tswO rfl ha0 (by omega) (by decide) rfl key
def x25_holds_158 (F : Nat) (v3 : Int) (A : rz_A) : Option (Int × rz_A) :=
  if 0 < v3 then
    if (A.1 50 0) = 0 then
      some (0, A)
    else
      some (1, A)
  else
    some (0, A)
theorem cx25_holds_158 {d : Nat} (F : Nat) : ∀ (v3 : Int) (A : rz_A) (r : Int) (A' : rz_A), x25_holds_158 F v3 A = some (r, A') → r32 v3 → wf A → rz_B (d + 3) 25 158 [some (.ref 43), none, none, some (vI v3), none, none] [] A (some (vI r)) A' (r32 r) := by
  intro v3 A r A' h hv3 hw
  unfold x25_holds_158 at h
  refine rz_B.go 2 (pc' := if decide (Int32.ofInt v3 ≤ Int32.ofInt 0) = true then 175 else 162) (L' := [some (.ref 43), none, none, some (vI v3), none, none]) (S' := []) rfl ?_
  by_cases hc1 : 0 < v3
  · have h := if_T h hc1
    refine rz_B.ifF (mt (le32 hv3 (by decide)).mp (Int.not_le.mpr hc1)) ?_
    refine rz_B.go 3 (pc' := 167) (L' := [some (.ref 43), none, none, some (vI v3), none, none]) (S' := [vI 0, .ref 50]) rfl ?_
    refine rz_B.iald rfl rfl (by decide) (by decide) (by decide) ?_
    refine rz_B.go 1 (pc' := if decide (Int32.ofInt (A.1 50 0) = Int32.ofInt 0) = true then 175 else 171) (L' := [some (.ref 43), none, none, some (vI v3), none, none]) (S' := []) rfl ?_
    by_cases hc2 : (A.1 50 0) = 0
    · have h := if_T h hc2
      refine rz_B.ifT ((eq32 (hw 50 0).1 (by decide)).mpr hc2) ?_
      refine rz_B.go 1 (pc' := 176) (L' := [some (.ref 43), none, none, some (vI v3), none, none]) (S' := [vI 0]) rfl ?_
      cases h
      exact rz_B.ret rfl (by decide) hw
    · have h := if_F h hc2
      refine rz_B.ifF (mt (eq32 (hw 50 0).1 (by decide)).mp hc2) ?_
      refine rz_B.go 2 (pc' := 176) (L' := [some (.ref 43), none, none, some (vI v3), none, none]) (S' := [vI 1]) rfl ?_
      cases h
      exact rz_B.ret rfl (by decide) hw
  · have h := if_F h hc1
    refine rz_B.ifT ((le32 hv3 (by decide)).mpr (Int.not_lt.mp hc1)) ?_
    refine rz_B.go 1 (pc' := 176) (L' := [some (.ref 43), none, none, some (vI v3), none, none]) (S' := [vI 0]) rfl ?_
    cases h
    exact rz_B.ret rfl (by decide) hw
def x25_holds_10 (F : Nat) : Nat → Int → Int → Int → Int → rz_A → Option (Int × rz_A)
  | 0, _, _, _, _, _ => none
  | n + 1, v1, v2, v3, v4, A =>
    rz_gx v1 20 <|
    rz_g32 (v2 + (A.1 47 (v1).toNat)) <|
    if v4 < (v2 + (A.1 47 (v1).toNat)) then
      rz_gx v4 1200 <|
      if (-13) ≤ (A.1 48 (v4).toNat) then
        if 60 ≤ v3 then
          some (0, A)
        else
          if 0 ≤ (A.1 48 (v4).toNat) then
            rz_gx v3 60 <|
            rz_g32 (v3 + 1) <|
            rz_g32 (v4 + 1) <|
            x25_holds_10 F n v1 v2 (v3 + 1) (v4 + 1) (aI A 50 (v3).toNat (A.1 48 (v4).toNat))
          else
            rz_g32 ((-1) - (A.1 48 (v4).toNat)) <|
            rz_gx ((-1) - (A.1 48 (v4).toNat)) 13 <|
            rz_gx v3 60 <|
            rz_g32 (v3 + 1) <|
            rz_g32 (v4 + 1) <|
            x25_holds_10 F n v1 v2 (v3 + 1) (v4 + 1) (aI A 50 (v3).toNat (A.1 49 (((-1) - (A.1 48 (v4).toNat))).toNat))
      else
        if (A.1 48 (v4).toNat) = (-20) then
          if v3 < 1 then
            some (0, A)
          else
            rz_g32 (v3 - 1) <|
            rz_gx (v3 - 1) 60 <|
            rz_g32 (1 - (A.1 50 ((v3 - 1)).toNat)) <|
            rz_g32 (v4 + 1) <|
            x25_holds_10 F n v1 v2 v3 (v4 + 1) (aI A 50 ((v3 - 1)).toNat (1 - (A.1 50 ((v3 - 1)).toNat)))
        else
          if v3 < 2 then
            some (0, A)
          else
            rz_g32 (v3 + (-1)) <|
            rz_g32 ((v3 + (-1)) - 1) <|
            rz_gx ((v3 + (-1)) - 1) 60 <|
            rz_gx (v3 + (-1)) 60 <|
            rz_b (x26_joined F (A.1 48 (v4).toNat) (A.1 50 (((v3 + (-1)) - 1)).toNat) (A.1 50 ((v3 + (-1))).toNat) A) fun r38 A38 =>
            rz_g32 (v4 + 1) <|
            x25_holds_10 F n v1 v2 (v3 + (-1)) (v4 + 1) (aI A38 50 (((v3 + (-1)) - 1)).toNat r38)
    else
      x25_holds_158 F v3 A
theorem cx25_holds_10 {d : Nat} (F : Nat) : ∀ (n : Nat) (v1 : Int) (v2 : Int) (v3 : Int) (v4 : Int) (A : rz_A) (r : Int) (A' : rz_A), x25_holds_10 F n v1 v2 v3 v4 A = some (r, A') → r32 v1 → r32 v2 → r32 v3 → r32 v4 → wf A → rz_B (d + 3) 25 10 [some (.ref 43), some (vI v1), some (vI v2), some (vI v3), some (vI v4), none] [] A (some (vI r)) A' (r32 r) := by
  intro n
  induction n with
  | zero => intro v1 v2 v3 v4 A r A' h; cases h
  | succ n ih =>
    intro v1 v2 v3 v4 A r A' h hv1 hv2 hv3 hv4 hw
    rw [x25_holds_10] at h
    refine rz_B.go 5 (pc' := 18) (L' := [some (.ref 43), some (vI v1), some (vI v2), some (vI v3), some (vI v4), none]) (S' := [vI v1, .ref 47, vI v2, vI v4]) rfl ?_
    obtain ⟨hi1, hj2, h⟩ := rz_gx_inv h
    refine rz_B.iald rfl rfl hi1 hj2 (by decide) ?_
    obtain ⟨hk3, h⟩ := rz_g32_inv h
    refine rz_B.iadd rfl ?_
    refine rz_B.go 1 (pc' := if decide (Int32.ofInt (v2 + (A.1 47 (v1).toNat)) ≤ Int32.ofInt v4) = true then 158 else 23) (L' := [some (.ref 43), some (vI v1), some (vI v2), some (vI v3), some (vI v4), none]) (S' := []) rfl ?_
    by_cases hc4 : v4 < (v2 + (A.1 47 (v1).toNat))
    · have h := if_T h hc4
      refine rz_B.ifF (mt (le32 hk3 hv4).mp (Int.not_le.mpr hc4)) ?_
      refine rz_B.go 3 (pc' := 29) (L' := [some (.ref 43), some (vI v1), some (vI v2), some (vI v3), some (vI v4), none]) (S' := [vI v4, .ref 48]) rfl ?_
      obtain ⟨hi5, hj6, h⟩ := rz_gx_inv h
      refine rz_B.iald rfl rfl hi5 hj6 (by decide) ?_
      refine rz_B.go 4 (pc' := if decide (Int32.ofInt (A.1 48 (v4).toNat) < Int32.ofInt (-13)) = true then 78 else 39) (L' := [some (.ref 43), some (vI v1), some (vI v2), some (vI v3), some (vI v4), some (vI (A.1 48 (v4).toNat))]) (S' := []) rfl ?_
      by_cases hc7 : (-13) ≤ (A.1 48 (v4).toNat)
      · have h := if_T h hc7
        refine rz_B.ifF (mt (lt32 (hw 48 (v4).toNat).1 (by decide)).mp (Int.not_lt.mpr hc7)) ?_
        refine rz_B.go 3 (pc' := if decide (Int32.ofInt v3 < Int32.ofInt 60) = true then 47 else 45) (L' := [some (.ref 43), some (vI v1), some (vI v2), some (vI v3), some (vI v4), some (vI (A.1 48 (v4).toNat))]) (S' := []) rfl ?_
        by_cases hc8 : 60 ≤ v3
        · have h := if_T h hc8
          refine rz_B.ifF (mt (lt32 hv3 (by decide)).mp (Int.not_lt.mpr hc8)) ?_
          refine rz_B.go 1 (pc' := 46) (L' := [some (.ref 43), some (vI v1), some (vI v2), some (vI v3), some (vI v4), some (vI (A.1 48 (v4).toNat))]) (S' := [vI 0]) rfl ?_
          cases h
          exact rz_B.ret rfl (by decide) hw
        · have h := if_F h hc8
          refine rz_B.ifT ((lt32 hv3 (by decide)).mpr (Int.not_le.mp hc8)) ?_
          refine rz_B.go 5 (pc' := if decide (Int32.ofInt (A.1 48 (v4).toNat) < Int32.ofInt 0) = true then 62 else 57) (L' := [some (.ref 43), some (vI v1), some (vI v2), some (vI v3), some (vI v4), some (vI (A.1 48 (v4).toNat))]) (S' := [vI v3, .ref 50]) rfl ?_
          by_cases hc9 : 0 ≤ (A.1 48 (v4).toNat)
          · have h := if_T h hc9
            refine rz_B.ifF (mt (lt32 (hw 48 (v4).toNat).1 (by decide)).mp (Int.not_lt.mpr hc9)) ?_
            refine rz_B.go 2 (pc' := 71) (L' := [some (.ref 43), some (vI v1), some (vI v2), some (vI v3), some (vI v4), some (vI (A.1 48 (v4).toNat))]) (S' := [vI (A.1 48 (v4).toNat), vI v3, .ref 50]) rfl ?_
            obtain ⟨hi10, hj11, h⟩ := rz_gx_inv h
            refine rz_B.iast rfl rfl hi10 hj11 (by decide) ?_
            have hw12 : wf (aI A 50 (v3).toNat (A.1 48 (v4).toNat)) := wf_aI hw (hw 48 (v4).toNat).1
            obtain ⟨hk13, h⟩ := rz_g32_inv h
            refine rz_B.iinc rfl (by decide) rfl (L' := [some (.ref 43), some (vI v1), some (vI v2), some (vI (v3 + 1)), some (vI v4), some (vI (A.1 48 (v4).toNat))]) rfl ?_
            refine rz_B.go 1 (pc' := 152) (L' := [some (.ref 43), some (vI v1), some (vI v2), some (vI (v3 + 1)), some (vI v4), some (vI (A.1 48 (v4).toNat))]) (S' := []) rfl ?_
            obtain ⟨hk14, h⟩ := rz_g32_inv h
            refine rz_B.iinc rfl (by decide) rfl (L' := [some (.ref 43), some (vI v1), some (vI v2), some (vI (v3 + 1)), some (vI (v4 + 1)), some (vI (A.1 48 (v4).toNat))]) rfl ?_
            refine rz_B.go 1 (pc' := 10) (L' := [some (.ref 43), some (vI v1), some (vI v2), some (vI (v3 + 1)), some (vI (v4 + 1)), some (vI (A.1 48 (v4).toNat))]) (S' := []) rfl ?_
            refine rz_B.more (rg_le_ok (L := [some (.ref 43), some (vI v1), some (vI v2), some (vI (v3 + 1)), some (vI (v4 + 1)), none]) (by simp [rg_le])) ?_
            exact ih _ _ _ _ _ _ _ h hv1 hv2 hk13 hk14 hw12
          · have h := if_F h hc9
            refine rz_B.ifT ((lt32 (hw 48 (v4).toNat).1 (by decide)).mpr (Int.not_le.mp hc9)) ?_
            refine rz_B.go 4 (pc' := 69) (L' := [some (.ref 43), some (vI v1), some (vI v2), some (vI v3), some (vI v4), some (vI (A.1 48 (v4).toNat))]) (S' := [vI (A.1 48 (v4).toNat), vI (-1), .ref 49, vI v3, .ref 50]) rfl ?_
            obtain ⟨hk15, h⟩ := rz_g32_inv h
            refine rz_B.isub rfl ?_
            obtain ⟨hi16, hj17, h⟩ := rz_gx_inv h
            refine rz_B.iald rfl rfl hi16 hj17 (by decide) ?_
            obtain ⟨hi18, hj19, h⟩ := rz_gx_inv h
            refine rz_B.iast rfl rfl hi18 hj19 (by decide) ?_
            have hw20 : wf (aI A 50 (v3).toNat (A.1 49 (((-1) - (A.1 48 (v4).toNat))).toNat)) := wf_aI hw (hw 49 (((-1) - (A.1 48 (v4).toNat))).toNat).1
            obtain ⟨hk21, h⟩ := rz_g32_inv h
            refine rz_B.iinc rfl (by decide) rfl (L' := [some (.ref 43), some (vI v1), some (vI v2), some (vI (v3 + 1)), some (vI v4), some (vI (A.1 48 (v4).toNat))]) rfl ?_
            refine rz_B.go 1 (pc' := 152) (L' := [some (.ref 43), some (vI v1), some (vI v2), some (vI (v3 + 1)), some (vI v4), some (vI (A.1 48 (v4).toNat))]) (S' := []) rfl ?_
            obtain ⟨hk22, h⟩ := rz_g32_inv h
            refine rz_B.iinc rfl (by decide) rfl (L' := [some (.ref 43), some (vI v1), some (vI v2), some (vI (v3 + 1)), some (vI (v4 + 1)), some (vI (A.1 48 (v4).toNat))]) rfl ?_
            refine rz_B.go 1 (pc' := 10) (L' := [some (.ref 43), some (vI v1), some (vI v2), some (vI (v3 + 1)), some (vI (v4 + 1)), some (vI (A.1 48 (v4).toNat))]) (S' := []) rfl ?_
            refine rz_B.more (rg_le_ok (L := [some (.ref 43), some (vI v1), some (vI v2), some (vI (v3 + 1)), some (vI (v4 + 1)), none]) (by simp [rg_le])) ?_
            exact ih _ _ _ _ _ _ _ h hv1 hv2 hk21 hk22 hw20
      · have h := if_F h hc7
        refine rz_B.ifT ((lt32 (hw 48 (v4).toNat).1 (by decide)).mpr (Int.not_le.mp hc7)) ?_
        refine rz_B.go 3 (pc' := if decide (¬ Int32.ofInt (A.1 48 (v4).toNat) = Int32.ofInt (-20)) = true then 113 else 85) (L' := [some (.ref 43), some (vI v1), some (vI v2), some (vI v3), some (vI v4), some (vI (A.1 48 (v4).toNat))]) (S' := []) rfl ?_
        by_cases hc23 : (A.1 48 (v4).toNat) = (-20)
        · have h := if_T h hc23
          refine rz_B.ifF (fun hn => hn ((eq32 (hw 48 (v4).toNat).1 (by decide)).mpr hc23)) ?_
          refine rz_B.go 3 (pc' := if decide (Int32.ofInt 1 ≤ Int32.ofInt v3) = true then 92 else 90) (L' := [some (.ref 43), some (vI v1), some (vI v2), some (vI v3), some (vI v4), some (vI (A.1 48 (v4).toNat))]) (S' := []) rfl ?_
          by_cases hc24 : v3 < 1
          · have h := if_T h hc24
            refine rz_B.ifF (mt (le32 (by decide) hv3).mp (Int.not_le.mpr hc24)) ?_
            refine rz_B.go 1 (pc' := 91) (L' := [some (.ref 43), some (vI v1), some (vI v2), some (vI v3), some (vI v4), some (vI (A.1 48 (v4).toNat))]) (S' := [vI 0]) rfl ?_
            cases h
            exact rz_B.ret rfl (by decide) hw
          · have h := if_F h hc24
            refine rz_B.ifT ((le32 (by decide) hv3).mpr (Int.not_lt.mp hc24)) ?_
            refine rz_B.go 4 (pc' := 98) (L' := [some (.ref 43), some (vI v1), some (vI v2), some (vI v3), some (vI v4), some (vI (A.1 48 (v4).toNat))]) (S' := [vI 1, vI v3, .ref 50]) rfl ?_
            obtain ⟨hk25, h⟩ := rz_g32_inv h
            refine rz_B.isub rfl ?_
            refine rz_B.go 5 (pc' := 106) (L' := [some (.ref 43), some (vI v1), some (vI v2), some (vI v3), some (vI v4), some (vI (A.1 48 (v4).toNat))]) (S' := [vI 1, vI v3, .ref 50, vI 1, vI (v3 - 1), .ref 50]) rfl ?_
            refine rz_B.isub rfl ?_
            obtain ⟨hi26, hj27, h⟩ := rz_gx_inv h
            refine rz_B.iald rfl rfl hi26 hj27 (by decide) ?_
            obtain ⟨hk28, h⟩ := rz_g32_inv h
            refine rz_B.isub rfl ?_
            refine rz_B.iast rfl rfl hi26 hj27 (by decide) ?_
            have hw29 : wf (aI A 50 ((v3 - 1)).toNat (1 - (A.1 50 ((v3 - 1)).toNat))) := wf_aI hw hk28
            refine rz_B.go 1 (pc' := 152) (L' := [some (.ref 43), some (vI v1), some (vI v2), some (vI v3), some (vI v4), some (vI (A.1 48 (v4).toNat))]) (S' := []) rfl ?_
            obtain ⟨hk30, h⟩ := rz_g32_inv h
            refine rz_B.iinc rfl (by decide) rfl (L' := [some (.ref 43), some (vI v1), some (vI v2), some (vI v3), some (vI (v4 + 1)), some (vI (A.1 48 (v4).toNat))]) rfl ?_
            refine rz_B.go 1 (pc' := 10) (L' := [some (.ref 43), some (vI v1), some (vI v2), some (vI v3), some (vI (v4 + 1)), some (vI (A.1 48 (v4).toNat))]) (S' := []) rfl ?_
            refine rz_B.more (rg_le_ok (L := [some (.ref 43), some (vI v1), some (vI v2), some (vI v3), some (vI (v4 + 1)), none]) (by simp [rg_le])) ?_
            exact ih _ _ _ _ _ _ _ h hv1 hv2 hv3 hk30 hw29
        · have h := if_F h hc23
          refine rz_B.ifT (mt (eq32 (hw 48 (v4).toNat).1 (by decide)).mp hc23) ?_
          refine rz_B.go 3 (pc' := if decide (Int32.ofInt 2 ≤ Int32.ofInt v3) = true then 120 else 118) (L' := [some (.ref 43), some (vI v1), some (vI v2), some (vI v3), some (vI v4), some (vI (A.1 48 (v4).toNat))]) (S' := []) rfl ?_
          by_cases hc31 : v3 < 2
          · have h := if_T h hc31
            refine rz_B.ifF (mt (le32 (by decide) hv3).mp (Int.not_le.mpr hc31)) ?_
            refine rz_B.go 1 (pc' := 119) (L' := [some (.ref 43), some (vI v1), some (vI v2), some (vI v3), some (vI v4), some (vI (A.1 48 (v4).toNat))]) (S' := [vI 0]) rfl ?_
            cases h
            exact rz_B.ret rfl (by decide) hw
          · have h := if_F h hc31
            refine rz_B.ifT ((le32 (by decide) hv3).mpr (Int.not_lt.mp hc31)) ?_
            obtain ⟨hk32, h⟩ := rz_g32_inv h
            refine rz_B.iinc rfl (by decide) rfl (L' := [some (.ref 43), some (vI v1), some (vI v2), some (vI (v3 + (-1))), some (vI v4), some (vI (A.1 48 (v4).toNat))]) rfl ?_
            refine rz_B.go 4 (pc' := 129) (L' := [some (.ref 43), some (vI v1), some (vI v2), some (vI (v3 + (-1))), some (vI v4), some (vI (A.1 48 (v4).toNat))]) (S' := [vI 1, vI (v3 + (-1)), .ref 50]) rfl ?_
            obtain ⟨hk33, h⟩ := rz_g32_inv h
            refine rz_B.isub rfl ?_
            refine rz_B.go 5 (pc' := 138) (L' := [some (.ref 43), some (vI v1), some (vI v2), some (vI (v3 + (-1))), some (vI v4), some (vI (A.1 48 (v4).toNat))]) (S' := [vI 1, vI (v3 + (-1)), .ref 50, vI (A.1 48 (v4).toNat), vI ((v3 + (-1)) - 1), .ref 50]) rfl ?_
            refine rz_B.isub rfl ?_
            obtain ⟨hi34, hj35, h⟩ := rz_gx_inv h
            refine rz_B.iald rfl rfl hi34 hj35 (by decide) ?_
            refine rz_B.i2l rfl (hw 50 (((v3 + (-1)) - 1)).toNat).1 ?_
            refine rz_B.go 3 (pc' := 146) (L' := [some (.ref 43), some (vI v1), some (vI v2), some (vI (v3 + (-1))), some (vI v4), some (vI (A.1 48 (v4).toNat))]) (S' := [vI (v3 + (-1)), .ref 50, vL (A.1 50 (((v3 + (-1)) - 1)).toNat), vI (A.1 48 (v4).toNat), vI ((v3 + (-1)) - 1), .ref 50]) rfl ?_
            obtain ⟨hi36, hj37, h⟩ := rz_gx_inv h
            refine rz_B.iald rfl rfl hi36 hj37 (by decide) ?_
            refine rz_B.i2l rfl (hw 50 ((v3 + (-1))).toNat).1 ?_
            obtain ⟨r38, A38, hf38, h⟩ := rz_b_inv h
            obtain ⟨hg38, hr38, hw38⟩ := cx26_joined F (d := d + 0) hf38 (hw 48 (v4).toNat).1 (r64_of (hw 50 (((v3 + (-1)) - 1)).toNat).1) (r64_of (hw 50 ((v3 + (-1))).toNat).1) hw
            refine rz_B.call (d := d + 2) (as := [vI (A.1 48 (v4).toNat), vL (A.1 50 (((v3 + (-1)) - 1)).toNat), vL (A.1 50 ((v3 + (-1))).toNat)]) (rest := [vI ((v3 + (-1)) - 1), .ref 50]) (w := some (vI r38)) rfl hg38 ?_
            refine rz_B.iast rfl rfl hi34 hj35 (by decide) ?_
            have hw39 : wf (aI A38 50 (((v3 + (-1)) - 1)).toNat r38) := wf_aI hw38 hr38
            obtain ⟨hk40, h⟩ := rz_g32_inv h
            refine rz_B.iinc rfl (by decide) rfl (L' := [some (.ref 43), some (vI v1), some (vI v2), some (vI (v3 + (-1))), some (vI (v4 + 1)), some (vI (A.1 48 (v4).toNat))]) rfl ?_
            refine rz_B.go 1 (pc' := 10) (L' := [some (.ref 43), some (vI v1), some (vI v2), some (vI (v3 + (-1))), some (vI (v4 + 1)), some (vI (A.1 48 (v4).toNat))]) (S' := []) rfl ?_
            refine rz_B.more (rg_le_ok (L := [some (.ref 43), some (vI v1), some (vI v2), some (vI (v3 + (-1))), some (vI (v4 + 1)), none]) (by simp [rg_le])) ?_
            exact ih _ _ _ _ _ _ _ h hv1 hv2 hk32 hk40 hw39
    · have h := if_F h hc4
      refine rz_B.ifT ((le32 hk3 hv4).mpr (Int.not_lt.mp hc4)) ?_
      refine rz_B.more (rg_le_ok (L := [some (.ref 43), none, none, some (vI v3), none, none]) (by simp [rg_le])) ?_
      exact cx25_holds_158 F _ _ _ _ h hv3 hw
/-- RiverGauge$Standards.holds(I)Z -/
def x25_holds (F : Nat) (a0 : Int) (A : rz_A) : Option (Int × rz_A) :=
  rz_g32 (a0 * 60) <|
  x25_holds_10 F F a0 (a0 * 60) 0 (a0 * 60) A
theorem cx25_holds (F : Nat) {d : Nat} {a0 : Int} {A : rz_A} {r : Int} {A' : rz_A} (h : x25_holds F a0 A = some (r, A')) (ha0 : r32 a0) (hw : wf A) : rg_Rn (d + 3) 25 [.ref 43, vI a0] (toM A) (some (vI r)) (toM A') ∧ (r32 r) ∧ wf A' := by
  show rz_B (d + 3) 25 0 [some (.ref 43), some (vI a0), none, none, none, none] [] A (some (vI r)) A' (r32 r)
  unfold x25_holds at h
  refine rz_B.go 2 (pc' := 3) (L' := [some (.ref 43), some (vI a0), none, none, none, none]) (S' := [vI 60, vI a0]) rfl ?_
  obtain ⟨hk1, h⟩ := rz_g32_inv h
  refine rz_B.imul rfl ?_
  refine rz_B.go 5 (pc' := 10) (L' := [some (.ref 43), some (vI a0), some (vI (a0 * 60)), some (vI 0), some (vI (a0 * 60)), none]) (S' := []) rfl ?_
  refine rz_B.more (rg_le_ok (L := [some (.ref 43), some (vI a0), some (vI (a0 * 60)), some (vI 0), some (vI (a0 * 60)), none]) (by simp [rg_le])) ?_
  exact cx25_holds_10 F F _ _ _ _ _ _ _ h ha0 hk1 (by decide) hk1 hw
/-- java/lang/Math.abs(I)I -/
def x24_abs (F : Nat) (a0 : Int) (A : rz_A) : Option (Int × rz_A) :=
  if a0 < 0 then
    rz_g32 (-a0) <|
    some ((-a0), A)
  else
    some (a0, A)
theorem cx24_abs (F : Nat) {d : Nat} {a0 : Int} {A : rz_A} {r : Int} {A' : rz_A} (h : x24_abs F a0 A = some (r, A')) (ha0 : r32 a0) (hw : wf A) : rg_Rn (d + 0) 24 [vI a0] (toM A) (some (vI r)) (toM A') ∧ (r32 r) ∧ wf A' := by
  show rz_B (d + 0) 24 0 [some (vI a0)] [] A (some (vI r)) A' (r32 r)
  unfold x24_abs at h
  refine rz_B.go 2 (pc' := if decide (Int32.ofInt 0 ≤ Int32.ofInt a0) = true then 9 else 4) (L' := [some (vI a0)]) (S' := []) rfl ?_
  by_cases hc1 : a0 < 0
  · have h := if_T h hc1
    refine rz_B.ifF (mt (le32 (by decide) ha0).mp (Int.not_le.mpr hc1)) ?_
    refine rz_B.go 1 (pc' := 5) (L' := [some (vI a0)]) (S' := [vI a0]) rfl ?_
    obtain ⟨hk2, h⟩ := rz_g32_inv h
    refine rz_B.ineg rfl ?_
    refine rz_B.go 1 (pc' := 10) (L' := [some (vI a0)]) (S' := [vI (-a0)]) rfl ?_
    cases h
    exact rz_B.ret rfl hk2 hw
  · have h := if_F h hc1
    refine rz_B.ifT ((le32 (by decide) ha0).mpr (Int.not_lt.mp hc1)) ?_
    refine rz_B.go 1 (pc' := 10) (L' := [some (vI a0)]) (S' := [vI a0]) rfl ?_
    cases h
    exact rz_B.ret rfl ha0 hw
/-- RiverGauge$View.isStruckByText(II)Z -/
def x21_isStruckByText (F : Nat) (a0 : Int) (a1 : Int) (A : rz_A) : Option (Int × rz_A) :=
  rz_gx a0 300 <|
  rz_g32 ((A.1 20 (a0).toNat).tdiv 96) <|
  rz_b (x22_inForce F 0 ((A.1 20 (a0).toNat).tdiv 96) (A.1 51 3) A) fun r4 A4 =>
  if r4 < 0 then
    some (0, A4)
  else
    rz_b (x23_lettersOf F (A.1 20 (a0).toNat) A4) fun _ A6 =>
    if a1 < 0 then
      rz_b (x25_holds F r4 (aI (aI (aI (aI A6 49 2 (A6.1 22 (a0).toNat)) 49 3 (A6.1 21 (a0).toNat)) 49 4 0) 49 5 9999)) fun r12 A12 =>
      rz_gz r12 <|
      some (r12, A12)
    else
      rz_gx a1 300 <|
      rz_g32 ((A6.1 22 (a0).toNat) - (A6.1 22 (a1).toNat)) <|
      rz_b (x24_abs F ((A6.1 22 (a0).toNat) - (A6.1 22 (a1).toNat)) (aI (aI A6 49 2 (A6.1 22 (a0).toNat)) 49 3 (A6.1 21 (a0).toNat))) fun r17 A17 =>
      rz_g32 ((A.1 20 (a0).toNat) - (A17.1 20 (a1).toNat)) <|
      rz_b (x25_holds F r4 (aI (aI A17 49 4 r17) 49 5 ((A.1 20 (a0).toNat) - (A17.1 20 (a1).toNat)))) fun r21 A21 =>
      rz_gz r21 <|
      some (r21, A21)
theorem cx21_isStruckByText (F : Nat) {d : Nat} {a0 : Int} {a1 : Int} {A : rz_A} {r : Int} {A' : rz_A} (h : x21_isStruckByText F a0 a1 A = some (r, A')) (ha0 : r32 a0) (ha1 : r32 a1) (hw : wf A) : rg_Rn (d + 4) 21 [.ref 51, vI a0, vI a1] (toM A) (some (vI r)) (toM A') ∧ (r32 r) ∧ wf A' := by
  show rz_B (d + 4) 21 0 [some (.ref 51), some (vI a0), some (vI a1), none, none, none] [] A (some (vI r)) A' (r32 r)
  unfold x21_isStruckByText at h
  refine rz_B.go 4 (pc' := 8) (L' := [some (.ref 51), some (vI a0), some (vI a1), none, none, none]) (S' := [vI a0, .ref 20]) rfl ?_
  obtain ⟨hi1, hj2, h⟩ := rz_gx_inv h
  refine rz_B.iald rfl rfl hi1 hj2 (by decide) ?_
  refine rz_B.go 6 (pc' := 18) (L' := [some (.ref 51), some (vI a0), some (vI a1), some (vI (A.1 20 (a0).toNat)), none, none]) (S' := [vI 96, vI (A.1 20 (a0).toNat), vI 0, .ref 43]) rfl ?_
  obtain ⟨hk3, h⟩ := rz_g32_inv h
  refine rz_B.idiv rfl (hw 20 (a0).toNat).1 (by decide) (by decide) ?_
  refine rz_B.go 2 (pc' := 23) (L' := [some (.ref 51), some (vI a0), some (vI a1), some (vI (A.1 20 (a0).toNat)), none, none]) (S' := [vI (A.1 51 3), vI ((A.1 20 (a0).toNat).tdiv 96), vI 0, .ref 43]) rfl ?_
  obtain ⟨r4, A4, hf4, h⟩ := rz_b_inv h
  obtain ⟨hg4, hr4, hw4⟩ := cx22_inForce F (d := d + 3) hf4 (by decide) hk3 (hw 51 3).1 hw
  refine rz_B.call (d := d + 3) (as := [.ref 43, vI 0, vI ((A.1 20 (a0).toNat).tdiv 96), vI (A.1 51 3)]) (rest := []) (w := some (vI r4)) rfl hg4 ?_
  refine rz_B.go 3 (pc' := if decide (Int32.ofInt 0 ≤ Int32.ofInt r4) = true then 35 else 33) (L' := [some (.ref 51), some (vI a0), some (vI a1), some (vI (A.1 20 (a0).toNat)), some (vI r4), none]) (S' := []) rfl ?_
  by_cases hc5 : r4 < 0
  · have h := if_T h hc5
    refine rz_B.ifF (mt (le32 (by decide) hr4).mp (Int.not_le.mpr hc5)) ?_
    refine rz_B.go 1 (pc' := 34) (L' := [some (.ref 51), some (vI a0), some (vI a1), some (vI (A.1 20 (a0).toNat)), some (vI r4), none]) (S' := [vI 0]) rfl ?_
    cases h
    exact rz_B.ret rfl (by decide) hw4
  · have h := if_F h hc5
    refine rz_B.ifT ((le32 (by decide) hr4).mpr (Int.not_lt.mp hc5)) ?_
    refine rz_B.go 3 (pc' := 40) (L' := [some (.ref 51), some (vI a0), some (vI a1), some (vI (A.1 20 (a0).toNat)), some (vI r4), none]) (S' := [vI (A.1 20 (a0).toNat), .ref 43]) rfl ?_
    obtain ⟨_, A6, hf6, h⟩ := rz_b_inv h
    obtain ⟨hg6, hr6, hw6⟩ := cx23_lettersOf F (d := d + 3) hf6 (hw 20 (a0).toNat).1 hw4
    refine rz_B.call (d := d + 3) (as := [.ref 43, vI (A.1 20 (a0).toNat)]) (rest := []) (w := some (.ref 49)) rfl hg6 ?_
    refine rz_B.go 7 (pc' := 56) (L' := [some (.ref 51), some (vI a0), some (vI a1), some (vI (A.1 20 (a0).toNat)), some (vI r4), some (.ref 49)]) (S' := [vI a0, .ref 22, vI 2, .ref 49]) rfl ?_
    refine rz_B.iald rfl rfl hi1 hj2 (by decide) ?_
    refine rz_B.iast rfl rfl (by decide) (by decide) (by decide) ?_
    have hw7 : wf (aI A6 49 2 (A6.1 22 (a0).toNat)) := wf_aI hw6 (hw6 22 (a0).toNat).1
    refine rz_B.go 6 (pc' := 69) (L' := [some (.ref 51), some (vI a0), some (vI a1), some (vI (A.1 20 (a0).toNat)), some (vI r4), some (.ref 49)]) (S' := [vI a0, .ref 21, vI 3, .ref 49]) rfl ?_
    refine rz_B.iald rfl rfl hi1 hj2 (by decide) ?_
    refine rz_B.iast rfl rfl (by decide) (by decide) (by decide) ?_
    have hw8 : wf (aI (aI A6 49 2 (A6.1 22 (a0).toNat)) 49 3 (A6.1 21 (a0).toNat)) := wf_aI hw7 (hw6 21 (a0).toNat).1
    refine rz_B.go 4 (pc' := if decide (Int32.ofInt 0 ≤ Int32.ofInt a1) = true then 82 else 78) (L' := [some (.ref 51), some (vI a0), some (vI a1), some (vI (A.1 20 (a0).toNat)), some (vI r4), some (.ref 49)]) (S' := [vI 4, .ref 49]) rfl ?_
    by_cases hc9 : a1 < 0
    · have h := if_T h hc9
      refine rz_B.ifF (mt (le32 (by decide) ha1).mp (Int.not_le.mpr hc9)) ?_
      refine rz_B.go 2 (pc' := 104) (L' := [some (.ref 51), some (vI a0), some (vI a1), some (vI (A.1 20 (a0).toNat)), some (vI r4), some (.ref 49)]) (S' := [vI 0, vI 4, .ref 49]) rfl ?_
      refine rz_B.iast rfl rfl (by decide) (by decide) (by decide) ?_
      have hw10 : wf (aI (aI (aI A6 49 2 (A6.1 22 (a0).toNat)) 49 3 (A6.1 21 (a0).toNat)) 49 4 0) := wf_aI hw8 (by decide)
      refine rz_B.go 4 (pc' := if decide (Int32.ofInt 0 ≤ Int32.ofInt a1) = true then 118 else 112) (L' := [some (.ref 51), some (vI a0), some (vI a1), some (vI (A.1 20 (a0).toNat)), some (vI r4), some (.ref 49)]) (S' := [vI 5, .ref 49]) rfl ?_
      refine rz_B.ifF (mt (le32 (by decide) ha1).mp (Int.not_le.mpr hc9)) ?_
      refine rz_B.go 2 (pc' := 129) (L' := [some (.ref 51), some (vI a0), some (vI a1), some (vI (A.1 20 (a0).toNat)), some (vI r4), some (.ref 49)]) (S' := [vI 9999, vI 5, .ref 49]) rfl ?_
      refine rz_B.iast rfl rfl (by decide) (by decide) (by decide) ?_
      have hw11 : wf (aI (aI (aI (aI A6 49 2 (A6.1 22 (a0).toNat)) 49 3 (A6.1 21 (a0).toNat)) 49 4 0) 49 5 9999) := wf_aI hw10 (by decide)
      refine rz_B.go 3 (pc' := 136) (L' := [some (.ref 51), some (vI a0), some (vI a1), some (vI (A.1 20 (a0).toNat)), some (vI r4), some (.ref 49)]) (S' := [vI r4, .ref 43]) rfl ?_
      obtain ⟨r12, A12, hf12, h⟩ := rz_b_inv h
      obtain ⟨hg12, hr12, hw12⟩ := cx25_holds F (d := d + 0) hf12 hr4 hw11
      refine rz_B.call (d := d + 3) (as := [.ref 43, vI r4]) (rest := []) (w := some (vI r12)) rfl hg12 ?_
      obtain ⟨hb13, h⟩ := rz_gz_inv h
      cases h
      exact rz_B.zret rfl rfl hb13 hr12 hw12
    · have h := if_F h hc9
      refine rz_B.ifT ((le32 (by decide) ha1).mpr (Int.not_lt.mp hc9)) ?_
      refine rz_B.go 4 (pc' := 90) (L' := [some (.ref 51), some (vI a0), some (vI a1), some (vI (A.1 20 (a0).toNat)), some (vI r4), some (.ref 49)]) (S' := [vI a0, .ref 22, vI 4, .ref 49]) rfl ?_
      refine rz_B.iald rfl rfl hi1 hj2 (by decide) ?_
      refine rz_B.go 4 (pc' := 99) (L' := [some (.ref 51), some (vI a0), some (vI a1), some (vI (A.1 20 (a0).toNat)), some (vI r4), some (.ref 49)]) (S' := [vI a1, .ref 22, vI (A6.1 22 (a0).toNat), vI 4, .ref 49]) rfl ?_
      obtain ⟨hi14, hj15, h⟩ := rz_gx_inv h
      refine rz_B.iald rfl rfl hi14 hj15 (by decide) ?_
      obtain ⟨hk16, h⟩ := rz_g32_inv h
      refine rz_B.isub rfl ?_
      obtain ⟨r17, A17, hf17, h⟩ := rz_b_inv h
      obtain ⟨hg17, hr17, hw17⟩ := cx24_abs F (d := d + 3) hf17 hk16 hw8
      refine rz_B.call (d := d + 3) (as := [vI ((A6.1 22 (a0).toNat) - (A6.1 22 (a1).toNat))]) (rest := [vI 4, .ref 49]) (w := some (vI r17)) rfl hg17 ?_
      refine rz_B.iast rfl rfl (by decide) (by decide) (by decide) ?_
      have hw18 : wf (aI A17 49 4 r17) := wf_aI hw17 hr17
      refine rz_B.go 4 (pc' := if decide (Int32.ofInt 0 ≤ Int32.ofInt a1) = true then 118 else 112) (L' := [some (.ref 51), some (vI a0), some (vI a1), some (vI (A.1 20 (a0).toNat)), some (vI r4), some (.ref 49)]) (S' := [vI 5, .ref 49]) rfl ?_
      refine rz_B.ifT ((le32 (by decide) ha1).mpr (Int.not_lt.mp hc9)) ?_
      refine rz_B.go 5 (pc' := 127) (L' := [some (.ref 51), some (vI a0), some (vI a1), some (vI (A.1 20 (a0).toNat)), some (vI r4), some (.ref 49)]) (S' := [vI a1, .ref 20, vI (A.1 20 (a0).toNat), vI 5, .ref 49]) rfl ?_
      refine rz_B.iald rfl rfl hi14 hj15 (by decide) ?_
      obtain ⟨hk19, h⟩ := rz_g32_inv h
      refine rz_B.isub rfl ?_
      refine rz_B.iast rfl rfl (by decide) (by decide) (by decide) ?_
      have hw20 : wf (aI (aI A17 49 4 r17) 49 5 ((A.1 20 (a0).toNat) - (A17.1 20 (a1).toNat))) := wf_aI hw18 hk19
      refine rz_B.go 3 (pc' := 136) (L' := [some (.ref 51), some (vI a0), some (vI a1), some (vI (A.1 20 (a0).toNat)), some (vI r4), some (.ref 49)]) (S' := [vI r4, .ref 43]) rfl ?_
      obtain ⟨r21, A21, hf21, h⟩ := rz_b_inv h
      obtain ⟨hg21, hr21, hw21⟩ := cx25_holds F (d := d + 0) hf21 hr4 hw20
      refine rz_B.call (d := d + 3) (as := [.ref 43, vI r4]) (rest := []) (w := some (vI r21)) rfl hg21 ?_
      obtain ⟨hb22, h⟩ := rz_gz_inv h
      cases h
      exact rz_B.zret rfl rfl hb22 hr21 hw21
def x30_keep_101 (F : Nat) (v1 : Int) (v2 : Int) (v3 : Int) (v4 : Int) (A : rz_A) : Option (Unit × rz_A) :=
  rz_g32 ((A.1 51 10) - 1) <|
  rz_gx ((A.1 51 10) - 1) 300 <|
  rz_gx v1 300 <|
  rz_b (x11_zeroOf F v2 v3 (A.1 51 3) (aI (aI A 53 (((A.1 51 10) - 1)).toNat v4) 55 (((A.1 51 10) - 1)).toNat (A.1 21 (v1).toNat))) fun r8 A8 =>
  rz_g32 ((A.1 22 (v1).toNat) + r8) <|
  some ((), (aI A8 54 (((A.1 51 10) - 1)).toNat ((A.1 22 (v1).toNat) + r8)))
theorem cx30_keep_101 {d : Nat} (F : Nat) : ∀ (v1 : Int) (v2 : Int) (v3 : Int) (v4 : Int) (A : rz_A) (r : Unit) (A' : rz_A), x30_keep_101 F v1 v2 v3 v4 A = some (r, A') → r32 v1 → r32 v2 → r32 v3 → r32 v4 → wf A → rz_B (d + 1) 30 101 [some (.ref 51), some (vI v1), some (vI v2), some (vI v3), some (vI v4), none] [] A (none) A' (True) := by
  intro v1 v2 v3 v4 A r A' h hv1 hv2 hv3 hv4 hw
  unfold x30_keep_101 at h
  refine rz_B.go 5 (pc' := 110) (L' := [some (.ref 51), some (vI v1), some (vI v2), some (vI v3), some (vI v4), none]) (S' := [vI 1, vI (A.1 51 10), .ref 53]) rfl ?_
  obtain ⟨hk1, h⟩ := rz_g32_inv h
  refine rz_B.isub rfl ?_
  refine rz_B.go 1 (pc' := 113) (L' := [some (.ref 51), some (vI v1), some (vI v2), some (vI v3), some (vI v4), none]) (S' := [vI v4, vI ((A.1 51 10) - 1), .ref 53]) rfl ?_
  obtain ⟨hi2, hj3, h⟩ := rz_gx_inv h
  refine rz_B.iast rfl rfl hi2 hj3 (by decide) ?_
  have hw4 : wf (aI A 53 (((A.1 51 10) - 1)).toNat v4) := wf_aI hw hv4
  refine rz_B.go 5 (pc' := 123) (L' := [some (.ref 51), some (vI v1), some (vI v2), some (vI v3), some (vI v4), none]) (S' := [vI 1, vI (A.1 51 10), .ref 55]) rfl ?_
  refine rz_B.isub rfl ?_
  refine rz_B.go 4 (pc' := 132) (L' := [some (.ref 51), some (vI v1), some (vI v2), some (vI v3), some (vI v4), none]) (S' := [vI v1, .ref 21, vI ((A.1 51 10) - 1), .ref 55]) rfl ?_
  obtain ⟨hi5, hj6, h⟩ := rz_gx_inv h
  refine rz_B.iald rfl rfl hi5 hj6 (by decide) ?_
  refine rz_B.iast rfl rfl hi2 hj3 (by decide) ?_
  have hw7 : wf (aI (aI A 53 (((A.1 51 10) - 1)).toNat v4) 55 (((A.1 51 10) - 1)).toNat (A.1 21 (v1).toNat)) := wf_aI hw4 (hw 21 (v1).toNat).1
  refine rz_B.go 5 (pc' := 143) (L' := [some (.ref 51), some (vI v1), some (vI v2), some (vI v3), some (vI v4), none]) (S' := [vI 1, vI (A.1 51 10), .ref 54]) rfl ?_
  refine rz_B.isub rfl ?_
  refine rz_B.go 4 (pc' := 152) (L' := [some (.ref 51), some (vI v1), some (vI v2), some (vI v3), some (vI v4), none]) (S' := [vI v1, .ref 22, vI ((A.1 51 10) - 1), .ref 54]) rfl ?_
  refine rz_B.iald rfl rfl hi5 hj6 (by decide) ?_
  refine rz_B.go 6 (pc' := 163) (L' := [some (.ref 51), some (vI v1), some (vI v2), some (vI v3), some (vI v4), none]) (S' := [vI (A.1 51 3), vI v3, vI v2, .ref 2, vI (A.1 22 (v1).toNat), vI ((A.1 51 10) - 1), .ref 54]) rfl ?_
  obtain ⟨r8, A8, hf8, h⟩ := rz_b_inv h
  obtain ⟨hg8, hr8, hw8⟩ := cx11_zeroOf F (d := d + 0) hf8 hv2 hv3 (hw 51 3).1 hw7
  refine rz_B.call (d := d + 0) (as := [.ref 2, vI v2, vI v3, vI (A.1 51 3)]) (rest := [vI (A.1 22 (v1).toNat), vI ((A.1 51 10) - 1), .ref 54]) (w := some (vI r8)) rfl hg8 ?_
  obtain ⟨hk9, h⟩ := rz_g32_inv h
  refine rz_B.iadd rfl ?_
  refine rz_B.iast rfl rfl hi2 hj3 (by decide) ?_
  have hw10 : wf (aI A8 54 (((A.1 51 10) - 1)).toNat ((A.1 22 (v1).toNat) + r8)) := wf_aI hw8 hk9
  cases h
  exact rz_B.ret rfl trivial hw10
/-- RiverGauge$View.keep(I)V -/
def x30_keep (F : Nat) (a0 : Int) (A : rz_A) : Option (Unit × rz_A) :=
  rz_gx a0 300 <|
  rz_b (x14_keyOf F (A.1 19 (a0).toNat) (A.1 20 (a0).toNat) A) fun r3 A3 =>
  if 0 < (A3.1 51 10) then
    rz_g32 ((A3.1 51 10) - 1) <|
    rz_gx ((A3.1 51 10) - 1) 300 <|
    if (A3.1 53 (((A3.1 51 10) - 1)).toNat) = r3 then
      if (A3.1 21 (a0).toNat) < (A3.1 55 (((A3.1 51 10) - 1)).toNat) then
        some ((), A3)
      else
        x30_keep_101 F a0 (A.1 19 (a0).toNat) (A.1 20 (a0).toNat) r3 A3
    else
      rz_g32 ((A3.1 51 10) + 1) <|
      x30_keep_101 F a0 (A.1 19 (a0).toNat) (A.1 20 (a0).toNat) r3 (aI A3 51 10 ((A3.1 51 10) + 1))
  else
    rz_g32 ((A3.1 51 10) + 1) <|
    x30_keep_101 F a0 (A.1 19 (a0).toNat) (A.1 20 (a0).toNat) r3 (aI A3 51 10 ((A3.1 51 10) + 1))
theorem cx30_keep (F : Nat) {d : Nat} {a0 : Int} {A : rz_A} {r : Unit} {A' : rz_A} (h : x30_keep F a0 A = some (r, A')) (ha0 : r32 a0) (hw : wf A) : rg_Rn (d + 1) 30 [.ref 51, vI a0] (toM A) (none) (toM A') ∧ (True) ∧ wf A' := by
  show rz_B (d + 1) 30 0 [some (.ref 51), some (vI a0), none, none, none, none] [] A (none) A' (True)
  unfold x30_keep at h
  refine rz_B.go 4 (pc' := 8) (L' := [some (.ref 51), some (vI a0), none, none, none, none]) (S' := [vI a0, .ref 19]) rfl ?_
  obtain ⟨hi1, hj2, h⟩ := rz_gx_inv h
  refine rz_B.iald rfl rfl hi1 hj2 (by decide) ?_
  refine rz_B.go 5 (pc' := 18) (L' := [some (.ref 51), some (vI a0), some (vI (A.1 19 (a0).toNat)), none, none, none]) (S' := [vI a0, .ref 20]) rfl ?_
  refine rz_B.iald rfl rfl hi1 hj2 (by decide) ?_
  refine rz_B.go 3 (pc' := 22) (L' := [some (.ref 51), some (vI a0), some (vI (A.1 19 (a0).toNat)), some (vI (A.1 20 (a0).toNat)), none, none]) (S' := [vI (A.1 20 (a0).toNat), vI (A.1 19 (a0).toNat)]) rfl ?_
  obtain ⟨r3, A3, hf3, h⟩ := rz_b_inv h
  obtain ⟨hg3, hr3, hw3⟩ := cx14_keyOf F (d := d + 0) hf3 (hw 19 (a0).toNat).1 (hw 20 (a0).toNat).1 hw
  refine rz_B.call (d := d + 0) (as := [vI (A.1 19 (a0).toNat), vI (A.1 20 (a0).toNat)]) (rest := []) (w := some (vI r3)) rfl hg3 ?_
  refine rz_B.go 4 (pc' := if decide (Int32.ofInt (A3.1 51 10) ≤ Int32.ofInt 0) = true then 54 else 34) (L' := [some (.ref 51), some (vI a0), some (vI (A.1 19 (a0).toNat)), some (vI (A.1 20 (a0).toNat)), some (vI r3), none]) (S' := []) rfl ?_
  by_cases hc4 : 0 < (A3.1 51 10)
  · have h := if_T h hc4
    refine rz_B.ifF (mt (le32 (hw3 51 10).1 (by decide)).mp (Int.not_le.mpr hc4)) ?_
    refine rz_B.go 5 (pc' := 43) (L' := [some (.ref 51), some (vI a0), some (vI (A.1 19 (a0).toNat)), some (vI (A.1 20 (a0).toNat)), some (vI r3), none]) (S' := [vI 1, vI (A3.1 51 10), .ref 53]) rfl ?_
    obtain ⟨hk5, h⟩ := rz_g32_inv h
    refine rz_B.isub rfl ?_
    obtain ⟨hi6, hj7, h⟩ := rz_gx_inv h
    refine rz_B.iald rfl rfl hi6 hj7 (by decide) ?_
    refine rz_B.go 2 (pc' := if decide (¬ Int32.ofInt (A3.1 53 (((A3.1 51 10) - 1)).toNat) = Int32.ofInt r3) = true then 54 else 50) (L' := [some (.ref 51), some (vI a0), some (vI (A.1 19 (a0).toNat)), some (vI (A.1 20 (a0).toNat)), some (vI r3), none]) (S' := []) rfl ?_
    by_cases hc8 : (A3.1 53 (((A3.1 51 10) - 1)).toNat) = r3
    · have h := if_T h hc8
      refine rz_B.ifF (fun hn => hn ((eq32 (hw3 53 (((A3.1 51 10) - 1)).toNat).1 hr3).mpr hc8)) ?_
      refine rz_B.go 10 (pc' := 71) (L' := [some (.ref 51), some (vI a0), some (vI (A.1 19 (a0).toNat)), some (vI (A.1 20 (a0).toNat)), some (vI r3), some (vI 1)]) (S' := [vI 1, vI (A3.1 51 10), .ref 55]) rfl ?_
      refine rz_B.isub rfl ?_
      refine rz_B.iald rfl rfl hi6 hj7 (by decide) ?_
      refine rz_B.go 4 (pc' := 81) (L' := [some (.ref 51), some (vI a0), some (vI (A.1 19 (a0).toNat)), some (vI (A.1 20 (a0).toNat)), some (vI r3), some (vI 1)]) (S' := [vI a0, .ref 21, vI (A3.1 55 (((A3.1 51 10) - 1)).toNat)]) rfl ?_
      refine rz_B.iald rfl rfl hi1 hj2 (by decide) ?_
      refine rz_B.go 1 (pc' := if decide (Int32.ofInt (A3.1 55 (((A3.1 51 10) - 1)).toNat) ≤ Int32.ofInt (A3.1 21 (a0).toNat)) = true then 86 else 85) (L' := [some (.ref 51), some (vI a0), some (vI (A.1 19 (a0).toNat)), some (vI (A.1 20 (a0).toNat)), some (vI r3), some (vI 1)]) (S' := []) rfl ?_
      by_cases hc9 : (A3.1 21 (a0).toNat) < (A3.1 55 (((A3.1 51 10) - 1)).toNat)
      · have h := if_T h hc9
        refine rz_B.ifF (mt (le32 (hw3 55 (((A3.1 51 10) - 1)).toNat).1 (hw3 21 (a0).toNat).1).mp (Int.not_le.mpr hc9)) ?_
        cases h
        exact rz_B.ret rfl trivial hw3
      · have h := if_F h hc9
        refine rz_B.ifT ((le32 (hw3 55 (((A3.1 51 10) - 1)).toNat).1 (hw3 21 (a0).toNat).1).mpr (Int.not_lt.mp hc9)) ?_
        refine rz_B.go 2 (pc' := 101) (L' := [some (.ref 51), some (vI a0), some (vI (A.1 19 (a0).toNat)), some (vI (A.1 20 (a0).toNat)), some (vI r3), some (vI 1)]) (S' := []) rfl ?_
        refine rz_B.more (rg_le_ok (L := [some (.ref 51), some (vI a0), some (vI (A.1 19 (a0).toNat)), some (vI (A.1 20 (a0).toNat)), some (vI r3), none]) (by simp [rg_le])) ?_
        exact cx30_keep_101 F _ _ _ _ _ _ _ h ha0 (hw 19 (a0).toNat).1 (hw 20 (a0).toNat).1 hr3 hw3
    · have h := if_F h hc8
      refine rz_B.ifT (mt (eq32 (hw3 53 (((A3.1 51 10) - 1)).toNat).1 hr3).mp hc8) ?_
      refine rz_B.go 10 (pc' := 97) (L' := [some (.ref 51), some (vI a0), some (vI (A.1 19 (a0).toNat)), some (vI (A.1 20 (a0).toNat)), some (vI r3), some (vI 0)]) (S' := [vI 1, vI (A3.1 51 10), .ref 51]) rfl ?_
      obtain ⟨hk10, h⟩ := rz_g32_inv h
      refine rz_B.iadd rfl ?_
      refine rz_B.put 1 (pc' := 101) (L' := [some (.ref 51), some (vI a0), some (vI (A.1 19 (a0).toNat)), some (vI (A.1 20 (a0).toNat)), some (vI r3), some (vI 0)]) (S' := []) (c := 51) (k := 10) (x := ((A3.1 51 10) + 1)) rfl ?_
      have hw11 : wf (aI A3 51 10 ((A3.1 51 10) + 1)) := wf_aI hw3 hk10
      refine rz_B.more (rg_le_ok (L := [some (.ref 51), some (vI a0), some (vI (A.1 19 (a0).toNat)), some (vI (A.1 20 (a0).toNat)), some (vI r3), none]) (by simp [rg_le])) ?_
      exact cx30_keep_101 F _ _ _ _ _ _ _ h ha0 (hw 19 (a0).toNat).1 (hw 20 (a0).toNat).1 hr3 hw11
  · have h := if_F h hc4
    refine rz_B.ifT ((le32 (hw3 51 10).1 (by decide)).mpr (Int.not_lt.mp hc4)) ?_
    refine rz_B.go 10 (pc' := 97) (L' := [some (.ref 51), some (vI a0), some (vI (A.1 19 (a0).toNat)), some (vI (A.1 20 (a0).toNat)), some (vI r3), some (vI 0)]) (S' := [vI 1, vI (A3.1 51 10), .ref 51]) rfl ?_
    obtain ⟨hk12, h⟩ := rz_g32_inv h
    refine rz_B.iadd rfl ?_
    refine rz_B.put 1 (pc' := 101) (L' := [some (.ref 51), some (vI a0), some (vI (A.1 19 (a0).toNat)), some (vI (A.1 20 (a0).toNat)), some (vI r3), some (vI 0)]) (S' := []) (c := 51) (k := 10) (x := ((A3.1 51 10) + 1)) rfl ?_
    have hw13 : wf (aI A3 51 10 ((A3.1 51 10) + 1)) := wf_aI hw3 hk12
    refine rz_B.more (rg_le_ok (L := [some (.ref 51), some (vI a0), some (vI (A.1 19 (a0).toNat)), some (vI (A.1 20 (a0).toNat)), some (vI r3), none]) (by simp [rg_le])) ?_
    exact cx30_keep_101 F _ _ _ _ _ _ _ h ha0 (hw 19 (a0).toNat).1 (hw 20 (a0).toNat).1 hr3 hw13
def x20_see_95 (F : Nat) (k45 : (Int → Int → rz_A → Option (Unit × rz_A))) (v2 : Int) (v3 : Int) (v4 : Int) (A : rz_A) : Option (Unit × rz_A) :=
  rz_gx v4 300 <|
  if (A.1 23 (v4).toNat) ≤ (A.1 51 3) then
    rz_b (x17_isStuck F v4 (aI A 52 (v4).toNat 0)) fun r5 A5 =>
    if r5 = 0 then
      if (A5.1 24 (v4).toNat) ≤ (A5.1 51 3) then
        rz_g32 (v3 + 1) <|
        k45 v2 (v3 + 1) (aI A5 52 (v4).toNat 2)
      else
        rz_b (x21_isStruckByText F v4 v2 A5) fun r10 A10 =>
        if r10 = 0 then
          rz_b (x30_keep F v4 A10) fun _ A12 =>
          rz_g32 (v3 + 1) <|
          k45 v4 (v3 + 1) A12
        else
          rz_g32 (v3 + 1) <|
          k45 v4 (v3 + 1) (aI A10 52 (v4).toNat 1)
    else
      rz_g32 (v3 + 1) <|
      k45 v2 (v3 + 1) A5
  else
    rz_g32 (v3 + 1) <|
    k45 v2 (v3 + 1) (aI A 52 (v4).toNat 0)
theorem cx20_see_95 {d : Nat} (F : Nat) {k45 : (Int → Int → rz_A → Option (Unit × rz_A))} (hkk45 : ∀ (v2 : Int) (v3 : Int) (A : rz_A) (r : Unit) (A' : rz_A), k45 v2 v3 A = some (r, A') → r32 v2 → r32 v3 → wf A → rz_B (d + 5) 20 45 [some (.ref 51), none, some (vI v2), some (vI v3), none] [] A (none) A' (True)) : ∀ (v2 : Int) (v3 : Int) (v4 : Int) (A : rz_A) (r : Unit) (A' : rz_A), x20_see_95 F k45 v2 v3 v4 A = some (r, A') → r32 v2 → r32 v3 → r32 v4 → wf A → rz_B (d + 5) 20 95 [some (.ref 51), none, some (vI v2), some (vI v3), some (vI v4)] [] A (none) A' (True) := by
  intro v2 v3 v4 A r A' h hv2 hv3 hv4 hw
  unfold x20_see_95 at h
  refine rz_B.go 4 (pc' := 102) (L' := [some (.ref 51), none, some (vI v2), some (vI v3), some (vI v4)]) (S' := [vI 0, vI v4, .ref 52]) rfl ?_
  obtain ⟨hi1, hj2, h⟩ := rz_gx_inv h
  refine rz_B.iast rfl rfl hi1 hj2 (by decide) ?_
  have hw3 : wf (aI A 52 (v4).toNat 0) := wf_aI hw (by decide)
  refine rz_B.go 4 (pc' := 112) (L' := [some (.ref 51), none, some (vI v2), some (vI v3), some (vI v4)]) (S' := [vI v4, .ref 23]) rfl ?_
  refine rz_B.iald rfl rfl hi1 hj2 (by decide) ?_
  refine rz_B.go 3 (pc' := if decide (Int32.ofInt (A.1 51 3) < Int32.ofInt (A.1 23 (v4).toNat)) = true then 193 else 120) (L' := [some (.ref 51), none, some (vI v2), some (vI v3), some (vI v4)]) (S' := []) rfl ?_
  by_cases hc4 : (A.1 23 (v4).toNat) ≤ (A.1 51 3)
  · have h := if_T h hc4
    refine rz_B.ifF (mt (lt32 (hw 51 3).1 (hw 23 (v4).toNat).1).mp (Int.not_lt.mpr hc4)) ?_
    refine rz_B.go 3 (pc' := 126) (L' := [some (.ref 51), none, some (vI v2), some (vI v3), some (vI v4)]) (S' := [vI v4, .ref 18]) rfl ?_
    obtain ⟨r5, A5, hf5, h⟩ := rz_b_inv h
    obtain ⟨hg5, hr5, hw5⟩ := cx17_isStuck F (d := d + 4) hf5 hv4 hw3
    refine rz_B.call (d := d + 4) (as := [.ref 18, vI v4]) (rest := []) (w := some (vI r5)) rfl hg5 ?_
    refine rz_B.go 1 (pc' := if decide (Int32.ofInt r5 = Int32.ofInt 0) = true then 135 else 132) (L' := [some (.ref 51), none, some (vI v2), some (vI v3), some (vI v4)]) (S' := []) rfl ?_
    by_cases hc6 : r5 = 0
    · have h := if_T h hc6
      refine rz_B.ifT ((eq32 hr5 (by decide)).mpr hc6) ?_
      refine rz_B.go 4 (pc' := 144) (L' := [some (.ref 51), none, some (vI v2), some (vI v3), some (vI v4)]) (S' := [vI v4, .ref 24]) rfl ?_
      refine rz_B.iald rfl rfl hi1 hj2 (by decide) ?_
      refine rz_B.go 3 (pc' := if decide (Int32.ofInt (A5.1 51 3) < Int32.ofInt (A5.1 24 (v4).toNat)) = true then 163 else 152) (L' := [some (.ref 51), none, some (vI v2), some (vI v3), some (vI v4)]) (S' := []) rfl ?_
      by_cases hc7 : (A5.1 24 (v4).toNat) ≤ (A5.1 51 3)
      · have h := if_T h hc7
        refine rz_B.ifF (mt (lt32 (hw5 51 3).1 (hw5 24 (v4).toNat).1).mp (Int.not_lt.mpr hc7)) ?_
        refine rz_B.go 4 (pc' := 159) (L' := [some (.ref 51), none, some (vI v2), some (vI v3), some (vI v4)]) (S' := [vI 2, vI v4, .ref 52]) rfl ?_
        refine rz_B.iast rfl rfl hi1 hj2 (by decide) ?_
        have hw8 : wf (aI A5 52 (v4).toNat 2) := wf_aI hw5 (by decide)
        refine rz_B.go 1 (pc' := 193) (L' := [some (.ref 51), none, some (vI v2), some (vI v3), some (vI v4)]) (S' := []) rfl ?_
        obtain ⟨hk9, h⟩ := rz_g32_inv h
        refine rz_B.iinc rfl (by decide) rfl (L' := [some (.ref 51), none, some (vI v2), some (vI (v3 + 1)), some (vI v4)]) rfl ?_
        refine rz_B.go 1 (pc' := 45) (L' := [some (.ref 51), none, some (vI v2), some (vI (v3 + 1)), some (vI v4)]) (S' := []) rfl ?_
        refine rz_B.more (rg_le_ok (L := [some (.ref 51), none, some (vI v2), some (vI (v3 + 1)), none]) (by simp [rg_le])) ?_
        exact hkk45 _ _ _ _ _ h hv2 hk9 hw8
      · have h := if_F h hc7
        refine rz_B.ifT ((lt32 (hw5 51 3).1 (hw5 24 (v4).toNat).1).mpr (Int.not_le.mp hc7)) ?_
        refine rz_B.go 3 (pc' := 167) (L' := [some (.ref 51), none, some (vI v2), some (vI v3), some (vI v4)]) (S' := [vI v2, vI v4, .ref 51]) rfl ?_
        obtain ⟨r10, A10, hf10, h⟩ := rz_b_inv h
        obtain ⟨hg10, hr10, hw10⟩ := cx21_isStruckByText F (d := d + 0) hf10 hv4 hv2 hw5
        refine rz_B.call (d := d + 4) (as := [.ref 51, vI v4, vI v2]) (rest := []) (w := some (vI r10)) rfl hg10 ?_
        refine rz_B.go 1 (pc' := if decide (Int32.ofInt r10 = Int32.ofInt 0) = true then 184 else 173) (L' := [some (.ref 51), none, some (vI v2), some (vI v3), some (vI v4)]) (S' := []) rfl ?_
        by_cases hc11 : r10 = 0
        · have h := if_T h hc11
          refine rz_B.ifT ((eq32 hr10 (by decide)).mpr hc11) ?_
          refine rz_B.go 2 (pc' := 187) (L' := [some (.ref 51), none, some (vI v2), some (vI v3), some (vI v4)]) (S' := [vI v4, .ref 51]) rfl ?_
          obtain ⟨_, A12, hf12, h⟩ := rz_b_inv h
          obtain ⟨hg12, hr12, hw12⟩ := cx30_keep F (d := d + 3) hf12 hv4 hw10
          refine rz_B.call (d := d + 4) (as := [.ref 51, vI v4]) (rest := []) (w := none) rfl hg12 ?_
          refine rz_B.go 2 (pc' := 193) (L' := [some (.ref 51), none, some (vI v4), some (vI v3), some (vI v4)]) (S' := []) rfl ?_
          obtain ⟨hk13, h⟩ := rz_g32_inv h
          refine rz_B.iinc rfl (by decide) rfl (L' := [some (.ref 51), none, some (vI v4), some (vI (v3 + 1)), some (vI v4)]) rfl ?_
          refine rz_B.go 1 (pc' := 45) (L' := [some (.ref 51), none, some (vI v4), some (vI (v3 + 1)), some (vI v4)]) (S' := []) rfl ?_
          refine rz_B.more (rg_le_ok (L := [some (.ref 51), none, some (vI v4), some (vI (v3 + 1)), none]) (by simp [rg_le])) ?_
          exact hkk45 _ _ _ _ _ h hv4 hk13 hw12
        · have h := if_F h hc11
          refine rz_B.ifF (mt (eq32 hr10 (by decide)).mp hc11) ?_
          refine rz_B.go 4 (pc' := 180) (L' := [some (.ref 51), none, some (vI v2), some (vI v3), some (vI v4)]) (S' := [vI 1, vI v4, .ref 52]) rfl ?_
          refine rz_B.iast rfl rfl hi1 hj2 (by decide) ?_
          have hw14 : wf (aI A10 52 (v4).toNat 1) := wf_aI hw10 (by decide)
          refine rz_B.go 3 (pc' := 193) (L' := [some (.ref 51), none, some (vI v4), some (vI v3), some (vI v4)]) (S' := []) rfl ?_
          obtain ⟨hk15, h⟩ := rz_g32_inv h
          refine rz_B.iinc rfl (by decide) rfl (L' := [some (.ref 51), none, some (vI v4), some (vI (v3 + 1)), some (vI v4)]) rfl ?_
          refine rz_B.go 1 (pc' := 45) (L' := [some (.ref 51), none, some (vI v4), some (vI (v3 + 1)), some (vI v4)]) (S' := []) rfl ?_
          refine rz_B.more (rg_le_ok (L := [some (.ref 51), none, some (vI v4), some (vI (v3 + 1)), none]) (by simp [rg_le])) ?_
          exact hkk45 _ _ _ _ _ h hv4 hk15 hw14
    · have h := if_F h hc6
      refine rz_B.ifF (mt (eq32 hr5 (by decide)).mp hc6) ?_
      refine rz_B.go 1 (pc' := 193) (L' := [some (.ref 51), none, some (vI v2), some (vI v3), some (vI v4)]) (S' := []) rfl ?_
      obtain ⟨hk16, h⟩ := rz_g32_inv h
      refine rz_B.iinc rfl (by decide) rfl (L' := [some (.ref 51), none, some (vI v2), some (vI (v3 + 1)), some (vI v4)]) rfl ?_
      refine rz_B.go 1 (pc' := 45) (L' := [some (.ref 51), none, some (vI v2), some (vI (v3 + 1)), some (vI v4)]) (S' := []) rfl ?_
      refine rz_B.more (rg_le_ok (L := [some (.ref 51), none, some (vI v2), some (vI (v3 + 1)), none]) (by simp [rg_le])) ?_
      exact hkk45 _ _ _ _ _ h hv2 hk16 hw5
  · have h := if_F h hc4
    refine rz_B.ifT ((lt32 (hw 51 3).1 (hw 23 (v4).toNat).1).mpr (Int.not_le.mp hc4)) ?_
    obtain ⟨hk17, h⟩ := rz_g32_inv h
    refine rz_B.iinc rfl (by decide) rfl (L' := [some (.ref 51), none, some (vI v2), some (vI (v3 + 1)), some (vI v4)]) rfl ?_
    refine rz_B.go 1 (pc' := 45) (L' := [some (.ref 51), none, some (vI v2), some (vI (v3 + 1)), some (vI v4)]) (S' := []) rfl ?_
    refine rz_B.more (rg_le_ok (L := [some (.ref 51), none, some (vI v2), some (vI (v3 + 1)), none]) (by simp [rg_le])) ?_
    exact hkk45 _ _ _ _ _ h hv2 hk17 hw3
def x20_see_45 (F : Nat) : Nat → Int → Int → rz_A → Option (Unit × rz_A)
  | 0, _, _, _ => none
  | n + 1, v2, v3, A =>
    if v3 < (A.1 18 0) then
      rz_gx v3 300 <|
      if 0 ≤ v2 then
        rz_gx v2 300 <|
        rz_gx (A.1 25 (v3).toNat) 300 <|
        if (A.1 19 (v2).toNat) = (A.1 19 ((A.1 25 (v3).toNat)).toNat) then
          x20_see_95 F (x20_see_45 F n) v2 v3 (A.1 25 (v3).toNat) A
        else
          x20_see_95 F (x20_see_45 F n) (-1) v3 (A.1 25 (v3).toNat) A
      else
        x20_see_95 F (x20_see_45 F n) v2 v3 (A.1 25 (v3).toNat) A
    else
      some ((), A)
theorem cx20_see_45 {d : Nat} (F : Nat) : ∀ (n : Nat) (v2 : Int) (v3 : Int) (A : rz_A) (r : Unit) (A' : rz_A), x20_see_45 F n v2 v3 A = some (r, A') → r32 v2 → r32 v3 → wf A → rz_B (d + 5) 20 45 [some (.ref 51), none, some (vI v2), some (vI v3), none] [] A (none) A' (True) := by
  intro n
  induction n with
  | zero => intro v2 v3 A r A' h; cases h
  | succ n ih =>
    intro v2 v3 A r A' h hv2 hv3 hw
    rw [x20_see_45] at h
    refine rz_B.go 5 (pc' := if decide (Int32.ofInt (A.1 18 0) ≤ Int32.ofInt v3) = true then 199 else 56) (L' := [some (.ref 51), none, some (vI v2), some (vI v3), none]) (S' := []) rfl ?_
    by_cases hc1 : v3 < (A.1 18 0)
    · have h := if_T h hc1
      refine rz_B.ifF (mt (le32 (hw 18 0).1 hv3).mp (Int.not_le.mpr hc1)) ?_
      refine rz_B.go 4 (pc' := 64) (L' := [some (.ref 51), none, some (vI v2), some (vI v3), none]) (S' := [vI v3, .ref 25]) rfl ?_
      obtain ⟨hi2, hj3, h⟩ := rz_gx_inv h
      refine rz_B.iald rfl rfl hi2 hj3 (by decide) ?_
      refine rz_B.go 3 (pc' := if decide (Int32.ofInt v2 < Int32.ofInt 0) = true then 95 else 71) (L' := [some (.ref 51), none, some (vI v2), some (vI v3), some (vI (A.1 25 (v3).toNat))]) (S' := []) rfl ?_
      by_cases hc4 : 0 ≤ v2
      · have h := if_T h hc4
        refine rz_B.ifF (mt (lt32 hv2 (by decide)).mp (Int.not_lt.mpr hc4)) ?_
        refine rz_B.go 4 (pc' := 79) (L' := [some (.ref 51), none, some (vI v2), some (vI v3), some (vI (A.1 25 (v3).toNat))]) (S' := [vI v2, .ref 19]) rfl ?_
        obtain ⟨hi5, hj6, h⟩ := rz_gx_inv h
        refine rz_B.iald rfl rfl hi5 hj6 (by decide) ?_
        refine rz_B.go 4 (pc' := 89) (L' := [some (.ref 51), none, some (vI v2), some (vI v3), some (vI (A.1 25 (v3).toNat))]) (S' := [vI (A.1 25 (v3).toNat), .ref 19, vI (A.1 19 (v2).toNat)]) rfl ?_
        obtain ⟨hi7, hj8, h⟩ := rz_gx_inv h
        refine rz_B.iald rfl rfl hi7 hj8 (by decide) ?_
        refine rz_B.go 1 (pc' := if decide (Int32.ofInt (A.1 19 (v2).toNat) = Int32.ofInt (A.1 19 ((A.1 25 (v3).toNat)).toNat)) = true then 95 else 93) (L' := [some (.ref 51), none, some (vI v2), some (vI v3), some (vI (A.1 25 (v3).toNat))]) (S' := []) rfl ?_
        by_cases hc9 : (A.1 19 (v2).toNat) = (A.1 19 ((A.1 25 (v3).toNat)).toNat)
        · have h := if_T h hc9
          refine rz_B.ifT ((eq32 (hw 19 (v2).toNat).1 (hw 19 ((A.1 25 (v3).toNat)).toNat).1).mpr hc9) ?_
          refine rz_B.more (rg_le_ok (L := [some (.ref 51), none, some (vI v2), some (vI v3), some (vI (A.1 25 (v3).toNat))]) (by simp [rg_le])) ?_
          exact cx20_see_95 F ih _ _ _ _ _ _ h hv2 hv3 (hw 25 (v3).toNat).1 hw
        · have h := if_F h hc9
          refine rz_B.ifF (mt (eq32 (hw 19 (v2).toNat).1 (hw 19 ((A.1 25 (v3).toNat)).toNat).1).mp hc9) ?_
          refine rz_B.go 2 (pc' := 95) (L' := [some (.ref 51), none, some (vI (-1)), some (vI v3), some (vI (A.1 25 (v3).toNat))]) (S' := []) rfl ?_
          refine rz_B.more (rg_le_ok (L := [some (.ref 51), none, some (vI (-1)), some (vI v3), some (vI (A.1 25 (v3).toNat))]) (by simp [rg_le])) ?_
          exact cx20_see_95 F ih _ _ _ _ _ _ h (by decide) hv3 (hw 25 (v3).toNat).1 hw
      · have h := if_F h hc4
        refine rz_B.ifT ((lt32 hv2 (by decide)).mpr (Int.not_le.mp hc4)) ?_
        refine rz_B.more (rg_le_ok (L := [some (.ref 51), none, some (vI v2), some (vI v3), some (vI (A.1 25 (v3).toNat))]) (by simp [rg_le])) ?_
        exact cx20_see_95 F ih _ _ _ _ _ _ h hv2 hv3 (hw 25 (v3).toNat).1 hw
    · have h := if_F h hc1
      refine rz_B.ifT ((le32 (hw 18 0).1 hv3).mpr (Int.not_lt.mp hc1)) ?_
      cases h
      exact rz_B.ret rfl trivial hw
/-- RiverGauge$View.see(I)V -/
def x20_see (F : Nat) (a0 : Int) (A : rz_A) : Option (Unit × rz_A) :=
  if (A.1 51 5) = 0 then
    rz_g32 ((A.1 51 4) + 1) <|
    x20_see_45 F F (-1) 0 (aI (aI (aI (aI A 51 3 a0) 51 4 ((A.1 51 4) + 1)) 51 5 1) 51 10 0)
  else
    if (A.1 51 3) = a0 then
      some ((), A)
    else
      rz_g32 ((A.1 51 4) + 1) <|
      x20_see_45 F F (-1) 0 (aI (aI (aI (aI A 51 3 a0) 51 4 ((A.1 51 4) + 1)) 51 5 1) 51 10 0)
theorem cx20_see (F : Nat) {d : Nat} {a0 : Int} {A : rz_A} {r : Unit} {A' : rz_A} (h : x20_see F a0 A = some (r, A')) (ha0 : r32 a0) (hw : wf A) : rg_Rn (d + 5) 20 [.ref 51, vI a0] (toM A) (none) (toM A') ∧ (True) ∧ wf A' := by
  show rz_B (d + 5) 20 0 [some (.ref 51), some (vI a0), none, none, none] [] A (none) A' (True)
  unfold x20_see at h
  refine rz_B.go 3 (pc' := if decide (Int32.ofInt (A.1 51 5) = Int32.ofInt 0) = true then 16 else 7) (L' := [some (.ref 51), some (vI a0), none, none, none]) (S' := []) rfl ?_
  by_cases hc1 : (A.1 51 5) = 0
  · have h := if_T h hc1
    refine rz_B.ifT ((eq32 (hw 51 5).1 (by decide)).mpr hc1) ?_
    refine rz_B.put 3 (pc' := 21) (L' := [some (.ref 51), some (vI a0), none, none, none]) (S' := []) (c := 51) (k := 3) (x := a0) rfl ?_
    have hw2 : wf (aI A 51 3 a0) := wf_aI hw ha0
    refine rz_B.go 4 (pc' := 27) (L' := [some (.ref 51), some (vI a0), none, none, none]) (S' := [vI 1, vI (A.1 51 4), .ref 51]) rfl ?_
    obtain ⟨hk3, h⟩ := rz_g32_inv h
    refine rz_B.iadd rfl ?_
    refine rz_B.put 1 (pc' := 31) (L' := [some (.ref 51), some (vI a0), none, none, none]) (S' := []) (c := 51) (k := 4) (x := ((A.1 51 4) + 1)) rfl ?_
    have hw4 : wf (aI (aI A 51 3 a0) 51 4 ((A.1 51 4) + 1)) := wf_aI hw2 hk3
    refine rz_B.put 3 (pc' := 36) (L' := [some (.ref 51), some (vI a0), none, none, none]) (S' := []) (c := 51) (k := 5) (x := 1) rfl ?_
    have hw5 : wf (aI (aI (aI A 51 3 a0) 51 4 ((A.1 51 4) + 1)) 51 5 1) := wf_aI hw4 (by decide)
    refine rz_B.put 3 (pc' := 41) (L' := [some (.ref 51), some (vI a0), none, none, none]) (S' := []) (c := 51) (k := 10) (x := 0) rfl ?_
    have hw6 : wf (aI (aI (aI (aI A 51 3 a0) 51 4 ((A.1 51 4) + 1)) 51 5 1) 51 10 0) := wf_aI hw5 (by decide)
    refine rz_B.go 4 (pc' := 45) (L' := [some (.ref 51), some (vI a0), some (vI (-1)), some (vI 0), none]) (S' := []) rfl ?_
    refine rz_B.more (rg_le_ok (L := [some (.ref 51), none, some (vI (-1)), some (vI 0), none]) (by simp [rg_le])) ?_
    exact cx20_see_45 F F _ _ _ _ _ h (by decide) (by decide) hw6
  · have h := if_F h hc1
    refine rz_B.ifF (mt (eq32 (hw 51 5).1 (by decide)).mp hc1) ?_
    refine rz_B.go 4 (pc' := if decide (¬ Int32.ofInt (A.1 51 3) = Int32.ofInt a0) = true then 16 else 15) (L' := [some (.ref 51), some (vI a0), none, none, none]) (S' := []) rfl ?_
    by_cases hc7 : (A.1 51 3) = a0
    · have h := if_T h hc7
      refine rz_B.ifF (fun hn => hn ((eq32 (hw 51 3).1 ha0).mpr hc7)) ?_
      cases h
      exact rz_B.ret rfl trivial hw
    · have h := if_F h hc7
      refine rz_B.ifT (mt (eq32 (hw 51 3).1 ha0).mp hc7) ?_
      refine rz_B.put 3 (pc' := 21) (L' := [some (.ref 51), some (vI a0), none, none, none]) (S' := []) (c := 51) (k := 3) (x := a0) rfl ?_
      have hw8 : wf (aI A 51 3 a0) := wf_aI hw ha0
      refine rz_B.go 4 (pc' := 27) (L' := [some (.ref 51), some (vI a0), none, none, none]) (S' := [vI 1, vI (A.1 51 4), .ref 51]) rfl ?_
      obtain ⟨hk9, h⟩ := rz_g32_inv h
      refine rz_B.iadd rfl ?_
      refine rz_B.put 1 (pc' := 31) (L' := [some (.ref 51), some (vI a0), none, none, none]) (S' := []) (c := 51) (k := 4) (x := ((A.1 51 4) + 1)) rfl ?_
      have hw10 : wf (aI (aI A 51 3 a0) 51 4 ((A.1 51 4) + 1)) := wf_aI hw8 hk9
      refine rz_B.put 3 (pc' := 36) (L' := [some (.ref 51), some (vI a0), none, none, none]) (S' := []) (c := 51) (k := 5) (x := 1) rfl ?_
      have hw11 : wf (aI (aI (aI A 51 3 a0) 51 4 ((A.1 51 4) + 1)) 51 5 1) := wf_aI hw10 (by decide)
      refine rz_B.put 3 (pc' := 41) (L' := [some (.ref 51), some (vI a0), none, none, none]) (S' := []) (c := 51) (k := 10) (x := 0) rfl ?_
      have hw12 : wf (aI (aI (aI (aI A 51 3 a0) 51 4 ((A.1 51 4) + 1)) 51 5 1) 51 10 0) := wf_aI hw11 (by decide)
      refine rz_B.go 4 (pc' := 45) (L' := [some (.ref 51), some (vI a0), some (vI (-1)), some (vI 0), none]) (S' := []) rfl ?_
      refine rz_B.more (rg_le_ok (L := [some (.ref 51), none, some (vI (-1)), some (vI 0), none]) (by simp [rg_le])) ?_
      exact cx20_see_45 F F _ _ _ _ _ h (by decide) (by decide) hw12
/-- RiverGauge.isStruck(II)I -/
def x18_isStruck (F : Nat) (a0 : Int) (a1 : Int) (A : rz_A) : Option (Int × rz_A) :=
  rz_b (x16_has F a0 A) fun r1 A1 =>
  if r1 = 0 then
    rz_b (x1_refuse F (-1) A1) fun r3 A3 =>
    some (r3, A3)
  else
    rz_b (x19_whyNotTime F a1 A1) fun r4 A4 =>
    if r4 = 0 then
      rz_b (x20_see F a1 A4) fun _ A6 =>
      rz_gx a0 300 <|
      some ((A6.1 52 (a0).toNat), A6)
    else
      rz_b (x1_refuse F r4 A4) fun r9 A9 =>
      some (r9, A9)
theorem cx18_isStruck (F : Nat) {d : Nat} {a0 : Int} {a1 : Int} {A : rz_A} {r : Int} {A' : rz_A} (h : x18_isStruck F a0 a1 A = some (r, A')) (ha0 : r32 a0) (ha1 : r32 a1) (hw : wf A) : rg_Rn (d + 6) 18 [.ref 0, vI a0, vI a1] (toM A) (some (vI r)) (toM A') ∧ (r32 r) ∧ wf A' := by
  show rz_B (d + 6) 18 0 [some (.ref 0), some (vI a0), some (vI a1), none] [] A (some (vI r)) A' (r32 r)
  unfold x18_isStruck at h
  refine rz_B.go 3 (pc' := 5) (L' := [some (.ref 0), some (vI a0), some (vI a1), none]) (S' := [vI a0, .ref 18]) rfl ?_
  obtain ⟨r1, A1, hf1, h⟩ := rz_b_inv h
  obtain ⟨hg1, hr1, hw1⟩ := cx16_has F (d := d + 5) hf1 ha0 hw
  refine rz_B.call (d := d + 5) (as := [.ref 18, vI a0]) (rest := []) (w := some (vI r1)) rfl hg1 ?_
  refine rz_B.go 1 (pc' := if decide (¬ Int32.ofInt r1 = Int32.ofInt 0) = true then 17 else 11) (L' := [some (.ref 0), some (vI a0), some (vI a1), none]) (S' := []) rfl ?_
  by_cases hc2 : r1 = 0
  · have h := if_T h hc2
    refine rz_B.ifF (fun hn => hn ((eq32 hr1 (by decide)).mpr hc2)) ?_
    refine rz_B.go 2 (pc' := 13) (L' := [some (.ref 0), some (vI a0), some (vI a1), none]) (S' := [vI (-1), .ref 0]) rfl ?_
    obtain ⟨r3, A3, hf3, h⟩ := rz_b_inv h
    obtain ⟨hg3, hr3, hw3⟩ := cx1_refuse F (d := d + 5) hf3 (by decide) hw1
    refine rz_B.call (d := d + 5) (as := [.ref 0, vI (-1)]) (rest := []) (w := some (vI r3)) rfl hg3 ?_
    cases h
    exact rz_B.ret rfl hr3 hw3
  · have h := if_F h hc2
    refine rz_B.ifT (mt (eq32 hr1 (by decide)).mp hc2) ?_
    refine rz_B.go 1 (pc' := 18) (L' := [some (.ref 0), some (vI a0), some (vI a1), none]) (S' := [vI a1]) rfl ?_
    obtain ⟨r4, A4, hf4, h⟩ := rz_b_inv h
    obtain ⟨hg4, hr4, hw4⟩ := cx19_whyNotTime F (d := d + 5) hf4 ha1 hw1
    refine rz_B.call (d := d + 5) (as := [vI a1]) (rest := []) (w := some (vI r4)) rfl hg4 ?_
    refine rz_B.go 3 (pc' := if decide (Int32.ofInt r4 = Int32.ofInt 0) = true then 32 else 26) (L' := [some (.ref 0), some (vI a0), some (vI a1), some (vI r4)]) (S' := []) rfl ?_
    by_cases hc5 : r4 = 0
    · have h := if_T h hc5
      refine rz_B.ifT ((eq32 hr4 (by decide)).mpr hc5) ?_
      refine rz_B.go 3 (pc' := 37) (L' := [some (.ref 0), some (vI a0), some (vI a1), some (vI r4)]) (S' := [vI a1, .ref 51]) rfl ?_
      obtain ⟨_, A6, hf6, h⟩ := rz_b_inv h
      obtain ⟨hg6, hr6, hw6⟩ := cx20_see F (d := d + 0) hf6 ha1 hw4
      refine rz_B.call (d := d + 5) (as := [.ref 51, vI a1]) (rest := []) (w := none) rfl hg6 ?_
      refine rz_B.go 4 (pc' := 48) (L' := [some (.ref 0), some (vI a0), some (vI a1), some (vI r4)]) (S' := [vI a0, .ref 52]) rfl ?_
      obtain ⟨hi7, hj8, h⟩ := rz_gx_inv h
      refine rz_B.iald rfl rfl hi7 hj8 (by decide) ?_
      cases h
      exact rz_B.ret rfl (hw6 52 (a0).toNat).1 hw6
    · have h := if_F h hc5
      refine rz_B.ifF (mt (eq32 hr4 (by decide)).mp hc5) ?_
      refine rz_B.go 2 (pc' := 28) (L' := [some (.ref 0), some (vI a0), some (vI a1), some (vI r4)]) (S' := [vI r4, .ref 0]) rfl ?_
      obtain ⟨r9, A9, hf9, h⟩ := rz_b_inv h
      obtain ⟨hg9, hr9, hw9⟩ := cx1_refuse F (d := d + 5) hf9 hr4 hw4
      refine rz_B.call (d := d + 5) (as := [.ref 0, vI r4]) (rest := []) (w := some (vI r9)) rfl hg9 ?_
      cases h
      exact rz_B.ret rfl hr9 hw9
def x33_firstFrom_10 (F : Nat) : Nat → Int → Int → Int → Int → rz_A → Option (Int × rz_A)
  | 0, _, _, _, _, _ => none
  | n + 1, v1, v2, v3, v4, A =>
    if v4 < 300 then
      if v2 < v3 then
        rz_g32 (v2 + v3) <|
        rz_g32 ((v2 + v3).tdiv 2) <|
        rz_gx ((v2 + v3).tdiv 2) 300 <|
        if (A.1 53 (((v2 + v3).tdiv 2)).toNat) < v1 then
          rz_g32 (((v2 + v3).tdiv 2) + 1) <|
          rz_g32 (v4 + 1) <|
          x33_firstFrom_10 F n v1 (((v2 + v3).tdiv 2) + 1) v3 (v4 + 1) A
        else
          rz_g32 (v4 + 1) <|
          x33_firstFrom_10 F n v1 v2 ((v2 + v3).tdiv 2) (v4 + 1) A
      else
        some (v2, A)
    else
      some (v2, A)
theorem cx33_firstFrom_10 {d : Nat} (F : Nat) : ∀ (n : Nat) (v1 : Int) (v2 : Int) (v3 : Int) (v4 : Int) (A : rz_A) (r : Int) (A' : rz_A), x33_firstFrom_10 F n v1 v2 v3 v4 A = some (r, A') → r32 v1 → r32 v2 → r32 v3 → r32 v4 → wf A → rz_B (d + 0) 33 10 [some (.ref 51), some (vI v1), some (vI v2), some (vI v3), some (vI v4), none] [] A (some (vI r)) A' (r32 r) := by
  intro n
  induction n with
  | zero => intro v1 v2 v3 v4 A r A' h; cases h
  | succ n ih =>
    intro v1 v2 v3 v4 A r A' h hv1 hv2 hv3 hv4 hw
    rw [x33_firstFrom_10] at h
    refine rz_B.go 3 (pc' := if decide (Int32.ofInt 300 ≤ Int32.ofInt v4) = true then 58 else 18) (L' := [some (.ref 51), some (vI v1), some (vI v2), some (vI v3), some (vI v4), none]) (S' := []) rfl ?_
    by_cases hc1 : v4 < 300
    · have h := if_T h hc1
      refine rz_B.ifF (mt (le32 (by decide) hv4).mp (Int.not_le.mpr hc1)) ?_
      refine rz_B.go 3 (pc' := if decide (Int32.ofInt v3 ≤ Int32.ofInt v2) = true then 58 else 23) (L' := [some (.ref 51), some (vI v1), some (vI v2), some (vI v3), some (vI v4), none]) (S' := []) rfl ?_
      by_cases hc2 : v2 < v3
      · have h := if_T h hc2
        refine rz_B.ifF (mt (le32 hv3 hv2).mp (Int.not_le.mpr hc2)) ?_
        refine rz_B.go 2 (pc' := 25) (L' := [some (.ref 51), some (vI v1), some (vI v2), some (vI v3), some (vI v4), none]) (S' := [vI v3, vI v2]) rfl ?_
        obtain ⟨hk3, h⟩ := rz_g32_inv h
        refine rz_B.iadd rfl ?_
        refine rz_B.go 1 (pc' := 27) (L' := [some (.ref 51), some (vI v1), some (vI v2), some (vI v3), some (vI v4), none]) (S' := [vI 2, vI (v2 + v3)]) rfl ?_
        obtain ⟨hk4, h⟩ := rz_g32_inv h
        refine rz_B.idiv rfl hk3 (by decide) (by decide) ?_
        refine rz_B.go 4 (pc' := 36) (L' := [some (.ref 51), some (vI v1), some (vI v2), some (vI v3), some (vI v4), some (vI ((v2 + v3).tdiv 2))]) (S' := [vI ((v2 + v3).tdiv 2), .ref 53]) rfl ?_
        obtain ⟨hi5, hj6, h⟩ := rz_gx_inv h
        refine rz_B.iald rfl rfl hi5 hj6 (by decide) ?_
        refine rz_B.go 2 (pc' := if decide (Int32.ofInt v1 ≤ Int32.ofInt (A.1 53 (((v2 + v3).tdiv 2)).toNat)) = true then 49 else 41) (L' := [some (.ref 51), some (vI v1), some (vI v2), some (vI v3), some (vI v4), some (vI ((v2 + v3).tdiv 2))]) (S' := []) rfl ?_
        by_cases hc7 : (A.1 53 (((v2 + v3).tdiv 2)).toNat) < v1
        · have h := if_T h hc7
          refine rz_B.ifF (mt (le32 hv1 (hw 53 (((v2 + v3).tdiv 2)).toNat).1).mp (Int.not_le.mpr hc7)) ?_
          refine rz_B.go 2 (pc' := 44) (L' := [some (.ref 51), some (vI v1), some (vI v2), some (vI v3), some (vI v4), some (vI ((v2 + v3).tdiv 2))]) (S' := [vI 1, vI ((v2 + v3).tdiv 2)]) rfl ?_
          obtain ⟨hk8, h⟩ := rz_g32_inv h
          refine rz_B.iadd rfl ?_
          refine rz_B.go 2 (pc' := 52) (L' := [some (.ref 51), some (vI v1), some (vI (((v2 + v3).tdiv 2) + 1)), some (vI v3), some (vI v4), some (vI ((v2 + v3).tdiv 2))]) (S' := []) rfl ?_
          obtain ⟨hk9, h⟩ := rz_g32_inv h
          refine rz_B.iinc rfl (by decide) rfl (L' := [some (.ref 51), some (vI v1), some (vI (((v2 + v3).tdiv 2) + 1)), some (vI v3), some (vI (v4 + 1)), some (vI ((v2 + v3).tdiv 2))]) rfl ?_
          refine rz_B.go 1 (pc' := 10) (L' := [some (.ref 51), some (vI v1), some (vI (((v2 + v3).tdiv 2) + 1)), some (vI v3), some (vI (v4 + 1)), some (vI ((v2 + v3).tdiv 2))]) (S' := []) rfl ?_
          refine rz_B.more (rg_le_ok (L := [some (.ref 51), some (vI v1), some (vI (((v2 + v3).tdiv 2) + 1)), some (vI v3), some (vI (v4 + 1)), none]) (by simp [rg_le])) ?_
          exact ih _ _ _ _ _ _ _ h hv1 hk8 hv3 hk9 hw
        · have h := if_F h hc7
          refine rz_B.ifT ((le32 hv1 (hw 53 (((v2 + v3).tdiv 2)).toNat).1).mpr (Int.not_lt.mp hc7)) ?_
          refine rz_B.go 2 (pc' := 52) (L' := [some (.ref 51), some (vI v1), some (vI v2), some (vI ((v2 + v3).tdiv 2)), some (vI v4), some (vI ((v2 + v3).tdiv 2))]) (S' := []) rfl ?_
          obtain ⟨hk10, h⟩ := rz_g32_inv h
          refine rz_B.iinc rfl (by decide) rfl (L' := [some (.ref 51), some (vI v1), some (vI v2), some (vI ((v2 + v3).tdiv 2)), some (vI (v4 + 1)), some (vI ((v2 + v3).tdiv 2))]) rfl ?_
          refine rz_B.go 1 (pc' := 10) (L' := [some (.ref 51), some (vI v1), some (vI v2), some (vI ((v2 + v3).tdiv 2)), some (vI (v4 + 1)), some (vI ((v2 + v3).tdiv 2))]) (S' := []) rfl ?_
          refine rz_B.more (rg_le_ok (L := [some (.ref 51), some (vI v1), some (vI v2), some (vI ((v2 + v3).tdiv 2)), some (vI (v4 + 1)), none]) (by simp [rg_le])) ?_
          exact ih _ _ _ _ _ _ _ h hv1 hv2 hk4 hk10 hw
      · have h := if_F h hc2
        refine rz_B.ifT ((le32 hv3 hv2).mpr (Int.not_lt.mp hc2)) ?_
        refine rz_B.go 1 (pc' := 59) (L' := [some (.ref 51), some (vI v1), some (vI v2), some (vI v3), some (vI v4), none]) (S' := [vI v2]) rfl ?_
        cases h
        exact rz_B.ret rfl hv2 hw
    · have h := if_F h hc1
      refine rz_B.ifT ((le32 (by decide) hv4).mpr (Int.not_lt.mp hc1)) ?_
      refine rz_B.go 1 (pc' := 59) (L' := [some (.ref 51), some (vI v1), some (vI v2), some (vI v3), some (vI v4), none]) (S' := [vI v2]) rfl ?_
      cases h
      exact rz_B.ret rfl hv2 hw
/-- RiverGauge$View.firstFrom(I)I -/
def x33_firstFrom (F : Nat) (a0 : Int) (A : rz_A) : Option (Int × rz_A) :=
  x33_firstFrom_10 F F a0 0 (A.1 51 10) 0 A
theorem cx33_firstFrom (F : Nat) {d : Nat} {a0 : Int} {A : rz_A} {r : Int} {A' : rz_A} (h : x33_firstFrom F a0 A = some (r, A')) (ha0 : r32 a0) (hw : wf A) : rg_Rn (d + 0) 33 [.ref 51, vI a0] (toM A) (some (vI r)) (toM A') ∧ (r32 r) ∧ wf A' := by
  show rz_B (d + 0) 33 0 [some (.ref 51), some (vI a0), none, none, none, none] [] A (some (vI r)) A' (r32 r)
  unfold x33_firstFrom at h
  refine rz_B.go 7 (pc' := 10) (L' := [some (.ref 51), some (vI a0), some (vI 0), some (vI (A.1 51 10)), some (vI 0), none]) (S' := []) rfl ?_
  refine rz_B.more (rg_le_ok (L := [some (.ref 51), some (vI a0), some (vI 0), some (vI (A.1 51 10)), some (vI 0), none]) (by simp [rg_le])) ?_
  exact cx33_firstFrom_10 F F _ _ _ _ _ _ _ h ha0 (by decide) (hw 51 10).1 (by decide) hw
/-- RiverGauge$View.find(II)I -/
def x32_find (F : Nat) (a0 : Int) (a1 : Int) (A : rz_A) : Option (Int × rz_A) :=
  rz_b (x14_keyOf F a0 a1 A) fun r1 A1 =>
  rz_b (x33_firstFrom F r1 A1) fun r2 A2 =>
  if r2 < (A2.1 51 10) then
    rz_gx r2 300 <|
    if (A2.1 53 (r2).toNat) = r1 then
      some (r2, A2)
    else
      some ((-1), A2)
  else
    some ((-1), A2)
theorem cx32_find (F : Nat) {d : Nat} {a0 : Int} {a1 : Int} {A : rz_A} {r : Int} {A' : rz_A} (h : x32_find F a0 a1 A = some (r, A')) (ha0 : r32 a0) (ha1 : r32 a1) (hw : wf A) : rg_Rn (d + 1) 32 [.ref 51, vI a0, vI a1] (toM A) (some (vI r)) (toM A') ∧ (r32 r) ∧ wf A' := by
  show rz_B (d + 1) 32 0 [some (.ref 51), some (vI a0), some (vI a1), none, none] [] A (some (vI r)) A' (r32 r)
  unfold x32_find at h
  refine rz_B.go 2 (pc' := 2) (L' := [some (.ref 51), some (vI a0), some (vI a1), none, none]) (S' := [vI a1, vI a0]) rfl ?_
  obtain ⟨r1, A1, hf1, h⟩ := rz_b_inv h
  obtain ⟨hg1, hr1, hw1⟩ := cx14_keyOf F (d := d + 0) hf1 ha0 ha1 hw
  refine rz_B.call (d := d + 0) (as := [vI a0, vI a1]) (rest := []) (w := some (vI r1)) rfl hg1 ?_
  refine rz_B.go 3 (pc' := 8) (L' := [some (.ref 51), some (vI a0), some (vI a1), some (vI r1), none]) (S' := [vI r1, .ref 51]) rfl ?_
  obtain ⟨r2, A2, hf2, h⟩ := rz_b_inv h
  obtain ⟨hg2, hr2, hw2⟩ := cx33_firstFrom F (d := d + 0) hf2 hr1 hw1
  refine rz_B.call (d := d + 0) (as := [.ref 51, vI r1]) (rest := []) (w := some (vI r2)) rfl hg2 ?_
  refine rz_B.go 5 (pc' := if decide (Int32.ofInt (A2.1 51 10) ≤ Int32.ofInt r2) = true then 38 else 22) (L' := [some (.ref 51), some (vI a0), some (vI a1), some (vI r1), some (vI r2)]) (S' := []) rfl ?_
  by_cases hc3 : r2 < (A2.1 51 10)
  · have h := if_T h hc3
    refine rz_B.ifF (mt (le32 (hw2 51 10).1 hr2).mp (Int.not_le.mpr hc3)) ?_
    refine rz_B.go 3 (pc' := 28) (L' := [some (.ref 51), some (vI a0), some (vI a1), some (vI r1), some (vI r2)]) (S' := [vI r2, .ref 53]) rfl ?_
    obtain ⟨hi4, hj5, h⟩ := rz_gx_inv h
    refine rz_B.iald rfl rfl hi4 hj5 (by decide) ?_
    refine rz_B.go 2 (pc' := if decide (¬ Int32.ofInt (A2.1 53 (r2).toNat) = Int32.ofInt r1) = true then 38 else 33) (L' := [some (.ref 51), some (vI a0), some (vI a1), some (vI r1), some (vI r2)]) (S' := []) rfl ?_
    by_cases hc6 : (A2.1 53 (r2).toNat) = r1
    · have h := if_T h hc6
      refine rz_B.ifF (fun hn => hn ((eq32 (hw2 53 (r2).toNat).1 hr1).mpr hc6)) ?_
      refine rz_B.go 2 (pc' := 39) (L' := [some (.ref 51), some (vI a0), some (vI a1), some (vI r1), some (vI r2)]) (S' := [vI r2]) rfl ?_
      cases h
      exact rz_B.ret rfl hr2 hw2
    · have h := if_F h hc6
      refine rz_B.ifT (mt (eq32 (hw2 53 (r2).toNat).1 hr1).mp hc6) ?_
      refine rz_B.go 1 (pc' := 39) (L' := [some (.ref 51), some (vI a0), some (vI a1), some (vI r1), some (vI r2)]) (S' := [vI (-1)]) rfl ?_
      cases h
      exact rz_B.ret rfl (by decide) hw2
  · have h := if_F h hc3
    refine rz_B.ifT ((le32 (hw2 51 10).1 hr2).mpr (Int.not_lt.mp hc3)) ?_
    refine rz_B.go 1 (pc' := 39) (L' := [some (.ref 51), some (vI a0), some (vI a1), some (vI r1), some (vI r2)]) (S' := [vI (-1)]) rfl ?_
    cases h
    exact rz_B.ret rfl (by decide) hw2
