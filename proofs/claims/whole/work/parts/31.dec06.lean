set_option maxRecDepth 16384
/-- RiverGauge$Gaps.findEnds(II)Z -/
def x114_findEnds (F : Nat) (a0 : Int) (a1 : Int) (A : rz_A) : Option (Int × rz_A) :=
  rz_b (x14_keyOf F a0 a1 A) fun r1 A1 =>
  rz_b (x33_firstFrom F r1 A1) fun r2 A2 =>
  rz_g32 (r2 - 1) <|
  if 0 ≤ (r2 - 1) then
    if (A2.1 51 10) ≤ r2 then
      some (0, A2)
    else
      rz_b (x86_postOf F (r2 - 1) A2) fun r6 A6 =>
      if r6 = a0 then
        rz_b (x86_postOf F r2 A6) fun r8 A8 =>
        if r8 = a0 then
          rz_b (x87_timeOf F (r2 - 1) A8) fun r10 A10 =>
          rz_b (x87_timeOf F r2 (aI A10 87 2 r10)) fun r12 A12 =>
          rz_g32 (r12 - (A12.1 87 2)) <|
          if (r12 - (A12.1 87 2)) ≤ 200 then
            some (1, (aI A12 87 3 r12))
          else
            some (0, (aI A12 87 3 r12))
        else
          some (0, A8)
      else
        some (0, A6)
  else
    some (0, A2)
theorem cx114_findEnds (F : Nat) {d : Nat} {a0 : Int} {a1 : Int} {A : rz_A} {r : Int} {A' : rz_A} (h : x114_findEnds F a0 a1 A = some (r, A')) (ha0 : r32 a0) (ha1 : r32 a1) (hw : wf A) : rg_Rn (d + 1) 114 [.ref 87, vI a0, vI a1] (toM A) (some (vI r)) (toM A') ∧ (r32 r) ∧ wf A' := by
  show rz_B (d + 1) 114 0 [some (.ref 87), some (vI a0), some (vI a1), none, none] [] A (some (vI r)) A' (r32 r)
  unfold x114_findEnds at h
  refine rz_B.go 4 (pc' := 6) (L' := [some (.ref 87), some (vI a0), some (vI a1), none, none]) (S' := [vI a1, vI a0, .ref 51]) rfl ?_
  obtain ⟨r1, A1, hf1, h⟩ := rz_b_inv h
  obtain ⟨hg1, hr1, hw1⟩ := cx14_keyOf F (d := d + 0) hf1 ha0 ha1 hw
  refine rz_B.call (d := d + 0) (as := [vI a0, vI a1]) (rest := [.ref 51]) (w := some (vI r1)) rfl hg1 ?_
  obtain ⟨r2, A2, hf2, h⟩ := rz_b_inv h
  obtain ⟨hg2, hr2, hw2⟩ := cx33_firstFrom F (d := d + 0) hf2 hr1 hw1
  refine rz_B.call (d := d + 0) (as := [.ref 51, vI r1]) (rest := []) (w := some (vI r2)) rfl hg2 ?_
  refine rz_B.go 3 (pc' := 15) (L' := [some (.ref 87), some (vI a0), some (vI a1), some (vI r2), none]) (S' := [vI 1, vI r2]) rfl ?_
  obtain ⟨hk3, h⟩ := rz_g32_inv h
  refine rz_B.isub rfl ?_
  refine rz_B.go 3 (pc' := if decide (Int32.ofInt (r2 - 1) < Int32.ofInt 0) = true then 34 else 23) (L' := [some (.ref 87), some (vI a0), some (vI a1), some (vI r2), some (vI (r2 - 1))]) (S' := []) rfl ?_
  by_cases hc4 : 0 ≤ (r2 - 1)
  · have h := if_T h hc4
    refine rz_B.ifF (mt (lt32 hk3 (by decide)).mp (Int.not_lt.mpr hc4)) ?_
    refine rz_B.go 5 (pc' := if decide (Int32.ofInt r2 < Int32.ofInt (A2.1 51 10)) = true then 36 else 34) (L' := [some (.ref 87), some (vI a0), some (vI a1), some (vI r2), some (vI (r2 - 1))]) (S' := []) rfl ?_
    by_cases hc5 : (A2.1 51 10) ≤ r2
    · have h := if_T h hc5
      refine rz_B.ifF (mt (lt32 hr2 (hw2 51 10).1).mp (Int.not_lt.mpr hc5)) ?_
      refine rz_B.go 1 (pc' := 35) (L' := [some (.ref 87), some (vI a0), some (vI a1), some (vI r2), some (vI (r2 - 1))]) (S' := [vI 0]) rfl ?_
      cases h
      exact rz_B.ret rfl (by decide) hw2
    · have h := if_F h hc5
      refine rz_B.ifT ((lt32 hr2 (hw2 51 10).1).mpr (Int.not_le.mp hc5)) ?_
      refine rz_B.go 3 (pc' := 42) (L' := [some (.ref 87), some (vI a0), some (vI a1), some (vI r2), some (vI (r2 - 1))]) (S' := [vI (r2 - 1), .ref 51]) rfl ?_
      obtain ⟨r6, A6, hf6, h⟩ := rz_b_inv h
      obtain ⟨hg6, hr6, hw6⟩ := cx86_postOf F (d := d + 0) hf6 hk3 hw2
      refine rz_B.call (d := d + 0) (as := [.ref 51, vI (r2 - 1)]) (rest := []) (w := some (vI r6)) rfl hg6 ?_
      refine rz_B.go 2 (pc' := if decide (¬ Int32.ofInt r6 = Int32.ofInt a0) = true then 61 else 49) (L' := [some (.ref 87), some (vI a0), some (vI a1), some (vI r2), some (vI (r2 - 1))]) (S' := []) rfl ?_
      by_cases hc7 : r6 = a0
      · have h := if_T h hc7
        refine rz_B.ifF (fun hn => hn ((eq32 hr6 ha0).mpr hc7)) ?_
        refine rz_B.go 3 (pc' := 54) (L' := [some (.ref 87), some (vI a0), some (vI a1), some (vI r2), some (vI (r2 - 1))]) (S' := [vI r2, .ref 51]) rfl ?_
        obtain ⟨r8, A8, hf8, h⟩ := rz_b_inv h
        obtain ⟨hg8, hr8, hw8⟩ := cx86_postOf F (d := d + 0) hf8 hr2 hw6
        refine rz_B.call (d := d + 0) (as := [.ref 51, vI r2]) (rest := []) (w := some (vI r8)) rfl hg8 ?_
        refine rz_B.go 2 (pc' := if decide (Int32.ofInt r8 = Int32.ofInt a0) = true then 63 else 61) (L' := [some (.ref 87), some (vI a0), some (vI a1), some (vI r2), some (vI (r2 - 1))]) (S' := []) rfl ?_
        by_cases hc9 : r8 = a0
        · have h := if_T h hc9
          refine rz_B.ifT ((eq32 hr8 ha0).mpr hc9) ?_
          refine rz_B.go 4 (pc' := 70) (L' := [some (.ref 87), some (vI a0), some (vI a1), some (vI r2), some (vI (r2 - 1))]) (S' := [vI (r2 - 1), .ref 51, .ref 87]) rfl ?_
          obtain ⟨r10, A10, hf10, h⟩ := rz_b_inv h
          obtain ⟨hg10, hr10, hw10⟩ := cx87_timeOf F (d := d + 0) hf10 hk3 hw8
          refine rz_B.call (d := d + 0) (as := [.ref 51, vI (r2 - 1)]) (rest := [.ref 87]) (w := some (vI r10)) rfl hg10 ?_
          refine rz_B.put 1 (pc' := 76) (L' := [some (.ref 87), some (vI a0), some (vI a1), some (vI r2), some (vI (r2 - 1))]) (S' := []) (c := 87) (k := 2) (x := r10) rfl ?_
          have hw11 : wf (aI A10 87 2 r10) := wf_aI hw10 hr10
          refine rz_B.go 4 (pc' := 82) (L' := [some (.ref 87), some (vI a0), some (vI a1), some (vI r2), some (vI (r2 - 1))]) (S' := [vI r2, .ref 51, .ref 87]) rfl ?_
          obtain ⟨r12, A12, hf12, h⟩ := rz_b_inv h
          obtain ⟨hg12, hr12, hw12⟩ := cx87_timeOf F (d := d + 0) hf12 hr2 hw11
          refine rz_B.call (d := d + 0) (as := [.ref 51, vI r2]) (rest := [.ref 87]) (w := some (vI r12)) rfl hg12 ?_
          refine rz_B.put 1 (pc' := 88) (L' := [some (.ref 87), some (vI a0), some (vI a1), some (vI r2), some (vI (r2 - 1))]) (S' := []) (c := 87) (k := 3) (x := r12) rfl ?_
          have hw13 : wf (aI A12 87 3 r12) := wf_aI hw12 hr12
          refine rz_B.go 4 (pc' := 96) (L' := [some (.ref 87), some (vI a0), some (vI a1), some (vI r2), some (vI (r2 - 1))]) (S' := [vI (A12.1 87 2), vI r12]) rfl ?_
          obtain ⟨hk14, h⟩ := rz_g32_inv h
          refine rz_B.isub rfl ?_
          refine rz_B.go 2 (pc' := if decide (Int32.ofInt 200 < Int32.ofInt (r12 - (A12.1 87 2))) = true then 107 else 103) (L' := [some (.ref 87), some (vI a0), some (vI a1), some (vI r2), some (vI (r2 - 1))]) (S' := []) rfl ?_
          by_cases hc15 : (r12 - (A12.1 87 2)) ≤ 200
          · have h := if_T h hc15
            refine rz_B.ifF (mt (lt32 (by decide) hk14).mp (Int.not_lt.mpr hc15)) ?_
            refine rz_B.go 2 (pc' := 108) (L' := [some (.ref 87), some (vI a0), some (vI a1), some (vI r2), some (vI (r2 - 1))]) (S' := [vI 1]) rfl ?_
            cases h
            exact rz_B.ret rfl (by decide) hw13
          · have h := if_F h hc15
            refine rz_B.ifT ((lt32 (by decide) hk14).mpr (Int.not_le.mp hc15)) ?_
            refine rz_B.go 1 (pc' := 108) (L' := [some (.ref 87), some (vI a0), some (vI a1), some (vI r2), some (vI (r2 - 1))]) (S' := [vI 0]) rfl ?_
            cases h
            exact rz_B.ret rfl (by decide) hw13
        · have h := if_F h hc9
          refine rz_B.ifF (mt (eq32 hr8 ha0).mp hc9) ?_
          refine rz_B.go 1 (pc' := 62) (L' := [some (.ref 87), some (vI a0), some (vI a1), some (vI r2), some (vI (r2 - 1))]) (S' := [vI 0]) rfl ?_
          cases h
          exact rz_B.ret rfl (by decide) hw8
      · have h := if_F h hc7
        refine rz_B.ifT (mt (eq32 hr6 ha0).mp hc7) ?_
        refine rz_B.go 1 (pc' := 62) (L' := [some (.ref 87), some (vI a0), some (vI a1), some (vI r2), some (vI (r2 - 1))]) (S' := [vI 0]) rfl ?_
        cases h
        exact rz_B.ret rfl (by decide) hw6
  · have h := if_F h hc4
    refine rz_B.ifT ((lt32 hk3 (by decide)).mpr (Int.not_le.mp hc4)) ?_
    refine rz_B.go 1 (pc' := 35) (L' := [some (.ref 87), some (vI a0), some (vI a1), some (vI r2), some (vI (r2 - 1))]) (S' := [vI 0]) rfl ?_
    cases h
    exact rz_B.ret rfl (by decide) hw2
/-- RiverGauge$Gaps.findNeighbour(II)V -/
def x115_findNeighbour (F : Nat) (a0 : Int) (a1 : Int) (A : rz_A) : Option (Unit × rz_A) :=
  rz_gx a0 6 <|
  if (A.1 5 (a0).toNat) < 0 then
    some ((), (aI A 87 4 (A.1 5 (a0).toNat)))
  else
    rz_b (x32_find F (A.1 5 (a0).toNat) (A.1 87 2) (aI A 87 4 (A.1 5 (a0).toNat))) fun r5 A5 =>
    if 0 ≤ r5 then
      rz_b (x32_find F (A5.1 87 4) (A5.1 87 3) A5) fun r7 A7 =>
      if 0 ≤ r7 then
        rz_b (x32_find F (A7.1 87 4) a1 A7) fun r9 A9 =>
        if 0 ≤ r9 then
          some ((), A9)
        else
          some ((), (aI A9 87 4 (-1)))
      else
        some ((), (aI A7 87 4 (-1)))
    else
      some ((), (aI A5 87 4 (-1)))
theorem cx115_findNeighbour (F : Nat) {d : Nat} {a0 : Int} {a1 : Int} {A : rz_A} {r : Unit} {A' : rz_A} (h : x115_findNeighbour F a0 a1 A = some (r, A')) (ha0 : r32 a0) (ha1 : r32 a1) (hw : wf A) : rg_Rn (d + 2) 115 [.ref 87, vI a0, vI a1] (toM A) (none) (toM A') ∧ (True) ∧ wf A' := by
  show rz_B (d + 2) 115 0 [some (.ref 87), some (vI a0), some (vI a1), none] [] A (none) A' (True)
  unfold x115_findNeighbour at h
  refine rz_B.go 5 (pc' := 9) (L' := [some (.ref 87), some (vI a0), some (vI a1), none]) (S' := [vI a0, .ref 5, .ref 87]) rfl ?_
  obtain ⟨hi1, hj2, h⟩ := rz_gx_inv h
  refine rz_B.iald rfl rfl hi1 hj2 (by decide) ?_
  refine rz_B.put 1 (pc' := 13) (L' := [some (.ref 87), some (vI a0), some (vI a1), none]) (S' := []) (c := 87) (k := 4) (x := (A.1 5 (a0).toNat)) rfl ?_
  have hw3 : wf (aI A 87 4 (A.1 5 (a0).toNat)) := wf_aI hw (hw 5 (a0).toNat).1
  refine rz_B.go 3 (pc' := if decide (Int32.ofInt 0 ≤ Int32.ofInt (A.1 5 (a0).toNat)) = true then 21 else 20) (L' := [some (.ref 87), some (vI a0), some (vI a1), none]) (S' := []) rfl ?_
  by_cases hc4 : (A.1 5 (a0).toNat) < 0
  · have h := if_T h hc4
    refine rz_B.ifF (mt (le32 (by decide) (hw 5 (a0).toNat).1).mp (Int.not_le.mpr hc4)) ?_
    cases h
    exact rz_B.ret rfl trivial hw3
  · have h := if_F h hc4
    refine rz_B.ifT ((le32 (by decide) (hw 5 (a0).toNat).1).mpr (Int.not_lt.mp hc4)) ?_
    refine rz_B.go 6 (pc' := 33) (L' := [some (.ref 87), some (vI a0), some (vI a1), none]) (S' := [vI (A.1 87 2), vI (A.1 5 (a0).toNat), .ref 51]) rfl ?_
    obtain ⟨r5, A5, hf5, h⟩ := rz_b_inv h
    obtain ⟨hg5, hr5, hw5⟩ := cx32_find F (d := d + 0) hf5 (hw 5 (a0).toNat).1 (hw 87 2).1 hw3
    refine rz_B.call (d := d + 1) (as := [.ref 51, vI (A.1 5 (a0).toNat), vI (A.1 87 2)]) (rest := []) (w := some (vI r5)) rfl hg5 ?_
    refine rz_B.go 1 (pc' := if decide (Int32.ofInt r5 < Int32.ofInt 0) = true then 76 else 39) (L' := [some (.ref 87), some (vI a0), some (vI a1), none]) (S' := []) rfl ?_
    by_cases hc6 : 0 ≤ r5
    · have h := if_T h hc6
      refine rz_B.ifF (mt (lt32 hr5 (by decide)).mp (Int.not_lt.mpr hc6)) ?_
      refine rz_B.go 6 (pc' := 51) (L' := [some (.ref 87), some (vI a0), some (vI a1), none]) (S' := [vI (A5.1 87 3), vI (A5.1 87 4), .ref 51]) rfl ?_
      obtain ⟨r7, A7, hf7, h⟩ := rz_b_inv h
      obtain ⟨hg7, hr7, hw7⟩ := cx32_find F (d := d + 0) hf7 (hw5 87 4).1 (hw5 87 3).1 hw5
      refine rz_B.call (d := d + 1) (as := [.ref 51, vI (A5.1 87 4), vI (A5.1 87 3)]) (rest := []) (w := some (vI r7)) rfl hg7 ?_
      refine rz_B.go 1 (pc' := if decide (Int32.ofInt r7 < Int32.ofInt 0) = true then 76 else 57) (L' := [some (.ref 87), some (vI a0), some (vI a1), none]) (S' := []) rfl ?_
      by_cases hc8 : 0 ≤ r7
      · have h := if_T h hc8
        refine rz_B.ifF (mt (lt32 hr7 (by decide)).mp (Int.not_lt.mpr hc8)) ?_
        refine rz_B.go 5 (pc' := 66) (L' := [some (.ref 87), some (vI a0), some (vI a1), none]) (S' := [vI a1, vI (A7.1 87 4), .ref 51]) rfl ?_
        obtain ⟨r9, A9, hf9, h⟩ := rz_b_inv h
        obtain ⟨hg9, hr9, hw9⟩ := cx32_find F (d := d + 0) hf9 (hw7 87 4).1 ha1 hw7
        refine rz_B.call (d := d + 1) (as := [.ref 51, vI (A7.1 87 4), vI a1]) (rest := []) (w := some (vI r9)) rfl hg9 ?_
        refine rz_B.go 1 (pc' := if decide (Int32.ofInt r9 < Int32.ofInt 0) = true then 76 else 72) (L' := [some (.ref 87), some (vI a0), some (vI a1), none]) (S' := []) rfl ?_
        by_cases hc10 : 0 ≤ r9
        · have h := if_T h hc10
          refine rz_B.ifF (mt (lt32 hr9 (by decide)).mp (Int.not_lt.mpr hc10)) ?_
          refine rz_B.go 5 (pc' := 87) (L' := [some (.ref 87), some (vI a0), some (vI a1), some (vI 1)]) (S' := []) rfl ?_
          cases h
          exact rz_B.ret rfl trivial hw9
        · have h := if_F h hc10
          refine rz_B.ifT ((lt32 hr9 (by decide)).mpr (Int.not_le.mp hc10)) ?_
          refine rz_B.put 7 (pc' := 87) (L' := [some (.ref 87), some (vI a0), some (vI a1), some (vI 0)]) (S' := []) (c := 87) (k := 4) (x := (-1)) rfl ?_
          have hw11 : wf (aI A9 87 4 (-1)) := wf_aI hw9 (by decide)
          cases h
          exact rz_B.ret rfl trivial hw11
      · have h := if_F h hc8
        refine rz_B.ifT ((lt32 hr7 (by decide)).mpr (Int.not_le.mp hc8)) ?_
        refine rz_B.put 7 (pc' := 87) (L' := [some (.ref 87), some (vI a0), some (vI a1), some (vI 0)]) (S' := []) (c := 87) (k := 4) (x := (-1)) rfl ?_
        have hw12 : wf (aI A7 87 4 (-1)) := wf_aI hw7 (by decide)
        cases h
        exact rz_B.ret rfl trivial hw12
    · have h := if_F h hc6
      refine rz_B.ifT ((lt32 hr5 (by decide)).mpr (Int.not_le.mp hc6)) ?_
      refine rz_B.put 7 (pc' := 87) (L' := [some (.ref 87), some (vI a0), some (vI a1), some (vI 0)]) (S' := []) (c := 87) (k := 4) (x := (-1)) rfl ?_
      have hw13 : wf (aI A5 87 4 (-1)) := wf_aI hw5 (by decide)
      cases h
      exact rz_B.ret rfl trivial hw13
def x117_postsAt_4 (F : Nat) : Nat → Int → Int → Int → rz_A → Option (Int × rz_A)
  | 0, _, _, _, _ => none
  | n + 1, v1, v2, v3, A =>
    if v3 < (A.1 2 0) then
      rz_b (x32_find F v3 v1 A) fun r2 A2 =>
      if 0 ≤ r2 then
        rz_g32 (v2 + 1) <|
        rz_g32 (v3 + 1) <|
        x117_postsAt_4 F n v1 (v2 + 1) (v3 + 1) A2
      else
        rz_g32 (v3 + 1) <|
        x117_postsAt_4 F n v1 v2 (v3 + 1) A2
    else
      some (v2, A)
theorem cx117_postsAt_4 {d : Nat} (F : Nat) : ∀ (n : Nat) (v1 : Int) (v2 : Int) (v3 : Int) (A : rz_A) (r : Int) (A' : rz_A), x117_postsAt_4 F n v1 v2 v3 A = some (r, A') → r32 v1 → r32 v2 → r32 v3 → wf A → rz_B (d + 2) 117 4 [some (.ref 51), some (vI v1), some (vI v2), some (vI v3)] [] A (some (vI r)) A' (r32 r) := by
  intro n
  induction n with
  | zero => intro v1 v2 v3 A r A' h; cases h
  | succ n ih =>
    intro v1 v2 v3 A r A' h hv1 hv2 hv3 hw
    rw [x117_postsAt_4] at h
    refine rz_B.go 5 (pc' := if decide (Int32.ofInt (A.1 2 0) ≤ Int32.ofInt v3) = true then 33 else 15) (L' := [some (.ref 51), some (vI v1), some (vI v2), some (vI v3)]) (S' := []) rfl ?_
    by_cases hc1 : v3 < (A.1 2 0)
    · have h := if_T h hc1
      refine rz_B.ifF (mt (le32 (hw 2 0).1 hv3).mp (Int.not_le.mpr hc1)) ?_
      refine rz_B.go 3 (pc' := 18) (L' := [some (.ref 51), some (vI v1), some (vI v2), some (vI v3)]) (S' := [vI v1, vI v3, .ref 51]) rfl ?_
      obtain ⟨r2, A2, hf2, h⟩ := rz_b_inv h
      obtain ⟨hg2, hr2, hw2⟩ := cx32_find F (d := d + 0) hf2 hv3 hv1 hw
      refine rz_B.call (d := d + 1) (as := [.ref 51, vI v3, vI v1]) (rest := []) (w := some (vI r2)) rfl hg2 ?_
      refine rz_B.go 1 (pc' := if decide (Int32.ofInt r2 < Int32.ofInt 0) = true then 27 else 24) (L' := [some (.ref 51), some (vI v1), some (vI v2), some (vI v3)]) (S' := []) rfl ?_
      by_cases hc3 : 0 ≤ r2
      · have h := if_T h hc3
        refine rz_B.ifF (mt (lt32 hr2 (by decide)).mp (Int.not_lt.mpr hc3)) ?_
        obtain ⟨hk4, h⟩ := rz_g32_inv h
        refine rz_B.iinc rfl (by decide) rfl (L' := [some (.ref 51), some (vI v1), some (vI (v2 + 1)), some (vI v3)]) rfl ?_
        obtain ⟨hk5, h⟩ := rz_g32_inv h
        refine rz_B.iinc rfl (by decide) rfl (L' := [some (.ref 51), some (vI v1), some (vI (v2 + 1)), some (vI (v3 + 1))]) rfl ?_
        refine rz_B.go 1 (pc' := 4) (L' := [some (.ref 51), some (vI v1), some (vI (v2 + 1)), some (vI (v3 + 1))]) (S' := []) rfl ?_
        refine rz_B.more (rg_le_ok (L := [some (.ref 51), some (vI v1), some (vI (v2 + 1)), some (vI (v3 + 1))]) (by simp [rg_le])) ?_
        exact ih _ _ _ _ _ _ h hv1 hk4 hk5 hw2
      · have h := if_F h hc3
        refine rz_B.ifT ((lt32 hr2 (by decide)).mpr (Int.not_le.mp hc3)) ?_
        obtain ⟨hk6, h⟩ := rz_g32_inv h
        refine rz_B.iinc rfl (by decide) rfl (L' := [some (.ref 51), some (vI v1), some (vI v2), some (vI (v3 + 1))]) rfl ?_
        refine rz_B.go 1 (pc' := 4) (L' := [some (.ref 51), some (vI v1), some (vI v2), some (vI (v3 + 1))]) (S' := []) rfl ?_
        refine rz_B.more (rg_le_ok (L := [some (.ref 51), some (vI v1), some (vI v2), some (vI (v3 + 1))]) (by simp [rg_le])) ?_
        exact ih _ _ _ _ _ _ h hv1 hv2 hk6 hw2
    · have h := if_F h hc1
      refine rz_B.ifT ((le32 (hw 2 0).1 hv3).mpr (Int.not_lt.mp hc1)) ?_
      refine rz_B.go 1 (pc' := 34) (L' := [some (.ref 51), some (vI v1), some (vI v2), some (vI v3)]) (S' := [vI v2]) rfl ?_
      cases h
      exact rz_B.ret rfl hv2 hw
/-- RiverGauge$View.postsAt(I)I -/
def x117_postsAt (F : Nat) (a0 : Int) (A : rz_A) : Option (Int × rz_A) :=
  x117_postsAt_4 F F a0 0 0 A
theorem cx117_postsAt (F : Nat) {d : Nat} {a0 : Int} {A : rz_A} {r : Int} {A' : rz_A} (h : x117_postsAt F a0 A = some (r, A')) (ha0 : r32 a0) (hw : wf A) : rg_Rn (d + 2) 117 [.ref 51, vI a0] (toM A) (some (vI r)) (toM A') ∧ (r32 r) ∧ wf A' := by
  show rz_B (d + 2) 117 0 [some (.ref 51), some (vI a0), none, none] [] A (some (vI r)) A' (r32 r)
  unfold x117_postsAt at h
  refine rz_B.go 4 (pc' := 4) (L' := [some (.ref 51), some (vI a0), some (vI 0), some (vI 0)]) (S' := []) rfl ?_
  refine rz_B.more (rg_le_ok (L := [some (.ref 51), some (vI a0), some (vI 0), some (vI 0)]) (by simp [rg_le])) ?_
  exact cx117_postsAt_4 F F _ _ _ _ _ _ h ha0 (by decide) (by decide) hw
/-- RiverGauge.fillLets(I)Z -/
def x116_fillLets (F : Nat) (a0 : Int) (A : rz_A) : Option (Int × rz_A) :=
  rz_g32 (a0.tdiv 96) <|
  rz_b (x22_inForce F 1 (a0.tdiv 96) (A.1 0 16) A) fun r2 A2 =>
  if r2 < 0 then
    some (1, A2)
  else
    rz_b (x23_lettersOf F a0 A2) fun _ A4 =>
    rz_g32 ((A4.1 87 3) - (A4.1 87 2)) <|
    rz_b (x117_postsAt F a0 (aI A4 49 6 ((A4.1 87 3) - (A4.1 87 2)))) fun r7 A7 =>
    if 0 ≤ (A7.1 87 4) then
      rz_b (x25_holds F r2 (aI (aI A7 49 7 r7) 49 8 (A7.1 87 4))) fun r11 A11 =>
      rz_gz r11 <|
      some (r11, A11)
    else
      rz_b (x25_holds F r2 (aI (aI A7 49 7 r7) 49 8 99)) fun r14 A14 =>
      rz_gz r14 <|
      some (r14, A14)
theorem cx116_fillLets (F : Nat) {d : Nat} {a0 : Int} {A : rz_A} {r : Int} {A' : rz_A} (h : x116_fillLets F a0 A = some (r, A')) (ha0 : r32 a0) (hw : wf A) : rg_Rn (d + 4) 116 [.ref 0, vI a0] (toM A) (some (vI r)) (toM A') ∧ (r32 r) ∧ wf A' := by
  show rz_B (d + 4) 116 0 [some (.ref 0), some (vI a0), none, none] [] A (some (vI r)) A' (r32 r)
  unfold x116_fillLets at h
  refine rz_B.go 5 (pc' := 8) (L' := [some (.ref 0), some (vI a0), none, none]) (S' := [vI 96, vI a0, vI 1, .ref 43]) rfl ?_
  obtain ⟨hk1, h⟩ := rz_g32_inv h
  refine rz_B.idiv rfl ha0 (by decide) (by decide) ?_
  refine rz_B.go 2 (pc' := 13) (L' := [some (.ref 0), some (vI a0), none, none]) (S' := [vI (A.1 0 16), vI (a0.tdiv 96), vI 1, .ref 43]) rfl ?_
  obtain ⟨r2, A2, hf2, h⟩ := rz_b_inv h
  obtain ⟨hg2, hr2, hw2⟩ := cx22_inForce F (d := d + 3) hf2 (by decide) hk1 (hw 0 16).1 hw
  refine rz_B.call (d := d + 3) (as := [.ref 43, vI 1, vI (a0.tdiv 96), vI (A.1 0 16)]) (rest := []) (w := some (vI r2)) rfl hg2 ?_
  refine rz_B.go 3 (pc' := if decide (Int32.ofInt 0 ≤ Int32.ofInt r2) = true then 23 else 21) (L' := [some (.ref 0), some (vI a0), some (vI r2), none]) (S' := []) rfl ?_
  by_cases hc3 : r2 < 0
  · have h := if_T h hc3
    refine rz_B.ifF (mt (le32 (by decide) hr2).mp (Int.not_le.mpr hc3)) ?_
    refine rz_B.go 1 (pc' := 22) (L' := [some (.ref 0), some (vI a0), some (vI r2), none]) (S' := [vI 1]) rfl ?_
    cases h
    exact rz_B.ret rfl (by decide) hw2
  · have h := if_F h hc3
    refine rz_B.ifT ((le32 (by decide) hr2).mpr (Int.not_lt.mp hc3)) ?_
    refine rz_B.go 3 (pc' := 28) (L' := [some (.ref 0), some (vI a0), some (vI r2), none]) (S' := [vI a0, .ref 43]) rfl ?_
    obtain ⟨_, A4, hf4, h⟩ := rz_b_inv h
    obtain ⟨hg4, hr4, hw4⟩ := cx23_lettersOf F (d := d + 3) hf4 ha0 hw2
    refine rz_B.call (d := d + 3) (as := [.ref 43, vI a0]) (rest := []) (w := some (.ref 49)) rfl hg4 ?_
    refine rz_B.go 9 (pc' := 49) (L' := [some (.ref 0), some (vI a0), some (vI r2), some (.ref 49)]) (S' := [vI (A4.1 87 2), vI (A4.1 87 3), vI 6, .ref 49]) rfl ?_
    obtain ⟨hk5, h⟩ := rz_g32_inv h
    refine rz_B.isub rfl ?_
    refine rz_B.iast rfl rfl (by decide) (by decide) (by decide) ?_
    have hw6 : wf (aI A4 49 6 ((A4.1 87 3) - (A4.1 87 2))) := wf_aI hw4 hk5
    refine rz_B.go 5 (pc' := 59) (L' := [some (.ref 0), some (vI a0), some (vI r2), some (.ref 49)]) (S' := [vI a0, .ref 51, vI 7, .ref 49]) rfl ?_
    obtain ⟨r7, A7, hf7, h⟩ := rz_b_inv h
    obtain ⟨hg7, hr7, hw7⟩ := cx117_postsAt F (d := d + 1) hf7 ha0 hw6
    refine rz_B.call (d := d + 3) (as := [.ref 51, vI a0]) (rest := [vI 7, .ref 49]) (w := some (vI r7)) rfl hg7 ?_
    refine rz_B.iast rfl rfl (by decide) (by decide) (by decide) ?_
    have hw8 : wf (aI A7 49 7 r7) := wf_aI hw7 hr7
    refine rz_B.go 6 (pc' := if decide (Int32.ofInt (A7.1 87 4) < Int32.ofInt 0) = true then 86 else 76) (L' := [some (.ref 0), some (vI a0), some (vI r2), some (.ref 49)]) (S' := [vI 8, .ref 49]) rfl ?_
    by_cases hc9 : 0 ≤ (A7.1 87 4)
    · have h := if_T h hc9
      refine rz_B.ifF (mt (lt32 (hw7 87 4).1 (by decide)).mp (Int.not_lt.mpr hc9)) ?_
      refine rz_B.go 4 (pc' := 88) (L' := [some (.ref 0), some (vI a0), some (vI r2), some (.ref 49)]) (S' := [vI (A7.1 87 4), vI 8, .ref 49]) rfl ?_
      refine rz_B.iast rfl rfl (by decide) (by decide) (by decide) ?_
      have hw10 : wf (aI (aI A7 49 7 r7) 49 8 (A7.1 87 4)) := wf_aI hw8 (hw7 87 4).1
      refine rz_B.go 3 (pc' := 94) (L' := [some (.ref 0), some (vI a0), some (vI r2), some (.ref 49)]) (S' := [vI r2, .ref 43]) rfl ?_
      obtain ⟨r11, A11, hf11, h⟩ := rz_b_inv h
      obtain ⟨hg11, hr11, hw11⟩ := cx25_holds F (d := d + 0) hf11 hr2 hw10
      refine rz_B.call (d := d + 3) (as := [.ref 43, vI r2]) (rest := []) (w := some (vI r11)) rfl hg11 ?_
      obtain ⟨hb12, h⟩ := rz_gz_inv h
      cases h
      exact rz_B.zret rfl rfl hb12 hr11 hw11
    · have h := if_F h hc9
      refine rz_B.ifT ((lt32 (hw7 87 4).1 (by decide)).mpr (Int.not_le.mp hc9)) ?_
      refine rz_B.go 1 (pc' := 88) (L' := [some (.ref 0), some (vI a0), some (vI r2), some (.ref 49)]) (S' := [vI 99, vI 8, .ref 49]) rfl ?_
      refine rz_B.iast rfl rfl (by decide) (by decide) (by decide) ?_
      have hw13 : wf (aI (aI A7 49 7 r7) 49 8 99) := wf_aI hw8 (by decide)
      refine rz_B.go 3 (pc' := 94) (L' := [some (.ref 0), some (vI a0), some (vI r2), some (.ref 49)]) (S' := [vI r2, .ref 43]) rfl ?_
      obtain ⟨r14, A14, hf14, h⟩ := rz_b_inv h
      obtain ⟨hg14, hr14, hw14⟩ := cx25_holds F (d := d + 0) hf14 hr2 hw13
      refine rz_B.call (d := d + 3) (as := [.ref 43, vI r2]) (rest := []) (w := some (vI r14)) rfl hg14 ?_
      obtain ⟨hb15, h⟩ := rz_gz_inv h
      cases h
      exact rz_B.zret rfl rfl hb15 hr14 hw14
/-- RiverGauge$Gaps.between(II)I -/
def x119_between (F : Nat) (a0 : Int) (a1 : Int) (A : rz_A) : Option (Int × rz_A) :=
  rz_b (x32_find F a0 (A.1 87 2) A) fun r1 A1 =>
  rz_b (x32_find F a0 (A1.1 87 3) A1) fun r2 A2 =>
  if 0 ≤ r1 then
    if r2 < 0 then
      some (0, A2)
    else
      rz_gx r2 300 <|
      rz_gx r1 300 <|
      rz_g32 ((A2.1 54 (r2).toNat) - (A2.1 54 (r1).toNat)) <|
      rz_g32 (a1 - (A2.1 87 2)) <|
      rz_g32 ((A2.1 87 3) - (A2.1 87 2)) <|
      rz_b (x77_share F ((A2.1 54 (r2).toNat) - (A2.1 54 (r1).toNat)) (a1 - (A2.1 87 2)) ((A2.1 87 3) - (A2.1 87 2)) A2) fun r12 A12 =>
      rz_g32 r12 <|
      rz_g32 ((A12.1 54 (r1).toNat) + r12) <|
      some (((A12.1 54 (r1).toNat) + r12), A12)
  else
    some (0, A2)
theorem cx119_between (F : Nat) {d : Nat} {a0 : Int} {a1 : Int} {A : rz_A} {r : Int} {A' : rz_A} (h : x119_between F a0 a1 A = some (r, A')) (ha0 : r32 a0) (ha1 : r32 a1) (hw : wf A) : rg_Rn (d + 2) 119 [.ref 87, vI a0, vI a1] (toM A) (some (vI r)) (toM A') ∧ (r32 r) ∧ wf A' := by
  show rz_B (d + 2) 119 0 [some (.ref 87), some (vI a0), some (vI a1), none, none, none, none] [] A (some (vI r)) A' (r32 r)
  unfold x119_between at h
  refine rz_B.go 5 (pc' := 9) (L' := [some (.ref 87), some (vI a0), some (vI a1), none, none, none, none]) (S' := [vI (A.1 87 2), vI a0, .ref 51]) rfl ?_
  obtain ⟨r1, A1, hf1, h⟩ := rz_b_inv h
  obtain ⟨hg1, hr1, hw1⟩ := cx32_find F (d := d + 0) hf1 ha0 (hw 87 2).1 hw
  refine rz_B.call (d := d + 1) (as := [.ref 51, vI a0, vI (A.1 87 2)]) (rest := []) (w := some (vI r1)) rfl hg1 ?_
  refine rz_B.go 6 (pc' := 22) (L' := [some (.ref 87), some (vI a0), some (vI a1), some (vI r1), none, none, none]) (S' := [vI (A1.1 87 3), vI a0, .ref 51]) rfl ?_
  obtain ⟨r2, A2, hf2, h⟩ := rz_b_inv h
  obtain ⟨hg2, hr2, hw2⟩ := cx32_find F (d := d + 0) hf2 ha0 (hw1 87 3).1 hw1
  refine rz_B.call (d := d + 1) (as := [.ref 51, vI a0, vI (A1.1 87 3)]) (rest := []) (w := some (vI r2)) rfl hg2 ?_
  refine rz_B.go 3 (pc' := if decide (Int32.ofInt r1 < Int32.ofInt 0) = true then 36 else 31) (L' := [some (.ref 87), some (vI a0), some (vI a1), some (vI r1), some (vI r2), none, none]) (S' := []) rfl ?_
  by_cases hc3 : 0 ≤ r1
  · have h := if_T h hc3
    refine rz_B.ifF (mt (lt32 hr1 (by decide)).mp (Int.not_lt.mpr hc3)) ?_
    refine rz_B.go 2 (pc' := if decide (Int32.ofInt 0 ≤ Int32.ofInt r2) = true then 38 else 36) (L' := [some (.ref 87), some (vI a0), some (vI a1), some (vI r1), some (vI r2), none, none]) (S' := []) rfl ?_
    by_cases hc4 : r2 < 0
    · have h := if_T h hc4
      refine rz_B.ifF (mt (le32 (by decide) hr2).mp (Int.not_le.mpr hc4)) ?_
      refine rz_B.go 1 (pc' := 37) (L' := [some (.ref 87), some (vI a0), some (vI a1), some (vI r1), some (vI r2), none, none]) (S' := [vI 0]) rfl ?_
      cases h
      exact rz_B.ret rfl (by decide) hw2
    · have h := if_F h hc4
      refine rz_B.ifT ((le32 (by decide) hr2).mpr (Int.not_lt.mp hc4)) ?_
      refine rz_B.go 4 (pc' := 47) (L' := [some (.ref 87), some (vI a0), some (vI a1), some (vI r1), some (vI r2), none, none]) (S' := [vI r2, .ref 54]) rfl ?_
      obtain ⟨hi5, hj6, h⟩ := rz_gx_inv h
      refine rz_B.iald rfl rfl hi5 hj6 (by decide) ?_
      refine rz_B.go 4 (pc' := 56) (L' := [some (.ref 87), some (vI a0), some (vI a1), some (vI r1), some (vI r2), none, none]) (S' := [vI r1, .ref 54, vI (A2.1 54 (r2).toNat)]) rfl ?_
      obtain ⟨hi7, hj8, h⟩ := rz_gx_inv h
      refine rz_B.iald rfl rfl hi7 hj8 (by decide) ?_
      obtain ⟨hk9, h⟩ := rz_g32_inv h
      refine rz_B.isub rfl ?_
      refine rz_B.i2l rfl hk9 ?_
      refine rz_B.go 3 (pc' := 64) (L' := [some (.ref 87), some (vI a0), some (vI a1), some (vI r1), some (vI r2), none, none]) (S' := [vI (A2.1 87 2), vI a1, vL ((A2.1 54 (r2).toNat) - (A2.1 54 (r1).toNat))]) rfl ?_
      obtain ⟨hk10, h⟩ := rz_g32_inv h
      refine rz_B.isub rfl ?_
      refine rz_B.i2l rfl hk10 ?_
      refine rz_B.go 4 (pc' := 74) (L' := [some (.ref 87), some (vI a0), some (vI a1), some (vI r1), some (vI r2), none, none]) (S' := [vI (A2.1 87 2), vI (A2.1 87 3), vL (a1 - (A2.1 87 2)), vL ((A2.1 54 (r2).toNat) - (A2.1 54 (r1).toNat))]) rfl ?_
      obtain ⟨hk11, h⟩ := rz_g32_inv h
      refine rz_B.isub rfl ?_
      refine rz_B.i2l rfl hk11 ?_
      obtain ⟨r12, A12, hf12, h⟩ := rz_b_inv h
      obtain ⟨hg12, hr12, hw12⟩ := cx77_share F (d := d + 1) hf12 (r64_of hk9) (r64_of hk10) (r64_of hk11) hw2
      refine rz_B.call (d := d + 1) (as := [vL ((A2.1 54 (r2).toNat) - (A2.1 54 (r1).toNat)), vL (a1 - (A2.1 87 2)), vL ((A2.1 87 3) - (A2.1 87 2))]) (rest := []) (w := some (vL r12)) rfl hg12 ?_
      refine rz_B.go 5 (pc' := 89) (L' := [some (.ref 87), some (vI a0), some (vI a1), some (vI r1), some (vI r2), some (vL r12), none]) (S' := [vI r1, .ref 54]) rfl ?_
      refine rz_B.iald rfl rfl hi7 hj8 (by decide) ?_
      refine rz_B.go 1 (pc' := 92) (L' := [some (.ref 87), some (vI a0), some (vI a1), some (vI r1), some (vI r2), some (vL r12), none]) (S' := [vL r12, vI (A12.1 54 (r1).toNat)]) rfl ?_
      obtain ⟨hk13, h⟩ := rz_g32_inv h
      refine rz_B.l2i rfl ?_
      obtain ⟨hk14, h⟩ := rz_g32_inv h
      refine rz_B.iadd rfl ?_
      cases h
      exact rz_B.ret rfl hk14 hw12
  · have h := if_F h hc3
    refine rz_B.ifT ((lt32 hr1 (by decide)).mpr (Int.not_le.mp hc3)) ?_
    refine rz_B.go 1 (pc' := 37) (L' := [some (.ref 87), some (vI a0), some (vI a1), some (vI r1), some (vI r2), none, none]) (S' := [vI 0]) rfl ?_
    cases h
    exact rz_B.ret rfl (by decide) hw2
/-- RiverGauge$Gaps.filled(II)I -/
def x118_filled (F : Nat) (a0 : Int) (a1 : Int) (A : rz_A) : Option (Int × rz_A) :=
  rz_b (x119_between F a0 a1 A) fun r1 A1 =>
  if (A1.1 87 4) < 0 then
    some (r1, A1)
  else
    rz_b (x32_find F (A1.1 87 4) a1 A1) fun r3 A3 =>
    if r3 < 0 then
      some (r1, A3)
    else
      rz_gx r3 300 <|
      rz_g32 (r1 + (A3.1 54 (r3).toNat)) <|
      rz_b (x119_between F (A3.1 87 4) a1 A3) fun r8 A8 =>
      rz_g32 ((r1 + (A3.1 54 (r3).toNat)) - r8) <|
      some (((r1 + (A3.1 54 (r3).toNat)) - r8), A8)
theorem cx118_filled (F : Nat) {d : Nat} {a0 : Int} {a1 : Int} {A : rz_A} {r : Int} {A' : rz_A} (h : x118_filled F a0 a1 A = some (r, A')) (ha0 : r32 a0) (ha1 : r32 a1) (hw : wf A) : rg_Rn (d + 3) 118 [.ref 87, vI a0, vI a1] (toM A) (some (vI r)) (toM A') ∧ (r32 r) ∧ wf A' := by
  show rz_B (d + 3) 118 0 [some (.ref 87), some (vI a0), some (vI a1), none, none] [] A (some (vI r)) A' (r32 r)
  unfold x118_filled at h
  refine rz_B.go 3 (pc' := 3) (L' := [some (.ref 87), some (vI a0), some (vI a1), none, none]) (S' := [vI a1, vI a0, .ref 87]) rfl ?_
  obtain ⟨r1, A1, hf1, h⟩ := rz_b_inv h
  obtain ⟨hg1, hr1, hw1⟩ := cx119_between F (d := d + 0) hf1 ha0 ha1 hw
  refine rz_B.call (d := d + 2) (as := [.ref 87, vI a0, vI a1]) (rest := []) (w := some (vI r1)) rfl hg1 ?_
  refine rz_B.go 4 (pc' := if decide (Int32.ofInt 0 ≤ Int32.ofInt (A1.1 87 4)) = true then 16 else 14) (L' := [some (.ref 87), some (vI a0), some (vI a1), some (vI r1), none]) (S' := []) rfl ?_
  by_cases hc2 : (A1.1 87 4) < 0
  · have h := if_T h hc2
    refine rz_B.ifF (mt (le32 (by decide) (hw1 87 4).1).mp (Int.not_le.mpr hc2)) ?_
    refine rz_B.go 1 (pc' := 15) (L' := [some (.ref 87), some (vI a0), some (vI a1), some (vI r1), none]) (S' := [vI r1]) rfl ?_
    cases h
    exact rz_B.ret rfl hr1 hw1
  · have h := if_F h hc2
    refine rz_B.ifT ((le32 (by decide) (hw1 87 4).1).mpr (Int.not_lt.mp hc2)) ?_
    refine rz_B.go 5 (pc' := 25) (L' := [some (.ref 87), some (vI a0), some (vI a1), some (vI r1), none]) (S' := [vI a1, vI (A1.1 87 4), .ref 51]) rfl ?_
    obtain ⟨r3, A3, hf3, h⟩ := rz_b_inv h
    obtain ⟨hg3, hr3, hw3⟩ := cx32_find F (d := d + 1) hf3 (hw1 87 4).1 ha1 hw1
    refine rz_B.call (d := d + 2) (as := [.ref 51, vI (A1.1 87 4), vI a1]) (rest := []) (w := some (vI r3)) rfl hg3 ?_
    refine rz_B.go 3 (pc' := if decide (Int32.ofInt 0 ≤ Int32.ofInt r3) = true then 39 else 35) (L' := [some (.ref 87), some (vI a0), some (vI a1), some (vI r1), some (vI r3)]) (S' := []) rfl ?_
    by_cases hc4 : r3 < 0
    · have h := if_T h hc4
      refine rz_B.ifF (mt (le32 (by decide) hr3).mp (Int.not_le.mpr hc4)) ?_
      refine rz_B.go 2 (pc' := 61) (L' := [some (.ref 87), some (vI a0), some (vI a1), some (vI r1), some (vI r3)]) (S' := [vI r1]) rfl ?_
      cases h
      exact rz_B.ret rfl hr1 hw3
    · have h := if_F h hc4
      refine rz_B.ifT ((le32 (by decide) hr3).mpr (Int.not_lt.mp hc4)) ?_
      refine rz_B.go 5 (pc' := 49) (L' := [some (.ref 87), some (vI a0), some (vI a1), some (vI r1), some (vI r3)]) (S' := [vI r3, .ref 54, vI r1]) rfl ?_
      obtain ⟨hi5, hj6, h⟩ := rz_gx_inv h
      refine rz_B.iald rfl rfl hi5 hj6 (by decide) ?_
      obtain ⟨hk7, h⟩ := rz_g32_inv h
      refine rz_B.iadd rfl ?_
      refine rz_B.go 4 (pc' := 57) (L' := [some (.ref 87), some (vI a0), some (vI a1), some (vI r1), some (vI r3)]) (S' := [vI a1, vI (A3.1 87 4), .ref 87, vI (r1 + (A3.1 54 (r3).toNat))]) rfl ?_
      obtain ⟨r8, A8, hf8, h⟩ := rz_b_inv h
      obtain ⟨hg8, hr8, hw8⟩ := cx119_between F (d := d + 0) hf8 (hw3 87 4).1 ha1 hw3
      refine rz_B.call (d := d + 2) (as := [.ref 87, vI (A3.1 87 4), vI a1]) (rest := [vI (r1 + (A3.1 54 (r3).toNat))]) (w := some (vI r8)) rfl hg8 ?_
      obtain ⟨hk9, h⟩ := rz_g32_inv h
      refine rz_B.isub rfl ?_
      cases h
      exact rz_B.ret rfl hk9 hw8
/-- RiverGauge.gap(III)I -/
def x113_gap (F : Nat) (a0 : Int) (a1 : Int) (a2 : Int) (A : rz_A) : Option (Int × rz_A) :=
  rz_b (x5_has F a0 A) fun r1 A1 =>
  if r1 = 0 then
    rz_b (x10_refuseAsTold F (-1) A1) fun r3 A3 =>
    some (r3, A3)
  else
    if 0 ≤ a2 then
      if 3 < a2 then
        rz_b (x10_refuseAsTold F (-2) A1) fun r6 A6 =>
        some (r6, A6)
      else
        rz_b (x19_whyNotTime F a1 A1) fun r7 A7 =>
        if r7 = 0 then
          rz_b (x20_see F (A7.1 0 16) A7) fun _ A9 =>
          rz_b (x32_find F a0 a1 A9) fun r10 A10 =>
          if 0 ≤ r10 then
            rz_b (x10_refuseAsTold F (-3) A10) fun r12 A12 =>
            some (r12, A12)
          else
            rz_b (x114_findEnds F a0 a1 A10) fun r13 A13 =>
            if r13 = 0 then
              rz_b (x10_refuseAsTold F (-5) A13) fun r15 A15 =>
              some (r15, A15)
            else
              rz_b (x115_findNeighbour F a0 a1 A13) fun _ A16 =>
              rz_b (x116_fillLets F a1 A16) fun r17 A17 =>
              if r17 = 0 then
                rz_b (x10_refuseAsTold F (-3) A17) fun r19 A19 =>
                some (r19, A19)
              else
                if a2 = 0 then
                  rz_b (x118_filled F a0 a1 A17) fun r21 A21 =>
                  some (r21, A21)
                else
                  if a2 = 3 then
                    if 0 ≤ (A17.1 87 4) then
                      some (1, A17)
                    else
                      some (0, A17)
                  else
                    if a2 = 1 then
                      some ((A17.1 87 2), A17)
                    else
                      some ((A17.1 87 3), A17)
        else
          rz_b (x10_refuseAsTold F r7 A7) fun r25 A25 =>
          some (r25, A25)
    else
      rz_b (x10_refuseAsTold F (-2) A1) fun r26 A26 =>
      some (r26, A26)
theorem cx113_gap (F : Nat) {d : Nat} {a0 : Int} {a1 : Int} {a2 : Int} {A : rz_A} {r : Int} {A' : rz_A} (h : x113_gap F a0 a1 a2 A = some (r, A')) (ha0 : r32 a0) (ha1 : r32 a1) (ha2 : r32 a2) (hw : wf A) : rg_Rn (d + 6) 113 [.ref 0, vI a0, vI a1, vI a2] (toM A) (some (vI r)) (toM A') ∧ (r32 r) ∧ wf A' := by
  show rz_B (d + 6) 113 0 [some (.ref 0), some (vI a0), some (vI a1), some (vI a2), none] [] A (some (vI r)) A' (r32 r)
  unfold x113_gap at h
  refine rz_B.go 3 (pc' := 5) (L' := [some (.ref 0), some (vI a0), some (vI a1), some (vI a2), none]) (S' := [vI a0, .ref 2]) rfl ?_
  obtain ⟨r1, A1, hf1, h⟩ := rz_b_inv h
  obtain ⟨hg1, hr1, hw1⟩ := cx5_has F (d := d + 5) hf1 ha0 hw
  refine rz_B.call (d := d + 5) (as := [.ref 2, vI a0]) (rest := []) (w := some (vI r1)) rfl hg1 ?_
  refine rz_B.go 1 (pc' := if decide (¬ Int32.ofInt r1 = Int32.ofInt 0) = true then 17 else 11) (L' := [some (.ref 0), some (vI a0), some (vI a1), some (vI a2), none]) (S' := []) rfl ?_
  by_cases hc2 : r1 = 0
  · have h := if_T h hc2
    refine rz_B.ifF (fun hn => hn ((eq32 hr1 (by decide)).mpr hc2)) ?_
    refine rz_B.go 2 (pc' := 13) (L' := [some (.ref 0), some (vI a0), some (vI a1), some (vI a2), none]) (S' := [vI (-1), .ref 0]) rfl ?_
    obtain ⟨r3, A3, hf3, h⟩ := rz_b_inv h
    obtain ⟨hg3, hr3, hw3⟩ := cx10_refuseAsTold F (d := d + 4) hf3 (by decide) hw1
    refine rz_B.call (d := d + 5) (as := [.ref 0, vI (-1)]) (rest := []) (w := some (vI r3)) rfl hg3 ?_
    cases h
    exact rz_B.ret rfl hr3 hw3
  · have h := if_F h hc2
    refine rz_B.ifT (mt (eq32 hr1 (by decide)).mp hc2) ?_
    refine rz_B.go 2 (pc' := if decide (Int32.ofInt a2 < Int32.ofInt 0) = true then 26 else 21) (L' := [some (.ref 0), some (vI a0), some (vI a1), some (vI a2), none]) (S' := []) rfl ?_
    by_cases hc4 : 0 ≤ a2
    · have h := if_T h hc4
      refine rz_B.ifF (mt (lt32 ha2 (by decide)).mp (Int.not_lt.mpr hc4)) ?_
      refine rz_B.go 3 (pc' := if decide (Int32.ofInt a2 ≤ Int32.ofInt 3) = true then 33 else 26) (L' := [some (.ref 0), some (vI a0), some (vI a1), some (vI a2), none]) (S' := []) rfl ?_
      by_cases hc5 : 3 < a2
      · have h := if_T h hc5
        refine rz_B.ifF (mt (le32 ha2 (by decide)).mp (Int.not_le.mpr hc5)) ?_
        refine rz_B.go 2 (pc' := 29) (L' := [some (.ref 0), some (vI a0), some (vI a1), some (vI a2), none]) (S' := [vI (-2), .ref 0]) rfl ?_
        obtain ⟨r6, A6, hf6, h⟩ := rz_b_inv h
        obtain ⟨hg6, hr6, hw6⟩ := cx10_refuseAsTold F (d := d + 4) hf6 (by decide) hw1
        refine rz_B.call (d := d + 5) (as := [.ref 0, vI (-2)]) (rest := []) (w := some (vI r6)) rfl hg6 ?_
        cases h
        exact rz_B.ret rfl hr6 hw6
      · have h := if_F h hc5
        refine rz_B.ifT ((le32 ha2 (by decide)).mpr (Int.not_lt.mp hc5)) ?_
        refine rz_B.go 1 (pc' := 34) (L' := [some (.ref 0), some (vI a0), some (vI a1), some (vI a2), none]) (S' := [vI a1]) rfl ?_
        obtain ⟨r7, A7, hf7, h⟩ := rz_b_inv h
        obtain ⟨hg7, hr7, hw7⟩ := cx19_whyNotTime F (d := d + 5) hf7 ha1 hw1
        refine rz_B.call (d := d + 5) (as := [vI a1]) (rest := []) (w := some (vI r7)) rfl hg7 ?_
        refine rz_B.go 3 (pc' := if decide (Int32.ofInt r7 = Int32.ofInt 0) = true then 51 else 44) (L' := [some (.ref 0), some (vI a0), some (vI a1), some (vI a2), some (vI r7)]) (S' := []) rfl ?_
        by_cases hc8 : r7 = 0
        · have h := if_T h hc8
          refine rz_B.ifT ((eq32 hr7 (by decide)).mpr hc8) ?_
          refine rz_B.go 4 (pc' := 59) (L' := [some (.ref 0), some (vI a0), some (vI a1), some (vI a2), some (vI r7)]) (S' := [vI (A7.1 0 16), .ref 51]) rfl ?_
          obtain ⟨_, A9, hf9, h⟩ := rz_b_inv h
          obtain ⟨hg9, hr9, hw9⟩ := cx20_see F (d := d + 0) hf9 (hw7 0 16).1 hw7
          refine rz_B.call (d := d + 5) (as := [.ref 51, vI (A7.1 0 16)]) (rest := []) (w := none) rfl hg9 ?_
          refine rz_B.go 4 (pc' := 68) (L' := [some (.ref 0), some (vI a0), some (vI a1), some (vI a2), some (vI r7)]) (S' := [vI a1, vI a0, .ref 51]) rfl ?_
          obtain ⟨r10, A10, hf10, h⟩ := rz_b_inv h
          obtain ⟨hg10, hr10, hw10⟩ := cx32_find F (d := d + 4) hf10 ha0 ha1 hw9
          refine rz_B.call (d := d + 5) (as := [.ref 51, vI a0, vI a1]) (rest := []) (w := some (vI r10)) rfl hg10 ?_
          refine rz_B.go 1 (pc' := if decide (Int32.ofInt r10 < Int32.ofInt 0) = true then 81 else 74) (L' := [some (.ref 0), some (vI a0), some (vI a1), some (vI a2), some (vI r7)]) (S' := []) rfl ?_
          by_cases hc11 : 0 ≤ r10
          · have h := if_T h hc11
            refine rz_B.ifF (mt (lt32 hr10 (by decide)).mp (Int.not_lt.mpr hc11)) ?_
            refine rz_B.go 2 (pc' := 77) (L' := [some (.ref 0), some (vI a0), some (vI a1), some (vI a2), some (vI r7)]) (S' := [vI (-3), .ref 0]) rfl ?_
            obtain ⟨r12, A12, hf12, h⟩ := rz_b_inv h
            obtain ⟨hg12, hr12, hw12⟩ := cx10_refuseAsTold F (d := d + 4) hf12 (by decide) hw10
            refine rz_B.call (d := d + 5) (as := [.ref 0, vI (-3)]) (rest := []) (w := some (vI r12)) rfl hg12 ?_
            cases h
            exact rz_B.ret rfl hr12 hw12
          · have h := if_F h hc11
            refine rz_B.ifT ((lt32 hr10 (by decide)).mpr (Int.not_le.mp hc11)) ?_
            refine rz_B.go 4 (pc' := 87) (L' := [some (.ref 0), some (vI a0), some (vI a1), some (vI a2), some (vI r7)]) (S' := [vI a1, vI a0, .ref 87]) rfl ?_
            obtain ⟨r13, A13, hf13, h⟩ := rz_b_inv h
            obtain ⟨hg13, hr13, hw13⟩ := cx114_findEnds F (d := d + 4) hf13 ha0 ha1 hw10
            refine rz_B.call (d := d + 5) (as := [.ref 87, vI a0, vI a1]) (rest := []) (w := some (vI r13)) rfl hg13 ?_
            refine rz_B.go 1 (pc' := if decide (¬ Int32.ofInt r13 = Int32.ofInt 0) = true then 100 else 93) (L' := [some (.ref 0), some (vI a0), some (vI a1), some (vI a2), some (vI r7)]) (S' := []) rfl ?_
            by_cases hc14 : r13 = 0
            · have h := if_T h hc14
              refine rz_B.ifF (fun hn => hn ((eq32 hr13 (by decide)).mpr hc14)) ?_
              refine rz_B.go 2 (pc' := 96) (L' := [some (.ref 0), some (vI a0), some (vI a1), some (vI a2), some (vI r7)]) (S' := [vI (-5), .ref 0]) rfl ?_
              obtain ⟨r15, A15, hf15, h⟩ := rz_b_inv h
              obtain ⟨hg15, hr15, hw15⟩ := cx10_refuseAsTold F (d := d + 4) hf15 (by decide) hw13
              refine rz_B.call (d := d + 5) (as := [.ref 0, vI (-5)]) (rest := []) (w := some (vI r15)) rfl hg15 ?_
              cases h
              exact rz_B.ret rfl hr15 hw15
            · have h := if_F h hc14
              refine rz_B.ifT (mt (eq32 hr13 (by decide)).mp hc14) ?_
              refine rz_B.go 4 (pc' := 106) (L' := [some (.ref 0), some (vI a0), some (vI a1), some (vI a2), some (vI r7)]) (S' := [vI a1, vI a0, .ref 87]) rfl ?_
              obtain ⟨_, A16, hf16, h⟩ := rz_b_inv h
              obtain ⟨hg16, hr16, hw16⟩ := cx115_findNeighbour F (d := d + 3) hf16 ha0 ha1 hw13
              refine rz_B.call (d := d + 5) (as := [.ref 87, vI a0, vI a1]) (rest := []) (w := none) rfl hg16 ?_
              refine rz_B.go 2 (pc' := 111) (L' := [some (.ref 0), some (vI a0), some (vI a1), some (vI a2), some (vI r7)]) (S' := [vI a1, .ref 0]) rfl ?_
              obtain ⟨r17, A17, hf17, h⟩ := rz_b_inv h
              obtain ⟨hg17, hr17, hw17⟩ := cx116_fillLets F (d := d + 1) hf17 ha1 hw16
              refine rz_B.call (d := d + 5) (as := [.ref 0, vI a1]) (rest := []) (w := some (vI r17)) rfl hg17 ?_
              refine rz_B.go 1 (pc' := if decide (¬ Int32.ofInt r17 = Int32.ofInt 0) = true then 124 else 117) (L' := [some (.ref 0), some (vI a0), some (vI a1), some (vI a2), some (vI r7)]) (S' := []) rfl ?_
              by_cases hc18 : r17 = 0
              · have h := if_T h hc18
                refine rz_B.ifF (fun hn => hn ((eq32 hr17 (by decide)).mpr hc18)) ?_
                refine rz_B.go 2 (pc' := 120) (L' := [some (.ref 0), some (vI a0), some (vI a1), some (vI a2), some (vI r7)]) (S' := [vI (-3), .ref 0]) rfl ?_
                obtain ⟨r19, A19, hf19, h⟩ := rz_b_inv h
                obtain ⟨hg19, hr19, hw19⟩ := cx10_refuseAsTold F (d := d + 4) hf19 (by decide) hw17
                refine rz_B.call (d := d + 5) (as := [.ref 0, vI (-3)]) (rest := []) (w := some (vI r19)) rfl hg19 ?_
                cases h
                exact rz_B.ret rfl hr19 hw19
              · have h := if_F h hc18
                refine rz_B.ifT (mt (eq32 hr17 (by decide)).mp hc18) ?_
                refine rz_B.go 2 (pc' := if decide (¬ Int32.ofInt a2 = Int32.ofInt 0) = true then 138 else 128) (L' := [some (.ref 0), some (vI a0), some (vI a1), some (vI a2), some (vI r7)]) (S' := []) rfl ?_
                by_cases hc20 : a2 = 0
                · have h := if_T h hc20
                  refine rz_B.ifF (fun hn => hn ((eq32 ha2 (by decide)).mpr hc20)) ?_
                  refine rz_B.go 4 (pc' := 134) (L' := [some (.ref 0), some (vI a0), some (vI a1), some (vI a2), some (vI r7)]) (S' := [vI a1, vI a0, .ref 87]) rfl ?_
                  obtain ⟨r21, A21, hf21, h⟩ := rz_b_inv h
                  obtain ⟨hg21, hr21, hw21⟩ := cx118_filled F (d := d + 2) hf21 ha0 ha1 hw17
                  refine rz_B.call (d := d + 5) (as := [.ref 87, vI a0, vI a1]) (rest := []) (w := some (vI r21)) rfl hg21 ?_
                  cases h
                  exact rz_B.ret rfl hr21 hw21
                · have h := if_F h hc20
                  refine rz_B.ifT (mt (eq32 ha2 (by decide)).mp hc20) ?_
                  refine rz_B.go 3 (pc' := if decide (¬ Int32.ofInt a2 = Int32.ofInt 3) = true then 159 else 143) (L' := [some (.ref 0), some (vI a0), some (vI a1), some (vI a2), some (vI r7)]) (S' := []) rfl ?_
                  by_cases hc22 : a2 = 3
                  · have h := if_T h hc22
                    refine rz_B.ifF (fun hn => hn ((eq32 ha2 (by decide)).mpr hc22)) ?_
                    refine rz_B.go 4 (pc' := if decide (Int32.ofInt (A17.1 87 4) < Int32.ofInt 0) = true then 157 else 153) (L' := [some (.ref 0), some (vI a0), some (vI a1), some (vI a2), some (vI r7)]) (S' := []) rfl ?_
                    by_cases hc23 : 0 ≤ (A17.1 87 4)
                    · have h := if_T h hc23
                      refine rz_B.ifF (mt (lt32 (hw17 87 4).1 (by decide)).mp (Int.not_lt.mpr hc23)) ?_
                      refine rz_B.go 2 (pc' := 158) (L' := [some (.ref 0), some (vI a0), some (vI a1), some (vI a2), some (vI r7)]) (S' := [vI 1]) rfl ?_
                      cases h
                      exact rz_B.ret rfl (by decide) hw17
                    · have h := if_F h hc23
                      refine rz_B.ifT ((lt32 (hw17 87 4).1 (by decide)).mpr (Int.not_le.mp hc23)) ?_
                      refine rz_B.go 1 (pc' := 158) (L' := [some (.ref 0), some (vI a0), some (vI a1), some (vI a2), some (vI r7)]) (S' := [vI 0]) rfl ?_
                      cases h
                      exact rz_B.ret rfl (by decide) hw17
                  · have h := if_F h hc22
                    refine rz_B.ifT (mt (eq32 ha2 (by decide)).mp hc22) ?_
                    refine rz_B.go 3 (pc' := if decide (¬ Int32.ofInt a2 = Int32.ofInt 1) = true then 174 else 164) (L' := [some (.ref 0), some (vI a0), some (vI a1), some (vI a2), some (vI r7)]) (S' := []) rfl ?_
                    by_cases hc24 : a2 = 1
                    · have h := if_T h hc24
                      refine rz_B.ifF (fun hn => hn ((eq32 ha2 (by decide)).mpr hc24)) ?_
                      refine rz_B.go 4 (pc' := 181) (L' := [some (.ref 0), some (vI a0), some (vI a1), some (vI a2), some (vI r7)]) (S' := [vI (A17.1 87 2)]) rfl ?_
                      cases h
                      exact rz_B.ret rfl (hw17 87 2).1 hw17
                    · have h := if_F h hc24
                      refine rz_B.ifT (mt (eq32 ha2 (by decide)).mp hc24) ?_
                      refine rz_B.go 3 (pc' := 181) (L' := [some (.ref 0), some (vI a0), some (vI a1), some (vI a2), some (vI r7)]) (S' := [vI (A17.1 87 3)]) rfl ?_
                      cases h
                      exact rz_B.ret rfl (hw17 87 3).1 hw17
        · have h := if_F h hc8
          refine rz_B.ifF (mt (eq32 hr7 (by decide)).mp hc8) ?_
          refine rz_B.go 2 (pc' := 47) (L' := [some (.ref 0), some (vI a0), some (vI a1), some (vI a2), some (vI r7)]) (S' := [vI r7, .ref 0]) rfl ?_
          obtain ⟨r25, A25, hf25, h⟩ := rz_b_inv h
          obtain ⟨hg25, hr25, hw25⟩ := cx10_refuseAsTold F (d := d + 4) hf25 hr7 hw7
          refine rz_B.call (d := d + 5) (as := [.ref 0, vI r7]) (rest := []) (w := some (vI r25)) rfl hg25 ?_
          cases h
          exact rz_B.ret rfl hr25 hw25
    · have h := if_F h hc4
      refine rz_B.ifT ((lt32 ha2 (by decide)).mpr (Int.not_le.mp hc4)) ?_
      refine rz_B.go 2 (pc' := 29) (L' := [some (.ref 0), some (vI a0), some (vI a1), some (vI a2), none]) (S' := [vI (-2), .ref 0]) rfl ?_
      obtain ⟨r26, A26, hf26, h⟩ := rz_b_inv h
      obtain ⟨hg26, hr26, hw26⟩ := cx10_refuseAsTold F (d := d + 4) hf26 (by decide) hw1
      refine rz_B.call (d := d + 5) (as := [.ref 0, vI (-2)]) (rest := []) (w := some (vI r26)) rfl hg26 ?_
      cases h
      exact rz_B.ret rfl hr26 hw26
def x121_greatest_24 (F : Nat) : Nat → Int → Int → Int → rz_A → Option (Int × rz_A)
  | 0, _, _, _, _ => none
  | n + 1, v4, v5, v6, A =>
    if v6 < (A.1 51 10) then
      rz_gx v6 300 <|
      if (A.1 53 (v6).toNat) ≤ v5 then
        rz_b (x85_rate F v6 A) fun r5 A5 =>
        rz_b (x60_max F v4 r5 A5) fun r6 A6 =>
        rz_g32 (v6 + 1) <|
        x121_greatest_24 F n r6 v5 (v6 + 1) A6
      else
        some (v4, A)
    else
      some (v4, A)
theorem cx121_greatest_24 {d : Nat} (F : Nat) : ∀ (n : Nat) (v4 : Int) (v5 : Int) (v6 : Int) (A : rz_A) (r : Int) (A' : rz_A), x121_greatest_24 F n v4 v5 v6 A = some (r, A') → r32 v4 → r32 v5 → r32 v6 → wf A → rz_B (d + 5) 121 24 [some (.ref 56), none, none, none, some (vI v4), some (vI v5), some (vI v6)] [] A (some (vI r)) A' (r32 r) := by
  intro n
  induction n with
  | zero => intro v4 v5 v6 A r A' h; cases h
  | succ n ih =>
    intro v4 v5 v6 A r A' h hv4 hv5 hv6 hw
    rw [x121_greatest_24] at h
    refine rz_B.go 5 (pc' := if decide (Int32.ofInt (A.1 51 10) ≤ Int32.ofInt v6) = true then 70 else 36) (L' := [some (.ref 56), none, none, none, some (vI v4), some (vI v5), some (vI v6)]) (S' := []) rfl ?_
    by_cases hc1 : v6 < (A.1 51 10)
    · have h := if_T h hc1
      refine rz_B.ifF (mt (le32 (hw 51 10).1 hv6).mp (Int.not_le.mpr hc1)) ?_
      refine rz_B.go 4 (pc' := 45) (L' := [some (.ref 56), none, none, none, some (vI v4), some (vI v5), some (vI v6)]) (S' := [vI v6, .ref 53]) rfl ?_
      obtain ⟨hi2, hj3, h⟩ := rz_gx_inv h
      refine rz_B.iald rfl rfl hi2 hj3 (by decide) ?_
      refine rz_B.go 2 (pc' := if decide (Int32.ofInt v5 < Int32.ofInt (A.1 53 (v6).toNat)) = true then 70 else 51) (L' := [some (.ref 56), none, none, none, some (vI v4), some (vI v5), some (vI v6)]) (S' := []) rfl ?_
      by_cases hc4 : (A.1 53 (v6).toNat) ≤ v5
      · have h := if_T h hc4
        refine rz_B.ifF (mt (lt32 hv5 (hw 53 (v6).toNat).1).mp (Int.not_lt.mpr hc4)) ?_
        refine rz_B.go 3 (pc' := 56) (L' := [some (.ref 56), none, none, none, some (vI v4), some (vI v5), some (vI v6)]) (S' := [vI v6, .ref 56, vI v4]) rfl ?_
        obtain ⟨r5, A5, hf5, h⟩ := rz_b_inv h
        obtain ⟨hg5, hr5, hw5⟩ := cx85_rate F (d := d + 0) hf5 hv6 hw
        refine rz_B.call (d := d + 4) (as := [.ref 56, vI v6]) (rest := [vI v4]) (w := some (vI r5)) rfl hg5 ?_
        obtain ⟨r6, A6, hf6, h⟩ := rz_b_inv h
        obtain ⟨hg6, hr6, hw6⟩ := cx60_max F (d := d + 4) hf6 hv4 hr5 hw5
        refine rz_B.call (d := d + 4) (as := [vI v4, vI r5]) (rest := []) (w := some (vI r6)) rfl hg6 ?_
        refine rz_B.go 1 (pc' := 64) (L' := [some (.ref 56), none, none, none, some (vI r6), some (vI v5), some (vI v6)]) (S' := []) rfl ?_
        obtain ⟨hk7, h⟩ := rz_g32_inv h
        refine rz_B.iinc rfl (by decide) rfl (L' := [some (.ref 56), none, none, none, some (vI r6), some (vI v5), some (vI (v6 + 1))]) rfl ?_
        refine rz_B.go 1 (pc' := 24) (L' := [some (.ref 56), none, none, none, some (vI r6), some (vI v5), some (vI (v6 + 1))]) (S' := []) rfl ?_
        refine rz_B.more (rg_le_ok (L := [some (.ref 56), none, none, none, some (vI r6), some (vI v5), some (vI (v6 + 1))]) (by simp [rg_le])) ?_
        exact ih _ _ _ _ _ _ h hr6 hv5 hk7 hw6
      · have h := if_F h hc4
        refine rz_B.ifT ((lt32 hv5 (hw 53 (v6).toNat).1).mpr (Int.not_le.mp hc4)) ?_
        refine rz_B.go 1 (pc' := 72) (L' := [some (.ref 56), none, none, none, some (vI v4), some (vI v5), some (vI v6)]) (S' := [vI v4]) rfl ?_
        cases h
        exact rz_B.ret rfl hv4 hw
    · have h := if_F h hc1
      refine rz_B.ifT ((le32 (hw 51 10).1 hv6).mpr (Int.not_lt.mp hc1)) ?_
      refine rz_B.go 1 (pc' := 72) (L' := [some (.ref 56), none, none, none, some (vI v4), some (vI v5), some (vI v6)]) (S' := [vI v4]) rfl ?_
      cases h
      exact rz_B.ret rfl hv4 hw
/-- RiverGauge$Rating.greatest(III)I -/
def x121_greatest (F : Nat) (a0 : Int) (a1 : Int) (a2 : Int) (A : rz_A) : Option (Int × rz_A) :=
  rz_b (x14_keyOf F a0 a2 A) fun r1 A1 =>
  rz_b (x14_keyOf F a0 a1 A1) fun r2 A2 =>
  rz_b (x33_firstFrom F r2 A2) fun r3 A3 =>
  x121_greatest_24 F F (-1) r1 r3 A3
theorem cx121_greatest (F : Nat) {d : Nat} {a0 : Int} {a1 : Int} {a2 : Int} {A : rz_A} {r : Int} {A' : rz_A} (h : x121_greatest F a0 a1 a2 A = some (r, A')) (ha0 : r32 a0) (ha1 : r32 a1) (ha2 : r32 a2) (hw : wf A) : rg_Rn (d + 5) 121 [.ref 56, vI a0, vI a1, vI a2] (toM A) (some (vI r)) (toM A') ∧ (r32 r) ∧ wf A' := by
  show rz_B (d + 5) 121 0 [some (.ref 56), some (vI a0), some (vI a1), some (vI a2), none, none, none] [] A (some (vI r)) A' (r32 r)
  unfold x121_greatest at h
  refine rz_B.go 4 (pc' := 5) (L' := [some (.ref 56), some (vI a0), some (vI a1), some (vI a2), some (vI (-1)), none, none]) (S' := [vI a2, vI a0]) rfl ?_
  obtain ⟨r1, A1, hf1, h⟩ := rz_b_inv h
  obtain ⟨hg1, hr1, hw1⟩ := cx14_keyOf F (d := d + 4) hf1 ha0 ha2 hw
  refine rz_B.call (d := d + 4) (as := [vI a0, vI a2]) (rest := []) (w := some (vI r1)) rfl hg1 ?_
  refine rz_B.go 5 (pc' := 16) (L' := [some (.ref 56), some (vI a0), some (vI a1), some (vI a2), some (vI (-1)), some (vI r1), none]) (S' := [vI a1, vI a0, .ref 51]) rfl ?_
  obtain ⟨r2, A2, hf2, h⟩ := rz_b_inv h
  obtain ⟨hg2, hr2, hw2⟩ := cx14_keyOf F (d := d + 4) hf2 ha0 ha1 hw1
  refine rz_B.call (d := d + 4) (as := [vI a0, vI a1]) (rest := [.ref 51]) (w := some (vI r2)) rfl hg2 ?_
  obtain ⟨r3, A3, hf3, h⟩ := rz_b_inv h
  obtain ⟨hg3, hr3, hw3⟩ := cx33_firstFrom F (d := d + 4) hf3 hr2 hw2
  refine rz_B.call (d := d + 4) (as := [.ref 51, vI r2]) (rest := []) (w := some (vI r3)) rfl hg3 ?_
  refine rz_B.go 1 (pc' := 24) (L' := [some (.ref 56), some (vI a0), some (vI a1), some (vI a2), some (vI (-1)), some (vI r1), some (vI r3)]) (S' := []) rfl ?_
  refine rz_B.more (rg_le_ok (L := [some (.ref 56), none, none, none, some (vI (-1)), some (vI r1), some (vI r3)]) (by simp [rg_le])) ?_
  exact cx121_greatest_24 F F _ _ _ _ _ _ h (by decide) hr1 hr3 hw3
/-- RiverGauge.peak(IIII)I -/
def x120_peak (F : Nat) (a0 : Int) (a1 : Int) (a2 : Int) (a3 : Int) (A : rz_A) : Option (Int × rz_A) :=
  rz_b (x5_has F a0 A) fun r1 A1 =>
  if r1 = 0 then
    rz_b (x1_refuse F (-1) A1) fun r3 A3 =>
    some (r3, A3)
  else
    if 0 ≤ a1 then
      if a1 ≤ a2 then
        if a3 < 0 then
          rz_b (x1_refuse F (-4) A1) fun r7 A7 =>
          some (r7, A7)
        else
          if a2 ≤ 9999 then
            if 9999 < a3 then
              rz_b (x1_refuse F (-6) A1) fun r10 A10 =>
              some (r10, A10)
            else
              rz_b (x20_see F a3 A1) fun _ A11 =>
              rz_b (x121_greatest F a0 a1 a2 A11) fun r12 A12 =>
              if r12 < 0 then
                rz_b (x1_refuse F (-5) A12) fun r14 A14 =>
                some (r14, A14)
              else
                some (r12, A12)
          else
            rz_b (x1_refuse F (-6) A1) fun r15 A15 =>
            some (r15, A15)
      else
        rz_b (x1_refuse F (-4) A1) fun r16 A16 =>
        some (r16, A16)
    else
      rz_b (x1_refuse F (-4) A1) fun r17 A17 =>
      some (r17, A17)
theorem cx120_peak (F : Nat) {d : Nat} {a0 : Int} {a1 : Int} {a2 : Int} {a3 : Int} {A : rz_A} {r : Int} {A' : rz_A} (h : x120_peak F a0 a1 a2 a3 A = some (r, A')) (ha0 : r32 a0) (ha1 : r32 a1) (ha2 : r32 a2) (ha3 : r32 a3) (hw : wf A) : rg_Rn (d + 6) 120 [.ref 0, vI a0, vI a1, vI a2, vI a3] (toM A) (some (vI r)) (toM A') ∧ (r32 r) ∧ wf A' := by
  show rz_B (d + 6) 120 0 [some (.ref 0), some (vI a0), some (vI a1), some (vI a2), some (vI a3), none] [] A (some (vI r)) A' (r32 r)
  unfold x120_peak at h
  refine rz_B.go 3 (pc' := 5) (L' := [some (.ref 0), some (vI a0), some (vI a1), some (vI a2), some (vI a3), none]) (S' := [vI a0, .ref 2]) rfl ?_
  obtain ⟨r1, A1, hf1, h⟩ := rz_b_inv h
  obtain ⟨hg1, hr1, hw1⟩ := cx5_has F (d := d + 5) hf1 ha0 hw
  refine rz_B.call (d := d + 5) (as := [.ref 2, vI a0]) (rest := []) (w := some (vI r1)) rfl hg1 ?_
  refine rz_B.go 1 (pc' := if decide (¬ Int32.ofInt r1 = Int32.ofInt 0) = true then 17 else 11) (L' := [some (.ref 0), some (vI a0), some (vI a1), some (vI a2), some (vI a3), none]) (S' := []) rfl ?_
  by_cases hc2 : r1 = 0
  · have h := if_T h hc2
    refine rz_B.ifF (fun hn => hn ((eq32 hr1 (by decide)).mpr hc2)) ?_
    refine rz_B.go 2 (pc' := 13) (L' := [some (.ref 0), some (vI a0), some (vI a1), some (vI a2), some (vI a3), none]) (S' := [vI (-1), .ref 0]) rfl ?_
    obtain ⟨r3, A3, hf3, h⟩ := rz_b_inv h
    obtain ⟨hg3, hr3, hw3⟩ := cx1_refuse F (d := d + 5) hf3 (by decide) hw1
    refine rz_B.call (d := d + 5) (as := [.ref 0, vI (-1)]) (rest := []) (w := some (vI r3)) rfl hg3 ?_
    cases h
    exact rz_B.ret rfl hr3 hw3
  · have h := if_F h hc2
    refine rz_B.ifT (mt (eq32 hr1 (by decide)).mp hc2) ?_
    refine rz_B.go 2 (pc' := if decide (Int32.ofInt a1 < Int32.ofInt 0) = true then 31 else 21) (L' := [some (.ref 0), some (vI a0), some (vI a1), some (vI a2), some (vI a3), none]) (S' := []) rfl ?_
    by_cases hc4 : 0 ≤ a1
    · have h := if_T h hc4
      refine rz_B.ifF (mt (lt32 ha1 (by decide)).mp (Int.not_lt.mpr hc4)) ?_
      refine rz_B.go 3 (pc' := if decide (Int32.ofInt a2 < Int32.ofInt a1) = true then 31 else 26) (L' := [some (.ref 0), some (vI a0), some (vI a1), some (vI a2), some (vI a3), none]) (S' := []) rfl ?_
      by_cases hc5 : a1 ≤ a2
      · have h := if_T h hc5
        refine rz_B.ifF (mt (lt32 ha2 ha1).mp (Int.not_lt.mpr hc5)) ?_
        refine rz_B.go 2 (pc' := if decide (Int32.ofInt 0 ≤ Int32.ofInt a3) = true then 38 else 31) (L' := [some (.ref 0), some (vI a0), some (vI a1), some (vI a2), some (vI a3), none]) (S' := []) rfl ?_
        by_cases hc6 : a3 < 0
        · have h := if_T h hc6
          refine rz_B.ifF (mt (le32 (by decide) ha3).mp (Int.not_le.mpr hc6)) ?_
          refine rz_B.go 2 (pc' := 34) (L' := [some (.ref 0), some (vI a0), some (vI a1), some (vI a2), some (vI a3), none]) (S' := [vI (-4), .ref 0]) rfl ?_
          obtain ⟨r7, A7, hf7, h⟩ := rz_b_inv h
          obtain ⟨hg7, hr7, hw7⟩ := cx1_refuse F (d := d + 5) hf7 (by decide) hw1
          refine rz_B.call (d := d + 5) (as := [.ref 0, vI (-4)]) (rest := []) (w := some (vI r7)) rfl hg7 ?_
          cases h
          exact rz_B.ret rfl hr7 hw7
        · have h := if_F h hc6
          refine rz_B.ifT ((le32 (by decide) ha3).mpr (Int.not_lt.mp hc6)) ?_
          refine rz_B.go 3 (pc' := if decide (Int32.ofInt 9999 < Int32.ofInt a2) = true then 53 else 45) (L' := [some (.ref 0), some (vI a0), some (vI a1), some (vI a2), some (vI a3), none]) (S' := []) rfl ?_
          by_cases hc8 : a2 ≤ 9999
          · have h := if_T h hc8
            refine rz_B.ifF (mt (lt32 (by decide) ha2).mp (Int.not_lt.mpr hc8)) ?_
            refine rz_B.go 3 (pc' := if decide (Int32.ofInt a3 ≤ Int32.ofInt 9999) = true then 60 else 53) (L' := [some (.ref 0), some (vI a0), some (vI a1), some (vI a2), some (vI a3), none]) (S' := []) rfl ?_
            by_cases hc9 : 9999 < a3
            · have h := if_T h hc9
              refine rz_B.ifF (mt (le32 ha3 (by decide)).mp (Int.not_le.mpr hc9)) ?_
              refine rz_B.go 2 (pc' := 56) (L' := [some (.ref 0), some (vI a0), some (vI a1), some (vI a2), some (vI a3), none]) (S' := [vI (-6), .ref 0]) rfl ?_
              obtain ⟨r10, A10, hf10, h⟩ := rz_b_inv h
              obtain ⟨hg10, hr10, hw10⟩ := cx1_refuse F (d := d + 5) hf10 (by decide) hw1
              refine rz_B.call (d := d + 5) (as := [.ref 0, vI (-6)]) (rest := []) (w := some (vI r10)) rfl hg10 ?_
              cases h
              exact rz_B.ret rfl hr10 hw10
            · have h := if_F h hc9
              refine rz_B.ifT ((le32 ha3 (by decide)).mpr (Int.not_lt.mp hc9)) ?_
              refine rz_B.go 3 (pc' := 66) (L' := [some (.ref 0), some (vI a0), some (vI a1), some (vI a2), some (vI a3), none]) (S' := [vI a3, .ref 51]) rfl ?_
              obtain ⟨_, A11, hf11, h⟩ := rz_b_inv h
              obtain ⟨hg11, hr11, hw11⟩ := cx20_see F (d := d + 0) hf11 ha3 hw1
              refine rz_B.call (d := d + 5) (as := [.ref 51, vI a3]) (rest := []) (w := none) rfl hg11 ?_
              refine rz_B.go 5 (pc' := 76) (L' := [some (.ref 0), some (vI a0), some (vI a1), some (vI a2), some (vI a3), none]) (S' := [vI a2, vI a1, vI a0, .ref 56]) rfl ?_
              obtain ⟨r12, A12, hf12, h⟩ := rz_b_inv h
              obtain ⟨hg12, hr12, hw12⟩ := cx121_greatest F (d := d + 0) hf12 ha0 ha1 ha2 hw11
              refine rz_B.call (d := d + 5) (as := [.ref 56, vI a0, vI a1, vI a2]) (rest := []) (w := some (vI r12)) rfl hg12 ?_
              refine rz_B.go 3 (pc' := if decide (Int32.ofInt 0 ≤ Int32.ofInt r12) = true then 95 else 86) (L' := [some (.ref 0), some (vI a0), some (vI a1), some (vI a2), some (vI a3), some (vI r12)]) (S' := []) rfl ?_
              by_cases hc13 : r12 < 0
              · have h := if_T h hc13
                refine rz_B.ifF (mt (le32 (by decide) hr12).mp (Int.not_le.mpr hc13)) ?_
                refine rz_B.go 2 (pc' := 89) (L' := [some (.ref 0), some (vI a0), some (vI a1), some (vI a2), some (vI a3), some (vI r12)]) (S' := [vI (-5), .ref 0]) rfl ?_
                obtain ⟨r14, A14, hf14, h⟩ := rz_b_inv h
                obtain ⟨hg14, hr14, hw14⟩ := cx1_refuse F (d := d + 5) hf14 (by decide) hw12
                refine rz_B.call (d := d + 5) (as := [.ref 0, vI (-5)]) (rest := []) (w := some (vI r14)) rfl hg14 ?_
                refine rz_B.go 1 (pc' := 97) (L' := [some (.ref 0), some (vI a0), some (vI a1), some (vI a2), some (vI a3), some (vI r12)]) (S' := [vI r14]) rfl ?_
                cases h
                exact rz_B.ret rfl hr14 hw14
              · have h := if_F h hc13
                refine rz_B.ifT ((le32 (by decide) hr12).mpr (Int.not_lt.mp hc13)) ?_
                refine rz_B.go 1 (pc' := 97) (L' := [some (.ref 0), some (vI a0), some (vI a1), some (vI a2), some (vI a3), some (vI r12)]) (S' := [vI r12]) rfl ?_
                cases h
                exact rz_B.ret rfl hr12 hw12
          · have h := if_F h hc8
            refine rz_B.ifT ((lt32 (by decide) ha2).mpr (Int.not_le.mp hc8)) ?_
            refine rz_B.go 2 (pc' := 56) (L' := [some (.ref 0), some (vI a0), some (vI a1), some (vI a2), some (vI a3), none]) (S' := [vI (-6), .ref 0]) rfl ?_
            obtain ⟨r15, A15, hf15, h⟩ := rz_b_inv h
            obtain ⟨hg15, hr15, hw15⟩ := cx1_refuse F (d := d + 5) hf15 (by decide) hw1
            refine rz_B.call (d := d + 5) (as := [.ref 0, vI (-6)]) (rest := []) (w := some (vI r15)) rfl hg15 ?_
            cases h
            exact rz_B.ret rfl hr15 hw15
      · have h := if_F h hc5
        refine rz_B.ifT ((lt32 ha2 ha1).mpr (Int.not_le.mp hc5)) ?_
        refine rz_B.go 2 (pc' := 34) (L' := [some (.ref 0), some (vI a0), some (vI a1), some (vI a2), some (vI a3), none]) (S' := [vI (-4), .ref 0]) rfl ?_
        obtain ⟨r16, A16, hf16, h⟩ := rz_b_inv h
        obtain ⟨hg16, hr16, hw16⟩ := cx1_refuse F (d := d + 5) hf16 (by decide) hw1
        refine rz_B.call (d := d + 5) (as := [.ref 0, vI (-4)]) (rest := []) (w := some (vI r16)) rfl hg16 ?_
        cases h
        exact rz_B.ret rfl hr16 hw16
    · have h := if_F h hc4
      refine rz_B.ifT ((lt32 ha1 (by decide)).mpr (Int.not_le.mp hc4)) ?_
      refine rz_B.go 2 (pc' := 34) (L' := [some (.ref 0), some (vI a0), some (vI a1), some (vI a2), some (vI a3), none]) (S' := [vI (-4), .ref 0]) rfl ?_
      obtain ⟨r17, A17, hf17, h⟩ := rz_b_inv h
      obtain ⟨hg17, hr17, hw17⟩ := cx1_refuse F (d := d + 5) hf17 (by decide) hw1
      refine rz_B.call (d := d + 5) (as := [.ref 0, vI (-4)]) (rest := []) (w := some (vI r17)) rfl hg17 ?_
      cases h
      exact rz_B.ret rfl hr17 hw17
def x122_often_58 (F : Nat) : Nat → Int → Int → Int → Int → rz_A → Option (Int × rz_A)
  | 0, _, _, _, _, _ => none
  | n + 1, v1, v2, v3, v4, A =>
    if v4 ≤ 9999 then
      rz_g32 (v4 + 1000) <|
      rz_g32 ((v4 + 1000) - 1) <|
      rz_b (x121_greatest F v1 v4 ((v4 + 1000) - 1) A) fun r4 A4 =>
      if v2 ≤ r4 then
        rz_g32 (v3 + 1) <|
        x122_often_58 F n v1 v2 (v3 + 1) (v4 + 1000) A4
      else
        x122_often_58 F n v1 v2 v3 (v4 + 1000) A4
    else
      some (v3, A)
theorem cx122_often_58 {d : Nat} (F : Nat) : ∀ (n : Nat) (v1 : Int) (v2 : Int) (v3 : Int) (v4 : Int) (A : rz_A) (r : Int) (A' : rz_A), x122_often_58 F n v1 v2 v3 v4 A = some (r, A') → r32 v1 → r32 v2 → r32 v3 → r32 v4 → wf A → rz_B (d + 6) 122 58 [some (.ref 0), some (vI v1), some (vI v2), some (vI v3), some (vI v4)] [] A (some (vI r)) A' (r32 r) := by
  intro n
  induction n with
  | zero => intro v1 v2 v3 v4 A r A' h; cases h
  | succ n ih =>
    intro v1 v2 v3 v4 A r A' h hv1 hv2 hv3 hv4 hw
    rw [x122_often_58] at h
    refine rz_B.go 3 (pc' := if decide (Int32.ofInt 9999 < Int32.ofInt v4) = true then 100 else 66) (L' := [some (.ref 0), some (vI v1), some (vI v2), some (vI v3), some (vI v4)]) (S' := []) rfl ?_
    by_cases hc1 : v4 ≤ 9999
    · have h := if_T h hc1
      refine rz_B.ifF (mt (lt32 (by decide) hv4).mp (Int.not_lt.mpr hc1)) ?_
      refine rz_B.go 6 (pc' := 78) (L' := [some (.ref 0), some (vI v1), some (vI v2), some (vI v3), some (vI v4)]) (S' := [vI 1000, vI v4, vI v4, vI v1, .ref 56]) rfl ?_
      obtain ⟨hk2, h⟩ := rz_g32_inv h
      refine rz_B.iadd rfl ?_
      refine rz_B.go 1 (pc' := 80) (L' := [some (.ref 0), some (vI v1), some (vI v2), some (vI v3), some (vI v4)]) (S' := [vI 1, vI (v4 + 1000), vI v4, vI v1, .ref 56]) rfl ?_
      obtain ⟨hk3, h⟩ := rz_g32_inv h
      refine rz_B.isub rfl ?_
      obtain ⟨r4, A4, hf4, h⟩ := rz_b_inv h
      obtain ⟨hg4, hr4, hw4⟩ := cx121_greatest F (d := d + 0) hf4 hv1 hv4 hk3 hw
      refine rz_B.call (d := d + 5) (as := [.ref 56, vI v1, vI v4, vI ((v4 + 1000) - 1)]) (rest := []) (w := some (vI r4)) rfl hg4 ?_
      refine rz_B.go 2 (pc' := if decide (Int32.ofInt r4 < Int32.ofInt v2) = true then 91 else 88) (L' := [some (.ref 0), some (vI v1), some (vI v2), some (vI v3), some (vI v4)]) (S' := []) rfl ?_
      by_cases hc5 : v2 ≤ r4
      · have h := if_T h hc5
        refine rz_B.ifF (mt (lt32 hr4 hv2).mp (Int.not_lt.mpr hc5)) ?_
        obtain ⟨hk6, h⟩ := rz_g32_inv h
        refine rz_B.iinc rfl (by decide) rfl (L' := [some (.ref 0), some (vI v1), some (vI v2), some (vI (v3 + 1)), some (vI v4)]) rfl ?_
        refine rz_B.iinc rfl (by decide) rfl (L' := [some (.ref 0), some (vI v1), some (vI v2), some (vI (v3 + 1)), some (vI (v4 + 1000))]) rfl ?_
        refine rz_B.go 1 (pc' := 58) (L' := [some (.ref 0), some (vI v1), some (vI v2), some (vI (v3 + 1)), some (vI (v4 + 1000))]) (S' := []) rfl ?_
        refine rz_B.more (rg_le_ok (L := [some (.ref 0), some (vI v1), some (vI v2), some (vI (v3 + 1)), some (vI (v4 + 1000))]) (by simp [rg_le])) ?_
        exact ih _ _ _ _ _ _ _ h hv1 hv2 hk6 hk2 hw4
      · have h := if_F h hc5
        refine rz_B.ifT ((lt32 hr4 hv2).mpr (Int.not_le.mp hc5)) ?_
        refine rz_B.iinc rfl (by decide) rfl (L' := [some (.ref 0), some (vI v1), some (vI v2), some (vI v3), some (vI (v4 + 1000))]) rfl ?_
        refine rz_B.go 1 (pc' := 58) (L' := [some (.ref 0), some (vI v1), some (vI v2), some (vI v3), some (vI (v4 + 1000))]) (S' := []) rfl ?_
        refine rz_B.more (rg_le_ok (L := [some (.ref 0), some (vI v1), some (vI v2), some (vI v3), some (vI (v4 + 1000))]) (by simp [rg_le])) ?_
        exact ih _ _ _ _ _ _ _ h hv1 hv2 hv3 hk2 hw4
    · have h := if_F h hc1
      refine rz_B.ifT ((lt32 (by decide) hv4).mpr (Int.not_le.mp hc1)) ?_
      refine rz_B.go 1 (pc' := 101) (L' := [some (.ref 0), some (vI v1), some (vI v2), some (vI v3), some (vI v4)]) (S' := [vI v3]) rfl ?_
      cases h
      exact rz_B.ret rfl hv3 hw
/-- RiverGauge.often(II)I -/
def x122_often (F : Nat) (a0 : Int) (a1 : Int) (A : rz_A) : Option (Int × rz_A) :=
  rz_b (x5_has F a0 A) fun r1 A1 =>
  if r1 = 0 then
    rz_b (x1_refuse F (-1) A1) fun r3 A3 =>
    some (r3, A3)
  else
    if a1 < 0 then
      rz_b (x1_refuse F (-4) A1) fun r5 A5 =>
      some (r5, A5)
    else
      if 99999999 < a1 then
        rz_b (x1_refuse F (-6) A1) fun r7 A7 =>
        some (r7, A7)
      else
        rz_b (x20_see F (A1.1 0 16) A1) fun _ A8 =>
        x122_often_58 F F a0 a1 0 0 A8
theorem cx122_often (F : Nat) {d : Nat} {a0 : Int} {a1 : Int} {A : rz_A} {r : Int} {A' : rz_A} (h : x122_often F a0 a1 A = some (r, A')) (ha0 : r32 a0) (ha1 : r32 a1) (hw : wf A) : rg_Rn (d + 6) 122 [.ref 0, vI a0, vI a1] (toM A) (some (vI r)) (toM A') ∧ (r32 r) ∧ wf A' := by
  show rz_B (d + 6) 122 0 [some (.ref 0), some (vI a0), some (vI a1), none, none] [] A (some (vI r)) A' (r32 r)
  unfold x122_often at h
  refine rz_B.go 3 (pc' := 5) (L' := [some (.ref 0), some (vI a0), some (vI a1), none, none]) (S' := [vI a0, .ref 2]) rfl ?_
  obtain ⟨r1, A1, hf1, h⟩ := rz_b_inv h
  obtain ⟨hg1, hr1, hw1⟩ := cx5_has F (d := d + 5) hf1 ha0 hw
  refine rz_B.call (d := d + 5) (as := [.ref 2, vI a0]) (rest := []) (w := some (vI r1)) rfl hg1 ?_
  refine rz_B.go 1 (pc' := if decide (¬ Int32.ofInt r1 = Int32.ofInt 0) = true then 17 else 11) (L' := [some (.ref 0), some (vI a0), some (vI a1), none, none]) (S' := []) rfl ?_
  by_cases hc2 : r1 = 0
  · have h := if_T h hc2
    refine rz_B.ifF (fun hn => hn ((eq32 hr1 (by decide)).mpr hc2)) ?_
    refine rz_B.go 2 (pc' := 13) (L' := [some (.ref 0), some (vI a0), some (vI a1), none, none]) (S' := [vI (-1), .ref 0]) rfl ?_
    obtain ⟨r3, A3, hf3, h⟩ := rz_b_inv h
    obtain ⟨hg3, hr3, hw3⟩ := cx1_refuse F (d := d + 5) hf3 (by decide) hw1
    refine rz_B.call (d := d + 5) (as := [.ref 0, vI (-1)]) (rest := []) (w := some (vI r3)) rfl hg3 ?_
    cases h
    exact rz_B.ret rfl hr3 hw3
  · have h := if_F h hc2
    refine rz_B.ifT (mt (eq32 hr1 (by decide)).mp hc2) ?_
    refine rz_B.go 2 (pc' := if decide (Int32.ofInt 0 ≤ Int32.ofInt a1) = true then 28 else 21) (L' := [some (.ref 0), some (vI a0), some (vI a1), none, none]) (S' := []) rfl ?_
    by_cases hc4 : a1 < 0
    · have h := if_T h hc4
      refine rz_B.ifF (mt (le32 (by decide) ha1).mp (Int.not_le.mpr hc4)) ?_
      refine rz_B.go 2 (pc' := 24) (L' := [some (.ref 0), some (vI a0), some (vI a1), none, none]) (S' := [vI (-4), .ref 0]) rfl ?_
      obtain ⟨r5, A5, hf5, h⟩ := rz_b_inv h
      obtain ⟨hg5, hr5, hw5⟩ := cx1_refuse F (d := d + 5) hf5 (by decide) hw1
      refine rz_B.call (d := d + 5) (as := [.ref 0, vI (-4)]) (rest := []) (w := some (vI r5)) rfl hg5 ?_
      cases h
      exact rz_B.ret rfl hr5 hw5
    · have h := if_F h hc4
      refine rz_B.ifT ((le32 (by decide) ha1).mpr (Int.not_lt.mp hc4)) ?_
      refine rz_B.go 3 (pc' := if decide (Int32.ofInt a1 ≤ Int32.ofInt 99999999) = true then 42 else 35) (L' := [some (.ref 0), some (vI a0), some (vI a1), none, none]) (S' := []) rfl ?_
      by_cases hc6 : 99999999 < a1
      · have h := if_T h hc6
        refine rz_B.ifF (mt (le32 ha1 (by decide)).mp (Int.not_le.mpr hc6)) ?_
        refine rz_B.go 2 (pc' := 38) (L' := [some (.ref 0), some (vI a0), some (vI a1), none, none]) (S' := [vI (-6), .ref 0]) rfl ?_
        obtain ⟨r7, A7, hf7, h⟩ := rz_b_inv h
        obtain ⟨hg7, hr7, hw7⟩ := cx1_refuse F (d := d + 5) hf7 (by decide) hw1
        refine rz_B.call (d := d + 5) (as := [.ref 0, vI (-6)]) (rest := []) (w := some (vI r7)) rfl hg7 ?_
        cases h
        exact rz_B.ret rfl hr7 hw7
      · have h := if_F h hc6
        refine rz_B.ifT ((le32 ha1 (by decide)).mpr (Int.not_lt.mp hc6)) ?_
        refine rz_B.go 4 (pc' := 50) (L' := [some (.ref 0), some (vI a0), some (vI a1), none, none]) (S' := [vI (A1.1 0 16), .ref 51]) rfl ?_
        obtain ⟨_, A8, hf8, h⟩ := rz_b_inv h
        obtain ⟨hg8, hr8, hw8⟩ := cx20_see F (d := d + 0) hf8 (hw1 0 16).1 hw1
        refine rz_B.call (d := d + 5) (as := [.ref 51, vI (A1.1 0 16)]) (rest := []) (w := none) rfl hg8 ?_
        refine rz_B.go 4 (pc' := 58) (L' := [some (.ref 0), some (vI a0), some (vI a1), some (vI 0), some (vI 0)]) (S' := []) rfl ?_
        refine rz_B.more (rg_le_ok (L := [some (.ref 0), some (vI a0), some (vI a1), some (vI 0), some (vI 0)]) (by simp [rg_le])) ?_
        exact cx122_often_58 F F _ _ _ _ _ _ _ h ha0 ha1 (by decide) (by decide) hw8
def x127_commonDivisor_9 (F : Nat) : Nat → Int → Int → Int → rz_A → Option (Int × rz_A)
  | 0, _, _, _, _ => none
  | n + 1, v4, v6, v8, A =>
    if v8 < 100 then
      if v6 = 0 then
        some (v4, A)
      else
        rz_gn v6 <|
        rz_g64 (v4.tmod v6) <|
        rz_g32 (v8 + 1) <|
        x127_commonDivisor_9 F n v6 (v4.tmod v6) (v8 + 1) A
    else
      some (v4, A)
theorem cx127_commonDivisor_9 {d : Nat} (F : Nat) : ∀ (n : Nat) (v4 : Int) (v6 : Int) (v8 : Int) (A : rz_A) (r : Int) (A' : rz_A), x127_commonDivisor_9 F n v4 v6 v8 A = some (r, A') → r64 v4 → r64 v6 → r32 v8 → wf A → rz_B (d + 0) 127 9 [none, none, none, none, some (vL v4), none, some (vL v6), none, some (vI v8), none, none] [] A (some (vL r)) A' (r64 r) := by
  intro n
  induction n with
  | zero => intro v4 v6 v8 A r A' h; cases h
  | succ n ih =>
    intro v4 v6 v8 A r A' h hv4 hv6 hv8 hw
    rw [x127_commonDivisor_9] at h
    refine rz_B.go 3 (pc' := if decide (Int32.ofInt 100 ≤ Int32.ofInt v8) = true then 44 else 16) (L' := [none, none, none, none, some (vL v4), none, some (vL v6), none, some (vI v8), none, none]) (S' := []) rfl ?_
    by_cases hc1 : v8 < 100
    · have h := if_T h hc1
      refine rz_B.ifF (mt (le32 (by decide) hv8).mp (Int.not_le.mpr hc1)) ?_
      refine rz_B.go 4 (pc' := if decide (lg_cmp (Int64.ofInt v6) (Int64.ofInt 0) = 0) = true then 44 else 23) (L' := [none, none, none, none, some (vL v4), none, some (vL v6), none, some (vI v8), none, none]) (S' := []) rfl ?_
      by_cases hc2 : v6 = 0
      · have h := if_T h hc2
        refine rz_B.ifT ((cmp_eq hv6 (by decide)).mpr hc2) ?_
        refine rz_B.go 1 (pc' := 46) (L' := [none, none, none, none, some (vL v4), none, some (vL v6), none, some (vI v8), none, none]) (S' := [vL v4]) rfl ?_
        cases h
        exact rz_B.ret rfl hv4 hw
      · have h := if_F h hc2
        refine rz_B.ifF (mt (cmp_eq hv6 (by decide)).mp hc2) ?_
        refine rz_B.go 2 (pc' := 27) (L' := [none, none, none, none, some (vL v4), none, some (vL v6), none, some (vI v8), none, none]) (S' := [vL v6, vL v4]) rfl ?_
        obtain ⟨hz3, h⟩ := rz_gn_inv h
        obtain ⟨hk4, h⟩ := rz_g64_inv h
        refine rz_B.lrem rfl hv4 hv6 hz3 ?_
        refine rz_B.go 5 (pc' := 38) (L' := [none, none, none, none, some (vL v6), none, some (vL (v4.tmod v6)), none, some (vI v8), some (vL (v4.tmod v6)), none]) (S' := []) rfl ?_
        obtain ⟨hk5, h⟩ := rz_g32_inv h
        refine rz_B.iinc rfl (by decide) rfl (L' := [none, none, none, none, some (vL v6), none, some (vL (v4.tmod v6)), none, some (vI (v8 + 1)), some (vL (v4.tmod v6)), none]) rfl ?_
        refine rz_B.go 1 (pc' := 9) (L' := [none, none, none, none, some (vL v6), none, some (vL (v4.tmod v6)), none, some (vI (v8 + 1)), some (vL (v4.tmod v6)), none]) (S' := []) rfl ?_
        refine rz_B.more (rg_le_ok (L := [none, none, none, none, some (vL v6), none, some (vL (v4.tmod v6)), none, some (vI (v8 + 1)), none, none]) (by simp [rg_le])) ?_
        exact ih _ _ _ _ _ _ h hv6 hk4 hk5 hw
    · have h := if_F h hc1
      refine rz_B.ifT ((le32 (by decide) hv8).mpr (Int.not_lt.mp hc1)) ?_
      refine rz_B.go 1 (pc' := 46) (L' := [none, none, none, none, some (vL v4), none, some (vL v6), none, some (vI v8), none, none]) (S' := [vL v4]) rfl ?_
      cases h
      exact rz_B.ret rfl hv4 hw
/-- RiverGauge$Rating.commonDivisor(JJ)J -/
def x127_commonDivisor (F : Nat) (a0 : Int) (a1 : Int) (A : rz_A) : Option (Int × rz_A) :=
  x127_commonDivisor_9 F F a0 a1 0 A
theorem cx127_commonDivisor (F : Nat) {d : Nat} {a0 : Int} {a1 : Int} {A : rz_A} {r : Int} {A' : rz_A} (h : x127_commonDivisor F a0 a1 A = some (r, A')) (ha0 : r64 a0) (ha1 : r64 a1) (hw : wf A) : rg_Rn (d + 0) 127 [vL a0, vL a1] (toM A) (some (vL r)) (toM A') ∧ (r64 r) ∧ wf A' := by
  show rz_B (d + 0) 127 0 [some (vL a0), none, some (vL a1), none, none, none, none, none, none, none, none] [] A (some (vL r)) A' (r64 r)
  unfold x127_commonDivisor at h
  refine rz_B.go 6 (pc' := 9) (L' := [some (vL a0), none, some (vL a1), none, some (vL a0), none, some (vL a1), none, some (vI 0), none, none]) (S' := []) rfl ?_
  refine rz_B.more (rg_le_ok (L := [none, none, none, none, some (vL a0), none, some (vL a1), none, some (vI 0), none, none]) (by simp [rg_le])) ?_
  exact cx127_commonDivisor_9 F F _ _ _ _ _ _ h ha0 ha1 (by decide) hw
def x126_compareBy_218 (F : Nat) (v1 : Int) (v6 : Int) (v8 : Int) (A : rz_A) : Option (Unit × rz_A) :=
  if 0 < v8 then
    if 0 ≤ (A.1 56 14) then
      rz_g64 (v6 * (A.2 56 16)) <|
      rz_g64 ((A.2 56 15) * v8) <|
      if (v6 * (A.2 56 16)) < ((A.2 56 15) * v8) then
        some ((), (aL (aL (aI A 56 14 v1) 56 15 v6) 56 16 v8))
      else
        some ((), A)
    else
      some ((), (aL (aL (aI A 56 14 v1) 56 15 v6) 56 16 v8))
  else
    some ((), A)
theorem cx126_compareBy_218 {d : Nat} (F : Nat) : ∀ (v1 : Int) (v6 : Int) (v8 : Int) (A : rz_A) (r : Unit) (A' : rz_A), x126_compareBy_218 F v1 v6 v8 A = some (r, A') → r32 v1 → r64 v6 → r64 v8 → wf A → rz_B (d + 1) 126 218 [some (.ref 56), some (vI v1), none, none, none, none, some (vL v6), none, some (vL v8), none, none, none, none, none, none] [] A (none) A' (True) := by
  intro v1 v6 v8 A r A' h hv1 hv6 hv8 hw
  unfold x126_compareBy_218 at h
  refine rz_B.go 4 (pc' := if decide (lg_cmp (Int64.ofInt v8) (Int64.ofInt 0) ≤ 0) = true then 267 else 225) (L' := [some (.ref 56), some (vI v1), none, none, none, none, some (vL v6), none, some (vL v8), none, none, none, none, none, none]) (S' := []) rfl ?_
  by_cases hc1 : 0 < v8
  · have h := if_T h hc1
    refine rz_B.ifF (mt (cmp_le hv8 (by decide)).mp (Int.not_le.mpr hc1)) ?_
    refine rz_B.go 3 (pc' := if decide (Int32.ofInt (A.1 56 14) < Int32.ofInt 0) = true then 250 else 232) (L' := [some (.ref 56), some (vI v1), none, none, none, none, some (vL v6), none, some (vL v8), none, none, none, none, none, none]) (S' := []) rfl ?_
    by_cases hc2 : 0 ≤ (A.1 56 14)
    · have h := if_T h hc2
      refine rz_B.ifF (mt (lt32 (hw 56 14).1 (by decide)).mp (Int.not_lt.mpr hc2)) ?_
      refine rz_B.go 3 (pc' := 238) (L' := [some (.ref 56), some (vI v1), none, none, none, none, some (vL v6), none, some (vL v8), none, none, none, none, none, none]) (S' := [vL (A.2 56 16), vL v6]) rfl ?_
      obtain ⟨hk3, h⟩ := rz_g64_inv h
      refine rz_B.lmul rfl ?_
      refine rz_B.go 3 (pc' := 245) (L' := [some (.ref 56), some (vI v1), none, none, none, none, some (vL v6), none, some (vL v8), none, none, none, none, none, none]) (S' := [vL v8, vL (A.2 56 15), vL (v6 * (A.2 56 16))]) rfl ?_
      obtain ⟨hk4, h⟩ := rz_g64_inv h
      refine rz_B.lmul rfl ?_
      refine rz_B.go 2 (pc' := if decide (0 ≤ lg_cmp (Int64.ofInt (v6 * (A.2 56 16))) (Int64.ofInt ((A.2 56 15) * v8))) = true then 267 else 250) (L' := [some (.ref 56), some (vI v1), none, none, none, none, some (vL v6), none, some (vL v8), none, none, none, none, none, none]) (S' := []) rfl ?_
      by_cases hc5 : (v6 * (A.2 56 16)) < ((A.2 56 15) * v8)
      · have h := if_T h hc5
        refine rz_B.ifF (mt (cmp_ge hk3 hk4).mp (Int.not_le.mpr hc5)) ?_
        refine rz_B.put 3 (pc' := 255) (L' := [some (.ref 56), some (vI v1), none, none, none, none, some (vL v6), none, some (vL v8), none, none, none, none, none, none]) (S' := []) (c := 56) (k := 14) (x := v1) rfl ?_
        have hw6 : wf (aI A 56 14 v1) := wf_aI hw hv1
        refine rz_B.putL 3 (pc' := 261) (L' := [some (.ref 56), some (vI v1), none, none, none, none, some (vL v6), none, some (vL v8), none, none, none, none, none, none]) (S' := []) (c := 56) (k := 15) (x := v6) rfl ?_
        have hw7 : wf (aL (aI A 56 14 v1) 56 15 v6) := wf_aL hw6 hv6
        refine rz_B.putL 3 (pc' := 267) (L' := [some (.ref 56), some (vI v1), none, none, none, none, some (vL v6), none, some (vL v8), none, none, none, none, none, none]) (S' := []) (c := 56) (k := 16) (x := v8) rfl ?_
        have hw8 : wf (aL (aL (aI A 56 14 v1) 56 15 v6) 56 16 v8) := wf_aL hw7 hv8
        cases h
        exact rz_B.ret rfl trivial hw8
      · have h := if_F h hc5
        refine rz_B.ifT ((cmp_ge hk3 hk4).mpr (Int.not_lt.mp hc5)) ?_
        cases h
        exact rz_B.ret rfl trivial hw
    · have h := if_F h hc2
      refine rz_B.ifT ((lt32 (hw 56 14).1 (by decide)).mpr (Int.not_le.mp hc2)) ?_
      refine rz_B.put 3 (pc' := 255) (L' := [some (.ref 56), some (vI v1), none, none, none, none, some (vL v6), none, some (vL v8), none, none, none, none, none, none]) (S' := []) (c := 56) (k := 14) (x := v1) rfl ?_
      have hw9 : wf (aI A 56 14 v1) := wf_aI hw hv1
      refine rz_B.putL 3 (pc' := 261) (L' := [some (.ref 56), some (vI v1), none, none, none, none, some (vL v6), none, some (vL v8), none, none, none, none, none, none]) (S' := []) (c := 56) (k := 15) (x := v6) rfl ?_
      have hw10 : wf (aL (aI A 56 14 v1) 56 15 v6) := wf_aL hw9 hv6
      refine rz_B.putL 3 (pc' := 267) (L' := [some (.ref 56), some (vI v1), none, none, none, none, some (vL v6), none, some (vL v8), none, none, none, none, none, none]) (S' := []) (c := 56) (k := 16) (x := v8) rfl ?_
      have hw11 : wf (aL (aL (aI A 56 14 v1) 56 15 v6) 56 16 v8) := wf_aL hw10 hv8
      cases h
      exact rz_B.ret rfl trivial hw11
  · have h := if_F h hc1
    refine rz_B.ifT ((cmp_le hv8 (by decide)).mpr (Int.not_lt.mp hc1)) ?_
    cases h
    exact rz_B.ret rfl trivial hw
def x126_compareBy_123 (F : Nat) (k46 : (Int → Int → Int → Int → Int → Int → Int → rz_A → Option (Unit × rz_A))) (v1 : Int) (v3 : Int) (v6 : Int) (v8 : Int) (v10 : Int) (v11 : Int) (v12 : Int) (v13 : Int) (A : rz_A) : Option (Unit × rz_A) :=
  if v11 < (A.1 51 10) then
    rz_gx v11 300 <|
    if (A.1 53 (v11).toNat) = v13 then
      rz_gx v12 300 <|
      if 0 ≤ (A.1 63 (v12).toNat) then
        if 0 ≤ (A.1 63 (v11).toNat) then
          rz_g32 ((A.1 63 (v12).toNat) - (A.1 63 (v11).toNat)) <|
          rz_b (x24_abs F ((A.1 63 (v12).toNat) - (A.1 63 (v11).toNat)) A) fun r10 A10 =>
          rz_g64 (v6 + r10) <|
          rz_g64 (v8 + 1) <|
          rz_g32 (v12 + 1) <|
          k46 v1 v3 (v6 + r10) (v8 + 1) v10 v11 (v12 + 1) A10
        else
          rz_g32 (v12 + 1) <|
          k46 v1 v3 v6 v8 v10 v11 (v12 + 1) A
      else
        rz_g32 (v12 + 1) <|
        k46 v1 v3 v6 v8 v10 v11 (v12 + 1) A
    else
      rz_g32 (v12 + 1) <|
      k46 v1 v3 v6 v8 v10 v11 (v12 + 1) A
  else
    rz_g32 (v12 + 1) <|
    k46 v1 v3 v6 v8 v10 v11 (v12 + 1) A
theorem cx126_compareBy_123 {d : Nat} (F : Nat) {k46 : (Int → Int → Int → Int → Int → Int → Int → rz_A → Option (Unit × rz_A))} (hkk46 : ∀ (v1 : Int) (v3 : Int) (v6 : Int) (v8 : Int) (v10 : Int) (v11 : Int) (v12 : Int) (A : rz_A) (r : Unit) (A' : rz_A), k46 v1 v3 v6 v8 v10 v11 v12 A = some (r, A') → r32 v1 → r32 v3 → r64 v6 → r64 v8 → r32 v10 → r32 v11 → r32 v12 → wf A → rz_B (d + 1) 126 46 [some (.ref 56), some (vI v1), none, some (vI v3), none, none, some (vL v6), none, some (vL v8), none, some (vI v10), some (vI v11), some (vI v12), none, none] [] A (none) A' (True)) : ∀ (v1 : Int) (v3 : Int) (v6 : Int) (v8 : Int) (v10 : Int) (v11 : Int) (v12 : Int) (v13 : Int) (A : rz_A) (r : Unit) (A' : rz_A), x126_compareBy_123 F k46 v1 v3 v6 v8 v10 v11 v12 v13 A = some (r, A') → r32 v1 → r32 v3 → r64 v6 → r64 v8 → r32 v10 → r32 v11 → r32 v12 → r32 v13 → wf A → rz_B (d + 1) 126 123 [some (.ref 56), some (vI v1), none, some (vI v3), none, none, some (vL v6), none, some (vL v8), none, some (vI v10), some (vI v11), some (vI v12), some (vI v13), none] [] A (none) A' (True) := by
  intro v1 v3 v6 v8 v10 v11 v12 v13 A r A' h hv1 hv3 hv6 hv8 hv10 hv11 hv12 hv13 hw
  unfold x126_compareBy_123 at h
  refine rz_B.go 5 (pc' := if decide (Int32.ofInt (A.1 51 10) ≤ Int32.ofInt v11) = true then 154 else 135) (L' := [some (.ref 56), some (vI v1), none, some (vI v3), none, none, some (vL v6), none, some (vL v8), none, some (vI v10), some (vI v11), some (vI v12), some (vI v13), none]) (S' := []) rfl ?_
  by_cases hc1 : v11 < (A.1 51 10)
  · have h := if_T h hc1
    refine rz_B.ifF (mt (le32 (hw 51 10).1 hv11).mp (Int.not_le.mpr hc1)) ?_
    refine rz_B.go 4 (pc' := 144) (L' := [some (.ref 56), some (vI v1), none, some (vI v3), none, none, some (vL v6), none, some (vL v8), none, some (vI v10), some (vI v11), some (vI v12), some (vI v13), none]) (S' := [vI v11, .ref 53]) rfl ?_
    obtain ⟨hi2, hj3, h⟩ := rz_gx_inv h
    refine rz_B.iald rfl rfl hi2 hj3 (by decide) ?_
    refine rz_B.go 2 (pc' := if decide (¬ Int32.ofInt (A.1 53 (v11).toNat) = Int32.ofInt v13) = true then 154 else 150) (L' := [some (.ref 56), some (vI v1), none, some (vI v3), none, none, some (vL v6), none, some (vL v8), none, some (vI v10), some (vI v11), some (vI v12), some (vI v13), none]) (S' := []) rfl ?_
    by_cases hc4 : (A.1 53 (v11).toNat) = v13
    · have h := if_T h hc4
      refine rz_B.ifF (fun hn => hn ((eq32 (hw 53 (v11).toNat).1 hv13).mpr hc4)) ?_
      refine rz_B.go 8 (pc' := 168) (L' := [some (.ref 56), some (vI v1), none, some (vI v3), none, none, some (vL v6), none, some (vL v8), none, some (vI v10), some (vI v11), some (vI v12), some (vI v13), some (vI 1)]) (S' := [vI v12, .ref 63]) rfl ?_
      obtain ⟨hi5, hj6, h⟩ := rz_gx_inv h
      refine rz_B.iald rfl rfl hi5 hj6 (by decide) ?_
      refine rz_B.go 1 (pc' := if decide (Int32.ofInt (A.1 63 (v12).toNat) < Int32.ofInt 0) = true then 212 else 172) (L' := [some (.ref 56), some (vI v1), none, some (vI v3), none, none, some (vL v6), none, some (vL v8), none, some (vI v10), some (vI v11), some (vI v12), some (vI v13), some (vI 1)]) (S' := []) rfl ?_
      by_cases hc7 : 0 ≤ (A.1 63 (v12).toNat)
      · have h := if_T h hc7
        refine rz_B.ifF (mt (lt32 (hw 63 (v12).toNat).1 (by decide)).mp (Int.not_lt.mpr hc7)) ?_
        refine rz_B.go 3 (pc' := 178) (L' := [some (.ref 56), some (vI v1), none, some (vI v3), none, none, some (vL v6), none, some (vL v8), none, some (vI v10), some (vI v11), some (vI v12), some (vI v13), some (vI 1)]) (S' := [vI v11, .ref 63]) rfl ?_
        refine rz_B.iald rfl rfl hi2 hj3 (by decide) ?_
        refine rz_B.go 1 (pc' := if decide (Int32.ofInt (A.1 63 (v11).toNat) < Int32.ofInt 0) = true then 212 else 182) (L' := [some (.ref 56), some (vI v1), none, some (vI v3), none, none, some (vL v6), none, some (vL v8), none, some (vI v10), some (vI v11), some (vI v12), some (vI v13), some (vI 1)]) (S' := []) rfl ?_
        by_cases hc8 : 0 ≤ (A.1 63 (v11).toNat)
        · have h := if_T h hc8
          refine rz_B.ifF (mt (lt32 (hw 63 (v11).toNat).1 (by decide)).mp (Int.not_lt.mpr hc8)) ?_
          refine rz_B.go 4 (pc' := 190) (L' := [some (.ref 56), some (vI v1), none, some (vI v3), none, none, some (vL v6), none, some (vL v8), none, some (vI v10), some (vI v11), some (vI v12), some (vI v13), some (vI 1)]) (S' := [vI v12, .ref 63, vL v6]) rfl ?_
          refine rz_B.iald rfl rfl hi5 hj6 (by decide) ?_
          refine rz_B.go 3 (pc' := 197) (L' := [some (.ref 56), some (vI v1), none, some (vI v3), none, none, some (vL v6), none, some (vL v8), none, some (vI v10), some (vI v11), some (vI v12), some (vI v13), some (vI 1)]) (S' := [vI v11, .ref 63, vI (A.1 63 (v12).toNat), vL v6]) rfl ?_
          refine rz_B.iald rfl rfl hi2 hj3 (by decide) ?_
          obtain ⟨hk9, h⟩ := rz_g32_inv h
          refine rz_B.isub rfl ?_
          obtain ⟨r10, A10, hf10, h⟩ := rz_b_inv h
          obtain ⟨hg10, hr10, hw10⟩ := cx24_abs F (d := d + 0) hf10 hk9 hw
          refine rz_B.call (d := d + 0) (as := [vI ((A.1 63 (v12).toNat) - (A.1 63 (v11).toNat))]) (rest := [vL v6]) (w := some (vI r10)) rfl hg10 ?_
          refine rz_B.i2l rfl hr10 ?_
          obtain ⟨hk11, h⟩ := rz_g64_inv h
          refine rz_B.ladd rfl ?_
          refine rz_B.go 3 (pc' := 209) (L' := [some (.ref 56), some (vI v1), none, some (vI v3), none, none, some (vL (v6 + r10)), none, some (vL v8), none, some (vI v10), some (vI v11), some (vI v12), some (vI v13), some (vI 1)]) (S' := [vL 1, vL v8]) rfl ?_
          obtain ⟨hk12, h⟩ := rz_g64_inv h
          refine rz_B.ladd rfl ?_
          refine rz_B.go 1 (pc' := 212) (L' := [some (.ref 56), some (vI v1), none, some (vI v3), none, none, some (vL (v6 + r10)), none, some (vL (v8 + 1)), none, some (vI v10), some (vI v11), some (vI v12), some (vI v13), some (vI 1)]) (S' := []) rfl ?_
          obtain ⟨hk13, h⟩ := rz_g32_inv h
          refine rz_B.iinc rfl (by decide) rfl (L' := [some (.ref 56), some (vI v1), none, some (vI v3), none, none, some (vL (v6 + r10)), none, some (vL (v8 + 1)), none, some (vI v10), some (vI v11), some (vI (v12 + 1)), some (vI v13), some (vI 1)]) rfl ?_
          refine rz_B.go 1 (pc' := 46) (L' := [some (.ref 56), some (vI v1), none, some (vI v3), none, none, some (vL (v6 + r10)), none, some (vL (v8 + 1)), none, some (vI v10), some (vI v11), some (vI (v12 + 1)), some (vI v13), some (vI 1)]) (S' := []) rfl ?_
          refine rz_B.more (rg_le_ok (L := [some (.ref 56), some (vI v1), none, some (vI v3), none, none, some (vL (v6 + r10)), none, some (vL (v8 + 1)), none, some (vI v10), some (vI v11), some (vI (v12 + 1)), none, none]) (by simp [rg_le])) ?_
          exact hkk46 _ _ _ _ _ _ _ _ _ _ h hv1 hv3 hk11 hk12 hv10 hv11 hk13 hw10
        · have h := if_F h hc8
          refine rz_B.ifT ((lt32 (hw 63 (v11).toNat).1 (by decide)).mpr (Int.not_le.mp hc8)) ?_
          obtain ⟨hk14, h⟩ := rz_g32_inv h
          refine rz_B.iinc rfl (by decide) rfl (L' := [some (.ref 56), some (vI v1), none, some (vI v3), none, none, some (vL v6), none, some (vL v8), none, some (vI v10), some (vI v11), some (vI (v12 + 1)), some (vI v13), some (vI 1)]) rfl ?_
          refine rz_B.go 1 (pc' := 46) (L' := [some (.ref 56), some (vI v1), none, some (vI v3), none, none, some (vL v6), none, some (vL v8), none, some (vI v10), some (vI v11), some (vI (v12 + 1)), some (vI v13), some (vI 1)]) (S' := []) rfl ?_
          refine rz_B.more (rg_le_ok (L := [some (.ref 56), some (vI v1), none, some (vI v3), none, none, some (vL v6), none, some (vL v8), none, some (vI v10), some (vI v11), some (vI (v12 + 1)), none, none]) (by simp [rg_le])) ?_
          exact hkk46 _ _ _ _ _ _ _ _ _ _ h hv1 hv3 hv6 hv8 hv10 hv11 hk14 hw
      · have h := if_F h hc7
        refine rz_B.ifT ((lt32 (hw 63 (v12).toNat).1 (by decide)).mpr (Int.not_le.mp hc7)) ?_
        obtain ⟨hk15, h⟩ := rz_g32_inv h
        refine rz_B.iinc rfl (by decide) rfl (L' := [some (.ref 56), some (vI v1), none, some (vI v3), none, none, some (vL v6), none, some (vL v8), none, some (vI v10), some (vI v11), some (vI (v12 + 1)), some (vI v13), some (vI 1)]) rfl ?_
        refine rz_B.go 1 (pc' := 46) (L' := [some (.ref 56), some (vI v1), none, some (vI v3), none, none, some (vL v6), none, some (vL v8), none, some (vI v10), some (vI v11), some (vI (v12 + 1)), some (vI v13), some (vI 1)]) (S' := []) rfl ?_
        refine rz_B.more (rg_le_ok (L := [some (.ref 56), some (vI v1), none, some (vI v3), none, none, some (vL v6), none, some (vL v8), none, some (vI v10), some (vI v11), some (vI (v12 + 1)), none, none]) (by simp [rg_le])) ?_
        exact hkk46 _ _ _ _ _ _ _ _ _ _ h hv1 hv3 hv6 hv8 hv10 hv11 hk15 hw
    · have h := if_F h hc4
      refine rz_B.ifT (mt (eq32 (hw 53 (v11).toNat).1 hv13).mp hc4) ?_
      refine rz_B.go 4 (pc' := 212) (L' := [some (.ref 56), some (vI v1), none, some (vI v3), none, none, some (vL v6), none, some (vL v8), none, some (vI v10), some (vI v11), some (vI v12), some (vI v13), some (vI 0)]) (S' := []) rfl ?_
      obtain ⟨hk16, h⟩ := rz_g32_inv h
      refine rz_B.iinc rfl (by decide) rfl (L' := [some (.ref 56), some (vI v1), none, some (vI v3), none, none, some (vL v6), none, some (vL v8), none, some (vI v10), some (vI v11), some (vI (v12 + 1)), some (vI v13), some (vI 0)]) rfl ?_
      refine rz_B.go 1 (pc' := 46) (L' := [some (.ref 56), some (vI v1), none, some (vI v3), none, none, some (vL v6), none, some (vL v8), none, some (vI v10), some (vI v11), some (vI (v12 + 1)), some (vI v13), some (vI 0)]) (S' := []) rfl ?_
      refine rz_B.more (rg_le_ok (L := [some (.ref 56), some (vI v1), none, some (vI v3), none, none, some (vL v6), none, some (vL v8), none, some (vI v10), some (vI v11), some (vI (v12 + 1)), none, none]) (by simp [rg_le])) ?_
      exact hkk46 _ _ _ _ _ _ _ _ _ _ h hv1 hv3 hv6 hv8 hv10 hv11 hk16 hw
  · have h := if_F h hc1
    refine rz_B.ifT ((le32 (hw 51 10).1 hv11).mpr (Int.not_lt.mp hc1)) ?_
    refine rz_B.go 4 (pc' := 212) (L' := [some (.ref 56), some (vI v1), none, some (vI v3), none, none, some (vL v6), none, some (vL v8), none, some (vI v10), some (vI v11), some (vI v12), some (vI v13), some (vI 0)]) (S' := []) rfl ?_
    obtain ⟨hk17, h⟩ := rz_g32_inv h
    refine rz_B.iinc rfl (by decide) rfl (L' := [some (.ref 56), some (vI v1), none, some (vI v3), none, none, some (vL v6), none, some (vL v8), none, some (vI v10), some (vI v11), some (vI (v12 + 1)), some (vI v13), some (vI 0)]) rfl ?_
    refine rz_B.go 1 (pc' := 46) (L' := [some (.ref 56), some (vI v1), none, some (vI v3), none, none, some (vL v6), none, some (vL v8), none, some (vI v10), some (vI v11), some (vI (v12 + 1)), some (vI v13), some (vI 0)]) (S' := []) rfl ?_
    refine rz_B.more (rg_le_ok (L := [some (.ref 56), some (vI v1), none, some (vI v3), none, none, some (vL v6), none, some (vL v8), none, some (vI v10), some (vI v11), some (vI (v12 + 1)), none, none]) (by simp [rg_le])) ?_
    exact hkk46 _ _ _ _ _ _ _ _ _ _ h hv1 hv3 hv6 hv8 hv10 hv11 hk17 hw
def x126_compareBy_90 (F : Nat) (k46 : (Int → Int → Int → Int → Int → Int → Int → rz_A → Option (Unit × rz_A))) : Nat → Int → Int → Int → Int → Int → Int → Int → Int → rz_A → Option (Unit × rz_A)
  | 0, _, _, _, _, _, _, _, _, _ => none
  | n + 1, v1, v3, v6, v8, v10, v11, v12, v13, A =>
    if v11 < (A.1 51 10) then
      rz_gx v11 300 <|
      if (A.1 53 (v11).toNat) < v13 then
        rz_g32 (v11 + 1) <|
        x126_compareBy_90 F k46 n v1 v3 v6 v8 v10 (v11 + 1) v12 v13 A
      else
        x126_compareBy_123 F k46 v1 v3 v6 v8 v10 v11 v12 v13 A
    else
      x126_compareBy_123 F k46 v1 v3 v6 v8 v10 v11 v12 v13 A
theorem cx126_compareBy_90 {d : Nat} (F : Nat) {k46 : (Int → Int → Int → Int → Int → Int → Int → rz_A → Option (Unit × rz_A))} (hkk46 : ∀ (v1 : Int) (v3 : Int) (v6 : Int) (v8 : Int) (v10 : Int) (v11 : Int) (v12 : Int) (A : rz_A) (r : Unit) (A' : rz_A), k46 v1 v3 v6 v8 v10 v11 v12 A = some (r, A') → r32 v1 → r32 v3 → r64 v6 → r64 v8 → r32 v10 → r32 v11 → r32 v12 → wf A → rz_B (d + 1) 126 46 [some (.ref 56), some (vI v1), none, some (vI v3), none, none, some (vL v6), none, some (vL v8), none, some (vI v10), some (vI v11), some (vI v12), none, none] [] A (none) A' (True)) : ∀ (n : Nat) (v1 : Int) (v3 : Int) (v6 : Int) (v8 : Int) (v10 : Int) (v11 : Int) (v12 : Int) (v13 : Int) (A : rz_A) (r : Unit) (A' : rz_A), x126_compareBy_90 F k46 n v1 v3 v6 v8 v10 v11 v12 v13 A = some (r, A') → r32 v1 → r32 v3 → r64 v6 → r64 v8 → r32 v10 → r32 v11 → r32 v12 → r32 v13 → wf A → rz_B (d + 1) 126 90 [some (.ref 56), some (vI v1), none, some (vI v3), none, none, some (vL v6), none, some (vL v8), none, some (vI v10), some (vI v11), some (vI v12), some (vI v13), none] [] A (none) A' (True) := by
  intro n
  induction n with
  | zero => intro v1 v3 v6 v8 v10 v11 v12 v13 A r A' h; cases h
  | succ n ih =>
    intro v1 v3 v6 v8 v10 v11 v12 v13 A r A' h hv1 hv3 hv6 hv8 hv10 hv11 hv12 hv13 hw
    rw [x126_compareBy_90] at h
    refine rz_B.go 5 (pc' := if decide (Int32.ofInt (A.1 51 10) ≤ Int32.ofInt v11) = true then 123 else 102) (L' := [some (.ref 56), some (vI v1), none, some (vI v3), none, none, some (vL v6), none, some (vL v8), none, some (vI v10), some (vI v11), some (vI v12), some (vI v13), none]) (S' := []) rfl ?_
    by_cases hc1 : v11 < (A.1 51 10)
    · have h := if_T h hc1
      refine rz_B.ifF (mt (le32 (hw 51 10).1 hv11).mp (Int.not_le.mpr hc1)) ?_
      refine rz_B.go 4 (pc' := 111) (L' := [some (.ref 56), some (vI v1), none, some (vI v3), none, none, some (vL v6), none, some (vL v8), none, some (vI v10), some (vI v11), some (vI v12), some (vI v13), none]) (S' := [vI v11, .ref 53]) rfl ?_
      obtain ⟨hi2, hj3, h⟩ := rz_gx_inv h
      refine rz_B.iald rfl rfl hi2 hj3 (by decide) ?_
      refine rz_B.go 2 (pc' := if decide (Int32.ofInt v13 ≤ Int32.ofInt (A.1 53 (v11).toNat)) = true then 123 else 117) (L' := [some (.ref 56), some (vI v1), none, some (vI v3), none, none, some (vL v6), none, some (vL v8), none, some (vI v10), some (vI v11), some (vI v12), some (vI v13), none]) (S' := []) rfl ?_
      by_cases hc4 : (A.1 53 (v11).toNat) < v13
      · have h := if_T h hc4
        refine rz_B.ifF (mt (le32 hv13 (hw 53 (v11).toNat).1).mp (Int.not_le.mpr hc4)) ?_
        obtain ⟨hk5, h⟩ := rz_g32_inv h
        refine rz_B.iinc rfl (by decide) rfl (L' := [some (.ref 56), some (vI v1), none, some (vI v3), none, none, some (vL v6), none, some (vL v8), none, some (vI v10), some (vI (v11 + 1)), some (vI v12), some (vI v13), none]) rfl ?_
        refine rz_B.go 1 (pc' := 90) (L' := [some (.ref 56), some (vI v1), none, some (vI v3), none, none, some (vL v6), none, some (vL v8), none, some (vI v10), some (vI (v11 + 1)), some (vI v12), some (vI v13), none]) (S' := []) rfl ?_
        refine rz_B.more (rg_le_ok (L := [some (.ref 56), some (vI v1), none, some (vI v3), none, none, some (vL v6), none, some (vL v8), none, some (vI v10), some (vI (v11 + 1)), some (vI v12), some (vI v13), none]) (by simp [rg_le])) ?_
        exact ih _ _ _ _ _ _ _ _ _ _ _ h hv1 hv3 hv6 hv8 hv10 hk5 hv12 hv13 hw
      · have h := if_F h hc4
        refine rz_B.ifT ((le32 hv13 (hw 53 (v11).toNat).1).mpr (Int.not_lt.mp hc4)) ?_
        refine rz_B.more (rg_le_ok (L := [some (.ref 56), some (vI v1), none, some (vI v3), none, none, some (vL v6), none, some (vL v8), none, some (vI v10), some (vI v11), some (vI v12), some (vI v13), none]) (by simp [rg_le])) ?_
        exact cx126_compareBy_123 F hkk46 _ _ _ _ _ _ _ _ _ _ _ h hv1 hv3 hv6 hv8 hv10 hv11 hv12 hv13 hw
    · have h := if_F h hc1
      refine rz_B.ifT ((le32 (hw 51 10).1 hv11).mpr (Int.not_lt.mp hc1)) ?_
      refine rz_B.more (rg_le_ok (L := [some (.ref 56), some (vI v1), none, some (vI v3), none, none, some (vL v6), none, some (vL v8), none, some (vI v10), some (vI v11), some (vI v12), some (vI v13), none]) (by simp [rg_le])) ?_
      exact cx126_compareBy_123 F hkk46 _ _ _ _ _ _ _ _ _ _ _ h hv1 hv3 hv6 hv8 hv10 hv11 hv12 hv13 hw
def x126_compareBy_46 (F : Nat) : Nat → Int → Int → Int → Int → Int → Int → Int → rz_A → Option (Unit × rz_A)
  | 0, _, _, _, _, _, _, _, _ => none
  | n + 1, v1, v3, v6, v8, v10, v11, v12, A =>
    if v12 < (A.1 51 10) then
      rz_gx v12 300 <|
      if (A.1 53 (v12).toNat) ≤ v10 then
        rz_b (x87_timeOf F v12 A) fun r5 A5 =>
        rz_g32 (r5 + v1) <|
        rz_b (x14_keyOf F v3 (r5 + v1) A5) fun r7 A7 =>
        x126_compareBy_90 F (x126_compareBy_46 F n) F v1 v3 v6 v8 v10 v11 v12 r7 A7
      else
        x126_compareBy_218 F v1 v6 v8 A
    else
      x126_compareBy_218 F v1 v6 v8 A
theorem cx126_compareBy_46 {d : Nat} (F : Nat) : ∀ (n : Nat) (v1 : Int) (v3 : Int) (v6 : Int) (v8 : Int) (v10 : Int) (v11 : Int) (v12 : Int) (A : rz_A) (r : Unit) (A' : rz_A), x126_compareBy_46 F n v1 v3 v6 v8 v10 v11 v12 A = some (r, A') → r32 v1 → r32 v3 → r64 v6 → r64 v8 → r32 v10 → r32 v11 → r32 v12 → wf A → rz_B (d + 1) 126 46 [some (.ref 56), some (vI v1), none, some (vI v3), none, none, some (vL v6), none, some (vL v8), none, some (vI v10), some (vI v11), some (vI v12), none, none] [] A (none) A' (True) := by
  intro n
  induction n with
  | zero => intro v1 v3 v6 v8 v10 v11 v12 A r A' h; cases h
  | succ n ih =>
    intro v1 v3 v6 v8 v10 v11 v12 A r A' h hv1 hv3 hv6 hv8 hv10 hv11 hv12 hw
    rw [x126_compareBy_46] at h
    refine rz_B.go 5 (pc' := if decide (Int32.ofInt (A.1 51 10) ≤ Int32.ofInt v12) = true then 218 else 58) (L' := [some (.ref 56), some (vI v1), none, some (vI v3), none, none, some (vL v6), none, some (vL v8), none, some (vI v10), some (vI v11), some (vI v12), none, none]) (S' := []) rfl ?_
    by_cases hc1 : v12 < (A.1 51 10)
    · have h := if_T h hc1
      refine rz_B.ifF (mt (le32 (hw 51 10).1 hv12).mp (Int.not_le.mpr hc1)) ?_
      refine rz_B.go 4 (pc' := 67) (L' := [some (.ref 56), some (vI v1), none, some (vI v3), none, none, some (vL v6), none, some (vL v8), none, some (vI v10), some (vI v11), some (vI v12), none, none]) (S' := [vI v12, .ref 53]) rfl ?_
      obtain ⟨hi2, hj3, h⟩ := rz_gx_inv h
      refine rz_B.iald rfl rfl hi2 hj3 (by decide) ?_
      refine rz_B.go 2 (pc' := if decide (Int32.ofInt v10 < Int32.ofInt (A.1 53 (v12).toNat)) = true then 218 else 73) (L' := [some (.ref 56), some (vI v1), none, some (vI v3), none, none, some (vL v6), none, some (vL v8), none, some (vI v10), some (vI v11), some (vI v12), none, none]) (S' := []) rfl ?_
      by_cases hc4 : (A.1 53 (v12).toNat) ≤ v10
      · have h := if_T h hc4
        refine rz_B.ifF (mt (lt32 hv10 (hw 53 (v12).toNat).1).mp (Int.not_lt.mpr hc4)) ?_
        refine rz_B.go 4 (pc' := 80) (L' := [some (.ref 56), some (vI v1), none, some (vI v3), none, none, some (vL v6), none, some (vL v8), none, some (vI v10), some (vI v11), some (vI v12), none, none]) (S' := [vI v12, .ref 51, vI v3]) rfl ?_
        obtain ⟨r5, A5, hf5, h⟩ := rz_b_inv h
        obtain ⟨hg5, hr5, hw5⟩ := cx87_timeOf F (d := d + 0) hf5 hv12 hw
        refine rz_B.call (d := d + 0) (as := [.ref 51, vI v12]) (rest := [vI v3]) (w := some (vI r5)) rfl hg5 ?_
        refine rz_B.go 1 (pc' := 84) (L' := [some (.ref 56), some (vI v1), none, some (vI v3), none, none, some (vL v6), none, some (vL v8), none, some (vI v10), some (vI v11), some (vI v12), none, none]) (S' := [vI v1, vI r5, vI v3]) rfl ?_
        obtain ⟨hk6, h⟩ := rz_g32_inv h
        refine rz_B.iadd rfl ?_
        obtain ⟨r7, A7, hf7, h⟩ := rz_b_inv h
        obtain ⟨hg7, hr7, hw7⟩ := cx14_keyOf F (d := d + 0) hf7 hv3 hk6 hw5
        refine rz_B.call (d := d + 0) (as := [vI v3, vI (r5 + v1)]) (rest := []) (w := some (vI r7)) rfl hg7 ?_
        refine rz_B.go 1 (pc' := 90) (L' := [some (.ref 56), some (vI v1), none, some (vI v3), none, none, some (vL v6), none, some (vL v8), none, some (vI v10), some (vI v11), some (vI v12), some (vI r7), none]) (S' := []) rfl ?_
        refine rz_B.more (rg_le_ok (L := [some (.ref 56), some (vI v1), none, some (vI v3), none, none, some (vL v6), none, some (vL v8), none, some (vI v10), some (vI v11), some (vI v12), some (vI r7), none]) (by simp [rg_le])) ?_
        exact cx126_compareBy_90 F ih F _ _ _ _ _ _ _ _ _ _ _ h hv1 hv3 hv6 hv8 hv10 hv11 hv12 hr7 hw7
      · have h := if_F h hc4
        refine rz_B.ifT ((lt32 hv10 (hw 53 (v12).toNat).1).mpr (Int.not_le.mp hc4)) ?_
        refine rz_B.more (rg_le_ok (L := [some (.ref 56), some (vI v1), none, none, none, none, some (vL v6), none, some (vL v8), none, none, none, none, none, none]) (by simp [rg_le])) ?_
        exact cx126_compareBy_218 F _ _ _ _ _ _ h hv1 hv6 hv8 hw
    · have h := if_F h hc1
      refine rz_B.ifT ((le32 (hw 51 10).1 hv12).mpr (Int.not_lt.mp hc1)) ?_
      refine rz_B.more (rg_le_ok (L := [some (.ref 56), some (vI v1), none, none, none, none, some (vL v6), none, some (vL v8), none, none, none, none, none, none]) (by simp [rg_le])) ?_
      exact cx126_compareBy_218 F _ _ _ _ _ _ h hv1 hv6 hv8 hw
/-- RiverGauge$Rating.compareBy(IIIII)V -/
def x126_compareBy (F : Nat) (a0 : Int) (a1 : Int) (a2 : Int) (a3 : Int) (a4 : Int) (A : rz_A) : Option (Unit × rz_A) :=
  rz_b (x14_keyOf F a1 a4 A) fun r1 A1 =>
  rz_g32 (a3 + a0) <|
  rz_b (x14_keyOf F a2 (a3 + a0) A1) fun r3 A3 =>
  rz_b (x33_firstFrom F r3 A3) fun r4 A4 =>
  rz_b (x14_keyOf F a1 a3 A4) fun r5 A5 =>
  rz_b (x33_firstFrom F r5 A5) fun r6 A6 =>
  x126_compareBy_46 F F a0 a2 0 0 r1 r4 r6 A6
theorem cx126_compareBy (F : Nat) {d : Nat} {a0 : Int} {a1 : Int} {a2 : Int} {a3 : Int} {a4 : Int} {A : rz_A} {r : Unit} {A' : rz_A} (h : x126_compareBy F a0 a1 a2 a3 a4 A = some (r, A')) (ha0 : r32 a0) (ha1 : r32 a1) (ha2 : r32 a2) (ha3 : r32 a3) (ha4 : r32 a4) (hw : wf A) : rg_Rn (d + 1) 126 [.ref 56, vI a0, vI a1, vI a2, vI a3, vI a4] (toM A) (none) (toM A') ∧ (True) ∧ wf A' := by
  show rz_B (d + 1) 126 0 [some (.ref 56), some (vI a0), some (vI a1), some (vI a2), some (vI a3), some (vI a4), none, none, none, none, none, none, none, none, none] [] A (none) A' (True)
  unfold x126_compareBy at h
  refine rz_B.go 6 (pc' := 9) (L' := [some (.ref 56), some (vI a0), some (vI a1), some (vI a2), some (vI a3), some (vI a4), some (vL 0), none, some (vL 0), none, none, none, none, none, none]) (S' := [vI a4, vI a1]) rfl ?_
  obtain ⟨r1, A1, hf1, h⟩ := rz_b_inv h
  obtain ⟨hg1, hr1, hw1⟩ := cx14_keyOf F (d := d + 0) hf1 ha1 ha4 hw
  refine rz_B.call (d := d + 0) (as := [vI a1, vI a4]) (rest := []) (w := some (vI r1)) rfl hg1 ?_
  refine rz_B.go 6 (pc' := 22) (L' := [some (.ref 56), some (vI a0), some (vI a1), some (vI a2), some (vI a3), some (vI a4), some (vL 0), none, some (vL 0), none, some (vI r1), none, none, none, none]) (S' := [vI a0, vI a3, vI a2, .ref 51]) rfl ?_
  obtain ⟨hk2, h⟩ := rz_g32_inv h
  refine rz_B.iadd rfl ?_
  obtain ⟨r3, A3, hf3, h⟩ := rz_b_inv h
  obtain ⟨hg3, hr3, hw3⟩ := cx14_keyOf F (d := d + 0) hf3 ha2 hk2 hw1
  refine rz_B.call (d := d + 0) (as := [vI a2, vI (a3 + a0)]) (rest := [.ref 51]) (w := some (vI r3)) rfl hg3 ?_
  obtain ⟨r4, A4, hf4, h⟩ := rz_b_inv h
  obtain ⟨hg4, hr4, hw4⟩ := cx33_firstFrom F (d := d + 0) hf4 hr3 hw3
  refine rz_B.call (d := d + 0) (as := [.ref 51, vI r3]) (rest := []) (w := some (vI r4)) rfl hg4 ?_
  refine rz_B.go 5 (pc' := 38) (L' := [some (.ref 56), some (vI a0), some (vI a1), some (vI a2), some (vI a3), some (vI a4), some (vL 0), none, some (vL 0), none, some (vI r1), some (vI r4), none, none, none]) (S' := [vI a3, vI a1, .ref 51]) rfl ?_
  obtain ⟨r5, A5, hf5, h⟩ := rz_b_inv h
  obtain ⟨hg5, hr5, hw5⟩ := cx14_keyOf F (d := d + 0) hf5 ha1 ha3 hw4
  refine rz_B.call (d := d + 0) (as := [vI a1, vI a3]) (rest := [.ref 51]) (w := some (vI r5)) rfl hg5 ?_
  obtain ⟨r6, A6, hf6, h⟩ := rz_b_inv h
  obtain ⟨hg6, hr6, hw6⟩ := cx33_firstFrom F (d := d + 0) hf6 hr5 hw5
  refine rz_B.call (d := d + 0) (as := [.ref 51, vI r5]) (rest := []) (w := some (vI r6)) rfl hg6 ?_
  refine rz_B.go 1 (pc' := 46) (L' := [some (.ref 56), some (vI a0), some (vI a1), some (vI a2), some (vI a3), some (vI a4), some (vL 0), none, some (vL 0), none, some (vI r1), some (vI r4), some (vI r6), none, none]) (S' := []) rfl ?_
  refine rz_B.more (rg_le_ok (L := [some (.ref 56), some (vI a0), none, some (vI a2), none, none, some (vL 0), none, some (vL 0), none, some (vI r1), some (vI r4), some (vI r6), none, none]) (by simp [rg_le])) ?_
  exact cx126_compareBy_46 F F _ _ _ _ _ _ _ _ _ _ h ha0 ha2 (by decide) (by decide) hr1 hr4 hr6 hw6
def x125_rateAll_21 (F : Nat) : Nat → Int → Int → rz_A → Option (Unit × rz_A)
  | 0, _, _, _ => none
  | n + 1, v4, v5, A =>
    if v5 < (A.1 51 10) then
      rz_gx v5 300 <|
      if (A.1 53 (v5).toNat) ≤ v4 then
        rz_b (x85_rate F v5 A) fun r5 A5 =>
        rz_g32 (v5 + 1) <|
        x125_rateAll_21 F n v4 (v5 + 1) (aI A5 63 (v5).toNat r5)
      else
        some ((), A)
    else
      some ((), A)
theorem cx125_rateAll_21 {d : Nat} (F : Nat) : ∀ (n : Nat) (v4 : Int) (v5 : Int) (A : rz_A) (r : Unit) (A' : rz_A), x125_rateAll_21 F n v4 v5 A = some (r, A') → r32 v4 → r32 v5 → wf A → rz_B (d + 5) 125 21 [some (.ref 56), none, none, none, some (vI v4), some (vI v5)] [] A (none) A' (True) := by
  intro n
  induction n with
  | zero => intro v4 v5 A r A' h; cases h
  | succ n ih =>
    intro v4 v5 A r A' h hv4 hv5 hw
    rw [x125_rateAll_21] at h
    refine rz_B.go 5 (pc' := if decide (Int32.ofInt (A.1 51 10) ≤ Int32.ofInt v5) = true then 67 else 33) (L' := [some (.ref 56), none, none, none, some (vI v4), some (vI v5)]) (S' := []) rfl ?_
    by_cases hc1 : v5 < (A.1 51 10)
    · have h := if_T h hc1
      refine rz_B.ifF (mt (le32 (hw 51 10).1 hv5).mp (Int.not_le.mpr hc1)) ?_
      refine rz_B.go 4 (pc' := 42) (L' := [some (.ref 56), none, none, none, some (vI v4), some (vI v5)]) (S' := [vI v5, .ref 53]) rfl ?_
      obtain ⟨hi2, hj3, h⟩ := rz_gx_inv h
      refine rz_B.iald rfl rfl hi2 hj3 (by decide) ?_
      refine rz_B.go 2 (pc' := if decide (Int32.ofInt v4 < Int32.ofInt (A.1 53 (v5).toNat)) = true then 67 else 48) (L' := [some (.ref 56), none, none, none, some (vI v4), some (vI v5)]) (S' := []) rfl ?_
      by_cases hc4 : (A.1 53 (v5).toNat) ≤ v4
      · have h := if_T h hc4
        refine rz_B.ifF (mt (lt32 hv4 (hw 53 (v5).toNat).1).mp (Int.not_lt.mpr hc4)) ?_
        refine rz_B.go 5 (pc' := 57) (L' := [some (.ref 56), none, none, none, some (vI v4), some (vI v5)]) (S' := [vI v5, .ref 56, vI v5, .ref 63]) rfl ?_
        obtain ⟨r5, A5, hf5, h⟩ := rz_b_inv h
        obtain ⟨hg5, hr5, hw5⟩ := cx85_rate F (d := d + 0) hf5 hv5 hw
        refine rz_B.call (d := d + 4) (as := [.ref 56, vI v5]) (rest := [vI v5, .ref 63]) (w := some (vI r5)) rfl hg5 ?_
        refine rz_B.iast rfl rfl hi2 hj3 (by decide) ?_
        have hw6 : wf (aI A5 63 (v5).toNat r5) := wf_aI hw5 hr5
        obtain ⟨hk7, h⟩ := rz_g32_inv h
        refine rz_B.iinc rfl (by decide) rfl (L' := [some (.ref 56), none, none, none, some (vI v4), some (vI (v5 + 1))]) rfl ?_
        refine rz_B.go 1 (pc' := 21) (L' := [some (.ref 56), none, none, none, some (vI v4), some (vI (v5 + 1))]) (S' := []) rfl ?_
        refine rz_B.more (rg_le_ok (L := [some (.ref 56), none, none, none, some (vI v4), some (vI (v5 + 1))]) (by simp [rg_le])) ?_
        exact ih _ _ _ _ _ h hv4 hk7 hw6
      · have h := if_F h hc4
        refine rz_B.ifT ((lt32 hv4 (hw 53 (v5).toNat).1).mpr (Int.not_le.mp hc4)) ?_
        cases h
        exact rz_B.ret rfl trivial hw
    · have h := if_F h hc1
      refine rz_B.ifT ((le32 (hw 51 10).1 hv5).mpr (Int.not_lt.mp hc1)) ?_
      cases h
      exact rz_B.ret rfl trivial hw
/-- RiverGauge$Rating.rateAll(III)V -/
def x125_rateAll (F : Nat) (a0 : Int) (a1 : Int) (a2 : Int) (A : rz_A) : Option (Unit × rz_A) :=
  rz_b (x14_keyOf F a0 a2 A) fun r1 A1 =>
  rz_b (x14_keyOf F a0 a1 A1) fun r2 A2 =>
  rz_b (x33_firstFrom F r2 A2) fun r3 A3 =>
  x125_rateAll_21 F F r1 r3 A3
theorem cx125_rateAll (F : Nat) {d : Nat} {a0 : Int} {a1 : Int} {a2 : Int} {A : rz_A} {r : Unit} {A' : rz_A} (h : x125_rateAll F a0 a1 a2 A = some (r, A')) (ha0 : r32 a0) (ha1 : r32 a1) (ha2 : r32 a2) (hw : wf A) : rg_Rn (d + 5) 125 [.ref 56, vI a0, vI a1, vI a2] (toM A) (none) (toM A') ∧ (True) ∧ wf A' := by
  show rz_B (d + 5) 125 0 [some (.ref 56), some (vI a0), some (vI a1), some (vI a2), none, none] [] A (none) A' (True)
  unfold x125_rateAll at h
  refine rz_B.go 2 (pc' := 2) (L' := [some (.ref 56), some (vI a0), some (vI a1), some (vI a2), none, none]) (S' := [vI a2, vI a0]) rfl ?_
  obtain ⟨r1, A1, hf1, h⟩ := rz_b_inv h
  obtain ⟨hg1, hr1, hw1⟩ := cx14_keyOf F (d := d + 4) hf1 ha0 ha2 hw
  refine rz_B.call (d := d + 4) (as := [vI a0, vI a2]) (rest := []) (w := some (vI r1)) rfl hg1 ?_
  refine rz_B.go 5 (pc' := 13) (L' := [some (.ref 56), some (vI a0), some (vI a1), some (vI a2), some (vI r1), none]) (S' := [vI a1, vI a0, .ref 51]) rfl ?_
  obtain ⟨r2, A2, hf2, h⟩ := rz_b_inv h
  obtain ⟨hg2, hr2, hw2⟩ := cx14_keyOf F (d := d + 4) hf2 ha0 ha1 hw1
  refine rz_B.call (d := d + 4) (as := [vI a0, vI a1]) (rest := [.ref 51]) (w := some (vI r2)) rfl hg2 ?_
  obtain ⟨r3, A3, hf3, h⟩ := rz_b_inv h
  obtain ⟨hg3, hr3, hw3⟩ := cx33_firstFrom F (d := d + 4) hf3 hr2 hw2
  refine rz_B.call (d := d + 4) (as := [.ref 51, vI r2]) (rest := []) (w := some (vI r3)) rfl hg3 ?_
  refine rz_B.go 1 (pc' := 21) (L' := [some (.ref 56), some (vI a0), some (vI a1), some (vI a2), some (vI r1), some (vI r3)]) (S' := []) rfl ?_
  refine rz_B.more (rg_le_ok (L := [some (.ref 56), none, none, none, some (vI r1), some (vI r3)]) (by simp [rg_le])) ?_
  exact cx125_rateAll_21 F F _ _ _ _ _ h hr1 hr3 hw3
def x124_compare_67 (F : Nat) (A : rz_A) : Option (Unit × rz_A) :=
  rz_b (x127_commonDivisor F (A.2 56 15) (A.2 56 16) A) fun r1 A1 =>
  if 1 < r1 then
    rz_gn r1 <|
    rz_g64 ((A1.2 56 15).tdiv r1) <|
    rz_g64 ((A1.2 56 16).tdiv r1) <|
    some ((), (aL (aL A1 56 15 ((A1.2 56 15).tdiv r1)) 56 16 ((A1.2 56 16).tdiv r1)))
  else
    some ((), A1)
theorem cx124_compare_67 {d : Nat} (F : Nat) : ∀ (A : rz_A) (r : Unit) (A' : rz_A), x124_compare_67 F A = some (r, A') → wf A → rz_B (d + 6) 124 67 [some (.ref 56), none, none, none, none, none, none] [] A (none) A' (True) := by
  intro A r A' h hw
  unfold x124_compare_67 at h
  refine rz_B.go 4 (pc' := 75) (L' := [some (.ref 56), none, none, none, none, none, none]) (S' := [vL (A.2 56 16), vL (A.2 56 15)]) rfl ?_
  obtain ⟨r1, A1, hf1, h⟩ := rz_b_inv h
  obtain ⟨hg1, hr1, hw1⟩ := cx127_commonDivisor F (d := d + 5) hf1 (hw 56 15).2 (hw 56 16).2 hw
  refine rz_B.call (d := d + 5) (as := [vL (A.2 56 15), vL (A.2 56 16)]) (rest := []) (w := some (vL r1)) rfl hg1 ?_
  refine rz_B.go 5 (pc' := if decide (lg_cmp (Int64.ofInt r1) (Int64.ofInt 1) ≤ 0) = true then 109 else 87) (L' := [some (.ref 56), none, none, none, none, some (vL r1), none]) (S' := []) rfl ?_
  by_cases hc2 : 1 < r1
  · have h := if_T h hc2
    refine rz_B.ifF (mt (cmp_le hr1 (by decide)).mp (Int.not_le.mpr hc2)) ?_
    refine rz_B.go 4 (pc' := 94) (L' := [some (.ref 56), none, none, none, none, some (vL r1), none]) (S' := [vL r1, vL (A1.2 56 15), .ref 56]) rfl ?_
    obtain ⟨hz3, h⟩ := rz_gn_inv h
    obtain ⟨hk4, h⟩ := rz_g64_inv h
    refine rz_B.ldiv rfl (hw1 56 15).2 hr1 hz3 ?_
    refine rz_B.putL 1 (pc' := 98) (L' := [some (.ref 56), none, none, none, none, some (vL r1), none]) (S' := []) (c := 56) (k := 15) (x := ((A1.2 56 15).tdiv r1)) rfl ?_
    have hw5 : wf (aL A1 56 15 ((A1.2 56 15).tdiv r1)) := wf_aL hw1 hk4
    refine rz_B.go 4 (pc' := 105) (L' := [some (.ref 56), none, none, none, none, some (vL r1), none]) (S' := [vL r1, vL (A1.2 56 16), .ref 56]) rfl ?_
    obtain ⟨hk6, h⟩ := rz_g64_inv h
    refine rz_B.ldiv rfl (hw1 56 16).2 hr1 hz3 ?_
    refine rz_B.putL 1 (pc' := 109) (L' := [some (.ref 56), none, none, none, none, some (vL r1), none]) (S' := []) (c := 56) (k := 16) (x := ((A1.2 56 16).tdiv r1)) rfl ?_
    have hw7 : wf (aL (aL A1 56 15 ((A1.2 56 15).tdiv r1)) 56 16 ((A1.2 56 16).tdiv r1)) := wf_aL hw5 hk6
    cases h
    exact rz_B.ret rfl trivial hw7
  · have h := if_F h hc2
    refine rz_B.ifT ((cmp_le hr1 (by decide)).mpr (Int.not_lt.mp hc2)) ?_
    cases h
    exact rz_B.ret rfl trivial hw1
def x124_compare_43 (F : Nat) : Nat → Int → Int → Int → Int → Int → rz_A → Option (Unit × rz_A)
  | 0, _, _, _, _, _, _ => none
  | n + 1, v1, v2, v3, v4, v5, A =>
    if v5 ≤ 20 then
      rz_b (x126_compareBy F v5 v1 v2 v3 v4 A) fun _ A2 =>
      rz_g32 (v5 + 1) <|
      x124_compare_43 F n v1 v2 v3 v4 (v5 + 1) A2
    else
      x124_compare_67 F A
theorem cx124_compare_43 {d : Nat} (F : Nat) : ∀ (n : Nat) (v1 : Int) (v2 : Int) (v3 : Int) (v4 : Int) (v5 : Int) (A : rz_A) (r : Unit) (A' : rz_A), x124_compare_43 F n v1 v2 v3 v4 v5 A = some (r, A') → r32 v1 → r32 v2 → r32 v3 → r32 v4 → r32 v5 → wf A → rz_B (d + 6) 124 43 [some (.ref 56), some (vI v1), some (vI v2), some (vI v3), some (vI v4), some (vI v5), none] [] A (none) A' (True) := by
  intro n
  induction n with
  | zero => intro v1 v2 v3 v4 v5 A r A' h; cases h
  | succ n ih =>
    intro v1 v2 v3 v4 v5 A r A' h hv1 hv2 hv3 hv4 hv5 hw
    rw [x124_compare_43] at h
    refine rz_B.go 3 (pc' := if decide (Int32.ofInt 20 < Int32.ofInt v5) = true then 67 else 50) (L' := [some (.ref 56), some (vI v1), some (vI v2), some (vI v3), some (vI v4), some (vI v5), none]) (S' := []) rfl ?_
    by_cases hc1 : v5 ≤ 20
    · have h := if_T h hc1
      refine rz_B.ifF (mt (lt32 (by decide) hv5).mp (Int.not_lt.mpr hc1)) ?_
      refine rz_B.go 6 (pc' := 58) (L' := [some (.ref 56), some (vI v1), some (vI v2), some (vI v3), some (vI v4), some (vI v5), none]) (S' := [vI v4, vI v3, vI v2, vI v1, vI v5, .ref 56]) rfl ?_
      obtain ⟨_, A2, hf2, h⟩ := rz_b_inv h
      obtain ⟨hg2, hr2, hw2⟩ := cx126_compareBy F (d := d + 4) hf2 hv5 hv1 hv2 hv3 hv4 hw
      refine rz_B.call (d := d + 5) (as := [.ref 56, vI v5, vI v1, vI v2, vI v3, vI v4]) (rest := []) (w := none) rfl hg2 ?_
      obtain ⟨hk3, h⟩ := rz_g32_inv h
      refine rz_B.iinc rfl (by decide) rfl (L' := [some (.ref 56), some (vI v1), some (vI v2), some (vI v3), some (vI v4), some (vI (v5 + 1)), none]) rfl ?_
      refine rz_B.go 1 (pc' := 43) (L' := [some (.ref 56), some (vI v1), some (vI v2), some (vI v3), some (vI v4), some (vI (v5 + 1)), none]) (S' := []) rfl ?_
      refine rz_B.more (rg_le_ok (L := [some (.ref 56), some (vI v1), some (vI v2), some (vI v3), some (vI v4), some (vI (v5 + 1)), none]) (by simp [rg_le])) ?_
      exact ih _ _ _ _ _ _ _ _ h hv1 hv2 hv3 hv4 hk3 hw2
    · have h := if_F h hc1
      refine rz_B.ifT ((lt32 (by decide) hv5).mpr (Int.not_le.mp hc1)) ?_
      refine rz_B.more (rg_le_ok (L := [some (.ref 56), none, none, none, none, none, none]) (by simp [rg_le])) ?_
      exact cx124_compare_67 F _ _ _ h hw
/-- RiverGauge$Rating.compare(IIII)V -/
def x124_compare (F : Nat) (a0 : Int) (a1 : Int) (a2 : Int) (a3 : Int) (A : rz_A) : Option (Unit × rz_A) :=
  rz_b (x125_rateAll F a0 a2 a3 A) fun _ A1 =>
  rz_g32 (a3 + 20) <|
  rz_b (x61_min F (a3 + 20) 9999 A1) fun r3 A3 =>
  rz_b (x125_rateAll F a1 a2 r3 A3) fun _ A4 =>
  x124_compare_43 F F a0 a1 a2 a3 0 (aL (aL (aI A4 56 14 (-1)) 56 15 0) 56 16 1)
theorem cx124_compare (F : Nat) {d : Nat} {a0 : Int} {a1 : Int} {a2 : Int} {a3 : Int} {A : rz_A} {r : Unit} {A' : rz_A} (h : x124_compare F a0 a1 a2 a3 A = some (r, A')) (ha0 : r32 a0) (ha1 : r32 a1) (ha2 : r32 a2) (ha3 : r32 a3) (hw : wf A) : rg_Rn (d + 6) 124 [.ref 56, vI a0, vI a1, vI a2, vI a3] (toM A) (none) (toM A') ∧ (True) ∧ wf A' := by
  show rz_B (d + 6) 124 0 [some (.ref 56), some (vI a0), some (vI a1), some (vI a2), some (vI a3), none, none] [] A (none) A' (True)
  unfold x124_compare at h
  refine rz_B.go 4 (pc' := 5) (L' := [some (.ref 56), some (vI a0), some (vI a1), some (vI a2), some (vI a3), none, none]) (S' := [vI a3, vI a2, vI a0, .ref 56]) rfl ?_
  obtain ⟨_, A1, hf1, h⟩ := rz_b_inv h
  obtain ⟨hg1, hr1, hw1⟩ := cx125_rateAll F (d := d + 0) hf1 ha0 ha2 ha3 hw
  refine rz_B.call (d := d + 5) (as := [.ref 56, vI a0, vI a2, vI a3]) (rest := []) (w := none) rfl hg1 ?_
  refine rz_B.go 5 (pc' := 15) (L' := [some (.ref 56), some (vI a0), some (vI a1), some (vI a2), some (vI a3), none, none]) (S' := [vI 20, vI a3, vI a2, vI a1, .ref 56]) rfl ?_
  obtain ⟨hk2, h⟩ := rz_g32_inv h
  refine rz_B.iadd rfl ?_
  refine rz_B.go 1 (pc' := 19) (L' := [some (.ref 56), some (vI a0), some (vI a1), some (vI a2), some (vI a3), none, none]) (S' := [vI 9999, vI (a3 + 20), vI a2, vI a1, .ref 56]) rfl ?_
  obtain ⟨r3, A3, hf3, h⟩ := rz_b_inv h
  obtain ⟨hg3, hr3, hw3⟩ := cx61_min F (d := d + 5) hf3 hk2 (by decide) hw1
  refine rz_B.call (d := d + 5) (as := [vI (a3 + 20), vI 9999]) (rest := [vI a2, vI a1, .ref 56]) (w := some (vI r3)) rfl hg3 ?_
  obtain ⟨_, A4, hf4, h⟩ := rz_b_inv h
  obtain ⟨hg4, hr4, hw4⟩ := cx125_rateAll F (d := d + 0) hf4 ha1 ha2 hr3 hw3
  refine rz_B.call (d := d + 5) (as := [.ref 56, vI a1, vI a2, vI r3]) (rest := []) (w := none) rfl hg4 ?_
  refine rz_B.put 3 (pc' := 30) (L' := [some (.ref 56), some (vI a0), some (vI a1), some (vI a2), some (vI a3), none, none]) (S' := []) (c := 56) (k := 14) (x := (-1)) rfl ?_
  have hw5 : wf (aI A4 56 14 (-1)) := wf_aI hw4 (by decide)
  refine rz_B.putL 3 (pc' := 35) (L' := [some (.ref 56), some (vI a0), some (vI a1), some (vI a2), some (vI a3), none, none]) (S' := []) (c := 56) (k := 15) (x := 0) rfl ?_
  have hw6 : wf (aL (aI A4 56 14 (-1)) 56 15 0) := wf_aL hw5 (by decide)
  refine rz_B.putL 3 (pc' := 40) (L' := [some (.ref 56), some (vI a0), some (vI a1), some (vI a2), some (vI a3), none, none]) (S' := []) (c := 56) (k := 16) (x := 1) rfl ?_
  have hw7 : wf (aL (aL (aI A4 56 14 (-1)) 56 15 0) 56 16 1) := wf_aL hw6 (by decide)
  refine rz_B.go 2 (pc' := 43) (L' := [some (.ref 56), some (vI a0), some (vI a1), some (vI a2), some (vI a3), some (vI 0), none]) (S' := []) rfl ?_
  refine rz_B.more (rg_le_ok (L := [some (.ref 56), some (vI a0), some (vI a1), some (vI a2), some (vI a3), some (vI 0), none]) (by simp [rg_le])) ?_
  exact cx124_compare_43 F F _ _ _ _ _ _ _ _ h ha0 ha1 ha2 ha3 (by decide) hw7
/-- RiverGauge.agree(IIIII)I -/
def x123_agree (F : Nat) (a0 : Int) (a1 : Int) (a2 : Int) (a3 : Int) (a4 : Int) (A : rz_A) : Option (Int × rz_A) :=
  rz_b (x5_has F a0 A) fun r1 A1 =>
  if r1 = 0 then
    rz_b (x1_refuse F (-1) A1) fun r3 A3 =>
    some (r3, A3)
  else
    rz_b (x5_has F a1 A1) fun r4 A4 =>
    if r4 = 0 then
      rz_b (x1_refuse F (-1) A4) fun r6 A6 =>
      some (r6, A6)
    else
      if 0 ≤ a4 then
        if 2 < a4 then
          rz_b (x1_refuse F (-2) A4) fun r9 A9 =>
          some (r9, A9)
        else
          if 0 ≤ a2 then
            if a3 < a2 then
              rz_b (x1_refuse F (-4) A4) fun r12 A12 =>
              some (r12, A12)
            else
              if a3 ≤ 9999 then
                rz_g32 (a3 - a2) <|
                if 300 ≤ (a3 - a2) then
                  rz_b (x1_refuse F (-6) A4) fun r16 A16 =>
                  some (r16, A16)
                else
                  rz_b (x20_see F (A4.1 0 16) A4) fun _ A17 =>
                  rz_b (x124_compare F a0 a1 a2 a3 A17) fun _ A18 =>
                  if (A18.1 56 14) < 0 then
                    rz_b (x1_refuse F (-5) A18) fun r20 A20 =>
                    some (r20, A20)
                  else
                    if a4 = 0 then
                      some ((A18.1 56 14), A18)
                    else
                      if a4 = 1 then
                        some ((rz_oN (A18.2 56 15)), A18)
                      else
                        some ((rz_oN (A18.2 56 16)), A18)
              else
                rz_b (x1_refuse F (-6) A4) fun r23 A23 =>
                some (r23, A23)
          else
            rz_b (x1_refuse F (-4) A4) fun r24 A24 =>
            some (r24, A24)
      else
        rz_b (x1_refuse F (-2) A4) fun r25 A25 =>
        some (r25, A25)
theorem cx123_agree (F : Nat) {d : Nat} {a0 : Int} {a1 : Int} {a2 : Int} {a3 : Int} {a4 : Int} {A : rz_A} {r : Int} {A' : rz_A} (h : x123_agree F a0 a1 a2 a3 a4 A = some (r, A')) (ha0 : r32 a0) (ha1 : r32 a1) (ha2 : r32 a2) (ha3 : r32 a3) (ha4 : r32 a4) (hw : wf A) : rg_Rn (d + 7) 123 [.ref 0, vI a0, vI a1, vI a2, vI a3, vI a4] (toM A) (some (vI r)) (toM A') ∧ (r32 r) ∧ wf A' := by
  show rz_B (d + 7) 123 0 [some (.ref 0), some (vI a0), some (vI a1), some (vI a2), some (vI a3), some (vI a4)] [] A (some (vI r)) A' (r32 r)
  unfold x123_agree at h
  refine rz_B.go 3 (pc' := 5) (L' := [some (.ref 0), some (vI a0), some (vI a1), some (vI a2), some (vI a3), some (vI a4)]) (S' := [vI a0, .ref 2]) rfl ?_
  obtain ⟨r1, A1, hf1, h⟩ := rz_b_inv h
  obtain ⟨hg1, hr1, hw1⟩ := cx5_has F (d := d + 6) hf1 ha0 hw
  refine rz_B.call (d := d + 6) (as := [.ref 2, vI a0]) (rest := []) (w := some (vI r1)) rfl hg1 ?_
  refine rz_B.go 1 (pc' := if decide (Int32.ofInt r1 = Int32.ofInt 0) = true then 22 else 11) (L' := [some (.ref 0), some (vI a0), some (vI a1), some (vI a2), some (vI a3), some (vI a4)]) (S' := []) rfl ?_
  by_cases hc2 : r1 = 0
  · have h := if_T h hc2
    refine rz_B.ifT ((eq32 hr1 (by decide)).mpr hc2) ?_
    refine rz_B.go 2 (pc' := 24) (L' := [some (.ref 0), some (vI a0), some (vI a1), some (vI a2), some (vI a3), some (vI a4)]) (S' := [vI (-1), .ref 0]) rfl ?_
    obtain ⟨r3, A3, hf3, h⟩ := rz_b_inv h
    obtain ⟨hg3, hr3, hw3⟩ := cx1_refuse F (d := d + 6) hf3 (by decide) hw1
    refine rz_B.call (d := d + 6) (as := [.ref 0, vI (-1)]) (rest := []) (w := some (vI r3)) rfl hg3 ?_
    cases h
    exact rz_B.ret rfl hr3 hw3
  · have h := if_F h hc2
    refine rz_B.ifF (mt (eq32 hr1 (by decide)).mp hc2) ?_
    refine rz_B.go 3 (pc' := 16) (L' := [some (.ref 0), some (vI a0), some (vI a1), some (vI a2), some (vI a3), some (vI a4)]) (S' := [vI a1, .ref 2]) rfl ?_
    obtain ⟨r4, A4, hf4, h⟩ := rz_b_inv h
    obtain ⟨hg4, hr4, hw4⟩ := cx5_has F (d := d + 6) hf4 ha1 hw1
    refine rz_B.call (d := d + 6) (as := [.ref 2, vI a1]) (rest := []) (w := some (vI r4)) rfl hg4 ?_
    refine rz_B.go 1 (pc' := if decide (¬ Int32.ofInt r4 = Int32.ofInt 0) = true then 28 else 22) (L' := [some (.ref 0), some (vI a0), some (vI a1), some (vI a2), some (vI a3), some (vI a4)]) (S' := []) rfl ?_
    by_cases hc5 : r4 = 0
    · have h := if_T h hc5
      refine rz_B.ifF (fun hn => hn ((eq32 hr4 (by decide)).mpr hc5)) ?_
      refine rz_B.go 2 (pc' := 24) (L' := [some (.ref 0), some (vI a0), some (vI a1), some (vI a2), some (vI a3), some (vI a4)]) (S' := [vI (-1), .ref 0]) rfl ?_
      obtain ⟨r6, A6, hf6, h⟩ := rz_b_inv h
      obtain ⟨hg6, hr6, hw6⟩ := cx1_refuse F (d := d + 6) hf6 (by decide) hw4
      refine rz_B.call (d := d + 6) (as := [.ref 0, vI (-1)]) (rest := []) (w := some (vI r6)) rfl hg6 ?_
      cases h
      exact rz_B.ret rfl hr6 hw6
    · have h := if_F h hc5
      refine rz_B.ifT (mt (eq32 hr4 (by decide)).mp hc5) ?_
      refine rz_B.go 2 (pc' := if decide (Int32.ofInt a4 < Int32.ofInt 0) = true then 39 else 33) (L' := [some (.ref 0), some (vI a0), some (vI a1), some (vI a2), some (vI a3), some (vI a4)]) (S' := []) rfl ?_
      by_cases hc7 : 0 ≤ a4
      · have h := if_T h hc7
        refine rz_B.ifF (mt (lt32 ha4 (by decide)).mp (Int.not_lt.mpr hc7)) ?_
        refine rz_B.go 3 (pc' := if decide (Int32.ofInt a4 ≤ Int32.ofInt 2) = true then 46 else 39) (L' := [some (.ref 0), some (vI a0), some (vI a1), some (vI a2), some (vI a3), some (vI a4)]) (S' := []) rfl ?_
        by_cases hc8 : 2 < a4
        · have h := if_T h hc8
          refine rz_B.ifF (mt (le32 ha4 (by decide)).mp (Int.not_le.mpr hc8)) ?_
          refine rz_B.go 2 (pc' := 42) (L' := [some (.ref 0), some (vI a0), some (vI a1), some (vI a2), some (vI a3), some (vI a4)]) (S' := [vI (-2), .ref 0]) rfl ?_
          obtain ⟨r9, A9, hf9, h⟩ := rz_b_inv h
          obtain ⟨hg9, hr9, hw9⟩ := cx1_refuse F (d := d + 6) hf9 (by decide) hw4
          refine rz_B.call (d := d + 6) (as := [.ref 0, vI (-2)]) (rest := []) (w := some (vI r9)) rfl hg9 ?_
          cases h
          exact rz_B.ret rfl hr9 hw9
        · have h := if_F h hc8
          refine rz_B.ifT ((le32 ha4 (by decide)).mpr (Int.not_lt.mp hc8)) ?_
          refine rz_B.go 2 (pc' := if decide (Int32.ofInt a2 < Int32.ofInt 0) = true then 56 else 50) (L' := [some (.ref 0), some (vI a0), some (vI a1), some (vI a2), some (vI a3), some (vI a4)]) (S' := []) rfl ?_
          by_cases hc10 : 0 ≤ a2
          · have h := if_T h hc10
            refine rz_B.ifF (mt (lt32 ha2 (by decide)).mp (Int.not_lt.mpr hc10)) ?_
            refine rz_B.go 3 (pc' := if decide (Int32.ofInt a2 ≤ Int32.ofInt a3) = true then 63 else 56) (L' := [some (.ref 0), some (vI a0), some (vI a1), some (vI a2), some (vI a3), some (vI a4)]) (S' := []) rfl ?_
            by_cases hc11 : a3 < a2
            · have h := if_T h hc11
              refine rz_B.ifF (mt (le32 ha2 ha3).mp (Int.not_le.mpr hc11)) ?_
              refine rz_B.go 2 (pc' := 59) (L' := [some (.ref 0), some (vI a0), some (vI a1), some (vI a2), some (vI a3), some (vI a4)]) (S' := [vI (-4), .ref 0]) rfl ?_
              obtain ⟨r12, A12, hf12, h⟩ := rz_b_inv h
              obtain ⟨hg12, hr12, hw12⟩ := cx1_refuse F (d := d + 6) hf12 (by decide) hw4
              refine rz_B.call (d := d + 6) (as := [.ref 0, vI (-4)]) (rest := []) (w := some (vI r12)) rfl hg12 ?_
              cases h
              exact rz_B.ret rfl hr12 hw12
            · have h := if_F h hc11
              refine rz_B.ifT ((le32 ha2 ha3).mpr (Int.not_lt.mp hc11)) ?_
              refine rz_B.go 3 (pc' := if decide (Int32.ofInt 9999 < Int32.ofInt a3) = true then 81 else 71) (L' := [some (.ref 0), some (vI a0), some (vI a1), some (vI a2), some (vI a3), some (vI a4)]) (S' := []) rfl ?_
              by_cases hc13 : a3 ≤ 9999
              · have h := if_T h hc13
                refine rz_B.ifF (mt (lt32 (by decide) ha3).mp (Int.not_lt.mpr hc13)) ?_
                refine rz_B.go 2 (pc' := 74) (L' := [some (.ref 0), some (vI a0), some (vI a1), some (vI a2), some (vI a3), some (vI a4)]) (S' := [vI a2, vI a3]) rfl ?_
                obtain ⟨hk14, h⟩ := rz_g32_inv h
                refine rz_B.isub rfl ?_
                refine rz_B.go 2 (pc' := if decide (Int32.ofInt (a3 - a2) < Int32.ofInt 300) = true then 88 else 81) (L' := [some (.ref 0), some (vI a0), some (vI a1), some (vI a2), some (vI a3), some (vI a4)]) (S' := []) rfl ?_
                by_cases hc15 : 300 ≤ (a3 - a2)
                · have h := if_T h hc15
                  refine rz_B.ifF (mt (lt32 hk14 (by decide)).mp (Int.not_lt.mpr hc15)) ?_
                  refine rz_B.go 2 (pc' := 84) (L' := [some (.ref 0), some (vI a0), some (vI a1), some (vI a2), some (vI a3), some (vI a4)]) (S' := [vI (-6), .ref 0]) rfl ?_
                  obtain ⟨r16, A16, hf16, h⟩ := rz_b_inv h
                  obtain ⟨hg16, hr16, hw16⟩ := cx1_refuse F (d := d + 6) hf16 (by decide) hw4
                  refine rz_B.call (d := d + 6) (as := [.ref 0, vI (-6)]) (rest := []) (w := some (vI r16)) rfl hg16 ?_
                  cases h
                  exact rz_B.ret rfl hr16 hw16
                · have h := if_F h hc15
                  refine rz_B.ifT ((lt32 hk14 (by decide)).mpr (Int.not_le.mp hc15)) ?_
                  refine rz_B.go 4 (pc' := 96) (L' := [some (.ref 0), some (vI a0), some (vI a1), some (vI a2), some (vI a3), some (vI a4)]) (S' := [vI (A4.1 0 16), .ref 51]) rfl ?_
                  obtain ⟨_, A17, hf17, h⟩ := rz_b_inv h
                  obtain ⟨hg17, hr17, hw17⟩ := cx20_see F (d := d + 1) hf17 (hw4 0 16).1 hw4
                  refine rz_B.call (d := d + 6) (as := [.ref 51, vI (A4.1 0 16)]) (rest := []) (w := none) rfl hg17 ?_
                  refine rz_B.go 6 (pc' := 108) (L' := [some (.ref 0), some (vI a0), some (vI a1), some (vI a2), some (vI a3), some (vI a4)]) (S' := [vI a3, vI a2, vI a1, vI a0, .ref 56]) rfl ?_
                  obtain ⟨_, A18, hf18, h⟩ := rz_b_inv h
                  obtain ⟨hg18, hr18, hw18⟩ := cx124_compare F (d := d + 0) hf18 ha0 ha1 ha2 ha3 hw17
                  refine rz_B.call (d := d + 6) (as := [.ref 56, vI a0, vI a1, vI a2, vI a3]) (rest := []) (w := none) rfl hg18 ?_
                  refine rz_B.go 4 (pc' := if decide (Int32.ofInt 0 ≤ Int32.ofInt (A18.1 56 14)) = true then 128 else 121) (L' := [some (.ref 0), some (vI a0), some (vI a1), some (vI a2), some (vI a3), some (vI a4)]) (S' := []) rfl ?_
                  by_cases hc19 : (A18.1 56 14) < 0
                  · have h := if_T h hc19
                    refine rz_B.ifF (mt (le32 (by decide) (hw18 56 14).1).mp (Int.not_le.mpr hc19)) ?_
                    refine rz_B.go 2 (pc' := 124) (L' := [some (.ref 0), some (vI a0), some (vI a1), some (vI a2), some (vI a3), some (vI a4)]) (S' := [vI (-5), .ref 0]) rfl ?_
                    obtain ⟨r20, A20, hf20, h⟩ := rz_b_inv h
                    obtain ⟨hg20, hr20, hw20⟩ := cx1_refuse F (d := d + 6) hf20 (by decide) hw18
                    refine rz_B.call (d := d + 6) (as := [.ref 0, vI (-5)]) (rest := []) (w := some (vI r20)) rfl hg20 ?_
                    cases h
                    exact rz_B.ret rfl hr20 hw20
                  · have h := if_F h hc19
                    refine rz_B.ifT ((le32 (by decide) (hw18 56 14).1).mpr (Int.not_lt.mp hc19)) ?_
                    refine rz_B.go 2 (pc' := if decide (¬ Int32.ofInt a4 = Int32.ofInt 0) = true then 141 else 133) (L' := [some (.ref 0), some (vI a0), some (vI a1), some (vI a2), some (vI a3), some (vI a4)]) (S' := []) rfl ?_
                    by_cases hc21 : a4 = 0
                    · have h := if_T h hc21
                      refine rz_B.ifF (fun hn => hn ((eq32 ha4 (by decide)).mpr hc21)) ?_
                      refine rz_B.go 3 (pc' := 140) (L' := [some (.ref 0), some (vI a0), some (vI a1), some (vI a2), some (vI a3), some (vI a4)]) (S' := [vI (A18.1 56 14)]) rfl ?_
                      cases h
                      exact rz_B.ret rfl (hw18 56 14).1 hw18
                    · have h := if_F h hc21
                      refine rz_B.ifT (mt (eq32 ha4 (by decide)).mp hc21) ?_
                      refine rz_B.go 3 (pc' := if decide (¬ Int32.ofInt a4 = Int32.ofInt 1) = true then 157 else 147) (L' := [some (.ref 0), some (vI a0), some (vI a1), some (vI a2), some (vI a3), some (vI a4)]) (S' := []) rfl ?_
                      by_cases hc22 : a4 = 1
                      · have h := if_T h hc22
                        refine rz_B.ifF (fun hn => hn ((eq32 ha4 (by decide)).mpr hc22)) ?_
                        refine rz_B.go 4 (pc' := 164) (L' := [some (.ref 0), some (vI a0), some (vI a1), some (vI a2), some (vI a3), some (vI a4)]) (S' := [vL (A18.2 56 15)]) rfl ?_
                        refine rz_B.l2n rfl ?_
                        cases h
                        exact rz_B.ret rfl r32_oN hw18
                      · have h := if_F h hc22
                        refine rz_B.ifT (mt (eq32 ha4 (by decide)).mp hc22) ?_
                        refine rz_B.go 3 (pc' := 164) (L' := [some (.ref 0), some (vI a0), some (vI a1), some (vI a2), some (vI a3), some (vI a4)]) (S' := [vL (A18.2 56 16)]) rfl ?_
                        refine rz_B.l2n rfl ?_
                        cases h
                        exact rz_B.ret rfl r32_oN hw18
              · have h := if_F h hc13
                refine rz_B.ifT ((lt32 (by decide) ha3).mpr (Int.not_le.mp hc13)) ?_
                refine rz_B.go 2 (pc' := 84) (L' := [some (.ref 0), some (vI a0), some (vI a1), some (vI a2), some (vI a3), some (vI a4)]) (S' := [vI (-6), .ref 0]) rfl ?_
                obtain ⟨r23, A23, hf23, h⟩ := rz_b_inv h
                obtain ⟨hg23, hr23, hw23⟩ := cx1_refuse F (d := d + 6) hf23 (by decide) hw4
                refine rz_B.call (d := d + 6) (as := [.ref 0, vI (-6)]) (rest := []) (w := some (vI r23)) rfl hg23 ?_
                cases h
                exact rz_B.ret rfl hr23 hw23
          · have h := if_F h hc10
            refine rz_B.ifT ((lt32 ha2 (by decide)).mpr (Int.not_le.mp hc10)) ?_
            refine rz_B.go 2 (pc' := 59) (L' := [some (.ref 0), some (vI a0), some (vI a1), some (vI a2), some (vI a3), some (vI a4)]) (S' := [vI (-4), .ref 0]) rfl ?_
            obtain ⟨r24, A24, hf24, h⟩ := rz_b_inv h
            obtain ⟨hg24, hr24, hw24⟩ := cx1_refuse F (d := d + 6) hf24 (by decide) hw4
            refine rz_B.call (d := d + 6) (as := [.ref 0, vI (-4)]) (rest := []) (w := some (vI r24)) rfl hg24 ?_
            cases h
            exact rz_B.ret rfl hr24 hw24
      · have h := if_F h hc7
        refine rz_B.ifT ((lt32 ha4 (by decide)).mpr (Int.not_le.mp hc7)) ?_
        refine rz_B.go 2 (pc' := 42) (L' := [some (.ref 0), some (vI a0), some (vI a1), some (vI a2), some (vI a3), some (vI a4)]) (S' := [vI (-2), .ref 0]) rfl ?_
        obtain ⟨r25, A25, hf25, h⟩ := rz_b_inv h
        obtain ⟨hg25, hr25, hw25⟩ := cx1_refuse F (d := d + 6) hf25 (by decide) hw4
        refine rz_B.call (d := d + 6) (as := [.ref 0, vI (-2)]) (rest := []) (w := some (vI r25)) rfl hg25 ?_
        cases h
        exact rz_B.ret rfl hr25 hw25
def x130_heightsBetween_26 (F : Nat) : Nat → Int → Int → Int → Int → Int → rz_A → Option (Int × rz_A)
  | 0, _, _, _, _, _, _ => none
  | n + 1, v2, v3, v4, v5, v6, A =>
    if v6 < (A.1 51 10) then
      rz_gx v6 300 <|
      if (A.1 53 (v6).toNat) ≤ v5 then
        if v2 < (A.1 54 (v6).toNat) then
          if (A.1 54 (v6).toNat) < v3 then
            rz_g32 (v4 + 1) <|
            rz_g32 (v6 + 1) <|
            x130_heightsBetween_26 F n v2 v3 (v4 + 1) v5 (v6 + 1) A
          else
            rz_g32 (v6 + 1) <|
            x130_heightsBetween_26 F n v2 v3 v4 v5 (v6 + 1) A
        else
          rz_g32 (v6 + 1) <|
          x130_heightsBetween_26 F n v2 v3 v4 v5 (v6 + 1) A
      else
        some (v4, A)
    else
      some (v4, A)
theorem cx130_heightsBetween_26 {d : Nat} (F : Nat) : ∀ (n : Nat) (v2 : Int) (v3 : Int) (v4 : Int) (v5 : Int) (v6 : Int) (A : rz_A) (r : Int) (A' : rz_A), x130_heightsBetween_26 F n v2 v3 v4 v5 v6 A = some (r, A') → r32 v2 → r32 v3 → r32 v4 → r32 v5 → r32 v6 → wf A → rz_B (d + 1) 130 26 [some (.ref 56), none, some (vI v2), some (vI v3), some (vI v4), some (vI v5), some (vI v6)] [] A (some (vI r)) A' (r32 r) := by
  intro n
  induction n with
  | zero => intro v2 v3 v4 v5 v6 A r A' h; cases h
  | succ n ih =>
    intro v2 v3 v4 v5 v6 A r A' h hv2 hv3 hv4 hv5 hv6 hw
    rw [x130_heightsBetween_26] at h
    refine rz_B.go 5 (pc' := if decide (Int32.ofInt (A.1 51 10) ≤ Int32.ofInt v6) = true then 90 else 38) (L' := [some (.ref 56), none, some (vI v2), some (vI v3), some (vI v4), some (vI v5), some (vI v6)]) (S' := []) rfl ?_
    by_cases hc1 : v6 < (A.1 51 10)
    · have h := if_T h hc1
      refine rz_B.ifF (mt (le32 (hw 51 10).1 hv6).mp (Int.not_le.mpr hc1)) ?_
      refine rz_B.go 4 (pc' := 47) (L' := [some (.ref 56), none, some (vI v2), some (vI v3), some (vI v4), some (vI v5), some (vI v6)]) (S' := [vI v6, .ref 53]) rfl ?_
      obtain ⟨hi2, hj3, h⟩ := rz_gx_inv h
      refine rz_B.iald rfl rfl hi2 hj3 (by decide) ?_
      refine rz_B.go 2 (pc' := if decide (Int32.ofInt v5 < Int32.ofInt (A.1 53 (v6).toNat)) = true then 90 else 53) (L' := [some (.ref 56), none, some (vI v2), some (vI v3), some (vI v4), some (vI v5), some (vI v6)]) (S' := []) rfl ?_
      by_cases hc4 : (A.1 53 (v6).toNat) ≤ v5
      · have h := if_T h hc4
        refine rz_B.ifF (mt (lt32 hv5 (hw 53 (v6).toNat).1).mp (Int.not_lt.mpr hc4)) ?_
        refine rz_B.go 4 (pc' := 62) (L' := [some (.ref 56), none, some (vI v2), some (vI v3), some (vI v4), some (vI v5), some (vI v6)]) (S' := [vI v6, .ref 54]) rfl ?_
        refine rz_B.iald rfl rfl hi2 hj3 (by decide) ?_
        refine rz_B.go 2 (pc' := if decide (Int32.ofInt (A.1 54 (v6).toNat) ≤ Int32.ofInt v2) = true then 84 else 67) (L' := [some (.ref 56), none, some (vI v2), some (vI v3), some (vI v4), some (vI v5), some (vI v6)]) (S' := []) rfl ?_
        by_cases hc5 : v2 < (A.1 54 (v6).toNat)
        · have h := if_T h hc5
          refine rz_B.ifF (mt (le32 (hw 54 (v6).toNat).1 hv2).mp (Int.not_le.mpr hc5)) ?_
          refine rz_B.go 4 (pc' := 76) (L' := [some (.ref 56), none, some (vI v2), some (vI v3), some (vI v4), some (vI v5), some (vI v6)]) (S' := [vI v6, .ref 54]) rfl ?_
          refine rz_B.iald rfl rfl hi2 hj3 (by decide) ?_
          refine rz_B.go 2 (pc' := if decide (Int32.ofInt v3 ≤ Int32.ofInt (A.1 54 (v6).toNat)) = true then 84 else 81) (L' := [some (.ref 56), none, some (vI v2), some (vI v3), some (vI v4), some (vI v5), some (vI v6)]) (S' := []) rfl ?_
          by_cases hc6 : (A.1 54 (v6).toNat) < v3
          · have h := if_T h hc6
            refine rz_B.ifF (mt (le32 hv3 (hw 54 (v6).toNat).1).mp (Int.not_le.mpr hc6)) ?_
            obtain ⟨hk7, h⟩ := rz_g32_inv h
            refine rz_B.iinc rfl (by decide) rfl (L' := [some (.ref 56), none, some (vI v2), some (vI v3), some (vI (v4 + 1)), some (vI v5), some (vI v6)]) rfl ?_
            obtain ⟨hk8, h⟩ := rz_g32_inv h
            refine rz_B.iinc rfl (by decide) rfl (L' := [some (.ref 56), none, some (vI v2), some (vI v3), some (vI (v4 + 1)), some (vI v5), some (vI (v6 + 1))]) rfl ?_
            refine rz_B.go 1 (pc' := 26) (L' := [some (.ref 56), none, some (vI v2), some (vI v3), some (vI (v4 + 1)), some (vI v5), some (vI (v6 + 1))]) (S' := []) rfl ?_
            refine rz_B.more (rg_le_ok (L := [some (.ref 56), none, some (vI v2), some (vI v3), some (vI (v4 + 1)), some (vI v5), some (vI (v6 + 1))]) (by simp [rg_le])) ?_
            exact ih _ _ _ _ _ _ _ _ h hv2 hv3 hk7 hv5 hk8 hw
          · have h := if_F h hc6
            refine rz_B.ifT ((le32 hv3 (hw 54 (v6).toNat).1).mpr (Int.not_lt.mp hc6)) ?_
            obtain ⟨hk9, h⟩ := rz_g32_inv h
            refine rz_B.iinc rfl (by decide) rfl (L' := [some (.ref 56), none, some (vI v2), some (vI v3), some (vI v4), some (vI v5), some (vI (v6 + 1))]) rfl ?_
            refine rz_B.go 1 (pc' := 26) (L' := [some (.ref 56), none, some (vI v2), some (vI v3), some (vI v4), some (vI v5), some (vI (v6 + 1))]) (S' := []) rfl ?_
            refine rz_B.more (rg_le_ok (L := [some (.ref 56), none, some (vI v2), some (vI v3), some (vI v4), some (vI v5), some (vI (v6 + 1))]) (by simp [rg_le])) ?_
            exact ih _ _ _ _ _ _ _ _ h hv2 hv3 hv4 hv5 hk9 hw
        · have h := if_F h hc5
          refine rz_B.ifT ((le32 (hw 54 (v6).toNat).1 hv2).mpr (Int.not_lt.mp hc5)) ?_
          obtain ⟨hk10, h⟩ := rz_g32_inv h
          refine rz_B.iinc rfl (by decide) rfl (L' := [some (.ref 56), none, some (vI v2), some (vI v3), some (vI v4), some (vI v5), some (vI (v6 + 1))]) rfl ?_
          refine rz_B.go 1 (pc' := 26) (L' := [some (.ref 56), none, some (vI v2), some (vI v3), some (vI v4), some (vI v5), some (vI (v6 + 1))]) (S' := []) rfl ?_
          refine rz_B.more (rg_le_ok (L := [some (.ref 56), none, some (vI v2), some (vI v3), some (vI v4), some (vI v5), some (vI (v6 + 1))]) (by simp [rg_le])) ?_
          exact ih _ _ _ _ _ _ _ _ h hv2 hv3 hv4 hv5 hk10 hw
      · have h := if_F h hc4
        refine rz_B.ifT ((lt32 hv5 (hw 53 (v6).toNat).1).mpr (Int.not_le.mp hc4)) ?_
        refine rz_B.go 1 (pc' := 92) (L' := [some (.ref 56), none, some (vI v2), some (vI v3), some (vI v4), some (vI v5), some (vI v6)]) (S' := [vI v4]) rfl ?_
        cases h
        exact rz_B.ret rfl hv4 hw
    · have h := if_F h hc1
      refine rz_B.ifT ((le32 (hw 51 10).1 hv6).mpr (Int.not_lt.mp hc1)) ?_
      refine rz_B.go 1 (pc' := 92) (L' := [some (.ref 56), none, some (vI v2), some (vI v3), some (vI v4), some (vI v5), some (vI v6)]) (S' := [vI v4]) rfl ?_
      cases h
      exact rz_B.ret rfl hv4 hw
/-- RiverGauge$Rating.heightsBetween(III)I -/
def x130_heightsBetween (F : Nat) (a0 : Int) (a1 : Int) (a2 : Int) (A : rz_A) : Option (Int × rz_A) :=
  rz_b (x14_keyOf F a0 9999 A) fun r1 A1 =>
  rz_b (x14_keyOf F a0 0 A1) fun r2 A2 =>
  rz_b (x33_firstFrom F r2 A2) fun r3 A3 =>
  x130_heightsBetween_26 F F a1 a2 0 r1 r3 A3
theorem cx130_heightsBetween (F : Nat) {d : Nat} {a0 : Int} {a1 : Int} {a2 : Int} {A : rz_A} {r : Int} {A' : rz_A} (h : x130_heightsBetween F a0 a1 a2 A = some (r, A')) (ha0 : r32 a0) (ha1 : r32 a1) (ha2 : r32 a2) (hw : wf A) : rg_Rn (d + 1) 130 [.ref 56, vI a0, vI a1, vI a2] (toM A) (some (vI r)) (toM A') ∧ (r32 r) ∧ wf A' := by
  show rz_B (d + 1) 130 0 [some (.ref 56), some (vI a0), some (vI a1), some (vI a2), none, none, none] [] A (some (vI r)) A' (r32 r)
  unfold x130_heightsBetween at h
  refine rz_B.go 4 (pc' := 7) (L' := [some (.ref 56), some (vI a0), some (vI a1), some (vI a2), some (vI 0), none, none]) (S' := [vI 9999, vI a0]) rfl ?_
  obtain ⟨r1, A1, hf1, h⟩ := rz_b_inv h
  obtain ⟨hg1, hr1, hw1⟩ := cx14_keyOf F (d := d + 0) hf1 ha0 (by decide) hw
  refine rz_B.call (d := d + 0) (as := [vI a0, vI 9999]) (rest := []) (w := some (vI r1)) rfl hg1 ?_
  refine rz_B.go 5 (pc' := 18) (L' := [some (.ref 56), some (vI a0), some (vI a1), some (vI a2), some (vI 0), some (vI r1), none]) (S' := [vI 0, vI a0, .ref 51]) rfl ?_
  obtain ⟨r2, A2, hf2, h⟩ := rz_b_inv h
  obtain ⟨hg2, hr2, hw2⟩ := cx14_keyOf F (d := d + 0) hf2 ha0 (by decide) hw1
  refine rz_B.call (d := d + 0) (as := [vI a0, vI 0]) (rest := [.ref 51]) (w := some (vI r2)) rfl hg2 ?_
  obtain ⟨r3, A3, hf3, h⟩ := rz_b_inv h
  obtain ⟨hg3, hr3, hw3⟩ := cx33_firstFrom F (d := d + 0) hf3 hr2 hw2
  refine rz_B.call (d := d + 0) (as := [.ref 51, vI r2]) (rest := []) (w := some (vI r3)) rfl hg3 ?_
  refine rz_B.go 1 (pc' := 26) (L' := [some (.ref 56), some (vI a0), some (vI a1), some (vI a2), some (vI 0), some (vI r1), some (vI r3)]) (S' := []) rfl ?_
  refine rz_B.more (rg_le_ok (L := [some (.ref 56), none, some (vI a1), some (vI a2), some (vI 0), some (vI r1), some (vI r3)]) (by simp [rg_le])) ?_
  exact cx130_heightsBetween_26 F F _ _ _ _ _ _ _ _ h ha1 ha2 (by decide) hr1 hr3 hw3
/-- java/lang/Math.floorDiv(II)I -/
def x131_floorDiv (F : Nat) (a0 : Int) (a1 : Int) (A : rz_A) : Option (Int × rz_A) :=
  rz_gn a1 <|
  rz_g32 (a0.tdiv a1) <|
  if (rz_oI fXor a0 a1) < 0 then
    rz_g32 ((a0.tdiv a1) * a1) <|
    if ((a0.tdiv a1) * a1) = a0 then
      some ((a0.tdiv a1), A)
    else
      rz_g32 ((a0.tdiv a1) - 1) <|
      some (((a0.tdiv a1) - 1), A)
  else
    some ((a0.tdiv a1), A)
theorem cx131_floorDiv (F : Nat) {d : Nat} {a0 : Int} {a1 : Int} {A : rz_A} {r : Int} {A' : rz_A} (h : x131_floorDiv F a0 a1 A = some (r, A')) (ha0 : r32 a0) (ha1 : r32 a1) (hw : wf A) : rg_Rn (d + 0) 131 [vI a0, vI a1] (toM A) (some (vI r)) (toM A') ∧ (r32 r) ∧ wf A' := by
  show rz_B (d + 0) 131 0 [some (vI a0), some (vI a1), none] [] A (some (vI r)) A' (r32 r)
  unfold x131_floorDiv at h
  refine rz_B.go 2 (pc' := 2) (L' := [some (vI a0), some (vI a1), none]) (S' := [vI a1, vI a0]) rfl ?_
  obtain ⟨hz1, h⟩ := rz_gn_inv h
  obtain ⟨hk2, h⟩ := rz_g32_inv h
  refine rz_B.idiv rfl ha0 ha1 hz1 ?_
  refine rz_B.go 3 (pc' := 6) (L' := [some (vI a0), some (vI a1), some (vI (a0.tdiv a1))]) (S' := [vI a1, vI a0]) rfl ?_
  refine rz_B.oI fXor rfl ?_
  refine rz_B.go 1 (pc' := if decide (Int32.ofInt 0 ≤ Int32.ofInt (rz_oI fXor a0 a1)) = true then 21 else 10) (L' := [some (vI a0), some (vI a1), some (vI (a0.tdiv a1))]) (S' := []) rfl ?_
  by_cases hc3 : (rz_oI fXor a0 a1) < 0
  · have h := if_T h hc3
    refine rz_B.ifF (mt (le32 (by decide) r32_oI).mp (Int.not_le.mpr hc3)) ?_
    refine rz_B.go 2 (pc' := 12) (L' := [some (vI a0), some (vI a1), some (vI (a0.tdiv a1))]) (S' := [vI a1, vI (a0.tdiv a1)]) rfl ?_
    obtain ⟨hk4, h⟩ := rz_g32_inv h
    refine rz_B.imul rfl ?_
    refine rz_B.go 2 (pc' := if decide (Int32.ofInt ((a0.tdiv a1) * a1) = Int32.ofInt a0) = true then 21 else 17) (L' := [some (vI a0), some (vI a1), some (vI (a0.tdiv a1))]) (S' := []) rfl ?_
    by_cases hc5 : ((a0.tdiv a1) * a1) = a0
    · have h := if_T h hc5
      refine rz_B.ifT ((eq32 hk4 ha0).mpr hc5) ?_
      refine rz_B.go 1 (pc' := 22) (L' := [some (vI a0), some (vI a1), some (vI (a0.tdiv a1))]) (S' := [vI (a0.tdiv a1)]) rfl ?_
      cases h
      exact rz_B.ret rfl hk2 hw
    · have h := if_F h hc5
      refine rz_B.ifF (mt (eq32 hk4 ha0).mp hc5) ?_
      refine rz_B.go 2 (pc' := 19) (L' := [some (vI a0), some (vI a1), some (vI (a0.tdiv a1))]) (S' := [vI 1, vI (a0.tdiv a1)]) rfl ?_
      obtain ⟨hk6, h⟩ := rz_g32_inv h
      refine rz_B.isub rfl ?_
      cases h
      exact rz_B.ret rfl hk6 hw
  · have h := if_F h hc3
    refine rz_B.ifT ((le32 (by decide) r32_oI).mpr (Int.not_lt.mp hc3)) ?_
    refine rz_B.go 1 (pc' := 22) (L' := [some (vI a0), some (vI a1), some (vI (a0.tdiv a1))]) (S' := [vI (a0.tdiv a1)]) rfl ?_
    cases h
    exact rz_B.ret rfl hk2 hw
def x129_worthMeasuring_10 (F : Nat) : Nat → Int → Int → Int → Int → rz_A → Option (Int × rz_A)
  | 0, _, _, _, _, _ => none
  | n + 1, v1, v2, v4, v5, A =>
    rz_g32 (v5 + 1) <|
    if (v5 + 1) < (A.1 57 0) then
      rz_gx v5 60 <|
      rz_gx (v5 + 1) 60 <|
      rz_g32 ((A.1 58 ((v5 + 1)).toNat) - (A.1 58 (v5).toNat)) <|
      rz_b (x130_heightsBetween F v1 (A.1 58 (v5).toNat) (A.1 58 ((v5 + 1)).toNat) A) fun r8 A8 =>
      rz_g64 (((A.1 58 ((v5 + 1)).toNat) - (A.1 58 (v5).toNat)) * r8) <|
      if v2 < (((A.1 58 ((v5 + 1)).toNat) - (A.1 58 (v5).toNat)) * r8) then
        rz_g32 ((A.1 58 (v5).toNat) + (A.1 58 ((v5 + 1)).toNat)) <|
        rz_b (x131_floorDiv F ((A.1 58 (v5).toNat) + (A.1 58 ((v5 + 1)).toNat)) 2 A8) fun r12 A12 =>
        x129_worthMeasuring_10 F n v1 (((A.1 58 ((v5 + 1)).toNat) - (A.1 58 (v5).toNat)) * r8) r12 (v5 + 1) A12
      else
        x129_worthMeasuring_10 F n v1 v2 v4 (v5 + 1) A8
    else
      some (v4, A)
theorem cx129_worthMeasuring_10 {d : Nat} (F : Nat) : ∀ (n : Nat) (v1 : Int) (v2 : Int) (v4 : Int) (v5 : Int) (A : rz_A) (r : Int) (A' : rz_A), x129_worthMeasuring_10 F n v1 v2 v4 v5 A = some (r, A') → r32 v1 → r64 v2 → r32 v4 → r32 v5 → wf A → rz_B (d + 2) 129 10 [some (.ref 56), some (vI v1), some (vL v2), none, some (vI v4), some (vI v5), none, none, none, none] [] A (some (vI r)) A' (r32 r) := by
  intro n
  induction n with
  | zero => intro v1 v2 v4 v5 A r A' h; cases h
  | succ n ih =>
    intro v1 v2 v4 v5 A r A' h hv1 hv2 hv4 hv5 hw
    rw [x129_worthMeasuring_10] at h
    refine rz_B.go 2 (pc' := 13) (L' := [some (.ref 56), some (vI v1), some (vL v2), none, some (vI v4), some (vI v5), none, none, none, none]) (S' := [vI 1, vI v5]) rfl ?_
    obtain ⟨hk1, h⟩ := rz_g32_inv h
    refine rz_B.iadd rfl ?_
    refine rz_B.go 4 (pc' := if decide (Int32.ofInt (A.1 57 0) ≤ Int32.ofInt (v5 + 1)) = true then 96 else 24) (L' := [some (.ref 56), some (vI v1), some (vL v2), none, some (vI v4), some (vI v5), none, none, none, none]) (S' := []) rfl ?_
    by_cases hc2 : (v5 + 1) < (A.1 57 0)
    · have h := if_T h hc2
      refine rz_B.ifF (mt (le32 (hw 57 0).1 hk1).mp (Int.not_le.mpr hc2)) ?_
      refine rz_B.go 4 (pc' := 33) (L' := [some (.ref 56), some (vI v1), some (vL v2), none, some (vI v4), some (vI v5), none, none, none, none]) (S' := [vI v5, .ref 58]) rfl ?_
      obtain ⟨hi3, hj4, h⟩ := rz_gx_inv h
      refine rz_B.iald rfl rfl hi3 hj4 (by decide) ?_
      refine rz_B.go 6 (pc' := 46) (L' := [some (.ref 56), some (vI v1), some (vL v2), none, some (vI v4), some (vI v5), some (vI (A.1 58 (v5).toNat)), none, none, none]) (S' := [vI 1, vI v5, .ref 58]) rfl ?_
      refine rz_B.iadd rfl ?_
      obtain ⟨hi5, hj6, h⟩ := rz_gx_inv h
      refine rz_B.iald rfl rfl hi5 hj6 (by decide) ?_
      refine rz_B.go 3 (pc' := 54) (L' := [some (.ref 56), some (vI v1), some (vL v2), none, some (vI v4), some (vI v5), some (vI (A.1 58 (v5).toNat)), some (vI (A.1 58 ((v5 + 1)).toNat)), none, none]) (S' := [vI (A.1 58 (v5).toNat), vI (A.1 58 ((v5 + 1)).toNat)]) rfl ?_
      obtain ⟨hk7, h⟩ := rz_g32_inv h
      refine rz_B.isub rfl ?_
      refine rz_B.i2l rfl hk7 ?_
      refine rz_B.go 4 (pc' := 62) (L' := [some (.ref 56), some (vI v1), some (vL v2), none, some (vI v4), some (vI v5), some (vI (A.1 58 (v5).toNat)), some (vI (A.1 58 ((v5 + 1)).toNat)), none, none]) (S' := [vI (A.1 58 ((v5 + 1)).toNat), vI (A.1 58 (v5).toNat), vI v1, .ref 56, vL ((A.1 58 ((v5 + 1)).toNat) - (A.1 58 (v5).toNat))]) rfl ?_
      obtain ⟨r8, A8, hf8, h⟩ := rz_b_inv h
      obtain ⟨hg8, hr8, hw8⟩ := cx130_heightsBetween F (d := d + 0) hf8 hv1 (hw 58 (v5).toNat).1 (hw 58 ((v5 + 1)).toNat).1 hw
      refine rz_B.call (d := d + 1) (as := [.ref 56, vI v1, vI (A.1 58 (v5).toNat), vI (A.1 58 ((v5 + 1)).toNat)]) (rest := [vL ((A.1 58 ((v5 + 1)).toNat) - (A.1 58 (v5).toNat))]) (w := some (vI r8)) rfl hg8 ?_
      refine rz_B.i2l rfl hr8 ?_
      obtain ⟨hk9, h⟩ := rz_g64_inv h
      refine rz_B.lmul rfl ?_
      refine rz_B.go 5 (pc' := if decide (lg_cmp (Int64.ofInt (((A.1 58 ((v5 + 1)).toNat) - (A.1 58 (v5).toNat)) * r8)) (Int64.ofInt v2) ≤ 0) = true then 90 else 76) (L' := [some (.ref 56), some (vI v1), some (vL v2), none, some (vI v4), some (vI v5), some (vI (A.1 58 (v5).toNat)), some (vI (A.1 58 ((v5 + 1)).toNat)), some (vL (((A.1 58 ((v5 + 1)).toNat) - (A.1 58 (v5).toNat)) * r8)), none]) (S' := []) rfl ?_
      by_cases hc10 : v2 < (((A.1 58 ((v5 + 1)).toNat) - (A.1 58 (v5).toNat)) * r8)
      · have h := if_T h hc10
        refine rz_B.ifF (mt (cmp_le hk9 hv2).mp (Int.not_le.mpr hc10)) ?_
        refine rz_B.go 4 (pc' := 83) (L' := [some (.ref 56), some (vI v1), some (vL (((A.1 58 ((v5 + 1)).toNat) - (A.1 58 (v5).toNat)) * r8)), none, some (vI v4), some (vI v5), some (vI (A.1 58 (v5).toNat)), some (vI (A.1 58 ((v5 + 1)).toNat)), some (vL (((A.1 58 ((v5 + 1)).toNat) - (A.1 58 (v5).toNat)) * r8)), none]) (S' := [vI (A.1 58 ((v5 + 1)).toNat), vI (A.1 58 (v5).toNat)]) rfl ?_
        obtain ⟨hk11, h⟩ := rz_g32_inv h
        refine rz_B.iadd rfl ?_
        refine rz_B.go 1 (pc' := 85) (L' := [some (.ref 56), some (vI v1), some (vL (((A.1 58 ((v5 + 1)).toNat) - (A.1 58 (v5).toNat)) * r8)), none, some (vI v4), some (vI v5), some (vI (A.1 58 (v5).toNat)), some (vI (A.1 58 ((v5 + 1)).toNat)), some (vL (((A.1 58 ((v5 + 1)).toNat) - (A.1 58 (v5).toNat)) * r8)), none]) (S' := [vI 2, vI ((A.1 58 (v5).toNat) + (A.1 58 ((v5 + 1)).toNat))]) rfl ?_
        obtain ⟨r12, A12, hf12, h⟩ := rz_b_inv h
        obtain ⟨hg12, hr12, hw12⟩ := cx131_floorDiv F (d := d + 1) hf12 hk11 (by decide) hw8
        refine rz_B.call (d := d + 1) (as := [vI ((A.1 58 (v5).toNat) + (A.1 58 ((v5 + 1)).toNat)), vI 2]) (rest := []) (w := some (vI r12)) rfl hg12 ?_
        refine rz_B.go 1 (pc' := 90) (L' := [some (.ref 56), some (vI v1), some (vL (((A.1 58 ((v5 + 1)).toNat) - (A.1 58 (v5).toNat)) * r8)), none, some (vI r12), some (vI v5), some (vI (A.1 58 (v5).toNat)), some (vI (A.1 58 ((v5 + 1)).toNat)), some (vL (((A.1 58 ((v5 + 1)).toNat) - (A.1 58 (v5).toNat)) * r8)), none]) (S' := []) rfl ?_
        refine rz_B.iinc rfl (by decide) rfl (L' := [some (.ref 56), some (vI v1), some (vL (((A.1 58 ((v5 + 1)).toNat) - (A.1 58 (v5).toNat)) * r8)), none, some (vI r12), some (vI (v5 + 1)), some (vI (A.1 58 (v5).toNat)), some (vI (A.1 58 ((v5 + 1)).toNat)), some (vL (((A.1 58 ((v5 + 1)).toNat) - (A.1 58 (v5).toNat)) * r8)), none]) rfl ?_
        refine rz_B.go 1 (pc' := 10) (L' := [some (.ref 56), some (vI v1), some (vL (((A.1 58 ((v5 + 1)).toNat) - (A.1 58 (v5).toNat)) * r8)), none, some (vI r12), some (vI (v5 + 1)), some (vI (A.1 58 (v5).toNat)), some (vI (A.1 58 ((v5 + 1)).toNat)), some (vL (((A.1 58 ((v5 + 1)).toNat) - (A.1 58 (v5).toNat)) * r8)), none]) (S' := []) rfl ?_
        refine rz_B.more (rg_le_ok (L := [some (.ref 56), some (vI v1), some (vL (((A.1 58 ((v5 + 1)).toNat) - (A.1 58 (v5).toNat)) * r8)), none, some (vI r12), some (vI (v5 + 1)), none, none, none, none]) (by simp [rg_le])) ?_
        exact ih _ _ _ _ _ _ _ h hv1 hk9 hr12 hk1 hw12
      · have h := if_F h hc10
        refine rz_B.ifT ((cmp_le hk9 hv2).mpr (Int.not_lt.mp hc10)) ?_
        refine rz_B.iinc rfl (by decide) rfl (L' := [some (.ref 56), some (vI v1), some (vL v2), none, some (vI v4), some (vI (v5 + 1)), some (vI (A.1 58 (v5).toNat)), some (vI (A.1 58 ((v5 + 1)).toNat)), some (vL (((A.1 58 ((v5 + 1)).toNat) - (A.1 58 (v5).toNat)) * r8)), none]) rfl ?_
        refine rz_B.go 1 (pc' := 10) (L' := [some (.ref 56), some (vI v1), some (vL v2), none, some (vI v4), some (vI (v5 + 1)), some (vI (A.1 58 (v5).toNat)), some (vI (A.1 58 ((v5 + 1)).toNat)), some (vL (((A.1 58 ((v5 + 1)).toNat) - (A.1 58 (v5).toNat)) * r8)), none]) (S' := []) rfl ?_
        refine rz_B.more (rg_le_ok (L := [some (.ref 56), some (vI v1), some (vL v2), none, some (vI v4), some (vI (v5 + 1)), none, none, none, none]) (by simp [rg_le])) ?_
        exact ih _ _ _ _ _ _ _ h hv1 hv2 hv4 hk1 hw8
    · have h := if_F h hc2
      refine rz_B.ifT ((le32 (hw 57 0).1 hk1).mpr (Int.not_lt.mp hc2)) ?_
      refine rz_B.go 1 (pc' := 98) (L' := [some (.ref 56), some (vI v1), some (vL v2), none, some (vI v4), some (vI v5), none, none, none, none]) (S' := [vI v4]) rfl ?_
      cases h
      exact rz_B.ret rfl hv4 hw
/-- RiverGauge$Rating.worthMeasuring(I)I -/
def x129_worthMeasuring (F : Nat) (a0 : Int) (A : rz_A) : Option (Int × rz_A) :=
  x129_worthMeasuring_10 F F a0 (-1) 0 0 A
theorem cx129_worthMeasuring (F : Nat) {d : Nat} {a0 : Int} {A : rz_A} {r : Int} {A' : rz_A} (h : x129_worthMeasuring F a0 A = some (r, A')) (ha0 : r32 a0) (hw : wf A) : rg_Rn (d + 2) 129 [.ref 56, vI a0] (toM A) (some (vI r)) (toM A') ∧ (r32 r) ∧ wf A' := by
  show rz_B (d + 2) 129 0 [some (.ref 56), some (vI a0), none, none, none, none, none, none, none, none] [] A (some (vI r)) A' (r32 r)
  unfold x129_worthMeasuring at h
  refine rz_B.go 6 (pc' := 10) (L' := [some (.ref 56), some (vI a0), some (vL (-1)), none, some (vI 0), some (vI 0), none, none, none, none]) (S' := []) rfl ?_
  refine rz_B.more (rg_le_ok (L := [some (.ref 56), some (vI a0), some (vL (-1)), none, some (vI 0), some (vI 0), none, none, none, none]) (by simp [rg_le])) ?_
  exact cx129_worthMeasuring_10 F F _ _ _ _ _ _ _ h ha0 (by decide) (by decide) (by decide) hw
/-- RiverGauge.next(I)I -/
def x128_next (F : Nat) (a0 : Int) (A : rz_A) : Option (Int × rz_A) :=
  rz_b (x5_has F a0 A) fun r1 A1 =>
  if r1 = 0 then
    rz_b (x10_refuseAsTold F (-1) A1) fun r3 A3 =>
    some (r3, A3)
  else
    rz_b (x20_see F (A1.1 0 16) A1) fun _ A4 =>
    rz_b (x72_draw F a0 0 9999 A4) fun _ A5 =>
    if (A5.1 57 0) < 2 then
      rz_b (x10_refuseAsTold F (-5) A5) fun r7 A7 =>
      some (r7, A7)
    else
      rz_b (x129_worthMeasuring F a0 A5) fun r8 A8 =>
      some (r8, A8)
theorem cx128_next (F : Nat) {d : Nat} {a0 : Int} {A : rz_A} {r : Int} {A' : rz_A} (h : x128_next F a0 A = some (r, A')) (ha0 : r32 a0) (hw : wf A) : rg_Rn (d + 6) 128 [.ref 0, vI a0] (toM A) (some (vI r)) (toM A') ∧ (r32 r) ∧ wf A' := by
  show rz_B (d + 6) 128 0 [some (.ref 0), some (vI a0)] [] A (some (vI r)) A' (r32 r)
  unfold x128_next at h
  refine rz_B.go 3 (pc' := 5) (L' := [some (.ref 0), some (vI a0)]) (S' := [vI a0, .ref 2]) rfl ?_
  obtain ⟨r1, A1, hf1, h⟩ := rz_b_inv h
  obtain ⟨hg1, hr1, hw1⟩ := cx5_has F (d := d + 5) hf1 ha0 hw
  refine rz_B.call (d := d + 5) (as := [.ref 2, vI a0]) (rest := []) (w := some (vI r1)) rfl hg1 ?_
  refine rz_B.go 1 (pc' := if decide (¬ Int32.ofInt r1 = Int32.ofInt 0) = true then 17 else 11) (L' := [some (.ref 0), some (vI a0)]) (S' := []) rfl ?_
  by_cases hc2 : r1 = 0
  · have h := if_T h hc2
    refine rz_B.ifF (fun hn => hn ((eq32 hr1 (by decide)).mpr hc2)) ?_
    refine rz_B.go 2 (pc' := 13) (L' := [some (.ref 0), some (vI a0)]) (S' := [vI (-1), .ref 0]) rfl ?_
    obtain ⟨r3, A3, hf3, h⟩ := rz_b_inv h
    obtain ⟨hg3, hr3, hw3⟩ := cx10_refuseAsTold F (d := d + 4) hf3 (by decide) hw1
    refine rz_B.call (d := d + 5) (as := [.ref 0, vI (-1)]) (rest := []) (w := some (vI r3)) rfl hg3 ?_
    cases h
    exact rz_B.ret rfl hr3 hw3
  · have h := if_F h hc2
    refine rz_B.ifT (mt (eq32 hr1 (by decide)).mp hc2) ?_
    refine rz_B.go 4 (pc' := 25) (L' := [some (.ref 0), some (vI a0)]) (S' := [vI (A1.1 0 16), .ref 51]) rfl ?_
    obtain ⟨_, A4, hf4, h⟩ := rz_b_inv h
    obtain ⟨hg4, hr4, hw4⟩ := cx20_see F (d := d + 0) hf4 (hw1 0 16).1 hw1
    refine rz_B.call (d := d + 5) (as := [.ref 51, vI (A1.1 0 16)]) (rest := []) (w := none) rfl hg4 ?_
    refine rz_B.go 5 (pc' := 37) (L' := [some (.ref 0), some (vI a0)]) (S' := [vI 9999, vI 0, vI a0, .ref 56]) rfl ?_
    obtain ⟨_, A5, hf5, h⟩ := rz_b_inv h
    obtain ⟨hg5, hr5, hw5⟩ := cx72_draw F (d := d + 2) hf5 ha0 (by decide) (by decide) hw4
    refine rz_B.call (d := d + 5) (as := [.ref 56, vI a0, vI 0, vI 9999]) (rest := []) (w := none) rfl hg5 ?_
    refine rz_B.go 6 (pc' := if decide (Int32.ofInt 2 ≤ Int32.ofInt (A5.1 57 0)) = true then 61 else 54) (L' := [some (.ref 0), some (vI a0)]) (S' := []) rfl ?_
    by_cases hc6 : (A5.1 57 0) < 2
    · have h := if_T h hc6
      refine rz_B.ifF (mt (le32 (by decide) (hw5 57 0).1).mp (Int.not_le.mpr hc6)) ?_
      refine rz_B.go 2 (pc' := 57) (L' := [some (.ref 0), some (vI a0)]) (S' := [vI (-5), .ref 0]) rfl ?_
      obtain ⟨r7, A7, hf7, h⟩ := rz_b_inv h
      obtain ⟨hg7, hr7, hw7⟩ := cx10_refuseAsTold F (d := d + 4) hf7 (by decide) hw5
      refine rz_B.call (d := d + 5) (as := [.ref 0, vI (-5)]) (rest := []) (w := some (vI r7)) rfl hg7 ?_
      cases h
      exact rz_B.ret rfl hr7 hw7
    · have h := if_F h hc6
      refine rz_B.ifT ((le32 (by decide) (hw5 57 0).1).mpr (Int.not_lt.mp hc6)) ?_
      refine rz_B.go 3 (pc' := 66) (L' := [some (.ref 0), some (vI a0)]) (S' := [vI a0, .ref 56]) rfl ?_
      obtain ⟨r8, A8, hf8, h⟩ := rz_b_inv h
      obtain ⟨hg8, hr8, hw8⟩ := cx129_worthMeasuring F (d := d + 3) hf8 ha0 hw5
      refine rz_B.call (d := d + 5) (as := [.ref 56, vI a0]) (rest := []) (w := some (vI r8)) rfl hg8 ?_
      cases h
      exact rz_B.ret rfl hr8 hw8
/-- RiverGauge$Covers.isOn(III)Z -/
def x134_isOn (F : Nat) (a0 : Int) (a1 : Int) (a2 : Int) (A : rz_A) : Option (Int × rz_A) :=
  rz_b (x88_greatest F 0 a0 a1 a2 A) fun r1 A1 =>
  if r1 < 0 then
    rz_b (x88_greatest F 1 a0 a1 a2 A1) fun r3 A3 =>
    if 0 ≤ r3 then
      some (1, A3)
    else
      some (0, A3)
  else
    some (1, A1)
theorem cx134_isOn (F : Nat) {d : Nat} {a0 : Int} {a1 : Int} {a2 : Int} {A : rz_A} {r : Int} {A' : rz_A} (h : x134_isOn F a0 a1 a2 A = some (r, A')) (ha0 : r32 a0) (ha1 : r32 a1) (ha2 : r32 a2) (hw : wf A) : rg_Rn (d + 3) 134 [.ref 33, vI a0, vI a1, vI a2] (toM A) (some (vI r)) (toM A') ∧ (r32 r) ∧ wf A' := by
  show rz_B (d + 3) 134 0 [some (.ref 33), some (vI a0), some (vI a1), some (vI a2)] [] A (some (vI r)) A' (r32 r)
  unfold x134_isOn at h
  refine rz_B.go 5 (pc' := 5) (L' := [some (.ref 33), some (vI a0), some (vI a1), some (vI a2)]) (S' := [vI a2, vI a1, vI a0, vI 0, .ref 33]) rfl ?_
  obtain ⟨r1, A1, hf1, h⟩ := rz_b_inv h
  obtain ⟨hg1, hr1, hw1⟩ := cx88_greatest F (d := d + 0) hf1 (by decide) ha0 ha1 ha2 hw
  refine rz_B.call (d := d + 2) (as := [.ref 33, vI 0, vI a0, vI a1, vI a2]) (rest := []) (w := some (vI r1)) rfl hg1 ?_
  refine rz_B.go 1 (pc' := if decide (Int32.ofInt 0 ≤ Int32.ofInt r1) = true then 22 else 11) (L' := [some (.ref 33), some (vI a0), some (vI a1), some (vI a2)]) (S' := []) rfl ?_
  by_cases hc2 : r1 < 0
  · have h := if_T h hc2
    refine rz_B.ifF (mt (le32 (by decide) hr1).mp (Int.not_le.mpr hc2)) ?_
    refine rz_B.go 5 (pc' := 16) (L' := [some (.ref 33), some (vI a0), some (vI a1), some (vI a2)]) (S' := [vI a2, vI a1, vI a0, vI 1, .ref 33]) rfl ?_
    obtain ⟨r3, A3, hf3, h⟩ := rz_b_inv h
    obtain ⟨hg3, hr3, hw3⟩ := cx88_greatest F (d := d + 0) hf3 (by decide) ha0 ha1 ha2 hw1
    refine rz_B.call (d := d + 2) (as := [.ref 33, vI 1, vI a0, vI a1, vI a2]) (rest := []) (w := some (vI r3)) rfl hg3 ?_
    refine rz_B.go 1 (pc' := if decide (Int32.ofInt r3 < Int32.ofInt 0) = true then 26 else 22) (L' := [some (.ref 33), some (vI a0), some (vI a1), some (vI a2)]) (S' := []) rfl ?_
    by_cases hc4 : 0 ≤ r3
    · have h := if_T h hc4
      refine rz_B.ifF (mt (lt32 hr3 (by decide)).mp (Int.not_lt.mpr hc4)) ?_
      refine rz_B.go 2 (pc' := 27) (L' := [some (.ref 33), some (vI a0), some (vI a1), some (vI a2)]) (S' := [vI 1]) rfl ?_
      cases h
      exact rz_B.ret rfl (by decide) hw3
    · have h := if_F h hc4
      refine rz_B.ifT ((lt32 hr3 (by decide)).mpr (Int.not_le.mp hc4)) ?_
      refine rz_B.go 1 (pc' := 27) (L' := [some (.ref 33), some (vI a0), some (vI a1), some (vI a2)]) (S' := [vI 0]) rfl ?_
      cases h
      exact rz_B.ret rfl (by decide) hw3
  · have h := if_F h hc2
    refine rz_B.ifT ((le32 (by decide) hr1).mpr (Int.not_lt.mp hc2)) ?_
    refine rz_B.go 2 (pc' := 27) (L' := [some (.ref 33), some (vI a0), some (vI a1), some (vI a2)]) (S' := [vI 1]) rfl ?_
    cases h
    exact rz_B.ret rfl (by decide) hw1
/-- RiverGauge.publishLets(II)Z -/
def x133_publishLets (F : Nat) (a0 : Int) (a1 : Int) (A : rz_A) : Option (Int × rz_A) :=
  rz_b (x87_timeOf F a0 A) fun r1 A1 =>
  rz_g32 (r1.tdiv 96) <|
  rz_b (x22_inForce F 2 (r1.tdiv 96) (A1.1 0 16) A1) fun r3 A3 =>
  if r3 < 0 then
    some (1, A3)
  else
    rz_b (x23_lettersOf F r1 A3) fun _ A5 =>
    rz_b (x91_howWrong F a0 (aI A5 49 9 a1)) fun r7 A7 =>
    rz_b (x92_beyond F a0 (aI A7 49 10 r7)) fun r9 A9 =>
    rz_b (x86_postOf F a0 (aI A9 49 11 r9)) fun r11 A11 =>
    rz_b (x134_isOn F r11 r1 (A11.1 0 16) A11) fun r12 A12 =>
    if r12 = 0 then
      rz_b (x25_holds F r3 (aI A12 49 12 0)) fun r15 A15 =>
      rz_gz r15 <|
      some (r15, A15)
    else
      rz_b (x25_holds F r3 (aI A12 49 12 1)) fun r18 A18 =>
      rz_gz r18 <|
      some (r18, A18)
theorem cx133_publishLets (F : Nat) {d : Nat} {a0 : Int} {a1 : Int} {A : rz_A} {r : Int} {A' : rz_A} (h : x133_publishLets F a0 a1 A = some (r, A')) (ha0 : r32 a0) (ha1 : r32 a1) (hw : wf A) : rg_Rn (d + 4) 133 [.ref 0, vI a0, vI a1] (toM A) (some (vI r)) (toM A') ∧ (r32 r) ∧ wf A' := by
  show rz_B (d + 4) 133 0 [some (.ref 0), some (vI a0), some (vI a1), none, none, none] [] A (some (vI r)) A' (r32 r)
  unfold x133_publishLets at h
  refine rz_B.go 3 (pc' := 5) (L' := [some (.ref 0), some (vI a0), some (vI a1), none, none, none]) (S' := [vI a0, .ref 51]) rfl ?_
  obtain ⟨r1, A1, hf1, h⟩ := rz_b_inv h
  obtain ⟨hg1, hr1, hw1⟩ := cx87_timeOf F (d := d + 3) hf1 ha0 hw
  refine rz_B.call (d := d + 3) (as := [.ref 51, vI a0]) (rest := []) (w := some (vI r1)) rfl hg1 ?_
  refine rz_B.go 6 (pc' := 17) (L' := [some (.ref 0), some (vI a0), some (vI a1), some (vI r1), none, none]) (S' := [vI 96, vI r1, vI 2, .ref 43]) rfl ?_
  obtain ⟨hk2, h⟩ := rz_g32_inv h
  refine rz_B.idiv rfl hr1 (by decide) (by decide) ?_
  refine rz_B.go 2 (pc' := 22) (L' := [some (.ref 0), some (vI a0), some (vI a1), some (vI r1), none, none]) (S' := [vI (A1.1 0 16), vI (r1.tdiv 96), vI 2, .ref 43]) rfl ?_
  obtain ⟨r3, A3, hf3, h⟩ := rz_b_inv h
  obtain ⟨hg3, hr3, hw3⟩ := cx22_inForce F (d := d + 3) hf3 (by decide) hk2 (hw1 0 16).1 hw1
  refine rz_B.call (d := d + 3) (as := [.ref 43, vI 2, vI (r1.tdiv 96), vI (A1.1 0 16)]) (rest := []) (w := some (vI r3)) rfl hg3 ?_
  refine rz_B.go 3 (pc' := if decide (Int32.ofInt 0 ≤ Int32.ofInt r3) = true then 34 else 32) (L' := [some (.ref 0), some (vI a0), some (vI a1), some (vI r1), some (vI r3), none]) (S' := []) rfl ?_
  by_cases hc4 : r3 < 0
  · have h := if_T h hc4
    refine rz_B.ifF (mt (le32 (by decide) hr3).mp (Int.not_le.mpr hc4)) ?_
    refine rz_B.go 1 (pc' := 33) (L' := [some (.ref 0), some (vI a0), some (vI a1), some (vI r1), some (vI r3), none]) (S' := [vI 1]) rfl ?_
    cases h
    exact rz_B.ret rfl (by decide) hw3
  · have h := if_F h hc4
    refine rz_B.ifT ((le32 (by decide) hr3).mpr (Int.not_lt.mp hc4)) ?_
    refine rz_B.go 3 (pc' := 39) (L' := [some (.ref 0), some (vI a0), some (vI a1), some (vI r1), some (vI r3), none]) (S' := [vI r1, .ref 43]) rfl ?_
    obtain ⟨_, A5, hf5, h⟩ := rz_b_inv h
    obtain ⟨hg5, hr5, hw5⟩ := cx23_lettersOf F (d := d + 3) hf5 hr1 hw3
    refine rz_B.call (d := d + 3) (as := [.ref 43, vI r1]) (rest := []) (w := some (.ref 49)) rfl hg5 ?_
    refine rz_B.go 4 (pc' := 49) (L' := [some (.ref 0), some (vI a0), some (vI a1), some (vI r1), some (vI r3), some (.ref 49)]) (S' := [vI a1, vI 9, .ref 49]) rfl ?_
    refine rz_B.iast rfl rfl (by decide) (by decide) (by decide) ?_
    have hw6 : wf (aI A5 49 9 a1) := wf_aI hw5 ha1
    refine rz_B.go 5 (pc' := 59) (L' := [some (.ref 0), some (vI a0), some (vI a1), some (vI r1), some (vI r3), some (.ref 49)]) (S' := [vI a0, .ref 56, vI 10, .ref 49]) rfl ?_
    obtain ⟨r7, A7, hf7, h⟩ := rz_b_inv h
    obtain ⟨hg7, hr7, hw7⟩ := cx91_howWrong F (d := d + 1) hf7 ha0 hw6
    refine rz_B.call (d := d + 3) (as := [.ref 56, vI a0]) (rest := [vI 10, .ref 49]) (w := some (vI r7)) rfl hg7 ?_
    refine rz_B.iast rfl rfl (by decide) (by decide) (by decide) ?_
    have hw8 : wf (aI A7 49 10 r7) := wf_aI hw7 hr7
    refine rz_B.go 5 (pc' := 72) (L' := [some (.ref 0), some (vI a0), some (vI a1), some (vI r1), some (vI r3), some (.ref 49)]) (S' := [vI a0, .ref 56, vI 11, .ref 49]) rfl ?_
    obtain ⟨r9, A9, hf9, h⟩ := rz_b_inv h
    obtain ⟨hg9, hr9, hw9⟩ := cx92_beyond F (d := d + 2) hf9 ha0 hw8
    refine rz_B.call (d := d + 3) (as := [.ref 56, vI a0]) (rest := [vI 11, .ref 49]) (w := some (vI r9)) rfl hg9 ?_
    refine rz_B.iast rfl rfl (by decide) (by decide) (by decide) ?_
    have hw10 : wf (aI A9 49 11 r9) := wf_aI hw9 hr9
    refine rz_B.go 7 (pc' := 89) (L' := [some (.ref 0), some (vI a0), some (vI a1), some (vI r1), some (vI r3), some (.ref 49)]) (S' := [vI a0, .ref 51, .ref 33, vI 12, .ref 49]) rfl ?_
    obtain ⟨r11, A11, hf11, h⟩ := rz_b_inv h
    obtain ⟨hg11, hr11, hw11⟩ := cx86_postOf F (d := d + 3) hf11 ha0 hw10
    refine rz_B.call (d := d + 3) (as := [.ref 51, vI a0]) (rest := [.ref 33, vI 12, .ref 49]) (w := some (vI r11)) rfl hg11 ?_
    refine rz_B.go 3 (pc' := 97) (L' := [some (.ref 0), some (vI a0), some (vI a1), some (vI r1), some (vI r3), some (.ref 49)]) (S' := [vI (A11.1 0 16), vI r1, vI r11, .ref 33, vI 12, .ref 49]) rfl ?_
    obtain ⟨r12, A12, hf12, h⟩ := rz_b_inv h
    obtain ⟨hg12, hr12, hw12⟩ := cx134_isOn F (d := d + 0) hf12 hr11 hr1 (hw11 0 16).1 hw11
    refine rz_B.call (d := d + 3) (as := [.ref 33, vI r11, vI r1, vI (A11.1 0 16)]) (rest := [vI 12, .ref 49]) (w := some (vI r12)) rfl hg12 ?_
    refine rz_B.go 1 (pc' := if decide (Int32.ofInt r12 = Int32.ofInt 0) = true then 107 else 103) (L' := [some (.ref 0), some (vI a0), some (vI a1), some (vI r1), some (vI r3), some (.ref 49)]) (S' := [vI 12, .ref 49]) rfl ?_
    by_cases hc13 : r12 = 0
    · have h := if_T h hc13
      refine rz_B.ifT ((eq32 hr12 (by decide)).mpr hc13) ?_
      refine rz_B.go 1 (pc' := 108) (L' := [some (.ref 0), some (vI a0), some (vI a1), some (vI r1), some (vI r3), some (.ref 49)]) (S' := [vI 0, vI 12, .ref 49]) rfl ?_
      refine rz_B.iast rfl rfl (by decide) (by decide) (by decide) ?_
      have hw14 : wf (aI A12 49 12 0) := wf_aI hw12 (by decide)
      refine rz_B.go 3 (pc' := 115) (L' := [some (.ref 0), some (vI a0), some (vI a1), some (vI r1), some (vI r3), some (.ref 49)]) (S' := [vI r3, .ref 43]) rfl ?_
      obtain ⟨r15, A15, hf15, h⟩ := rz_b_inv h
      obtain ⟨hg15, hr15, hw15⟩ := cx25_holds F (d := d + 0) hf15 hr3 hw14
      refine rz_B.call (d := d + 3) (as := [.ref 43, vI r3]) (rest := []) (w := some (vI r15)) rfl hg15 ?_
      obtain ⟨hb16, h⟩ := rz_gz_inv h
      cases h
      exact rz_B.zret rfl rfl hb16 hr15 hw15
    · have h := if_F h hc13
      refine rz_B.ifF (mt (eq32 hr12 (by decide)).mp hc13) ?_
      refine rz_B.go 2 (pc' := 108) (L' := [some (.ref 0), some (vI a0), some (vI a1), some (vI r1), some (vI r3), some (.ref 49)]) (S' := [vI 1, vI 12, .ref 49]) rfl ?_
      refine rz_B.iast rfl rfl (by decide) (by decide) (by decide) ?_
      have hw17 : wf (aI A12 49 12 1) := wf_aI hw12 (by decide)
      refine rz_B.go 3 (pc' := 115) (L' := [some (.ref 0), some (vI a0), some (vI a1), some (vI r1), some (vI r3), some (.ref 49)]) (S' := [vI r3, .ref 43]) rfl ?_
      obtain ⟨r18, A18, hf18, h⟩ := rz_b_inv h
      obtain ⟨hg18, hr18, hw18⟩ := cx25_holds F (d := d + 0) hf18 hr3 hw17
      refine rz_B.call (d := d + 3) (as := [.ref 43, vI r3]) (rest := []) (w := some (vI r18)) rfl hg18 ?_
      obtain ⟨hb19, h⟩ := rz_gz_inv h
      cases h
      exact rz_B.zret rfl rfl hb19 hr18 hw18
/-- RiverGauge.publish(II)I -/
def x132_publish (F : Nat) (a0 : Int) (a1 : Int) (A : rz_A) : Option (Int × rz_A) :=
  rz_b (x5_has F a0 A) fun r1 A1 =>
  if r1 = 0 then
    rz_b (x1_refuse F (-1) A1) fun r3 A3 =>
    some (r3, A3)
  else
    if a1 < 0 then
      rz_b (x1_refuse F (-4) A1) fun r5 A5 =>
      some (r5, A5)
    else
      if a1 ≤ 9999 then
        if 40 ≤ (A1.1 0 14) then
          rz_b (x1_refuse F (-6) A1) fun r8 A8 =>
          some (r8, A8)
        else
          rz_b (x20_see F (A1.1 0 16) A1) fun _ A9 =>
          rz_b (x32_find F a0 a1 A9) fun r10 A10 =>
          rz_b (x85_rate F r10 A10) fun r11 A11 =>
          if r11 < 0 then
            rz_b (x1_refuse F (-5) A11) fun r13 A13 =>
            some (r13, A13)
          else
            rz_b (x133_publishLets F r10 r11 A11) fun r14 A14 =>
            if r14 = 0 then
              rz_b (x1_refuse F (-3) A14) fun r16 A16 =>
              some (r16, A16)
            else
              rz_gx (A14.1 0 14) 40 <|
              rz_g32 ((A14.1 0 14) + 1) <|
              rz_g32 (((A14.1 0 14) + 1) - 1) <|
              some ((((A14.1 0 14) + 1) - 1), (aI (aI (aI (aI A14 88 ((A14.1 0 14)).toNat a0) 89 ((A14.1 0 14)).toNat a1) 90 ((A14.1 0 14)).toNat r11) 0 14 ((A14.1 0 14) + 1)))
      else
        rz_b (x1_refuse F (-6) A1) fun r25 A25 =>
        some (r25, A25)
theorem cx132_publish (F : Nat) {d : Nat} {a0 : Int} {a1 : Int} {A : rz_A} {r : Int} {A' : rz_A} (h : x132_publish F a0 a1 A = some (r, A')) (ha0 : r32 a0) (ha1 : r32 a1) (hw : wf A) : rg_Rn (d + 6) 132 [.ref 0, vI a0, vI a1] (toM A) (some (vI r)) (toM A') ∧ (r32 r) ∧ wf A' := by
  show rz_B (d + 6) 132 0 [some (.ref 0), some (vI a0), some (vI a1), none, none] [] A (some (vI r)) A' (r32 r)
  unfold x132_publish at h
  refine rz_B.go 3 (pc' := 5) (L' := [some (.ref 0), some (vI a0), some (vI a1), none, none]) (S' := [vI a0, .ref 2]) rfl ?_
  obtain ⟨r1, A1, hf1, h⟩ := rz_b_inv h
  obtain ⟨hg1, hr1, hw1⟩ := cx5_has F (d := d + 5) hf1 ha0 hw
  refine rz_B.call (d := d + 5) (as := [.ref 2, vI a0]) (rest := []) (w := some (vI r1)) rfl hg1 ?_
  refine rz_B.go 1 (pc' := if decide (¬ Int32.ofInt r1 = Int32.ofInt 0) = true then 17 else 11) (L' := [some (.ref 0), some (vI a0), some (vI a1), none, none]) (S' := []) rfl ?_
  by_cases hc2 : r1 = 0
  · have h := if_T h hc2
    refine rz_B.ifF (fun hn => hn ((eq32 hr1 (by decide)).mpr hc2)) ?_
    refine rz_B.go 2 (pc' := 13) (L' := [some (.ref 0), some (vI a0), some (vI a1), none, none]) (S' := [vI (-1), .ref 0]) rfl ?_
    obtain ⟨r3, A3, hf3, h⟩ := rz_b_inv h
    obtain ⟨hg3, hr3, hw3⟩ := cx1_refuse F (d := d + 5) hf3 (by decide) hw1
    refine rz_B.call (d := d + 5) (as := [.ref 0, vI (-1)]) (rest := []) (w := some (vI r3)) rfl hg3 ?_
    cases h
    exact rz_B.ret rfl hr3 hw3
  · have h := if_F h hc2
    refine rz_B.ifT (mt (eq32 hr1 (by decide)).mp hc2) ?_
    refine rz_B.go 2 (pc' := if decide (Int32.ofInt 0 ≤ Int32.ofInt a1) = true then 28 else 21) (L' := [some (.ref 0), some (vI a0), some (vI a1), none, none]) (S' := []) rfl ?_
    by_cases hc4 : a1 < 0
    · have h := if_T h hc4
      refine rz_B.ifF (mt (le32 (by decide) ha1).mp (Int.not_le.mpr hc4)) ?_
      refine rz_B.go 2 (pc' := 24) (L' := [some (.ref 0), some (vI a0), some (vI a1), none, none]) (S' := [vI (-4), .ref 0]) rfl ?_
      obtain ⟨r5, A5, hf5, h⟩ := rz_b_inv h
      obtain ⟨hg5, hr5, hw5⟩ := cx1_refuse F (d := d + 5) hf5 (by decide) hw1
      refine rz_B.call (d := d + 5) (as := [.ref 0, vI (-4)]) (rest := []) (w := some (vI r5)) rfl hg5 ?_
      cases h
      exact rz_B.ret rfl hr5 hw5
    · have h := if_F h hc4
      refine rz_B.ifT ((le32 (by decide) ha1).mpr (Int.not_lt.mp hc4)) ?_
      refine rz_B.go 3 (pc' := if decide (Int32.ofInt 9999 < Int32.ofInt a1) = true then 44 else 35) (L' := [some (.ref 0), some (vI a0), some (vI a1), none, none]) (S' := []) rfl ?_
      by_cases hc6 : a1 ≤ 9999
      · have h := if_T h hc6
        refine rz_B.ifF (mt (lt32 (by decide) ha1).mp (Int.not_lt.mpr hc6)) ?_
        refine rz_B.go 4 (pc' := if decide (Int32.ofInt (A1.1 0 14) < Int32.ofInt 40) = true then 51 else 44) (L' := [some (.ref 0), some (vI a0), some (vI a1), none, none]) (S' := []) rfl ?_
        by_cases hc7 : 40 ≤ (A1.1 0 14)
        · have h := if_T h hc7
          refine rz_B.ifF (mt (lt32 (hw1 0 14).1 (by decide)).mp (Int.not_lt.mpr hc7)) ?_
          refine rz_B.go 2 (pc' := 47) (L' := [some (.ref 0), some (vI a0), some (vI a1), none, none]) (S' := [vI (-6), .ref 0]) rfl ?_
          obtain ⟨r8, A8, hf8, h⟩ := rz_b_inv h
          obtain ⟨hg8, hr8, hw8⟩ := cx1_refuse F (d := d + 5) hf8 (by decide) hw1
          refine rz_B.call (d := d + 5) (as := [.ref 0, vI (-6)]) (rest := []) (w := some (vI r8)) rfl hg8 ?_
          cases h
          exact rz_B.ret rfl hr8 hw8
        · have h := if_F h hc7
          refine rz_B.ifT ((lt32 (hw1 0 14).1 (by decide)).mpr (Int.not_le.mp hc7)) ?_
          refine rz_B.go 4 (pc' := 59) (L' := [some (.ref 0), some (vI a0), some (vI a1), none, none]) (S' := [vI (A1.1 0 16), .ref 51]) rfl ?_
          obtain ⟨_, A9, hf9, h⟩ := rz_b_inv h
          obtain ⟨hg9, hr9, hw9⟩ := cx20_see F (d := d + 0) hf9 (hw1 0 16).1 hw1
          refine rz_B.call (d := d + 5) (as := [.ref 51, vI (A1.1 0 16)]) (rest := []) (w := none) rfl hg9 ?_
          refine rz_B.go 4 (pc' := 68) (L' := [some (.ref 0), some (vI a0), some (vI a1), none, none]) (S' := [vI a1, vI a0, .ref 51]) rfl ?_
          obtain ⟨r10, A10, hf10, h⟩ := rz_b_inv h
          obtain ⟨hg10, hr10, hw10⟩ := cx32_find F (d := d + 4) hf10 ha0 ha1 hw9
          refine rz_B.call (d := d + 5) (as := [.ref 51, vI a0, vI a1]) (rest := []) (w := some (vI r10)) rfl hg10 ?_
          refine rz_B.go 4 (pc' := 77) (L' := [some (.ref 0), some (vI a0), some (vI a1), some (vI r10), none]) (S' := [vI r10, .ref 56]) rfl ?_
          obtain ⟨r11, A11, hf11, h⟩ := rz_b_inv h
          obtain ⟨hg11, hr11, hw11⟩ := cx85_rate F (d := d + 1) hf11 hr10 hw10
          refine rz_B.call (d := d + 5) (as := [.ref 56, vI r10]) (rest := []) (w := some (vI r11)) rfl hg11 ?_
          refine rz_B.go 3 (pc' := if decide (Int32.ofInt 0 ≤ Int32.ofInt r11) = true then 94 else 87) (L' := [some (.ref 0), some (vI a0), some (vI a1), some (vI r10), some (vI r11)]) (S' := []) rfl ?_
          by_cases hc12 : r11 < 0
          · have h := if_T h hc12
            refine rz_B.ifF (mt (le32 (by decide) hr11).mp (Int.not_le.mpr hc12)) ?_
            refine rz_B.go 2 (pc' := 90) (L' := [some (.ref 0), some (vI a0), some (vI a1), some (vI r10), some (vI r11)]) (S' := [vI (-5), .ref 0]) rfl ?_
            obtain ⟨r13, A13, hf13, h⟩ := rz_b_inv h
            obtain ⟨hg13, hr13, hw13⟩ := cx1_refuse F (d := d + 5) hf13 (by decide) hw11
            refine rz_B.call (d := d + 5) (as := [.ref 0, vI (-5)]) (rest := []) (w := some (vI r13)) rfl hg13 ?_
            cases h
            exact rz_B.ret rfl hr13 hw13
          · have h := if_F h hc12
            refine rz_B.ifT ((le32 (by decide) hr11).mpr (Int.not_lt.mp hc12)) ?_
            refine rz_B.go 3 (pc' := 98) (L' := [some (.ref 0), some (vI a0), some (vI a1), some (vI r10), some (vI r11)]) (S' := [vI r11, vI r10, .ref 0]) rfl ?_
            obtain ⟨r14, A14, hf14, h⟩ := rz_b_inv h
            obtain ⟨hg14, hr14, hw14⟩ := cx133_publishLets F (d := d + 1) hf14 hr10 hr11 hw11
            refine rz_B.call (d := d + 5) (as := [.ref 0, vI r10, vI r11]) (rest := []) (w := some (vI r14)) rfl hg14 ?_
            refine rz_B.go 1 (pc' := if decide (¬ Int32.ofInt r14 = Int32.ofInt 0) = true then 111 else 104) (L' := [some (.ref 0), some (vI a0), some (vI a1), some (vI r10), some (vI r11)]) (S' := []) rfl ?_
            by_cases hc15 : r14 = 0
            · have h := if_T h hc15
              refine rz_B.ifF (fun hn => hn ((eq32 hr14 (by decide)).mpr hc15)) ?_
              refine rz_B.go 2 (pc' := 107) (L' := [some (.ref 0), some (vI a0), some (vI a1), some (vI r10), some (vI r11)]) (S' := [vI (-3), .ref 0]) rfl ?_
              obtain ⟨r16, A16, hf16, h⟩ := rz_b_inv h
              obtain ⟨hg16, hr16, hw16⟩ := cx1_refuse F (d := d + 5) hf16 (by decide) hw14
              refine rz_B.call (d := d + 5) (as := [.ref 0, vI (-3)]) (rest := []) (w := some (vI r16)) rfl hg16 ?_
              cases h
              exact rz_B.ret rfl hr16 hw16
            · have h := if_F h hc15
              refine rz_B.ifT (mt (eq32 hr14 (by decide)).mp hc15) ?_
              refine rz_B.go 5 (pc' := 120) (L' := [some (.ref 0), some (vI a0), some (vI a1), some (vI r10), some (vI r11)]) (S' := [vI a0, vI (A14.1 0 14), .ref 88]) rfl ?_
              obtain ⟨hi17, hj18, h⟩ := rz_gx_inv h
              refine rz_B.iast rfl rfl hi17 hj18 (by decide) ?_
              have hw19 : wf (aI A14 88 ((A14.1 0 14)).toNat a0) := wf_aI hw14 ha0
              refine rz_B.go 5 (pc' := 130) (L' := [some (.ref 0), some (vI a0), some (vI a1), some (vI r10), some (vI r11)]) (S' := [vI a1, vI (A14.1 0 14), .ref 89]) rfl ?_
              refine rz_B.iast rfl rfl hi17 hj18 (by decide) ?_
              have hw20 : wf (aI (aI A14 88 ((A14.1 0 14)).toNat a0) 89 ((A14.1 0 14)).toNat a1) := wf_aI hw19 ha1
              refine rz_B.go 5 (pc' := 141) (L' := [some (.ref 0), some (vI a0), some (vI a1), some (vI r10), some (vI r11)]) (S' := [vI r11, vI (A14.1 0 14), .ref 90]) rfl ?_
              refine rz_B.iast rfl rfl hi17 hj18 (by decide) ?_
              have hw21 : wf (aI (aI (aI A14 88 ((A14.1 0 14)).toNat a0) 89 ((A14.1 0 14)).toNat a1) 90 ((A14.1 0 14)).toNat r11) := wf_aI hw20 hr11
              refine rz_B.go 4 (pc' := 148) (L' := [some (.ref 0), some (vI a0), some (vI a1), some (vI r10), some (vI r11)]) (S' := [vI 1, vI (A14.1 0 14), .ref 0]) rfl ?_
              obtain ⟨hk22, h⟩ := rz_g32_inv h
              refine rz_B.iadd rfl ?_
              refine rz_B.put 1 (pc' := 152) (L' := [some (.ref 0), some (vI a0), some (vI a1), some (vI r10), some (vI r11)]) (S' := []) (c := 0) (k := 14) (x := ((A14.1 0 14) + 1)) rfl ?_
              have hw23 : wf (aI (aI (aI (aI A14 88 ((A14.1 0 14)).toNat a0) 89 ((A14.1 0 14)).toNat a1) 90 ((A14.1 0 14)).toNat r11) 0 14 ((A14.1 0 14) + 1)) := wf_aI hw21 hk22
              refine rz_B.go 3 (pc' := 157) (L' := [some (.ref 0), some (vI a0), some (vI a1), some (vI r10), some (vI r11)]) (S' := [vI 1, vI ((A14.1 0 14) + 1)]) rfl ?_
              obtain ⟨hk24, h⟩ := rz_g32_inv h
              refine rz_B.isub rfl ?_
              cases h
              exact rz_B.ret rfl hk24 hw23
      · have h := if_F h hc6
        refine rz_B.ifT ((lt32 (by decide) ha1).mpr (Int.not_le.mp hc6)) ?_
        refine rz_B.go 2 (pc' := 47) (L' := [some (.ref 0), some (vI a0), some (vI a1), none, none]) (S' := [vI (-6), .ref 0]) rfl ?_
        obtain ⟨r25, A25, hf25, h⟩ := rz_b_inv h
        obtain ⟨hg25, hr25, hw25⟩ := cx1_refuse F (d := d + 5) hf25 (by decide) hw1
        refine rz_B.call (d := d + 5) (as := [.ref 0, vI (-6)]) (rest := []) (w := some (vI r25)) rfl hg25 ?_
        cases h
        exact rz_B.ret rfl hr25 hw25
/-- RiverGauge.flowNow(I)I -/
def x136_flowNow (F : Nat) (a0 : Int) (A : rz_A) : Option (Int × rz_A) :=
  rz_gx a0 40 <|
  rz_b (x32_find F (A.1 88 (a0).toNat) (A.1 89 (a0).toNat) A) fun r3 A3 =>
  rz_b (x85_rate F r3 A3) fun r4 A4 =>
  some (r4, A4)
theorem cx136_flowNow (F : Nat) {d : Nat} {a0 : Int} {A : rz_A} {r : Int} {A' : rz_A} (h : x136_flowNow F a0 A = some (r, A')) (ha0 : r32 a0) (hw : wf A) : rg_Rn (d + 5) 136 [.ref 0, vI a0] (toM A) (some (vI r)) (toM A') ∧ (r32 r) ∧ wf A' := by
  show rz_B (d + 5) 136 0 [some (.ref 0), some (vI a0)] [] A (some (vI r)) A' (r32 r)
  unfold x136_flowNow at h
  refine rz_B.go 7 (pc' := 13) (L' := [some (.ref 0), some (vI a0)]) (S' := [vI a0, .ref 88, .ref 51, .ref 56]) rfl ?_
  obtain ⟨hi1, hj2, h⟩ := rz_gx_inv h
  refine rz_B.iald rfl rfl hi1 hj2 (by decide) ?_
  refine rz_B.go 3 (pc' := 19) (L' := [some (.ref 0), some (vI a0)]) (S' := [vI a0, .ref 89, vI (A.1 88 (a0).toNat), .ref 51, .ref 56]) rfl ?_
  refine rz_B.iald rfl rfl hi1 hj2 (by decide) ?_
  obtain ⟨r3, A3, hf3, h⟩ := rz_b_inv h
  obtain ⟨hg3, hr3, hw3⟩ := cx32_find F (d := d + 3) hf3 (hw 88 (a0).toNat).1 (hw 89 (a0).toNat).1 hw
  refine rz_B.call (d := d + 4) (as := [.ref 51, vI (A.1 88 (a0).toNat), vI (A.1 89 (a0).toNat)]) (rest := [.ref 56]) (w := some (vI r3)) rfl hg3 ?_
  obtain ⟨r4, A4, hf4, h⟩ := rz_b_inv h
  obtain ⟨hg4, hr4, hw4⟩ := cx85_rate F (d := d + 0) hf4 hr3 hw3
  refine rz_B.call (d := d + 4) (as := [.ref 56, vI r3]) (rest := []) (w := some (vI r4)) rfl hg4 ?_
  cases h
  exact rz_B.ret rfl hr4 hw4
/-- RiverGauge.published(II)I -/
def x135_published (F : Nat) (a0 : Int) (a1 : Int) (A : rz_A) : Option (Int × rz_A) :=
  if 0 ≤ a0 then
    if (A.1 0 14) ≤ a0 then
      rz_b (x1_refuse F (-1) A) fun r3 A3 =>
      some (r3, A3)
    else
      if 0 ≤ a1 then
        if 3 < a1 then
          rz_b (x1_refuse F (-2) A) fun r6 A6 =>
          some (r6, A6)
        else
          if a1 = 0 then
            rz_gx a0 40 <|
            some ((A.1 88 (a0).toNat), A)
          else
            if a1 = 1 then
              rz_gx a0 40 <|
              some ((A.1 89 (a0).toNat), A)
            else
              if a1 = 2 then
                rz_gx a0 40 <|
                some ((A.1 90 (a0).toNat), A)
              else
                rz_b (x20_see F (A.1 0 16) A) fun _ A16 =>
                rz_b (x136_flowNow F a0 A16) fun r17 A17 =>
                if r17 < 0 then
                  some ((-9), A17)
                else
                  some (r17, A17)
      else
        rz_b (x1_refuse F (-2) A) fun r19 A19 =>
        some (r19, A19)
  else
    rz_b (x1_refuse F (-1) A) fun r20 A20 =>
    some (r20, A20)
theorem cx135_published (F : Nat) {d : Nat} {a0 : Int} {a1 : Int} {A : rz_A} {r : Int} {A' : rz_A} (h : x135_published F a0 a1 A = some (r, A')) (ha0 : r32 a0) (ha1 : r32 a1) (hw : wf A) : rg_Rn (d + 6) 135 [.ref 0, vI a0, vI a1] (toM A) (some (vI r)) (toM A') ∧ (r32 r) ∧ wf A' := by
  show rz_B (d + 6) 135 0 [some (.ref 0), some (vI a0), some (vI a1), none] [] A (some (vI r)) A' (r32 r)
  unfold x135_published at h
  refine rz_B.go 2 (pc' := if decide (Int32.ofInt a0 < Int32.ofInt 0) = true then 12 else 4) (L' := [some (.ref 0), some (vI a0), some (vI a1), none]) (S' := []) rfl ?_
  by_cases hc1 : 0 ≤ a0
  · have h := if_T h hc1
    refine rz_B.ifF (mt (lt32 ha0 (by decide)).mp (Int.not_lt.mpr hc1)) ?_
    refine rz_B.go 4 (pc' := if decide (Int32.ofInt a0 < Int32.ofInt (A.1 0 14)) = true then 18 else 12) (L' := [some (.ref 0), some (vI a0), some (vI a1), none]) (S' := []) rfl ?_
    by_cases hc2 : (A.1 0 14) ≤ a0
    · have h := if_T h hc2
      refine rz_B.ifF (mt (lt32 ha0 (hw 0 14).1).mp (Int.not_lt.mpr hc2)) ?_
      refine rz_B.go 2 (pc' := 14) (L' := [some (.ref 0), some (vI a0), some (vI a1), none]) (S' := [vI (-1), .ref 0]) rfl ?_
      obtain ⟨r3, A3, hf3, h⟩ := rz_b_inv h
      obtain ⟨hg3, hr3, hw3⟩ := cx1_refuse F (d := d + 5) hf3 (by decide) hw
      refine rz_B.call (d := d + 5) (as := [.ref 0, vI (-1)]) (rest := []) (w := some (vI r3)) rfl hg3 ?_
      cases h
      exact rz_B.ret rfl hr3 hw3
    · have h := if_F h hc2
      refine rz_B.ifT ((lt32 ha0 (hw 0 14).1).mpr (Int.not_le.mp hc2)) ?_
      refine rz_B.go 2 (pc' := if decide (Int32.ofInt a1 < Int32.ofInt 0) = true then 27 else 22) (L' := [some (.ref 0), some (vI a0), some (vI a1), none]) (S' := []) rfl ?_
      by_cases hc4 : 0 ≤ a1
      · have h := if_T h hc4
        refine rz_B.ifF (mt (lt32 ha1 (by decide)).mp (Int.not_lt.mpr hc4)) ?_
        refine rz_B.go 3 (pc' := if decide (Int32.ofInt a1 ≤ Int32.ofInt 3) = true then 34 else 27) (L' := [some (.ref 0), some (vI a0), some (vI a1), none]) (S' := []) rfl ?_
        by_cases hc5 : 3 < a1
        · have h := if_T h hc5
          refine rz_B.ifF (mt (le32 ha1 (by decide)).mp (Int.not_le.mpr hc5)) ?_
          refine rz_B.go 2 (pc' := 30) (L' := [some (.ref 0), some (vI a0), some (vI a1), none]) (S' := [vI (-2), .ref 0]) rfl ?_
          obtain ⟨r6, A6, hf6, h⟩ := rz_b_inv h
          obtain ⟨hg6, hr6, hw6⟩ := cx1_refuse F (d := d + 5) hf6 (by decide) hw
          refine rz_B.call (d := d + 5) (as := [.ref 0, vI (-2)]) (rest := []) (w := some (vI r6)) rfl hg6 ?_
          cases h
          exact rz_B.ret rfl hr6 hw6
        · have h := if_F h hc5
          refine rz_B.ifT ((le32 ha1 (by decide)).mpr (Int.not_lt.mp hc5)) ?_
          refine rz_B.go 2 (pc' := if decide (¬ Int32.ofInt a1 = Int32.ofInt 0) = true then 45 else 38) (L' := [some (.ref 0), some (vI a0), some (vI a1), none]) (S' := []) rfl ?_
          by_cases hc7 : a1 = 0
          · have h := if_T h hc7
            refine rz_B.ifF (fun hn => hn ((eq32 ha1 (by decide)).mpr hc7)) ?_
            refine rz_B.go 3 (pc' := 43) (L' := [some (.ref 0), some (vI a0), some (vI a1), none]) (S' := [vI a0, .ref 88]) rfl ?_
            obtain ⟨hi8, hj9, h⟩ := rz_gx_inv h
            refine rz_B.iald rfl rfl hi8 hj9 (by decide) ?_
            cases h
            exact rz_B.ret rfl (hw 88 (a0).toNat).1 hw
          · have h := if_F h hc7
            refine rz_B.ifT (mt (eq32 ha1 (by decide)).mp hc7) ?_
            refine rz_B.go 3 (pc' := if decide (¬ Int32.ofInt a1 = Int32.ofInt 1) = true then 57 else 50) (L' := [some (.ref 0), some (vI a0), some (vI a1), none]) (S' := []) rfl ?_
            by_cases hc10 : a1 = 1
            · have h := if_T h hc10
              refine rz_B.ifF (fun hn => hn ((eq32 ha1 (by decide)).mpr hc10)) ?_
              refine rz_B.go 3 (pc' := 55) (L' := [some (.ref 0), some (vI a0), some (vI a1), none]) (S' := [vI a0, .ref 89]) rfl ?_
              obtain ⟨hi11, hj12, h⟩ := rz_gx_inv h
              refine rz_B.iald rfl rfl hi11 hj12 (by decide) ?_
              cases h
              exact rz_B.ret rfl (hw 89 (a0).toNat).1 hw
            · have h := if_F h hc10
              refine rz_B.ifT (mt (eq32 ha1 (by decide)).mp hc10) ?_
              refine rz_B.go 3 (pc' := if decide (¬ Int32.ofInt a1 = Int32.ofInt 2) = true then 69 else 62) (L' := [some (.ref 0), some (vI a0), some (vI a1), none]) (S' := []) rfl ?_
              by_cases hc13 : a1 = 2
              · have h := if_T h hc13
                refine rz_B.ifF (fun hn => hn ((eq32 ha1 (by decide)).mpr hc13)) ?_
                refine rz_B.go 3 (pc' := 67) (L' := [some (.ref 0), some (vI a0), some (vI a1), none]) (S' := [vI a0, .ref 90]) rfl ?_
                obtain ⟨hi14, hj15, h⟩ := rz_gx_inv h
                refine rz_B.iald rfl rfl hi14 hj15 (by decide) ?_
                cases h
                exact rz_B.ret rfl (hw 90 (a0).toNat).1 hw
              · have h := if_F h hc13
                refine rz_B.ifT (mt (eq32 ha1 (by decide)).mp hc13) ?_
                refine rz_B.go 4 (pc' := 77) (L' := [some (.ref 0), some (vI a0), some (vI a1), none]) (S' := [vI (A.1 0 16), .ref 51]) rfl ?_
                obtain ⟨_, A16, hf16, h⟩ := rz_b_inv h
                obtain ⟨hg16, hr16, hw16⟩ := cx20_see F (d := d + 0) hf16 (hw 0 16).1 hw
                refine rz_B.call (d := d + 5) (as := [.ref 51, vI (A.1 0 16)]) (rest := []) (w := none) rfl hg16 ?_
                refine rz_B.go 2 (pc' := 82) (L' := [some (.ref 0), some (vI a0), some (vI a1), none]) (S' := [vI a0, .ref 0]) rfl ?_
                obtain ⟨r17, A17, hf17, h⟩ := rz_b_inv h
                obtain ⟨hg17, hr17, hw17⟩ := cx136_flowNow F (d := d + 0) hf17 ha0 hw16
                refine rz_B.call (d := d + 5) (as := [.ref 0, vI a0]) (rest := []) (w := some (vI r17)) rfl hg17 ?_
                refine rz_B.go 3 (pc' := if decide (Int32.ofInt 0 ≤ Int32.ofInt r17) = true then 95 else 90) (L' := [some (.ref 0), some (vI a0), some (vI a1), some (vI r17)]) (S' := []) rfl ?_
                by_cases hc18 : r17 < 0
                · have h := if_T h hc18
                  refine rz_B.ifF (mt (le32 (by decide) hr17).mp (Int.not_le.mpr hc18)) ?_
                  refine rz_B.go 2 (pc' := 96) (L' := [some (.ref 0), some (vI a0), some (vI a1), some (vI r17)]) (S' := [vI (-9)]) rfl ?_
                  cases h
                  exact rz_B.ret rfl (by decide) hw17
                · have h := if_F h hc18
                  refine rz_B.ifT ((le32 (by decide) hr17).mpr (Int.not_lt.mp hc18)) ?_
                  refine rz_B.go 1 (pc' := 96) (L' := [some (.ref 0), some (vI a0), some (vI a1), some (vI r17)]) (S' := [vI r17]) rfl ?_
                  cases h
                  exact rz_B.ret rfl hr17 hw17
      · have h := if_F h hc4
        refine rz_B.ifT ((lt32 ha1 (by decide)).mpr (Int.not_le.mp hc4)) ?_
        refine rz_B.go 2 (pc' := 30) (L' := [some (.ref 0), some (vI a0), some (vI a1), none]) (S' := [vI (-2), .ref 0]) rfl ?_
        obtain ⟨r19, A19, hf19, h⟩ := rz_b_inv h
        obtain ⟨hg19, hr19, hw19⟩ := cx1_refuse F (d := d + 5) hf19 (by decide) hw
        refine rz_B.call (d := d + 5) (as := [.ref 0, vI (-2)]) (rest := []) (w := some (vI r19)) rfl hg19 ?_
        cases h
        exact rz_B.ret rfl hr19 hw19
  · have h := if_F h hc1
    refine rz_B.ifT ((lt32 ha0 (by decide)).mpr (Int.not_le.mp hc1)) ?_
    refine rz_B.go 2 (pc' := 14) (L' := [some (.ref 0), some (vI a0), some (vI a1), none]) (S' := [vI (-1), .ref 0]) rfl ?_
    obtain ⟨r20, A20, hf20, h⟩ := rz_b_inv h
    obtain ⟨hg20, hr20, hw20⟩ := cx1_refuse F (d := d + 5) hf20 (by decide) hw
    refine rz_B.call (d := d + 5) (as := [.ref 0, vI (-1)]) (rest := []) (w := some (vI r20)) rfl hg20 ?_
    cases h
    exact rz_B.ret rfl hr20 hw20
/-- java/lang/Math.abs(J)J -/
def x138_abs (F : Nat) (a0 : Int) (A : rz_A) : Option (Int × rz_A) :=
  if a0 < 0 then
    rz_g64 (-a0) <|
    some ((-a0), A)
  else
    some (a0, A)
theorem cx138_abs (F : Nat) {d : Nat} {a0 : Int} {A : rz_A} {r : Int} {A' : rz_A} (h : x138_abs F a0 A = some (r, A')) (ha0 : r64 a0) (hw : wf A) : rg_Rn (d + 0) 138 [vL a0] (toM A) (some (vL r)) (toM A') ∧ (r64 r) ∧ wf A' := by
  show rz_B (d + 0) 138 0 [some (vL a0), none] [] A (some (vL r)) A' (r64 r)
  unfold x138_abs at h
  refine rz_B.go 4 (pc' := if decide (0 ≤ lg_cmp (Int64.ofInt a0) (Int64.ofInt 0)) = true then 11 else 6) (L' := [some (vL a0), none]) (S' := []) rfl ?_
  by_cases hc1 : a0 < 0
  · have h := if_T h hc1
    refine rz_B.ifF (mt (cmp_ge ha0 (by decide)).mp (Int.not_le.mpr hc1)) ?_
    refine rz_B.go 1 (pc' := 7) (L' := [some (vL a0), none]) (S' := [vL a0]) rfl ?_
    obtain ⟨hk2, h⟩ := rz_g64_inv h
    refine rz_B.lneg rfl ?_
    refine rz_B.go 1 (pc' := 12) (L' := [some (vL a0), none]) (S' := [vL (-a0)]) rfl ?_
    cases h
    exact rz_B.ret rfl hk2 hw
  · have h := if_F h hc1
    refine rz_B.ifT ((cmp_ge ha0 (by decide)).mpr (Int.not_lt.mp hc1)) ?_
    refine rz_B.go 1 (pc' := 12) (L' := [some (vL a0), none]) (S' := [vL a0]) rfl ?_
    cases h
    exact rz_B.ret rfl ha0 hw
