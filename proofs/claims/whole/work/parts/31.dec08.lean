set_option maxRecDepth 16384
/-- RiverGaugeModel.has(III)Z -/
def x161_has (F : Nat) (a0 : Int) (a1 : Int) (a2 : Int) (A : rz_A) : Option (Int × rz_A) :=
  rz_b (x162_which F a0 a1 a2 A) fun r1 A1 =>
  if r1 < 0 then
    some (0, A1)
  else
    rz_gx r1 300 <|
    rz_b (x149_zeroOf F a0 a1 a2 A1) fun r5 A5 =>
    rz_g32 ((A1.1 107 (r1).toNat) + r5) <|
    some (1, (aI A5 91 54 ((A1.1 107 (r1).toNat) + r5)))
theorem cx161_has (F : Nat) {d : Nat} {a0 : Int} {a1 : Int} {a2 : Int} {A : rz_A} {r : Int} {A' : rz_A} (h : x161_has F a0 a1 a2 A = some (r, A')) (ha0 : r32 a0) (ha1 : r32 a1) (ha2 : r32 a2) (hw : wf A) : rg_Rn (d + 4) 161 [.ref 91, vI a0, vI a1, vI a2] (toM A) (some (vI r)) (toM A') ∧ (r32 r) ∧ wf A' := by
  show rz_B (d + 4) 161 0 [some (.ref 91), some (vI a0), some (vI a1), some (vI a2), none] [] A (some (vI r)) A' (r32 r)
  unfold x161_has at h
  refine rz_B.go 4 (pc' := 4) (L' := [some (.ref 91), some (vI a0), some (vI a1), some (vI a2), none]) (S' := [vI a2, vI a1, vI a0, .ref 91]) rfl ?_
  obtain ⟨r1, A1, hf1, h⟩ := rz_b_inv h
  obtain ⟨hg1, hr1, hw1⟩ := cx162_which F (d := d + 0) hf1 ha0 ha1 ha2 hw
  refine rz_B.call (d := d + 3) (as := [.ref 91, vI a0, vI a1, vI a2]) (rest := []) (w := some (vI r1)) rfl hg1 ?_
  refine rz_B.go 3 (pc' := if decide (Int32.ofInt 0 ≤ Int32.ofInt r1) = true then 16 else 14) (L' := [some (.ref 91), some (vI a0), some (vI a1), some (vI a2), some (vI r1)]) (S' := []) rfl ?_
  by_cases hc2 : r1 < 0
  · have h := if_T h hc2
    refine rz_B.ifF (mt (le32 (by decide) hr1).mp (Int.not_le.mpr hc2)) ?_
    refine rz_B.go 1 (pc' := 15) (L' := [some (.ref 91), some (vI a0), some (vI a1), some (vI a2), some (vI r1)]) (S' := [vI 0]) rfl ?_
    cases h
    exact rz_B.ret rfl (by decide) hw1
  · have h := if_F h hc2
    refine rz_B.ifT ((le32 (by decide) hr1).mpr (Int.not_lt.mp hc2)) ?_
    refine rz_B.go 4 (pc' := 23) (L' := [some (.ref 91), some (vI a0), some (vI a1), some (vI a2), some (vI r1)]) (S' := [vI r1, .ref 107, .ref 91]) rfl ?_
    obtain ⟨hi3, hj4, h⟩ := rz_gx_inv h
    refine rz_B.iald rfl rfl hi3 hj4 (by decide) ?_
    refine rz_B.go 4 (pc' := 28) (L' := [some (.ref 91), some (vI a0), some (vI a1), some (vI a2), some (vI r1)]) (S' := [vI a2, vI a1, vI a0, .ref 91, vI (A1.1 107 (r1).toNat), .ref 91]) rfl ?_
    obtain ⟨r5, A5, hf5, h⟩ := rz_b_inv h
    obtain ⟨hg5, hr5, hw5⟩ := cx149_zeroOf F (d := d + 3) hf5 ha0 ha1 ha2 hw1
    refine rz_B.call (d := d + 3) (as := [.ref 91, vI a0, vI a1, vI a2]) (rest := [vI (A1.1 107 (r1).toNat), .ref 91]) (w := some (vI r5)) rfl hg5 ?_
    obtain ⟨hk6, h⟩ := rz_g32_inv h
    refine rz_B.iadd rfl ?_
    refine rz_B.put 1 (pc' := 35) (L' := [some (.ref 91), some (vI a0), some (vI a1), some (vI a2), some (vI r1)]) (S' := []) (c := 91) (k := 54) (x := ((A1.1 107 (r1).toNat) + r5)) rfl ?_
    have hw7 : wf (aI A5 91 54 ((A1.1 107 (r1).toNat) + r5)) := wf_aI hw5 hk6
    refine rz_B.go 1 (pc' := 36) (L' := [some (.ref 91), some (vI a0), some (vI a1), some (vI a2), some (vI r1)]) (S' := [vI 1]) rfl ?_
    cases h
    exact rz_B.ret rfl (by decide) hw7
/-- RiverGaugeModel.heightAt(III)I -/
def x160_heightAt (F : Nat) (a0 : Int) (a1 : Int) (a2 : Int) (A : rz_A) : Option (Int × rz_A) :=
  rz_b (x145_isPost F a0 A) fun r1 A1 =>
  if r1 = 0 then
    rz_b (x148_far F (-1) A1) fun r3 A3 =>
    some (r3, A3)
  else
    rz_b (x147_times F a1 a2 A1) fun r4 A4 =>
    if r4 = 0 then
      rz_b (x161_has F a0 a1 a2 A4) fun r6 A6 =>
      if r6 = 0 then
        rz_b (x148_far F (-5) A6) fun r8 A8 =>
        some (r8, A8)
      else
        some ((A6.1 91 54), A6)
    else
      rz_b (x148_far F r4 A4) fun r9 A9 =>
      some (r9, A9)
theorem cx160_heightAt (F : Nat) {d : Nat} {a0 : Int} {a1 : Int} {a2 : Int} {A : rz_A} {r : Int} {A' : rz_A} (h : x160_heightAt F a0 a1 a2 A = some (r, A')) (ha0 : r32 a0) (ha1 : r32 a1) (ha2 : r32 a2) (hw : wf A) : rg_Rn (d + 5) 160 [.ref 91, vI a0, vI a1, vI a2] (toM A) (some (vI r)) (toM A') ∧ (r32 r) ∧ wf A' := by
  show rz_B (d + 5) 160 0 [some (.ref 91), some (vI a0), some (vI a1), some (vI a2), none] [] A (some (vI r)) A' (r32 r)
  unfold x160_heightAt at h
  refine rz_B.go 2 (pc' := 2) (L' := [some (.ref 91), some (vI a0), some (vI a1), some (vI a2), none]) (S' := [vI a0, .ref 91]) rfl ?_
  obtain ⟨r1, A1, hf1, h⟩ := rz_b_inv h
  obtain ⟨hg1, hr1, hw1⟩ := cx145_isPost F (d := d + 4) hf1 ha0 hw
  refine rz_B.call (d := d + 4) (as := [.ref 91, vI a0]) (rest := []) (w := some (vI r1)) rfl hg1 ?_
  refine rz_B.go 1 (pc' := if decide (Int32.ofInt r1 = Int32.ofInt 0) = true then 16 else 8) (L' := [some (.ref 91), some (vI a0), some (vI a1), some (vI a2), none]) (S' := []) rfl ?_
  by_cases hc2 : r1 = 0
  · have h := if_T h hc2
    refine rz_B.ifT ((eq32 hr1 (by decide)).mpr hc2) ?_
    refine rz_B.go 8 (pc' := 46) (L' := [some (.ref 91), some (vI a0), some (vI a1), some (vI a2), some (vI (-1))]) (S' := [vI (-1), .ref 91]) rfl ?_
    obtain ⟨r3, A3, hf3, h⟩ := rz_b_inv h
    obtain ⟨hg3, hr3, hw3⟩ := cx148_far F (d := d + 3) hf3 (by decide) hw1
    refine rz_B.call (d := d + 4) (as := [.ref 91, vI (-1)]) (rest := []) (w := some (vI r3)) rfl hg3 ?_
    refine rz_B.go 1 (pc' := 56) (L' := [some (.ref 91), some (vI a0), some (vI a1), some (vI a2), some (vI (-1))]) (S' := [vI r3]) rfl ?_
    cases h
    exact rz_B.ret rfl hr3 hw3
  · have h := if_F h hc2
    refine rz_B.ifF (mt (eq32 hr1 (by decide)).mp hc2) ?_
    refine rz_B.go 2 (pc' := 10) (L' := [some (.ref 91), some (vI a0), some (vI a1), some (vI a2), none]) (S' := [vI a2, vI a1]) rfl ?_
    obtain ⟨r4, A4, hf4, h⟩ := rz_b_inv h
    obtain ⟨hg4, hr4, hw4⟩ := cx147_times F (d := d + 4) hf4 ha1 ha2 hw1
    refine rz_B.call (d := d + 4) (as := [vI a1, vI a2]) (rest := []) (w := some (vI r4)) rfl hg4 ?_
    refine rz_B.go 4 (pc' := if decide (¬ Int32.ofInt r4 = Int32.ofInt 0) = true then 38 else 24) (L' := [some (.ref 91), some (vI a0), some (vI a1), some (vI a2), some (vI r4)]) (S' := []) rfl ?_
    by_cases hc5 : r4 = 0
    · have h := if_T h hc5
      refine rz_B.ifF (fun hn => hn ((eq32 hr4 (by decide)).mpr hc5)) ?_
      refine rz_B.go 4 (pc' := 28) (L' := [some (.ref 91), some (vI a0), some (vI a1), some (vI a2), some (vI r4)]) (S' := [vI a2, vI a1, vI a0, .ref 91]) rfl ?_
      obtain ⟨r6, A6, hf6, h⟩ := rz_b_inv h
      obtain ⟨hg6, hr6, hw6⟩ := cx161_has F (d := d + 0) hf6 ha0 ha1 ha2 hw4
      refine rz_B.call (d := d + 4) (as := [.ref 91, vI a0, vI a1, vI a2]) (rest := []) (w := some (vI r6)) rfl hg6 ?_
      refine rz_B.go 1 (pc' := if decide (¬ Int32.ofInt r6 = Int32.ofInt 0) = true then 38 else 34) (L' := [some (.ref 91), some (vI a0), some (vI a1), some (vI a2), some (vI r4)]) (S' := []) rfl ?_
      by_cases hc7 : r6 = 0
      · have h := if_T h hc7
        refine rz_B.ifF (fun hn => hn ((eq32 hr6 (by decide)).mpr hc7)) ?_
        refine rz_B.go 6 (pc' := 46) (L' := [some (.ref 91), some (vI a0), some (vI a1), some (vI a2), some (vI (-5))]) (S' := [vI (-5), .ref 91]) rfl ?_
        obtain ⟨r8, A8, hf8, h⟩ := rz_b_inv h
        obtain ⟨hg8, hr8, hw8⟩ := cx148_far F (d := d + 3) hf8 (by decide) hw6
        refine rz_B.call (d := d + 4) (as := [.ref 91, vI (-5)]) (rest := []) (w := some (vI r8)) rfl hg8 ?_
        refine rz_B.go 1 (pc' := 56) (L' := [some (.ref 91), some (vI a0), some (vI a1), some (vI a2), some (vI (-5))]) (S' := [vI r8]) rfl ?_
        cases h
        exact rz_B.ret rfl hr8 hw8
      · have h := if_F h hc7
        refine rz_B.ifT (mt (eq32 hr6 (by decide)).mp hc7) ?_
        refine rz_B.go 2 (pc' := if decide (Int32.ofInt r4 = Int32.ofInt 0) = true then 52 else 43) (L' := [some (.ref 91), some (vI a0), some (vI a1), some (vI a2), some (vI r4)]) (S' := []) rfl ?_
        refine rz_B.ifT ((eq32 hr4 (by decide)).mpr hc5) ?_
        refine rz_B.go 2 (pc' := 56) (L' := [some (.ref 91), some (vI a0), some (vI a1), some (vI a2), some (vI r4)]) (S' := [vI (A6.1 91 54)]) rfl ?_
        cases h
        exact rz_B.ret rfl (hw6 91 54).1 hw6
    · have h := if_F h hc5
      refine rz_B.ifT (mt (eq32 hr4 (by decide)).mp hc5) ?_
      refine rz_B.go 2 (pc' := if decide (Int32.ofInt r4 = Int32.ofInt 0) = true then 52 else 43) (L' := [some (.ref 91), some (vI a0), some (vI a1), some (vI a2), some (vI r4)]) (S' := []) rfl ?_
      refine rz_B.ifF (mt (eq32 hr4 (by decide)).mp hc5) ?_
      refine rz_B.go 2 (pc' := 46) (L' := [some (.ref 91), some (vI a0), some (vI a1), some (vI a2), some (vI r4)]) (S' := [vI r4, .ref 91]) rfl ?_
      obtain ⟨r9, A9, hf9, h⟩ := rz_b_inv h
      obtain ⟨hg9, hr9, hw9⟩ := cx148_far F (d := d + 3) hf9 hr4 hw4
      refine rz_B.call (d := d + 4) (as := [.ref 91, vI r4]) (rest := []) (w := some (vI r9)) rfl hg9 ?_
      refine rz_B.go 1 (pc' := 56) (L' := [some (.ref 91), some (vI a0), some (vI a1), some (vI a2), some (vI r4)]) (S' := [vI r9]) rfl ?_
      cases h
      exact rz_B.ret rfl hr9 hw9
/-- RiverGaugeModel.measure(IIII)I -/
def x163_measure (F : Nat) (a0 : Int) (a1 : Int) (a2 : Int) (a3 : Int) (A : rz_A) : Option (Int × rz_A) :=
  rz_b (x145_isPost F a0 A) fun r1 A1 =>
  if r1 = 0 then
    rz_b (x142_no F (-1) A1) fun r3 A3 =>
    some (r3, A3)
  else
    if 0 ≤ a1 then
      if 0 ≤ a2 then
        if a3 < 0 then
          rz_b (x142_no F (-4) A1) fun r7 A7 =>
          some (r7, A7)
        else
          if a1 ≤ (A1.1 91 0) then
            if a2 ≤ 99999 then
              if a3 ≤ 99 then
                if (A1.1 91 4) = 60 then
                  rz_b (x142_no F (-6) A1) fun r12 A12 =>
                  some (r12, A12)
                else
                  rz_gx (A1.1 91 4) 60 <|
                  rz_g32 ((A1.1 91 11) + 1) <|
                  rz_g32 ((A1.1 91 4) + 1) <|
                  some ((A1.1 91 4), (aI (aI (aI (aI (aI (aI (aI (aI A1 110 ((A1.1 91 4)).toNat a0) 111 ((A1.1 91 4)).toNat a1) 112 ((A1.1 91 4)).toNat a2) 113 ((A1.1 91 4)).toNat a3) 114 ((A1.1 91 4)).toNat (A1.1 91 0)) 115 ((A1.1 91 4)).toNat (-1)) 91 11 ((A1.1 91 11) + 1)) 91 4 ((A1.1 91 4) + 1)))
              else
                rz_b (x142_no F (-6) A1) fun r25 A25 =>
                some (r25, A25)
            else
              rz_b (x142_no F (-6) A1) fun r26 A26 =>
              some (r26, A26)
          else
            rz_b (x142_no F (-6) A1) fun r27 A27 =>
            some (r27, A27)
      else
        rz_b (x142_no F (-4) A1) fun r28 A28 =>
        some (r28, A28)
    else
      rz_b (x142_no F (-4) A1) fun r29 A29 =>
      some (r29, A29)
theorem cx163_measure (F : Nat) {d : Nat} {a0 : Int} {a1 : Int} {a2 : Int} {a3 : Int} {A : rz_A} {r : Int} {A' : rz_A} (h : x163_measure F a0 a1 a2 a3 A = some (r, A')) (ha0 : r32 a0) (ha1 : r32 a1) (ha2 : r32 a2) (ha3 : r32 a3) (hw : wf A) : rg_Rn (d + 1) 163 [.ref 91, vI a0, vI a1, vI a2, vI a3] (toM A) (some (vI r)) (toM A') ∧ (r32 r) ∧ wf A' := by
  show rz_B (d + 1) 163 0 [some (.ref 91), some (vI a0), some (vI a1), some (vI a2), some (vI a3)] [] A (some (vI r)) A' (r32 r)
  unfold x163_measure at h
  refine rz_B.go 2 (pc' := 2) (L' := [some (.ref 91), some (vI a0), some (vI a1), some (vI a2), some (vI a3)]) (S' := [vI a0, .ref 91]) rfl ?_
  obtain ⟨r1, A1, hf1, h⟩ := rz_b_inv h
  obtain ⟨hg1, hr1, hw1⟩ := cx145_isPost F (d := d + 0) hf1 ha0 hw
  refine rz_B.call (d := d + 0) (as := [.ref 91, vI a0]) (rest := []) (w := some (vI r1)) rfl hg1 ?_
  refine rz_B.go 1 (pc' := if decide (¬ Int32.ofInt r1 = Int32.ofInt 0) = true then 14 else 8) (L' := [some (.ref 91), some (vI a0), some (vI a1), some (vI a2), some (vI a3)]) (S' := []) rfl ?_
  by_cases hc2 : r1 = 0
  · have h := if_T h hc2
    refine rz_B.ifF (fun hn => hn ((eq32 hr1 (by decide)).mpr hc2)) ?_
    refine rz_B.go 2 (pc' := 10) (L' := [some (.ref 91), some (vI a0), some (vI a1), some (vI a2), some (vI a3)]) (S' := [vI (-1), .ref 91]) rfl ?_
    obtain ⟨r3, A3, hf3, h⟩ := rz_b_inv h
    obtain ⟨hg3, hr3, hw3⟩ := cx142_no F (d := d + 0) hf3 (by decide) hw1
    refine rz_B.call (d := d + 0) (as := [.ref 91, vI (-1)]) (rest := []) (w := some (vI r3)) rfl hg3 ?_
    cases h
    exact rz_B.ret rfl hr3 hw3
  · have h := if_F h hc2
    refine rz_B.ifT (mt (eq32 hr1 (by decide)).mp hc2) ?_
    refine rz_B.go 2 (pc' := if decide (Int32.ofInt a1 < Int32.ofInt 0) = true then 27 else 18) (L' := [some (.ref 91), some (vI a0), some (vI a1), some (vI a2), some (vI a3)]) (S' := []) rfl ?_
    by_cases hc4 : 0 ≤ a1
    · have h := if_T h hc4
      refine rz_B.ifF (mt (lt32 ha1 (by decide)).mp (Int.not_lt.mpr hc4)) ?_
      refine rz_B.go 2 (pc' := if decide (Int32.ofInt a2 < Int32.ofInt 0) = true then 27 else 22) (L' := [some (.ref 91), some (vI a0), some (vI a1), some (vI a2), some (vI a3)]) (S' := []) rfl ?_
      by_cases hc5 : 0 ≤ a2
      · have h := if_T h hc5
        refine rz_B.ifF (mt (lt32 ha2 (by decide)).mp (Int.not_lt.mpr hc5)) ?_
        refine rz_B.go 2 (pc' := if decide (Int32.ofInt 0 ≤ Int32.ofInt a3) = true then 34 else 27) (L' := [some (.ref 91), some (vI a0), some (vI a1), some (vI a2), some (vI a3)]) (S' := []) rfl ?_
        by_cases hc6 : a3 < 0
        · have h := if_T h hc6
          refine rz_B.ifF (mt (le32 (by decide) ha3).mp (Int.not_le.mpr hc6)) ?_
          refine rz_B.go 2 (pc' := 30) (L' := [some (.ref 91), some (vI a0), some (vI a1), some (vI a2), some (vI a3)]) (S' := [vI (-4), .ref 91]) rfl ?_
          obtain ⟨r7, A7, hf7, h⟩ := rz_b_inv h
          obtain ⟨hg7, hr7, hw7⟩ := cx142_no F (d := d + 0) hf7 (by decide) hw1
          refine rz_B.call (d := d + 0) (as := [.ref 91, vI (-4)]) (rest := []) (w := some (vI r7)) rfl hg7 ?_
          cases h
          exact rz_B.ret rfl hr7 hw7
        · have h := if_F h hc6
          refine rz_B.ifT ((le32 (by decide) ha3).mpr (Int.not_lt.mp hc6)) ?_
          refine rz_B.go 4 (pc' := if decide (Int32.ofInt (A1.1 91 0) < Int32.ofInt a1) = true then 65 else 42) (L' := [some (.ref 91), some (vI a0), some (vI a1), some (vI a2), some (vI a3)]) (S' := []) rfl ?_
          by_cases hc8 : a1 ≤ (A1.1 91 0)
          · have h := if_T h hc8
            refine rz_B.ifF (mt (lt32 (hw1 91 0).1 ha1).mp (Int.not_lt.mpr hc8)) ?_
            refine rz_B.go 3 (pc' := if decide (Int32.ofInt 99999 < Int32.ofInt a2) = true then 65 else 49) (L' := [some (.ref 91), some (vI a0), some (vI a1), some (vI a2), some (vI a3)]) (S' := []) rfl ?_
            by_cases hc9 : a2 ≤ 99999
            · have h := if_T h hc9
              refine rz_B.ifF (mt (lt32 (by decide) ha2).mp (Int.not_lt.mpr hc9)) ?_
              refine rz_B.go 3 (pc' := if decide (Int32.ofInt 99 < Int32.ofInt a3) = true then 65 else 56) (L' := [some (.ref 91), some (vI a0), some (vI a1), some (vI a2), some (vI a3)]) (S' := []) rfl ?_
              by_cases hc10 : a3 ≤ 99
              · have h := if_T h hc10
                refine rz_B.ifF (mt (lt32 (by decide) ha3).mp (Int.not_lt.mpr hc10)) ?_
                refine rz_B.go 4 (pc' := if decide (¬ Int32.ofInt (A1.1 91 4) = Int32.ofInt 60) = true then 72 else 65) (L' := [some (.ref 91), some (vI a0), some (vI a1), some (vI a2), some (vI a3)]) (S' := []) rfl ?_
                by_cases hc11 : (A1.1 91 4) = 60
                · have h := if_T h hc11
                  refine rz_B.ifF (fun hn => hn ((eq32 (hw1 91 4).1 (by decide)).mpr hc11)) ?_
                  refine rz_B.go 2 (pc' := 68) (L' := [some (.ref 91), some (vI a0), some (vI a1), some (vI a2), some (vI a3)]) (S' := [vI (-6), .ref 91]) rfl ?_
                  obtain ⟨r12, A12, hf12, h⟩ := rz_b_inv h
                  obtain ⟨hg12, hr12, hw12⟩ := cx142_no F (d := d + 0) hf12 (by decide) hw1
                  refine rz_B.call (d := d + 0) (as := [.ref 91, vI (-6)]) (rest := []) (w := some (vI r12)) rfl hg12 ?_
                  cases h
                  exact rz_B.ret rfl hr12 hw12
                · have h := if_F h hc11
                  refine rz_B.ifT (mt (eq32 (hw1 91 4).1 (by decide)).mp hc11) ?_
                  refine rz_B.go 5 (pc' := 81) (L' := [some (.ref 91), some (vI a0), some (vI a1), some (vI a2), some (vI a3)]) (S' := [vI a0, vI (A1.1 91 4), .ref 110]) rfl ?_
                  obtain ⟨hi13, hj14, h⟩ := rz_gx_inv h
                  refine rz_B.iast rfl rfl hi13 hj14 (by decide) ?_
                  have hw15 : wf (aI A1 110 ((A1.1 91 4)).toNat a0) := wf_aI hw1 ha0
                  refine rz_B.go 5 (pc' := 91) (L' := [some (.ref 91), some (vI a0), some (vI a1), some (vI a2), some (vI a3)]) (S' := [vI a1, vI (A1.1 91 4), .ref 111]) rfl ?_
                  refine rz_B.iast rfl rfl hi13 hj14 (by decide) ?_
                  have hw16 : wf (aI (aI A1 110 ((A1.1 91 4)).toNat a0) 111 ((A1.1 91 4)).toNat a1) := wf_aI hw15 ha1
                  refine rz_B.go 5 (pc' := 101) (L' := [some (.ref 91), some (vI a0), some (vI a1), some (vI a2), some (vI a3)]) (S' := [vI a2, vI (A1.1 91 4), .ref 112]) rfl ?_
                  refine rz_B.iast rfl rfl hi13 hj14 (by decide) ?_
                  have hw17 : wf (aI (aI (aI A1 110 ((A1.1 91 4)).toNat a0) 111 ((A1.1 91 4)).toNat a1) 112 ((A1.1 91 4)).toNat a2) := wf_aI hw16 ha2
                  refine rz_B.go 5 (pc' := 112) (L' := [some (.ref 91), some (vI a0), some (vI a1), some (vI a2), some (vI a3)]) (S' := [vI a3, vI (A1.1 91 4), .ref 113]) rfl ?_
                  refine rz_B.iast rfl rfl hi13 hj14 (by decide) ?_
                  have hw18 : wf (aI (aI (aI (aI A1 110 ((A1.1 91 4)).toNat a0) 111 ((A1.1 91 4)).toNat a1) 112 ((A1.1 91 4)).toNat a2) 113 ((A1.1 91 4)).toNat a3) := wf_aI hw17 ha3
                  refine rz_B.go 6 (pc' := 125) (L' := [some (.ref 91), some (vI a0), some (vI a1), some (vI a2), some (vI a3)]) (S' := [vI (A1.1 91 0), vI (A1.1 91 4), .ref 114]) rfl ?_
                  refine rz_B.iast rfl rfl hi13 hj14 (by decide) ?_
                  have hw19 : wf (aI (aI (aI (aI (aI A1 110 ((A1.1 91 4)).toNat a0) 111 ((A1.1 91 4)).toNat a1) 112 ((A1.1 91 4)).toNat a2) 113 ((A1.1 91 4)).toNat a3) 114 ((A1.1 91 4)).toNat (A1.1 91 0)) := wf_aI hw18 (hw1 91 0).1
                  refine rz_B.go 5 (pc' := 135) (L' := [some (.ref 91), some (vI a0), some (vI a1), some (vI a2), some (vI a3)]) (S' := [vI (-1), vI (A1.1 91 4), .ref 115]) rfl ?_
                  refine rz_B.iast rfl rfl hi13 hj14 (by decide) ?_
                  have hw20 : wf (aI (aI (aI (aI (aI (aI A1 110 ((A1.1 91 4)).toNat a0) 111 ((A1.1 91 4)).toNat a1) 112 ((A1.1 91 4)).toNat a2) 113 ((A1.1 91 4)).toNat a3) 114 ((A1.1 91 4)).toNat (A1.1 91 0)) 115 ((A1.1 91 4)).toNat (-1)) := wf_aI hw19 (by decide)
                  refine rz_B.go 4 (pc' := 142) (L' := [some (.ref 91), some (vI a0), some (vI a1), some (vI a2), some (vI a3)]) (S' := [vI 1, vI (A1.1 91 11), .ref 91]) rfl ?_
                  obtain ⟨hk21, h⟩ := rz_g32_inv h
                  refine rz_B.iadd rfl ?_
                  refine rz_B.put 1 (pc' := 146) (L' := [some (.ref 91), some (vI a0), some (vI a1), some (vI a2), some (vI a3)]) (S' := []) (c := 91) (k := 11) (x := ((A1.1 91 11) + 1)) rfl ?_
                  have hw22 : wf (aI (aI (aI (aI (aI (aI (aI A1 110 ((A1.1 91 4)).toNat a0) 111 ((A1.1 91 4)).toNat a1) 112 ((A1.1 91 4)).toNat a2) 113 ((A1.1 91 4)).toNat a3) 114 ((A1.1 91 4)).toNat (A1.1 91 0)) 115 ((A1.1 91 4)).toNat (-1)) 91 11 ((A1.1 91 11) + 1)) := wf_aI hw20 hk21
                  refine rz_B.go 5 (pc' := 153) (L' := [some (.ref 91), some (vI a0), some (vI a1), some (vI a2), some (vI a3)]) (S' := [vI 1, vI (A1.1 91 4), .ref 91, vI (A1.1 91 4)]) rfl ?_
                  obtain ⟨hk23, h⟩ := rz_g32_inv h
                  refine rz_B.iadd rfl ?_
                  refine rz_B.put 1 (pc' := 157) (L' := [some (.ref 91), some (vI a0), some (vI a1), some (vI a2), some (vI a3)]) (S' := [vI (A1.1 91 4)]) (c := 91) (k := 4) (x := ((A1.1 91 4) + 1)) rfl ?_
                  have hw24 : wf (aI (aI (aI (aI (aI (aI (aI (aI A1 110 ((A1.1 91 4)).toNat a0) 111 ((A1.1 91 4)).toNat a1) 112 ((A1.1 91 4)).toNat a2) 113 ((A1.1 91 4)).toNat a3) 114 ((A1.1 91 4)).toNat (A1.1 91 0)) 115 ((A1.1 91 4)).toNat (-1)) 91 11 ((A1.1 91 11) + 1)) 91 4 ((A1.1 91 4) + 1)) := wf_aI hw22 hk23
                  cases h
                  exact rz_B.ret rfl (hw1 91 4).1 hw24
              · have h := if_F h hc10
                refine rz_B.ifT ((lt32 (by decide) ha3).mpr (Int.not_le.mp hc10)) ?_
                refine rz_B.go 2 (pc' := 68) (L' := [some (.ref 91), some (vI a0), some (vI a1), some (vI a2), some (vI a3)]) (S' := [vI (-6), .ref 91]) rfl ?_
                obtain ⟨r25, A25, hf25, h⟩ := rz_b_inv h
                obtain ⟨hg25, hr25, hw25⟩ := cx142_no F (d := d + 0) hf25 (by decide) hw1
                refine rz_B.call (d := d + 0) (as := [.ref 91, vI (-6)]) (rest := []) (w := some (vI r25)) rfl hg25 ?_
                cases h
                exact rz_B.ret rfl hr25 hw25
            · have h := if_F h hc9
              refine rz_B.ifT ((lt32 (by decide) ha2).mpr (Int.not_le.mp hc9)) ?_
              refine rz_B.go 2 (pc' := 68) (L' := [some (.ref 91), some (vI a0), some (vI a1), some (vI a2), some (vI a3)]) (S' := [vI (-6), .ref 91]) rfl ?_
              obtain ⟨r26, A26, hf26, h⟩ := rz_b_inv h
              obtain ⟨hg26, hr26, hw26⟩ := cx142_no F (d := d + 0) hf26 (by decide) hw1
              refine rz_B.call (d := d + 0) (as := [.ref 91, vI (-6)]) (rest := []) (w := some (vI r26)) rfl hg26 ?_
              cases h
              exact rz_B.ret rfl hr26 hw26
          · have h := if_F h hc8
            refine rz_B.ifT ((lt32 (hw1 91 0).1 ha1).mpr (Int.not_le.mp hc8)) ?_
            refine rz_B.go 2 (pc' := 68) (L' := [some (.ref 91), some (vI a0), some (vI a1), some (vI a2), some (vI a3)]) (S' := [vI (-6), .ref 91]) rfl ?_
            obtain ⟨r27, A27, hf27, h⟩ := rz_b_inv h
            obtain ⟨hg27, hr27, hw27⟩ := cx142_no F (d := d + 0) hf27 (by decide) hw1
            refine rz_B.call (d := d + 0) (as := [.ref 91, vI (-6)]) (rest := []) (w := some (vI r27)) rfl hg27 ?_
            cases h
            exact rz_B.ret rfl hr27 hw27
      · have h := if_F h hc5
        refine rz_B.ifT ((lt32 ha2 (by decide)).mpr (Int.not_le.mp hc5)) ?_
        refine rz_B.go 2 (pc' := 30) (L' := [some (.ref 91), some (vI a0), some (vI a1), some (vI a2), some (vI a3)]) (S' := [vI (-4), .ref 91]) rfl ?_
        obtain ⟨r28, A28, hf28, h⟩ := rz_b_inv h
        obtain ⟨hg28, hr28, hw28⟩ := cx142_no F (d := d + 0) hf28 (by decide) hw1
        refine rz_B.call (d := d + 0) (as := [.ref 91, vI (-4)]) (rest := []) (w := some (vI r28)) rfl hg28 ?_
        cases h
        exact rz_B.ret rfl hr28 hw28
    · have h := if_F h hc4
      refine rz_B.ifT ((lt32 ha1 (by decide)).mpr (Int.not_le.mp hc4)) ?_
      refine rz_B.go 2 (pc' := 30) (L' := [some (.ref 91), some (vI a0), some (vI a1), some (vI a2), some (vI a3)]) (S' := [vI (-4), .ref 91]) rfl ?_
      obtain ⟨r29, A29, hf29, h⟩ := rz_b_inv h
      obtain ⟨hg29, hr29, hw29⟩ := cx142_no F (d := d + 0) hf29 (by decide) hw1
      refine rz_B.call (d := d + 0) (as := [.ref 91, vI (-4)]) (rest := []) (w := some (vI r29)) rfl hg29 ?_
      cases h
      exact rz_B.ret rfl hr29 hw29
/-- RiverGaugeModel.drop(I)I -/
def x164_drop (F : Nat) (a0 : Int) (A : rz_A) : Option (Int × rz_A) :=
  if 0 ≤ a0 then
    if (A.1 91 4) ≤ a0 then
      rz_b (x142_no F (-1) A) fun r3 A3 =>
      some (r3, A3)
    else
      rz_gx a0 60 <|
      if 0 ≤ (A.1 115 (a0).toNat) then
        rz_b (x142_no F (-3) A) fun r7 A7 =>
        some (r7, A7)
      else
        rz_g32 ((A.1 91 11) + 1) <|
        some (1, (aI (aI A 115 (a0).toNat (A.1 91 0)) 91 11 ((A.1 91 11) + 1)))
  else
    rz_b (x142_no F (-1) A) fun r11 A11 =>
    some (r11, A11)
theorem cx164_drop (F : Nat) {d : Nat} {a0 : Int} {A : rz_A} {r : Int} {A' : rz_A} (h : x164_drop F a0 A = some (r, A')) (ha0 : r32 a0) (hw : wf A) : rg_Rn (d + 1) 164 [.ref 91, vI a0] (toM A) (some (vI r)) (toM A') ∧ (r32 r) ∧ wf A' := by
  show rz_B (d + 1) 164 0 [some (.ref 91), some (vI a0)] [] A (some (vI r)) A' (r32 r)
  unfold x164_drop at h
  refine rz_B.go 2 (pc' := if decide (Int32.ofInt a0 < Int32.ofInt 0) = true then 12 else 4) (L' := [some (.ref 91), some (vI a0)]) (S' := []) rfl ?_
  by_cases hc1 : 0 ≤ a0
  · have h := if_T h hc1
    refine rz_B.ifF (mt (lt32 ha0 (by decide)).mp (Int.not_lt.mpr hc1)) ?_
    refine rz_B.go 4 (pc' := if decide (Int32.ofInt a0 < Int32.ofInt (A.1 91 4)) = true then 18 else 12) (L' := [some (.ref 91), some (vI a0)]) (S' := []) rfl ?_
    by_cases hc2 : (A.1 91 4) ≤ a0
    · have h := if_T h hc2
      refine rz_B.ifF (mt (lt32 ha0 (hw 91 4).1).mp (Int.not_lt.mpr hc2)) ?_
      refine rz_B.go 2 (pc' := 14) (L' := [some (.ref 91), some (vI a0)]) (S' := [vI (-1), .ref 91]) rfl ?_
      obtain ⟨r3, A3, hf3, h⟩ := rz_b_inv h
      obtain ⟨hg3, hr3, hw3⟩ := cx142_no F (d := d + 0) hf3 (by decide) hw
      refine rz_B.call (d := d + 0) (as := [.ref 91, vI (-1)]) (rest := []) (w := some (vI r3)) rfl hg3 ?_
      cases h
      exact rz_B.ret rfl hr3 hw3
    · have h := if_F h hc2
      refine rz_B.ifT ((lt32 ha0 (hw 91 4).1).mpr (Int.not_le.mp hc2)) ?_
      refine rz_B.go 3 (pc' := 23) (L' := [some (.ref 91), some (vI a0)]) (S' := [vI a0, .ref 115]) rfl ?_
      obtain ⟨hi4, hj5, h⟩ := rz_gx_inv h
      refine rz_B.iald rfl rfl hi4 hj5 (by decide) ?_
      refine rz_B.go 1 (pc' := if decide (Int32.ofInt (A.1 115 (a0).toNat) < Int32.ofInt 0) = true then 34 else 27) (L' := [some (.ref 91), some (vI a0)]) (S' := []) rfl ?_
      by_cases hc6 : 0 ≤ (A.1 115 (a0).toNat)
      · have h := if_T h hc6
        refine rz_B.ifF (mt (lt32 (hw 115 (a0).toNat).1 (by decide)).mp (Int.not_lt.mpr hc6)) ?_
        refine rz_B.go 2 (pc' := 30) (L' := [some (.ref 91), some (vI a0)]) (S' := [vI (-3), .ref 91]) rfl ?_
        obtain ⟨r7, A7, hf7, h⟩ := rz_b_inv h
        obtain ⟨hg7, hr7, hw7⟩ := cx142_no F (d := d + 0) hf7 (by decide) hw
        refine rz_B.call (d := d + 0) (as := [.ref 91, vI (-3)]) (rest := []) (w := some (vI r7)) rfl hg7 ?_
        cases h
        exact rz_B.ret rfl hr7 hw7
      · have h := if_F h hc6
        refine rz_B.ifT ((lt32 (hw 115 (a0).toNat).1 (by decide)).mpr (Int.not_le.mp hc6)) ?_
        refine rz_B.go 5 (pc' := 43) (L' := [some (.ref 91), some (vI a0)]) (S' := [vI (A.1 91 0), vI a0, .ref 115]) rfl ?_
        refine rz_B.iast rfl rfl hi4 hj5 (by decide) ?_
        have hw8 : wf (aI A 115 (a0).toNat (A.1 91 0)) := wf_aI hw (hw 91 0).1
        refine rz_B.go 4 (pc' := 50) (L' := [some (.ref 91), some (vI a0)]) (S' := [vI 1, vI (A.1 91 11), .ref 91]) rfl ?_
        obtain ⟨hk9, h⟩ := rz_g32_inv h
        refine rz_B.iadd rfl ?_
        refine rz_B.put 1 (pc' := 54) (L' := [some (.ref 91), some (vI a0)]) (S' := []) (c := 91) (k := 11) (x := ((A.1 91 11) + 1)) rfl ?_
        have hw10 : wf (aI (aI A 115 (a0).toNat (A.1 91 0)) 91 11 ((A.1 91 11) + 1)) := wf_aI hw8 hk9
        refine rz_B.go 1 (pc' := 55) (L' := [some (.ref 91), some (vI a0)]) (S' := [vI 1]) rfl ?_
        cases h
        exact rz_B.ret rfl (by decide) hw10
  · have h := if_F h hc1
    refine rz_B.ifT ((lt32 ha0 (by decide)).mpr (Int.not_le.mp hc1)) ?_
    refine rz_B.go 2 (pc' := 14) (L' := [some (.ref 91), some (vI a0)]) (S' := [vI (-1), .ref 91]) rfl ?_
    obtain ⟨r11, A11, hf11, h⟩ := rz_b_inv h
    obtain ⟨hg11, hr11, hw11⟩ := cx142_no F (d := d + 0) hf11 (by decide) hw
    refine rz_B.call (d := d + 0) (as := [.ref 91, vI (-1)]) (rest := []) (w := some (vI r11)) rfl hg11 ?_
    cases h
    exact rz_B.ret rfl hr11 hw11
def x166_isIn_29 (F : Nat) (v1 : Int) (v2 : Int) (A : rz_A) : Option (Int × rz_A) :=
  rz_gx v1 60 <|
  rz_b (x161_has F (A.1 110 (v1).toNat) (A.1 111 (v1).toNat) v2 A) fun r3 A3 =>
  if r3 = 0 then
    some (0, A3)
  else
    some (1, A3)
theorem cx166_isIn_29 {d : Nat} (F : Nat) : ∀ (v1 : Int) (v2 : Int) (A : rz_A) (r : Int) (A' : rz_A), x166_isIn_29 F v1 v2 A = some (r, A') → r32 v1 → r32 v2 → wf A → rz_B (d + 5) 166 29 [some (.ref 91), some (vI v1), some (vI v2)] [] A (some (vI r)) A' (r32 r) := by
  intro v1 v2 A r A' h hv1 hv2 hw
  unfold x166_isIn_29 at h
  refine rz_B.go 4 (pc' := 35) (L' := [some (.ref 91), some (vI v1), some (vI v2)]) (S' := [vI v1, .ref 110, .ref 91]) rfl ?_
  obtain ⟨hi1, hj2, h⟩ := rz_gx_inv h
  refine rz_B.iald rfl rfl hi1 hj2 (by decide) ?_
  refine rz_B.go 3 (pc' := 41) (L' := [some (.ref 91), some (vI v1), some (vI v2)]) (S' := [vI v1, .ref 111, vI (A.1 110 (v1).toNat), .ref 91]) rfl ?_
  refine rz_B.iald rfl rfl hi1 hj2 (by decide) ?_
  refine rz_B.go 1 (pc' := 43) (L' := [some (.ref 91), some (vI v1), some (vI v2)]) (S' := [vI v2, vI (A.1 111 (v1).toNat), vI (A.1 110 (v1).toNat), .ref 91]) rfl ?_
  obtain ⟨r3, A3, hf3, h⟩ := rz_b_inv h
  obtain ⟨hg3, hr3, hw3⟩ := cx161_has F (d := d + 0) hf3 (hw 110 (v1).toNat).1 (hw 111 (v1).toNat).1 hv2 hw
  refine rz_B.call (d := d + 4) (as := [.ref 91, vI (A.1 110 (v1).toNat), vI (A.1 111 (v1).toNat), vI v2]) (rest := []) (w := some (vI r3)) rfl hg3 ?_
  refine rz_B.go 1 (pc' := if decide (Int32.ofInt r3 = Int32.ofInt 0) = true then 53 else 49) (L' := [some (.ref 91), some (vI v1), some (vI v2)]) (S' := []) rfl ?_
  by_cases hc4 : r3 = 0
  · have h := if_T h hc4
    refine rz_B.ifT ((eq32 hr3 (by decide)).mpr hc4) ?_
    refine rz_B.go 1 (pc' := 54) (L' := [some (.ref 91), some (vI v1), some (vI v2)]) (S' := [vI 0]) rfl ?_
    cases h
    exact rz_B.ret rfl (by decide) hw3
  · have h := if_F h hc4
    refine rz_B.ifF (mt (eq32 hr3 (by decide)).mp hc4) ?_
    refine rz_B.go 2 (pc' := 54) (L' := [some (.ref 91), some (vI v1), some (vI v2)]) (S' := [vI 1]) rfl ?_
    cases h
    exact rz_B.ret rfl (by decide) hw3
/-- RiverGaugeModel.isIn(II)Z -/
def x166_isIn (F : Nat) (a0 : Int) (a1 : Int) (A : rz_A) : Option (Int × rz_A) :=
  rz_gx a0 60 <|
  if (A.1 114 (a0).toNat) ≤ a1 then
    if 0 ≤ (A.1 115 (a0).toNat) then
      if a1 < (A.1 115 (a0).toNat) then
        x166_isIn_29 F a0 a1 A
      else
        some (0, A)
    else
      x166_isIn_29 F a0 a1 A
  else
    some (0, A)
theorem cx166_isIn (F : Nat) {d : Nat} {a0 : Int} {a1 : Int} {A : rz_A} {r : Int} {A' : rz_A} (h : x166_isIn F a0 a1 A = some (r, A')) (ha0 : r32 a0) (ha1 : r32 a1) (hw : wf A) : rg_Rn (d + 5) 166 [.ref 91, vI a0, vI a1] (toM A) (some (vI r)) (toM A') ∧ (r32 r) ∧ wf A' := by
  show rz_B (d + 5) 166 0 [some (.ref 91), some (vI a0), some (vI a1)] [] A (some (vI r)) A' (r32 r)
  unfold x166_isIn at h
  refine rz_B.go 3 (pc' := 5) (L' := [some (.ref 91), some (vI a0), some (vI a1)]) (S' := [vI a0, .ref 114]) rfl ?_
  obtain ⟨hi1, hj2, h⟩ := rz_gx_inv h
  refine rz_B.iald rfl rfl hi1 hj2 (by decide) ?_
  refine rz_B.go 2 (pc' := if decide (Int32.ofInt a1 < Int32.ofInt (A.1 114 (a0).toNat)) = true then 53 else 10) (L' := [some (.ref 91), some (vI a0), some (vI a1)]) (S' := []) rfl ?_
  by_cases hc3 : (A.1 114 (a0).toNat) ≤ a1
  · have h := if_T h hc3
    refine rz_B.ifF (mt (lt32 ha1 (hw 114 (a0).toNat).1).mp (Int.not_lt.mpr hc3)) ?_
    refine rz_B.go 3 (pc' := 15) (L' := [some (.ref 91), some (vI a0), some (vI a1)]) (S' := [vI a0, .ref 115]) rfl ?_
    refine rz_B.iald rfl rfl hi1 hj2 (by decide) ?_
    refine rz_B.go 1 (pc' := if decide (Int32.ofInt (A.1 115 (a0).toNat) < Int32.ofInt 0) = true then 29 else 19) (L' := [some (.ref 91), some (vI a0), some (vI a1)]) (S' := []) rfl ?_
    by_cases hc4 : 0 ≤ (A.1 115 (a0).toNat)
    · have h := if_T h hc4
      refine rz_B.ifF (mt (lt32 (hw 115 (a0).toNat).1 (by decide)).mp (Int.not_lt.mpr hc4)) ?_
      refine rz_B.go 3 (pc' := 24) (L' := [some (.ref 91), some (vI a0), some (vI a1)]) (S' := [vI a0, .ref 115]) rfl ?_
      refine rz_B.iald rfl rfl hi1 hj2 (by decide) ?_
      refine rz_B.go 2 (pc' := if decide (Int32.ofInt (A.1 115 (a0).toNat) ≤ Int32.ofInt a1) = true then 53 else 29) (L' := [some (.ref 91), some (vI a0), some (vI a1)]) (S' := []) rfl ?_
      by_cases hc5 : a1 < (A.1 115 (a0).toNat)
      · have h := if_T h hc5
        refine rz_B.ifF (mt (le32 (hw 115 (a0).toNat).1 ha1).mp (Int.not_le.mpr hc5)) ?_
        refine rz_B.more (rg_le_ok (L := [some (.ref 91), some (vI a0), some (vI a1)]) (by simp [rg_le])) ?_
        exact cx166_isIn_29 F _ _ _ _ _ h ha0 ha1 hw
      · have h := if_F h hc5
        refine rz_B.ifT ((le32 (hw 115 (a0).toNat).1 ha1).mpr (Int.not_lt.mp hc5)) ?_
        refine rz_B.go 1 (pc' := 54) (L' := [some (.ref 91), some (vI a0), some (vI a1)]) (S' := [vI 0]) rfl ?_
        cases h
        exact rz_B.ret rfl (by decide) hw
    · have h := if_F h hc4
      refine rz_B.ifT ((lt32 (hw 115 (a0).toNat).1 (by decide)).mpr (Int.not_le.mp hc4)) ?_
      refine rz_B.more (rg_le_ok (L := [some (.ref 91), some (vI a0), some (vI a1)]) (by simp [rg_le])) ?_
      exact cx166_isIn_29 F _ _ _ _ _ h ha0 ha1 hw
  · have h := if_F h hc3
    refine rz_B.ifT ((lt32 ha1 (hw 114 (a0).toNat).1).mpr (Int.not_le.mp hc3)) ?_
    refine rz_B.go 1 (pc' := 54) (L' := [some (.ref 91), some (vI a0), some (vI a1)]) (S' := [vI 0]) rfl ?_
    cases h
    exact rz_B.ret rfl (by decide) hw
/-- RiverGaugeModel.counts(II)I -/
def x165_counts (F : Nat) (a0 : Int) (a1 : Int) (A : rz_A) : Option (Int × rz_A) :=
  if 0 ≤ a0 then
    if (A.1 91 4) ≤ a0 then
      rz_b (x142_no F (-1) A) fun r3 A3 =>
      some (r3, A3)
    else
      rz_b (x147_times F a1 a1 A) fun r4 A4 =>
      if r4 = 0 then
        rz_b (x166_isIn F a0 a1 A4) fun r6 A6 =>
        if r6 = 0 then
          some (0, A6)
        else
          some (1, A6)
      else
        rz_b (x142_no F r4 A4) fun r8 A8 =>
        some (r8, A8)
  else
    rz_b (x142_no F (-1) A) fun r9 A9 =>
    some (r9, A9)
theorem cx165_counts (F : Nat) {d : Nat} {a0 : Int} {a1 : Int} {A : rz_A} {r : Int} {A' : rz_A} (h : x165_counts F a0 a1 A = some (r, A')) (ha0 : r32 a0) (ha1 : r32 a1) (hw : wf A) : rg_Rn (d + 6) 165 [.ref 91, vI a0, vI a1] (toM A) (some (vI r)) (toM A') ∧ (r32 r) ∧ wf A' := by
  show rz_B (d + 6) 165 0 [some (.ref 91), some (vI a0), some (vI a1), none] [] A (some (vI r)) A' (r32 r)
  unfold x165_counts at h
  refine rz_B.go 2 (pc' := if decide (Int32.ofInt a0 < Int32.ofInt 0) = true then 12 else 4) (L' := [some (.ref 91), some (vI a0), some (vI a1), none]) (S' := []) rfl ?_
  by_cases hc1 : 0 ≤ a0
  · have h := if_T h hc1
    refine rz_B.ifF (mt (lt32 ha0 (by decide)).mp (Int.not_lt.mpr hc1)) ?_
    refine rz_B.go 4 (pc' := if decide (Int32.ofInt a0 < Int32.ofInt (A.1 91 4)) = true then 16 else 12) (L' := [some (.ref 91), some (vI a0), some (vI a1), none]) (S' := []) rfl ?_
    by_cases hc2 : (A.1 91 4) ≤ a0
    · have h := if_T h hc2
      refine rz_B.ifF (mt (lt32 ha0 (hw 91 4).1).mp (Int.not_lt.mpr hc2)) ?_
      refine rz_B.go 7 (pc' := 28) (L' := [some (.ref 91), some (vI a0), some (vI a1), some (vI (-1))]) (S' := [vI (-1), .ref 91]) rfl ?_
      obtain ⟨r3, A3, hf3, h⟩ := rz_b_inv h
      obtain ⟨hg3, hr3, hw3⟩ := cx142_no F (d := d + 5) hf3 (by decide) hw
      refine rz_B.call (d := d + 5) (as := [.ref 91, vI (-1)]) (rest := []) (w := some (vI r3)) rfl hg3 ?_
      refine rz_B.go 1 (pc' := 48) (L' := [some (.ref 91), some (vI a0), some (vI a1), some (vI (-1))]) (S' := [vI r3]) rfl ?_
      cases h
      exact rz_B.ret rfl hr3 hw3
    · have h := if_F h hc2
      refine rz_B.ifT ((lt32 ha0 (hw 91 4).1).mpr (Int.not_le.mp hc2)) ?_
      refine rz_B.go 2 (pc' := 18) (L' := [some (.ref 91), some (vI a0), some (vI a1), none]) (S' := [vI a1, vI a1]) rfl ?_
      obtain ⟨r4, A4, hf4, h⟩ := rz_b_inv h
      obtain ⟨hg4, hr4, hw4⟩ := cx147_times F (d := d + 5) hf4 ha1 ha1 hw
      refine rz_B.call (d := d + 5) (as := [vI a1, vI a1]) (rest := []) (w := some (vI r4)) rfl hg4 ?_
      refine rz_B.go 3 (pc' := if decide (Int32.ofInt r4 = Int32.ofInt 0) = true then 34 else 26) (L' := [some (.ref 91), some (vI a0), some (vI a1), some (vI r4)]) (S' := []) rfl ?_
      by_cases hc5 : r4 = 0
      · have h := if_T h hc5
        refine rz_B.ifT ((eq32 hr4 (by decide)).mpr hc5) ?_
        refine rz_B.go 3 (pc' := 37) (L' := [some (.ref 91), some (vI a0), some (vI a1), some (vI r4)]) (S' := [vI a1, vI a0, .ref 91]) rfl ?_
        obtain ⟨r6, A6, hf6, h⟩ := rz_b_inv h
        obtain ⟨hg6, hr6, hw6⟩ := cx166_isIn F (d := d + 0) hf6 ha0 ha1 hw4
        refine rz_B.call (d := d + 5) (as := [.ref 91, vI a0, vI a1]) (rest := []) (w := some (vI r6)) rfl hg6 ?_
        refine rz_B.go 1 (pc' := if decide (Int32.ofInt r6 = Int32.ofInt 0) = true then 47 else 43) (L' := [some (.ref 91), some (vI a0), some (vI a1), some (vI r4)]) (S' := []) rfl ?_
        by_cases hc7 : r6 = 0
        · have h := if_T h hc7
          refine rz_B.ifT ((eq32 hr6 (by decide)).mpr hc7) ?_
          refine rz_B.go 1 (pc' := 48) (L' := [some (.ref 91), some (vI a0), some (vI a1), some (vI r4)]) (S' := [vI 0]) rfl ?_
          cases h
          exact rz_B.ret rfl (by decide) hw6
        · have h := if_F h hc7
          refine rz_B.ifF (mt (eq32 hr6 (by decide)).mp hc7) ?_
          refine rz_B.go 2 (pc' := 48) (L' := [some (.ref 91), some (vI a0), some (vI a1), some (vI r4)]) (S' := [vI 1]) rfl ?_
          cases h
          exact rz_B.ret rfl (by decide) hw6
      · have h := if_F h hc5
        refine rz_B.ifF (mt (eq32 hr4 (by decide)).mp hc5) ?_
        refine rz_B.go 2 (pc' := 28) (L' := [some (.ref 91), some (vI a0), some (vI a1), some (vI r4)]) (S' := [vI r4, .ref 91]) rfl ?_
        obtain ⟨r8, A8, hf8, h⟩ := rz_b_inv h
        obtain ⟨hg8, hr8, hw8⟩ := cx142_no F (d := d + 5) hf8 hr4 hw4
        refine rz_B.call (d := d + 5) (as := [.ref 91, vI r4]) (rest := []) (w := some (vI r8)) rfl hg8 ?_
        refine rz_B.go 1 (pc' := 48) (L' := [some (.ref 91), some (vI a0), some (vI a1), some (vI r4)]) (S' := [vI r8]) rfl ?_
        cases h
        exact rz_B.ret rfl hr8 hw8
  · have h := if_F h hc1
    refine rz_B.ifT ((lt32 ha0 (by decide)).mpr (Int.not_le.mp hc1)) ?_
    refine rz_B.go 7 (pc' := 28) (L' := [some (.ref 91), some (vI a0), some (vI a1), some (vI (-1))]) (S' := [vI (-1), .ref 91]) rfl ?_
    obtain ⟨r9, A9, hf9, h⟩ := rz_b_inv h
    obtain ⟨hg9, hr9, hw9⟩ := cx142_no F (d := d + 5) hf9 (by decide) hw
    refine rz_B.call (d := d + 5) (as := [.ref 91, vI (-1)]) (rest := []) (w := some (vI r9)) rfl hg9 ?_
    refine rz_B.go 1 (pc' := 48) (L' := [some (.ref 91), some (vI a0), some (vI a1), some (vI (-1))]) (S' := [vI r9]) rfl ?_
    cases h
    exact rz_B.ret rfl hr9 hw9
def x167_feed_39 (F : Nat) : Nat → Int → Int → Int → rz_A → Option (Int × rz_A)
  | 0, _, _, _, _ => none
  | n + 1, v1, v2, v4, A =>
    if v4 < v1 then
      rz_g32 ((A.1 91 8) + 1) <|
      rz_g32 (8 * v4) <|
      rz_g32 (rz_oL gAnd (rz_oS gShr v2 (8 * v4)) 255) <|
      rz_gx (A.1 91 8) 60 <|
      rz_g32 (v4 + 1) <|
      x167_feed_39 F n v1 v2 (v4 + 1) (aI (aI A 91 8 ((A.1 91 8) + 1)) 130 ((A.1 91 8)).toNat (rz_oL gAnd (rz_oS gShr v2 (8 * v4)) 255))
    else
      some ((A.1 91 8), A)
theorem cx167_feed_39 {d : Nat} (F : Nat) : ∀ (n : Nat) (v1 : Int) (v2 : Int) (v4 : Int) (A : rz_A) (r : Int) (A' : rz_A), x167_feed_39 F n v1 v2 v4 A = some (r, A') → r32 v1 → r64 v2 → r32 v4 → wf A → rz_B (d + 1) 167 39 [some (.ref 91), some (vI v1), some (vL v2), none, some (vI v4)] [] A (some (vI r)) A' (r32 r) := by
  intro n
  induction n with
  | zero => intro v1 v2 v4 A r A' h; cases h
  | succ n ih =>
    intro v1 v2 v4 A r A' h hv1 hv2 hv4 hw
    rw [x167_feed_39] at h
    refine rz_B.go 3 (pc' := if decide (Int32.ofInt v1 ≤ Int32.ofInt v4) = true then 79 else 45) (L' := [some (.ref 91), some (vI v1), some (vL v2), none, some (vI v4)]) (S' := []) rfl ?_
    by_cases hc1 : v4 < v1
    · have h := if_T h hc1
      refine rz_B.ifF (mt (le32 hv1 hv4).mp (Int.not_le.mpr hc1)) ?_
      refine rz_B.go 7 (pc' := 56) (L' := [some (.ref 91), some (vI v1), some (vL v2), none, some (vI v4)]) (S' := [vI 1, vI (A.1 91 8), .ref 91, vI (A.1 91 8), .ref 130]) rfl ?_
      obtain ⟨hk2, h⟩ := rz_g32_inv h
      refine rz_B.iadd rfl ?_
      refine rz_B.put 1 (pc' := 60) (L' := [some (.ref 91), some (vI v1), some (vL v2), none, some (vI v4)]) (S' := [vI (A.1 91 8), .ref 130]) (c := 91) (k := 8) (x := ((A.1 91 8) + 1)) rfl ?_
      have hw3 : wf (aI A 91 8 ((A.1 91 8) + 1)) := wf_aI hw hk2
      refine rz_B.go 3 (pc' := 65) (L' := [some (.ref 91), some (vI v1), some (vL v2), none, some (vI v4)]) (S' := [vI v4, vI 8, vL v2, vI (A.1 91 8), .ref 130]) rfl ?_
      obtain ⟨hk4, h⟩ := rz_g32_inv h
      refine rz_B.imul rfl ?_
      refine rz_B.oS gShr rfl ?_
      refine rz_B.go 1 (pc' := 70) (L' := [some (.ref 91), some (vI v1), some (vL v2), none, some (vI v4)]) (S' := [vL 255, vL (rz_oS gShr v2 (8 * v4)), vI (A.1 91 8), .ref 130]) rfl ?_
      refine rz_B.oL gAnd rfl ?_
      obtain ⟨hk5, h⟩ := rz_g32_inv h
      refine rz_B.l2i rfl ?_
      obtain ⟨hi6, hj7, h⟩ := rz_gx_inv h
      refine rz_B.iast rfl rfl hi6 hj7 (by decide) ?_
      have hw8 : wf (aI (aI A 91 8 ((A.1 91 8) + 1)) 130 ((A.1 91 8)).toNat (rz_oL gAnd (rz_oS gShr v2 (8 * v4)) 255)) := wf_aI hw3 hk5
      obtain ⟨hk9, h⟩ := rz_g32_inv h
      refine rz_B.iinc rfl (by decide) rfl (L' := [some (.ref 91), some (vI v1), some (vL v2), none, some (vI (v4 + 1))]) rfl ?_
      refine rz_B.go 1 (pc' := 39) (L' := [some (.ref 91), some (vI v1), some (vL v2), none, some (vI (v4 + 1))]) (S' := []) rfl ?_
      refine rz_B.more (rg_le_ok (L := [some (.ref 91), some (vI v1), some (vL v2), none, some (vI (v4 + 1))]) (by simp [rg_le])) ?_
      exact ih _ _ _ _ _ _ h hv1 hv2 hk9 hw8
    · have h := if_F h hc1
      refine rz_B.ifT ((le32 hv1 hv4).mpr (Int.not_lt.mp hc1)) ?_
      refine rz_B.go 2 (pc' := 83) (L' := [some (.ref 91), some (vI v1), some (vL v2), none, some (vI v4)]) (S' := [vI (A.1 91 8)]) rfl ?_
      cases h
      exact rz_B.ret rfl (hw 91 8).1 hw
/-- RiverGaugeModel.feed(IJ)I -/
def x167_feed (F : Nat) (a0 : Int) (a1 : Int) (A : rz_A) : Option (Int × rz_A) :=
  if a0 < 1 then
    rz_b (x142_no F (-4) A) fun r2 A2 =>
    some (r2, A2)
  else
    if a0 ≤ 8 then
      rz_g32 ((A.1 91 8) + a0) <|
      if 60 < ((A.1 91 8) + a0) then
        rz_b (x142_no F (-6) A) fun r6 A6 =>
        some (r6, A6)
      else
        x167_feed_39 F F a0 a1 0 A
    else
      rz_b (x142_no F (-6) A) fun r7 A7 =>
      some (r7, A7)
theorem cx167_feed (F : Nat) {d : Nat} {a0 : Int} {a1 : Int} {A : rz_A} {r : Int} {A' : rz_A} (h : x167_feed F a0 a1 A = some (r, A')) (ha0 : r32 a0) (ha1 : r64 a1) (hw : wf A) : rg_Rn (d + 1) 167 [.ref 91, vI a0, vL a1] (toM A) (some (vI r)) (toM A') ∧ (r32 r) ∧ wf A' := by
  show rz_B (d + 1) 167 0 [some (.ref 91), some (vI a0), some (vL a1), none, none] [] A (some (vI r)) A' (r32 r)
  unfold x167_feed at h
  refine rz_B.go 3 (pc' := if decide (Int32.ofInt 1 ≤ Int32.ofInt a0) = true then 12 else 5) (L' := [some (.ref 91), some (vI a0), some (vL a1), none, none]) (S' := []) rfl ?_
  by_cases hc1 : a0 < 1
  · have h := if_T h hc1
    refine rz_B.ifF (mt (le32 (by decide) ha0).mp (Int.not_le.mpr hc1)) ?_
    refine rz_B.go 2 (pc' := 8) (L' := [some (.ref 91), some (vI a0), some (vL a1), none, none]) (S' := [vI (-4), .ref 91]) rfl ?_
    obtain ⟨r2, A2, hf2, h⟩ := rz_b_inv h
    obtain ⟨hg2, hr2, hw2⟩ := cx142_no F (d := d + 0) hf2 (by decide) hw
    refine rz_B.call (d := d + 0) (as := [.ref 91, vI (-4)]) (rest := []) (w := some (vI r2)) rfl hg2 ?_
    cases h
    exact rz_B.ret rfl hr2 hw2
  · have h := if_F h hc1
    refine rz_B.ifT ((le32 (by decide) ha0).mpr (Int.not_lt.mp hc1)) ?_
    refine rz_B.go 3 (pc' := if decide (Int32.ofInt 8 < Int32.ofInt a0) = true then 29 else 18) (L' := [some (.ref 91), some (vI a0), some (vL a1), none, none]) (S' := []) rfl ?_
    by_cases hc3 : a0 ≤ 8
    · have h := if_T h hc3
      refine rz_B.ifF (mt (lt32 (by decide) ha0).mp (Int.not_lt.mpr hc3)) ?_
      refine rz_B.go 3 (pc' := 23) (L' := [some (.ref 91), some (vI a0), some (vL a1), none, none]) (S' := [vI a0, vI (A.1 91 8)]) rfl ?_
      obtain ⟨hk4, h⟩ := rz_g32_inv h
      refine rz_B.iadd rfl ?_
      refine rz_B.go 2 (pc' := if decide (Int32.ofInt ((A.1 91 8) + a0) ≤ Int32.ofInt 60) = true then 36 else 29) (L' := [some (.ref 91), some (vI a0), some (vL a1), none, none]) (S' := []) rfl ?_
      by_cases hc5 : 60 < ((A.1 91 8) + a0)
      · have h := if_T h hc5
        refine rz_B.ifF (mt (le32 hk4 (by decide)).mp (Int.not_le.mpr hc5)) ?_
        refine rz_B.go 2 (pc' := 32) (L' := [some (.ref 91), some (vI a0), some (vL a1), none, none]) (S' := [vI (-6), .ref 91]) rfl ?_
        obtain ⟨r6, A6, hf6, h⟩ := rz_b_inv h
        obtain ⟨hg6, hr6, hw6⟩ := cx142_no F (d := d + 0) hf6 (by decide) hw
        refine rz_B.call (d := d + 0) (as := [.ref 91, vI (-6)]) (rest := []) (w := some (vI r6)) rfl hg6 ?_
        cases h
        exact rz_B.ret rfl hr6 hw6
      · have h := if_F h hc5
        refine rz_B.ifT ((le32 hk4 (by decide)).mpr (Int.not_lt.mp hc5)) ?_
        refine rz_B.go 2 (pc' := 39) (L' := [some (.ref 91), some (vI a0), some (vL a1), none, some (vI 0)]) (S' := []) rfl ?_
        refine rz_B.more (rg_le_ok (L := [some (.ref 91), some (vI a0), some (vL a1), none, some (vI 0)]) (by simp [rg_le])) ?_
        exact cx167_feed_39 F F _ _ _ _ _ _ h ha0 ha1 (by decide) hw
    · have h := if_F h hc3
      refine rz_B.ifT ((lt32 (by decide) ha0).mpr (Int.not_le.mp hc3)) ?_
      refine rz_B.go 2 (pc' := 32) (L' := [some (.ref 91), some (vI a0), some (vL a1), none, none]) (S' := [vI (-6), .ref 91]) rfl ?_
      obtain ⟨r7, A7, hf7, h⟩ := rz_b_inv h
      obtain ⟨hg7, hr7, hw7⟩ := cx142_no F (d := d + 0) hf7 (by decide) hw
      refine rz_B.call (d := d + 0) (as := [.ref 91, vI (-6)]) (rest := []) (w := some (vI r7)) rfl hg7 ?_
      cases h
      exact rz_B.ret rfl hr7 hw7
def x176_pops_0 (F : Nat) : Nat → Int → rz_A → Option (Unit × rz_A)
  | 0, _, _ => none
  | n + 1, v1, A =>
    if 0 < (A.1 91 59) then
      rz_g32 ((A.1 91 59) - 1) <|
      rz_gx ((A.1 91 59) - 1) 80 <|
      if (A.1 134 (((A.1 91 59) - 1)).toNat) = (-41) then
        rz_g32 ((A.1 91 58) + 1) <|
        rz_gx (A.1 91 58) 140 <|
        x176_pops_0 F n v1 (aI (aI (aI A 91 58 ((A.1 91 58) + 1)) 91 59 ((A.1 91 59) - 1)) 135 ((A.1 91 58)).toNat (A.1 134 (((A.1 91 59) - 1)).toNat))
      else
        if (A.1 134 (((A.1 91 59) - 1)).toNat) = (-40) then
          if v1 = 0 then
            rz_g32 ((A.1 91 58) + 1) <|
            rz_gx (A.1 91 58) 140 <|
            x176_pops_0 F n v1 (aI (aI (aI A 91 58 ((A.1 91 58) + 1)) 91 59 ((A.1 91 59) - 1)) 135 ((A.1 91 58)).toNat (A.1 134 (((A.1 91 59) - 1)).toNat))
          else
            some ((), A)
        else
          some ((), A)
    else
      some ((), A)
theorem cx176_pops_0 {d : Nat} (F : Nat) : ∀ (n : Nat) (v1 : Int) (A : rz_A) (r : Unit) (A' : rz_A), x176_pops_0 F n v1 A = some (r, A') → r32 v1 → wf A → rz_B (d + 0) 176 0 [some (.ref 91), some (vI v1)] [] A (none) A' (True) := by
  intro n
  induction n with
  | zero => intro v1 A r A' h; cases h
  | succ n ih =>
    intro v1 A r A' h hv1 hw
    rw [x176_pops_0] at h
    refine rz_B.go 3 (pc' := if decide (Int32.ofInt (A.1 91 59) ≤ Int32.ofInt 0) = true then 78 else 7) (L' := [some (.ref 91), some (vI v1)]) (S' := []) rfl ?_
    by_cases hc1 : 0 < (A.1 91 59)
    · have h := if_T h hc1
      refine rz_B.ifF (mt (le32 (hw 91 59).1 (by decide)).mp (Int.not_le.mpr hc1)) ?_
      refine rz_B.go 5 (pc' := 16) (L' := [some (.ref 91), some (vI v1)]) (S' := [vI 1, vI (A.1 91 59), .ref 134]) rfl ?_
      obtain ⟨hk2, h⟩ := rz_g32_inv h
      refine rz_B.isub rfl ?_
      obtain ⟨hi3, hj4, h⟩ := rz_gx_inv h
      refine rz_B.iald rfl rfl hi3 hj4 (by decide) ?_
      refine rz_B.go 2 (pc' := if decide (Int32.ofInt (A.1 134 (((A.1 91 59) - 1)).toNat) = Int32.ofInt (-41)) = true then 43 else 23) (L' := [some (.ref 91), some (vI v1)]) (S' := []) rfl ?_
      by_cases hc5 : (A.1 134 (((A.1 91 59) - 1)).toNat) = (-41)
      · have h := if_T h hc5
        refine rz_B.ifT ((eq32 (hw 134 (((A.1 91 59) - 1)).toNat).1 (by decide)).mpr hc5) ?_
        refine rz_B.go 7 (pc' := 54) (L' := [some (.ref 91), some (vI v1)]) (S' := [vI 1, vI (A.1 91 58), .ref 91, vI (A.1 91 58), .ref 135]) rfl ?_
        obtain ⟨hk6, h⟩ := rz_g32_inv h
        refine rz_B.iadd rfl ?_
        refine rz_B.put 1 (pc' := 58) (L' := [some (.ref 91), some (vI v1)]) (S' := [vI (A.1 91 58), .ref 135]) (c := 91) (k := 58) (x := ((A.1 91 58) + 1)) rfl ?_
        have hw7 : wf (aI A 91 58 ((A.1 91 58) + 1)) := wf_aI hw hk6
        refine rz_B.go 6 (pc' := 68) (L' := [some (.ref 91), some (vI v1)]) (S' := [vI 1, vI (A.1 91 59), .ref 91, .ref 134, vI (A.1 91 58), .ref 135]) rfl ?_
        refine rz_B.isub rfl ?_
        refine rz_B.put 2 (pc' := 73) (L' := [some (.ref 91), some (vI v1)]) (S' := [vI ((A.1 91 59) - 1), .ref 134, vI (A.1 91 58), .ref 135]) (c := 91) (k := 59) (x := ((A.1 91 59) - 1)) rfl ?_
        have hw8 : wf (aI (aI A 91 58 ((A.1 91 58) + 1)) 91 59 ((A.1 91 59) - 1)) := wf_aI hw7 hk2
        refine rz_B.iald rfl rfl hi3 hj4 (by decide) ?_
        obtain ⟨hi9, hj10, h⟩ := rz_gx_inv h
        refine rz_B.iast rfl rfl hi9 hj10 (by decide) ?_
        have hw11 : wf (aI (aI (aI A 91 58 ((A.1 91 58) + 1)) 91 59 ((A.1 91 59) - 1)) 135 ((A.1 91 58)).toNat (A.1 134 (((A.1 91 59) - 1)).toNat)) := wf_aI hw8 (hw 134 (((A.1 91 59) - 1)).toNat).1
        refine rz_B.go 1 (pc' := 0) (L' := [some (.ref 91), some (vI v1)]) (S' := []) rfl ?_
        refine rz_B.more (rg_le_ok (L := [some (.ref 91), some (vI v1)]) (by simp [rg_le])) ?_
        exact ih _ _ _ _ h hv1 hw11
      · have h := if_F h hc5
        refine rz_B.ifF (mt (eq32 (hw 134 (((A.1 91 59) - 1)).toNat).1 (by decide)).mp hc5) ?_
        refine rz_B.go 5 (pc' := 32) (L' := [some (.ref 91), some (vI v1)]) (S' := [vI 1, vI (A.1 91 59), .ref 134]) rfl ?_
        refine rz_B.isub rfl ?_
        refine rz_B.iald rfl rfl hi3 hj4 (by decide) ?_
        refine rz_B.go 2 (pc' := if decide (¬ Int32.ofInt (A.1 134 (((A.1 91 59) - 1)).toNat) = Int32.ofInt (-40)) = true then 78 else 39) (L' := [some (.ref 91), some (vI v1)]) (S' := []) rfl ?_
        by_cases hc12 : (A.1 134 (((A.1 91 59) - 1)).toNat) = (-40)
        · have h := if_T h hc12
          refine rz_B.ifF (fun hn => hn ((eq32 (hw 134 (((A.1 91 59) - 1)).toNat).1 (by decide)).mpr hc12)) ?_
          refine rz_B.go 2 (pc' := if decide (¬ Int32.ofInt v1 = Int32.ofInt 0) = true then 78 else 43) (L' := [some (.ref 91), some (vI v1)]) (S' := []) rfl ?_
          by_cases hc13 : v1 = 0
          · have h := if_T h hc13
            refine rz_B.ifF (fun hn => hn ((eq32 hv1 (by decide)).mpr hc13)) ?_
            refine rz_B.go 7 (pc' := 54) (L' := [some (.ref 91), some (vI v1)]) (S' := [vI 1, vI (A.1 91 58), .ref 91, vI (A.1 91 58), .ref 135]) rfl ?_
            obtain ⟨hk14, h⟩ := rz_g32_inv h
            refine rz_B.iadd rfl ?_
            refine rz_B.put 1 (pc' := 58) (L' := [some (.ref 91), some (vI v1)]) (S' := [vI (A.1 91 58), .ref 135]) (c := 91) (k := 58) (x := ((A.1 91 58) + 1)) rfl ?_
            have hw15 : wf (aI A 91 58 ((A.1 91 58) + 1)) := wf_aI hw hk14
            refine rz_B.go 6 (pc' := 68) (L' := [some (.ref 91), some (vI v1)]) (S' := [vI 1, vI (A.1 91 59), .ref 91, .ref 134, vI (A.1 91 58), .ref 135]) rfl ?_
            refine rz_B.isub rfl ?_
            refine rz_B.put 2 (pc' := 73) (L' := [some (.ref 91), some (vI v1)]) (S' := [vI ((A.1 91 59) - 1), .ref 134, vI (A.1 91 58), .ref 135]) (c := 91) (k := 59) (x := ((A.1 91 59) - 1)) rfl ?_
            have hw16 : wf (aI (aI A 91 58 ((A.1 91 58) + 1)) 91 59 ((A.1 91 59) - 1)) := wf_aI hw15 hk2
            refine rz_B.iald rfl rfl hi3 hj4 (by decide) ?_
            obtain ⟨hi17, hj18, h⟩ := rz_gx_inv h
            refine rz_B.iast rfl rfl hi17 hj18 (by decide) ?_
            have hw19 : wf (aI (aI (aI A 91 58 ((A.1 91 58) + 1)) 91 59 ((A.1 91 59) - 1)) 135 ((A.1 91 58)).toNat (A.1 134 (((A.1 91 59) - 1)).toNat)) := wf_aI hw16 (hw 134 (((A.1 91 59) - 1)).toNat).1
            refine rz_B.go 1 (pc' := 0) (L' := [some (.ref 91), some (vI v1)]) (S' := []) rfl ?_
            refine rz_B.more (rg_le_ok (L := [some (.ref 91), some (vI v1)]) (by simp [rg_le])) ?_
            exact ih _ _ _ _ h hv1 hw19
          · have h := if_F h hc13
            refine rz_B.ifT (mt (eq32 hv1 (by decide)).mp hc13) ?_
            cases h
            exact rz_B.ret rfl trivial hw
        · have h := if_F h hc12
          refine rz_B.ifT (mt (eq32 (hw 134 (((A.1 91 59) - 1)).toNat).1 (by decide)).mp hc12) ?_
          cases h
          exact rz_B.ret rfl trivial hw
    · have h := if_F h hc1
      refine rz_B.ifT ((le32 (hw 91 59).1 (by decide)).mpr (Int.not_lt.mp hc1)) ?_
      cases h
      exact rz_B.ret rfl trivial hw
/-- RiverGaugeModel.pops(Z)V -/
def x176_pops (F : Nat) (a0 : Int) (A : rz_A) : Option (Unit × rz_A) :=
  x176_pops_0 F F a0 A
theorem cx176_pops (F : Nat) {d : Nat} {a0 : Int} {A : rz_A} {r : Unit} {A' : rz_A} (h : x176_pops F a0 A = some (r, A')) (ha0 : r32 a0) (hw : wf A) : rg_Rn (d + 0) 176 [.ref 91, vI a0] (toM A) (none) (toM A') ∧ (True) ∧ wf A' := by
  show rz_B (d + 0) 176 0 [some (.ref 91), some (vI a0)] [] A (none) A' (True)
  unfold x176_pops at h
  refine rz_B.more (rg_le_ok (L := [some (.ref 91), some (vI a0)]) (by simp [rg_le])) ?_
  exact cx176_pops_0 F F _ _ _ _ h ha0 hw
def x175_denies_0 (F : Nat) : Nat → rz_A → Option (Unit × rz_A)
  | 0, _ => none
  | n + 1, A =>
    if 0 < (A.1 91 59) then
      rz_g32 ((A.1 91 59) - 1) <|
      rz_gx ((A.1 91 59) - 1) 80 <|
      if (A.1 134 (((A.1 91 59) - 1)).toNat) = (-42) then
        rz_g32 ((A.1 91 58) + 1) <|
        rz_gx (A.1 91 58) 140 <|
        rz_g32 ((A.1 91 60) - 1) <|
        x175_denies_0 F n (aI (aI (aI (aI A 91 58 ((A.1 91 58) + 1)) 91 59 ((A.1 91 59) - 1)) 135 ((A.1 91 58)).toNat (A.1 134 (((A.1 91 59) - 1)).toNat)) 91 60 ((A.1 91 60) - 1))
      else
        some ((), A)
    else
      some ((), A)
theorem cx175_denies_0 {d : Nat} (F : Nat) : ∀ (n : Nat) (A : rz_A) (r : Unit) (A' : rz_A), x175_denies_0 F n A = some (r, A') → wf A → rz_B (d + 0) 175 0 [some (.ref 91)] [] A (none) A' (True) := by
  intro n
  induction n with
  | zero => intro A r A' h; cases h
  | succ n ih =>
    intro A r A' h hw
    rw [x175_denies_0] at h
    refine rz_B.go 3 (pc' := if decide (Int32.ofInt (A.1 91 59) ≤ Int32.ofInt 0) = true then 68 else 7) (L' := [some (.ref 91)]) (S' := []) rfl ?_
    by_cases hc1 : 0 < (A.1 91 59)
    · have h := if_T h hc1
      refine rz_B.ifF (mt (le32 (hw 91 59).1 (by decide)).mp (Int.not_le.mpr hc1)) ?_
      refine rz_B.go 5 (pc' := 16) (L' := [some (.ref 91)]) (S' := [vI 1, vI (A.1 91 59), .ref 134]) rfl ?_
      obtain ⟨hk2, h⟩ := rz_g32_inv h
      refine rz_B.isub rfl ?_
      obtain ⟨hi3, hj4, h⟩ := rz_gx_inv h
      refine rz_B.iald rfl rfl hi3 hj4 (by decide) ?_
      refine rz_B.go 2 (pc' := if decide (¬ Int32.ofInt (A.1 134 (((A.1 91 59) - 1)).toNat) = Int32.ofInt (-42)) = true then 68 else 23) (L' := [some (.ref 91)]) (S' := []) rfl ?_
      by_cases hc5 : (A.1 134 (((A.1 91 59) - 1)).toNat) = (-42)
      · have h := if_T h hc5
        refine rz_B.ifF (fun hn => hn ((eq32 (hw 134 (((A.1 91 59) - 1)).toNat).1 (by decide)).mpr hc5)) ?_
        refine rz_B.go 7 (pc' := 34) (L' := [some (.ref 91)]) (S' := [vI 1, vI (A.1 91 58), .ref 91, vI (A.1 91 58), .ref 135]) rfl ?_
        obtain ⟨hk6, h⟩ := rz_g32_inv h
        refine rz_B.iadd rfl ?_
        refine rz_B.put 1 (pc' := 38) (L' := [some (.ref 91)]) (S' := [vI (A.1 91 58), .ref 135]) (c := 91) (k := 58) (x := ((A.1 91 58) + 1)) rfl ?_
        have hw7 : wf (aI A 91 58 ((A.1 91 58) + 1)) := wf_aI hw hk6
        refine rz_B.go 6 (pc' := 48) (L' := [some (.ref 91)]) (S' := [vI 1, vI (A.1 91 59), .ref 91, .ref 134, vI (A.1 91 58), .ref 135]) rfl ?_
        refine rz_B.isub rfl ?_
        refine rz_B.put 2 (pc' := 53) (L' := [some (.ref 91)]) (S' := [vI ((A.1 91 59) - 1), .ref 134, vI (A.1 91 58), .ref 135]) (c := 91) (k := 59) (x := ((A.1 91 59) - 1)) rfl ?_
        have hw8 : wf (aI (aI A 91 58 ((A.1 91 58) + 1)) 91 59 ((A.1 91 59) - 1)) := wf_aI hw7 hk2
        refine rz_B.iald rfl rfl hi3 hj4 (by decide) ?_
        obtain ⟨hi9, hj10, h⟩ := rz_gx_inv h
        refine rz_B.iast rfl rfl hi9 hj10 (by decide) ?_
        have hw11 : wf (aI (aI (aI A 91 58 ((A.1 91 58) + 1)) 91 59 ((A.1 91 59) - 1)) 135 ((A.1 91 58)).toNat (A.1 134 (((A.1 91 59) - 1)).toNat)) := wf_aI hw8 (hw 134 (((A.1 91 59) - 1)).toNat).1
        refine rz_B.go 4 (pc' := 61) (L' := [some (.ref 91)]) (S' := [vI 1, vI (A.1 91 60), .ref 91]) rfl ?_
        obtain ⟨hk12, h⟩ := rz_g32_inv h
        refine rz_B.isub rfl ?_
        refine rz_B.put 1 (pc' := 65) (L' := [some (.ref 91)]) (S' := []) (c := 91) (k := 60) (x := ((A.1 91 60) - 1)) rfl ?_
        have hw13 : wf (aI (aI (aI (aI A 91 58 ((A.1 91 58) + 1)) 91 59 ((A.1 91 59) - 1)) 135 ((A.1 91 58)).toNat (A.1 134 (((A.1 91 59) - 1)).toNat)) 91 60 ((A.1 91 60) - 1)) := wf_aI hw11 hk12
        refine rz_B.go 1 (pc' := 0) (L' := [some (.ref 91)]) (S' := []) rfl ?_
        refine rz_B.more (rg_le_ok (L := [some (.ref 91)]) (by simp [rg_le])) ?_
        exact ih _ _ _ h hw13
      · have h := if_F h hc5
        refine rz_B.ifT (mt (eq32 (hw 134 (((A.1 91 59) - 1)).toNat).1 (by decide)).mp hc5) ?_
        cases h
        exact rz_B.ret rfl trivial hw
    · have h := if_F h hc1
      refine rz_B.ifT ((le32 (hw 91 59).1 (by decide)).mpr (Int.not_lt.mp hc1)) ?_
      cases h
      exact rz_B.ret rfl trivial hw
/-- RiverGaugeModel.denies()V -/
def x175_denies (F : Nat) (A : rz_A) : Option (Unit × rz_A) :=
  x175_denies_0 F F A
theorem cx175_denies (F : Nat) {d : Nat} {A : rz_A} {r : Unit} {A' : rz_A} (h : x175_denies F A = some (r, A')) (hw : wf A) : rg_Rn (d + 0) 175 [.ref 91] (toM A) (none) (toM A') ∧ (True) ∧ wf A' := by
  show rz_B (d + 0) 175 0 [some (.ref 91)] [] A (none) A' (True)
  unfold x175_denies at h
  refine rz_B.more (rg_le_ok (L := [some (.ref 91)]) (by simp [rg_le])) ?_
  exact cx175_denies_0 F F _ _ _ h hw
/-- RiverGaugeModel.sign()I -/
def x170_sign (F : Nat) (A : rz_A) : Option (Int × rz_A) :=
  if (A.1 91 57) < (A.1 91 8) then
    rz_gx (A.1 91 57) 60 <|
    some ((A.1 130 ((A.1 91 57)).toNat), A)
  else
    some ((-1), A)
theorem cx170_sign (F : Nat) {d : Nat} {A : rz_A} {r : Int} {A' : rz_A} (h : x170_sign F A = some (r, A')) (hw : wf A) : rg_Rn (d + 0) 170 [.ref 91] (toM A) (some (vI r)) (toM A') ∧ (r32 r) ∧ wf A' := by
  show rz_B (d + 0) 170 0 [some (.ref 91)] [] A (some (vI r)) A' (r32 r)
  unfold x170_sign at h
  refine rz_B.go 5 (pc' := if decide (Int32.ofInt (A.1 91 8) ≤ Int32.ofInt (A.1 91 57)) = true then 23 else 11) (L' := [some (.ref 91)]) (S' := []) rfl ?_
  by_cases hc1 : (A.1 91 57) < (A.1 91 8)
  · have h := if_T h hc1
    refine rz_B.ifF (mt (le32 (hw 91 8).1 (hw 91 57).1).mp (Int.not_le.mpr hc1)) ?_
    refine rz_B.go 4 (pc' := 19) (L' := [some (.ref 91)]) (S' := [vI (A.1 91 57), .ref 130]) rfl ?_
    obtain ⟨hi2, hj3, h⟩ := rz_gx_inv h
    refine rz_B.iald rfl rfl hi2 hj3 (by decide) ?_
    refine rz_B.go 1 (pc' := 24) (L' := [some (.ref 91)]) (S' := [vI (A.1 130 ((A.1 91 57)).toNat)]) rfl ?_
    cases h
    exact rz_B.ret rfl (hw 130 ((A.1 91 57)).toNat).1 hw
  · have h := if_F h hc1
    refine rz_B.ifT ((le32 (hw 91 8).1 (hw 91 57).1).mpr (Int.not_lt.mp hc1)) ?_
    refine rz_B.go 1 (pc' := 24) (L' := [some (.ref 91)]) (S' := [vI (-1)]) rfl ?_
    cases h
    exact rz_B.ret rfl (by decide) hw
/-- RiverGaugeModel.isLetter(I)Z -/
def x174_isLetter (F : Nat) (a0 : Int) (A : rz_A) : Option (Int × rz_A) :=
  if a0 = 97 ∨ a0 = 98 ∨ a0 = 100 ∨ a0 = 102 ∨ a0 = 103 ∨ a0 = 104 ∨ a0 = 105 ∨ a0 = 107 ∨ a0 = 109 ∨ a0 = 110 ∨ a0 = 114 ∨ a0 = 119 ∨ a0 = 120 then
    some (1, A)
  else
    some (0, A)
theorem cx174_isLetter (F : Nat) {d : Nat} {a0 : Int} {A : rz_A} {r : Int} {A' : rz_A} (h : x174_isLetter F a0 A = some (r, A')) (ha0 : r32 a0) (hw : wf A) : rg_Rn (d + 0) 174 [vI a0] (toM A) (some (vI r)) (toM A') ∧ (r32 r) ∧ wf A' := by
  show rz_B (d + 0) 174 0 [some (vI a0)] [] A (some (vI r)) A' (r32 r)
  unfold x174_isLetter at h
  refine rz_B.go 1 (pc' := 1) (L' := [some (vI a0)]) (S' := [vI a0]) rfl ?_
  by_cases hs1 : a0 = 97 ∨ a0 = 98 ∨ a0 = 100 ∨ a0 = 102 ∨ a0 = 103 ∨ a0 = 104 ∨ a0 = 105 ∨ a0 = 107 ∨ a0 = 109 ∨ a0 = 110 ∨ a0 = 114 ∨ a0 = 119 ∨ a0 = 120
  · have h := if_T h hs1
    have key : rz_B (d + 0) 174 112 [some (vI a0)] [] A (some (vI r)) A' (r32 r) := by
      refine rz_B.go 1 (pc' := 113) (L' := [some (vI a0)]) (S' := [vI 1]) rfl ?_
      cases h
      exact rz_B.ret rfl (by decide) hw
    rcases hs1 with he | he | he | he | he | he | he | he | he | he | he | he | he
    · exact rz_B.tswI rfl ha0 (by omega) (off := 111) (by rw [he]; rfl) (by decide) rfl key
    · exact rz_B.tswI rfl ha0 (by omega) (off := 111) (by rw [he]; rfl) (by decide) rfl key
    · exact rz_B.tswI rfl ha0 (by omega) (off := 111) (by rw [he]; rfl) (by decide) rfl key
    · exact rz_B.tswI rfl ha0 (by omega) (off := 111) (by rw [he]; rfl) (by decide) rfl key
    · exact rz_B.tswI rfl ha0 (by omega) (off := 111) (by rw [he]; rfl) (by decide) rfl key
    · exact rz_B.tswI rfl ha0 (by omega) (off := 111) (by rw [he]; rfl) (by decide) rfl key
    · exact rz_B.tswI rfl ha0 (by omega) (off := 111) (by rw [he]; rfl) (by decide) rfl key
    · exact rz_B.tswI rfl ha0 (by omega) (off := 111) (by rw [he]; rfl) (by decide) rfl key
    · exact rz_B.tswI rfl ha0 (by omega) (off := 111) (by rw [he]; rfl) (by decide) rfl key
    · exact rz_B.tswI rfl ha0 (by omega) (off := 111) (by rw [he]; rfl) (by decide) rfl key
    · exact rz_B.tswI rfl ha0 (by omega) (off := 111) (by rw [he]; rfl) (by decide) rfl key
    · exact rz_B.tswI rfl ha0 (by omega) (off := 111) (by rw [he]; rfl) (by decide) rfl key
    · exact rz_B.tswI rfl ha0 (by omega) (off := 111) (by rw [he]; rfl) (by decide) rfl key
  · have h := if_F h hs1
    have key : rz_B (d + 0) 174 114 [some (vI a0)] [] A (some (vI r)) A' (r32 r) := by
      refine rz_B.go 1 (pc' := 115) (L' := [some (vI a0)]) (S' := [vI 0]) rfl ?_
      cases h
      exact rz_B.ret rfl (by decide) hw
    by_cases he2 : a0 = 99
    · exact rz_B.tswI rfl ha0 (by omega) (off := 113) (by rw [he2]; rfl) (by decide) rfl key
    by_cases he3 : a0 = 101
    · exact rz_B.tswI rfl ha0 (by omega) (off := 113) (by rw [he3]; rfl) (by decide) rfl key
    by_cases he4 : a0 = 106
    · exact rz_B.tswI rfl ha0 (by omega) (off := 113) (by rw [he4]; rfl) (by decide) rfl key
    by_cases he5 : a0 = 108
    · exact rz_B.tswI rfl ha0 (by omega) (off := 113) (by rw [he5]; rfl) (by decide) rfl key
    by_cases he6 : a0 = 111
    · exact rz_B.tswI rfl ha0 (by omega) (off := 113) (by rw [he6]; rfl) (by decide) rfl key
    by_cases he7 : a0 = 112
    · exact rz_B.tswI rfl ha0 (by omega) (off := 113) (by rw [he7]; rfl) (by decide) rfl key
    by_cases he8 : a0 = 113
    · exact rz_B.tswI rfl ha0 (by omega) (off := 113) (by rw [he8]; rfl) (by decide) rfl key
    by_cases he9 : a0 = 115
    · exact rz_B.tswI rfl ha0 (by omega) (off := 113) (by rw [he9]; rfl) (by decide) rfl key
    by_cases he10 : a0 = 116
    · exact rz_B.tswI rfl ha0 (by omega) (off := 113) (by rw [he10]; rfl) (by decide) rfl key
    by_cases he11 : a0 = 117
    · exact rz_B.tswI rfl ha0 (by omega) (off := 113) (by rw [he11]; rfl) (by decide) rfl key
    by_cases he12 : a0 = 118
    · exact rz_B.tswI rfl ha0 (by omega) (off := 113) (by rw [he12]; rfl) (by decide) rfl key
    exact rz_B.tswO rfl ha0 (by omega) (by decide) rfl key
def x173_isUnit_102 (F : Nat) (v2 : Int) (v3 : Int) (A : rz_A) : Option (Int × rz_A) :=
  if v3 = 0 then
    some (0, A)
  else
    rz_g32 ((A.1 91 58) + 1) <|
    rz_gx (A.1 91 58) 140 <|
    some (1, (aI (aI A 91 58 ((A.1 91 58) + 1)) 135 ((A.1 91 58)).toNat v2))
theorem cx173_isUnit_102 {d : Nat} (F : Nat) : ∀ (v2 : Int) (v3 : Int) (A : rz_A) (r : Int) (A' : rz_A), x173_isUnit_102 F v2 v3 A = some (r, A') → r32 v2 → r32 v3 → wf A → rz_B (d + 1) 173 102 [some (.ref 91), none, some (vI v2), some (vI v3)] [] A (some (vI r)) A' (r32 r) := by
  intro v2 v3 A r A' h hv2 hv3 hw
  unfold x173_isUnit_102 at h
  refine rz_B.go 2 (pc' := if decide (¬ Int32.ofInt v3 = Int32.ofInt 0) = true then 108 else 106) (L' := [some (.ref 91), none, some (vI v2), some (vI v3)]) (S' := []) rfl ?_
  by_cases hc1 : v3 = 0
  · have h := if_T h hc1
    refine rz_B.ifF (fun hn => hn ((eq32 hv3 (by decide)).mpr hc1)) ?_
    refine rz_B.go 1 (pc' := 107) (L' := [some (.ref 91), none, some (vI v2), some (vI v3)]) (S' := [vI 0]) rfl ?_
    cases h
    exact rz_B.ret rfl (by decide) hw
  · have h := if_F h hc1
    refine rz_B.ifT (mt (eq32 hv3 (by decide)).mp hc1) ?_
    refine rz_B.go 7 (pc' := 119) (L' := [some (.ref 91), none, some (vI v2), some (vI v3)]) (S' := [vI 1, vI (A.1 91 58), .ref 91, vI (A.1 91 58), .ref 135]) rfl ?_
    obtain ⟨hk2, h⟩ := rz_g32_inv h
    refine rz_B.iadd rfl ?_
    refine rz_B.put 1 (pc' := 123) (L' := [some (.ref 91), none, some (vI v2), some (vI v3)]) (S' := [vI (A.1 91 58), .ref 135]) (c := 91) (k := 58) (x := ((A.1 91 58) + 1)) rfl ?_
    have hw3 : wf (aI A 91 58 ((A.1 91 58) + 1)) := wf_aI hw hk2
    refine rz_B.go 1 (pc' := 124) (L' := [some (.ref 91), none, some (vI v2), some (vI v3)]) (S' := [vI v2, vI (A.1 91 58), .ref 135]) rfl ?_
    obtain ⟨hi4, hj5, h⟩ := rz_gx_inv h
    refine rz_B.iast rfl rfl hi4 hj5 (by decide) ?_
    have hw6 : wf (aI (aI A 91 58 ((A.1 91 58) + 1)) 135 ((A.1 91 58)).toNat v2) := wf_aI hw3 hv2
    refine rz_B.go 1 (pc' := 126) (L' := [some (.ref 91), none, some (vI v2), some (vI v3)]) (S' := [vI 1]) rfl ?_
    cases h
    exact rz_B.ret rfl (by decide) hw6
def x173_isUnit_50 (F : Nat) : Nat → Int → Int → rz_A → Option (Int × rz_A)
  | 0, _, _, _ => none
  | n + 1, v2, v3, A =>
    if v3 < 5 then
      rz_b (x170_sign F A) fun r2 A2 =>
      if 48 ≤ r2 then
        rz_b (x170_sign F A2) fun r4 A4 =>
        if r4 ≤ 57 then
          rz_g32 (10 * v2) <|
          rz_b (x170_sign F A4) fun r7 A7 =>
          rz_g32 ((10 * v2) + r7) <|
          rz_g32 (((10 * v2) + r7) - 48) <|
          rz_g32 ((A7.1 91 57) + 1) <|
          rz_g32 (v3 + 1) <|
          x173_isUnit_50 F n (((10 * v2) + r7) - 48) (v3 + 1) (aI A7 91 57 ((A7.1 91 57) + 1))
        else
          x173_isUnit_102 F v2 v3 A4
      else
        x173_isUnit_102 F v2 v3 A2
    else
      x173_isUnit_102 F v2 v3 A
theorem cx173_isUnit_50 {d : Nat} (F : Nat) : ∀ (n : Nat) (v2 : Int) (v3 : Int) (A : rz_A) (r : Int) (A' : rz_A), x173_isUnit_50 F n v2 v3 A = some (r, A') → r32 v2 → r32 v3 → wf A → rz_B (d + 1) 173 50 [some (.ref 91), none, some (vI v2), some (vI v3)] [] A (some (vI r)) A' (r32 r) := by
  intro n
  induction n with
  | zero => intro v2 v3 A r A' h; cases h
  | succ n ih =>
    intro v2 v3 A r A' h hv2 hv3 hw
    rw [x173_isUnit_50] at h
    refine rz_B.go 3 (pc' := if decide (Int32.ofInt 5 ≤ Int32.ofInt v3) = true then 102 else 55) (L' := [some (.ref 91), none, some (vI v2), some (vI v3)]) (S' := []) rfl ?_
    by_cases hc1 : v3 < 5
    · have h := if_T h hc1
      refine rz_B.ifF (mt (le32 (by decide) hv3).mp (Int.not_le.mpr hc1)) ?_
      refine rz_B.go 1 (pc' := 56) (L' := [some (.ref 91), none, some (vI v2), some (vI v3)]) (S' := [.ref 91]) rfl ?_
      obtain ⟨r2, A2, hf2, h⟩ := rz_b_inv h
      obtain ⟨hg2, hr2, hw2⟩ := cx170_sign F (d := d + 0) hf2 hw
      refine rz_B.call (d := d + 0) (as := [.ref 91]) (rest := []) (w := some (vI r2)) rfl hg2 ?_
      refine rz_B.go 2 (pc' := if decide (Int32.ofInt r2 < Int32.ofInt 48) = true then 102 else 64) (L' := [some (.ref 91), none, some (vI v2), some (vI v3)]) (S' := []) rfl ?_
      by_cases hc3 : 48 ≤ r2
      · have h := if_T h hc3
        refine rz_B.ifF (mt (lt32 hr2 (by decide)).mp (Int.not_lt.mpr hc3)) ?_
        refine rz_B.go 1 (pc' := 65) (L' := [some (.ref 91), none, some (vI v2), some (vI v3)]) (S' := [.ref 91]) rfl ?_
        obtain ⟨r4, A4, hf4, h⟩ := rz_b_inv h
        obtain ⟨hg4, hr4, hw4⟩ := cx170_sign F (d := d + 0) hf4 hw2
        refine rz_B.call (d := d + 0) (as := [.ref 91]) (rest := []) (w := some (vI r4)) rfl hg4 ?_
        refine rz_B.go 2 (pc' := if decide (Int32.ofInt 57 < Int32.ofInt r4) = true then 102 else 73) (L' := [some (.ref 91), none, some (vI v2), some (vI v3)]) (S' := []) rfl ?_
        by_cases hc5 : r4 ≤ 57
        · have h := if_T h hc5
          refine rz_B.ifF (mt (lt32 (by decide) hr4).mp (Int.not_lt.mpr hc5)) ?_
          refine rz_B.go 2 (pc' := 76) (L' := [some (.ref 91), none, some (vI v2), some (vI v3)]) (S' := [vI v2, vI 10]) rfl ?_
          obtain ⟨hk6, h⟩ := rz_g32_inv h
          refine rz_B.imul rfl ?_
          refine rz_B.go 1 (pc' := 78) (L' := [some (.ref 91), none, some (vI v2), some (vI v3)]) (S' := [.ref 91, vI (10 * v2)]) rfl ?_
          obtain ⟨r7, A7, hf7, h⟩ := rz_b_inv h
          obtain ⟨hg7, hr7, hw7⟩ := cx170_sign F (d := d + 0) hf7 hw4
          refine rz_B.call (d := d + 0) (as := [.ref 91]) (rest := [vI (10 * v2)]) (w := some (vI r7)) rfl hg7 ?_
          obtain ⟨hk8, h⟩ := rz_g32_inv h
          refine rz_B.iadd rfl ?_
          refine rz_B.go 1 (pc' := 84) (L' := [some (.ref 91), none, some (vI v2), some (vI v3)]) (S' := [vI 48, vI ((10 * v2) + r7)]) rfl ?_
          obtain ⟨hk9, h⟩ := rz_g32_inv h
          refine rz_B.isub rfl ?_
          refine rz_B.go 5 (pc' := 92) (L' := [some (.ref 91), none, some (vI (((10 * v2) + r7) - 48)), some (vI v3)]) (S' := [vI 1, vI (A7.1 91 57), .ref 91]) rfl ?_
          obtain ⟨hk10, h⟩ := rz_g32_inv h
          refine rz_B.iadd rfl ?_
          refine rz_B.put 1 (pc' := 96) (L' := [some (.ref 91), none, some (vI (((10 * v2) + r7) - 48)), some (vI v3)]) (S' := []) (c := 91) (k := 57) (x := ((A7.1 91 57) + 1)) rfl ?_
          have hw11 : wf (aI A7 91 57 ((A7.1 91 57) + 1)) := wf_aI hw7 hk10
          obtain ⟨hk12, h⟩ := rz_g32_inv h
          refine rz_B.iinc rfl (by decide) rfl (L' := [some (.ref 91), none, some (vI (((10 * v2) + r7) - 48)), some (vI (v3 + 1))]) rfl ?_
          refine rz_B.go 1 (pc' := 50) (L' := [some (.ref 91), none, some (vI (((10 * v2) + r7) - 48)), some (vI (v3 + 1))]) (S' := []) rfl ?_
          refine rz_B.more (rg_le_ok (L := [some (.ref 91), none, some (vI (((10 * v2) + r7) - 48)), some (vI (v3 + 1))]) (by simp [rg_le])) ?_
          exact ih _ _ _ _ _ h hk9 hk12 hw11
        · have h := if_F h hc5
          refine rz_B.ifT ((lt32 (by decide) hr4).mpr (Int.not_le.mp hc5)) ?_
          refine rz_B.more (rg_le_ok (L := [some (.ref 91), none, some (vI v2), some (vI v3)]) (by simp [rg_le])) ?_
          exact cx173_isUnit_102 F _ _ _ _ _ h hv2 hv3 hw4
      · have h := if_F h hc3
        refine rz_B.ifT ((lt32 hr2 (by decide)).mpr (Int.not_le.mp hc3)) ?_
        refine rz_B.more (rg_le_ok (L := [some (.ref 91), none, some (vI v2), some (vI v3)]) (by simp [rg_le])) ?_
        exact cx173_isUnit_102 F _ _ _ _ _ h hv2 hv3 hw2
    · have h := if_F h hc1
      refine rz_B.ifT ((le32 (by decide) hv3).mpr (Int.not_lt.mp hc1)) ?_
      refine rz_B.more (rg_le_ok (L := [some (.ref 91), none, some (vI v2), some (vI v3)]) (by simp [rg_le])) ?_
      exact cx173_isUnit_102 F _ _ _ _ _ h hv2 hv3 hw
/-- RiverGaugeModel.isUnit()Z -/
def x173_isUnit (F : Nat) (A : rz_A) : Option (Int × rz_A) :=
  rz_b (x170_sign F A) fun r1 A1 =>
  rz_b (x174_isLetter F r1 A1) fun r2 A2 =>
  if r2 = 0 then
    x173_isUnit_50 F F 0 0 A2
  else
    rz_g32 ((A2.1 91 58) + 1) <|
    rz_g32 (97 - r1) <|
    rz_g32 ((97 - r1) - 1) <|
    rz_gx (A2.1 91 58) 140 <|
    rz_g32 ((A2.1 91 57) + 1) <|
    some (1, (aI (aI (aI A2 91 58 ((A2.1 91 58) + 1)) 135 ((A2.1 91 58)).toNat ((97 - r1) - 1)) 91 57 ((A2.1 91 57) + 1)))
theorem cx173_isUnit (F : Nat) {d : Nat} {A : rz_A} {r : Int} {A' : rz_A} (h : x173_isUnit F A = some (r, A')) (hw : wf A) : rg_Rn (d + 1) 173 [.ref 91] (toM A) (some (vI r)) (toM A') ∧ (r32 r) ∧ wf A' := by
  show rz_B (d + 1) 173 0 [some (.ref 91), none, none, none] [] A (some (vI r)) A' (r32 r)
  unfold x173_isUnit at h
  refine rz_B.go 1 (pc' := 1) (L' := [some (.ref 91), none, none, none]) (S' := [.ref 91]) rfl ?_
  obtain ⟨r1, A1, hf1, h⟩ := rz_b_inv h
  obtain ⟨hg1, hr1, hw1⟩ := cx170_sign F (d := d + 0) hf1 hw
  refine rz_B.call (d := d + 0) (as := [.ref 91]) (rest := []) (w := some (vI r1)) rfl hg1 ?_
  refine rz_B.go 2 (pc' := 6) (L' := [some (.ref 91), some (vI r1), none, none]) (S' := [vI r1]) rfl ?_
  obtain ⟨r2, A2, hf2, h⟩ := rz_b_inv h
  obtain ⟨hg2, hr2, hw2⟩ := cx174_isLetter F (d := d + 0) hf2 hr1 hw1
  refine rz_B.call (d := d + 0) (as := [vI r1]) (rest := []) (w := some (vI r2)) rfl hg2 ?_
  refine rz_B.go 1 (pc' := if decide (Int32.ofInt r2 = Int32.ofInt 0) = true then 46 else 12) (L' := [some (.ref 91), some (vI r1), none, none]) (S' := []) rfl ?_
  by_cases hc3 : r2 = 0
  · have h := if_T h hc3
    refine rz_B.ifT ((eq32 hr2 (by decide)).mpr hc3) ?_
    refine rz_B.go 4 (pc' := 50) (L' := [some (.ref 91), some (vI r1), some (vI 0), some (vI 0)]) (S' := []) rfl ?_
    refine rz_B.more (rg_le_ok (L := [some (.ref 91), none, some (vI 0), some (vI 0)]) (by simp [rg_le])) ?_
    exact cx173_isUnit_50 F F _ _ _ _ _ h (by decide) (by decide) hw2
  · have h := if_F h hc3
    refine rz_B.ifF (mt (eq32 hr2 (by decide)).mp hc3) ?_
    refine rz_B.go 7 (pc' := 23) (L' := [some (.ref 91), some (vI r1), none, none]) (S' := [vI 1, vI (A2.1 91 58), .ref 91, vI (A2.1 91 58), .ref 135]) rfl ?_
    obtain ⟨hk4, h⟩ := rz_g32_inv h
    refine rz_B.iadd rfl ?_
    refine rz_B.put 1 (pc' := 27) (L' := [some (.ref 91), some (vI r1), none, none]) (S' := [vI (A2.1 91 58), .ref 135]) (c := 91) (k := 58) (x := ((A2.1 91 58) + 1)) rfl ?_
    have hw5 : wf (aI A2 91 58 ((A2.1 91 58) + 1)) := wf_aI hw2 hk4
    refine rz_B.go 2 (pc' := 30) (L' := [some (.ref 91), some (vI r1), none, none]) (S' := [vI r1, vI 97, vI (A2.1 91 58), .ref 135]) rfl ?_
    obtain ⟨hk6, h⟩ := rz_g32_inv h
    refine rz_B.isub rfl ?_
    refine rz_B.go 1 (pc' := 32) (L' := [some (.ref 91), some (vI r1), none, none]) (S' := [vI 1, vI (97 - r1), vI (A2.1 91 58), .ref 135]) rfl ?_
    obtain ⟨hk7, h⟩ := rz_g32_inv h
    refine rz_B.isub rfl ?_
    obtain ⟨hi8, hj9, h⟩ := rz_gx_inv h
    refine rz_B.iast rfl rfl hi8 hj9 (by decide) ?_
    have hw10 : wf (aI (aI A2 91 58 ((A2.1 91 58) + 1)) 135 ((A2.1 91 58)).toNat ((97 - r1) - 1)) := wf_aI hw5 hk7
    refine rz_B.go 4 (pc' := 40) (L' := [some (.ref 91), some (vI r1), none, none]) (S' := [vI 1, vI (A2.1 91 57), .ref 91]) rfl ?_
    obtain ⟨hk11, h⟩ := rz_g32_inv h
    refine rz_B.iadd rfl ?_
    refine rz_B.put 1 (pc' := 44) (L' := [some (.ref 91), some (vI r1), none, none]) (S' := []) (c := 91) (k := 57) (x := ((A2.1 91 57) + 1)) rfl ?_
    have hw12 : wf (aI (aI (aI A2 91 58 ((A2.1 91 58) + 1)) 135 ((A2.1 91 58)).toNat ((97 - r1) - 1)) 91 57 ((A2.1 91 57) + 1)) := wf_aI hw10 hk11
    refine rz_B.go 1 (pc' := 45) (L' := [some (.ref 91), some (vI r1), none, none]) (S' := [vI 1]) rfl ?_
    cases h
    exact rz_B.ret rfl (by decide) hw12
def x172_isSum_36 (F : Nat) (k9 : (rz_A → Option (Int × rz_A))) (A : rz_A) : Option (Int × rz_A) :=
  rz_b (x170_sign F A) fun r1 A1 =>
  if r1 = 43 then
    rz_g32 ((A1.1 91 57) + 1) <|
    rz_b (x173_isUnit F (aI A1 91 57 ((A1.1 91 57) + 1))) fun r5 A5 =>
    if r5 = 0 then
      some (0, A5)
    else
      rz_g32 ((A5.1 91 58) + 1) <|
      rz_gx (A5.1 91 58) 140 <|
      k9 (aI (aI A5 91 58 ((A5.1 91 58) + 1)) 135 ((A5.1 91 58)).toNat (-46))
  else
    rz_b (x170_sign F A1) fun r12 A12 =>
    if r12 = 45 then
      rz_g32 ((A12.1 91 57) + 1) <|
      rz_b (x173_isUnit F (aI A12 91 57 ((A12.1 91 57) + 1))) fun r16 A16 =>
      if r16 = 0 then
        some (0, A16)
      else
        rz_g32 ((A16.1 91 58) + 1) <|
        rz_gx (A16.1 91 58) 140 <|
        k9 (aI (aI A16 91 58 ((A16.1 91 58) + 1)) 135 ((A16.1 91 58)).toNat (-47))
    else
      rz_g32 ((A12.1 91 57) + 1) <|
      rz_b (x173_isUnit F (aI A12 91 57 ((A12.1 91 57) + 1))) fun r25 A25 =>
      if r25 = 0 then
        some (0, A25)
      else
        rz_g32 ((A25.1 91 58) + 1) <|
        rz_gx (A25.1 91 58) 140 <|
        k9 (aI (aI A25 91 58 ((A25.1 91 58) + 1)) 135 ((A25.1 91 58)).toNat (-48))
theorem cx172_isSum_36 {d : Nat} (F : Nat) {k9 : (rz_A → Option (Int × rz_A))} (hkk9 : ∀ (A : rz_A) (r : Int) (A' : rz_A), k9 A = some (r, A') → wf A → rz_B (d + 2) 172 9 [some (.ref 91), none] [] A (some (vI r)) A' (r32 r)) : ∀ (A : rz_A) (r : Int) (A' : rz_A), x172_isSum_36 F k9 A = some (r, A') → wf A → rz_B (d + 2) 172 36 [some (.ref 91), none] [] A (some (vI r)) A' (r32 r) := by
  intro A r A' h hw
  unfold x172_isSum_36 at h
  refine rz_B.go 1 (pc' := 37) (L' := [some (.ref 91), none]) (S' := [.ref 91]) rfl ?_
  obtain ⟨r1, A1, hf1, h⟩ := rz_b_inv h
  obtain ⟨hg1, hr1, hw1⟩ := cx170_sign F (d := d + 1) hf1 hw
  refine rz_B.call (d := d + 1) (as := [.ref 91]) (rest := []) (w := some (vI r1)) rfl hg1 ?_
  refine rz_B.go 2 (pc' := if decide (¬ Int32.ofInt r1 = Int32.ofInt 43) = true then 50 else 45) (L' := [some (.ref 91), none]) (S' := []) rfl ?_
  by_cases hc2 : r1 = 43
  · have h := if_T h hc2
    refine rz_B.ifF (fun hn => hn ((eq32 hr1 (by decide)).mpr hc2)) ?_
    refine rz_B.go 7 (pc' := 73) (L' := [some (.ref 91), some (vI (-46))]) (S' := [vI 1, vI (A1.1 91 57), .ref 91]) rfl ?_
    obtain ⟨hk3, h⟩ := rz_g32_inv h
    refine rz_B.iadd rfl ?_
    refine rz_B.put 1 (pc' := 77) (L' := [some (.ref 91), some (vI (-46))]) (S' := []) (c := 91) (k := 57) (x := ((A1.1 91 57) + 1)) rfl ?_
    have hw4 : wf (aI A1 91 57 ((A1.1 91 57) + 1)) := wf_aI hw1 hk3
    refine rz_B.go 1 (pc' := 78) (L' := [some (.ref 91), some (vI (-46))]) (S' := [.ref 91]) rfl ?_
    obtain ⟨r5, A5, hf5, h⟩ := rz_b_inv h
    obtain ⟨hg5, hr5, hw5⟩ := cx173_isUnit F (d := d + 0) hf5 hw4
    refine rz_B.call (d := d + 1) (as := [.ref 91]) (rest := []) (w := some (vI r5)) rfl hg5 ?_
    refine rz_B.go 1 (pc' := if decide (¬ Int32.ofInt r5 = Int32.ofInt 0) = true then 86 else 84) (L' := [some (.ref 91), some (vI (-46))]) (S' := []) rfl ?_
    by_cases hc6 : r5 = 0
    · have h := if_T h hc6
      refine rz_B.ifF (fun hn => hn ((eq32 hr5 (by decide)).mpr hc6)) ?_
      refine rz_B.go 1 (pc' := 85) (L' := [some (.ref 91), some (vI (-46))]) (S' := [vI 0]) rfl ?_
      cases h
      exact rz_B.ret rfl (by decide) hw5
    · have h := if_F h hc6
      refine rz_B.ifT (mt (eq32 hr5 (by decide)).mp hc6) ?_
      refine rz_B.go 7 (pc' := 97) (L' := [some (.ref 91), some (vI (-46))]) (S' := [vI 1, vI (A5.1 91 58), .ref 91, vI (A5.1 91 58), .ref 135]) rfl ?_
      obtain ⟨hk7, h⟩ := rz_g32_inv h
      refine rz_B.iadd rfl ?_
      refine rz_B.put 1 (pc' := 101) (L' := [some (.ref 91), some (vI (-46))]) (S' := [vI (A5.1 91 58), .ref 135]) (c := 91) (k := 58) (x := ((A5.1 91 58) + 1)) rfl ?_
      have hw8 : wf (aI A5 91 58 ((A5.1 91 58) + 1)) := wf_aI hw5 hk7
      refine rz_B.go 1 (pc' := 102) (L' := [some (.ref 91), some (vI (-46))]) (S' := [vI (-46), vI (A5.1 91 58), .ref 135]) rfl ?_
      obtain ⟨hi9, hj10, h⟩ := rz_gx_inv h
      refine rz_B.iast rfl rfl hi9 hj10 (by decide) ?_
      have hw11 : wf (aI (aI A5 91 58 ((A5.1 91 58) + 1)) 135 ((A5.1 91 58)).toNat (-46)) := wf_aI hw8 (by decide)
      refine rz_B.go 1 (pc' := 9) (L' := [some (.ref 91), some (vI (-46))]) (S' := []) rfl ?_
      refine rz_B.more (rg_le_ok (L := [some (.ref 91), none]) (by simp [rg_le])) ?_
      exact hkk9 _ _ _ h hw11
  · have h := if_F h hc2
    refine rz_B.ifT (mt (eq32 hr1 (by decide)).mp hc2) ?_
    refine rz_B.go 1 (pc' := 51) (L' := [some (.ref 91), none]) (S' := [.ref 91]) rfl ?_
    obtain ⟨r12, A12, hf12, h⟩ := rz_b_inv h
    obtain ⟨hg12, hr12, hw12⟩ := cx170_sign F (d := d + 1) hf12 hw1
    refine rz_B.call (d := d + 1) (as := [.ref 91]) (rest := []) (w := some (vI r12)) rfl hg12 ?_
    refine rz_B.go 2 (pc' := if decide (¬ Int32.ofInt r12 = Int32.ofInt 45) = true then 64 else 59) (L' := [some (.ref 91), none]) (S' := []) rfl ?_
    by_cases hc13 : r12 = 45
    · have h := if_T h hc13
      refine rz_B.ifF (fun hn => hn ((eq32 hr12 (by decide)).mpr hc13)) ?_
      refine rz_B.go 7 (pc' := 73) (L' := [some (.ref 91), some (vI (-47))]) (S' := [vI 1, vI (A12.1 91 57), .ref 91]) rfl ?_
      obtain ⟨hk14, h⟩ := rz_g32_inv h
      refine rz_B.iadd rfl ?_
      refine rz_B.put 1 (pc' := 77) (L' := [some (.ref 91), some (vI (-47))]) (S' := []) (c := 91) (k := 57) (x := ((A12.1 91 57) + 1)) rfl ?_
      have hw15 : wf (aI A12 91 57 ((A12.1 91 57) + 1)) := wf_aI hw12 hk14
      refine rz_B.go 1 (pc' := 78) (L' := [some (.ref 91), some (vI (-47))]) (S' := [.ref 91]) rfl ?_
      obtain ⟨r16, A16, hf16, h⟩ := rz_b_inv h
      obtain ⟨hg16, hr16, hw16⟩ := cx173_isUnit F (d := d + 0) hf16 hw15
      refine rz_B.call (d := d + 1) (as := [.ref 91]) (rest := []) (w := some (vI r16)) rfl hg16 ?_
      refine rz_B.go 1 (pc' := if decide (¬ Int32.ofInt r16 = Int32.ofInt 0) = true then 86 else 84) (L' := [some (.ref 91), some (vI (-47))]) (S' := []) rfl ?_
      by_cases hc17 : r16 = 0
      · have h := if_T h hc17
        refine rz_B.ifF (fun hn => hn ((eq32 hr16 (by decide)).mpr hc17)) ?_
        refine rz_B.go 1 (pc' := 85) (L' := [some (.ref 91), some (vI (-47))]) (S' := [vI 0]) rfl ?_
        cases h
        exact rz_B.ret rfl (by decide) hw16
      · have h := if_F h hc17
        refine rz_B.ifT (mt (eq32 hr16 (by decide)).mp hc17) ?_
        refine rz_B.go 7 (pc' := 97) (L' := [some (.ref 91), some (vI (-47))]) (S' := [vI 1, vI (A16.1 91 58), .ref 91, vI (A16.1 91 58), .ref 135]) rfl ?_
        obtain ⟨hk18, h⟩ := rz_g32_inv h
        refine rz_B.iadd rfl ?_
        refine rz_B.put 1 (pc' := 101) (L' := [some (.ref 91), some (vI (-47))]) (S' := [vI (A16.1 91 58), .ref 135]) (c := 91) (k := 58) (x := ((A16.1 91 58) + 1)) rfl ?_
        have hw19 : wf (aI A16 91 58 ((A16.1 91 58) + 1)) := wf_aI hw16 hk18
        refine rz_B.go 1 (pc' := 102) (L' := [some (.ref 91), some (vI (-47))]) (S' := [vI (-47), vI (A16.1 91 58), .ref 135]) rfl ?_
        obtain ⟨hi20, hj21, h⟩ := rz_gx_inv h
        refine rz_B.iast rfl rfl hi20 hj21 (by decide) ?_
        have hw22 : wf (aI (aI A16 91 58 ((A16.1 91 58) + 1)) 135 ((A16.1 91 58)).toNat (-47)) := wf_aI hw19 (by decide)
        refine rz_B.go 1 (pc' := 9) (L' := [some (.ref 91), some (vI (-47))]) (S' := []) rfl ?_
        refine rz_B.more (rg_le_ok (L := [some (.ref 91), none]) (by simp [rg_le])) ?_
        exact hkk9 _ _ _ h hw22
    · have h := if_F h hc13
      refine rz_B.ifT (mt (eq32 hr12 (by decide)).mp hc13) ?_
      refine rz_B.go 6 (pc' := 73) (L' := [some (.ref 91), some (vI (-48))]) (S' := [vI 1, vI (A12.1 91 57), .ref 91]) rfl ?_
      obtain ⟨hk23, h⟩ := rz_g32_inv h
      refine rz_B.iadd rfl ?_
      refine rz_B.put 1 (pc' := 77) (L' := [some (.ref 91), some (vI (-48))]) (S' := []) (c := 91) (k := 57) (x := ((A12.1 91 57) + 1)) rfl ?_
      have hw24 : wf (aI A12 91 57 ((A12.1 91 57) + 1)) := wf_aI hw12 hk23
      refine rz_B.go 1 (pc' := 78) (L' := [some (.ref 91), some (vI (-48))]) (S' := [.ref 91]) rfl ?_
      obtain ⟨r25, A25, hf25, h⟩ := rz_b_inv h
      obtain ⟨hg25, hr25, hw25⟩ := cx173_isUnit F (d := d + 0) hf25 hw24
      refine rz_B.call (d := d + 1) (as := [.ref 91]) (rest := []) (w := some (vI r25)) rfl hg25 ?_
      refine rz_B.go 1 (pc' := if decide (¬ Int32.ofInt r25 = Int32.ofInt 0) = true then 86 else 84) (L' := [some (.ref 91), some (vI (-48))]) (S' := []) rfl ?_
      by_cases hc26 : r25 = 0
      · have h := if_T h hc26
        refine rz_B.ifF (fun hn => hn ((eq32 hr25 (by decide)).mpr hc26)) ?_
        refine rz_B.go 1 (pc' := 85) (L' := [some (.ref 91), some (vI (-48))]) (S' := [vI 0]) rfl ?_
        cases h
        exact rz_B.ret rfl (by decide) hw25
      · have h := if_F h hc26
        refine rz_B.ifT (mt (eq32 hr25 (by decide)).mp hc26) ?_
        refine rz_B.go 7 (pc' := 97) (L' := [some (.ref 91), some (vI (-48))]) (S' := [vI 1, vI (A25.1 91 58), .ref 91, vI (A25.1 91 58), .ref 135]) rfl ?_
        obtain ⟨hk27, h⟩ := rz_g32_inv h
        refine rz_B.iadd rfl ?_
        refine rz_B.put 1 (pc' := 101) (L' := [some (.ref 91), some (vI (-48))]) (S' := [vI (A25.1 91 58), .ref 135]) (c := 91) (k := 58) (x := ((A25.1 91 58) + 1)) rfl ?_
        have hw28 : wf (aI A25 91 58 ((A25.1 91 58) + 1)) := wf_aI hw25 hk27
        refine rz_B.go 1 (pc' := 102) (L' := [some (.ref 91), some (vI (-48))]) (S' := [vI (-48), vI (A25.1 91 58), .ref 135]) rfl ?_
        obtain ⟨hi29, hj30, h⟩ := rz_gx_inv h
        refine rz_B.iast rfl rfl hi29 hj30 (by decide) ?_
        have hw31 : wf (aI (aI A25 91 58 ((A25.1 91 58) + 1)) 135 ((A25.1 91 58)).toNat (-48)) := wf_aI hw28 (by decide)
        refine rz_B.go 1 (pc' := 9) (L' := [some (.ref 91), some (vI (-48))]) (S' := []) rfl ?_
        refine rz_B.more (rg_le_ok (L := [some (.ref 91), none]) (by simp [rg_le])) ?_
        exact hkk9 _ _ _ h hw31
def x172_isSum_9 (F : Nat) : Nat → rz_A → Option (Int × rz_A)
  | 0, _ => none
  | n + 1, A =>
    rz_b (x170_sign F A) fun r1 A1 =>
    if r1 = 43 then
      x172_isSum_36 F (x172_isSum_9 F n) A1
    else
      rz_b (x170_sign F A1) fun r3 A3 =>
      if r3 = 45 then
        x172_isSum_36 F (x172_isSum_9 F n) A3
      else
        rz_b (x170_sign F A3) fun r5 A5 =>
        if r5 = 42 then
          x172_isSum_36 F (x172_isSum_9 F n) A5
        else
          some (1, A5)
theorem cx172_isSum_9 {d : Nat} (F : Nat) : ∀ (n : Nat) (A : rz_A) (r : Int) (A' : rz_A), x172_isSum_9 F n A = some (r, A') → wf A → rz_B (d + 2) 172 9 [some (.ref 91), none] [] A (some (vI r)) A' (r32 r) := by
  intro n
  induction n with
  | zero => intro A r A' h; cases h
  | succ n ih =>
    intro A r A' h hw
    rw [x172_isSum_9] at h
    refine rz_B.go 1 (pc' := 10) (L' := [some (.ref 91), none]) (S' := [.ref 91]) rfl ?_
    obtain ⟨r1, A1, hf1, h⟩ := rz_b_inv h
    obtain ⟨hg1, hr1, hw1⟩ := cx170_sign F (d := d + 1) hf1 hw
    refine rz_B.call (d := d + 1) (as := [.ref 91]) (rest := []) (w := some (vI r1)) rfl hg1 ?_
    refine rz_B.go 2 (pc' := if decide (Int32.ofInt r1 = Int32.ofInt 43) = true then 36 else 18) (L' := [some (.ref 91), none]) (S' := []) rfl ?_
    by_cases hc2 : r1 = 43
    · have h := if_T h hc2
      refine rz_B.ifT ((eq32 hr1 (by decide)).mpr hc2) ?_
      refine rz_B.more (rg_le_ok (L := [some (.ref 91), none]) (by simp [rg_le])) ?_
      exact cx172_isSum_36 F ih _ _ _ h hw1
    · have h := if_F h hc2
      refine rz_B.ifF (mt (eq32 hr1 (by decide)).mp hc2) ?_
      refine rz_B.go 1 (pc' := 19) (L' := [some (.ref 91), none]) (S' := [.ref 91]) rfl ?_
      obtain ⟨r3, A3, hf3, h⟩ := rz_b_inv h
      obtain ⟨hg3, hr3, hw3⟩ := cx170_sign F (d := d + 1) hf3 hw1
      refine rz_B.call (d := d + 1) (as := [.ref 91]) (rest := []) (w := some (vI r3)) rfl hg3 ?_
      refine rz_B.go 2 (pc' := if decide (Int32.ofInt r3 = Int32.ofInt 45) = true then 36 else 27) (L' := [some (.ref 91), none]) (S' := []) rfl ?_
      by_cases hc4 : r3 = 45
      · have h := if_T h hc4
        refine rz_B.ifT ((eq32 hr3 (by decide)).mpr hc4) ?_
        refine rz_B.more (rg_le_ok (L := [some (.ref 91), none]) (by simp [rg_le])) ?_
        exact cx172_isSum_36 F ih _ _ _ h hw3
      · have h := if_F h hc4
        refine rz_B.ifF (mt (eq32 hr3 (by decide)).mp hc4) ?_
        refine rz_B.go 1 (pc' := 28) (L' := [some (.ref 91), none]) (S' := [.ref 91]) rfl ?_
        obtain ⟨r5, A5, hf5, h⟩ := rz_b_inv h
        obtain ⟨hg5, hr5, hw5⟩ := cx170_sign F (d := d + 1) hf5 hw3
        refine rz_B.call (d := d + 1) (as := [.ref 91]) (rest := []) (w := some (vI r5)) rfl hg5 ?_
        refine rz_B.go 2 (pc' := if decide (¬ Int32.ofInt r5 = Int32.ofInt 42) = true then 106 else 36) (L' := [some (.ref 91), none]) (S' := []) rfl ?_
        by_cases hc6 : r5 = 42
        · have h := if_T h hc6
          refine rz_B.ifF (fun hn => hn ((eq32 hr5 (by decide)).mpr hc6)) ?_
          refine rz_B.more (rg_le_ok (L := [some (.ref 91), none]) (by simp [rg_le])) ?_
          exact cx172_isSum_36 F ih _ _ _ h hw5
        · have h := if_F h hc6
          refine rz_B.ifT (mt (eq32 hr5 (by decide)).mp hc6) ?_
          refine rz_B.go 1 (pc' := 107) (L' := [some (.ref 91), none]) (S' := [vI 1]) rfl ?_
          cases h
          exact rz_B.ret rfl (by decide) hw5
/-- RiverGaugeModel.isSum()Z -/
def x172_isSum (F : Nat) (A : rz_A) : Option (Int × rz_A) :=
  rz_b (x173_isUnit F A) fun r1 A1 =>
  if r1 = 0 then
    some (0, A1)
  else
    x172_isSum_9 F F A1
theorem cx172_isSum (F : Nat) {d : Nat} {A : rz_A} {r : Int} {A' : rz_A} (h : x172_isSum F A = some (r, A')) (hw : wf A) : rg_Rn (d + 2) 172 [.ref 91] (toM A) (some (vI r)) (toM A') ∧ (r32 r) ∧ wf A' := by
  show rz_B (d + 2) 172 0 [some (.ref 91), none] [] A (some (vI r)) A' (r32 r)
  unfold x172_isSum at h
  refine rz_B.go 1 (pc' := 1) (L' := [some (.ref 91), none]) (S' := [.ref 91]) rfl ?_
  obtain ⟨r1, A1, hf1, h⟩ := rz_b_inv h
  obtain ⟨hg1, hr1, hw1⟩ := cx173_isUnit F (d := d + 0) hf1 hw
  refine rz_B.call (d := d + 1) (as := [.ref 91]) (rest := []) (w := some (vI r1)) rfl hg1 ?_
  refine rz_B.go 1 (pc' := if decide (¬ Int32.ofInt r1 = Int32.ofInt 0) = true then 9 else 7) (L' := [some (.ref 91), none]) (S' := []) rfl ?_
  by_cases hc2 : r1 = 0
  · have h := if_T h hc2
    refine rz_B.ifF (fun hn => hn ((eq32 hr1 (by decide)).mpr hc2)) ?_
    refine rz_B.go 1 (pc' := 8) (L' := [some (.ref 91), none]) (S' := [vI 0]) rfl ?_
    cases h
    exact rz_B.ret rfl (by decide) hw1
  · have h := if_F h hc2
    refine rz_B.ifT (mt (eq32 hr1 (by decide)).mp hc2) ?_
    refine rz_B.more (rg_le_ok (L := [some (.ref 91), none]) (by simp [rg_le])) ?_
    exact cx172_isSum_9 F F _ _ _ h hw1
/-- RiverGaugeModel.isTest()Z -/
def x171_isTest (F : Nat) (A : rz_A) : Option (Int × rz_A) :=
  rz_b (x172_isSum F A) fun r1 A1 =>
  if r1 = 0 then
    some (0, A1)
  else
    rz_b (x170_sign F A1) fun r3 A3 =>
    if r3 = 60 then
      rz_g32 ((A3.1 91 57) + 1) <|
      rz_b (x172_isSum F (aI A3 91 57 ((A3.1 91 57) + 1))) fun r7 A7 =>
      if r7 = 0 then
        some (0, A7)
      else
        rz_g32 ((A7.1 91 58) + 1) <|
        rz_gx (A7.1 91 58) 140 <|
        some (1, (aI (aI A7 91 58 ((A7.1 91 58) + 1)) 135 ((A7.1 91 58)).toNat (-43)))
    else
      rz_b (x170_sign F A3) fun r14 A14 =>
      if r14 = 61 then
        rz_g32 ((A14.1 91 57) + 1) <|
        rz_b (x172_isSum F (aI A14 91 57 ((A14.1 91 57) + 1))) fun r18 A18 =>
        if r18 = 0 then
          some (0, A18)
        else
          rz_g32 ((A18.1 91 58) + 1) <|
          rz_gx (A18.1 91 58) 140 <|
          some (1, (aI (aI A18 91 58 ((A18.1 91 58) + 1)) 135 ((A18.1 91 58)).toNat (-44)))
      else
        rz_b (x170_sign F A14) fun r25 A25 =>
        if r25 = 62 then
          rz_g32 ((A25.1 91 57) + 1) <|
          rz_b (x172_isSum F (aI A25 91 57 ((A25.1 91 57) + 1))) fun r29 A29 =>
          if r29 = 0 then
            some (0, A29)
          else
            rz_g32 ((A29.1 91 58) + 1) <|
            rz_gx (A29.1 91 58) 140 <|
            some (1, (aI (aI A29 91 58 ((A29.1 91 58) + 1)) 135 ((A29.1 91 58)).toNat (-45)))
        else
          some (0, A25)
theorem cx171_isTest (F : Nat) {d : Nat} {A : rz_A} {r : Int} {A' : rz_A} (h : x171_isTest F A = some (r, A')) (hw : wf A) : rg_Rn (d + 3) 171 [.ref 91] (toM A) (some (vI r)) (toM A') ∧ (r32 r) ∧ wf A' := by
  show rz_B (d + 3) 171 0 [some (.ref 91), none] [] A (some (vI r)) A' (r32 r)
  unfold x171_isTest at h
  refine rz_B.go 1 (pc' := 1) (L' := [some (.ref 91), none]) (S' := [.ref 91]) rfl ?_
  obtain ⟨r1, A1, hf1, h⟩ := rz_b_inv h
  obtain ⟨hg1, hr1, hw1⟩ := cx172_isSum F (d := d + 0) hf1 hw
  refine rz_B.call (d := d + 2) (as := [.ref 91]) (rest := []) (w := some (vI r1)) rfl hg1 ?_
  refine rz_B.go 1 (pc' := if decide (¬ Int32.ofInt r1 = Int32.ofInt 0) = true then 9 else 7) (L' := [some (.ref 91), none]) (S' := []) rfl ?_
  by_cases hc2 : r1 = 0
  · have h := if_T h hc2
    refine rz_B.ifF (fun hn => hn ((eq32 hr1 (by decide)).mpr hc2)) ?_
    refine rz_B.go 1 (pc' := 8) (L' := [some (.ref 91), none]) (S' := [vI 0]) rfl ?_
    cases h
    exact rz_B.ret rfl (by decide) hw1
  · have h := if_F h hc2
    refine rz_B.ifT (mt (eq32 hr1 (by decide)).mp hc2) ?_
    refine rz_B.go 1 (pc' := 10) (L' := [some (.ref 91), none]) (S' := [.ref 91]) rfl ?_
    obtain ⟨r3, A3, hf3, h⟩ := rz_b_inv h
    obtain ⟨hg3, hr3, hw3⟩ := cx170_sign F (d := d + 2) hf3 hw1
    refine rz_B.call (d := d + 2) (as := [.ref 91]) (rest := []) (w := some (vI r3)) rfl hg3 ?_
    refine rz_B.go 2 (pc' := if decide (¬ Int32.ofInt r3 = Int32.ofInt 60) = true then 23 else 18) (L' := [some (.ref 91), none]) (S' := []) rfl ?_
    by_cases hc4 : r3 = 60
    · have h := if_T h hc4
      refine rz_B.ifF (fun hn => hn ((eq32 hr3 (by decide)).mpr hc4)) ?_
      refine rz_B.go 9 (pc' := 65) (L' := [some (.ref 91), some (vI (-43))]) (S' := [vI 1, vI (A3.1 91 57), .ref 91]) rfl ?_
      obtain ⟨hk5, h⟩ := rz_g32_inv h
      refine rz_B.iadd rfl ?_
      refine rz_B.put 1 (pc' := 69) (L' := [some (.ref 91), some (vI (-43))]) (S' := []) (c := 91) (k := 57) (x := ((A3.1 91 57) + 1)) rfl ?_
      have hw6 : wf (aI A3 91 57 ((A3.1 91 57) + 1)) := wf_aI hw3 hk5
      refine rz_B.go 1 (pc' := 70) (L' := [some (.ref 91), some (vI (-43))]) (S' := [.ref 91]) rfl ?_
      obtain ⟨r7, A7, hf7, h⟩ := rz_b_inv h
      obtain ⟨hg7, hr7, hw7⟩ := cx172_isSum F (d := d + 0) hf7 hw6
      refine rz_B.call (d := d + 2) (as := [.ref 91]) (rest := []) (w := some (vI r7)) rfl hg7 ?_
      refine rz_B.go 1 (pc' := if decide (¬ Int32.ofInt r7 = Int32.ofInt 0) = true then 78 else 76) (L' := [some (.ref 91), some (vI (-43))]) (S' := []) rfl ?_
      by_cases hc8 : r7 = 0
      · have h := if_T h hc8
        refine rz_B.ifF (fun hn => hn ((eq32 hr7 (by decide)).mpr hc8)) ?_
        refine rz_B.go 1 (pc' := 77) (L' := [some (.ref 91), some (vI (-43))]) (S' := [vI 0]) rfl ?_
        cases h
        exact rz_B.ret rfl (by decide) hw7
      · have h := if_F h hc8
        refine rz_B.ifT (mt (eq32 hr7 (by decide)).mp hc8) ?_
        refine rz_B.go 7 (pc' := 89) (L' := [some (.ref 91), some (vI (-43))]) (S' := [vI 1, vI (A7.1 91 58), .ref 91, vI (A7.1 91 58), .ref 135]) rfl ?_
        obtain ⟨hk9, h⟩ := rz_g32_inv h
        refine rz_B.iadd rfl ?_
        refine rz_B.put 1 (pc' := 93) (L' := [some (.ref 91), some (vI (-43))]) (S' := [vI (A7.1 91 58), .ref 135]) (c := 91) (k := 58) (x := ((A7.1 91 58) + 1)) rfl ?_
        have hw10 : wf (aI A7 91 58 ((A7.1 91 58) + 1)) := wf_aI hw7 hk9
        refine rz_B.go 1 (pc' := 94) (L' := [some (.ref 91), some (vI (-43))]) (S' := [vI (-43), vI (A7.1 91 58), .ref 135]) rfl ?_
        obtain ⟨hi11, hj12, h⟩ := rz_gx_inv h
        refine rz_B.iast rfl rfl hi11 hj12 (by decide) ?_
        have hw13 : wf (aI (aI A7 91 58 ((A7.1 91 58) + 1)) 135 ((A7.1 91 58)).toNat (-43)) := wf_aI hw10 (by decide)
        refine rz_B.go 1 (pc' := 96) (L' := [some (.ref 91), some (vI (-43))]) (S' := [vI 1]) rfl ?_
        cases h
        exact rz_B.ret rfl (by decide) hw13
    · have h := if_F h hc4
      refine rz_B.ifT (mt (eq32 hr3 (by decide)).mp hc4) ?_
      refine rz_B.go 1 (pc' := 24) (L' := [some (.ref 91), none]) (S' := [.ref 91]) rfl ?_
      obtain ⟨r14, A14, hf14, h⟩ := rz_b_inv h
      obtain ⟨hg14, hr14, hw14⟩ := cx170_sign F (d := d + 2) hf14 hw3
      refine rz_B.call (d := d + 2) (as := [.ref 91]) (rest := []) (w := some (vI r14)) rfl hg14 ?_
      refine rz_B.go 2 (pc' := if decide (¬ Int32.ofInt r14 = Int32.ofInt 61) = true then 37 else 32) (L' := [some (.ref 91), none]) (S' := []) rfl ?_
      by_cases hc15 : r14 = 61
      · have h := if_T h hc15
        refine rz_B.ifF (fun hn => hn ((eq32 hr14 (by decide)).mpr hc15)) ?_
        refine rz_B.go 9 (pc' := 65) (L' := [some (.ref 91), some (vI (-44))]) (S' := [vI 1, vI (A14.1 91 57), .ref 91]) rfl ?_
        obtain ⟨hk16, h⟩ := rz_g32_inv h
        refine rz_B.iadd rfl ?_
        refine rz_B.put 1 (pc' := 69) (L' := [some (.ref 91), some (vI (-44))]) (S' := []) (c := 91) (k := 57) (x := ((A14.1 91 57) + 1)) rfl ?_
        have hw17 : wf (aI A14 91 57 ((A14.1 91 57) + 1)) := wf_aI hw14 hk16
        refine rz_B.go 1 (pc' := 70) (L' := [some (.ref 91), some (vI (-44))]) (S' := [.ref 91]) rfl ?_
        obtain ⟨r18, A18, hf18, h⟩ := rz_b_inv h
        obtain ⟨hg18, hr18, hw18⟩ := cx172_isSum F (d := d + 0) hf18 hw17
        refine rz_B.call (d := d + 2) (as := [.ref 91]) (rest := []) (w := some (vI r18)) rfl hg18 ?_
        refine rz_B.go 1 (pc' := if decide (¬ Int32.ofInt r18 = Int32.ofInt 0) = true then 78 else 76) (L' := [some (.ref 91), some (vI (-44))]) (S' := []) rfl ?_
        by_cases hc19 : r18 = 0
        · have h := if_T h hc19
          refine rz_B.ifF (fun hn => hn ((eq32 hr18 (by decide)).mpr hc19)) ?_
          refine rz_B.go 1 (pc' := 77) (L' := [some (.ref 91), some (vI (-44))]) (S' := [vI 0]) rfl ?_
          cases h
          exact rz_B.ret rfl (by decide) hw18
        · have h := if_F h hc19
          refine rz_B.ifT (mt (eq32 hr18 (by decide)).mp hc19) ?_
          refine rz_B.go 7 (pc' := 89) (L' := [some (.ref 91), some (vI (-44))]) (S' := [vI 1, vI (A18.1 91 58), .ref 91, vI (A18.1 91 58), .ref 135]) rfl ?_
          obtain ⟨hk20, h⟩ := rz_g32_inv h
          refine rz_B.iadd rfl ?_
          refine rz_B.put 1 (pc' := 93) (L' := [some (.ref 91), some (vI (-44))]) (S' := [vI (A18.1 91 58), .ref 135]) (c := 91) (k := 58) (x := ((A18.1 91 58) + 1)) rfl ?_
          have hw21 : wf (aI A18 91 58 ((A18.1 91 58) + 1)) := wf_aI hw18 hk20
          refine rz_B.go 1 (pc' := 94) (L' := [some (.ref 91), some (vI (-44))]) (S' := [vI (-44), vI (A18.1 91 58), .ref 135]) rfl ?_
          obtain ⟨hi22, hj23, h⟩ := rz_gx_inv h
          refine rz_B.iast rfl rfl hi22 hj23 (by decide) ?_
          have hw24 : wf (aI (aI A18 91 58 ((A18.1 91 58) + 1)) 135 ((A18.1 91 58)).toNat (-44)) := wf_aI hw21 (by decide)
          refine rz_B.go 1 (pc' := 96) (L' := [some (.ref 91), some (vI (-44))]) (S' := [vI 1]) rfl ?_
          cases h
          exact rz_B.ret rfl (by decide) hw24
      · have h := if_F h hc15
        refine rz_B.ifT (mt (eq32 hr14 (by decide)).mp hc15) ?_
        refine rz_B.go 1 (pc' := 38) (L' := [some (.ref 91), none]) (S' := [.ref 91]) rfl ?_
        obtain ⟨r25, A25, hf25, h⟩ := rz_b_inv h
        obtain ⟨hg25, hr25, hw25⟩ := cx170_sign F (d := d + 2) hf25 hw14
        refine rz_B.call (d := d + 2) (as := [.ref 91]) (rest := []) (w := some (vI r25)) rfl hg25 ?_
        refine rz_B.go 2 (pc' := if decide (¬ Int32.ofInt r25 = Int32.ofInt 62) = true then 51 else 46) (L' := [some (.ref 91), none]) (S' := []) rfl ?_
        by_cases hc26 : r25 = 62
        · have h := if_T h hc26
          refine rz_B.ifF (fun hn => hn ((eq32 hr25 (by decide)).mpr hc26)) ?_
          refine rz_B.go 9 (pc' := 65) (L' := [some (.ref 91), some (vI (-45))]) (S' := [vI 1, vI (A25.1 91 57), .ref 91]) rfl ?_
          obtain ⟨hk27, h⟩ := rz_g32_inv h
          refine rz_B.iadd rfl ?_
          refine rz_B.put 1 (pc' := 69) (L' := [some (.ref 91), some (vI (-45))]) (S' := []) (c := 91) (k := 57) (x := ((A25.1 91 57) + 1)) rfl ?_
          have hw28 : wf (aI A25 91 57 ((A25.1 91 57) + 1)) := wf_aI hw25 hk27
          refine rz_B.go 1 (pc' := 70) (L' := [some (.ref 91), some (vI (-45))]) (S' := [.ref 91]) rfl ?_
          obtain ⟨r29, A29, hf29, h⟩ := rz_b_inv h
          obtain ⟨hg29, hr29, hw29⟩ := cx172_isSum F (d := d + 0) hf29 hw28
          refine rz_B.call (d := d + 2) (as := [.ref 91]) (rest := []) (w := some (vI r29)) rfl hg29 ?_
          refine rz_B.go 1 (pc' := if decide (¬ Int32.ofInt r29 = Int32.ofInt 0) = true then 78 else 76) (L' := [some (.ref 91), some (vI (-45))]) (S' := []) rfl ?_
          by_cases hc30 : r29 = 0
          · have h := if_T h hc30
            refine rz_B.ifF (fun hn => hn ((eq32 hr29 (by decide)).mpr hc30)) ?_
            refine rz_B.go 1 (pc' := 77) (L' := [some (.ref 91), some (vI (-45))]) (S' := [vI 0]) rfl ?_
            cases h
            exact rz_B.ret rfl (by decide) hw29
          · have h := if_F h hc30
            refine rz_B.ifT (mt (eq32 hr29 (by decide)).mp hc30) ?_
            refine rz_B.go 7 (pc' := 89) (L' := [some (.ref 91), some (vI (-45))]) (S' := [vI 1, vI (A29.1 91 58), .ref 91, vI (A29.1 91 58), .ref 135]) rfl ?_
            obtain ⟨hk31, h⟩ := rz_g32_inv h
            refine rz_B.iadd rfl ?_
            refine rz_B.put 1 (pc' := 93) (L' := [some (.ref 91), some (vI (-45))]) (S' := [vI (A29.1 91 58), .ref 135]) (c := 91) (k := 58) (x := ((A29.1 91 58) + 1)) rfl ?_
            have hw32 : wf (aI A29 91 58 ((A29.1 91 58) + 1)) := wf_aI hw29 hk31
            refine rz_B.go 1 (pc' := 94) (L' := [some (.ref 91), some (vI (-45))]) (S' := [vI (-45), vI (A29.1 91 58), .ref 135]) rfl ?_
            obtain ⟨hi33, hj34, h⟩ := rz_gx_inv h
            refine rz_B.iast rfl rfl hi33 hj34 (by decide) ?_
            have hw35 : wf (aI (aI A29 91 58 ((A29.1 91 58) + 1)) 135 ((A29.1 91 58)).toNat (-45)) := wf_aI hw32 (by decide)
            refine rz_B.go 1 (pc' := 96) (L' := [some (.ref 91), some (vI (-45))]) (S' := [vI 1]) rfl ?_
            cases h
            exact rz_B.ret rfl (by decide) hw35
        · have h := if_F h hc26
          refine rz_B.ifT (mt (eq32 hr25 (by decide)).mp hc26) ?_
          refine rz_B.go 5 (pc' := 58) (L' := [some (.ref 91), some (vI 0)]) (S' := [vI 0]) rfl ?_
          cases h
          exact rz_B.ret rfl (by decide) hw25
def x169_isText_165 (F : Nat) (k24 : (Int → Int → rz_A → Option (Int × rz_A))) (v1 : Int) (v3 : Int) (A : rz_A) : Option (Int × rz_A) :=
  if v3 = 38 then
    rz_b (x176_pops F 1 A) fun _ A2 =>
    rz_g32 ((A2.1 91 59) + 1) <|
    rz_gx (A2.1 91 59) 80 <|
    rz_g32 ((A2.1 91 57) + 1) <|
    k24 v1 1 (aI (aI (aI A2 91 59 ((A2.1 91 59) + 1)) 134 ((A2.1 91 59)).toNat (-41)) 91 57 ((A2.1 91 57) + 1))
  else
    rz_b (x176_pops F 0 A) fun _ A10 =>
    rz_g32 ((A10.1 91 59) + 1) <|
    rz_gx (A10.1 91 59) 80 <|
    rz_g32 ((A10.1 91 57) + 1) <|
    k24 v1 1 (aI (aI (aI A10 91 59 ((A10.1 91 59) + 1)) 134 ((A10.1 91 59)).toNat (-40)) 91 57 ((A10.1 91 57) + 1))
theorem cx169_isText_165 {d : Nat} (F : Nat) {k24 : (Int → Int → rz_A → Option (Int × rz_A))} (hkk24 : ∀ (v1 : Int) (v2 : Int) (A : rz_A) (r : Int) (A' : rz_A), k24 v1 v2 A = some (r, A') → r32 v1 → r32 v2 → wf A → rz_B (d + 4) 169 24 [some (.ref 91), some (vI v1), some (vI v2), none] [] A (some (vI r)) A' (r32 r)) : ∀ (v1 : Int) (v3 : Int) (A : rz_A) (r : Int) (A' : rz_A), x169_isText_165 F k24 v1 v3 A = some (r, A') → r32 v1 → r32 v3 → wf A → rz_B (d + 4) 169 165 [some (.ref 91), some (vI v1), none, some (vI v3)] [] A (some (vI r)) A' (r32 r) := by
  intro v1 v3 A r A' h hv1 hv3 hw
  unfold x169_isText_165 at h
  refine rz_B.go 4 (pc' := if decide (¬ Int32.ofInt v3 = Int32.ofInt 38) = true then 176 else 172) (L' := [some (.ref 91), some (vI v1), none, some (vI v3)]) (S' := [.ref 91]) rfl ?_
  by_cases hc1 : v3 = 38
  · have h := if_T h hc1
    refine rz_B.ifF (fun hn => hn ((eq32 hv3 (by decide)).mpr hc1)) ?_
    refine rz_B.go 2 (pc' := 177) (L' := [some (.ref 91), some (vI v1), none, some (vI v3)]) (S' := [vI 1, .ref 91]) rfl ?_
    obtain ⟨_, A2, hf2, h⟩ := rz_b_inv h
    obtain ⟨hg2, hr2, hw2⟩ := cx176_pops F (d := d + 3) hf2 (by decide) hw
    refine rz_B.call (d := d + 3) (as := [.ref 91, vI 1]) (rest := []) (w := none) rfl hg2 ?_
    refine rz_B.go 7 (pc' := 191) (L' := [some (.ref 91), some (vI v1), none, some (vI v3)]) (S' := [vI 1, vI (A2.1 91 59), .ref 91, vI (A2.1 91 59), .ref 134]) rfl ?_
    obtain ⟨hk3, h⟩ := rz_g32_inv h
    refine rz_B.iadd rfl ?_
    refine rz_B.put 1 (pc' := 195) (L' := [some (.ref 91), some (vI v1), none, some (vI v3)]) (S' := [vI (A2.1 91 59), .ref 134]) (c := 91) (k := 59) (x := ((A2.1 91 59) + 1)) rfl ?_
    have hw4 : wf (aI A2 91 59 ((A2.1 91 59) + 1)) := wf_aI hw2 hk3
    refine rz_B.go 3 (pc' := if decide (¬ Int32.ofInt v3 = Int32.ofInt 38) = true then 206 else 201) (L' := [some (.ref 91), some (vI v1), none, some (vI v3)]) (S' := [vI (A2.1 91 59), .ref 134]) rfl ?_
    refine rz_B.ifF (fun hn => hn ((eq32 hv3 (by decide)).mpr hc1)) ?_
    refine rz_B.go 2 (pc' := 208) (L' := [some (.ref 91), some (vI v1), none, some (vI v3)]) (S' := [vI (-41), vI (A2.1 91 59), .ref 134]) rfl ?_
    obtain ⟨hi5, hj6, h⟩ := rz_gx_inv h
    refine rz_B.iast rfl rfl hi5 hj6 (by decide) ?_
    have hw7 : wf (aI (aI A2 91 59 ((A2.1 91 59) + 1)) 134 ((A2.1 91 59)).toNat (-41)) := wf_aI hw4 (by decide)
    refine rz_B.go 6 (pc' := 217) (L' := [some (.ref 91), some (vI v1), some (vI 1), some (vI v3)]) (S' := [vI 1, vI (A2.1 91 57), .ref 91]) rfl ?_
    obtain ⟨hk8, h⟩ := rz_g32_inv h
    refine rz_B.iadd rfl ?_
    refine rz_B.put 1 (pc' := 221) (L' := [some (.ref 91), some (vI v1), some (vI 1), some (vI v3)]) (S' := []) (c := 91) (k := 57) (x := ((A2.1 91 57) + 1)) rfl ?_
    have hw9 : wf (aI (aI (aI A2 91 59 ((A2.1 91 59) + 1)) 134 ((A2.1 91 59)).toNat (-41)) 91 57 ((A2.1 91 57) + 1)) := wf_aI hw7 hk8
    refine rz_B.go 2 (pc' := 24) (L' := [some (.ref 91), some (vI v1), some (vI 1), some (vI v3)]) (S' := []) rfl ?_
    refine rz_B.more (rg_le_ok (L := [some (.ref 91), some (vI v1), some (vI 1), none]) (by simp [rg_le])) ?_
    exact hkk24 _ _ _ _ _ h hv1 (by decide) hw9
  · have h := if_F h hc1
    refine rz_B.ifT (mt (eq32 hv3 (by decide)).mp hc1) ?_
    refine rz_B.go 1 (pc' := 177) (L' := [some (.ref 91), some (vI v1), none, some (vI v3)]) (S' := [vI 0, .ref 91]) rfl ?_
    obtain ⟨_, A10, hf10, h⟩ := rz_b_inv h
    obtain ⟨hg10, hr10, hw10⟩ := cx176_pops F (d := d + 3) hf10 (by decide) hw
    refine rz_B.call (d := d + 3) (as := [.ref 91, vI 0]) (rest := []) (w := none) rfl hg10 ?_
    refine rz_B.go 7 (pc' := 191) (L' := [some (.ref 91), some (vI v1), none, some (vI v3)]) (S' := [vI 1, vI (A10.1 91 59), .ref 91, vI (A10.1 91 59), .ref 134]) rfl ?_
    obtain ⟨hk11, h⟩ := rz_g32_inv h
    refine rz_B.iadd rfl ?_
    refine rz_B.put 1 (pc' := 195) (L' := [some (.ref 91), some (vI v1), none, some (vI v3)]) (S' := [vI (A10.1 91 59), .ref 134]) (c := 91) (k := 59) (x := ((A10.1 91 59) + 1)) rfl ?_
    have hw12 : wf (aI A10 91 59 ((A10.1 91 59) + 1)) := wf_aI hw10 hk11
    refine rz_B.go 3 (pc' := if decide (¬ Int32.ofInt v3 = Int32.ofInt 38) = true then 206 else 201) (L' := [some (.ref 91), some (vI v1), none, some (vI v3)]) (S' := [vI (A10.1 91 59), .ref 134]) rfl ?_
    refine rz_B.ifT (mt (eq32 hv3 (by decide)).mp hc1) ?_
    refine rz_B.go 1 (pc' := 208) (L' := [some (.ref 91), some (vI v1), none, some (vI v3)]) (S' := [vI (-40), vI (A10.1 91 59), .ref 134]) rfl ?_
    obtain ⟨hi13, hj14, h⟩ := rz_gx_inv h
    refine rz_B.iast rfl rfl hi13 hj14 (by decide) ?_
    have hw15 : wf (aI (aI A10 91 59 ((A10.1 91 59) + 1)) 134 ((A10.1 91 59)).toNat (-40)) := wf_aI hw12 (by decide)
    refine rz_B.go 6 (pc' := 217) (L' := [some (.ref 91), some (vI v1), some (vI 1), some (vI v3)]) (S' := [vI 1, vI (A10.1 91 57), .ref 91]) rfl ?_
    obtain ⟨hk16, h⟩ := rz_g32_inv h
    refine rz_B.iadd rfl ?_
    refine rz_B.put 1 (pc' := 221) (L' := [some (.ref 91), some (vI v1), some (vI 1), some (vI v3)]) (S' := []) (c := 91) (k := 57) (x := ((A10.1 91 57) + 1)) rfl ?_
    have hw17 : wf (aI (aI (aI A10 91 59 ((A10.1 91 59) + 1)) 134 ((A10.1 91 59)).toNat (-40)) 91 57 ((A10.1 91 57) + 1)) := wf_aI hw15 hk16
    refine rz_B.go 2 (pc' := 24) (L' := [some (.ref 91), some (vI v1), some (vI 1), some (vI v3)]) (S' := []) rfl ?_
    refine rz_B.more (rg_le_ok (L := [some (.ref 91), some (vI v1), some (vI 1), none]) (by simp [rg_le])) ?_
    exact hkk24 _ _ _ _ _ h hv1 (by decide) hw17
def x169_isText_153 (F : Nat) (k24 : (Int → Int → rz_A → Option (Int × rz_A))) (v1 : Int) (v2 : Int) (v3 : Int) (A : rz_A) : Option (Int × rz_A) :=
  if v3 = 38 then
    x169_isText_165 F k24 v1 v3 A
  else
    if v3 = 124 then
      x169_isText_165 F k24 v1 v3 A
    else
      if v3 = 41 then
        if 0 < v1 then
          rz_b (x176_pops F 0 A) fun _ A5 =>
          rz_g32 ((A5.1 91 59) - 1) <|
          rz_g32 ((A5.1 91 60) - 1) <|
          rz_g32 (v1 + (-1)) <|
          rz_b (x175_denies F (aI (aI A5 91 59 ((A5.1 91 59) - 1)) 91 60 ((A5.1 91 60) - 1))) fun _ A11 =>
          rz_g32 ((A11.1 91 57) + 1) <|
          k24 (v1 + (-1)) v2 (aI A11 91 57 ((A11.1 91 57) + 1))
        else
          some (0, A)
      else
        some (0, A)
theorem cx169_isText_153 {d : Nat} (F : Nat) {k24 : (Int → Int → rz_A → Option (Int × rz_A))} (hkk24 : ∀ (v1 : Int) (v2 : Int) (A : rz_A) (r : Int) (A' : rz_A), k24 v1 v2 A = some (r, A') → r32 v1 → r32 v2 → wf A → rz_B (d + 4) 169 24 [some (.ref 91), some (vI v1), some (vI v2), none] [] A (some (vI r)) A' (r32 r)) : ∀ (v1 : Int) (v2 : Int) (v3 : Int) (A : rz_A) (r : Int) (A' : rz_A), x169_isText_153 F k24 v1 v2 v3 A = some (r, A') → r32 v1 → r32 v2 → r32 v3 → wf A → rz_B (d + 4) 169 153 [some (.ref 91), some (vI v1), some (vI v2), some (vI v3)] [] A (some (vI r)) A' (r32 r) := by
  intro v1 v2 v3 A r A' h hv1 hv2 hv3 hw
  unfold x169_isText_153 at h
  refine rz_B.go 3 (pc' := if decide (Int32.ofInt v3 = Int32.ofInt 38) = true then 165 else 159) (L' := [some (.ref 91), some (vI v1), some (vI v2), some (vI v3)]) (S' := []) rfl ?_
  by_cases hc1 : v3 = 38
  · have h := if_T h hc1
    refine rz_B.ifT ((eq32 hv3 (by decide)).mpr hc1) ?_
    refine rz_B.more (rg_le_ok (L := [some (.ref 91), some (vI v1), none, some (vI v3)]) (by simp [rg_le])) ?_
    exact cx169_isText_165 F hkk24 _ _ _ _ _ h hv1 hv3 hw
  · have h := if_F h hc1
    refine rz_B.ifF (mt (eq32 hv3 (by decide)).mp hc1) ?_
    refine rz_B.go 3 (pc' := if decide (¬ Int32.ofInt v3 = Int32.ofInt 124) = true then 224 else 165) (L' := [some (.ref 91), some (vI v1), some (vI v2), some (vI v3)]) (S' := []) rfl ?_
    by_cases hc2 : v3 = 124
    · have h := if_T h hc2
      refine rz_B.ifF (fun hn => hn ((eq32 hv3 (by decide)).mpr hc2)) ?_
      refine rz_B.more (rg_le_ok (L := [some (.ref 91), some (vI v1), none, some (vI v3)]) (by simp [rg_le])) ?_
      exact cx169_isText_165 F hkk24 _ _ _ _ _ h hv1 hv3 hw
    · have h := if_F h hc2
      refine rz_B.ifT (mt (eq32 hv3 (by decide)).mp hc2) ?_
      refine rz_B.go 3 (pc' := if decide (¬ Int32.ofInt v3 = Int32.ofInt 41) = true then 279 else 230) (L' := [some (.ref 91), some (vI v1), some (vI v2), some (vI v3)]) (S' := []) rfl ?_
      by_cases hc3 : v3 = 41
      · have h := if_T h hc3
        refine rz_B.ifF (fun hn => hn ((eq32 hv3 (by decide)).mpr hc3)) ?_
        refine rz_B.go 2 (pc' := if decide (Int32.ofInt v1 ≤ Int32.ofInt 0) = true then 279 else 234) (L' := [some (.ref 91), some (vI v1), some (vI v2), some (vI v3)]) (S' := []) rfl ?_
        by_cases hc4 : 0 < v1
        · have h := if_T h hc4
          refine rz_B.ifF (mt (le32 hv1 (by decide)).mp (Int.not_le.mpr hc4)) ?_
          refine rz_B.go 2 (pc' := 236) (L' := [some (.ref 91), some (vI v1), some (vI v2), some (vI v3)]) (S' := [vI 0, .ref 91]) rfl ?_
          obtain ⟨_, A5, hf5, h⟩ := rz_b_inv h
          obtain ⟨hg5, hr5, hw5⟩ := cx176_pops F (d := d + 3) hf5 (by decide) hw
          refine rz_B.call (d := d + 3) (as := [.ref 91, vI 0]) (rest := []) (w := none) rfl hg5 ?_
          refine rz_B.go 4 (pc' := 245) (L' := [some (.ref 91), some (vI v1), some (vI v2), some (vI v3)]) (S' := [vI 1, vI (A5.1 91 59), .ref 91]) rfl ?_
          obtain ⟨hk6, h⟩ := rz_g32_inv h
          refine rz_B.isub rfl ?_
          refine rz_B.put 1 (pc' := 249) (L' := [some (.ref 91), some (vI v1), some (vI v2), some (vI v3)]) (S' := []) (c := 91) (k := 59) (x := ((A5.1 91 59) - 1)) rfl ?_
          have hw7 : wf (aI A5 91 59 ((A5.1 91 59) - 1)) := wf_aI hw5 hk6
          refine rz_B.go 4 (pc' := 255) (L' := [some (.ref 91), some (vI v1), some (vI v2), some (vI v3)]) (S' := [vI 1, vI (A5.1 91 60), .ref 91]) rfl ?_
          obtain ⟨hk8, h⟩ := rz_g32_inv h
          refine rz_B.isub rfl ?_
          refine rz_B.put 1 (pc' := 259) (L' := [some (.ref 91), some (vI v1), some (vI v2), some (vI v3)]) (S' := []) (c := 91) (k := 60) (x := ((A5.1 91 60) - 1)) rfl ?_
          have hw9 : wf (aI (aI A5 91 59 ((A5.1 91 59) - 1)) 91 60 ((A5.1 91 60) - 1)) := wf_aI hw7 hk8
          obtain ⟨hk10, h⟩ := rz_g32_inv h
          refine rz_B.iinc rfl (by decide) rfl (L' := [some (.ref 91), some (vI (v1 + (-1))), some (vI v2), some (vI v3)]) rfl ?_
          refine rz_B.go 1 (pc' := 263) (L' := [some (.ref 91), some (vI (v1 + (-1))), some (vI v2), some (vI v3)]) (S' := [.ref 91]) rfl ?_
          obtain ⟨_, A11, hf11, h⟩ := rz_b_inv h
          obtain ⟨hg11, hr11, hw11⟩ := cx175_denies F (d := d + 3) hf11 hw9
          refine rz_B.call (d := d + 3) (as := [.ref 91]) (rest := []) (w := none) rfl hg11 ?_
          refine rz_B.go 4 (pc' := 272) (L' := [some (.ref 91), some (vI (v1 + (-1))), some (vI v2), some (vI v3)]) (S' := [vI 1, vI (A11.1 91 57), .ref 91]) rfl ?_
          obtain ⟨hk12, h⟩ := rz_g32_inv h
          refine rz_B.iadd rfl ?_
          refine rz_B.put 1 (pc' := 276) (L' := [some (.ref 91), some (vI (v1 + (-1))), some (vI v2), some (vI v3)]) (S' := []) (c := 91) (k := 57) (x := ((A11.1 91 57) + 1)) rfl ?_
          have hw13 : wf (aI A11 91 57 ((A11.1 91 57) + 1)) := wf_aI hw11 hk12
          refine rz_B.go 2 (pc' := 24) (L' := [some (.ref 91), some (vI (v1 + (-1))), some (vI v2), some (vI v3)]) (S' := []) rfl ?_
          refine rz_B.more (rg_le_ok (L := [some (.ref 91), some (vI (v1 + (-1))), some (vI v2), none]) (by simp [rg_le])) ?_
          exact hkk24 _ _ _ _ _ h hk10 hv2 hw13
        · have h := if_F h hc4
          refine rz_B.ifT ((le32 hv1 (by decide)).mpr (Int.not_lt.mp hc4)) ?_
          refine rz_B.go 1 (pc' := 280) (L' := [some (.ref 91), some (vI v1), some (vI v2), some (vI v3)]) (S' := [vI 0]) rfl ?_
          cases h
          exact rz_B.ret rfl (by decide) hw
      · have h := if_F h hc3
        refine rz_B.ifT (mt (eq32 hv3 (by decide)).mp hc3) ?_
        refine rz_B.go 1 (pc' := 280) (L' := [some (.ref 91), some (vI v1), some (vI v2), some (vI v3)]) (S' := [vI 0]) rfl ?_
        cases h
        exact rz_B.ret rfl (by decide) hw
def x169_isText_116 (F : Nat) (k24 : (Int → Int → rz_A → Option (Int × rz_A))) (v1 : Int) (v2 : Int) (v3 : Int) (A : rz_A) : Option (Int × rz_A) :=
  if v2 = 0 then
    if v3 < 0 then
      if v1 = 0 then
        rz_b (x176_pops F 0 A) fun _ A4 =>
        some (1, A4)
      else
        x169_isText_153 F k24 v1 v2 v3 A
    else
      x169_isText_153 F k24 v1 v2 v3 A
  else
    rz_b (x171_isTest F A) fun r5 A5 =>
    if r5 = 0 then
      some (0, A5)
    else
      rz_b (x175_denies F A5) fun _ A7 =>
      k24 v1 0 A7
theorem cx169_isText_116 {d : Nat} (F : Nat) {k24 : (Int → Int → rz_A → Option (Int × rz_A))} (hkk24 : ∀ (v1 : Int) (v2 : Int) (A : rz_A) (r : Int) (A' : rz_A), k24 v1 v2 A = some (r, A') → r32 v1 → r32 v2 → wf A → rz_B (d + 4) 169 24 [some (.ref 91), some (vI v1), some (vI v2), none] [] A (some (vI r)) A' (r32 r)) : ∀ (v1 : Int) (v2 : Int) (v3 : Int) (A : rz_A) (r : Int) (A' : rz_A), x169_isText_116 F k24 v1 v2 v3 A = some (r, A') → r32 v1 → r32 v2 → r32 v3 → wf A → rz_B (d + 4) 169 116 [some (.ref 91), some (vI v1), some (vI v2), some (vI v3)] [] A (some (vI r)) A' (r32 r) := by
  intro v1 v2 v3 A r A' h hv1 hv2 hv3 hw
  unfold x169_isText_116 at h
  refine rz_B.go 2 (pc' := if decide (Int32.ofInt v2 = Int32.ofInt 0) = true then 138 else 120) (L' := [some (.ref 91), some (vI v1), some (vI v2), some (vI v3)]) (S' := []) rfl ?_
  by_cases hc1 : v2 = 0
  · have h := if_T h hc1
    refine rz_B.ifT ((eq32 hv2 (by decide)).mpr hc1) ?_
    refine rz_B.go 2 (pc' := if decide (Int32.ofInt 0 ≤ Int32.ofInt v3) = true then 153 else 142) (L' := [some (.ref 91), some (vI v1), some (vI v2), some (vI v3)]) (S' := []) rfl ?_
    by_cases hc2 : v3 < 0
    · have h := if_T h hc2
      refine rz_B.ifF (mt (le32 (by decide) hv3).mp (Int.not_le.mpr hc2)) ?_
      refine rz_B.go 2 (pc' := if decide (¬ Int32.ofInt v1 = Int32.ofInt 0) = true then 153 else 146) (L' := [some (.ref 91), some (vI v1), some (vI v2), some (vI v3)]) (S' := []) rfl ?_
      by_cases hc3 : v1 = 0
      · have h := if_T h hc3
        refine rz_B.ifF (fun hn => hn ((eq32 hv1 (by decide)).mpr hc3)) ?_
        refine rz_B.go 2 (pc' := 148) (L' := [some (.ref 91), some (vI v1), some (vI v2), some (vI v3)]) (S' := [vI 0, .ref 91]) rfl ?_
        obtain ⟨_, A4, hf4, h⟩ := rz_b_inv h
        obtain ⟨hg4, hr4, hw4⟩ := cx176_pops F (d := d + 3) hf4 (by decide) hw
        refine rz_B.call (d := d + 3) (as := [.ref 91, vI 0]) (rest := []) (w := none) rfl hg4 ?_
        refine rz_B.go 1 (pc' := 152) (L' := [some (.ref 91), some (vI v1), some (vI v2), some (vI v3)]) (S' := [vI 1]) rfl ?_
        cases h
        exact rz_B.ret rfl (by decide) hw4
      · have h := if_F h hc3
        refine rz_B.ifT (mt (eq32 hv1 (by decide)).mp hc3) ?_
        refine rz_B.more (rg_le_ok (L := [some (.ref 91), some (vI v1), some (vI v2), some (vI v3)]) (by simp [rg_le])) ?_
        exact cx169_isText_153 F hkk24 _ _ _ _ _ _ h hv1 hv2 hv3 hw
    · have h := if_F h hc2
      refine rz_B.ifT ((le32 (by decide) hv3).mpr (Int.not_lt.mp hc2)) ?_
      refine rz_B.more (rg_le_ok (L := [some (.ref 91), some (vI v1), some (vI v2), some (vI v3)]) (by simp [rg_le])) ?_
      exact cx169_isText_153 F hkk24 _ _ _ _ _ _ h hv1 hv2 hv3 hw
  · have h := if_F h hc1
    refine rz_B.ifF (mt (eq32 hv2 (by decide)).mp hc1) ?_
    refine rz_B.go 1 (pc' := 121) (L' := [some (.ref 91), some (vI v1), some (vI v2), some (vI v3)]) (S' := [.ref 91]) rfl ?_
    obtain ⟨r5, A5, hf5, h⟩ := rz_b_inv h
    obtain ⟨hg5, hr5, hw5⟩ := cx171_isTest F (d := d + 0) hf5 hw
    refine rz_B.call (d := d + 3) (as := [.ref 91]) (rest := []) (w := some (vI r5)) rfl hg5 ?_
    refine rz_B.go 1 (pc' := if decide (¬ Int32.ofInt r5 = Int32.ofInt 0) = true then 129 else 127) (L' := [some (.ref 91), some (vI v1), some (vI v2), some (vI v3)]) (S' := []) rfl ?_
    by_cases hc6 : r5 = 0
    · have h := if_T h hc6
      refine rz_B.ifF (fun hn => hn ((eq32 hr5 (by decide)).mpr hc6)) ?_
      refine rz_B.go 1 (pc' := 128) (L' := [some (.ref 91), some (vI v1), some (vI v2), some (vI v3)]) (S' := [vI 0]) rfl ?_
      cases h
      exact rz_B.ret rfl (by decide) hw5
    · have h := if_F h hc6
      refine rz_B.ifT (mt (eq32 hr5 (by decide)).mp hc6) ?_
      refine rz_B.go 1 (pc' := 130) (L' := [some (.ref 91), some (vI v1), some (vI v2), some (vI v3)]) (S' := [.ref 91]) rfl ?_
      obtain ⟨_, A7, hf7, h⟩ := rz_b_inv h
      obtain ⟨hg7, hr7, hw7⟩ := cx175_denies F (d := d + 3) hf7 hw5
      refine rz_B.call (d := d + 3) (as := [.ref 91]) (rest := []) (w := none) rfl hg7 ?_
      refine rz_B.go 4 (pc' := 24) (L' := [some (.ref 91), some (vI v1), some (vI 0), some (vI v3)]) (S' := []) rfl ?_
      refine rz_B.more (rg_le_ok (L := [some (.ref 91), some (vI v1), some (vI 0), none]) (by simp [rg_le])) ?_
      exact hkk24 _ _ _ _ _ h hv1 (by decide) hw7
def x169_isText_45 (F : Nat) (k24 : (Int → Int → rz_A → Option (Int × rz_A))) (v1 : Int) (v2 : Int) (v3 : Int) (A : rz_A) : Option (Int × rz_A) :=
  if (A.1 91 60) = 5 then
    some (0, A)
  else
    rz_g32 ((A.1 91 60) + 1) <|
    rz_g32 ((A.1 91 59) + 1) <|
    if v3 = 33 then
      rz_gx (A.1 91 59) 80 <|
      if v3 = 40 then
        rz_g32 (v1 + 1) <|
        rz_g32 ((A.1 91 57) + 1) <|
        k24 (v1 + 1) v2 (aI (aI (aI (aI A 91 60 ((A.1 91 60) + 1)) 91 59 ((A.1 91 59) + 1)) 134 ((A.1 91 59)).toNat (-42)) 91 57 ((A.1 91 57) + 1))
      else
        rz_g32 ((A.1 91 57) + 1) <|
        k24 v1 v2 (aI (aI (aI (aI A 91 60 ((A.1 91 60) + 1)) 91 59 ((A.1 91 59) + 1)) 134 ((A.1 91 59)).toNat (-42)) 91 57 ((A.1 91 57) + 1))
    else
      rz_gx (A.1 91 59) 80 <|
      if v3 = 40 then
        rz_g32 (v1 + 1) <|
        rz_g32 ((A.1 91 57) + 1) <|
        k24 (v1 + 1) v2 (aI (aI (aI (aI A 91 60 ((A.1 91 60) + 1)) 91 59 ((A.1 91 59) + 1)) 134 ((A.1 91 59)).toNat (-49)) 91 57 ((A.1 91 57) + 1))
      else
        rz_g32 ((A.1 91 57) + 1) <|
        k24 v1 v2 (aI (aI (aI (aI A 91 60 ((A.1 91 60) + 1)) 91 59 ((A.1 91 59) + 1)) 134 ((A.1 91 59)).toNat (-49)) 91 57 ((A.1 91 57) + 1))
theorem cx169_isText_45 {d : Nat} (F : Nat) {k24 : (Int → Int → rz_A → Option (Int × rz_A))} (hkk24 : ∀ (v1 : Int) (v2 : Int) (A : rz_A) (r : Int) (A' : rz_A), k24 v1 v2 A = some (r, A') → r32 v1 → r32 v2 → wf A → rz_B (d + 4) 169 24 [some (.ref 91), some (vI v1), some (vI v2), none] [] A (some (vI r)) A' (r32 r)) : ∀ (v1 : Int) (v2 : Int) (v3 : Int) (A : rz_A) (r : Int) (A' : rz_A), x169_isText_45 F k24 v1 v2 v3 A = some (r, A') → r32 v1 → r32 v2 → r32 v3 → wf A → rz_B (d + 4) 169 45 [some (.ref 91), some (vI v1), some (vI v2), some (vI v3)] [] A (some (vI r)) A' (r32 r) := by
  intro v1 v2 v3 A r A' h hv1 hv2 hv3 hw
  unfold x169_isText_45 at h
  refine rz_B.go 4 (pc' := if decide (¬ Int32.ofInt (A.1 91 60) = Int32.ofInt 5) = true then 55 else 53) (L' := [some (.ref 91), some (vI v1), some (vI v2), some (vI v3)]) (S' := []) rfl ?_
  by_cases hc1 : (A.1 91 60) = 5
  · have h := if_T h hc1
    refine rz_B.ifF (fun hn => hn ((eq32 (hw 91 60).1 (by decide)).mpr hc1)) ?_
    refine rz_B.go 1 (pc' := 54) (L' := [some (.ref 91), some (vI v1), some (vI v2), some (vI v3)]) (S' := [vI 0]) rfl ?_
    cases h
    exact rz_B.ret rfl (by decide) hw
  · have h := if_F h hc1
    refine rz_B.ifT (mt (eq32 (hw 91 60).1 (by decide)).mp hc1) ?_
    refine rz_B.go 4 (pc' := 61) (L' := [some (.ref 91), some (vI v1), some (vI v2), some (vI v3)]) (S' := [vI 1, vI (A.1 91 60), .ref 91]) rfl ?_
    obtain ⟨hk2, h⟩ := rz_g32_inv h
    refine rz_B.iadd rfl ?_
    refine rz_B.put 1 (pc' := 65) (L' := [some (.ref 91), some (vI v1), some (vI v2), some (vI v3)]) (S' := []) (c := 91) (k := 60) (x := ((A.1 91 60) + 1)) rfl ?_
    have hw3 : wf (aI A 91 60 ((A.1 91 60) + 1)) := wf_aI hw hk2
    refine rz_B.go 7 (pc' := 76) (L' := [some (.ref 91), some (vI v1), some (vI v2), some (vI v3)]) (S' := [vI 1, vI (A.1 91 59), .ref 91, vI (A.1 91 59), .ref 134]) rfl ?_
    obtain ⟨hk4, h⟩ := rz_g32_inv h
    refine rz_B.iadd rfl ?_
    refine rz_B.put 1 (pc' := 80) (L' := [some (.ref 91), some (vI v1), some (vI v2), some (vI v3)]) (S' := [vI (A.1 91 59), .ref 134]) (c := 91) (k := 59) (x := ((A.1 91 59) + 1)) rfl ?_
    have hw5 : wf (aI (aI A 91 60 ((A.1 91 60) + 1)) 91 59 ((A.1 91 59) + 1)) := wf_aI hw3 hk4
    refine rz_B.go 3 (pc' := if decide (¬ Int32.ofInt v3 = Int32.ofInt 33) = true then 91 else 86) (L' := [some (.ref 91), some (vI v1), some (vI v2), some (vI v3)]) (S' := [vI (A.1 91 59), .ref 134]) rfl ?_
    by_cases hc6 : v3 = 33
    · have h := if_T h hc6
      refine rz_B.ifF (fun hn => hn ((eq32 hv3 (by decide)).mpr hc6)) ?_
      refine rz_B.go 2 (pc' := 93) (L' := [some (.ref 91), some (vI v1), some (vI v2), some (vI v3)]) (S' := [vI (-42), vI (A.1 91 59), .ref 134]) rfl ?_
      obtain ⟨hi7, hj8, h⟩ := rz_gx_inv h
      refine rz_B.iast rfl rfl hi7 hj8 (by decide) ?_
      have hw9 : wf (aI (aI (aI A 91 60 ((A.1 91 60) + 1)) 91 59 ((A.1 91 59) + 1)) 134 ((A.1 91 59)).toNat (-42)) := wf_aI hw5 (by decide)
      refine rz_B.go 3 (pc' := if decide (¬ Int32.ofInt v3 = Int32.ofInt 40) = true then 103 else 100) (L' := [some (.ref 91), some (vI v1), some (vI v2), some (vI v3)]) (S' := []) rfl ?_
      by_cases hc10 : v3 = 40
      · have h := if_T h hc10
        refine rz_B.ifF (fun hn => hn ((eq32 hv3 (by decide)).mpr hc10)) ?_
        obtain ⟨hk11, h⟩ := rz_g32_inv h
        refine rz_B.iinc rfl (by decide) rfl (L' := [some (.ref 91), some (vI (v1 + 1)), some (vI v2), some (vI v3)]) rfl ?_
        refine rz_B.go 4 (pc' := 109) (L' := [some (.ref 91), some (vI (v1 + 1)), some (vI v2), some (vI v3)]) (S' := [vI 1, vI (A.1 91 57), .ref 91]) rfl ?_
        obtain ⟨hk12, h⟩ := rz_g32_inv h
        refine rz_B.iadd rfl ?_
        refine rz_B.put 1 (pc' := 113) (L' := [some (.ref 91), some (vI (v1 + 1)), some (vI v2), some (vI v3)]) (S' := []) (c := 91) (k := 57) (x := ((A.1 91 57) + 1)) rfl ?_
        have hw13 : wf (aI (aI (aI (aI A 91 60 ((A.1 91 60) + 1)) 91 59 ((A.1 91 59) + 1)) 134 ((A.1 91 59)).toNat (-42)) 91 57 ((A.1 91 57) + 1)) := wf_aI hw9 hk12
        refine rz_B.go 2 (pc' := 24) (L' := [some (.ref 91), some (vI (v1 + 1)), some (vI v2), some (vI v3)]) (S' := []) rfl ?_
        refine rz_B.more (rg_le_ok (L := [some (.ref 91), some (vI (v1 + 1)), some (vI v2), none]) (by simp [rg_le])) ?_
        exact hkk24 _ _ _ _ _ h hk11 hv2 hw13
      · have h := if_F h hc10
        refine rz_B.ifT (mt (eq32 hv3 (by decide)).mp hc10) ?_
        refine rz_B.go 4 (pc' := 109) (L' := [some (.ref 91), some (vI v1), some (vI v2), some (vI v3)]) (S' := [vI 1, vI (A.1 91 57), .ref 91]) rfl ?_
        obtain ⟨hk14, h⟩ := rz_g32_inv h
        refine rz_B.iadd rfl ?_
        refine rz_B.put 1 (pc' := 113) (L' := [some (.ref 91), some (vI v1), some (vI v2), some (vI v3)]) (S' := []) (c := 91) (k := 57) (x := ((A.1 91 57) + 1)) rfl ?_
        have hw15 : wf (aI (aI (aI (aI A 91 60 ((A.1 91 60) + 1)) 91 59 ((A.1 91 59) + 1)) 134 ((A.1 91 59)).toNat (-42)) 91 57 ((A.1 91 57) + 1)) := wf_aI hw9 hk14
        refine rz_B.go 2 (pc' := 24) (L' := [some (.ref 91), some (vI v1), some (vI v2), some (vI v3)]) (S' := []) rfl ?_
        refine rz_B.more (rg_le_ok (L := [some (.ref 91), some (vI v1), some (vI v2), none]) (by simp [rg_le])) ?_
        exact hkk24 _ _ _ _ _ h hv1 hv2 hw15
    · have h := if_F h hc6
      refine rz_B.ifT (mt (eq32 hv3 (by decide)).mp hc6) ?_
      refine rz_B.go 1 (pc' := 93) (L' := [some (.ref 91), some (vI v1), some (vI v2), some (vI v3)]) (S' := [vI (-49), vI (A.1 91 59), .ref 134]) rfl ?_
      obtain ⟨hi16, hj17, h⟩ := rz_gx_inv h
      refine rz_B.iast rfl rfl hi16 hj17 (by decide) ?_
      have hw18 : wf (aI (aI (aI A 91 60 ((A.1 91 60) + 1)) 91 59 ((A.1 91 59) + 1)) 134 ((A.1 91 59)).toNat (-49)) := wf_aI hw5 (by decide)
      refine rz_B.go 3 (pc' := if decide (¬ Int32.ofInt v3 = Int32.ofInt 40) = true then 103 else 100) (L' := [some (.ref 91), some (vI v1), some (vI v2), some (vI v3)]) (S' := []) rfl ?_
      by_cases hc19 : v3 = 40
      · have h := if_T h hc19
        refine rz_B.ifF (fun hn => hn ((eq32 hv3 (by decide)).mpr hc19)) ?_
        obtain ⟨hk20, h⟩ := rz_g32_inv h
        refine rz_B.iinc rfl (by decide) rfl (L' := [some (.ref 91), some (vI (v1 + 1)), some (vI v2), some (vI v3)]) rfl ?_
        refine rz_B.go 4 (pc' := 109) (L' := [some (.ref 91), some (vI (v1 + 1)), some (vI v2), some (vI v3)]) (S' := [vI 1, vI (A.1 91 57), .ref 91]) rfl ?_
        obtain ⟨hk21, h⟩ := rz_g32_inv h
        refine rz_B.iadd rfl ?_
        refine rz_B.put 1 (pc' := 113) (L' := [some (.ref 91), some (vI (v1 + 1)), some (vI v2), some (vI v3)]) (S' := []) (c := 91) (k := 57) (x := ((A.1 91 57) + 1)) rfl ?_
        have hw22 : wf (aI (aI (aI (aI A 91 60 ((A.1 91 60) + 1)) 91 59 ((A.1 91 59) + 1)) 134 ((A.1 91 59)).toNat (-49)) 91 57 ((A.1 91 57) + 1)) := wf_aI hw18 hk21
        refine rz_B.go 2 (pc' := 24) (L' := [some (.ref 91), some (vI (v1 + 1)), some (vI v2), some (vI v3)]) (S' := []) rfl ?_
        refine rz_B.more (rg_le_ok (L := [some (.ref 91), some (vI (v1 + 1)), some (vI v2), none]) (by simp [rg_le])) ?_
        exact hkk24 _ _ _ _ _ h hk20 hv2 hw22
      · have h := if_F h hc19
        refine rz_B.ifT (mt (eq32 hv3 (by decide)).mp hc19) ?_
        refine rz_B.go 4 (pc' := 109) (L' := [some (.ref 91), some (vI v1), some (vI v2), some (vI v3)]) (S' := [vI 1, vI (A.1 91 57), .ref 91]) rfl ?_
        obtain ⟨hk23, h⟩ := rz_g32_inv h
        refine rz_B.iadd rfl ?_
        refine rz_B.put 1 (pc' := 113) (L' := [some (.ref 91), some (vI v1), some (vI v2), some (vI v3)]) (S' := []) (c := 91) (k := 57) (x := ((A.1 91 57) + 1)) rfl ?_
        have hw24 : wf (aI (aI (aI (aI A 91 60 ((A.1 91 60) + 1)) 91 59 ((A.1 91 59) + 1)) 134 ((A.1 91 59)).toNat (-49)) 91 57 ((A.1 91 57) + 1)) := wf_aI hw18 hk23
        refine rz_B.go 2 (pc' := 24) (L' := [some (.ref 91), some (vI v1), some (vI v2), some (vI v3)]) (S' := []) rfl ?_
        refine rz_B.more (rg_le_ok (L := [some (.ref 91), some (vI v1), some (vI v2), none]) (by simp [rg_le])) ?_
        exact hkk24 _ _ _ _ _ h hv1 hv2 hw24
def x169_isText_24 (F : Nat) : Nat → Int → Int → rz_A → Option (Int × rz_A)
  | 0, _, _, _ => none
  | n + 1, v1, v2, A =>
    rz_b (x170_sign F A) fun r1 A1 =>
    if v2 = 0 then
      x169_isText_116 F (x169_isText_24 F n) v1 v2 r1 A1
    else
      if r1 = 33 then
        x169_isText_45 F (x169_isText_24 F n) v1 v2 r1 A1
      else
        if r1 = 40 then
          x169_isText_45 F (x169_isText_24 F n) v1 v2 r1 A1
        else
          x169_isText_116 F (x169_isText_24 F n) v1 v2 r1 A1
theorem cx169_isText_24 {d : Nat} (F : Nat) : ∀ (n : Nat) (v1 : Int) (v2 : Int) (A : rz_A) (r : Int) (A' : rz_A), x169_isText_24 F n v1 v2 A = some (r, A') → r32 v1 → r32 v2 → wf A → rz_B (d + 4) 169 24 [some (.ref 91), some (vI v1), some (vI v2), none] [] A (some (vI r)) A' (r32 r) := by
  intro n
  induction n with
  | zero => intro v1 v2 A r A' h; cases h
  | succ n ih =>
    intro v1 v2 A r A' h hv1 hv2 hw
    rw [x169_isText_24] at h
    refine rz_B.go 1 (pc' := 25) (L' := [some (.ref 91), some (vI v1), some (vI v2), none]) (S' := [.ref 91]) rfl ?_
    obtain ⟨r1, A1, hf1, h⟩ := rz_b_inv h
    obtain ⟨hg1, hr1, hw1⟩ := cx170_sign F (d := d + 3) hf1 hw
    refine rz_B.call (d := d + 3) (as := [.ref 91]) (rest := []) (w := some (vI r1)) rfl hg1 ?_
    refine rz_B.go 3 (pc' := if decide (Int32.ofInt v2 = Int32.ofInt 0) = true then 116 else 33) (L' := [some (.ref 91), some (vI v1), some (vI v2), some (vI r1)]) (S' := []) rfl ?_
    by_cases hc2 : v2 = 0
    · have h := if_T h hc2
      refine rz_B.ifT ((eq32 hv2 (by decide)).mpr hc2) ?_
      refine rz_B.more (rg_le_ok (L := [some (.ref 91), some (vI v1), some (vI v2), some (vI r1)]) (by simp [rg_le])) ?_
      exact cx169_isText_116 F ih _ _ _ _ _ _ h hv1 hv2 hr1 hw1
    · have h := if_F h hc2
      refine rz_B.ifF (mt (eq32 hv2 (by decide)).mp hc2) ?_
      refine rz_B.go 3 (pc' := if decide (Int32.ofInt r1 = Int32.ofInt 33) = true then 45 else 39) (L' := [some (.ref 91), some (vI v1), some (vI v2), some (vI r1)]) (S' := []) rfl ?_
      by_cases hc3 : r1 = 33
      · have h := if_T h hc3
        refine rz_B.ifT ((eq32 hr1 (by decide)).mpr hc3) ?_
        refine rz_B.more (rg_le_ok (L := [some (.ref 91), some (vI v1), some (vI v2), some (vI r1)]) (by simp [rg_le])) ?_
        exact cx169_isText_45 F ih _ _ _ _ _ _ h hv1 hv2 hr1 hw1
      · have h := if_F h hc3
        refine rz_B.ifF (mt (eq32 hr1 (by decide)).mp hc3) ?_
        refine rz_B.go 3 (pc' := if decide (¬ Int32.ofInt r1 = Int32.ofInt 40) = true then 116 else 45) (L' := [some (.ref 91), some (vI v1), some (vI v2), some (vI r1)]) (S' := []) rfl ?_
        by_cases hc4 : r1 = 40
        · have h := if_T h hc4
          refine rz_B.ifF (fun hn => hn ((eq32 hr1 (by decide)).mpr hc4)) ?_
          refine rz_B.more (rg_le_ok (L := [some (.ref 91), some (vI v1), some (vI v2), some (vI r1)]) (by simp [rg_le])) ?_
          exact cx169_isText_45 F ih _ _ _ _ _ _ h hv1 hv2 hr1 hw1
        · have h := if_F h hc4
          refine rz_B.ifT (mt (eq32 hr1 (by decide)).mp hc4) ?_
          refine rz_B.more (rg_le_ok (L := [some (.ref 91), some (vI v1), some (vI v2), some (vI r1)]) (by simp [rg_le])) ?_
          exact cx169_isText_116 F ih _ _ _ _ _ _ h hv1 hv2 hr1 hw1
/-- RiverGaugeModel.isText()Z -/
def x169_isText (F : Nat) (A : rz_A) : Option (Int × rz_A) :=
  x169_isText_24 F F 0 1 (aI (aI (aI (aI A 91 57 0) 91 58 0) 91 59 0) 91 60 0)
theorem cx169_isText (F : Nat) {d : Nat} {A : rz_A} {r : Int} {A' : rz_A} (h : x169_isText F A = some (r, A')) (hw : wf A) : rg_Rn (d + 4) 169 [.ref 91] (toM A) (some (vI r)) (toM A') ∧ (r32 r) ∧ wf A' := by
  show rz_B (d + 4) 169 0 [some (.ref 91), none, none, none] [] A (some (vI r)) A' (r32 r)
  unfold x169_isText at h
  refine rz_B.put 3 (pc' := 5) (L' := [some (.ref 91), none, none, none]) (S' := []) (c := 91) (k := 57) (x := 0) rfl ?_
  have hw1 : wf (aI A 91 57 0) := wf_aI hw (by decide)
  refine rz_B.put 3 (pc' := 10) (L' := [some (.ref 91), none, none, none]) (S' := []) (c := 91) (k := 58) (x := 0) rfl ?_
  have hw2 : wf (aI (aI A 91 57 0) 91 58 0) := wf_aI hw1 (by decide)
  refine rz_B.put 3 (pc' := 15) (L' := [some (.ref 91), none, none, none]) (S' := []) (c := 91) (k := 59) (x := 0) rfl ?_
  have hw3 : wf (aI (aI (aI A 91 57 0) 91 58 0) 91 59 0) := wf_aI hw2 (by decide)
  refine rz_B.put 3 (pc' := 20) (L' := [some (.ref 91), none, none, none]) (S' := []) (c := 91) (k := 60) (x := 0) rfl ?_
  have hw4 : wf (aI (aI (aI (aI A 91 57 0) 91 58 0) 91 59 0) 91 60 0) := wf_aI hw3 (by decide)
  refine rz_B.go 4 (pc' := 24) (L' := [some (.ref 91), some (vI 0), some (vI 1), none]) (S' := []) rfl ?_
  refine rz_B.more (rg_le_ok (L := [some (.ref 91), some (vI 0), some (vI 1), none]) (by simp [rg_le])) ?_
  exact cx169_isText_24 F F _ _ _ _ _ h (by decide) (by decide) hw4
def x168_standard_166 (F : Nat) (A : rz_A) : Option (Int × rz_A) :=
  rz_g32 ((A.1 91 11) + 1) <|
  rz_g32 ((A.1 91 5) + 1) <|
  some ((A.1 91 5), (aI (aI A 91 11 ((A.1 91 11) + 1)) 91 5 ((A.1 91 5) + 1)))
theorem cx168_standard_166 {d : Nat} (F : Nat) : ∀ (A : rz_A) (r : Int) (A' : rz_A), x168_standard_166 F A = some (r, A') → wf A → rz_B (d + 5) 168 166 [some (.ref 91), none, none, none, none] [] A (some (vI r)) A' (r32 r) := by
  intro A r A' h hw
  unfold x168_standard_166 at h
  refine rz_B.go 4 (pc' := 172) (L' := [some (.ref 91), none, none, none, none]) (S' := [vI 1, vI (A.1 91 11), .ref 91]) rfl ?_
  obtain ⟨hk1, h⟩ := rz_g32_inv h
  refine rz_B.iadd rfl ?_
  refine rz_B.put 1 (pc' := 176) (L' := [some (.ref 91), none, none, none, none]) (S' := []) (c := 91) (k := 11) (x := ((A.1 91 11) + 1)) rfl ?_
  have hw2 : wf (aI A 91 11 ((A.1 91 11) + 1)) := wf_aI hw hk1
  refine rz_B.go 5 (pc' := 183) (L' := [some (.ref 91), none, none, none, none]) (S' := [vI 1, vI (A.1 91 5), .ref 91, vI (A.1 91 5)]) rfl ?_
  obtain ⟨hk3, h⟩ := rz_g32_inv h
  refine rz_B.iadd rfl ?_
  refine rz_B.put 1 (pc' := 187) (L' := [some (.ref 91), none, none, none, none]) (S' := [vI (A.1 91 5)]) (c := 91) (k := 5) (x := ((A.1 91 5) + 1)) rfl ?_
  have hw4 : wf (aI (aI A 91 11 ((A.1 91 11) + 1)) 91 5 ((A.1 91 5) + 1)) := wf_aI hw2 hk3
  cases h
  exact rz_B.ret rfl (hw 91 5).1 hw4
def x168_standard_128 (F : Nat) : Nat → Int → rz_A → Option (Int × rz_A)
  | 0, _, _ => none
  | n + 1, v4, A =>
    if v4 < (A.1 91 58) then
      rz_g32 (130 * (A.1 91 5)) <|
      rz_g32 ((130 * (A.1 91 5)) + v4) <|
      rz_gx v4 140 <|
      rz_gx ((130 * (A.1 91 5)) + v4) 2600 <|
      rz_g32 (v4 + 1) <|
      x168_standard_128 F n (v4 + 1) (aI A 126 (((130 * (A.1 91 5)) + v4)).toNat (A.1 135 (v4).toNat))
    else
      x168_standard_166 F A
theorem cx168_standard_128 {d : Nat} (F : Nat) : ∀ (n : Nat) (v4 : Int) (A : rz_A) (r : Int) (A' : rz_A), x168_standard_128 F n v4 A = some (r, A') → r32 v4 → wf A → rz_B (d + 5) 168 128 [some (.ref 91), none, none, none, some (vI v4)] [] A (some (vI r)) A' (r32 r) := by
  intro n
  induction n with
  | zero => intro v4 A r A' h; cases h
  | succ n ih =>
    intro v4 A r A' h hv4 hw
    rw [x168_standard_128] at h
    refine rz_B.go 4 (pc' := if decide (Int32.ofInt (A.1 91 58) ≤ Int32.ofInt v4) = true then 166 else 137) (L' := [some (.ref 91), none, none, none, some (vI v4)]) (S' := []) rfl ?_
    by_cases hc1 : v4 < (A.1 91 58)
    · have h := if_T h hc1
      refine rz_B.ifF (mt (le32 (hw 91 58).1 hv4).mp (Int.not_le.mpr hc1)) ?_
      refine rz_B.go 5 (pc' := 148) (L' := [some (.ref 91), none, none, none, some (vI v4)]) (S' := [vI (A.1 91 5), vI 130, .ref 126]) rfl ?_
      obtain ⟨hk2, h⟩ := rz_g32_inv h
      refine rz_B.imul rfl ?_
      refine rz_B.go 1 (pc' := 151) (L' := [some (.ref 91), none, none, none, some (vI v4)]) (S' := [vI v4, vI (130 * (A.1 91 5)), .ref 126]) rfl ?_
      obtain ⟨hk3, h⟩ := rz_g32_inv h
      refine rz_B.iadd rfl ?_
      refine rz_B.go 3 (pc' := 158) (L' := [some (.ref 91), none, none, none, some (vI v4)]) (S' := [vI v4, .ref 135, vI ((130 * (A.1 91 5)) + v4), .ref 126]) rfl ?_
      obtain ⟨hi4, hj5, h⟩ := rz_gx_inv h
      refine rz_B.iald rfl rfl hi4 hj5 (by decide) ?_
      obtain ⟨hi6, hj7, h⟩ := rz_gx_inv h
      refine rz_B.iast rfl rfl hi6 hj7 (by decide) ?_
      have hw8 : wf (aI A 126 (((130 * (A.1 91 5)) + v4)).toNat (A.1 135 (v4).toNat)) := wf_aI hw (hw 135 (v4).toNat).1
      obtain ⟨hk9, h⟩ := rz_g32_inv h
      refine rz_B.iinc rfl (by decide) rfl (L' := [some (.ref 91), none, none, none, some (vI (v4 + 1))]) rfl ?_
      refine rz_B.go 1 (pc' := 128) (L' := [some (.ref 91), none, none, none, some (vI (v4 + 1))]) (S' := []) rfl ?_
      refine rz_B.more (rg_le_ok (L := [some (.ref 91), none, none, none, some (vI (v4 + 1))]) (by simp [rg_le])) ?_
      exact ih _ _ _ _ h hk9 hw8
    · have h := if_F h hc1
      refine rz_B.ifT ((le32 (hw 91 58).1 hv4).mpr (Int.not_lt.mp hc1)) ?_
      refine rz_B.more (rg_le_ok (L := [some (.ref 91), none, none, none, none]) (by simp [rg_le])) ?_
      exact cx168_standard_166 F _ _ _ h hw
/-- RiverGaugeModel.standard(II)I -/
def x168_standard (F : Nat) (a0 : Int) (a1 : Int) (A : rz_A) : Option (Int × rz_A) :=
  if 0 ≤ a0 then
    if 2 < a0 then
      rz_b (x142_no F (-2) A) fun r3 A3 =>
      some (r3, A3)
    else
      rz_g32 ((A.1 91 0).tdiv 96) <|
      if a1 < ((A.1 91 0).tdiv 96) then
        rz_b (x142_no F (-4) A) fun r6 A6 =>
        some (r6, A6)
      else
        if a1 ≤ 200 then
          if (A.1 91 5) = 20 then
            rz_b (x142_no F (-6) A) fun r9 A9 =>
            some (r9, A9)
          else
            rz_b (x169_isText F A) fun r10 A10 =>
            if r10 = 0 then
              rz_g32 ((-20) - (A10.1 91 57)) <|
              some (((-20) - (A10.1 91 57)), (aI A10 91 8 0))
            else
              rz_gx (A10.1 91 5) 20 <|
              x168_standard_128 F F 0 (aI (aI (aI (aI (aI A10 91 8 0) 122 ((A10.1 91 5)).toNat a0) 123 ((A10.1 91 5)).toNat a1) 124 ((A10.1 91 5)).toNat (A10.1 91 0)) 125 ((A10.1 91 5)).toNat (A10.1 91 58))
        else
          rz_b (x142_no F (-6) A) fun r20 A20 =>
          some (r20, A20)
  else
    rz_b (x142_no F (-2) A) fun r21 A21 =>
    some (r21, A21)
theorem cx168_standard (F : Nat) {d : Nat} {a0 : Int} {a1 : Int} {A : rz_A} {r : Int} {A' : rz_A} (h : x168_standard F a0 a1 A = some (r, A')) (ha0 : r32 a0) (ha1 : r32 a1) (hw : wf A) : rg_Rn (d + 5) 168 [.ref 91, vI a0, vI a1] (toM A) (some (vI r)) (toM A') ∧ (r32 r) ∧ wf A' := by
  show rz_B (d + 5) 168 0 [some (.ref 91), some (vI a0), some (vI a1), none, none] [] A (some (vI r)) A' (r32 r)
  unfold x168_standard at h
  refine rz_B.go 2 (pc' := if decide (Int32.ofInt a0 < Int32.ofInt 0) = true then 9 else 4) (L' := [some (.ref 91), some (vI a0), some (vI a1), none, none]) (S' := []) rfl ?_
  by_cases hc1 : 0 ≤ a0
  · have h := if_T h hc1
    refine rz_B.ifF (mt (lt32 ha0 (by decide)).mp (Int.not_lt.mpr hc1)) ?_
    refine rz_B.go 3 (pc' := if decide (Int32.ofInt a0 ≤ Int32.ofInt 2) = true then 16 else 9) (L' := [some (.ref 91), some (vI a0), some (vI a1), none, none]) (S' := []) rfl ?_
    by_cases hc2 : 2 < a0
    · have h := if_T h hc2
      refine rz_B.ifF (mt (le32 ha0 (by decide)).mp (Int.not_le.mpr hc2)) ?_
      refine rz_B.go 2 (pc' := 12) (L' := [some (.ref 91), some (vI a0), some (vI a1), none, none]) (S' := [vI (-2), .ref 91]) rfl ?_
      obtain ⟨r3, A3, hf3, h⟩ := rz_b_inv h
      obtain ⟨hg3, hr3, hw3⟩ := cx142_no F (d := d + 4) hf3 (by decide) hw
      refine rz_B.call (d := d + 4) (as := [.ref 91, vI (-2)]) (rest := []) (w := some (vI r3)) rfl hg3 ?_
      cases h
      exact rz_B.ret rfl hr3 hw3
    · have h := if_F h hc2
      refine rz_B.ifT ((le32 ha0 (by decide)).mpr (Int.not_lt.mp hc2)) ?_
      refine rz_B.go 4 (pc' := 23) (L' := [some (.ref 91), some (vI a0), some (vI a1), none, none]) (S' := [vI 96, vI (A.1 91 0), vI a1]) rfl ?_
      obtain ⟨hk4, h⟩ := rz_g32_inv h
      refine rz_B.idiv rfl (hw 91 0).1 (by decide) (by decide) ?_
      refine rz_B.go 1 (pc' := if decide (Int32.ofInt ((A.1 91 0).tdiv 96) ≤ Int32.ofInt a1) = true then 34 else 27) (L' := [some (.ref 91), some (vI a0), some (vI a1), none, none]) (S' := []) rfl ?_
      by_cases hc5 : a1 < ((A.1 91 0).tdiv 96)
      · have h := if_T h hc5
        refine rz_B.ifF (mt (le32 hk4 ha1).mp (Int.not_le.mpr hc5)) ?_
        refine rz_B.go 2 (pc' := 30) (L' := [some (.ref 91), some (vI a0), some (vI a1), none, none]) (S' := [vI (-4), .ref 91]) rfl ?_
        obtain ⟨r6, A6, hf6, h⟩ := rz_b_inv h
        obtain ⟨hg6, hr6, hw6⟩ := cx142_no F (d := d + 4) hf6 (by decide) hw
        refine rz_B.call (d := d + 4) (as := [.ref 91, vI (-4)]) (rest := []) (w := some (vI r6)) rfl hg6 ?_
        cases h
        exact rz_B.ret rfl hr6 hw6
      · have h := if_F h hc5
        refine rz_B.ifT ((le32 hk4 ha1).mpr (Int.not_lt.mp hc5)) ?_
        refine rz_B.go 3 (pc' := if decide (Int32.ofInt 200 < Int32.ofInt a1) = true then 50 else 41) (L' := [some (.ref 91), some (vI a0), some (vI a1), none, none]) (S' := []) rfl ?_
        by_cases hc7 : a1 ≤ 200
        · have h := if_T h hc7
          refine rz_B.ifF (mt (lt32 (by decide) ha1).mp (Int.not_lt.mpr hc7)) ?_
          refine rz_B.go 4 (pc' := if decide (¬ Int32.ofInt (A.1 91 5) = Int32.ofInt 20) = true then 57 else 50) (L' := [some (.ref 91), some (vI a0), some (vI a1), none, none]) (S' := []) rfl ?_
          by_cases hc8 : (A.1 91 5) = 20
          · have h := if_T h hc8
            refine rz_B.ifF (fun hn => hn ((eq32 (hw 91 5).1 (by decide)).mpr hc8)) ?_
            refine rz_B.go 2 (pc' := 53) (L' := [some (.ref 91), some (vI a0), some (vI a1), none, none]) (S' := [vI (-6), .ref 91]) rfl ?_
            obtain ⟨r9, A9, hf9, h⟩ := rz_b_inv h
            obtain ⟨hg9, hr9, hw9⟩ := cx142_no F (d := d + 4) hf9 (by decide) hw
            refine rz_B.call (d := d + 4) (as := [.ref 91, vI (-6)]) (rest := []) (w := some (vI r9)) rfl hg9 ?_
            cases h
            exact rz_B.ret rfl hr9 hw9
          · have h := if_F h hc8
            refine rz_B.ifT (mt (eq32 (hw 91 5).1 (by decide)).mp hc8) ?_
            refine rz_B.go 1 (pc' := 58) (L' := [some (.ref 91), some (vI a0), some (vI a1), none, none]) (S' := [.ref 91]) rfl ?_
            obtain ⟨r10, A10, hf10, h⟩ := rz_b_inv h
            obtain ⟨hg10, hr10, hw10⟩ := cx169_isText F (d := d + 0) hf10 hw
            refine rz_B.call (d := d + 4) (as := [.ref 91]) (rest := []) (w := some (vI r10)) rfl hg10 ?_
            refine rz_B.put 4 (pc' := 67) (L' := [some (.ref 91), some (vI a0), some (vI a1), some (vI r10), none]) (S' := []) (c := 91) (k := 8) (x := 0) rfl ?_
            have hw11 : wf (aI A10 91 8 0) := wf_aI hw10 (by decide)
            refine rz_B.go 2 (pc' := if decide (¬ Int32.ofInt r10 = Int32.ofInt 0) = true then 79 else 71) (L' := [some (.ref 91), some (vI a0), some (vI a1), some (vI r10), none]) (S' := []) rfl ?_
            by_cases hc12 : r10 = 0
            · have h := if_T h hc12
              refine rz_B.ifF (fun hn => hn ((eq32 hr10 (by decide)).mpr hc12)) ?_
              refine rz_B.go 3 (pc' := 77) (L' := [some (.ref 91), some (vI a0), some (vI a1), some (vI r10), none]) (S' := [vI (A10.1 91 57), vI (-20)]) rfl ?_
              obtain ⟨hk13, h⟩ := rz_g32_inv h
              refine rz_B.isub rfl ?_
              cases h
              exact rz_B.ret rfl hk13 hw11
            · have h := if_F h hc12
              refine rz_B.ifT (mt (eq32 hr10 (by decide)).mp hc12) ?_
              refine rz_B.go 5 (pc' := 88) (L' := [some (.ref 91), some (vI a0), some (vI a1), some (vI r10), none]) (S' := [vI a0, vI (A10.1 91 5), .ref 122]) rfl ?_
              obtain ⟨hi14, hj15, h⟩ := rz_gx_inv h
              refine rz_B.iast rfl rfl hi14 hj15 (by decide) ?_
              have hw16 : wf (aI (aI A10 91 8 0) 122 ((A10.1 91 5)).toNat a0) := wf_aI hw11 ha0
              refine rz_B.go 5 (pc' := 98) (L' := [some (.ref 91), some (vI a0), some (vI a1), some (vI r10), none]) (S' := [vI a1, vI (A10.1 91 5), .ref 123]) rfl ?_
              refine rz_B.iast rfl rfl hi14 hj15 (by decide) ?_
              have hw17 : wf (aI (aI (aI A10 91 8 0) 122 ((A10.1 91 5)).toNat a0) 123 ((A10.1 91 5)).toNat a1) := wf_aI hw16 ha1
              refine rz_B.go 6 (pc' := 111) (L' := [some (.ref 91), some (vI a0), some (vI a1), some (vI r10), none]) (S' := [vI (A10.1 91 0), vI (A10.1 91 5), .ref 124]) rfl ?_
              refine rz_B.iast rfl rfl hi14 hj15 (by decide) ?_
              have hw18 : wf (aI (aI (aI (aI A10 91 8 0) 122 ((A10.1 91 5)).toNat a0) 123 ((A10.1 91 5)).toNat a1) 124 ((A10.1 91 5)).toNat (A10.1 91 0)) := wf_aI hw17 (hw10 91 0).1
              refine rz_B.go 6 (pc' := 124) (L' := [some (.ref 91), some (vI a0), some (vI a1), some (vI r10), none]) (S' := [vI (A10.1 91 58), vI (A10.1 91 5), .ref 125]) rfl ?_
              refine rz_B.iast rfl rfl hi14 hj15 (by decide) ?_
              have hw19 : wf (aI (aI (aI (aI (aI A10 91 8 0) 122 ((A10.1 91 5)).toNat a0) 123 ((A10.1 91 5)).toNat a1) 124 ((A10.1 91 5)).toNat (A10.1 91 0)) 125 ((A10.1 91 5)).toNat (A10.1 91 58)) := wf_aI hw18 (hw10 91 58).1
              refine rz_B.go 2 (pc' := 128) (L' := [some (.ref 91), some (vI a0), some (vI a1), some (vI r10), some (vI 0)]) (S' := []) rfl ?_
              refine rz_B.more (rg_le_ok (L := [some (.ref 91), none, none, none, some (vI 0)]) (by simp [rg_le])) ?_
              exact cx168_standard_128 F F _ _ _ _ h (by decide) hw19
        · have h := if_F h hc7
          refine rz_B.ifT ((lt32 (by decide) ha1).mpr (Int.not_le.mp hc7)) ?_
          refine rz_B.go 2 (pc' := 53) (L' := [some (.ref 91), some (vI a0), some (vI a1), none, none]) (S' := [vI (-6), .ref 91]) rfl ?_
          obtain ⟨r20, A20, hf20, h⟩ := rz_b_inv h
          obtain ⟨hg20, hr20, hw20⟩ := cx142_no F (d := d + 4) hf20 (by decide) hw
          refine rz_B.call (d := d + 4) (as := [.ref 91, vI (-6)]) (rest := []) (w := some (vI r20)) rfl hg20 ?_
          cases h
          exact rz_B.ret rfl hr20 hw20
  · have h := if_F h hc1
    refine rz_B.ifT ((lt32 ha0 (by decide)).mpr (Int.not_le.mp hc1)) ?_
    refine rz_B.go 2 (pc' := 12) (L' := [some (.ref 91), some (vI a0), some (vI a1), none, none]) (S' := [vI (-2), .ref 91]) rfl ?_
    obtain ⟨r21, A21, hf21, h⟩ := rz_b_inv h
    obtain ⟨hg21, hr21, hw21⟩ := cx142_no F (d := d + 4) hf21 (by decide) hw
    refine rz_B.call (d := d + 4) (as := [.ref 91, vI (-2)]) (rest := []) (w := some (vI r21)) rfl hg21 ?_
    cases h
    exact rz_B.ret rfl hr21 hw21
/-- RiverGaugeModel.low(II)I -/
def x177_low (F : Nat) (a0 : Int) (a1 : Int) (A : rz_A) : Option (Int × rz_A) :=
  rz_b (x145_isPost F a0 A) fun r1 A1 =>
  if r1 = 0 then
    rz_b (x148_far F (-1) A1) fun r3 A3 =>
    some (r3, A3)
  else
    if a1 < (-2000) then
      rz_b (x148_far F (-4) A1) fun r5 A5 =>
      some (r5, A5)
    else
      if 9999 < a1 then
        rz_b (x148_far F (-6) A1) fun r7 A7 =>
        some (r7, A7)
      else
        rz_gx a0 6 <|
        rz_g32 ((A1.1 91 11) + 1) <|
        some ((A1.1 93 (a0).toNat), (aI (aI A1 93 (a0).toNat a1) 91 11 ((A1.1 91 11) + 1)))
theorem cx177_low (F : Nat) {d : Nat} {a0 : Int} {a1 : Int} {A : rz_A} {r : Int} {A' : rz_A} (h : x177_low F a0 a1 A = some (r, A')) (ha0 : r32 a0) (ha1 : r32 a1) (hw : wf A) : rg_Rn (d + 2) 177 [.ref 91, vI a0, vI a1] (toM A) (some (vI r)) (toM A') ∧ (r32 r) ∧ wf A' := by
  show rz_B (d + 2) 177 0 [some (.ref 91), some (vI a0), some (vI a1), none] [] A (some (vI r)) A' (r32 r)
  unfold x177_low at h
  refine rz_B.go 2 (pc' := 2) (L' := [some (.ref 91), some (vI a0), some (vI a1), none]) (S' := [vI a0, .ref 91]) rfl ?_
  obtain ⟨r1, A1, hf1, h⟩ := rz_b_inv h
  obtain ⟨hg1, hr1, hw1⟩ := cx145_isPost F (d := d + 1) hf1 ha0 hw
  refine rz_B.call (d := d + 1) (as := [.ref 91, vI a0]) (rest := []) (w := some (vI r1)) rfl hg1 ?_
  refine rz_B.go 1 (pc' := if decide (¬ Int32.ofInt r1 = Int32.ofInt 0) = true then 14 else 8) (L' := [some (.ref 91), some (vI a0), some (vI a1), none]) (S' := []) rfl ?_
  by_cases hc2 : r1 = 0
  · have h := if_T h hc2
    refine rz_B.ifF (fun hn => hn ((eq32 hr1 (by decide)).mpr hc2)) ?_
    refine rz_B.go 2 (pc' := 10) (L' := [some (.ref 91), some (vI a0), some (vI a1), none]) (S' := [vI (-1), .ref 91]) rfl ?_
    obtain ⟨r3, A3, hf3, h⟩ := rz_b_inv h
    obtain ⟨hg3, hr3, hw3⟩ := cx148_far F (d := d + 0) hf3 (by decide) hw1
    refine rz_B.call (d := d + 1) (as := [.ref 91, vI (-1)]) (rest := []) (w := some (vI r3)) rfl hg3 ?_
    cases h
    exact rz_B.ret rfl hr3 hw3
  · have h := if_F h hc2
    refine rz_B.ifT (mt (eq32 hr1 (by decide)).mp hc2) ?_
    refine rz_B.go 3 (pc' := if decide (Int32.ofInt (-2000) ≤ Int32.ofInt a1) = true then 28 else 21) (L' := [some (.ref 91), some (vI a0), some (vI a1), none]) (S' := []) rfl ?_
    by_cases hc4 : a1 < (-2000)
    · have h := if_T h hc4
      refine rz_B.ifF (mt (le32 (by decide) ha1).mp (Int.not_le.mpr hc4)) ?_
      refine rz_B.go 2 (pc' := 24) (L' := [some (.ref 91), some (vI a0), some (vI a1), none]) (S' := [vI (-4), .ref 91]) rfl ?_
      obtain ⟨r5, A5, hf5, h⟩ := rz_b_inv h
      obtain ⟨hg5, hr5, hw5⟩ := cx148_far F (d := d + 0) hf5 (by decide) hw1
      refine rz_B.call (d := d + 1) (as := [.ref 91, vI (-4)]) (rest := []) (w := some (vI r5)) rfl hg5 ?_
      cases h
      exact rz_B.ret rfl hr5 hw5
    · have h := if_F h hc4
      refine rz_B.ifT ((le32 (by decide) ha1).mpr (Int.not_lt.mp hc4)) ?_
      refine rz_B.go 3 (pc' := if decide (Int32.ofInt a1 ≤ Int32.ofInt 9999) = true then 42 else 35) (L' := [some (.ref 91), some (vI a0), some (vI a1), none]) (S' := []) rfl ?_
      by_cases hc6 : 9999 < a1
      · have h := if_T h hc6
        refine rz_B.ifF (mt (le32 ha1 (by decide)).mp (Int.not_le.mpr hc6)) ?_
        refine rz_B.go 2 (pc' := 38) (L' := [some (.ref 91), some (vI a0), some (vI a1), none]) (S' := [vI (-6), .ref 91]) rfl ?_
        obtain ⟨r7, A7, hf7, h⟩ := rz_b_inv h
        obtain ⟨hg7, hr7, hw7⟩ := cx148_far F (d := d + 0) hf7 (by decide) hw1
        refine rz_B.call (d := d + 1) (as := [.ref 91, vI (-6)]) (rest := []) (w := some (vI r7)) rfl hg7 ?_
        cases h
        exact rz_B.ret rfl hr7 hw7
      · have h := if_F h hc6
        refine rz_B.ifT ((le32 ha1 (by decide)).mpr (Int.not_lt.mp hc6)) ?_
        refine rz_B.go 3 (pc' := 47) (L' := [some (.ref 91), some (vI a0), some (vI a1), none]) (S' := [vI a0, .ref 93]) rfl ?_
        obtain ⟨hi8, hj9, h⟩ := rz_gx_inv h
        refine rz_B.iald rfl rfl hi8 hj9 (by decide) ?_
        refine rz_B.go 5 (pc' := 55) (L' := [some (.ref 91), some (vI a0), some (vI a1), some (vI (A1.1 93 (a0).toNat))]) (S' := [vI a1, vI a0, .ref 93]) rfl ?_
        refine rz_B.iast rfl rfl hi8 hj9 (by decide) ?_
        have hw10 : wf (aI A1 93 (a0).toNat a1) := wf_aI hw1 ha1
        refine rz_B.go 4 (pc' := 62) (L' := [some (.ref 91), some (vI a0), some (vI a1), some (vI (A1.1 93 (a0).toNat))]) (S' := [vI 1, vI (A1.1 91 11), .ref 91]) rfl ?_
        obtain ⟨hk11, h⟩ := rz_g32_inv h
        refine rz_B.iadd rfl ?_
        refine rz_B.put 1 (pc' := 66) (L' := [some (.ref 91), some (vI a0), some (vI a1), some (vI (A1.1 93 (a0).toNat))]) (S' := []) (c := 91) (k := 11) (x := ((A1.1 91 11) + 1)) rfl ?_
        have hw12 : wf (aI (aI A1 93 (a0).toNat a1) 91 11 ((A1.1 91 11) + 1)) := wf_aI hw10 hk11
        refine rz_B.go 1 (pc' := 67) (L' := [some (.ref 91), some (vI a0), some (vI a1), some (vI (A1.1 93 (a0).toNat))]) (S' := [vI (A1.1 93 (a0).toNat)]) rfl ?_
        cases h
        exact rz_B.ret rfl (hw1 93 (a0).toNat).1 hw12
def x178_stretch_54 (F : Nat) (v1 : Int) (v2 : Int) (A : rz_A) : Option (Int × rz_A) :=
  rz_b (x147_times F v2 v2 A) fun r1 A1 =>
  if r1 = 0 then
    rz_gx v1 6 <|
    if (A1.1 95 (v1).toNat) = 8 then
      rz_b (x142_no F (-6) A1) fun r6 A6 =>
      some (r6, A6)
    else
      rz_g32 (8 * v1) <|
      rz_g32 ((8 * v1) + (A1.1 95 (v1).toNat)) <|
      rz_gx ((8 * v1) + (A1.1 95 (v1).toNat)) 48 <|
      rz_g32 ((A1.1 91 11) + 1) <|
      rz_g32 ((A1.1 95 (v1).toNat) + 1) <|
      some (((A1.1 95 (v1).toNat) + 1), (aI (aI (aI A1 97 (((8 * v1) + (A1.1 95 (v1).toNat))).toNat v2) 91 11 ((A1.1 91 11) + 1)) 95 (v1).toNat ((A1.1 95 (v1).toNat) + 1)))
  else
    rz_b (x142_no F r1 A1) fun r16 A16 =>
    some (r16, A16)
theorem cx178_stretch_54 {d : Nat} (F : Nat) : ∀ (v1 : Int) (v2 : Int) (A : rz_A) (r : Int) (A' : rz_A), x178_stretch_54 F v1 v2 A = some (r, A') → r32 v1 → r32 v2 → wf A → rz_B (d + 1) 178 54 [some (.ref 91), some (vI v1), some (vI v2), none] [] A (some (vI r)) A' (r32 r) := by
  intro v1 v2 A r A' h hv1 hv2 hw
  unfold x178_stretch_54 at h
  refine rz_B.go 2 (pc' := 56) (L' := [some (.ref 91), some (vI v1), some (vI v2), none]) (S' := [vI v2, vI v2]) rfl ?_
  obtain ⟨r1, A1, hf1, h⟩ := rz_b_inv h
  obtain ⟨hg1, hr1, hw1⟩ := cx147_times F (d := d + 0) hf1 hv2 hv2 hw
  refine rz_B.call (d := d + 0) (as := [vI v2, vI v2]) (rest := []) (w := some (vI r1)) rfl hg1 ?_
  refine rz_B.go 3 (pc' := if decide (Int32.ofInt r1 = Int32.ofInt 0) = true then 70 else 64) (L' := [some (.ref 91), some (vI v1), some (vI v2), some (vI r1)]) (S' := []) rfl ?_
  by_cases hc2 : r1 = 0
  · have h := if_T h hc2
    refine rz_B.ifT ((eq32 hr1 (by decide)).mpr hc2) ?_
    refine rz_B.go 3 (pc' := 75) (L' := [some (.ref 91), some (vI v1), some (vI v2), some (vI r1)]) (S' := [vI v1, .ref 95]) rfl ?_
    obtain ⟨hi3, hj4, h⟩ := rz_gx_inv h
    refine rz_B.iald rfl rfl hi3 hj4 (by decide) ?_
    refine rz_B.go 2 (pc' := if decide (¬ Int32.ofInt (A1.1 95 (v1).toNat) = Int32.ofInt 8) = true then 88 else 81) (L' := [some (.ref 91), some (vI v1), some (vI v2), some (vI r1)]) (S' := []) rfl ?_
    by_cases hc5 : (A1.1 95 (v1).toNat) = 8
    · have h := if_T h hc5
      refine rz_B.ifF (fun hn => hn ((eq32 (hw1 95 (v1).toNat).1 (by decide)).mpr hc5)) ?_
      refine rz_B.go 2 (pc' := 84) (L' := [some (.ref 91), some (vI v1), some (vI v2), some (vI r1)]) (S' := [vI (-6), .ref 91]) rfl ?_
      obtain ⟨r6, A6, hf6, h⟩ := rz_b_inv h
      obtain ⟨hg6, hr6, hw6⟩ := cx142_no F (d := d + 0) hf6 (by decide) hw1
      refine rz_B.call (d := d + 0) (as := [.ref 91, vI (-6)]) (rest := []) (w := some (vI r6)) rfl hg6 ?_
      cases h
      exact rz_B.ret rfl hr6 hw6
    · have h := if_F h hc5
      refine rz_B.ifT (mt (eq32 (hw1 95 (v1).toNat).1 (by decide)).mp hc5) ?_
      refine rz_B.go 4 (pc' := 95) (L' := [some (.ref 91), some (vI v1), some (vI v2), some (vI r1)]) (S' := [vI v1, vI 8, .ref 97]) rfl ?_
      obtain ⟨hk7, h⟩ := rz_g32_inv h
      refine rz_B.imul rfl ?_
      refine rz_B.go 3 (pc' := 101) (L' := [some (.ref 91), some (vI v1), some (vI v2), some (vI r1)]) (S' := [vI v1, .ref 95, vI (8 * v1), .ref 97]) rfl ?_
      refine rz_B.iald rfl rfl hi3 hj4 (by decide) ?_
      obtain ⟨hk8, h⟩ := rz_g32_inv h
      refine rz_B.iadd rfl ?_
      refine rz_B.go 1 (pc' := 104) (L' := [some (.ref 91), some (vI v1), some (vI v2), some (vI r1)]) (S' := [vI v2, vI ((8 * v1) + (A1.1 95 (v1).toNat)), .ref 97]) rfl ?_
      obtain ⟨hi9, hj10, h⟩ := rz_gx_inv h
      refine rz_B.iast rfl rfl hi9 hj10 (by decide) ?_
      have hw11 : wf (aI A1 97 (((8 * v1) + (A1.1 95 (v1).toNat))).toNat v2) := wf_aI hw1 hv2
      refine rz_B.go 4 (pc' := 111) (L' := [some (.ref 91), some (vI v1), some (vI v2), some (vI r1)]) (S' := [vI 1, vI (A1.1 91 11), .ref 91]) rfl ?_
      obtain ⟨hk12, h⟩ := rz_g32_inv h
      refine rz_B.iadd rfl ?_
      refine rz_B.put 1 (pc' := 115) (L' := [some (.ref 91), some (vI v1), some (vI v2), some (vI r1)]) (S' := []) (c := 91) (k := 11) (x := ((A1.1 91 11) + 1)) rfl ?_
      have hw13 : wf (aI (aI A1 97 (((8 * v1) + (A1.1 95 (v1).toNat))).toNat v2) 91 11 ((A1.1 91 11) + 1)) := wf_aI hw11 hk12
      refine rz_B.go 4 (pc' := 121) (L' := [some (.ref 91), some (vI v1), some (vI v2), some (vI r1)]) (S' := [vI v1, .ref 95, vI v1, .ref 95]) rfl ?_
      refine rz_B.iald rfl rfl hi3 hj4 (by decide) ?_
      refine rz_B.go 1 (pc' := 123) (L' := [some (.ref 91), some (vI v1), some (vI v2), some (vI r1)]) (S' := [vI 1, vI (A1.1 95 (v1).toNat), vI v1, .ref 95]) rfl ?_
      obtain ⟨hk14, h⟩ := rz_g32_inv h
      refine rz_B.iadd rfl ?_
      refine rz_B.go 1 (pc' := 125) (L' := [some (.ref 91), some (vI v1), some (vI v2), some (vI r1)]) (S' := [vI ((A1.1 95 (v1).toNat) + 1), vI v1, .ref 95, vI ((A1.1 95 (v1).toNat) + 1)]) rfl ?_
      refine rz_B.iast rfl rfl hi3 hj4 (by decide) ?_
      have hw15 : wf (aI (aI (aI A1 97 (((8 * v1) + (A1.1 95 (v1).toNat))).toNat v2) 91 11 ((A1.1 91 11) + 1)) 95 (v1).toNat ((A1.1 95 (v1).toNat) + 1)) := wf_aI hw13 hk14
      cases h
      exact rz_B.ret rfl hk14 hw15
  · have h := if_F h hc2
    refine rz_B.ifF (mt (eq32 hr1 (by decide)).mp hc2) ?_
    refine rz_B.go 2 (pc' := 66) (L' := [some (.ref 91), some (vI v1), some (vI v2), some (vI r1)]) (S' := [vI r1, .ref 91]) rfl ?_
    obtain ⟨r16, A16, hf16, h⟩ := rz_b_inv h
    obtain ⟨hg16, hr16, hw16⟩ := cx142_no F (d := d + 0) hf16 hr1 hw1
    refine rz_B.call (d := d + 0) (as := [.ref 91, vI r1]) (rest := []) (w := some (vI r16)) rfl hg16 ?_
    cases h
    exact rz_B.ret rfl hr16 hw16
def x178_stretch_16 (F : Nat) : Nat → Int → Int → Int → rz_A → Option (Int × rz_A)
  | 0, _, _, _, _ => none
  | n + 1, v1, v2, v3, A =>
    rz_gx v1 6 <|
    if v3 < (A.1 95 (v1).toNat) then
      rz_g32 (8 * v1) <|
      rz_g32 ((8 * v1) + v3) <|
      rz_gx ((8 * v1) + v3) 48 <|
      if (A.1 97 (((8 * v1) + v3)).toNat) = v2 then
        rz_b (x142_no F (-3) A) fun r9 A9 =>
        some (r9, A9)
      else
        rz_g32 (v3 + 1) <|
        x178_stretch_16 F n v1 v2 (v3 + 1) A
    else
      x178_stretch_54 F v1 v2 A
theorem cx178_stretch_16 {d : Nat} (F : Nat) : ∀ (n : Nat) (v1 : Int) (v2 : Int) (v3 : Int) (A : rz_A) (r : Int) (A' : rz_A), x178_stretch_16 F n v1 v2 v3 A = some (r, A') → r32 v1 → r32 v2 → r32 v3 → wf A → rz_B (d + 1) 178 16 [some (.ref 91), some (vI v1), some (vI v2), some (vI v3)] [] A (some (vI r)) A' (r32 r) := by
  intro n
  induction n with
  | zero => intro v1 v2 v3 A r A' h; cases h
  | succ n ih =>
    intro v1 v2 v3 A r A' h hv1 hv2 hv3 hw
    rw [x178_stretch_16] at h
    refine rz_B.go 4 (pc' := 22) (L' := [some (.ref 91), some (vI v1), some (vI v2), some (vI v3)]) (S' := [vI v1, .ref 95, vI v3]) rfl ?_
    obtain ⟨hi1, hj2, h⟩ := rz_gx_inv h
    refine rz_B.iald rfl rfl hi1 hj2 (by decide) ?_
    refine rz_B.go 1 (pc' := if decide (Int32.ofInt (A.1 95 (v1).toNat) ≤ Int32.ofInt v3) = true then 54 else 26) (L' := [some (.ref 91), some (vI v1), some (vI v2), some (vI v3)]) (S' := []) rfl ?_
    by_cases hc3 : v3 < (A.1 95 (v1).toNat)
    · have h := if_T h hc3
      refine rz_B.ifF (mt (le32 (hw 95 (v1).toNat).1 hv3).mp (Int.not_le.mpr hc3)) ?_
      refine rz_B.go 4 (pc' := 33) (L' := [some (.ref 91), some (vI v1), some (vI v2), some (vI v3)]) (S' := [vI v1, vI 8, .ref 97]) rfl ?_
      obtain ⟨hk4, h⟩ := rz_g32_inv h
      refine rz_B.imul rfl ?_
      refine rz_B.go 1 (pc' := 35) (L' := [some (.ref 91), some (vI v1), some (vI v2), some (vI v3)]) (S' := [vI v3, vI (8 * v1), .ref 97]) rfl ?_
      obtain ⟨hk5, h⟩ := rz_g32_inv h
      refine rz_B.iadd rfl ?_
      obtain ⟨hi6, hj7, h⟩ := rz_gx_inv h
      refine rz_B.iald rfl rfl hi6 hj7 (by decide) ?_
      refine rz_B.go 2 (pc' := if decide (¬ Int32.ofInt (A.1 97 (((8 * v1) + v3)).toNat) = Int32.ofInt v2) = true then 48 else 41) (L' := [some (.ref 91), some (vI v1), some (vI v2), some (vI v3)]) (S' := []) rfl ?_
      by_cases hc8 : (A.1 97 (((8 * v1) + v3)).toNat) = v2
      · have h := if_T h hc8
        refine rz_B.ifF (fun hn => hn ((eq32 (hw 97 (((8 * v1) + v3)).toNat).1 hv2).mpr hc8)) ?_
        refine rz_B.go 2 (pc' := 44) (L' := [some (.ref 91), some (vI v1), some (vI v2), some (vI v3)]) (S' := [vI (-3), .ref 91]) rfl ?_
        obtain ⟨r9, A9, hf9, h⟩ := rz_b_inv h
        obtain ⟨hg9, hr9, hw9⟩ := cx142_no F (d := d + 0) hf9 (by decide) hw
        refine rz_B.call (d := d + 0) (as := [.ref 91, vI (-3)]) (rest := []) (w := some (vI r9)) rfl hg9 ?_
        cases h
        exact rz_B.ret rfl hr9 hw9
      · have h := if_F h hc8
        refine rz_B.ifT (mt (eq32 (hw 97 (((8 * v1) + v3)).toNat).1 hv2).mp hc8) ?_
        obtain ⟨hk10, h⟩ := rz_g32_inv h
        refine rz_B.iinc rfl (by decide) rfl (L' := [some (.ref 91), some (vI v1), some (vI v2), some (vI (v3 + 1))]) rfl ?_
        refine rz_B.go 1 (pc' := 16) (L' := [some (.ref 91), some (vI v1), some (vI v2), some (vI (v3 + 1))]) (S' := []) rfl ?_
        refine rz_B.more (rg_le_ok (L := [some (.ref 91), some (vI v1), some (vI v2), some (vI (v3 + 1))]) (by simp [rg_le])) ?_
        exact ih _ _ _ _ _ _ h hv1 hv2 hk10 hw
    · have h := if_F h hc3
      refine rz_B.ifT ((le32 (hw 95 (v1).toNat).1 hv3).mpr (Int.not_lt.mp hc3)) ?_
      refine rz_B.more (rg_le_ok (L := [some (.ref 91), some (vI v1), some (vI v2), none]) (by simp [rg_le])) ?_
      exact cx178_stretch_54 F _ _ _ _ _ h hv1 hv2 hw
/-- RiverGaugeModel.stretch(II)I -/
def x178_stretch (F : Nat) (a0 : Int) (a1 : Int) (A : rz_A) : Option (Int × rz_A) :=
  rz_b (x145_isPost F a0 A) fun r1 A1 =>
  if r1 = 0 then
    rz_b (x142_no F (-1) A1) fun r3 A3 =>
    some (r3, A3)
  else
    x178_stretch_16 F F a0 a1 0 A1
theorem cx178_stretch (F : Nat) {d : Nat} {a0 : Int} {a1 : Int} {A : rz_A} {r : Int} {A' : rz_A} (h : x178_stretch F a0 a1 A = some (r, A')) (ha0 : r32 a0) (ha1 : r32 a1) (hw : wf A) : rg_Rn (d + 1) 178 [.ref 91, vI a0, vI a1] (toM A) (some (vI r)) (toM A') ∧ (r32 r) ∧ wf A' := by
  show rz_B (d + 1) 178 0 [some (.ref 91), some (vI a0), some (vI a1), none] [] A (some (vI r)) A' (r32 r)
  unfold x178_stretch at h
  refine rz_B.go 2 (pc' := 2) (L' := [some (.ref 91), some (vI a0), some (vI a1), none]) (S' := [vI a0, .ref 91]) rfl ?_
  obtain ⟨r1, A1, hf1, h⟩ := rz_b_inv h
  obtain ⟨hg1, hr1, hw1⟩ := cx145_isPost F (d := d + 0) hf1 ha0 hw
  refine rz_B.call (d := d + 0) (as := [.ref 91, vI a0]) (rest := []) (w := some (vI r1)) rfl hg1 ?_
  refine rz_B.go 1 (pc' := if decide (¬ Int32.ofInt r1 = Int32.ofInt 0) = true then 14 else 8) (L' := [some (.ref 91), some (vI a0), some (vI a1), none]) (S' := []) rfl ?_
  by_cases hc2 : r1 = 0
  · have h := if_T h hc2
    refine rz_B.ifF (fun hn => hn ((eq32 hr1 (by decide)).mpr hc2)) ?_
    refine rz_B.go 2 (pc' := 10) (L' := [some (.ref 91), some (vI a0), some (vI a1), none]) (S' := [vI (-1), .ref 91]) rfl ?_
    obtain ⟨r3, A3, hf3, h⟩ := rz_b_inv h
    obtain ⟨hg3, hr3, hw3⟩ := cx142_no F (d := d + 0) hf3 (by decide) hw1
    refine rz_B.call (d := d + 0) (as := [.ref 91, vI (-1)]) (rest := []) (w := some (vI r3)) rfl hg3 ?_
    cases h
    exact rz_B.ret rfl hr3 hw3
  · have h := if_F h hc2
    refine rz_B.ifT (mt (eq32 hr1 (by decide)).mp hc2) ?_
    refine rz_B.go 2 (pc' := 16) (L' := [some (.ref 91), some (vI a0), some (vI a1), some (vI 0)]) (S' := []) rfl ?_
    refine rz_B.more (rg_le_ok (L := [some (.ref 91), some (vI a0), some (vI a1), some (vI 0)]) (by simp [rg_le])) ?_
    exact cx178_stretch_16 F F _ _ _ _ _ _ h ha0 ha1 (by decide) hw1
/-- RiverGaugeModel.known(III)I -/
def x180_known (F : Nat) (a0 : Int) (a1 : Int) (a2 : Int) (A : rz_A) : Option (Int × rz_A) :=
  rz_b (x145_isPost F a0 A) fun r1 A1 =>
  if r1 = 0 then
    some ((-1), A1)
  else
    rz_b (x147_times F a1 a2 A1) fun r3 A3 =>
    some (r3, A3)
theorem cx180_known (F : Nat) {d : Nat} {a0 : Int} {a1 : Int} {a2 : Int} {A : rz_A} {r : Int} {A' : rz_A} (h : x180_known F a0 a1 a2 A = some (r, A')) (ha0 : r32 a0) (ha1 : r32 a1) (ha2 : r32 a2) (hw : wf A) : rg_Rn (d + 1) 180 [.ref 91, vI a0, vI a1, vI a2] (toM A) (some (vI r)) (toM A') ∧ (r32 r) ∧ wf A' := by
  show rz_B (d + 1) 180 0 [some (.ref 91), some (vI a0), some (vI a1), some (vI a2)] [] A (some (vI r)) A' (r32 r)
  unfold x180_known at h
  refine rz_B.go 2 (pc' := 2) (L' := [some (.ref 91), some (vI a0), some (vI a1), some (vI a2)]) (S' := [vI a0, .ref 91]) rfl ?_
  obtain ⟨r1, A1, hf1, h⟩ := rz_b_inv h
  obtain ⟨hg1, hr1, hw1⟩ := cx145_isPost F (d := d + 0) hf1 ha0 hw
  refine rz_B.call (d := d + 0) (as := [.ref 91, vI a0]) (rest := []) (w := some (vI r1)) rfl hg1 ?_
  refine rz_B.go 1 (pc' := if decide (Int32.ofInt r1 = Int32.ofInt 0) = true then 16 else 8) (L' := [some (.ref 91), some (vI a0), some (vI a1), some (vI a2)]) (S' := []) rfl ?_
  by_cases hc2 : r1 = 0
  · have h := if_T h hc2
    refine rz_B.ifT ((eq32 hr1 (by decide)).mpr hc2) ?_
    refine rz_B.go 1 (pc' := 17) (L' := [some (.ref 91), some (vI a0), some (vI a1), some (vI a2)]) (S' := [vI (-1)]) rfl ?_
    cases h
    exact rz_B.ret rfl (by decide) hw1
  · have h := if_F h hc2
    refine rz_B.ifF (mt (eq32 hr1 (by decide)).mp hc2) ?_
    refine rz_B.go 2 (pc' := 10) (L' := [some (.ref 91), some (vI a0), some (vI a1), some (vI a2)]) (S' := [vI a2, vI a1]) rfl ?_
    obtain ⟨r3, A3, hf3, h⟩ := rz_b_inv h
    obtain ⟨hg3, hr3, hw3⟩ := cx147_times F (d := d + 0) hf3 ha1 ha2 hw1
    refine rz_B.call (d := d + 0) (as := [vI a1, vI a2]) (rest := []) (w := some (vI r3)) rfl hg3 ?_
    refine rz_B.go 1 (pc' := 17) (L' := [some (.ref 91), some (vI a0), some (vI a1), some (vI a2)]) (S' := [vI r3]) rfl ?_
    cases h
    exact rz_B.ret rfl hr3 hw3
def x182_makes_540 (F : Nat) (k524 : (Int → Int → rz_A → Option (Unit × rz_A))) : Nat → Int → Int → Int → rz_A → Option (Unit × rz_A)
  | 0, _, _, _, _ => none
  | n + 1, v5, v6, v7, A =>
    rz_g32 (v6 + 1) <|
    if (v6 + 1) < v5 then
      rz_gx (v6 + 1) 60 <|
      if v7 < (A.1 140 ((v6 + 1)).toNat) then
        rz_gx v6 60 <|
        rz_gn (A.1 141 (v6).toNat) <|
        rz_g64 ((A.2 143 (v6).toNat).tdiv (A.1 141 (v6).toNat)) <|
        rz_g32 ((A.2 143 (v6).toNat).tdiv (A.1 141 (v6).toNat)) <|
        rz_gx v7 60 <|
        rz_g32 (v7 + 1) <|
        x182_makes_540 F k524 n v5 v6 (v7 + 1) (aI A 138 (v7).toNat ((A.2 143 (v6).toNat).tdiv (A.1 141 (v6).toNat)))
      else
        k524 v5 (v6 + 1) A
    else
      if v7 < (A.1 91 67) then
        rz_gx v6 60 <|
        rz_gn (A.1 141 (v6).toNat) <|
        rz_g64 ((A.2 143 (v6).toNat).tdiv (A.1 141 (v6).toNat)) <|
        rz_g32 ((A.2 143 (v6).toNat).tdiv (A.1 141 (v6).toNat)) <|
        rz_gx v7 60 <|
        rz_g32 (v7 + 1) <|
        x182_makes_540 F k524 n v5 v6 (v7 + 1) (aI A 138 (v7).toNat ((A.2 143 (v6).toNat).tdiv (A.1 141 (v6).toNat)))
      else
        k524 v5 (v6 + 1) A
theorem cx182_makes_540 {d : Nat} (F : Nat) {k524 : (Int → Int → rz_A → Option (Unit × rz_A))} (hkk524 : ∀ (v5 : Int) (v6 : Int) (A : rz_A) (r : Unit) (A' : rz_A), k524 v5 v6 A = some (r, A') → r32 v5 → r32 v6 → wf A → rz_B (d + 6) 182 524 [some (.ref 91), none, none, none, none, some (vI v5), some (vI v6), none] [] A (none) A' (True)) : ∀ (n : Nat) (v5 : Int) (v6 : Int) (v7 : Int) (A : rz_A) (r : Unit) (A' : rz_A), x182_makes_540 F k524 n v5 v6 v7 A = some (r, A') → r32 v5 → r32 v6 → r32 v7 → wf A → rz_B (d + 6) 182 540 [some (.ref 91), none, none, none, none, some (vI v5), some (vI v6), some (vI v7)] [] A (none) A' (True) := by
  intro n
  induction n with
  | zero => intro v5 v6 v7 A r A' h; cases h
  | succ n ih =>
    intro v5 v6 v7 A r A' h hv5 hv6 hv7 hw
    rw [x182_makes_540] at h
    refine rz_B.go 3 (pc' := 545) (L' := [some (.ref 91), none, none, none, none, some (vI v5), some (vI v6), some (vI v7)]) (S' := [vI 1, vI v6, vI v7]) rfl ?_
    obtain ⟨hk1, h⟩ := rz_g32_inv h
    refine rz_B.iadd rfl ?_
    refine rz_B.go 2 (pc' := if decide (Int32.ofInt v5 ≤ Int32.ofInt (v6 + 1)) = true then 563 else 551) (L' := [some (.ref 91), none, none, none, none, some (vI v5), some (vI v6), some (vI v7)]) (S' := [vI v7]) rfl ?_
    by_cases hc2 : (v6 + 1) < v5
    · have h := if_T h hc2
      refine rz_B.ifF (mt (le32 hv5 hk1).mp (Int.not_le.mpr hc2)) ?_
      refine rz_B.go 4 (pc' := 558) (L' := [some (.ref 91), none, none, none, none, some (vI v5), some (vI v6), some (vI v7)]) (S' := [vI 1, vI v6, .ref 140, vI v7]) rfl ?_
      refine rz_B.iadd rfl ?_
      obtain ⟨hi3, hj4, h⟩ := rz_gx_inv h
      refine rz_B.iald rfl rfl hi3 hj4 (by decide) ?_
      refine rz_B.go 2 (pc' := if decide (Int32.ofInt (A.1 140 ((v6 + 1)).toNat) ≤ Int32.ofInt v7) = true then 600 else 570) (L' := [some (.ref 91), none, none, none, none, some (vI v5), some (vI v6), some (vI v7)]) (S' := []) rfl ?_
      by_cases hc5 : v7 < (A.1 140 ((v6 + 1)).toNat)
      · have h := if_T h hc5
        refine rz_B.ifF (mt (le32 (hw 140 ((v6 + 1)).toNat).1 hv7).mp (Int.not_le.mpr hc5)) ?_
        refine rz_B.go 6 (pc' := 582) (L' := [some (.ref 91), none, none, none, none, some (vI v5), some (vI v6), some (vI v7)]) (S' := [vI v6, .ref 143, vI v7, .ref 138]) rfl ?_
        obtain ⟨hi6, hj7, h⟩ := rz_gx_inv h
        refine rz_B.lald rfl rfl hi6 hj7 (by decide) ?_
        refine rz_B.go 3 (pc' := 589) (L' := [some (.ref 91), none, none, none, none, some (vI v5), some (vI v6), some (vI v7)]) (S' := [vI v6, .ref 141, vL (A.2 143 (v6).toNat), vI v7, .ref 138]) rfl ?_
        refine rz_B.iald rfl rfl hi6 hj7 (by decide) ?_
        refine rz_B.i2l rfl (hw 141 (v6).toNat).1 ?_
        obtain ⟨hz8, h⟩ := rz_gn_inv h
        obtain ⟨hk9, h⟩ := rz_g64_inv h
        refine rz_B.ldiv rfl (hw 143 (v6).toNat).2 (r64_of (hw 141 (v6).toNat).1) hz8 ?_
        obtain ⟨hk10, h⟩ := rz_g32_inv h
        refine rz_B.l2i rfl ?_
        obtain ⟨hi11, hj12, h⟩ := rz_gx_inv h
        refine rz_B.iast rfl rfl hi11 hj12 (by decide) ?_
        have hw13 : wf (aI A 138 (v7).toNat ((A.2 143 (v6).toNat).tdiv (A.1 141 (v6).toNat))) := wf_aI hw hk10
        obtain ⟨hk14, h⟩ := rz_g32_inv h
        refine rz_B.iinc rfl (by decide) rfl (L' := [some (.ref 91), none, none, none, none, some (vI v5), some (vI v6), some (vI (v7 + 1))]) rfl ?_
        refine rz_B.go 1 (pc' := 540) (L' := [some (.ref 91), none, none, none, none, some (vI v5), some (vI v6), some (vI (v7 + 1))]) (S' := []) rfl ?_
        refine rz_B.more (rg_le_ok (L := [some (.ref 91), none, none, none, none, some (vI v5), some (vI v6), some (vI (v7 + 1))]) (by simp [rg_le])) ?_
        exact ih _ _ _ _ _ _ h hv5 hv6 hk14 hw13
      · have h := if_F h hc5
        refine rz_B.ifT ((le32 (hw 140 ((v6 + 1)).toNat).1 hv7).mpr (Int.not_lt.mp hc5)) ?_
        refine rz_B.iinc rfl (by decide) rfl (L' := [some (.ref 91), none, none, none, none, some (vI v5), some (vI (v6 + 1)), some (vI v7)]) rfl ?_
        refine rz_B.go 1 (pc' := 524) (L' := [some (.ref 91), none, none, none, none, some (vI v5), some (vI (v6 + 1)), some (vI v7)]) (S' := []) rfl ?_
        refine rz_B.more (rg_le_ok (L := [some (.ref 91), none, none, none, none, some (vI v5), some (vI (v6 + 1)), none]) (by simp [rg_le])) ?_
        exact hkk524 _ _ _ _ _ h hv5 hk1 hw
    · have h := if_F h hc2
      refine rz_B.ifT ((le32 hv5 hk1).mpr (Int.not_lt.mp hc2)) ?_
      refine rz_B.go 3 (pc' := if decide (Int32.ofInt (A.1 91 67) ≤ Int32.ofInt v7) = true then 600 else 570) (L' := [some (.ref 91), none, none, none, none, some (vI v5), some (vI v6), some (vI v7)]) (S' := []) rfl ?_
      by_cases hc15 : v7 < (A.1 91 67)
      · have h := if_T h hc15
        refine rz_B.ifF (mt (le32 (hw 91 67).1 hv7).mp (Int.not_le.mpr hc15)) ?_
        refine rz_B.go 6 (pc' := 582) (L' := [some (.ref 91), none, none, none, none, some (vI v5), some (vI v6), some (vI v7)]) (S' := [vI v6, .ref 143, vI v7, .ref 138]) rfl ?_
        obtain ⟨hi16, hj17, h⟩ := rz_gx_inv h
        refine rz_B.lald rfl rfl hi16 hj17 (by decide) ?_
        refine rz_B.go 3 (pc' := 589) (L' := [some (.ref 91), none, none, none, none, some (vI v5), some (vI v6), some (vI v7)]) (S' := [vI v6, .ref 141, vL (A.2 143 (v6).toNat), vI v7, .ref 138]) rfl ?_
        refine rz_B.iald rfl rfl hi16 hj17 (by decide) ?_
        refine rz_B.i2l rfl (hw 141 (v6).toNat).1 ?_
        obtain ⟨hz18, h⟩ := rz_gn_inv h
        obtain ⟨hk19, h⟩ := rz_g64_inv h
        refine rz_B.ldiv rfl (hw 143 (v6).toNat).2 (r64_of (hw 141 (v6).toNat).1) hz18 ?_
        obtain ⟨hk20, h⟩ := rz_g32_inv h
        refine rz_B.l2i rfl ?_
        obtain ⟨hi21, hj22, h⟩ := rz_gx_inv h
        refine rz_B.iast rfl rfl hi21 hj22 (by decide) ?_
        have hw23 : wf (aI A 138 (v7).toNat ((A.2 143 (v6).toNat).tdiv (A.1 141 (v6).toNat))) := wf_aI hw hk20
        obtain ⟨hk24, h⟩ := rz_g32_inv h
        refine rz_B.iinc rfl (by decide) rfl (L' := [some (.ref 91), none, none, none, none, some (vI v5), some (vI v6), some (vI (v7 + 1))]) rfl ?_
        refine rz_B.go 1 (pc' := 540) (L' := [some (.ref 91), none, none, none, none, some (vI v5), some (vI v6), some (vI (v7 + 1))]) (S' := []) rfl ?_
        refine rz_B.more (rg_le_ok (L := [some (.ref 91), none, none, none, none, some (vI v5), some (vI v6), some (vI (v7 + 1))]) (by simp [rg_le])) ?_
        exact ih _ _ _ _ _ _ h hv5 hv6 hk24 hw23
      · have h := if_F h hc15
        refine rz_B.ifT ((le32 (hw 91 67).1 hv7).mpr (Int.not_lt.mp hc15)) ?_
        refine rz_B.iinc rfl (by decide) rfl (L' := [some (.ref 91), none, none, none, none, some (vI v5), some (vI (v6 + 1)), some (vI v7)]) rfl ?_
        refine rz_B.go 1 (pc' := 524) (L' := [some (.ref 91), none, none, none, none, some (vI v5), some (vI (v6 + 1)), some (vI v7)]) (S' := []) rfl ?_
        refine rz_B.more (rg_le_ok (L := [some (.ref 91), none, none, none, none, some (vI v5), some (vI (v6 + 1)), none]) (by simp [rg_le])) ?_
        exact hkk524 _ _ _ _ _ h hv5 hk1 hw
def x182_makes_524 (F : Nat) : Nat → Int → Int → rz_A → Option (Unit × rz_A)
  | 0, _, _, _ => none
  | n + 1, v5, v6, A =>
    if v6 < v5 then
      rz_gx v6 60 <|
      x182_makes_540 F (x182_makes_524 F n) F v5 v6 (A.1 140 (v6).toNat) A
    else
      some ((), A)
theorem cx182_makes_524 {d : Nat} (F : Nat) : ∀ (n : Nat) (v5 : Int) (v6 : Int) (A : rz_A) (r : Unit) (A' : rz_A), x182_makes_524 F n v5 v6 A = some (r, A') → r32 v5 → r32 v6 → wf A → rz_B (d + 6) 182 524 [some (.ref 91), none, none, none, none, some (vI v5), some (vI v6), none] [] A (none) A' (True) := by
  intro n
  induction n with
  | zero => intro v5 v6 A r A' h; cases h
  | succ n ih =>
    intro v5 v6 A r A' h hv5 hv6 hw
    rw [x182_makes_524] at h
    refine rz_B.go 3 (pc' := if decide (Int32.ofInt v5 ≤ Int32.ofInt v6) = true then 606 else 531) (L' := [some (.ref 91), none, none, none, none, some (vI v5), some (vI v6), none]) (S' := []) rfl ?_
    by_cases hc1 : v6 < v5
    · have h := if_T h hc1
      refine rz_B.ifF (mt (le32 hv5 hv6).mp (Int.not_le.mpr hc1)) ?_
      refine rz_B.go 3 (pc' := 537) (L' := [some (.ref 91), none, none, none, none, some (vI v5), some (vI v6), none]) (S' := [vI v6, .ref 140]) rfl ?_
      obtain ⟨hi2, hj3, h⟩ := rz_gx_inv h
      refine rz_B.iald rfl rfl hi2 hj3 (by decide) ?_
      refine rz_B.go 1 (pc' := 540) (L' := [some (.ref 91), none, none, none, none, some (vI v5), some (vI v6), some (vI (A.1 140 (v6).toNat))]) (S' := []) rfl ?_
      refine rz_B.more (rg_le_ok (L := [some (.ref 91), none, none, none, none, some (vI v5), some (vI v6), some (vI (A.1 140 (v6).toNat))]) (by simp [rg_le])) ?_
      exact cx182_makes_540 F ih F _ _ _ _ _ _ h hv5 hv6 (hw 140 (v6).toNat).1 hw
    · have h := if_F h hc1
      refine rz_B.ifT ((le32 hv5 hv6).mpr (Int.not_lt.mp hc1)) ?_
      cases h
      exact rz_B.ret rfl trivial hw
def x182_makes_417 (F : Nat) (k368 : (Int → Int → rz_A → Option (Unit × rz_A))) : Nat → Int → Int → rz_A → Option (Unit × rz_A)
  | 0, _, _, _ => none
  | n + 1, v5, v6, A =>
    if 1 < v5 then
      rz_g32 (v5 - 1) <|
      rz_gx (v5 - 1) 60 <|
      rz_g32 (v5 - 2) <|
      rz_gx (v5 - 2) 60 <|
      rz_g64 ((A.2 143 ((v5 - 1)).toNat) * (A.1 141 ((v5 - 2)).toNat)) <|
      rz_g64 ((A.2 143 ((v5 - 2)).toNat) * (A.1 141 ((v5 - 1)).toNat)) <|
      if ((A.2 143 ((v5 - 1)).toNat) * (A.1 141 ((v5 - 2)).toNat)) ≤ ((A.2 143 ((v5 - 2)).toNat) * (A.1 141 ((v5 - 1)).toNat)) then
        rz_g64 ((A.2 143 ((v5 - 2)).toNat) + (A.2 143 ((v5 - 1)).toNat)) <|
        rz_g32 ((A.1 141 ((v5 - 2)).toNat) + (A.1 141 ((v5 - 1)).toNat)) <|
        rz_g32 (v5 + (-1)) <|
        x182_makes_417 F k368 n (v5 + (-1)) v6 (aI (aL A 143 ((v5 - 2)).toNat ((A.2 143 ((v5 - 2)).toNat) + (A.2 143 ((v5 - 1)).toNat))) 141 ((v5 - 2)).toNat ((A.1 141 ((v5 - 2)).toNat) + (A.1 141 ((v5 - 1)).toNat)))
      else
        rz_g32 (v6 + 1) <|
        k368 v5 (v6 + 1) A
    else
      rz_g32 (v6 + 1) <|
      k368 v5 (v6 + 1) A
theorem cx182_makes_417 {d : Nat} (F : Nat) {k368 : (Int → Int → rz_A → Option (Unit × rz_A))} (hkk368 : ∀ (v5 : Int) (v6 : Int) (A : rz_A) (r : Unit) (A' : rz_A), k368 v5 v6 A = some (r, A') → r32 v5 → r32 v6 → wf A → rz_B (d + 6) 182 368 [some (.ref 91), none, none, none, none, some (vI v5), some (vI v6), none] [] A (none) A' (True)) : ∀ (n : Nat) (v5 : Int) (v6 : Int) (A : rz_A) (r : Unit) (A' : rz_A), x182_makes_417 F k368 n v5 v6 A = some (r, A') → r32 v5 → r32 v6 → wf A → rz_B (d + 6) 182 417 [some (.ref 91), none, none, none, none, some (vI v5), some (vI v6), none] [] A (none) A' (True) := by
  intro n
  induction n with
  | zero => intro v5 v6 A r A' h; cases h
  | succ n ih =>
    intro v5 v6 A r A' h hv5 hv6 hw
    rw [x182_makes_417] at h
    refine rz_B.go 3 (pc' := if decide (Int32.ofInt v5 ≤ Int32.ofInt 1) = true then 515 else 423) (L' := [some (.ref 91), none, none, none, none, some (vI v5), some (vI v6), none]) (S' := []) rfl ?_
    by_cases hc1 : 1 < v5
    · have h := if_T h hc1
      refine rz_B.ifF (mt (le32 hv5 (by decide)).mp (Int.not_le.mpr hc1)) ?_
      refine rz_B.go 4 (pc' := 430) (L' := [some (.ref 91), none, none, none, none, some (vI v5), some (vI v6), none]) (S' := [vI 1, vI v5, .ref 143]) rfl ?_
      obtain ⟨hk2, h⟩ := rz_g32_inv h
      refine rz_B.isub rfl ?_
      obtain ⟨hi3, hj4, h⟩ := rz_gx_inv h
      refine rz_B.lald rfl rfl hi3 hj4 (by decide) ?_
      refine rz_B.go 4 (pc' := 439) (L' := [some (.ref 91), none, none, none, none, some (vI v5), some (vI v6), none]) (S' := [vI 2, vI v5, .ref 141, vL (A.2 143 ((v5 - 1)).toNat)]) rfl ?_
      obtain ⟨hk5, h⟩ := rz_g32_inv h
      refine rz_B.isub rfl ?_
      obtain ⟨hi6, hj7, h⟩ := rz_gx_inv h
      refine rz_B.iald rfl rfl hi6 hj7 (by decide) ?_
      refine rz_B.i2l rfl (hw 141 ((v5 - 2)).toNat).1 ?_
      obtain ⟨hk8, h⟩ := rz_g64_inv h
      refine rz_B.lmul rfl ?_
      refine rz_B.go 4 (pc' := 450) (L' := [some (.ref 91), none, none, none, none, some (vI v5), some (vI v6), none]) (S' := [vI 2, vI v5, .ref 143, vL ((A.2 143 ((v5 - 1)).toNat) * (A.1 141 ((v5 - 2)).toNat))]) rfl ?_
      refine rz_B.isub rfl ?_
      refine rz_B.lald rfl rfl hi6 hj7 (by decide) ?_
      refine rz_B.go 4 (pc' := 459) (L' := [some (.ref 91), none, none, none, none, some (vI v5), some (vI v6), none]) (S' := [vI 1, vI v5, .ref 141, vL (A.2 143 ((v5 - 2)).toNat), vL ((A.2 143 ((v5 - 1)).toNat) * (A.1 141 ((v5 - 2)).toNat))]) rfl ?_
      refine rz_B.isub rfl ?_
      refine rz_B.iald rfl rfl hi3 hj4 (by decide) ?_
      refine rz_B.i2l rfl (hw 141 ((v5 - 1)).toNat).1 ?_
      obtain ⟨hk9, h⟩ := rz_g64_inv h
      refine rz_B.lmul rfl ?_
      refine rz_B.go 2 (pc' := if decide (0 < lg_cmp (Int64.ofInt ((A.2 143 ((v5 - 1)).toNat) * (A.1 141 ((v5 - 2)).toNat))) (Int64.ofInt ((A.2 143 ((v5 - 2)).toNat) * (A.1 141 ((v5 - 1)).toNat)))) = true then 515 else 467) (L' := [some (.ref 91), none, none, none, none, some (vI v5), some (vI v6), none]) (S' := []) rfl ?_
      by_cases hc10 : ((A.2 143 ((v5 - 1)).toNat) * (A.1 141 ((v5 - 2)).toNat)) ≤ ((A.2 143 ((v5 - 2)).toNat) * (A.1 141 ((v5 - 1)).toNat))
      · have h := if_T h hc10
        refine rz_B.ifF (mt (cmp_gt hk8 hk9).mp (Int.not_lt.mpr hc10)) ?_
        refine rz_B.go 4 (pc' := 474) (L' := [some (.ref 91), none, none, none, none, some (vI v5), some (vI v6), none]) (S' := [vI 2, vI v5, .ref 143]) rfl ?_
        refine rz_B.isub rfl ?_
        refine rz_B.go 1 (pc' := 476) (L' := [some (.ref 91), none, none, none, none, some (vI v5), some (vI v6), none]) (S' := [vI (v5 - 2), .ref 143, vI (v5 - 2), .ref 143]) rfl ?_
        refine rz_B.lald rfl rfl hi6 hj7 (by decide) ?_
        refine rz_B.go 4 (pc' := 484) (L' := [some (.ref 91), none, none, none, none, some (vI v5), some (vI v6), none]) (S' := [vI 1, vI v5, .ref 143, vL (A.2 143 ((v5 - 2)).toNat), vI (v5 - 2), .ref 143]) rfl ?_
        refine rz_B.isub rfl ?_
        refine rz_B.lald rfl rfl hi3 hj4 (by decide) ?_
        obtain ⟨hk11, h⟩ := rz_g64_inv h
        refine rz_B.ladd rfl ?_
        refine rz_B.last rfl rfl hi6 hj7 (by decide) ?_
        have hw12 : wf (aL A 143 ((v5 - 2)).toNat ((A.2 143 ((v5 - 2)).toNat) + (A.2 143 ((v5 - 1)).toNat))) := wf_aL hw hk11
        refine rz_B.go 4 (pc' := 495) (L' := [some (.ref 91), none, none, none, none, some (vI v5), some (vI v6), none]) (S' := [vI 2, vI v5, .ref 141]) rfl ?_
        refine rz_B.isub rfl ?_
        refine rz_B.go 1 (pc' := 497) (L' := [some (.ref 91), none, none, none, none, some (vI v5), some (vI v6), none]) (S' := [vI (v5 - 2), .ref 141, vI (v5 - 2), .ref 141]) rfl ?_
        refine rz_B.iald rfl rfl hi6 hj7 (by decide) ?_
        refine rz_B.go 4 (pc' := 505) (L' := [some (.ref 91), none, none, none, none, some (vI v5), some (vI v6), none]) (S' := [vI 1, vI v5, .ref 141, vI (A.1 141 ((v5 - 2)).toNat), vI (v5 - 2), .ref 141]) rfl ?_
        refine rz_B.isub rfl ?_
        refine rz_B.iald rfl rfl hi3 hj4 (by decide) ?_
        obtain ⟨hk13, h⟩ := rz_g32_inv h
        refine rz_B.iadd rfl ?_
        refine rz_B.iast rfl rfl hi6 hj7 (by decide) ?_
        have hw14 : wf (aI (aL A 143 ((v5 - 2)).toNat ((A.2 143 ((v5 - 2)).toNat) + (A.2 143 ((v5 - 1)).toNat))) 141 ((v5 - 2)).toNat ((A.1 141 ((v5 - 2)).toNat) + (A.1 141 ((v5 - 1)).toNat))) := wf_aI hw12 hk13
        obtain ⟨hk15, h⟩ := rz_g32_inv h
        refine rz_B.iinc rfl (by decide) rfl (L' := [some (.ref 91), none, none, none, none, some (vI (v5 + (-1))), some (vI v6), none]) rfl ?_
        refine rz_B.go 1 (pc' := 417) (L' := [some (.ref 91), none, none, none, none, some (vI (v5 + (-1))), some (vI v6), none]) (S' := []) rfl ?_
        refine rz_B.more (rg_le_ok (L := [some (.ref 91), none, none, none, none, some (vI (v5 + (-1))), some (vI v6), none]) (by simp [rg_le])) ?_
        exact ih _ _ _ _ _ h hk15 hv6 hw14
      · have h := if_F h hc10
        refine rz_B.ifT ((cmp_gt hk8 hk9).mpr (Int.not_le.mp hc10)) ?_
        obtain ⟨hk16, h⟩ := rz_g32_inv h
        refine rz_B.iinc rfl (by decide) rfl (L' := [some (.ref 91), none, none, none, none, some (vI v5), some (vI (v6 + 1)), none]) rfl ?_
        refine rz_B.go 1 (pc' := 368) (L' := [some (.ref 91), none, none, none, none, some (vI v5), some (vI (v6 + 1)), none]) (S' := []) rfl ?_
        refine rz_B.more (rg_le_ok (L := [some (.ref 91), none, none, none, none, some (vI v5), some (vI (v6 + 1)), none]) (by simp [rg_le])) ?_
        exact hkk368 _ _ _ _ _ h hv5 hk16 hw
    · have h := if_F h hc1
      refine rz_B.ifT ((le32 hv5 (by decide)).mpr (Int.not_lt.mp hc1)) ?_
      obtain ⟨hk17, h⟩ := rz_g32_inv h
      refine rz_B.iinc rfl (by decide) rfl (L' := [some (.ref 91), none, none, none, none, some (vI v5), some (vI (v6 + 1)), none]) rfl ?_
      refine rz_B.go 1 (pc' := 368) (L' := [some (.ref 91), none, none, none, none, some (vI v5), some (vI (v6 + 1)), none]) (S' := []) rfl ?_
      refine rz_B.more (rg_le_ok (L := [some (.ref 91), none, none, none, none, some (vI v5), some (vI (v6 + 1)), none]) (by simp [rg_le])) ?_
      exact hkk368 _ _ _ _ _ h hv5 hk17 hw
def x182_makes_368 (F : Nat) : Nat → Int → Int → rz_A → Option (Unit × rz_A)
  | 0, _, _, _ => none
  | n + 1, v5, v6, A =>
    if v6 < (A.1 91 67) then
      rz_gx v6 60 <|
      rz_gx v5 60 <|
      rz_g32 (v5 + 1) <|
      x182_makes_417 F (x182_makes_368 F n) F (v5 + 1) v6 (aI (aI (aL A 143 (v5).toNat (A.2 142 (v6).toNat)) 141 (v5).toNat (A.1 139 (v6).toNat)) 140 (v5).toNat v6)
    else
      x182_makes_524 F F v5 0 A
theorem cx182_makes_368 {d : Nat} (F : Nat) : ∀ (n : Nat) (v5 : Int) (v6 : Int) (A : rz_A) (r : Unit) (A' : rz_A), x182_makes_368 F n v5 v6 A = some (r, A') → r32 v5 → r32 v6 → wf A → rz_B (d + 6) 182 368 [some (.ref 91), none, none, none, none, some (vI v5), some (vI v6), none] [] A (none) A' (True) := by
  intro n
  induction n with
  | zero => intro v5 v6 A r A' h; cases h
  | succ n ih =>
    intro v5 v6 A r A' h hv5 hv6 hw
    rw [x182_makes_368] at h
    refine rz_B.go 4 (pc' := if decide (Int32.ofInt (A.1 91 67) ≤ Int32.ofInt v6) = true then 521 else 377) (L' := [some (.ref 91), none, none, none, none, some (vI v5), some (vI v6), none]) (S' := []) rfl ?_
    by_cases hc1 : v6 < (A.1 91 67)
    · have h := if_T h hc1
      refine rz_B.ifF (mt (le32 (hw 91 67).1 hv6).mp (Int.not_le.mpr hc1)) ?_
      refine rz_B.go 6 (pc' := 389) (L' := [some (.ref 91), none, none, none, none, some (vI v5), some (vI v6), none]) (S' := [vI v6, .ref 142, vI v5, .ref 143]) rfl ?_
      obtain ⟨hi2, hj3, h⟩ := rz_gx_inv h
      refine rz_B.lald rfl rfl hi2 hj3 (by decide) ?_
      obtain ⟨hi4, hj5, h⟩ := rz_gx_inv h
      refine rz_B.last rfl rfl hi4 hj5 (by decide) ?_
      have hw6 : wf (aL A 143 (v5).toNat (A.2 142 (v6).toNat)) := wf_aL hw (hw 142 (v6).toNat).2
      refine rz_B.go 6 (pc' := 403) (L' := [some (.ref 91), none, none, none, none, some (vI v5), some (vI v6), none]) (S' := [vI v6, .ref 139, vI v5, .ref 141]) rfl ?_
      refine rz_B.iald rfl rfl hi2 hj3 (by decide) ?_
      refine rz_B.iast rfl rfl hi4 hj5 (by decide) ?_
      have hw7 : wf (aI (aL A 143 (v5).toNat (A.2 142 (v6).toNat)) 141 (v5).toNat (A.1 139 (v6).toNat)) := wf_aI hw6 (hw 139 (v6).toNat).1
      refine rz_B.go 3 (pc' := 411) (L' := [some (.ref 91), none, none, none, none, some (vI v5), some (vI v6), none]) (S' := [vI v5, .ref 140]) rfl ?_
      obtain ⟨hk8, h⟩ := rz_g32_inv h
      refine rz_B.iinc rfl (by decide) rfl (L' := [some (.ref 91), none, none, none, none, some (vI (v5 + 1)), some (vI v6), none]) rfl ?_
      refine rz_B.go 1 (pc' := 416) (L' := [some (.ref 91), none, none, none, none, some (vI (v5 + 1)), some (vI v6), none]) (S' := [vI v6, vI v5, .ref 140]) rfl ?_
      refine rz_B.iast rfl rfl hi4 hj5 (by decide) ?_
      have hw9 : wf (aI (aI (aL A 143 (v5).toNat (A.2 142 (v6).toNat)) 141 (v5).toNat (A.1 139 (v6).toNat)) 140 (v5).toNat v6) := wf_aI hw7 hv6
      refine rz_B.more (rg_le_ok (L := [some (.ref 91), none, none, none, none, some (vI (v5 + 1)), some (vI v6), none]) (by simp [rg_le])) ?_
      exact cx182_makes_417 F ih F _ _ _ _ _ h hk8 hv6 hw9
    · have h := if_F h hc1
      refine rz_B.ifT ((le32 (hw 91 67).1 hv6).mpr (Int.not_lt.mp hc1)) ?_
      refine rz_B.go 2 (pc' := 524) (L' := [some (.ref 91), none, none, none, none, some (vI v5), some (vI 0), none]) (S' := []) rfl ?_
      refine rz_B.more (rg_le_ok (L := [some (.ref 91), none, none, none, none, some (vI v5), some (vI 0), none]) (by simp [rg_le])) ?_
      exact cx182_makes_524 F F _ _ _ _ _ h hv5 (by decide) hw
def x182_makes_290 (F : Nat) (k87 : (Int → Int → Int → Int → Int → rz_A → Option (Unit × rz_A))) (v1 : Int) (v2 : Int) (v3 : Int) (v4 : Int) (v5 : Int) (v6 : Int) (A : rz_A) : Option (Unit × rz_A) :=
  rz_gx v6 60 <|
  rz_g32 ((A.1 91 67) + 1) <|
  rz_gx v5 60 <|
  rz_g64 (((aL A 142 (v6).toNat 0).2 142 (v6).toNat) + (A.1 112 (v5).toNat)) <|
  rz_g32 (((aI A 139 (v6).toNat 0).1 139 (v6).toNat) + 1) <|
  rz_g32 (v5 + 1) <|
  k87 v1 v2 v3 v4 (v5 + 1) (aI (aL (aI (aI (aL (aI A 137 (v6).toNat (A.1 91 54)) 142 (v6).toNat 0) 139 (v6).toNat 0) 91 67 ((A.1 91 67) + 1)) 142 (v6).toNat (((aL A 142 (v6).toNat 0).2 142 (v6).toNat) + (A.1 112 (v5).toNat))) 139 (v6).toNat (((aI A 139 (v6).toNat 0).1 139 (v6).toNat) + 1))
theorem cx182_makes_290 {d : Nat} (F : Nat) {k87 : (Int → Int → Int → Int → Int → rz_A → Option (Unit × rz_A))} (hkk87 : ∀ (v1 : Int) (v2 : Int) (v3 : Int) (v4 : Int) (v5 : Int) (A : rz_A) (r : Unit) (A' : rz_A), k87 v1 v2 v3 v4 v5 A = some (r, A') → r32 v1 → r32 v2 → r32 v3 → r32 v4 → r32 v5 → wf A → rz_B (d + 6) 182 87 [some (.ref 91), some (vI v1), some (vI v2), some (vI v3), some (vI v4), some (vI v5), none, none] [] A (none) A' (True)) : ∀ (v1 : Int) (v2 : Int) (v3 : Int) (v4 : Int) (v5 : Int) (v6 : Int) (A : rz_A) (r : Unit) (A' : rz_A), x182_makes_290 F k87 v1 v2 v3 v4 v5 v6 A = some (r, A') → r32 v1 → r32 v2 → r32 v3 → r32 v4 → r32 v5 → r32 v6 → wf A → rz_B (d + 6) 182 290 [some (.ref 91), some (vI v1), some (vI v2), some (vI v3), some (vI v4), some (vI v5), some (vI v6), none] [] A (none) A' (True) := by
  intro v1 v2 v3 v4 v5 v6 A r A' h hv1 hv2 hv3 hv4 hv5 hv6 hw
  unfold x182_makes_290 at h
  refine rz_B.go 5 (pc' := 300) (L' := [some (.ref 91), some (vI v1), some (vI v2), some (vI v3), some (vI v4), some (vI v5), some (vI v6), none]) (S' := [vI (A.1 91 54), vI v6, .ref 137]) rfl ?_
  obtain ⟨hi1, hj2, h⟩ := rz_gx_inv h
  refine rz_B.iast rfl rfl hi1 hj2 (by decide) ?_
  have hw3 : wf (aI A 137 (v6).toNat (A.1 91 54)) := wf_aI hw (hw 91 54).1
  refine rz_B.go 4 (pc' := 308) (L' := [some (.ref 91), some (vI v1), some (vI v2), some (vI v3), some (vI v4), some (vI v5), some (vI v6), none]) (S' := [vL 0, vI v6, .ref 142]) rfl ?_
  refine rz_B.last rfl rfl hi1 hj2 (by decide) ?_
  have hw4 : wf (aL (aI A 137 (v6).toNat (A.1 91 54)) 142 (v6).toNat 0) := wf_aL hw3 (by decide)
  refine rz_B.go 4 (pc' := 316) (L' := [some (.ref 91), some (vI v1), some (vI v2), some (vI v3), some (vI v4), some (vI v5), some (vI v6), none]) (S' := [vI 0, vI v6, .ref 139]) rfl ?_
  refine rz_B.iast rfl rfl hi1 hj2 (by decide) ?_
  have hw5 : wf (aI (aL (aI A 137 (v6).toNat (A.1 91 54)) 142 (v6).toNat 0) 139 (v6).toNat 0) := wf_aI hw4 (by decide)
  refine rz_B.go 4 (pc' := 323) (L' := [some (.ref 91), some (vI v1), some (vI v2), some (vI v3), some (vI v4), some (vI v5), some (vI v6), none]) (S' := [vI 1, vI (A.1 91 67), .ref 91]) rfl ?_
  obtain ⟨hk6, h⟩ := rz_g32_inv h
  refine rz_B.iadd rfl ?_
  refine rz_B.put 1 (pc' := 327) (L' := [some (.ref 91), some (vI v1), some (vI v2), some (vI v3), some (vI v4), some (vI v5), some (vI v6), none]) (S' := []) (c := 91) (k := 67) (x := ((A.1 91 67) + 1)) rfl ?_
  have hw7 : wf (aI (aI (aL (aI A 137 (v6).toNat (A.1 91 54)) 142 (v6).toNat 0) 139 (v6).toNat 0) 91 67 ((A.1 91 67) + 1)) := wf_aI hw5 hk6
  refine rz_B.go 4 (pc' := 334) (L' := [some (.ref 91), some (vI v1), some (vI v2), some (vI v3), some (vI v4), some (vI v5), some (vI v6), none]) (S' := [vI v6, .ref 142, vI v6, .ref 142]) rfl ?_
  refine rz_B.lald rfl rfl hi1 hj2 (by decide) ?_
  refine rz_B.go 3 (pc' := 341) (L' := [some (.ref 91), some (vI v1), some (vI v2), some (vI v3), some (vI v4), some (vI v5), some (vI v6), none]) (S' := [vI v5, .ref 112, vL ((aL A 142 (v6).toNat 0).2 142 (v6).toNat), vI v6, .ref 142]) rfl ?_
  obtain ⟨hi8, hj9, h⟩ := rz_gx_inv h
  refine rz_B.iald rfl rfl hi8 hj9 (by decide) ?_
  refine rz_B.i2l rfl (hw 112 (v5).toNat).1 ?_
  obtain ⟨hk10, h⟩ := rz_g64_inv h
  refine rz_B.ladd rfl ?_
  refine rz_B.last rfl rfl hi1 hj2 (by decide) ?_
  have hw11 : wf (aL (aI (aI (aL (aI A 137 (v6).toNat (A.1 91 54)) 142 (v6).toNat 0) 139 (v6).toNat 0) 91 67 ((A.1 91 67) + 1)) 142 (v6).toNat (((aL A 142 (v6).toNat 0).2 142 (v6).toNat) + (A.1 112 (v5).toNat))) := wf_aL hw7 hk10
  refine rz_B.go 4 (pc' := 352) (L' := [some (.ref 91), some (vI v1), some (vI v2), some (vI v3), some (vI v4), some (vI v5), some (vI v6), none]) (S' := [vI v6, .ref 139, vI v6, .ref 139]) rfl ?_
  refine rz_B.iald rfl rfl hi1 hj2 (by decide) ?_
  refine rz_B.go 1 (pc' := 354) (L' := [some (.ref 91), some (vI v1), some (vI v2), some (vI v3), some (vI v4), some (vI v5), some (vI v6), none]) (S' := [vI 1, vI ((aI A 139 (v6).toNat 0).1 139 (v6).toNat), vI v6, .ref 139]) rfl ?_
  obtain ⟨hk12, h⟩ := rz_g32_inv h
  refine rz_B.iadd rfl ?_
  refine rz_B.iast rfl rfl hi1 hj2 (by decide) ?_
  have hw13 : wf (aI (aL (aI (aI (aL (aI A 137 (v6).toNat (A.1 91 54)) 142 (v6).toNat 0) 139 (v6).toNat 0) 91 67 ((A.1 91 67) + 1)) 142 (v6).toNat (((aL A 142 (v6).toNat 0).2 142 (v6).toNat) + (A.1 112 (v5).toNat))) 139 (v6).toNat (((aI A 139 (v6).toNat 0).1 139 (v6).toNat) + 1)) := wf_aI hw11 hk12
  obtain ⟨hk14, h⟩ := rz_g32_inv h
  refine rz_B.iinc rfl (by decide) rfl (L' := [some (.ref 91), some (vI v1), some (vI v2), some (vI v3), some (vI v4), some (vI (v5 + 1)), some (vI v6), none]) rfl ?_
  refine rz_B.go 1 (pc' := 87) (L' := [some (.ref 91), some (vI v1), some (vI v2), some (vI v3), some (vI v4), some (vI (v5 + 1)), some (vI v6), none]) (S' := []) rfl ?_
  refine rz_B.more (rg_le_ok (L := [some (.ref 91), some (vI v1), some (vI v2), some (vI v3), some (vI v4), some (vI (v5 + 1)), none, none]) (by simp [rg_le])) ?_
  exact hkk87 _ _ _ _ _ _ _ _ h hv1 hv2 hv3 hv4 hk14 hw13
def x182_makes_229 (F : Nat) (k87 : (Int → Int → Int → Int → Int → rz_A → Option (Unit × rz_A))) : Nat → Int → Int → Int → Int → Int → Int → Int → rz_A → Option (Unit × rz_A)
  | 0, _, _, _, _, _, _, _, _ => none
  | n + 1, v1, v2, v3, v4, v5, v6, v7, A =>
    if v6 < v7 then
      rz_g32 (v7 - 1) <|
      rz_gx (v7 - 1) 60 <|
      rz_gx v7 60 <|
      rz_g32 (v7 + (-1)) <|
      x182_makes_229 F k87 n v1 v2 v3 v4 v5 v6 (v7 + (-1)) (aI (aL (aI A 137 (v7).toNat (A.1 137 ((v7 - 1)).toNat)) 142 (v7).toNat (A.2 142 ((v7 - 1)).toNat)) 139 (v7).toNat (A.1 139 ((v7 - 1)).toNat))
    else
      x182_makes_290 F k87 v1 v2 v3 v4 v5 v6 A
theorem cx182_makes_229 {d : Nat} (F : Nat) {k87 : (Int → Int → Int → Int → Int → rz_A → Option (Unit × rz_A))} (hkk87 : ∀ (v1 : Int) (v2 : Int) (v3 : Int) (v4 : Int) (v5 : Int) (A : rz_A) (r : Unit) (A' : rz_A), k87 v1 v2 v3 v4 v5 A = some (r, A') → r32 v1 → r32 v2 → r32 v3 → r32 v4 → r32 v5 → wf A → rz_B (d + 6) 182 87 [some (.ref 91), some (vI v1), some (vI v2), some (vI v3), some (vI v4), some (vI v5), none, none] [] A (none) A' (True)) : ∀ (n : Nat) (v1 : Int) (v2 : Int) (v3 : Int) (v4 : Int) (v5 : Int) (v6 : Int) (v7 : Int) (A : rz_A) (r : Unit) (A' : rz_A), x182_makes_229 F k87 n v1 v2 v3 v4 v5 v6 v7 A = some (r, A') → r32 v1 → r32 v2 → r32 v3 → r32 v4 → r32 v5 → r32 v6 → r32 v7 → wf A → rz_B (d + 6) 182 229 [some (.ref 91), some (vI v1), some (vI v2), some (vI v3), some (vI v4), some (vI v5), some (vI v6), some (vI v7)] [] A (none) A' (True) := by
  intro n
  induction n with
  | zero => intro v1 v2 v3 v4 v5 v6 v7 A r A' h; cases h
  | succ n ih =>
    intro v1 v2 v3 v4 v5 v6 v7 A r A' h hv1 hv2 hv3 hv4 hv5 hv6 hv7 hw
    rw [x182_makes_229] at h
    refine rz_B.go 3 (pc' := if decide (Int32.ofInt v7 ≤ Int32.ofInt v6) = true then 290 else 236) (L' := [some (.ref 91), some (vI v1), some (vI v2), some (vI v3), some (vI v4), some (vI v5), some (vI v6), some (vI v7)]) (S' := []) rfl ?_
    by_cases hc1 : v6 < v7
    · have h := if_T h hc1
      refine rz_B.ifF (mt (le32 hv7 hv6).mp (Int.not_le.mpr hc1)) ?_
      refine rz_B.go 7 (pc' := 249) (L' := [some (.ref 91), some (vI v1), some (vI v2), some (vI v3), some (vI v4), some (vI v5), some (vI v6), some (vI v7)]) (S' := [vI 1, vI v7, .ref 137, vI v7, .ref 137]) rfl ?_
      obtain ⟨hk2, h⟩ := rz_g32_inv h
      refine rz_B.isub rfl ?_
      obtain ⟨hi3, hj4, h⟩ := rz_gx_inv h
      refine rz_B.iald rfl rfl hi3 hj4 (by decide) ?_
      obtain ⟨hi5, hj6, h⟩ := rz_gx_inv h
      refine rz_B.iast rfl rfl hi5 hj6 (by decide) ?_
      have hw7 : wf (aI A 137 (v7).toNat (A.1 137 ((v7 - 1)).toNat)) := wf_aI hw (hw 137 ((v7 - 1)).toNat).1
      refine rz_B.go 7 (pc' := 265) (L' := [some (.ref 91), some (vI v1), some (vI v2), some (vI v3), some (vI v4), some (vI v5), some (vI v6), some (vI v7)]) (S' := [vI 1, vI v7, .ref 142, vI v7, .ref 142]) rfl ?_
      refine rz_B.isub rfl ?_
      refine rz_B.lald rfl rfl hi3 hj4 (by decide) ?_
      refine rz_B.last rfl rfl hi5 hj6 (by decide) ?_
      have hw8 : wf (aL (aI A 137 (v7).toNat (A.1 137 ((v7 - 1)).toNat)) 142 (v7).toNat (A.2 142 ((v7 - 1)).toNat)) := wf_aL hw7 (hw 142 ((v7 - 1)).toNat).2
      refine rz_B.go 7 (pc' := 281) (L' := [some (.ref 91), some (vI v1), some (vI v2), some (vI v3), some (vI v4), some (vI v5), some (vI v6), some (vI v7)]) (S' := [vI 1, vI v7, .ref 139, vI v7, .ref 139]) rfl ?_
      refine rz_B.isub rfl ?_
      refine rz_B.iald rfl rfl hi3 hj4 (by decide) ?_
      refine rz_B.iast rfl rfl hi5 hj6 (by decide) ?_
      have hw9 : wf (aI (aL (aI A 137 (v7).toNat (A.1 137 ((v7 - 1)).toNat)) 142 (v7).toNat (A.2 142 ((v7 - 1)).toNat)) 139 (v7).toNat (A.1 139 ((v7 - 1)).toNat)) := wf_aI hw8 (hw 139 ((v7 - 1)).toNat).1
      obtain ⟨hk10, h⟩ := rz_g32_inv h
      refine rz_B.iinc rfl (by decide) rfl (L' := [some (.ref 91), some (vI v1), some (vI v2), some (vI v3), some (vI v4), some (vI v5), some (vI v6), some (vI (v7 + (-1)))]) rfl ?_
      refine rz_B.go 1 (pc' := 229) (L' := [some (.ref 91), some (vI v1), some (vI v2), some (vI v3), some (vI v4), some (vI v5), some (vI v6), some (vI (v7 + (-1)))]) (S' := []) rfl ?_
      refine rz_B.more (rg_le_ok (L := [some (.ref 91), some (vI v1), some (vI v2), some (vI v3), some (vI v4), some (vI v5), some (vI v6), some (vI (v7 + (-1)))]) (by simp [rg_le])) ?_
      exact ih _ _ _ _ _ _ _ _ _ _ h hv1 hv2 hv3 hv4 hv5 hv6 hk10 hw9
    · have h := if_F h hc1
      refine rz_B.ifT ((le32 hv7 hv6).mpr (Int.not_lt.mp hc1)) ?_
      refine rz_B.more (rg_le_ok (L := [some (.ref 91), some (vI v1), some (vI v2), some (vI v3), some (vI v4), some (vI v5), some (vI v6), none]) (by simp [rg_le])) ?_
      exact cx182_makes_290 F hkk87 _ _ _ _ _ _ _ _ _ h hv1 hv2 hv3 hv4 hv5 hv6 hw
def x182_makes_200 (F : Nat) (k87 : (Int → Int → Int → Int → Int → rz_A → Option (Unit × rz_A))) (v1 : Int) (v2 : Int) (v3 : Int) (v4 : Int) (v5 : Int) (v6 : Int) (A : rz_A) : Option (Unit × rz_A) :=
  if v6 = (A.1 91 67) then
    x182_makes_229 F k87 F v1 v2 v3 v4 v5 v6 (A.1 91 67) A
  else
    rz_gx v6 60 <|
    if (A.1 137 (v6).toNat) = (A.1 91 54) then
      rz_gx v5 60 <|
      rz_g64 ((A.2 142 (v6).toNat) + (A.1 112 (v5).toNat)) <|
      rz_g32 ((A.1 139 (v6).toNat) + 1) <|
      rz_g32 (v5 + 1) <|
      k87 v1 v2 v3 v4 (v5 + 1) (aI (aL A 142 (v6).toNat ((A.2 142 (v6).toNat) + (A.1 112 (v5).toNat))) 139 (v6).toNat ((A.1 139 (v6).toNat) + 1))
    else
      x182_makes_229 F k87 F v1 v2 v3 v4 v5 v6 (A.1 91 67) A
theorem cx182_makes_200 {d : Nat} (F : Nat) {k87 : (Int → Int → Int → Int → Int → rz_A → Option (Unit × rz_A))} (hkk87 : ∀ (v1 : Int) (v2 : Int) (v3 : Int) (v4 : Int) (v5 : Int) (A : rz_A) (r : Unit) (A' : rz_A), k87 v1 v2 v3 v4 v5 A = some (r, A') → r32 v1 → r32 v2 → r32 v3 → r32 v4 → r32 v5 → wf A → rz_B (d + 6) 182 87 [some (.ref 91), some (vI v1), some (vI v2), some (vI v3), some (vI v4), some (vI v5), none, none] [] A (none) A' (True)) : ∀ (v1 : Int) (v2 : Int) (v3 : Int) (v4 : Int) (v5 : Int) (v6 : Int) (A : rz_A) (r : Unit) (A' : rz_A), x182_makes_200 F k87 v1 v2 v3 v4 v5 v6 A = some (r, A') → r32 v1 → r32 v2 → r32 v3 → r32 v4 → r32 v5 → r32 v6 → wf A → rz_B (d + 6) 182 200 [some (.ref 91), some (vI v1), some (vI v2), some (vI v3), some (vI v4), some (vI v5), some (vI v6), none] [] A (none) A' (True) := by
  intro v1 v2 v3 v4 v5 v6 A r A' h hv1 hv2 hv3 hv4 hv5 hv6 hw
  unfold x182_makes_200 at h
  refine rz_B.go 4 (pc' := if decide (Int32.ofInt v6 = Int32.ofInt (A.1 91 67)) = true then 223 else 209) (L' := [some (.ref 91), some (vI v1), some (vI v2), some (vI v3), some (vI v4), some (vI v5), some (vI v6), none]) (S' := []) rfl ?_
  by_cases hc1 : v6 = (A.1 91 67)
  · have h := if_T h hc1
    refine rz_B.ifT ((eq32 hv6 (hw 91 67).1).mpr hc1) ?_
    refine rz_B.go 3 (pc' := 229) (L' := [some (.ref 91), some (vI v1), some (vI v2), some (vI v3), some (vI v4), some (vI v5), some (vI v6), some (vI (A.1 91 67))]) (S' := []) rfl ?_
    refine rz_B.more (rg_le_ok (L := [some (.ref 91), some (vI v1), some (vI v2), some (vI v3), some (vI v4), some (vI v5), some (vI v6), some (vI (A.1 91 67))]) (by simp [rg_le])) ?_
    exact cx182_makes_229 F hkk87 F _ _ _ _ _ _ _ _ _ _ h hv1 hv2 hv3 hv4 hv5 hv6 (hw 91 67).1 hw
  · have h := if_F h hc1
    refine rz_B.ifF (mt (eq32 hv6 (hw 91 67).1).mp hc1) ?_
    refine rz_B.go 3 (pc' := 215) (L' := [some (.ref 91), some (vI v1), some (vI v2), some (vI v3), some (vI v4), some (vI v5), some (vI v6), none]) (S' := [vI v6, .ref 137]) rfl ?_
    obtain ⟨hi2, hj3, h⟩ := rz_gx_inv h
    refine rz_B.iald rfl rfl hi2 hj3 (by decide) ?_
    refine rz_B.go 3 (pc' := if decide (Int32.ofInt (A.1 137 (v6).toNat) = Int32.ofInt (A.1 91 54)) = true then 327 else 223) (L' := [some (.ref 91), some (vI v1), some (vI v2), some (vI v3), some (vI v4), some (vI v5), some (vI v6), none]) (S' := []) rfl ?_
    by_cases hc4 : (A.1 137 (v6).toNat) = (A.1 91 54)
    · have h := if_T h hc4
      refine rz_B.ifT ((eq32 (hw 137 (v6).toNat).1 (hw 91 54).1).mpr hc4) ?_
      refine rz_B.go 4 (pc' := 334) (L' := [some (.ref 91), some (vI v1), some (vI v2), some (vI v3), some (vI v4), some (vI v5), some (vI v6), none]) (S' := [vI v6, .ref 142, vI v6, .ref 142]) rfl ?_
      refine rz_B.lald rfl rfl hi2 hj3 (by decide) ?_
      refine rz_B.go 3 (pc' := 341) (L' := [some (.ref 91), some (vI v1), some (vI v2), some (vI v3), some (vI v4), some (vI v5), some (vI v6), none]) (S' := [vI v5, .ref 112, vL (A.2 142 (v6).toNat), vI v6, .ref 142]) rfl ?_
      obtain ⟨hi5, hj6, h⟩ := rz_gx_inv h
      refine rz_B.iald rfl rfl hi5 hj6 (by decide) ?_
      refine rz_B.i2l rfl (hw 112 (v5).toNat).1 ?_
      obtain ⟨hk7, h⟩ := rz_g64_inv h
      refine rz_B.ladd rfl ?_
      refine rz_B.last rfl rfl hi2 hj3 (by decide) ?_
      have hw8 : wf (aL A 142 (v6).toNat ((A.2 142 (v6).toNat) + (A.1 112 (v5).toNat))) := wf_aL hw hk7
      refine rz_B.go 4 (pc' := 352) (L' := [some (.ref 91), some (vI v1), some (vI v2), some (vI v3), some (vI v4), some (vI v5), some (vI v6), none]) (S' := [vI v6, .ref 139, vI v6, .ref 139]) rfl ?_
      refine rz_B.iald rfl rfl hi2 hj3 (by decide) ?_
      refine rz_B.go 1 (pc' := 354) (L' := [some (.ref 91), some (vI v1), some (vI v2), some (vI v3), some (vI v4), some (vI v5), some (vI v6), none]) (S' := [vI 1, vI (A.1 139 (v6).toNat), vI v6, .ref 139]) rfl ?_
      obtain ⟨hk9, h⟩ := rz_g32_inv h
      refine rz_B.iadd rfl ?_
      refine rz_B.iast rfl rfl hi2 hj3 (by decide) ?_
      have hw10 : wf (aI (aL A 142 (v6).toNat ((A.2 142 (v6).toNat) + (A.1 112 (v5).toNat))) 139 (v6).toNat ((A.1 139 (v6).toNat) + 1)) := wf_aI hw8 hk9
      obtain ⟨hk11, h⟩ := rz_g32_inv h
      refine rz_B.iinc rfl (by decide) rfl (L' := [some (.ref 91), some (vI v1), some (vI v2), some (vI v3), some (vI v4), some (vI (v5 + 1)), some (vI v6), none]) rfl ?_
      refine rz_B.go 1 (pc' := 87) (L' := [some (.ref 91), some (vI v1), some (vI v2), some (vI v3), some (vI v4), some (vI (v5 + 1)), some (vI v6), none]) (S' := []) rfl ?_
      refine rz_B.more (rg_le_ok (L := [some (.ref 91), some (vI v1), some (vI v2), some (vI v3), some (vI v4), some (vI (v5 + 1)), none, none]) (by simp [rg_le])) ?_
      exact hkk87 _ _ _ _ _ _ _ _ h hv1 hv2 hv3 hv4 hk11 hw10
    · have h := if_F h hc4
      refine rz_B.ifF (mt (eq32 (hw 137 (v6).toNat).1 (hw 91 54).1).mp hc4) ?_
      refine rz_B.go 3 (pc' := 229) (L' := [some (.ref 91), some (vI v1), some (vI v2), some (vI v3), some (vI v4), some (vI v5), some (vI v6), some (vI (A.1 91 67))]) (S' := []) rfl ?_
      refine rz_B.more (rg_le_ok (L := [some (.ref 91), some (vI v1), some (vI v2), some (vI v3), some (vI v4), some (vI v5), some (vI v6), some (vI (A.1 91 67))]) (by simp [rg_le])) ?_
      exact cx182_makes_229 F hkk87 F _ _ _ _ _ _ _ _ _ _ h hv1 hv2 hv3 hv4 hv5 hv6 (hw 91 67).1 hw
def x182_makes_171 (F : Nat) (k87 : (Int → Int → Int → Int → Int → rz_A → Option (Unit × rz_A))) : Nat → Int → Int → Int → Int → Int → Int → rz_A → Option (Unit × rz_A)
  | 0, _, _, _, _, _, _, _ => none
  | n + 1, v1, v2, v3, v4, v5, v6, A =>
    if v6 < (A.1 91 67) then
      rz_gx v6 60 <|
      if (A.1 137 (v6).toNat) < (A.1 91 54) then
        rz_g32 (v6 + 1) <|
        x182_makes_171 F k87 n v1 v2 v3 v4 v5 (v6 + 1) A
      else
        x182_makes_200 F k87 v1 v2 v3 v4 v5 v6 A
    else
      x182_makes_200 F k87 v1 v2 v3 v4 v5 v6 A
theorem cx182_makes_171 {d : Nat} (F : Nat) {k87 : (Int → Int → Int → Int → Int → rz_A → Option (Unit × rz_A))} (hkk87 : ∀ (v1 : Int) (v2 : Int) (v3 : Int) (v4 : Int) (v5 : Int) (A : rz_A) (r : Unit) (A' : rz_A), k87 v1 v2 v3 v4 v5 A = some (r, A') → r32 v1 → r32 v2 → r32 v3 → r32 v4 → r32 v5 → wf A → rz_B (d + 6) 182 87 [some (.ref 91), some (vI v1), some (vI v2), some (vI v3), some (vI v4), some (vI v5), none, none] [] A (none) A' (True)) : ∀ (n : Nat) (v1 : Int) (v2 : Int) (v3 : Int) (v4 : Int) (v5 : Int) (v6 : Int) (A : rz_A) (r : Unit) (A' : rz_A), x182_makes_171 F k87 n v1 v2 v3 v4 v5 v6 A = some (r, A') → r32 v1 → r32 v2 → r32 v3 → r32 v4 → r32 v5 → r32 v6 → wf A → rz_B (d + 6) 182 171 [some (.ref 91), some (vI v1), some (vI v2), some (vI v3), some (vI v4), some (vI v5), some (vI v6), none] [] A (none) A' (True) := by
  intro n
  induction n with
  | zero => intro v1 v2 v3 v4 v5 v6 A r A' h; cases h
  | succ n ih =>
    intro v1 v2 v3 v4 v5 v6 A r A' h hv1 hv2 hv3 hv4 hv5 hv6 hw
    rw [x182_makes_171] at h
    refine rz_B.go 4 (pc' := if decide (Int32.ofInt (A.1 91 67) ≤ Int32.ofInt v6) = true then 200 else 180) (L' := [some (.ref 91), some (vI v1), some (vI v2), some (vI v3), some (vI v4), some (vI v5), some (vI v6), none]) (S' := []) rfl ?_
    by_cases hc1 : v6 < (A.1 91 67)
    · have h := if_T h hc1
      refine rz_B.ifF (mt (le32 (hw 91 67).1 hv6).mp (Int.not_le.mpr hc1)) ?_
      refine rz_B.go 3 (pc' := 186) (L' := [some (.ref 91), some (vI v1), some (vI v2), some (vI v3), some (vI v4), some (vI v5), some (vI v6), none]) (S' := [vI v6, .ref 137]) rfl ?_
      obtain ⟨hi2, hj3, h⟩ := rz_gx_inv h
      refine rz_B.iald rfl rfl hi2 hj3 (by decide) ?_
      refine rz_B.go 3 (pc' := if decide (Int32.ofInt (A.1 91 54) ≤ Int32.ofInt (A.1 137 (v6).toNat)) = true then 200 else 194) (L' := [some (.ref 91), some (vI v1), some (vI v2), some (vI v3), some (vI v4), some (vI v5), some (vI v6), none]) (S' := []) rfl ?_
      by_cases hc4 : (A.1 137 (v6).toNat) < (A.1 91 54)
      · have h := if_T h hc4
        refine rz_B.ifF (mt (le32 (hw 91 54).1 (hw 137 (v6).toNat).1).mp (Int.not_le.mpr hc4)) ?_
        obtain ⟨hk5, h⟩ := rz_g32_inv h
        refine rz_B.iinc rfl (by decide) rfl (L' := [some (.ref 91), some (vI v1), some (vI v2), some (vI v3), some (vI v4), some (vI v5), some (vI (v6 + 1)), none]) rfl ?_
        refine rz_B.go 1 (pc' := 171) (L' := [some (.ref 91), some (vI v1), some (vI v2), some (vI v3), some (vI v4), some (vI v5), some (vI (v6 + 1)), none]) (S' := []) rfl ?_
        refine rz_B.more (rg_le_ok (L := [some (.ref 91), some (vI v1), some (vI v2), some (vI v3), some (vI v4), some (vI v5), some (vI (v6 + 1)), none]) (by simp [rg_le])) ?_
        exact ih _ _ _ _ _ _ _ _ _ h hv1 hv2 hv3 hv4 hv5 hk5 hw
      · have h := if_F h hc4
        refine rz_B.ifT ((le32 (hw 91 54).1 (hw 137 (v6).toNat).1).mpr (Int.not_lt.mp hc4)) ?_
        refine rz_B.more (rg_le_ok (L := [some (.ref 91), some (vI v1), some (vI v2), some (vI v3), some (vI v4), some (vI v5), some (vI v6), none]) (by simp [rg_le])) ?_
        exact cx182_makes_200 F hkk87 _ _ _ _ _ _ _ _ _ h hv1 hv2 hv3 hv4 hv5 hv6 hw
    · have h := if_F h hc1
      refine rz_B.ifT ((le32 (hw 91 67).1 hv6).mpr (Int.not_lt.mp hc1)) ?_
      refine rz_B.more (rg_le_ok (L := [some (.ref 91), some (vI v1), some (vI v2), some (vI v3), some (vI v4), some (vI v5), some (vI v6), none]) (by simp [rg_le])) ?_
      exact cx182_makes_200 F hkk87 _ _ _ _ _ _ _ _ _ h hv1 hv2 hv3 hv4 hv5 hv6 hw
def x182_makes_87 (F : Nat) : Nat → Int → Int → Int → Int → Int → rz_A → Option (Unit × rz_A)
  | 0, _, _, _, _, _, _ => none
  | n + 1, v1, v2, v3, v4, v5, A =>
    if v5 < (A.1 91 4) then
      rz_gx v5 60 <|
      if (A.1 110 (v5).toNat) = v1 then
        if v2 ≤ (A.1 111 (v5).toNat) then
          if (A.1 111 (v5).toNat) ≤ v3 then
            rz_b (x166_isIn F v5 v4 A) fun r7 A7 =>
            if r7 = 0 then
              rz_g32 (v5 + 1) <|
              x182_makes_87 F n v1 v2 v3 v4 (v5 + 1) A7
            else
              if (A7.1 91 68) < (A7.1 113 (v5).toNat) then
                x182_makes_171 F (x182_makes_87 F n) F v1 v2 v3 v4 v5 0 (aI A7 91 68 (A7.1 113 (v5).toNat))
              else
                x182_makes_171 F (x182_makes_87 F n) F v1 v2 v3 v4 v5 0 A7
          else
            rz_g32 (v5 + 1) <|
            x182_makes_87 F n v1 v2 v3 v4 (v5 + 1) A
        else
          rz_g32 (v5 + 1) <|
          x182_makes_87 F n v1 v2 v3 v4 (v5 + 1) A
      else
        rz_g32 (v5 + 1) <|
        x182_makes_87 F n v1 v2 v3 v4 (v5 + 1) A
    else
      x182_makes_368 F F 0 0 A
theorem cx182_makes_87 {d : Nat} (F : Nat) : ∀ (n : Nat) (v1 : Int) (v2 : Int) (v3 : Int) (v4 : Int) (v5 : Int) (A : rz_A) (r : Unit) (A' : rz_A), x182_makes_87 F n v1 v2 v3 v4 v5 A = some (r, A') → r32 v1 → r32 v2 → r32 v3 → r32 v4 → r32 v5 → wf A → rz_B (d + 6) 182 87 [some (.ref 91), some (vI v1), some (vI v2), some (vI v3), some (vI v4), some (vI v5), none, none] [] A (none) A' (True) := by
  intro n
  induction n with
  | zero => intro v1 v2 v3 v4 v5 A r A' h; cases h
  | succ n ih =>
    intro v1 v2 v3 v4 v5 A r A' h hv1 hv2 hv3 hv4 hv5 hw
    rw [x182_makes_87] at h
    refine rz_B.go 4 (pc' := if decide (Int32.ofInt (A.1 91 4) ≤ Int32.ofInt v5) = true then 362 else 96) (L' := [some (.ref 91), some (vI v1), some (vI v2), some (vI v3), some (vI v4), some (vI v5), none, none]) (S' := []) rfl ?_
    by_cases hc1 : v5 < (A.1 91 4)
    · have h := if_T h hc1
      refine rz_B.ifF (mt (le32 (hw 91 4).1 hv5).mp (Int.not_le.mpr hc1)) ?_
      refine rz_B.go 3 (pc' := 102) (L' := [some (.ref 91), some (vI v1), some (vI v2), some (vI v3), some (vI v4), some (vI v5), none, none]) (S' := [vI v5, .ref 110]) rfl ?_
      obtain ⟨hi2, hj3, h⟩ := rz_gx_inv h
      refine rz_B.iald rfl rfl hi2 hj3 (by decide) ?_
      refine rz_B.go 2 (pc' := if decide (¬ Int32.ofInt (A.1 110 (v5).toNat) = Int32.ofInt v1) = true then 356 else 107) (L' := [some (.ref 91), some (vI v1), some (vI v2), some (vI v3), some (vI v4), some (vI v5), none, none]) (S' := []) rfl ?_
      by_cases hc4 : (A.1 110 (v5).toNat) = v1
      · have h := if_T h hc4
        refine rz_B.ifF (fun hn => hn ((eq32 (hw 110 (v5).toNat).1 hv1).mpr hc4)) ?_
        refine rz_B.go 3 (pc' := 113) (L' := [some (.ref 91), some (vI v1), some (vI v2), some (vI v3), some (vI v4), some (vI v5), none, none]) (S' := [vI v5, .ref 111]) rfl ?_
        refine rz_B.iald rfl rfl hi2 hj3 (by decide) ?_
        refine rz_B.go 2 (pc' := if decide (Int32.ofInt (A.1 111 (v5).toNat) < Int32.ofInt v2) = true then 356 else 118) (L' := [some (.ref 91), some (vI v1), some (vI v2), some (vI v3), some (vI v4), some (vI v5), none, none]) (S' := []) rfl ?_
        by_cases hc5 : v2 ≤ (A.1 111 (v5).toNat)
        · have h := if_T h hc5
          refine rz_B.ifF (mt (lt32 (hw 111 (v5).toNat).1 hv2).mp (Int.not_lt.mpr hc5)) ?_
          refine rz_B.go 3 (pc' := 124) (L' := [some (.ref 91), some (vI v1), some (vI v2), some (vI v3), some (vI v4), some (vI v5), none, none]) (S' := [vI v5, .ref 111]) rfl ?_
          refine rz_B.iald rfl rfl hi2 hj3 (by decide) ?_
          refine rz_B.go 2 (pc' := if decide (Int32.ofInt v3 < Int32.ofInt (A.1 111 (v5).toNat)) = true then 356 else 129) (L' := [some (.ref 91), some (vI v1), some (vI v2), some (vI v3), some (vI v4), some (vI v5), none, none]) (S' := []) rfl ?_
          by_cases hc6 : (A.1 111 (v5).toNat) ≤ v3
          · have h := if_T h hc6
            refine rz_B.ifF (mt (lt32 hv3 (hw 111 (v5).toNat).1).mp (Int.not_lt.mpr hc6)) ?_
            refine rz_B.go 3 (pc' := 134) (L' := [some (.ref 91), some (vI v1), some (vI v2), some (vI v3), some (vI v4), some (vI v5), none, none]) (S' := [vI v4, vI v5, .ref 91]) rfl ?_
            obtain ⟨r7, A7, hf7, h⟩ := rz_b_inv h
            obtain ⟨hg7, hr7, hw7⟩ := cx166_isIn F (d := d + 0) hf7 hv5 hv4 hw
            refine rz_B.call (d := d + 5) (as := [.ref 91, vI v5, vI v4]) (rest := []) (w := some (vI r7)) rfl hg7 ?_
            refine rz_B.go 1 (pc' := if decide (¬ Int32.ofInt r7 = Int32.ofInt 0) = true then 143 else 140) (L' := [some (.ref 91), some (vI v1), some (vI v2), some (vI v3), some (vI v4), some (vI v5), none, none]) (S' := []) rfl ?_
            by_cases hc8 : r7 = 0
            · have h := if_T h hc8
              refine rz_B.ifF (fun hn => hn ((eq32 hr7 (by decide)).mpr hc8)) ?_
              refine rz_B.go 1 (pc' := 356) (L' := [some (.ref 91), some (vI v1), some (vI v2), some (vI v3), some (vI v4), some (vI v5), none, none]) (S' := []) rfl ?_
              obtain ⟨hk9, h⟩ := rz_g32_inv h
              refine rz_B.iinc rfl (by decide) rfl (L' := [some (.ref 91), some (vI v1), some (vI v2), some (vI v3), some (vI v4), some (vI (v5 + 1)), none, none]) rfl ?_
              refine rz_B.go 1 (pc' := 87) (L' := [some (.ref 91), some (vI v1), some (vI v2), some (vI v3), some (vI v4), some (vI (v5 + 1)), none, none]) (S' := []) rfl ?_
              refine rz_B.more (rg_le_ok (L := [some (.ref 91), some (vI v1), some (vI v2), some (vI v3), some (vI v4), some (vI (v5 + 1)), none, none]) (by simp [rg_le])) ?_
              exact ih _ _ _ _ _ _ _ _ h hv1 hv2 hv3 hv4 hk9 hw7
            · have h := if_F h hc8
              refine rz_B.ifT (mt (eq32 hr7 (by decide)).mp hc8) ?_
              refine rz_B.go 3 (pc' := 149) (L' := [some (.ref 91), some (vI v1), some (vI v2), some (vI v3), some (vI v4), some (vI v5), none, none]) (S' := [vI v5, .ref 113]) rfl ?_
              refine rz_B.iald rfl rfl hi2 hj3 (by decide) ?_
              refine rz_B.go 3 (pc' := if decide (Int32.ofInt (A7.1 113 (v5).toNat) ≤ Int32.ofInt (A7.1 91 68)) = true then 168 else 157) (L' := [some (.ref 91), some (vI v1), some (vI v2), some (vI v3), some (vI v4), some (vI v5), none, none]) (S' := []) rfl ?_
              by_cases hc10 : (A7.1 91 68) < (A7.1 113 (v5).toNat)
              · have h := if_T h hc10
                refine rz_B.ifF (mt (le32 (hw7 113 (v5).toNat).1 (hw7 91 68).1).mp (Int.not_le.mpr hc10)) ?_
                refine rz_B.go 4 (pc' := 164) (L' := [some (.ref 91), some (vI v1), some (vI v2), some (vI v3), some (vI v4), some (vI v5), none, none]) (S' := [vI v5, .ref 113, .ref 91]) rfl ?_
                refine rz_B.iald rfl rfl hi2 hj3 (by decide) ?_
                refine rz_B.put 1 (pc' := 168) (L' := [some (.ref 91), some (vI v1), some (vI v2), some (vI v3), some (vI v4), some (vI v5), none, none]) (S' := []) (c := 91) (k := 68) (x := (A7.1 113 (v5).toNat)) rfl ?_
                have hw11 : wf (aI A7 91 68 (A7.1 113 (v5).toNat)) := wf_aI hw7 (hw7 113 (v5).toNat).1
                refine rz_B.go 2 (pc' := 171) (L' := [some (.ref 91), some (vI v1), some (vI v2), some (vI v3), some (vI v4), some (vI v5), some (vI 0), none]) (S' := []) rfl ?_
                refine rz_B.more (rg_le_ok (L := [some (.ref 91), some (vI v1), some (vI v2), some (vI v3), some (vI v4), some (vI v5), some (vI 0), none]) (by simp [rg_le])) ?_
                exact cx182_makes_171 F ih F _ _ _ _ _ _ _ _ _ h hv1 hv2 hv3 hv4 hv5 (by decide) hw11
              · have h := if_F h hc10
                refine rz_B.ifT ((le32 (hw7 113 (v5).toNat).1 (hw7 91 68).1).mpr (Int.not_lt.mp hc10)) ?_
                refine rz_B.go 2 (pc' := 171) (L' := [some (.ref 91), some (vI v1), some (vI v2), some (vI v3), some (vI v4), some (vI v5), some (vI 0), none]) (S' := []) rfl ?_
                refine rz_B.more (rg_le_ok (L := [some (.ref 91), some (vI v1), some (vI v2), some (vI v3), some (vI v4), some (vI v5), some (vI 0), none]) (by simp [rg_le])) ?_
                exact cx182_makes_171 F ih F _ _ _ _ _ _ _ _ _ h hv1 hv2 hv3 hv4 hv5 (by decide) hw7
          · have h := if_F h hc6
            refine rz_B.ifT ((lt32 hv3 (hw 111 (v5).toNat).1).mpr (Int.not_le.mp hc6)) ?_
            obtain ⟨hk12, h⟩ := rz_g32_inv h
            refine rz_B.iinc rfl (by decide) rfl (L' := [some (.ref 91), some (vI v1), some (vI v2), some (vI v3), some (vI v4), some (vI (v5 + 1)), none, none]) rfl ?_
            refine rz_B.go 1 (pc' := 87) (L' := [some (.ref 91), some (vI v1), some (vI v2), some (vI v3), some (vI v4), some (vI (v5 + 1)), none, none]) (S' := []) rfl ?_
            refine rz_B.more (rg_le_ok (L := [some (.ref 91), some (vI v1), some (vI v2), some (vI v3), some (vI v4), some (vI (v5 + 1)), none, none]) (by simp [rg_le])) ?_
            exact ih _ _ _ _ _ _ _ _ h hv1 hv2 hv3 hv4 hk12 hw
        · have h := if_F h hc5
          refine rz_B.ifT ((lt32 (hw 111 (v5).toNat).1 hv2).mpr (Int.not_le.mp hc5)) ?_
          obtain ⟨hk13, h⟩ := rz_g32_inv h
          refine rz_B.iinc rfl (by decide) rfl (L' := [some (.ref 91), some (vI v1), some (vI v2), some (vI v3), some (vI v4), some (vI (v5 + 1)), none, none]) rfl ?_
          refine rz_B.go 1 (pc' := 87) (L' := [some (.ref 91), some (vI v1), some (vI v2), some (vI v3), some (vI v4), some (vI (v5 + 1)), none, none]) (S' := []) rfl ?_
          refine rz_B.more (rg_le_ok (L := [some (.ref 91), some (vI v1), some (vI v2), some (vI v3), some (vI v4), some (vI (v5 + 1)), none, none]) (by simp [rg_le])) ?_
          exact ih _ _ _ _ _ _ _ _ h hv1 hv2 hv3 hv4 hk13 hw
      · have h := if_F h hc4
        refine rz_B.ifT (mt (eq32 (hw 110 (v5).toNat).1 hv1).mp hc4) ?_
        obtain ⟨hk14, h⟩ := rz_g32_inv h
        refine rz_B.iinc rfl (by decide) rfl (L' := [some (.ref 91), some (vI v1), some (vI v2), some (vI v3), some (vI v4), some (vI (v5 + 1)), none, none]) rfl ?_
        refine rz_B.go 1 (pc' := 87) (L' := [some (.ref 91), some (vI v1), some (vI v2), some (vI v3), some (vI v4), some (vI (v5 + 1)), none, none]) (S' := []) rfl ?_
        refine rz_B.more (rg_le_ok (L := [some (.ref 91), some (vI v1), some (vI v2), some (vI v3), some (vI v4), some (vI (v5 + 1)), none, none]) (by simp [rg_le])) ?_
        exact ih _ _ _ _ _ _ _ _ h hv1 hv2 hv3 hv4 hk14 hw
    · have h := if_F h hc1
      refine rz_B.ifT ((le32 (hw 91 4).1 hv5).mpr (Int.not_lt.mp hc1)) ?_
      refine rz_B.go 4 (pc' := 368) (L' := [some (.ref 91), some (vI v1), some (vI v2), some (vI v3), some (vI v4), some (vI 0), some (vI 0), none]) (S' := []) rfl ?_
      refine rz_B.more (rg_le_ok (L := [some (.ref 91), none, none, none, none, some (vI 0), some (vI 0), none]) (by simp [rg_le])) ?_
      exact cx182_makes_368 F F _ _ _ _ _ h (by decide) (by decide) hw
def x182_makes_45 (F : Nat) (v1 : Int) (v2 : Int) (v3 : Int) (v4 : Int) (A : rz_A) : Option (Unit × rz_A) :=
  x182_makes_87 F F v1 v2 v3 v4 0 (aI (aI (aI (aI (aI (aI (aI A 91 62 v1) 91 63 v2) 91 64 v3) 91 65 v4) 91 66 (A.1 91 11)) 91 67 0) 91 68 0)
theorem cx182_makes_45 {d : Nat} (F : Nat) : ∀ (v1 : Int) (v2 : Int) (v3 : Int) (v4 : Int) (A : rz_A) (r : Unit) (A' : rz_A), x182_makes_45 F v1 v2 v3 v4 A = some (r, A') → r32 v1 → r32 v2 → r32 v3 → r32 v4 → wf A → rz_B (d + 6) 182 45 [some (.ref 91), some (vI v1), some (vI v2), some (vI v3), some (vI v4), none, none, none] [] A (none) A' (True) := by
  intro v1 v2 v3 v4 A r A' h hv1 hv2 hv3 hv4 hw
  unfold x182_makes_45 at h
  refine rz_B.put 3 (pc' := 50) (L' := [some (.ref 91), some (vI v1), some (vI v2), some (vI v3), some (vI v4), none, none, none]) (S' := []) (c := 91) (k := 62) (x := v1) rfl ?_
  have hw1 : wf (aI A 91 62 v1) := wf_aI hw hv1
  refine rz_B.put 3 (pc' := 55) (L' := [some (.ref 91), some (vI v1), some (vI v2), some (vI v3), some (vI v4), none, none, none]) (S' := []) (c := 91) (k := 63) (x := v2) rfl ?_
  have hw2 : wf (aI (aI A 91 62 v1) 91 63 v2) := wf_aI hw1 hv2
  refine rz_B.put 3 (pc' := 60) (L' := [some (.ref 91), some (vI v1), some (vI v2), some (vI v3), some (vI v4), none, none, none]) (S' := []) (c := 91) (k := 64) (x := v3) rfl ?_
  have hw3 : wf (aI (aI (aI A 91 62 v1) 91 63 v2) 91 64 v3) := wf_aI hw2 hv3
  refine rz_B.put 3 (pc' := 66) (L' := [some (.ref 91), some (vI v1), some (vI v2), some (vI v3), some (vI v4), none, none, none]) (S' := []) (c := 91) (k := 65) (x := v4) rfl ?_
  have hw4 : wf (aI (aI (aI (aI A 91 62 v1) 91 63 v2) 91 64 v3) 91 65 v4) := wf_aI hw3 hv4
  refine rz_B.put 4 (pc' := 74) (L' := [some (.ref 91), some (vI v1), some (vI v2), some (vI v3), some (vI v4), none, none, none]) (S' := []) (c := 91) (k := 66) (x := (A.1 91 11)) rfl ?_
  have hw5 : wf (aI (aI (aI (aI (aI A 91 62 v1) 91 63 v2) 91 64 v3) 91 65 v4) 91 66 (A.1 91 11)) := wf_aI hw4 (hw 91 11).1
  refine rz_B.put 3 (pc' := 79) (L' := [some (.ref 91), some (vI v1), some (vI v2), some (vI v3), some (vI v4), none, none, none]) (S' := []) (c := 91) (k := 67) (x := 0) rfl ?_
  have hw6 : wf (aI (aI (aI (aI (aI (aI A 91 62 v1) 91 63 v2) 91 64 v3) 91 65 v4) 91 66 (A.1 91 11)) 91 67 0) := wf_aI hw5 (by decide)
  refine rz_B.put 3 (pc' := 84) (L' := [some (.ref 91), some (vI v1), some (vI v2), some (vI v3), some (vI v4), none, none, none]) (S' := []) (c := 91) (k := 68) (x := 0) rfl ?_
  have hw7 : wf (aI (aI (aI (aI (aI (aI (aI A 91 62 v1) 91 63 v2) 91 64 v3) 91 65 v4) 91 66 (A.1 91 11)) 91 67 0) 91 68 0) := wf_aI hw6 (by decide)
  refine rz_B.go 2 (pc' := 87) (L' := [some (.ref 91), some (vI v1), some (vI v2), some (vI v3), some (vI v4), some (vI 0), none, none]) (S' := []) rfl ?_
  refine rz_B.more (rg_le_ok (L := [some (.ref 91), some (vI v1), some (vI v2), some (vI v3), some (vI v4), some (vI 0), none, none]) (by simp [rg_le])) ?_
  exact cx182_makes_87 F F _ _ _ _ _ _ _ _ h hv1 hv2 hv3 hv4 (by decide) hw7
/-- RiverGaugeModel.makes(IIII)V -/
def x182_makes (F : Nat) (a0 : Int) (a1 : Int) (a2 : Int) (a3 : Int) (A : rz_A) : Option (Unit × rz_A) :=
  if (A.1 91 62) = a0 then
    if (A.1 91 63) = a1 then
      if (A.1 91 64) = a2 then
        if (A.1 91 65) = a3 then
          if (A.1 91 66) = (A.1 91 11) then
            some ((), A)
          else
            x182_makes_45 F a0 a1 a2 a3 A
        else
          x182_makes_45 F a0 a1 a2 a3 A
      else
        x182_makes_45 F a0 a1 a2 a3 A
    else
      x182_makes_45 F a0 a1 a2 a3 A
  else
    x182_makes_45 F a0 a1 a2 a3 A
theorem cx182_makes (F : Nat) {d : Nat} {a0 : Int} {a1 : Int} {a2 : Int} {a3 : Int} {A : rz_A} {r : Unit} {A' : rz_A} (h : x182_makes F a0 a1 a2 a3 A = some (r, A')) (ha0 : r32 a0) (ha1 : r32 a1) (ha2 : r32 a2) (ha3 : r32 a3) (hw : wf A) : rg_Rn (d + 6) 182 [.ref 91, vI a0, vI a1, vI a2, vI a3] (toM A) (none) (toM A') ∧ (True) ∧ wf A' := by
  show rz_B (d + 6) 182 0 [some (.ref 91), some (vI a0), some (vI a1), some (vI a2), some (vI a3), none, none, none] [] A (none) A' (True)
  unfold x182_makes at h
  refine rz_B.go 4 (pc' := if decide (¬ Int32.ofInt (A.1 91 62) = Int32.ofInt a0) = true then 45 else 8) (L' := [some (.ref 91), some (vI a0), some (vI a1), some (vI a2), some (vI a3), none, none, none]) (S' := []) rfl ?_
  by_cases hc1 : (A.1 91 62) = a0
  · have h := if_T h hc1
    refine rz_B.ifF (fun hn => hn ((eq32 (hw 91 62).1 ha0).mpr hc1)) ?_
    refine rz_B.go 4 (pc' := if decide (¬ Int32.ofInt (A.1 91 63) = Int32.ofInt a1) = true then 45 else 16) (L' := [some (.ref 91), some (vI a0), some (vI a1), some (vI a2), some (vI a3), none, none, none]) (S' := []) rfl ?_
    by_cases hc2 : (A.1 91 63) = a1
    · have h := if_T h hc2
      refine rz_B.ifF (fun hn => hn ((eq32 (hw 91 63).1 ha1).mpr hc2)) ?_
      refine rz_B.go 4 (pc' := if decide (¬ Int32.ofInt (A.1 91 64) = Int32.ofInt a2) = true then 45 else 24) (L' := [some (.ref 91), some (vI a0), some (vI a1), some (vI a2), some (vI a3), none, none, none]) (S' := []) rfl ?_
      by_cases hc3 : (A.1 91 64) = a2
      · have h := if_T h hc3
        refine rz_B.ifF (fun hn => hn ((eq32 (hw 91 64).1 ha2).mpr hc3)) ?_
        refine rz_B.go 4 (pc' := if decide (¬ Int32.ofInt (A.1 91 65) = Int32.ofInt a3) = true then 45 else 33) (L' := [some (.ref 91), some (vI a0), some (vI a1), some (vI a2), some (vI a3), none, none, none]) (S' := []) rfl ?_
        by_cases hc4 : (A.1 91 65) = a3
        · have h := if_T h hc4
          refine rz_B.ifF (fun hn => hn ((eq32 (hw 91 65).1 ha3).mpr hc4)) ?_
          refine rz_B.go 5 (pc' := if decide (¬ Int32.ofInt (A.1 91 66) = Int32.ofInt (A.1 91 11)) = true then 45 else 44) (L' := [some (.ref 91), some (vI a0), some (vI a1), some (vI a2), some (vI a3), none, none, none]) (S' := []) rfl ?_
          by_cases hc5 : (A.1 91 66) = (A.1 91 11)
          · have h := if_T h hc5
            refine rz_B.ifF (fun hn => hn ((eq32 (hw 91 66).1 (hw 91 11).1).mpr hc5)) ?_
            cases h
            exact rz_B.ret rfl trivial hw
          · have h := if_F h hc5
            refine rz_B.ifT (mt (eq32 (hw 91 66).1 (hw 91 11).1).mp hc5) ?_
            refine rz_B.more (rg_le_ok (L := [some (.ref 91), some (vI a0), some (vI a1), some (vI a2), some (vI a3), none, none, none]) (by simp [rg_le])) ?_
            exact cx182_makes_45 F _ _ _ _ _ _ _ h ha0 ha1 ha2 ha3 hw
        · have h := if_F h hc4
          refine rz_B.ifT (mt (eq32 (hw 91 65).1 ha3).mp hc4) ?_
          refine rz_B.more (rg_le_ok (L := [some (.ref 91), some (vI a0), some (vI a1), some (vI a2), some (vI a3), none, none, none]) (by simp [rg_le])) ?_
          exact cx182_makes_45 F _ _ _ _ _ _ _ h ha0 ha1 ha2 ha3 hw
      · have h := if_F h hc3
        refine rz_B.ifT (mt (eq32 (hw 91 64).1 ha2).mp hc3) ?_
        refine rz_B.more (rg_le_ok (L := [some (.ref 91), some (vI a0), some (vI a1), some (vI a2), some (vI a3), none, none, none]) (by simp [rg_le])) ?_
        exact cx182_makes_45 F _ _ _ _ _ _ _ h ha0 ha1 ha2 ha3 hw
    · have h := if_F h hc2
      refine rz_B.ifT (mt (eq32 (hw 91 63).1 ha1).mp hc2) ?_
      refine rz_B.more (rg_le_ok (L := [some (.ref 91), some (vI a0), some (vI a1), some (vI a2), some (vI a3), none, none, none]) (by simp [rg_le])) ?_
      exact cx182_makes_45 F _ _ _ _ _ _ _ h ha0 ha1 ha2 ha3 hw
  · have h := if_F h hc1
    refine rz_B.ifT (mt (eq32 (hw 91 62).1 ha0).mp hc1) ?_
    refine rz_B.more (rg_le_ok (L := [some (.ref 91), some (vI a0), some (vI a1), some (vI a2), some (vI a3), none, none, none]) (by simp [rg_le])) ?_
    exact cx182_makes_45 F _ _ _ _ _ _ _ h ha0 ha1 ha2 ha3 hw
