set_option maxRecDepth 16384
/-- RiverGauge.heightAt(III)I -/
def x31_heightAt (F : Nat) (a0 : Int) (a1 : Int) (a2 : Int) (A : rz_A) : Option (Int × rz_A) :=
  rz_b (x9_whyNotAt F a0 a1 a2 A) fun r1 A1 =>
  if r1 = 0 then
    rz_b (x20_see F a2 A1) fun _ A3 =>
    rz_b (x32_find F a0 a1 A3) fun r4 A4 =>
    if r4 < 0 then
      rz_b (x10_refuseAsTold F (-5) A4) fun r6 A6 =>
      some (r6, A6)
    else
      rz_gx r4 300 <|
      some ((A4.1 54 (r4).toNat), A4)
  else
    rz_b (x10_refuseAsTold F r1 A1) fun r9 A9 =>
    some (r9, A9)
theorem cx31_heightAt (F : Nat) {d : Nat} {a0 : Int} {a1 : Int} {a2 : Int} {A : rz_A} {r : Int} {A' : rz_A} (h : x31_heightAt F a0 a1 a2 A = some (r, A')) (ha0 : r32 a0) (ha1 : r32 a1) (ha2 : r32 a2) (hw : wf A) : rg_Rn (d + 6) 31 [.ref 0, vI a0, vI a1, vI a2] (toM A) (some (vI r)) (toM A') ∧ (r32 r) ∧ wf A' := by
  show rz_B (d + 6) 31 0 [some (.ref 0), some (vI a0), some (vI a1), some (vI a2), none, none] [] A (some (vI r)) A' (r32 r)
  unfold x31_heightAt at h
  refine rz_B.go 4 (pc' := 4) (L' := [some (.ref 0), some (vI a0), some (vI a1), some (vI a2), none, none]) (S' := [vI a2, vI a1, vI a0, .ref 0]) rfl ?_
  obtain ⟨r1, A1, hf1, h⟩ := rz_b_inv h
  obtain ⟨hg1, hr1, hw1⟩ := cx9_whyNotAt F (d := d + 4) hf1 ha0 ha1 ha2 hw
  refine rz_B.call (d := d + 5) (as := [.ref 0, vI a0, vI a1, vI a2]) (rest := []) (w := some (vI r1)) rfl hg1 ?_
  refine rz_B.go 3 (pc' := if decide (Int32.ofInt r1 = Int32.ofInt 0) = true then 21 else 14) (L' := [some (.ref 0), some (vI a0), some (vI a1), some (vI a2), some (vI r1), none]) (S' := []) rfl ?_
  by_cases hc2 : r1 = 0
  · have h := if_T h hc2
    refine rz_B.ifT ((eq32 hr1 (by decide)).mpr hc2) ?_
    refine rz_B.go 3 (pc' := 26) (L' := [some (.ref 0), some (vI a0), some (vI a1), some (vI a2), some (vI r1), none]) (S' := [vI a2, .ref 51]) rfl ?_
    obtain ⟨_, A3, hf3, h⟩ := rz_b_inv h
    obtain ⟨hg3, hr3, hw3⟩ := cx20_see F (d := d + 0) hf3 ha2 hw1
    refine rz_B.call (d := d + 5) (as := [.ref 51, vI a2]) (rest := []) (w := none) rfl hg3 ?_
    refine rz_B.go 4 (pc' := 35) (L' := [some (.ref 0), some (vI a0), some (vI a1), some (vI a2), some (vI r1), none]) (S' := [vI a1, vI a0, .ref 51]) rfl ?_
    obtain ⟨r4, A4, hf4, h⟩ := rz_b_inv h
    obtain ⟨hg4, hr4, hw4⟩ := cx32_find F (d := d + 4) hf4 ha0 ha1 hw3
    refine rz_B.call (d := d + 5) (as := [.ref 51, vI a0, vI a1]) (rest := []) (w := some (vI r4)) rfl hg4 ?_
    refine rz_B.go 3 (pc' := if decide (Int32.ofInt 0 ≤ Int32.ofInt r4) = true then 52 else 45) (L' := [some (.ref 0), some (vI a0), some (vI a1), some (vI a2), some (vI r1), some (vI r4)]) (S' := []) rfl ?_
    by_cases hc5 : r4 < 0
    · have h := if_T h hc5
      refine rz_B.ifF (mt (le32 (by decide) hr4).mp (Int.not_le.mpr hc5)) ?_
      refine rz_B.go 2 (pc' := 48) (L' := [some (.ref 0), some (vI a0), some (vI a1), some (vI a2), some (vI r1), some (vI r4)]) (S' := [vI (-5), .ref 0]) rfl ?_
      obtain ⟨r6, A6, hf6, h⟩ := rz_b_inv h
      obtain ⟨hg6, hr6, hw6⟩ := cx10_refuseAsTold F (d := d + 4) hf6 (by decide) hw4
      refine rz_B.call (d := d + 5) (as := [.ref 0, vI (-5)]) (rest := []) (w := some (vI r6)) rfl hg6 ?_
      cases h
      exact rz_B.ret rfl hr6 hw6
    · have h := if_F h hc5
      refine rz_B.ifT ((le32 (by decide) hr4).mpr (Int.not_lt.mp hc5)) ?_
      refine rz_B.go 4 (pc' := 61) (L' := [some (.ref 0), some (vI a0), some (vI a1), some (vI a2), some (vI r1), some (vI r4)]) (S' := [vI r4, .ref 54]) rfl ?_
      obtain ⟨hi7, hj8, h⟩ := rz_gx_inv h
      refine rz_B.iald rfl rfl hi7 hj8 (by decide) ?_
      cases h
      exact rz_B.ret rfl (hw4 54 (r4).toNat).1 hw4
  · have h := if_F h hc2
    refine rz_B.ifF (mt (eq32 hr1 (by decide)).mp hc2) ?_
    refine rz_B.go 2 (pc' := 17) (L' := [some (.ref 0), some (vI a0), some (vI a1), some (vI a2), some (vI r1), none]) (S' := [vI r1, .ref 0]) rfl ?_
    obtain ⟨r9, A9, hf9, h⟩ := rz_b_inv h
    obtain ⟨hg9, hr9, hw9⟩ := cx10_refuseAsTold F (d := d + 4) hf9 hr1 hw1
    refine rz_B.call (d := d + 5) (as := [.ref 0, vI r1]) (rest := []) (w := some (vI r9)) rfl hg9 ?_
    cases h
    exact rz_B.ret rfl hr9 hw9
/-- RiverGauge$Flows.come(IIIII)I -/
def x35_come (F : Nat) (a0 : Int) (a1 : Int) (a2 : Int) (a3 : Int) (a4 : Int) (A : rz_A) : Option (Int × rz_A) :=
  rz_gx (A.1 26 0) 60 <|
  rz_g32 ((A.1 26 0) + 1) <|
  rz_g32 (((A.1 26 0) + 1) - 1) <|
  some ((((A.1 26 0) + 1) - 1), (aI (aI (aI (aI (aI (aI (aI A 27 ((A.1 26 0)).toNat a0) 28 ((A.1 26 0)).toNat a1) 29 ((A.1 26 0)).toNat a2) 30 ((A.1 26 0)).toNat a3) 31 ((A.1 26 0)).toNat a4) 32 ((A.1 26 0)).toNat 2147483647) 26 0 ((A.1 26 0) + 1)))
theorem cx35_come (F : Nat) {d : Nat} {a0 : Int} {a1 : Int} {a2 : Int} {a3 : Int} {a4 : Int} {A : rz_A} {r : Int} {A' : rz_A} (h : x35_come F a0 a1 a2 a3 a4 A = some (r, A')) (ha0 : r32 a0) (ha1 : r32 a1) (ha2 : r32 a2) (ha3 : r32 a3) (ha4 : r32 a4) (hw : wf A) : rg_Rn (d + 0) 35 [.ref 26, vI a0, vI a1, vI a2, vI a3, vI a4] (toM A) (some (vI r)) (toM A') ∧ (r32 r) ∧ wf A' := by
  show rz_B (d + 0) 35 0 [some (.ref 26), some (vI a0), some (vI a1), some (vI a2), some (vI a3), some (vI a4)] [] A (some (vI r)) A' (r32 r)
  unfold x35_come at h
  refine rz_B.go 5 (pc' := 9) (L' := [some (.ref 26), some (vI a0), some (vI a1), some (vI a2), some (vI a3), some (vI a4)]) (S' := [vI a0, vI (A.1 26 0), .ref 27]) rfl ?_
  obtain ⟨hi1, hj2, h⟩ := rz_gx_inv h
  refine rz_B.iast rfl rfl hi1 hj2 (by decide) ?_
  have hw3 : wf (aI A 27 ((A.1 26 0)).toNat a0) := wf_aI hw ha0
  refine rz_B.go 5 (pc' := 19) (L' := [some (.ref 26), some (vI a0), some (vI a1), some (vI a2), some (vI a3), some (vI a4)]) (S' := [vI a1, vI (A.1 26 0), .ref 28]) rfl ?_
  refine rz_B.iast rfl rfl hi1 hj2 (by decide) ?_
  have hw4 : wf (aI (aI A 27 ((A.1 26 0)).toNat a0) 28 ((A.1 26 0)).toNat a1) := wf_aI hw3 ha1
  refine rz_B.go 5 (pc' := 29) (L' := [some (.ref 26), some (vI a0), some (vI a1), some (vI a2), some (vI a3), some (vI a4)]) (S' := [vI a2, vI (A.1 26 0), .ref 29]) rfl ?_
  refine rz_B.iast rfl rfl hi1 hj2 (by decide) ?_
  have hw5 : wf (aI (aI (aI A 27 ((A.1 26 0)).toNat a0) 28 ((A.1 26 0)).toNat a1) 29 ((A.1 26 0)).toNat a2) := wf_aI hw4 ha2
  refine rz_B.go 5 (pc' := 40) (L' := [some (.ref 26), some (vI a0), some (vI a1), some (vI a2), some (vI a3), some (vI a4)]) (S' := [vI a3, vI (A.1 26 0), .ref 30]) rfl ?_
  refine rz_B.iast rfl rfl hi1 hj2 (by decide) ?_
  have hw6 : wf (aI (aI (aI (aI A 27 ((A.1 26 0)).toNat a0) 28 ((A.1 26 0)).toNat a1) 29 ((A.1 26 0)).toNat a2) 30 ((A.1 26 0)).toNat a3) := wf_aI hw5 ha3
  refine rz_B.go 5 (pc' := 51) (L' := [some (.ref 26), some (vI a0), some (vI a1), some (vI a2), some (vI a3), some (vI a4)]) (S' := [vI a4, vI (A.1 26 0), .ref 31]) rfl ?_
  refine rz_B.iast rfl rfl hi1 hj2 (by decide) ?_
  have hw7 : wf (aI (aI (aI (aI (aI A 27 ((A.1 26 0)).toNat a0) 28 ((A.1 26 0)).toNat a1) 29 ((A.1 26 0)).toNat a2) 30 ((A.1 26 0)).toNat a3) 31 ((A.1 26 0)).toNat a4) := wf_aI hw6 ha4
  refine rz_B.go 5 (pc' := 62) (L' := [some (.ref 26), some (vI a0), some (vI a1), some (vI a2), some (vI a3), some (vI a4)]) (S' := [vI 2147483647, vI (A.1 26 0), .ref 32]) rfl ?_
  refine rz_B.iast rfl rfl hi1 hj2 (by decide) ?_
  have hw8 : wf (aI (aI (aI (aI (aI (aI A 27 ((A.1 26 0)).toNat a0) 28 ((A.1 26 0)).toNat a1) 29 ((A.1 26 0)).toNat a2) 30 ((A.1 26 0)).toNat a3) 31 ((A.1 26 0)).toNat a4) 32 ((A.1 26 0)).toNat 2147483647) := wf_aI hw7 (by decide)
  refine rz_B.go 4 (pc' := 69) (L' := [some (.ref 26), some (vI a0), some (vI a1), some (vI a2), some (vI a3), some (vI a4)]) (S' := [vI 1, vI (A.1 26 0), .ref 26]) rfl ?_
  obtain ⟨hk9, h⟩ := rz_g32_inv h
  refine rz_B.iadd rfl ?_
  refine rz_B.put 1 (pc' := 73) (L' := [some (.ref 26), some (vI a0), some (vI a1), some (vI a2), some (vI a3), some (vI a4)]) (S' := []) (c := 26) (k := 0) (x := ((A.1 26 0) + 1)) rfl ?_
  have hw10 : wf (aI (aI (aI (aI (aI (aI (aI A 27 ((A.1 26 0)).toNat a0) 28 ((A.1 26 0)).toNat a1) 29 ((A.1 26 0)).toNat a2) 30 ((A.1 26 0)).toNat a3) 31 ((A.1 26 0)).toNat a4) 32 ((A.1 26 0)).toNat 2147483647) 26 0 ((A.1 26 0) + 1)) := wf_aI hw8 hk9
  refine rz_B.go 3 (pc' := 78) (L' := [some (.ref 26), some (vI a0), some (vI a1), some (vI a2), some (vI a3), some (vI a4)]) (S' := [vI 1, vI ((A.1 26 0) + 1)]) rfl ?_
  obtain ⟨hk11, h⟩ := rz_g32_inv h
  refine rz_B.isub rfl ?_
  cases h
  exact rz_B.ret rfl hk11 hw10
/-- RiverGauge.measure(IIII)I -/
def x34_measure (F : Nat) (a0 : Int) (a1 : Int) (a2 : Int) (a3 : Int) (A : rz_A) : Option (Int × rz_A) :=
  rz_b (x5_has F a0 A) fun r1 A1 =>
  if r1 = 0 then
    rz_b (x1_refuse F (-1) A1) fun r3 A3 =>
    some (r3, A3)
  else
    if 0 ≤ a1 then
      if 0 ≤ a2 then
        if a3 < 0 then
          rz_b (x1_refuse F (-4) A1) fun r7 A7 =>
          some (r7, A7)
        else
          if a1 ≤ (A1.1 0 16) then
            if a2 ≤ 99999 then
              if 99 < a3 then
                rz_b (x1_refuse F (-6) A1) fun r11 A11 =>
                some (r11, A11)
              else
                if 60 ≤ (A1.1 26 0) then
                  rz_b (x1_refuse F (-6) A1) fun r13 A13 =>
                  some (r13, A13)
                else
                  rz_b (x6_forget F A1) fun _ A14 =>
                  rz_b (x35_come F a0 a1 a2 a3 (A14.1 0 16) A14) fun r15 A15 =>
                  some (r15, A15)
            else
              rz_b (x1_refuse F (-6) A1) fun r16 A16 =>
              some (r16, A16)
          else
            rz_b (x1_refuse F (-6) A1) fun r17 A17 =>
            some (r17, A17)
      else
        rz_b (x1_refuse F (-4) A1) fun r18 A18 =>
        some (r18, A18)
    else
      rz_b (x1_refuse F (-4) A1) fun r19 A19 =>
      some (r19, A19)
theorem cx34_measure (F : Nat) {d : Nat} {a0 : Int} {a1 : Int} {a2 : Int} {a3 : Int} {A : rz_A} {r : Int} {A' : rz_A} (h : x34_measure F a0 a1 a2 a3 A = some (r, A')) (ha0 : r32 a0) (ha1 : r32 a1) (ha2 : r32 a2) (ha3 : r32 a3) (hw : wf A) : rg_Rn (d + 1) 34 [.ref 0, vI a0, vI a1, vI a2, vI a3] (toM A) (some (vI r)) (toM A') ∧ (r32 r) ∧ wf A' := by
  show rz_B (d + 1) 34 0 [some (.ref 0), some (vI a0), some (vI a1), some (vI a2), some (vI a3)] [] A (some (vI r)) A' (r32 r)
  unfold x34_measure at h
  refine rz_B.go 3 (pc' := 5) (L' := [some (.ref 0), some (vI a0), some (vI a1), some (vI a2), some (vI a3)]) (S' := [vI a0, .ref 2]) rfl ?_
  obtain ⟨r1, A1, hf1, h⟩ := rz_b_inv h
  obtain ⟨hg1, hr1, hw1⟩ := cx5_has F (d := d + 0) hf1 ha0 hw
  refine rz_B.call (d := d + 0) (as := [.ref 2, vI a0]) (rest := []) (w := some (vI r1)) rfl hg1 ?_
  refine rz_B.go 1 (pc' := if decide (¬ Int32.ofInt r1 = Int32.ofInt 0) = true then 17 else 11) (L' := [some (.ref 0), some (vI a0), some (vI a1), some (vI a2), some (vI a3)]) (S' := []) rfl ?_
  by_cases hc2 : r1 = 0
  · have h := if_T h hc2
    refine rz_B.ifF (fun hn => hn ((eq32 hr1 (by decide)).mpr hc2)) ?_
    refine rz_B.go 2 (pc' := 13) (L' := [some (.ref 0), some (vI a0), some (vI a1), some (vI a2), some (vI a3)]) (S' := [vI (-1), .ref 0]) rfl ?_
    obtain ⟨r3, A3, hf3, h⟩ := rz_b_inv h
    obtain ⟨hg3, hr3, hw3⟩ := cx1_refuse F (d := d + 0) hf3 (by decide) hw1
    refine rz_B.call (d := d + 0) (as := [.ref 0, vI (-1)]) (rest := []) (w := some (vI r3)) rfl hg3 ?_
    cases h
    exact rz_B.ret rfl hr3 hw3
  · have h := if_F h hc2
    refine rz_B.ifT (mt (eq32 hr1 (by decide)).mp hc2) ?_
    refine rz_B.go 2 (pc' := if decide (Int32.ofInt a1 < Int32.ofInt 0) = true then 30 else 21) (L' := [some (.ref 0), some (vI a0), some (vI a1), some (vI a2), some (vI a3)]) (S' := []) rfl ?_
    by_cases hc4 : 0 ≤ a1
    · have h := if_T h hc4
      refine rz_B.ifF (mt (lt32 ha1 (by decide)).mp (Int.not_lt.mpr hc4)) ?_
      refine rz_B.go 2 (pc' := if decide (Int32.ofInt a2 < Int32.ofInt 0) = true then 30 else 25) (L' := [some (.ref 0), some (vI a0), some (vI a1), some (vI a2), some (vI a3)]) (S' := []) rfl ?_
      by_cases hc5 : 0 ≤ a2
      · have h := if_T h hc5
        refine rz_B.ifF (mt (lt32 ha2 (by decide)).mp (Int.not_lt.mpr hc5)) ?_
        refine rz_B.go 2 (pc' := if decide (Int32.ofInt 0 ≤ Int32.ofInt a3) = true then 37 else 30) (L' := [some (.ref 0), some (vI a0), some (vI a1), some (vI a2), some (vI a3)]) (S' := []) rfl ?_
        by_cases hc6 : a3 < 0
        · have h := if_T h hc6
          refine rz_B.ifF (mt (le32 (by decide) ha3).mp (Int.not_le.mpr hc6)) ?_
          refine rz_B.go 2 (pc' := 33) (L' := [some (.ref 0), some (vI a0), some (vI a1), some (vI a2), some (vI a3)]) (S' := [vI (-4), .ref 0]) rfl ?_
          obtain ⟨r7, A7, hf7, h⟩ := rz_b_inv h
          obtain ⟨hg7, hr7, hw7⟩ := cx1_refuse F (d := d + 0) hf7 (by decide) hw1
          refine rz_B.call (d := d + 0) (as := [.ref 0, vI (-4)]) (rest := []) (w := some (vI r7)) rfl hg7 ?_
          cases h
          exact rz_B.ret rfl hr7 hw7
        · have h := if_F h hc6
          refine rz_B.ifT ((le32 (by decide) ha3).mpr (Int.not_lt.mp hc6)) ?_
          refine rz_B.go 4 (pc' := if decide (Int32.ofInt (A1.1 0 16) < Int32.ofInt a1) = true then 58 else 45) (L' := [some (.ref 0), some (vI a0), some (vI a1), some (vI a2), some (vI a3)]) (S' := []) rfl ?_
          by_cases hc8 : a1 ≤ (A1.1 0 16)
          · have h := if_T h hc8
            refine rz_B.ifF (mt (lt32 (hw1 0 16).1 ha1).mp (Int.not_lt.mpr hc8)) ?_
            refine rz_B.go 3 (pc' := if decide (Int32.ofInt 99999 < Int32.ofInt a2) = true then 58 else 51) (L' := [some (.ref 0), some (vI a0), some (vI a1), some (vI a2), some (vI a3)]) (S' := []) rfl ?_
            by_cases hc9 : a2 ≤ 99999
            · have h := if_T h hc9
              refine rz_B.ifF (mt (lt32 (by decide) ha2).mp (Int.not_lt.mpr hc9)) ?_
              refine rz_B.go 3 (pc' := if decide (Int32.ofInt a3 ≤ Int32.ofInt 99) = true then 65 else 58) (L' := [some (.ref 0), some (vI a0), some (vI a1), some (vI a2), some (vI a3)]) (S' := []) rfl ?_
              by_cases hc10 : 99 < a3
              · have h := if_T h hc10
                refine rz_B.ifF (mt (le32 ha3 (by decide)).mp (Int.not_le.mpr hc10)) ?_
                refine rz_B.go 2 (pc' := 61) (L' := [some (.ref 0), some (vI a0), some (vI a1), some (vI a2), some (vI a3)]) (S' := [vI (-6), .ref 0]) rfl ?_
                obtain ⟨r11, A11, hf11, h⟩ := rz_b_inv h
                obtain ⟨hg11, hr11, hw11⟩ := cx1_refuse F (d := d + 0) hf11 (by decide) hw1
                refine rz_B.call (d := d + 0) (as := [.ref 0, vI (-6)]) (rest := []) (w := some (vI r11)) rfl hg11 ?_
                cases h
                exact rz_B.ret rfl hr11 hw11
              · have h := if_F h hc10
                refine rz_B.ifT ((le32 ha3 (by decide)).mpr (Int.not_lt.mp hc10)) ?_
                refine rz_B.go 5 (pc' := if decide (Int32.ofInt (A1.1 26 0) < Int32.ofInt 60) = true then 84 else 77) (L' := [some (.ref 0), some (vI a0), some (vI a1), some (vI a2), some (vI a3)]) (S' := []) rfl ?_
                by_cases hc12 : 60 ≤ (A1.1 26 0)
                · have h := if_T h hc12
                  refine rz_B.ifF (mt (lt32 (hw1 26 0).1 (by decide)).mp (Int.not_lt.mpr hc12)) ?_
                  refine rz_B.go 2 (pc' := 80) (L' := [some (.ref 0), some (vI a0), some (vI a1), some (vI a2), some (vI a3)]) (S' := [vI (-6), .ref 0]) rfl ?_
                  obtain ⟨r13, A13, hf13, h⟩ := rz_b_inv h
                  obtain ⟨hg13, hr13, hw13⟩ := cx1_refuse F (d := d + 0) hf13 (by decide) hw1
                  refine rz_B.call (d := d + 0) (as := [.ref 0, vI (-6)]) (rest := []) (w := some (vI r13)) rfl hg13 ?_
                  cases h
                  exact rz_B.ret rfl hr13 hw13
                · have h := if_F h hc12
                  refine rz_B.ifT ((lt32 (hw1 26 0).1 (by decide)).mpr (Int.not_le.mp hc12)) ?_
                  refine rz_B.go 2 (pc' := 88) (L' := [some (.ref 0), some (vI a0), some (vI a1), some (vI a2), some (vI a3)]) (S' := [.ref 51]) rfl ?_
                  obtain ⟨_, A14, hf14, h⟩ := rz_b_inv h
                  obtain ⟨hg14, hr14, hw14⟩ := cx6_forget F (d := d + 0) hf14 hw1
                  refine rz_B.call (d := d + 0) (as := [.ref 51]) (rest := []) (w := none) rfl hg14 ?_
                  refine rz_B.go 8 (pc' := 104) (L' := [some (.ref 0), some (vI a0), some (vI a1), some (vI a2), some (vI a3)]) (S' := [vI (A14.1 0 16), vI a3, vI a2, vI a1, vI a0, .ref 26]) rfl ?_
                  obtain ⟨r15, A15, hf15, h⟩ := rz_b_inv h
                  obtain ⟨hg15, hr15, hw15⟩ := cx35_come F (d := d + 0) hf15 ha0 ha1 ha2 ha3 (hw14 0 16).1 hw14
                  refine rz_B.call (d := d + 0) (as := [.ref 26, vI a0, vI a1, vI a2, vI a3, vI (A14.1 0 16)]) (rest := []) (w := some (vI r15)) rfl hg15 ?_
                  cases h
                  exact rz_B.ret rfl hr15 hw15
            · have h := if_F h hc9
              refine rz_B.ifT ((lt32 (by decide) ha2).mpr (Int.not_le.mp hc9)) ?_
              refine rz_B.go 2 (pc' := 61) (L' := [some (.ref 0), some (vI a0), some (vI a1), some (vI a2), some (vI a3)]) (S' := [vI (-6), .ref 0]) rfl ?_
              obtain ⟨r16, A16, hf16, h⟩ := rz_b_inv h
              obtain ⟨hg16, hr16, hw16⟩ := cx1_refuse F (d := d + 0) hf16 (by decide) hw1
              refine rz_B.call (d := d + 0) (as := [.ref 0, vI (-6)]) (rest := []) (w := some (vI r16)) rfl hg16 ?_
              cases h
              exact rz_B.ret rfl hr16 hw16
          · have h := if_F h hc8
            refine rz_B.ifT ((lt32 (hw1 0 16).1 ha1).mpr (Int.not_le.mp hc8)) ?_
            refine rz_B.go 2 (pc' := 61) (L' := [some (.ref 0), some (vI a0), some (vI a1), some (vI a2), some (vI a3)]) (S' := [vI (-6), .ref 0]) rfl ?_
            obtain ⟨r17, A17, hf17, h⟩ := rz_b_inv h
            obtain ⟨hg17, hr17, hw17⟩ := cx1_refuse F (d := d + 0) hf17 (by decide) hw1
            refine rz_B.call (d := d + 0) (as := [.ref 0, vI (-6)]) (rest := []) (w := some (vI r17)) rfl hg17 ?_
            cases h
            exact rz_B.ret rfl hr17 hw17
      · have h := if_F h hc5
        refine rz_B.ifT ((lt32 ha2 (by decide)).mpr (Int.not_le.mp hc5)) ?_
        refine rz_B.go 2 (pc' := 33) (L' := [some (.ref 0), some (vI a0), some (vI a1), some (vI a2), some (vI a3)]) (S' := [vI (-4), .ref 0]) rfl ?_
        obtain ⟨r18, A18, hf18, h⟩ := rz_b_inv h
        obtain ⟨hg18, hr18, hw18⟩ := cx1_refuse F (d := d + 0) hf18 (by decide) hw1
        refine rz_B.call (d := d + 0) (as := [.ref 0, vI (-4)]) (rest := []) (w := some (vI r18)) rfl hg18 ?_
        cases h
        exact rz_B.ret rfl hr18 hw18
    · have h := if_F h hc4
      refine rz_B.ifT ((lt32 ha1 (by decide)).mpr (Int.not_le.mp hc4)) ?_
      refine rz_B.go 2 (pc' := 33) (L' := [some (.ref 0), some (vI a0), some (vI a1), some (vI a2), some (vI a3)]) (S' := [vI (-4), .ref 0]) rfl ?_
      obtain ⟨r19, A19, hf19, h⟩ := rz_b_inv h
      obtain ⟨hg19, hr19, hw19⟩ := cx1_refuse F (d := d + 0) hf19 (by decide) hw1
      refine rz_B.call (d := d + 0) (as := [.ref 0, vI (-4)]) (rest := []) (w := some (vI r19)) rfl hg19 ?_
      cases h
      exact rz_B.ret rfl hr19 hw19
/-- RiverGauge$Flows.has(I)Z -/
def x37_has (F : Nat) (a0 : Int) (A : rz_A) : Option (Int × rz_A) :=
  if 0 ≤ a0 then
    if a0 < (A.1 26 0) then
      some (1, A)
    else
      some (0, A)
  else
    some (0, A)
theorem cx37_has (F : Nat) {d : Nat} {a0 : Int} {A : rz_A} {r : Int} {A' : rz_A} (h : x37_has F a0 A = some (r, A')) (ha0 : r32 a0) (hw : wf A) : rg_Rn (d + 0) 37 [.ref 26, vI a0] (toM A) (some (vI r)) (toM A') ∧ (r32 r) ∧ wf A' := by
  show rz_B (d + 0) 37 0 [some (.ref 26), some (vI a0)] [] A (some (vI r)) A' (r32 r)
  unfold x37_has at h
  refine rz_B.go 2 (pc' := if decide (Int32.ofInt a0 < Int32.ofInt 0) = true then 16 else 4) (L' := [some (.ref 26), some (vI a0)]) (S' := []) rfl ?_
  by_cases hc1 : 0 ≤ a0
  · have h := if_T h hc1
    refine rz_B.ifF (mt (lt32 ha0 (by decide)).mp (Int.not_lt.mpr hc1)) ?_
    refine rz_B.go 4 (pc' := if decide (Int32.ofInt (A.1 26 0) ≤ Int32.ofInt a0) = true then 16 else 12) (L' := [some (.ref 26), some (vI a0)]) (S' := []) rfl ?_
    by_cases hc2 : a0 < (A.1 26 0)
    · have h := if_T h hc2
      refine rz_B.ifF (mt (le32 (hw 26 0).1 ha0).mp (Int.not_le.mpr hc2)) ?_
      refine rz_B.go 2 (pc' := 17) (L' := [some (.ref 26), some (vI a0)]) (S' := [vI 1]) rfl ?_
      cases h
      exact rz_B.ret rfl (by decide) hw
    · have h := if_F h hc2
      refine rz_B.ifT ((le32 (hw 26 0).1 ha0).mpr (Int.not_lt.mp hc2)) ?_
      refine rz_B.go 1 (pc' := 17) (L' := [some (.ref 26), some (vI a0)]) (S' := [vI 0]) rfl ?_
      cases h
      exact rz_B.ret rfl (by decide) hw
  · have h := if_F h hc1
    refine rz_B.ifT ((lt32 ha0 (by decide)).mpr (Int.not_le.mp hc1)) ?_
    refine rz_B.go 1 (pc' := 17) (L' := [some (.ref 26), some (vI a0)]) (S' := [vI 0]) rfl ?_
    cases h
    exact rz_B.ret rfl (by decide) hw
/-- RiverGauge.drop(I)I -/
def x36_drop (F : Nat) (a0 : Int) (A : rz_A) : Option (Int × rz_A) :=
  rz_b (x37_has F a0 A) fun r1 A1 =>
  if r1 = 0 then
    rz_b (x1_refuse F (-1) A1) fun r3 A3 =>
    some (r3, A3)
  else
    rz_gx a0 60 <|
    if (A1.1 32 (a0).toNat) = 2147483647 then
      rz_b (x6_forget F A1) fun _ A7 =>
      some (1, (aI A7 32 (a0).toNat (A7.1 0 16)))
    else
      rz_b (x1_refuse F (-3) A1) fun r9 A9 =>
      some (r9, A9)
theorem cx36_drop (F : Nat) {d : Nat} {a0 : Int} {A : rz_A} {r : Int} {A' : rz_A} (h : x36_drop F a0 A = some (r, A')) (ha0 : r32 a0) (hw : wf A) : rg_Rn (d + 1) 36 [.ref 0, vI a0] (toM A) (some (vI r)) (toM A') ∧ (r32 r) ∧ wf A' := by
  show rz_B (d + 1) 36 0 [some (.ref 0), some (vI a0)] [] A (some (vI r)) A' (r32 r)
  unfold x36_drop at h
  refine rz_B.go 3 (pc' := 5) (L' := [some (.ref 0), some (vI a0)]) (S' := [vI a0, .ref 26]) rfl ?_
  obtain ⟨r1, A1, hf1, h⟩ := rz_b_inv h
  obtain ⟨hg1, hr1, hw1⟩ := cx37_has F (d := d + 0) hf1 ha0 hw
  refine rz_B.call (d := d + 0) (as := [.ref 26, vI a0]) (rest := []) (w := some (vI r1)) rfl hg1 ?_
  refine rz_B.go 1 (pc' := if decide (¬ Int32.ofInt r1 = Int32.ofInt 0) = true then 17 else 11) (L' := [some (.ref 0), some (vI a0)]) (S' := []) rfl ?_
  by_cases hc2 : r1 = 0
  · have h := if_T h hc2
    refine rz_B.ifF (fun hn => hn ((eq32 hr1 (by decide)).mpr hc2)) ?_
    refine rz_B.go 2 (pc' := 13) (L' := [some (.ref 0), some (vI a0)]) (S' := [vI (-1), .ref 0]) rfl ?_
    obtain ⟨r3, A3, hf3, h⟩ := rz_b_inv h
    obtain ⟨hg3, hr3, hw3⟩ := cx1_refuse F (d := d + 0) hf3 (by decide) hw1
    refine rz_B.call (d := d + 0) (as := [.ref 0, vI (-1)]) (rest := []) (w := some (vI r3)) rfl hg3 ?_
    cases h
    exact rz_B.ret rfl hr3 hw3
  · have h := if_F h hc2
    refine rz_B.ifT (mt (eq32 hr1 (by decide)).mp hc2) ?_
    refine rz_B.go 4 (pc' := 25) (L' := [some (.ref 0), some (vI a0)]) (S' := [vI a0, .ref 32]) rfl ?_
    obtain ⟨hi4, hj5, h⟩ := rz_gx_inv h
    refine rz_B.iald rfl rfl hi4 hj5 (by decide) ?_
    refine rz_B.go 2 (pc' := if decide (Int32.ofInt (A1.1 32 (a0).toNat) = Int32.ofInt 2147483647) = true then 38 else 31) (L' := [some (.ref 0), some (vI a0)]) (S' := []) rfl ?_
    by_cases hc6 : (A1.1 32 (a0).toNat) = 2147483647
    · have h := if_T h hc6
      refine rz_B.ifT ((eq32 (hw1 32 (a0).toNat).1 (by decide)).mpr hc6) ?_
      refine rz_B.go 2 (pc' := 42) (L' := [some (.ref 0), some (vI a0)]) (S' := [.ref 51]) rfl ?_
      obtain ⟨_, A7, hf7, h⟩ := rz_b_inv h
      obtain ⟨hg7, hr7, hw7⟩ := cx6_forget F (d := d + 0) hf7 hw1
      refine rz_B.call (d := d + 0) (as := [.ref 51]) (rest := []) (w := none) rfl hg7 ?_
      refine rz_B.go 6 (pc' := 57) (L' := [some (.ref 0), some (vI a0)]) (S' := [vI (A7.1 0 16), vI a0, .ref 32]) rfl ?_
      refine rz_B.iast rfl rfl hi4 hj5 (by decide) ?_
      have hw8 : wf (aI A7 32 (a0).toNat (A7.1 0 16)) := wf_aI hw7 (hw7 0 16).1
      refine rz_B.go 1 (pc' := 59) (L' := [some (.ref 0), some (vI a0)]) (S' := [vI 1]) rfl ?_
      cases h
      exact rz_B.ret rfl (by decide) hw8
    · have h := if_F h hc6
      refine rz_B.ifF (mt (eq32 (hw1 32 (a0).toNat).1 (by decide)).mp hc6) ?_
      refine rz_B.go 2 (pc' := 34) (L' := [some (.ref 0), some (vI a0)]) (S' := [vI (-3), .ref 0]) rfl ?_
      obtain ⟨r9, A9, hf9, h⟩ := rz_b_inv h
      obtain ⟨hg9, hr9, hw9⟩ := cx1_refuse F (d := d + 0) hf9 (by decide) hw1
      refine rz_B.call (d := d + 0) (as := [.ref 0, vI (-3)]) (rest := []) (w := some (vI r9)) rfl hg9 ?_
      cases h
      exact rz_B.ret rfl hr9 hw9
/-- RiverGauge$Flows.placeOf(ILRiverGauge$View;)I -/
def x39_placeOf (F : Nat) (a0 : Int) (A : rz_A) : Option (Int × rz_A) :=
  rz_gx a0 60 <|
  if (A.1 31 (a0).toNat) ≤ (A.1 51 3) then
    if (A.1 32 (a0).toNat) ≤ (A.1 51 3) then
      some ((-1), A)
    else
      rz_b (x32_find F (A.1 27 (a0).toNat) (A.1 28 (a0).toNat) A) fun r5 A5 =>
      some (r5, A5)
  else
    some ((-1), A)
theorem cx39_placeOf (F : Nat) {d : Nat} {a0 : Int} {A : rz_A} {r : Int} {A' : rz_A} (h : x39_placeOf F a0 A = some (r, A')) (ha0 : r32 a0) (hw : wf A) : rg_Rn (d + 2) 39 [.ref 26, vI a0, .ref 51] (toM A) (some (vI r)) (toM A') ∧ (r32 r) ∧ wf A' := by
  show rz_B (d + 2) 39 0 [some (.ref 26), some (vI a0), some (.ref 51)] [] A (some (vI r)) A' (r32 r)
  unfold x39_placeOf at h
  refine rz_B.go 3 (pc' := 5) (L' := [some (.ref 26), some (vI a0), some (.ref 51)]) (S' := [vI a0, .ref 31]) rfl ?_
  obtain ⟨hi1, hj2, h⟩ := rz_gx_inv h
  refine rz_B.iald rfl rfl hi1 hj2 (by decide) ?_
  refine rz_B.go 3 (pc' := if decide (Int32.ofInt (A.1 51 3) < Int32.ofInt (A.1 31 (a0).toNat)) = true then 26 else 13) (L' := [some (.ref 26), some (vI a0), some (.ref 51)]) (S' := []) rfl ?_
  by_cases hc3 : (A.1 31 (a0).toNat) ≤ (A.1 51 3)
  · have h := if_T h hc3
    refine rz_B.ifF (mt (lt32 (hw 51 3).1 (hw 31 (a0).toNat).1).mp (Int.not_lt.mpr hc3)) ?_
    refine rz_B.go 3 (pc' := 18) (L' := [some (.ref 26), some (vI a0), some (.ref 51)]) (S' := [vI a0, .ref 32]) rfl ?_
    refine rz_B.iald rfl rfl hi1 hj2 (by decide) ?_
    refine rz_B.go 3 (pc' := if decide (Int32.ofInt (A.1 51 3) < Int32.ofInt (A.1 32 (a0).toNat)) = true then 28 else 26) (L' := [some (.ref 26), some (vI a0), some (.ref 51)]) (S' := []) rfl ?_
    by_cases hc4 : (A.1 32 (a0).toNat) ≤ (A.1 51 3)
    · have h := if_T h hc4
      refine rz_B.ifF (mt (lt32 (hw 51 3).1 (hw 32 (a0).toNat).1).mp (Int.not_lt.mpr hc4)) ?_
      refine rz_B.go 1 (pc' := 27) (L' := [some (.ref 26), some (vI a0), some (.ref 51)]) (S' := [vI (-1)]) rfl ?_
      cases h
      exact rz_B.ret rfl (by decide) hw
    · have h := if_F h hc4
      refine rz_B.ifT ((lt32 (hw 51 3).1 (hw 32 (a0).toNat).1).mpr (Int.not_le.mp hc4)) ?_
      refine rz_B.go 4 (pc' := 34) (L' := [some (.ref 26), some (vI a0), some (.ref 51)]) (S' := [vI a0, .ref 27, .ref 51]) rfl ?_
      refine rz_B.iald rfl rfl hi1 hj2 (by decide) ?_
      refine rz_B.go 3 (pc' := 40) (L' := [some (.ref 26), some (vI a0), some (.ref 51)]) (S' := [vI a0, .ref 28, vI (A.1 27 (a0).toNat), .ref 51]) rfl ?_
      refine rz_B.iald rfl rfl hi1 hj2 (by decide) ?_
      obtain ⟨r5, A5, hf5, h⟩ := rz_b_inv h
      obtain ⟨hg5, hr5, hw5⟩ := cx32_find F (d := d + 0) hf5 (hw 27 (a0).toNat).1 (hw 28 (a0).toNat).1 hw
      refine rz_B.call (d := d + 1) (as := [.ref 51, vI (A.1 27 (a0).toNat), vI (A.1 28 (a0).toNat)]) (rest := []) (w := some (vI r5)) rfl hg5 ?_
      cases h
      exact rz_B.ret rfl hr5 hw5
  · have h := if_F h hc3
    refine rz_B.ifT ((lt32 (hw 51 3).1 (hw 31 (a0).toNat).1).mpr (Int.not_le.mp hc3)) ?_
    refine rz_B.go 1 (pc' := 27) (L' := [some (.ref 26), some (vI a0), some (.ref 51)]) (S' := [vI (-1)]) rfl ?_
    cases h
    exact rz_B.ret rfl (by decide) hw
/-- RiverGauge.counts(II)I -/
def x38_counts (F : Nat) (a0 : Int) (a1 : Int) (A : rz_A) : Option (Int × rz_A) :=
  rz_b (x37_has F a0 A) fun r1 A1 =>
  if r1 = 0 then
    rz_b (x1_refuse F (-1) A1) fun r3 A3 =>
    some (r3, A3)
  else
    rz_b (x19_whyNotTime F a1 A1) fun r4 A4 =>
    if r4 = 0 then
      rz_b (x20_see F a1 A4) fun _ A6 =>
      rz_b (x39_placeOf F a0 A6) fun r7 A7 =>
      if 0 ≤ r7 then
        some (1, A7)
      else
        some (0, A7)
    else
      rz_b (x1_refuse F r4 A4) fun r9 A9 =>
      some (r9, A9)
theorem cx38_counts (F : Nat) {d : Nat} {a0 : Int} {a1 : Int} {A : rz_A} {r : Int} {A' : rz_A} (h : x38_counts F a0 a1 A = some (r, A')) (ha0 : r32 a0) (ha1 : r32 a1) (hw : wf A) : rg_Rn (d + 6) 38 [.ref 0, vI a0, vI a1] (toM A) (some (vI r)) (toM A') ∧ (r32 r) ∧ wf A' := by
  show rz_B (d + 6) 38 0 [some (.ref 0), some (vI a0), some (vI a1), none] [] A (some (vI r)) A' (r32 r)
  unfold x38_counts at h
  refine rz_B.go 3 (pc' := 5) (L' := [some (.ref 0), some (vI a0), some (vI a1), none]) (S' := [vI a0, .ref 26]) rfl ?_
  obtain ⟨r1, A1, hf1, h⟩ := rz_b_inv h
  obtain ⟨hg1, hr1, hw1⟩ := cx37_has F (d := d + 5) hf1 ha0 hw
  refine rz_B.call (d := d + 5) (as := [.ref 26, vI a0]) (rest := []) (w := some (vI r1)) rfl hg1 ?_
  refine rz_B.go 1 (pc' := if decide (¬ Int32.ofInt r1 = Int32.ofInt 0) = true then 17 else 11) (L' := [some (.ref 0), some (vI a0), some (vI a1), none]) (S' := []) rfl ?_
  by_cases hc2 : r1 = 0
  · have h := if_T h hc2
    refine rz_B.ifF (fun hn => hn ((eq32 hr1 (by decide)).mpr hc2)) ?_
    refine rz_B.go 2 (pc' := 13) (L' := [some (.ref 0), some (vI a0), some (vI a1), none]) (S' := [vI (-1), .ref 0]) rfl ?_
    obtain ⟨r3, A3, hf3, h⟩ := rz_b_inv h
    obtain ⟨hg3, hr3, hw3⟩ := cx1_refuse F (d := d + 5) hf3 (by decide) hw1
    refine rz_B.call (d := d + 5) (as := [.ref 0, vI (-1)]) (rest := []) (w := some (vI r3)) rfl hg3 ?_
    cases h
    exact rz_B.ret rfl hr3 hw3
  · have h := if_F h hc2
    refine rz_B.ifT (mt (eq32 hr1 (by decide)).mp hc2) ?_
    refine rz_B.go 1 (pc' := 18) (L' := [some (.ref 0), some (vI a0), some (vI a1), none]) (S' := [vI a1]) rfl ?_
    obtain ⟨r4, A4, hf4, h⟩ := rz_b_inv h
    obtain ⟨hg4, hr4, hw4⟩ := cx19_whyNotTime F (d := d + 5) hf4 ha1 hw1
    refine rz_B.call (d := d + 5) (as := [vI a1]) (rest := []) (w := some (vI r4)) rfl hg4 ?_
    refine rz_B.go 3 (pc' := if decide (Int32.ofInt r4 = Int32.ofInt 0) = true then 32 else 26) (L' := [some (.ref 0), some (vI a0), some (vI a1), some (vI r4)]) (S' := []) rfl ?_
    by_cases hc5 : r4 = 0
    · have h := if_T h hc5
      refine rz_B.ifT ((eq32 hr4 (by decide)).mpr hc5) ?_
      refine rz_B.go 3 (pc' := 37) (L' := [some (.ref 0), some (vI a0), some (vI a1), some (vI r4)]) (S' := [vI a1, .ref 51]) rfl ?_
      obtain ⟨_, A6, hf6, h⟩ := rz_b_inv h
      obtain ⟨hg6, hr6, hw6⟩ := cx20_see F (d := d + 0) hf6 ha1 hw4
      refine rz_B.call (d := d + 5) (as := [.ref 51, vI a1]) (rest := []) (w := none) rfl hg6 ?_
      refine rz_B.go 5 (pc' := 49) (L' := [some (.ref 0), some (vI a0), some (vI a1), some (vI r4)]) (S' := [.ref 51, vI a0, .ref 26]) rfl ?_
      obtain ⟨r7, A7, hf7, h⟩ := rz_b_inv h
      obtain ⟨hg7, hr7, hw7⟩ := cx39_placeOf F (d := d + 3) hf7 ha0 hw6
      refine rz_B.call (d := d + 5) (as := [.ref 26, vI a0, .ref 51]) (rest := []) (w := some (vI r7)) rfl hg7 ?_
      refine rz_B.go 1 (pc' := if decide (Int32.ofInt r7 < Int32.ofInt 0) = true then 59 else 55) (L' := [some (.ref 0), some (vI a0), some (vI a1), some (vI r4)]) (S' := []) rfl ?_
      by_cases hc8 : 0 ≤ r7
      · have h := if_T h hc8
        refine rz_B.ifF (mt (lt32 hr7 (by decide)).mp (Int.not_lt.mpr hc8)) ?_
        refine rz_B.go 2 (pc' := 60) (L' := [some (.ref 0), some (vI a0), some (vI a1), some (vI r4)]) (S' := [vI 1]) rfl ?_
        cases h
        exact rz_B.ret rfl (by decide) hw7
      · have h := if_F h hc8
        refine rz_B.ifT ((lt32 hr7 (by decide)).mpr (Int.not_le.mp hc8)) ?_
        refine rz_B.go 1 (pc' := 60) (L' := [some (.ref 0), some (vI a0), some (vI a1), some (vI r4)]) (S' := [vI 0]) rfl ?_
        cases h
        exact rz_B.ret rfl (by decide) hw7
    · have h := if_F h hc5
      refine rz_B.ifF (mt (eq32 hr4 (by decide)).mp hc5) ?_
      refine rz_B.go 2 (pc' := 28) (L' := [some (.ref 0), some (vI a0), some (vI a1), some (vI r4)]) (S' := [vI r4, .ref 0]) rfl ?_
      obtain ⟨r9, A9, hf9, h⟩ := rz_b_inv h
      obtain ⟨hg9, hr9, hw9⟩ := cx1_refuse F (d := d + 5) hf9 hr4 hw4
      refine rz_B.call (d := d + 5) (as := [.ref 0, vI r4]) (rest := []) (w := some (vI r9)) rfl hg9 ?_
      cases h
      exact rz_B.ret rfl hr9 hw9
def x41_take_3 (F : Nat) : Nat → Int → Int → Int → rz_A → Option (Int × rz_A)
  | 0, _, _, _, _ => none
  | n + 1, v1, v2, v4, A =>
    if v4 < v1 then
      if (A.1 40 1) < 60 then
        rz_g32 (8 * v4) <|
        rz_gx (A.1 40 1) 60 <|
        rz_g32 ((A.1 40 1) + 1) <|
        rz_g32 (v4 + 1) <|
        x41_take_3 F n v1 v2 (v4 + 1) (aI (aI A 41 ((A.1 40 1)).toNat (rz_oI fAnd (rz_oN (rz_oS gShr v2 (8 * v4))) 255)) 40 1 ((A.1 40 1) + 1))
      else
        some ((A.1 40 1), A)
    else
      some ((A.1 40 1), A)
theorem cx41_take_3 {d : Nat} (F : Nat) : ∀ (n : Nat) (v1 : Int) (v2 : Int) (v4 : Int) (A : rz_A) (r : Int) (A' : rz_A), x41_take_3 F n v1 v2 v4 A = some (r, A') → r32 v1 → r64 v2 → r32 v4 → wf A → rz_B (d + 0) 41 3 [some (.ref 40), some (vI v1), some (vL v2), none, some (vI v4)] [] A (some (vI r)) A' (r32 r) := by
  intro n
  induction n with
  | zero => intro v1 v2 v4 A r A' h; cases h
  | succ n ih =>
    intro v1 v2 v4 A r A' h hv1 hv2 hv4 hw
    rw [x41_take_3] at h
    refine rz_B.go 3 (pc' := if decide (Int32.ofInt v1 ≤ Int32.ofInt v4) = true then 55 else 9) (L' := [some (.ref 40), some (vI v1), some (vL v2), none, some (vI v4)]) (S' := []) rfl ?_
    by_cases hc1 : v4 < v1
    · have h := if_T h hc1
      refine rz_B.ifF (mt (le32 hv1 hv4).mp (Int.not_le.mpr hc1)) ?_
      refine rz_B.go 4 (pc' := if decide (Int32.ofInt 60 ≤ Int32.ofInt (A.1 40 1)) = true then 55 else 18) (L' := [some (.ref 40), some (vI v1), some (vL v2), none, some (vI v4)]) (S' := []) rfl ?_
      by_cases hc2 : (A.1 40 1) < 60
      · have h := if_T h hc2
        refine rz_B.ifF (mt (le32 (by decide) (hw 40 1).1).mp (Int.not_le.mpr hc2)) ?_
        refine rz_B.go 7 (pc' := 31) (L' := [some (.ref 40), some (vI v1), some (vL v2), none, some (vI v4)]) (S' := [vI v4, vI 8, vL v2, vI (A.1 40 1), .ref 41]) rfl ?_
        obtain ⟨hk3, h⟩ := rz_g32_inv h
        refine rz_B.imul rfl ?_
        refine rz_B.oS gShr rfl ?_
        refine rz_B.l2n rfl ?_
        refine rz_B.go 1 (pc' := 37) (L' := [some (.ref 40), some (vI v1), some (vL v2), none, some (vI v4)]) (S' := [vI 255, vI (rz_oN (rz_oS gShr v2 (8 * v4))), vI (A.1 40 1), .ref 41]) rfl ?_
        refine rz_B.oI fAnd rfl ?_
        obtain ⟨hi4, hj5, h⟩ := rz_gx_inv h
        refine rz_B.iast rfl rfl hi4 hj5 (by decide) ?_
        have hw6 : wf (aI A 41 ((A.1 40 1)).toNat (rz_oI fAnd (rz_oN (rz_oS gShr v2 (8 * v4))) 255)) := wf_aI hw r32_oI
        refine rz_B.go 4 (pc' := 45) (L' := [some (.ref 40), some (vI v1), some (vL v2), none, some (vI v4)]) (S' := [vI 1, vI (A.1 40 1), .ref 40]) rfl ?_
        obtain ⟨hk7, h⟩ := rz_g32_inv h
        refine rz_B.iadd rfl ?_
        refine rz_B.put 1 (pc' := 49) (L' := [some (.ref 40), some (vI v1), some (vL v2), none, some (vI v4)]) (S' := []) (c := 40) (k := 1) (x := ((A.1 40 1) + 1)) rfl ?_
        have hw8 : wf (aI (aI A 41 ((A.1 40 1)).toNat (rz_oI fAnd (rz_oN (rz_oS gShr v2 (8 * v4))) 255)) 40 1 ((A.1 40 1) + 1)) := wf_aI hw6 hk7
        obtain ⟨hk9, h⟩ := rz_g32_inv h
        refine rz_B.iinc rfl (by decide) rfl (L' := [some (.ref 40), some (vI v1), some (vL v2), none, some (vI (v4 + 1))]) rfl ?_
        refine rz_B.go 1 (pc' := 3) (L' := [some (.ref 40), some (vI v1), some (vL v2), none, some (vI (v4 + 1))]) (S' := []) rfl ?_
        refine rz_B.more (rg_le_ok (L := [some (.ref 40), some (vI v1), some (vL v2), none, some (vI (v4 + 1))]) (by simp [rg_le])) ?_
        exact ih _ _ _ _ _ _ h hv1 hv2 hk9 hw8
      · have h := if_F h hc2
        refine rz_B.ifT ((le32 (by decide) (hw 40 1).1).mpr (Int.not_lt.mp hc2)) ?_
        refine rz_B.go 2 (pc' := 59) (L' := [some (.ref 40), some (vI v1), some (vL v2), none, some (vI v4)]) (S' := [vI (A.1 40 1)]) rfl ?_
        cases h
        exact rz_B.ret rfl (hw 40 1).1 hw
    · have h := if_F h hc1
      refine rz_B.ifT ((le32 hv1 hv4).mpr (Int.not_lt.mp hc1)) ?_
      refine rz_B.go 2 (pc' := 59) (L' := [some (.ref 40), some (vI v1), some (vL v2), none, some (vI v4)]) (S' := [vI (A.1 40 1)]) rfl ?_
      cases h
      exact rz_B.ret rfl (hw 40 1).1 hw
/-- RiverGauge$Tape.take(IJ)I -/
def x41_take (F : Nat) (a0 : Int) (a1 : Int) (A : rz_A) : Option (Int × rz_A) :=
  x41_take_3 F F a0 a1 0 A
theorem cx41_take (F : Nat) {d : Nat} {a0 : Int} {a1 : Int} {A : rz_A} {r : Int} {A' : rz_A} (h : x41_take F a0 a1 A = some (r, A')) (ha0 : r32 a0) (ha1 : r64 a1) (hw : wf A) : rg_Rn (d + 0) 41 [.ref 40, vI a0, vL a1] (toM A) (some (vI r)) (toM A') ∧ (r32 r) ∧ wf A' := by
  show rz_B (d + 0) 41 0 [some (.ref 40), some (vI a0), some (vL a1), none, none] [] A (some (vI r)) A' (r32 r)
  unfold x41_take at h
  refine rz_B.go 2 (pc' := 3) (L' := [some (.ref 40), some (vI a0), some (vL a1), none, some (vI 0)]) (S' := []) rfl ?_
  refine rz_B.more (rg_le_ok (L := [some (.ref 40), some (vI a0), some (vL a1), none, some (vI 0)]) (by simp [rg_le])) ?_
  exact cx41_take_3 F F _ _ _ _ _ _ h ha0 ha1 (by decide) hw
/-- RiverGauge.feed(IJ)I -/
def x40_feed (F : Nat) (a0 : Int) (a1 : Int) (A : rz_A) : Option (Int × rz_A) :=
  if a0 < 1 then
    rz_b (x1_refuse F (-4) A) fun r2 A2 =>
    some (r2, A2)
  else
    if a0 ≤ 8 then
      rz_g32 (60 - (A.1 40 1)) <|
      if (60 - (A.1 40 1)) < a0 then
        rz_b (x1_refuse F (-6) A) fun r6 A6 =>
        some (r6, A6)
      else
        rz_b (x41_take F a0 a1 A) fun r7 A7 =>
        some (r7, A7)
    else
      rz_b (x1_refuse F (-6) A) fun r8 A8 =>
      some (r8, A8)
theorem cx40_feed (F : Nat) {d : Nat} {a0 : Int} {a1 : Int} {A : rz_A} {r : Int} {A' : rz_A} (h : x40_feed F a0 a1 A = some (r, A')) (ha0 : r32 a0) (ha1 : r64 a1) (hw : wf A) : rg_Rn (d + 1) 40 [.ref 0, vI a0, vL a1] (toM A) (some (vI r)) (toM A') ∧ (r32 r) ∧ wf A' := by
  show rz_B (d + 1) 40 0 [some (.ref 0), some (vI a0), some (vL a1), none] [] A (some (vI r)) A' (r32 r)
  unfold x40_feed at h
  refine rz_B.go 3 (pc' := if decide (Int32.ofInt 1 ≤ Int32.ofInt a0) = true then 12 else 5) (L' := [some (.ref 0), some (vI a0), some (vL a1), none]) (S' := []) rfl ?_
  by_cases hc1 : a0 < 1
  · have h := if_T h hc1
    refine rz_B.ifF (mt (le32 (by decide) ha0).mp (Int.not_le.mpr hc1)) ?_
    refine rz_B.go 2 (pc' := 8) (L' := [some (.ref 0), some (vI a0), some (vL a1), none]) (S' := [vI (-4), .ref 0]) rfl ?_
    obtain ⟨r2, A2, hf2, h⟩ := rz_b_inv h
    obtain ⟨hg2, hr2, hw2⟩ := cx1_refuse F (d := d + 0) hf2 (by decide) hw
    refine rz_B.call (d := d + 0) (as := [.ref 0, vI (-4)]) (rest := []) (w := some (vI r2)) rfl hg2 ?_
    cases h
    exact rz_B.ret rfl hr2 hw2
  · have h := if_F h hc1
    refine rz_B.ifT ((le32 (by decide) ha0).mpr (Int.not_lt.mp hc1)) ?_
    refine rz_B.go 3 (pc' := if decide (Int32.ofInt 8 < Int32.ofInt a0) = true then 32 else 18) (L' := [some (.ref 0), some (vI a0), some (vL a1), none]) (S' := []) rfl ?_
    by_cases hc3 : a0 ≤ 8
    · have h := if_T h hc3
      refine rz_B.ifF (mt (lt32 (by decide) ha0).mp (Int.not_lt.mpr hc3)) ?_
      refine rz_B.go 5 (pc' := 28) (L' := [some (.ref 0), some (vI a0), some (vL a1), none]) (S' := [vI (A.1 40 1), vI 60, vI a0]) rfl ?_
      obtain ⟨hk4, h⟩ := rz_g32_inv h
      refine rz_B.isub rfl ?_
      refine rz_B.go 1 (pc' := if decide (Int32.ofInt a0 ≤ Int32.ofInt (60 - (A.1 40 1))) = true then 39 else 32) (L' := [some (.ref 0), some (vI a0), some (vL a1), none]) (S' := []) rfl ?_
      by_cases hc5 : (60 - (A.1 40 1)) < a0
      · have h := if_T h hc5
        refine rz_B.ifF (mt (le32 ha0 hk4).mp (Int.not_le.mpr hc5)) ?_
        refine rz_B.go 2 (pc' := 35) (L' := [some (.ref 0), some (vI a0), some (vL a1), none]) (S' := [vI (-6), .ref 0]) rfl ?_
        obtain ⟨r6, A6, hf6, h⟩ := rz_b_inv h
        obtain ⟨hg6, hr6, hw6⟩ := cx1_refuse F (d := d + 0) hf6 (by decide) hw
        refine rz_B.call (d := d + 0) (as := [.ref 0, vI (-6)]) (rest := []) (w := some (vI r6)) rfl hg6 ?_
        cases h
        exact rz_B.ret rfl hr6 hw6
      · have h := if_F h hc5
        refine rz_B.ifT ((le32 ha0 hk4).mpr (Int.not_lt.mp hc5)) ?_
        refine rz_B.go 4 (pc' := 45) (L' := [some (.ref 0), some (vI a0), some (vL a1), none]) (S' := [vL a1, vI a0, .ref 40]) rfl ?_
        obtain ⟨r7, A7, hf7, h⟩ := rz_b_inv h
        obtain ⟨hg7, hr7, hw7⟩ := cx41_take F (d := d + 0) hf7 ha0 ha1 hw
        refine rz_B.call (d := d + 0) (as := [.ref 40, vI a0, vL a1]) (rest := []) (w := some (vI r7)) rfl hg7 ?_
        cases h
        exact rz_B.ret rfl hr7 hw7
    · have h := if_F h hc3
      refine rz_B.ifT ((lt32 (by decide) ha0).mpr (Int.not_le.mp hc3)) ?_
      refine rz_B.go 2 (pc' := 35) (L' := [some (.ref 0), some (vI a0), some (vL a1), none]) (S' := [vI (-6), .ref 0]) rfl ?_
      obtain ⟨r8, A8, hf8, h⟩ := rz_b_inv h
      obtain ⟨hg8, hr8, hw8⟩ := cx1_refuse F (d := d + 0) hf8 (by decide) hw
      refine rz_B.call (d := d + 0) (as := [.ref 0, vI (-6)]) (rest := []) (w := some (vI r8)) rfl hg8 ?_
      cases h
      exact rz_B.ret rfl hr8 hw8
/-- RiverGauge$Tape.isNext(C)Z -/
def x47_isNext (F : Nat) (a0 : Int) (A : rz_A) : Option (Int × rz_A) :=
  if (A.1 40 4) < (A.1 40 1) then
    rz_gx (A.1 40 4) 60 <|
    if (A.1 41 ((A.1 40 4)).toNat) = a0 then
      some (1, A)
    else
      some (0, A)
  else
    some (0, A)
theorem cx47_isNext (F : Nat) {d : Nat} {a0 : Int} {A : rz_A} {r : Int} {A' : rz_A} (h : x47_isNext F a0 A = some (r, A')) (ha0 : r32 a0) (hw : wf A) : rg_Rn (d + 0) 47 [.ref 40, vI a0] (toM A) (some (vI r)) (toM A') ∧ (r32 r) ∧ wf A' := by
  show rz_B (d + 0) 47 0 [some (.ref 40), some (vI a0)] [] A (some (vI r)) A' (r32 r)
  unfold x47_isNext at h
  refine rz_B.go 5 (pc' := if decide (Int32.ofInt (A.1 40 1) ≤ Int32.ofInt (A.1 40 4)) = true then 28 else 11) (L' := [some (.ref 40), some (vI a0)]) (S' := []) rfl ?_
  by_cases hc1 : (A.1 40 4) < (A.1 40 1)
  · have h := if_T h hc1
    refine rz_B.ifF (mt (le32 (hw 40 1).1 (hw 40 4).1).mp (Int.not_le.mpr hc1)) ?_
    refine rz_B.go 4 (pc' := 19) (L' := [some (.ref 40), some (vI a0)]) (S' := [vI (A.1 40 4), .ref 41]) rfl ?_
    obtain ⟨hi2, hj3, h⟩ := rz_gx_inv h
    refine rz_B.iald rfl rfl hi2 hj3 (by decide) ?_
    refine rz_B.go 2 (pc' := if decide (¬ Int32.ofInt (A.1 41 ((A.1 40 4)).toNat) = Int32.ofInt a0) = true then 28 else 24) (L' := [some (.ref 40), some (vI a0)]) (S' := []) rfl ?_
    by_cases hc4 : (A.1 41 ((A.1 40 4)).toNat) = a0
    · have h := if_T h hc4
      refine rz_B.ifF (fun hn => hn ((eq32 (hw 41 ((A.1 40 4)).toNat).1 ha0).mpr hc4)) ?_
      refine rz_B.go 2 (pc' := 29) (L' := [some (.ref 40), some (vI a0)]) (S' := [vI 1]) rfl ?_
      cases h
      exact rz_B.ret rfl (by decide) hw
    · have h := if_F h hc4
      refine rz_B.ifT (mt (eq32 (hw 41 ((A.1 40 4)).toNat).1 ha0).mp hc4) ?_
      refine rz_B.go 1 (pc' := 29) (L' := [some (.ref 40), some (vI a0)]) (S' := [vI 0]) rfl ?_
      cases h
      exact rz_B.ret rfl (by decide) hw
  · have h := if_F h hc1
    refine rz_B.ifT ((le32 (hw 40 1).1 (hw 40 4).1).mpr (Int.not_lt.mp hc1)) ?_
    refine rz_B.go 1 (pc' := 29) (L' := [some (.ref 40), some (vI a0)]) (S' := [vI 0]) rfl ?_
    cases h
    exact rz_B.ret rfl (by decide) hw
/-- RiverGauge$Tape.step(I)V -/
def x49_step (F : Nat) (a0 : Int) (A : rz_A) : Option (Unit × rz_A) :=
  if 60 ≤ (A.1 40 3) then
    some ((), A)
  else
    rz_gx (A.1 40 3) 60 <|
    rz_g32 ((A.1 40 3) + 1) <|
    some ((), (aI (aI A 42 ((A.1 40 3)).toNat a0) 40 3 ((A.1 40 3) + 1)))
theorem cx49_step (F : Nat) {d : Nat} {a0 : Int} {A : rz_A} {r : Unit} {A' : rz_A} (h : x49_step F a0 A = some (r, A')) (ha0 : r32 a0) (hw : wf A) : rg_Rn (d + 0) 49 [.ref 40, vI a0] (toM A) (none) (toM A') ∧ (True) ∧ wf A' := by
  show rz_B (d + 0) 49 0 [some (.ref 40), some (vI a0)] [] A (none) A' (True)
  unfold x49_step at h
  refine rz_B.go 4 (pc' := if decide (Int32.ofInt (A.1 40 3) < Int32.ofInt 60) = true then 10 else 9) (L' := [some (.ref 40), some (vI a0)]) (S' := []) rfl ?_
  by_cases hc1 : 60 ≤ (A.1 40 3)
  · have h := if_T h hc1
    refine rz_B.ifF (mt (lt32 (hw 40 3).1 (by decide)).mp (Int.not_lt.mpr hc1)) ?_
    cases h
    exact rz_B.ret rfl trivial hw
  · have h := if_F h hc1
    refine rz_B.ifT ((lt32 (hw 40 3).1 (by decide)).mpr (Int.not_le.mp hc1)) ?_
    refine rz_B.go 5 (pc' := 19) (L' := [some (.ref 40), some (vI a0)]) (S' := [vI a0, vI (A.1 40 3), .ref 42]) rfl ?_
    obtain ⟨hi2, hj3, h⟩ := rz_gx_inv h
    refine rz_B.iast rfl rfl hi2 hj3 (by decide) ?_
    have hw4 : wf (aI A 42 ((A.1 40 3)).toNat a0) := wf_aI hw ha0
    refine rz_B.go 4 (pc' := 26) (L' := [some (.ref 40), some (vI a0)]) (S' := [vI 1, vI (A.1 40 3), .ref 40]) rfl ?_
    obtain ⟨hk5, h⟩ := rz_g32_inv h
    refine rz_B.iadd rfl ?_
    refine rz_B.put 1 (pc' := 30) (L' := [some (.ref 40), some (vI a0)]) (S' := []) (c := 40) (k := 3) (x := ((A.1 40 3) + 1)) rfl ?_
    have hw6 : wf (aI (aI A 42 ((A.1 40 3)).toNat a0) 40 3 ((A.1 40 3) + 1)) := wf_aI hw4 hk5
    cases h
    exact rz_B.ret rfl trivial hw6
/-- java/lang/String.isLatin1()Z -/
def x55_isLatin1 (F : Nat) (A : rz_A) : Option (Int × rz_A) :=
  some (1, A)
theorem cx55_isLatin1 (F : Nat) {d : Nat} {A : rz_A} {r : Int} {A' : rz_A} (h : x55_isLatin1 F A = some (r, A')) (hw : wf A) : rg_Rn (d + 0) 55 [.ref 149] (toM A) (some (vI r)) (toM A') ∧ (r32 r) ∧ wf A' := by
  show rz_B (d + 0) 55 0 [some (.ref 149)] [] A (some (vI r)) A' (r32 r)
  unfold x55_isLatin1 at h
  refine rz_B.go 7 (pc' := 18) (L' := [some (.ref 149)]) (S' := [vI 1]) rfl ?_
  cases h
  exact rz_B.ret rfl (by decide) hw
/-- java/lang/String.coder()B -/
def x57_coder (F : Nat) (A : rz_A) : Option (Int × rz_A) :=
  some (0, A)
theorem cx57_coder (F : Nat) {d : Nat} {A : rz_A} {r : Int} {A' : rz_A} (h : x57_coder F A = some (r, A')) (hw : wf A) : rg_Rn (d + 0) 57 [.ref 149] (toM A) (some (vI r)) (toM A') ∧ (r32 r) ∧ wf A' := by
  show rz_B (d + 0) 57 0 [some (.ref 149)] [] A (some (vI r)) A' (r32 r)
  unfold x57_coder at h
  refine rz_B.go 5 (pc' := 14) (L' := [some (.ref 149)]) (S' := [vI 0]) rfl ?_
  cases h
  exact rz_B.ret rfl (by decide) hw
/-- java/lang/String.length()I -/
def x56_length (F : Nat) (A : rz_A) : Option (Int × rz_A) :=
  rz_b (x57_coder F A) fun r1 A1 =>
  some ((rz_oI fShr 13 r1), A1)
theorem cx56_length (F : Nat) {d : Nat} {A : rz_A} {r : Int} {A' : rz_A} (h : x56_length F A = some (r, A')) (hw : wf A) : rg_Rn (d + 1) 56 [.ref 149] (toM A) (some (vI r)) (toM A') ∧ (r32 r) ∧ wf A' := by
  show rz_B (d + 1) 56 0 [some (.ref 149)] [] A (some (vI r)) A' (r32 r)
  unfold x56_length at h
  refine rz_B.go 4 (pc' := 6) (L' := [some (.ref 149)]) (S' := [.ref 149, vI 13]) rfl ?_
  obtain ⟨r1, A1, hf1, h⟩ := rz_b_inv h
  obtain ⟨hg1, hr1, hw1⟩ := cx57_coder F (d := d + 0) hf1 hw
  refine rz_B.call (d := d + 0) (as := [.ref 149]) (rest := [vI 13]) (w := some (vI r1)) rfl hg1 ?_
  refine rz_B.oI fShr rfl ?_
  cases h
  exact rz_B.ret rfl r32_oI hw1
/-- java/lang/StringLatin1.canEncode(I)Z -/
def x59_canEncode (F : Nat) (a0 : Int) (A : rz_A) : Option (Int × rz_A) :=
  if 0 ≤ a0 then
    if a0 ≤ 255 then
      some (1, A)
    else
      some (0, A)
  else
    some (0, A)
theorem cx59_canEncode (F : Nat) {d : Nat} {a0 : Int} {A : rz_A} {r : Int} {A' : rz_A} (h : x59_canEncode F a0 A = some (r, A')) (ha0 : r32 a0) (hw : wf A) : rg_Rn (d + 0) 59 [vI a0] (toM A) (some (vI r)) (toM A') ∧ (r32 r) ∧ wf A' := by
  show rz_B (d + 0) 59 0 [some (vI a0)] [] A (some (vI r)) A' (r32 r)
  unfold x59_canEncode at h
  refine rz_B.go 2 (pc' := if decide (Int32.ofInt a0 < Int32.ofInt 0) = true then 15 else 4) (L' := [some (vI a0)]) (S' := []) rfl ?_
  by_cases hc1 : 0 ≤ a0
  · have h := if_T h hc1
    refine rz_B.ifF (mt (lt32 ha0 (by decide)).mp (Int.not_lt.mpr hc1)) ?_
    refine rz_B.go 3 (pc' := if decide (Int32.ofInt 255 < Int32.ofInt a0) = true then 15 else 11) (L' := [some (vI a0)]) (S' := []) rfl ?_
    by_cases hc2 : a0 ≤ 255
    · have h := if_T h hc2
      refine rz_B.ifF (mt (lt32 (by decide) ha0).mp (Int.not_lt.mpr hc2)) ?_
      refine rz_B.go 2 (pc' := 16) (L' := [some (vI a0)]) (S' := [vI 1]) rfl ?_
      cases h
      exact rz_B.ret rfl (by decide) hw
    · have h := if_F h hc2
      refine rz_B.ifT ((lt32 (by decide) ha0).mpr (Int.not_le.mp hc2)) ?_
      refine rz_B.go 1 (pc' := 16) (L' := [some (vI a0)]) (S' := [vI 0]) rfl ?_
      cases h
      exact rz_B.ret rfl (by decide) hw
  · have h := if_F h hc1
    refine rz_B.ifT ((lt32 ha0 (by decide)).mpr (Int.not_le.mp hc1)) ?_
    refine rz_B.go 1 (pc' := 16) (L' := [some (vI a0)]) (S' := [vI 0]) rfl ?_
    cases h
    exact rz_B.ret rfl (by decide) hw
/-- java/lang/Math.max(II)I -/
def x60_max (F : Nat) (a0 : Int) (a1 : Int) (A : rz_A) : Option (Int × rz_A) :=
  if a1 ≤ a0 then
    some (a0, A)
  else
    some (a1, A)
theorem cx60_max (F : Nat) {d : Nat} {a0 : Int} {a1 : Int} {A : rz_A} {r : Int} {A' : rz_A} (h : x60_max F a0 a1 A = some (r, A')) (ha0 : r32 a0) (ha1 : r32 a1) (hw : wf A) : rg_Rn (d + 0) 60 [vI a0, vI a1] (toM A) (some (vI r)) (toM A') ∧ (r32 r) ∧ wf A' := by
  show rz_B (d + 0) 60 0 [some (vI a0), some (vI a1)] [] A (some (vI r)) A' (r32 r)
  unfold x60_max at h
  refine rz_B.go 3 (pc' := if decide (Int32.ofInt a0 < Int32.ofInt a1) = true then 9 else 5) (L' := [some (vI a0), some (vI a1)]) (S' := []) rfl ?_
  by_cases hc1 : a1 ≤ a0
  · have h := if_T h hc1
    refine rz_B.ifF (mt (lt32 ha0 ha1).mp (Int.not_lt.mpr hc1)) ?_
    refine rz_B.go 2 (pc' := 10) (L' := [some (vI a0), some (vI a1)]) (S' := [vI a0]) rfl ?_
    cases h
    exact rz_B.ret rfl ha0 hw
  · have h := if_F h hc1
    refine rz_B.ifT ((lt32 ha0 ha1).mpr (Int.not_le.mp hc1)) ?_
    refine rz_B.go 1 (pc' := 10) (L' := [some (vI a0), some (vI a1)]) (S' := [vI a1]) rfl ?_
    cases h
    exact rz_B.ret rfl ha1 hw
/-- java/lang/Math.min(II)I -/
def x61_min (F : Nat) (a0 : Int) (a1 : Int) (A : rz_A) : Option (Int × rz_A) :=
  if a0 ≤ a1 then
    some (a0, A)
  else
    some (a1, A)
theorem cx61_min (F : Nat) {d : Nat} {a0 : Int} {a1 : Int} {A : rz_A} {r : Int} {A' : rz_A} (h : x61_min F a0 a1 A = some (r, A')) (ha0 : r32 a0) (ha1 : r32 a1) (hw : wf A) : rg_Rn (d + 0) 61 [vI a0, vI a1] (toM A) (some (vI r)) (toM A') ∧ (r32 r) ∧ wf A' := by
  show rz_B (d + 0) 61 0 [some (vI a0), some (vI a1)] [] A (some (vI r)) A' (r32 r)
  unfold x61_min at h
  refine rz_B.go 3 (pc' := if decide (Int32.ofInt a1 < Int32.ofInt a0) = true then 9 else 5) (L' := [some (vI a0), some (vI a1)]) (S' := []) rfl ?_
  by_cases hc1 : a0 ≤ a1
  · have h := if_T h hc1
    refine rz_B.ifF (mt (lt32 ha1 ha0).mp (Int.not_lt.mpr hc1)) ?_
    refine rz_B.go 2 (pc' := 10) (L' := [some (vI a0), some (vI a1)]) (S' := [vI a0]) rfl ?_
    cases h
    exact rz_B.ret rfl ha0 hw
  · have h := if_F h hc1
    refine rz_B.ifT ((lt32 ha1 ha0).mpr (Int.not_le.mp hc1)) ?_
    refine rz_B.go 1 (pc' := 10) (L' := [some (vI a0), some (vI a1)]) (S' := [vI a1]) rfl ?_
    cases h
    exact rz_B.ret rfl ha1 hw
def x62_indexOfChar_7 (F : Nat) : Nat → Int → Int → Int → rz_A → Option (Int × rz_A)
  | 0, _, _, _, _ => none
  | n + 1, v3, v4, v5, A =>
    if v5 < v3 then
      rz_gx v5 13 <|
      if (rz_letN (v5).toNat) = v4 then
        some (v5, A)
      else
        rz_g32 (v5 + 1) <|
        x62_indexOfChar_7 F n v3 v4 (v5 + 1) A
    else
      some ((-1), A)
theorem cx62_indexOfChar_7 {d : Nat} (F : Nat) : ∀ (n : Nat) (v3 : Int) (v4 : Int) (v5 : Int) (A : rz_A) (r : Int) (A' : rz_A), x62_indexOfChar_7 F n v3 v4 v5 A = some (r, A') → r32 v3 → r32 v4 → r32 v5 → wf A → rz_B (d + 0) 62 7 [some (.ref 150), none, none, some (vI v3), some (vI v4), some (vI v5)] [] A (some (vI r)) A' (r32 r) := by
  intro n
  induction n with
  | zero => intro v3 v4 v5 A r A' h; cases h
  | succ n ih =>
    intro v3 v4 v5 A r A' h hv3 hv4 hv5 hw
    rw [x62_indexOfChar_7] at h
    refine rz_B.go 3 (pc' := if decide (Int32.ofInt v3 ≤ Int32.ofInt v5) = true then 31 else 13) (L' := [some (.ref 150), none, none, some (vI v3), some (vI v4), some (vI v5)]) (S' := []) rfl ?_
    by_cases hc1 : v5 < v3
    · have h := if_T h hc1
      refine rz_B.ifF (mt (le32 hv3 hv5).mp (Int.not_le.mpr hc1)) ?_
      refine rz_B.go 2 (pc' := 16) (L' := [some (.ref 150), none, none, some (vI v3), some (vI v4), some (vI v5)]) (S' := [vI v5, .ref 150]) rfl ?_
      obtain ⟨hi2, hj3, h⟩ := rz_gx_inv h
      refine rz_B.bald rfl hi2 hj3 ?_
      refine rz_B.go 2 (pc' := if decide (¬ Int32.ofInt (rz_letN (v5).toNat) = Int32.ofInt v4) = true then 25 else 22) (L' := [some (.ref 150), none, none, some (vI v3), some (vI v4), some (vI v5)]) (S' := []) rfl ?_
      by_cases hc4 : (rz_letN (v5).toNat) = v4
      · have h := if_T h hc4
        refine rz_B.ifF (fun hn => hn ((eq32 r32_letN hv4).mpr hc4)) ?_
        refine rz_B.go 1 (pc' := 24) (L' := [some (.ref 150), none, none, some (vI v3), some (vI v4), some (vI v5)]) (S' := [vI v5]) rfl ?_
        cases h
        exact rz_B.ret rfl hv5 hw
      · have h := if_F h hc4
        refine rz_B.ifT (mt (eq32 r32_letN hv4).mp hc4) ?_
        obtain ⟨hk5, h⟩ := rz_g32_inv h
        refine rz_B.iinc rfl (by decide) rfl (L' := [some (.ref 150), none, none, some (vI v3), some (vI v4), some (vI (v5 + 1))]) rfl ?_
        refine rz_B.go 1 (pc' := 7) (L' := [some (.ref 150), none, none, some (vI v3), some (vI v4), some (vI (v5 + 1))]) (S' := []) rfl ?_
        refine rz_B.more (rg_le_ok (L := [some (.ref 150), none, none, some (vI v3), some (vI v4), some (vI (v5 + 1))]) (by simp [rg_le])) ?_
        exact ih _ _ _ _ _ _ h hv3 hv4 hk5 hw
    · have h := if_F h hc1
      refine rz_B.ifT ((le32 hv3 hv5).mpr (Int.not_lt.mp hc1)) ?_
      refine rz_B.go 1 (pc' := 32) (L' := [some (.ref 150), none, none, some (vI v3), some (vI v4), some (vI v5)]) (S' := [vI (-1)]) rfl ?_
      cases h
      exact rz_B.ret rfl (by decide) hw
/-- java/lang/StringLatin1.indexOfChar([BIII)I -/
def x62_indexOfChar (F : Nat) (a0 : Int) (a1 : Int) (a2 : Int) (A : rz_A) : Option (Int × rz_A) :=
  x62_indexOfChar_7 F F a2 (rz_o1 fByte a0) a1 A
theorem cx62_indexOfChar (F : Nat) {d : Nat} {a0 : Int} {a1 : Int} {a2 : Int} {A : rz_A} {r : Int} {A' : rz_A} (h : x62_indexOfChar F a0 a1 a2 A = some (r, A')) (ha0 : r32 a0) (ha1 : r32 a1) (ha2 : r32 a2) (hw : wf A) : rg_Rn (d + 0) 62 [.ref 150, vI a0, vI a1, vI a2] (toM A) (some (vI r)) (toM A') ∧ (r32 r) ∧ wf A' := by
  show rz_B (d + 0) 62 0 [some (.ref 150), some (vI a0), some (vI a1), some (vI a2), none, none] [] A (some (vI r)) A' (r32 r)
  unfold x62_indexOfChar at h
  refine rz_B.go 1 (pc' := 1) (L' := [some (.ref 150), some (vI a0), some (vI a1), some (vI a2), none, none]) (S' := [vI a0]) rfl ?_
  refine rz_B.o1 fByte rfl ?_
  refine rz_B.go 3 (pc' := 7) (L' := [some (.ref 150), some (vI a0), some (vI a1), some (vI a2), some (vI (rz_o1 fByte a0)), some (vI a1)]) (S' := []) rfl ?_
  refine rz_B.more (rg_le_ok (L := [some (.ref 150), none, none, some (vI a2), some (vI (rz_o1 fByte a0)), some (vI a1)]) (by simp [rg_le])) ?_
  exact cx62_indexOfChar_7 F F _ _ _ _ _ _ h ha2 r32_o1 ha1 hw
/-- java/lang/StringLatin1.indexOf([BIII)I -/
def x58_indexOf (F : Nat) (a0 : Int) (a1 : Int) (a2 : Int) (A : rz_A) : Option (Int × rz_A) :=
  rz_b (x59_canEncode F a0 A) fun r1 A1 =>
  if r1 = 0 then
    some ((-1), A1)
  else
    rz_b (x60_max F a1 0 A1) fun r3 A3 =>
    rz_b (x61_min F a2 13 A3) fun r4 A4 =>
    if r4 ≤ r3 then
      some ((-1), A4)
    else
      rz_b (x62_indexOfChar F a0 r3 r4 A4) fun r6 A6 =>
      some (r6, A6)
theorem cx58_indexOf (F : Nat) {d : Nat} {a0 : Int} {a1 : Int} {a2 : Int} {A : rz_A} {r : Int} {A' : rz_A} (h : x58_indexOf F a0 a1 a2 A = some (r, A')) (ha0 : r32 a0) (ha1 : r32 a1) (ha2 : r32 a2) (hw : wf A) : rg_Rn (d + 1) 58 [.ref 150, vI a0, vI a1, vI a2] (toM A) (some (vI r)) (toM A') ∧ (r32 r) ∧ wf A' := by
  show rz_B (d + 1) 58 0 [some (.ref 150), some (vI a0), some (vI a1), some (vI a2)] [] A (some (vI r)) A' (r32 r)
  unfold x58_indexOf at h
  refine rz_B.go 1 (pc' := 1) (L' := [some (.ref 150), some (vI a0), some (vI a1), some (vI a2)]) (S' := [vI a0]) rfl ?_
  obtain ⟨r1, A1, hf1, h⟩ := rz_b_inv h
  obtain ⟨hg1, hr1, hw1⟩ := cx59_canEncode F (d := d + 0) hf1 ha0 hw
  refine rz_B.call (d := d + 0) (as := [vI a0]) (rest := []) (w := some (vI r1)) rfl hg1 ?_
  refine rz_B.go 1 (pc' := if decide (¬ Int32.ofInt r1 = Int32.ofInt 0) = true then 9 else 7) (L' := [some (.ref 150), some (vI a0), some (vI a1), some (vI a2)]) (S' := []) rfl ?_
  by_cases hc2 : r1 = 0
  · have h := if_T h hc2
    refine rz_B.ifF (fun hn => hn ((eq32 hr1 (by decide)).mpr hc2)) ?_
    refine rz_B.go 1 (pc' := 8) (L' := [some (.ref 150), some (vI a0), some (vI a1), some (vI a2)]) (S' := [vI (-1)]) rfl ?_
    cases h
    exact rz_B.ret rfl (by decide) hw1
  · have h := if_F h hc2
    refine rz_B.ifT (mt (eq32 hr1 (by decide)).mp hc2) ?_
    refine rz_B.go 2 (pc' := 11) (L' := [some (.ref 150), some (vI a0), some (vI a1), some (vI a2)]) (S' := [vI 0, vI a1]) rfl ?_
    obtain ⟨r3, A3, hf3, h⟩ := rz_b_inv h
    obtain ⟨hg3, hr3, hw3⟩ := cx60_max F (d := d + 0) hf3 ha1 (by decide) hw1
    refine rz_B.call (d := d + 0) (as := [vI a1, vI 0]) (rest := []) (w := some (vI r3)) rfl hg3 ?_
    refine rz_B.go 4 (pc' := 18) (L' := [some (.ref 150), some (vI a0), some (vI r3), some (vI a2)]) (S' := [vI 13, vI a2]) rfl ?_
    obtain ⟨r4, A4, hf4, h⟩ := rz_b_inv h
    obtain ⟨hg4, hr4, hw4⟩ := cx61_min F (d := d + 0) hf4 ha2 (by decide) hw3
    refine rz_B.call (d := d + 0) (as := [vI a2, vI 13]) (rest := []) (w := some (vI r4)) rfl hg4 ?_
    refine rz_B.go 4 (pc' := if decide (Int32.ofInt r3 < Int32.ofInt r4) = true then 29 else 27) (L' := [some (.ref 150), some (vI a0), some (vI r3), some (vI r4)]) (S' := []) rfl ?_
    by_cases hc5 : r4 ≤ r3
    · have h := if_T h hc5
      refine rz_B.ifF (mt (lt32 hr3 hr4).mp (Int.not_lt.mpr hc5)) ?_
      refine rz_B.go 1 (pc' := 28) (L' := [some (.ref 150), some (vI a0), some (vI r3), some (vI r4)]) (S' := [vI (-1)]) rfl ?_
      cases h
      exact rz_B.ret rfl (by decide) hw4
    · have h := if_F h hc5
      refine rz_B.ifT ((lt32 hr3 hr4).mpr (Int.not_le.mp hc5)) ?_
      refine rz_B.go 4 (pc' := 33) (L' := [some (.ref 150), some (vI a0), some (vI r3), some (vI r4)]) (S' := [vI r4, vI r3, vI a0, .ref 150]) rfl ?_
      obtain ⟨r6, A6, hf6, h⟩ := rz_b_inv h
      obtain ⟨hg6, hr6, hw6⟩ := cx62_indexOfChar F (d := d + 0) hf6 ha0 hr3 hr4 hw4
      refine rz_B.call (d := d + 0) (as := [.ref 150, vI a0, vI r3, vI r4]) (rest := []) (w := some (vI r6)) rfl hg6 ?_
      cases h
      exact rz_B.ret rfl hr6 hw6
/-- java/lang/String.indexOf(II)I -/
def x54_indexOf (F : Nat) (a0 : Int) (a1 : Int) (A : rz_A) : Option (Int × rz_A) :=
  rz_b (x55_isLatin1 F A) fun r1 A1 =>
  if r1 = 0 then
    rz_b (x56_length F A1) fun r3 A3 =>
    none
  else
    rz_b (x56_length F A1) fun r4 A4 =>
    rz_b (x58_indexOf F a0 a1 r4 A4) fun r5 A5 =>
    some (r5, A5)
theorem cx54_indexOf (F : Nat) {d : Nat} {a0 : Int} {a1 : Int} {A : rz_A} {r : Int} {A' : rz_A} (h : x54_indexOf F a0 a1 A = some (r, A')) (ha0 : r32 a0) (ha1 : r32 a1) (hw : wf A) : rg_Rn (d + 2) 54 [.ref 149, vI a0, vI a1] (toM A) (some (vI r)) (toM A') ∧ (r32 r) ∧ wf A' := by
  show rz_B (d + 2) 54 0 [some (.ref 149), some (vI a0), some (vI a1)] [] A (some (vI r)) A' (r32 r)
  unfold x54_indexOf at h
  refine rz_B.go 1 (pc' := 1) (L' := [some (.ref 149), some (vI a0), some (vI a1)]) (S' := [.ref 149]) rfl ?_
  obtain ⟨r1, A1, hf1, h⟩ := rz_b_inv h
  obtain ⟨hg1, hr1, hw1⟩ := cx55_isLatin1 F (d := d + 1) hf1 hw
  refine rz_B.call (d := d + 1) (as := [.ref 149]) (rest := []) (w := some (vI r1)) rfl hg1 ?_
  refine rz_B.go 1 (pc' := if decide (Int32.ofInt r1 = Int32.ofInt 0) = true then 23 else 7) (L' := [some (.ref 149), some (vI a0), some (vI a1)]) (S' := []) rfl ?_
  by_cases hc2 : r1 = 0
  · have h := if_T h hc2
    refine rz_B.ifT ((eq32 hr1 (by decide)).mpr hc2) ?_
    refine rz_B.go 5 (pc' := 30) (L' := [some (.ref 149), some (vI a0), some (vI a1)]) (S' := [.ref 149, vI a1, vI a0, .ref 150]) rfl ?_
    obtain ⟨r3, A3, hf3, h⟩ := rz_b_inv h
    obtain ⟨hg3, hr3, hw3⟩ := cx56_length F (d := d + 0) hf3 hw1
    refine rz_B.call (d := d + 1) (as := [.ref 149]) (rest := [vI a1, vI a0, .ref 150]) (w := some (vI r3)) rfl hg3 ?_
    cases h
  · have h := if_F h hc2
    refine rz_B.ifF (mt (eq32 hr1 (by decide)).mp hc2) ?_
    refine rz_B.go 5 (pc' := 14) (L' := [some (.ref 149), some (vI a0), some (vI a1)]) (S' := [.ref 149, vI a1, vI a0, .ref 150]) rfl ?_
    obtain ⟨r4, A4, hf4, h⟩ := rz_b_inv h
    obtain ⟨hg4, hr4, hw4⟩ := cx56_length F (d := d + 0) hf4 hw1
    refine rz_B.call (d := d + 1) (as := [.ref 149]) (rest := [vI a1, vI a0, .ref 150]) (w := some (vI r4)) rfl hg4 ?_
    obtain ⟨r5, A5, hf5, h⟩ := rz_b_inv h
    obtain ⟨hg5, hr5, hw5⟩ := cx58_indexOf F (d := d + 0) hf5 ha0 ha1 hr4 hw4
    refine rz_B.call (d := d + 1) (as := [.ref 150, vI a0, vI a1, vI r4]) (rest := []) (w := some (vI r5)) rfl hg5 ?_
    refine rz_B.go 1 (pc' := 36) (L' := [some (.ref 149), some (vI a0), some (vI a1)]) (S' := [vI r5]) rfl ?_
    cases h
    exact rz_B.ret rfl hr5 hw5
/-- java/lang/String.indexOf(I)I -/
def x53_indexOf (F : Nat) (a0 : Int) (A : rz_A) : Option (Int × rz_A) :=
  rz_b (x54_indexOf F a0 0 A) fun r1 A1 =>
  some (r1, A1)
theorem cx53_indexOf (F : Nat) {d : Nat} {a0 : Int} {A : rz_A} {r : Int} {A' : rz_A} (h : x53_indexOf F a0 A = some (r, A')) (ha0 : r32 a0) (hw : wf A) : rg_Rn (d + 3) 53 [.ref 149, vI a0] (toM A) (some (vI r)) (toM A') ∧ (r32 r) ∧ wf A' := by
  show rz_B (d + 3) 53 0 [some (.ref 149), some (vI a0)] [] A (some (vI r)) A' (r32 r)
  unfold x53_indexOf at h
  refine rz_B.go 3 (pc' := 3) (L' := [some (.ref 149), some (vI a0)]) (S' := [vI 0, vI a0, .ref 149]) rfl ?_
  obtain ⟨r1, A1, hf1, h⟩ := rz_b_inv h
  obtain ⟨hg1, hr1, hw1⟩ := cx54_indexOf F (d := d + 0) hf1 ha0 (by decide) hw
  refine rz_B.call (d := d + 2) (as := [.ref 149, vI a0, vI 0]) (rest := []) (w := some (vI r1)) rfl hg1 ?_
  cases h
  exact rz_B.ret rfl hr1 hw1
def x52_readUnit_134 (F : Nat) (v2 : Int) (v3 : Int) (A : rz_A) : Option (Int × rz_A) :=
  if 0 < v3 then
    rz_b (x49_step F v2 A) fun _ A2 =>
    some (1, A2)
  else
    some (0, A)
theorem cx52_readUnit_134 {d : Nat} (F : Nat) : ∀ (v2 : Int) (v3 : Int) (A : rz_A) (r : Int) (A' : rz_A), x52_readUnit_134 F v2 v3 A = some (r, A') → r32 v2 → r32 v3 → wf A → rz_B (d + 4) 52 134 [some (.ref 40), none, some (vI v2), some (vI v3)] [] A (some (vI r)) A' (r32 r) := by
  intro v2 v3 A r A' h hv2 hv3 hw
  unfold x52_readUnit_134 at h
  refine rz_B.go 2 (pc' := if decide (Int32.ofInt v3 ≤ Int32.ofInt 0) = true then 143 else 138) (L' := [some (.ref 40), none, some (vI v2), some (vI v3)]) (S' := []) rfl ?_
  by_cases hc1 : 0 < v3
  · have h := if_T h hc1
    refine rz_B.ifF (mt (le32 hv3 (by decide)).mp (Int.not_le.mpr hc1)) ?_
    refine rz_B.go 2 (pc' := 140) (L' := [some (.ref 40), none, some (vI v2), some (vI v3)]) (S' := [vI v2, .ref 40]) rfl ?_
    obtain ⟨_, A2, hf2, h⟩ := rz_b_inv h
    obtain ⟨hg2, hr2, hw2⟩ := cx49_step F (d := d + 3) hf2 hv2 hw
    refine rz_B.call (d := d + 3) (as := [.ref 40, vI v2]) (rest := []) (w := none) rfl hg2 ?_
    refine rz_B.go 2 (pc' := if decide (Int32.ofInt v3 ≤ Int32.ofInt 0) = true then 151 else 147) (L' := [some (.ref 40), none, some (vI v2), some (vI v3)]) (S' := []) rfl ?_
    refine rz_B.ifF (mt (le32 hv3 (by decide)).mp (Int.not_le.mpr hc1)) ?_
    refine rz_B.go 2 (pc' := 152) (L' := [some (.ref 40), none, some (vI v2), some (vI v3)]) (S' := [vI 1]) rfl ?_
    cases h
    exact rz_B.ret rfl (by decide) hw2
  · have h := if_F h hc1
    refine rz_B.ifT ((le32 hv3 (by decide)).mpr (Int.not_lt.mp hc1)) ?_
    refine rz_B.go 2 (pc' := if decide (Int32.ofInt v3 ≤ Int32.ofInt 0) = true then 151 else 147) (L' := [some (.ref 40), none, some (vI v2), some (vI v3)]) (S' := []) rfl ?_
    refine rz_B.ifT ((le32 hv3 (by decide)).mpr (Int.not_lt.mp hc1)) ?_
    refine rz_B.go 1 (pc' := 152) (L' := [some (.ref 40), none, some (vI v2), some (vI v3)]) (S' := [vI 0]) rfl ?_
    cases h
    exact rz_B.ret rfl (by decide) hw
def x52_readUnit_56 (F : Nat) : Nat → Int → Int → rz_A → Option (Int × rz_A)
  | 0, _, _, _ => none
  | n + 1, v2, v3, A =>
    if v3 < 5 then
      if (A.1 40 4) < (A.1 40 1) then
        rz_gx (A.1 40 4) 60 <|
        if 48 ≤ (A.1 41 ((A.1 40 4)).toNat) then
          if (A.1 41 ((A.1 40 4)).toNat) ≤ 57 then
            rz_g32 (v2 * 10) <|
            rz_g32 ((v2 * 10) + (A.1 41 ((A.1 40 4)).toNat)) <|
            rz_g32 (((v2 * 10) + (A.1 41 ((A.1 40 4)).toNat)) - 48) <|
            rz_g32 (v3 + 1) <|
            rz_g32 ((A.1 40 4) + 1) <|
            x52_readUnit_56 F n (((v2 * 10) + (A.1 41 ((A.1 40 4)).toNat)) - 48) (v3 + 1) (aI A 40 4 ((A.1 40 4) + 1))
          else
            x52_readUnit_134 F v2 v3 A
        else
          x52_readUnit_134 F v2 v3 A
      else
        x52_readUnit_134 F v2 v3 A
    else
      x52_readUnit_134 F v2 v3 A
theorem cx52_readUnit_56 {d : Nat} (F : Nat) : ∀ (n : Nat) (v2 : Int) (v3 : Int) (A : rz_A) (r : Int) (A' : rz_A), x52_readUnit_56 F n v2 v3 A = some (r, A') → r32 v2 → r32 v3 → wf A → rz_B (d + 4) 52 56 [some (.ref 40), none, some (vI v2), some (vI v3)] [] A (some (vI r)) A' (r32 r) := by
  intro n
  induction n with
  | zero => intro v2 v3 A r A' h; cases h
  | succ n ih =>
    intro v2 v3 A r A' h hv2 hv3 hw
    rw [x52_readUnit_56] at h
    refine rz_B.go 3 (pc' := if decide (Int32.ofInt 5 ≤ Int32.ofInt v3) = true then 134 else 61) (L' := [some (.ref 40), none, some (vI v2), some (vI v3)]) (S' := []) rfl ?_
    by_cases hc1 : v3 < 5
    · have h := if_T h hc1
      refine rz_B.ifF (mt (le32 (by decide) hv3).mp (Int.not_le.mpr hc1)) ?_
      refine rz_B.go 5 (pc' := if decide (Int32.ofInt (A.1 40 1) ≤ Int32.ofInt (A.1 40 4)) = true then 134 else 72) (L' := [some (.ref 40), none, some (vI v2), some (vI v3)]) (S' := []) rfl ?_
      by_cases hc2 : (A.1 40 4) < (A.1 40 1)
      · have h := if_T h hc2
        refine rz_B.ifF (mt (le32 (hw 40 1).1 (hw 40 4).1).mp (Int.not_le.mpr hc2)) ?_
        refine rz_B.go 4 (pc' := 80) (L' := [some (.ref 40), none, some (vI v2), some (vI v3)]) (S' := [vI (A.1 40 4), .ref 41]) rfl ?_
        obtain ⟨hi3, hj4, h⟩ := rz_gx_inv h
        refine rz_B.iald rfl rfl hi3 hj4 (by decide) ?_
        refine rz_B.go 2 (pc' := if decide (Int32.ofInt (A.1 41 ((A.1 40 4)).toNat) < Int32.ofInt 48) = true then 134 else 86) (L' := [some (.ref 40), none, some (vI v2), some (vI v3)]) (S' := []) rfl ?_
        by_cases hc5 : 48 ≤ (A.1 41 ((A.1 40 4)).toNat)
        · have h := if_T h hc5
          refine rz_B.ifF (mt (lt32 (hw 41 ((A.1 40 4)).toNat).1 (by decide)).mp (Int.not_lt.mpr hc5)) ?_
          refine rz_B.go 4 (pc' := 94) (L' := [some (.ref 40), none, some (vI v2), some (vI v3)]) (S' := [vI (A.1 40 4), .ref 41]) rfl ?_
          refine rz_B.iald rfl rfl hi3 hj4 (by decide) ?_
          refine rz_B.go 2 (pc' := if decide (Int32.ofInt 57 < Int32.ofInt (A.1 41 ((A.1 40 4)).toNat)) = true then 134 else 100) (L' := [some (.ref 40), none, some (vI v2), some (vI v3)]) (S' := []) rfl ?_
          by_cases hc6 : (A.1 41 ((A.1 40 4)).toNat) ≤ 57
          · have h := if_T h hc6
            refine rz_B.ifF (mt (lt32 (by decide) (hw 41 ((A.1 40 4)).toNat).1).mp (Int.not_lt.mpr hc6)) ?_
            refine rz_B.go 2 (pc' := 103) (L' := [some (.ref 40), none, some (vI v2), some (vI v3)]) (S' := [vI 10, vI v2]) rfl ?_
            obtain ⟨hk7, h⟩ := rz_g32_inv h
            refine rz_B.imul rfl ?_
            refine rz_B.go 4 (pc' := 112) (L' := [some (.ref 40), none, some (vI v2), some (vI v3)]) (S' := [vI (A.1 40 4), .ref 41, vI (v2 * 10)]) rfl ?_
            refine rz_B.iald rfl rfl hi3 hj4 (by decide) ?_
            obtain ⟨hk8, h⟩ := rz_g32_inv h
            refine rz_B.iadd rfl ?_
            refine rz_B.go 1 (pc' := 116) (L' := [some (.ref 40), none, some (vI v2), some (vI v3)]) (S' := [vI 48, vI ((v2 * 10) + (A.1 41 ((A.1 40 4)).toNat))]) rfl ?_
            obtain ⟨hk9, h⟩ := rz_g32_inv h
            refine rz_B.isub rfl ?_
            refine rz_B.go 1 (pc' := 118) (L' := [some (.ref 40), none, some (vI (((v2 * 10) + (A.1 41 ((A.1 40 4)).toNat)) - 48)), some (vI v3)]) (S' := []) rfl ?_
            obtain ⟨hk10, h⟩ := rz_g32_inv h
            refine rz_B.iinc rfl (by decide) rfl (L' := [some (.ref 40), none, some (vI (((v2 * 10) + (A.1 41 ((A.1 40 4)).toNat)) - 48)), some (vI (v3 + 1))]) rfl ?_
            refine rz_B.go 4 (pc' := 127) (L' := [some (.ref 40), none, some (vI (((v2 * 10) + (A.1 41 ((A.1 40 4)).toNat)) - 48)), some (vI (v3 + 1))]) (S' := [vI 1, vI (A.1 40 4), .ref 40]) rfl ?_
            obtain ⟨hk11, h⟩ := rz_g32_inv h
            refine rz_B.iadd rfl ?_
            refine rz_B.put 1 (pc' := 131) (L' := [some (.ref 40), none, some (vI (((v2 * 10) + (A.1 41 ((A.1 40 4)).toNat)) - 48)), some (vI (v3 + 1))]) (S' := []) (c := 40) (k := 4) (x := ((A.1 40 4) + 1)) rfl ?_
            have hw12 : wf (aI A 40 4 ((A.1 40 4) + 1)) := wf_aI hw hk11
            refine rz_B.go 1 (pc' := 56) (L' := [some (.ref 40), none, some (vI (((v2 * 10) + (A.1 41 ((A.1 40 4)).toNat)) - 48)), some (vI (v3 + 1))]) (S' := []) rfl ?_
            refine rz_B.more (rg_le_ok (L := [some (.ref 40), none, some (vI (((v2 * 10) + (A.1 41 ((A.1 40 4)).toNat)) - 48)), some (vI (v3 + 1))]) (by simp [rg_le])) ?_
            exact ih _ _ _ _ _ h hk9 hk10 hw12
          · have h := if_F h hc6
            refine rz_B.ifT ((lt32 (by decide) (hw 41 ((A.1 40 4)).toNat).1).mpr (Int.not_le.mp hc6)) ?_
            refine rz_B.more (rg_le_ok (L := [some (.ref 40), none, some (vI v2), some (vI v3)]) (by simp [rg_le])) ?_
            exact cx52_readUnit_134 F _ _ _ _ _ h hv2 hv3 hw
        · have h := if_F h hc5
          refine rz_B.ifT ((lt32 (hw 41 ((A.1 40 4)).toNat).1 (by decide)).mpr (Int.not_le.mp hc5)) ?_
          refine rz_B.more (rg_le_ok (L := [some (.ref 40), none, some (vI v2), some (vI v3)]) (by simp [rg_le])) ?_
          exact cx52_readUnit_134 F _ _ _ _ _ h hv2 hv3 hw
      · have h := if_F h hc2
        refine rz_B.ifT ((le32 (hw 40 1).1 (hw 40 4).1).mpr (Int.not_lt.mp hc2)) ?_
        refine rz_B.more (rg_le_ok (L := [some (.ref 40), none, some (vI v2), some (vI v3)]) (by simp [rg_le])) ?_
        exact cx52_readUnit_134 F _ _ _ _ _ h hv2 hv3 hw
    · have h := if_F h hc1
      refine rz_B.ifT ((le32 (by decide) hv3).mpr (Int.not_lt.mp hc1)) ?_
      refine rz_B.more (rg_le_ok (L := [some (.ref 40), none, some (vI v2), some (vI v3)]) (by simp [rg_le])) ?_
      exact cx52_readUnit_134 F _ _ _ _ _ h hv2 hv3 hw
/-- RiverGauge$Tape.readUnit()Z -/
def x52_readUnit (F : Nat) (A : rz_A) : Option (Int × rz_A) :=
  if (A.1 40 1) ≤ (A.1 40 4) then
    some (0, A)
  else
    rz_gx (A.1 40 4) 60 <|
    rz_b (x53_indexOf F (rz_o1 fChr (A.1 41 ((A.1 40 4)).toNat)) A) fun r4 A4 =>
    if 0 ≤ r4 then
      rz_g32 ((A4.1 40 4) + 1) <|
      rz_g32 ((-1) - r4) <|
      rz_b (x49_step F ((-1) - r4) (aI A4 40 4 ((A4.1 40 4) + 1))) fun _ A9 =>
      some (1, A9)
    else
      x52_readUnit_56 F F 0 0 A4
theorem cx52_readUnit (F : Nat) {d : Nat} {A : rz_A} {r : Int} {A' : rz_A} (h : x52_readUnit F A = some (r, A')) (hw : wf A) : rg_Rn (d + 4) 52 [.ref 40] (toM A) (some (vI r)) (toM A') ∧ (r32 r) ∧ wf A' := by
  show rz_B (d + 4) 52 0 [some (.ref 40), none, none, none] [] A (some (vI r)) A' (r32 r)
  unfold x52_readUnit at h
  refine rz_B.go 5 (pc' := if decide (Int32.ofInt (A.1 40 4) < Int32.ofInt (A.1 40 1)) = true then 13 else 11) (L' := [some (.ref 40), none, none, none]) (S' := []) rfl ?_
  by_cases hc1 : (A.1 40 1) ≤ (A.1 40 4)
  · have h := if_T h hc1
    refine rz_B.ifF (mt (lt32 (hw 40 4).1 (hw 40 1).1).mp (Int.not_lt.mpr hc1)) ?_
    refine rz_B.go 1 (pc' := 12) (L' := [some (.ref 40), none, none, none]) (S' := [vI 0]) rfl ?_
    cases h
    exact rz_B.ret rfl (by decide) hw
  · have h := if_F h hc1
    refine rz_B.ifT ((lt32 (hw 40 4).1 (hw 40 1).1).mpr (Int.not_le.mp hc1)) ?_
    refine rz_B.go 5 (pc' := 23) (L' := [some (.ref 40), none, none, none]) (S' := [vI (A.1 40 4), .ref 41, .ref 149]) rfl ?_
    obtain ⟨hi2, hj3, h⟩ := rz_gx_inv h
    refine rz_B.iald rfl rfl hi2 hj3 (by decide) ?_
    refine rz_B.o1 fChr rfl ?_
    obtain ⟨r4, A4, hf4, h⟩ := rz_b_inv h
    obtain ⟨hg4, hr4, hw4⟩ := cx53_indexOf F (d := d + 0) hf4 r32_o1 hw
    refine rz_B.call (d := d + 3) (as := [.ref 149, vI (rz_o1 fChr (A.1 41 ((A.1 40 4)).toNat))]) (rest := []) (w := some (vI r4)) rfl hg4 ?_
    refine rz_B.go 3 (pc' := if decide (Int32.ofInt r4 < Int32.ofInt 0) = true then 52 else 33) (L' := [some (.ref 40), some (vI r4), none, none]) (S' := []) rfl ?_
    by_cases hc5 : 0 ≤ r4
    · have h := if_T h hc5
      refine rz_B.ifF (mt (lt32 hr4 (by decide)).mp (Int.not_lt.mpr hc5)) ?_
      refine rz_B.go 4 (pc' := 39) (L' := [some (.ref 40), some (vI r4), none, none]) (S' := [vI 1, vI (A4.1 40 4), .ref 40]) rfl ?_
      obtain ⟨hk6, h⟩ := rz_g32_inv h
      refine rz_B.iadd rfl ?_
      refine rz_B.put 1 (pc' := 43) (L' := [some (.ref 40), some (vI r4), none, none]) (S' := []) (c := 40) (k := 4) (x := ((A4.1 40 4) + 1)) rfl ?_
      have hw7 : wf (aI A4 40 4 ((A4.1 40 4) + 1)) := wf_aI hw4 hk6
      refine rz_B.go 3 (pc' := 46) (L' := [some (.ref 40), some (vI r4), none, none]) (S' := [vI r4, vI (-1), .ref 40]) rfl ?_
      obtain ⟨hk8, h⟩ := rz_g32_inv h
      refine rz_B.isub rfl ?_
      obtain ⟨_, A9, hf9, h⟩ := rz_b_inv h
      obtain ⟨hg9, hr9, hw9⟩ := cx49_step F (d := d + 3) hf9 hk8 hw7
      refine rz_B.call (d := d + 3) (as := [.ref 40, vI ((-1) - r4)]) (rest := []) (w := none) rfl hg9 ?_
      refine rz_B.go 1 (pc' := 51) (L' := [some (.ref 40), some (vI r4), none, none]) (S' := [vI 1]) rfl ?_
      cases h
      exact rz_B.ret rfl (by decide) hw9
    · have h := if_F h hc5
      refine rz_B.ifT ((lt32 hr4 (by decide)).mpr (Int.not_le.mp hc5)) ?_
      refine rz_B.go 4 (pc' := 56) (L' := [some (.ref 40), some (vI r4), some (vI 0), some (vI 0)]) (S' := []) rfl ?_
      refine rz_B.more (rg_le_ok (L := [some (.ref 40), none, some (vI 0), some (vI 0)]) (by simp [rg_le])) ?_
      exact cx52_readUnit_56 F F _ _ _ _ _ h (by decide) (by decide) hw4
def x51_readSum_11 (F : Nat) : Nat → Int → rz_A → Option (Int × rz_A)
  | 0, _, _ => none
  | n + 1, v1, A =>
    if v1 < 60 then
      rz_b (x47_isNext F 43 A) fun r2 A2 =>
      if r2 = 0 then
        rz_b (x47_isNext F 45 A2) fun r4 A4 =>
        if r4 = 0 then
          rz_b (x47_isNext F 42 A4) fun r6 A6 =>
          if r6 = 0 then
            some (1, A6)
          else
            rz_g32 ((A6.1 40 4) + 1) <|
            rz_b (x52_readUnit F (aI A6 40 4 ((A6.1 40 4) + 1))) fun r10 A10 =>
            if r10 = 0 then
              some (0, A10)
            else
              rz_b (x49_step F (-28) A10) fun _ A12 =>
              rz_g32 (v1 + 1) <|
              x51_readSum_11 F n (v1 + 1) A12
        else
          rz_g32 ((A4.1 40 4) + 1) <|
          rz_b (x52_readUnit F (aI A4 40 4 ((A4.1 40 4) + 1))) fun r16 A16 =>
          if r16 = 0 then
            some (0, A16)
          else
            rz_b (x49_step F (-27) A16) fun _ A18 =>
            rz_g32 (v1 + 1) <|
            x51_readSum_11 F n (v1 + 1) A18
      else
        rz_g32 ((A2.1 40 4) + 1) <|
        rz_b (x52_readUnit F (aI A2 40 4 ((A2.1 40 4) + 1))) fun r22 A22 =>
        if r22 = 0 then
          some (0, A22)
        else
          rz_b (x49_step F (-26) A22) fun _ A24 =>
          rz_g32 (v1 + 1) <|
          x51_readSum_11 F n (v1 + 1) A24
    else
      some (1, A)
theorem cx51_readSum_11 {d : Nat} (F : Nat) : ∀ (n : Nat) (v1 : Int) (A : rz_A) (r : Int) (A' : rz_A), x51_readSum_11 F n v1 A = some (r, A') → r32 v1 → wf A → rz_B (d + 5) 51 11 [some (.ref 40), some (vI v1), none] [] A (some (vI r)) A' (r32 r) := by
  intro n
  induction n with
  | zero => intro v1 A r A' h; cases h
  | succ n ih =>
    intro v1 A r A' h hv1 hw
    rw [x51_readSum_11] at h
    refine rz_B.go 3 (pc' := if decide (Int32.ofInt 60 ≤ Int32.ofInt v1) = true then 97 else 17) (L' := [some (.ref 40), some (vI v1), none]) (S' := []) rfl ?_
    by_cases hc1 : v1 < 60
    · have h := if_T h hc1
      refine rz_B.ifF (mt (le32 (by decide) hv1).mp (Int.not_le.mpr hc1)) ?_
      refine rz_B.go 2 (pc' := 20) (L' := [some (.ref 40), some (vI v1), none]) (S' := [vI 43, .ref 40]) rfl ?_
      obtain ⟨r2, A2, hf2, h⟩ := rz_b_inv h
      obtain ⟨hg2, hr2, hw2⟩ := cx47_isNext F (d := d + 4) hf2 (by decide) hw
      refine rz_B.call (d := d + 4) (as := [.ref 40, vI 43]) (rest := []) (w := some (vI r2)) rfl hg2 ?_
      refine rz_B.go 1 (pc' := if decide (Int32.ofInt r2 = Int32.ofInt 0) = true then 31 else 26) (L' := [some (.ref 40), some (vI v1), none]) (S' := []) rfl ?_
      by_cases hc3 : r2 = 0
      · have h := if_T h hc3
        refine rz_B.ifT ((eq32 hr2 (by decide)).mpr hc3) ?_
        refine rz_B.go 2 (pc' := 34) (L' := [some (.ref 40), some (vI v1), none]) (S' := [vI 45, .ref 40]) rfl ?_
        obtain ⟨r4, A4, hf4, h⟩ := rz_b_inv h
        obtain ⟨hg4, hr4, hw4⟩ := cx47_isNext F (d := d + 4) hf4 (by decide) hw2
        refine rz_B.call (d := d + 4) (as := [.ref 40, vI 45]) (rest := []) (w := some (vI r4)) rfl hg4 ?_
        refine rz_B.go 1 (pc' := if decide (Int32.ofInt r4 = Int32.ofInt 0) = true then 45 else 40) (L' := [some (.ref 40), some (vI v1), none]) (S' := []) rfl ?_
        by_cases hc5 : r4 = 0
        · have h := if_T h hc5
          refine rz_B.ifT ((eq32 hr4 (by decide)).mpr hc5) ?_
          refine rz_B.go 2 (pc' := 48) (L' := [some (.ref 40), some (vI v1), none]) (S' := [vI 42, .ref 40]) rfl ?_
          obtain ⟨r6, A6, hf6, h⟩ := rz_b_inv h
          obtain ⟨hg6, hr6, hw6⟩ := cx47_isNext F (d := d + 4) hf6 (by decide) hw4
          refine rz_B.call (d := d + 4) (as := [.ref 40, vI 42]) (rest := []) (w := some (vI r6)) rfl hg6 ?_
          refine rz_B.go 1 (pc' := if decide (Int32.ofInt r6 = Int32.ofInt 0) = true then 59 else 54) (L' := [some (.ref 40), some (vI v1), none]) (S' := []) rfl ?_
          by_cases hc7 : r6 = 0
          · have h := if_T h hc7
            refine rz_B.ifT ((eq32 hr6 (by decide)).mpr hc7) ?_
            refine rz_B.go 5 (pc' := 66) (L' := [some (.ref 40), some (vI v1), some (vI 0)]) (S' := [vI 1]) rfl ?_
            cases h
            exact rz_B.ret rfl (by decide) hw6
          · have h := if_F h hc7
            refine rz_B.ifF (mt (eq32 hr6 (by decide)).mp hc7) ?_
            refine rz_B.go 9 (pc' := 73) (L' := [some (.ref 40), some (vI v1), some (vI (-28))]) (S' := [vI 1, vI (A6.1 40 4), .ref 40]) rfl ?_
            obtain ⟨hk8, h⟩ := rz_g32_inv h
            refine rz_B.iadd rfl ?_
            refine rz_B.put 1 (pc' := 77) (L' := [some (.ref 40), some (vI v1), some (vI (-28))]) (S' := []) (c := 40) (k := 4) (x := ((A6.1 40 4) + 1)) rfl ?_
            have hw9 : wf (aI A6 40 4 ((A6.1 40 4) + 1)) := wf_aI hw6 hk8
            refine rz_B.go 1 (pc' := 78) (L' := [some (.ref 40), some (vI v1), some (vI (-28))]) (S' := [.ref 40]) rfl ?_
            obtain ⟨r10, A10, hf10, h⟩ := rz_b_inv h
            obtain ⟨hg10, hr10, hw10⟩ := cx52_readUnit F (d := d + 0) hf10 hw9
            refine rz_B.call (d := d + 4) (as := [.ref 40]) (rest := []) (w := some (vI r10)) rfl hg10 ?_
            refine rz_B.go 1 (pc' := if decide (¬ Int32.ofInt r10 = Int32.ofInt 0) = true then 86 else 84) (L' := [some (.ref 40), some (vI v1), some (vI (-28))]) (S' := []) rfl ?_
            by_cases hc11 : r10 = 0
            · have h := if_T h hc11
              refine rz_B.ifF (fun hn => hn ((eq32 hr10 (by decide)).mpr hc11)) ?_
              refine rz_B.go 1 (pc' := 85) (L' := [some (.ref 40), some (vI v1), some (vI (-28))]) (S' := [vI 0]) rfl ?_
              cases h
              exact rz_B.ret rfl (by decide) hw10
            · have h := if_F h hc11
              refine rz_B.ifT (mt (eq32 hr10 (by decide)).mp hc11) ?_
              refine rz_B.go 2 (pc' := 88) (L' := [some (.ref 40), some (vI v1), some (vI (-28))]) (S' := [vI (-28), .ref 40]) rfl ?_
              obtain ⟨_, A12, hf12, h⟩ := rz_b_inv h
              obtain ⟨hg12, hr12, hw12⟩ := cx49_step F (d := d + 4) hf12 (by decide) hw10
              refine rz_B.call (d := d + 4) (as := [.ref 40, vI (-28)]) (rest := []) (w := none) rfl hg12 ?_
              obtain ⟨hk13, h⟩ := rz_g32_inv h
              refine rz_B.iinc rfl (by decide) rfl (L' := [some (.ref 40), some (vI (v1 + 1)), some (vI (-28))]) rfl ?_
              refine rz_B.go 1 (pc' := 11) (L' := [some (.ref 40), some (vI (v1 + 1)), some (vI (-28))]) (S' := []) rfl ?_
              refine rz_B.more (rg_le_ok (L := [some (.ref 40), some (vI (v1 + 1)), none]) (by simp [rg_le])) ?_
              exact ih _ _ _ _ h hk13 hw12
        · have h := if_F h hc5
          refine rz_B.ifF (mt (eq32 hr4 (by decide)).mp hc5) ?_
          refine rz_B.go 9 (pc' := 73) (L' := [some (.ref 40), some (vI v1), some (vI (-27))]) (S' := [vI 1, vI (A4.1 40 4), .ref 40]) rfl ?_
          obtain ⟨hk14, h⟩ := rz_g32_inv h
          refine rz_B.iadd rfl ?_
          refine rz_B.put 1 (pc' := 77) (L' := [some (.ref 40), some (vI v1), some (vI (-27))]) (S' := []) (c := 40) (k := 4) (x := ((A4.1 40 4) + 1)) rfl ?_
          have hw15 : wf (aI A4 40 4 ((A4.1 40 4) + 1)) := wf_aI hw4 hk14
          refine rz_B.go 1 (pc' := 78) (L' := [some (.ref 40), some (vI v1), some (vI (-27))]) (S' := [.ref 40]) rfl ?_
          obtain ⟨r16, A16, hf16, h⟩ := rz_b_inv h
          obtain ⟨hg16, hr16, hw16⟩ := cx52_readUnit F (d := d + 0) hf16 hw15
          refine rz_B.call (d := d + 4) (as := [.ref 40]) (rest := []) (w := some (vI r16)) rfl hg16 ?_
          refine rz_B.go 1 (pc' := if decide (¬ Int32.ofInt r16 = Int32.ofInt 0) = true then 86 else 84) (L' := [some (.ref 40), some (vI v1), some (vI (-27))]) (S' := []) rfl ?_
          by_cases hc17 : r16 = 0
          · have h := if_T h hc17
            refine rz_B.ifF (fun hn => hn ((eq32 hr16 (by decide)).mpr hc17)) ?_
            refine rz_B.go 1 (pc' := 85) (L' := [some (.ref 40), some (vI v1), some (vI (-27))]) (S' := [vI 0]) rfl ?_
            cases h
            exact rz_B.ret rfl (by decide) hw16
          · have h := if_F h hc17
            refine rz_B.ifT (mt (eq32 hr16 (by decide)).mp hc17) ?_
            refine rz_B.go 2 (pc' := 88) (L' := [some (.ref 40), some (vI v1), some (vI (-27))]) (S' := [vI (-27), .ref 40]) rfl ?_
            obtain ⟨_, A18, hf18, h⟩ := rz_b_inv h
            obtain ⟨hg18, hr18, hw18⟩ := cx49_step F (d := d + 4) hf18 (by decide) hw16
            refine rz_B.call (d := d + 4) (as := [.ref 40, vI (-27)]) (rest := []) (w := none) rfl hg18 ?_
            obtain ⟨hk19, h⟩ := rz_g32_inv h
            refine rz_B.iinc rfl (by decide) rfl (L' := [some (.ref 40), some (vI (v1 + 1)), some (vI (-27))]) rfl ?_
            refine rz_B.go 1 (pc' := 11) (L' := [some (.ref 40), some (vI (v1 + 1)), some (vI (-27))]) (S' := []) rfl ?_
            refine rz_B.more (rg_le_ok (L := [some (.ref 40), some (vI (v1 + 1)), none]) (by simp [rg_le])) ?_
            exact ih _ _ _ _ h hk19 hw18
      · have h := if_F h hc3
        refine rz_B.ifF (mt (eq32 hr2 (by decide)).mp hc3) ?_
        refine rz_B.go 9 (pc' := 73) (L' := [some (.ref 40), some (vI v1), some (vI (-26))]) (S' := [vI 1, vI (A2.1 40 4), .ref 40]) rfl ?_
        obtain ⟨hk20, h⟩ := rz_g32_inv h
        refine rz_B.iadd rfl ?_
        refine rz_B.put 1 (pc' := 77) (L' := [some (.ref 40), some (vI v1), some (vI (-26))]) (S' := []) (c := 40) (k := 4) (x := ((A2.1 40 4) + 1)) rfl ?_
        have hw21 : wf (aI A2 40 4 ((A2.1 40 4) + 1)) := wf_aI hw2 hk20
        refine rz_B.go 1 (pc' := 78) (L' := [some (.ref 40), some (vI v1), some (vI (-26))]) (S' := [.ref 40]) rfl ?_
        obtain ⟨r22, A22, hf22, h⟩ := rz_b_inv h
        obtain ⟨hg22, hr22, hw22⟩ := cx52_readUnit F (d := d + 0) hf22 hw21
        refine rz_B.call (d := d + 4) (as := [.ref 40]) (rest := []) (w := some (vI r22)) rfl hg22 ?_
        refine rz_B.go 1 (pc' := if decide (¬ Int32.ofInt r22 = Int32.ofInt 0) = true then 86 else 84) (L' := [some (.ref 40), some (vI v1), some (vI (-26))]) (S' := []) rfl ?_
        by_cases hc23 : r22 = 0
        · have h := if_T h hc23
          refine rz_B.ifF (fun hn => hn ((eq32 hr22 (by decide)).mpr hc23)) ?_
          refine rz_B.go 1 (pc' := 85) (L' := [some (.ref 40), some (vI v1), some (vI (-26))]) (S' := [vI 0]) rfl ?_
          cases h
          exact rz_B.ret rfl (by decide) hw22
        · have h := if_F h hc23
          refine rz_B.ifT (mt (eq32 hr22 (by decide)).mp hc23) ?_
          refine rz_B.go 2 (pc' := 88) (L' := [some (.ref 40), some (vI v1), some (vI (-26))]) (S' := [vI (-26), .ref 40]) rfl ?_
          obtain ⟨_, A24, hf24, h⟩ := rz_b_inv h
          obtain ⟨hg24, hr24, hw24⟩ := cx49_step F (d := d + 4) hf24 (by decide) hw22
          refine rz_B.call (d := d + 4) (as := [.ref 40, vI (-26)]) (rest := []) (w := none) rfl hg24 ?_
          obtain ⟨hk25, h⟩ := rz_g32_inv h
          refine rz_B.iinc rfl (by decide) rfl (L' := [some (.ref 40), some (vI (v1 + 1)), some (vI (-26))]) rfl ?_
          refine rz_B.go 1 (pc' := 11) (L' := [some (.ref 40), some (vI (v1 + 1)), some (vI (-26))]) (S' := []) rfl ?_
          refine rz_B.more (rg_le_ok (L := [some (.ref 40), some (vI (v1 + 1)), none]) (by simp [rg_le])) ?_
          exact ih _ _ _ _ h hk25 hw24
    · have h := if_F h hc1
      refine rz_B.ifT ((le32 (by decide) hv1).mpr (Int.not_lt.mp hc1)) ?_
      refine rz_B.go 1 (pc' := 98) (L' := [some (.ref 40), some (vI v1), none]) (S' := [vI 1]) rfl ?_
      cases h
      exact rz_B.ret rfl (by decide) hw
/-- RiverGauge$Tape.readSum()Z -/
def x51_readSum (F : Nat) (A : rz_A) : Option (Int × rz_A) :=
  rz_b (x52_readUnit F A) fun r1 A1 =>
  if r1 = 0 then
    some (0, A1)
  else
    x51_readSum_11 F F 0 A1
theorem cx51_readSum (F : Nat) {d : Nat} {A : rz_A} {r : Int} {A' : rz_A} (h : x51_readSum F A = some (r, A')) (hw : wf A) : rg_Rn (d + 5) 51 [.ref 40] (toM A) (some (vI r)) (toM A') ∧ (r32 r) ∧ wf A' := by
  show rz_B (d + 5) 51 0 [some (.ref 40), none, none] [] A (some (vI r)) A' (r32 r)
  unfold x51_readSum at h
  refine rz_B.go 1 (pc' := 1) (L' := [some (.ref 40), none, none]) (S' := [.ref 40]) rfl ?_
  obtain ⟨r1, A1, hf1, h⟩ := rz_b_inv h
  obtain ⟨hg1, hr1, hw1⟩ := cx52_readUnit F (d := d + 0) hf1 hw
  refine rz_B.call (d := d + 4) (as := [.ref 40]) (rest := []) (w := some (vI r1)) rfl hg1 ?_
  refine rz_B.go 1 (pc' := if decide (¬ Int32.ofInt r1 = Int32.ofInt 0) = true then 9 else 7) (L' := [some (.ref 40), none, none]) (S' := []) rfl ?_
  by_cases hc2 : r1 = 0
  · have h := if_T h hc2
    refine rz_B.ifF (fun hn => hn ((eq32 hr1 (by decide)).mpr hc2)) ?_
    refine rz_B.go 1 (pc' := 8) (L' := [some (.ref 40), none, none]) (S' := [vI 0]) rfl ?_
    cases h
    exact rz_B.ret rfl (by decide) hw1
  · have h := if_F h hc2
    refine rz_B.ifT (mt (eq32 hr1 (by decide)).mp hc2) ?_
    refine rz_B.go 2 (pc' := 11) (L' := [some (.ref 40), some (vI 0), none]) (S' := []) rfl ?_
    refine rz_B.more (rg_le_ok (L := [some (.ref 40), some (vI 0), none]) (by simp [rg_le])) ?_
    exact cx51_readSum_11 F F _ _ _ _ h (by decide) hw1
/-- RiverGauge$Tape.readGroup(I)Z -/
def x50_readGroup (F : Nat) (oT oO : Int → rz_A → Option (Int × rz_A)) (a0 : Int) (A : rz_A) : Option (Int × rz_A) :=
  if 5 ≤ a0 then
    some (0, A)
  else
    rz_g32 ((A.1 40 4) + 1) <|
    rz_g32 (a0 + 1) <|
    rz_b (oO (a0 + 1) (aI A 40 4 ((A.1 40 4) + 1))) fun r5 A5 =>
    if r5 = 0 then
      some (0, A5)
    else
      rz_b (x47_isNext F 41 A5) fun r7 A7 =>
      if r7 = 0 then
        some (0, A7)
      else
        rz_g32 ((A7.1 40 4) + 1) <|
        some (1, (aI A7 40 4 ((A7.1 40 4) + 1)))
theorem cx50_readGroup (F : Nat) {oT oO : Int → rz_A → Option (Int × rz_A)} {e : Nat} (hT : ∀ (d : Nat) (a : Int) (A : rz_A) (r : Int) (A' : rz_A), oT a A = some (r, A') → r32 a → wf A → rg_Rn (d + e + 8) 46 [.ref 40, vI a] (toM A) (some (vI r)) (toM A') ∧ r32 r ∧ wf A') (hO : ∀ (d : Nat) (a : Int) (A : rz_A) (r : Int) (A' : rz_A), oO a A = some (r, A') → r32 a → wf A → rg_Rn (d + e + 8) 44 [.ref 40, vI a] (toM A) (some (vI r)) (toM A') ∧ r32 r ∧ wf A') {d : Nat} {a0 : Int} {A : rz_A} {r : Int} {A' : rz_A} (h : x50_readGroup F oT oO a0 A = some (r, A')) (ha0 : r32 a0) (hw : wf A) : rg_Rn (d + e + 9) 50 [.ref 40, vI a0] (toM A) (some (vI r)) (toM A') ∧ (r32 r) ∧ wf A' := by
  show rz_B (d + e + 9) 50 0 [some (.ref 40), some (vI a0)] [] A (some (vI r)) A' (r32 r)
  unfold x50_readGroup at h
  refine rz_B.go 3 (pc' := if decide (Int32.ofInt a0 < Int32.ofInt 5) = true then 7 else 5) (L' := [some (.ref 40), some (vI a0)]) (S' := []) rfl ?_
  by_cases hc1 : 5 ≤ a0
  · have h := if_T h hc1
    refine rz_B.ifF (mt (lt32 ha0 (by decide)).mp (Int.not_lt.mpr hc1)) ?_
    refine rz_B.go 1 (pc' := 6) (L' := [some (.ref 40), some (vI a0)]) (S' := [vI 0]) rfl ?_
    cases h
    exact rz_B.ret rfl (by decide) hw
  · have h := if_F h hc1
    refine rz_B.ifT ((lt32 ha0 (by decide)).mpr (Int.not_le.mp hc1)) ?_
    refine rz_B.go 4 (pc' := 13) (L' := [some (.ref 40), some (vI a0)]) (S' := [vI 1, vI (A.1 40 4), .ref 40]) rfl ?_
    obtain ⟨hk2, h⟩ := rz_g32_inv h
    refine rz_B.iadd rfl ?_
    refine rz_B.put 1 (pc' := 17) (L' := [some (.ref 40), some (vI a0)]) (S' := []) (c := 40) (k := 4) (x := ((A.1 40 4) + 1)) rfl ?_
    have hw3 : wf (aI A 40 4 ((A.1 40 4) + 1)) := wf_aI hw hk2
    refine rz_B.go 3 (pc' := 20) (L' := [some (.ref 40), some (vI a0)]) (S' := [vI 1, vI a0, .ref 40]) rfl ?_
    obtain ⟨hk4, h⟩ := rz_g32_inv h
    refine rz_B.iadd rfl ?_
    obtain ⟨r5, A5, hf5, h⟩ := rz_b_inv h
    obtain ⟨hg5, hr5, hw5⟩ := hO d _ _ _ _ hf5 hk4 hw3
    refine rz_B.call (d := d + e + 8) (as := [.ref 40, vI (a0 + 1)]) (rest := []) (w := some (vI r5)) rfl hg5 ?_
    refine rz_B.go 1 (pc' := if decide (Int32.ofInt r5 = Int32.ofInt 0) = true then 36 else 27) (L' := [some (.ref 40), some (vI a0)]) (S' := []) rfl ?_
    by_cases hc6 : r5 = 0
    · have h := if_T h hc6
      refine rz_B.ifT ((eq32 hr5 (by decide)).mpr hc6) ?_
      refine rz_B.go 1 (pc' := 37) (L' := [some (.ref 40), some (vI a0)]) (S' := [vI 0]) rfl ?_
      cases h
      exact rz_B.ret rfl (by decide) hw5
    · have h := if_F h hc6
      refine rz_B.ifF (mt (eq32 hr5 (by decide)).mp hc6) ?_
      refine rz_B.go 2 (pc' := 30) (L' := [some (.ref 40), some (vI a0)]) (S' := [vI 41, .ref 40]) rfl ?_
      obtain ⟨r7, A7, hf7, h⟩ := rz_b_inv h
      obtain ⟨hg7, hr7, hw7⟩ := cx47_isNext F (d := d + e + 8) hf7 (by decide) hw5
      refine rz_B.call (d := d + e + 8) (as := [.ref 40, vI 41]) (rest := []) (w := some (vI r7)) rfl hg7 ?_
      refine rz_B.go 1 (pc' := if decide (¬ Int32.ofInt r7 = Int32.ofInt 0) = true then 38 else 36) (L' := [some (.ref 40), some (vI a0)]) (S' := []) rfl ?_
      by_cases hc8 : r7 = 0
      · have h := if_T h hc8
        refine rz_B.ifF (fun hn => hn ((eq32 hr7 (by decide)).mpr hc8)) ?_
        refine rz_B.go 1 (pc' := 37) (L' := [some (.ref 40), some (vI a0)]) (S' := [vI 0]) rfl ?_
        cases h
        exact rz_B.ret rfl (by decide) hw7
      · have h := if_F h hc8
        refine rz_B.ifT (mt (eq32 hr7 (by decide)).mp hc8) ?_
        refine rz_B.go 4 (pc' := 44) (L' := [some (.ref 40), some (vI a0)]) (S' := [vI 1, vI (A7.1 40 4), .ref 40]) rfl ?_
        obtain ⟨hk9, h⟩ := rz_g32_inv h
        refine rz_B.iadd rfl ?_
        refine rz_B.put 1 (pc' := 48) (L' := [some (.ref 40), some (vI a0)]) (S' := []) (c := 40) (k := 4) (x := ((A7.1 40 4) + 1)) rfl ?_
        have hw10 : wf (aI A7 40 4 ((A7.1 40 4) + 1)) := wf_aI hw7 hk9
        refine rz_B.go 1 (pc' := 49) (L' := [some (.ref 40), some (vI a0)]) (S' := [vI 1]) rfl ?_
        cases h
        exact rz_B.ret rfl (by decide) hw10
/-- RiverGauge$Tape.readNot(I)Z -/
def x48_readNot (F : Nat) (oT oO : Int → rz_A → Option (Int × rz_A)) (a0 : Int) (A : rz_A) : Option (Int × rz_A) :=
  if 5 ≤ a0 then
    some (0, A)
  else
    rz_g32 ((A.1 40 4) + 1) <|
    rz_g32 (a0 + 1) <|
    rz_b (oT (a0 + 1) (aI A 40 4 ((A.1 40 4) + 1))) fun r5 A5 =>
    if r5 = 0 then
      some (0, A5)
    else
      rz_b (x49_step F (-20) A5) fun _ A7 =>
      some (1, A7)
theorem cx48_readNot (F : Nat) {oT oO : Int → rz_A → Option (Int × rz_A)} {e : Nat} (hT : ∀ (d : Nat) (a : Int) (A : rz_A) (r : Int) (A' : rz_A), oT a A = some (r, A') → r32 a → wf A → rg_Rn (d + e + 8) 46 [.ref 40, vI a] (toM A) (some (vI r)) (toM A') ∧ r32 r ∧ wf A') (hO : ∀ (d : Nat) (a : Int) (A : rz_A) (r : Int) (A' : rz_A), oO a A = some (r, A') → r32 a → wf A → rg_Rn (d + e + 8) 44 [.ref 40, vI a] (toM A) (some (vI r)) (toM A') ∧ r32 r ∧ wf A') {d : Nat} {a0 : Int} {A : rz_A} {r : Int} {A' : rz_A} (h : x48_readNot F oT oO a0 A = some (r, A')) (ha0 : r32 a0) (hw : wf A) : rg_Rn (d + e + 9) 48 [.ref 40, vI a0] (toM A) (some (vI r)) (toM A') ∧ (r32 r) ∧ wf A' := by
  show rz_B (d + e + 9) 48 0 [some (.ref 40), some (vI a0)] [] A (some (vI r)) A' (r32 r)
  unfold x48_readNot at h
  refine rz_B.go 3 (pc' := if decide (Int32.ofInt a0 < Int32.ofInt 5) = true then 7 else 5) (L' := [some (.ref 40), some (vI a0)]) (S' := []) rfl ?_
  by_cases hc1 : 5 ≤ a0
  · have h := if_T h hc1
    refine rz_B.ifF (mt (lt32 ha0 (by decide)).mp (Int.not_lt.mpr hc1)) ?_
    refine rz_B.go 1 (pc' := 6) (L' := [some (.ref 40), some (vI a0)]) (S' := [vI 0]) rfl ?_
    cases h
    exact rz_B.ret rfl (by decide) hw
  · have h := if_F h hc1
    refine rz_B.ifT ((lt32 ha0 (by decide)).mpr (Int.not_le.mp hc1)) ?_
    refine rz_B.go 4 (pc' := 13) (L' := [some (.ref 40), some (vI a0)]) (S' := [vI 1, vI (A.1 40 4), .ref 40]) rfl ?_
    obtain ⟨hk2, h⟩ := rz_g32_inv h
    refine rz_B.iadd rfl ?_
    refine rz_B.put 1 (pc' := 17) (L' := [some (.ref 40), some (vI a0)]) (S' := []) (c := 40) (k := 4) (x := ((A.1 40 4) + 1)) rfl ?_
    have hw3 : wf (aI A 40 4 ((A.1 40 4) + 1)) := wf_aI hw hk2
    refine rz_B.go 3 (pc' := 20) (L' := [some (.ref 40), some (vI a0)]) (S' := [vI 1, vI a0, .ref 40]) rfl ?_
    obtain ⟨hk4, h⟩ := rz_g32_inv h
    refine rz_B.iadd rfl ?_
    obtain ⟨r5, A5, hf5, h⟩ := rz_b_inv h
    obtain ⟨hg5, hr5, hw5⟩ := hT d _ _ _ _ hf5 hk4 hw3
    refine rz_B.call (d := d + e + 8) (as := [.ref 40, vI (a0 + 1)]) (rest := []) (w := some (vI r5)) rfl hg5 ?_
    refine rz_B.go 1 (pc' := if decide (¬ Int32.ofInt r5 = Int32.ofInt 0) = true then 29 else 27) (L' := [some (.ref 40), some (vI a0)]) (S' := []) rfl ?_
    by_cases hc6 : r5 = 0
    · have h := if_T h hc6
      refine rz_B.ifF (fun hn => hn ((eq32 hr5 (by decide)).mpr hc6)) ?_
      refine rz_B.go 1 (pc' := 28) (L' := [some (.ref 40), some (vI a0)]) (S' := [vI 0]) rfl ?_
      cases h
      exact rz_B.ret rfl (by decide) hw5
    · have h := if_F h hc6
      refine rz_B.ifT (mt (eq32 hr5 (by decide)).mp hc6) ?_
      refine rz_B.go 2 (pc' := 32) (L' := [some (.ref 40), some (vI a0)]) (S' := [vI (-20), .ref 40]) rfl ?_
      obtain ⟨_, A7, hf7, h⟩ := rz_b_inv h
      obtain ⟨hg7, hr7, hw7⟩ := cx49_step F (d := d + e + 8) hf7 (by decide) hw5
      refine rz_B.call (d := d + e + 8) (as := [.ref 40, vI (-20)]) (rest := []) (w := none) rfl hg7 ?_
      refine rz_B.go 1 (pc' := 36) (L' := [some (.ref 40), some (vI a0)]) (S' := [vI 1]) rfl ?_
      cases h
      exact rz_B.ret rfl (by decide) hw7
/-- RiverGauge$Tape.readTest(I)Z -/
def x46_readTest (F : Nat) (oT oO : Int → rz_A → Option (Int × rz_A)) (a0 : Int) (A : rz_A) : Option (Int × rz_A) :=
  rz_b (x47_isNext F 33 A) fun r1 A1 =>
  if r1 = 0 then
    rz_b (x47_isNext F 40 A1) fun r3 A3 =>
    if r3 = 0 then
      rz_b (x51_readSum F A3) fun r5 A5 =>
      if r5 = 0 then
        some (0, A5)
      else
        rz_b (x47_isNext F 60 A5) fun r7 A7 =>
        if r7 = 0 then
          rz_b (x47_isNext F 61 A7) fun r9 A9 =>
          if r9 = 0 then
            rz_b (x47_isNext F 62 A9) fun r11 A11 =>
            if r11 = 0 then
              some (0, A11)
            else
              rz_g32 ((A11.1 40 4) + 1) <|
              rz_b (x51_readSum F (aI A11 40 4 ((A11.1 40 4) + 1))) fun r15 A15 =>
              if r15 = 0 then
                some (0, A15)
              else
                rz_b (x49_step F (-25) A15) fun _ A17 =>
                some (1, A17)
          else
            rz_g32 ((A9.1 40 4) + 1) <|
            rz_b (x51_readSum F (aI A9 40 4 ((A9.1 40 4) + 1))) fun r20 A20 =>
            if r20 = 0 then
              some (0, A20)
            else
              rz_b (x49_step F (-24) A20) fun _ A22 =>
              some (1, A22)
        else
          rz_g32 ((A7.1 40 4) + 1) <|
          rz_b (x51_readSum F (aI A7 40 4 ((A7.1 40 4) + 1))) fun r25 A25 =>
          if r25 = 0 then
            some (0, A25)
          else
            rz_b (x49_step F (-23) A25) fun _ A27 =>
            some (1, A27)
    else
      rz_b (x50_readGroup F oT oO a0 A3) fun r28 A28 =>
      rz_gz r28 <|
      some (r28, A28)
  else
    rz_b (x48_readNot F oT oO a0 A1) fun r30 A30 =>
    rz_gz r30 <|
    some (r30, A30)
theorem cx46_readTest (F : Nat) {oT oO : Int → rz_A → Option (Int × rz_A)} {e : Nat} (hT : ∀ (d : Nat) (a : Int) (A : rz_A) (r : Int) (A' : rz_A), oT a A = some (r, A') → r32 a → wf A → rg_Rn (d + e + 8) 46 [.ref 40, vI a] (toM A) (some (vI r)) (toM A') ∧ r32 r ∧ wf A') (hO : ∀ (d : Nat) (a : Int) (A : rz_A) (r : Int) (A' : rz_A), oO a A = some (r, A') → r32 a → wf A → rg_Rn (d + e + 8) 44 [.ref 40, vI a] (toM A) (some (vI r)) (toM A') ∧ r32 r ∧ wf A') {d : Nat} {a0 : Int} {A : rz_A} {r : Int} {A' : rz_A} (h : x46_readTest F oT oO a0 A = some (r, A')) (ha0 : r32 a0) (hw : wf A) : rg_Rn (d + e + 10) 46 [.ref 40, vI a0] (toM A) (some (vI r)) (toM A') ∧ (r32 r) ∧ wf A' := by
  show rz_B (d + e + 10) 46 0 [some (.ref 40), some (vI a0), none] [] A (some (vI r)) A' (r32 r)
  unfold x46_readTest at h
  refine rz_B.go 2 (pc' := 3) (L' := [some (.ref 40), some (vI a0), none]) (S' := [vI 33, .ref 40]) rfl ?_
  obtain ⟨r1, A1, hf1, h⟩ := rz_b_inv h
  obtain ⟨hg1, hr1, hw1⟩ := cx47_isNext F (d := d + e + 9) hf1 (by decide) hw
  refine rz_B.call (d := d + e + 9) (as := [.ref 40, vI 33]) (rest := []) (w := some (vI r1)) rfl hg1 ?_
  refine rz_B.go 1 (pc' := if decide (Int32.ofInt r1 = Int32.ofInt 0) = true then 15 else 9) (L' := [some (.ref 40), some (vI a0), none]) (S' := []) rfl ?_
  by_cases hc2 : r1 = 0
  · have h := if_T h hc2
    refine rz_B.ifT ((eq32 hr1 (by decide)).mpr hc2) ?_
    refine rz_B.go 2 (pc' := 18) (L' := [some (.ref 40), some (vI a0), none]) (S' := [vI 40, .ref 40]) rfl ?_
    obtain ⟨r3, A3, hf3, h⟩ := rz_b_inv h
    obtain ⟨hg3, hr3, hw3⟩ := cx47_isNext F (d := d + e + 9) hf3 (by decide) hw1
    refine rz_B.call (d := d + e + 9) (as := [.ref 40, vI 40]) (rest := []) (w := some (vI r3)) rfl hg3 ?_
    refine rz_B.go 1 (pc' := if decide (Int32.ofInt r3 = Int32.ofInt 0) = true then 30 else 24) (L' := [some (.ref 40), some (vI a0), none]) (S' := []) rfl ?_
    by_cases hc4 : r3 = 0
    · have h := if_T h hc4
      refine rz_B.ifT ((eq32 hr3 (by decide)).mpr hc4) ?_
      refine rz_B.go 1 (pc' := 31) (L' := [some (.ref 40), some (vI a0), none]) (S' := [.ref 40]) rfl ?_
      obtain ⟨r5, A5, hf5, h⟩ := rz_b_inv h
      obtain ⟨hg5, hr5, hw5⟩ := cx51_readSum F (d := d + e + 4) hf5 hw3
      refine rz_B.call (d := d + e + 9) (as := [.ref 40]) (rest := []) (w := some (vI r5)) rfl hg5 ?_
      refine rz_B.go 1 (pc' := if decide (¬ Int32.ofInt r5 = Int32.ofInt 0) = true then 39 else 37) (L' := [some (.ref 40), some (vI a0), none]) (S' := []) rfl ?_
      by_cases hc6 : r5 = 0
      · have h := if_T h hc6
        refine rz_B.ifF (fun hn => hn ((eq32 hr5 (by decide)).mpr hc6)) ?_
        refine rz_B.go 1 (pc' := 38) (L' := [some (.ref 40), some (vI a0), none]) (S' := [vI 0]) rfl ?_
        cases h
        exact rz_B.ret rfl (by decide) hw5
      · have h := if_F h hc6
        refine rz_B.ifT (mt (eq32 hr5 (by decide)).mp hc6) ?_
        refine rz_B.go 2 (pc' := 42) (L' := [some (.ref 40), some (vI a0), none]) (S' := [vI 60, .ref 40]) rfl ?_
        obtain ⟨r7, A7, hf7, h⟩ := rz_b_inv h
        obtain ⟨hg7, hr7, hw7⟩ := cx47_isNext F (d := d + e + 9) hf7 (by decide) hw5
        refine rz_B.call (d := d + e + 9) (as := [.ref 40, vI 60]) (rest := []) (w := some (vI r7)) rfl hg7 ?_
        refine rz_B.go 1 (pc' := if decide (Int32.ofInt r7 = Int32.ofInt 0) = true then 53 else 48) (L' := [some (.ref 40), some (vI a0), none]) (S' := []) rfl ?_
        by_cases hc8 : r7 = 0
        · have h := if_T h hc8
          refine rz_B.ifT ((eq32 hr7 (by decide)).mpr hc8) ?_
          refine rz_B.go 2 (pc' := 56) (L' := [some (.ref 40), some (vI a0), none]) (S' := [vI 61, .ref 40]) rfl ?_
          obtain ⟨r9, A9, hf9, h⟩ := rz_b_inv h
          obtain ⟨hg9, hr9, hw9⟩ := cx47_isNext F (d := d + e + 9) hf9 (by decide) hw7
          refine rz_B.call (d := d + e + 9) (as := [.ref 40, vI 61]) (rest := []) (w := some (vI r9)) rfl hg9 ?_
          refine rz_B.go 1 (pc' := if decide (Int32.ofInt r9 = Int32.ofInt 0) = true then 67 else 62) (L' := [some (.ref 40), some (vI a0), none]) (S' := []) rfl ?_
          by_cases hc10 : r9 = 0
          · have h := if_T h hc10
            refine rz_B.ifT ((eq32 hr9 (by decide)).mpr hc10) ?_
            refine rz_B.go 2 (pc' := 70) (L' := [some (.ref 40), some (vI a0), none]) (S' := [vI 62, .ref 40]) rfl ?_
            obtain ⟨r11, A11, hf11, h⟩ := rz_b_inv h
            obtain ⟨hg11, hr11, hw11⟩ := cx47_isNext F (d := d + e + 9) hf11 (by decide) hw9
            refine rz_B.call (d := d + e + 9) (as := [.ref 40, vI 62]) (rest := []) (w := some (vI r11)) rfl hg11 ?_
            refine rz_B.go 1 (pc' := if decide (Int32.ofInt r11 = Int32.ofInt 0) = true then 81 else 76) (L' := [some (.ref 40), some (vI a0), none]) (S' := []) rfl ?_
            by_cases hc12 : r11 = 0
            · have h := if_T h hc12
              refine rz_B.ifT ((eq32 hr11 (by decide)).mpr hc12) ?_
              refine rz_B.go 5 (pc' := 88) (L' := [some (.ref 40), some (vI a0), some (vI 0)]) (S' := [vI 0]) rfl ?_
              cases h
              exact rz_B.ret rfl (by decide) hw11
            · have h := if_F h hc12
              refine rz_B.ifF (mt (eq32 hr11 (by decide)).mp hc12) ?_
              refine rz_B.go 9 (pc' := 95) (L' := [some (.ref 40), some (vI a0), some (vI (-25))]) (S' := [vI 1, vI (A11.1 40 4), .ref 40]) rfl ?_
              obtain ⟨hk13, h⟩ := rz_g32_inv h
              refine rz_B.iadd rfl ?_
              refine rz_B.put 1 (pc' := 99) (L' := [some (.ref 40), some (vI a0), some (vI (-25))]) (S' := []) (c := 40) (k := 4) (x := ((A11.1 40 4) + 1)) rfl ?_
              have hw14 : wf (aI A11 40 4 ((A11.1 40 4) + 1)) := wf_aI hw11 hk13
              refine rz_B.go 1 (pc' := 100) (L' := [some (.ref 40), some (vI a0), some (vI (-25))]) (S' := [.ref 40]) rfl ?_
              obtain ⟨r15, A15, hf15, h⟩ := rz_b_inv h
              obtain ⟨hg15, hr15, hw15⟩ := cx51_readSum F (d := d + e + 4) hf15 hw14
              refine rz_B.call (d := d + e + 9) (as := [.ref 40]) (rest := []) (w := some (vI r15)) rfl hg15 ?_
              refine rz_B.go 1 (pc' := if decide (¬ Int32.ofInt r15 = Int32.ofInt 0) = true then 108 else 106) (L' := [some (.ref 40), some (vI a0), some (vI (-25))]) (S' := []) rfl ?_
              by_cases hc16 : r15 = 0
              · have h := if_T h hc16
                refine rz_B.ifF (fun hn => hn ((eq32 hr15 (by decide)).mpr hc16)) ?_
                refine rz_B.go 1 (pc' := 107) (L' := [some (.ref 40), some (vI a0), some (vI (-25))]) (S' := [vI 0]) rfl ?_
                cases h
                exact rz_B.ret rfl (by decide) hw15
              · have h := if_F h hc16
                refine rz_B.ifT (mt (eq32 hr15 (by decide)).mp hc16) ?_
                refine rz_B.go 2 (pc' := 110) (L' := [some (.ref 40), some (vI a0), some (vI (-25))]) (S' := [vI (-25), .ref 40]) rfl ?_
                obtain ⟨_, A17, hf17, h⟩ := rz_b_inv h
                obtain ⟨hg17, hr17, hw17⟩ := cx49_step F (d := d + e + 9) hf17 (by decide) hw15
                refine rz_B.call (d := d + e + 9) (as := [.ref 40, vI (-25)]) (rest := []) (w := none) rfl hg17 ?_
                refine rz_B.go 1 (pc' := 114) (L' := [some (.ref 40), some (vI a0), some (vI (-25))]) (S' := [vI 1]) rfl ?_
                cases h
                exact rz_B.ret rfl (by decide) hw17
          · have h := if_F h hc10
            refine rz_B.ifF (mt (eq32 hr9 (by decide)).mp hc10) ?_
            refine rz_B.go 9 (pc' := 95) (L' := [some (.ref 40), some (vI a0), some (vI (-24))]) (S' := [vI 1, vI (A9.1 40 4), .ref 40]) rfl ?_
            obtain ⟨hk18, h⟩ := rz_g32_inv h
            refine rz_B.iadd rfl ?_
            refine rz_B.put 1 (pc' := 99) (L' := [some (.ref 40), some (vI a0), some (vI (-24))]) (S' := []) (c := 40) (k := 4) (x := ((A9.1 40 4) + 1)) rfl ?_
            have hw19 : wf (aI A9 40 4 ((A9.1 40 4) + 1)) := wf_aI hw9 hk18
            refine rz_B.go 1 (pc' := 100) (L' := [some (.ref 40), some (vI a0), some (vI (-24))]) (S' := [.ref 40]) rfl ?_
            obtain ⟨r20, A20, hf20, h⟩ := rz_b_inv h
            obtain ⟨hg20, hr20, hw20⟩ := cx51_readSum F (d := d + e + 4) hf20 hw19
            refine rz_B.call (d := d + e + 9) (as := [.ref 40]) (rest := []) (w := some (vI r20)) rfl hg20 ?_
            refine rz_B.go 1 (pc' := if decide (¬ Int32.ofInt r20 = Int32.ofInt 0) = true then 108 else 106) (L' := [some (.ref 40), some (vI a0), some (vI (-24))]) (S' := []) rfl ?_
            by_cases hc21 : r20 = 0
            · have h := if_T h hc21
              refine rz_B.ifF (fun hn => hn ((eq32 hr20 (by decide)).mpr hc21)) ?_
              refine rz_B.go 1 (pc' := 107) (L' := [some (.ref 40), some (vI a0), some (vI (-24))]) (S' := [vI 0]) rfl ?_
              cases h
              exact rz_B.ret rfl (by decide) hw20
            · have h := if_F h hc21
              refine rz_B.ifT (mt (eq32 hr20 (by decide)).mp hc21) ?_
              refine rz_B.go 2 (pc' := 110) (L' := [some (.ref 40), some (vI a0), some (vI (-24))]) (S' := [vI (-24), .ref 40]) rfl ?_
              obtain ⟨_, A22, hf22, h⟩ := rz_b_inv h
              obtain ⟨hg22, hr22, hw22⟩ := cx49_step F (d := d + e + 9) hf22 (by decide) hw20
              refine rz_B.call (d := d + e + 9) (as := [.ref 40, vI (-24)]) (rest := []) (w := none) rfl hg22 ?_
              refine rz_B.go 1 (pc' := 114) (L' := [some (.ref 40), some (vI a0), some (vI (-24))]) (S' := [vI 1]) rfl ?_
              cases h
              exact rz_B.ret rfl (by decide) hw22
        · have h := if_F h hc8
          refine rz_B.ifF (mt (eq32 hr7 (by decide)).mp hc8) ?_
          refine rz_B.go 9 (pc' := 95) (L' := [some (.ref 40), some (vI a0), some (vI (-23))]) (S' := [vI 1, vI (A7.1 40 4), .ref 40]) rfl ?_
          obtain ⟨hk23, h⟩ := rz_g32_inv h
          refine rz_B.iadd rfl ?_
          refine rz_B.put 1 (pc' := 99) (L' := [some (.ref 40), some (vI a0), some (vI (-23))]) (S' := []) (c := 40) (k := 4) (x := ((A7.1 40 4) + 1)) rfl ?_
          have hw24 : wf (aI A7 40 4 ((A7.1 40 4) + 1)) := wf_aI hw7 hk23
          refine rz_B.go 1 (pc' := 100) (L' := [some (.ref 40), some (vI a0), some (vI (-23))]) (S' := [.ref 40]) rfl ?_
          obtain ⟨r25, A25, hf25, h⟩ := rz_b_inv h
          obtain ⟨hg25, hr25, hw25⟩ := cx51_readSum F (d := d + e + 4) hf25 hw24
          refine rz_B.call (d := d + e + 9) (as := [.ref 40]) (rest := []) (w := some (vI r25)) rfl hg25 ?_
          refine rz_B.go 1 (pc' := if decide (¬ Int32.ofInt r25 = Int32.ofInt 0) = true then 108 else 106) (L' := [some (.ref 40), some (vI a0), some (vI (-23))]) (S' := []) rfl ?_
          by_cases hc26 : r25 = 0
          · have h := if_T h hc26
            refine rz_B.ifF (fun hn => hn ((eq32 hr25 (by decide)).mpr hc26)) ?_
            refine rz_B.go 1 (pc' := 107) (L' := [some (.ref 40), some (vI a0), some (vI (-23))]) (S' := [vI 0]) rfl ?_
            cases h
            exact rz_B.ret rfl (by decide) hw25
          · have h := if_F h hc26
            refine rz_B.ifT (mt (eq32 hr25 (by decide)).mp hc26) ?_
            refine rz_B.go 2 (pc' := 110) (L' := [some (.ref 40), some (vI a0), some (vI (-23))]) (S' := [vI (-23), .ref 40]) rfl ?_
            obtain ⟨_, A27, hf27, h⟩ := rz_b_inv h
            obtain ⟨hg27, hr27, hw27⟩ := cx49_step F (d := d + e + 9) hf27 (by decide) hw25
            refine rz_B.call (d := d + e + 9) (as := [.ref 40, vI (-23)]) (rest := []) (w := none) rfl hg27 ?_
            refine rz_B.go 1 (pc' := 114) (L' := [some (.ref 40), some (vI a0), some (vI (-23))]) (S' := [vI 1]) rfl ?_
            cases h
            exact rz_B.ret rfl (by decide) hw27
    · have h := if_F h hc4
      refine rz_B.ifF (mt (eq32 hr3 (by decide)).mp hc4) ?_
      refine rz_B.go 2 (pc' := 26) (L' := [some (.ref 40), some (vI a0), none]) (S' := [vI a0, .ref 40]) rfl ?_
      obtain ⟨r28, A28, hf28, h⟩ := rz_b_inv h
      obtain ⟨hg28, hr28, hw28⟩ := cx50_readGroup F hT hO (d := d) hf28 ha0 hw3
      refine rz_B.call (d := d + e + 9) (as := [.ref 40, vI a0]) (rest := []) (w := some (vI r28)) rfl hg28 ?_
      obtain ⟨hb29, h⟩ := rz_gz_inv h
      cases h
      exact rz_B.zret rfl rfl hb29 hr28 hw28
  · have h := if_F h hc2
    refine rz_B.ifF (mt (eq32 hr1 (by decide)).mp hc2) ?_
    refine rz_B.go 2 (pc' := 11) (L' := [some (.ref 40), some (vI a0), none]) (S' := [vI a0, .ref 40]) rfl ?_
    obtain ⟨r30, A30, hf30, h⟩ := rz_b_inv h
    obtain ⟨hg30, hr30, hw30⟩ := cx48_readNot F hT hO (d := d) hf30 ha0 hw1
    refine rz_B.call (d := d + e + 9) (as := [.ref 40, vI a0]) (rest := []) (w := some (vI r30)) rfl hg30 ?_
    obtain ⟨hb31, h⟩ := rz_gz_inv h
    cases h
    exact rz_B.zret rfl rfl hb31 hr30 hw30
def x45_readAnds_12 (F : Nat) (oT oO : Int → rz_A → Option (Int × rz_A)) : Nat → Int → Int → rz_A → Option (Int × rz_A)
  | 0, _, _, _ => none
  | n + 1, v1, v2, A =>
    if v2 < 60 then
      rz_b (x47_isNext F 38 A) fun r2 A2 =>
      if r2 = 0 then
        some (1, A2)
      else
        rz_g32 ((A2.1 40 4) + 1) <|
        rz_b (x46_readTest F oT oO v1 (aI A2 40 4 ((A2.1 40 4) + 1))) fun r6 A6 =>
        if r6 = 0 then
          some (0, A6)
        else
          rz_b (x49_step F (-21) A6) fun _ A8 =>
          rz_g32 (v2 + 1) <|
          x45_readAnds_12 F oT oO n v1 (v2 + 1) A8
    else
      some (1, A)
theorem cx45_readAnds_12 {d : Nat} (F : Nat) {oT oO : Int → rz_A → Option (Int × rz_A)} {e : Nat} (hT : ∀ (d : Nat) (a : Int) (A : rz_A) (r : Int) (A' : rz_A), oT a A = some (r, A') → r32 a → wf A → rg_Rn (d + e + 8) 46 [.ref 40, vI a] (toM A) (some (vI r)) (toM A') ∧ r32 r ∧ wf A') (hO : ∀ (d : Nat) (a : Int) (A : rz_A) (r : Int) (A' : rz_A), oO a A = some (r, A') → r32 a → wf A → rg_Rn (d + e + 8) 44 [.ref 40, vI a] (toM A) (some (vI r)) (toM A') ∧ r32 r ∧ wf A') : ∀ (n : Nat) (v1 : Int) (v2 : Int) (A : rz_A) (r : Int) (A' : rz_A), x45_readAnds_12 F oT oO n v1 v2 A = some (r, A') → r32 v1 → r32 v2 → wf A → rz_B (d + e + 11) 45 12 [some (.ref 40), some (vI v1), some (vI v2)] [] A (some (vI r)) A' (r32 r) := by
  intro n
  induction n with
  | zero => intro v1 v2 A r A' h; cases h
  | succ n ih =>
    intro v1 v2 A r A' h hv1 hv2 hw
    rw [x45_readAnds_12] at h
    refine rz_B.go 3 (pc' := if decide (Int32.ofInt 60 ≤ Int32.ofInt v2) = true then 59 else 18) (L' := [some (.ref 40), some (vI v1), some (vI v2)]) (S' := []) rfl ?_
    by_cases hc1 : v2 < 60
    · have h := if_T h hc1
      refine rz_B.ifF (mt (le32 (by decide) hv2).mp (Int.not_le.mpr hc1)) ?_
      refine rz_B.go 2 (pc' := 21) (L' := [some (.ref 40), some (vI v1), some (vI v2)]) (S' := [vI 38, .ref 40]) rfl ?_
      obtain ⟨r2, A2, hf2, h⟩ := rz_b_inv h
      obtain ⟨hg2, hr2, hw2⟩ := cx47_isNext F (d := d + e + 10) hf2 (by decide) hw
      refine rz_B.call (d := d + e + 10) (as := [.ref 40, vI 38]) (rest := []) (w := some (vI r2)) rfl hg2 ?_
      refine rz_B.go 1 (pc' := if decide (Int32.ofInt r2 = Int32.ofInt 0) = true then 59 else 27) (L' := [some (.ref 40), some (vI v1), some (vI v2)]) (S' := []) rfl ?_
      by_cases hc3 : r2 = 0
      · have h := if_T h hc3
        refine rz_B.ifT ((eq32 hr2 (by decide)).mpr hc3) ?_
        refine rz_B.go 1 (pc' := 60) (L' := [some (.ref 40), some (vI v1), some (vI v2)]) (S' := [vI 1]) rfl ?_
        cases h
        exact rz_B.ret rfl (by decide) hw2
      · have h := if_F h hc3
        refine rz_B.ifF (mt (eq32 hr2 (by decide)).mp hc3) ?_
        refine rz_B.go 4 (pc' := 33) (L' := [some (.ref 40), some (vI v1), some (vI v2)]) (S' := [vI 1, vI (A2.1 40 4), .ref 40]) rfl ?_
        obtain ⟨hk4, h⟩ := rz_g32_inv h
        refine rz_B.iadd rfl ?_
        refine rz_B.put 1 (pc' := 37) (L' := [some (.ref 40), some (vI v1), some (vI v2)]) (S' := []) (c := 40) (k := 4) (x := ((A2.1 40 4) + 1)) rfl ?_
        have hw5 : wf (aI A2 40 4 ((A2.1 40 4) + 1)) := wf_aI hw2 hk4
        refine rz_B.go 2 (pc' := 39) (L' := [some (.ref 40), some (vI v1), some (vI v2)]) (S' := [vI v1, .ref 40]) rfl ?_
        obtain ⟨r6, A6, hf6, h⟩ := rz_b_inv h
        obtain ⟨hg6, hr6, hw6⟩ := cx46_readTest F hT hO (d := d) hf6 hv1 hw5
        refine rz_B.call (d := d + e + 10) (as := [.ref 40, vI v1]) (rest := []) (w := some (vI r6)) rfl hg6 ?_
        refine rz_B.go 1 (pc' := if decide (¬ Int32.ofInt r6 = Int32.ofInt 0) = true then 47 else 45) (L' := [some (.ref 40), some (vI v1), some (vI v2)]) (S' := []) rfl ?_
        by_cases hc7 : r6 = 0
        · have h := if_T h hc7
          refine rz_B.ifF (fun hn => hn ((eq32 hr6 (by decide)).mpr hc7)) ?_
          refine rz_B.go 1 (pc' := 46) (L' := [some (.ref 40), some (vI v1), some (vI v2)]) (S' := [vI 0]) rfl ?_
          cases h
          exact rz_B.ret rfl (by decide) hw6
        · have h := if_F h hc7
          refine rz_B.ifT (mt (eq32 hr6 (by decide)).mp hc7) ?_
          refine rz_B.go 2 (pc' := 50) (L' := [some (.ref 40), some (vI v1), some (vI v2)]) (S' := [vI (-21), .ref 40]) rfl ?_
          obtain ⟨_, A8, hf8, h⟩ := rz_b_inv h
          obtain ⟨hg8, hr8, hw8⟩ := cx49_step F (d := d + e + 10) hf8 (by decide) hw6
          refine rz_B.call (d := d + e + 10) (as := [.ref 40, vI (-21)]) (rest := []) (w := none) rfl hg8 ?_
          obtain ⟨hk9, h⟩ := rz_g32_inv h
          refine rz_B.iinc rfl (by decide) rfl (L' := [some (.ref 40), some (vI v1), some (vI (v2 + 1))]) rfl ?_
          refine rz_B.go 1 (pc' := 12) (L' := [some (.ref 40), some (vI v1), some (vI (v2 + 1))]) (S' := []) rfl ?_
          refine rz_B.more (rg_le_ok (L := [some (.ref 40), some (vI v1), some (vI (v2 + 1))]) (by simp [rg_le])) ?_
          exact ih _ _ _ _ _ h hv1 hk9 hw8
    · have h := if_F h hc1
      refine rz_B.ifT ((le32 (by decide) hv2).mpr (Int.not_lt.mp hc1)) ?_
      refine rz_B.go 1 (pc' := 60) (L' := [some (.ref 40), some (vI v1), some (vI v2)]) (S' := [vI 1]) rfl ?_
      cases h
      exact rz_B.ret rfl (by decide) hw
/-- RiverGauge$Tape.readAnds(I)Z -/
def x45_readAnds (F : Nat) (oT oO : Int → rz_A → Option (Int × rz_A)) (a0 : Int) (A : rz_A) : Option (Int × rz_A) :=
  rz_b (x46_readTest F oT oO a0 A) fun r1 A1 =>
  if r1 = 0 then
    some (0, A1)
  else
    x45_readAnds_12 F oT oO F a0 0 A1
theorem cx45_readAnds (F : Nat) {oT oO : Int → rz_A → Option (Int × rz_A)} {e : Nat} (hT : ∀ (d : Nat) (a : Int) (A : rz_A) (r : Int) (A' : rz_A), oT a A = some (r, A') → r32 a → wf A → rg_Rn (d + e + 8) 46 [.ref 40, vI a] (toM A) (some (vI r)) (toM A') ∧ r32 r ∧ wf A') (hO : ∀ (d : Nat) (a : Int) (A : rz_A) (r : Int) (A' : rz_A), oO a A = some (r, A') → r32 a → wf A → rg_Rn (d + e + 8) 44 [.ref 40, vI a] (toM A) (some (vI r)) (toM A') ∧ r32 r ∧ wf A') {d : Nat} {a0 : Int} {A : rz_A} {r : Int} {A' : rz_A} (h : x45_readAnds F oT oO a0 A = some (r, A')) (ha0 : r32 a0) (hw : wf A) : rg_Rn (d + e + 11) 45 [.ref 40, vI a0] (toM A) (some (vI r)) (toM A') ∧ (r32 r) ∧ wf A' := by
  show rz_B (d + e + 11) 45 0 [some (.ref 40), some (vI a0), none] [] A (some (vI r)) A' (r32 r)
  unfold x45_readAnds at h
  refine rz_B.go 2 (pc' := 2) (L' := [some (.ref 40), some (vI a0), none]) (S' := [vI a0, .ref 40]) rfl ?_
  obtain ⟨r1, A1, hf1, h⟩ := rz_b_inv h
  obtain ⟨hg1, hr1, hw1⟩ := cx46_readTest F hT hO (d := d) hf1 ha0 hw
  refine rz_B.call (d := d + e + 10) (as := [.ref 40, vI a0]) (rest := []) (w := some (vI r1)) rfl hg1 ?_
  refine rz_B.go 1 (pc' := if decide (¬ Int32.ofInt r1 = Int32.ofInt 0) = true then 10 else 8) (L' := [some (.ref 40), some (vI a0), none]) (S' := []) rfl ?_
  by_cases hc2 : r1 = 0
  · have h := if_T h hc2
    refine rz_B.ifF (fun hn => hn ((eq32 hr1 (by decide)).mpr hc2)) ?_
    refine rz_B.go 1 (pc' := 9) (L' := [some (.ref 40), some (vI a0), none]) (S' := [vI 0]) rfl ?_
    cases h
    exact rz_B.ret rfl (by decide) hw1
  · have h := if_F h hc2
    refine rz_B.ifT (mt (eq32 hr1 (by decide)).mp hc2) ?_
    refine rz_B.go 2 (pc' := 12) (L' := [some (.ref 40), some (vI a0), some (vI 0)]) (S' := []) rfl ?_
    refine rz_B.more (rg_le_ok (L := [some (.ref 40), some (vI a0), some (vI 0)]) (by simp [rg_le])) ?_
    exact cx45_readAnds_12 F hT hO F _ _ _ _ _ h ha0 (by decide) hw1
def x44_readOrs_12 (F : Nat) (oT oO : Int → rz_A → Option (Int × rz_A)) : Nat → Int → Int → rz_A → Option (Int × rz_A)
  | 0, _, _, _ => none
  | n + 1, v1, v2, A =>
    if v2 < 60 then
      rz_b (x47_isNext F 124 A) fun r2 A2 =>
      if r2 = 0 then
        some (1, A2)
      else
        rz_g32 ((A2.1 40 4) + 1) <|
        rz_b (x45_readAnds F oT oO v1 (aI A2 40 4 ((A2.1 40 4) + 1))) fun r6 A6 =>
        if r6 = 0 then
          some (0, A6)
        else
          rz_b (x49_step F (-22) A6) fun _ A8 =>
          rz_g32 (v2 + 1) <|
          x44_readOrs_12 F oT oO n v1 (v2 + 1) A8
    else
      some (1, A)
theorem cx44_readOrs_12 {d : Nat} (F : Nat) {oT oO : Int → rz_A → Option (Int × rz_A)} {e : Nat} (hT : ∀ (d : Nat) (a : Int) (A : rz_A) (r : Int) (A' : rz_A), oT a A = some (r, A') → r32 a → wf A → rg_Rn (d + e + 8) 46 [.ref 40, vI a] (toM A) (some (vI r)) (toM A') ∧ r32 r ∧ wf A') (hO : ∀ (d : Nat) (a : Int) (A : rz_A) (r : Int) (A' : rz_A), oO a A = some (r, A') → r32 a → wf A → rg_Rn (d + e + 8) 44 [.ref 40, vI a] (toM A) (some (vI r)) (toM A') ∧ r32 r ∧ wf A') : ∀ (n : Nat) (v1 : Int) (v2 : Int) (A : rz_A) (r : Int) (A' : rz_A), x44_readOrs_12 F oT oO n v1 v2 A = some (r, A') → r32 v1 → r32 v2 → wf A → rz_B (d + e + 12) 44 12 [some (.ref 40), some (vI v1), some (vI v2)] [] A (some (vI r)) A' (r32 r) := by
  intro n
  induction n with
  | zero => intro v1 v2 A r A' h; cases h
  | succ n ih =>
    intro v1 v2 A r A' h hv1 hv2 hw
    rw [x44_readOrs_12] at h
    refine rz_B.go 3 (pc' := if decide (Int32.ofInt 60 ≤ Int32.ofInt v2) = true then 59 else 18) (L' := [some (.ref 40), some (vI v1), some (vI v2)]) (S' := []) rfl ?_
    by_cases hc1 : v2 < 60
    · have h := if_T h hc1
      refine rz_B.ifF (mt (le32 (by decide) hv2).mp (Int.not_le.mpr hc1)) ?_
      refine rz_B.go 2 (pc' := 21) (L' := [some (.ref 40), some (vI v1), some (vI v2)]) (S' := [vI 124, .ref 40]) rfl ?_
      obtain ⟨r2, A2, hf2, h⟩ := rz_b_inv h
      obtain ⟨hg2, hr2, hw2⟩ := cx47_isNext F (d := d + e + 11) hf2 (by decide) hw
      refine rz_B.call (d := d + e + 11) (as := [.ref 40, vI 124]) (rest := []) (w := some (vI r2)) rfl hg2 ?_
      refine rz_B.go 1 (pc' := if decide (Int32.ofInt r2 = Int32.ofInt 0) = true then 59 else 27) (L' := [some (.ref 40), some (vI v1), some (vI v2)]) (S' := []) rfl ?_
      by_cases hc3 : r2 = 0
      · have h := if_T h hc3
        refine rz_B.ifT ((eq32 hr2 (by decide)).mpr hc3) ?_
        refine rz_B.go 1 (pc' := 60) (L' := [some (.ref 40), some (vI v1), some (vI v2)]) (S' := [vI 1]) rfl ?_
        cases h
        exact rz_B.ret rfl (by decide) hw2
      · have h := if_F h hc3
        refine rz_B.ifF (mt (eq32 hr2 (by decide)).mp hc3) ?_
        refine rz_B.go 4 (pc' := 33) (L' := [some (.ref 40), some (vI v1), some (vI v2)]) (S' := [vI 1, vI (A2.1 40 4), .ref 40]) rfl ?_
        obtain ⟨hk4, h⟩ := rz_g32_inv h
        refine rz_B.iadd rfl ?_
        refine rz_B.put 1 (pc' := 37) (L' := [some (.ref 40), some (vI v1), some (vI v2)]) (S' := []) (c := 40) (k := 4) (x := ((A2.1 40 4) + 1)) rfl ?_
        have hw5 : wf (aI A2 40 4 ((A2.1 40 4) + 1)) := wf_aI hw2 hk4
        refine rz_B.go 2 (pc' := 39) (L' := [some (.ref 40), some (vI v1), some (vI v2)]) (S' := [vI v1, .ref 40]) rfl ?_
        obtain ⟨r6, A6, hf6, h⟩ := rz_b_inv h
        obtain ⟨hg6, hr6, hw6⟩ := cx45_readAnds F hT hO (d := d) hf6 hv1 hw5
        refine rz_B.call (d := d + e + 11) (as := [.ref 40, vI v1]) (rest := []) (w := some (vI r6)) rfl hg6 ?_
        refine rz_B.go 1 (pc' := if decide (¬ Int32.ofInt r6 = Int32.ofInt 0) = true then 47 else 45) (L' := [some (.ref 40), some (vI v1), some (vI v2)]) (S' := []) rfl ?_
        by_cases hc7 : r6 = 0
        · have h := if_T h hc7
          refine rz_B.ifF (fun hn => hn ((eq32 hr6 (by decide)).mpr hc7)) ?_
          refine rz_B.go 1 (pc' := 46) (L' := [some (.ref 40), some (vI v1), some (vI v2)]) (S' := [vI 0]) rfl ?_
          cases h
          exact rz_B.ret rfl (by decide) hw6
        · have h := if_F h hc7
          refine rz_B.ifT (mt (eq32 hr6 (by decide)).mp hc7) ?_
          refine rz_B.go 2 (pc' := 50) (L' := [some (.ref 40), some (vI v1), some (vI v2)]) (S' := [vI (-22), .ref 40]) rfl ?_
          obtain ⟨_, A8, hf8, h⟩ := rz_b_inv h
          obtain ⟨hg8, hr8, hw8⟩ := cx49_step F (d := d + e + 11) hf8 (by decide) hw6
          refine rz_B.call (d := d + e + 11) (as := [.ref 40, vI (-22)]) (rest := []) (w := none) rfl hg8 ?_
          obtain ⟨hk9, h⟩ := rz_g32_inv h
          refine rz_B.iinc rfl (by decide) rfl (L' := [some (.ref 40), some (vI v1), some (vI (v2 + 1))]) rfl ?_
          refine rz_B.go 1 (pc' := 12) (L' := [some (.ref 40), some (vI v1), some (vI (v2 + 1))]) (S' := []) rfl ?_
          refine rz_B.more (rg_le_ok (L := [some (.ref 40), some (vI v1), some (vI (v2 + 1))]) (by simp [rg_le])) ?_
          exact ih _ _ _ _ _ h hv1 hk9 hw8
    · have h := if_F h hc1
      refine rz_B.ifT ((le32 (by decide) hv2).mpr (Int.not_lt.mp hc1)) ?_
      refine rz_B.go 1 (pc' := 60) (L' := [some (.ref 40), some (vI v1), some (vI v2)]) (S' := [vI 1]) rfl ?_
      cases h
      exact rz_B.ret rfl (by decide) hw
/-- RiverGauge$Tape.readOrs(I)Z -/
def x44_readOrs (F : Nat) (oT oO : Int → rz_A → Option (Int × rz_A)) (a0 : Int) (A : rz_A) : Option (Int × rz_A) :=
  rz_b (x45_readAnds F oT oO a0 A) fun r1 A1 =>
  if r1 = 0 then
    some (0, A1)
  else
    x44_readOrs_12 F oT oO F a0 0 A1
theorem cx44_readOrs (F : Nat) {oT oO : Int → rz_A → Option (Int × rz_A)} {e : Nat} (hT : ∀ (d : Nat) (a : Int) (A : rz_A) (r : Int) (A' : rz_A), oT a A = some (r, A') → r32 a → wf A → rg_Rn (d + e + 8) 46 [.ref 40, vI a] (toM A) (some (vI r)) (toM A') ∧ r32 r ∧ wf A') (hO : ∀ (d : Nat) (a : Int) (A : rz_A) (r : Int) (A' : rz_A), oO a A = some (r, A') → r32 a → wf A → rg_Rn (d + e + 8) 44 [.ref 40, vI a] (toM A) (some (vI r)) (toM A') ∧ r32 r ∧ wf A') {d : Nat} {a0 : Int} {A : rz_A} {r : Int} {A' : rz_A} (h : x44_readOrs F oT oO a0 A = some (r, A')) (ha0 : r32 a0) (hw : wf A) : rg_Rn (d + e + 12) 44 [.ref 40, vI a0] (toM A) (some (vI r)) (toM A') ∧ (r32 r) ∧ wf A' := by
  show rz_B (d + e + 12) 44 0 [some (.ref 40), some (vI a0), none] [] A (some (vI r)) A' (r32 r)
  unfold x44_readOrs at h
  refine rz_B.go 2 (pc' := 2) (L' := [some (.ref 40), some (vI a0), none]) (S' := [vI a0, .ref 40]) rfl ?_
  obtain ⟨r1, A1, hf1, h⟩ := rz_b_inv h
  obtain ⟨hg1, hr1, hw1⟩ := cx45_readAnds F hT hO (d := d) hf1 ha0 hw
  refine rz_B.call (d := d + e + 11) (as := [.ref 40, vI a0]) (rest := []) (w := some (vI r1)) rfl hg1 ?_
  refine rz_B.go 1 (pc' := if decide (¬ Int32.ofInt r1 = Int32.ofInt 0) = true then 10 else 8) (L' := [some (.ref 40), some (vI a0), none]) (S' := []) rfl ?_
  by_cases hc2 : r1 = 0
  · have h := if_T h hc2
    refine rz_B.ifF (fun hn => hn ((eq32 hr1 (by decide)).mpr hc2)) ?_
    refine rz_B.go 1 (pc' := 9) (L' := [some (.ref 40), some (vI a0), none]) (S' := [vI 0]) rfl ?_
    cases h
    exact rz_B.ret rfl (by decide) hw1
  · have h := if_F h hc2
    refine rz_B.ifT (mt (eq32 hr1 (by decide)).mp hc2) ?_
    refine rz_B.go 2 (pc' := 12) (L' := [some (.ref 40), some (vI a0), some (vI 0)]) (S' := []) rfl ?_
    refine rz_B.more (rg_le_ok (L := [some (.ref 40), some (vI a0), some (vI 0)]) (by simp [rg_le])) ?_
    exact cx44_readOrs_12 F hT hO F _ _ _ _ _ h ha0 (by decide) hw1
/-- the reader of TEXTs, by levels -/
def x_lv (F : Nat) : Nat → (Int → rz_A → Option (Int × rz_A)) × (Int → rz_A → Option (Int × rz_A))
  | 0 => (fun _ _ => none, fun _ _ => none)
  | n + 1 => (x46_readTest F (x_lv F n).1 (x_lv F n).2, x44_readOrs F (x_lv F n).1 (x_lv F n).2)
def x_lv_O (F : Nat) (a : Int) (A : rz_A) : Option (Int × rz_A) := (x_lv F 7).2 a A
theorem cx_lv (F : Nat) : ∀ n : Nat, (∀ (d : Nat) (a : Int) (A : rz_A) (r : Int) (A' : rz_A), (x_lv F n).1 a A = some (r, A') → r32 a → wf A → rg_Rn (d + 4 * n + 8) 46 [.ref 40, vI a] (toM A) (some (vI r)) (toM A') ∧ r32 r ∧ wf A') ∧ (∀ (d : Nat) (a : Int) (A : rz_A) (r : Int) (A' : rz_A), (x_lv F n).2 a A = some (r, A') → r32 a → wf A → rg_Rn (d + 4 * n + 8) 44 [.ref 40, vI a] (toM A) (some (vI r)) (toM A') ∧ r32 r ∧ wf A') := by
  intro n
  induction n with
  | zero => exact ⟨fun d a A r A' h => (by cases h), fun d a A r A' h => (by cases h)⟩
  | succ n ih =>
    refine ⟨fun d a A r A' h ha hw => ?_, fun d a A r A' h ha hw => ?_⟩
    · have := cx46_readTest F ih.1 ih.2 (d := d + 2) h ha hw
      rw [show d + 4 * (n + 1) + 8 = d + 2 + 4 * n + 10 by omega]
      exact this
    · have := cx44_readOrs F ih.1 ih.2 (d := d + 0) h ha hw
      rw [show d + 4 * (n + 1) + 8 = d + 0 + 4 * n + 12 by omega]
      exact this
theorem cx_lv_O (F : Nat) {d : Nat} {a : Int} {A : rz_A} {r : Int} {A' : rz_A} (h : x_lv_O F a A = some (r, A')) (ha : r32 a) (hw : wf A) : rg_Rn (d + 36) 44 [.ref 40, vI a] (toM A) (some (vI r)) (toM A') ∧ r32 r ∧ wf A' := (cx_lv F 7).2 d a A r A' h ha hw
/-- RiverGauge$Tape.fault()I -/
def x43_fault (F : Nat) (A : rz_A) : Option (Int × rz_A) :=
  rz_b (x_lv_O F 0 (aI (aI A 40 4 0) 40 3 0)) fun r3 A3 =>
  if r3 = 0 then
    some ((A3.1 40 4), A3)
  else
    if (A3.1 40 1) ≤ (A3.1 40 4) then
      some ((-1), A3)
    else
      some ((A3.1 40 4), A3)
theorem cx43_fault (F : Nat) {d : Nat} {A : rz_A} {r : Int} {A' : rz_A} (h : x43_fault F A = some (r, A')) (hw : wf A) : rg_Rn (d + 37) 43 [.ref 40] (toM A) (some (vI r)) (toM A') ∧ (r32 r) ∧ wf A' := by
  show rz_B (d + 37) 43 0 [some (.ref 40), none] [] A (some (vI r)) A' (r32 r)
  unfold x43_fault at h
  refine rz_B.put 3 (pc' := 5) (L' := [some (.ref 40), none]) (S' := []) (c := 40) (k := 4) (x := 0) rfl ?_
  have hw1 : wf (aI A 40 4 0) := wf_aI hw (by decide)
  refine rz_B.put 3 (pc' := 10) (L' := [some (.ref 40), none]) (S' := []) (c := 40) (k := 3) (x := 0) rfl ?_
  have hw2 : wf (aI (aI A 40 4 0) 40 3 0) := wf_aI hw1 (by decide)
  refine rz_B.go 2 (pc' := 12) (L' := [some (.ref 40), none]) (S' := [vI 0, .ref 40]) rfl ?_
  obtain ⟨r3, A3, hf3, h⟩ := rz_b_inv h
  obtain ⟨hg3, hr3, hw3⟩ := cx_lv_O F (d := d + 0) hf3 (by decide) hw2
  refine rz_B.call (d := d + 36) (as := [.ref 40, vI 0]) (rest := []) (w := some (vI r3)) rfl hg3 ?_
  refine rz_B.go 1 (pc' := if decide (Int32.ofInt r3 = Int32.ofInt 0) = true then 33 else 18) (L' := [some (.ref 40), none]) (S' := []) rfl ?_
  by_cases hc4 : r3 = 0
  · have h := if_T h hc4
    refine rz_B.ifT ((eq32 hr3 (by decide)).mpr hc4) ?_
    refine rz_B.go 6 (pc' := 47) (L' := [some (.ref 40), some (vI 0)]) (S' := [vI (A3.1 40 4)]) rfl ?_
    cases h
    exact rz_B.ret rfl (hw3 40 4).1 hw3
  · have h := if_F h hc4
    refine rz_B.ifF (mt (eq32 hr3 (by decide)).mp hc4) ?_
    refine rz_B.go 5 (pc' := if decide (Int32.ofInt (A3.1 40 4) < Int32.ofInt (A3.1 40 1)) = true then 33 else 29) (L' := [some (.ref 40), none]) (S' := []) rfl ?_
    by_cases hc5 : (A3.1 40 1) ≤ (A3.1 40 4)
    · have h := if_T h hc5
      refine rz_B.ifF (mt (lt32 (hw3 40 4).1 (hw3 40 1).1).mp (Int.not_lt.mpr hc5)) ?_
      refine rz_B.go 7 (pc' := 47) (L' := [some (.ref 40), some (vI 1)]) (S' := [vI (-1)]) rfl ?_
      cases h
      exact rz_B.ret rfl (by decide) hw3
    · have h := if_F h hc5
      refine rz_B.ifT ((lt32 (hw3 40 4).1 (hw3 40 1).1).mpr (Int.not_le.mp hc5)) ?_
      refine rz_B.go 6 (pc' := 47) (L' := [some (.ref 40), some (vI 0)]) (S' := [vI (A3.1 40 4)]) rfl ?_
      cases h
      exact rz_B.ret rfl (hw3 40 4).1 hw3
/-- RiverGauge$Standards.come(IIILRiverGauge$Tape;)I -/
def x63_come (F : Nat) (a0 : Int) (a1 : Int) (a2 : Int) (A : rz_A) : Option (Int × rz_A) :=
  rz_gx (A.1 43 0) 20 <|
  rz_g32 ((A.1 43 0) * 60) <|
  rz_gp ((0 : Int) ≤ 0 ∧ 0 ≤ ((A.1 43 0) * 60) ∧ 0 ≤ (A.1 40 3) ∧ 0 + (A.1 40 3) ≤ 60 ∧ ((A.1 43 0) * 60) + (A.1 40 3) ≤ 1200) <|
  rz_g32 ((A.1 43 0) + 1) <|
  rz_g32 (((A.1 43 0) + 1) - 1) <|
  some ((((A.1 43 0) + 1) - 1), (aI (aC (aI (aI (aI (aI A 44 ((A.1 43 0)).toNat a0) 45 ((A.1 43 0)).toNat a1) 46 ((A.1 43 0)).toNat a2) 47 ((A.1 43 0)).toNat (A.1 40 3)) 42 48 0 (((A.1 43 0) * 60)).toNat ((A.1 40 3)).toNat) 43 0 ((A.1 43 0) + 1)))
theorem cx63_come (F : Nat) {d : Nat} {a0 : Int} {a1 : Int} {a2 : Int} {A : rz_A} {r : Int} {A' : rz_A} (h : x63_come F a0 a1 a2 A = some (r, A')) (ha0 : r32 a0) (ha1 : r32 a1) (ha2 : r32 a2) (hw : wf A) : rg_Rn (d + 1) 63 [.ref 43, vI a0, vI a1, vI a2, .ref 40] (toM A) (some (vI r)) (toM A') ∧ (r32 r) ∧ wf A' := by
  show rz_B (d + 1) 63 0 [some (.ref 43), some (vI a0), some (vI a1), some (vI a2), some (.ref 40)] [] A (some (vI r)) A' (r32 r)
  unfold x63_come at h
  refine rz_B.go 5 (pc' := 9) (L' := [some (.ref 43), some (vI a0), some (vI a1), some (vI a2), some (.ref 40)]) (S' := [vI a0, vI (A.1 43 0), .ref 44]) rfl ?_
  obtain ⟨hi1, hj2, h⟩ := rz_gx_inv h
  refine rz_B.iast rfl rfl hi1 hj2 (by decide) ?_
  have hw3 : wf (aI A 44 ((A.1 43 0)).toNat a0) := wf_aI hw ha0
  refine rz_B.go 5 (pc' := 19) (L' := [some (.ref 43), some (vI a0), some (vI a1), some (vI a2), some (.ref 40)]) (S' := [vI a1, vI (A.1 43 0), .ref 45]) rfl ?_
  refine rz_B.iast rfl rfl hi1 hj2 (by decide) ?_
  have hw4 : wf (aI (aI A 44 ((A.1 43 0)).toNat a0) 45 ((A.1 43 0)).toNat a1) := wf_aI hw3 ha1
  refine rz_B.go 5 (pc' := 29) (L' := [some (.ref 43), some (vI a0), some (vI a1), some (vI a2), some (.ref 40)]) (S' := [vI a2, vI (A.1 43 0), .ref 46]) rfl ?_
  refine rz_B.iast rfl rfl hi1 hj2 (by decide) ?_
  have hw5 : wf (aI (aI (aI A 44 ((A.1 43 0)).toNat a0) 45 ((A.1 43 0)).toNat a1) 46 ((A.1 43 0)).toNat a2) := wf_aI hw4 ha2
  refine rz_B.go 6 (pc' := 43) (L' := [some (.ref 43), some (vI a0), some (vI a1), some (vI a2), some (.ref 40)]) (S' := [vI (A.1 40 3), vI (A.1 43 0), .ref 47]) rfl ?_
  refine rz_B.iast rfl rfl hi1 hj2 (by decide) ?_
  have hw6 : wf (aI (aI (aI (aI A 44 ((A.1 43 0)).toNat a0) 45 ((A.1 43 0)).toNat a1) 46 ((A.1 43 0)).toNat a2) 47 ((A.1 43 0)).toNat (A.1 40 3)) := wf_aI hw5 (hw 40 3).1
  refine rz_B.go 8 (pc' := 60) (L' := [some (.ref 43), some (vI a0), some (vI a1), some (vI a2), some (.ref 40)]) (S' := [vI 60, vI (A.1 43 0), .ref 48, vI 0, .ref 42]) rfl ?_
  obtain ⟨hk7, h⟩ := rz_g32_inv h
  refine rz_B.imul rfl ?_
  refine rz_B.go 2 (pc' := 66) (L' := [some (.ref 43), some (vI a0), some (vI a1), some (vI a2), some (.ref 40)]) (S' := [vI (A.1 40 3), vI ((A.1 43 0) * 60), .ref 48, vI 0, .ref 42]) rfl ?_
  obtain ⟨hy8, h⟩ := rz_gp_inv h
  refine rz_B.cpy (d := d + 0) rfl rfl rfl (by decide) (by decide) hy8 (by decide) hk7 (hw 40 3).1 ⟨rfl, by decide⟩ ?_
  have hw9 : wf (aC (aI (aI (aI (aI A 44 ((A.1 43 0)).toNat a0) 45 ((A.1 43 0)).toNat a1) 46 ((A.1 43 0)).toNat a2) 47 ((A.1 43 0)).toNat (A.1 40 3)) 42 48 0 (((A.1 43 0) * 60)).toNat ((A.1 40 3)).toNat) := wf_aC hw6
  refine rz_B.go 4 (pc' := 75) (L' := [some (.ref 43), some (vI a0), some (vI a1), some (vI a2), some (.ref 40)]) (S' := [vI 1, vI (A.1 43 0), .ref 43]) rfl ?_
  obtain ⟨hk10, h⟩ := rz_g32_inv h
  refine rz_B.iadd rfl ?_
  refine rz_B.put 1 (pc' := 79) (L' := [some (.ref 43), some (vI a0), some (vI a1), some (vI a2), some (.ref 40)]) (S' := []) (c := 43) (k := 0) (x := ((A.1 43 0) + 1)) rfl ?_
  have hw11 : wf (aI (aC (aI (aI (aI (aI A 44 ((A.1 43 0)).toNat a0) 45 ((A.1 43 0)).toNat a1) 46 ((A.1 43 0)).toNat a2) 47 ((A.1 43 0)).toNat (A.1 40 3)) 42 48 0 (((A.1 43 0) * 60)).toNat ((A.1 40 3)).toNat) 43 0 ((A.1 43 0) + 1)) := wf_aI hw9 hk10
  refine rz_B.go 3 (pc' := 84) (L' := [some (.ref 43), some (vI a0), some (vI a1), some (vI a2), some (.ref 40)]) (S' := [vI 1, vI ((A.1 43 0) + 1)]) rfl ?_
  obtain ⟨hk12, h⟩ := rz_g32_inv h
  refine rz_B.isub rfl ?_
  cases h
  exact rz_B.ret rfl hk12 hw11
/-- RiverGauge.standard(II)I -/
def x42_standard (F : Nat) (a0 : Int) (a1 : Int) (A : rz_A) : Option (Int × rz_A) :=
  if 0 ≤ a0 then
    if 2 < a0 then
      rz_b (x1_refuse F (-2) A) fun r3 A3 =>
      some (r3, A3)
    else
      rz_g32 ((A.1 0 16).tdiv 96) <|
      if a1 < ((A.1 0 16).tdiv 96) then
        rz_b (x1_refuse F (-4) A) fun r6 A6 =>
        some (r6, A6)
      else
        if a1 ≤ 200 then
          if 20 ≤ (A.1 43 0) then
            rz_b (x1_refuse F (-6) A) fun r9 A9 =>
            some (r9, A9)
          else
            rz_b (x43_fault F A) fun r10 A10 =>
            if 0 ≤ r10 then
              rz_g32 ((-20) - r10) <|
              some (((-20) - r10), (aI A10 40 1 0))
            else
              rz_b (x6_forget F (aI A10 40 1 0)) fun _ A14 =>
              rz_b (x63_come F a0 a1 (A14.1 0 16) A14) fun r15 A15 =>
              some (r15, A15)
        else
          rz_b (x1_refuse F (-6) A) fun r16 A16 =>
          some (r16, A16)
  else
    rz_b (x1_refuse F (-2) A) fun r17 A17 =>
    some (r17, A17)
theorem cx42_standard (F : Nat) {d : Nat} {a0 : Int} {a1 : Int} {A : rz_A} {r : Int} {A' : rz_A} (h : x42_standard F a0 a1 A = some (r, A')) (ha0 : r32 a0) (ha1 : r32 a1) (hw : wf A) : rg_Rn (d + 38) 42 [.ref 0, vI a0, vI a1] (toM A) (some (vI r)) (toM A') ∧ (r32 r) ∧ wf A' := by
  show rz_B (d + 38) 42 0 [some (.ref 0), some (vI a0), some (vI a1), none] [] A (some (vI r)) A' (r32 r)
  unfold x42_standard at h
  refine rz_B.go 2 (pc' := if decide (Int32.ofInt a0 < Int32.ofInt 0) = true then 9 else 4) (L' := [some (.ref 0), some (vI a0), some (vI a1), none]) (S' := []) rfl ?_
  by_cases hc1 : 0 ≤ a0
  · have h := if_T h hc1
    refine rz_B.ifF (mt (lt32 ha0 (by decide)).mp (Int.not_lt.mpr hc1)) ?_
    refine rz_B.go 3 (pc' := if decide (Int32.ofInt a0 ≤ Int32.ofInt 2) = true then 16 else 9) (L' := [some (.ref 0), some (vI a0), some (vI a1), none]) (S' := []) rfl ?_
    by_cases hc2 : 2 < a0
    · have h := if_T h hc2
      refine rz_B.ifF (mt (le32 ha0 (by decide)).mp (Int.not_le.mpr hc2)) ?_
      refine rz_B.go 2 (pc' := 12) (L' := [some (.ref 0), some (vI a0), some (vI a1), none]) (S' := [vI (-2), .ref 0]) rfl ?_
      obtain ⟨r3, A3, hf3, h⟩ := rz_b_inv h
      obtain ⟨hg3, hr3, hw3⟩ := cx1_refuse F (d := d + 37) hf3 (by decide) hw
      refine rz_B.call (d := d + 37) (as := [.ref 0, vI (-2)]) (rest := []) (w := some (vI r3)) rfl hg3 ?_
      cases h
      exact rz_B.ret rfl hr3 hw3
    · have h := if_F h hc2
      refine rz_B.ifT ((le32 ha0 (by decide)).mpr (Int.not_lt.mp hc2)) ?_
      refine rz_B.go 4 (pc' := 23) (L' := [some (.ref 0), some (vI a0), some (vI a1), none]) (S' := [vI 96, vI (A.1 0 16), vI a1]) rfl ?_
      obtain ⟨hk4, h⟩ := rz_g32_inv h
      refine rz_B.idiv rfl (hw 0 16).1 (by decide) (by decide) ?_
      refine rz_B.go 1 (pc' := if decide (Int32.ofInt ((A.1 0 16).tdiv 96) ≤ Int32.ofInt a1) = true then 34 else 27) (L' := [some (.ref 0), some (vI a0), some (vI a1), none]) (S' := []) rfl ?_
      by_cases hc5 : a1 < ((A.1 0 16).tdiv 96)
      · have h := if_T h hc5
        refine rz_B.ifF (mt (le32 hk4 ha1).mp (Int.not_le.mpr hc5)) ?_
        refine rz_B.go 2 (pc' := 30) (L' := [some (.ref 0), some (vI a0), some (vI a1), none]) (S' := [vI (-4), .ref 0]) rfl ?_
        obtain ⟨r6, A6, hf6, h⟩ := rz_b_inv h
        obtain ⟨hg6, hr6, hw6⟩ := cx1_refuse F (d := d + 37) hf6 (by decide) hw
        refine rz_B.call (d := d + 37) (as := [.ref 0, vI (-4)]) (rest := []) (w := some (vI r6)) rfl hg6 ?_
        cases h
        exact rz_B.ret rfl hr6 hw6
      · have h := if_F h hc5
        refine rz_B.ifT ((le32 hk4 ha1).mpr (Int.not_lt.mp hc5)) ?_
        refine rz_B.go 3 (pc' := if decide (Int32.ofInt 200 < Int32.ofInt a1) = true then 53 else 41) (L' := [some (.ref 0), some (vI a0), some (vI a1), none]) (S' := []) rfl ?_
        by_cases hc7 : a1 ≤ 200
        · have h := if_T h hc7
          refine rz_B.ifF (mt (lt32 (by decide) ha1).mp (Int.not_lt.mpr hc7)) ?_
          refine rz_B.go 5 (pc' := if decide (Int32.ofInt (A.1 43 0) < Int32.ofInt 20) = true then 60 else 53) (L' := [some (.ref 0), some (vI a0), some (vI a1), none]) (S' := []) rfl ?_
          by_cases hc8 : 20 ≤ (A.1 43 0)
          · have h := if_T h hc8
            refine rz_B.ifF (mt (lt32 (hw 43 0).1 (by decide)).mp (Int.not_lt.mpr hc8)) ?_
            refine rz_B.go 2 (pc' := 56) (L' := [some (.ref 0), some (vI a0), some (vI a1), none]) (S' := [vI (-6), .ref 0]) rfl ?_
            obtain ⟨r9, A9, hf9, h⟩ := rz_b_inv h
            obtain ⟨hg9, hr9, hw9⟩ := cx1_refuse F (d := d + 37) hf9 (by decide) hw
            refine rz_B.call (d := d + 37) (as := [.ref 0, vI (-6)]) (rest := []) (w := some (vI r9)) rfl hg9 ?_
            cases h
            exact rz_B.ret rfl hr9 hw9
          · have h := if_F h hc8
            refine rz_B.ifT ((lt32 (hw 43 0).1 (by decide)).mpr (Int.not_le.mp hc8)) ?_
            refine rz_B.go 2 (pc' := 64) (L' := [some (.ref 0), some (vI a0), some (vI a1), none]) (S' := [.ref 40]) rfl ?_
            obtain ⟨r10, A10, hf10, h⟩ := rz_b_inv h
            obtain ⟨hg10, hr10, hw10⟩ := cx43_fault F (d := d + 0) hf10 hw
            refine rz_B.call (d := d + 37) (as := [.ref 40]) (rest := []) (w := some (vI r10)) rfl hg10 ?_
            refine rz_B.put 5 (pc' := 76) (L' := [some (.ref 0), some (vI a0), some (vI a1), some (vI r10)]) (S' := []) (c := 40) (k := 1) (x := 0) rfl ?_
            have hw11 : wf (aI A10 40 1 0) := wf_aI hw10 (by decide)
            refine rz_B.go 2 (pc' := if decide (Int32.ofInt r10 < Int32.ofInt 0) = true then 85 else 80) (L' := [some (.ref 0), some (vI a0), some (vI a1), some (vI r10)]) (S' := []) rfl ?_
            by_cases hc12 : 0 ≤ r10
            · have h := if_T h hc12
              refine rz_B.ifF (mt (lt32 hr10 (by decide)).mp (Int.not_lt.mpr hc12)) ?_
              refine rz_B.go 2 (pc' := 83) (L' := [some (.ref 0), some (vI a0), some (vI a1), some (vI r10)]) (S' := [vI r10, vI (-20)]) rfl ?_
              obtain ⟨hk13, h⟩ := rz_g32_inv h
              refine rz_B.isub rfl ?_
              cases h
              exact rz_B.ret rfl hk13 hw11
            · have h := if_F h hc12
              refine rz_B.ifT ((lt32 hr10 (by decide)).mpr (Int.not_le.mp hc12)) ?_
              refine rz_B.go 2 (pc' := 89) (L' := [some (.ref 0), some (vI a0), some (vI a1), some (vI r10)]) (S' := [.ref 51]) rfl ?_
              obtain ⟨_, A14, hf14, h⟩ := rz_b_inv h
              obtain ⟨hg14, hr14, hw14⟩ := cx6_forget F (d := d + 37) hf14 hw11
              refine rz_B.call (d := d + 37) (as := [.ref 51]) (rest := []) (w := none) rfl hg14 ?_
              refine rz_B.go 8 (pc' := 106) (L' := [some (.ref 0), some (vI a0), some (vI a1), some (vI r10)]) (S' := [.ref 40, vI (A14.1 0 16), vI a1, vI a0, .ref 43]) rfl ?_
              obtain ⟨r15, A15, hf15, h⟩ := rz_b_inv h
              obtain ⟨hg15, hr15, hw15⟩ := cx63_come F (d := d + 36) hf15 ha0 ha1 (hw14 0 16).1 hw14
              refine rz_B.call (d := d + 37) (as := [.ref 43, vI a0, vI a1, vI (A14.1 0 16), .ref 40]) (rest := []) (w := some (vI r15)) rfl hg15 ?_
              cases h
              exact rz_B.ret rfl hr15 hw15
        · have h := if_F h hc7
          refine rz_B.ifT ((lt32 (by decide) ha1).mpr (Int.not_le.mp hc7)) ?_
          refine rz_B.go 2 (pc' := 56) (L' := [some (.ref 0), some (vI a0), some (vI a1), none]) (S' := [vI (-6), .ref 0]) rfl ?_
          obtain ⟨r16, A16, hf16, h⟩ := rz_b_inv h
          obtain ⟨hg16, hr16, hw16⟩ := cx1_refuse F (d := d + 37) hf16 (by decide) hw
          refine rz_B.call (d := d + 37) (as := [.ref 0, vI (-6)]) (rest := []) (w := some (vI r16)) rfl hg16 ?_
          cases h
          exact rz_B.ret rfl hr16 hw16
  · have h := if_F h hc1
    refine rz_B.ifT ((lt32 ha0 (by decide)).mpr (Int.not_le.mp hc1)) ?_
    refine rz_B.go 2 (pc' := 12) (L' := [some (.ref 0), some (vI a0), some (vI a1), none]) (S' := [vI (-2), .ref 0]) rfl ?_
    obtain ⟨r17, A17, hf17, h⟩ := rz_b_inv h
    obtain ⟨hg17, hr17, hw17⟩ := cx1_refuse F (d := d + 37) hf17 (by decide) hw
    refine rz_B.call (d := d + 37) (as := [.ref 0, vI (-2)]) (rest := []) (w := some (vI r17)) rfl hg17 ?_
    cases h
    exact rz_B.ret rfl hr17 hw17
/-- RiverGauge.low(II)I -/
def x64_low (F : Nat) (a0 : Int) (a1 : Int) (A : rz_A) : Option (Int × rz_A) :=
  rz_b (x5_has F a0 A) fun r1 A1 =>
  if r1 = 0 then
    rz_b (x10_refuseAsTold F (-1) A1) fun r3 A3 =>
    some (r3, A3)
  else
    if a1 < (-2000) then
      rz_b (x10_refuseAsTold F (-4) A1) fun r5 A5 =>
      some (r5, A5)
    else
      if 9999 < a1 then
        rz_b (x10_refuseAsTold F (-6) A1) fun r7 A7 =>
        some (r7, A7)
      else
        rz_gx a0 6 <|
        some ((A1.1 4 (a0).toNat), (aI A1 4 (a0).toNat a1))
theorem cx64_low (F : Nat) {d : Nat} {a0 : Int} {a1 : Int} {A : rz_A} {r : Int} {A' : rz_A} (h : x64_low F a0 a1 A = some (r, A')) (ha0 : r32 a0) (ha1 : r32 a1) (hw : wf A) : rg_Rn (d + 2) 64 [.ref 0, vI a0, vI a1] (toM A) (some (vI r)) (toM A') ∧ (r32 r) ∧ wf A' := by
  show rz_B (d + 2) 64 0 [some (.ref 0), some (vI a0), some (vI a1), none] [] A (some (vI r)) A' (r32 r)
  unfold x64_low at h
  refine rz_B.go 3 (pc' := 5) (L' := [some (.ref 0), some (vI a0), some (vI a1), none]) (S' := [vI a0, .ref 2]) rfl ?_
  obtain ⟨r1, A1, hf1, h⟩ := rz_b_inv h
  obtain ⟨hg1, hr1, hw1⟩ := cx5_has F (d := d + 1) hf1 ha0 hw
  refine rz_B.call (d := d + 1) (as := [.ref 2, vI a0]) (rest := []) (w := some (vI r1)) rfl hg1 ?_
  refine rz_B.go 1 (pc' := if decide (¬ Int32.ofInt r1 = Int32.ofInt 0) = true then 17 else 11) (L' := [some (.ref 0), some (vI a0), some (vI a1), none]) (S' := []) rfl ?_
  by_cases hc2 : r1 = 0
  · have h := if_T h hc2
    refine rz_B.ifF (fun hn => hn ((eq32 hr1 (by decide)).mpr hc2)) ?_
    refine rz_B.go 2 (pc' := 13) (L' := [some (.ref 0), some (vI a0), some (vI a1), none]) (S' := [vI (-1), .ref 0]) rfl ?_
    obtain ⟨r3, A3, hf3, h⟩ := rz_b_inv h
    obtain ⟨hg3, hr3, hw3⟩ := cx10_refuseAsTold F (d := d + 0) hf3 (by decide) hw1
    refine rz_B.call (d := d + 1) (as := [.ref 0, vI (-1)]) (rest := []) (w := some (vI r3)) rfl hg3 ?_
    cases h
    exact rz_B.ret rfl hr3 hw3
  · have h := if_F h hc2
    refine rz_B.ifT (mt (eq32 hr1 (by decide)).mp hc2) ?_
    refine rz_B.go 3 (pc' := if decide (Int32.ofInt (-2000) ≤ Int32.ofInt a1) = true then 31 else 24) (L' := [some (.ref 0), some (vI a0), some (vI a1), none]) (S' := []) rfl ?_
    by_cases hc4 : a1 < (-2000)
    · have h := if_T h hc4
      refine rz_B.ifF (mt (le32 (by decide) ha1).mp (Int.not_le.mpr hc4)) ?_
      refine rz_B.go 2 (pc' := 27) (L' := [some (.ref 0), some (vI a0), some (vI a1), none]) (S' := [vI (-4), .ref 0]) rfl ?_
      obtain ⟨r5, A5, hf5, h⟩ := rz_b_inv h
      obtain ⟨hg5, hr5, hw5⟩ := cx10_refuseAsTold F (d := d + 0) hf5 (by decide) hw1
      refine rz_B.call (d := d + 1) (as := [.ref 0, vI (-4)]) (rest := []) (w := some (vI r5)) rfl hg5 ?_
      cases h
      exact rz_B.ret rfl hr5 hw5
    · have h := if_F h hc4
      refine rz_B.ifT ((le32 (by decide) ha1).mpr (Int.not_lt.mp hc4)) ?_
      refine rz_B.go 3 (pc' := if decide (Int32.ofInt a1 ≤ Int32.ofInt 9999) = true then 45 else 38) (L' := [some (.ref 0), some (vI a0), some (vI a1), none]) (S' := []) rfl ?_
      by_cases hc6 : 9999 < a1
      · have h := if_T h hc6
        refine rz_B.ifF (mt (le32 ha1 (by decide)).mp (Int.not_le.mpr hc6)) ?_
        refine rz_B.go 2 (pc' := 41) (L' := [some (.ref 0), some (vI a0), some (vI a1), none]) (S' := [vI (-6), .ref 0]) rfl ?_
        obtain ⟨r7, A7, hf7, h⟩ := rz_b_inv h
        obtain ⟨hg7, hr7, hw7⟩ := cx10_refuseAsTold F (d := d + 0) hf7 (by decide) hw1
        refine rz_B.call (d := d + 1) (as := [.ref 0, vI (-6)]) (rest := []) (w := some (vI r7)) rfl hg7 ?_
        cases h
        exact rz_B.ret rfl hr7 hw7
      · have h := if_F h hc6
        refine rz_B.ifT ((le32 ha1 (by decide)).mpr (Int.not_lt.mp hc6)) ?_
        refine rz_B.go 4 (pc' := 53) (L' := [some (.ref 0), some (vI a0), some (vI a1), none]) (S' := [vI a0, .ref 4]) rfl ?_
        obtain ⟨hi8, hj9, h⟩ := rz_gx_inv h
        refine rz_B.iald rfl rfl hi8 hj9 (by decide) ?_
        refine rz_B.go 6 (pc' := 64) (L' := [some (.ref 0), some (vI a0), some (vI a1), some (vI (A1.1 4 (a0).toNat))]) (S' := [vI a1, vI a0, .ref 4]) rfl ?_
        refine rz_B.iast rfl rfl hi8 hj9 (by decide) ?_
        have hw10 : wf (aI A1 4 (a0).toNat a1) := wf_aI hw1 ha1
        refine rz_B.go 1 (pc' := 66) (L' := [some (.ref 0), some (vI a0), some (vI a1), some (vI (A1.1 4 (a0).toNat))]) (S' := [vI (A1.1 4 (a0).toNat)]) rfl ?_
        cases h
        exact rz_B.ret rfl (hw1 4 (a0).toNat).1 hw10
def x66_beginsAt_2 (F : Nat) : Nat → Int → Int → Int → rz_A → Option (Int × rz_A)
  | 0, _, _, _, _ => none
  | n + 1, v1, v2, v3, A =>
    rz_gx v1 6 <|
    if v3 < (A.1 6 (v1).toNat) then
      if v1 = 0 then
        rz_gx v3 8 <|
        if (A.1 8 (v3).toNat) = v2 then
          some (1, A)
        else
          rz_g32 (v3 + 1) <|
          x66_beginsAt_2 F n v1 v2 (v3 + 1) A
      else
        if v1 = 1 then
          rz_gx v3 8 <|
          if (A.1 9 (v3).toNat) = v2 then
            some (1, A)
          else
            rz_g32 (v3 + 1) <|
            x66_beginsAt_2 F n v1 v2 (v3 + 1) A
        else
          if v1 = 2 then
            rz_gx v3 8 <|
            if (A.1 10 (v3).toNat) = v2 then
              some (1, A)
            else
              rz_g32 (v3 + 1) <|
              x66_beginsAt_2 F n v1 v2 (v3 + 1) A
          else
            if v1 = 3 then
              rz_gx v3 8 <|
              if (A.1 11 (v3).toNat) = v2 then
                some (1, A)
              else
                rz_g32 (v3 + 1) <|
                x66_beginsAt_2 F n v1 v2 (v3 + 1) A
            else
              if v1 = 4 then
                rz_gx v3 8 <|
                if (A.1 12 (v3).toNat) = v2 then
                  some (1, A)
                else
                  rz_g32 (v3 + 1) <|
                  x66_beginsAt_2 F n v1 v2 (v3 + 1) A
              else
                  rz_gx v3 8 <|
                  if (A.1 13 (v3).toNat) = v2 then
                    some (1, A)
                  else
                    rz_g32 (v3 + 1) <|
                    x66_beginsAt_2 F n v1 v2 (v3 + 1) A
    else
      some (0, A)
theorem cx66_beginsAt_2 {d : Nat} (F : Nat) : ∀ (n : Nat) (v1 : Int) (v2 : Int) (v3 : Int) (A : rz_A) (r : Int) (A' : rz_A), x66_beginsAt_2 F n v1 v2 v3 A = some (r, A') → r32 v1 → r32 v2 → r32 v3 → wf A → rz_B (d + 0) 66 2 [some (.ref 2), some (vI v1), some (vI v2), some (vI v3)] [] A (some (vI r)) A' (r32 r) := by
  intro n
  induction n with
  | zero => intro v1 v2 v3 A r A' h; cases h
  | succ n ih =>
    intro v1 v2 v3 A r A' h hv1 hv2 hv3 hw
    rw [x66_beginsAt_2] at h
    refine rz_B.go 4 (pc' := 8) (L' := [some (.ref 2), some (vI v1), some (vI v2), some (vI v3)]) (S' := [vI v1, .ref 6, vI v3]) rfl ?_
    obtain ⟨hi1, hj2, h⟩ := rz_gx_inv h
    refine rz_B.iald rfl rfl hi1 hj2 (by decide) ?_
    refine rz_B.go 1 (pc' := if decide (Int32.ofInt (A.1 6 (v1).toNat) ≤ Int32.ofInt v3) = true then 32 else 12) (L' := [some (.ref 2), some (vI v1), some (vI v2), some (vI v3)]) (S' := []) rfl ?_
    by_cases hc3 : v3 < (A.1 6 (v1).toNat)
    · have h := if_T h hc3
      refine rz_B.ifF (mt (le32 (hw 6 (v1).toNat).1 hv3).mp (Int.not_le.mpr hc3)) ?_
      refine rz_B.go 3 (pc' := 17) (L' := [some (.ref 2), some (vI v1), some (vI v2), some (vI v3)]) (S' := [vI v1, .ref 7]) rfl ?_
      by_cases hj4 : v1 = 0
      · have h := if_T h hj4
        refine rz_B.aald rfl (Or.inr rfl) rfl hi1 hj2 (by decide) (c' := 8) (by omega) ?_
        refine rz_B.go 1 (pc' := 19) (L' := [some (.ref 2), some (vI v1), some (vI v2), some (vI v3)]) (S' := [vI v3, .ref 8]) rfl ?_
        obtain ⟨hi5, hj6, h⟩ := rz_gx_inv h
        refine rz_B.iald rfl rfl hi5 hj6 (by decide) ?_
        refine rz_B.go 2 (pc' := if decide (¬ Int32.ofInt (A.1 8 (v3).toNat) = Int32.ofInt v2) = true then 26 else 24) (L' := [some (.ref 2), some (vI v1), some (vI v2), some (vI v3)]) (S' := []) rfl ?_
        by_cases hc7 : (A.1 8 (v3).toNat) = v2
        · have h := if_T h hc7
          refine rz_B.ifF (fun hn => hn ((eq32 (hw 8 (v3).toNat).1 hv2).mpr hc7)) ?_
          refine rz_B.go 1 (pc' := 25) (L' := [some (.ref 2), some (vI v1), some (vI v2), some (vI v3)]) (S' := [vI 1]) rfl ?_
          cases h
          exact rz_B.ret rfl (by decide) hw
        · have h := if_F h hc7
          refine rz_B.ifT (mt (eq32 (hw 8 (v3).toNat).1 hv2).mp hc7) ?_
          obtain ⟨hk8, h⟩ := rz_g32_inv h
          refine rz_B.iinc rfl (by decide) rfl (L' := [some (.ref 2), some (vI v1), some (vI v2), some (vI (v3 + 1))]) rfl ?_
          refine rz_B.go 1 (pc' := 2) (L' := [some (.ref 2), some (vI v1), some (vI v2), some (vI (v3 + 1))]) (S' := []) rfl ?_
          refine rz_B.more (rg_le_ok (L := [some (.ref 2), some (vI v1), some (vI v2), some (vI (v3 + 1))]) (by simp [rg_le])) ?_
          exact ih _ _ _ _ _ _ h hv1 hv2 hk8 hw
      · have h := if_F h hj4
        by_cases hj9 : v1 = 1
        · have h := if_T h hj9
          refine rz_B.aald rfl (Or.inr rfl) rfl hi1 hj2 (by decide) (c' := 9) (by omega) ?_
          refine rz_B.go 1 (pc' := 19) (L' := [some (.ref 2), some (vI v1), some (vI v2), some (vI v3)]) (S' := [vI v3, .ref 9]) rfl ?_
          obtain ⟨hi10, hj11, h⟩ := rz_gx_inv h
          refine rz_B.iald rfl rfl hi10 hj11 (by decide) ?_
          refine rz_B.go 2 (pc' := if decide (¬ Int32.ofInt (A.1 9 (v3).toNat) = Int32.ofInt v2) = true then 26 else 24) (L' := [some (.ref 2), some (vI v1), some (vI v2), some (vI v3)]) (S' := []) rfl ?_
          by_cases hc12 : (A.1 9 (v3).toNat) = v2
          · have h := if_T h hc12
            refine rz_B.ifF (fun hn => hn ((eq32 (hw 9 (v3).toNat).1 hv2).mpr hc12)) ?_
            refine rz_B.go 1 (pc' := 25) (L' := [some (.ref 2), some (vI v1), some (vI v2), some (vI v3)]) (S' := [vI 1]) rfl ?_
            cases h
            exact rz_B.ret rfl (by decide) hw
          · have h := if_F h hc12
            refine rz_B.ifT (mt (eq32 (hw 9 (v3).toNat).1 hv2).mp hc12) ?_
            obtain ⟨hk13, h⟩ := rz_g32_inv h
            refine rz_B.iinc rfl (by decide) rfl (L' := [some (.ref 2), some (vI v1), some (vI v2), some (vI (v3 + 1))]) rfl ?_
            refine rz_B.go 1 (pc' := 2) (L' := [some (.ref 2), some (vI v1), some (vI v2), some (vI (v3 + 1))]) (S' := []) rfl ?_
            refine rz_B.more (rg_le_ok (L := [some (.ref 2), some (vI v1), some (vI v2), some (vI (v3 + 1))]) (by simp [rg_le])) ?_
            exact ih _ _ _ _ _ _ h hv1 hv2 hk13 hw
        · have h := if_F h hj9
          by_cases hj14 : v1 = 2
          · have h := if_T h hj14
            refine rz_B.aald rfl (Or.inr rfl) rfl hi1 hj2 (by decide) (c' := 10) (by omega) ?_
            refine rz_B.go 1 (pc' := 19) (L' := [some (.ref 2), some (vI v1), some (vI v2), some (vI v3)]) (S' := [vI v3, .ref 10]) rfl ?_
            obtain ⟨hi15, hj16, h⟩ := rz_gx_inv h
            refine rz_B.iald rfl rfl hi15 hj16 (by decide) ?_
            refine rz_B.go 2 (pc' := if decide (¬ Int32.ofInt (A.1 10 (v3).toNat) = Int32.ofInt v2) = true then 26 else 24) (L' := [some (.ref 2), some (vI v1), some (vI v2), some (vI v3)]) (S' := []) rfl ?_
            by_cases hc17 : (A.1 10 (v3).toNat) = v2
            · have h := if_T h hc17
              refine rz_B.ifF (fun hn => hn ((eq32 (hw 10 (v3).toNat).1 hv2).mpr hc17)) ?_
              refine rz_B.go 1 (pc' := 25) (L' := [some (.ref 2), some (vI v1), some (vI v2), some (vI v3)]) (S' := [vI 1]) rfl ?_
              cases h
              exact rz_B.ret rfl (by decide) hw
            · have h := if_F h hc17
              refine rz_B.ifT (mt (eq32 (hw 10 (v3).toNat).1 hv2).mp hc17) ?_
              obtain ⟨hk18, h⟩ := rz_g32_inv h
              refine rz_B.iinc rfl (by decide) rfl (L' := [some (.ref 2), some (vI v1), some (vI v2), some (vI (v3 + 1))]) rfl ?_
              refine rz_B.go 1 (pc' := 2) (L' := [some (.ref 2), some (vI v1), some (vI v2), some (vI (v3 + 1))]) (S' := []) rfl ?_
              refine rz_B.more (rg_le_ok (L := [some (.ref 2), some (vI v1), some (vI v2), some (vI (v3 + 1))]) (by simp [rg_le])) ?_
              exact ih _ _ _ _ _ _ h hv1 hv2 hk18 hw
          · have h := if_F h hj14
            by_cases hj19 : v1 = 3
            · have h := if_T h hj19
              refine rz_B.aald rfl (Or.inr rfl) rfl hi1 hj2 (by decide) (c' := 11) (by omega) ?_
              refine rz_B.go 1 (pc' := 19) (L' := [some (.ref 2), some (vI v1), some (vI v2), some (vI v3)]) (S' := [vI v3, .ref 11]) rfl ?_
              obtain ⟨hi20, hj21, h⟩ := rz_gx_inv h
              refine rz_B.iald rfl rfl hi20 hj21 (by decide) ?_
              refine rz_B.go 2 (pc' := if decide (¬ Int32.ofInt (A.1 11 (v3).toNat) = Int32.ofInt v2) = true then 26 else 24) (L' := [some (.ref 2), some (vI v1), some (vI v2), some (vI v3)]) (S' := []) rfl ?_
              by_cases hc22 : (A.1 11 (v3).toNat) = v2
              · have h := if_T h hc22
                refine rz_B.ifF (fun hn => hn ((eq32 (hw 11 (v3).toNat).1 hv2).mpr hc22)) ?_
                refine rz_B.go 1 (pc' := 25) (L' := [some (.ref 2), some (vI v1), some (vI v2), some (vI v3)]) (S' := [vI 1]) rfl ?_
                cases h
                exact rz_B.ret rfl (by decide) hw
              · have h := if_F h hc22
                refine rz_B.ifT (mt (eq32 (hw 11 (v3).toNat).1 hv2).mp hc22) ?_
                obtain ⟨hk23, h⟩ := rz_g32_inv h
                refine rz_B.iinc rfl (by decide) rfl (L' := [some (.ref 2), some (vI v1), some (vI v2), some (vI (v3 + 1))]) rfl ?_
                refine rz_B.go 1 (pc' := 2) (L' := [some (.ref 2), some (vI v1), some (vI v2), some (vI (v3 + 1))]) (S' := []) rfl ?_
                refine rz_B.more (rg_le_ok (L := [some (.ref 2), some (vI v1), some (vI v2), some (vI (v3 + 1))]) (by simp [rg_le])) ?_
                exact ih _ _ _ _ _ _ h hv1 hv2 hk23 hw
            · have h := if_F h hj19
              by_cases hj24 : v1 = 4
              · have h := if_T h hj24
                refine rz_B.aald rfl (Or.inr rfl) rfl hi1 hj2 (by decide) (c' := 12) (by omega) ?_
                refine rz_B.go 1 (pc' := 19) (L' := [some (.ref 2), some (vI v1), some (vI v2), some (vI v3)]) (S' := [vI v3, .ref 12]) rfl ?_
                obtain ⟨hi25, hj26, h⟩ := rz_gx_inv h
                refine rz_B.iald rfl rfl hi25 hj26 (by decide) ?_
                refine rz_B.go 2 (pc' := if decide (¬ Int32.ofInt (A.1 12 (v3).toNat) = Int32.ofInt v2) = true then 26 else 24) (L' := [some (.ref 2), some (vI v1), some (vI v2), some (vI v3)]) (S' := []) rfl ?_
                by_cases hc27 : (A.1 12 (v3).toNat) = v2
                · have h := if_T h hc27
                  refine rz_B.ifF (fun hn => hn ((eq32 (hw 12 (v3).toNat).1 hv2).mpr hc27)) ?_
                  refine rz_B.go 1 (pc' := 25) (L' := [some (.ref 2), some (vI v1), some (vI v2), some (vI v3)]) (S' := [vI 1]) rfl ?_
                  cases h
                  exact rz_B.ret rfl (by decide) hw
                · have h := if_F h hc27
                  refine rz_B.ifT (mt (eq32 (hw 12 (v3).toNat).1 hv2).mp hc27) ?_
                  obtain ⟨hk28, h⟩ := rz_g32_inv h
                  refine rz_B.iinc rfl (by decide) rfl (L' := [some (.ref 2), some (vI v1), some (vI v2), some (vI (v3 + 1))]) rfl ?_
                  refine rz_B.go 1 (pc' := 2) (L' := [some (.ref 2), some (vI v1), some (vI v2), some (vI (v3 + 1))]) (S' := []) rfl ?_
                  refine rz_B.more (rg_le_ok (L := [some (.ref 2), some (vI v1), some (vI v2), some (vI (v3 + 1))]) (by simp [rg_le])) ?_
                  exact ih _ _ _ _ _ _ h hv1 hv2 hk28 hw
              · have h := if_F h hj24
                refine rz_B.aald rfl (Or.inr rfl) rfl hi1 hj2 (by decide) (c' := 13) (by omega) ?_
                refine rz_B.go 1 (pc' := 19) (L' := [some (.ref 2), some (vI v1), some (vI v2), some (vI v3)]) (S' := [vI v3, .ref 13]) rfl ?_
                obtain ⟨hi30, hj31, h⟩ := rz_gx_inv h
                refine rz_B.iald rfl rfl hi30 hj31 (by decide) ?_
                refine rz_B.go 2 (pc' := if decide (¬ Int32.ofInt (A.1 13 (v3).toNat) = Int32.ofInt v2) = true then 26 else 24) (L' := [some (.ref 2), some (vI v1), some (vI v2), some (vI v3)]) (S' := []) rfl ?_
                by_cases hc32 : (A.1 13 (v3).toNat) = v2
                · have h := if_T h hc32
                  refine rz_B.ifF (fun hn => hn ((eq32 (hw 13 (v3).toNat).1 hv2).mpr hc32)) ?_
                  refine rz_B.go 1 (pc' := 25) (L' := [some (.ref 2), some (vI v1), some (vI v2), some (vI v3)]) (S' := [vI 1]) rfl ?_
                  cases h
                  exact rz_B.ret rfl (by decide) hw
                · have h := if_F h hc32
                  refine rz_B.ifT (mt (eq32 (hw 13 (v3).toNat).1 hv2).mp hc32) ?_
                  obtain ⟨hk33, h⟩ := rz_g32_inv h
                  refine rz_B.iinc rfl (by decide) rfl (L' := [some (.ref 2), some (vI v1), some (vI v2), some (vI (v3 + 1))]) rfl ?_
                  refine rz_B.go 1 (pc' := 2) (L' := [some (.ref 2), some (vI v1), some (vI v2), some (vI (v3 + 1))]) (S' := []) rfl ?_
                  refine rz_B.more (rg_le_ok (L := [some (.ref 2), some (vI v1), some (vI v2), some (vI (v3 + 1))]) (by simp [rg_le])) ?_
                  exact ih _ _ _ _ _ _ h hv1 hv2 hk33 hw
    · have h := if_F h hc3
      refine rz_B.ifT ((le32 (hw 6 (v1).toNat).1 hv3).mpr (Int.not_lt.mp hc3)) ?_
      refine rz_B.go 1 (pc' := 33) (L' := [some (.ref 2), some (vI v1), some (vI v2), some (vI v3)]) (S' := [vI 0]) rfl ?_
      cases h
      exact rz_B.ret rfl (by decide) hw
/-- RiverGauge$Posts.beginsAt(II)Z -/
def x66_beginsAt (F : Nat) (a0 : Int) (a1 : Int) (A : rz_A) : Option (Int × rz_A) :=
  x66_beginsAt_2 F F a0 a1 0 A
theorem cx66_beginsAt (F : Nat) {d : Nat} {a0 : Int} {a1 : Int} {A : rz_A} {r : Int} {A' : rz_A} (h : x66_beginsAt F a0 a1 A = some (r, A')) (ha0 : r32 a0) (ha1 : r32 a1) (hw : wf A) : rg_Rn (d + 0) 66 [.ref 2, vI a0, vI a1] (toM A) (some (vI r)) (toM A') ∧ (r32 r) ∧ wf A' := by
  show rz_B (d + 0) 66 0 [some (.ref 2), some (vI a0), some (vI a1), none] [] A (some (vI r)) A' (r32 r)
  unfold x66_beginsAt at h
  refine rz_B.go 2 (pc' := 2) (L' := [some (.ref 2), some (vI a0), some (vI a1), some (vI 0)]) (S' := []) rfl ?_
  refine rz_B.more (rg_le_ok (L := [some (.ref 2), some (vI a0), some (vI a1), some (vI 0)]) (by simp [rg_le])) ?_
  exact cx66_beginsAt_2 F F _ _ _ _ _ _ h ha0 ha1 (by decide) hw
/-- RiverGauge$Posts.begin(II)I -/
def x67_begin (F : Nat) (a0 : Int) (a1 : Int) (A : rz_A) : Option (Int × rz_A) :=
  rz_gx a0 6 <|
  if a0 = 0 then
    rz_gx (A.1 6 (a0).toNat) 8 <|
    rz_g32 ((A.1 6 (a0).toNat) + 1) <|
    some (((aI A 6 (a0).toNat ((A.1 6 (a0).toNat) + 1)).1 6 (a0).toNat), (aI (aI A 8 ((A.1 6 (a0).toNat)).toNat a1) 6 (a0).toNat ((A.1 6 (a0).toNat) + 1)))
  else
    if a0 = 1 then
      rz_gx (A.1 6 (a0).toNat) 8 <|
      rz_g32 ((A.1 6 (a0).toNat) + 1) <|
      some (((aI A 6 (a0).toNat ((A.1 6 (a0).toNat) + 1)).1 6 (a0).toNat), (aI (aI A 9 ((A.1 6 (a0).toNat)).toNat a1) 6 (a0).toNat ((A.1 6 (a0).toNat) + 1)))
    else
      if a0 = 2 then
        rz_gx (A.1 6 (a0).toNat) 8 <|
        rz_g32 ((A.1 6 (a0).toNat) + 1) <|
        some (((aI A 6 (a0).toNat ((A.1 6 (a0).toNat) + 1)).1 6 (a0).toNat), (aI (aI A 10 ((A.1 6 (a0).toNat)).toNat a1) 6 (a0).toNat ((A.1 6 (a0).toNat) + 1)))
      else
        if a0 = 3 then
          rz_gx (A.1 6 (a0).toNat) 8 <|
          rz_g32 ((A.1 6 (a0).toNat) + 1) <|
          some (((aI A 6 (a0).toNat ((A.1 6 (a0).toNat) + 1)).1 6 (a0).toNat), (aI (aI A 11 ((A.1 6 (a0).toNat)).toNat a1) 6 (a0).toNat ((A.1 6 (a0).toNat) + 1)))
        else
          if a0 = 4 then
            rz_gx (A.1 6 (a0).toNat) 8 <|
            rz_g32 ((A.1 6 (a0).toNat) + 1) <|
            some (((aI A 6 (a0).toNat ((A.1 6 (a0).toNat) + 1)).1 6 (a0).toNat), (aI (aI A 12 ((A.1 6 (a0).toNat)).toNat a1) 6 (a0).toNat ((A.1 6 (a0).toNat) + 1)))
          else
              rz_gx (A.1 6 (a0).toNat) 8 <|
              rz_g32 ((A.1 6 (a0).toNat) + 1) <|
              some (((aI A 6 (a0).toNat ((A.1 6 (a0).toNat) + 1)).1 6 (a0).toNat), (aI (aI A 13 ((A.1 6 (a0).toNat)).toNat a1) 6 (a0).toNat ((A.1 6 (a0).toNat) + 1)))
theorem cx67_begin (F : Nat) {d : Nat} {a0 : Int} {a1 : Int} {A : rz_A} {r : Int} {A' : rz_A} (h : x67_begin F a0 a1 A = some (r, A')) (ha0 : r32 a0) (ha1 : r32 a1) (hw : wf A) : rg_Rn (d + 0) 67 [.ref 2, vI a0, vI a1] (toM A) (some (vI r)) (toM A') ∧ (r32 r) ∧ wf A' := by
  show rz_B (d + 0) 67 0 [some (.ref 2), some (vI a0), some (vI a1)] [] A (some (vI r)) A' (r32 r)
  unfold x67_begin at h
  refine rz_B.go 3 (pc' := 5) (L' := [some (.ref 2), some (vI a0), some (vI a1)]) (S' := [vI a0, .ref 7]) rfl ?_
  obtain ⟨hi1, hj2, h⟩ := rz_gx_inv h
  by_cases hj3 : a0 = 0
  · have h := if_T h hj3
    refine rz_B.aald rfl (Or.inr rfl) rfl hi1 hj2 (by decide) (c' := 8) (by omega) ?_
    refine rz_B.go 3 (pc' := 11) (L' := [some (.ref 2), some (vI a0), some (vI a1)]) (S' := [vI a0, .ref 6, .ref 8]) rfl ?_
    refine rz_B.iald rfl rfl hi1 hj2 (by decide) ?_
    refine rz_B.go 1 (pc' := 13) (L' := [some (.ref 2), some (vI a0), some (vI a1)]) (S' := [vI a1, vI (A.1 6 (a0).toNat), .ref 8]) rfl ?_
    obtain ⟨hi4, hj5, h⟩ := rz_gx_inv h
    refine rz_B.iast rfl rfl hi4 hj5 (by decide) ?_
    have hw6 : wf (aI A 8 ((A.1 6 (a0).toNat)).toNat a1) := wf_aI hw ha1
    refine rz_B.go 4 (pc' := 20) (L' := [some (.ref 2), some (vI a0), some (vI a1)]) (S' := [vI a0, .ref 6, vI a0, .ref 6]) rfl ?_
    refine rz_B.iald rfl rfl hi1 hj2 (by decide) ?_
    refine rz_B.go 1 (pc' := 22) (L' := [some (.ref 2), some (vI a0), some (vI a1)]) (S' := [vI 1, vI (A.1 6 (a0).toNat), vI a0, .ref 6]) rfl ?_
    obtain ⟨hk7, h⟩ := rz_g32_inv h
    refine rz_B.iadd rfl ?_
    refine rz_B.iast rfl rfl hi1 hj2 (by decide) ?_
    have hw8 : wf (aI (aI A 8 ((A.1 6 (a0).toNat)).toNat a1) 6 (a0).toNat ((A.1 6 (a0).toNat) + 1)) := wf_aI hw6 hk7
    refine rz_B.go 3 (pc' := 29) (L' := [some (.ref 2), some (vI a0), some (vI a1)]) (S' := [vI a0, .ref 6]) rfl ?_
    refine rz_B.iald rfl rfl hi1 hj2 (by decide) ?_
    cases h
    exact rz_B.ret rfl (hw8 6 (a0).toNat).1 hw8
  · have h := if_F h hj3
    by_cases hj9 : a0 = 1
    · have h := if_T h hj9
      refine rz_B.aald rfl (Or.inr rfl) rfl hi1 hj2 (by decide) (c' := 9) (by omega) ?_
      refine rz_B.go 3 (pc' := 11) (L' := [some (.ref 2), some (vI a0), some (vI a1)]) (S' := [vI a0, .ref 6, .ref 9]) rfl ?_
      refine rz_B.iald rfl rfl hi1 hj2 (by decide) ?_
      refine rz_B.go 1 (pc' := 13) (L' := [some (.ref 2), some (vI a0), some (vI a1)]) (S' := [vI a1, vI (A.1 6 (a0).toNat), .ref 9]) rfl ?_
      obtain ⟨hi10, hj11, h⟩ := rz_gx_inv h
      refine rz_B.iast rfl rfl hi10 hj11 (by decide) ?_
      have hw12 : wf (aI A 9 ((A.1 6 (a0).toNat)).toNat a1) := wf_aI hw ha1
      refine rz_B.go 4 (pc' := 20) (L' := [some (.ref 2), some (vI a0), some (vI a1)]) (S' := [vI a0, .ref 6, vI a0, .ref 6]) rfl ?_
      refine rz_B.iald rfl rfl hi1 hj2 (by decide) ?_
      refine rz_B.go 1 (pc' := 22) (L' := [some (.ref 2), some (vI a0), some (vI a1)]) (S' := [vI 1, vI (A.1 6 (a0).toNat), vI a0, .ref 6]) rfl ?_
      obtain ⟨hk13, h⟩ := rz_g32_inv h
      refine rz_B.iadd rfl ?_
      refine rz_B.iast rfl rfl hi1 hj2 (by decide) ?_
      have hw14 : wf (aI (aI A 9 ((A.1 6 (a0).toNat)).toNat a1) 6 (a0).toNat ((A.1 6 (a0).toNat) + 1)) := wf_aI hw12 hk13
      refine rz_B.go 3 (pc' := 29) (L' := [some (.ref 2), some (vI a0), some (vI a1)]) (S' := [vI a0, .ref 6]) rfl ?_
      refine rz_B.iald rfl rfl hi1 hj2 (by decide) ?_
      cases h
      exact rz_B.ret rfl (hw14 6 (a0).toNat).1 hw14
    · have h := if_F h hj9
      by_cases hj15 : a0 = 2
      · have h := if_T h hj15
        refine rz_B.aald rfl (Or.inr rfl) rfl hi1 hj2 (by decide) (c' := 10) (by omega) ?_
        refine rz_B.go 3 (pc' := 11) (L' := [some (.ref 2), some (vI a0), some (vI a1)]) (S' := [vI a0, .ref 6, .ref 10]) rfl ?_
        refine rz_B.iald rfl rfl hi1 hj2 (by decide) ?_
        refine rz_B.go 1 (pc' := 13) (L' := [some (.ref 2), some (vI a0), some (vI a1)]) (S' := [vI a1, vI (A.1 6 (a0).toNat), .ref 10]) rfl ?_
        obtain ⟨hi16, hj17, h⟩ := rz_gx_inv h
        refine rz_B.iast rfl rfl hi16 hj17 (by decide) ?_
        have hw18 : wf (aI A 10 ((A.1 6 (a0).toNat)).toNat a1) := wf_aI hw ha1
        refine rz_B.go 4 (pc' := 20) (L' := [some (.ref 2), some (vI a0), some (vI a1)]) (S' := [vI a0, .ref 6, vI a0, .ref 6]) rfl ?_
        refine rz_B.iald rfl rfl hi1 hj2 (by decide) ?_
        refine rz_B.go 1 (pc' := 22) (L' := [some (.ref 2), some (vI a0), some (vI a1)]) (S' := [vI 1, vI (A.1 6 (a0).toNat), vI a0, .ref 6]) rfl ?_
        obtain ⟨hk19, h⟩ := rz_g32_inv h
        refine rz_B.iadd rfl ?_
        refine rz_B.iast rfl rfl hi1 hj2 (by decide) ?_
        have hw20 : wf (aI (aI A 10 ((A.1 6 (a0).toNat)).toNat a1) 6 (a0).toNat ((A.1 6 (a0).toNat) + 1)) := wf_aI hw18 hk19
        refine rz_B.go 3 (pc' := 29) (L' := [some (.ref 2), some (vI a0), some (vI a1)]) (S' := [vI a0, .ref 6]) rfl ?_
        refine rz_B.iald rfl rfl hi1 hj2 (by decide) ?_
        cases h
        exact rz_B.ret rfl (hw20 6 (a0).toNat).1 hw20
      · have h := if_F h hj15
        by_cases hj21 : a0 = 3
        · have h := if_T h hj21
          refine rz_B.aald rfl (Or.inr rfl) rfl hi1 hj2 (by decide) (c' := 11) (by omega) ?_
          refine rz_B.go 3 (pc' := 11) (L' := [some (.ref 2), some (vI a0), some (vI a1)]) (S' := [vI a0, .ref 6, .ref 11]) rfl ?_
          refine rz_B.iald rfl rfl hi1 hj2 (by decide) ?_
          refine rz_B.go 1 (pc' := 13) (L' := [some (.ref 2), some (vI a0), some (vI a1)]) (S' := [vI a1, vI (A.1 6 (a0).toNat), .ref 11]) rfl ?_
          obtain ⟨hi22, hj23, h⟩ := rz_gx_inv h
          refine rz_B.iast rfl rfl hi22 hj23 (by decide) ?_
          have hw24 : wf (aI A 11 ((A.1 6 (a0).toNat)).toNat a1) := wf_aI hw ha1
          refine rz_B.go 4 (pc' := 20) (L' := [some (.ref 2), some (vI a0), some (vI a1)]) (S' := [vI a0, .ref 6, vI a0, .ref 6]) rfl ?_
          refine rz_B.iald rfl rfl hi1 hj2 (by decide) ?_
          refine rz_B.go 1 (pc' := 22) (L' := [some (.ref 2), some (vI a0), some (vI a1)]) (S' := [vI 1, vI (A.1 6 (a0).toNat), vI a0, .ref 6]) rfl ?_
          obtain ⟨hk25, h⟩ := rz_g32_inv h
          refine rz_B.iadd rfl ?_
          refine rz_B.iast rfl rfl hi1 hj2 (by decide) ?_
          have hw26 : wf (aI (aI A 11 ((A.1 6 (a0).toNat)).toNat a1) 6 (a0).toNat ((A.1 6 (a0).toNat) + 1)) := wf_aI hw24 hk25
          refine rz_B.go 3 (pc' := 29) (L' := [some (.ref 2), some (vI a0), some (vI a1)]) (S' := [vI a0, .ref 6]) rfl ?_
          refine rz_B.iald rfl rfl hi1 hj2 (by decide) ?_
          cases h
          exact rz_B.ret rfl (hw26 6 (a0).toNat).1 hw26
        · have h := if_F h hj21
          by_cases hj27 : a0 = 4
          · have h := if_T h hj27
            refine rz_B.aald rfl (Or.inr rfl) rfl hi1 hj2 (by decide) (c' := 12) (by omega) ?_
            refine rz_B.go 3 (pc' := 11) (L' := [some (.ref 2), some (vI a0), some (vI a1)]) (S' := [vI a0, .ref 6, .ref 12]) rfl ?_
            refine rz_B.iald rfl rfl hi1 hj2 (by decide) ?_
            refine rz_B.go 1 (pc' := 13) (L' := [some (.ref 2), some (vI a0), some (vI a1)]) (S' := [vI a1, vI (A.1 6 (a0).toNat), .ref 12]) rfl ?_
            obtain ⟨hi28, hj29, h⟩ := rz_gx_inv h
            refine rz_B.iast rfl rfl hi28 hj29 (by decide) ?_
            have hw30 : wf (aI A 12 ((A.1 6 (a0).toNat)).toNat a1) := wf_aI hw ha1
            refine rz_B.go 4 (pc' := 20) (L' := [some (.ref 2), some (vI a0), some (vI a1)]) (S' := [vI a0, .ref 6, vI a0, .ref 6]) rfl ?_
            refine rz_B.iald rfl rfl hi1 hj2 (by decide) ?_
            refine rz_B.go 1 (pc' := 22) (L' := [some (.ref 2), some (vI a0), some (vI a1)]) (S' := [vI 1, vI (A.1 6 (a0).toNat), vI a0, .ref 6]) rfl ?_
            obtain ⟨hk31, h⟩ := rz_g32_inv h
            refine rz_B.iadd rfl ?_
            refine rz_B.iast rfl rfl hi1 hj2 (by decide) ?_
            have hw32 : wf (aI (aI A 12 ((A.1 6 (a0).toNat)).toNat a1) 6 (a0).toNat ((A.1 6 (a0).toNat) + 1)) := wf_aI hw30 hk31
            refine rz_B.go 3 (pc' := 29) (L' := [some (.ref 2), some (vI a0), some (vI a1)]) (S' := [vI a0, .ref 6]) rfl ?_
            refine rz_B.iald rfl rfl hi1 hj2 (by decide) ?_
            cases h
            exact rz_B.ret rfl (hw32 6 (a0).toNat).1 hw32
          · have h := if_F h hj27
            refine rz_B.aald rfl (Or.inr rfl) rfl hi1 hj2 (by decide) (c' := 13) (by omega) ?_
            refine rz_B.go 3 (pc' := 11) (L' := [some (.ref 2), some (vI a0), some (vI a1)]) (S' := [vI a0, .ref 6, .ref 13]) rfl ?_
            refine rz_B.iald rfl rfl hi1 hj2 (by decide) ?_
            refine rz_B.go 1 (pc' := 13) (L' := [some (.ref 2), some (vI a0), some (vI a1)]) (S' := [vI a1, vI (A.1 6 (a0).toNat), .ref 13]) rfl ?_
            obtain ⟨hi34, hj35, h⟩ := rz_gx_inv h
            refine rz_B.iast rfl rfl hi34 hj35 (by decide) ?_
            have hw36 : wf (aI A 13 ((A.1 6 (a0).toNat)).toNat a1) := wf_aI hw ha1
            refine rz_B.go 4 (pc' := 20) (L' := [some (.ref 2), some (vI a0), some (vI a1)]) (S' := [vI a0, .ref 6, vI a0, .ref 6]) rfl ?_
            refine rz_B.iald rfl rfl hi1 hj2 (by decide) ?_
            refine rz_B.go 1 (pc' := 22) (L' := [some (.ref 2), some (vI a0), some (vI a1)]) (S' := [vI 1, vI (A.1 6 (a0).toNat), vI a0, .ref 6]) rfl ?_
            obtain ⟨hk37, h⟩ := rz_g32_inv h
            refine rz_B.iadd rfl ?_
            refine rz_B.iast rfl rfl hi1 hj2 (by decide) ?_
            have hw38 : wf (aI (aI A 13 ((A.1 6 (a0).toNat)).toNat a1) 6 (a0).toNat ((A.1 6 (a0).toNat) + 1)) := wf_aI hw36 hk37
            refine rz_B.go 3 (pc' := 29) (L' := [some (.ref 2), some (vI a0), some (vI a1)]) (S' := [vI a0, .ref 6]) rfl ?_
            refine rz_B.iald rfl rfl hi1 hj2 (by decide) ?_
            cases h
            exact rz_B.ret rfl (hw38 6 (a0).toNat).1 hw38
/-- RiverGauge.stretch(II)I -/
def x65_stretch (F : Nat) (a0 : Int) (a1 : Int) (A : rz_A) : Option (Int × rz_A) :=
  rz_b (x5_has F a0 A) fun r1 A1 =>
  if r1 = 0 then
    rz_b (x1_refuse F (-1) A1) fun r3 A3 =>
    some (r3, A3)
  else
    rz_b (x66_beginsAt F a0 a1 A1) fun r4 A4 =>
    if r4 = 0 then
      rz_b (x19_whyNotTime F a1 A4) fun r6 A6 =>
      if r6 = 0 then
        rz_gx a0 6 <|
        if 8 ≤ (A6.1 6 (a0).toNat) then
          rz_b (x1_refuse F (-6) A6) fun r11 A11 =>
          some (r11, A11)
        else
          rz_b (x67_begin F a0 a1 A6) fun r12 A12 =>
          some (r12, A12)
      else
        rz_b (x1_refuse F r6 A6) fun r13 A13 =>
        some (r13, A13)
    else
      rz_b (x1_refuse F (-3) A4) fun r14 A14 =>
      some (r14, A14)
theorem cx65_stretch (F : Nat) {d : Nat} {a0 : Int} {a1 : Int} {A : rz_A} {r : Int} {A' : rz_A} (h : x65_stretch F a0 a1 A = some (r, A')) (ha0 : r32 a0) (ha1 : r32 a1) (hw : wf A) : rg_Rn (d + 1) 65 [.ref 0, vI a0, vI a1] (toM A) (some (vI r)) (toM A') ∧ (r32 r) ∧ wf A' := by
  show rz_B (d + 1) 65 0 [some (.ref 0), some (vI a0), some (vI a1), none] [] A (some (vI r)) A' (r32 r)
  unfold x65_stretch at h
  refine rz_B.go 3 (pc' := 5) (L' := [some (.ref 0), some (vI a0), some (vI a1), none]) (S' := [vI a0, .ref 2]) rfl ?_
  obtain ⟨r1, A1, hf1, h⟩ := rz_b_inv h
  obtain ⟨hg1, hr1, hw1⟩ := cx5_has F (d := d + 0) hf1 ha0 hw
  refine rz_B.call (d := d + 0) (as := [.ref 2, vI a0]) (rest := []) (w := some (vI r1)) rfl hg1 ?_
  refine rz_B.go 1 (pc' := if decide (¬ Int32.ofInt r1 = Int32.ofInt 0) = true then 17 else 11) (L' := [some (.ref 0), some (vI a0), some (vI a1), none]) (S' := []) rfl ?_
  by_cases hc2 : r1 = 0
  · have h := if_T h hc2
    refine rz_B.ifF (fun hn => hn ((eq32 hr1 (by decide)).mpr hc2)) ?_
    refine rz_B.go 2 (pc' := 13) (L' := [some (.ref 0), some (vI a0), some (vI a1), none]) (S' := [vI (-1), .ref 0]) rfl ?_
    obtain ⟨r3, A3, hf3, h⟩ := rz_b_inv h
    obtain ⟨hg3, hr3, hw3⟩ := cx1_refuse F (d := d + 0) hf3 (by decide) hw1
    refine rz_B.call (d := d + 0) (as := [.ref 0, vI (-1)]) (rest := []) (w := some (vI r3)) rfl hg3 ?_
    cases h
    exact rz_B.ret rfl hr3 hw3
  · have h := if_F h hc2
    refine rz_B.ifT (mt (eq32 hr1 (by decide)).mp hc2) ?_
    refine rz_B.go 4 (pc' := 23) (L' := [some (.ref 0), some (vI a0), some (vI a1), none]) (S' := [vI a1, vI a0, .ref 2]) rfl ?_
    obtain ⟨r4, A4, hf4, h⟩ := rz_b_inv h
    obtain ⟨hg4, hr4, hw4⟩ := cx66_beginsAt F (d := d + 0) hf4 ha0 ha1 hw1
    refine rz_B.call (d := d + 0) (as := [.ref 2, vI a0, vI a1]) (rest := []) (w := some (vI r4)) rfl hg4 ?_
    refine rz_B.go 1 (pc' := if decide (Int32.ofInt r4 = Int32.ofInt 0) = true then 36 else 29) (L' := [some (.ref 0), some (vI a0), some (vI a1), none]) (S' := []) rfl ?_
    by_cases hc5 : r4 = 0
    · have h := if_T h hc5
      refine rz_B.ifT ((eq32 hr4 (by decide)).mpr hc5) ?_
      refine rz_B.go 1 (pc' := 37) (L' := [some (.ref 0), some (vI a0), some (vI a1), none]) (S' := [vI a1]) rfl ?_
      obtain ⟨r6, A6, hf6, h⟩ := rz_b_inv h
      obtain ⟨hg6, hr6, hw6⟩ := cx19_whyNotTime F (d := d + 0) hf6 ha1 hw4
      refine rz_B.call (d := d + 0) (as := [vI a1]) (rest := []) (w := some (vI r6)) rfl hg6 ?_
      refine rz_B.go 3 (pc' := if decide (Int32.ofInt r6 = Int32.ofInt 0) = true then 51 else 45) (L' := [some (.ref 0), some (vI a0), some (vI a1), some (vI r6)]) (S' := []) rfl ?_
      by_cases hc7 : r6 = 0
      · have h := if_T h hc7
        refine rz_B.ifT ((eq32 hr6 (by decide)).mpr hc7) ?_
        refine rz_B.go 4 (pc' := 59) (L' := [some (.ref 0), some (vI a0), some (vI a1), some (vI r6)]) (S' := [vI a0, .ref 6]) rfl ?_
        obtain ⟨hi8, hj9, h⟩ := rz_gx_inv h
        refine rz_B.iald rfl rfl hi8 hj9 (by decide) ?_
        refine rz_B.go 2 (pc' := if decide (Int32.ofInt (A6.1 6 (a0).toNat) < Int32.ofInt 8) = true then 72 else 65) (L' := [some (.ref 0), some (vI a0), some (vI a1), some (vI r6)]) (S' := []) rfl ?_
        by_cases hc10 : 8 ≤ (A6.1 6 (a0).toNat)
        · have h := if_T h hc10
          refine rz_B.ifF (mt (lt32 (hw6 6 (a0).toNat).1 (by decide)).mp (Int.not_lt.mpr hc10)) ?_
          refine rz_B.go 2 (pc' := 68) (L' := [some (.ref 0), some (vI a0), some (vI a1), some (vI r6)]) (S' := [vI (-6), .ref 0]) rfl ?_
          obtain ⟨r11, A11, hf11, h⟩ := rz_b_inv h
          obtain ⟨hg11, hr11, hw11⟩ := cx1_refuse F (d := d + 0) hf11 (by decide) hw6
          refine rz_B.call (d := d + 0) (as := [.ref 0, vI (-6)]) (rest := []) (w := some (vI r11)) rfl hg11 ?_
          cases h
          exact rz_B.ret rfl hr11 hw11
        · have h := if_F h hc10
          refine rz_B.ifT ((lt32 (hw6 6 (a0).toNat).1 (by decide)).mpr (Int.not_le.mp hc10)) ?_
          refine rz_B.go 4 (pc' := 78) (L' := [some (.ref 0), some (vI a0), some (vI a1), some (vI r6)]) (S' := [vI a1, vI a0, .ref 2]) rfl ?_
          obtain ⟨r12, A12, hf12, h⟩ := rz_b_inv h
          obtain ⟨hg12, hr12, hw12⟩ := cx67_begin F (d := d + 0) hf12 ha0 ha1 hw6
          refine rz_B.call (d := d + 0) (as := [.ref 2, vI a0, vI a1]) (rest := []) (w := some (vI r12)) rfl hg12 ?_
          cases h
          exact rz_B.ret rfl hr12 hw12
      · have h := if_F h hc7
        refine rz_B.ifF (mt (eq32 hr6 (by decide)).mp hc7) ?_
        refine rz_B.go 2 (pc' := 47) (L' := [some (.ref 0), some (vI a0), some (vI a1), some (vI r6)]) (S' := [vI r6, .ref 0]) rfl ?_
        obtain ⟨r13, A13, hf13, h⟩ := rz_b_inv h
        obtain ⟨hg13, hr13, hw13⟩ := cx1_refuse F (d := d + 0) hf13 hr6 hw6
        refine rz_B.call (d := d + 0) (as := [.ref 0, vI r6]) (rest := []) (w := some (vI r13)) rfl hg13 ?_
        cases h
        exact rz_B.ret rfl hr13 hw13
    · have h := if_F h hc5
      refine rz_B.ifF (mt (eq32 hr4 (by decide)).mp hc5) ?_
      refine rz_B.go 2 (pc' := 32) (L' := [some (.ref 0), some (vI a0), some (vI a1), none]) (S' := [vI (-3), .ref 0]) rfl ?_
      obtain ⟨r14, A14, hf14, h⟩ := rz_b_inv h
      obtain ⟨hg14, hr14, hw14⟩ := cx1_refuse F (d := d + 0) hf14 (by decide) hw4
      refine rz_B.call (d := d + 0) (as := [.ref 0, vI (-3)]) (rest := []) (w := some (vI r14)) rfl hg14 ?_
      cases h
      exact rz_B.ret rfl hr14 hw14
