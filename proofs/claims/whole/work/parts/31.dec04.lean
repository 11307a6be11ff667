set_option maxRecDepth 16384
/-- RiverGauge$Points.isBeyond(I)Z -/
def x93_isBeyond_c (F : Nat) (a0 : Int) (A : rz_A) : Option (Int × rz_A) :=
  if 0 < (A.1 57 0) then
    rz_g32 ((A.1 57 0) - 1) <|
    rz_gx ((A.1 57 0) - 1) 60 <|
    if (A.1 58 (((A.1 57 0) - 1)).toNat) < a0 then
      some (1, A)
    else
      some (0, A)
  else
    some (0, A)
theorem cx93_isBeyond_c (F : Nat) {d : Nat} {a0 : Int} {A : rz_A} {r : Int} {A' : rz_A} (h : x93_isBeyond_c F a0 A = some (r, A')) (ha0 : r32 a0) (hw : wf A) : rg_Rn (d + 0) 93 [.ref 57, vI a0] (toM A) (some (vI r)) (toM A') ∧ (r32 r) ∧ wf A' := by
  show rz_B (d + 0) 93 0 [some (.ref 57), some (vI a0)] [] A (some (vI r)) A' (r32 r)
  unfold x93_isBeyond_c at h
  refine rz_B.go 3 (pc' := if decide (Int32.ofInt (A.1 57 0) ≤ Int32.ofInt 0) = true then 26 else 7) (L' := [some (.ref 57), some (vI a0)]) (S' := []) rfl ?_
  by_cases hc1 : 0 < (A.1 57 0)
  · have h := if_T h hc1
    refine rz_B.ifF (mt (le32 (hw 57 0).1 (by decide)).mp (Int.not_le.mpr hc1)) ?_
    refine rz_B.go 6 (pc' := 17) (L' := [some (.ref 57), some (vI a0)]) (S' := [vI 1, vI (A.1 57 0), .ref 58, vI a0]) rfl ?_
    obtain ⟨hk2, h⟩ := rz_g32_inv h
    refine rz_B.isub rfl ?_
    obtain ⟨hi3, hj4, h⟩ := rz_gx_inv h
    refine rz_B.iald rfl rfl hi3 hj4 (by decide) ?_
    refine rz_B.go 1 (pc' := if decide (Int32.ofInt a0 ≤ Int32.ofInt (A.1 58 (((A.1 57 0) - 1)).toNat)) = true then 26 else 22) (L' := [some (.ref 57), some (vI a0)]) (S' := []) rfl ?_
    by_cases hc5 : (A.1 58 (((A.1 57 0) - 1)).toNat) < a0
    · have h := if_T h hc5
      refine rz_B.ifF (mt (le32 ha0 (hw 58 (((A.1 57 0) - 1)).toNat).1).mp (Int.not_le.mpr hc5)) ?_
      refine rz_B.go 2 (pc' := 27) (L' := [some (.ref 57), some (vI a0)]) (S' := [vI 1]) rfl ?_
      cases h
      exact rz_B.ret rfl (by decide) hw
    · have h := if_F h hc5
      refine rz_B.ifT ((le32 ha0 (hw 58 (((A.1 57 0) - 1)).toNat).1).mpr (Int.not_lt.mp hc5)) ?_
      refine rz_B.go 1 (pc' := 27) (L' := [some (.ref 57), some (vI a0)]) (S' := [vI 0]) rfl ?_
      cases h
      exact rz_B.ret rfl (by decide) hw
  · have h := if_F h hc1
    refine rz_B.ifT ((le32 (hw 57 0).1 (by decide)).mpr (Int.not_lt.mp hc1)) ?_
    refine rz_B.go 1 (pc' := 27) (L' := [some (.ref 57), some (vI a0)]) (S' := [vI 0]) rfl ?_
    cases h
    exact rz_B.ret rfl (by decide) hw
/-- RiverGauge$Rating.beyond(I)I -/
def x92_beyond (F : Nat) (a0 : Int) (A : rz_A) : Option (Int × rz_A) :=
  rz_gx a0 300 <|
  rz_b (x93_isBeyond_c F (A.1 54 (a0).toNat) A) fun r3 A3 =>
  if r3 = 0 then
    some (0, A3)
  else
    some (1, A3)
theorem cx92_beyond (F : Nat) {d : Nat} {a0 : Int} {A : rz_A} {r : Int} {A' : rz_A} (h : x92_beyond F a0 A = some (r, A')) (ha0 : r32 a0) (hw : wf A) : rg_Rn (d + 1) 92 [.ref 56, vI a0] (toM A) (some (vI r)) (toM A') ∧ (r32 r) ∧ wf A' := by
  show rz_B (d + 1) 92 0 [some (.ref 56), some (vI a0)] [] A (some (vI r)) A' (r32 r)
  unfold x92_beyond at h
  refine rz_B.go 6 (pc' := 12) (L' := [some (.ref 56), some (vI a0)]) (S' := [vI a0, .ref 54, .ref 57]) rfl ?_
  obtain ⟨hi1, hj2, h⟩ := rz_gx_inv h
  refine rz_B.iald rfl rfl hi1 hj2 (by decide) ?_
  obtain ⟨r3, A3, hf3, h⟩ := rz_b_inv h
  obtain ⟨hg3, hr3, hw3⟩ := cx93_isBeyond_c F (d := d + 0) hf3 (hw 54 (a0).toNat).1 hw
  refine rz_B.call (d := d + 0) (as := [.ref 57, vI (A.1 54 (a0).toNat)]) (rest := []) (w := some (vI r3)) rfl hg3 ?_
  refine rz_B.go 1 (pc' := if decide (Int32.ofInt r3 = Int32.ofInt 0) = true then 23 else 19) (L' := [some (.ref 56), some (vI a0)]) (S' := []) rfl ?_
  by_cases hc4 : r3 = 0
  · have h := if_T h hc4
    refine rz_B.ifT ((eq32 hr3 (by decide)).mpr hc4) ?_
    refine rz_B.go 1 (pc' := 24) (L' := [some (.ref 56), some (vI a0)]) (S' := [vI 0]) rfl ?_
    cases h
    exact rz_B.ret rfl (by decide) hw3
  · have h := if_F h hc4
    refine rz_B.ifF (mt (eq32 hr3 (by decide)).mp hc4) ?_
    refine rz_B.go 2 (pc' := 24) (L' := [some (.ref 56), some (vI a0)]) (S' := [vI 1]) rfl ?_
    cases h
    exact rz_B.ret rfl (by decide) hw3
/-- RiverGauge$Rating.howWrong(I)I -/
def x91_howWrong (F : Nat) (a0 : Int) (A : rz_A) : Option (Int × rz_A) :=
  rz_b (x92_beyond F a0 A) fun r1 A1 =>
  if r1 = 1 then
    rz_g32 (2 * (A1.1 56 8)) <|
    rz_g32 ((2 * (A1.1 56 8)) + 10) <|
    rz_b (x61_min F ((2 * (A1.1 56 8)) + 10) 100 A1) fun r5 A5 =>
    some (r5, A5)
  else
    rz_b (x61_min F (A1.1 56 8) 100 A1) fun r6 A6 =>
    some (r6, A6)
theorem cx91_howWrong (F : Nat) {d : Nat} {a0 : Int} {A : rz_A} {r : Int} {A' : rz_A} (h : x91_howWrong F a0 A = some (r, A')) (ha0 : r32 a0) (hw : wf A) : rg_Rn (d + 2) 91 [.ref 56, vI a0] (toM A) (some (vI r)) (toM A') ∧ (r32 r) ∧ wf A' := by
  show rz_B (d + 2) 91 0 [some (.ref 56), some (vI a0), none] [] A (some (vI r)) A' (r32 r)
  unfold x91_howWrong at h
  refine rz_B.go 2 (pc' := 2) (L' := [some (.ref 56), some (vI a0), none]) (S' := [vI a0, .ref 56]) rfl ?_
  obtain ⟨r1, A1, hf1, h⟩ := rz_b_inv h
  obtain ⟨hg1, hr1, hw1⟩ := cx92_beyond F (d := d + 0) hf1 ha0 hw
  refine rz_B.call (d := d + 1) (as := [.ref 56, vI a0]) (rest := []) (w := some (vI r1)) rfl hg1 ?_
  refine rz_B.go 2 (pc' := if decide (¬ Int32.ofInt r1 = Int32.ofInt 1) = true then 21 else 9) (L' := [some (.ref 56), some (vI a0), none]) (S' := []) rfl ?_
  by_cases hc2 : r1 = 1
  · have h := if_T h hc2
    refine rz_B.ifF (fun hn => hn ((eq32 hr1 (by decide)).mpr hc2)) ?_
    refine rz_B.go 3 (pc' := 14) (L' := [some (.ref 56), some (vI a0), none]) (S' := [vI (A1.1 56 8), vI 2]) rfl ?_
    obtain ⟨hk3, h⟩ := rz_g32_inv h
    refine rz_B.imul rfl ?_
    refine rz_B.go 1 (pc' := 17) (L' := [some (.ref 56), some (vI a0), none]) (S' := [vI 10, vI (2 * (A1.1 56 8))]) rfl ?_
    obtain ⟨hk4, h⟩ := rz_g32_inv h
    refine rz_B.iadd rfl ?_
    refine rz_B.go 4 (pc' := 29) (L' := [some (.ref 56), some (vI a0), some (vI ((2 * (A1.1 56 8)) + 10))]) (S' := [vI 100, vI ((2 * (A1.1 56 8)) + 10)]) rfl ?_
    obtain ⟨r5, A5, hf5, h⟩ := rz_b_inv h
    obtain ⟨hg5, hr5, hw5⟩ := cx61_min F (d := d + 1) hf5 hk4 (by decide) hw1
    refine rz_B.call (d := d + 1) (as := [vI ((2 * (A1.1 56 8)) + 10), vI 100]) (rest := []) (w := some (vI r5)) rfl hg5 ?_
    cases h
    exact rz_B.ret rfl hr5 hw5
  · have h := if_F h hc2
    refine rz_B.ifT (mt (eq32 hr1 (by decide)).mp hc2) ?_
    refine rz_B.go 5 (pc' := 29) (L' := [some (.ref 56), some (vI a0), some (vI (A1.1 56 8))]) (S' := [vI 100, vI (A1.1 56 8)]) rfl ?_
    obtain ⟨r6, A6, hf6, h⟩ := rz_b_inv h
    obtain ⟨hg6, hr6, hw6⟩ := cx61_min F (d := d + 1) hf6 (hw1 56 8).1 (by decide) hw1
    refine rz_B.call (d := d + 1) (as := [vI (A1.1 56 8), vI 100]) (rest := []) (w := some (vI r6)) rfl hg6 ?_
    cases h
    exact rz_B.ret rfl hr6 hw6
/-- RiverGauge.flowOf(IIII)I -/
def x84_flowOf (F : Nat) (a0 : Int) (a1 : Int) (a2 : Int) (a3 : Int) (A : rz_A) : Option (Int × rz_A) :=
  rz_b (x5_has F a0 A) fun r1 A1 =>
  if r1 = 0 then
    rz_b (x1_refuse F (-1) A1) fun r3 A3 =>
    some (r3, A3)
  else
    if 0 ≤ a3 then
      if 2 < a3 then
        rz_b (x1_refuse F (-2) A1) fun r6 A6 =>
        some (r6, A6)
      else
        rz_b (x9_whyNotAt F a0 a1 a2 A1) fun r7 A7 =>
        if r7 = 0 then
          rz_b (x20_see F a2 A7) fun _ A9 =>
          rz_b (x32_find F a0 a1 A9) fun r10 A10 =>
          rz_b (x85_rate F r10 A10) fun r11 A11 =>
          if r11 < 0 then
            rz_b (x1_refuse F (-5) A11) fun r13 A13 =>
            some (r13, A13)
          else
            if a3 = 0 then
              some (r11, A11)
            else
              if a3 = 1 then
                rz_b (x91_howWrong F r10 A11) fun r16 A16 =>
                some (r16, A16)
              else
                rz_b (x92_beyond F r10 A11) fun r17 A17 =>
                some (r17, A17)
        else
          rz_b (x1_refuse F r7 A7) fun r18 A18 =>
          some (r18, A18)
    else
      rz_b (x1_refuse F (-2) A1) fun r19 A19 =>
      some (r19, A19)
theorem cx84_flowOf (F : Nat) {d : Nat} {a0 : Int} {a1 : Int} {a2 : Int} {a3 : Int} {A : rz_A} {r : Int} {A' : rz_A} (h : x84_flowOf F a0 a1 a2 a3 A = some (r, A')) (ha0 : r32 a0) (ha1 : r32 a1) (ha2 : r32 a2) (ha3 : r32 a3) (hw : wf A) : rg_Rn (d + 6) 84 [.ref 0, vI a0, vI a1, vI a2, vI a3] (toM A) (some (vI r)) (toM A') ∧ (r32 r) ∧ wf A' := by
  show rz_B (d + 6) 84 0 [some (.ref 0), some (vI a0), some (vI a1), some (vI a2), some (vI a3), none, none, none] [] A (some (vI r)) A' (r32 r)
  unfold x84_flowOf at h
  refine rz_B.go 3 (pc' := 5) (L' := [some (.ref 0), some (vI a0), some (vI a1), some (vI a2), some (vI a3), none, none, none]) (S' := [vI a0, .ref 2]) rfl ?_
  obtain ⟨r1, A1, hf1, h⟩ := rz_b_inv h
  obtain ⟨hg1, hr1, hw1⟩ := cx5_has F (d := d + 5) hf1 ha0 hw
  refine rz_B.call (d := d + 5) (as := [.ref 2, vI a0]) (rest := []) (w := some (vI r1)) rfl hg1 ?_
  refine rz_B.go 1 (pc' := if decide (¬ Int32.ofInt r1 = Int32.ofInt 0) = true then 17 else 11) (L' := [some (.ref 0), some (vI a0), some (vI a1), some (vI a2), some (vI a3), none, none, none]) (S' := []) rfl ?_
  by_cases hc2 : r1 = 0
  · have h := if_T h hc2
    refine rz_B.ifF (fun hn => hn ((eq32 hr1 (by decide)).mpr hc2)) ?_
    refine rz_B.go 2 (pc' := 13) (L' := [some (.ref 0), some (vI a0), some (vI a1), some (vI a2), some (vI a3), none, none, none]) (S' := [vI (-1), .ref 0]) rfl ?_
    obtain ⟨r3, A3, hf3, h⟩ := rz_b_inv h
    obtain ⟨hg3, hr3, hw3⟩ := cx1_refuse F (d := d + 5) hf3 (by decide) hw1
    refine rz_B.call (d := d + 5) (as := [.ref 0, vI (-1)]) (rest := []) (w := some (vI r3)) rfl hg3 ?_
    cases h
    exact rz_B.ret rfl hr3 hw3
  · have h := if_F h hc2
    refine rz_B.ifT (mt (eq32 hr1 (by decide)).mp hc2) ?_
    refine rz_B.go 2 (pc' := if decide (Int32.ofInt a3 < Int32.ofInt 0) = true then 28 else 22) (L' := [some (.ref 0), some (vI a0), some (vI a1), some (vI a2), some (vI a3), none, none, none]) (S' := []) rfl ?_
    by_cases hc4 : 0 ≤ a3
    · have h := if_T h hc4
      refine rz_B.ifF (mt (lt32 ha3 (by decide)).mp (Int.not_lt.mpr hc4)) ?_
      refine rz_B.go 3 (pc' := if decide (Int32.ofInt a3 ≤ Int32.ofInt 2) = true then 35 else 28) (L' := [some (.ref 0), some (vI a0), some (vI a1), some (vI a2), some (vI a3), none, none, none]) (S' := []) rfl ?_
      by_cases hc5 : 2 < a3
      · have h := if_T h hc5
        refine rz_B.ifF (mt (le32 ha3 (by decide)).mp (Int.not_le.mpr hc5)) ?_
        refine rz_B.go 2 (pc' := 31) (L' := [some (.ref 0), some (vI a0), some (vI a1), some (vI a2), some (vI a3), none, none, none]) (S' := [vI (-2), .ref 0]) rfl ?_
        obtain ⟨r6, A6, hf6, h⟩ := rz_b_inv h
        obtain ⟨hg6, hr6, hw6⟩ := cx1_refuse F (d := d + 5) hf6 (by decide) hw1
        refine rz_B.call (d := d + 5) (as := [.ref 0, vI (-2)]) (rest := []) (w := some (vI r6)) rfl hg6 ?_
        cases h
        exact rz_B.ret rfl hr6 hw6
      · have h := if_F h hc5
        refine rz_B.ifT ((le32 ha3 (by decide)).mpr (Int.not_lt.mp hc5)) ?_
        refine rz_B.go 4 (pc' := 39) (L' := [some (.ref 0), some (vI a0), some (vI a1), some (vI a2), some (vI a3), none, none, none]) (S' := [vI a2, vI a1, vI a0, .ref 0]) rfl ?_
        obtain ⟨r7, A7, hf7, h⟩ := rz_b_inv h
        obtain ⟨hg7, hr7, hw7⟩ := cx9_whyNotAt F (d := d + 4) hf7 ha0 ha1 ha2 hw1
        refine rz_B.call (d := d + 5) (as := [.ref 0, vI a0, vI a1, vI a2]) (rest := []) (w := some (vI r7)) rfl hg7 ?_
        refine rz_B.go 3 (pc' := if decide (Int32.ofInt r7 = Int32.ofInt 0) = true then 56 else 49) (L' := [some (.ref 0), some (vI a0), some (vI a1), some (vI a2), some (vI a3), some (vI r7), none, none]) (S' := []) rfl ?_
        by_cases hc8 : r7 = 0
        · have h := if_T h hc8
          refine rz_B.ifT ((eq32 hr7 (by decide)).mpr hc8) ?_
          refine rz_B.go 3 (pc' := 61) (L' := [some (.ref 0), some (vI a0), some (vI a1), some (vI a2), some (vI a3), some (vI r7), none, none]) (S' := [vI a2, .ref 51]) rfl ?_
          obtain ⟨_, A9, hf9, h⟩ := rz_b_inv h
          obtain ⟨hg9, hr9, hw9⟩ := cx20_see F (d := d + 0) hf9 ha2 hw7
          refine rz_B.call (d := d + 5) (as := [.ref 51, vI a2]) (rest := []) (w := none) rfl hg9 ?_
          refine rz_B.go 4 (pc' := 70) (L' := [some (.ref 0), some (vI a0), some (vI a1), some (vI a2), some (vI a3), some (vI r7), none, none]) (S' := [vI a1, vI a0, .ref 51]) rfl ?_
          obtain ⟨r10, A10, hf10, h⟩ := rz_b_inv h
          obtain ⟨hg10, hr10, hw10⟩ := cx32_find F (d := d + 4) hf10 ha0 ha1 hw9
          refine rz_B.call (d := d + 5) (as := [.ref 51, vI a0, vI a1]) (rest := []) (w := some (vI r10)) rfl hg10 ?_
          refine rz_B.go 4 (pc' := 81) (L' := [some (.ref 0), some (vI a0), some (vI a1), some (vI a2), some (vI a3), some (vI r7), some (vI r10), none]) (S' := [vI r10, .ref 56]) rfl ?_
          obtain ⟨r11, A11, hf11, h⟩ := rz_b_inv h
          obtain ⟨hg11, hr11, hw11⟩ := cx85_rate F (d := d + 1) hf11 hr10 hw10
          refine rz_B.call (d := d + 5) (as := [.ref 56, vI r10]) (rest := []) (w := some (vI r11)) rfl hg11 ?_
          refine rz_B.go 3 (pc' := if decide (Int32.ofInt 0 ≤ Int32.ofInt r11) = true then 98 else 91) (L' := [some (.ref 0), some (vI a0), some (vI a1), some (vI a2), some (vI a3), some (vI r7), some (vI r10), some (vI r11)]) (S' := []) rfl ?_
          by_cases hc12 : r11 < 0
          · have h := if_T h hc12
            refine rz_B.ifF (mt (le32 (by decide) hr11).mp (Int.not_le.mpr hc12)) ?_
            refine rz_B.go 2 (pc' := 94) (L' := [some (.ref 0), some (vI a0), some (vI a1), some (vI a2), some (vI a3), some (vI r7), some (vI r10), some (vI r11)]) (S' := [vI (-5), .ref 0]) rfl ?_
            obtain ⟨r13, A13, hf13, h⟩ := rz_b_inv h
            obtain ⟨hg13, hr13, hw13⟩ := cx1_refuse F (d := d + 5) hf13 (by decide) hw11
            refine rz_B.call (d := d + 5) (as := [.ref 0, vI (-5)]) (rest := []) (w := some (vI r13)) rfl hg13 ?_
            cases h
            exact rz_B.ret rfl hr13 hw13
          · have h := if_F h hc12
            refine rz_B.ifT ((le32 (by decide) hr11).mpr (Int.not_lt.mp hc12)) ?_
            refine rz_B.go 2 (pc' := if decide (¬ Int32.ofInt a3 = Int32.ofInt 0) = true then 106 else 103) (L' := [some (.ref 0), some (vI a0), some (vI a1), some (vI a2), some (vI a3), some (vI r7), some (vI r10), some (vI r11)]) (S' := []) rfl ?_
            by_cases hc14 : a3 = 0
            · have h := if_T h hc14
              refine rz_B.ifF (fun hn => hn ((eq32 ha3 (by decide)).mpr hc14)) ?_
              refine rz_B.go 1 (pc' := 105) (L' := [some (.ref 0), some (vI a0), some (vI a1), some (vI a2), some (vI a3), some (vI r7), some (vI r10), some (vI r11)]) (S' := [vI r11]) rfl ?_
              cases h
              exact rz_B.ret rfl hr11 hw11
            · have h := if_F h hc14
              refine rz_B.ifT (mt (eq32 ha3 (by decide)).mp hc14) ?_
              refine rz_B.go 3 (pc' := if decide (¬ Int32.ofInt a3 = Int32.ofInt 1) = true then 124 else 112) (L' := [some (.ref 0), some (vI a0), some (vI a1), some (vI a2), some (vI a3), some (vI r7), some (vI r10), some (vI r11)]) (S' := []) rfl ?_
              by_cases hc15 : a3 = 1
              · have h := if_T h hc15
                refine rz_B.ifF (fun hn => hn ((eq32 ha3 (by decide)).mpr hc15)) ?_
                refine rz_B.go 3 (pc' := 118) (L' := [some (.ref 0), some (vI a0), some (vI a1), some (vI a2), some (vI a3), some (vI r7), some (vI r10), some (vI r11)]) (S' := [vI r10, .ref 56]) rfl ?_
                obtain ⟨r16, A16, hf16, h⟩ := rz_b_inv h
                obtain ⟨hg16, hr16, hw16⟩ := cx91_howWrong F (d := d + 3) hf16 hr10 hw11
                refine rz_B.call (d := d + 5) (as := [.ref 56, vI r10]) (rest := []) (w := some (vI r16)) rfl hg16 ?_
                refine rz_B.go 1 (pc' := 133) (L' := [some (.ref 0), some (vI a0), some (vI a1), some (vI a2), some (vI a3), some (vI r7), some (vI r10), some (vI r11)]) (S' := [vI r16]) rfl ?_
                cases h
                exact rz_B.ret rfl hr16 hw16
              · have h := if_F h hc15
                refine rz_B.ifT (mt (eq32 ha3 (by decide)).mp hc15) ?_
                refine rz_B.go 3 (pc' := 130) (L' := [some (.ref 0), some (vI a0), some (vI a1), some (vI a2), some (vI a3), some (vI r7), some (vI r10), some (vI r11)]) (S' := [vI r10, .ref 56]) rfl ?_
                obtain ⟨r17, A17, hf17, h⟩ := rz_b_inv h
                obtain ⟨hg17, hr17, hw17⟩ := cx92_beyond F (d := d + 4) hf17 hr10 hw11
                refine rz_B.call (d := d + 5) (as := [.ref 56, vI r10]) (rest := []) (w := some (vI r17)) rfl hg17 ?_
                cases h
                exact rz_B.ret rfl hr17 hw17
        · have h := if_F h hc8
          refine rz_B.ifF (mt (eq32 hr7 (by decide)).mp hc8) ?_
          refine rz_B.go 2 (pc' := 52) (L' := [some (.ref 0), some (vI a0), some (vI a1), some (vI a2), some (vI a3), some (vI r7), none, none]) (S' := [vI r7, .ref 0]) rfl ?_
          obtain ⟨r18, A18, hf18, h⟩ := rz_b_inv h
          obtain ⟨hg18, hr18, hw18⟩ := cx1_refuse F (d := d + 5) hf18 hr7 hw7
          refine rz_B.call (d := d + 5) (as := [.ref 0, vI r7]) (rest := []) (w := some (vI r18)) rfl hg18 ?_
          cases h
          exact rz_B.ret rfl hr18 hw18
    · have h := if_F h hc4
      refine rz_B.ifT ((lt32 ha3 (by decide)).mpr (Int.not_le.mp hc4)) ?_
      refine rz_B.go 2 (pc' := 31) (L' := [some (.ref 0), some (vI a0), some (vI a1), some (vI a2), some (vI a3), none, none, none]) (S' := [vI (-2), .ref 0]) rfl ?_
      obtain ⟨r19, A19, hf19, h⟩ := rz_b_inv h
      obtain ⟨hg19, hr19, hw19⟩ := cx1_refuse F (d := d + 5) hf19 (by decide) hw1
      refine rz_B.call (d := d + 5) (as := [.ref 0, vI (-2)]) (rest := []) (w := some (vI r19)) rfl hg19 ?_
      cases h
      exact rz_B.ret rfl hr19 hw19
/-- RiverGauge$Points.falls(III)Z -/
def x95_falls_b (F : Nat) (q : Nat) (a0 : Int) (a1 : Int) (a2 : Int) (A : rz_A) : Option (Int × rz_A) :=
  if 0 < a0 then
    rz_g32 (a0 - 1) <|
    rz_gx (a0 - 1) 8 <|
    if (A.1 (70 + 3 * q) ((a0 - 1)).toNat) < a1 then
      if a2 < (A.1 (71 + 3 * q) ((a0 - 1)).toNat) then
        some (1, A)
      else
        some (0, A)
    else
      some (1, A)
  else
    some (0, A)
theorem cx95_falls_b_0 (F : Nat) {d : Nat} {a0 : Int} {a1 : Int} {a2 : Int} {A : rz_A} {r : Int} {A' : rz_A} (h : x95_falls_b F 0 a0 a1 a2 A = some (r, A')) (ha0 : r32 a0) (ha1 : r32 a1) (ha2 : r32 a2) (hw : wf A) : rg_Rn (d + 0) 95 [.ref 69, vI a0, vI a1, vI a2] (toM A) (some (vI r)) (toM A') ∧ (r32 r) ∧ wf A' := by
  show rz_B (d + 0) 95 0 [some (.ref 69), some (vI a0), some (vI a1), some (vI a2)] [] A (some (vI r)) A' (r32 r)
  unfold x95_falls_b at h
  refine rz_B.go 2 (pc' := if decide (Int32.ofInt a0 ≤ Int32.ofInt 0) = true then 32 else 4) (L' := [some (.ref 69), some (vI a0), some (vI a1), some (vI a2)]) (S' := []) rfl ?_
  by_cases hc1 : 0 < a0
  · have h := if_T h hc1
    refine rz_B.ifF (mt (le32 ha0 (by decide)).mp (Int.not_le.mpr hc1)) ?_
    refine rz_B.go 5 (pc' := 11) (L' := [some (.ref 69), some (vI a0), some (vI a1), some (vI a2)]) (S' := [vI 1, vI a0, .ref 70, vI a1]) rfl ?_
    obtain ⟨hk2, h⟩ := rz_g32_inv h
    refine rz_B.isub rfl ?_
    obtain ⟨hi3, hj4, h⟩ := rz_gx_inv h
    refine rz_B.iald rfl rfl hi3 hj4 (by decide) ?_
    refine rz_B.go 1 (pc' := if decide (Int32.ofInt a1 ≤ Int32.ofInt (A.1 70 ((a0 - 1)).toNat)) = true then 28 else 16) (L' := [some (.ref 69), some (vI a0), some (vI a1), some (vI a2)]) (S' := []) rfl ?_
    by_cases hc5 : (A.1 70 ((a0 - 1)).toNat) < a1
    · have h := if_T h hc5
      refine rz_B.ifF (mt (le32 ha1 (hw 70 ((a0 - 1)).toNat).1).mp (Int.not_le.mpr hc5)) ?_
      refine rz_B.go 5 (pc' := 23) (L' := [some (.ref 69), some (vI a0), some (vI a1), some (vI a2)]) (S' := [vI 1, vI a0, .ref 71, vI a2]) rfl ?_
      refine rz_B.isub rfl ?_
      refine rz_B.iald rfl rfl hi3 hj4 (by decide) ?_
      refine rz_B.go 1 (pc' := if decide (Int32.ofInt (A.1 71 ((a0 - 1)).toNat) ≤ Int32.ofInt a2) = true then 32 else 28) (L' := [some (.ref 69), some (vI a0), some (vI a1), some (vI a2)]) (S' := []) rfl ?_
      by_cases hc6 : a2 < (A.1 71 ((a0 - 1)).toNat)
      · have h := if_T h hc6
        refine rz_B.ifF (mt (le32 (hw 71 ((a0 - 1)).toNat).1 ha2).mp (Int.not_le.mpr hc6)) ?_
        refine rz_B.go 2 (pc' := 33) (L' := [some (.ref 69), some (vI a0), some (vI a1), some (vI a2)]) (S' := [vI 1]) rfl ?_
        cases h
        exact rz_B.ret rfl (by decide) hw
      · have h := if_F h hc6
        refine rz_B.ifT ((le32 (hw 71 ((a0 - 1)).toNat).1 ha2).mpr (Int.not_lt.mp hc6)) ?_
        refine rz_B.go 1 (pc' := 33) (L' := [some (.ref 69), some (vI a0), some (vI a1), some (vI a2)]) (S' := [vI 0]) rfl ?_
        cases h
        exact rz_B.ret rfl (by decide) hw
    · have h := if_F h hc5
      refine rz_B.ifT ((le32 ha1 (hw 70 ((a0 - 1)).toNat).1).mpr (Int.not_lt.mp hc5)) ?_
      refine rz_B.go 2 (pc' := 33) (L' := [some (.ref 69), some (vI a0), some (vI a1), some (vI a2)]) (S' := [vI 1]) rfl ?_
      cases h
      exact rz_B.ret rfl (by decide) hw
  · have h := if_F h hc1
    refine rz_B.ifT ((le32 ha0 (by decide)).mpr (Int.not_lt.mp hc1)) ?_
    refine rz_B.go 1 (pc' := 33) (L' := [some (.ref 69), some (vI a0), some (vI a1), some (vI a2)]) (S' := [vI 0]) rfl ?_
    cases h
    exact rz_B.ret rfl (by decide) hw
theorem cx95_falls_b_1 (F : Nat) {d : Nat} {a0 : Int} {a1 : Int} {a2 : Int} {A : rz_A} {r : Int} {A' : rz_A} (h : x95_falls_b F 1 a0 a1 a2 A = some (r, A')) (ha0 : r32 a0) (ha1 : r32 a1) (ha2 : r32 a2) (hw : wf A) : rg_Rn (d + 0) 95 [.ref 72, vI a0, vI a1, vI a2] (toM A) (some (vI r)) (toM A') ∧ (r32 r) ∧ wf A' := by
  show rz_B (d + 0) 95 0 [some (.ref 72), some (vI a0), some (vI a1), some (vI a2)] [] A (some (vI r)) A' (r32 r)
  unfold x95_falls_b at h
  refine rz_B.go 2 (pc' := if decide (Int32.ofInt a0 ≤ Int32.ofInt 0) = true then 32 else 4) (L' := [some (.ref 72), some (vI a0), some (vI a1), some (vI a2)]) (S' := []) rfl ?_
  by_cases hc1 : 0 < a0
  · have h := if_T h hc1
    refine rz_B.ifF (mt (le32 ha0 (by decide)).mp (Int.not_le.mpr hc1)) ?_
    refine rz_B.go 5 (pc' := 11) (L' := [some (.ref 72), some (vI a0), some (vI a1), some (vI a2)]) (S' := [vI 1, vI a0, .ref 73, vI a1]) rfl ?_
    obtain ⟨hk2, h⟩ := rz_g32_inv h
    refine rz_B.isub rfl ?_
    obtain ⟨hi3, hj4, h⟩ := rz_gx_inv h
    refine rz_B.iald rfl rfl hi3 hj4 (by decide) ?_
    refine rz_B.go 1 (pc' := if decide (Int32.ofInt a1 ≤ Int32.ofInt (A.1 73 ((a0 - 1)).toNat)) = true then 28 else 16) (L' := [some (.ref 72), some (vI a0), some (vI a1), some (vI a2)]) (S' := []) rfl ?_
    by_cases hc5 : (A.1 73 ((a0 - 1)).toNat) < a1
    · have h := if_T h hc5
      refine rz_B.ifF (mt (le32 ha1 (hw 73 ((a0 - 1)).toNat).1).mp (Int.not_le.mpr hc5)) ?_
      refine rz_B.go 5 (pc' := 23) (L' := [some (.ref 72), some (vI a0), some (vI a1), some (vI a2)]) (S' := [vI 1, vI a0, .ref 74, vI a2]) rfl ?_
      refine rz_B.isub rfl ?_
      refine rz_B.iald rfl rfl hi3 hj4 (by decide) ?_
      refine rz_B.go 1 (pc' := if decide (Int32.ofInt (A.1 74 ((a0 - 1)).toNat) ≤ Int32.ofInt a2) = true then 32 else 28) (L' := [some (.ref 72), some (vI a0), some (vI a1), some (vI a2)]) (S' := []) rfl ?_
      by_cases hc6 : a2 < (A.1 74 ((a0 - 1)).toNat)
      · have h := if_T h hc6
        refine rz_B.ifF (mt (le32 (hw 74 ((a0 - 1)).toNat).1 ha2).mp (Int.not_le.mpr hc6)) ?_
        refine rz_B.go 2 (pc' := 33) (L' := [some (.ref 72), some (vI a0), some (vI a1), some (vI a2)]) (S' := [vI 1]) rfl ?_
        cases h
        exact rz_B.ret rfl (by decide) hw
      · have h := if_F h hc6
        refine rz_B.ifT ((le32 (hw 74 ((a0 - 1)).toNat).1 ha2).mpr (Int.not_lt.mp hc6)) ?_
        refine rz_B.go 1 (pc' := 33) (L' := [some (.ref 72), some (vI a0), some (vI a1), some (vI a2)]) (S' := [vI 0]) rfl ?_
        cases h
        exact rz_B.ret rfl (by decide) hw
    · have h := if_F h hc5
      refine rz_B.ifT ((le32 ha1 (hw 73 ((a0 - 1)).toNat).1).mpr (Int.not_lt.mp hc5)) ?_
      refine rz_B.go 2 (pc' := 33) (L' := [some (.ref 72), some (vI a0), some (vI a1), some (vI a2)]) (S' := [vI 1]) rfl ?_
      cases h
      exact rz_B.ret rfl (by decide) hw
  · have h := if_F h hc1
    refine rz_B.ifT ((le32 ha0 (by decide)).mpr (Int.not_lt.mp hc1)) ?_
    refine rz_B.go 1 (pc' := 33) (L' := [some (.ref 72), some (vI a0), some (vI a1), some (vI a2)]) (S' := [vI 0]) rfl ?_
    cases h
    exact rz_B.ret rfl (by decide) hw
theorem cx95_falls_b_2 (F : Nat) {d : Nat} {a0 : Int} {a1 : Int} {a2 : Int} {A : rz_A} {r : Int} {A' : rz_A} (h : x95_falls_b F 2 a0 a1 a2 A = some (r, A')) (ha0 : r32 a0) (ha1 : r32 a1) (ha2 : r32 a2) (hw : wf A) : rg_Rn (d + 0) 95 [.ref 75, vI a0, vI a1, vI a2] (toM A) (some (vI r)) (toM A') ∧ (r32 r) ∧ wf A' := by
  show rz_B (d + 0) 95 0 [some (.ref 75), some (vI a0), some (vI a1), some (vI a2)] [] A (some (vI r)) A' (r32 r)
  unfold x95_falls_b at h
  refine rz_B.go 2 (pc' := if decide (Int32.ofInt a0 ≤ Int32.ofInt 0) = true then 32 else 4) (L' := [some (.ref 75), some (vI a0), some (vI a1), some (vI a2)]) (S' := []) rfl ?_
  by_cases hc1 : 0 < a0
  · have h := if_T h hc1
    refine rz_B.ifF (mt (le32 ha0 (by decide)).mp (Int.not_le.mpr hc1)) ?_
    refine rz_B.go 5 (pc' := 11) (L' := [some (.ref 75), some (vI a0), some (vI a1), some (vI a2)]) (S' := [vI 1, vI a0, .ref 76, vI a1]) rfl ?_
    obtain ⟨hk2, h⟩ := rz_g32_inv h
    refine rz_B.isub rfl ?_
    obtain ⟨hi3, hj4, h⟩ := rz_gx_inv h
    refine rz_B.iald rfl rfl hi3 hj4 (by decide) ?_
    refine rz_B.go 1 (pc' := if decide (Int32.ofInt a1 ≤ Int32.ofInt (A.1 76 ((a0 - 1)).toNat)) = true then 28 else 16) (L' := [some (.ref 75), some (vI a0), some (vI a1), some (vI a2)]) (S' := []) rfl ?_
    by_cases hc5 : (A.1 76 ((a0 - 1)).toNat) < a1
    · have h := if_T h hc5
      refine rz_B.ifF (mt (le32 ha1 (hw 76 ((a0 - 1)).toNat).1).mp (Int.not_le.mpr hc5)) ?_
      refine rz_B.go 5 (pc' := 23) (L' := [some (.ref 75), some (vI a0), some (vI a1), some (vI a2)]) (S' := [vI 1, vI a0, .ref 77, vI a2]) rfl ?_
      refine rz_B.isub rfl ?_
      refine rz_B.iald rfl rfl hi3 hj4 (by decide) ?_
      refine rz_B.go 1 (pc' := if decide (Int32.ofInt (A.1 77 ((a0 - 1)).toNat) ≤ Int32.ofInt a2) = true then 32 else 28) (L' := [some (.ref 75), some (vI a0), some (vI a1), some (vI a2)]) (S' := []) rfl ?_
      by_cases hc6 : a2 < (A.1 77 ((a0 - 1)).toNat)
      · have h := if_T h hc6
        refine rz_B.ifF (mt (le32 (hw 77 ((a0 - 1)).toNat).1 ha2).mp (Int.not_le.mpr hc6)) ?_
        refine rz_B.go 2 (pc' := 33) (L' := [some (.ref 75), some (vI a0), some (vI a1), some (vI a2)]) (S' := [vI 1]) rfl ?_
        cases h
        exact rz_B.ret rfl (by decide) hw
      · have h := if_F h hc6
        refine rz_B.ifT ((le32 (hw 77 ((a0 - 1)).toNat).1 ha2).mpr (Int.not_lt.mp hc6)) ?_
        refine rz_B.go 1 (pc' := 33) (L' := [some (.ref 75), some (vI a0), some (vI a1), some (vI a2)]) (S' := [vI 0]) rfl ?_
        cases h
        exact rz_B.ret rfl (by decide) hw
    · have h := if_F h hc5
      refine rz_B.ifT ((le32 ha1 (hw 76 ((a0 - 1)).toNat).1).mpr (Int.not_lt.mp hc5)) ?_
      refine rz_B.go 2 (pc' := 33) (L' := [some (.ref 75), some (vI a0), some (vI a1), some (vI a2)]) (S' := [vI 1]) rfl ?_
      cases h
      exact rz_B.ret rfl (by decide) hw
  · have h := if_F h hc1
    refine rz_B.ifT ((le32 ha0 (by decide)).mpr (Int.not_lt.mp hc1)) ?_
    refine rz_B.go 1 (pc' := 33) (L' := [some (.ref 75), some (vI a0), some (vI a1), some (vI a2)]) (S' := [vI 0]) rfl ?_
    cases h
    exact rz_B.ret rfl (by decide) hw
theorem cx95_falls_b_3 (F : Nat) {d : Nat} {a0 : Int} {a1 : Int} {a2 : Int} {A : rz_A} {r : Int} {A' : rz_A} (h : x95_falls_b F 3 a0 a1 a2 A = some (r, A')) (ha0 : r32 a0) (ha1 : r32 a1) (ha2 : r32 a2) (hw : wf A) : rg_Rn (d + 0) 95 [.ref 78, vI a0, vI a1, vI a2] (toM A) (some (vI r)) (toM A') ∧ (r32 r) ∧ wf A' := by
  show rz_B (d + 0) 95 0 [some (.ref 78), some (vI a0), some (vI a1), some (vI a2)] [] A (some (vI r)) A' (r32 r)
  unfold x95_falls_b at h
  refine rz_B.go 2 (pc' := if decide (Int32.ofInt a0 ≤ Int32.ofInt 0) = true then 32 else 4) (L' := [some (.ref 78), some (vI a0), some (vI a1), some (vI a2)]) (S' := []) rfl ?_
  by_cases hc1 : 0 < a0
  · have h := if_T h hc1
    refine rz_B.ifF (mt (le32 ha0 (by decide)).mp (Int.not_le.mpr hc1)) ?_
    refine rz_B.go 5 (pc' := 11) (L' := [some (.ref 78), some (vI a0), some (vI a1), some (vI a2)]) (S' := [vI 1, vI a0, .ref 79, vI a1]) rfl ?_
    obtain ⟨hk2, h⟩ := rz_g32_inv h
    refine rz_B.isub rfl ?_
    obtain ⟨hi3, hj4, h⟩ := rz_gx_inv h
    refine rz_B.iald rfl rfl hi3 hj4 (by decide) ?_
    refine rz_B.go 1 (pc' := if decide (Int32.ofInt a1 ≤ Int32.ofInt (A.1 79 ((a0 - 1)).toNat)) = true then 28 else 16) (L' := [some (.ref 78), some (vI a0), some (vI a1), some (vI a2)]) (S' := []) rfl ?_
    by_cases hc5 : (A.1 79 ((a0 - 1)).toNat) < a1
    · have h := if_T h hc5
      refine rz_B.ifF (mt (le32 ha1 (hw 79 ((a0 - 1)).toNat).1).mp (Int.not_le.mpr hc5)) ?_
      refine rz_B.go 5 (pc' := 23) (L' := [some (.ref 78), some (vI a0), some (vI a1), some (vI a2)]) (S' := [vI 1, vI a0, .ref 80, vI a2]) rfl ?_
      refine rz_B.isub rfl ?_
      refine rz_B.iald rfl rfl hi3 hj4 (by decide) ?_
      refine rz_B.go 1 (pc' := if decide (Int32.ofInt (A.1 80 ((a0 - 1)).toNat) ≤ Int32.ofInt a2) = true then 32 else 28) (L' := [some (.ref 78), some (vI a0), some (vI a1), some (vI a2)]) (S' := []) rfl ?_
      by_cases hc6 : a2 < (A.1 80 ((a0 - 1)).toNat)
      · have h := if_T h hc6
        refine rz_B.ifF (mt (le32 (hw 80 ((a0 - 1)).toNat).1 ha2).mp (Int.not_le.mpr hc6)) ?_
        refine rz_B.go 2 (pc' := 33) (L' := [some (.ref 78), some (vI a0), some (vI a1), some (vI a2)]) (S' := [vI 1]) rfl ?_
        cases h
        exact rz_B.ret rfl (by decide) hw
      · have h := if_F h hc6
        refine rz_B.ifT ((le32 (hw 80 ((a0 - 1)).toNat).1 ha2).mpr (Int.not_lt.mp hc6)) ?_
        refine rz_B.go 1 (pc' := 33) (L' := [some (.ref 78), some (vI a0), some (vI a1), some (vI a2)]) (S' := [vI 0]) rfl ?_
        cases h
        exact rz_B.ret rfl (by decide) hw
    · have h := if_F h hc5
      refine rz_B.ifT ((le32 ha1 (hw 79 ((a0 - 1)).toNat).1).mpr (Int.not_lt.mp hc5)) ?_
      refine rz_B.go 2 (pc' := 33) (L' := [some (.ref 78), some (vI a0), some (vI a1), some (vI a2)]) (S' := [vI 1]) rfl ?_
      cases h
      exact rz_B.ret rfl (by decide) hw
  · have h := if_F h hc1
    refine rz_B.ifT ((le32 ha0 (by decide)).mpr (Int.not_lt.mp hc1)) ?_
    refine rz_B.go 1 (pc' := 33) (L' := [some (.ref 78), some (vI a0), some (vI a1), some (vI a2)]) (S' := [vI 0]) rfl ?_
    cases h
    exact rz_B.ret rfl (by decide) hw
theorem cx95_falls_b_4 (F : Nat) {d : Nat} {a0 : Int} {a1 : Int} {a2 : Int} {A : rz_A} {r : Int} {A' : rz_A} (h : x95_falls_b F 4 a0 a1 a2 A = some (r, A')) (ha0 : r32 a0) (ha1 : r32 a1) (ha2 : r32 a2) (hw : wf A) : rg_Rn (d + 0) 95 [.ref 81, vI a0, vI a1, vI a2] (toM A) (some (vI r)) (toM A') ∧ (r32 r) ∧ wf A' := by
  show rz_B (d + 0) 95 0 [some (.ref 81), some (vI a0), some (vI a1), some (vI a2)] [] A (some (vI r)) A' (r32 r)
  unfold x95_falls_b at h
  refine rz_B.go 2 (pc' := if decide (Int32.ofInt a0 ≤ Int32.ofInt 0) = true then 32 else 4) (L' := [some (.ref 81), some (vI a0), some (vI a1), some (vI a2)]) (S' := []) rfl ?_
  by_cases hc1 : 0 < a0
  · have h := if_T h hc1
    refine rz_B.ifF (mt (le32 ha0 (by decide)).mp (Int.not_le.mpr hc1)) ?_
    refine rz_B.go 5 (pc' := 11) (L' := [some (.ref 81), some (vI a0), some (vI a1), some (vI a2)]) (S' := [vI 1, vI a0, .ref 82, vI a1]) rfl ?_
    obtain ⟨hk2, h⟩ := rz_g32_inv h
    refine rz_B.isub rfl ?_
    obtain ⟨hi3, hj4, h⟩ := rz_gx_inv h
    refine rz_B.iald rfl rfl hi3 hj4 (by decide) ?_
    refine rz_B.go 1 (pc' := if decide (Int32.ofInt a1 ≤ Int32.ofInt (A.1 82 ((a0 - 1)).toNat)) = true then 28 else 16) (L' := [some (.ref 81), some (vI a0), some (vI a1), some (vI a2)]) (S' := []) rfl ?_
    by_cases hc5 : (A.1 82 ((a0 - 1)).toNat) < a1
    · have h := if_T h hc5
      refine rz_B.ifF (mt (le32 ha1 (hw 82 ((a0 - 1)).toNat).1).mp (Int.not_le.mpr hc5)) ?_
      refine rz_B.go 5 (pc' := 23) (L' := [some (.ref 81), some (vI a0), some (vI a1), some (vI a2)]) (S' := [vI 1, vI a0, .ref 83, vI a2]) rfl ?_
      refine rz_B.isub rfl ?_
      refine rz_B.iald rfl rfl hi3 hj4 (by decide) ?_
      refine rz_B.go 1 (pc' := if decide (Int32.ofInt (A.1 83 ((a0 - 1)).toNat) ≤ Int32.ofInt a2) = true then 32 else 28) (L' := [some (.ref 81), some (vI a0), some (vI a1), some (vI a2)]) (S' := []) rfl ?_
      by_cases hc6 : a2 < (A.1 83 ((a0 - 1)).toNat)
      · have h := if_T h hc6
        refine rz_B.ifF (mt (le32 (hw 83 ((a0 - 1)).toNat).1 ha2).mp (Int.not_le.mpr hc6)) ?_
        refine rz_B.go 2 (pc' := 33) (L' := [some (.ref 81), some (vI a0), some (vI a1), some (vI a2)]) (S' := [vI 1]) rfl ?_
        cases h
        exact rz_B.ret rfl (by decide) hw
      · have h := if_F h hc6
        refine rz_B.ifT ((le32 (hw 83 ((a0 - 1)).toNat).1 ha2).mpr (Int.not_lt.mp hc6)) ?_
        refine rz_B.go 1 (pc' := 33) (L' := [some (.ref 81), some (vI a0), some (vI a1), some (vI a2)]) (S' := [vI 0]) rfl ?_
        cases h
        exact rz_B.ret rfl (by decide) hw
    · have h := if_F h hc5
      refine rz_B.ifT ((le32 ha1 (hw 82 ((a0 - 1)).toNat).1).mpr (Int.not_lt.mp hc5)) ?_
      refine rz_B.go 2 (pc' := 33) (L' := [some (.ref 81), some (vI a0), some (vI a1), some (vI a2)]) (S' := [vI 1]) rfl ?_
      cases h
      exact rz_B.ret rfl (by decide) hw
  · have h := if_F h hc1
    refine rz_B.ifT ((le32 ha0 (by decide)).mpr (Int.not_lt.mp hc1)) ?_
    refine rz_B.go 1 (pc' := 33) (L' := [some (.ref 81), some (vI a0), some (vI a1), some (vI a2)]) (S' := [vI 0]) rfl ?_
    cases h
    exact rz_B.ret rfl (by decide) hw
theorem cx95_falls_b_5 (F : Nat) {d : Nat} {a0 : Int} {a1 : Int} {a2 : Int} {A : rz_A} {r : Int} {A' : rz_A} (h : x95_falls_b F 5 a0 a1 a2 A = some (r, A')) (ha0 : r32 a0) (ha1 : r32 a1) (ha2 : r32 a2) (hw : wf A) : rg_Rn (d + 0) 95 [.ref 84, vI a0, vI a1, vI a2] (toM A) (some (vI r)) (toM A') ∧ (r32 r) ∧ wf A' := by
  show rz_B (d + 0) 95 0 [some (.ref 84), some (vI a0), some (vI a1), some (vI a2)] [] A (some (vI r)) A' (r32 r)
  unfold x95_falls_b at h
  refine rz_B.go 2 (pc' := if decide (Int32.ofInt a0 ≤ Int32.ofInt 0) = true then 32 else 4) (L' := [some (.ref 84), some (vI a0), some (vI a1), some (vI a2)]) (S' := []) rfl ?_
  by_cases hc1 : 0 < a0
  · have h := if_T h hc1
    refine rz_B.ifF (mt (le32 ha0 (by decide)).mp (Int.not_le.mpr hc1)) ?_
    refine rz_B.go 5 (pc' := 11) (L' := [some (.ref 84), some (vI a0), some (vI a1), some (vI a2)]) (S' := [vI 1, vI a0, .ref 85, vI a1]) rfl ?_
    obtain ⟨hk2, h⟩ := rz_g32_inv h
    refine rz_B.isub rfl ?_
    obtain ⟨hi3, hj4, h⟩ := rz_gx_inv h
    refine rz_B.iald rfl rfl hi3 hj4 (by decide) ?_
    refine rz_B.go 1 (pc' := if decide (Int32.ofInt a1 ≤ Int32.ofInt (A.1 85 ((a0 - 1)).toNat)) = true then 28 else 16) (L' := [some (.ref 84), some (vI a0), some (vI a1), some (vI a2)]) (S' := []) rfl ?_
    by_cases hc5 : (A.1 85 ((a0 - 1)).toNat) < a1
    · have h := if_T h hc5
      refine rz_B.ifF (mt (le32 ha1 (hw 85 ((a0 - 1)).toNat).1).mp (Int.not_le.mpr hc5)) ?_
      refine rz_B.go 5 (pc' := 23) (L' := [some (.ref 84), some (vI a0), some (vI a1), some (vI a2)]) (S' := [vI 1, vI a0, .ref 86, vI a2]) rfl ?_
      refine rz_B.isub rfl ?_
      refine rz_B.iald rfl rfl hi3 hj4 (by decide) ?_
      refine rz_B.go 1 (pc' := if decide (Int32.ofInt (A.1 86 ((a0 - 1)).toNat) ≤ Int32.ofInt a2) = true then 32 else 28) (L' := [some (.ref 84), some (vI a0), some (vI a1), some (vI a2)]) (S' := []) rfl ?_
      by_cases hc6 : a2 < (A.1 86 ((a0 - 1)).toNat)
      · have h := if_T h hc6
        refine rz_B.ifF (mt (le32 (hw 86 ((a0 - 1)).toNat).1 ha2).mp (Int.not_le.mpr hc6)) ?_
        refine rz_B.go 2 (pc' := 33) (L' := [some (.ref 84), some (vI a0), some (vI a1), some (vI a2)]) (S' := [vI 1]) rfl ?_
        cases h
        exact rz_B.ret rfl (by decide) hw
      · have h := if_F h hc6
        refine rz_B.ifT ((le32 (hw 86 ((a0 - 1)).toNat).1 ha2).mpr (Int.not_lt.mp hc6)) ?_
        refine rz_B.go 1 (pc' := 33) (L' := [some (.ref 84), some (vI a0), some (vI a1), some (vI a2)]) (S' := [vI 0]) rfl ?_
        cases h
        exact rz_B.ret rfl (by decide) hw
    · have h := if_F h hc5
      refine rz_B.ifT ((le32 ha1 (hw 85 ((a0 - 1)).toNat).1).mpr (Int.not_lt.mp hc5)) ?_
      refine rz_B.go 2 (pc' := 33) (L' := [some (.ref 84), some (vI a0), some (vI a1), some (vI a2)]) (S' := [vI 1]) rfl ?_
      cases h
      exact rz_B.ret rfl (by decide) hw
  · have h := if_F h hc1
    refine rz_B.ifT ((le32 ha0 (by decide)).mpr (Int.not_lt.mp hc1)) ?_
    refine rz_B.go 1 (pc' := 33) (L' := [some (.ref 84), some (vI a0), some (vI a1), some (vI a2)]) (S' := [vI 0]) rfl ?_
    cases h
    exact rz_B.ret rfl (by decide) hw
/-- RiverGauge$Points.putAt(III)I -/
def x96_putAt_b (F : Nat) (q : Nat) (a0 : Int) (a1 : Int) (a2 : Int) (A : rz_A) : Option (Int × rz_A) :=
  rz_gx a0 8 <|
  rz_g32 (a0 + 1) <|
  some ((a0 + 1), (aI (aI (aI A (70 + 3 * q) (a0).toNat a1) (71 + 3 * q) (a0).toNat a2) (69 + 3 * q) 0 (a0 + 1)))
theorem cx96_putAt_b_0 (F : Nat) {d : Nat} {a0 : Int} {a1 : Int} {a2 : Int} {A : rz_A} {r : Int} {A' : rz_A} (h : x96_putAt_b F 0 a0 a1 a2 A = some (r, A')) (ha0 : r32 a0) (ha1 : r32 a1) (ha2 : r32 a2) (hw : wf A) : rg_Rn (d + 0) 96 [.ref 69, vI a0, vI a1, vI a2] (toM A) (some (vI r)) (toM A') ∧ (r32 r) ∧ wf A' := by
  show rz_B (d + 0) 96 0 [some (.ref 69), some (vI a0), some (vI a1), some (vI a2)] [] A (some (vI r)) A' (r32 r)
  unfold x96_putAt_b at h
  refine rz_B.go 4 (pc' := 6) (L' := [some (.ref 69), some (vI a0), some (vI a1), some (vI a2)]) (S' := [vI a1, vI a0, .ref 70]) rfl ?_
  obtain ⟨hi1, hj2, h⟩ := rz_gx_inv h
  refine rz_B.iast rfl rfl hi1 hj2 (by decide) ?_
  have hw3 : wf (aI A 70 (a0).toNat a1) := wf_aI hw ha1
  refine rz_B.go 4 (pc' := 13) (L' := [some (.ref 69), some (vI a0), some (vI a1), some (vI a2)]) (S' := [vI a2, vI a0, .ref 71]) rfl ?_
  refine rz_B.iast rfl rfl hi1 hj2 (by decide) ?_
  have hw4 : wf (aI (aI A 70 (a0).toNat a1) 71 (a0).toNat a2) := wf_aI hw3 ha2
  refine rz_B.go 3 (pc' := 17) (L' := [some (.ref 69), some (vI a0), some (vI a1), some (vI a2)]) (S' := [vI 1, vI a0, .ref 69]) rfl ?_
  obtain ⟨hk5, h⟩ := rz_g32_inv h
  refine rz_B.iadd rfl ?_
  refine rz_B.put 1 (pc' := 21) (L' := [some (.ref 69), some (vI a0), some (vI a1), some (vI a2)]) (S' := []) (c := 69) (k := 0) (x := (a0 + 1)) rfl ?_
  have hw6 : wf (aI (aI (aI A 70 (a0).toNat a1) 71 (a0).toNat a2) 69 0 (a0 + 1)) := wf_aI hw4 hk5
  refine rz_B.go 2 (pc' := 25) (L' := [some (.ref 69), some (vI a0), some (vI a1), some (vI a2)]) (S' := [vI (a0 + 1)]) rfl ?_
  cases h
  exact rz_B.ret rfl hk5 hw6
theorem cx96_putAt_b_1 (F : Nat) {d : Nat} {a0 : Int} {a1 : Int} {a2 : Int} {A : rz_A} {r : Int} {A' : rz_A} (h : x96_putAt_b F 1 a0 a1 a2 A = some (r, A')) (ha0 : r32 a0) (ha1 : r32 a1) (ha2 : r32 a2) (hw : wf A) : rg_Rn (d + 0) 96 [.ref 72, vI a0, vI a1, vI a2] (toM A) (some (vI r)) (toM A') ∧ (r32 r) ∧ wf A' := by
  show rz_B (d + 0) 96 0 [some (.ref 72), some (vI a0), some (vI a1), some (vI a2)] [] A (some (vI r)) A' (r32 r)
  unfold x96_putAt_b at h
  refine rz_B.go 4 (pc' := 6) (L' := [some (.ref 72), some (vI a0), some (vI a1), some (vI a2)]) (S' := [vI a1, vI a0, .ref 73]) rfl ?_
  obtain ⟨hi1, hj2, h⟩ := rz_gx_inv h
  refine rz_B.iast rfl rfl hi1 hj2 (by decide) ?_
  have hw3 : wf (aI A 73 (a0).toNat a1) := wf_aI hw ha1
  refine rz_B.go 4 (pc' := 13) (L' := [some (.ref 72), some (vI a0), some (vI a1), some (vI a2)]) (S' := [vI a2, vI a0, .ref 74]) rfl ?_
  refine rz_B.iast rfl rfl hi1 hj2 (by decide) ?_
  have hw4 : wf (aI (aI A 73 (a0).toNat a1) 74 (a0).toNat a2) := wf_aI hw3 ha2
  refine rz_B.go 3 (pc' := 17) (L' := [some (.ref 72), some (vI a0), some (vI a1), some (vI a2)]) (S' := [vI 1, vI a0, .ref 72]) rfl ?_
  obtain ⟨hk5, h⟩ := rz_g32_inv h
  refine rz_B.iadd rfl ?_
  refine rz_B.put 1 (pc' := 21) (L' := [some (.ref 72), some (vI a0), some (vI a1), some (vI a2)]) (S' := []) (c := 72) (k := 0) (x := (a0 + 1)) rfl ?_
  have hw6 : wf (aI (aI (aI A 73 (a0).toNat a1) 74 (a0).toNat a2) 72 0 (a0 + 1)) := wf_aI hw4 hk5
  refine rz_B.go 2 (pc' := 25) (L' := [some (.ref 72), some (vI a0), some (vI a1), some (vI a2)]) (S' := [vI (a0 + 1)]) rfl ?_
  cases h
  exact rz_B.ret rfl hk5 hw6
theorem cx96_putAt_b_2 (F : Nat) {d : Nat} {a0 : Int} {a1 : Int} {a2 : Int} {A : rz_A} {r : Int} {A' : rz_A} (h : x96_putAt_b F 2 a0 a1 a2 A = some (r, A')) (ha0 : r32 a0) (ha1 : r32 a1) (ha2 : r32 a2) (hw : wf A) : rg_Rn (d + 0) 96 [.ref 75, vI a0, vI a1, vI a2] (toM A) (some (vI r)) (toM A') ∧ (r32 r) ∧ wf A' := by
  show rz_B (d + 0) 96 0 [some (.ref 75), some (vI a0), some (vI a1), some (vI a2)] [] A (some (vI r)) A' (r32 r)
  unfold x96_putAt_b at h
  refine rz_B.go 4 (pc' := 6) (L' := [some (.ref 75), some (vI a0), some (vI a1), some (vI a2)]) (S' := [vI a1, vI a0, .ref 76]) rfl ?_
  obtain ⟨hi1, hj2, h⟩ := rz_gx_inv h
  refine rz_B.iast rfl rfl hi1 hj2 (by decide) ?_
  have hw3 : wf (aI A 76 (a0).toNat a1) := wf_aI hw ha1
  refine rz_B.go 4 (pc' := 13) (L' := [some (.ref 75), some (vI a0), some (vI a1), some (vI a2)]) (S' := [vI a2, vI a0, .ref 77]) rfl ?_
  refine rz_B.iast rfl rfl hi1 hj2 (by decide) ?_
  have hw4 : wf (aI (aI A 76 (a0).toNat a1) 77 (a0).toNat a2) := wf_aI hw3 ha2
  refine rz_B.go 3 (pc' := 17) (L' := [some (.ref 75), some (vI a0), some (vI a1), some (vI a2)]) (S' := [vI 1, vI a0, .ref 75]) rfl ?_
  obtain ⟨hk5, h⟩ := rz_g32_inv h
  refine rz_B.iadd rfl ?_
  refine rz_B.put 1 (pc' := 21) (L' := [some (.ref 75), some (vI a0), some (vI a1), some (vI a2)]) (S' := []) (c := 75) (k := 0) (x := (a0 + 1)) rfl ?_
  have hw6 : wf (aI (aI (aI A 76 (a0).toNat a1) 77 (a0).toNat a2) 75 0 (a0 + 1)) := wf_aI hw4 hk5
  refine rz_B.go 2 (pc' := 25) (L' := [some (.ref 75), some (vI a0), some (vI a1), some (vI a2)]) (S' := [vI (a0 + 1)]) rfl ?_
  cases h
  exact rz_B.ret rfl hk5 hw6
theorem cx96_putAt_b_3 (F : Nat) {d : Nat} {a0 : Int} {a1 : Int} {a2 : Int} {A : rz_A} {r : Int} {A' : rz_A} (h : x96_putAt_b F 3 a0 a1 a2 A = some (r, A')) (ha0 : r32 a0) (ha1 : r32 a1) (ha2 : r32 a2) (hw : wf A) : rg_Rn (d + 0) 96 [.ref 78, vI a0, vI a1, vI a2] (toM A) (some (vI r)) (toM A') ∧ (r32 r) ∧ wf A' := by
  show rz_B (d + 0) 96 0 [some (.ref 78), some (vI a0), some (vI a1), some (vI a2)] [] A (some (vI r)) A' (r32 r)
  unfold x96_putAt_b at h
  refine rz_B.go 4 (pc' := 6) (L' := [some (.ref 78), some (vI a0), some (vI a1), some (vI a2)]) (S' := [vI a1, vI a0, .ref 79]) rfl ?_
  obtain ⟨hi1, hj2, h⟩ := rz_gx_inv h
  refine rz_B.iast rfl rfl hi1 hj2 (by decide) ?_
  have hw3 : wf (aI A 79 (a0).toNat a1) := wf_aI hw ha1
  refine rz_B.go 4 (pc' := 13) (L' := [some (.ref 78), some (vI a0), some (vI a1), some (vI a2)]) (S' := [vI a2, vI a0, .ref 80]) rfl ?_
  refine rz_B.iast rfl rfl hi1 hj2 (by decide) ?_
  have hw4 : wf (aI (aI A 79 (a0).toNat a1) 80 (a0).toNat a2) := wf_aI hw3 ha2
  refine rz_B.go 3 (pc' := 17) (L' := [some (.ref 78), some (vI a0), some (vI a1), some (vI a2)]) (S' := [vI 1, vI a0, .ref 78]) rfl ?_
  obtain ⟨hk5, h⟩ := rz_g32_inv h
  refine rz_B.iadd rfl ?_
  refine rz_B.put 1 (pc' := 21) (L' := [some (.ref 78), some (vI a0), some (vI a1), some (vI a2)]) (S' := []) (c := 78) (k := 0) (x := (a0 + 1)) rfl ?_
  have hw6 : wf (aI (aI (aI A 79 (a0).toNat a1) 80 (a0).toNat a2) 78 0 (a0 + 1)) := wf_aI hw4 hk5
  refine rz_B.go 2 (pc' := 25) (L' := [some (.ref 78), some (vI a0), some (vI a1), some (vI a2)]) (S' := [vI (a0 + 1)]) rfl ?_
  cases h
  exact rz_B.ret rfl hk5 hw6
theorem cx96_putAt_b_4 (F : Nat) {d : Nat} {a0 : Int} {a1 : Int} {a2 : Int} {A : rz_A} {r : Int} {A' : rz_A} (h : x96_putAt_b F 4 a0 a1 a2 A = some (r, A')) (ha0 : r32 a0) (ha1 : r32 a1) (ha2 : r32 a2) (hw : wf A) : rg_Rn (d + 0) 96 [.ref 81, vI a0, vI a1, vI a2] (toM A) (some (vI r)) (toM A') ∧ (r32 r) ∧ wf A' := by
  show rz_B (d + 0) 96 0 [some (.ref 81), some (vI a0), some (vI a1), some (vI a2)] [] A (some (vI r)) A' (r32 r)
  unfold x96_putAt_b at h
  refine rz_B.go 4 (pc' := 6) (L' := [some (.ref 81), some (vI a0), some (vI a1), some (vI a2)]) (S' := [vI a1, vI a0, .ref 82]) rfl ?_
  obtain ⟨hi1, hj2, h⟩ := rz_gx_inv h
  refine rz_B.iast rfl rfl hi1 hj2 (by decide) ?_
  have hw3 : wf (aI A 82 (a0).toNat a1) := wf_aI hw ha1
  refine rz_B.go 4 (pc' := 13) (L' := [some (.ref 81), some (vI a0), some (vI a1), some (vI a2)]) (S' := [vI a2, vI a0, .ref 83]) rfl ?_
  refine rz_B.iast rfl rfl hi1 hj2 (by decide) ?_
  have hw4 : wf (aI (aI A 82 (a0).toNat a1) 83 (a0).toNat a2) := wf_aI hw3 ha2
  refine rz_B.go 3 (pc' := 17) (L' := [some (.ref 81), some (vI a0), some (vI a1), some (vI a2)]) (S' := [vI 1, vI a0, .ref 81]) rfl ?_
  obtain ⟨hk5, h⟩ := rz_g32_inv h
  refine rz_B.iadd rfl ?_
  refine rz_B.put 1 (pc' := 21) (L' := [some (.ref 81), some (vI a0), some (vI a1), some (vI a2)]) (S' := []) (c := 81) (k := 0) (x := (a0 + 1)) rfl ?_
  have hw6 : wf (aI (aI (aI A 82 (a0).toNat a1) 83 (a0).toNat a2) 81 0 (a0 + 1)) := wf_aI hw4 hk5
  refine rz_B.go 2 (pc' := 25) (L' := [some (.ref 81), some (vI a0), some (vI a1), some (vI a2)]) (S' := [vI (a0 + 1)]) rfl ?_
  cases h
  exact rz_B.ret rfl hk5 hw6
theorem cx96_putAt_b_5 (F : Nat) {d : Nat} {a0 : Int} {a1 : Int} {a2 : Int} {A : rz_A} {r : Int} {A' : rz_A} (h : x96_putAt_b F 5 a0 a1 a2 A = some (r, A')) (ha0 : r32 a0) (ha1 : r32 a1) (ha2 : r32 a2) (hw : wf A) : rg_Rn (d + 0) 96 [.ref 84, vI a0, vI a1, vI a2] (toM A) (some (vI r)) (toM A') ∧ (r32 r) ∧ wf A' := by
  show rz_B (d + 0) 96 0 [some (.ref 84), some (vI a0), some (vI a1), some (vI a2)] [] A (some (vI r)) A' (r32 r)
  unfold x96_putAt_b at h
  refine rz_B.go 4 (pc' := 6) (L' := [some (.ref 84), some (vI a0), some (vI a1), some (vI a2)]) (S' := [vI a1, vI a0, .ref 85]) rfl ?_
  obtain ⟨hi1, hj2, h⟩ := rz_gx_inv h
  refine rz_B.iast rfl rfl hi1 hj2 (by decide) ?_
  have hw3 : wf (aI A 85 (a0).toNat a1) := wf_aI hw ha1
  refine rz_B.go 4 (pc' := 13) (L' := [some (.ref 84), some (vI a0), some (vI a1), some (vI a2)]) (S' := [vI a2, vI a0, .ref 86]) rfl ?_
  refine rz_B.iast rfl rfl hi1 hj2 (by decide) ?_
  have hw4 : wf (aI (aI A 85 (a0).toNat a1) 86 (a0).toNat a2) := wf_aI hw3 ha2
  refine rz_B.go 3 (pc' := 17) (L' := [some (.ref 84), some (vI a0), some (vI a1), some (vI a2)]) (S' := [vI 1, vI a0, .ref 84]) rfl ?_
  obtain ⟨hk5, h⟩ := rz_g32_inv h
  refine rz_B.iadd rfl ?_
  refine rz_B.put 1 (pc' := 21) (L' := [some (.ref 84), some (vI a0), some (vI a1), some (vI a2)]) (S' := []) (c := 84) (k := 0) (x := (a0 + 1)) rfl ?_
  have hw6 : wf (aI (aI (aI A 85 (a0).toNat a1) 86 (a0).toNat a2) 84 0 (a0 + 1)) := wf_aI hw4 hk5
  refine rz_B.go 2 (pc' := 25) (L' := [some (.ref 84), some (vI a0), some (vI a1), some (vI a2)]) (S' := [vI (a0 + 1)]) rfl ?_
  cases h
  exact rz_B.ret rfl hk5 hw6
/-- RiverGauge.base(IIII)I -/
def x94_base (F : Nat) (a0 : Int) (a1 : Int) (a2 : Int) (a3 : Int) (A : rz_A) : Option (Int × rz_A) :=
  rz_b (x5_has F a0 A) fun r1 A1 =>
  if r1 = 0 then
    rz_b (x1_refuse F (-1) A1) fun r3 A3 =>
    some (r3, A3)
  else
    rz_gx a0 6 <|
    if a0 = 0 then
      if 0 ≤ a1 then
        if (A1.1 69 0) < a1 then
          rz_b (x1_refuse F (-1) A1) fun r9 A9 =>
          some (r9, A9)
        else
          if (-9999) ≤ a2 then
            if 0 ≤ a3 then
              rz_b (x95_falls_b F 0 a1 a2 a3 A1) fun r12 A12 =>
              if r12 = 0 then
                if a2 ≤ 99999 then
                  if a3 ≤ 99999 then
                    if 8 ≤ a1 then
                      rz_b (x1_refuse F (-6) A12) fun r17 A17 =>
                      some (r17, A17)
                    else
                      rz_b (x96_putAt_b F 0 a1 a2 a3 A12) fun r18 A18 =>
                      some (r18, A18)
                  else
                    rz_b (x1_refuse F (-6) A12) fun r19 A19 =>
                    some (r19, A19)
                else
                  rz_b (x1_refuse F (-6) A12) fun r20 A20 =>
                  some (r20, A20)
              else
                rz_b (x1_refuse F (-4) A12) fun r21 A21 =>
                some (r21, A21)
            else
              rz_b (x1_refuse F (-4) A1) fun r22 A22 =>
              some (r22, A22)
          else
            rz_b (x1_refuse F (-4) A1) fun r23 A23 =>
            some (r23, A23)
      else
        rz_b (x1_refuse F (-1) A1) fun r24 A24 =>
        some (r24, A24)
    else
      if a0 = 1 then
        if 0 ≤ a1 then
          if (A1.1 72 0) < a1 then
            rz_b (x1_refuse F (-1) A1) fun r28 A28 =>
            some (r28, A28)
          else
            if (-9999) ≤ a2 then
              if 0 ≤ a3 then
                rz_b (x95_falls_b F 1 a1 a2 a3 A1) fun r31 A31 =>
                if r31 = 0 then
                  if a2 ≤ 99999 then
                    if a3 ≤ 99999 then
                      if 8 ≤ a1 then
                        rz_b (x1_refuse F (-6) A31) fun r36 A36 =>
                        some (r36, A36)
                      else
                        rz_b (x96_putAt_b F 1 a1 a2 a3 A31) fun r37 A37 =>
                        some (r37, A37)
                    else
                      rz_b (x1_refuse F (-6) A31) fun r38 A38 =>
                      some (r38, A38)
                  else
                    rz_b (x1_refuse F (-6) A31) fun r39 A39 =>
                    some (r39, A39)
                else
                  rz_b (x1_refuse F (-4) A31) fun r40 A40 =>
                  some (r40, A40)
              else
                rz_b (x1_refuse F (-4) A1) fun r41 A41 =>
                some (r41, A41)
            else
              rz_b (x1_refuse F (-4) A1) fun r42 A42 =>
              some (r42, A42)
        else
          rz_b (x1_refuse F (-1) A1) fun r43 A43 =>
          some (r43, A43)
      else
        if a0 = 2 then
          if 0 ≤ a1 then
            if (A1.1 75 0) < a1 then
              rz_b (x1_refuse F (-1) A1) fun r47 A47 =>
              some (r47, A47)
            else
              if (-9999) ≤ a2 then
                if 0 ≤ a3 then
                  rz_b (x95_falls_b F 2 a1 a2 a3 A1) fun r50 A50 =>
                  if r50 = 0 then
                    if a2 ≤ 99999 then
                      if a3 ≤ 99999 then
                        if 8 ≤ a1 then
                          rz_b (x1_refuse F (-6) A50) fun r55 A55 =>
                          some (r55, A55)
                        else
                          rz_b (x96_putAt_b F 2 a1 a2 a3 A50) fun r56 A56 =>
                          some (r56, A56)
                      else
                        rz_b (x1_refuse F (-6) A50) fun r57 A57 =>
                        some (r57, A57)
                    else
                      rz_b (x1_refuse F (-6) A50) fun r58 A58 =>
                      some (r58, A58)
                  else
                    rz_b (x1_refuse F (-4) A50) fun r59 A59 =>
                    some (r59, A59)
                else
                  rz_b (x1_refuse F (-4) A1) fun r60 A60 =>
                  some (r60, A60)
              else
                rz_b (x1_refuse F (-4) A1) fun r61 A61 =>
                some (r61, A61)
          else
            rz_b (x1_refuse F (-1) A1) fun r62 A62 =>
            some (r62, A62)
        else
          if a0 = 3 then
            if 0 ≤ a1 then
              if (A1.1 78 0) < a1 then
                rz_b (x1_refuse F (-1) A1) fun r66 A66 =>
                some (r66, A66)
              else
                if (-9999) ≤ a2 then
                  if 0 ≤ a3 then
                    rz_b (x95_falls_b F 3 a1 a2 a3 A1) fun r69 A69 =>
                    if r69 = 0 then
                      if a2 ≤ 99999 then
                        if a3 ≤ 99999 then
                          if 8 ≤ a1 then
                            rz_b (x1_refuse F (-6) A69) fun r74 A74 =>
                            some (r74, A74)
                          else
                            rz_b (x96_putAt_b F 3 a1 a2 a3 A69) fun r75 A75 =>
                            some (r75, A75)
                        else
                          rz_b (x1_refuse F (-6) A69) fun r76 A76 =>
                          some (r76, A76)
                      else
                        rz_b (x1_refuse F (-6) A69) fun r77 A77 =>
                        some (r77, A77)
                    else
                      rz_b (x1_refuse F (-4) A69) fun r78 A78 =>
                      some (r78, A78)
                  else
                    rz_b (x1_refuse F (-4) A1) fun r79 A79 =>
                    some (r79, A79)
                else
                  rz_b (x1_refuse F (-4) A1) fun r80 A80 =>
                  some (r80, A80)
            else
              rz_b (x1_refuse F (-1) A1) fun r81 A81 =>
              some (r81, A81)
          else
            if a0 = 4 then
              if 0 ≤ a1 then
                if (A1.1 81 0) < a1 then
                  rz_b (x1_refuse F (-1) A1) fun r85 A85 =>
                  some (r85, A85)
                else
                  if (-9999) ≤ a2 then
                    if 0 ≤ a3 then
                      rz_b (x95_falls_b F 4 a1 a2 a3 A1) fun r88 A88 =>
                      if r88 = 0 then
                        if a2 ≤ 99999 then
                          if a3 ≤ 99999 then
                            if 8 ≤ a1 then
                              rz_b (x1_refuse F (-6) A88) fun r93 A93 =>
                              some (r93, A93)
                            else
                              rz_b (x96_putAt_b F 4 a1 a2 a3 A88) fun r94 A94 =>
                              some (r94, A94)
                          else
                            rz_b (x1_refuse F (-6) A88) fun r95 A95 =>
                            some (r95, A95)
                        else
                          rz_b (x1_refuse F (-6) A88) fun r96 A96 =>
                          some (r96, A96)
                      else
                        rz_b (x1_refuse F (-4) A88) fun r97 A97 =>
                        some (r97, A97)
                    else
                      rz_b (x1_refuse F (-4) A1) fun r98 A98 =>
                      some (r98, A98)
                  else
                    rz_b (x1_refuse F (-4) A1) fun r99 A99 =>
                    some (r99, A99)
              else
                rz_b (x1_refuse F (-1) A1) fun r100 A100 =>
                some (r100, A100)
            else
                if 0 ≤ a1 then
                  if (A1.1 84 0) < a1 then
                    rz_b (x1_refuse F (-1) A1) fun r104 A104 =>
                    some (r104, A104)
                  else
                    if (-9999) ≤ a2 then
                      if 0 ≤ a3 then
                        rz_b (x95_falls_b F 5 a1 a2 a3 A1) fun r107 A107 =>
                        if r107 = 0 then
                          if a2 ≤ 99999 then
                            if a3 ≤ 99999 then
                              if 8 ≤ a1 then
                                rz_b (x1_refuse F (-6) A107) fun r112 A112 =>
                                some (r112, A112)
                              else
                                rz_b (x96_putAt_b F 5 a1 a2 a3 A107) fun r113 A113 =>
                                some (r113, A113)
                            else
                              rz_b (x1_refuse F (-6) A107) fun r114 A114 =>
                              some (r114, A114)
                          else
                            rz_b (x1_refuse F (-6) A107) fun r115 A115 =>
                            some (r115, A115)
                        else
                          rz_b (x1_refuse F (-4) A107) fun r116 A116 =>
                          some (r116, A116)
                      else
                        rz_b (x1_refuse F (-4) A1) fun r117 A117 =>
                        some (r117, A117)
                    else
                      rz_b (x1_refuse F (-4) A1) fun r118 A118 =>
                      some (r118, A118)
                else
                  rz_b (x1_refuse F (-1) A1) fun r119 A119 =>
                  some (r119, A119)
theorem cx94_base (F : Nat) {d : Nat} {a0 : Int} {a1 : Int} {a2 : Int} {a3 : Int} {A : rz_A} {r : Int} {A' : rz_A} (h : x94_base F a0 a1 a2 a3 A = some (r, A')) (ha0 : r32 a0) (ha1 : r32 a1) (ha2 : r32 a2) (ha3 : r32 a3) (hw : wf A) : rg_Rn (d + 1) 94 [.ref 0, vI a0, vI a1, vI a2, vI a3] (toM A) (some (vI r)) (toM A') ∧ (r32 r) ∧ wf A' := by
  show rz_B (d + 1) 94 0 [some (.ref 0), some (vI a0), some (vI a1), some (vI a2), some (vI a3), none] [] A (some (vI r)) A' (r32 r)
  unfold x94_base at h
  refine rz_B.go 3 (pc' := 5) (L' := [some (.ref 0), some (vI a0), some (vI a1), some (vI a2), some (vI a3), none]) (S' := [vI a0, .ref 2]) rfl ?_
  obtain ⟨r1, A1, hf1, h⟩ := rz_b_inv h
  obtain ⟨hg1, hr1, hw1⟩ := cx5_has F (d := d + 0) hf1 ha0 hw
  refine rz_B.call (d := d + 0) (as := [.ref 2, vI a0]) (rest := []) (w := some (vI r1)) rfl hg1 ?_
  refine rz_B.go 1 (pc' := if decide (¬ Int32.ofInt r1 = Int32.ofInt 0) = true then 17 else 11) (L' := [some (.ref 0), some (vI a0), some (vI a1), some (vI a2), some (vI a3), none]) (S' := []) rfl ?_
  by_cases hc2 : r1 = 0
  · have h := if_T h hc2
    refine rz_B.ifF (fun hn => hn ((eq32 hr1 (by decide)).mpr hc2)) ?_
    refine rz_B.go 2 (pc' := 13) (L' := [some (.ref 0), some (vI a0), some (vI a1), some (vI a2), some (vI a3), none]) (S' := [vI (-1), .ref 0]) rfl ?_
    obtain ⟨r3, A3, hf3, h⟩ := rz_b_inv h
    obtain ⟨hg3, hr3, hw3⟩ := cx1_refuse F (d := d + 0) hf3 (by decide) hw1
    refine rz_B.call (d := d + 0) (as := [.ref 0, vI (-1)]) (rest := []) (w := some (vI r3)) rfl hg3 ?_
    cases h
    exact rz_B.ret rfl hr3 hw3
  · have h := if_F h hc2
    refine rz_B.ifT (mt (eq32 hr1 (by decide)).mp hc2) ?_
    refine rz_B.go 4 (pc' := 25) (L' := [some (.ref 0), some (vI a0), some (vI a1), some (vI a2), some (vI a3), none]) (S' := [vI a0, .ref 65]) rfl ?_
    obtain ⟨hi4, hj5, h⟩ := rz_gx_inv h
    by_cases hj6 : a0 = 0
    · have h := if_T h hj6
      refine rz_B.aald rfl (Or.inl rfl) rfl hi4 hj5 (by decide) (c' := 69) (by omega) ?_
      refine rz_B.go 3 (pc' := if decide (Int32.ofInt a1 < Int32.ofInt 0) = true then 41 else 32) (L' := [some (.ref 0), some (vI a0), some (vI a1), some (vI a2), some (vI a3), some (.ref 69)]) (S' := []) rfl ?_
      by_cases hc7 : 0 ≤ a1
      · have h := if_T h hc7
        refine rz_B.ifF (mt (lt32 ha1 (by decide)).mp (Int.not_lt.mpr hc7)) ?_
        refine rz_B.go 4 (pc' := if decide (Int32.ofInt a1 ≤ Int32.ofInt (A1.1 69 0)) = true then 47 else 41) (L' := [some (.ref 0), some (vI a0), some (vI a1), some (vI a2), some (vI a3), some (.ref 69)]) (S' := []) rfl ?_
        by_cases hc8 : (A1.1 69 0) < a1
        · have h := if_T h hc8
          refine rz_B.ifF (mt (le32 ha1 (hw1 69 0).1).mp (Int.not_le.mpr hc8)) ?_
          refine rz_B.go 2 (pc' := 43) (L' := [some (.ref 0), some (vI a0), some (vI a1), some (vI a2), some (vI a3), some (.ref 69)]) (S' := [vI (-1), .ref 0]) rfl ?_
          obtain ⟨r9, A9, hf9, h⟩ := rz_b_inv h
          obtain ⟨hg9, hr9, hw9⟩ := cx1_refuse F (d := d + 0) hf9 (by decide) hw1
          refine rz_B.call (d := d + 0) (as := [.ref 0, vI (-1)]) (rest := []) (w := some (vI r9)) rfl hg9 ?_
          cases h
          exact rz_B.ret rfl hr9 hw9
        · have h := if_F h hc8
          refine rz_B.ifT ((le32 ha1 (hw1 69 0).1).mpr (Int.not_lt.mp hc8)) ?_
          refine rz_B.go 3 (pc' := if decide (Int32.ofInt a2 < Int32.ofInt (-9999)) = true then 71 else 54) (L' := [some (.ref 0), some (vI a0), some (vI a1), some (vI a2), some (vI a3), some (.ref 69)]) (S' := []) rfl ?_
          by_cases hc10 : (-9999) ≤ a2
          · have h := if_T h hc10
            refine rz_B.ifF (mt (lt32 ha2 (by decide)).mp (Int.not_lt.mpr hc10)) ?_
            refine rz_B.go 2 (pc' := if decide (Int32.ofInt a3 < Int32.ofInt 0) = true then 71 else 59) (L' := [some (.ref 0), some (vI a0), some (vI a1), some (vI a2), some (vI a3), some (.ref 69)]) (S' := []) rfl ?_
            by_cases hc11 : 0 ≤ a3
            · have h := if_T h hc11
              refine rz_B.ifF (mt (lt32 ha3 (by decide)).mp (Int.not_lt.mpr hc11)) ?_
              refine rz_B.go 4 (pc' := 65) (L' := [some (.ref 0), some (vI a0), some (vI a1), some (vI a2), some (vI a3), some (.ref 69)]) (S' := [vI a3, vI a2, vI a1, .ref 69]) rfl ?_
              obtain ⟨r12, A12, hf12, h⟩ := rz_b_inv h
              obtain ⟨hg12, hr12, hw12⟩ := cx95_falls_b_0 F (d := d + 0) hf12 ha1 ha2 ha3 hw1
              refine rz_B.call (d := d + 0) (as := [.ref 69, vI a1, vI a2, vI a3]) (rest := []) (w := some (vI r12)) rfl hg12 ?_
              refine rz_B.go 1 (pc' := if decide (Int32.ofInt r12 = Int32.ofInt 0) = true then 78 else 71) (L' := [some (.ref 0), some (vI a0), some (vI a1), some (vI a2), some (vI a3), some (.ref 69)]) (S' := []) rfl ?_
              by_cases hc13 : r12 = 0
              · have h := if_T h hc13
                refine rz_B.ifT ((eq32 hr12 (by decide)).mpr hc13) ?_
                refine rz_B.go 3 (pc' := if decide (Int32.ofInt 99999 < Int32.ofInt a2) = true then 97 else 84) (L' := [some (.ref 0), some (vI a0), some (vI a1), some (vI a2), some (vI a3), some (.ref 69)]) (S' := []) rfl ?_
                by_cases hc14 : a2 ≤ 99999
                · have h := if_T h hc14
                  refine rz_B.ifF (mt (lt32 (by decide) ha2).mp (Int.not_lt.mpr hc14)) ?_
                  refine rz_B.go 3 (pc' := if decide (Int32.ofInt 99999 < Int32.ofInt a3) = true then 97 else 91) (L' := [some (.ref 0), some (vI a0), some (vI a1), some (vI a2), some (vI a3), some (.ref 69)]) (S' := []) rfl ?_
                  by_cases hc15 : a3 ≤ 99999
                  · have h := if_T h hc15
                    refine rz_B.ifF (mt (lt32 (by decide) ha3).mp (Int.not_lt.mpr hc15)) ?_
                    refine rz_B.go 3 (pc' := if decide (Int32.ofInt a1 < Int32.ofInt 8) = true then 104 else 97) (L' := [some (.ref 0), some (vI a0), some (vI a1), some (vI a2), some (vI a3), some (.ref 69)]) (S' := []) rfl ?_
                    by_cases hc16 : 8 ≤ a1
                    · have h := if_T h hc16
                      refine rz_B.ifF (mt (lt32 ha1 (by decide)).mp (Int.not_lt.mpr hc16)) ?_
                      refine rz_B.go 2 (pc' := 100) (L' := [some (.ref 0), some (vI a0), some (vI a1), some (vI a2), some (vI a3), some (.ref 69)]) (S' := [vI (-6), .ref 0]) rfl ?_
                      obtain ⟨r17, A17, hf17, h⟩ := rz_b_inv h
                      obtain ⟨hg17, hr17, hw17⟩ := cx1_refuse F (d := d + 0) hf17 (by decide) hw12
                      refine rz_B.call (d := d + 0) (as := [.ref 0, vI (-6)]) (rest := []) (w := some (vI r17)) rfl hg17 ?_
                      cases h
                      exact rz_B.ret rfl hr17 hw17
                    · have h := if_F h hc16
                      refine rz_B.ifT ((lt32 ha1 (by decide)).mpr (Int.not_le.mp hc16)) ?_
                      refine rz_B.go 4 (pc' := 110) (L' := [some (.ref 0), some (vI a0), some (vI a1), some (vI a2), some (vI a3), some (.ref 69)]) (S' := [vI a3, vI a2, vI a1, .ref 69]) rfl ?_
                      obtain ⟨r18, A18, hf18, h⟩ := rz_b_inv h
                      obtain ⟨hg18, hr18, hw18⟩ := cx96_putAt_b_0 F (d := d + 0) hf18 ha1 ha2 ha3 hw12
                      refine rz_B.call (d := d + 0) (as := [.ref 69, vI a1, vI a2, vI a3]) (rest := []) (w := some (vI r18)) rfl hg18 ?_
                      cases h
                      exact rz_B.ret rfl hr18 hw18
                  · have h := if_F h hc15
                    refine rz_B.ifT ((lt32 (by decide) ha3).mpr (Int.not_le.mp hc15)) ?_
                    refine rz_B.go 2 (pc' := 100) (L' := [some (.ref 0), some (vI a0), some (vI a1), some (vI a2), some (vI a3), some (.ref 69)]) (S' := [vI (-6), .ref 0]) rfl ?_
                    obtain ⟨r19, A19, hf19, h⟩ := rz_b_inv h
                    obtain ⟨hg19, hr19, hw19⟩ := cx1_refuse F (d := d + 0) hf19 (by decide) hw12
                    refine rz_B.call (d := d + 0) (as := [.ref 0, vI (-6)]) (rest := []) (w := some (vI r19)) rfl hg19 ?_
                    cases h
                    exact rz_B.ret rfl hr19 hw19
                · have h := if_F h hc14
                  refine rz_B.ifT ((lt32 (by decide) ha2).mpr (Int.not_le.mp hc14)) ?_
                  refine rz_B.go 2 (pc' := 100) (L' := [some (.ref 0), some (vI a0), some (vI a1), some (vI a2), some (vI a3), some (.ref 69)]) (S' := [vI (-6), .ref 0]) rfl ?_
                  obtain ⟨r20, A20, hf20, h⟩ := rz_b_inv h
                  obtain ⟨hg20, hr20, hw20⟩ := cx1_refuse F (d := d + 0) hf20 (by decide) hw12
                  refine rz_B.call (d := d + 0) (as := [.ref 0, vI (-6)]) (rest := []) (w := some (vI r20)) rfl hg20 ?_
                  cases h
                  exact rz_B.ret rfl hr20 hw20
              · have h := if_F h hc13
                refine rz_B.ifF (mt (eq32 hr12 (by decide)).mp hc13) ?_
                refine rz_B.go 2 (pc' := 74) (L' := [some (.ref 0), some (vI a0), some (vI a1), some (vI a2), some (vI a3), some (.ref 69)]) (S' := [vI (-4), .ref 0]) rfl ?_
                obtain ⟨r21, A21, hf21, h⟩ := rz_b_inv h
                obtain ⟨hg21, hr21, hw21⟩ := cx1_refuse F (d := d + 0) hf21 (by decide) hw12
                refine rz_B.call (d := d + 0) (as := [.ref 0, vI (-4)]) (rest := []) (w := some (vI r21)) rfl hg21 ?_
                cases h
                exact rz_B.ret rfl hr21 hw21
            · have h := if_F h hc11
              refine rz_B.ifT ((lt32 ha3 (by decide)).mpr (Int.not_le.mp hc11)) ?_
              refine rz_B.go 2 (pc' := 74) (L' := [some (.ref 0), some (vI a0), some (vI a1), some (vI a2), some (vI a3), some (.ref 69)]) (S' := [vI (-4), .ref 0]) rfl ?_
              obtain ⟨r22, A22, hf22, h⟩ := rz_b_inv h
              obtain ⟨hg22, hr22, hw22⟩ := cx1_refuse F (d := d + 0) hf22 (by decide) hw1
              refine rz_B.call (d := d + 0) (as := [.ref 0, vI (-4)]) (rest := []) (w := some (vI r22)) rfl hg22 ?_
              cases h
              exact rz_B.ret rfl hr22 hw22
          · have h := if_F h hc10
            refine rz_B.ifT ((lt32 ha2 (by decide)).mpr (Int.not_le.mp hc10)) ?_
            refine rz_B.go 2 (pc' := 74) (L' := [some (.ref 0), some (vI a0), some (vI a1), some (vI a2), some (vI a3), some (.ref 69)]) (S' := [vI (-4), .ref 0]) rfl ?_
            obtain ⟨r23, A23, hf23, h⟩ := rz_b_inv h
            obtain ⟨hg23, hr23, hw23⟩ := cx1_refuse F (d := d + 0) hf23 (by decide) hw1
            refine rz_B.call (d := d + 0) (as := [.ref 0, vI (-4)]) (rest := []) (w := some (vI r23)) rfl hg23 ?_
            cases h
            exact rz_B.ret rfl hr23 hw23
      · have h := if_F h hc7
        refine rz_B.ifT ((lt32 ha1 (by decide)).mpr (Int.not_le.mp hc7)) ?_
        refine rz_B.go 2 (pc' := 43) (L' := [some (.ref 0), some (vI a0), some (vI a1), some (vI a2), some (vI a3), some (.ref 69)]) (S' := [vI (-1), .ref 0]) rfl ?_
        obtain ⟨r24, A24, hf24, h⟩ := rz_b_inv h
        obtain ⟨hg24, hr24, hw24⟩ := cx1_refuse F (d := d + 0) hf24 (by decide) hw1
        refine rz_B.call (d := d + 0) (as := [.ref 0, vI (-1)]) (rest := []) (w := some (vI r24)) rfl hg24 ?_
        cases h
        exact rz_B.ret rfl hr24 hw24
    · have h := if_F h hj6
      by_cases hj25 : a0 = 1
      · have h := if_T h hj25
        refine rz_B.aald rfl (Or.inl rfl) rfl hi4 hj5 (by decide) (c' := 72) (by omega) ?_
        refine rz_B.go 3 (pc' := if decide (Int32.ofInt a1 < Int32.ofInt 0) = true then 41 else 32) (L' := [some (.ref 0), some (vI a0), some (vI a1), some (vI a2), some (vI a3), some (.ref 72)]) (S' := []) rfl ?_
        by_cases hc26 : 0 ≤ a1
        · have h := if_T h hc26
          refine rz_B.ifF (mt (lt32 ha1 (by decide)).mp (Int.not_lt.mpr hc26)) ?_
          refine rz_B.go 4 (pc' := if decide (Int32.ofInt a1 ≤ Int32.ofInt (A1.1 72 0)) = true then 47 else 41) (L' := [some (.ref 0), some (vI a0), some (vI a1), some (vI a2), some (vI a3), some (.ref 72)]) (S' := []) rfl ?_
          by_cases hc27 : (A1.1 72 0) < a1
          · have h := if_T h hc27
            refine rz_B.ifF (mt (le32 ha1 (hw1 72 0).1).mp (Int.not_le.mpr hc27)) ?_
            refine rz_B.go 2 (pc' := 43) (L' := [some (.ref 0), some (vI a0), some (vI a1), some (vI a2), some (vI a3), some (.ref 72)]) (S' := [vI (-1), .ref 0]) rfl ?_
            obtain ⟨r28, A28, hf28, h⟩ := rz_b_inv h
            obtain ⟨hg28, hr28, hw28⟩ := cx1_refuse F (d := d + 0) hf28 (by decide) hw1
            refine rz_B.call (d := d + 0) (as := [.ref 0, vI (-1)]) (rest := []) (w := some (vI r28)) rfl hg28 ?_
            cases h
            exact rz_B.ret rfl hr28 hw28
          · have h := if_F h hc27
            refine rz_B.ifT ((le32 ha1 (hw1 72 0).1).mpr (Int.not_lt.mp hc27)) ?_
            refine rz_B.go 3 (pc' := if decide (Int32.ofInt a2 < Int32.ofInt (-9999)) = true then 71 else 54) (L' := [some (.ref 0), some (vI a0), some (vI a1), some (vI a2), some (vI a3), some (.ref 72)]) (S' := []) rfl ?_
            by_cases hc29 : (-9999) ≤ a2
            · have h := if_T h hc29
              refine rz_B.ifF (mt (lt32 ha2 (by decide)).mp (Int.not_lt.mpr hc29)) ?_
              refine rz_B.go 2 (pc' := if decide (Int32.ofInt a3 < Int32.ofInt 0) = true then 71 else 59) (L' := [some (.ref 0), some (vI a0), some (vI a1), some (vI a2), some (vI a3), some (.ref 72)]) (S' := []) rfl ?_
              by_cases hc30 : 0 ≤ a3
              · have h := if_T h hc30
                refine rz_B.ifF (mt (lt32 ha3 (by decide)).mp (Int.not_lt.mpr hc30)) ?_
                refine rz_B.go 4 (pc' := 65) (L' := [some (.ref 0), some (vI a0), some (vI a1), some (vI a2), some (vI a3), some (.ref 72)]) (S' := [vI a3, vI a2, vI a1, .ref 72]) rfl ?_
                obtain ⟨r31, A31, hf31, h⟩ := rz_b_inv h
                obtain ⟨hg31, hr31, hw31⟩ := cx95_falls_b_1 F (d := d + 0) hf31 ha1 ha2 ha3 hw1
                refine rz_B.call (d := d + 0) (as := [.ref 72, vI a1, vI a2, vI a3]) (rest := []) (w := some (vI r31)) rfl hg31 ?_
                refine rz_B.go 1 (pc' := if decide (Int32.ofInt r31 = Int32.ofInt 0) = true then 78 else 71) (L' := [some (.ref 0), some (vI a0), some (vI a1), some (vI a2), some (vI a3), some (.ref 72)]) (S' := []) rfl ?_
                by_cases hc32 : r31 = 0
                · have h := if_T h hc32
                  refine rz_B.ifT ((eq32 hr31 (by decide)).mpr hc32) ?_
                  refine rz_B.go 3 (pc' := if decide (Int32.ofInt 99999 < Int32.ofInt a2) = true then 97 else 84) (L' := [some (.ref 0), some (vI a0), some (vI a1), some (vI a2), some (vI a3), some (.ref 72)]) (S' := []) rfl ?_
                  by_cases hc33 : a2 ≤ 99999
                  · have h := if_T h hc33
                    refine rz_B.ifF (mt (lt32 (by decide) ha2).mp (Int.not_lt.mpr hc33)) ?_
                    refine rz_B.go 3 (pc' := if decide (Int32.ofInt 99999 < Int32.ofInt a3) = true then 97 else 91) (L' := [some (.ref 0), some (vI a0), some (vI a1), some (vI a2), some (vI a3), some (.ref 72)]) (S' := []) rfl ?_
                    by_cases hc34 : a3 ≤ 99999
                    · have h := if_T h hc34
                      refine rz_B.ifF (mt (lt32 (by decide) ha3).mp (Int.not_lt.mpr hc34)) ?_
                      refine rz_B.go 3 (pc' := if decide (Int32.ofInt a1 < Int32.ofInt 8) = true then 104 else 97) (L' := [some (.ref 0), some (vI a0), some (vI a1), some (vI a2), some (vI a3), some (.ref 72)]) (S' := []) rfl ?_
                      by_cases hc35 : 8 ≤ a1
                      · have h := if_T h hc35
                        refine rz_B.ifF (mt (lt32 ha1 (by decide)).mp (Int.not_lt.mpr hc35)) ?_
                        refine rz_B.go 2 (pc' := 100) (L' := [some (.ref 0), some (vI a0), some (vI a1), some (vI a2), some (vI a3), some (.ref 72)]) (S' := [vI (-6), .ref 0]) rfl ?_
                        obtain ⟨r36, A36, hf36, h⟩ := rz_b_inv h
                        obtain ⟨hg36, hr36, hw36⟩ := cx1_refuse F (d := d + 0) hf36 (by decide) hw31
                        refine rz_B.call (d := d + 0) (as := [.ref 0, vI (-6)]) (rest := []) (w := some (vI r36)) rfl hg36 ?_
                        cases h
                        exact rz_B.ret rfl hr36 hw36
                      · have h := if_F h hc35
                        refine rz_B.ifT ((lt32 ha1 (by decide)).mpr (Int.not_le.mp hc35)) ?_
                        refine rz_B.go 4 (pc' := 110) (L' := [some (.ref 0), some (vI a0), some (vI a1), some (vI a2), some (vI a3), some (.ref 72)]) (S' := [vI a3, vI a2, vI a1, .ref 72]) rfl ?_
                        obtain ⟨r37, A37, hf37, h⟩ := rz_b_inv h
                        obtain ⟨hg37, hr37, hw37⟩ := cx96_putAt_b_1 F (d := d + 0) hf37 ha1 ha2 ha3 hw31
                        refine rz_B.call (d := d + 0) (as := [.ref 72, vI a1, vI a2, vI a3]) (rest := []) (w := some (vI r37)) rfl hg37 ?_
                        cases h
                        exact rz_B.ret rfl hr37 hw37
                    · have h := if_F h hc34
                      refine rz_B.ifT ((lt32 (by decide) ha3).mpr (Int.not_le.mp hc34)) ?_
                      refine rz_B.go 2 (pc' := 100) (L' := [some (.ref 0), some (vI a0), some (vI a1), some (vI a2), some (vI a3), some (.ref 72)]) (S' := [vI (-6), .ref 0]) rfl ?_
                      obtain ⟨r38, A38, hf38, h⟩ := rz_b_inv h
                      obtain ⟨hg38, hr38, hw38⟩ := cx1_refuse F (d := d + 0) hf38 (by decide) hw31
                      refine rz_B.call (d := d + 0) (as := [.ref 0, vI (-6)]) (rest := []) (w := some (vI r38)) rfl hg38 ?_
                      cases h
                      exact rz_B.ret rfl hr38 hw38
                  · have h := if_F h hc33
                    refine rz_B.ifT ((lt32 (by decide) ha2).mpr (Int.not_le.mp hc33)) ?_
                    refine rz_B.go 2 (pc' := 100) (L' := [some (.ref 0), some (vI a0), some (vI a1), some (vI a2), some (vI a3), some (.ref 72)]) (S' := [vI (-6), .ref 0]) rfl ?_
                    obtain ⟨r39, A39, hf39, h⟩ := rz_b_inv h
                    obtain ⟨hg39, hr39, hw39⟩ := cx1_refuse F (d := d + 0) hf39 (by decide) hw31
                    refine rz_B.call (d := d + 0) (as := [.ref 0, vI (-6)]) (rest := []) (w := some (vI r39)) rfl hg39 ?_
                    cases h
                    exact rz_B.ret rfl hr39 hw39
                · have h := if_F h hc32
                  refine rz_B.ifF (mt (eq32 hr31 (by decide)).mp hc32) ?_
                  refine rz_B.go 2 (pc' := 74) (L' := [some (.ref 0), some (vI a0), some (vI a1), some (vI a2), some (vI a3), some (.ref 72)]) (S' := [vI (-4), .ref 0]) rfl ?_
                  obtain ⟨r40, A40, hf40, h⟩ := rz_b_inv h
                  obtain ⟨hg40, hr40, hw40⟩ := cx1_refuse F (d := d + 0) hf40 (by decide) hw31
                  refine rz_B.call (d := d + 0) (as := [.ref 0, vI (-4)]) (rest := []) (w := some (vI r40)) rfl hg40 ?_
                  cases h
                  exact rz_B.ret rfl hr40 hw40
              · have h := if_F h hc30
                refine rz_B.ifT ((lt32 ha3 (by decide)).mpr (Int.not_le.mp hc30)) ?_
                refine rz_B.go 2 (pc' := 74) (L' := [some (.ref 0), some (vI a0), some (vI a1), some (vI a2), some (vI a3), some (.ref 72)]) (S' := [vI (-4), .ref 0]) rfl ?_
                obtain ⟨r41, A41, hf41, h⟩ := rz_b_inv h
                obtain ⟨hg41, hr41, hw41⟩ := cx1_refuse F (d := d + 0) hf41 (by decide) hw1
                refine rz_B.call (d := d + 0) (as := [.ref 0, vI (-4)]) (rest := []) (w := some (vI r41)) rfl hg41 ?_
                cases h
                exact rz_B.ret rfl hr41 hw41
            · have h := if_F h hc29
              refine rz_B.ifT ((lt32 ha2 (by decide)).mpr (Int.not_le.mp hc29)) ?_
              refine rz_B.go 2 (pc' := 74) (L' := [some (.ref 0), some (vI a0), some (vI a1), some (vI a2), some (vI a3), some (.ref 72)]) (S' := [vI (-4), .ref 0]) rfl ?_
              obtain ⟨r42, A42, hf42, h⟩ := rz_b_inv h
              obtain ⟨hg42, hr42, hw42⟩ := cx1_refuse F (d := d + 0) hf42 (by decide) hw1
              refine rz_B.call (d := d + 0) (as := [.ref 0, vI (-4)]) (rest := []) (w := some (vI r42)) rfl hg42 ?_
              cases h
              exact rz_B.ret rfl hr42 hw42
        · have h := if_F h hc26
          refine rz_B.ifT ((lt32 ha1 (by decide)).mpr (Int.not_le.mp hc26)) ?_
          refine rz_B.go 2 (pc' := 43) (L' := [some (.ref 0), some (vI a0), some (vI a1), some (vI a2), some (vI a3), some (.ref 72)]) (S' := [vI (-1), .ref 0]) rfl ?_
          obtain ⟨r43, A43, hf43, h⟩ := rz_b_inv h
          obtain ⟨hg43, hr43, hw43⟩ := cx1_refuse F (d := d + 0) hf43 (by decide) hw1
          refine rz_B.call (d := d + 0) (as := [.ref 0, vI (-1)]) (rest := []) (w := some (vI r43)) rfl hg43 ?_
          cases h
          exact rz_B.ret rfl hr43 hw43
      · have h := if_F h hj25
        by_cases hj44 : a0 = 2
        · have h := if_T h hj44
          refine rz_B.aald rfl (Or.inl rfl) rfl hi4 hj5 (by decide) (c' := 75) (by omega) ?_
          refine rz_B.go 3 (pc' := if decide (Int32.ofInt a1 < Int32.ofInt 0) = true then 41 else 32) (L' := [some (.ref 0), some (vI a0), some (vI a1), some (vI a2), some (vI a3), some (.ref 75)]) (S' := []) rfl ?_
          by_cases hc45 : 0 ≤ a1
          · have h := if_T h hc45
            refine rz_B.ifF (mt (lt32 ha1 (by decide)).mp (Int.not_lt.mpr hc45)) ?_
            refine rz_B.go 4 (pc' := if decide (Int32.ofInt a1 ≤ Int32.ofInt (A1.1 75 0)) = true then 47 else 41) (L' := [some (.ref 0), some (vI a0), some (vI a1), some (vI a2), some (vI a3), some (.ref 75)]) (S' := []) rfl ?_
            by_cases hc46 : (A1.1 75 0) < a1
            · have h := if_T h hc46
              refine rz_B.ifF (mt (le32 ha1 (hw1 75 0).1).mp (Int.not_le.mpr hc46)) ?_
              refine rz_B.go 2 (pc' := 43) (L' := [some (.ref 0), some (vI a0), some (vI a1), some (vI a2), some (vI a3), some (.ref 75)]) (S' := [vI (-1), .ref 0]) rfl ?_
              obtain ⟨r47, A47, hf47, h⟩ := rz_b_inv h
              obtain ⟨hg47, hr47, hw47⟩ := cx1_refuse F (d := d + 0) hf47 (by decide) hw1
              refine rz_B.call (d := d + 0) (as := [.ref 0, vI (-1)]) (rest := []) (w := some (vI r47)) rfl hg47 ?_
              cases h
              exact rz_B.ret rfl hr47 hw47
            · have h := if_F h hc46
              refine rz_B.ifT ((le32 ha1 (hw1 75 0).1).mpr (Int.not_lt.mp hc46)) ?_
              refine rz_B.go 3 (pc' := if decide (Int32.ofInt a2 < Int32.ofInt (-9999)) = true then 71 else 54) (L' := [some (.ref 0), some (vI a0), some (vI a1), some (vI a2), some (vI a3), some (.ref 75)]) (S' := []) rfl ?_
              by_cases hc48 : (-9999) ≤ a2
              · have h := if_T h hc48
                refine rz_B.ifF (mt (lt32 ha2 (by decide)).mp (Int.not_lt.mpr hc48)) ?_
                refine rz_B.go 2 (pc' := if decide (Int32.ofInt a3 < Int32.ofInt 0) = true then 71 else 59) (L' := [some (.ref 0), some (vI a0), some (vI a1), some (vI a2), some (vI a3), some (.ref 75)]) (S' := []) rfl ?_
                by_cases hc49 : 0 ≤ a3
                · have h := if_T h hc49
                  refine rz_B.ifF (mt (lt32 ha3 (by decide)).mp (Int.not_lt.mpr hc49)) ?_
                  refine rz_B.go 4 (pc' := 65) (L' := [some (.ref 0), some (vI a0), some (vI a1), some (vI a2), some (vI a3), some (.ref 75)]) (S' := [vI a3, vI a2, vI a1, .ref 75]) rfl ?_
                  obtain ⟨r50, A50, hf50, h⟩ := rz_b_inv h
                  obtain ⟨hg50, hr50, hw50⟩ := cx95_falls_b_2 F (d := d + 0) hf50 ha1 ha2 ha3 hw1
                  refine rz_B.call (d := d + 0) (as := [.ref 75, vI a1, vI a2, vI a3]) (rest := []) (w := some (vI r50)) rfl hg50 ?_
                  refine rz_B.go 1 (pc' := if decide (Int32.ofInt r50 = Int32.ofInt 0) = true then 78 else 71) (L' := [some (.ref 0), some (vI a0), some (vI a1), some (vI a2), some (vI a3), some (.ref 75)]) (S' := []) rfl ?_
                  by_cases hc51 : r50 = 0
                  · have h := if_T h hc51
                    refine rz_B.ifT ((eq32 hr50 (by decide)).mpr hc51) ?_
                    refine rz_B.go 3 (pc' := if decide (Int32.ofInt 99999 < Int32.ofInt a2) = true then 97 else 84) (L' := [some (.ref 0), some (vI a0), some (vI a1), some (vI a2), some (vI a3), some (.ref 75)]) (S' := []) rfl ?_
                    by_cases hc52 : a2 ≤ 99999
                    · have h := if_T h hc52
                      refine rz_B.ifF (mt (lt32 (by decide) ha2).mp (Int.not_lt.mpr hc52)) ?_
                      refine rz_B.go 3 (pc' := if decide (Int32.ofInt 99999 < Int32.ofInt a3) = true then 97 else 91) (L' := [some (.ref 0), some (vI a0), some (vI a1), some (vI a2), some (vI a3), some (.ref 75)]) (S' := []) rfl ?_
                      by_cases hc53 : a3 ≤ 99999
                      · have h := if_T h hc53
                        refine rz_B.ifF (mt (lt32 (by decide) ha3).mp (Int.not_lt.mpr hc53)) ?_
                        refine rz_B.go 3 (pc' := if decide (Int32.ofInt a1 < Int32.ofInt 8) = true then 104 else 97) (L' := [some (.ref 0), some (vI a0), some (vI a1), some (vI a2), some (vI a3), some (.ref 75)]) (S' := []) rfl ?_
                        by_cases hc54 : 8 ≤ a1
                        · have h := if_T h hc54
                          refine rz_B.ifF (mt (lt32 ha1 (by decide)).mp (Int.not_lt.mpr hc54)) ?_
                          refine rz_B.go 2 (pc' := 100) (L' := [some (.ref 0), some (vI a0), some (vI a1), some (vI a2), some (vI a3), some (.ref 75)]) (S' := [vI (-6), .ref 0]) rfl ?_
                          obtain ⟨r55, A55, hf55, h⟩ := rz_b_inv h
                          obtain ⟨hg55, hr55, hw55⟩ := cx1_refuse F (d := d + 0) hf55 (by decide) hw50
                          refine rz_B.call (d := d + 0) (as := [.ref 0, vI (-6)]) (rest := []) (w := some (vI r55)) rfl hg55 ?_
                          cases h
                          exact rz_B.ret rfl hr55 hw55
                        · have h := if_F h hc54
                          refine rz_B.ifT ((lt32 ha1 (by decide)).mpr (Int.not_le.mp hc54)) ?_
                          refine rz_B.go 4 (pc' := 110) (L' := [some (.ref 0), some (vI a0), some (vI a1), some (vI a2), some (vI a3), some (.ref 75)]) (S' := [vI a3, vI a2, vI a1, .ref 75]) rfl ?_
                          obtain ⟨r56, A56, hf56, h⟩ := rz_b_inv h
                          obtain ⟨hg56, hr56, hw56⟩ := cx96_putAt_b_2 F (d := d + 0) hf56 ha1 ha2 ha3 hw50
                          refine rz_B.call (d := d + 0) (as := [.ref 75, vI a1, vI a2, vI a3]) (rest := []) (w := some (vI r56)) rfl hg56 ?_
                          cases h
                          exact rz_B.ret rfl hr56 hw56
                      · have h := if_F h hc53
                        refine rz_B.ifT ((lt32 (by decide) ha3).mpr (Int.not_le.mp hc53)) ?_
                        refine rz_B.go 2 (pc' := 100) (L' := [some (.ref 0), some (vI a0), some (vI a1), some (vI a2), some (vI a3), some (.ref 75)]) (S' := [vI (-6), .ref 0]) rfl ?_
                        obtain ⟨r57, A57, hf57, h⟩ := rz_b_inv h
                        obtain ⟨hg57, hr57, hw57⟩ := cx1_refuse F (d := d + 0) hf57 (by decide) hw50
                        refine rz_B.call (d := d + 0) (as := [.ref 0, vI (-6)]) (rest := []) (w := some (vI r57)) rfl hg57 ?_
                        cases h
                        exact rz_B.ret rfl hr57 hw57
                    · have h := if_F h hc52
                      refine rz_B.ifT ((lt32 (by decide) ha2).mpr (Int.not_le.mp hc52)) ?_
                      refine rz_B.go 2 (pc' := 100) (L' := [some (.ref 0), some (vI a0), some (vI a1), some (vI a2), some (vI a3), some (.ref 75)]) (S' := [vI (-6), .ref 0]) rfl ?_
                      obtain ⟨r58, A58, hf58, h⟩ := rz_b_inv h
                      obtain ⟨hg58, hr58, hw58⟩ := cx1_refuse F (d := d + 0) hf58 (by decide) hw50
                      refine rz_B.call (d := d + 0) (as := [.ref 0, vI (-6)]) (rest := []) (w := some (vI r58)) rfl hg58 ?_
                      cases h
                      exact rz_B.ret rfl hr58 hw58
                  · have h := if_F h hc51
                    refine rz_B.ifF (mt (eq32 hr50 (by decide)).mp hc51) ?_
                    refine rz_B.go 2 (pc' := 74) (L' := [some (.ref 0), some (vI a0), some (vI a1), some (vI a2), some (vI a3), some (.ref 75)]) (S' := [vI (-4), .ref 0]) rfl ?_
                    obtain ⟨r59, A59, hf59, h⟩ := rz_b_inv h
                    obtain ⟨hg59, hr59, hw59⟩ := cx1_refuse F (d := d + 0) hf59 (by decide) hw50
                    refine rz_B.call (d := d + 0) (as := [.ref 0, vI (-4)]) (rest := []) (w := some (vI r59)) rfl hg59 ?_
                    cases h
                    exact rz_B.ret rfl hr59 hw59
                · have h := if_F h hc49
                  refine rz_B.ifT ((lt32 ha3 (by decide)).mpr (Int.not_le.mp hc49)) ?_
                  refine rz_B.go 2 (pc' := 74) (L' := [some (.ref 0), some (vI a0), some (vI a1), some (vI a2), some (vI a3), some (.ref 75)]) (S' := [vI (-4), .ref 0]) rfl ?_
                  obtain ⟨r60, A60, hf60, h⟩ := rz_b_inv h
                  obtain ⟨hg60, hr60, hw60⟩ := cx1_refuse F (d := d + 0) hf60 (by decide) hw1
                  refine rz_B.call (d := d + 0) (as := [.ref 0, vI (-4)]) (rest := []) (w := some (vI r60)) rfl hg60 ?_
                  cases h
                  exact rz_B.ret rfl hr60 hw60
              · have h := if_F h hc48
                refine rz_B.ifT ((lt32 ha2 (by decide)).mpr (Int.not_le.mp hc48)) ?_
                refine rz_B.go 2 (pc' := 74) (L' := [some (.ref 0), some (vI a0), some (vI a1), some (vI a2), some (vI a3), some (.ref 75)]) (S' := [vI (-4), .ref 0]) rfl ?_
                obtain ⟨r61, A61, hf61, h⟩ := rz_b_inv h
                obtain ⟨hg61, hr61, hw61⟩ := cx1_refuse F (d := d + 0) hf61 (by decide) hw1
                refine rz_B.call (d := d + 0) (as := [.ref 0, vI (-4)]) (rest := []) (w := some (vI r61)) rfl hg61 ?_
                cases h
                exact rz_B.ret rfl hr61 hw61
          · have h := if_F h hc45
            refine rz_B.ifT ((lt32 ha1 (by decide)).mpr (Int.not_le.mp hc45)) ?_
            refine rz_B.go 2 (pc' := 43) (L' := [some (.ref 0), some (vI a0), some (vI a1), some (vI a2), some (vI a3), some (.ref 75)]) (S' := [vI (-1), .ref 0]) rfl ?_
            obtain ⟨r62, A62, hf62, h⟩ := rz_b_inv h
            obtain ⟨hg62, hr62, hw62⟩ := cx1_refuse F (d := d + 0) hf62 (by decide) hw1
            refine rz_B.call (d := d + 0) (as := [.ref 0, vI (-1)]) (rest := []) (w := some (vI r62)) rfl hg62 ?_
            cases h
            exact rz_B.ret rfl hr62 hw62
        · have h := if_F h hj44
          by_cases hj63 : a0 = 3
          · have h := if_T h hj63
            refine rz_B.aald rfl (Or.inl rfl) rfl hi4 hj5 (by decide) (c' := 78) (by omega) ?_
            refine rz_B.go 3 (pc' := if decide (Int32.ofInt a1 < Int32.ofInt 0) = true then 41 else 32) (L' := [some (.ref 0), some (vI a0), some (vI a1), some (vI a2), some (vI a3), some (.ref 78)]) (S' := []) rfl ?_
            by_cases hc64 : 0 ≤ a1
            · have h := if_T h hc64
              refine rz_B.ifF (mt (lt32 ha1 (by decide)).mp (Int.not_lt.mpr hc64)) ?_
              refine rz_B.go 4 (pc' := if decide (Int32.ofInt a1 ≤ Int32.ofInt (A1.1 78 0)) = true then 47 else 41) (L' := [some (.ref 0), some (vI a0), some (vI a1), some (vI a2), some (vI a3), some (.ref 78)]) (S' := []) rfl ?_
              by_cases hc65 : (A1.1 78 0) < a1
              · have h := if_T h hc65
                refine rz_B.ifF (mt (le32 ha1 (hw1 78 0).1).mp (Int.not_le.mpr hc65)) ?_
                refine rz_B.go 2 (pc' := 43) (L' := [some (.ref 0), some (vI a0), some (vI a1), some (vI a2), some (vI a3), some (.ref 78)]) (S' := [vI (-1), .ref 0]) rfl ?_
                obtain ⟨r66, A66, hf66, h⟩ := rz_b_inv h
                obtain ⟨hg66, hr66, hw66⟩ := cx1_refuse F (d := d + 0) hf66 (by decide) hw1
                refine rz_B.call (d := d + 0) (as := [.ref 0, vI (-1)]) (rest := []) (w := some (vI r66)) rfl hg66 ?_
                cases h
                exact rz_B.ret rfl hr66 hw66
              · have h := if_F h hc65
                refine rz_B.ifT ((le32 ha1 (hw1 78 0).1).mpr (Int.not_lt.mp hc65)) ?_
                refine rz_B.go 3 (pc' := if decide (Int32.ofInt a2 < Int32.ofInt (-9999)) = true then 71 else 54) (L' := [some (.ref 0), some (vI a0), some (vI a1), some (vI a2), some (vI a3), some (.ref 78)]) (S' := []) rfl ?_
                by_cases hc67 : (-9999) ≤ a2
                · have h := if_T h hc67
                  refine rz_B.ifF (mt (lt32 ha2 (by decide)).mp (Int.not_lt.mpr hc67)) ?_
                  refine rz_B.go 2 (pc' := if decide (Int32.ofInt a3 < Int32.ofInt 0) = true then 71 else 59) (L' := [some (.ref 0), some (vI a0), some (vI a1), some (vI a2), some (vI a3), some (.ref 78)]) (S' := []) rfl ?_
                  by_cases hc68 : 0 ≤ a3
                  · have h := if_T h hc68
                    refine rz_B.ifF (mt (lt32 ha3 (by decide)).mp (Int.not_lt.mpr hc68)) ?_
                    refine rz_B.go 4 (pc' := 65) (L' := [some (.ref 0), some (vI a0), some (vI a1), some (vI a2), some (vI a3), some (.ref 78)]) (S' := [vI a3, vI a2, vI a1, .ref 78]) rfl ?_
                    obtain ⟨r69, A69, hf69, h⟩ := rz_b_inv h
                    obtain ⟨hg69, hr69, hw69⟩ := cx95_falls_b_3 F (d := d + 0) hf69 ha1 ha2 ha3 hw1
                    refine rz_B.call (d := d + 0) (as := [.ref 78, vI a1, vI a2, vI a3]) (rest := []) (w := some (vI r69)) rfl hg69 ?_
                    refine rz_B.go 1 (pc' := if decide (Int32.ofInt r69 = Int32.ofInt 0) = true then 78 else 71) (L' := [some (.ref 0), some (vI a0), some (vI a1), some (vI a2), some (vI a3), some (.ref 78)]) (S' := []) rfl ?_
                    by_cases hc70 : r69 = 0
                    · have h := if_T h hc70
                      refine rz_B.ifT ((eq32 hr69 (by decide)).mpr hc70) ?_
                      refine rz_B.go 3 (pc' := if decide (Int32.ofInt 99999 < Int32.ofInt a2) = true then 97 else 84) (L' := [some (.ref 0), some (vI a0), some (vI a1), some (vI a2), some (vI a3), some (.ref 78)]) (S' := []) rfl ?_
                      by_cases hc71 : a2 ≤ 99999
                      · have h := if_T h hc71
                        refine rz_B.ifF (mt (lt32 (by decide) ha2).mp (Int.not_lt.mpr hc71)) ?_
                        refine rz_B.go 3 (pc' := if decide (Int32.ofInt 99999 < Int32.ofInt a3) = true then 97 else 91) (L' := [some (.ref 0), some (vI a0), some (vI a1), some (vI a2), some (vI a3), some (.ref 78)]) (S' := []) rfl ?_
                        by_cases hc72 : a3 ≤ 99999
                        · have h := if_T h hc72
                          refine rz_B.ifF (mt (lt32 (by decide) ha3).mp (Int.not_lt.mpr hc72)) ?_
                          refine rz_B.go 3 (pc' := if decide (Int32.ofInt a1 < Int32.ofInt 8) = true then 104 else 97) (L' := [some (.ref 0), some (vI a0), some (vI a1), some (vI a2), some (vI a3), some (.ref 78)]) (S' := []) rfl ?_
                          by_cases hc73 : 8 ≤ a1
                          · have h := if_T h hc73
                            refine rz_B.ifF (mt (lt32 ha1 (by decide)).mp (Int.not_lt.mpr hc73)) ?_
                            refine rz_B.go 2 (pc' := 100) (L' := [some (.ref 0), some (vI a0), some (vI a1), some (vI a2), some (vI a3), some (.ref 78)]) (S' := [vI (-6), .ref 0]) rfl ?_
                            obtain ⟨r74, A74, hf74, h⟩ := rz_b_inv h
                            obtain ⟨hg74, hr74, hw74⟩ := cx1_refuse F (d := d + 0) hf74 (by decide) hw69
                            refine rz_B.call (d := d + 0) (as := [.ref 0, vI (-6)]) (rest := []) (w := some (vI r74)) rfl hg74 ?_
                            cases h
                            exact rz_B.ret rfl hr74 hw74
                          · have h := if_F h hc73
                            refine rz_B.ifT ((lt32 ha1 (by decide)).mpr (Int.not_le.mp hc73)) ?_
                            refine rz_B.go 4 (pc' := 110) (L' := [some (.ref 0), some (vI a0), some (vI a1), some (vI a2), some (vI a3), some (.ref 78)]) (S' := [vI a3, vI a2, vI a1, .ref 78]) rfl ?_
                            obtain ⟨r75, A75, hf75, h⟩ := rz_b_inv h
                            obtain ⟨hg75, hr75, hw75⟩ := cx96_putAt_b_3 F (d := d + 0) hf75 ha1 ha2 ha3 hw69
                            refine rz_B.call (d := d + 0) (as := [.ref 78, vI a1, vI a2, vI a3]) (rest := []) (w := some (vI r75)) rfl hg75 ?_
                            cases h
                            exact rz_B.ret rfl hr75 hw75
                        · have h := if_F h hc72
                          refine rz_B.ifT ((lt32 (by decide) ha3).mpr (Int.not_le.mp hc72)) ?_
                          refine rz_B.go 2 (pc' := 100) (L' := [some (.ref 0), some (vI a0), some (vI a1), some (vI a2), some (vI a3), some (.ref 78)]) (S' := [vI (-6), .ref 0]) rfl ?_
                          obtain ⟨r76, A76, hf76, h⟩ := rz_b_inv h
                          obtain ⟨hg76, hr76, hw76⟩ := cx1_refuse F (d := d + 0) hf76 (by decide) hw69
                          refine rz_B.call (d := d + 0) (as := [.ref 0, vI (-6)]) (rest := []) (w := some (vI r76)) rfl hg76 ?_
                          cases h
                          exact rz_B.ret rfl hr76 hw76
                      · have h := if_F h hc71
                        refine rz_B.ifT ((lt32 (by decide) ha2).mpr (Int.not_le.mp hc71)) ?_
                        refine rz_B.go 2 (pc' := 100) (L' := [some (.ref 0), some (vI a0), some (vI a1), some (vI a2), some (vI a3), some (.ref 78)]) (S' := [vI (-6), .ref 0]) rfl ?_
                        obtain ⟨r77, A77, hf77, h⟩ := rz_b_inv h
                        obtain ⟨hg77, hr77, hw77⟩ := cx1_refuse F (d := d + 0) hf77 (by decide) hw69
                        refine rz_B.call (d := d + 0) (as := [.ref 0, vI (-6)]) (rest := []) (w := some (vI r77)) rfl hg77 ?_
                        cases h
                        exact rz_B.ret rfl hr77 hw77
                    · have h := if_F h hc70
                      refine rz_B.ifF (mt (eq32 hr69 (by decide)).mp hc70) ?_
                      refine rz_B.go 2 (pc' := 74) (L' := [some (.ref 0), some (vI a0), some (vI a1), some (vI a2), some (vI a3), some (.ref 78)]) (S' := [vI (-4), .ref 0]) rfl ?_
                      obtain ⟨r78, A78, hf78, h⟩ := rz_b_inv h
                      obtain ⟨hg78, hr78, hw78⟩ := cx1_refuse F (d := d + 0) hf78 (by decide) hw69
                      refine rz_B.call (d := d + 0) (as := [.ref 0, vI (-4)]) (rest := []) (w := some (vI r78)) rfl hg78 ?_
                      cases h
                      exact rz_B.ret rfl hr78 hw78
                  · have h := if_F h hc68
                    refine rz_B.ifT ((lt32 ha3 (by decide)).mpr (Int.not_le.mp hc68)) ?_
                    refine rz_B.go 2 (pc' := 74) (L' := [some (.ref 0), some (vI a0), some (vI a1), some (vI a2), some (vI a3), some (.ref 78)]) (S' := [vI (-4), .ref 0]) rfl ?_
                    obtain ⟨r79, A79, hf79, h⟩ := rz_b_inv h
                    obtain ⟨hg79, hr79, hw79⟩ := cx1_refuse F (d := d + 0) hf79 (by decide) hw1
                    refine rz_B.call (d := d + 0) (as := [.ref 0, vI (-4)]) (rest := []) (w := some (vI r79)) rfl hg79 ?_
                    cases h
                    exact rz_B.ret rfl hr79 hw79
                · have h := if_F h hc67
                  refine rz_B.ifT ((lt32 ha2 (by decide)).mpr (Int.not_le.mp hc67)) ?_
                  refine rz_B.go 2 (pc' := 74) (L' := [some (.ref 0), some (vI a0), some (vI a1), some (vI a2), some (vI a3), some (.ref 78)]) (S' := [vI (-4), .ref 0]) rfl ?_
                  obtain ⟨r80, A80, hf80, h⟩ := rz_b_inv h
                  obtain ⟨hg80, hr80, hw80⟩ := cx1_refuse F (d := d + 0) hf80 (by decide) hw1
                  refine rz_B.call (d := d + 0) (as := [.ref 0, vI (-4)]) (rest := []) (w := some (vI r80)) rfl hg80 ?_
                  cases h
                  exact rz_B.ret rfl hr80 hw80
            · have h := if_F h hc64
              refine rz_B.ifT ((lt32 ha1 (by decide)).mpr (Int.not_le.mp hc64)) ?_
              refine rz_B.go 2 (pc' := 43) (L' := [some (.ref 0), some (vI a0), some (vI a1), some (vI a2), some (vI a3), some (.ref 78)]) (S' := [vI (-1), .ref 0]) rfl ?_
              obtain ⟨r81, A81, hf81, h⟩ := rz_b_inv h
              obtain ⟨hg81, hr81, hw81⟩ := cx1_refuse F (d := d + 0) hf81 (by decide) hw1
              refine rz_B.call (d := d + 0) (as := [.ref 0, vI (-1)]) (rest := []) (w := some (vI r81)) rfl hg81 ?_
              cases h
              exact rz_B.ret rfl hr81 hw81
          · have h := if_F h hj63
            by_cases hj82 : a0 = 4
            · have h := if_T h hj82
              refine rz_B.aald rfl (Or.inl rfl) rfl hi4 hj5 (by decide) (c' := 81) (by omega) ?_
              refine rz_B.go 3 (pc' := if decide (Int32.ofInt a1 < Int32.ofInt 0) = true then 41 else 32) (L' := [some (.ref 0), some (vI a0), some (vI a1), some (vI a2), some (vI a3), some (.ref 81)]) (S' := []) rfl ?_
              by_cases hc83 : 0 ≤ a1
              · have h := if_T h hc83
                refine rz_B.ifF (mt (lt32 ha1 (by decide)).mp (Int.not_lt.mpr hc83)) ?_
                refine rz_B.go 4 (pc' := if decide (Int32.ofInt a1 ≤ Int32.ofInt (A1.1 81 0)) = true then 47 else 41) (L' := [some (.ref 0), some (vI a0), some (vI a1), some (vI a2), some (vI a3), some (.ref 81)]) (S' := []) rfl ?_
                by_cases hc84 : (A1.1 81 0) < a1
                · have h := if_T h hc84
                  refine rz_B.ifF (mt (le32 ha1 (hw1 81 0).1).mp (Int.not_le.mpr hc84)) ?_
                  refine rz_B.go 2 (pc' := 43) (L' := [some (.ref 0), some (vI a0), some (vI a1), some (vI a2), some (vI a3), some (.ref 81)]) (S' := [vI (-1), .ref 0]) rfl ?_
                  obtain ⟨r85, A85, hf85, h⟩ := rz_b_inv h
                  obtain ⟨hg85, hr85, hw85⟩ := cx1_refuse F (d := d + 0) hf85 (by decide) hw1
                  refine rz_B.call (d := d + 0) (as := [.ref 0, vI (-1)]) (rest := []) (w := some (vI r85)) rfl hg85 ?_
                  cases h
                  exact rz_B.ret rfl hr85 hw85
                · have h := if_F h hc84
                  refine rz_B.ifT ((le32 ha1 (hw1 81 0).1).mpr (Int.not_lt.mp hc84)) ?_
                  refine rz_B.go 3 (pc' := if decide (Int32.ofInt a2 < Int32.ofInt (-9999)) = true then 71 else 54) (L' := [some (.ref 0), some (vI a0), some (vI a1), some (vI a2), some (vI a3), some (.ref 81)]) (S' := []) rfl ?_
                  by_cases hc86 : (-9999) ≤ a2
                  · have h := if_T h hc86
                    refine rz_B.ifF (mt (lt32 ha2 (by decide)).mp (Int.not_lt.mpr hc86)) ?_
                    refine rz_B.go 2 (pc' := if decide (Int32.ofInt a3 < Int32.ofInt 0) = true then 71 else 59) (L' := [some (.ref 0), some (vI a0), some (vI a1), some (vI a2), some (vI a3), some (.ref 81)]) (S' := []) rfl ?_
                    by_cases hc87 : 0 ≤ a3
                    · have h := if_T h hc87
                      refine rz_B.ifF (mt (lt32 ha3 (by decide)).mp (Int.not_lt.mpr hc87)) ?_
                      refine rz_B.go 4 (pc' := 65) (L' := [some (.ref 0), some (vI a0), some (vI a1), some (vI a2), some (vI a3), some (.ref 81)]) (S' := [vI a3, vI a2, vI a1, .ref 81]) rfl ?_
                      obtain ⟨r88, A88, hf88, h⟩ := rz_b_inv h
                      obtain ⟨hg88, hr88, hw88⟩ := cx95_falls_b_4 F (d := d + 0) hf88 ha1 ha2 ha3 hw1
                      refine rz_B.call (d := d + 0) (as := [.ref 81, vI a1, vI a2, vI a3]) (rest := []) (w := some (vI r88)) rfl hg88 ?_
                      refine rz_B.go 1 (pc' := if decide (Int32.ofInt r88 = Int32.ofInt 0) = true then 78 else 71) (L' := [some (.ref 0), some (vI a0), some (vI a1), some (vI a2), some (vI a3), some (.ref 81)]) (S' := []) rfl ?_
                      by_cases hc89 : r88 = 0
                      · have h := if_T h hc89
                        refine rz_B.ifT ((eq32 hr88 (by decide)).mpr hc89) ?_
                        refine rz_B.go 3 (pc' := if decide (Int32.ofInt 99999 < Int32.ofInt a2) = true then 97 else 84) (L' := [some (.ref 0), some (vI a0), some (vI a1), some (vI a2), some (vI a3), some (.ref 81)]) (S' := []) rfl ?_
                        by_cases hc90 : a2 ≤ 99999
                        · have h := if_T h hc90
                          refine rz_B.ifF (mt (lt32 (by decide) ha2).mp (Int.not_lt.mpr hc90)) ?_
                          refine rz_B.go 3 (pc' := if decide (Int32.ofInt 99999 < Int32.ofInt a3) = true then 97 else 91) (L' := [some (.ref 0), some (vI a0), some (vI a1), some (vI a2), some (vI a3), some (.ref 81)]) (S' := []) rfl ?_
                          by_cases hc91 : a3 ≤ 99999
                          · have h := if_T h hc91
                            refine rz_B.ifF (mt (lt32 (by decide) ha3).mp (Int.not_lt.mpr hc91)) ?_
                            refine rz_B.go 3 (pc' := if decide (Int32.ofInt a1 < Int32.ofInt 8) = true then 104 else 97) (L' := [some (.ref 0), some (vI a0), some (vI a1), some (vI a2), some (vI a3), some (.ref 81)]) (S' := []) rfl ?_
                            by_cases hc92 : 8 ≤ a1
                            · have h := if_T h hc92
                              refine rz_B.ifF (mt (lt32 ha1 (by decide)).mp (Int.not_lt.mpr hc92)) ?_
                              refine rz_B.go 2 (pc' := 100) (L' := [some (.ref 0), some (vI a0), some (vI a1), some (vI a2), some (vI a3), some (.ref 81)]) (S' := [vI (-6), .ref 0]) rfl ?_
                              obtain ⟨r93, A93, hf93, h⟩ := rz_b_inv h
                              obtain ⟨hg93, hr93, hw93⟩ := cx1_refuse F (d := d + 0) hf93 (by decide) hw88
                              refine rz_B.call (d := d + 0) (as := [.ref 0, vI (-6)]) (rest := []) (w := some (vI r93)) rfl hg93 ?_
                              cases h
                              exact rz_B.ret rfl hr93 hw93
                            · have h := if_F h hc92
                              refine rz_B.ifT ((lt32 ha1 (by decide)).mpr (Int.not_le.mp hc92)) ?_
                              refine rz_B.go 4 (pc' := 110) (L' := [some (.ref 0), some (vI a0), some (vI a1), some (vI a2), some (vI a3), some (.ref 81)]) (S' := [vI a3, vI a2, vI a1, .ref 81]) rfl ?_
                              obtain ⟨r94, A94, hf94, h⟩ := rz_b_inv h
                              obtain ⟨hg94, hr94, hw94⟩ := cx96_putAt_b_4 F (d := d + 0) hf94 ha1 ha2 ha3 hw88
                              refine rz_B.call (d := d + 0) (as := [.ref 81, vI a1, vI a2, vI a3]) (rest := []) (w := some (vI r94)) rfl hg94 ?_
                              cases h
                              exact rz_B.ret rfl hr94 hw94
                          · have h := if_F h hc91
                            refine rz_B.ifT ((lt32 (by decide) ha3).mpr (Int.not_le.mp hc91)) ?_
                            refine rz_B.go 2 (pc' := 100) (L' := [some (.ref 0), some (vI a0), some (vI a1), some (vI a2), some (vI a3), some (.ref 81)]) (S' := [vI (-6), .ref 0]) rfl ?_
                            obtain ⟨r95, A95, hf95, h⟩ := rz_b_inv h
                            obtain ⟨hg95, hr95, hw95⟩ := cx1_refuse F (d := d + 0) hf95 (by decide) hw88
                            refine rz_B.call (d := d + 0) (as := [.ref 0, vI (-6)]) (rest := []) (w := some (vI r95)) rfl hg95 ?_
                            cases h
                            exact rz_B.ret rfl hr95 hw95
                        · have h := if_F h hc90
                          refine rz_B.ifT ((lt32 (by decide) ha2).mpr (Int.not_le.mp hc90)) ?_
                          refine rz_B.go 2 (pc' := 100) (L' := [some (.ref 0), some (vI a0), some (vI a1), some (vI a2), some (vI a3), some (.ref 81)]) (S' := [vI (-6), .ref 0]) rfl ?_
                          obtain ⟨r96, A96, hf96, h⟩ := rz_b_inv h
                          obtain ⟨hg96, hr96, hw96⟩ := cx1_refuse F (d := d + 0) hf96 (by decide) hw88
                          refine rz_B.call (d := d + 0) (as := [.ref 0, vI (-6)]) (rest := []) (w := some (vI r96)) rfl hg96 ?_
                          cases h
                          exact rz_B.ret rfl hr96 hw96
                      · have h := if_F h hc89
                        refine rz_B.ifF (mt (eq32 hr88 (by decide)).mp hc89) ?_
                        refine rz_B.go 2 (pc' := 74) (L' := [some (.ref 0), some (vI a0), some (vI a1), some (vI a2), some (vI a3), some (.ref 81)]) (S' := [vI (-4), .ref 0]) rfl ?_
                        obtain ⟨r97, A97, hf97, h⟩ := rz_b_inv h
                        obtain ⟨hg97, hr97, hw97⟩ := cx1_refuse F (d := d + 0) hf97 (by decide) hw88
                        refine rz_B.call (d := d + 0) (as := [.ref 0, vI (-4)]) (rest := []) (w := some (vI r97)) rfl hg97 ?_
                        cases h
                        exact rz_B.ret rfl hr97 hw97
                    · have h := if_F h hc87
                      refine rz_B.ifT ((lt32 ha3 (by decide)).mpr (Int.not_le.mp hc87)) ?_
                      refine rz_B.go 2 (pc' := 74) (L' := [some (.ref 0), some (vI a0), some (vI a1), some (vI a2), some (vI a3), some (.ref 81)]) (S' := [vI (-4), .ref 0]) rfl ?_
                      obtain ⟨r98, A98, hf98, h⟩ := rz_b_inv h
                      obtain ⟨hg98, hr98, hw98⟩ := cx1_refuse F (d := d + 0) hf98 (by decide) hw1
                      refine rz_B.call (d := d + 0) (as := [.ref 0, vI (-4)]) (rest := []) (w := some (vI r98)) rfl hg98 ?_
                      cases h
                      exact rz_B.ret rfl hr98 hw98
                  · have h := if_F h hc86
                    refine rz_B.ifT ((lt32 ha2 (by decide)).mpr (Int.not_le.mp hc86)) ?_
                    refine rz_B.go 2 (pc' := 74) (L' := [some (.ref 0), some (vI a0), some (vI a1), some (vI a2), some (vI a3), some (.ref 81)]) (S' := [vI (-4), .ref 0]) rfl ?_
                    obtain ⟨r99, A99, hf99, h⟩ := rz_b_inv h
                    obtain ⟨hg99, hr99, hw99⟩ := cx1_refuse F (d := d + 0) hf99 (by decide) hw1
                    refine rz_B.call (d := d + 0) (as := [.ref 0, vI (-4)]) (rest := []) (w := some (vI r99)) rfl hg99 ?_
                    cases h
                    exact rz_B.ret rfl hr99 hw99
              · have h := if_F h hc83
                refine rz_B.ifT ((lt32 ha1 (by decide)).mpr (Int.not_le.mp hc83)) ?_
                refine rz_B.go 2 (pc' := 43) (L' := [some (.ref 0), some (vI a0), some (vI a1), some (vI a2), some (vI a3), some (.ref 81)]) (S' := [vI (-1), .ref 0]) rfl ?_
                obtain ⟨r100, A100, hf100, h⟩ := rz_b_inv h
                obtain ⟨hg100, hr100, hw100⟩ := cx1_refuse F (d := d + 0) hf100 (by decide) hw1
                refine rz_B.call (d := d + 0) (as := [.ref 0, vI (-1)]) (rest := []) (w := some (vI r100)) rfl hg100 ?_
                cases h
                exact rz_B.ret rfl hr100 hw100
            · have h := if_F h hj82
              refine rz_B.aald rfl (Or.inl rfl) rfl hi4 hj5 (by decide) (c' := 84) (by omega) ?_
              refine rz_B.go 3 (pc' := if decide (Int32.ofInt a1 < Int32.ofInt 0) = true then 41 else 32) (L' := [some (.ref 0), some (vI a0), some (vI a1), some (vI a2), some (vI a3), some (.ref 84)]) (S' := []) rfl ?_
              by_cases hc102 : 0 ≤ a1
              · have h := if_T h hc102
                refine rz_B.ifF (mt (lt32 ha1 (by decide)).mp (Int.not_lt.mpr hc102)) ?_
                refine rz_B.go 4 (pc' := if decide (Int32.ofInt a1 ≤ Int32.ofInt (A1.1 84 0)) = true then 47 else 41) (L' := [some (.ref 0), some (vI a0), some (vI a1), some (vI a2), some (vI a3), some (.ref 84)]) (S' := []) rfl ?_
                by_cases hc103 : (A1.1 84 0) < a1
                · have h := if_T h hc103
                  refine rz_B.ifF (mt (le32 ha1 (hw1 84 0).1).mp (Int.not_le.mpr hc103)) ?_
                  refine rz_B.go 2 (pc' := 43) (L' := [some (.ref 0), some (vI a0), some (vI a1), some (vI a2), some (vI a3), some (.ref 84)]) (S' := [vI (-1), .ref 0]) rfl ?_
                  obtain ⟨r104, A104, hf104, h⟩ := rz_b_inv h
                  obtain ⟨hg104, hr104, hw104⟩ := cx1_refuse F (d := d + 0) hf104 (by decide) hw1
                  refine rz_B.call (d := d + 0) (as := [.ref 0, vI (-1)]) (rest := []) (w := some (vI r104)) rfl hg104 ?_
                  cases h
                  exact rz_B.ret rfl hr104 hw104
                · have h := if_F h hc103
                  refine rz_B.ifT ((le32 ha1 (hw1 84 0).1).mpr (Int.not_lt.mp hc103)) ?_
                  refine rz_B.go 3 (pc' := if decide (Int32.ofInt a2 < Int32.ofInt (-9999)) = true then 71 else 54) (L' := [some (.ref 0), some (vI a0), some (vI a1), some (vI a2), some (vI a3), some (.ref 84)]) (S' := []) rfl ?_
                  by_cases hc105 : (-9999) ≤ a2
                  · have h := if_T h hc105
                    refine rz_B.ifF (mt (lt32 ha2 (by decide)).mp (Int.not_lt.mpr hc105)) ?_
                    refine rz_B.go 2 (pc' := if decide (Int32.ofInt a3 < Int32.ofInt 0) = true then 71 else 59) (L' := [some (.ref 0), some (vI a0), some (vI a1), some (vI a2), some (vI a3), some (.ref 84)]) (S' := []) rfl ?_
                    by_cases hc106 : 0 ≤ a3
                    · have h := if_T h hc106
                      refine rz_B.ifF (mt (lt32 ha3 (by decide)).mp (Int.not_lt.mpr hc106)) ?_
                      refine rz_B.go 4 (pc' := 65) (L' := [some (.ref 0), some (vI a0), some (vI a1), some (vI a2), some (vI a3), some (.ref 84)]) (S' := [vI a3, vI a2, vI a1, .ref 84]) rfl ?_
                      obtain ⟨r107, A107, hf107, h⟩ := rz_b_inv h
                      obtain ⟨hg107, hr107, hw107⟩ := cx95_falls_b_5 F (d := d + 0) hf107 ha1 ha2 ha3 hw1
                      refine rz_B.call (d := d + 0) (as := [.ref 84, vI a1, vI a2, vI a3]) (rest := []) (w := some (vI r107)) rfl hg107 ?_
                      refine rz_B.go 1 (pc' := if decide (Int32.ofInt r107 = Int32.ofInt 0) = true then 78 else 71) (L' := [some (.ref 0), some (vI a0), some (vI a1), some (vI a2), some (vI a3), some (.ref 84)]) (S' := []) rfl ?_
                      by_cases hc108 : r107 = 0
                      · have h := if_T h hc108
                        refine rz_B.ifT ((eq32 hr107 (by decide)).mpr hc108) ?_
                        refine rz_B.go 3 (pc' := if decide (Int32.ofInt 99999 < Int32.ofInt a2) = true then 97 else 84) (L' := [some (.ref 0), some (vI a0), some (vI a1), some (vI a2), some (vI a3), some (.ref 84)]) (S' := []) rfl ?_
                        by_cases hc109 : a2 ≤ 99999
                        · have h := if_T h hc109
                          refine rz_B.ifF (mt (lt32 (by decide) ha2).mp (Int.not_lt.mpr hc109)) ?_
                          refine rz_B.go 3 (pc' := if decide (Int32.ofInt 99999 < Int32.ofInt a3) = true then 97 else 91) (L' := [some (.ref 0), some (vI a0), some (vI a1), some (vI a2), some (vI a3), some (.ref 84)]) (S' := []) rfl ?_
                          by_cases hc110 : a3 ≤ 99999
                          · have h := if_T h hc110
                            refine rz_B.ifF (mt (lt32 (by decide) ha3).mp (Int.not_lt.mpr hc110)) ?_
                            refine rz_B.go 3 (pc' := if decide (Int32.ofInt a1 < Int32.ofInt 8) = true then 104 else 97) (L' := [some (.ref 0), some (vI a0), some (vI a1), some (vI a2), some (vI a3), some (.ref 84)]) (S' := []) rfl ?_
                            by_cases hc111 : 8 ≤ a1
                            · have h := if_T h hc111
                              refine rz_B.ifF (mt (lt32 ha1 (by decide)).mp (Int.not_lt.mpr hc111)) ?_
                              refine rz_B.go 2 (pc' := 100) (L' := [some (.ref 0), some (vI a0), some (vI a1), some (vI a2), some (vI a3), some (.ref 84)]) (S' := [vI (-6), .ref 0]) rfl ?_
                              obtain ⟨r112, A112, hf112, h⟩ := rz_b_inv h
                              obtain ⟨hg112, hr112, hw112⟩ := cx1_refuse F (d := d + 0) hf112 (by decide) hw107
                              refine rz_B.call (d := d + 0) (as := [.ref 0, vI (-6)]) (rest := []) (w := some (vI r112)) rfl hg112 ?_
                              cases h
                              exact rz_B.ret rfl hr112 hw112
                            · have h := if_F h hc111
                              refine rz_B.ifT ((lt32 ha1 (by decide)).mpr (Int.not_le.mp hc111)) ?_
                              refine rz_B.go 4 (pc' := 110) (L' := [some (.ref 0), some (vI a0), some (vI a1), some (vI a2), some (vI a3), some (.ref 84)]) (S' := [vI a3, vI a2, vI a1, .ref 84]) rfl ?_
                              obtain ⟨r113, A113, hf113, h⟩ := rz_b_inv h
                              obtain ⟨hg113, hr113, hw113⟩ := cx96_putAt_b_5 F (d := d + 0) hf113 ha1 ha2 ha3 hw107
                              refine rz_B.call (d := d + 0) (as := [.ref 84, vI a1, vI a2, vI a3]) (rest := []) (w := some (vI r113)) rfl hg113 ?_
                              cases h
                              exact rz_B.ret rfl hr113 hw113
                          · have h := if_F h hc110
                            refine rz_B.ifT ((lt32 (by decide) ha3).mpr (Int.not_le.mp hc110)) ?_
                            refine rz_B.go 2 (pc' := 100) (L' := [some (.ref 0), some (vI a0), some (vI a1), some (vI a2), some (vI a3), some (.ref 84)]) (S' := [vI (-6), .ref 0]) rfl ?_
                            obtain ⟨r114, A114, hf114, h⟩ := rz_b_inv h
                            obtain ⟨hg114, hr114, hw114⟩ := cx1_refuse F (d := d + 0) hf114 (by decide) hw107
                            refine rz_B.call (d := d + 0) (as := [.ref 0, vI (-6)]) (rest := []) (w := some (vI r114)) rfl hg114 ?_
                            cases h
                            exact rz_B.ret rfl hr114 hw114
                        · have h := if_F h hc109
                          refine rz_B.ifT ((lt32 (by decide) ha2).mpr (Int.not_le.mp hc109)) ?_
                          refine rz_B.go 2 (pc' := 100) (L' := [some (.ref 0), some (vI a0), some (vI a1), some (vI a2), some (vI a3), some (.ref 84)]) (S' := [vI (-6), .ref 0]) rfl ?_
                          obtain ⟨r115, A115, hf115, h⟩ := rz_b_inv h
                          obtain ⟨hg115, hr115, hw115⟩ := cx1_refuse F (d := d + 0) hf115 (by decide) hw107
                          refine rz_B.call (d := d + 0) (as := [.ref 0, vI (-6)]) (rest := []) (w := some (vI r115)) rfl hg115 ?_
                          cases h
                          exact rz_B.ret rfl hr115 hw115
                      · have h := if_F h hc108
                        refine rz_B.ifF (mt (eq32 hr107 (by decide)).mp hc108) ?_
                        refine rz_B.go 2 (pc' := 74) (L' := [some (.ref 0), some (vI a0), some (vI a1), some (vI a2), some (vI a3), some (.ref 84)]) (S' := [vI (-4), .ref 0]) rfl ?_
                        obtain ⟨r116, A116, hf116, h⟩ := rz_b_inv h
                        obtain ⟨hg116, hr116, hw116⟩ := cx1_refuse F (d := d + 0) hf116 (by decide) hw107
                        refine rz_B.call (d := d + 0) (as := [.ref 0, vI (-4)]) (rest := []) (w := some (vI r116)) rfl hg116 ?_
                        cases h
                        exact rz_B.ret rfl hr116 hw116
                    · have h := if_F h hc106
                      refine rz_B.ifT ((lt32 ha3 (by decide)).mpr (Int.not_le.mp hc106)) ?_
                      refine rz_B.go 2 (pc' := 74) (L' := [some (.ref 0), some (vI a0), some (vI a1), some (vI a2), some (vI a3), some (.ref 84)]) (S' := [vI (-4), .ref 0]) rfl ?_
                      obtain ⟨r117, A117, hf117, h⟩ := rz_b_inv h
                      obtain ⟨hg117, hr117, hw117⟩ := cx1_refuse F (d := d + 0) hf117 (by decide) hw1
                      refine rz_B.call (d := d + 0) (as := [.ref 0, vI (-4)]) (rest := []) (w := some (vI r117)) rfl hg117 ?_
                      cases h
                      exact rz_B.ret rfl hr117 hw117
                  · have h := if_F h hc105
                    refine rz_B.ifT ((lt32 ha2 (by decide)).mpr (Int.not_le.mp hc105)) ?_
                    refine rz_B.go 2 (pc' := 74) (L' := [some (.ref 0), some (vI a0), some (vI a1), some (vI a2), some (vI a3), some (.ref 84)]) (S' := [vI (-4), .ref 0]) rfl ?_
                    obtain ⟨r118, A118, hf118, h⟩ := rz_b_inv h
                    obtain ⟨hg118, hr118, hw118⟩ := cx1_refuse F (d := d + 0) hf118 (by decide) hw1
                    refine rz_B.call (d := d + 0) (as := [.ref 0, vI (-4)]) (rest := []) (w := some (vI r118)) rfl hg118 ?_
                    cases h
                    exact rz_B.ret rfl hr118 hw118
              · have h := if_F h hc102
                refine rz_B.ifT ((lt32 ha1 (by decide)).mpr (Int.not_le.mp hc102)) ?_
                refine rz_B.go 2 (pc' := 43) (L' := [some (.ref 0), some (vI a0), some (vI a1), some (vI a2), some (vI a3), some (.ref 84)]) (S' := [vI (-1), .ref 0]) rfl ?_
                obtain ⟨r119, A119, hf119, h⟩ := rz_b_inv h
                obtain ⟨hg119, hr119, hw119⟩ := cx1_refuse F (d := d + 0) hf119 (by decide) hw1
                refine rz_B.call (d := d + 0) (as := [.ref 0, vI (-1)]) (rest := []) (w := some (vI r119)) rfl hg119 ?_
                cases h
                exact rz_B.ret rfl hr119 hw119
/-- RiverGauge$Points.flowBelow(II)I -/
def x81_flowBelow_b (F : Nat) (q : Nat) (a0 : Int) (a1 : Int) (A : rz_A) : Option (Int × rz_A) :=
  if (A.1 (70 + 3 * q) 0) ≤ a1 then
    some ((A.1 (71 + 3 * q) 0), A)
  else
    if a0 ≤ a1 then
      some (0, A)
    else
      rz_g32 (a0 - a1) <|
      rz_g32 ((A.1 (70 + 3 * q) 0) - a1) <|
      rz_b (x77_share F (A.1 (71 + 3 * q) 0) (a0 - a1) ((A.1 (70 + 3 * q) 0) - a1) A) fun r5 A5 =>
      rz_g32 r5 <|
      some (r5, A5)
theorem cx81_flowBelow_b_0 (F : Nat) {d : Nat} {a0 : Int} {a1 : Int} {A : rz_A} {r : Int} {A' : rz_A} (h : x81_flowBelow_b F 0 a0 a1 A = some (r, A')) (ha0 : r32 a0) (ha1 : r32 a1) (hw : wf A) : rg_Rn (d + 1) 81 [.ref 69, vI a0, vI a1] (toM A) (some (vI r)) (toM A') ∧ (r32 r) ∧ wf A' := by
  show rz_B (d + 1) 81 0 [some (.ref 69), some (vI a0), some (vI a1)] [] A (some (vI r)) A' (r32 r)
  unfold x81_flowBelow_b at h
  refine rz_B.go 3 (pc' := 5) (L' := [some (.ref 69), some (vI a0), some (vI a1)]) (S' := [vI 0, .ref 70]) rfl ?_
  refine rz_B.iald rfl rfl (by decide) (by decide) (by decide) ?_
  refine rz_B.go 2 (pc' := if decide (Int32.ofInt a1 < Int32.ofInt (A.1 70 0)) = true then 17 else 10) (L' := [some (.ref 69), some (vI a0), some (vI a1)]) (S' := []) rfl ?_
  by_cases hc1 : (A.1 70 0) ≤ a1
  · have h := if_T h hc1
    refine rz_B.ifF (mt (lt32 ha1 (hw 70 0).1).mp (Int.not_lt.mpr hc1)) ?_
    refine rz_B.go 3 (pc' := 15) (L' := [some (.ref 69), some (vI a0), some (vI a1)]) (S' := [vI 0, .ref 71]) rfl ?_
    refine rz_B.iald rfl rfl (by decide) (by decide) (by decide) ?_
    cases h
    exact rz_B.ret rfl (hw 71 0).1 hw
  · have h := if_F h hc1
    refine rz_B.ifT ((lt32 ha1 (hw 70 0).1).mpr (Int.not_le.mp hc1)) ?_
    refine rz_B.go 3 (pc' := if decide (Int32.ofInt a1 < Int32.ofInt a0) = true then 24 else 22) (L' := [some (.ref 69), some (vI a0), some (vI a1)]) (S' := []) rfl ?_
    by_cases hc2 : a0 ≤ a1
    · have h := if_T h hc2
      refine rz_B.ifF (mt (lt32 ha1 ha0).mp (Int.not_lt.mpr hc2)) ?_
      refine rz_B.go 1 (pc' := 23) (L' := [some (.ref 69), some (vI a0), some (vI a1)]) (S' := [vI 0]) rfl ?_
      cases h
      exact rz_B.ret rfl (by decide) hw
    · have h := if_F h hc2
      refine rz_B.ifT ((lt32 ha1 ha0).mpr (Int.not_le.mp hc2)) ?_
      refine rz_B.go 3 (pc' := 29) (L' := [some (.ref 69), some (vI a0), some (vI a1)]) (S' := [vI 0, .ref 71]) rfl ?_
      refine rz_B.iald rfl rfl (by decide) (by decide) (by decide) ?_
      refine rz_B.i2l rfl (hw 71 0).1 ?_
      refine rz_B.go 2 (pc' := 33) (L' := [some (.ref 69), some (vI a0), some (vI a1)]) (S' := [vI a1, vI a0, vL (A.1 71 0)]) rfl ?_
      obtain ⟨hk3, h⟩ := rz_g32_inv h
      refine rz_B.isub rfl ?_
      refine rz_B.i2l rfl hk3 ?_
      refine rz_B.go 3 (pc' := 40) (L' := [some (.ref 69), some (vI a0), some (vI a1)]) (S' := [vI 0, .ref 70, vL (a0 - a1), vL (A.1 71 0)]) rfl ?_
      refine rz_B.iald rfl rfl (by decide) (by decide) (by decide) ?_
      refine rz_B.go 1 (pc' := 42) (L' := [some (.ref 69), some (vI a0), some (vI a1)]) (S' := [vI a1, vI (A.1 70 0), vL (a0 - a1), vL (A.1 71 0)]) rfl ?_
      obtain ⟨hk4, h⟩ := rz_g32_inv h
      refine rz_B.isub rfl ?_
      refine rz_B.i2l rfl hk4 ?_
      obtain ⟨r5, A5, hf5, h⟩ := rz_b_inv h
      obtain ⟨hg5, hr5, hw5⟩ := cx77_share F (d := d + 0) hf5 (r64_of (hw 71 0).1) (r64_of hk3) (r64_of hk4) hw
      refine rz_B.call (d := d + 0) (as := [vL (A.1 71 0), vL (a0 - a1), vL ((A.1 70 0) - a1)]) (rest := []) (w := some (vL r5)) rfl hg5 ?_
      obtain ⟨hk6, h⟩ := rz_g32_inv h
      refine rz_B.l2i rfl ?_
      cases h
      exact rz_B.ret rfl hk6 hw5
theorem cx81_flowBelow_b_1 (F : Nat) {d : Nat} {a0 : Int} {a1 : Int} {A : rz_A} {r : Int} {A' : rz_A} (h : x81_flowBelow_b F 1 a0 a1 A = some (r, A')) (ha0 : r32 a0) (ha1 : r32 a1) (hw : wf A) : rg_Rn (d + 1) 81 [.ref 72, vI a0, vI a1] (toM A) (some (vI r)) (toM A') ∧ (r32 r) ∧ wf A' := by
  show rz_B (d + 1) 81 0 [some (.ref 72), some (vI a0), some (vI a1)] [] A (some (vI r)) A' (r32 r)
  unfold x81_flowBelow_b at h
  refine rz_B.go 3 (pc' := 5) (L' := [some (.ref 72), some (vI a0), some (vI a1)]) (S' := [vI 0, .ref 73]) rfl ?_
  refine rz_B.iald rfl rfl (by decide) (by decide) (by decide) ?_
  refine rz_B.go 2 (pc' := if decide (Int32.ofInt a1 < Int32.ofInt (A.1 73 0)) = true then 17 else 10) (L' := [some (.ref 72), some (vI a0), some (vI a1)]) (S' := []) rfl ?_
  by_cases hc1 : (A.1 73 0) ≤ a1
  · have h := if_T h hc1
    refine rz_B.ifF (mt (lt32 ha1 (hw 73 0).1).mp (Int.not_lt.mpr hc1)) ?_
    refine rz_B.go 3 (pc' := 15) (L' := [some (.ref 72), some (vI a0), some (vI a1)]) (S' := [vI 0, .ref 74]) rfl ?_
    refine rz_B.iald rfl rfl (by decide) (by decide) (by decide) ?_
    cases h
    exact rz_B.ret rfl (hw 74 0).1 hw
  · have h := if_F h hc1
    refine rz_B.ifT ((lt32 ha1 (hw 73 0).1).mpr (Int.not_le.mp hc1)) ?_
    refine rz_B.go 3 (pc' := if decide (Int32.ofInt a1 < Int32.ofInt a0) = true then 24 else 22) (L' := [some (.ref 72), some (vI a0), some (vI a1)]) (S' := []) rfl ?_
    by_cases hc2 : a0 ≤ a1
    · have h := if_T h hc2
      refine rz_B.ifF (mt (lt32 ha1 ha0).mp (Int.not_lt.mpr hc2)) ?_
      refine rz_B.go 1 (pc' := 23) (L' := [some (.ref 72), some (vI a0), some (vI a1)]) (S' := [vI 0]) rfl ?_
      cases h
      exact rz_B.ret rfl (by decide) hw
    · have h := if_F h hc2
      refine rz_B.ifT ((lt32 ha1 ha0).mpr (Int.not_le.mp hc2)) ?_
      refine rz_B.go 3 (pc' := 29) (L' := [some (.ref 72), some (vI a0), some (vI a1)]) (S' := [vI 0, .ref 74]) rfl ?_
      refine rz_B.iald rfl rfl (by decide) (by decide) (by decide) ?_
      refine rz_B.i2l rfl (hw 74 0).1 ?_
      refine rz_B.go 2 (pc' := 33) (L' := [some (.ref 72), some (vI a0), some (vI a1)]) (S' := [vI a1, vI a0, vL (A.1 74 0)]) rfl ?_
      obtain ⟨hk3, h⟩ := rz_g32_inv h
      refine rz_B.isub rfl ?_
      refine rz_B.i2l rfl hk3 ?_
      refine rz_B.go 3 (pc' := 40) (L' := [some (.ref 72), some (vI a0), some (vI a1)]) (S' := [vI 0, .ref 73, vL (a0 - a1), vL (A.1 74 0)]) rfl ?_
      refine rz_B.iald rfl rfl (by decide) (by decide) (by decide) ?_
      refine rz_B.go 1 (pc' := 42) (L' := [some (.ref 72), some (vI a0), some (vI a1)]) (S' := [vI a1, vI (A.1 73 0), vL (a0 - a1), vL (A.1 74 0)]) rfl ?_
      obtain ⟨hk4, h⟩ := rz_g32_inv h
      refine rz_B.isub rfl ?_
      refine rz_B.i2l rfl hk4 ?_
      obtain ⟨r5, A5, hf5, h⟩ := rz_b_inv h
      obtain ⟨hg5, hr5, hw5⟩ := cx77_share F (d := d + 0) hf5 (r64_of (hw 74 0).1) (r64_of hk3) (r64_of hk4) hw
      refine rz_B.call (d := d + 0) (as := [vL (A.1 74 0), vL (a0 - a1), vL ((A.1 73 0) - a1)]) (rest := []) (w := some (vL r5)) rfl hg5 ?_
      obtain ⟨hk6, h⟩ := rz_g32_inv h
      refine rz_B.l2i rfl ?_
      cases h
      exact rz_B.ret rfl hk6 hw5
theorem cx81_flowBelow_b_2 (F : Nat) {d : Nat} {a0 : Int} {a1 : Int} {A : rz_A} {r : Int} {A' : rz_A} (h : x81_flowBelow_b F 2 a0 a1 A = some (r, A')) (ha0 : r32 a0) (ha1 : r32 a1) (hw : wf A) : rg_Rn (d + 1) 81 [.ref 75, vI a0, vI a1] (toM A) (some (vI r)) (toM A') ∧ (r32 r) ∧ wf A' := by
  show rz_B (d + 1) 81 0 [some (.ref 75), some (vI a0), some (vI a1)] [] A (some (vI r)) A' (r32 r)
  unfold x81_flowBelow_b at h
  refine rz_B.go 3 (pc' := 5) (L' := [some (.ref 75), some (vI a0), some (vI a1)]) (S' := [vI 0, .ref 76]) rfl ?_
  refine rz_B.iald rfl rfl (by decide) (by decide) (by decide) ?_
  refine rz_B.go 2 (pc' := if decide (Int32.ofInt a1 < Int32.ofInt (A.1 76 0)) = true then 17 else 10) (L' := [some (.ref 75), some (vI a0), some (vI a1)]) (S' := []) rfl ?_
  by_cases hc1 : (A.1 76 0) ≤ a1
  · have h := if_T h hc1
    refine rz_B.ifF (mt (lt32 ha1 (hw 76 0).1).mp (Int.not_lt.mpr hc1)) ?_
    refine rz_B.go 3 (pc' := 15) (L' := [some (.ref 75), some (vI a0), some (vI a1)]) (S' := [vI 0, .ref 77]) rfl ?_
    refine rz_B.iald rfl rfl (by decide) (by decide) (by decide) ?_
    cases h
    exact rz_B.ret rfl (hw 77 0).1 hw
  · have h := if_F h hc1
    refine rz_B.ifT ((lt32 ha1 (hw 76 0).1).mpr (Int.not_le.mp hc1)) ?_
    refine rz_B.go 3 (pc' := if decide (Int32.ofInt a1 < Int32.ofInt a0) = true then 24 else 22) (L' := [some (.ref 75), some (vI a0), some (vI a1)]) (S' := []) rfl ?_
    by_cases hc2 : a0 ≤ a1
    · have h := if_T h hc2
      refine rz_B.ifF (mt (lt32 ha1 ha0).mp (Int.not_lt.mpr hc2)) ?_
      refine rz_B.go 1 (pc' := 23) (L' := [some (.ref 75), some (vI a0), some (vI a1)]) (S' := [vI 0]) rfl ?_
      cases h
      exact rz_B.ret rfl (by decide) hw
    · have h := if_F h hc2
      refine rz_B.ifT ((lt32 ha1 ha0).mpr (Int.not_le.mp hc2)) ?_
      refine rz_B.go 3 (pc' := 29) (L' := [some (.ref 75), some (vI a0), some (vI a1)]) (S' := [vI 0, .ref 77]) rfl ?_
      refine rz_B.iald rfl rfl (by decide) (by decide) (by decide) ?_
      refine rz_B.i2l rfl (hw 77 0).1 ?_
      refine rz_B.go 2 (pc' := 33) (L' := [some (.ref 75), some (vI a0), some (vI a1)]) (S' := [vI a1, vI a0, vL (A.1 77 0)]) rfl ?_
      obtain ⟨hk3, h⟩ := rz_g32_inv h
      refine rz_B.isub rfl ?_
      refine rz_B.i2l rfl hk3 ?_
      refine rz_B.go 3 (pc' := 40) (L' := [some (.ref 75), some (vI a0), some (vI a1)]) (S' := [vI 0, .ref 76, vL (a0 - a1), vL (A.1 77 0)]) rfl ?_
      refine rz_B.iald rfl rfl (by decide) (by decide) (by decide) ?_
      refine rz_B.go 1 (pc' := 42) (L' := [some (.ref 75), some (vI a0), some (vI a1)]) (S' := [vI a1, vI (A.1 76 0), vL (a0 - a1), vL (A.1 77 0)]) rfl ?_
      obtain ⟨hk4, h⟩ := rz_g32_inv h
      refine rz_B.isub rfl ?_
      refine rz_B.i2l rfl hk4 ?_
      obtain ⟨r5, A5, hf5, h⟩ := rz_b_inv h
      obtain ⟨hg5, hr5, hw5⟩ := cx77_share F (d := d + 0) hf5 (r64_of (hw 77 0).1) (r64_of hk3) (r64_of hk4) hw
      refine rz_B.call (d := d + 0) (as := [vL (A.1 77 0), vL (a0 - a1), vL ((A.1 76 0) - a1)]) (rest := []) (w := some (vL r5)) rfl hg5 ?_
      obtain ⟨hk6, h⟩ := rz_g32_inv h
      refine rz_B.l2i rfl ?_
      cases h
      exact rz_B.ret rfl hk6 hw5
theorem cx81_flowBelow_b_3 (F : Nat) {d : Nat} {a0 : Int} {a1 : Int} {A : rz_A} {r : Int} {A' : rz_A} (h : x81_flowBelow_b F 3 a0 a1 A = some (r, A')) (ha0 : r32 a0) (ha1 : r32 a1) (hw : wf A) : rg_Rn (d + 1) 81 [.ref 78, vI a0, vI a1] (toM A) (some (vI r)) (toM A') ∧ (r32 r) ∧ wf A' := by
  show rz_B (d + 1) 81 0 [some (.ref 78), some (vI a0), some (vI a1)] [] A (some (vI r)) A' (r32 r)
  unfold x81_flowBelow_b at h
  refine rz_B.go 3 (pc' := 5) (L' := [some (.ref 78), some (vI a0), some (vI a1)]) (S' := [vI 0, .ref 79]) rfl ?_
  refine rz_B.iald rfl rfl (by decide) (by decide) (by decide) ?_
  refine rz_B.go 2 (pc' := if decide (Int32.ofInt a1 < Int32.ofInt (A.1 79 0)) = true then 17 else 10) (L' := [some (.ref 78), some (vI a0), some (vI a1)]) (S' := []) rfl ?_
  by_cases hc1 : (A.1 79 0) ≤ a1
  · have h := if_T h hc1
    refine rz_B.ifF (mt (lt32 ha1 (hw 79 0).1).mp (Int.not_lt.mpr hc1)) ?_
    refine rz_B.go 3 (pc' := 15) (L' := [some (.ref 78), some (vI a0), some (vI a1)]) (S' := [vI 0, .ref 80]) rfl ?_
    refine rz_B.iald rfl rfl (by decide) (by decide) (by decide) ?_
    cases h
    exact rz_B.ret rfl (hw 80 0).1 hw
  · have h := if_F h hc1
    refine rz_B.ifT ((lt32 ha1 (hw 79 0).1).mpr (Int.not_le.mp hc1)) ?_
    refine rz_B.go 3 (pc' := if decide (Int32.ofInt a1 < Int32.ofInt a0) = true then 24 else 22) (L' := [some (.ref 78), some (vI a0), some (vI a1)]) (S' := []) rfl ?_
    by_cases hc2 : a0 ≤ a1
    · have h := if_T h hc2
      refine rz_B.ifF (mt (lt32 ha1 ha0).mp (Int.not_lt.mpr hc2)) ?_
      refine rz_B.go 1 (pc' := 23) (L' := [some (.ref 78), some (vI a0), some (vI a1)]) (S' := [vI 0]) rfl ?_
      cases h
      exact rz_B.ret rfl (by decide) hw
    · have h := if_F h hc2
      refine rz_B.ifT ((lt32 ha1 ha0).mpr (Int.not_le.mp hc2)) ?_
      refine rz_B.go 3 (pc' := 29) (L' := [some (.ref 78), some (vI a0), some (vI a1)]) (S' := [vI 0, .ref 80]) rfl ?_
      refine rz_B.iald rfl rfl (by decide) (by decide) (by decide) ?_
      refine rz_B.i2l rfl (hw 80 0).1 ?_
      refine rz_B.go 2 (pc' := 33) (L' := [some (.ref 78), some (vI a0), some (vI a1)]) (S' := [vI a1, vI a0, vL (A.1 80 0)]) rfl ?_
      obtain ⟨hk3, h⟩ := rz_g32_inv h
      refine rz_B.isub rfl ?_
      refine rz_B.i2l rfl hk3 ?_
      refine rz_B.go 3 (pc' := 40) (L' := [some (.ref 78), some (vI a0), some (vI a1)]) (S' := [vI 0, .ref 79, vL (a0 - a1), vL (A.1 80 0)]) rfl ?_
      refine rz_B.iald rfl rfl (by decide) (by decide) (by decide) ?_
      refine rz_B.go 1 (pc' := 42) (L' := [some (.ref 78), some (vI a0), some (vI a1)]) (S' := [vI a1, vI (A.1 79 0), vL (a0 - a1), vL (A.1 80 0)]) rfl ?_
      obtain ⟨hk4, h⟩ := rz_g32_inv h
      refine rz_B.isub rfl ?_
      refine rz_B.i2l rfl hk4 ?_
      obtain ⟨r5, A5, hf5, h⟩ := rz_b_inv h
      obtain ⟨hg5, hr5, hw5⟩ := cx77_share F (d := d + 0) hf5 (r64_of (hw 80 0).1) (r64_of hk3) (r64_of hk4) hw
      refine rz_B.call (d := d + 0) (as := [vL (A.1 80 0), vL (a0 - a1), vL ((A.1 79 0) - a1)]) (rest := []) (w := some (vL r5)) rfl hg5 ?_
      obtain ⟨hk6, h⟩ := rz_g32_inv h
      refine rz_B.l2i rfl ?_
      cases h
      exact rz_B.ret rfl hk6 hw5
theorem cx81_flowBelow_b_4 (F : Nat) {d : Nat} {a0 : Int} {a1 : Int} {A : rz_A} {r : Int} {A' : rz_A} (h : x81_flowBelow_b F 4 a0 a1 A = some (r, A')) (ha0 : r32 a0) (ha1 : r32 a1) (hw : wf A) : rg_Rn (d + 1) 81 [.ref 81, vI a0, vI a1] (toM A) (some (vI r)) (toM A') ∧ (r32 r) ∧ wf A' := by
  show rz_B (d + 1) 81 0 [some (.ref 81), some (vI a0), some (vI a1)] [] A (some (vI r)) A' (r32 r)
  unfold x81_flowBelow_b at h
  refine rz_B.go 3 (pc' := 5) (L' := [some (.ref 81), some (vI a0), some (vI a1)]) (S' := [vI 0, .ref 82]) rfl ?_
  refine rz_B.iald rfl rfl (by decide) (by decide) (by decide) ?_
  refine rz_B.go 2 (pc' := if decide (Int32.ofInt a1 < Int32.ofInt (A.1 82 0)) = true then 17 else 10) (L' := [some (.ref 81), some (vI a0), some (vI a1)]) (S' := []) rfl ?_
  by_cases hc1 : (A.1 82 0) ≤ a1
  · have h := if_T h hc1
    refine rz_B.ifF (mt (lt32 ha1 (hw 82 0).1).mp (Int.not_lt.mpr hc1)) ?_
    refine rz_B.go 3 (pc' := 15) (L' := [some (.ref 81), some (vI a0), some (vI a1)]) (S' := [vI 0, .ref 83]) rfl ?_
    refine rz_B.iald rfl rfl (by decide) (by decide) (by decide) ?_
    cases h
    exact rz_B.ret rfl (hw 83 0).1 hw
  · have h := if_F h hc1
    refine rz_B.ifT ((lt32 ha1 (hw 82 0).1).mpr (Int.not_le.mp hc1)) ?_
    refine rz_B.go 3 (pc' := if decide (Int32.ofInt a1 < Int32.ofInt a0) = true then 24 else 22) (L' := [some (.ref 81), some (vI a0), some (vI a1)]) (S' := []) rfl ?_
    by_cases hc2 : a0 ≤ a1
    · have h := if_T h hc2
      refine rz_B.ifF (mt (lt32 ha1 ha0).mp (Int.not_lt.mpr hc2)) ?_
      refine rz_B.go 1 (pc' := 23) (L' := [some (.ref 81), some (vI a0), some (vI a1)]) (S' := [vI 0]) rfl ?_
      cases h
      exact rz_B.ret rfl (by decide) hw
    · have h := if_F h hc2
      refine rz_B.ifT ((lt32 ha1 ha0).mpr (Int.not_le.mp hc2)) ?_
      refine rz_B.go 3 (pc' := 29) (L' := [some (.ref 81), some (vI a0), some (vI a1)]) (S' := [vI 0, .ref 83]) rfl ?_
      refine rz_B.iald rfl rfl (by decide) (by decide) (by decide) ?_
      refine rz_B.i2l rfl (hw 83 0).1 ?_
      refine rz_B.go 2 (pc' := 33) (L' := [some (.ref 81), some (vI a0), some (vI a1)]) (S' := [vI a1, vI a0, vL (A.1 83 0)]) rfl ?_
      obtain ⟨hk3, h⟩ := rz_g32_inv h
      refine rz_B.isub rfl ?_
      refine rz_B.i2l rfl hk3 ?_
      refine rz_B.go 3 (pc' := 40) (L' := [some (.ref 81), some (vI a0), some (vI a1)]) (S' := [vI 0, .ref 82, vL (a0 - a1), vL (A.1 83 0)]) rfl ?_
      refine rz_B.iald rfl rfl (by decide) (by decide) (by decide) ?_
      refine rz_B.go 1 (pc' := 42) (L' := [some (.ref 81), some (vI a0), some (vI a1)]) (S' := [vI a1, vI (A.1 82 0), vL (a0 - a1), vL (A.1 83 0)]) rfl ?_
      obtain ⟨hk4, h⟩ := rz_g32_inv h
      refine rz_B.isub rfl ?_
      refine rz_B.i2l rfl hk4 ?_
      obtain ⟨r5, A5, hf5, h⟩ := rz_b_inv h
      obtain ⟨hg5, hr5, hw5⟩ := cx77_share F (d := d + 0) hf5 (r64_of (hw 83 0).1) (r64_of hk3) (r64_of hk4) hw
      refine rz_B.call (d := d + 0) (as := [vL (A.1 83 0), vL (a0 - a1), vL ((A.1 82 0) - a1)]) (rest := []) (w := some (vL r5)) rfl hg5 ?_
      obtain ⟨hk6, h⟩ := rz_g32_inv h
      refine rz_B.l2i rfl ?_
      cases h
      exact rz_B.ret rfl hk6 hw5
theorem cx81_flowBelow_b_5 (F : Nat) {d : Nat} {a0 : Int} {a1 : Int} {A : rz_A} {r : Int} {A' : rz_A} (h : x81_flowBelow_b F 5 a0 a1 A = some (r, A')) (ha0 : r32 a0) (ha1 : r32 a1) (hw : wf A) : rg_Rn (d + 1) 81 [.ref 84, vI a0, vI a1] (toM A) (some (vI r)) (toM A') ∧ (r32 r) ∧ wf A' := by
  show rz_B (d + 1) 81 0 [some (.ref 84), some (vI a0), some (vI a1)] [] A (some (vI r)) A' (r32 r)
  unfold x81_flowBelow_b at h
  refine rz_B.go 3 (pc' := 5) (L' := [some (.ref 84), some (vI a0), some (vI a1)]) (S' := [vI 0, .ref 85]) rfl ?_
  refine rz_B.iald rfl rfl (by decide) (by decide) (by decide) ?_
  refine rz_B.go 2 (pc' := if decide (Int32.ofInt a1 < Int32.ofInt (A.1 85 0)) = true then 17 else 10) (L' := [some (.ref 84), some (vI a0), some (vI a1)]) (S' := []) rfl ?_
  by_cases hc1 : (A.1 85 0) ≤ a1
  · have h := if_T h hc1
    refine rz_B.ifF (mt (lt32 ha1 (hw 85 0).1).mp (Int.not_lt.mpr hc1)) ?_
    refine rz_B.go 3 (pc' := 15) (L' := [some (.ref 84), some (vI a0), some (vI a1)]) (S' := [vI 0, .ref 86]) rfl ?_
    refine rz_B.iald rfl rfl (by decide) (by decide) (by decide) ?_
    cases h
    exact rz_B.ret rfl (hw 86 0).1 hw
  · have h := if_F h hc1
    refine rz_B.ifT ((lt32 ha1 (hw 85 0).1).mpr (Int.not_le.mp hc1)) ?_
    refine rz_B.go 3 (pc' := if decide (Int32.ofInt a1 < Int32.ofInt a0) = true then 24 else 22) (L' := [some (.ref 84), some (vI a0), some (vI a1)]) (S' := []) rfl ?_
    by_cases hc2 : a0 ≤ a1
    · have h := if_T h hc2
      refine rz_B.ifF (mt (lt32 ha1 ha0).mp (Int.not_lt.mpr hc2)) ?_
      refine rz_B.go 1 (pc' := 23) (L' := [some (.ref 84), some (vI a0), some (vI a1)]) (S' := [vI 0]) rfl ?_
      cases h
      exact rz_B.ret rfl (by decide) hw
    · have h := if_F h hc2
      refine rz_B.ifT ((lt32 ha1 ha0).mpr (Int.not_le.mp hc2)) ?_
      refine rz_B.go 3 (pc' := 29) (L' := [some (.ref 84), some (vI a0), some (vI a1)]) (S' := [vI 0, .ref 86]) rfl ?_
      refine rz_B.iald rfl rfl (by decide) (by decide) (by decide) ?_
      refine rz_B.i2l rfl (hw 86 0).1 ?_
      refine rz_B.go 2 (pc' := 33) (L' := [some (.ref 84), some (vI a0), some (vI a1)]) (S' := [vI a1, vI a0, vL (A.1 86 0)]) rfl ?_
      obtain ⟨hk3, h⟩ := rz_g32_inv h
      refine rz_B.isub rfl ?_
      refine rz_B.i2l rfl hk3 ?_
      refine rz_B.go 3 (pc' := 40) (L' := [some (.ref 84), some (vI a0), some (vI a1)]) (S' := [vI 0, .ref 85, vL (a0 - a1), vL (A.1 86 0)]) rfl ?_
      refine rz_B.iald rfl rfl (by decide) (by decide) (by decide) ?_
      refine rz_B.go 1 (pc' := 42) (L' := [some (.ref 84), some (vI a0), some (vI a1)]) (S' := [vI a1, vI (A.1 85 0), vL (a0 - a1), vL (A.1 86 0)]) rfl ?_
      obtain ⟨hk4, h⟩ := rz_g32_inv h
      refine rz_B.isub rfl ?_
      refine rz_B.i2l rfl hk4 ?_
      obtain ⟨r5, A5, hf5, h⟩ := rz_b_inv h
      obtain ⟨hg5, hr5, hw5⟩ := cx77_share F (d := d + 0) hf5 (r64_of (hw 86 0).1) (r64_of hk3) (r64_of hk4) hw
      refine rz_B.call (d := d + 0) (as := [vL (A.1 86 0), vL (a0 - a1), vL ((A.1 85 0) - a1)]) (rest := []) (w := some (vL r5)) rfl hg5 ?_
      obtain ⟨hk6, h⟩ := rz_g32_inv h
      refine rz_B.l2i rfl ?_
      cases h
      exact rz_B.ret rfl hk6 hw5
def x80_flowBy_b_71 (F : Nat) (q : Nat) (v1 : Int) (v3 : Int) (A : rz_A) : Option (Int × rz_A) :=
  rz_g32 (v3 + 1) <|
  rz_gx (v3 + 1) 8 <|
  rz_gx v3 8 <|
  rz_g32 ((A.1 (71 + 3 * q) ((v3 + 1)).toNat) - (A.1 (71 + 3 * q) (v3).toNat)) <|
  rz_g32 (v1 - (A.1 (70 + 3 * q) (v3).toNat)) <|
  rz_g32 ((A.1 (70 + 3 * q) ((v3 + 1)).toNat) - (A.1 (70 + 3 * q) (v3).toNat)) <|
  rz_b (x77_share F ((A.1 (71 + 3 * q) ((v3 + 1)).toNat) - (A.1 (71 + 3 * q) (v3).toNat)) (v1 - (A.1 (70 + 3 * q) (v3).toNat)) ((A.1 (70 + 3 * q) ((v3 + 1)).toNat) - (A.1 (70 + 3 * q) (v3).toNat)) A) fun r9 A9 =>
  rz_g64 ((A9.1 (71 + 3 * q) (v3).toNat) + r9) <|
  rz_b (x28_min F ((A9.1 (71 + 3 * q) (v3).toNat) + r9) 99999999 A9) fun r11 A11 =>
  rz_g32 r11 <|
  some (r11, A11)
def x80_flowBy_b_43 (F : Nat) (q : Nat) : Nat → Int → Int → rz_A → Option (Int × rz_A)
  | 0, _, _, _ => none
  | n + 1, v1, v3, A =>
    rz_g32 ((A.1 (69 + 3 * q) 0) - 2) <|
    if v3 < ((A.1 (69 + 3 * q) 0) - 2) then
      rz_g32 (v3 + 1) <|
      rz_gx (v3 + 1) 8 <|
      if (A.1 (70 + 3 * q) ((v3 + 1)).toNat) ≤ v1 then
        x80_flowBy_b_43 F q n v1 (v3 + 1) A
      else
        x80_flowBy_b_71 F q v1 v3 A
    else
      x80_flowBy_b_71 F q v1 v3 A
/-- RiverGauge$Points.flowBy(II)I -/
def x80_flowBy_b (F : Nat) (q : Nat) (a0 : Int) (a1 : Int) (A : rz_A) : Option (Int × rz_A) :=
  if (A.1 (69 + 3 * q) 0) = 0 then
    some ((-1), A)
  else
    if a0 < (A.1 (70 + 3 * q) 0) then
      rz_b (x81_flowBelow_b F q a0 a1 A) fun r3 A3 =>
      some (r3, A3)
    else
      if (A.1 (69 + 3 * q) 0) = 1 then
        some ((A.1 (71 + 3 * q) 0), A)
      else
        x80_flowBy_b_43 F q F a0 0 A
theorem cx80_flowBy_b_71_0 {d : Nat} (F : Nat) : ∀ (v1 : Int) (v3 : Int) (A : rz_A) (r : Int) (A' : rz_A), x80_flowBy_b_71 F 0 v1 v3 A = some (r, A') → r32 v1 → r32 v3 → wf A → rz_B (d + 2) 80 71 [some (.ref 69), some (vI v1), none, some (vI v3), none, none] [] A (some (vI r)) A' (r32 r) := by
  intro v1 v3 A r A' h hv1 hv3 hw
  unfold x80_flowBy_b_71 at h
  refine rz_B.go 4 (pc' := 77) (L' := [some (.ref 69), some (vI v1), none, some (vI v3), none, none]) (S' := [vI 1, vI v3, .ref 71]) rfl ?_
  obtain ⟨hk1, h⟩ := rz_g32_inv h
  refine rz_B.iadd rfl ?_
  obtain ⟨hi2, hj3, h⟩ := rz_gx_inv h
  refine rz_B.iald rfl rfl hi2 hj3 (by decide) ?_
  refine rz_B.go 3 (pc' := 84) (L' := [some (.ref 69), some (vI v1), none, some (vI v3), none, none]) (S' := [vI v3, .ref 71, vI (A.1 71 ((v3 + 1)).toNat)]) rfl ?_
  obtain ⟨hi4, hj5, h⟩ := rz_gx_inv h
  refine rz_B.iald rfl rfl hi4 hj5 (by decide) ?_
  obtain ⟨hk6, h⟩ := rz_g32_inv h
  refine rz_B.isub rfl ?_
  refine rz_B.i2l rfl hk6 ?_
  refine rz_B.go 4 (pc' := 93) (L' := [some (.ref 69), some (vI v1), none, some (vI v3), none, none]) (S' := [vI v3, .ref 70, vI v1, vL ((A.1 71 ((v3 + 1)).toNat) - (A.1 71 (v3).toNat))]) rfl ?_
  refine rz_B.iald rfl rfl hi4 hj5 (by decide) ?_
  obtain ⟨hk7, h⟩ := rz_g32_inv h
  refine rz_B.isub rfl ?_
  refine rz_B.i2l rfl hk7 ?_
  refine rz_B.go 4 (pc' := 102) (L' := [some (.ref 69), some (vI v1), none, some (vI v3), none, none]) (S' := [vI 1, vI v3, .ref 70, vL (v1 - (A.1 70 (v3).toNat)), vL ((A.1 71 ((v3 + 1)).toNat) - (A.1 71 (v3).toNat))]) rfl ?_
  refine rz_B.iadd rfl ?_
  refine rz_B.iald rfl rfl hi2 hj3 (by decide) ?_
  refine rz_B.go 3 (pc' := 109) (L' := [some (.ref 69), some (vI v1), none, some (vI v3), none, none]) (S' := [vI v3, .ref 70, vI (A.1 70 ((v3 + 1)).toNat), vL (v1 - (A.1 70 (v3).toNat)), vL ((A.1 71 ((v3 + 1)).toNat) - (A.1 71 (v3).toNat))]) rfl ?_
  refine rz_B.iald rfl rfl hi4 hj5 (by decide) ?_
  obtain ⟨hk8, h⟩ := rz_g32_inv h
  refine rz_B.isub rfl ?_
  refine rz_B.i2l rfl hk8 ?_
  obtain ⟨r9, A9, hf9, h⟩ := rz_b_inv h
  obtain ⟨hg9, hr9, hw9⟩ := cx77_share F (d := d + 1) hf9 (r64_of hk6) (r64_of hk7) (r64_of hk8) hw
  refine rz_B.call (d := d + 1) (as := [vL ((A.1 71 ((v3 + 1)).toNat) - (A.1 71 (v3).toNat)), vL (v1 - (A.1 70 (v3).toNat)), vL ((A.1 70 ((v3 + 1)).toNat) - (A.1 70 (v3).toNat))]) (rest := []) (w := some (vL r9)) rfl hg9 ?_
  refine rz_B.go 4 (pc' := 122) (L' := [some (.ref 69), some (vI v1), none, some (vI v3), some (vL r9), none]) (S' := [vI v3, .ref 71]) rfl ?_
  refine rz_B.iald rfl rfl hi4 hj5 (by decide) ?_
  refine rz_B.i2l rfl (hw9 71 (v3).toNat).1 ?_
  refine rz_B.go 1 (pc' := 126) (L' := [some (.ref 69), some (vI v1), none, some (vI v3), some (vL r9), none]) (S' := [vL r9, vL (A9.1 71 (v3).toNat)]) rfl ?_
  obtain ⟨hk10, h⟩ := rz_g64_inv h
  refine rz_B.ladd rfl ?_
  refine rz_B.go 1 (pc' := 130) (L' := [some (.ref 69), some (vI v1), none, some (vI v3), some (vL r9), none]) (S' := [vL 99999999, vL ((A9.1 71 (v3).toNat) + r9)]) rfl ?_
  obtain ⟨r11, A11, hf11, h⟩ := rz_b_inv h
  obtain ⟨hg11, hr11, hw11⟩ := cx28_min F (d := d + 1) hf11 hk10 (by decide) hw9
  refine rz_B.call (d := d + 1) (as := [vL ((A9.1 71 (v3).toNat) + r9), vL 99999999]) (rest := []) (w := some (vL r11)) rfl hg11 ?_
  obtain ⟨hk12, h⟩ := rz_g32_inv h
  refine rz_B.l2i rfl ?_
  cases h
  exact rz_B.ret rfl hk12 hw11
theorem cx80_flowBy_b_43_0 {d : Nat} (F : Nat) : ∀ (n : Nat) (v1 : Int) (v3 : Int) (A : rz_A) (r : Int) (A' : rz_A), x80_flowBy_b_43 F 0 n v1 v3 A = some (r, A') → r32 v1 → r32 v3 → wf A → rz_B (d + 2) 80 43 [some (.ref 69), some (vI v1), none, some (vI v3), none, none] [] A (some (vI r)) A' (r32 r) := by
  intro n
  induction n with
  | zero => intro v1 v3 A r A' h; cases h
  | succ n ih =>
    intro v1 v3 A r A' h hv1 hv3 hw
    rw [x80_flowBy_b_43] at h
    refine rz_B.go 4 (pc' := 49) (L' := [some (.ref 69), some (vI v1), none, some (vI v3), none, none]) (S' := [vI 2, vI (A.1 69 0), vI v3]) rfl ?_
    obtain ⟨hk1, h⟩ := rz_g32_inv h
    refine rz_B.isub rfl ?_
    refine rz_B.go 1 (pc' := if decide (Int32.ofInt ((A.1 69 0) - 2) ≤ Int32.ofInt v3) = true then 71 else 53) (L' := [some (.ref 69), some (vI v1), none, some (vI v3), none, none]) (S' := []) rfl ?_
    by_cases hc2 : v3 < ((A.1 69 0) - 2)
    · have h := if_T h hc2
      refine rz_B.ifF (mt (le32 hk1 hv3).mp (Int.not_le.mpr hc2)) ?_
      refine rz_B.go 4 (pc' := 59) (L' := [some (.ref 69), some (vI v1), none, some (vI v3), none, none]) (S' := [vI 1, vI v3, .ref 70]) rfl ?_
      obtain ⟨hk3, h⟩ := rz_g32_inv h
      refine rz_B.iadd rfl ?_
      obtain ⟨hi4, hj5, h⟩ := rz_gx_inv h
      refine rz_B.iald rfl rfl hi4 hj5 (by decide) ?_
      refine rz_B.go 2 (pc' := if decide (Int32.ofInt v1 < Int32.ofInt (A.1 70 ((v3 + 1)).toNat)) = true then 71 else 65) (L' := [some (.ref 69), some (vI v1), none, some (vI v3), none, none]) (S' := []) rfl ?_
      by_cases hc6 : (A.1 70 ((v3 + 1)).toNat) ≤ v1
      · have h := if_T h hc6
        refine rz_B.ifF (mt (lt32 hv1 (hw 70 ((v3 + 1)).toNat).1).mp (Int.not_lt.mpr hc6)) ?_
        refine rz_B.iinc rfl (by decide) rfl (L' := [some (.ref 69), some (vI v1), none, some (vI (v3 + 1)), none, none]) rfl ?_
        refine rz_B.go 1 (pc' := 43) (L' := [some (.ref 69), some (vI v1), none, some (vI (v3 + 1)), none, none]) (S' := []) rfl ?_
        refine rz_B.more (rg_le_ok (L := [some (.ref 69), some (vI v1), none, some (vI (v3 + 1)), none, none]) (by simp [rg_le])) ?_
        exact ih _ _ _ _ _ h hv1 hk3 hw
      · have h := if_F h hc6
        refine rz_B.ifT ((lt32 hv1 (hw 70 ((v3 + 1)).toNat).1).mpr (Int.not_le.mp hc6)) ?_
        refine rz_B.more (rg_le_ok (L := [some (.ref 69), some (vI v1), none, some (vI v3), none, none]) (by simp [rg_le])) ?_
        exact cx80_flowBy_b_71_0 F _ _ _ _ _ h hv1 hv3 hw
    · have h := if_F h hc2
      refine rz_B.ifT ((le32 hk1 hv3).mpr (Int.not_lt.mp hc2)) ?_
      refine rz_B.more (rg_le_ok (L := [some (.ref 69), some (vI v1), none, some (vI v3), none, none]) (by simp [rg_le])) ?_
      exact cx80_flowBy_b_71_0 F _ _ _ _ _ h hv1 hv3 hw
theorem cx80_flowBy_b_0 (F : Nat) {d : Nat} {a0 : Int} {a1 : Int} {A : rz_A} {r : Int} {A' : rz_A} (h : x80_flowBy_b F 0 a0 a1 A = some (r, A')) (ha0 : r32 a0) (ha1 : r32 a1) (hw : wf A) : rg_Rn (d + 2) 80 [.ref 69, vI a0, vI a1] (toM A) (some (vI r)) (toM A') ∧ (r32 r) ∧ wf A' := by
  show rz_B (d + 2) 80 0 [some (.ref 69), some (vI a0), some (vI a1), none, none, none] [] A (some (vI r)) A' (r32 r)
  unfold x80_flowBy_b at h
  refine rz_B.go 3 (pc' := if decide (¬ Int32.ofInt (A.1 69 0) = Int32.ofInt 0) = true then 9 else 7) (L' := [some (.ref 69), some (vI a0), some (vI a1), none, none, none]) (S' := []) rfl ?_
  by_cases hc1 : (A.1 69 0) = 0
  · have h := if_T h hc1
    refine rz_B.ifF (fun hn => hn ((eq32 (hw 69 0).1 (by decide)).mpr hc1)) ?_
    refine rz_B.go 1 (pc' := 8) (L' := [some (.ref 69), some (vI a0), some (vI a1), none, none, none]) (S' := [vI (-1)]) rfl ?_
    cases h
    exact rz_B.ret rfl (by decide) hw
  · have h := if_F h hc1
    refine rz_B.ifT (mt (eq32 (hw 69 0).1 (by decide)).mp hc1) ?_
    refine rz_B.go 4 (pc' := 15) (L' := [some (.ref 69), some (vI a0), some (vI a1), none, none, none]) (S' := [vI 0, .ref 70, vI a0]) rfl ?_
    refine rz_B.iald rfl rfl (by decide) (by decide) (by decide) ?_
    refine rz_B.go 1 (pc' := if decide (Int32.ofInt (A.1 70 0) ≤ Int32.ofInt a0) = true then 26 else 19) (L' := [some (.ref 69), some (vI a0), some (vI a1), none, none, none]) (S' := []) rfl ?_
    by_cases hc2 : a0 < (A.1 70 0)
    · have h := if_T h hc2
      refine rz_B.ifF (mt (le32 (hw 70 0).1 ha0).mp (Int.not_le.mpr hc2)) ?_
      refine rz_B.go 3 (pc' := 22) (L' := [some (.ref 69), some (vI a0), some (vI a1), none, none, none]) (S' := [vI a1, vI a0, .ref 69]) rfl ?_
      obtain ⟨r3, A3, hf3, h⟩ := rz_b_inv h
      obtain ⟨hg3, hr3, hw3⟩ := cx81_flowBelow_b_0 F (d := d + 0) hf3 ha0 ha1 hw
      refine rz_B.call (d := d + 1) (as := [.ref 69, vI a0, vI a1]) (rest := []) (w := some (vI r3)) rfl hg3 ?_
      cases h
      exact rz_B.ret rfl hr3 hw3
    · have h := if_F h hc2
      refine rz_B.ifT ((le32 (hw 70 0).1 ha0).mpr (Int.not_lt.mp hc2)) ?_
      refine rz_B.go 4 (pc' := if decide (¬ Int32.ofInt (A.1 69 0) = Int32.ofInt 1) = true then 41 else 34) (L' := [some (.ref 69), some (vI a0), some (vI a1), none, none, none]) (S' := []) rfl ?_
      by_cases hc4 : (A.1 69 0) = 1
      · have h := if_T h hc4
        refine rz_B.ifF (fun hn => hn ((eq32 (hw 69 0).1 (by decide)).mpr hc4)) ?_
        refine rz_B.go 3 (pc' := 39) (L' := [some (.ref 69), some (vI a0), some (vI a1), none, none, none]) (S' := [vI 0, .ref 71]) rfl ?_
        refine rz_B.iald rfl rfl (by decide) (by decide) (by decide) ?_
        cases h
        exact rz_B.ret rfl (hw 71 0).1 hw
      · have h := if_F h hc4
        refine rz_B.ifT (mt (eq32 (hw 69 0).1 (by decide)).mp hc4) ?_
        refine rz_B.go 2 (pc' := 43) (L' := [some (.ref 69), some (vI a0), some (vI a1), some (vI 0), none, none]) (S' := []) rfl ?_
        refine rz_B.more (rg_le_ok (L := [some (.ref 69), some (vI a0), none, some (vI 0), none, none]) (by simp [rg_le])) ?_
        exact cx80_flowBy_b_43_0 F F _ _ _ _ _ h ha0 (by decide) hw
theorem cx80_flowBy_b_71_1 {d : Nat} (F : Nat) : ∀ (v1 : Int) (v3 : Int) (A : rz_A) (r : Int) (A' : rz_A), x80_flowBy_b_71 F 1 v1 v3 A = some (r, A') → r32 v1 → r32 v3 → wf A → rz_B (d + 2) 80 71 [some (.ref 72), some (vI v1), none, some (vI v3), none, none] [] A (some (vI r)) A' (r32 r) := by
  intro v1 v3 A r A' h hv1 hv3 hw
  unfold x80_flowBy_b_71 at h
  refine rz_B.go 4 (pc' := 77) (L' := [some (.ref 72), some (vI v1), none, some (vI v3), none, none]) (S' := [vI 1, vI v3, .ref 74]) rfl ?_
  obtain ⟨hk1, h⟩ := rz_g32_inv h
  refine rz_B.iadd rfl ?_
  obtain ⟨hi2, hj3, h⟩ := rz_gx_inv h
  refine rz_B.iald rfl rfl hi2 hj3 (by decide) ?_
  refine rz_B.go 3 (pc' := 84) (L' := [some (.ref 72), some (vI v1), none, some (vI v3), none, none]) (S' := [vI v3, .ref 74, vI (A.1 74 ((v3 + 1)).toNat)]) rfl ?_
  obtain ⟨hi4, hj5, h⟩ := rz_gx_inv h
  refine rz_B.iald rfl rfl hi4 hj5 (by decide) ?_
  obtain ⟨hk6, h⟩ := rz_g32_inv h
  refine rz_B.isub rfl ?_
  refine rz_B.i2l rfl hk6 ?_
  refine rz_B.go 4 (pc' := 93) (L' := [some (.ref 72), some (vI v1), none, some (vI v3), none, none]) (S' := [vI v3, .ref 73, vI v1, vL ((A.1 74 ((v3 + 1)).toNat) - (A.1 74 (v3).toNat))]) rfl ?_
  refine rz_B.iald rfl rfl hi4 hj5 (by decide) ?_
  obtain ⟨hk7, h⟩ := rz_g32_inv h
  refine rz_B.isub rfl ?_
  refine rz_B.i2l rfl hk7 ?_
  refine rz_B.go 4 (pc' := 102) (L' := [some (.ref 72), some (vI v1), none, some (vI v3), none, none]) (S' := [vI 1, vI v3, .ref 73, vL (v1 - (A.1 73 (v3).toNat)), vL ((A.1 74 ((v3 + 1)).toNat) - (A.1 74 (v3).toNat))]) rfl ?_
  refine rz_B.iadd rfl ?_
  refine rz_B.iald rfl rfl hi2 hj3 (by decide) ?_
  refine rz_B.go 3 (pc' := 109) (L' := [some (.ref 72), some (vI v1), none, some (vI v3), none, none]) (S' := [vI v3, .ref 73, vI (A.1 73 ((v3 + 1)).toNat), vL (v1 - (A.1 73 (v3).toNat)), vL ((A.1 74 ((v3 + 1)).toNat) - (A.1 74 (v3).toNat))]) rfl ?_
  refine rz_B.iald rfl rfl hi4 hj5 (by decide) ?_
  obtain ⟨hk8, h⟩ := rz_g32_inv h
  refine rz_B.isub rfl ?_
  refine rz_B.i2l rfl hk8 ?_
  obtain ⟨r9, A9, hf9, h⟩ := rz_b_inv h
  obtain ⟨hg9, hr9, hw9⟩ := cx77_share F (d := d + 1) hf9 (r64_of hk6) (r64_of hk7) (r64_of hk8) hw
  refine rz_B.call (d := d + 1) (as := [vL ((A.1 74 ((v3 + 1)).toNat) - (A.1 74 (v3).toNat)), vL (v1 - (A.1 73 (v3).toNat)), vL ((A.1 73 ((v3 + 1)).toNat) - (A.1 73 (v3).toNat))]) (rest := []) (w := some (vL r9)) rfl hg9 ?_
  refine rz_B.go 4 (pc' := 122) (L' := [some (.ref 72), some (vI v1), none, some (vI v3), some (vL r9), none]) (S' := [vI v3, .ref 74]) rfl ?_
  refine rz_B.iald rfl rfl hi4 hj5 (by decide) ?_
  refine rz_B.i2l rfl (hw9 74 (v3).toNat).1 ?_
  refine rz_B.go 1 (pc' := 126) (L' := [some (.ref 72), some (vI v1), none, some (vI v3), some (vL r9), none]) (S' := [vL r9, vL (A9.1 74 (v3).toNat)]) rfl ?_
  obtain ⟨hk10, h⟩ := rz_g64_inv h
  refine rz_B.ladd rfl ?_
  refine rz_B.go 1 (pc' := 130) (L' := [some (.ref 72), some (vI v1), none, some (vI v3), some (vL r9), none]) (S' := [vL 99999999, vL ((A9.1 74 (v3).toNat) + r9)]) rfl ?_
  obtain ⟨r11, A11, hf11, h⟩ := rz_b_inv h
  obtain ⟨hg11, hr11, hw11⟩ := cx28_min F (d := d + 1) hf11 hk10 (by decide) hw9
  refine rz_B.call (d := d + 1) (as := [vL ((A9.1 74 (v3).toNat) + r9), vL 99999999]) (rest := []) (w := some (vL r11)) rfl hg11 ?_
  obtain ⟨hk12, h⟩ := rz_g32_inv h
  refine rz_B.l2i rfl ?_
  cases h
  exact rz_B.ret rfl hk12 hw11
theorem cx80_flowBy_b_43_1 {d : Nat} (F : Nat) : ∀ (n : Nat) (v1 : Int) (v3 : Int) (A : rz_A) (r : Int) (A' : rz_A), x80_flowBy_b_43 F 1 n v1 v3 A = some (r, A') → r32 v1 → r32 v3 → wf A → rz_B (d + 2) 80 43 [some (.ref 72), some (vI v1), none, some (vI v3), none, none] [] A (some (vI r)) A' (r32 r) := by
  intro n
  induction n with
  | zero => intro v1 v3 A r A' h; cases h
  | succ n ih =>
    intro v1 v3 A r A' h hv1 hv3 hw
    rw [x80_flowBy_b_43] at h
    refine rz_B.go 4 (pc' := 49) (L' := [some (.ref 72), some (vI v1), none, some (vI v3), none, none]) (S' := [vI 2, vI (A.1 72 0), vI v3]) rfl ?_
    obtain ⟨hk1, h⟩ := rz_g32_inv h
    refine rz_B.isub rfl ?_
    refine rz_B.go 1 (pc' := if decide (Int32.ofInt ((A.1 72 0) - 2) ≤ Int32.ofInt v3) = true then 71 else 53) (L' := [some (.ref 72), some (vI v1), none, some (vI v3), none, none]) (S' := []) rfl ?_
    by_cases hc2 : v3 < ((A.1 72 0) - 2)
    · have h := if_T h hc2
      refine rz_B.ifF (mt (le32 hk1 hv3).mp (Int.not_le.mpr hc2)) ?_
      refine rz_B.go 4 (pc' := 59) (L' := [some (.ref 72), some (vI v1), none, some (vI v3), none, none]) (S' := [vI 1, vI v3, .ref 73]) rfl ?_
      obtain ⟨hk3, h⟩ := rz_g32_inv h
      refine rz_B.iadd rfl ?_
      obtain ⟨hi4, hj5, h⟩ := rz_gx_inv h
      refine rz_B.iald rfl rfl hi4 hj5 (by decide) ?_
      refine rz_B.go 2 (pc' := if decide (Int32.ofInt v1 < Int32.ofInt (A.1 73 ((v3 + 1)).toNat)) = true then 71 else 65) (L' := [some (.ref 72), some (vI v1), none, some (vI v3), none, none]) (S' := []) rfl ?_
      by_cases hc6 : (A.1 73 ((v3 + 1)).toNat) ≤ v1
      · have h := if_T h hc6
        refine rz_B.ifF (mt (lt32 hv1 (hw 73 ((v3 + 1)).toNat).1).mp (Int.not_lt.mpr hc6)) ?_
        refine rz_B.iinc rfl (by decide) rfl (L' := [some (.ref 72), some (vI v1), none, some (vI (v3 + 1)), none, none]) rfl ?_
        refine rz_B.go 1 (pc' := 43) (L' := [some (.ref 72), some (vI v1), none, some (vI (v3 + 1)), none, none]) (S' := []) rfl ?_
        refine rz_B.more (rg_le_ok (L := [some (.ref 72), some (vI v1), none, some (vI (v3 + 1)), none, none]) (by simp [rg_le])) ?_
        exact ih _ _ _ _ _ h hv1 hk3 hw
      · have h := if_F h hc6
        refine rz_B.ifT ((lt32 hv1 (hw 73 ((v3 + 1)).toNat).1).mpr (Int.not_le.mp hc6)) ?_
        refine rz_B.more (rg_le_ok (L := [some (.ref 72), some (vI v1), none, some (vI v3), none, none]) (by simp [rg_le])) ?_
        exact cx80_flowBy_b_71_1 F _ _ _ _ _ h hv1 hv3 hw
    · have h := if_F h hc2
      refine rz_B.ifT ((le32 hk1 hv3).mpr (Int.not_lt.mp hc2)) ?_
      refine rz_B.more (rg_le_ok (L := [some (.ref 72), some (vI v1), none, some (vI v3), none, none]) (by simp [rg_le])) ?_
      exact cx80_flowBy_b_71_1 F _ _ _ _ _ h hv1 hv3 hw
theorem cx80_flowBy_b_1 (F : Nat) {d : Nat} {a0 : Int} {a1 : Int} {A : rz_A} {r : Int} {A' : rz_A} (h : x80_flowBy_b F 1 a0 a1 A = some (r, A')) (ha0 : r32 a0) (ha1 : r32 a1) (hw : wf A) : rg_Rn (d + 2) 80 [.ref 72, vI a0, vI a1] (toM A) (some (vI r)) (toM A') ∧ (r32 r) ∧ wf A' := by
  show rz_B (d + 2) 80 0 [some (.ref 72), some (vI a0), some (vI a1), none, none, none] [] A (some (vI r)) A' (r32 r)
  unfold x80_flowBy_b at h
  refine rz_B.go 3 (pc' := if decide (¬ Int32.ofInt (A.1 72 0) = Int32.ofInt 0) = true then 9 else 7) (L' := [some (.ref 72), some (vI a0), some (vI a1), none, none, none]) (S' := []) rfl ?_
  by_cases hc1 : (A.1 72 0) = 0
  · have h := if_T h hc1
    refine rz_B.ifF (fun hn => hn ((eq32 (hw 72 0).1 (by decide)).mpr hc1)) ?_
    refine rz_B.go 1 (pc' := 8) (L' := [some (.ref 72), some (vI a0), some (vI a1), none, none, none]) (S' := [vI (-1)]) rfl ?_
    cases h
    exact rz_B.ret rfl (by decide) hw
  · have h := if_F h hc1
    refine rz_B.ifT (mt (eq32 (hw 72 0).1 (by decide)).mp hc1) ?_
    refine rz_B.go 4 (pc' := 15) (L' := [some (.ref 72), some (vI a0), some (vI a1), none, none, none]) (S' := [vI 0, .ref 73, vI a0]) rfl ?_
    refine rz_B.iald rfl rfl (by decide) (by decide) (by decide) ?_
    refine rz_B.go 1 (pc' := if decide (Int32.ofInt (A.1 73 0) ≤ Int32.ofInt a0) = true then 26 else 19) (L' := [some (.ref 72), some (vI a0), some (vI a1), none, none, none]) (S' := []) rfl ?_
    by_cases hc2 : a0 < (A.1 73 0)
    · have h := if_T h hc2
      refine rz_B.ifF (mt (le32 (hw 73 0).1 ha0).mp (Int.not_le.mpr hc2)) ?_
      refine rz_B.go 3 (pc' := 22) (L' := [some (.ref 72), some (vI a0), some (vI a1), none, none, none]) (S' := [vI a1, vI a0, .ref 72]) rfl ?_
      obtain ⟨r3, A3, hf3, h⟩ := rz_b_inv h
      obtain ⟨hg3, hr3, hw3⟩ := cx81_flowBelow_b_1 F (d := d + 0) hf3 ha0 ha1 hw
      refine rz_B.call (d := d + 1) (as := [.ref 72, vI a0, vI a1]) (rest := []) (w := some (vI r3)) rfl hg3 ?_
      cases h
      exact rz_B.ret rfl hr3 hw3
    · have h := if_F h hc2
      refine rz_B.ifT ((le32 (hw 73 0).1 ha0).mpr (Int.not_lt.mp hc2)) ?_
      refine rz_B.go 4 (pc' := if decide (¬ Int32.ofInt (A.1 72 0) = Int32.ofInt 1) = true then 41 else 34) (L' := [some (.ref 72), some (vI a0), some (vI a1), none, none, none]) (S' := []) rfl ?_
      by_cases hc4 : (A.1 72 0) = 1
      · have h := if_T h hc4
        refine rz_B.ifF (fun hn => hn ((eq32 (hw 72 0).1 (by decide)).mpr hc4)) ?_
        refine rz_B.go 3 (pc' := 39) (L' := [some (.ref 72), some (vI a0), some (vI a1), none, none, none]) (S' := [vI 0, .ref 74]) rfl ?_
        refine rz_B.iald rfl rfl (by decide) (by decide) (by decide) ?_
        cases h
        exact rz_B.ret rfl (hw 74 0).1 hw
      · have h := if_F h hc4
        refine rz_B.ifT (mt (eq32 (hw 72 0).1 (by decide)).mp hc4) ?_
        refine rz_B.go 2 (pc' := 43) (L' := [some (.ref 72), some (vI a0), some (vI a1), some (vI 0), none, none]) (S' := []) rfl ?_
        refine rz_B.more (rg_le_ok (L := [some (.ref 72), some (vI a0), none, some (vI 0), none, none]) (by simp [rg_le])) ?_
        exact cx80_flowBy_b_43_1 F F _ _ _ _ _ h ha0 (by decide) hw
theorem cx80_flowBy_b_71_2 {d : Nat} (F : Nat) : ∀ (v1 : Int) (v3 : Int) (A : rz_A) (r : Int) (A' : rz_A), x80_flowBy_b_71 F 2 v1 v3 A = some (r, A') → r32 v1 → r32 v3 → wf A → rz_B (d + 2) 80 71 [some (.ref 75), some (vI v1), none, some (vI v3), none, none] [] A (some (vI r)) A' (r32 r) := by
  intro v1 v3 A r A' h hv1 hv3 hw
  unfold x80_flowBy_b_71 at h
  refine rz_B.go 4 (pc' := 77) (L' := [some (.ref 75), some (vI v1), none, some (vI v3), none, none]) (S' := [vI 1, vI v3, .ref 77]) rfl ?_
  obtain ⟨hk1, h⟩ := rz_g32_inv h
  refine rz_B.iadd rfl ?_
  obtain ⟨hi2, hj3, h⟩ := rz_gx_inv h
  refine rz_B.iald rfl rfl hi2 hj3 (by decide) ?_
  refine rz_B.go 3 (pc' := 84) (L' := [some (.ref 75), some (vI v1), none, some (vI v3), none, none]) (S' := [vI v3, .ref 77, vI (A.1 77 ((v3 + 1)).toNat)]) rfl ?_
  obtain ⟨hi4, hj5, h⟩ := rz_gx_inv h
  refine rz_B.iald rfl rfl hi4 hj5 (by decide) ?_
  obtain ⟨hk6, h⟩ := rz_g32_inv h
  refine rz_B.isub rfl ?_
  refine rz_B.i2l rfl hk6 ?_
  refine rz_B.go 4 (pc' := 93) (L' := [some (.ref 75), some (vI v1), none, some (vI v3), none, none]) (S' := [vI v3, .ref 76, vI v1, vL ((A.1 77 ((v3 + 1)).toNat) - (A.1 77 (v3).toNat))]) rfl ?_
  refine rz_B.iald rfl rfl hi4 hj5 (by decide) ?_
  obtain ⟨hk7, h⟩ := rz_g32_inv h
  refine rz_B.isub rfl ?_
  refine rz_B.i2l rfl hk7 ?_
  refine rz_B.go 4 (pc' := 102) (L' := [some (.ref 75), some (vI v1), none, some (vI v3), none, none]) (S' := [vI 1, vI v3, .ref 76, vL (v1 - (A.1 76 (v3).toNat)), vL ((A.1 77 ((v3 + 1)).toNat) - (A.1 77 (v3).toNat))]) rfl ?_
  refine rz_B.iadd rfl ?_
  refine rz_B.iald rfl rfl hi2 hj3 (by decide) ?_
  refine rz_B.go 3 (pc' := 109) (L' := [some (.ref 75), some (vI v1), none, some (vI v3), none, none]) (S' := [vI v3, .ref 76, vI (A.1 76 ((v3 + 1)).toNat), vL (v1 - (A.1 76 (v3).toNat)), vL ((A.1 77 ((v3 + 1)).toNat) - (A.1 77 (v3).toNat))]) rfl ?_
  refine rz_B.iald rfl rfl hi4 hj5 (by decide) ?_
  obtain ⟨hk8, h⟩ := rz_g32_inv h
  refine rz_B.isub rfl ?_
  refine rz_B.i2l rfl hk8 ?_
  obtain ⟨r9, A9, hf9, h⟩ := rz_b_inv h
  obtain ⟨hg9, hr9, hw9⟩ := cx77_share F (d := d + 1) hf9 (r64_of hk6) (r64_of hk7) (r64_of hk8) hw
  refine rz_B.call (d := d + 1) (as := [vL ((A.1 77 ((v3 + 1)).toNat) - (A.1 77 (v3).toNat)), vL (v1 - (A.1 76 (v3).toNat)), vL ((A.1 76 ((v3 + 1)).toNat) - (A.1 76 (v3).toNat))]) (rest := []) (w := some (vL r9)) rfl hg9 ?_
  refine rz_B.go 4 (pc' := 122) (L' := [some (.ref 75), some (vI v1), none, some (vI v3), some (vL r9), none]) (S' := [vI v3, .ref 77]) rfl ?_
  refine rz_B.iald rfl rfl hi4 hj5 (by decide) ?_
  refine rz_B.i2l rfl (hw9 77 (v3).toNat).1 ?_
  refine rz_B.go 1 (pc' := 126) (L' := [some (.ref 75), some (vI v1), none, some (vI v3), some (vL r9), none]) (S' := [vL r9, vL (A9.1 77 (v3).toNat)]) rfl ?_
  obtain ⟨hk10, h⟩ := rz_g64_inv h
  refine rz_B.ladd rfl ?_
  refine rz_B.go 1 (pc' := 130) (L' := [some (.ref 75), some (vI v1), none, some (vI v3), some (vL r9), none]) (S' := [vL 99999999, vL ((A9.1 77 (v3).toNat) + r9)]) rfl ?_
  obtain ⟨r11, A11, hf11, h⟩ := rz_b_inv h
  obtain ⟨hg11, hr11, hw11⟩ := cx28_min F (d := d + 1) hf11 hk10 (by decide) hw9
  refine rz_B.call (d := d + 1) (as := [vL ((A9.1 77 (v3).toNat) + r9), vL 99999999]) (rest := []) (w := some (vL r11)) rfl hg11 ?_
  obtain ⟨hk12, h⟩ := rz_g32_inv h
  refine rz_B.l2i rfl ?_
  cases h
  exact rz_B.ret rfl hk12 hw11
theorem cx80_flowBy_b_43_2 {d : Nat} (F : Nat) : ∀ (n : Nat) (v1 : Int) (v3 : Int) (A : rz_A) (r : Int) (A' : rz_A), x80_flowBy_b_43 F 2 n v1 v3 A = some (r, A') → r32 v1 → r32 v3 → wf A → rz_B (d + 2) 80 43 [some (.ref 75), some (vI v1), none, some (vI v3), none, none] [] A (some (vI r)) A' (r32 r) := by
  intro n
  induction n with
  | zero => intro v1 v3 A r A' h; cases h
  | succ n ih =>
    intro v1 v3 A r A' h hv1 hv3 hw
    rw [x80_flowBy_b_43] at h
    refine rz_B.go 4 (pc' := 49) (L' := [some (.ref 75), some (vI v1), none, some (vI v3), none, none]) (S' := [vI 2, vI (A.1 75 0), vI v3]) rfl ?_
    obtain ⟨hk1, h⟩ := rz_g32_inv h
    refine rz_B.isub rfl ?_
    refine rz_B.go 1 (pc' := if decide (Int32.ofInt ((A.1 75 0) - 2) ≤ Int32.ofInt v3) = true then 71 else 53) (L' := [some (.ref 75), some (vI v1), none, some (vI v3), none, none]) (S' := []) rfl ?_
    by_cases hc2 : v3 < ((A.1 75 0) - 2)
    · have h := if_T h hc2
      refine rz_B.ifF (mt (le32 hk1 hv3).mp (Int.not_le.mpr hc2)) ?_
      refine rz_B.go 4 (pc' := 59) (L' := [some (.ref 75), some (vI v1), none, some (vI v3), none, none]) (S' := [vI 1, vI v3, .ref 76]) rfl ?_
      obtain ⟨hk3, h⟩ := rz_g32_inv h
      refine rz_B.iadd rfl ?_
      obtain ⟨hi4, hj5, h⟩ := rz_gx_inv h
      refine rz_B.iald rfl rfl hi4 hj5 (by decide) ?_
      refine rz_B.go 2 (pc' := if decide (Int32.ofInt v1 < Int32.ofInt (A.1 76 ((v3 + 1)).toNat)) = true then 71 else 65) (L' := [some (.ref 75), some (vI v1), none, some (vI v3), none, none]) (S' := []) rfl ?_
      by_cases hc6 : (A.1 76 ((v3 + 1)).toNat) ≤ v1
      · have h := if_T h hc6
        refine rz_B.ifF (mt (lt32 hv1 (hw 76 ((v3 + 1)).toNat).1).mp (Int.not_lt.mpr hc6)) ?_
        refine rz_B.iinc rfl (by decide) rfl (L' := [some (.ref 75), some (vI v1), none, some (vI (v3 + 1)), none, none]) rfl ?_
        refine rz_B.go 1 (pc' := 43) (L' := [some (.ref 75), some (vI v1), none, some (vI (v3 + 1)), none, none]) (S' := []) rfl ?_
        refine rz_B.more (rg_le_ok (L := [some (.ref 75), some (vI v1), none, some (vI (v3 + 1)), none, none]) (by simp [rg_le])) ?_
        exact ih _ _ _ _ _ h hv1 hk3 hw
      · have h := if_F h hc6
        refine rz_B.ifT ((lt32 hv1 (hw 76 ((v3 + 1)).toNat).1).mpr (Int.not_le.mp hc6)) ?_
        refine rz_B.more (rg_le_ok (L := [some (.ref 75), some (vI v1), none, some (vI v3), none, none]) (by simp [rg_le])) ?_
        exact cx80_flowBy_b_71_2 F _ _ _ _ _ h hv1 hv3 hw
    · have h := if_F h hc2
      refine rz_B.ifT ((le32 hk1 hv3).mpr (Int.not_lt.mp hc2)) ?_
      refine rz_B.more (rg_le_ok (L := [some (.ref 75), some (vI v1), none, some (vI v3), none, none]) (by simp [rg_le])) ?_
      exact cx80_flowBy_b_71_2 F _ _ _ _ _ h hv1 hv3 hw
theorem cx80_flowBy_b_2 (F : Nat) {d : Nat} {a0 : Int} {a1 : Int} {A : rz_A} {r : Int} {A' : rz_A} (h : x80_flowBy_b F 2 a0 a1 A = some (r, A')) (ha0 : r32 a0) (ha1 : r32 a1) (hw : wf A) : rg_Rn (d + 2) 80 [.ref 75, vI a0, vI a1] (toM A) (some (vI r)) (toM A') ∧ (r32 r) ∧ wf A' := by
  show rz_B (d + 2) 80 0 [some (.ref 75), some (vI a0), some (vI a1), none, none, none] [] A (some (vI r)) A' (r32 r)
  unfold x80_flowBy_b at h
  refine rz_B.go 3 (pc' := if decide (¬ Int32.ofInt (A.1 75 0) = Int32.ofInt 0) = true then 9 else 7) (L' := [some (.ref 75), some (vI a0), some (vI a1), none, none, none]) (S' := []) rfl ?_
  by_cases hc1 : (A.1 75 0) = 0
  · have h := if_T h hc1
    refine rz_B.ifF (fun hn => hn ((eq32 (hw 75 0).1 (by decide)).mpr hc1)) ?_
    refine rz_B.go 1 (pc' := 8) (L' := [some (.ref 75), some (vI a0), some (vI a1), none, none, none]) (S' := [vI (-1)]) rfl ?_
    cases h
    exact rz_B.ret rfl (by decide) hw
  · have h := if_F h hc1
    refine rz_B.ifT (mt (eq32 (hw 75 0).1 (by decide)).mp hc1) ?_
    refine rz_B.go 4 (pc' := 15) (L' := [some (.ref 75), some (vI a0), some (vI a1), none, none, none]) (S' := [vI 0, .ref 76, vI a0]) rfl ?_
    refine rz_B.iald rfl rfl (by decide) (by decide) (by decide) ?_
    refine rz_B.go 1 (pc' := if decide (Int32.ofInt (A.1 76 0) ≤ Int32.ofInt a0) = true then 26 else 19) (L' := [some (.ref 75), some (vI a0), some (vI a1), none, none, none]) (S' := []) rfl ?_
    by_cases hc2 : a0 < (A.1 76 0)
    · have h := if_T h hc2
      refine rz_B.ifF (mt (le32 (hw 76 0).1 ha0).mp (Int.not_le.mpr hc2)) ?_
      refine rz_B.go 3 (pc' := 22) (L' := [some (.ref 75), some (vI a0), some (vI a1), none, none, none]) (S' := [vI a1, vI a0, .ref 75]) rfl ?_
      obtain ⟨r3, A3, hf3, h⟩ := rz_b_inv h
      obtain ⟨hg3, hr3, hw3⟩ := cx81_flowBelow_b_2 F (d := d + 0) hf3 ha0 ha1 hw
      refine rz_B.call (d := d + 1) (as := [.ref 75, vI a0, vI a1]) (rest := []) (w := some (vI r3)) rfl hg3 ?_
      cases h
      exact rz_B.ret rfl hr3 hw3
    · have h := if_F h hc2
      refine rz_B.ifT ((le32 (hw 76 0).1 ha0).mpr (Int.not_lt.mp hc2)) ?_
      refine rz_B.go 4 (pc' := if decide (¬ Int32.ofInt (A.1 75 0) = Int32.ofInt 1) = true then 41 else 34) (L' := [some (.ref 75), some (vI a0), some (vI a1), none, none, none]) (S' := []) rfl ?_
      by_cases hc4 : (A.1 75 0) = 1
      · have h := if_T h hc4
        refine rz_B.ifF (fun hn => hn ((eq32 (hw 75 0).1 (by decide)).mpr hc4)) ?_
        refine rz_B.go 3 (pc' := 39) (L' := [some (.ref 75), some (vI a0), some (vI a1), none, none, none]) (S' := [vI 0, .ref 77]) rfl ?_
        refine rz_B.iald rfl rfl (by decide) (by decide) (by decide) ?_
        cases h
        exact rz_B.ret rfl (hw 77 0).1 hw
      · have h := if_F h hc4
        refine rz_B.ifT (mt (eq32 (hw 75 0).1 (by decide)).mp hc4) ?_
        refine rz_B.go 2 (pc' := 43) (L' := [some (.ref 75), some (vI a0), some (vI a1), some (vI 0), none, none]) (S' := []) rfl ?_
        refine rz_B.more (rg_le_ok (L := [some (.ref 75), some (vI a0), none, some (vI 0), none, none]) (by simp [rg_le])) ?_
        exact cx80_flowBy_b_43_2 F F _ _ _ _ _ h ha0 (by decide) hw
theorem cx80_flowBy_b_71_3 {d : Nat} (F : Nat) : ∀ (v1 : Int) (v3 : Int) (A : rz_A) (r : Int) (A' : rz_A), x80_flowBy_b_71 F 3 v1 v3 A = some (r, A') → r32 v1 → r32 v3 → wf A → rz_B (d + 2) 80 71 [some (.ref 78), some (vI v1), none, some (vI v3), none, none] [] A (some (vI r)) A' (r32 r) := by
  intro v1 v3 A r A' h hv1 hv3 hw
  unfold x80_flowBy_b_71 at h
  refine rz_B.go 4 (pc' := 77) (L' := [some (.ref 78), some (vI v1), none, some (vI v3), none, none]) (S' := [vI 1, vI v3, .ref 80]) rfl ?_
  obtain ⟨hk1, h⟩ := rz_g32_inv h
  refine rz_B.iadd rfl ?_
  obtain ⟨hi2, hj3, h⟩ := rz_gx_inv h
  refine rz_B.iald rfl rfl hi2 hj3 (by decide) ?_
  refine rz_B.go 3 (pc' := 84) (L' := [some (.ref 78), some (vI v1), none, some (vI v3), none, none]) (S' := [vI v3, .ref 80, vI (A.1 80 ((v3 + 1)).toNat)]) rfl ?_
  obtain ⟨hi4, hj5, h⟩ := rz_gx_inv h
  refine rz_B.iald rfl rfl hi4 hj5 (by decide) ?_
  obtain ⟨hk6, h⟩ := rz_g32_inv h
  refine rz_B.isub rfl ?_
  refine rz_B.i2l rfl hk6 ?_
  refine rz_B.go 4 (pc' := 93) (L' := [some (.ref 78), some (vI v1), none, some (vI v3), none, none]) (S' := [vI v3, .ref 79, vI v1, vL ((A.1 80 ((v3 + 1)).toNat) - (A.1 80 (v3).toNat))]) rfl ?_
  refine rz_B.iald rfl rfl hi4 hj5 (by decide) ?_
  obtain ⟨hk7, h⟩ := rz_g32_inv h
  refine rz_B.isub rfl ?_
  refine rz_B.i2l rfl hk7 ?_
  refine rz_B.go 4 (pc' := 102) (L' := [some (.ref 78), some (vI v1), none, some (vI v3), none, none]) (S' := [vI 1, vI v3, .ref 79, vL (v1 - (A.1 79 (v3).toNat)), vL ((A.1 80 ((v3 + 1)).toNat) - (A.1 80 (v3).toNat))]) rfl ?_
  refine rz_B.iadd rfl ?_
  refine rz_B.iald rfl rfl hi2 hj3 (by decide) ?_
  refine rz_B.go 3 (pc' := 109) (L' := [some (.ref 78), some (vI v1), none, some (vI v3), none, none]) (S' := [vI v3, .ref 79, vI (A.1 79 ((v3 + 1)).toNat), vL (v1 - (A.1 79 (v3).toNat)), vL ((A.1 80 ((v3 + 1)).toNat) - (A.1 80 (v3).toNat))]) rfl ?_
  refine rz_B.iald rfl rfl hi4 hj5 (by decide) ?_
  obtain ⟨hk8, h⟩ := rz_g32_inv h
  refine rz_B.isub rfl ?_
  refine rz_B.i2l rfl hk8 ?_
  obtain ⟨r9, A9, hf9, h⟩ := rz_b_inv h
  obtain ⟨hg9, hr9, hw9⟩ := cx77_share F (d := d + 1) hf9 (r64_of hk6) (r64_of hk7) (r64_of hk8) hw
  refine rz_B.call (d := d + 1) (as := [vL ((A.1 80 ((v3 + 1)).toNat) - (A.1 80 (v3).toNat)), vL (v1 - (A.1 79 (v3).toNat)), vL ((A.1 79 ((v3 + 1)).toNat) - (A.1 79 (v3).toNat))]) (rest := []) (w := some (vL r9)) rfl hg9 ?_
  refine rz_B.go 4 (pc' := 122) (L' := [some (.ref 78), some (vI v1), none, some (vI v3), some (vL r9), none]) (S' := [vI v3, .ref 80]) rfl ?_
  refine rz_B.iald rfl rfl hi4 hj5 (by decide) ?_
  refine rz_B.i2l rfl (hw9 80 (v3).toNat).1 ?_
  refine rz_B.go 1 (pc' := 126) (L' := [some (.ref 78), some (vI v1), none, some (vI v3), some (vL r9), none]) (S' := [vL r9, vL (A9.1 80 (v3).toNat)]) rfl ?_
  obtain ⟨hk10, h⟩ := rz_g64_inv h
  refine rz_B.ladd rfl ?_
  refine rz_B.go 1 (pc' := 130) (L' := [some (.ref 78), some (vI v1), none, some (vI v3), some (vL r9), none]) (S' := [vL 99999999, vL ((A9.1 80 (v3).toNat) + r9)]) rfl ?_
  obtain ⟨r11, A11, hf11, h⟩ := rz_b_inv h
  obtain ⟨hg11, hr11, hw11⟩ := cx28_min F (d := d + 1) hf11 hk10 (by decide) hw9
  refine rz_B.call (d := d + 1) (as := [vL ((A9.1 80 (v3).toNat) + r9), vL 99999999]) (rest := []) (w := some (vL r11)) rfl hg11 ?_
  obtain ⟨hk12, h⟩ := rz_g32_inv h
  refine rz_B.l2i rfl ?_
  cases h
  exact rz_B.ret rfl hk12 hw11
theorem cx80_flowBy_b_43_3 {d : Nat} (F : Nat) : ∀ (n : Nat) (v1 : Int) (v3 : Int) (A : rz_A) (r : Int) (A' : rz_A), x80_flowBy_b_43 F 3 n v1 v3 A = some (r, A') → r32 v1 → r32 v3 → wf A → rz_B (d + 2) 80 43 [some (.ref 78), some (vI v1), none, some (vI v3), none, none] [] A (some (vI r)) A' (r32 r) := by
  intro n
  induction n with
  | zero => intro v1 v3 A r A' h; cases h
  | succ n ih =>
    intro v1 v3 A r A' h hv1 hv3 hw
    rw [x80_flowBy_b_43] at h
    refine rz_B.go 4 (pc' := 49) (L' := [some (.ref 78), some (vI v1), none, some (vI v3), none, none]) (S' := [vI 2, vI (A.1 78 0), vI v3]) rfl ?_
    obtain ⟨hk1, h⟩ := rz_g32_inv h
    refine rz_B.isub rfl ?_
    refine rz_B.go 1 (pc' := if decide (Int32.ofInt ((A.1 78 0) - 2) ≤ Int32.ofInt v3) = true then 71 else 53) (L' := [some (.ref 78), some (vI v1), none, some (vI v3), none, none]) (S' := []) rfl ?_
    by_cases hc2 : v3 < ((A.1 78 0) - 2)
    · have h := if_T h hc2
      refine rz_B.ifF (mt (le32 hk1 hv3).mp (Int.not_le.mpr hc2)) ?_
      refine rz_B.go 4 (pc' := 59) (L' := [some (.ref 78), some (vI v1), none, some (vI v3), none, none]) (S' := [vI 1, vI v3, .ref 79]) rfl ?_
      obtain ⟨hk3, h⟩ := rz_g32_inv h
      refine rz_B.iadd rfl ?_
      obtain ⟨hi4, hj5, h⟩ := rz_gx_inv h
      refine rz_B.iald rfl rfl hi4 hj5 (by decide) ?_
      refine rz_B.go 2 (pc' := if decide (Int32.ofInt v1 < Int32.ofInt (A.1 79 ((v3 + 1)).toNat)) = true then 71 else 65) (L' := [some (.ref 78), some (vI v1), none, some (vI v3), none, none]) (S' := []) rfl ?_
      by_cases hc6 : (A.1 79 ((v3 + 1)).toNat) ≤ v1
      · have h := if_T h hc6
        refine rz_B.ifF (mt (lt32 hv1 (hw 79 ((v3 + 1)).toNat).1).mp (Int.not_lt.mpr hc6)) ?_
        refine rz_B.iinc rfl (by decide) rfl (L' := [some (.ref 78), some (vI v1), none, some (vI (v3 + 1)), none, none]) rfl ?_
        refine rz_B.go 1 (pc' := 43) (L' := [some (.ref 78), some (vI v1), none, some (vI (v3 + 1)), none, none]) (S' := []) rfl ?_
        refine rz_B.more (rg_le_ok (L := [some (.ref 78), some (vI v1), none, some (vI (v3 + 1)), none, none]) (by simp [rg_le])) ?_
        exact ih _ _ _ _ _ h hv1 hk3 hw
      · have h := if_F h hc6
        refine rz_B.ifT ((lt32 hv1 (hw 79 ((v3 + 1)).toNat).1).mpr (Int.not_le.mp hc6)) ?_
        refine rz_B.more (rg_le_ok (L := [some (.ref 78), some (vI v1), none, some (vI v3), none, none]) (by simp [rg_le])) ?_
        exact cx80_flowBy_b_71_3 F _ _ _ _ _ h hv1 hv3 hw
    · have h := if_F h hc2
      refine rz_B.ifT ((le32 hk1 hv3).mpr (Int.not_lt.mp hc2)) ?_
      refine rz_B.more (rg_le_ok (L := [some (.ref 78), some (vI v1), none, some (vI v3), none, none]) (by simp [rg_le])) ?_
      exact cx80_flowBy_b_71_3 F _ _ _ _ _ h hv1 hv3 hw
theorem cx80_flowBy_b_3 (F : Nat) {d : Nat} {a0 : Int} {a1 : Int} {A : rz_A} {r : Int} {A' : rz_A} (h : x80_flowBy_b F 3 a0 a1 A = some (r, A')) (ha0 : r32 a0) (ha1 : r32 a1) (hw : wf A) : rg_Rn (d + 2) 80 [.ref 78, vI a0, vI a1] (toM A) (some (vI r)) (toM A') ∧ (r32 r) ∧ wf A' := by
  show rz_B (d + 2) 80 0 [some (.ref 78), some (vI a0), some (vI a1), none, none, none] [] A (some (vI r)) A' (r32 r)
  unfold x80_flowBy_b at h
  refine rz_B.go 3 (pc' := if decide (¬ Int32.ofInt (A.1 78 0) = Int32.ofInt 0) = true then 9 else 7) (L' := [some (.ref 78), some (vI a0), some (vI a1), none, none, none]) (S' := []) rfl ?_
  by_cases hc1 : (A.1 78 0) = 0
  · have h := if_T h hc1
    refine rz_B.ifF (fun hn => hn ((eq32 (hw 78 0).1 (by decide)).mpr hc1)) ?_
    refine rz_B.go 1 (pc' := 8) (L' := [some (.ref 78), some (vI a0), some (vI a1), none, none, none]) (S' := [vI (-1)]) rfl ?_
    cases h
    exact rz_B.ret rfl (by decide) hw
  · have h := if_F h hc1
    refine rz_B.ifT (mt (eq32 (hw 78 0).1 (by decide)).mp hc1) ?_
    refine rz_B.go 4 (pc' := 15) (L' := [some (.ref 78), some (vI a0), some (vI a1), none, none, none]) (S' := [vI 0, .ref 79, vI a0]) rfl ?_
    refine rz_B.iald rfl rfl (by decide) (by decide) (by decide) ?_
    refine rz_B.go 1 (pc' := if decide (Int32.ofInt (A.1 79 0) ≤ Int32.ofInt a0) = true then 26 else 19) (L' := [some (.ref 78), some (vI a0), some (vI a1), none, none, none]) (S' := []) rfl ?_
    by_cases hc2 : a0 < (A.1 79 0)
    · have h := if_T h hc2
      refine rz_B.ifF (mt (le32 (hw 79 0).1 ha0).mp (Int.not_le.mpr hc2)) ?_
      refine rz_B.go 3 (pc' := 22) (L' := [some (.ref 78), some (vI a0), some (vI a1), none, none, none]) (S' := [vI a1, vI a0, .ref 78]) rfl ?_
      obtain ⟨r3, A3, hf3, h⟩ := rz_b_inv h
      obtain ⟨hg3, hr3, hw3⟩ := cx81_flowBelow_b_3 F (d := d + 0) hf3 ha0 ha1 hw
      refine rz_B.call (d := d + 1) (as := [.ref 78, vI a0, vI a1]) (rest := []) (w := some (vI r3)) rfl hg3 ?_
      cases h
      exact rz_B.ret rfl hr3 hw3
    · have h := if_F h hc2
      refine rz_B.ifT ((le32 (hw 79 0).1 ha0).mpr (Int.not_lt.mp hc2)) ?_
      refine rz_B.go 4 (pc' := if decide (¬ Int32.ofInt (A.1 78 0) = Int32.ofInt 1) = true then 41 else 34) (L' := [some (.ref 78), some (vI a0), some (vI a1), none, none, none]) (S' := []) rfl ?_
      by_cases hc4 : (A.1 78 0) = 1
      · have h := if_T h hc4
        refine rz_B.ifF (fun hn => hn ((eq32 (hw 78 0).1 (by decide)).mpr hc4)) ?_
        refine rz_B.go 3 (pc' := 39) (L' := [some (.ref 78), some (vI a0), some (vI a1), none, none, none]) (S' := [vI 0, .ref 80]) rfl ?_
        refine rz_B.iald rfl rfl (by decide) (by decide) (by decide) ?_
        cases h
        exact rz_B.ret rfl (hw 80 0).1 hw
      · have h := if_F h hc4
        refine rz_B.ifT (mt (eq32 (hw 78 0).1 (by decide)).mp hc4) ?_
        refine rz_B.go 2 (pc' := 43) (L' := [some (.ref 78), some (vI a0), some (vI a1), some (vI 0), none, none]) (S' := []) rfl ?_
        refine rz_B.more (rg_le_ok (L := [some (.ref 78), some (vI a0), none, some (vI 0), none, none]) (by simp [rg_le])) ?_
        exact cx80_flowBy_b_43_3 F F _ _ _ _ _ h ha0 (by decide) hw
theorem cx80_flowBy_b_71_4 {d : Nat} (F : Nat) : ∀ (v1 : Int) (v3 : Int) (A : rz_A) (r : Int) (A' : rz_A), x80_flowBy_b_71 F 4 v1 v3 A = some (r, A') → r32 v1 → r32 v3 → wf A → rz_B (d + 2) 80 71 [some (.ref 81), some (vI v1), none, some (vI v3), none, none] [] A (some (vI r)) A' (r32 r) := by
  intro v1 v3 A r A' h hv1 hv3 hw
  unfold x80_flowBy_b_71 at h
  refine rz_B.go 4 (pc' := 77) (L' := [some (.ref 81), some (vI v1), none, some (vI v3), none, none]) (S' := [vI 1, vI v3, .ref 83]) rfl ?_
  obtain ⟨hk1, h⟩ := rz_g32_inv h
  refine rz_B.iadd rfl ?_
  obtain ⟨hi2, hj3, h⟩ := rz_gx_inv h
  refine rz_B.iald rfl rfl hi2 hj3 (by decide) ?_
  refine rz_B.go 3 (pc' := 84) (L' := [some (.ref 81), some (vI v1), none, some (vI v3), none, none]) (S' := [vI v3, .ref 83, vI (A.1 83 ((v3 + 1)).toNat)]) rfl ?_
  obtain ⟨hi4, hj5, h⟩ := rz_gx_inv h
  refine rz_B.iald rfl rfl hi4 hj5 (by decide) ?_
  obtain ⟨hk6, h⟩ := rz_g32_inv h
  refine rz_B.isub rfl ?_
  refine rz_B.i2l rfl hk6 ?_
  refine rz_B.go 4 (pc' := 93) (L' := [some (.ref 81), some (vI v1), none, some (vI v3), none, none]) (S' := [vI v3, .ref 82, vI v1, vL ((A.1 83 ((v3 + 1)).toNat) - (A.1 83 (v3).toNat))]) rfl ?_
  refine rz_B.iald rfl rfl hi4 hj5 (by decide) ?_
  obtain ⟨hk7, h⟩ := rz_g32_inv h
  refine rz_B.isub rfl ?_
  refine rz_B.i2l rfl hk7 ?_
  refine rz_B.go 4 (pc' := 102) (L' := [some (.ref 81), some (vI v1), none, some (vI v3), none, none]) (S' := [vI 1, vI v3, .ref 82, vL (v1 - (A.1 82 (v3).toNat)), vL ((A.1 83 ((v3 + 1)).toNat) - (A.1 83 (v3).toNat))]) rfl ?_
  refine rz_B.iadd rfl ?_
  refine rz_B.iald rfl rfl hi2 hj3 (by decide) ?_
  refine rz_B.go 3 (pc' := 109) (L' := [some (.ref 81), some (vI v1), none, some (vI v3), none, none]) (S' := [vI v3, .ref 82, vI (A.1 82 ((v3 + 1)).toNat), vL (v1 - (A.1 82 (v3).toNat)), vL ((A.1 83 ((v3 + 1)).toNat) - (A.1 83 (v3).toNat))]) rfl ?_
  refine rz_B.iald rfl rfl hi4 hj5 (by decide) ?_
  obtain ⟨hk8, h⟩ := rz_g32_inv h
  refine rz_B.isub rfl ?_
  refine rz_B.i2l rfl hk8 ?_
  obtain ⟨r9, A9, hf9, h⟩ := rz_b_inv h
  obtain ⟨hg9, hr9, hw9⟩ := cx77_share F (d := d + 1) hf9 (r64_of hk6) (r64_of hk7) (r64_of hk8) hw
  refine rz_B.call (d := d + 1) (as := [vL ((A.1 83 ((v3 + 1)).toNat) - (A.1 83 (v3).toNat)), vL (v1 - (A.1 82 (v3).toNat)), vL ((A.1 82 ((v3 + 1)).toNat) - (A.1 82 (v3).toNat))]) (rest := []) (w := some (vL r9)) rfl hg9 ?_
  refine rz_B.go 4 (pc' := 122) (L' := [some (.ref 81), some (vI v1), none, some (vI v3), some (vL r9), none]) (S' := [vI v3, .ref 83]) rfl ?_
  refine rz_B.iald rfl rfl hi4 hj5 (by decide) ?_
  refine rz_B.i2l rfl (hw9 83 (v3).toNat).1 ?_
  refine rz_B.go 1 (pc' := 126) (L' := [some (.ref 81), some (vI v1), none, some (vI v3), some (vL r9), none]) (S' := [vL r9, vL (A9.1 83 (v3).toNat)]) rfl ?_
  obtain ⟨hk10, h⟩ := rz_g64_inv h
  refine rz_B.ladd rfl ?_
  refine rz_B.go 1 (pc' := 130) (L' := [some (.ref 81), some (vI v1), none, some (vI v3), some (vL r9), none]) (S' := [vL 99999999, vL ((A9.1 83 (v3).toNat) + r9)]) rfl ?_
  obtain ⟨r11, A11, hf11, h⟩ := rz_b_inv h
  obtain ⟨hg11, hr11, hw11⟩ := cx28_min F (d := d + 1) hf11 hk10 (by decide) hw9
  refine rz_B.call (d := d + 1) (as := [vL ((A9.1 83 (v3).toNat) + r9), vL 99999999]) (rest := []) (w := some (vL r11)) rfl hg11 ?_
  obtain ⟨hk12, h⟩ := rz_g32_inv h
  refine rz_B.l2i rfl ?_
  cases h
  exact rz_B.ret rfl hk12 hw11
theorem cx80_flowBy_b_43_4 {d : Nat} (F : Nat) : ∀ (n : Nat) (v1 : Int) (v3 : Int) (A : rz_A) (r : Int) (A' : rz_A), x80_flowBy_b_43 F 4 n v1 v3 A = some (r, A') → r32 v1 → r32 v3 → wf A → rz_B (d + 2) 80 43 [some (.ref 81), some (vI v1), none, some (vI v3), none, none] [] A (some (vI r)) A' (r32 r) := by
  intro n
  induction n with
  | zero => intro v1 v3 A r A' h; cases h
  | succ n ih =>
    intro v1 v3 A r A' h hv1 hv3 hw
    rw [x80_flowBy_b_43] at h
    refine rz_B.go 4 (pc' := 49) (L' := [some (.ref 81), some (vI v1), none, some (vI v3), none, none]) (S' := [vI 2, vI (A.1 81 0), vI v3]) rfl ?_
    obtain ⟨hk1, h⟩ := rz_g32_inv h
    refine rz_B.isub rfl ?_
    refine rz_B.go 1 (pc' := if decide (Int32.ofInt ((A.1 81 0) - 2) ≤ Int32.ofInt v3) = true then 71 else 53) (L' := [some (.ref 81), some (vI v1), none, some (vI v3), none, none]) (S' := []) rfl ?_
    by_cases hc2 : v3 < ((A.1 81 0) - 2)
    · have h := if_T h hc2
      refine rz_B.ifF (mt (le32 hk1 hv3).mp (Int.not_le.mpr hc2)) ?_
      refine rz_B.go 4 (pc' := 59) (L' := [some (.ref 81), some (vI v1), none, some (vI v3), none, none]) (S' := [vI 1, vI v3, .ref 82]) rfl ?_
      obtain ⟨hk3, h⟩ := rz_g32_inv h
      refine rz_B.iadd rfl ?_
      obtain ⟨hi4, hj5, h⟩ := rz_gx_inv h
      refine rz_B.iald rfl rfl hi4 hj5 (by decide) ?_
      refine rz_B.go 2 (pc' := if decide (Int32.ofInt v1 < Int32.ofInt (A.1 82 ((v3 + 1)).toNat)) = true then 71 else 65) (L' := [some (.ref 81), some (vI v1), none, some (vI v3), none, none]) (S' := []) rfl ?_
      by_cases hc6 : (A.1 82 ((v3 + 1)).toNat) ≤ v1
      · have h := if_T h hc6
        refine rz_B.ifF (mt (lt32 hv1 (hw 82 ((v3 + 1)).toNat).1).mp (Int.not_lt.mpr hc6)) ?_
        refine rz_B.iinc rfl (by decide) rfl (L' := [some (.ref 81), some (vI v1), none, some (vI (v3 + 1)), none, none]) rfl ?_
        refine rz_B.go 1 (pc' := 43) (L' := [some (.ref 81), some (vI v1), none, some (vI (v3 + 1)), none, none]) (S' := []) rfl ?_
        refine rz_B.more (rg_le_ok (L := [some (.ref 81), some (vI v1), none, some (vI (v3 + 1)), none, none]) (by simp [rg_le])) ?_
        exact ih _ _ _ _ _ h hv1 hk3 hw
      · have h := if_F h hc6
        refine rz_B.ifT ((lt32 hv1 (hw 82 ((v3 + 1)).toNat).1).mpr (Int.not_le.mp hc6)) ?_
        refine rz_B.more (rg_le_ok (L := [some (.ref 81), some (vI v1), none, some (vI v3), none, none]) (by simp [rg_le])) ?_
        exact cx80_flowBy_b_71_4 F _ _ _ _ _ h hv1 hv3 hw
    · have h := if_F h hc2
      refine rz_B.ifT ((le32 hk1 hv3).mpr (Int.not_lt.mp hc2)) ?_
      refine rz_B.more (rg_le_ok (L := [some (.ref 81), some (vI v1), none, some (vI v3), none, none]) (by simp [rg_le])) ?_
      exact cx80_flowBy_b_71_4 F _ _ _ _ _ h hv1 hv3 hw
theorem cx80_flowBy_b_4 (F : Nat) {d : Nat} {a0 : Int} {a1 : Int} {A : rz_A} {r : Int} {A' : rz_A} (h : x80_flowBy_b F 4 a0 a1 A = some (r, A')) (ha0 : r32 a0) (ha1 : r32 a1) (hw : wf A) : rg_Rn (d + 2) 80 [.ref 81, vI a0, vI a1] (toM A) (some (vI r)) (toM A') ∧ (r32 r) ∧ wf A' := by
  show rz_B (d + 2) 80 0 [some (.ref 81), some (vI a0), some (vI a1), none, none, none] [] A (some (vI r)) A' (r32 r)
  unfold x80_flowBy_b at h
  refine rz_B.go 3 (pc' := if decide (¬ Int32.ofInt (A.1 81 0) = Int32.ofInt 0) = true then 9 else 7) (L' := [some (.ref 81), some (vI a0), some (vI a1), none, none, none]) (S' := []) rfl ?_
  by_cases hc1 : (A.1 81 0) = 0
  · have h := if_T h hc1
    refine rz_B.ifF (fun hn => hn ((eq32 (hw 81 0).1 (by decide)).mpr hc1)) ?_
    refine rz_B.go 1 (pc' := 8) (L' := [some (.ref 81), some (vI a0), some (vI a1), none, none, none]) (S' := [vI (-1)]) rfl ?_
    cases h
    exact rz_B.ret rfl (by decide) hw
  · have h := if_F h hc1
    refine rz_B.ifT (mt (eq32 (hw 81 0).1 (by decide)).mp hc1) ?_
    refine rz_B.go 4 (pc' := 15) (L' := [some (.ref 81), some (vI a0), some (vI a1), none, none, none]) (S' := [vI 0, .ref 82, vI a0]) rfl ?_
    refine rz_B.iald rfl rfl (by decide) (by decide) (by decide) ?_
    refine rz_B.go 1 (pc' := if decide (Int32.ofInt (A.1 82 0) ≤ Int32.ofInt a0) = true then 26 else 19) (L' := [some (.ref 81), some (vI a0), some (vI a1), none, none, none]) (S' := []) rfl ?_
    by_cases hc2 : a0 < (A.1 82 0)
    · have h := if_T h hc2
      refine rz_B.ifF (mt (le32 (hw 82 0).1 ha0).mp (Int.not_le.mpr hc2)) ?_
      refine rz_B.go 3 (pc' := 22) (L' := [some (.ref 81), some (vI a0), some (vI a1), none, none, none]) (S' := [vI a1, vI a0, .ref 81]) rfl ?_
      obtain ⟨r3, A3, hf3, h⟩ := rz_b_inv h
      obtain ⟨hg3, hr3, hw3⟩ := cx81_flowBelow_b_4 F (d := d + 0) hf3 ha0 ha1 hw
      refine rz_B.call (d := d + 1) (as := [.ref 81, vI a0, vI a1]) (rest := []) (w := some (vI r3)) rfl hg3 ?_
      cases h
      exact rz_B.ret rfl hr3 hw3
    · have h := if_F h hc2
      refine rz_B.ifT ((le32 (hw 82 0).1 ha0).mpr (Int.not_lt.mp hc2)) ?_
      refine rz_B.go 4 (pc' := if decide (¬ Int32.ofInt (A.1 81 0) = Int32.ofInt 1) = true then 41 else 34) (L' := [some (.ref 81), some (vI a0), some (vI a1), none, none, none]) (S' := []) rfl ?_
      by_cases hc4 : (A.1 81 0) = 1
      · have h := if_T h hc4
        refine rz_B.ifF (fun hn => hn ((eq32 (hw 81 0).1 (by decide)).mpr hc4)) ?_
        refine rz_B.go 3 (pc' := 39) (L' := [some (.ref 81), some (vI a0), some (vI a1), none, none, none]) (S' := [vI 0, .ref 83]) rfl ?_
        refine rz_B.iald rfl rfl (by decide) (by decide) (by decide) ?_
        cases h
        exact rz_B.ret rfl (hw 83 0).1 hw
      · have h := if_F h hc4
        refine rz_B.ifT (mt (eq32 (hw 81 0).1 (by decide)).mp hc4) ?_
        refine rz_B.go 2 (pc' := 43) (L' := [some (.ref 81), some (vI a0), some (vI a1), some (vI 0), none, none]) (S' := []) rfl ?_
        refine rz_B.more (rg_le_ok (L := [some (.ref 81), some (vI a0), none, some (vI 0), none, none]) (by simp [rg_le])) ?_
        exact cx80_flowBy_b_43_4 F F _ _ _ _ _ h ha0 (by decide) hw
theorem cx80_flowBy_b_71_5 {d : Nat} (F : Nat) : ∀ (v1 : Int) (v3 : Int) (A : rz_A) (r : Int) (A' : rz_A), x80_flowBy_b_71 F 5 v1 v3 A = some (r, A') → r32 v1 → r32 v3 → wf A → rz_B (d + 2) 80 71 [some (.ref 84), some (vI v1), none, some (vI v3), none, none] [] A (some (vI r)) A' (r32 r) := by
  intro v1 v3 A r A' h hv1 hv3 hw
  unfold x80_flowBy_b_71 at h
  refine rz_B.go 4 (pc' := 77) (L' := [some (.ref 84), some (vI v1), none, some (vI v3), none, none]) (S' := [vI 1, vI v3, .ref 86]) rfl ?_
  obtain ⟨hk1, h⟩ := rz_g32_inv h
  refine rz_B.iadd rfl ?_
  obtain ⟨hi2, hj3, h⟩ := rz_gx_inv h
  refine rz_B.iald rfl rfl hi2 hj3 (by decide) ?_
  refine rz_B.go 3 (pc' := 84) (L' := [some (.ref 84), some (vI v1), none, some (vI v3), none, none]) (S' := [vI v3, .ref 86, vI (A.1 86 ((v3 + 1)).toNat)]) rfl ?_
  obtain ⟨hi4, hj5, h⟩ := rz_gx_inv h
  refine rz_B.iald rfl rfl hi4 hj5 (by decide) ?_
  obtain ⟨hk6, h⟩ := rz_g32_inv h
  refine rz_B.isub rfl ?_
  refine rz_B.i2l rfl hk6 ?_
  refine rz_B.go 4 (pc' := 93) (L' := [some (.ref 84), some (vI v1), none, some (vI v3), none, none]) (S' := [vI v3, .ref 85, vI v1, vL ((A.1 86 ((v3 + 1)).toNat) - (A.1 86 (v3).toNat))]) rfl ?_
  refine rz_B.iald rfl rfl hi4 hj5 (by decide) ?_
  obtain ⟨hk7, h⟩ := rz_g32_inv h
  refine rz_B.isub rfl ?_
  refine rz_B.i2l rfl hk7 ?_
  refine rz_B.go 4 (pc' := 102) (L' := [some (.ref 84), some (vI v1), none, some (vI v3), none, none]) (S' := [vI 1, vI v3, .ref 85, vL (v1 - (A.1 85 (v3).toNat)), vL ((A.1 86 ((v3 + 1)).toNat) - (A.1 86 (v3).toNat))]) rfl ?_
  refine rz_B.iadd rfl ?_
  refine rz_B.iald rfl rfl hi2 hj3 (by decide) ?_
  refine rz_B.go 3 (pc' := 109) (L' := [some (.ref 84), some (vI v1), none, some (vI v3), none, none]) (S' := [vI v3, .ref 85, vI (A.1 85 ((v3 + 1)).toNat), vL (v1 - (A.1 85 (v3).toNat)), vL ((A.1 86 ((v3 + 1)).toNat) - (A.1 86 (v3).toNat))]) rfl ?_
  refine rz_B.iald rfl rfl hi4 hj5 (by decide) ?_
  obtain ⟨hk8, h⟩ := rz_g32_inv h
  refine rz_B.isub rfl ?_
  refine rz_B.i2l rfl hk8 ?_
  obtain ⟨r9, A9, hf9, h⟩ := rz_b_inv h
  obtain ⟨hg9, hr9, hw9⟩ := cx77_share F (d := d + 1) hf9 (r64_of hk6) (r64_of hk7) (r64_of hk8) hw
  refine rz_B.call (d := d + 1) (as := [vL ((A.1 86 ((v3 + 1)).toNat) - (A.1 86 (v3).toNat)), vL (v1 - (A.1 85 (v3).toNat)), vL ((A.1 85 ((v3 + 1)).toNat) - (A.1 85 (v3).toNat))]) (rest := []) (w := some (vL r9)) rfl hg9 ?_
  refine rz_B.go 4 (pc' := 122) (L' := [some (.ref 84), some (vI v1), none, some (vI v3), some (vL r9), none]) (S' := [vI v3, .ref 86]) rfl ?_
  refine rz_B.iald rfl rfl hi4 hj5 (by decide) ?_
  refine rz_B.i2l rfl (hw9 86 (v3).toNat).1 ?_
  refine rz_B.go 1 (pc' := 126) (L' := [some (.ref 84), some (vI v1), none, some (vI v3), some (vL r9), none]) (S' := [vL r9, vL (A9.1 86 (v3).toNat)]) rfl ?_
  obtain ⟨hk10, h⟩ := rz_g64_inv h
  refine rz_B.ladd rfl ?_
  refine rz_B.go 1 (pc' := 130) (L' := [some (.ref 84), some (vI v1), none, some (vI v3), some (vL r9), none]) (S' := [vL 99999999, vL ((A9.1 86 (v3).toNat) + r9)]) rfl ?_
  obtain ⟨r11, A11, hf11, h⟩ := rz_b_inv h
  obtain ⟨hg11, hr11, hw11⟩ := cx28_min F (d := d + 1) hf11 hk10 (by decide) hw9
  refine rz_B.call (d := d + 1) (as := [vL ((A9.1 86 (v3).toNat) + r9), vL 99999999]) (rest := []) (w := some (vL r11)) rfl hg11 ?_
  obtain ⟨hk12, h⟩ := rz_g32_inv h
  refine rz_B.l2i rfl ?_
  cases h
  exact rz_B.ret rfl hk12 hw11
theorem cx80_flowBy_b_43_5 {d : Nat} (F : Nat) : ∀ (n : Nat) (v1 : Int) (v3 : Int) (A : rz_A) (r : Int) (A' : rz_A), x80_flowBy_b_43 F 5 n v1 v3 A = some (r, A') → r32 v1 → r32 v3 → wf A → rz_B (d + 2) 80 43 [some (.ref 84), some (vI v1), none, some (vI v3), none, none] [] A (some (vI r)) A' (r32 r) := by
  intro n
  induction n with
  | zero => intro v1 v3 A r A' h; cases h
  | succ n ih =>
    intro v1 v3 A r A' h hv1 hv3 hw
    rw [x80_flowBy_b_43] at h
    refine rz_B.go 4 (pc' := 49) (L' := [some (.ref 84), some (vI v1), none, some (vI v3), none, none]) (S' := [vI 2, vI (A.1 84 0), vI v3]) rfl ?_
    obtain ⟨hk1, h⟩ := rz_g32_inv h
    refine rz_B.isub rfl ?_
    refine rz_B.go 1 (pc' := if decide (Int32.ofInt ((A.1 84 0) - 2) ≤ Int32.ofInt v3) = true then 71 else 53) (L' := [some (.ref 84), some (vI v1), none, some (vI v3), none, none]) (S' := []) rfl ?_
    by_cases hc2 : v3 < ((A.1 84 0) - 2)
    · have h := if_T h hc2
      refine rz_B.ifF (mt (le32 hk1 hv3).mp (Int.not_le.mpr hc2)) ?_
      refine rz_B.go 4 (pc' := 59) (L' := [some (.ref 84), some (vI v1), none, some (vI v3), none, none]) (S' := [vI 1, vI v3, .ref 85]) rfl ?_
      obtain ⟨hk3, h⟩ := rz_g32_inv h
      refine rz_B.iadd rfl ?_
      obtain ⟨hi4, hj5, h⟩ := rz_gx_inv h
      refine rz_B.iald rfl rfl hi4 hj5 (by decide) ?_
      refine rz_B.go 2 (pc' := if decide (Int32.ofInt v1 < Int32.ofInt (A.1 85 ((v3 + 1)).toNat)) = true then 71 else 65) (L' := [some (.ref 84), some (vI v1), none, some (vI v3), none, none]) (S' := []) rfl ?_
      by_cases hc6 : (A.1 85 ((v3 + 1)).toNat) ≤ v1
      · have h := if_T h hc6
        refine rz_B.ifF (mt (lt32 hv1 (hw 85 ((v3 + 1)).toNat).1).mp (Int.not_lt.mpr hc6)) ?_
        refine rz_B.iinc rfl (by decide) rfl (L' := [some (.ref 84), some (vI v1), none, some (vI (v3 + 1)), none, none]) rfl ?_
        refine rz_B.go 1 (pc' := 43) (L' := [some (.ref 84), some (vI v1), none, some (vI (v3 + 1)), none, none]) (S' := []) rfl ?_
        refine rz_B.more (rg_le_ok (L := [some (.ref 84), some (vI v1), none, some (vI (v3 + 1)), none, none]) (by simp [rg_le])) ?_
        exact ih _ _ _ _ _ h hv1 hk3 hw
      · have h := if_F h hc6
        refine rz_B.ifT ((lt32 hv1 (hw 85 ((v3 + 1)).toNat).1).mpr (Int.not_le.mp hc6)) ?_
        refine rz_B.more (rg_le_ok (L := [some (.ref 84), some (vI v1), none, some (vI v3), none, none]) (by simp [rg_le])) ?_
        exact cx80_flowBy_b_71_5 F _ _ _ _ _ h hv1 hv3 hw
    · have h := if_F h hc2
      refine rz_B.ifT ((le32 hk1 hv3).mpr (Int.not_lt.mp hc2)) ?_
      refine rz_B.more (rg_le_ok (L := [some (.ref 84), some (vI v1), none, some (vI v3), none, none]) (by simp [rg_le])) ?_
      exact cx80_flowBy_b_71_5 F _ _ _ _ _ h hv1 hv3 hw
theorem cx80_flowBy_b_5 (F : Nat) {d : Nat} {a0 : Int} {a1 : Int} {A : rz_A} {r : Int} {A' : rz_A} (h : x80_flowBy_b F 5 a0 a1 A = some (r, A')) (ha0 : r32 a0) (ha1 : r32 a1) (hw : wf A) : rg_Rn (d + 2) 80 [.ref 84, vI a0, vI a1] (toM A) (some (vI r)) (toM A') ∧ (r32 r) ∧ wf A' := by
  show rz_B (d + 2) 80 0 [some (.ref 84), some (vI a0), some (vI a1), none, none, none] [] A (some (vI r)) A' (r32 r)
  unfold x80_flowBy_b at h
  refine rz_B.go 3 (pc' := if decide (¬ Int32.ofInt (A.1 84 0) = Int32.ofInt 0) = true then 9 else 7) (L' := [some (.ref 84), some (vI a0), some (vI a1), none, none, none]) (S' := []) rfl ?_
  by_cases hc1 : (A.1 84 0) = 0
  · have h := if_T h hc1
    refine rz_B.ifF (fun hn => hn ((eq32 (hw 84 0).1 (by decide)).mpr hc1)) ?_
    refine rz_B.go 1 (pc' := 8) (L' := [some (.ref 84), some (vI a0), some (vI a1), none, none, none]) (S' := [vI (-1)]) rfl ?_
    cases h
    exact rz_B.ret rfl (by decide) hw
  · have h := if_F h hc1
    refine rz_B.ifT (mt (eq32 (hw 84 0).1 (by decide)).mp hc1) ?_
    refine rz_B.go 4 (pc' := 15) (L' := [some (.ref 84), some (vI a0), some (vI a1), none, none, none]) (S' := [vI 0, .ref 85, vI a0]) rfl ?_
    refine rz_B.iald rfl rfl (by decide) (by decide) (by decide) ?_
    refine rz_B.go 1 (pc' := if decide (Int32.ofInt (A.1 85 0) ≤ Int32.ofInt a0) = true then 26 else 19) (L' := [some (.ref 84), some (vI a0), some (vI a1), none, none, none]) (S' := []) rfl ?_
    by_cases hc2 : a0 < (A.1 85 0)
    · have h := if_T h hc2
      refine rz_B.ifF (mt (le32 (hw 85 0).1 ha0).mp (Int.not_le.mpr hc2)) ?_
      refine rz_B.go 3 (pc' := 22) (L' := [some (.ref 84), some (vI a0), some (vI a1), none, none, none]) (S' := [vI a1, vI a0, .ref 84]) rfl ?_
      obtain ⟨r3, A3, hf3, h⟩ := rz_b_inv h
      obtain ⟨hg3, hr3, hw3⟩ := cx81_flowBelow_b_5 F (d := d + 0) hf3 ha0 ha1 hw
      refine rz_B.call (d := d + 1) (as := [.ref 84, vI a0, vI a1]) (rest := []) (w := some (vI r3)) rfl hg3 ?_
      cases h
      exact rz_B.ret rfl hr3 hw3
    · have h := if_F h hc2
      refine rz_B.ifT ((le32 (hw 85 0).1 ha0).mpr (Int.not_lt.mp hc2)) ?_
      refine rz_B.go 4 (pc' := if decide (¬ Int32.ofInt (A.1 84 0) = Int32.ofInt 1) = true then 41 else 34) (L' := [some (.ref 84), some (vI a0), some (vI a1), none, none, none]) (S' := []) rfl ?_
      by_cases hc4 : (A.1 84 0) = 1
      · have h := if_T h hc4
        refine rz_B.ifF (fun hn => hn ((eq32 (hw 84 0).1 (by decide)).mpr hc4)) ?_
        refine rz_B.go 3 (pc' := 39) (L' := [some (.ref 84), some (vI a0), some (vI a1), none, none, none]) (S' := [vI 0, .ref 86]) rfl ?_
        refine rz_B.iald rfl rfl (by decide) (by decide) (by decide) ?_
        cases h
        exact rz_B.ret rfl (hw 86 0).1 hw
      · have h := if_F h hc4
        refine rz_B.ifT (mt (eq32 (hw 84 0).1 (by decide)).mp hc4) ?_
        refine rz_B.go 2 (pc' := 43) (L' := [some (.ref 84), some (vI a0), some (vI a1), some (vI 0), none, none]) (S' := []) rfl ?_
        refine rz_B.more (rg_le_ok (L := [some (.ref 84), some (vI a0), none, some (vI 0), none, none]) (by simp [rg_le])) ?_
        exact cx80_flowBy_b_43_5 F F _ _ _ _ _ h ha0 (by decide) hw
