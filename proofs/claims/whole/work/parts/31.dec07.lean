set_option maxRecDepth 16384
def x137_mend_13 (F : Nat) : Nat → Int → rz_A → Option (Int × rz_A)
  | 0, _, _ => none
  | n + 1, v1, A =>
    if v1 < (A.1 0 14) then
      rz_gx v1 40 <|
      rz_b (x136_flowNow F v1 A) fun r4 A4 =>
      if 0 ≤ r4 then
        rz_g64 (r4 - (A.1 90 (v1).toNat)) <|
        rz_b (x138_abs F (r4 - (A.1 90 (v1).toNat)) A4) fun r7 A7 =>
        rz_g64 (r7 * 100) <|
        rz_g64 ((A.1 90 (v1).toNat) * (A7.1 0 15)) <|
        if ((A.1 90 (v1).toNat) * (A7.1 0 15)) < (r7 * 100) then
          some (v1, A7)
        else
          rz_g32 (v1 + 1) <|
          x137_mend_13 F n (v1 + 1) A7
      else
        some (v1, A4)
    else
      some ((-9), A)
theorem cx137_mend_13 {d : Nat} (F : Nat) : ∀ (n : Nat) (v1 : Int) (A : rz_A) (r : Int) (A' : rz_A), x137_mend_13 F n v1 A = some (r, A') → r32 v1 → wf A → rz_B (d + 6) 137 13 [some (.ref 0), some (vI v1), none, none, none, none] [] A (some (vI r)) A' (r32 r) := by
  intro n
  induction n with
  | zero => intro v1 A r A' h; cases h
  | succ n ih =>
    intro v1 A r A' h hv1 hw
    rw [x137_mend_13] at h
    refine rz_B.go 4 (pc' := if decide (Int32.ofInt (A.1 0 14) ≤ Int32.ofInt v1) = true then 74 else 21) (L' := [some (.ref 0), some (vI v1), none, none, none, none]) (S' := []) rfl ?_
    by_cases hc1 : v1 < (A.1 0 14)
    · have h := if_T h hc1
      refine rz_B.ifF (mt (le32 (hw 0 14).1 hv1).mp (Int.not_le.mpr hc1)) ?_
      refine rz_B.go 3 (pc' := 26) (L' := [some (.ref 0), some (vI v1), none, none, none, none]) (S' := [vI v1, .ref 90]) rfl ?_
      obtain ⟨hi2, hj3, h⟩ := rz_gx_inv h
      refine rz_B.iald rfl rfl hi2 hj3 (by decide) ?_
      refine rz_B.i2l rfl (hw 90 (v1).toNat).1 ?_
      refine rz_B.go 3 (pc' := 31) (L' := [some (.ref 0), some (vI v1), some (vL (A.1 90 (v1).toNat)), none, none, none]) (S' := [vI v1, .ref 0]) rfl ?_
      obtain ⟨r4, A4, hf4, h⟩ := rz_b_inv h
      obtain ⟨hg4, hr4, hw4⟩ := cx136_flowNow F (d := d + 0) hf4 hv1 hw
      refine rz_B.call (d := d + 5) (as := [.ref 0, vI v1]) (rest := []) (w := some (vI r4)) rfl hg4 ?_
      refine rz_B.i2l rfl hr4 ?_
      refine rz_B.go 5 (pc' := if decide (lg_cmp (Int64.ofInt r4) (Int64.ofInt 0) < 0) = true then 66 else 44) (L' := [some (.ref 0), some (vI v1), some (vL (A.1 90 (v1).toNat)), none, some (vL r4), none]) (S' := []) rfl ?_
      by_cases hc5 : 0 ≤ r4
      · have h := if_T h hc5
        refine rz_B.ifF (mt (cmp_lt (r64_of hr4) (by decide)).mp (Int.not_lt.mpr hc5)) ?_
        refine rz_B.go 2 (pc' := 47) (L' := [some (.ref 0), some (vI v1), some (vL (A.1 90 (v1).toNat)), none, some (vL r4), none]) (S' := [vL (A.1 90 (v1).toNat), vL r4]) rfl ?_
        obtain ⟨hk6, h⟩ := rz_g64_inv h
        refine rz_B.lsub rfl ?_
        obtain ⟨r7, A7, hf7, h⟩ := rz_b_inv h
        obtain ⟨hg7, hr7, hw7⟩ := cx138_abs F (d := d + 5) hf7 hk6 hw4
        refine rz_B.call (d := d + 5) (as := [vL (r4 - (A.1 90 (v1).toNat))]) (rest := []) (w := some (vL r7)) rfl hg7 ?_
        refine rz_B.go 1 (pc' := 54) (L' := [some (.ref 0), some (vI v1), some (vL (A.1 90 (v1).toNat)), none, some (vL r4), none]) (S' := [vL 100, vL r7]) rfl ?_
        obtain ⟨hk8, h⟩ := rz_g64_inv h
        refine rz_B.lmul rfl ?_
        refine rz_B.go 3 (pc' := 60) (L' := [some (.ref 0), some (vI v1), some (vL (A.1 90 (v1).toNat)), none, some (vL r4), none]) (S' := [vI (A7.1 0 15), vL (A.1 90 (v1).toNat), vL (r7 * 100)]) rfl ?_
        refine rz_B.i2l rfl (hw7 0 15).1 ?_
        obtain ⟨hk9, h⟩ := rz_g64_inv h
        refine rz_B.lmul rfl ?_
        refine rz_B.go 2 (pc' := if decide (lg_cmp (Int64.ofInt (r7 * 100)) (Int64.ofInt ((A.1 90 (v1).toNat) * (A7.1 0 15))) ≤ 0) = true then 68 else 66) (L' := [some (.ref 0), some (vI v1), some (vL (A.1 90 (v1).toNat)), none, some (vL r4), none]) (S' := []) rfl ?_
        by_cases hc10 : ((A.1 90 (v1).toNat) * (A7.1 0 15)) < (r7 * 100)
        · have h := if_T h hc10
          refine rz_B.ifF (mt (cmp_le hk8 hk9).mp (Int.not_le.mpr hc10)) ?_
          refine rz_B.go 1 (pc' := 67) (L' := [some (.ref 0), some (vI v1), some (vL (A.1 90 (v1).toNat)), none, some (vL r4), none]) (S' := [vI v1]) rfl ?_
          cases h
          exact rz_B.ret rfl hv1 hw7
        · have h := if_F h hc10
          refine rz_B.ifT ((cmp_le hk8 hk9).mpr (Int.not_lt.mp hc10)) ?_
          obtain ⟨hk11, h⟩ := rz_g32_inv h
          refine rz_B.iinc rfl (by decide) rfl (L' := [some (.ref 0), some (vI (v1 + 1)), some (vL (A.1 90 (v1).toNat)), none, some (vL r4), none]) rfl ?_
          refine rz_B.go 1 (pc' := 13) (L' := [some (.ref 0), some (vI (v1 + 1)), some (vL (A.1 90 (v1).toNat)), none, some (vL r4), none]) (S' := []) rfl ?_
          refine rz_B.more (rg_le_ok (L := [some (.ref 0), some (vI (v1 + 1)), none, none, none, none]) (by simp [rg_le])) ?_
          exact ih _ _ _ _ h hk11 hw7
      · have h := if_F h hc5
        refine rz_B.ifT ((cmp_lt (r64_of hr4) (by decide)).mpr (Int.not_le.mp hc5)) ?_
        refine rz_B.go 1 (pc' := 67) (L' := [some (.ref 0), some (vI v1), some (vL (A.1 90 (v1).toNat)), none, some (vL r4), none]) (S' := [vI v1]) rfl ?_
        cases h
        exact rz_B.ret rfl hv1 hw4
    · have h := if_F h hc1
      refine rz_B.ifT ((le32 (hw 0 14).1 hv1).mpr (Int.not_lt.mp hc1)) ?_
      refine rz_B.go 1 (pc' := 76) (L' := [some (.ref 0), some (vI v1), none, none, none, none]) (S' := [vI (-9)]) rfl ?_
      cases h
      exact rz_B.ret rfl (by decide) hw
/-- RiverGauge.mend()I -/
def x137_mend (F : Nat) (A : rz_A) : Option (Int × rz_A) :=
  rz_b (x20_see F (A.1 0 16) A) fun _ A1 =>
  x137_mend_13 F F 0 A1
theorem cx137_mend (F : Nat) {d : Nat} {A : rz_A} {r : Int} {A' : rz_A} (h : x137_mend F A = some (r, A')) (hw : wf A) : rg_Rn (d + 6) 137 [.ref 0] (toM A) (some (vI r)) (toM A') ∧ (r32 r) ∧ wf A' := by
  show rz_B (d + 6) 137 0 [some (.ref 0), none, none, none, none, none] [] A (some (vI r)) A' (r32 r)
  unfold x137_mend at h
  refine rz_B.go 4 (pc' := 8) (L' := [some (.ref 0), none, none, none, none, none]) (S' := [vI (A.1 0 16), .ref 51]) rfl ?_
  obtain ⟨_, A1, hf1, h⟩ := rz_b_inv h
  obtain ⟨hg1, hr1, hw1⟩ := cx20_see F (d := d + 0) hf1 (hw 0 16).1 hw
  refine rz_B.call (d := d + 5) (as := [.ref 51, vI (A.1 0 16)]) (rest := []) (w := none) rfl hg1 ?_
  refine rz_B.go 2 (pc' := 13) (L' := [some (.ref 0), some (vI 0), none, none, none, none]) (S' := []) rfl ?_
  refine rz_B.more (rg_le_ok (L := [some (.ref 0), some (vI 0), none, none, none, none]) (by simp [rg_le])) ?_
  exact cx137_mend_13 F F _ _ _ _ h (by decide) hw1
/-- RiverGauge.limit(I)I -/
def x139_limit (F : Nat) (a0 : Int) (A : rz_A) : Option (Int × rz_A) :=
  if a0 < 0 then
    rz_b (x1_refuse F (-4) A) fun r2 A2 =>
    some (r2, A2)
  else
    if 100 < a0 then
      rz_b (x1_refuse F (-6) A) fun r4 A4 =>
      some (r4, A4)
    else
      some ((A.1 0 15), (aI A 0 15 a0))
theorem cx139_limit (F : Nat) {d : Nat} {a0 : Int} {A : rz_A} {r : Int} {A' : rz_A} (h : x139_limit F a0 A = some (r, A')) (ha0 : r32 a0) (hw : wf A) : rg_Rn (d + 1) 139 [.ref 0, vI a0] (toM A) (some (vI r)) (toM A') ∧ (r32 r) ∧ wf A' := by
  show rz_B (d + 1) 139 0 [some (.ref 0), some (vI a0), none] [] A (some (vI r)) A' (r32 r)
  unfold x139_limit at h
  refine rz_B.go 2 (pc' := if decide (Int32.ofInt 0 ≤ Int32.ofInt a0) = true then 11 else 4) (L' := [some (.ref 0), some (vI a0), none]) (S' := []) rfl ?_
  by_cases hc1 : a0 < 0
  · have h := if_T h hc1
    refine rz_B.ifF (mt (le32 (by decide) ha0).mp (Int.not_le.mpr hc1)) ?_
    refine rz_B.go 2 (pc' := 7) (L' := [some (.ref 0), some (vI a0), none]) (S' := [vI (-4), .ref 0]) rfl ?_
    obtain ⟨r2, A2, hf2, h⟩ := rz_b_inv h
    obtain ⟨hg2, hr2, hw2⟩ := cx1_refuse F (d := d + 0) hf2 (by decide) hw
    refine rz_B.call (d := d + 0) (as := [.ref 0, vI (-4)]) (rest := []) (w := some (vI r2)) rfl hg2 ?_
    cases h
    exact rz_B.ret rfl hr2 hw2
  · have h := if_F h hc1
    refine rz_B.ifT ((le32 (by decide) ha0).mpr (Int.not_lt.mp hc1)) ?_
    refine rz_B.go 3 (pc' := if decide (Int32.ofInt a0 ≤ Int32.ofInt 100) = true then 24 else 17) (L' := [some (.ref 0), some (vI a0), none]) (S' := []) rfl ?_
    by_cases hc3 : 100 < a0
    · have h := if_T h hc3
      refine rz_B.ifF (mt (le32 ha0 (by decide)).mp (Int.not_le.mpr hc3)) ?_
      refine rz_B.go 2 (pc' := 20) (L' := [some (.ref 0), some (vI a0), none]) (S' := [vI (-6), .ref 0]) rfl ?_
      obtain ⟨r4, A4, hf4, h⟩ := rz_b_inv h
      obtain ⟨hg4, hr4, hw4⟩ := cx1_refuse F (d := d + 0) hf4 (by decide) hw
      refine rz_B.call (d := d + 0) (as := [.ref 0, vI (-6)]) (rest := []) (w := some (vI r4)) rfl hg4 ?_
      cases h
      exact rz_B.ret rfl hr4 hw4
    · have h := if_F h hc3
      refine rz_B.ifT ((le32 ha0 (by decide)).mpr (Int.not_lt.mp hc3)) ?_
      refine rz_B.put 6 (pc' := 34) (L' := [some (.ref 0), some (vI a0), some (vI (A.1 0 15))]) (S' := []) (c := 0) (k := 15) (x := a0) rfl ?_
      have hw5 : wf (aI A 0 15 a0) := wf_aI hw ha0
      refine rz_B.go 1 (pc' := 35) (L' := [some (.ref 0), some (vI a0), some (vI (A.1 0 15))]) (S' := [vI (A.1 0 15)]) rfl ?_
      cases h
      exact rz_B.ret rfl (hw 0 15).1 hw5
def x140_count_22 (F : Nat) (v1 : Int) (A : rz_A) : Option (Int × rz_A) :=
  if v1 = 0 then
    some ((A.1 0 16), A)
  else
    if v1 = 1 then
      some ((A.1 2 0), A)
    else
      if v1 = 2 then
        some ((A.1 2 1), A)
      else
        if v1 = 3 then
          some ((A.1 18 0), A)
        else
          if v1 = 4 then
            some ((A.1 18 1), A)
          else
            if v1 = 5 then
              some ((A.1 26 0), A)
            else
              if v1 = 6 then
                some ((A.1 43 0), A)
              else
                if v1 = 7 then
                  some ((A.1 0 14), A)
                else
                  if v1 = 8 then
                    some ((A.1 33 0), A)
                  else
                    if v1 = 9 then
                      some ((A.1 40 1), A)
                    else
                      if v1 = 10 then
                        some ((A.1 64 4), A)
                      else
                        some ((-9), A)
theorem cx140_count_22 {d : Nat} (F : Nat) : ∀ (v1 : Int) (A : rz_A) (r : Int) (A' : rz_A), x140_count_22 F v1 A = some (r, A') → r32 v1 → wf A → rz_B (d + 0) 140 22 [some (.ref 0), some (vI v1)] [] A (some (vI r)) A' (r32 r) := by
  intro v1 A r A' h hv1 hw
  unfold x140_count_22 at h
  refine rz_B.go 1 (pc' := 23) (L' := [some (.ref 0), some (vI v1)]) (S' := [vI v1]) rfl ?_
  by_cases hs1 : v1 = 0
  · have h := if_T h hs1
    have key : rz_B (d + 0) 140 80 [some (.ref 0), some (vI v1)] [] A (some (vI r)) A' (r32 r) := by
      refine rz_B.go 2 (pc' := 84) (L' := [some (.ref 0), some (vI v1)]) (S' := [vI (A.1 0 16)]) rfl ?_
      cases h
      exact rz_B.ret rfl (hw 0 16).1 hw
    have he := hs1
    · exact rz_B.tswI rfl hv1 (by omega) (off := 57) (by rw [he]; rfl) (by decide) rfl key
  · have h := if_F h hs1
    by_cases hs2 : v1 = 1
    · have h := if_T h hs2
      have key : rz_B (d + 0) 140 85 [some (.ref 0), some (vI v1)] [] A (some (vI r)) A' (r32 r) := by
        refine rz_B.go 3 (pc' := 92) (L' := [some (.ref 0), some (vI v1)]) (S' := [vI (A.1 2 0)]) rfl ?_
        cases h
        exact rz_B.ret rfl (hw 2 0).1 hw
      have he := hs2
      · exact rz_B.tswI rfl hv1 (by omega) (off := 62) (by rw [he]; rfl) (by decide) rfl key
    · have h := if_F h hs2
      by_cases hs3 : v1 = 2
      · have h := if_T h hs3
        have key : rz_B (d + 0) 140 93 [some (.ref 0), some (vI v1)] [] A (some (vI r)) A' (r32 r) := by
          refine rz_B.go 3 (pc' := 100) (L' := [some (.ref 0), some (vI v1)]) (S' := [vI (A.1 2 1)]) rfl ?_
          cases h
          exact rz_B.ret rfl (hw 2 1).1 hw
        have he := hs3
        · exact rz_B.tswI rfl hv1 (by omega) (off := 70) (by rw [he]; rfl) (by decide) rfl key
      · have h := if_F h hs3
        by_cases hs4 : v1 = 3
        · have h := if_T h hs4
          have key : rz_B (d + 0) 140 101 [some (.ref 0), some (vI v1)] [] A (some (vI r)) A' (r32 r) := by
            refine rz_B.go 3 (pc' := 108) (L' := [some (.ref 0), some (vI v1)]) (S' := [vI (A.1 18 0)]) rfl ?_
            cases h
            exact rz_B.ret rfl (hw 18 0).1 hw
          have he := hs4
          · exact rz_B.tswI rfl hv1 (by omega) (off := 78) (by rw [he]; rfl) (by decide) rfl key
        · have h := if_F h hs4
          by_cases hs5 : v1 = 4
          · have h := if_T h hs5
            have key : rz_B (d + 0) 140 109 [some (.ref 0), some (vI v1)] [] A (some (vI r)) A' (r32 r) := by
              refine rz_B.go 3 (pc' := 116) (L' := [some (.ref 0), some (vI v1)]) (S' := [vI (A.1 18 1)]) rfl ?_
              cases h
              exact rz_B.ret rfl (hw 18 1).1 hw
            have he := hs5
            · exact rz_B.tswI rfl hv1 (by omega) (off := 86) (by rw [he]; rfl) (by decide) rfl key
          · have h := if_F h hs5
            by_cases hs6 : v1 = 5
            · have h := if_T h hs6
              have key : rz_B (d + 0) 140 117 [some (.ref 0), some (vI v1)] [] A (some (vI r)) A' (r32 r) := by
                refine rz_B.go 3 (pc' := 124) (L' := [some (.ref 0), some (vI v1)]) (S' := [vI (A.1 26 0)]) rfl ?_
                cases h
                exact rz_B.ret rfl (hw 26 0).1 hw
              have he := hs6
              · exact rz_B.tswI rfl hv1 (by omega) (off := 94) (by rw [he]; rfl) (by decide) rfl key
            · have h := if_F h hs6
              by_cases hs7 : v1 = 6
              · have h := if_T h hs7
                have key : rz_B (d + 0) 140 125 [some (.ref 0), some (vI v1)] [] A (some (vI r)) A' (r32 r) := by
                  refine rz_B.go 3 (pc' := 132) (L' := [some (.ref 0), some (vI v1)]) (S' := [vI (A.1 43 0)]) rfl ?_
                  cases h
                  exact rz_B.ret rfl (hw 43 0).1 hw
                have he := hs7
                · exact rz_B.tswI rfl hv1 (by omega) (off := 102) (by rw [he]; rfl) (by decide) rfl key
              · have h := if_F h hs7
                by_cases hs8 : v1 = 7
                · have h := if_T h hs8
                  have key : rz_B (d + 0) 140 133 [some (.ref 0), some (vI v1)] [] A (some (vI r)) A' (r32 r) := by
                    refine rz_B.go 2 (pc' := 137) (L' := [some (.ref 0), some (vI v1)]) (S' := [vI (A.1 0 14)]) rfl ?_
                    cases h
                    exact rz_B.ret rfl (hw 0 14).1 hw
                  have he := hs8
                  · exact rz_B.tswI rfl hv1 (by omega) (off := 110) (by rw [he]; rfl) (by decide) rfl key
                · have h := if_F h hs8
                  by_cases hs9 : v1 = 8
                  · have h := if_T h hs9
                    have key : rz_B (d + 0) 140 138 [some (.ref 0), some (vI v1)] [] A (some (vI r)) A' (r32 r) := by
                      refine rz_B.go 3 (pc' := 145) (L' := [some (.ref 0), some (vI v1)]) (S' := [vI (A.1 33 0)]) rfl ?_
                      cases h
                      exact rz_B.ret rfl (hw 33 0).1 hw
                    have he := hs9
                    · exact rz_B.tswI rfl hv1 (by omega) (off := 115) (by rw [he]; rfl) (by decide) rfl key
                  · have h := if_F h hs9
                    by_cases hs10 : v1 = 9
                    · have h := if_T h hs10
                      have key : rz_B (d + 0) 140 146 [some (.ref 0), some (vI v1)] [] A (some (vI r)) A' (r32 r) := by
                        refine rz_B.go 3 (pc' := 153) (L' := [some (.ref 0), some (vI v1)]) (S' := [vI (A.1 40 1)]) rfl ?_
                        cases h
                        exact rz_B.ret rfl (hw 40 1).1 hw
                      have he := hs10
                      · exact rz_B.tswI rfl hv1 (by omega) (off := 123) (by rw [he]; rfl) (by decide) rfl key
                    · have h := if_F h hs10
                      by_cases hs11 : v1 = 10
                      · have h := if_T h hs11
                        have key : rz_B (d + 0) 140 154 [some (.ref 0), some (vI v1)] [] A (some (vI r)) A' (r32 r) := by
                          refine rz_B.go 3 (pc' := 161) (L' := [some (.ref 0), some (vI v1)]) (S' := [vI (A.1 64 4)]) rfl ?_
                          cases h
                          exact rz_B.ret rfl (hw 64 4).1 hw
                        have he := hs11
                        · exact rz_B.tswI rfl hv1 (by omega) (off := 131) (by rw [he]; rfl) (by decide) rfl key
                      · have h := if_F h hs11
                        have key : rz_B (d + 0) 140 162 [some (.ref 0), some (vI v1)] [] A (some (vI r)) A' (r32 r) := by
                          refine rz_B.go 1 (pc' := 164) (L' := [some (.ref 0), some (vI v1)]) (S' := [vI (-9)]) rfl ?_
                          cases h
                          exact rz_B.ret rfl (by decide) hw
                        exact rz_B.tswO rfl hv1 (by omega) (by decide) rfl key
/-- RiverGauge.count(I)I -/
def x140_count (F : Nat) (a0 : Int) (A : rz_A) : Option (Int × rz_A) :=
  if 11 ≤ a0 then
    if a0 ≤ 16 then
      rz_g32 (a0 - 11) <|
      rz_gx (a0 - 11) 6 <|
      some ((A.1 1 ((a0 - 11)).toNat), A)
    else
      x140_count_22 F a0 A
  else
    x140_count_22 F a0 A
theorem cx140_count (F : Nat) {d : Nat} {a0 : Int} {A : rz_A} {r : Int} {A' : rz_A} (h : x140_count F a0 A = some (r, A')) (ha0 : r32 a0) (hw : wf A) : rg_Rn (d + 0) 140 [.ref 0, vI a0] (toM A) (some (vI r)) (toM A') ∧ (r32 r) ∧ wf A' := by
  show rz_B (d + 0) 140 0 [some (.ref 0), some (vI a0)] [] A (some (vI r)) A' (r32 r)
  unfold x140_count at h
  refine rz_B.go 3 (pc' := if decide (Int32.ofInt a0 < Int32.ofInt 11) = true then 22 else 6) (L' := [some (.ref 0), some (vI a0)]) (S' := []) rfl ?_
  by_cases hc1 : 11 ≤ a0
  · have h := if_T h hc1
    refine rz_B.ifF (mt (lt32 ha0 (by decide)).mp (Int.not_lt.mpr hc1)) ?_
    refine rz_B.go 3 (pc' := if decide (Int32.ofInt 16 < Int32.ofInt a0) = true then 22 else 12) (L' := [some (.ref 0), some (vI a0)]) (S' := []) rfl ?_
    by_cases hc2 : a0 ≤ 16
    · have h := if_T h hc2
      refine rz_B.ifF (mt (lt32 (by decide) ha0).mp (Int.not_lt.mpr hc2)) ?_
      refine rz_B.go 4 (pc' := 19) (L' := [some (.ref 0), some (vI a0)]) (S' := [vI 11, vI a0, .ref 1]) rfl ?_
      obtain ⟨hk3, h⟩ := rz_g32_inv h
      refine rz_B.isub rfl ?_
      obtain ⟨hi4, hj5, h⟩ := rz_gx_inv h
      refine rz_B.iald rfl rfl hi4 hj5 (by decide) ?_
      cases h
      exact rz_B.ret rfl (hw 1 ((a0 - 11)).toNat).1 hw
    · have h := if_F h hc2
      refine rz_B.ifT ((lt32 (by decide) ha0).mpr (Int.not_le.mp hc2)) ?_
      refine rz_B.more (rg_le_ok (L := [some (.ref 0), some (vI a0)]) (by simp [rg_le])) ?_
      exact cx140_count_22 F _ _ _ _ h ha0 hw
  · have h := if_F h hc1
    refine rz_B.ifT ((lt32 ha0 (by decide)).mpr (Int.not_le.mp hc1)) ?_
    refine rz_B.more (rg_le_ok (L := [some (.ref 0), some (vI a0)]) (by simp [rg_le])) ?_
    exact cx140_count_22 F _ _ _ _ h ha0 hw
/-- RiverGaugeModel.no(I)I -/
def x142_no (F : Nat) (a0 : Int) (A : rz_A) : Option (Int × rz_A) :=
  rz_g32 (-a0) <|
  rz_gx (-a0) 7 <|
  rz_g32 ((A.1 132 ((-a0)).toNat) + 1) <|
  some (a0, (aI A 132 ((-a0)).toNat ((A.1 132 ((-a0)).toNat) + 1)))
theorem cx142_no (F : Nat) {d : Nat} {a0 : Int} {A : rz_A} {r : Int} {A' : rz_A} (h : x142_no F a0 A = some (r, A')) (ha0 : r32 a0) (hw : wf A) : rg_Rn (d + 0) 142 [.ref 91, vI a0] (toM A) (some (vI r)) (toM A') ∧ (r32 r) ∧ wf A' := by
  show rz_B (d + 0) 142 0 [some (.ref 91), some (vI a0)] [] A (some (vI r)) A' (r32 r)
  unfold x142_no at h
  refine rz_B.go 3 (pc' := 5) (L' := [some (.ref 91), some (vI a0)]) (S' := [vI a0, .ref 132]) rfl ?_
  obtain ⟨hk1, h⟩ := rz_g32_inv h
  refine rz_B.ineg rfl ?_
  refine rz_B.go 1 (pc' := 7) (L' := [some (.ref 91), some (vI a0)]) (S' := [vI (-a0), .ref 132, vI (-a0), .ref 132]) rfl ?_
  obtain ⟨hi2, hj3, h⟩ := rz_gx_inv h
  refine rz_B.iald rfl rfl hi2 hj3 (by decide) ?_
  refine rz_B.go 1 (pc' := 9) (L' := [some (.ref 91), some (vI a0)]) (S' := [vI 1, vI (A.1 132 ((-a0)).toNat), vI (-a0), .ref 132]) rfl ?_
  obtain ⟨hk4, h⟩ := rz_g32_inv h
  refine rz_B.iadd rfl ?_
  refine rz_B.iast rfl rfl hi2 hj3 (by decide) ?_
  have hw5 : wf (aI A 132 ((-a0)).toNat ((A.1 132 ((-a0)).toNat) + 1)) := wf_aI hw hk4
  refine rz_B.go 1 (pc' := 12) (L' := [some (.ref 91), some (vI a0)]) (S' := [vI a0]) rfl ?_
  cases h
  exact rz_B.ret rfl ha0 hw5
/-- RiverGaugeModel.go(I)I -/
def x141_go (F : Nat) (a0 : Int) (A : rz_A) : Option (Int × rz_A) :=
  if a0 < 1 then
    rz_b (x142_no F (-4) A) fun r2 A2 =>
    some (r2, A2)
  else
    rz_g32 (9999 - (A.1 91 0)) <|
    if (9999 - (A.1 91 0)) < a0 then
      rz_b (x142_no F (-6) A) fun r5 A5 =>
      some (r5, A5)
    else
      rz_g32 ((A.1 91 0) + a0) <|
      some (((A.1 91 0) + a0), (aI A 91 0 ((A.1 91 0) + a0)))
theorem cx141_go (F : Nat) {d : Nat} {a0 : Int} {A : rz_A} {r : Int} {A' : rz_A} (h : x141_go F a0 A = some (r, A')) (ha0 : r32 a0) (hw : wf A) : rg_Rn (d + 1) 141 [.ref 91, vI a0] (toM A) (some (vI r)) (toM A') ∧ (r32 r) ∧ wf A' := by
  show rz_B (d + 1) 141 0 [some (.ref 91), some (vI a0)] [] A (some (vI r)) A' (r32 r)
  unfold x141_go at h
  refine rz_B.go 3 (pc' := if decide (Int32.ofInt 1 ≤ Int32.ofInt a0) = true then 12 else 5) (L' := [some (.ref 91), some (vI a0)]) (S' := []) rfl ?_
  by_cases hc1 : a0 < 1
  · have h := if_T h hc1
    refine rz_B.ifF (mt (le32 (by decide) ha0).mp (Int.not_le.mpr hc1)) ?_
    refine rz_B.go 2 (pc' := 8) (L' := [some (.ref 91), some (vI a0)]) (S' := [vI (-4), .ref 91]) rfl ?_
    obtain ⟨r2, A2, hf2, h⟩ := rz_b_inv h
    obtain ⟨hg2, hr2, hw2⟩ := cx142_no F (d := d + 0) hf2 (by decide) hw
    refine rz_B.call (d := d + 0) (as := [.ref 91, vI (-4)]) (rest := []) (w := some (vI r2)) rfl hg2 ?_
    cases h
    exact rz_B.ret rfl hr2 hw2
  · have h := if_F h hc1
    refine rz_B.ifT ((le32 (by decide) ha0).mpr (Int.not_lt.mp hc1)) ?_
    refine rz_B.go 4 (pc' := 20) (L' := [some (.ref 91), some (vI a0)]) (S' := [vI (A.1 91 0), vI 9999, vI a0]) rfl ?_
    obtain ⟨hk3, h⟩ := rz_g32_inv h
    refine rz_B.isub rfl ?_
    refine rz_B.go 1 (pc' := if decide (Int32.ofInt a0 ≤ Int32.ofInt (9999 - (A.1 91 0))) = true then 31 else 24) (L' := [some (.ref 91), some (vI a0)]) (S' := []) rfl ?_
    by_cases hc4 : (9999 - (A.1 91 0)) < a0
    · have h := if_T h hc4
      refine rz_B.ifF (mt (le32 ha0 hk3).mp (Int.not_le.mpr hc4)) ?_
      refine rz_B.go 2 (pc' := 27) (L' := [some (.ref 91), some (vI a0)]) (S' := [vI (-6), .ref 91]) rfl ?_
      obtain ⟨r5, A5, hf5, h⟩ := rz_b_inv h
      obtain ⟨hg5, hr5, hw5⟩ := cx142_no F (d := d + 0) hf5 (by decide) hw
      refine rz_B.call (d := d + 0) (as := [.ref 91, vI (-6)]) (rest := []) (w := some (vI r5)) rfl hg5 ?_
      cases h
      exact rz_B.ret rfl hr5 hw5
    · have h := if_F h hc4
      refine rz_B.ifT ((le32 ha0 hk3).mpr (Int.not_lt.mp hc4)) ?_
      refine rz_B.go 4 (pc' := 37) (L' := [some (.ref 91), some (vI a0)]) (S' := [vI a0, vI (A.1 91 0), .ref 91]) rfl ?_
      obtain ⟨hk6, h⟩ := rz_g32_inv h
      refine rz_B.iadd rfl ?_
      refine rz_B.put 1 (pc' := 41) (L' := [some (.ref 91), some (vI a0)]) (S' := []) (c := 91) (k := 0) (x := ((A.1 91 0) + a0)) rfl ?_
      have hw7 : wf (aI A 91 0 ((A.1 91 0) + a0)) := wf_aI hw hk6
      refine rz_B.go 2 (pc' := 45) (L' := [some (.ref 91), some (vI a0)]) (S' := [vI ((A.1 91 0) + a0)]) rfl ?_
      cases h
      exact rz_B.ret rfl hk6 hw7
/-- RiverGaugeModel.post(I)I -/
def x143_post (F : Nat) (a0 : Int) (A : rz_A) : Option (Int × rz_A) :=
  if a0 < (-999) then
    rz_b (x142_no F (-4) A) fun r2 A2 =>
    some (r2, A2)
  else
    if a0 ≤ 999 then
      if (A.1 91 1) = 6 then
        rz_b (x142_no F (-6) A) fun r5 A5 =>
        some (r5, A5)
      else
        rz_gx (A.1 91 1) 6 <|
        rz_g32 ((A.1 91 1) + 1) <|
        some ((A.1 91 1), (aI (aI (aI (aI A 92 ((A.1 91 1)).toNat a0) 93 ((A.1 91 1)).toNat (-2000)) 94 ((A.1 91 1)).toNat (-1)) 91 1 ((A.1 91 1) + 1)))
    else
      rz_b (x142_no F (-6) A) fun r13 A13 =>
      some (r13, A13)
theorem cx143_post (F : Nat) {d : Nat} {a0 : Int} {A : rz_A} {r : Int} {A' : rz_A} (h : x143_post F a0 A = some (r, A')) (ha0 : r32 a0) (hw : wf A) : rg_Rn (d + 1) 143 [.ref 91, vI a0] (toM A) (some (vI r)) (toM A') ∧ (r32 r) ∧ wf A' := by
  show rz_B (d + 1) 143 0 [some (.ref 91), some (vI a0)] [] A (some (vI r)) A' (r32 r)
  unfold x143_post at h
  refine rz_B.go 3 (pc' := if decide (Int32.ofInt (-999) ≤ Int32.ofInt a0) = true then 14 else 7) (L' := [some (.ref 91), some (vI a0)]) (S' := []) rfl ?_
  by_cases hc1 : a0 < (-999)
  · have h := if_T h hc1
    refine rz_B.ifF (mt (le32 (by decide) ha0).mp (Int.not_le.mpr hc1)) ?_
    refine rz_B.go 2 (pc' := 10) (L' := [some (.ref 91), some (vI a0)]) (S' := [vI (-4), .ref 91]) rfl ?_
    obtain ⟨r2, A2, hf2, h⟩ := rz_b_inv h
    obtain ⟨hg2, hr2, hw2⟩ := cx142_no F (d := d + 0) hf2 (by decide) hw
    refine rz_B.call (d := d + 0) (as := [.ref 91, vI (-4)]) (rest := []) (w := some (vI r2)) rfl hg2 ?_
    cases h
    exact rz_B.ret rfl hr2 hw2
  · have h := if_F h hc1
    refine rz_B.ifT ((le32 (by decide) ha0).mpr (Int.not_lt.mp hc1)) ?_
    refine rz_B.go 3 (pc' := if decide (Int32.ofInt 999 < Int32.ofInt a0) = true then 30 else 21) (L' := [some (.ref 91), some (vI a0)]) (S' := []) rfl ?_
    by_cases hc3 : a0 ≤ 999
    · have h := if_T h hc3
      refine rz_B.ifF (mt (lt32 (by decide) ha0).mp (Int.not_lt.mpr hc3)) ?_
      refine rz_B.go 4 (pc' := if decide (¬ Int32.ofInt (A.1 91 1) = Int32.ofInt 6) = true then 37 else 30) (L' := [some (.ref 91), some (vI a0)]) (S' := []) rfl ?_
      by_cases hc4 : (A.1 91 1) = 6
      · have h := if_T h hc4
        refine rz_B.ifF (fun hn => hn ((eq32 (hw 91 1).1 (by decide)).mpr hc4)) ?_
        refine rz_B.go 2 (pc' := 33) (L' := [some (.ref 91), some (vI a0)]) (S' := [vI (-6), .ref 91]) rfl ?_
        obtain ⟨r5, A5, hf5, h⟩ := rz_b_inv h
        obtain ⟨hg5, hr5, hw5⟩ := cx142_no F (d := d + 0) hf5 (by decide) hw
        refine rz_B.call (d := d + 0) (as := [.ref 91, vI (-6)]) (rest := []) (w := some (vI r5)) rfl hg5 ?_
        cases h
        exact rz_B.ret rfl hr5 hw5
      · have h := if_F h hc4
        refine rz_B.ifT (mt (eq32 (hw 91 1).1 (by decide)).mp hc4) ?_
        refine rz_B.go 5 (pc' := 46) (L' := [some (.ref 91), some (vI a0)]) (S' := [vI a0, vI (A.1 91 1), .ref 92]) rfl ?_
        obtain ⟨hi6, hj7, h⟩ := rz_gx_inv h
        refine rz_B.iast rfl rfl hi6 hj7 (by decide) ?_
        have hw8 : wf (aI A 92 ((A.1 91 1)).toNat a0) := wf_aI hw ha0
        refine rz_B.go 5 (pc' := 58) (L' := [some (.ref 91), some (vI a0)]) (S' := [vI (-2000), vI (A.1 91 1), .ref 93]) rfl ?_
        refine rz_B.iast rfl rfl hi6 hj7 (by decide) ?_
        have hw9 : wf (aI (aI A 92 ((A.1 91 1)).toNat a0) 93 ((A.1 91 1)).toNat (-2000)) := wf_aI hw8 (by decide)
        refine rz_B.go 5 (pc' := 68) (L' := [some (.ref 91), some (vI a0)]) (S' := [vI (-1), vI (A.1 91 1), .ref 94]) rfl ?_
        refine rz_B.iast rfl rfl hi6 hj7 (by decide) ?_
        have hw10 : wf (aI (aI (aI A 92 ((A.1 91 1)).toNat a0) 93 ((A.1 91 1)).toNat (-2000)) 94 ((A.1 91 1)).toNat (-1)) := wf_aI hw9 (by decide)
        refine rz_B.go 5 (pc' := 76) (L' := [some (.ref 91), some (vI a0)]) (S' := [vI 1, vI (A.1 91 1), .ref 91, vI (A.1 91 1)]) rfl ?_
        obtain ⟨hk11, h⟩ := rz_g32_inv h
        refine rz_B.iadd rfl ?_
        refine rz_B.put 1 (pc' := 80) (L' := [some (.ref 91), some (vI a0)]) (S' := [vI (A.1 91 1)]) (c := 91) (k := 1) (x := ((A.1 91 1) + 1)) rfl ?_
        have hw12 : wf (aI (aI (aI (aI A 92 ((A.1 91 1)).toNat a0) 93 ((A.1 91 1)).toNat (-2000)) 94 ((A.1 91 1)).toNat (-1)) 91 1 ((A.1 91 1) + 1)) := wf_aI hw10 hk11
        cases h
        exact rz_B.ret rfl (hw 91 1).1 hw12
    · have h := if_F h hc3
      refine rz_B.ifT ((lt32 (by decide) ha0).mpr (Int.not_le.mp hc3)) ?_
      refine rz_B.go 2 (pc' := 33) (L' := [some (.ref 91), some (vI a0)]) (S' := [vI (-6), .ref 91]) rfl ?_
      obtain ⟨r13, A13, hf13, h⟩ := rz_b_inv h
      obtain ⟨hg13, hr13, hw13⟩ := cx142_no F (d := d + 0) hf13 (by decide) hw
      refine rz_B.call (d := d + 0) (as := [.ref 91, vI (-6)]) (rest := []) (w := some (vI r13)) rfl hg13 ?_
      cases h
      exact rz_B.ret rfl hr13 hw13
/-- RiverGaugeModel.isPost(I)Z -/
def x145_isPost (F : Nat) (a0 : Int) (A : rz_A) : Option (Int × rz_A) :=
  if 0 ≤ a0 then
    if a0 < (A.1 91 1) then
      some (1, A)
    else
      some (0, A)
  else
    some (0, A)
theorem cx145_isPost (F : Nat) {d : Nat} {a0 : Int} {A : rz_A} {r : Int} {A' : rz_A} (h : x145_isPost F a0 A = some (r, A')) (ha0 : r32 a0) (hw : wf A) : rg_Rn (d + 0) 145 [.ref 91, vI a0] (toM A) (some (vI r)) (toM A') ∧ (r32 r) ∧ wf A' := by
  show rz_B (d + 0) 145 0 [some (.ref 91), some (vI a0)] [] A (some (vI r)) A' (r32 r)
  unfold x145_isPost at h
  refine rz_B.go 2 (pc' := if decide (Int32.ofInt a0 < Int32.ofInt 0) = true then 16 else 4) (L' := [some (.ref 91), some (vI a0)]) (S' := []) rfl ?_
  by_cases hc1 : 0 ≤ a0
  · have h := if_T h hc1
    refine rz_B.ifF (mt (lt32 ha0 (by decide)).mp (Int.not_lt.mpr hc1)) ?_
    refine rz_B.go 4 (pc' := if decide (Int32.ofInt (A.1 91 1) ≤ Int32.ofInt a0) = true then 16 else 12) (L' := [some (.ref 91), some (vI a0)]) (S' := []) rfl ?_
    by_cases hc2 : a0 < (A.1 91 1)
    · have h := if_T h hc2
      refine rz_B.ifF (mt (le32 (hw 91 1).1 ha0).mp (Int.not_le.mpr hc2)) ?_
      refine rz_B.go 2 (pc' := 17) (L' := [some (.ref 91), some (vI a0)]) (S' := [vI 1]) rfl ?_
      cases h
      exact rz_B.ret rfl (by decide) hw
    · have h := if_F h hc2
      refine rz_B.ifT ((le32 (hw 91 1).1 ha0).mpr (Int.not_lt.mp hc2)) ?_
      refine rz_B.go 1 (pc' := 17) (L' := [some (.ref 91), some (vI a0)]) (S' := [vI 0]) rfl ?_
      cases h
      exact rz_B.ret rfl (by decide) hw
  · have h := if_F h hc1
    refine rz_B.ifT ((lt32 ha0 (by decide)).mpr (Int.not_le.mp hc1)) ?_
    refine rz_B.go 1 (pc' := 17) (L' := [some (.ref 91), some (vI a0)]) (S' := [vI 0]) rfl ?_
    cases h
    exact rz_B.ret rfl (by decide) hw
/-- RiverGaugeModel.moved(III)I -/
def x144_moved (F : Nat) (a0 : Int) (a1 : Int) (a2 : Int) (A : rz_A) : Option (Int × rz_A) :=
  rz_b (x145_isPost F a0 A) fun r1 A1 =>
  if r1 = 0 then
    rz_b (x142_no F (-1) A1) fun r3 A3 =>
    some (r3, A3)
  else
    if (-999) ≤ a1 then
      if a2 < 0 then
        rz_b (x142_no F (-4) A1) fun r6 A6 =>
        some (r6, A6)
      else
        if a1 ≤ 999 then
          if a2 ≤ (A1.1 91 0) then
            if (A1.1 91 2) = 60 then
              rz_b (x142_no F (-6) A1) fun r10 A10 =>
              some (r10, A10)
            else
              rz_gx (A1.1 91 2) 60 <|
              rz_g32 ((A1.1 91 11) + 1) <|
              rz_g32 ((A1.1 91 2) + 1) <|
              some (((A1.1 91 2) + 1), (aI (aI (aI (aI (aI (aI A1 100 ((A1.1 91 2)).toNat a0) 101 ((A1.1 91 2)).toNat a1) 102 ((A1.1 91 2)).toNat a2) 103 ((A1.1 91 2)).toNat (A1.1 91 0)) 91 11 ((A1.1 91 11) + 1)) 91 2 ((A1.1 91 2) + 1)))
          else
            rz_b (x142_no F (-6) A1) fun r21 A21 =>
            some (r21, A21)
        else
          rz_b (x142_no F (-6) A1) fun r22 A22 =>
          some (r22, A22)
    else
      rz_b (x142_no F (-4) A1) fun r23 A23 =>
      some (r23, A23)
theorem cx144_moved (F : Nat) {d : Nat} {a0 : Int} {a1 : Int} {a2 : Int} {A : rz_A} {r : Int} {A' : rz_A} (h : x144_moved F a0 a1 a2 A = some (r, A')) (ha0 : r32 a0) (ha1 : r32 a1) (ha2 : r32 a2) (hw : wf A) : rg_Rn (d + 1) 144 [.ref 91, vI a0, vI a1, vI a2] (toM A) (some (vI r)) (toM A') ∧ (r32 r) ∧ wf A' := by
  show rz_B (d + 1) 144 0 [some (.ref 91), some (vI a0), some (vI a1), some (vI a2)] [] A (some (vI r)) A' (r32 r)
  unfold x144_moved at h
  refine rz_B.go 2 (pc' := 2) (L' := [some (.ref 91), some (vI a0), some (vI a1), some (vI a2)]) (S' := [vI a0, .ref 91]) rfl ?_
  obtain ⟨r1, A1, hf1, h⟩ := rz_b_inv h
  obtain ⟨hg1, hr1, hw1⟩ := cx145_isPost F (d := d + 0) hf1 ha0 hw
  refine rz_B.call (d := d + 0) (as := [.ref 91, vI a0]) (rest := []) (w := some (vI r1)) rfl hg1 ?_
  refine rz_B.go 1 (pc' := if decide (¬ Int32.ofInt r1 = Int32.ofInt 0) = true then 14 else 8) (L' := [some (.ref 91), some (vI a0), some (vI a1), some (vI a2)]) (S' := []) rfl ?_
  by_cases hc2 : r1 = 0
  · have h := if_T h hc2
    refine rz_B.ifF (fun hn => hn ((eq32 hr1 (by decide)).mpr hc2)) ?_
    refine rz_B.go 2 (pc' := 10) (L' := [some (.ref 91), some (vI a0), some (vI a1), some (vI a2)]) (S' := [vI (-1), .ref 91]) rfl ?_
    obtain ⟨r3, A3, hf3, h⟩ := rz_b_inv h
    obtain ⟨hg3, hr3, hw3⟩ := cx142_no F (d := d + 0) hf3 (by decide) hw1
    refine rz_B.call (d := d + 0) (as := [.ref 91, vI (-1)]) (rest := []) (w := some (vI r3)) rfl hg3 ?_
    cases h
    exact rz_B.ret rfl hr3 hw3
  · have h := if_F h hc2
    refine rz_B.ifT (mt (eq32 hr1 (by decide)).mp hc2) ?_
    refine rz_B.go 3 (pc' := if decide (Int32.ofInt a1 < Int32.ofInt (-999)) = true then 25 else 21) (L' := [some (.ref 91), some (vI a0), some (vI a1), some (vI a2)]) (S' := []) rfl ?_
    by_cases hc4 : (-999) ≤ a1
    · have h := if_T h hc4
      refine rz_B.ifF (mt (lt32 ha1 (by decide)).mp (Int.not_lt.mpr hc4)) ?_
      refine rz_B.go 2 (pc' := if decide (Int32.ofInt 0 ≤ Int32.ofInt a2) = true then 32 else 25) (L' := [some (.ref 91), some (vI a0), some (vI a1), some (vI a2)]) (S' := []) rfl ?_
      by_cases hc5 : a2 < 0
      · have h := if_T h hc5
        refine rz_B.ifF (mt (le32 (by decide) ha2).mp (Int.not_le.mpr hc5)) ?_
        refine rz_B.go 2 (pc' := 28) (L' := [some (.ref 91), some (vI a0), some (vI a1), some (vI a2)]) (S' := [vI (-4), .ref 91]) rfl ?_
        obtain ⟨r6, A6, hf6, h⟩ := rz_b_inv h
        obtain ⟨hg6, hr6, hw6⟩ := cx142_no F (d := d + 0) hf6 (by decide) hw1
        refine rz_B.call (d := d + 0) (as := [.ref 91, vI (-4)]) (rest := []) (w := some (vI r6)) rfl hg6 ?_
        cases h
        exact rz_B.ret rfl hr6 hw6
      · have h := if_F h hc5
        refine rz_B.ifT ((le32 (by decide) ha2).mpr (Int.not_lt.mp hc5)) ?_
        refine rz_B.go 3 (pc' := if decide (Int32.ofInt 999 < Int32.ofInt a1) = true then 56 else 39) (L' := [some (.ref 91), some (vI a0), some (vI a1), some (vI a2)]) (S' := []) rfl ?_
        by_cases hc7 : a1 ≤ 999
        · have h := if_T h hc7
          refine rz_B.ifF (mt (lt32 (by decide) ha1).mp (Int.not_lt.mpr hc7)) ?_
          refine rz_B.go 4 (pc' := if decide (Int32.ofInt (A1.1 91 0) < Int32.ofInt a2) = true then 56 else 47) (L' := [some (.ref 91), some (vI a0), some (vI a1), some (vI a2)]) (S' := []) rfl ?_
          by_cases hc8 : a2 ≤ (A1.1 91 0)
          · have h := if_T h hc8
            refine rz_B.ifF (mt (lt32 (hw1 91 0).1 ha2).mp (Int.not_lt.mpr hc8)) ?_
            refine rz_B.go 4 (pc' := if decide (¬ Int32.ofInt (A1.1 91 2) = Int32.ofInt 60) = true then 63 else 56) (L' := [some (.ref 91), some (vI a0), some (vI a1), some (vI a2)]) (S' := []) rfl ?_
            by_cases hc9 : (A1.1 91 2) = 60
            · have h := if_T h hc9
              refine rz_B.ifF (fun hn => hn ((eq32 (hw1 91 2).1 (by decide)).mpr hc9)) ?_
              refine rz_B.go 2 (pc' := 59) (L' := [some (.ref 91), some (vI a0), some (vI a1), some (vI a2)]) (S' := [vI (-6), .ref 91]) rfl ?_
              obtain ⟨r10, A10, hf10, h⟩ := rz_b_inv h
              obtain ⟨hg10, hr10, hw10⟩ := cx142_no F (d := d + 0) hf10 (by decide) hw1
              refine rz_B.call (d := d + 0) (as := [.ref 91, vI (-6)]) (rest := []) (w := some (vI r10)) rfl hg10 ?_
              cases h
              exact rz_B.ret rfl hr10 hw10
            · have h := if_F h hc9
              refine rz_B.ifT (mt (eq32 (hw1 91 2).1 (by decide)).mp hc9) ?_
              refine rz_B.go 5 (pc' := 72) (L' := [some (.ref 91), some (vI a0), some (vI a1), some (vI a2)]) (S' := [vI a0, vI (A1.1 91 2), .ref 100]) rfl ?_
              obtain ⟨hi11, hj12, h⟩ := rz_gx_inv h
              refine rz_B.iast rfl rfl hi11 hj12 (by decide) ?_
              have hw13 : wf (aI A1 100 ((A1.1 91 2)).toNat a0) := wf_aI hw1 ha0
              refine rz_B.go 5 (pc' := 82) (L' := [some (.ref 91), some (vI a0), some (vI a1), some (vI a2)]) (S' := [vI a1, vI (A1.1 91 2), .ref 101]) rfl ?_
              refine rz_B.iast rfl rfl hi11 hj12 (by decide) ?_
              have hw14 : wf (aI (aI A1 100 ((A1.1 91 2)).toNat a0) 101 ((A1.1 91 2)).toNat a1) := wf_aI hw13 ha1
              refine rz_B.go 5 (pc' := 92) (L' := [some (.ref 91), some (vI a0), some (vI a1), some (vI a2)]) (S' := [vI a2, vI (A1.1 91 2), .ref 102]) rfl ?_
              refine rz_B.iast rfl rfl hi11 hj12 (by decide) ?_
              have hw15 : wf (aI (aI (aI A1 100 ((A1.1 91 2)).toNat a0) 101 ((A1.1 91 2)).toNat a1) 102 ((A1.1 91 2)).toNat a2) := wf_aI hw14 ha2
              refine rz_B.go 6 (pc' := 105) (L' := [some (.ref 91), some (vI a0), some (vI a1), some (vI a2)]) (S' := [vI (A1.1 91 0), vI (A1.1 91 2), .ref 103]) rfl ?_
              refine rz_B.iast rfl rfl hi11 hj12 (by decide) ?_
              have hw16 : wf (aI (aI (aI (aI A1 100 ((A1.1 91 2)).toNat a0) 101 ((A1.1 91 2)).toNat a1) 102 ((A1.1 91 2)).toNat a2) 103 ((A1.1 91 2)).toNat (A1.1 91 0)) := wf_aI hw15 (hw1 91 0).1
              refine rz_B.go 4 (pc' := 112) (L' := [some (.ref 91), some (vI a0), some (vI a1), some (vI a2)]) (S' := [vI 1, vI (A1.1 91 11), .ref 91]) rfl ?_
              obtain ⟨hk17, h⟩ := rz_g32_inv h
              refine rz_B.iadd rfl ?_
              refine rz_B.put 1 (pc' := 116) (L' := [some (.ref 91), some (vI a0), some (vI a1), some (vI a2)]) (S' := []) (c := 91) (k := 11) (x := ((A1.1 91 11) + 1)) rfl ?_
              have hw18 : wf (aI (aI (aI (aI (aI A1 100 ((A1.1 91 2)).toNat a0) 101 ((A1.1 91 2)).toNat a1) 102 ((A1.1 91 2)).toNat a2) 103 ((A1.1 91 2)).toNat (A1.1 91 0)) 91 11 ((A1.1 91 11) + 1)) := wf_aI hw16 hk17
              refine rz_B.go 4 (pc' := 122) (L' := [some (.ref 91), some (vI a0), some (vI a1), some (vI a2)]) (S' := [vI 1, vI (A1.1 91 2), .ref 91]) rfl ?_
              obtain ⟨hk19, h⟩ := rz_g32_inv h
              refine rz_B.iadd rfl ?_
              refine rz_B.put 2 (pc' := 127) (L' := [some (.ref 91), some (vI a0), some (vI a1), some (vI a2)]) (S' := [vI ((A1.1 91 2) + 1)]) (c := 91) (k := 2) (x := ((A1.1 91 2) + 1)) rfl ?_
              have hw20 : wf (aI (aI (aI (aI (aI (aI A1 100 ((A1.1 91 2)).toNat a0) 101 ((A1.1 91 2)).toNat a1) 102 ((A1.1 91 2)).toNat a2) 103 ((A1.1 91 2)).toNat (A1.1 91 0)) 91 11 ((A1.1 91 11) + 1)) 91 2 ((A1.1 91 2) + 1)) := wf_aI hw18 hk19
              cases h
              exact rz_B.ret rfl hk19 hw20
          · have h := if_F h hc8
            refine rz_B.ifT ((lt32 (hw1 91 0).1 ha2).mpr (Int.not_le.mp hc8)) ?_
            refine rz_B.go 2 (pc' := 59) (L' := [some (.ref 91), some (vI a0), some (vI a1), some (vI a2)]) (S' := [vI (-6), .ref 91]) rfl ?_
            obtain ⟨r21, A21, hf21, h⟩ := rz_b_inv h
            obtain ⟨hg21, hr21, hw21⟩ := cx142_no F (d := d + 0) hf21 (by decide) hw1
            refine rz_B.call (d := d + 0) (as := [.ref 91, vI (-6)]) (rest := []) (w := some (vI r21)) rfl hg21 ?_
            cases h
            exact rz_B.ret rfl hr21 hw21
        · have h := if_F h hc7
          refine rz_B.ifT ((lt32 (by decide) ha1).mpr (Int.not_le.mp hc7)) ?_
          refine rz_B.go 2 (pc' := 59) (L' := [some (.ref 91), some (vI a0), some (vI a1), some (vI a2)]) (S' := [vI (-6), .ref 91]) rfl ?_
          obtain ⟨r22, A22, hf22, h⟩ := rz_b_inv h
          obtain ⟨hg22, hr22, hw22⟩ := cx142_no F (d := d + 0) hf22 (by decide) hw1
          refine rz_B.call (d := d + 0) (as := [.ref 91, vI (-6)]) (rest := []) (w := some (vI r22)) rfl hg22 ?_
          cases h
          exact rz_B.ret rfl hr22 hw22
    · have h := if_F h hc4
      refine rz_B.ifT ((lt32 ha1 (by decide)).mpr (Int.not_le.mp hc4)) ?_
      refine rz_B.go 2 (pc' := 28) (L' := [some (.ref 91), some (vI a0), some (vI a1), some (vI a2)]) (S' := [vI (-4), .ref 91]) rfl ?_
      obtain ⟨r23, A23, hf23, h⟩ := rz_b_inv h
      obtain ⟨hg23, hr23, hw23⟩ := cx142_no F (d := d + 0) hf23 (by decide) hw1
      refine rz_B.call (d := d + 0) (as := [.ref 91, vI (-4)]) (rest := []) (w := some (vI r23)) rfl hg23 ?_
      cases h
      exact rz_B.ret rfl hr23 hw23
/-- RiverGaugeModel.far(I)I -/
def x148_far (F : Nat) (a0 : Int) (A : rz_A) : Option (Int × rz_A) :=
  rz_b (x142_no F a0 A) fun r1 A1 =>
  rz_g32 (1000000000 - r1) <|
  some ((1000000000 - r1), A1)
theorem cx148_far (F : Nat) {d : Nat} {a0 : Int} {A : rz_A} {r : Int} {A' : rz_A} (h : x148_far F a0 A = some (r, A')) (ha0 : r32 a0) (hw : wf A) : rg_Rn (d + 1) 148 [.ref 91, vI a0] (toM A) (some (vI r)) (toM A') ∧ (r32 r) ∧ wf A' := by
  show rz_B (d + 1) 148 0 [some (.ref 91), some (vI a0)] [] A (some (vI r)) A' (r32 r)
  unfold x148_far at h
  refine rz_B.go 3 (pc' := 4) (L' := [some (.ref 91), some (vI a0)]) (S' := [vI a0, .ref 91, vI 1000000000]) rfl ?_
  obtain ⟨r1, A1, hf1, h⟩ := rz_b_inv h
  obtain ⟨hg1, hr1, hw1⟩ := cx142_no F (d := d + 0) hf1 ha0 hw
  refine rz_B.call (d := d + 0) (as := [.ref 91, vI a0]) (rest := [vI 1000000000]) (w := some (vI r1)) rfl hg1 ?_
  obtain ⟨hk2, h⟩ := rz_g32_inv h
  refine rz_B.isub rfl ?_
  cases h
  exact rz_B.ret rfl hk2 hw1
/-- RiverGaugeModel.times(II)I -/
def x147_times (F : Nat) (a0 : Int) (a1 : Int) (A : rz_A) : Option (Int × rz_A) :=
  if 0 ≤ a0 then
    if a1 < 0 then
      some ((-4), A)
    else
      if a0 ≤ 9999 then
        if 9999 < a1 then
          some ((-6), A)
        else
          some (0, A)
      else
        some ((-6), A)
  else
    some ((-4), A)
theorem cx147_times (F : Nat) {d : Nat} {a0 : Int} {a1 : Int} {A : rz_A} {r : Int} {A' : rz_A} (h : x147_times F a0 a1 A = some (r, A')) (ha0 : r32 a0) (ha1 : r32 a1) (hw : wf A) : rg_Rn (d + 0) 147 [vI a0, vI a1] (toM A) (some (vI r)) (toM A') ∧ (r32 r) ∧ wf A' := by
  show rz_B (d + 0) 147 0 [some (vI a0), some (vI a1)] [] A (some (vI r)) A' (r32 r)
  unfold x147_times at h
  refine rz_B.go 2 (pc' := if decide (Int32.ofInt a0 < Int32.ofInt 0) = true then 8 else 4) (L' := [some (vI a0), some (vI a1)]) (S' := []) rfl ?_
  by_cases hc1 : 0 ≤ a0
  · have h := if_T h hc1
    refine rz_B.ifF (mt (lt32 ha0 (by decide)).mp (Int.not_lt.mpr hc1)) ?_
    refine rz_B.go 2 (pc' := if decide (Int32.ofInt 0 ≤ Int32.ofInt a1) = true then 13 else 8) (L' := [some (vI a0), some (vI a1)]) (S' := []) rfl ?_
    by_cases hc2 : a1 < 0
    · have h := if_T h hc2
      refine rz_B.ifF (mt (le32 (by decide) ha1).mp (Int.not_le.mpr hc2)) ?_
      refine rz_B.go 2 (pc' := 33) (L' := [some (vI a0), some (vI a1)]) (S' := [vI (-4)]) rfl ?_
      cases h
      exact rz_B.ret rfl (by decide) hw
    · have h := if_F h hc2
      refine rz_B.ifT ((le32 (by decide) ha1).mpr (Int.not_lt.mp hc2)) ?_
      refine rz_B.go 3 (pc' := if decide (Int32.ofInt 9999 < Int32.ofInt a0) = true then 27 else 20) (L' := [some (vI a0), some (vI a1)]) (S' := []) rfl ?_
      by_cases hc3 : a0 ≤ 9999
      · have h := if_T h hc3
        refine rz_B.ifF (mt (lt32 (by decide) ha0).mp (Int.not_lt.mpr hc3)) ?_
        refine rz_B.go 3 (pc' := if decide (Int32.ofInt a1 ≤ Int32.ofInt 9999) = true then 32 else 27) (L' := [some (vI a0), some (vI a1)]) (S' := []) rfl ?_
        by_cases hc4 : 9999 < a1
        · have h := if_T h hc4
          refine rz_B.ifF (mt (le32 ha1 (by decide)).mp (Int.not_le.mpr hc4)) ?_
          refine rz_B.go 2 (pc' := 33) (L' := [some (vI a0), some (vI a1)]) (S' := [vI (-6)]) rfl ?_
          cases h
          exact rz_B.ret rfl (by decide) hw
        · have h := if_F h hc4
          refine rz_B.ifT ((le32 ha1 (by decide)).mpr (Int.not_lt.mp hc4)) ?_
          refine rz_B.go 1 (pc' := 33) (L' := [some (vI a0), some (vI a1)]) (S' := [vI 0]) rfl ?_
          cases h
          exact rz_B.ret rfl (by decide) hw
      · have h := if_F h hc3
        refine rz_B.ifT ((lt32 (by decide) ha0).mpr (Int.not_le.mp hc3)) ?_
        refine rz_B.go 2 (pc' := 33) (L' := [some (vI a0), some (vI a1)]) (S' := [vI (-6)]) rfl ?_
        cases h
        exact rz_B.ret rfl (by decide) hw
  · have h := if_F h hc1
    refine rz_B.ifT ((lt32 ha0 (by decide)).mpr (Int.not_le.mp hc1)) ?_
    refine rz_B.go 2 (pc' := 33) (L' := [some (vI a0), some (vI a1)]) (S' := [vI (-4)]) rfl ?_
    cases h
    exact rz_B.ret rfl (by decide) hw
def x149_zeroOf_80 (F : Nat) (v1 : Int) (v4 : Int) (A : rz_A) : Option (Int × rz_A) :=
  if v4 < 0 then
    rz_gx v1 6 <|
    some ((A.1 92 (v1).toNat), A)
  else
    rz_gx v4 60 <|
    some ((A.1 101 (v4).toNat), A)
theorem cx149_zeroOf_80 {d : Nat} (F : Nat) : ∀ (v1 : Int) (v4 : Int) (A : rz_A) (r : Int) (A' : rz_A), x149_zeroOf_80 F v1 v4 A = some (r, A') → r32 v1 → r32 v4 → wf A → rz_B (d + 0) 149 80 [some (.ref 91), some (vI v1), none, none, some (vI v4), none] [] A (some (vI r)) A' (r32 r) := by
  intro v1 v4 A r A' h hv1 hv4 hw
  unfold x149_zeroOf_80 at h
  refine rz_B.go 2 (pc' := if decide (Int32.ofInt 0 ≤ Int32.ofInt v4) = true then 94 else 85) (L' := [some (.ref 91), some (vI v1), none, none, some (vI v4), none]) (S' := []) rfl ?_
  by_cases hc1 : v4 < 0
  · have h := if_T h hc1
    refine rz_B.ifF (mt (le32 (by decide) hv4).mp (Int.not_le.mpr hc1)) ?_
    refine rz_B.go 3 (pc' := 90) (L' := [some (.ref 91), some (vI v1), none, none, some (vI v4), none]) (S' := [vI v1, .ref 92]) rfl ?_
    obtain ⟨hi2, hj3, h⟩ := rz_gx_inv h
    refine rz_B.iald rfl rfl hi2 hj3 (by decide) ?_
    refine rz_B.go 1 (pc' := 101) (L' := [some (.ref 91), some (vI v1), none, none, some (vI v4), none]) (S' := [vI (A.1 92 (v1).toNat)]) rfl ?_
    cases h
    exact rz_B.ret rfl (hw 92 (v1).toNat).1 hw
  · have h := if_F h hc1
    refine rz_B.ifT ((le32 (by decide) hv4).mpr (Int.not_lt.mp hc1)) ?_
    refine rz_B.go 3 (pc' := 100) (L' := [some (.ref 91), some (vI v1), none, none, some (vI v4), none]) (S' := [vI v4, .ref 101]) rfl ?_
    obtain ⟨hi4, hj5, h⟩ := rz_gx_inv h
    refine rz_B.iald rfl rfl hi4 hj5 (by decide) ?_
    cases h
    exact rz_B.ret rfl (hw 101 (v4).toNat).1 hw
def x149_zeroOf_6 (F : Nat) : Nat → Int → Int → Int → Int → Int → rz_A → Option (Int × rz_A)
  | 0, _, _, _, _, _, _ => none
  | n + 1, v1, v2, v3, v4, v5, A =>
    if v5 < (A.1 91 2) then
      rz_gx v5 60 <|
      if (A.1 100 (v5).toNat) = v1 then
        if (A.1 103 (v5).toNat) ≤ v3 then
          if (A.1 102 (v5).toNat) ≤ v2 then
            if 0 ≤ v4 then
              rz_gx v4 60 <|
              if (A.1 102 (v4).toNat) ≤ (A.1 102 (v5).toNat) then
                rz_g32 (v5 + 1) <|
                x149_zeroOf_6 F n v1 v2 v3 v5 (v5 + 1) A
              else
                rz_g32 (v5 + 1) <|
                x149_zeroOf_6 F n v1 v2 v3 v4 (v5 + 1) A
            else
              rz_g32 (v5 + 1) <|
              x149_zeroOf_6 F n v1 v2 v3 v5 (v5 + 1) A
          else
            rz_g32 (v5 + 1) <|
            x149_zeroOf_6 F n v1 v2 v3 v4 (v5 + 1) A
        else
          rz_g32 (v5 + 1) <|
          x149_zeroOf_6 F n v1 v2 v3 v4 (v5 + 1) A
      else
        rz_g32 (v5 + 1) <|
        x149_zeroOf_6 F n v1 v2 v3 v4 (v5 + 1) A
    else
      x149_zeroOf_80 F v1 v4 A
theorem cx149_zeroOf_6 {d : Nat} (F : Nat) : ∀ (n : Nat) (v1 : Int) (v2 : Int) (v3 : Int) (v4 : Int) (v5 : Int) (A : rz_A) (r : Int) (A' : rz_A), x149_zeroOf_6 F n v1 v2 v3 v4 v5 A = some (r, A') → r32 v1 → r32 v2 → r32 v3 → r32 v4 → r32 v5 → wf A → rz_B (d + 0) 149 6 [some (.ref 91), some (vI v1), some (vI v2), some (vI v3), some (vI v4), some (vI v5)] [] A (some (vI r)) A' (r32 r) := by
  intro n
  induction n with
  | zero => intro v1 v2 v3 v4 v5 A r A' h; cases h
  | succ n ih =>
    intro v1 v2 v3 v4 v5 A r A' h hv1 hv2 hv3 hv4 hv5 hw
    rw [x149_zeroOf_6] at h
    refine rz_B.go 4 (pc' := if decide (Int32.ofInt (A.1 91 2) ≤ Int32.ofInt v5) = true then 80 else 15) (L' := [some (.ref 91), some (vI v1), some (vI v2), some (vI v3), some (vI v4), some (vI v5)]) (S' := []) rfl ?_
    by_cases hc1 : v5 < (A.1 91 2)
    · have h := if_T h hc1
      refine rz_B.ifF (mt (le32 (hw 91 2).1 hv5).mp (Int.not_le.mpr hc1)) ?_
      refine rz_B.go 3 (pc' := 21) (L' := [some (.ref 91), some (vI v1), some (vI v2), some (vI v3), some (vI v4), some (vI v5)]) (S' := [vI v5, .ref 100]) rfl ?_
      obtain ⟨hi2, hj3, h⟩ := rz_gx_inv h
      refine rz_B.iald rfl rfl hi2 hj3 (by decide) ?_
      refine rz_B.go 2 (pc' := if decide (¬ Int32.ofInt (A.1 100 (v5).toNat) = Int32.ofInt v1) = true then 74 else 26) (L' := [some (.ref 91), some (vI v1), some (vI v2), some (vI v3), some (vI v4), some (vI v5)]) (S' := []) rfl ?_
      by_cases hc4 : (A.1 100 (v5).toNat) = v1
      · have h := if_T h hc4
        refine rz_B.ifF (fun hn => hn ((eq32 (hw 100 (v5).toNat).1 hv1).mpr hc4)) ?_
        refine rz_B.go 3 (pc' := 32) (L' := [some (.ref 91), some (vI v1), some (vI v2), some (vI v3), some (vI v4), some (vI v5)]) (S' := [vI v5, .ref 103]) rfl ?_
        refine rz_B.iald rfl rfl hi2 hj3 (by decide) ?_
        refine rz_B.go 2 (pc' := if decide (Int32.ofInt v3 < Int32.ofInt (A.1 103 (v5).toNat)) = true then 74 else 37) (L' := [some (.ref 91), some (vI v1), some (vI v2), some (vI v3), some (vI v4), some (vI v5)]) (S' := []) rfl ?_
        by_cases hc5 : (A.1 103 (v5).toNat) ≤ v3
        · have h := if_T h hc5
          refine rz_B.ifF (mt (lt32 hv3 (hw 103 (v5).toNat).1).mp (Int.not_lt.mpr hc5)) ?_
          refine rz_B.go 3 (pc' := 43) (L' := [some (.ref 91), some (vI v1), some (vI v2), some (vI v3), some (vI v4), some (vI v5)]) (S' := [vI v5, .ref 102]) rfl ?_
          refine rz_B.iald rfl rfl hi2 hj3 (by decide) ?_
          refine rz_B.go 2 (pc' := if decide (Int32.ofInt v2 < Int32.ofInt (A.1 102 (v5).toNat)) = true then 74 else 48) (L' := [some (.ref 91), some (vI v1), some (vI v2), some (vI v3), some (vI v4), some (vI v5)]) (S' := []) rfl ?_
          by_cases hc6 : (A.1 102 (v5).toNat) ≤ v2
          · have h := if_T h hc6
            refine rz_B.ifF (mt (lt32 hv2 (hw 102 (v5).toNat).1).mp (Int.not_lt.mpr hc6)) ?_
            refine rz_B.go 2 (pc' := if decide (Int32.ofInt v4 < Int32.ofInt 0) = true then 70 else 53) (L' := [some (.ref 91), some (vI v1), some (vI v2), some (vI v3), some (vI v4), some (vI v5)]) (S' := []) rfl ?_
            by_cases hc7 : 0 ≤ v4
            · have h := if_T h hc7
              refine rz_B.ifF (mt (lt32 hv4 (by decide)).mp (Int.not_lt.mpr hc7)) ?_
              refine rz_B.go 3 (pc' := 59) (L' := [some (.ref 91), some (vI v1), some (vI v2), some (vI v3), some (vI v4), some (vI v5)]) (S' := [vI v5, .ref 102]) rfl ?_
              refine rz_B.iald rfl rfl hi2 hj3 (by decide) ?_
              refine rz_B.go 3 (pc' := 66) (L' := [some (.ref 91), some (vI v1), some (vI v2), some (vI v3), some (vI v4), some (vI v5)]) (S' := [vI v4, .ref 102, vI (A.1 102 (v5).toNat)]) rfl ?_
              obtain ⟨hi8, hj9, h⟩ := rz_gx_inv h
              refine rz_B.iald rfl rfl hi8 hj9 (by decide) ?_
              refine rz_B.go 1 (pc' := if decide (Int32.ofInt (A.1 102 (v5).toNat) < Int32.ofInt (A.1 102 (v4).toNat)) = true then 74 else 70) (L' := [some (.ref 91), some (vI v1), some (vI v2), some (vI v3), some (vI v4), some (vI v5)]) (S' := []) rfl ?_
              by_cases hc10 : (A.1 102 (v4).toNat) ≤ (A.1 102 (v5).toNat)
              · have h := if_T h hc10
                refine rz_B.ifF (mt (lt32 (hw 102 (v5).toNat).1 (hw 102 (v4).toNat).1).mp (Int.not_lt.mpr hc10)) ?_
                refine rz_B.go 2 (pc' := 74) (L' := [some (.ref 91), some (vI v1), some (vI v2), some (vI v3), some (vI v5), some (vI v5)]) (S' := []) rfl ?_
                obtain ⟨hk11, h⟩ := rz_g32_inv h
                refine rz_B.iinc rfl (by decide) rfl (L' := [some (.ref 91), some (vI v1), some (vI v2), some (vI v3), some (vI v5), some (vI (v5 + 1))]) rfl ?_
                refine rz_B.go 1 (pc' := 6) (L' := [some (.ref 91), some (vI v1), some (vI v2), some (vI v3), some (vI v5), some (vI (v5 + 1))]) (S' := []) rfl ?_
                refine rz_B.more (rg_le_ok (L := [some (.ref 91), some (vI v1), some (vI v2), some (vI v3), some (vI v5), some (vI (v5 + 1))]) (by simp [rg_le])) ?_
                exact ih _ _ _ _ _ _ _ _ h hv1 hv2 hv3 hv5 hk11 hw
              · have h := if_F h hc10
                refine rz_B.ifT ((lt32 (hw 102 (v5).toNat).1 (hw 102 (v4).toNat).1).mpr (Int.not_le.mp hc10)) ?_
                obtain ⟨hk12, h⟩ := rz_g32_inv h
                refine rz_B.iinc rfl (by decide) rfl (L' := [some (.ref 91), some (vI v1), some (vI v2), some (vI v3), some (vI v4), some (vI (v5 + 1))]) rfl ?_
                refine rz_B.go 1 (pc' := 6) (L' := [some (.ref 91), some (vI v1), some (vI v2), some (vI v3), some (vI v4), some (vI (v5 + 1))]) (S' := []) rfl ?_
                refine rz_B.more (rg_le_ok (L := [some (.ref 91), some (vI v1), some (vI v2), some (vI v3), some (vI v4), some (vI (v5 + 1))]) (by simp [rg_le])) ?_
                exact ih _ _ _ _ _ _ _ _ h hv1 hv2 hv3 hv4 hk12 hw
            · have h := if_F h hc7
              refine rz_B.ifT ((lt32 hv4 (by decide)).mpr (Int.not_le.mp hc7)) ?_
              refine rz_B.go 2 (pc' := 74) (L' := [some (.ref 91), some (vI v1), some (vI v2), some (vI v3), some (vI v5), some (vI v5)]) (S' := []) rfl ?_
              obtain ⟨hk13, h⟩ := rz_g32_inv h
              refine rz_B.iinc rfl (by decide) rfl (L' := [some (.ref 91), some (vI v1), some (vI v2), some (vI v3), some (vI v5), some (vI (v5 + 1))]) rfl ?_
              refine rz_B.go 1 (pc' := 6) (L' := [some (.ref 91), some (vI v1), some (vI v2), some (vI v3), some (vI v5), some (vI (v5 + 1))]) (S' := []) rfl ?_
              refine rz_B.more (rg_le_ok (L := [some (.ref 91), some (vI v1), some (vI v2), some (vI v3), some (vI v5), some (vI (v5 + 1))]) (by simp [rg_le])) ?_
              exact ih _ _ _ _ _ _ _ _ h hv1 hv2 hv3 hv5 hk13 hw
          · have h := if_F h hc6
            refine rz_B.ifT ((lt32 hv2 (hw 102 (v5).toNat).1).mpr (Int.not_le.mp hc6)) ?_
            obtain ⟨hk14, h⟩ := rz_g32_inv h
            refine rz_B.iinc rfl (by decide) rfl (L' := [some (.ref 91), some (vI v1), some (vI v2), some (vI v3), some (vI v4), some (vI (v5 + 1))]) rfl ?_
            refine rz_B.go 1 (pc' := 6) (L' := [some (.ref 91), some (vI v1), some (vI v2), some (vI v3), some (vI v4), some (vI (v5 + 1))]) (S' := []) rfl ?_
            refine rz_B.more (rg_le_ok (L := [some (.ref 91), some (vI v1), some (vI v2), some (vI v3), some (vI v4), some (vI (v5 + 1))]) (by simp [rg_le])) ?_
            exact ih _ _ _ _ _ _ _ _ h hv1 hv2 hv3 hv4 hk14 hw
        · have h := if_F h hc5
          refine rz_B.ifT ((lt32 hv3 (hw 103 (v5).toNat).1).mpr (Int.not_le.mp hc5)) ?_
          obtain ⟨hk15, h⟩ := rz_g32_inv h
          refine rz_B.iinc rfl (by decide) rfl (L' := [some (.ref 91), some (vI v1), some (vI v2), some (vI v3), some (vI v4), some (vI (v5 + 1))]) rfl ?_
          refine rz_B.go 1 (pc' := 6) (L' := [some (.ref 91), some (vI v1), some (vI v2), some (vI v3), some (vI v4), some (vI (v5 + 1))]) (S' := []) rfl ?_
          refine rz_B.more (rg_le_ok (L := [some (.ref 91), some (vI v1), some (vI v2), some (vI v3), some (vI v4), some (vI (v5 + 1))]) (by simp [rg_le])) ?_
          exact ih _ _ _ _ _ _ _ _ h hv1 hv2 hv3 hv4 hk15 hw
      · have h := if_F h hc4
        refine rz_B.ifT (mt (eq32 (hw 100 (v5).toNat).1 hv1).mp hc4) ?_
        obtain ⟨hk16, h⟩ := rz_g32_inv h
        refine rz_B.iinc rfl (by decide) rfl (L' := [some (.ref 91), some (vI v1), some (vI v2), some (vI v3), some (vI v4), some (vI (v5 + 1))]) rfl ?_
        refine rz_B.go 1 (pc' := 6) (L' := [some (.ref 91), some (vI v1), some (vI v2), some (vI v3), some (vI v4), some (vI (v5 + 1))]) (S' := []) rfl ?_
        refine rz_B.more (rg_le_ok (L := [some (.ref 91), some (vI v1), some (vI v2), some (vI v3), some (vI v4), some (vI (v5 + 1))]) (by simp [rg_le])) ?_
        exact ih _ _ _ _ _ _ _ _ h hv1 hv2 hv3 hv4 hk16 hw
    · have h := if_F h hc1
      refine rz_B.ifT ((le32 (hw 91 2).1 hv5).mpr (Int.not_lt.mp hc1)) ?_
      refine rz_B.more (rg_le_ok (L := [some (.ref 91), some (vI v1), none, none, some (vI v4), none]) (by simp [rg_le])) ?_
      exact cx149_zeroOf_80 F _ _ _ _ _ h hv1 hv4 hw
/-- RiverGaugeModel.zeroOf(III)I -/
def x149_zeroOf (F : Nat) (a0 : Int) (a1 : Int) (a2 : Int) (A : rz_A) : Option (Int × rz_A) :=
  x149_zeroOf_6 F F a0 a1 a2 (-1) 0 A
theorem cx149_zeroOf (F : Nat) {d : Nat} {a0 : Int} {a1 : Int} {a2 : Int} {A : rz_A} {r : Int} {A' : rz_A} (h : x149_zeroOf F a0 a1 a2 A = some (r, A')) (ha0 : r32 a0) (ha1 : r32 a1) (ha2 : r32 a2) (hw : wf A) : rg_Rn (d + 0) 149 [.ref 91, vI a0, vI a1, vI a2] (toM A) (some (vI r)) (toM A') ∧ (r32 r) ∧ wf A' := by
  show rz_B (d + 0) 149 0 [some (.ref 91), some (vI a0), some (vI a1), some (vI a2), none, none] [] A (some (vI r)) A' (r32 r)
  unfold x149_zeroOf at h
  refine rz_B.go 4 (pc' := 6) (L' := [some (.ref 91), some (vI a0), some (vI a1), some (vI a2), some (vI (-1)), some (vI 0)]) (S' := []) rfl ?_
  refine rz_B.more (rg_le_ok (L := [some (.ref 91), some (vI a0), some (vI a1), some (vI a2), some (vI (-1)), some (vI 0)]) (by simp [rg_le])) ?_
  exact cx149_zeroOf_6 F F _ _ _ _ _ _ _ _ h ha0 ha1 ha2 (by decide) (by decide) hw
/-- RiverGaugeModel.zeroAt(III)I -/
def x146_zeroAt (F : Nat) (a0 : Int) (a1 : Int) (a2 : Int) (A : rz_A) : Option (Int × rz_A) :=
  rz_b (x145_isPost F a0 A) fun r1 A1 =>
  if r1 = 0 then
    rz_b (x148_far F (-1) A1) fun r3 A3 =>
    some (r3, A3)
  else
    rz_b (x147_times F a1 a2 A1) fun r4 A4 =>
    if r4 = 0 then
      rz_b (x149_zeroOf F a0 a1 a2 A4) fun r6 A6 =>
      some (r6, A6)
    else
      rz_b (x148_far F r4 A4) fun r7 A7 =>
      some (r7, A7)
theorem cx146_zeroAt (F : Nat) {d : Nat} {a0 : Int} {a1 : Int} {a2 : Int} {A : rz_A} {r : Int} {A' : rz_A} (h : x146_zeroAt F a0 a1 a2 A = some (r, A')) (ha0 : r32 a0) (ha1 : r32 a1) (ha2 : r32 a2) (hw : wf A) : rg_Rn (d + 2) 146 [.ref 91, vI a0, vI a1, vI a2] (toM A) (some (vI r)) (toM A') ∧ (r32 r) ∧ wf A' := by
  show rz_B (d + 2) 146 0 [some (.ref 91), some (vI a0), some (vI a1), some (vI a2), none] [] A (some (vI r)) A' (r32 r)
  unfold x146_zeroAt at h
  refine rz_B.go 2 (pc' := 2) (L' := [some (.ref 91), some (vI a0), some (vI a1), some (vI a2), none]) (S' := [vI a0, .ref 91]) rfl ?_
  obtain ⟨r1, A1, hf1, h⟩ := rz_b_inv h
  obtain ⟨hg1, hr1, hw1⟩ := cx145_isPost F (d := d + 1) hf1 ha0 hw
  refine rz_B.call (d := d + 1) (as := [.ref 91, vI a0]) (rest := []) (w := some (vI r1)) rfl hg1 ?_
  refine rz_B.go 1 (pc' := if decide (Int32.ofInt r1 = Int32.ofInt 0) = true then 16 else 8) (L' := [some (.ref 91), some (vI a0), some (vI a1), some (vI a2), none]) (S' := []) rfl ?_
  by_cases hc2 : r1 = 0
  · have h := if_T h hc2
    refine rz_B.ifT ((eq32 hr1 (by decide)).mpr hc2) ?_
    refine rz_B.go 6 (pc' := 27) (L' := [some (.ref 91), some (vI a0), some (vI a1), some (vI a2), some (vI (-1))]) (S' := [vI (-1), .ref 91]) rfl ?_
    obtain ⟨r3, A3, hf3, h⟩ := rz_b_inv h
    obtain ⟨hg3, hr3, hw3⟩ := cx148_far F (d := d + 0) hf3 (by decide) hw1
    refine rz_B.call (d := d + 1) (as := [.ref 91, vI (-1)]) (rest := []) (w := some (vI r3)) rfl hg3 ?_
    refine rz_B.go 1 (pc' := 40) (L' := [some (.ref 91), some (vI a0), some (vI a1), some (vI a2), some (vI (-1))]) (S' := [vI r3]) rfl ?_
    cases h
    exact rz_B.ret rfl hr3 hw3
  · have h := if_F h hc2
    refine rz_B.ifF (mt (eq32 hr1 (by decide)).mp hc2) ?_
    refine rz_B.go 2 (pc' := 10) (L' := [some (.ref 91), some (vI a0), some (vI a1), some (vI a2), none]) (S' := [vI a2, vI a1]) rfl ?_
    obtain ⟨r4, A4, hf4, h⟩ := rz_b_inv h
    obtain ⟨hg4, hr4, hw4⟩ := cx147_times F (d := d + 1) hf4 ha1 ha2 hw1
    refine rz_B.call (d := d + 1) (as := [vI a1, vI a2]) (rest := []) (w := some (vI r4)) rfl hg4 ?_
    refine rz_B.go 4 (pc' := if decide (Int32.ofInt r4 = Int32.ofInt 0) = true then 33 else 24) (L' := [some (.ref 91), some (vI a0), some (vI a1), some (vI a2), some (vI r4)]) (S' := []) rfl ?_
    by_cases hc5 : r4 = 0
    · have h := if_T h hc5
      refine rz_B.ifT ((eq32 hr4 (by decide)).mpr hc5) ?_
      refine rz_B.go 4 (pc' := 37) (L' := [some (.ref 91), some (vI a0), some (vI a1), some (vI a2), some (vI r4)]) (S' := [vI a2, vI a1, vI a0, .ref 91]) rfl ?_
      obtain ⟨r6, A6, hf6, h⟩ := rz_b_inv h
      obtain ⟨hg6, hr6, hw6⟩ := cx149_zeroOf F (d := d + 1) hf6 ha0 ha1 ha2 hw4
      refine rz_B.call (d := d + 1) (as := [.ref 91, vI a0, vI a1, vI a2]) (rest := []) (w := some (vI r6)) rfl hg6 ?_
      cases h
      exact rz_B.ret rfl hr6 hw6
    · have h := if_F h hc5
      refine rz_B.ifF (mt (eq32 hr4 (by decide)).mp hc5) ?_
      refine rz_B.go 2 (pc' := 27) (L' := [some (.ref 91), some (vI a0), some (vI a1), some (vI a2), some (vI r4)]) (S' := [vI r4, .ref 91]) rfl ?_
      obtain ⟨r7, A7, hf7, h⟩ := rz_b_inv h
      obtain ⟨hg7, hr7, hw7⟩ := cx148_far F (d := d + 0) hf7 hr4 hw4
      refine rz_B.call (d := d + 1) (as := [.ref 91, vI r4]) (rest := []) (w := some (vI r7)) rfl hg7 ?_
      refine rz_B.go 1 (pc' := 40) (L' := [some (.ref 91), some (vI a0), some (vI a1), some (vI a2), some (vI r4)]) (S' := [vI r7]) rfl ?_
      cases h
      exact rz_B.ret rfl hr7 hw7
/-- RiverGaugeModel.height(IIII)I -/
def x150_height (F : Nat) (a0 : Int) (a1 : Int) (a2 : Int) (a3 : Int) (A : rz_A) : Option (Int × rz_A) :=
  rz_b (x145_isPost F a0 A) fun r1 A1 =>
  if r1 = 0 then
    rz_b (x142_no F (-1) A1) fun r3 A3 =>
    some (r3, A3)
  else
    if 0 ≤ a2 then
      if 1 < a2 then
        rz_b (x142_no F (-2) A1) fun r6 A6 =>
        some (r6, A6)
      else
        if 0 ≤ a1 then
          if a2 = 0 then
            if a3 < (-1) then
              rz_b (x142_no F (-4) A1) fun r10 A10 =>
              some (r10, A10)
            else
              if a1 ≤ (A1.1 91 0) then
                if a3 ≤ 9999 then
                  if (A1.1 91 3) = 300 then
                    rz_b (x142_no F (-6) A1) fun r14 A14 =>
                    some (r14, A14)
                  else
                    rz_gx (A1.1 91 3) 300 <|
                    rz_g32 ((A1.1 91 11) + 1) <|
                    rz_g32 ((A1.1 91 3) + 1) <|
                    some ((A1.1 91 3), (aI (aI (aI (aI (aI (aI (aI (aI A1 104 ((A1.1 91 3)).toNat a0) 105 ((A1.1 91 3)).toNat a1) 106 ((A1.1 91 3)).toNat a2) 107 ((A1.1 91 3)).toNat a3) 108 ((A1.1 91 3)).toNat (A1.1 91 0)) 109 ((A1.1 91 3)).toNat (-1)) 91 11 ((A1.1 91 11) + 1)) 91 3 ((A1.1 91 3) + 1)))
                else
                  rz_b (x142_no F (-6) A1) fun r27 A27 =>
                  some (r27, A27)
              else
                rz_b (x142_no F (-6) A1) fun r28 A28 =>
                some (r28, A28)
          else
            if a3 < 0 then
              rz_b (x142_no F (-4) A1) fun r30 A30 =>
              some (r30, A30)
            else
              if a1 ≤ (A1.1 91 0) then
                if a3 ≤ 9999 then
                  if (A1.1 91 3) = 300 then
                    rz_b (x142_no F (-6) A1) fun r34 A34 =>
                    some (r34, A34)
                  else
                    rz_gx (A1.1 91 3) 300 <|
                    rz_g32 ((A1.1 91 11) + 1) <|
                    rz_g32 ((A1.1 91 3) + 1) <|
                    some ((A1.1 91 3), (aI (aI (aI (aI (aI (aI (aI (aI A1 104 ((A1.1 91 3)).toNat a0) 105 ((A1.1 91 3)).toNat a1) 106 ((A1.1 91 3)).toNat a2) 107 ((A1.1 91 3)).toNat a3) 108 ((A1.1 91 3)).toNat (A1.1 91 0)) 109 ((A1.1 91 3)).toNat (-1)) 91 11 ((A1.1 91 11) + 1)) 91 3 ((A1.1 91 3) + 1)))
                else
                  rz_b (x142_no F (-6) A1) fun r47 A47 =>
                  some (r47, A47)
              else
                rz_b (x142_no F (-6) A1) fun r48 A48 =>
                some (r48, A48)
        else
          rz_b (x142_no F (-4) A1) fun r49 A49 =>
          some (r49, A49)
    else
      rz_b (x142_no F (-2) A1) fun r50 A50 =>
      some (r50, A50)
theorem cx150_height (F : Nat) {d : Nat} {a0 : Int} {a1 : Int} {a2 : Int} {a3 : Int} {A : rz_A} {r : Int} {A' : rz_A} (h : x150_height F a0 a1 a2 a3 A = some (r, A')) (ha0 : r32 a0) (ha1 : r32 a1) (ha2 : r32 a2) (ha3 : r32 a3) (hw : wf A) : rg_Rn (d + 1) 150 [.ref 91, vI a0, vI a1, vI a2, vI a3] (toM A) (some (vI r)) (toM A') ∧ (r32 r) ∧ wf A' := by
  show rz_B (d + 1) 150 0 [some (.ref 91), some (vI a0), some (vI a1), some (vI a2), some (vI a3)] [] A (some (vI r)) A' (r32 r)
  unfold x150_height at h
  refine rz_B.go 2 (pc' := 2) (L' := [some (.ref 91), some (vI a0), some (vI a1), some (vI a2), some (vI a3)]) (S' := [vI a0, .ref 91]) rfl ?_
  obtain ⟨r1, A1, hf1, h⟩ := rz_b_inv h
  obtain ⟨hg1, hr1, hw1⟩ := cx145_isPost F (d := d + 0) hf1 ha0 hw
  refine rz_B.call (d := d + 0) (as := [.ref 91, vI a0]) (rest := []) (w := some (vI r1)) rfl hg1 ?_
  refine rz_B.go 1 (pc' := if decide (¬ Int32.ofInt r1 = Int32.ofInt 0) = true then 14 else 8) (L' := [some (.ref 91), some (vI a0), some (vI a1), some (vI a2), some (vI a3)]) (S' := []) rfl ?_
  by_cases hc2 : r1 = 0
  · have h := if_T h hc2
    refine rz_B.ifF (fun hn => hn ((eq32 hr1 (by decide)).mpr hc2)) ?_
    refine rz_B.go 2 (pc' := 10) (L' := [some (.ref 91), some (vI a0), some (vI a1), some (vI a2), some (vI a3)]) (S' := [vI (-1), .ref 91]) rfl ?_
    obtain ⟨r3, A3, hf3, h⟩ := rz_b_inv h
    obtain ⟨hg3, hr3, hw3⟩ := cx142_no F (d := d + 0) hf3 (by decide) hw1
    refine rz_B.call (d := d + 0) (as := [.ref 91, vI (-1)]) (rest := []) (w := some (vI r3)) rfl hg3 ?_
    cases h
    exact rz_B.ret rfl hr3 hw3
  · have h := if_F h hc2
    refine rz_B.ifT (mt (eq32 hr1 (by decide)).mp hc2) ?_
    refine rz_B.go 2 (pc' := if decide (Int32.ofInt a2 < Int32.ofInt 0) = true then 23 else 18) (L' := [some (.ref 91), some (vI a0), some (vI a1), some (vI a2), some (vI a3)]) (S' := []) rfl ?_
    by_cases hc4 : 0 ≤ a2
    · have h := if_T h hc4
      refine rz_B.ifF (mt (lt32 ha2 (by decide)).mp (Int.not_lt.mpr hc4)) ?_
      refine rz_B.go 3 (pc' := if decide (Int32.ofInt a2 ≤ Int32.ofInt 1) = true then 30 else 23) (L' := [some (.ref 91), some (vI a0), some (vI a1), some (vI a2), some (vI a3)]) (S' := []) rfl ?_
      by_cases hc5 : 1 < a2
      · have h := if_T h hc5
        refine rz_B.ifF (mt (le32 ha2 (by decide)).mp (Int.not_le.mpr hc5)) ?_
        refine rz_B.go 2 (pc' := 26) (L' := [some (.ref 91), some (vI a0), some (vI a1), some (vI a2), some (vI a3)]) (S' := [vI (-2), .ref 91]) rfl ?_
        obtain ⟨r6, A6, hf6, h⟩ := rz_b_inv h
        obtain ⟨hg6, hr6, hw6⟩ := cx142_no F (d := d + 0) hf6 (by decide) hw1
        refine rz_B.call (d := d + 0) (as := [.ref 91, vI (-2)]) (rest := []) (w := some (vI r6)) rfl hg6 ?_
        cases h
        exact rz_B.ret rfl hr6 hw6
      · have h := if_F h hc5
        refine rz_B.ifT ((le32 ha2 (by decide)).mpr (Int.not_lt.mp hc5)) ?_
        refine rz_B.go 2 (pc' := if decide (Int32.ofInt a1 < Int32.ofInt 0) = true then 48 else 34) (L' := [some (.ref 91), some (vI a0), some (vI a1), some (vI a2), some (vI a3)]) (S' := []) rfl ?_
        by_cases hc7 : 0 ≤ a1
        · have h := if_T h hc7
          refine rz_B.ifF (mt (lt32 ha1 (by decide)).mp (Int.not_lt.mpr hc7)) ?_
          refine rz_B.go 3 (pc' := if decide (¬ Int32.ofInt a2 = Int32.ofInt 0) = true then 44 else 40) (L' := [some (.ref 91), some (vI a0), some (vI a1), some (vI a2), some (vI a3)]) (S' := [vI a3]) rfl ?_
          by_cases hc8 : a2 = 0
          · have h := if_T h hc8
            refine rz_B.ifF (fun hn => hn ((eq32 ha2 (by decide)).mpr hc8)) ?_
            refine rz_B.go 3 (pc' := if decide (Int32.ofInt (-1) ≤ Int32.ofInt a3) = true then 55 else 48) (L' := [some (.ref 91), some (vI a0), some (vI a1), some (vI a2), some (vI a3)]) (S' := []) rfl ?_
            by_cases hc9 : a3 < (-1)
            · have h := if_T h hc9
              refine rz_B.ifF (mt (le32 (by decide) ha3).mp (Int.not_le.mpr hc9)) ?_
              refine rz_B.go 2 (pc' := 51) (L' := [some (.ref 91), some (vI a0), some (vI a1), some (vI a2), some (vI a3)]) (S' := [vI (-4), .ref 91]) rfl ?_
              obtain ⟨r10, A10, hf10, h⟩ := rz_b_inv h
              obtain ⟨hg10, hr10, hw10⟩ := cx142_no F (d := d + 0) hf10 (by decide) hw1
              refine rz_B.call (d := d + 0) (as := [.ref 91, vI (-4)]) (rest := []) (w := some (vI r10)) rfl hg10 ?_
              cases h
              exact rz_B.ret rfl hr10 hw10
            · have h := if_F h hc9
              refine rz_B.ifT ((le32 (by decide) ha3).mpr (Int.not_lt.mp hc9)) ?_
              refine rz_B.go 4 (pc' := if decide (Int32.ofInt (A1.1 91 0) < Int32.ofInt a1) = true then 81 else 63) (L' := [some (.ref 91), some (vI a0), some (vI a1), some (vI a2), some (vI a3)]) (S' := []) rfl ?_
              by_cases hc11 : a1 ≤ (A1.1 91 0)
              · have h := if_T h hc11
                refine rz_B.ifF (mt (lt32 (hw1 91 0).1 ha1).mp (Int.not_lt.mpr hc11)) ?_
                refine rz_B.go 3 (pc' := if decide (Int32.ofInt 9999 < Int32.ofInt a3) = true then 81 else 71) (L' := [some (.ref 91), some (vI a0), some (vI a1), some (vI a2), some (vI a3)]) (S' := []) rfl ?_
                by_cases hc12 : a3 ≤ 9999
                · have h := if_T h hc12
                  refine rz_B.ifF (mt (lt32 (by decide) ha3).mp (Int.not_lt.mpr hc12)) ?_
                  refine rz_B.go 4 (pc' := if decide (¬ Int32.ofInt (A1.1 91 3) = Int32.ofInt 300) = true then 88 else 81) (L' := [some (.ref 91), some (vI a0), some (vI a1), some (vI a2), some (vI a3)]) (S' := []) rfl ?_
                  by_cases hc13 : (A1.1 91 3) = 300
                  · have h := if_T h hc13
                    refine rz_B.ifF (fun hn => hn ((eq32 (hw1 91 3).1 (by decide)).mpr hc13)) ?_
                    refine rz_B.go 2 (pc' := 84) (L' := [some (.ref 91), some (vI a0), some (vI a1), some (vI a2), some (vI a3)]) (S' := [vI (-6), .ref 91]) rfl ?_
                    obtain ⟨r14, A14, hf14, h⟩ := rz_b_inv h
                    obtain ⟨hg14, hr14, hw14⟩ := cx142_no F (d := d + 0) hf14 (by decide) hw1
                    refine rz_B.call (d := d + 0) (as := [.ref 91, vI (-6)]) (rest := []) (w := some (vI r14)) rfl hg14 ?_
                    cases h
                    exact rz_B.ret rfl hr14 hw14
                  · have h := if_F h hc13
                    refine rz_B.ifT (mt (eq32 (hw1 91 3).1 (by decide)).mp hc13) ?_
                    refine rz_B.go 5 (pc' := 97) (L' := [some (.ref 91), some (vI a0), some (vI a1), some (vI a2), some (vI a3)]) (S' := [vI a0, vI (A1.1 91 3), .ref 104]) rfl ?_
                    obtain ⟨hi15, hj16, h⟩ := rz_gx_inv h
                    refine rz_B.iast rfl rfl hi15 hj16 (by decide) ?_
                    have hw17 : wf (aI A1 104 ((A1.1 91 3)).toNat a0) := wf_aI hw1 ha0
                    refine rz_B.go 5 (pc' := 107) (L' := [some (.ref 91), some (vI a0), some (vI a1), some (vI a2), some (vI a3)]) (S' := [vI a1, vI (A1.1 91 3), .ref 105]) rfl ?_
                    refine rz_B.iast rfl rfl hi15 hj16 (by decide) ?_
                    have hw18 : wf (aI (aI A1 104 ((A1.1 91 3)).toNat a0) 105 ((A1.1 91 3)).toNat a1) := wf_aI hw17 ha1
                    refine rz_B.go 5 (pc' := 117) (L' := [some (.ref 91), some (vI a0), some (vI a1), some (vI a2), some (vI a3)]) (S' := [vI a2, vI (A1.1 91 3), .ref 106]) rfl ?_
                    refine rz_B.iast rfl rfl hi15 hj16 (by decide) ?_
                    have hw19 : wf (aI (aI (aI A1 104 ((A1.1 91 3)).toNat a0) 105 ((A1.1 91 3)).toNat a1) 106 ((A1.1 91 3)).toNat a2) := wf_aI hw18 ha2
                    refine rz_B.go 5 (pc' := 128) (L' := [some (.ref 91), some (vI a0), some (vI a1), some (vI a2), some (vI a3)]) (S' := [vI a3, vI (A1.1 91 3), .ref 107]) rfl ?_
                    refine rz_B.iast rfl rfl hi15 hj16 (by decide) ?_
                    have hw20 : wf (aI (aI (aI (aI A1 104 ((A1.1 91 3)).toNat a0) 105 ((A1.1 91 3)).toNat a1) 106 ((A1.1 91 3)).toNat a2) 107 ((A1.1 91 3)).toNat a3) := wf_aI hw19 ha3
                    refine rz_B.go 6 (pc' := 141) (L' := [some (.ref 91), some (vI a0), some (vI a1), some (vI a2), some (vI a3)]) (S' := [vI (A1.1 91 0), vI (A1.1 91 3), .ref 108]) rfl ?_
                    refine rz_B.iast rfl rfl hi15 hj16 (by decide) ?_
                    have hw21 : wf (aI (aI (aI (aI (aI A1 104 ((A1.1 91 3)).toNat a0) 105 ((A1.1 91 3)).toNat a1) 106 ((A1.1 91 3)).toNat a2) 107 ((A1.1 91 3)).toNat a3) 108 ((A1.1 91 3)).toNat (A1.1 91 0)) := wf_aI hw20 (hw1 91 0).1
                    refine rz_B.go 5 (pc' := 151) (L' := [some (.ref 91), some (vI a0), some (vI a1), some (vI a2), some (vI a3)]) (S' := [vI (-1), vI (A1.1 91 3), .ref 109]) rfl ?_
                    refine rz_B.iast rfl rfl hi15 hj16 (by decide) ?_
                    have hw22 : wf (aI (aI (aI (aI (aI (aI A1 104 ((A1.1 91 3)).toNat a0) 105 ((A1.1 91 3)).toNat a1) 106 ((A1.1 91 3)).toNat a2) 107 ((A1.1 91 3)).toNat a3) 108 ((A1.1 91 3)).toNat (A1.1 91 0)) 109 ((A1.1 91 3)).toNat (-1)) := wf_aI hw21 (by decide)
                    refine rz_B.go 4 (pc' := 158) (L' := [some (.ref 91), some (vI a0), some (vI a1), some (vI a2), some (vI a3)]) (S' := [vI 1, vI (A1.1 91 11), .ref 91]) rfl ?_
                    obtain ⟨hk23, h⟩ := rz_g32_inv h
                    refine rz_B.iadd rfl ?_
                    refine rz_B.put 1 (pc' := 162) (L' := [some (.ref 91), some (vI a0), some (vI a1), some (vI a2), some (vI a3)]) (S' := []) (c := 91) (k := 11) (x := ((A1.1 91 11) + 1)) rfl ?_
                    have hw24 : wf (aI (aI (aI (aI (aI (aI (aI A1 104 ((A1.1 91 3)).toNat a0) 105 ((A1.1 91 3)).toNat a1) 106 ((A1.1 91 3)).toNat a2) 107 ((A1.1 91 3)).toNat a3) 108 ((A1.1 91 3)).toNat (A1.1 91 0)) 109 ((A1.1 91 3)).toNat (-1)) 91 11 ((A1.1 91 11) + 1)) := wf_aI hw22 hk23
                    refine rz_B.go 5 (pc' := 169) (L' := [some (.ref 91), some (vI a0), some (vI a1), some (vI a2), some (vI a3)]) (S' := [vI 1, vI (A1.1 91 3), .ref 91, vI (A1.1 91 3)]) rfl ?_
                    obtain ⟨hk25, h⟩ := rz_g32_inv h
                    refine rz_B.iadd rfl ?_
                    refine rz_B.put 1 (pc' := 173) (L' := [some (.ref 91), some (vI a0), some (vI a1), some (vI a2), some (vI a3)]) (S' := [vI (A1.1 91 3)]) (c := 91) (k := 3) (x := ((A1.1 91 3) + 1)) rfl ?_
                    have hw26 : wf (aI (aI (aI (aI (aI (aI (aI (aI A1 104 ((A1.1 91 3)).toNat a0) 105 ((A1.1 91 3)).toNat a1) 106 ((A1.1 91 3)).toNat a2) 107 ((A1.1 91 3)).toNat a3) 108 ((A1.1 91 3)).toNat (A1.1 91 0)) 109 ((A1.1 91 3)).toNat (-1)) 91 11 ((A1.1 91 11) + 1)) 91 3 ((A1.1 91 3) + 1)) := wf_aI hw24 hk25
                    cases h
                    exact rz_B.ret rfl (hw1 91 3).1 hw26
                · have h := if_F h hc12
                  refine rz_B.ifT ((lt32 (by decide) ha3).mpr (Int.not_le.mp hc12)) ?_
                  refine rz_B.go 2 (pc' := 84) (L' := [some (.ref 91), some (vI a0), some (vI a1), some (vI a2), some (vI a3)]) (S' := [vI (-6), .ref 91]) rfl ?_
                  obtain ⟨r27, A27, hf27, h⟩ := rz_b_inv h
                  obtain ⟨hg27, hr27, hw27⟩ := cx142_no F (d := d + 0) hf27 (by decide) hw1
                  refine rz_B.call (d := d + 0) (as := [.ref 91, vI (-6)]) (rest := []) (w := some (vI r27)) rfl hg27 ?_
                  cases h
                  exact rz_B.ret rfl hr27 hw27
              · have h := if_F h hc11
                refine rz_B.ifT ((lt32 (hw1 91 0).1 ha1).mpr (Int.not_le.mp hc11)) ?_
                refine rz_B.go 2 (pc' := 84) (L' := [some (.ref 91), some (vI a0), some (vI a1), some (vI a2), some (vI a3)]) (S' := [vI (-6), .ref 91]) rfl ?_
                obtain ⟨r28, A28, hf28, h⟩ := rz_b_inv h
                obtain ⟨hg28, hr28, hw28⟩ := cx142_no F (d := d + 0) hf28 (by decide) hw1
                refine rz_B.call (d := d + 0) (as := [.ref 91, vI (-6)]) (rest := []) (w := some (vI r28)) rfl hg28 ?_
                cases h
                exact rz_B.ret rfl hr28 hw28
          · have h := if_F h hc8
            refine rz_B.ifT (mt (eq32 ha2 (by decide)).mp hc8) ?_
            refine rz_B.go 2 (pc' := if decide (Int32.ofInt 0 ≤ Int32.ofInt a3) = true then 55 else 48) (L' := [some (.ref 91), some (vI a0), some (vI a1), some (vI a2), some (vI a3)]) (S' := []) rfl ?_
            by_cases hc29 : a3 < 0
            · have h := if_T h hc29
              refine rz_B.ifF (mt (le32 (by decide) ha3).mp (Int.not_le.mpr hc29)) ?_
              refine rz_B.go 2 (pc' := 51) (L' := [some (.ref 91), some (vI a0), some (vI a1), some (vI a2), some (vI a3)]) (S' := [vI (-4), .ref 91]) rfl ?_
              obtain ⟨r30, A30, hf30, h⟩ := rz_b_inv h
              obtain ⟨hg30, hr30, hw30⟩ := cx142_no F (d := d + 0) hf30 (by decide) hw1
              refine rz_B.call (d := d + 0) (as := [.ref 91, vI (-4)]) (rest := []) (w := some (vI r30)) rfl hg30 ?_
              cases h
              exact rz_B.ret rfl hr30 hw30
            · have h := if_F h hc29
              refine rz_B.ifT ((le32 (by decide) ha3).mpr (Int.not_lt.mp hc29)) ?_
              refine rz_B.go 4 (pc' := if decide (Int32.ofInt (A1.1 91 0) < Int32.ofInt a1) = true then 81 else 63) (L' := [some (.ref 91), some (vI a0), some (vI a1), some (vI a2), some (vI a3)]) (S' := []) rfl ?_
              by_cases hc31 : a1 ≤ (A1.1 91 0)
              · have h := if_T h hc31
                refine rz_B.ifF (mt (lt32 (hw1 91 0).1 ha1).mp (Int.not_lt.mpr hc31)) ?_
                refine rz_B.go 3 (pc' := if decide (Int32.ofInt 9999 < Int32.ofInt a3) = true then 81 else 71) (L' := [some (.ref 91), some (vI a0), some (vI a1), some (vI a2), some (vI a3)]) (S' := []) rfl ?_
                by_cases hc32 : a3 ≤ 9999
                · have h := if_T h hc32
                  refine rz_B.ifF (mt (lt32 (by decide) ha3).mp (Int.not_lt.mpr hc32)) ?_
                  refine rz_B.go 4 (pc' := if decide (¬ Int32.ofInt (A1.1 91 3) = Int32.ofInt 300) = true then 88 else 81) (L' := [some (.ref 91), some (vI a0), some (vI a1), some (vI a2), some (vI a3)]) (S' := []) rfl ?_
                  by_cases hc33 : (A1.1 91 3) = 300
                  · have h := if_T h hc33
                    refine rz_B.ifF (fun hn => hn ((eq32 (hw1 91 3).1 (by decide)).mpr hc33)) ?_
                    refine rz_B.go 2 (pc' := 84) (L' := [some (.ref 91), some (vI a0), some (vI a1), some (vI a2), some (vI a3)]) (S' := [vI (-6), .ref 91]) rfl ?_
                    obtain ⟨r34, A34, hf34, h⟩ := rz_b_inv h
                    obtain ⟨hg34, hr34, hw34⟩ := cx142_no F (d := d + 0) hf34 (by decide) hw1
                    refine rz_B.call (d := d + 0) (as := [.ref 91, vI (-6)]) (rest := []) (w := some (vI r34)) rfl hg34 ?_
                    cases h
                    exact rz_B.ret rfl hr34 hw34
                  · have h := if_F h hc33
                    refine rz_B.ifT (mt (eq32 (hw1 91 3).1 (by decide)).mp hc33) ?_
                    refine rz_B.go 5 (pc' := 97) (L' := [some (.ref 91), some (vI a0), some (vI a1), some (vI a2), some (vI a3)]) (S' := [vI a0, vI (A1.1 91 3), .ref 104]) rfl ?_
                    obtain ⟨hi35, hj36, h⟩ := rz_gx_inv h
                    refine rz_B.iast rfl rfl hi35 hj36 (by decide) ?_
                    have hw37 : wf (aI A1 104 ((A1.1 91 3)).toNat a0) := wf_aI hw1 ha0
                    refine rz_B.go 5 (pc' := 107) (L' := [some (.ref 91), some (vI a0), some (vI a1), some (vI a2), some (vI a3)]) (S' := [vI a1, vI (A1.1 91 3), .ref 105]) rfl ?_
                    refine rz_B.iast rfl rfl hi35 hj36 (by decide) ?_
                    have hw38 : wf (aI (aI A1 104 ((A1.1 91 3)).toNat a0) 105 ((A1.1 91 3)).toNat a1) := wf_aI hw37 ha1
                    refine rz_B.go 5 (pc' := 117) (L' := [some (.ref 91), some (vI a0), some (vI a1), some (vI a2), some (vI a3)]) (S' := [vI a2, vI (A1.1 91 3), .ref 106]) rfl ?_
                    refine rz_B.iast rfl rfl hi35 hj36 (by decide) ?_
                    have hw39 : wf (aI (aI (aI A1 104 ((A1.1 91 3)).toNat a0) 105 ((A1.1 91 3)).toNat a1) 106 ((A1.1 91 3)).toNat a2) := wf_aI hw38 ha2
                    refine rz_B.go 5 (pc' := 128) (L' := [some (.ref 91), some (vI a0), some (vI a1), some (vI a2), some (vI a3)]) (S' := [vI a3, vI (A1.1 91 3), .ref 107]) rfl ?_
                    refine rz_B.iast rfl rfl hi35 hj36 (by decide) ?_
                    have hw40 : wf (aI (aI (aI (aI A1 104 ((A1.1 91 3)).toNat a0) 105 ((A1.1 91 3)).toNat a1) 106 ((A1.1 91 3)).toNat a2) 107 ((A1.1 91 3)).toNat a3) := wf_aI hw39 ha3
                    refine rz_B.go 6 (pc' := 141) (L' := [some (.ref 91), some (vI a0), some (vI a1), some (vI a2), some (vI a3)]) (S' := [vI (A1.1 91 0), vI (A1.1 91 3), .ref 108]) rfl ?_
                    refine rz_B.iast rfl rfl hi35 hj36 (by decide) ?_
                    have hw41 : wf (aI (aI (aI (aI (aI A1 104 ((A1.1 91 3)).toNat a0) 105 ((A1.1 91 3)).toNat a1) 106 ((A1.1 91 3)).toNat a2) 107 ((A1.1 91 3)).toNat a3) 108 ((A1.1 91 3)).toNat (A1.1 91 0)) := wf_aI hw40 (hw1 91 0).1
                    refine rz_B.go 5 (pc' := 151) (L' := [some (.ref 91), some (vI a0), some (vI a1), some (vI a2), some (vI a3)]) (S' := [vI (-1), vI (A1.1 91 3), .ref 109]) rfl ?_
                    refine rz_B.iast rfl rfl hi35 hj36 (by decide) ?_
                    have hw42 : wf (aI (aI (aI (aI (aI (aI A1 104 ((A1.1 91 3)).toNat a0) 105 ((A1.1 91 3)).toNat a1) 106 ((A1.1 91 3)).toNat a2) 107 ((A1.1 91 3)).toNat a3) 108 ((A1.1 91 3)).toNat (A1.1 91 0)) 109 ((A1.1 91 3)).toNat (-1)) := wf_aI hw41 (by decide)
                    refine rz_B.go 4 (pc' := 158) (L' := [some (.ref 91), some (vI a0), some (vI a1), some (vI a2), some (vI a3)]) (S' := [vI 1, vI (A1.1 91 11), .ref 91]) rfl ?_
                    obtain ⟨hk43, h⟩ := rz_g32_inv h
                    refine rz_B.iadd rfl ?_
                    refine rz_B.put 1 (pc' := 162) (L' := [some (.ref 91), some (vI a0), some (vI a1), some (vI a2), some (vI a3)]) (S' := []) (c := 91) (k := 11) (x := ((A1.1 91 11) + 1)) rfl ?_
                    have hw44 : wf (aI (aI (aI (aI (aI (aI (aI A1 104 ((A1.1 91 3)).toNat a0) 105 ((A1.1 91 3)).toNat a1) 106 ((A1.1 91 3)).toNat a2) 107 ((A1.1 91 3)).toNat a3) 108 ((A1.1 91 3)).toNat (A1.1 91 0)) 109 ((A1.1 91 3)).toNat (-1)) 91 11 ((A1.1 91 11) + 1)) := wf_aI hw42 hk43
                    refine rz_B.go 5 (pc' := 169) (L' := [some (.ref 91), some (vI a0), some (vI a1), some (vI a2), some (vI a3)]) (S' := [vI 1, vI (A1.1 91 3), .ref 91, vI (A1.1 91 3)]) rfl ?_
                    obtain ⟨hk45, h⟩ := rz_g32_inv h
                    refine rz_B.iadd rfl ?_
                    refine rz_B.put 1 (pc' := 173) (L' := [some (.ref 91), some (vI a0), some (vI a1), some (vI a2), some (vI a3)]) (S' := [vI (A1.1 91 3)]) (c := 91) (k := 3) (x := ((A1.1 91 3) + 1)) rfl ?_
                    have hw46 : wf (aI (aI (aI (aI (aI (aI (aI (aI A1 104 ((A1.1 91 3)).toNat a0) 105 ((A1.1 91 3)).toNat a1) 106 ((A1.1 91 3)).toNat a2) 107 ((A1.1 91 3)).toNat a3) 108 ((A1.1 91 3)).toNat (A1.1 91 0)) 109 ((A1.1 91 3)).toNat (-1)) 91 11 ((A1.1 91 11) + 1)) 91 3 ((A1.1 91 3) + 1)) := wf_aI hw44 hk45
                    cases h
                    exact rz_B.ret rfl (hw1 91 3).1 hw46
                · have h := if_F h hc32
                  refine rz_B.ifT ((lt32 (by decide) ha3).mpr (Int.not_le.mp hc32)) ?_
                  refine rz_B.go 2 (pc' := 84) (L' := [some (.ref 91), some (vI a0), some (vI a1), some (vI a2), some (vI a3)]) (S' := [vI (-6), .ref 91]) rfl ?_
                  obtain ⟨r47, A47, hf47, h⟩ := rz_b_inv h
                  obtain ⟨hg47, hr47, hw47⟩ := cx142_no F (d := d + 0) hf47 (by decide) hw1
                  refine rz_B.call (d := d + 0) (as := [.ref 91, vI (-6)]) (rest := []) (w := some (vI r47)) rfl hg47 ?_
                  cases h
                  exact rz_B.ret rfl hr47 hw47
              · have h := if_F h hc31
                refine rz_B.ifT ((lt32 (hw1 91 0).1 ha1).mpr (Int.not_le.mp hc31)) ?_
                refine rz_B.go 2 (pc' := 84) (L' := [some (.ref 91), some (vI a0), some (vI a1), some (vI a2), some (vI a3)]) (S' := [vI (-6), .ref 91]) rfl ?_
                obtain ⟨r48, A48, hf48, h⟩ := rz_b_inv h
                obtain ⟨hg48, hr48, hw48⟩ := cx142_no F (d := d + 0) hf48 (by decide) hw1
                refine rz_B.call (d := d + 0) (as := [.ref 91, vI (-6)]) (rest := []) (w := some (vI r48)) rfl hg48 ?_
                cases h
                exact rz_B.ret rfl hr48 hw48
        · have h := if_F h hc7
          refine rz_B.ifT ((lt32 ha1 (by decide)).mpr (Int.not_le.mp hc7)) ?_
          refine rz_B.go 2 (pc' := 51) (L' := [some (.ref 91), some (vI a0), some (vI a1), some (vI a2), some (vI a3)]) (S' := [vI (-4), .ref 91]) rfl ?_
          obtain ⟨r49, A49, hf49, h⟩ := rz_b_inv h
          obtain ⟨hg49, hr49, hw49⟩ := cx142_no F (d := d + 0) hf49 (by decide) hw1
          refine rz_B.call (d := d + 0) (as := [.ref 91, vI (-4)]) (rest := []) (w := some (vI r49)) rfl hg49 ?_
          cases h
          exact rz_B.ret rfl hr49 hw49
    · have h := if_F h hc4
      refine rz_B.ifT ((lt32 ha2 (by decide)).mpr (Int.not_le.mp hc4)) ?_
      refine rz_B.go 2 (pc' := 26) (L' := [some (.ref 91), some (vI a0), some (vI a1), some (vI a2), some (vI a3)]) (S' := [vI (-2), .ref 91]) rfl ?_
      obtain ⟨r50, A50, hf50, h⟩ := rz_b_inv h
      obtain ⟨hg50, hr50, hw50⟩ := cx142_no F (d := d + 0) hf50 (by decide) hw1
      refine rz_B.call (d := d + 0) (as := [.ref 91, vI (-2)]) (rest := []) (w := some (vI r50)) rfl hg50 ?_
      cases h
      exact rz_B.ret rfl hr50 hw50
/-- RiverGaugeModel.strike(I)I -/
def x151_strike (F : Nat) (a0 : Int) (A : rz_A) : Option (Int × rz_A) :=
  if 0 ≤ a0 then
    if (A.1 91 3) ≤ a0 then
      rz_b (x142_no F (-1) A) fun r3 A3 =>
      some (r3, A3)
    else
      rz_gx a0 300 <|
      if (A.1 109 (a0).toNat) < 0 then
        if (A.1 107 (a0).toNat) < 0 then
          rz_b (x142_no F (-3) A) fun r8 A8 =>
          some (r8, A8)
        else
          rz_g32 ((A.1 91 11) + 1) <|
          some (1, (aI (aI A 109 (a0).toNat (A.1 91 0)) 91 11 ((A.1 91 11) + 1)))
      else
        rz_b (x142_no F (-3) A) fun r12 A12 =>
        some (r12, A12)
  else
    rz_b (x142_no F (-1) A) fun r13 A13 =>
    some (r13, A13)
theorem cx151_strike (F : Nat) {d : Nat} {a0 : Int} {A : rz_A} {r : Int} {A' : rz_A} (h : x151_strike F a0 A = some (r, A')) (ha0 : r32 a0) (hw : wf A) : rg_Rn (d + 1) 151 [.ref 91, vI a0] (toM A) (some (vI r)) (toM A') ∧ (r32 r) ∧ wf A' := by
  show rz_B (d + 1) 151 0 [some (.ref 91), some (vI a0)] [] A (some (vI r)) A' (r32 r)
  unfold x151_strike at h
  refine rz_B.go 2 (pc' := if decide (Int32.ofInt a0 < Int32.ofInt 0) = true then 12 else 4) (L' := [some (.ref 91), some (vI a0)]) (S' := []) rfl ?_
  by_cases hc1 : 0 ≤ a0
  · have h := if_T h hc1
    refine rz_B.ifF (mt (lt32 ha0 (by decide)).mp (Int.not_lt.mpr hc1)) ?_
    refine rz_B.go 4 (pc' := if decide (Int32.ofInt a0 < Int32.ofInt (A.1 91 3)) = true then 18 else 12) (L' := [some (.ref 91), some (vI a0)]) (S' := []) rfl ?_
    by_cases hc2 : (A.1 91 3) ≤ a0
    · have h := if_T h hc2
      refine rz_B.ifF (mt (lt32 ha0 (hw 91 3).1).mp (Int.not_lt.mpr hc2)) ?_
      refine rz_B.go 2 (pc' := 14) (L' := [some (.ref 91), some (vI a0)]) (S' := [vI (-1), .ref 91]) rfl ?_
      obtain ⟨r3, A3, hf3, h⟩ := rz_b_inv h
      obtain ⟨hg3, hr3, hw3⟩ := cx142_no F (d := d + 0) hf3 (by decide) hw
      refine rz_B.call (d := d + 0) (as := [.ref 91, vI (-1)]) (rest := []) (w := some (vI r3)) rfl hg3 ?_
      cases h
      exact rz_B.ret rfl hr3 hw3
    · have h := if_F h hc2
      refine rz_B.ifT ((lt32 ha0 (hw 91 3).1).mpr (Int.not_le.mp hc2)) ?_
      refine rz_B.go 3 (pc' := 23) (L' := [some (.ref 91), some (vI a0)]) (S' := [vI a0, .ref 109]) rfl ?_
      obtain ⟨hi4, hj5, h⟩ := rz_gx_inv h
      refine rz_B.iald rfl rfl hi4 hj5 (by decide) ?_
      refine rz_B.go 1 (pc' := if decide (Int32.ofInt 0 ≤ Int32.ofInt (A.1 109 (a0).toNat)) = true then 36 else 27) (L' := [some (.ref 91), some (vI a0)]) (S' := []) rfl ?_
      by_cases hc6 : (A.1 109 (a0).toNat) < 0
      · have h := if_T h hc6
        refine rz_B.ifF (mt (le32 (by decide) (hw 109 (a0).toNat).1).mp (Int.not_le.mpr hc6)) ?_
        refine rz_B.go 3 (pc' := 32) (L' := [some (.ref 91), some (vI a0)]) (S' := [vI a0, .ref 107]) rfl ?_
        refine rz_B.iald rfl rfl hi4 hj5 (by decide) ?_
        refine rz_B.go 1 (pc' := if decide (Int32.ofInt 0 ≤ Int32.ofInt (A.1 107 (a0).toNat)) = true then 43 else 36) (L' := [some (.ref 91), some (vI a0)]) (S' := []) rfl ?_
        by_cases hc7 : (A.1 107 (a0).toNat) < 0
        · have h := if_T h hc7
          refine rz_B.ifF (mt (le32 (by decide) (hw 107 (a0).toNat).1).mp (Int.not_le.mpr hc7)) ?_
          refine rz_B.go 2 (pc' := 39) (L' := [some (.ref 91), some (vI a0)]) (S' := [vI (-3), .ref 91]) rfl ?_
          obtain ⟨r8, A8, hf8, h⟩ := rz_b_inv h
          obtain ⟨hg8, hr8, hw8⟩ := cx142_no F (d := d + 0) hf8 (by decide) hw
          refine rz_B.call (d := d + 0) (as := [.ref 91, vI (-3)]) (rest := []) (w := some (vI r8)) rfl hg8 ?_
          cases h
          exact rz_B.ret rfl hr8 hw8
        · have h := if_F h hc7
          refine rz_B.ifT ((le32 (by decide) (hw 107 (a0).toNat).1).mpr (Int.not_lt.mp hc7)) ?_
          refine rz_B.go 5 (pc' := 52) (L' := [some (.ref 91), some (vI a0)]) (S' := [vI (A.1 91 0), vI a0, .ref 109]) rfl ?_
          refine rz_B.iast rfl rfl hi4 hj5 (by decide) ?_
          have hw9 : wf (aI A 109 (a0).toNat (A.1 91 0)) := wf_aI hw (hw 91 0).1
          refine rz_B.go 4 (pc' := 59) (L' := [some (.ref 91), some (vI a0)]) (S' := [vI 1, vI (A.1 91 11), .ref 91]) rfl ?_
          obtain ⟨hk10, h⟩ := rz_g32_inv h
          refine rz_B.iadd rfl ?_
          refine rz_B.put 1 (pc' := 63) (L' := [some (.ref 91), some (vI a0)]) (S' := []) (c := 91) (k := 11) (x := ((A.1 91 11) + 1)) rfl ?_
          have hw11 : wf (aI (aI A 109 (a0).toNat (A.1 91 0)) 91 11 ((A.1 91 11) + 1)) := wf_aI hw9 hk10
          refine rz_B.go 1 (pc' := 64) (L' := [some (.ref 91), some (vI a0)]) (S' := [vI 1]) rfl ?_
          cases h
          exact rz_B.ret rfl (by decide) hw11
      · have h := if_F h hc6
        refine rz_B.ifT ((le32 (by decide) (hw 109 (a0).toNat).1).mpr (Int.not_lt.mp hc6)) ?_
        refine rz_B.go 2 (pc' := 39) (L' := [some (.ref 91), some (vI a0)]) (S' := [vI (-3), .ref 91]) rfl ?_
        obtain ⟨r12, A12, hf12, h⟩ := rz_b_inv h
        obtain ⟨hg12, hr12, hw12⟩ := cx142_no F (d := d + 0) hf12 (by decide) hw
        refine rz_B.call (d := d + 0) (as := [.ref 91, vI (-3)]) (rest := []) (w := some (vI r12)) rfl hg12 ?_
        cases h
        exact rz_B.ret rfl hr12 hw12
  · have h := if_F h hc1
    refine rz_B.ifT ((lt32 ha0 (by decide)).mpr (Int.not_le.mp hc1)) ?_
    refine rz_B.go 2 (pc' := 14) (L' := [some (.ref 91), some (vI a0)]) (S' := [vI (-1), .ref 91]) rfl ?_
    obtain ⟨r13, A13, hf13, h⟩ := rz_b_inv h
    obtain ⟨hg13, hr13, hw13⟩ := cx142_no F (d := d + 0) hf13 (by decide) hw
    refine rz_B.call (d := d + 0) (as := [.ref 91, vI (-1)]) (rest := []) (w := some (vI r13)) rfl hg13 ?_
    cases h
    exact rz_B.ret rfl hr13 hw13
/-- RiverGaugeModel.isTold(II)Z -/
def x153_isTold (F : Nat) (a0 : Int) (a1 : Int) (A : rz_A) : Option (Int × rz_A) :=
  rz_gx a0 300 <|
  if 0 ≤ (A.1 109 (a0).toNat) then
    if (A.1 109 (a0).toNat) ≤ a1 then
      some (1, A)
    else
      some (0, A)
  else
    some (0, A)
theorem cx153_isTold (F : Nat) {d : Nat} {a0 : Int} {a1 : Int} {A : rz_A} {r : Int} {A' : rz_A} (h : x153_isTold F a0 a1 A = some (r, A')) (ha0 : r32 a0) (ha1 : r32 a1) (hw : wf A) : rg_Rn (d + 0) 153 [.ref 91, vI a0, vI a1] (toM A) (some (vI r)) (toM A') ∧ (r32 r) ∧ wf A' := by
  show rz_B (d + 0) 153 0 [some (.ref 91), some (vI a0), some (vI a1)] [] A (some (vI r)) A' (r32 r)
  unfold x153_isTold at h
  refine rz_B.go 3 (pc' := 5) (L' := [some (.ref 91), some (vI a0), some (vI a1)]) (S' := [vI a0, .ref 109]) rfl ?_
  obtain ⟨hi1, hj2, h⟩ := rz_gx_inv h
  refine rz_B.iald rfl rfl hi1 hj2 (by decide) ?_
  refine rz_B.go 1 (pc' := if decide (Int32.ofInt (A.1 109 (a0).toNat) < Int32.ofInt 0) = true then 23 else 9) (L' := [some (.ref 91), some (vI a0), some (vI a1)]) (S' := []) rfl ?_
  by_cases hc3 : 0 ≤ (A.1 109 (a0).toNat)
  · have h := if_T h hc3
    refine rz_B.ifF (mt (lt32 (hw 109 (a0).toNat).1 (by decide)).mp (Int.not_lt.mpr hc3)) ?_
    refine rz_B.go 3 (pc' := 14) (L' := [some (.ref 91), some (vI a0), some (vI a1)]) (S' := [vI a0, .ref 109]) rfl ?_
    refine rz_B.iald rfl rfl hi1 hj2 (by decide) ?_
    refine rz_B.go 2 (pc' := if decide (Int32.ofInt a1 < Int32.ofInt (A.1 109 (a0).toNat)) = true then 23 else 19) (L' := [some (.ref 91), some (vI a0), some (vI a1)]) (S' := []) rfl ?_
    by_cases hc4 : (A.1 109 (a0).toNat) ≤ a1
    · have h := if_T h hc4
      refine rz_B.ifF (mt (lt32 ha1 (hw 109 (a0).toNat).1).mp (Int.not_lt.mpr hc4)) ?_
      refine rz_B.go 2 (pc' := 24) (L' := [some (.ref 91), some (vI a0), some (vI a1)]) (S' := [vI 1]) rfl ?_
      cases h
      exact rz_B.ret rfl (by decide) hw
    · have h := if_F h hc4
      refine rz_B.ifT ((lt32 ha1 (hw 109 (a0).toNat).1).mpr (Int.not_le.mp hc4)) ?_
      refine rz_B.go 1 (pc' := 24) (L' := [some (.ref 91), some (vI a0), some (vI a1)]) (S' := [vI 0]) rfl ?_
      cases h
      exact rz_B.ret rfl (by decide) hw
  · have h := if_F h hc3
    refine rz_B.ifT ((lt32 (hw 109 (a0).toNat).1 (by decide)).mpr (Int.not_le.mp hc3)) ?_
    refine rz_B.go 1 (pc' := 24) (L' := [some (.ref 91), some (vI a0), some (vI a1)]) (S' := [vI 0]) rfl ?_
    cases h
    exact rz_B.ret rfl (by decide) hw
def x155_inForce_6 (F : Nat) : Nat → Int → Int → Int → Int → Int → rz_A → Option (Int × rz_A)
  | 0, _, _, _, _, _, _ => none
  | n + 1, v1, v2, v3, v4, v5, A =>
    if v5 < (A.1 91 5) then
      rz_gx v5 20 <|
      if (A.1 122 (v5).toNat) = v1 then
        if (A.1 124 (v5).toNat) ≤ v3 then
          if (A.1 123 (v5).toNat) ≤ v2 then
            if 0 ≤ v4 then
              rz_gx v4 20 <|
              if (A.1 123 (v4).toNat) ≤ (A.1 123 (v5).toNat) then
                rz_g32 (v5 + 1) <|
                x155_inForce_6 F n v1 v2 v3 v5 (v5 + 1) A
              else
                rz_g32 (v5 + 1) <|
                x155_inForce_6 F n v1 v2 v3 v4 (v5 + 1) A
            else
              rz_g32 (v5 + 1) <|
              x155_inForce_6 F n v1 v2 v3 v5 (v5 + 1) A
          else
            rz_g32 (v5 + 1) <|
            x155_inForce_6 F n v1 v2 v3 v4 (v5 + 1) A
        else
          rz_g32 (v5 + 1) <|
          x155_inForce_6 F n v1 v2 v3 v4 (v5 + 1) A
      else
        rz_g32 (v5 + 1) <|
        x155_inForce_6 F n v1 v2 v3 v4 (v5 + 1) A
    else
      some (v4, A)
theorem cx155_inForce_6 {d : Nat} (F : Nat) : ∀ (n : Nat) (v1 : Int) (v2 : Int) (v3 : Int) (v4 : Int) (v5 : Int) (A : rz_A) (r : Int) (A' : rz_A), x155_inForce_6 F n v1 v2 v3 v4 v5 A = some (r, A') → r32 v1 → r32 v2 → r32 v3 → r32 v4 → r32 v5 → wf A → rz_B (d + 0) 155 6 [some (.ref 91), some (vI v1), some (vI v2), some (vI v3), some (vI v4), some (vI v5)] [] A (some (vI r)) A' (r32 r) := by
  intro n
  induction n with
  | zero => intro v1 v2 v3 v4 v5 A r A' h; cases h
  | succ n ih =>
    intro v1 v2 v3 v4 v5 A r A' h hv1 hv2 hv3 hv4 hv5 hw
    rw [x155_inForce_6] at h
    refine rz_B.go 4 (pc' := if decide (Int32.ofInt (A.1 91 5) ≤ Int32.ofInt v5) = true then 80 else 15) (L' := [some (.ref 91), some (vI v1), some (vI v2), some (vI v3), some (vI v4), some (vI v5)]) (S' := []) rfl ?_
    by_cases hc1 : v5 < (A.1 91 5)
    · have h := if_T h hc1
      refine rz_B.ifF (mt (le32 (hw 91 5).1 hv5).mp (Int.not_le.mpr hc1)) ?_
      refine rz_B.go 3 (pc' := 21) (L' := [some (.ref 91), some (vI v1), some (vI v2), some (vI v3), some (vI v4), some (vI v5)]) (S' := [vI v5, .ref 122]) rfl ?_
      obtain ⟨hi2, hj3, h⟩ := rz_gx_inv h
      refine rz_B.iald rfl rfl hi2 hj3 (by decide) ?_
      refine rz_B.go 2 (pc' := if decide (¬ Int32.ofInt (A.1 122 (v5).toNat) = Int32.ofInt v1) = true then 74 else 26) (L' := [some (.ref 91), some (vI v1), some (vI v2), some (vI v3), some (vI v4), some (vI v5)]) (S' := []) rfl ?_
      by_cases hc4 : (A.1 122 (v5).toNat) = v1
      · have h := if_T h hc4
        refine rz_B.ifF (fun hn => hn ((eq32 (hw 122 (v5).toNat).1 hv1).mpr hc4)) ?_
        refine rz_B.go 3 (pc' := 32) (L' := [some (.ref 91), some (vI v1), some (vI v2), some (vI v3), some (vI v4), some (vI v5)]) (S' := [vI v5, .ref 124]) rfl ?_
        refine rz_B.iald rfl rfl hi2 hj3 (by decide) ?_
        refine rz_B.go 2 (pc' := if decide (Int32.ofInt v3 < Int32.ofInt (A.1 124 (v5).toNat)) = true then 74 else 37) (L' := [some (.ref 91), some (vI v1), some (vI v2), some (vI v3), some (vI v4), some (vI v5)]) (S' := []) rfl ?_
        by_cases hc5 : (A.1 124 (v5).toNat) ≤ v3
        · have h := if_T h hc5
          refine rz_B.ifF (mt (lt32 hv3 (hw 124 (v5).toNat).1).mp (Int.not_lt.mpr hc5)) ?_
          refine rz_B.go 3 (pc' := 43) (L' := [some (.ref 91), some (vI v1), some (vI v2), some (vI v3), some (vI v4), some (vI v5)]) (S' := [vI v5, .ref 123]) rfl ?_
          refine rz_B.iald rfl rfl hi2 hj3 (by decide) ?_
          refine rz_B.go 2 (pc' := if decide (Int32.ofInt v2 < Int32.ofInt (A.1 123 (v5).toNat)) = true then 74 else 48) (L' := [some (.ref 91), some (vI v1), some (vI v2), some (vI v3), some (vI v4), some (vI v5)]) (S' := []) rfl ?_
          by_cases hc6 : (A.1 123 (v5).toNat) ≤ v2
          · have h := if_T h hc6
            refine rz_B.ifF (mt (lt32 hv2 (hw 123 (v5).toNat).1).mp (Int.not_lt.mpr hc6)) ?_
            refine rz_B.go 2 (pc' := if decide (Int32.ofInt v4 < Int32.ofInt 0) = true then 70 else 53) (L' := [some (.ref 91), some (vI v1), some (vI v2), some (vI v3), some (vI v4), some (vI v5)]) (S' := []) rfl ?_
            by_cases hc7 : 0 ≤ v4
            · have h := if_T h hc7
              refine rz_B.ifF (mt (lt32 hv4 (by decide)).mp (Int.not_lt.mpr hc7)) ?_
              refine rz_B.go 3 (pc' := 59) (L' := [some (.ref 91), some (vI v1), some (vI v2), some (vI v3), some (vI v4), some (vI v5)]) (S' := [vI v5, .ref 123]) rfl ?_
              refine rz_B.iald rfl rfl hi2 hj3 (by decide) ?_
              refine rz_B.go 3 (pc' := 66) (L' := [some (.ref 91), some (vI v1), some (vI v2), some (vI v3), some (vI v4), some (vI v5)]) (S' := [vI v4, .ref 123, vI (A.1 123 (v5).toNat)]) rfl ?_
              obtain ⟨hi8, hj9, h⟩ := rz_gx_inv h
              refine rz_B.iald rfl rfl hi8 hj9 (by decide) ?_
              refine rz_B.go 1 (pc' := if decide (Int32.ofInt (A.1 123 (v5).toNat) < Int32.ofInt (A.1 123 (v4).toNat)) = true then 74 else 70) (L' := [some (.ref 91), some (vI v1), some (vI v2), some (vI v3), some (vI v4), some (vI v5)]) (S' := []) rfl ?_
              by_cases hc10 : (A.1 123 (v4).toNat) ≤ (A.1 123 (v5).toNat)
              · have h := if_T h hc10
                refine rz_B.ifF (mt (lt32 (hw 123 (v5).toNat).1 (hw 123 (v4).toNat).1).mp (Int.not_lt.mpr hc10)) ?_
                refine rz_B.go 2 (pc' := 74) (L' := [some (.ref 91), some (vI v1), some (vI v2), some (vI v3), some (vI v5), some (vI v5)]) (S' := []) rfl ?_
                obtain ⟨hk11, h⟩ := rz_g32_inv h
                refine rz_B.iinc rfl (by decide) rfl (L' := [some (.ref 91), some (vI v1), some (vI v2), some (vI v3), some (vI v5), some (vI (v5 + 1))]) rfl ?_
                refine rz_B.go 1 (pc' := 6) (L' := [some (.ref 91), some (vI v1), some (vI v2), some (vI v3), some (vI v5), some (vI (v5 + 1))]) (S' := []) rfl ?_
                refine rz_B.more (rg_le_ok (L := [some (.ref 91), some (vI v1), some (vI v2), some (vI v3), some (vI v5), some (vI (v5 + 1))]) (by simp [rg_le])) ?_
                exact ih _ _ _ _ _ _ _ _ h hv1 hv2 hv3 hv5 hk11 hw
              · have h := if_F h hc10
                refine rz_B.ifT ((lt32 (hw 123 (v5).toNat).1 (hw 123 (v4).toNat).1).mpr (Int.not_le.mp hc10)) ?_
                obtain ⟨hk12, h⟩ := rz_g32_inv h
                refine rz_B.iinc rfl (by decide) rfl (L' := [some (.ref 91), some (vI v1), some (vI v2), some (vI v3), some (vI v4), some (vI (v5 + 1))]) rfl ?_
                refine rz_B.go 1 (pc' := 6) (L' := [some (.ref 91), some (vI v1), some (vI v2), some (vI v3), some (vI v4), some (vI (v5 + 1))]) (S' := []) rfl ?_
                refine rz_B.more (rg_le_ok (L := [some (.ref 91), some (vI v1), some (vI v2), some (vI v3), some (vI v4), some (vI (v5 + 1))]) (by simp [rg_le])) ?_
                exact ih _ _ _ _ _ _ _ _ h hv1 hv2 hv3 hv4 hk12 hw
            · have h := if_F h hc7
              refine rz_B.ifT ((lt32 hv4 (by decide)).mpr (Int.not_le.mp hc7)) ?_
              refine rz_B.go 2 (pc' := 74) (L' := [some (.ref 91), some (vI v1), some (vI v2), some (vI v3), some (vI v5), some (vI v5)]) (S' := []) rfl ?_
              obtain ⟨hk13, h⟩ := rz_g32_inv h
              refine rz_B.iinc rfl (by decide) rfl (L' := [some (.ref 91), some (vI v1), some (vI v2), some (vI v3), some (vI v5), some (vI (v5 + 1))]) rfl ?_
              refine rz_B.go 1 (pc' := 6) (L' := [some (.ref 91), some (vI v1), some (vI v2), some (vI v3), some (vI v5), some (vI (v5 + 1))]) (S' := []) rfl ?_
              refine rz_B.more (rg_le_ok (L := [some (.ref 91), some (vI v1), some (vI v2), some (vI v3), some (vI v5), some (vI (v5 + 1))]) (by simp [rg_le])) ?_
              exact ih _ _ _ _ _ _ _ _ h hv1 hv2 hv3 hv5 hk13 hw
          · have h := if_F h hc6
            refine rz_B.ifT ((lt32 hv2 (hw 123 (v5).toNat).1).mpr (Int.not_le.mp hc6)) ?_
            obtain ⟨hk14, h⟩ := rz_g32_inv h
            refine rz_B.iinc rfl (by decide) rfl (L' := [some (.ref 91), some (vI v1), some (vI v2), some (vI v3), some (vI v4), some (vI (v5 + 1))]) rfl ?_
            refine rz_B.go 1 (pc' := 6) (L' := [some (.ref 91), some (vI v1), some (vI v2), some (vI v3), some (vI v4), some (vI (v5 + 1))]) (S' := []) rfl ?_
            refine rz_B.more (rg_le_ok (L := [some (.ref 91), some (vI v1), some (vI v2), some (vI v3), some (vI v4), some (vI (v5 + 1))]) (by simp [rg_le])) ?_
            exact ih _ _ _ _ _ _ _ _ h hv1 hv2 hv3 hv4 hk14 hw
        · have h := if_F h hc5
          refine rz_B.ifT ((lt32 hv3 (hw 124 (v5).toNat).1).mpr (Int.not_le.mp hc5)) ?_
          obtain ⟨hk15, h⟩ := rz_g32_inv h
          refine rz_B.iinc rfl (by decide) rfl (L' := [some (.ref 91), some (vI v1), some (vI v2), some (vI v3), some (vI v4), some (vI (v5 + 1))]) rfl ?_
          refine rz_B.go 1 (pc' := 6) (L' := [some (.ref 91), some (vI v1), some (vI v2), some (vI v3), some (vI v4), some (vI (v5 + 1))]) (S' := []) rfl ?_
          refine rz_B.more (rg_le_ok (L := [some (.ref 91), some (vI v1), some (vI v2), some (vI v3), some (vI v4), some (vI (v5 + 1))]) (by simp [rg_le])) ?_
          exact ih _ _ _ _ _ _ _ _ h hv1 hv2 hv3 hv4 hk15 hw
      · have h := if_F h hc4
        refine rz_B.ifT (mt (eq32 (hw 122 (v5).toNat).1 hv1).mp hc4) ?_
        obtain ⟨hk16, h⟩ := rz_g32_inv h
        refine rz_B.iinc rfl (by decide) rfl (L' := [some (.ref 91), some (vI v1), some (vI v2), some (vI v3), some (vI v4), some (vI (v5 + 1))]) rfl ?_
        refine rz_B.go 1 (pc' := 6) (L' := [some (.ref 91), some (vI v1), some (vI v2), some (vI v3), some (vI v4), some (vI (v5 + 1))]) (S' := []) rfl ?_
        refine rz_B.more (rg_le_ok (L := [some (.ref 91), some (vI v1), some (vI v2), some (vI v3), some (vI v4), some (vI (v5 + 1))]) (by simp [rg_le])) ?_
        exact ih _ _ _ _ _ _ _ _ h hv1 hv2 hv3 hv4 hk16 hw
    · have h := if_F h hc1
      refine rz_B.ifT ((le32 (hw 91 5).1 hv5).mpr (Int.not_lt.mp hc1)) ?_
      refine rz_B.go 1 (pc' := 82) (L' := [some (.ref 91), some (vI v1), some (vI v2), some (vI v3), some (vI v4), some (vI v5)]) (S' := [vI v4]) rfl ?_
      cases h
      exact rz_B.ret rfl hv4 hw
/-- RiverGaugeModel.inForce(III)I -/
def x155_inForce (F : Nat) (a0 : Int) (a1 : Int) (a2 : Int) (A : rz_A) : Option (Int × rz_A) :=
  x155_inForce_6 F F a0 a1 a2 (-1) 0 A
theorem cx155_inForce (F : Nat) {d : Nat} {a0 : Int} {a1 : Int} {a2 : Int} {A : rz_A} {r : Int} {A' : rz_A} (h : x155_inForce F a0 a1 a2 A = some (r, A')) (ha0 : r32 a0) (ha1 : r32 a1) (ha2 : r32 a2) (hw : wf A) : rg_Rn (d + 0) 155 [.ref 91, vI a0, vI a1, vI a2] (toM A) (some (vI r)) (toM A') ∧ (r32 r) ∧ wf A' := by
  show rz_B (d + 0) 155 0 [some (.ref 91), some (vI a0), some (vI a1), some (vI a2), none, none] [] A (some (vI r)) A' (r32 r)
  unfold x155_inForce at h
  refine rz_B.go 4 (pc' := 6) (L' := [some (.ref 91), some (vI a0), some (vI a1), some (vI a2), some (vI (-1)), some (vI 0)]) (S' := []) rfl ?_
  refine rz_B.more (rg_le_ok (L := [some (.ref 91), some (vI a0), some (vI a1), some (vI a2), some (vI (-1)), some (vI 0)]) (by simp [rg_le])) ?_
  exact cx155_inForce_6 F F _ _ _ _ _ _ _ _ h ha0 ha1 ha2 (by decide) (by decide) hw
def x156_ahead_105 (F : Nat) (k5 : (Int → Int → Int → Int → rz_A → Option (Int × rz_A))) (v1 : Int) (v2 : Int) (v3 : Int) (v4 : Int) (A : rz_A) : Option (Int × rz_A) :=
  if 0 ≤ v3 then
    rz_gx v4 300 <|
    rz_gx v3 300 <|
    if (A.1 105 (v3).toNat) ≤ (A.1 105 (v4).toNat) then
      rz_g32 (v4 + 1) <|
      k5 v1 v2 v4 (v4 + 1) A
    else
      rz_g32 (v4 + 1) <|
      k5 v1 v2 v3 (v4 + 1) A
  else
    rz_g32 (v4 + 1) <|
    k5 v1 v2 v4 (v4 + 1) A
theorem cx156_ahead_105 {d : Nat} (F : Nat) {k5 : (Int → Int → Int → Int → rz_A → Option (Int × rz_A))} (hkk5 : ∀ (v1 : Int) (v2 : Int) (v3 : Int) (v4 : Int) (A : rz_A) (r : Int) (A' : rz_A), k5 v1 v2 v3 v4 A = some (r, A') → r32 v1 → r32 v2 → r32 v3 → r32 v4 → wf A → rz_B (d + 1) 156 5 [some (.ref 91), some (vI v1), some (vI v2), some (vI v3), some (vI v4)] [] A (some (vI r)) A' (r32 r)) : ∀ (v1 : Int) (v2 : Int) (v3 : Int) (v4 : Int) (A : rz_A) (r : Int) (A' : rz_A), x156_ahead_105 F k5 v1 v2 v3 v4 A = some (r, A') → r32 v1 → r32 v2 → r32 v3 → r32 v4 → wf A → rz_B (d + 1) 156 105 [some (.ref 91), some (vI v1), some (vI v2), some (vI v3), some (vI v4)] [] A (some (vI r)) A' (r32 r) := by
  intro v1 v2 v3 v4 A r A' h hv1 hv2 hv3 hv4 hw
  unfold x156_ahead_105 at h
  refine rz_B.go 2 (pc' := if decide (Int32.ofInt v3 < Int32.ofInt 0) = true then 125 else 109) (L' := [some (.ref 91), some (vI v1), some (vI v2), some (vI v3), some (vI v4)]) (S' := []) rfl ?_
  by_cases hc1 : 0 ≤ v3
  · have h := if_T h hc1
    refine rz_B.ifF (mt (lt32 hv3 (by decide)).mp (Int.not_lt.mpr hc1)) ?_
    refine rz_B.go 3 (pc' := 115) (L' := [some (.ref 91), some (vI v1), some (vI v2), some (vI v3), some (vI v4)]) (S' := [vI v4, .ref 105]) rfl ?_
    obtain ⟨hi2, hj3, h⟩ := rz_gx_inv h
    refine rz_B.iald rfl rfl hi2 hj3 (by decide) ?_
    refine rz_B.go 3 (pc' := 121) (L' := [some (.ref 91), some (vI v1), some (vI v2), some (vI v3), some (vI v4)]) (S' := [vI v3, .ref 105, vI (A.1 105 (v4).toNat)]) rfl ?_
    obtain ⟨hi4, hj5, h⟩ := rz_gx_inv h
    refine rz_B.iald rfl rfl hi4 hj5 (by decide) ?_
    refine rz_B.go 1 (pc' := if decide (Int32.ofInt (A.1 105 (v4).toNat) < Int32.ofInt (A.1 105 (v3).toNat)) = true then 128 else 125) (L' := [some (.ref 91), some (vI v1), some (vI v2), some (vI v3), some (vI v4)]) (S' := []) rfl ?_
    by_cases hc6 : (A.1 105 (v3).toNat) ≤ (A.1 105 (v4).toNat)
    · have h := if_T h hc6
      refine rz_B.ifF (mt (lt32 (hw 105 (v4).toNat).1 (hw 105 (v3).toNat).1).mp (Int.not_lt.mpr hc6)) ?_
      refine rz_B.go 2 (pc' := 128) (L' := [some (.ref 91), some (vI v1), some (vI v2), some (vI v4), some (vI v4)]) (S' := []) rfl ?_
      obtain ⟨hk7, h⟩ := rz_g32_inv h
      refine rz_B.iinc rfl (by decide) rfl (L' := [some (.ref 91), some (vI v1), some (vI v2), some (vI v4), some (vI (v4 + 1))]) rfl ?_
      refine rz_B.go 1 (pc' := 5) (L' := [some (.ref 91), some (vI v1), some (vI v2), some (vI v4), some (vI (v4 + 1))]) (S' := []) rfl ?_
      refine rz_B.more (rg_le_ok (L := [some (.ref 91), some (vI v1), some (vI v2), some (vI v4), some (vI (v4 + 1))]) (by simp [rg_le])) ?_
      exact hkk5 _ _ _ _ _ _ _ h hv1 hv2 hv4 hk7 hw
    · have h := if_F h hc6
      refine rz_B.ifT ((lt32 (hw 105 (v4).toNat).1 (hw 105 (v3).toNat).1).mpr (Int.not_le.mp hc6)) ?_
      obtain ⟨hk8, h⟩ := rz_g32_inv h
      refine rz_B.iinc rfl (by decide) rfl (L' := [some (.ref 91), some (vI v1), some (vI v2), some (vI v3), some (vI (v4 + 1))]) rfl ?_
      refine rz_B.go 1 (pc' := 5) (L' := [some (.ref 91), some (vI v1), some (vI v2), some (vI v3), some (vI (v4 + 1))]) (S' := []) rfl ?_
      refine rz_B.more (rg_le_ok (L := [some (.ref 91), some (vI v1), some (vI v2), some (vI v3), some (vI (v4 + 1))]) (by simp [rg_le])) ?_
      exact hkk5 _ _ _ _ _ _ _ h hv1 hv2 hv3 hk8 hw
  · have h := if_F h hc1
    refine rz_B.ifT ((lt32 hv3 (by decide)).mpr (Int.not_le.mp hc1)) ?_
    refine rz_B.go 2 (pc' := 128) (L' := [some (.ref 91), some (vI v1), some (vI v2), some (vI v4), some (vI v4)]) (S' := []) rfl ?_
    obtain ⟨hk9, h⟩ := rz_g32_inv h
    refine rz_B.iinc rfl (by decide) rfl (L' := [some (.ref 91), some (vI v1), some (vI v2), some (vI v4), some (vI (v4 + 1))]) rfl ?_
    refine rz_B.go 1 (pc' := 5) (L' := [some (.ref 91), some (vI v1), some (vI v2), some (vI v4), some (vI (v4 + 1))]) (S' := []) rfl ?_
    refine rz_B.more (rg_le_ok (L := [some (.ref 91), some (vI v1), some (vI v2), some (vI v4), some (vI (v4 + 1))]) (by simp [rg_le])) ?_
    exact hkk5 _ _ _ _ _ _ _ h hv1 hv2 hv4 hk9 hw
def x156_ahead_5 (F : Nat) : Nat → Int → Int → Int → Int → rz_A → Option (Int × rz_A)
  | 0, _, _, _, _, _ => none
  | n + 1, v1, v2, v3, v4, A =>
    if v4 < (A.1 91 3) then
      rz_gx v4 300 <|
      rz_gx v1 300 <|
      if (A.1 104 (v4).toNat) = (A.1 104 (v1).toNat) then
        if (A.1 108 (v4).toNat) ≤ v2 then
          if 0 ≤ (A.1 107 (v4).toNat) then
            rz_b (x153_isTold F v4 v2 A) fun r9 A9 =>
            if r9 = 0 then
              if (A9.1 105 (v4).toNat) ≤ (A9.1 105 (v1).toNat) then
                if (A9.1 105 (v4).toNat) = (A9.1 105 (v1).toNat) then
                  if v1 ≤ v4 then
                    rz_g32 (v4 + 1) <|
                    x156_ahead_5 F n v1 v2 v3 (v4 + 1) A9
                  else
                    x156_ahead_105 F (x156_ahead_5 F n) v1 v2 v3 v4 A9
                else
                  x156_ahead_105 F (x156_ahead_5 F n) v1 v2 v3 v4 A9
              else
                rz_g32 (v4 + 1) <|
                x156_ahead_5 F n v1 v2 v3 (v4 + 1) A9
            else
              rz_g32 (v4 + 1) <|
              x156_ahead_5 F n v1 v2 v3 (v4 + 1) A9
          else
            rz_g32 (v4 + 1) <|
            x156_ahead_5 F n v1 v2 v3 (v4 + 1) A
        else
          rz_g32 (v4 + 1) <|
          x156_ahead_5 F n v1 v2 v3 (v4 + 1) A
      else
        rz_g32 (v4 + 1) <|
        x156_ahead_5 F n v1 v2 v3 (v4 + 1) A
    else
      some (v3, A)
theorem cx156_ahead_5 {d : Nat} (F : Nat) : ∀ (n : Nat) (v1 : Int) (v2 : Int) (v3 : Int) (v4 : Int) (A : rz_A) (r : Int) (A' : rz_A), x156_ahead_5 F n v1 v2 v3 v4 A = some (r, A') → r32 v1 → r32 v2 → r32 v3 → r32 v4 → wf A → rz_B (d + 1) 156 5 [some (.ref 91), some (vI v1), some (vI v2), some (vI v3), some (vI v4)] [] A (some (vI r)) A' (r32 r) := by
  intro n
  induction n with
  | zero => intro v1 v2 v3 v4 A r A' h; cases h
  | succ n ih =>
    intro v1 v2 v3 v4 A r A' h hv1 hv2 hv3 hv4 hw
    rw [x156_ahead_5] at h
    refine rz_B.go 4 (pc' := if decide (Int32.ofInt (A.1 91 3) ≤ Int32.ofInt v4) = true then 134 else 14) (L' := [some (.ref 91), some (vI v1), some (vI v2), some (vI v3), some (vI v4)]) (S' := []) rfl ?_
    by_cases hc1 : v4 < (A.1 91 3)
    · have h := if_T h hc1
      refine rz_B.ifF (mt (le32 (hw 91 3).1 hv4).mp (Int.not_le.mpr hc1)) ?_
      refine rz_B.go 3 (pc' := 20) (L' := [some (.ref 91), some (vI v1), some (vI v2), some (vI v3), some (vI v4)]) (S' := [vI v4, .ref 104]) rfl ?_
      obtain ⟨hi2, hj3, h⟩ := rz_gx_inv h
      refine rz_B.iald rfl rfl hi2 hj3 (by decide) ?_
      refine rz_B.go 3 (pc' := 26) (L' := [some (.ref 91), some (vI v1), some (vI v2), some (vI v3), some (vI v4)]) (S' := [vI v1, .ref 104, vI (A.1 104 (v4).toNat)]) rfl ?_
      obtain ⟨hi4, hj5, h⟩ := rz_gx_inv h
      refine rz_B.iald rfl rfl hi4 hj5 (by decide) ?_
      refine rz_B.go 1 (pc' := if decide (¬ Int32.ofInt (A.1 104 (v4).toNat) = Int32.ofInt (A.1 104 (v1).toNat)) = true then 128 else 30) (L' := [some (.ref 91), some (vI v1), some (vI v2), some (vI v3), some (vI v4)]) (S' := []) rfl ?_
      by_cases hc6 : (A.1 104 (v4).toNat) = (A.1 104 (v1).toNat)
      · have h := if_T h hc6
        refine rz_B.ifF (fun hn => hn ((eq32 (hw 104 (v4).toNat).1 (hw 104 (v1).toNat).1).mpr hc6)) ?_
        refine rz_B.go 3 (pc' := 36) (L' := [some (.ref 91), some (vI v1), some (vI v2), some (vI v3), some (vI v4)]) (S' := [vI v4, .ref 108]) rfl ?_
        refine rz_B.iald rfl rfl hi2 hj3 (by decide) ?_
        refine rz_B.go 2 (pc' := if decide (Int32.ofInt v2 < Int32.ofInt (A.1 108 (v4).toNat)) = true then 128 else 41) (L' := [some (.ref 91), some (vI v1), some (vI v2), some (vI v3), some (vI v4)]) (S' := []) rfl ?_
        by_cases hc7 : (A.1 108 (v4).toNat) ≤ v2
        · have h := if_T h hc7
          refine rz_B.ifF (mt (lt32 hv2 (hw 108 (v4).toNat).1).mp (Int.not_lt.mpr hc7)) ?_
          refine rz_B.go 3 (pc' := 47) (L' := [some (.ref 91), some (vI v1), some (vI v2), some (vI v3), some (vI v4)]) (S' := [vI v4, .ref 107]) rfl ?_
          refine rz_B.iald rfl rfl hi2 hj3 (by decide) ?_
          refine rz_B.go 1 (pc' := if decide (Int32.ofInt (A.1 107 (v4).toNat) < Int32.ofInt 0) = true then 128 else 51) (L' := [some (.ref 91), some (vI v1), some (vI v2), some (vI v3), some (vI v4)]) (S' := []) rfl ?_
          by_cases hc8 : 0 ≤ (A.1 107 (v4).toNat)
          · have h := if_T h hc8
            refine rz_B.ifF (mt (lt32 (hw 107 (v4).toNat).1 (by decide)).mp (Int.not_lt.mpr hc8)) ?_
            refine rz_B.go 3 (pc' := 55) (L' := [some (.ref 91), some (vI v1), some (vI v2), some (vI v3), some (vI v4)]) (S' := [vI v2, vI v4, .ref 91]) rfl ?_
            obtain ⟨r9, A9, hf9, h⟩ := rz_b_inv h
            obtain ⟨hg9, hr9, hw9⟩ := cx153_isTold F (d := d + 0) hf9 hv4 hv2 hw
            refine rz_B.call (d := d + 0) (as := [.ref 91, vI v4, vI v2]) (rest := []) (w := some (vI r9)) rfl hg9 ?_
            refine rz_B.go 1 (pc' := if decide (Int32.ofInt r9 = Int32.ofInt 0) = true then 64 else 61) (L' := [some (.ref 91), some (vI v1), some (vI v2), some (vI v3), some (vI v4)]) (S' := []) rfl ?_
            by_cases hc10 : r9 = 0
            · have h := if_T h hc10
              refine rz_B.ifT ((eq32 hr9 (by decide)).mpr hc10) ?_
              refine rz_B.go 3 (pc' := 70) (L' := [some (.ref 91), some (vI v1), some (vI v2), some (vI v3), some (vI v4)]) (S' := [vI v4, .ref 105]) rfl ?_
              refine rz_B.iald rfl rfl hi2 hj3 (by decide) ?_
              refine rz_B.go 3 (pc' := 76) (L' := [some (.ref 91), some (vI v1), some (vI v2), some (vI v3), some (vI v4)]) (S' := [vI v1, .ref 105, vI (A9.1 105 (v4).toNat)]) rfl ?_
              refine rz_B.iald rfl rfl hi4 hj5 (by decide) ?_
              refine rz_B.go 1 (pc' := if decide (Int32.ofInt (A9.1 105 (v1).toNat) < Int32.ofInt (A9.1 105 (v4).toNat)) = true then 128 else 80) (L' := [some (.ref 91), some (vI v1), some (vI v2), some (vI v3), some (vI v4)]) (S' := []) rfl ?_
              by_cases hc11 : (A9.1 105 (v4).toNat) ≤ (A9.1 105 (v1).toNat)
              · have h := if_T h hc11
                refine rz_B.ifF (mt (lt32 (hw9 105 (v1).toNat).1 (hw9 105 (v4).toNat).1).mp (Int.not_lt.mpr hc11)) ?_
                refine rz_B.go 3 (pc' := 86) (L' := [some (.ref 91), some (vI v1), some (vI v2), some (vI v3), some (vI v4)]) (S' := [vI v4, .ref 105]) rfl ?_
                refine rz_B.iald rfl rfl hi2 hj3 (by decide) ?_
                refine rz_B.go 3 (pc' := 92) (L' := [some (.ref 91), some (vI v1), some (vI v2), some (vI v3), some (vI v4)]) (S' := [vI v1, .ref 105, vI (A9.1 105 (v4).toNat)]) rfl ?_
                refine rz_B.iald rfl rfl hi4 hj5 (by decide) ?_
                refine rz_B.go 1 (pc' := if decide (¬ Int32.ofInt (A9.1 105 (v4).toNat) = Int32.ofInt (A9.1 105 (v1).toNat)) = true then 105 else 96) (L' := [some (.ref 91), some (vI v1), some (vI v2), some (vI v3), some (vI v4)]) (S' := []) rfl ?_
                by_cases hc12 : (A9.1 105 (v4).toNat) = (A9.1 105 (v1).toNat)
                · have h := if_T h hc12
                  refine rz_B.ifF (fun hn => hn ((eq32 (hw9 105 (v4).toNat).1 (hw9 105 (v1).toNat).1).mpr hc12)) ?_
                  refine rz_B.go 3 (pc' := if decide (Int32.ofInt v4 < Int32.ofInt v1) = true then 105 else 102) (L' := [some (.ref 91), some (vI v1), some (vI v2), some (vI v3), some (vI v4)]) (S' := []) rfl ?_
                  by_cases hc13 : v1 ≤ v4
                  · have h := if_T h hc13
                    refine rz_B.ifF (mt (lt32 hv4 hv1).mp (Int.not_lt.mpr hc13)) ?_
                    refine rz_B.go 1 (pc' := 128) (L' := [some (.ref 91), some (vI v1), some (vI v2), some (vI v3), some (vI v4)]) (S' := []) rfl ?_
                    obtain ⟨hk14, h⟩ := rz_g32_inv h
                    refine rz_B.iinc rfl (by decide) rfl (L' := [some (.ref 91), some (vI v1), some (vI v2), some (vI v3), some (vI (v4 + 1))]) rfl ?_
                    refine rz_B.go 1 (pc' := 5) (L' := [some (.ref 91), some (vI v1), some (vI v2), some (vI v3), some (vI (v4 + 1))]) (S' := []) rfl ?_
                    refine rz_B.more (rg_le_ok (L := [some (.ref 91), some (vI v1), some (vI v2), some (vI v3), some (vI (v4 + 1))]) (by simp [rg_le])) ?_
                    exact ih _ _ _ _ _ _ _ h hv1 hv2 hv3 hk14 hw9
                  · have h := if_F h hc13
                    refine rz_B.ifT ((lt32 hv4 hv1).mpr (Int.not_le.mp hc13)) ?_
                    refine rz_B.more (rg_le_ok (L := [some (.ref 91), some (vI v1), some (vI v2), some (vI v3), some (vI v4)]) (by simp [rg_le])) ?_
                    exact cx156_ahead_105 F ih _ _ _ _ _ _ _ h hv1 hv2 hv3 hv4 hw9
                · have h := if_F h hc12
                  refine rz_B.ifT (mt (eq32 (hw9 105 (v4).toNat).1 (hw9 105 (v1).toNat).1).mp hc12) ?_
                  refine rz_B.more (rg_le_ok (L := [some (.ref 91), some (vI v1), some (vI v2), some (vI v3), some (vI v4)]) (by simp [rg_le])) ?_
                  exact cx156_ahead_105 F ih _ _ _ _ _ _ _ h hv1 hv2 hv3 hv4 hw9
              · have h := if_F h hc11
                refine rz_B.ifT ((lt32 (hw9 105 (v1).toNat).1 (hw9 105 (v4).toNat).1).mpr (Int.not_le.mp hc11)) ?_
                obtain ⟨hk15, h⟩ := rz_g32_inv h
                refine rz_B.iinc rfl (by decide) rfl (L' := [some (.ref 91), some (vI v1), some (vI v2), some (vI v3), some (vI (v4 + 1))]) rfl ?_
                refine rz_B.go 1 (pc' := 5) (L' := [some (.ref 91), some (vI v1), some (vI v2), some (vI v3), some (vI (v4 + 1))]) (S' := []) rfl ?_
                refine rz_B.more (rg_le_ok (L := [some (.ref 91), some (vI v1), some (vI v2), some (vI v3), some (vI (v4 + 1))]) (by simp [rg_le])) ?_
                exact ih _ _ _ _ _ _ _ h hv1 hv2 hv3 hk15 hw9
            · have h := if_F h hc10
              refine rz_B.ifF (mt (eq32 hr9 (by decide)).mp hc10) ?_
              refine rz_B.go 1 (pc' := 128) (L' := [some (.ref 91), some (vI v1), some (vI v2), some (vI v3), some (vI v4)]) (S' := []) rfl ?_
              obtain ⟨hk16, h⟩ := rz_g32_inv h
              refine rz_B.iinc rfl (by decide) rfl (L' := [some (.ref 91), some (vI v1), some (vI v2), some (vI v3), some (vI (v4 + 1))]) rfl ?_
              refine rz_B.go 1 (pc' := 5) (L' := [some (.ref 91), some (vI v1), some (vI v2), some (vI v3), some (vI (v4 + 1))]) (S' := []) rfl ?_
              refine rz_B.more (rg_le_ok (L := [some (.ref 91), some (vI v1), some (vI v2), some (vI v3), some (vI (v4 + 1))]) (by simp [rg_le])) ?_
              exact ih _ _ _ _ _ _ _ h hv1 hv2 hv3 hk16 hw9
          · have h := if_F h hc8
            refine rz_B.ifT ((lt32 (hw 107 (v4).toNat).1 (by decide)).mpr (Int.not_le.mp hc8)) ?_
            obtain ⟨hk17, h⟩ := rz_g32_inv h
            refine rz_B.iinc rfl (by decide) rfl (L' := [some (.ref 91), some (vI v1), some (vI v2), some (vI v3), some (vI (v4 + 1))]) rfl ?_
            refine rz_B.go 1 (pc' := 5) (L' := [some (.ref 91), some (vI v1), some (vI v2), some (vI v3), some (vI (v4 + 1))]) (S' := []) rfl ?_
            refine rz_B.more (rg_le_ok (L := [some (.ref 91), some (vI v1), some (vI v2), some (vI v3), some (vI (v4 + 1))]) (by simp [rg_le])) ?_
            exact ih _ _ _ _ _ _ _ h hv1 hv2 hv3 hk17 hw
        · have h := if_F h hc7
          refine rz_B.ifT ((lt32 hv2 (hw 108 (v4).toNat).1).mpr (Int.not_le.mp hc7)) ?_
          obtain ⟨hk18, h⟩ := rz_g32_inv h
          refine rz_B.iinc rfl (by decide) rfl (L' := [some (.ref 91), some (vI v1), some (vI v2), some (vI v3), some (vI (v4 + 1))]) rfl ?_
          refine rz_B.go 1 (pc' := 5) (L' := [some (.ref 91), some (vI v1), some (vI v2), some (vI v3), some (vI (v4 + 1))]) (S' := []) rfl ?_
          refine rz_B.more (rg_le_ok (L := [some (.ref 91), some (vI v1), some (vI v2), some (vI v3), some (vI (v4 + 1))]) (by simp [rg_le])) ?_
          exact ih _ _ _ _ _ _ _ h hv1 hv2 hv3 hk18 hw
      · have h := if_F h hc6
        refine rz_B.ifT (mt (eq32 (hw 104 (v4).toNat).1 (hw 104 (v1).toNat).1).mp hc6) ?_
        obtain ⟨hk19, h⟩ := rz_g32_inv h
        refine rz_B.iinc rfl (by decide) rfl (L' := [some (.ref 91), some (vI v1), some (vI v2), some (vI v3), some (vI (v4 + 1))]) rfl ?_
        refine rz_B.go 1 (pc' := 5) (L' := [some (.ref 91), some (vI v1), some (vI v2), some (vI v3), some (vI (v4 + 1))]) (S' := []) rfl ?_
        refine rz_B.more (rg_le_ok (L := [some (.ref 91), some (vI v1), some (vI v2), some (vI v3), some (vI (v4 + 1))]) (by simp [rg_le])) ?_
        exact ih _ _ _ _ _ _ _ h hv1 hv2 hv3 hk19 hw
    · have h := if_F h hc1
      refine rz_B.ifT ((le32 (hw 91 3).1 hv4).mpr (Int.not_lt.mp hc1)) ?_
      refine rz_B.go 1 (pc' := 135) (L' := [some (.ref 91), some (vI v1), some (vI v2), some (vI v3), some (vI v4)]) (S' := [vI v3]) rfl ?_
      cases h
      exact rz_B.ret rfl hv3 hw
/-- RiverGaugeModel.ahead(II)I -/
def x156_ahead (F : Nat) (a0 : Int) (a1 : Int) (A : rz_A) : Option (Int × rz_A) :=
  x156_ahead_5 F F a0 a1 (-1) 0 A
theorem cx156_ahead (F : Nat) {d : Nat} {a0 : Int} {a1 : Int} {A : rz_A} {r : Int} {A' : rz_A} (h : x156_ahead F a0 a1 A = some (r, A')) (ha0 : r32 a0) (ha1 : r32 a1) (hw : wf A) : rg_Rn (d + 1) 156 [.ref 91, vI a0, vI a1] (toM A) (some (vI r)) (toM A') ∧ (r32 r) ∧ wf A' := by
  show rz_B (d + 1) 156 0 [some (.ref 91), some (vI a0), some (vI a1), none, none] [] A (some (vI r)) A' (r32 r)
  unfold x156_ahead at h
  refine rz_B.go 4 (pc' := 5) (L' := [some (.ref 91), some (vI a0), some (vI a1), some (vI (-1)), some (vI 0)]) (S' := []) rfl ?_
  refine rz_B.more (rg_le_ok (L := [some (.ref 91), some (vI a0), some (vI a1), some (vI (-1)), some (vI 0)]) (by simp [rg_le])) ?_
  exact cx156_ahead_5 F F _ _ _ _ _ _ _ h ha0 ha1 (by decide) (by decide) hw
def x157_lays_21 (F : Nat) (v1 : Int) (A : rz_A) : Option (Unit × rz_A) :=
  rz_g32 (v1.tdiv 96) <|
  rz_g32 (v1.tmod 96) <|
  some ((), (aL (aL A 133 3 (v1.tdiv 96)) 133 12 (v1.tmod 96)))
theorem cx157_lays_21 {d : Nat} (F : Nat) : ∀ (v1 : Int) (A : rz_A) (r : Unit) (A' : rz_A), x157_lays_21 F v1 A = some (r, A') → r32 v1 → wf A → rz_B (d + 0) 157 21 [some (.ref 91), some (vI v1), none] [] A (none) A' (True) := by
  intro v1 A r A' h hv1 hw
  unfold x157_lays_21 at h
  refine rz_B.go 5 (pc' := 29) (L' := [some (.ref 91), some (vI v1), none]) (S' := [vI 96, vI v1, vI 3, .ref 133]) rfl ?_
  obtain ⟨hk1, h⟩ := rz_g32_inv h
  refine rz_B.idiv rfl hv1 (by decide) (by decide) ?_
  refine rz_B.i2l rfl hk1 ?_
  refine rz_B.last rfl rfl (by decide) (by decide) (by decide) ?_
  have hw2 : wf (aL A 133 3 (v1.tdiv 96)) := wf_aL hw (r64_of hk1)
  refine rz_B.go 5 (pc' := 41) (L' := [some (.ref 91), some (vI v1), none]) (S' := [vI 96, vI v1, vI 12, .ref 133]) rfl ?_
  obtain ⟨hk3, h⟩ := rz_g32_inv h
  refine rz_B.irem rfl hv1 (by decide) (by decide) ?_
  refine rz_B.i2l rfl hk3 ?_
  refine rz_B.last rfl rfl (by decide) (by decide) (by decide) ?_
  have hw4 : wf (aL (aL A 133 3 (v1.tdiv 96)) 133 12 (v1.tmod 96)) := wf_aL hw2 (r64_of hk3)
  cases h
  exact rz_B.ret rfl trivial hw4
def x157_lays_2 (F : Nat) : Nat → Int → Int → rz_A → Option (Unit × rz_A)
  | 0, _, _, _ => none
  | n + 1, v1, v2, A =>
    if v2 < 26 then
      rz_gx v2 26 <|
      rz_g32 (v2 + 1) <|
      x157_lays_2 F n v1 (v2 + 1) (aL A 133 (v2).toNat 0)
    else
      x157_lays_21 F v1 A
theorem cx157_lays_2 {d : Nat} (F : Nat) : ∀ (n : Nat) (v1 : Int) (v2 : Int) (A : rz_A) (r : Unit) (A' : rz_A), x157_lays_2 F n v1 v2 A = some (r, A') → r32 v1 → r32 v2 → wf A → rz_B (d + 0) 157 2 [some (.ref 91), some (vI v1), some (vI v2)] [] A (none) A' (True) := by
  intro n
  induction n with
  | zero => intro v1 v2 A r A' h; cases h
  | succ n ih =>
    intro v1 v2 A r A' h hv1 hv2 hw
    rw [x157_lays_2] at h
    refine rz_B.go 3 (pc' := if decide (Int32.ofInt 26 ≤ Int32.ofInt v2) = true then 21 else 8) (L' := [some (.ref 91), some (vI v1), some (vI v2)]) (S' := []) rfl ?_
    by_cases hc1 : v2 < 26
    · have h := if_T h hc1
      refine rz_B.ifF (mt (le32 (by decide) hv2).mp (Int.not_le.mpr hc1)) ?_
      refine rz_B.go 4 (pc' := 14) (L' := [some (.ref 91), some (vI v1), some (vI v2)]) (S' := [vL 0, vI v2, .ref 133]) rfl ?_
      obtain ⟨hi2, hj3, h⟩ := rz_gx_inv h
      refine rz_B.last rfl rfl hi2 hj3 (by decide) ?_
      have hw4 : wf (aL A 133 (v2).toNat 0) := wf_aL hw (by decide)
      obtain ⟨hk5, h⟩ := rz_g32_inv h
      refine rz_B.iinc rfl (by decide) rfl (L' := [some (.ref 91), some (vI v1), some (vI (v2 + 1))]) rfl ?_
      refine rz_B.go 1 (pc' := 2) (L' := [some (.ref 91), some (vI v1), some (vI (v2 + 1))]) (S' := []) rfl ?_
      refine rz_B.more (rg_le_ok (L := [some (.ref 91), some (vI v1), some (vI (v2 + 1))]) (by simp [rg_le])) ?_
      exact ih _ _ _ _ _ h hv1 hk5 hw4
    · have h := if_F h hc1
      refine rz_B.ifT ((le32 (by decide) hv2).mpr (Int.not_lt.mp hc1)) ?_
      refine rz_B.more (rg_le_ok (L := [some (.ref 91), some (vI v1), none]) (by simp [rg_le])) ?_
      exact cx157_lays_21 F _ _ _ _ h hv1 hw
/-- RiverGaugeModel.lays(I)V -/
def x157_lays (F : Nat) (a0 : Int) (A : rz_A) : Option (Unit × rz_A) :=
  x157_lays_2 F F a0 0 A
theorem cx157_lays (F : Nat) {d : Nat} {a0 : Int} {A : rz_A} {r : Unit} {A' : rz_A} (h : x157_lays F a0 A = some (r, A')) (ha0 : r32 a0) (hw : wf A) : rg_Rn (d + 0) 157 [.ref 91, vI a0] (toM A) (none) (toM A') ∧ (True) ∧ wf A' := by
  show rz_B (d + 0) 157 0 [some (.ref 91), some (vI a0), none] [] A (none) A' (True)
  unfold x157_lays at h
  refine rz_B.go 2 (pc' := 2) (L' := [some (.ref 91), some (vI a0), some (vI 0)]) (S' := []) rfl ?_
  refine rz_B.more (rg_le_ok (L := [some (.ref 91), some (vI a0), some (vI 0)]) (by simp [rg_le])) ?_
  exact cx157_lays_2 F F _ _ _ _ _ h ha0 (by decide) hw
/-- RiverGaugeModel.held(J)J -/
def x159_held (F : Nat) (a0 : Int) (A : rz_A) : Option (Int × rz_A) :=
  if a0 < (-1000000000) then
    some ((-1000000000), A)
  else
    if 1000000000 < a0 then
      some (1000000000, A)
    else
      some (a0, A)
theorem cx159_held (F : Nat) {d : Nat} {a0 : Int} {A : rz_A} {r : Int} {A' : rz_A} (h : x159_held F a0 A = some (r, A')) (ha0 : r64 a0) (hw : wf A) : rg_Rn (d + 0) 159 [vL a0] (toM A) (some (vL r)) (toM A') ∧ (r64 r) ∧ wf A' := by
  show rz_B (d + 0) 159 0 [some (vL a0), none] [] A (some (vL r)) A' (r64 r)
  unfold x159_held at h
  refine rz_B.go 4 (pc' := if decide (0 ≤ lg_cmp (Int64.ofInt a0) (Int64.ofInt (-1000000000))) = true then 14 else 8) (L' := [some (vL a0), none]) (S' := []) rfl ?_
  by_cases hc1 : a0 < (-1000000000)
  · have h := if_T h hc1
    refine rz_B.ifF (mt (cmp_ge ha0 (by decide)).mp (Int.not_le.mpr hc1)) ?_
    refine rz_B.go 2 (pc' := 29) (L' := [some (vL a0), none]) (S' := [vL (-1000000000)]) rfl ?_
    cases h
    exact rz_B.ret rfl (by decide) hw
  · have h := if_F h hc1
    refine rz_B.ifT ((cmp_ge ha0 (by decide)).mpr (Int.not_lt.mp hc1)) ?_
    refine rz_B.go 4 (pc' := if decide (lg_cmp (Int64.ofInt a0) (Int64.ofInt 1000000000) ≤ 0) = true then 28 else 22) (L' := [some (vL a0), none]) (S' := []) rfl ?_
    by_cases hc2 : 1000000000 < a0
    · have h := if_T h hc2
      refine rz_B.ifF (mt (cmp_le ha0 (by decide)).mp (Int.not_le.mpr hc2)) ?_
      refine rz_B.go 2 (pc' := 29) (L' := [some (vL a0), none]) (S' := [vL 1000000000]) rfl ?_
      cases h
      exact rz_B.ret rfl (by decide) hw
    · have h := if_F h hc2
      refine rz_B.ifT ((cmp_le ha0 (by decide)).mpr (Int.not_lt.mp hc2)) ?_
      refine rz_B.go 1 (pc' := 29) (L' := [some (vL a0), none]) (S' := [vL a0]) rfl ?_
      cases h
      exact rz_B.ret rfl ha0 hw
def x158_says_273 (F : Nat) (A : rz_A) : Option (Int × rz_A) :=
  if (A.2 136 0) = 0 then
    some (0, A)
  else
    some (1, A)
theorem cx158_says_273 {d : Nat} (F : Nat) : ∀ (A : rz_A) (r : Int) (A' : rz_A), x158_says_273 F A = some (r, A') → wf A → rz_B (d + 1) 158 273 [some (.ref 91), none, none, none, none, none, none, none, none] [] A (some (vI r)) A' (r32 r) := by
  intro A r A' h hw
  unfold x158_says_273 at h
  refine rz_B.go 3 (pc' := 278) (L' := [some (.ref 91), none, none, none, none, none, none, none, none]) (S' := [vI 0, .ref 136]) rfl ?_
  refine rz_B.lald rfl rfl (by decide) (by decide) (by decide) ?_
  refine rz_B.go 3 (pc' := if decide (lg_cmp (Int64.ofInt (A.2 136 0)) (Int64.ofInt 0) = 0) = true then 288 else 284) (L' := [some (.ref 91), none, none, none, none, none, none, none, none]) (S' := []) rfl ?_
  by_cases hc1 : (A.2 136 0) = 0
  · have h := if_T h hc1
    refine rz_B.ifT ((cmp_eq (hw 136 0).2 (by decide)).mpr hc1) ?_
    refine rz_B.go 1 (pc' := 289) (L' := [some (.ref 91), none, none, none, none, none, none, none, none]) (S' := [vI 0]) rfl ?_
    cases h
    exact rz_B.ret rfl (by decide) hw
  · have h := if_F h hc1
    refine rz_B.ifF (mt (cmp_eq (hw 136 0).2 (by decide)).mp hc1) ?_
    refine rz_B.go 2 (pc' := 289) (L' := [some (.ref 91), none, none, none, none, none, none, none, none]) (S' := [vI 1]) rfl ?_
    cases h
    exact rz_B.ret rfl (by decide) hw
def x158_says_4 (F : Nat) : Nat → Int → Int → Int → rz_A → Option (Int × rz_A)
  | 0, _, _, _, _ => none
  | n + 1, v1, v2, v3, A =>
    rz_gx v1 20 <|
    if v3 < (A.1 125 (v1).toNat) then
      rz_g32 (130 * v1) <|
      rz_g32 ((130 * v1) + v3) <|
      rz_gx ((130 * v1) + v3) 2600 <|
      if 0 ≤ (A.1 126 (((130 * v1) + v3)).toNat) then
        rz_g32 (v2 + 1) <|
        rz_gx v2 80 <|
        rz_g32 (v3 + 1) <|
        x158_says_4 F n v1 (v2 + 1) (v3 + 1) (aL A 136 (v2).toNat (A.1 126 (((130 * v1) + v3)).toNat))
      else
        if (-40) < (A.1 126 (((130 * v1) + v3)).toNat) then
          rz_g32 (v2 + 1) <|
          rz_g32 (-(A.1 126 (((130 * v1) + v3)).toNat)) <|
          rz_g32 ((-(A.1 126 (((130 * v1) + v3)).toNat)) - 1) <|
          rz_gx ((-(A.1 126 (((130 * v1) + v3)).toNat)) - 1) 26 <|
          rz_gx v2 80 <|
          rz_g32 (v3 + 1) <|
          x158_says_4 F n v1 (v2 + 1) (v3 + 1) (aL A 136 (v2).toNat (A.2 133 (((-(A.1 126 (((130 * v1) + v3)).toNat)) - 1)).toNat))
        else
          if (A.1 126 (((130 * v1) + v3)).toNat) = (-42) then
            rz_g32 (v2 - 1) <|
            rz_gx (v2 - 1) 80 <|
            rz_g64 (1 - (A.2 136 ((v2 - 1)).toNat)) <|
            rz_g32 (v3 + 1) <|
            x158_says_4 F n v1 v2 (v3 + 1) (aL A 136 ((v2 - 1)).toNat (1 - (A.2 136 ((v2 - 1)).toNat)))
          else
            rz_g32 (v2 + (-1)) <|
            rz_g32 ((v2 + (-1)) - 1) <|
            rz_gx ((v2 + (-1)) - 1) 80 <|
            rz_gx (v2 + (-1)) 80 <|
            if (A.1 126 (((130 * v1) + v3)).toNat) = (-46) then
              rz_g64 ((A.2 136 (((v2 + (-1)) - 1)).toNat) + (A.2 136 ((v2 + (-1))).toNat)) <|
              rz_b (x159_held F ((A.2 136 (((v2 + (-1)) - 1)).toNat) + (A.2 136 ((v2 + (-1))).toNat)) A) fun r39 A39 =>
              rz_g32 (v3 + 1) <|
              x158_says_4 F n v1 (v2 + (-1)) (v3 + 1) (aL A39 136 (((v2 + (-1)) - 1)).toNat r39)
            else
              if (A.1 126 (((130 * v1) + v3)).toNat) = (-47) then
                rz_g64 ((A.2 136 (((v2 + (-1)) - 1)).toNat) - (A.2 136 ((v2 + (-1))).toNat)) <|
                rz_b (x159_held F ((A.2 136 (((v2 + (-1)) - 1)).toNat) - (A.2 136 ((v2 + (-1))).toNat)) A) fun r44 A44 =>
                rz_g32 (v3 + 1) <|
                x158_says_4 F n v1 (v2 + (-1)) (v3 + 1) (aL A44 136 (((v2 + (-1)) - 1)).toNat r44)
              else
                if (A.1 126 (((130 * v1) + v3)).toNat) = (-48) then
                  rz_g64 ((A.2 136 (((v2 + (-1)) - 1)).toNat) * (A.2 136 ((v2 + (-1))).toNat)) <|
                  rz_b (x159_held F ((A.2 136 (((v2 + (-1)) - 1)).toNat) * (A.2 136 ((v2 + (-1))).toNat)) A) fun r49 A49 =>
                  rz_g32 (v3 + 1) <|
                  x158_says_4 F n v1 (v2 + (-1)) (v3 + 1) (aL A49 136 (((v2 + (-1)) - 1)).toNat r49)
                else
                  if (A.1 126 (((130 * v1) + v3)).toNat) = (-40) then
                    rz_g32 (v3 + 1) <|
                    x158_says_4 F n v1 (v2 + (-1)) (v3 + 1) (aL A 136 (((v2 + (-1)) - 1)).toNat (rz_oL gOr (A.2 136 (((v2 + (-1)) - 1)).toNat) (A.2 136 ((v2 + (-1))).toNat)))
                  else
                    if (A.1 126 (((130 * v1) + v3)).toNat) = (-41) then
                      rz_g32 (v3 + 1) <|
                      x158_says_4 F n v1 (v2 + (-1)) (v3 + 1) (aL A 136 (((v2 + (-1)) - 1)).toNat (rz_oL gAnd (A.2 136 (((v2 + (-1)) - 1)).toNat) (A.2 136 ((v2 + (-1))).toNat)))
                    else
                      if (A.1 126 (((130 * v1) + v3)).toNat) = (-43) then
                        if (A.2 136 (((v2 + (-1)) - 1)).toNat) < (A.2 136 ((v2 + (-1))).toNat) then
                          rz_g32 (v3 + 1) <|
                          x158_says_4 F n v1 (v2 + (-1)) (v3 + 1) (aL A 136 (((v2 + (-1)) - 1)).toNat 1)
                        else
                          rz_g32 (v3 + 1) <|
                          x158_says_4 F n v1 (v2 + (-1)) (v3 + 1) (aL A 136 (((v2 + (-1)) - 1)).toNat 0)
                      else
                        if (A.1 126 (((130 * v1) + v3)).toNat) = (-44) then
                          if (A.2 136 (((v2 + (-1)) - 1)).toNat) = (A.2 136 ((v2 + (-1))).toNat) then
                            rz_g32 (v3 + 1) <|
                            x158_says_4 F n v1 (v2 + (-1)) (v3 + 1) (aL A 136 (((v2 + (-1)) - 1)).toNat 1)
                          else
                            rz_g32 (v3 + 1) <|
                            x158_says_4 F n v1 (v2 + (-1)) (v3 + 1) (aL A 136 (((v2 + (-1)) - 1)).toNat 0)
                        else
                          if (A.2 136 ((v2 + (-1))).toNat) < (A.2 136 (((v2 + (-1)) - 1)).toNat) then
                            rz_g32 (v3 + 1) <|
                            x158_says_4 F n v1 (v2 + (-1)) (v3 + 1) (aL A 136 (((v2 + (-1)) - 1)).toNat 1)
                          else
                            rz_g32 (v3 + 1) <|
                            x158_says_4 F n v1 (v2 + (-1)) (v3 + 1) (aL A 136 (((v2 + (-1)) - 1)).toNat 0)
    else
      x158_says_273 F A
theorem cx158_says_4 {d : Nat} (F : Nat) : ∀ (n : Nat) (v1 : Int) (v2 : Int) (v3 : Int) (A : rz_A) (r : Int) (A' : rz_A), x158_says_4 F n v1 v2 v3 A = some (r, A') → r32 v1 → r32 v2 → r32 v3 → wf A → rz_B (d + 1) 158 4 [some (.ref 91), some (vI v1), some (vI v2), some (vI v3), none, none, none, none, none] [] A (some (vI r)) A' (r32 r) := by
  intro n
  induction n with
  | zero => intro v1 v2 v3 A r A' h; cases h
  | succ n ih =>
    intro v1 v2 v3 A r A' h hv1 hv2 hv3 hw
    rw [x158_says_4] at h
    refine rz_B.go 4 (pc' := 10) (L' := [some (.ref 91), some (vI v1), some (vI v2), some (vI v3), none, none, none, none, none]) (S' := [vI v1, .ref 125, vI v3]) rfl ?_
    obtain ⟨hi1, hj2, h⟩ := rz_gx_inv h
    refine rz_B.iald rfl rfl hi1 hj2 (by decide) ?_
    refine rz_B.go 1 (pc' := if decide (Int32.ofInt (A.1 125 (v1).toNat) ≤ Int32.ofInt v3) = true then 273 else 14) (L' := [some (.ref 91), some (vI v1), some (vI v2), some (vI v3), none, none, none, none, none]) (S' := []) rfl ?_
    by_cases hc3 : v3 < (A.1 125 (v1).toNat)
    · have h := if_T h hc3
      refine rz_B.ifF (mt (le32 (hw 125 (v1).toNat).1 hv3).mp (Int.not_le.mpr hc3)) ?_
      refine rz_B.go 4 (pc' := 22) (L' := [some (.ref 91), some (vI v1), some (vI v2), some (vI v3), none, none, none, none, none]) (S' := [vI v1, vI 130, .ref 126]) rfl ?_
      obtain ⟨hk4, h⟩ := rz_g32_inv h
      refine rz_B.imul rfl ?_
      refine rz_B.go 1 (pc' := 24) (L' := [some (.ref 91), some (vI v1), some (vI v2), some (vI v3), none, none, none, none, none]) (S' := [vI v3, vI (130 * v1), .ref 126]) rfl ?_
      obtain ⟨hk5, h⟩ := rz_g32_inv h
      refine rz_B.iadd rfl ?_
      obtain ⟨hi6, hj7, h⟩ := rz_gx_inv h
      refine rz_B.iald rfl rfl hi6 hj7 (by decide) ?_
      refine rz_B.go 3 (pc' := if decide (Int32.ofInt (A.1 126 (((130 * v1) + v3)).toNat) < Int32.ofInt 0) = true then 48 else 33) (L' := [some (.ref 91), some (vI v1), some (vI v2), some (vI v3), some (vI (A.1 126 (((130 * v1) + v3)).toNat)), none, none, none, none]) (S' := []) rfl ?_
      by_cases hc8 : 0 ≤ (A.1 126 (((130 * v1) + v3)).toNat)
      · have h := if_T h hc8
        refine rz_B.ifF (mt (lt32 (hw 126 (((130 * v1) + v3)).toNat).1 (by decide)).mp (Int.not_lt.mpr hc8)) ?_
        refine rz_B.go 3 (pc' := 38) (L' := [some (.ref 91), some (vI v1), some (vI v2), some (vI v3), some (vI (A.1 126 (((130 * v1) + v3)).toNat)), none, none, none, none]) (S' := [vI v2, .ref 136]) rfl ?_
        obtain ⟨hk9, h⟩ := rz_g32_inv h
        refine rz_B.iinc rfl (by decide) rfl (L' := [some (.ref 91), some (vI v1), some (vI (v2 + 1)), some (vI v3), some (vI (A.1 126 (((130 * v1) + v3)).toNat)), none, none, none, none]) rfl ?_
        refine rz_B.go 1 (pc' := 43) (L' := [some (.ref 91), some (vI v1), some (vI (v2 + 1)), some (vI v3), some (vI (A.1 126 (((130 * v1) + v3)).toNat)), none, none, none, none]) (S' := [vI (A.1 126 (((130 * v1) + v3)).toNat), vI v2, .ref 136]) rfl ?_
        refine rz_B.i2l rfl (hw 126 (((130 * v1) + v3)).toNat).1 ?_
        obtain ⟨hi10, hj11, h⟩ := rz_gx_inv h
        refine rz_B.last rfl rfl hi10 hj11 (by decide) ?_
        have hw12 : wf (aL A 136 (v2).toNat (A.1 126 (((130 * v1) + v3)).toNat)) := wf_aL hw (r64_of (hw 126 (((130 * v1) + v3)).toNat).1)
        refine rz_B.go 1 (pc' := 267) (L' := [some (.ref 91), some (vI v1), some (vI (v2 + 1)), some (vI v3), some (vI (A.1 126 (((130 * v1) + v3)).toNat)), none, none, none, none]) (S' := []) rfl ?_
        obtain ⟨hk13, h⟩ := rz_g32_inv h
        refine rz_B.iinc rfl (by decide) rfl (L' := [some (.ref 91), some (vI v1), some (vI (v2 + 1)), some (vI (v3 + 1)), some (vI (A.1 126 (((130 * v1) + v3)).toNat)), none, none, none, none]) rfl ?_
        refine rz_B.go 1 (pc' := 4) (L' := [some (.ref 91), some (vI v1), some (vI (v2 + 1)), some (vI (v3 + 1)), some (vI (A.1 126 (((130 * v1) + v3)).toNat)), none, none, none, none]) (S' := []) rfl ?_
        refine rz_B.more (rg_le_ok (L := [some (.ref 91), some (vI v1), some (vI (v2 + 1)), some (vI (v3 + 1)), none, none, none, none, none]) (by simp [rg_le])) ?_
        exact ih _ _ _ _ _ _ h hv1 hk9 hk13 hw12
      · have h := if_F h hc8
        refine rz_B.ifT ((lt32 (hw 126 (((130 * v1) + v3)).toNat).1 (by decide)).mpr (Int.not_le.mp hc8)) ?_
        refine rz_B.go 3 (pc' := if decide (Int32.ofInt (A.1 126 (((130 * v1) + v3)).toNat) ≤ Int32.ofInt (-40)) = true then 77 else 55) (L' := [some (.ref 91), some (vI v1), some (vI v2), some (vI v3), some (vI (A.1 126 (((130 * v1) + v3)).toNat)), none, none, none, none]) (S' := []) rfl ?_
        by_cases hc14 : (-40) < (A.1 126 (((130 * v1) + v3)).toNat)
        · have h := if_T h hc14
          refine rz_B.ifF (mt (le32 (hw 126 (((130 * v1) + v3)).toNat).1 (by decide)).mp (Int.not_le.mpr hc14)) ?_
          refine rz_B.go 3 (pc' := 60) (L' := [some (.ref 91), some (vI v1), some (vI v2), some (vI v3), some (vI (A.1 126 (((130 * v1) + v3)).toNat)), none, none, none, none]) (S' := [vI v2, .ref 136]) rfl ?_
          obtain ⟨hk15, h⟩ := rz_g32_inv h
          refine rz_B.iinc rfl (by decide) rfl (L' := [some (.ref 91), some (vI v1), some (vI (v2 + 1)), some (vI v3), some (vI (A.1 126 (((130 * v1) + v3)).toNat)), none, none, none, none]) rfl ?_
          refine rz_B.go 3 (pc' := 69) (L' := [some (.ref 91), some (vI v1), some (vI (v2 + 1)), some (vI v3), some (vI (A.1 126 (((130 * v1) + v3)).toNat)), none, none, none, none]) (S' := [vI (A.1 126 (((130 * v1) + v3)).toNat), .ref 133, vI v2, .ref 136]) rfl ?_
          obtain ⟨hk16, h⟩ := rz_g32_inv h
          refine rz_B.ineg rfl ?_
          refine rz_B.go 1 (pc' := 71) (L' := [some (.ref 91), some (vI v1), some (vI (v2 + 1)), some (vI v3), some (vI (A.1 126 (((130 * v1) + v3)).toNat)), none, none, none, none]) (S' := [vI 1, vI (-(A.1 126 (((130 * v1) + v3)).toNat)), .ref 133, vI v2, .ref 136]) rfl ?_
          obtain ⟨hk17, h⟩ := rz_g32_inv h
          refine rz_B.isub rfl ?_
          obtain ⟨hi18, hj19, h⟩ := rz_gx_inv h
          refine rz_B.lald rfl rfl hi18 hj19 (by decide) ?_
          obtain ⟨hi20, hj21, h⟩ := rz_gx_inv h
          refine rz_B.last rfl rfl hi20 hj21 (by decide) ?_
          have hw22 : wf (aL A 136 (v2).toNat (A.2 133 (((-(A.1 126 (((130 * v1) + v3)).toNat)) - 1)).toNat)) := wf_aL hw (hw 133 (((-(A.1 126 (((130 * v1) + v3)).toNat)) - 1)).toNat).2
          refine rz_B.go 1 (pc' := 267) (L' := [some (.ref 91), some (vI v1), some (vI (v2 + 1)), some (vI v3), some (vI (A.1 126 (((130 * v1) + v3)).toNat)), none, none, none, none]) (S' := []) rfl ?_
          obtain ⟨hk23, h⟩ := rz_g32_inv h
          refine rz_B.iinc rfl (by decide) rfl (L' := [some (.ref 91), some (vI v1), some (vI (v2 + 1)), some (vI (v3 + 1)), some (vI (A.1 126 (((130 * v1) + v3)).toNat)), none, none, none, none]) rfl ?_
          refine rz_B.go 1 (pc' := 4) (L' := [some (.ref 91), some (vI v1), some (vI (v2 + 1)), some (vI (v3 + 1)), some (vI (A.1 126 (((130 * v1) + v3)).toNat)), none, none, none, none]) (S' := []) rfl ?_
          refine rz_B.more (rg_le_ok (L := [some (.ref 91), some (vI v1), some (vI (v2 + 1)), some (vI (v3 + 1)), none, none, none, none, none]) (by simp [rg_le])) ?_
          exact ih _ _ _ _ _ _ h hv1 hk15 hk23 hw22
        · have h := if_F h hc14
          refine rz_B.ifT ((le32 (hw 126 (((130 * v1) + v3)).toNat).1 (by decide)).mpr (Int.not_lt.mp hc14)) ?_
          refine rz_B.go 3 (pc' := if decide (¬ Int32.ofInt (A.1 126 (((130 * v1) + v3)).toNat) = Int32.ofInt (-42)) = true then 105 else 84) (L' := [some (.ref 91), some (vI v1), some (vI v2), some (vI v3), some (vI (A.1 126 (((130 * v1) + v3)).toNat)), none, none, none, none]) (S' := []) rfl ?_
          by_cases hc24 : (A.1 126 (((130 * v1) + v3)).toNat) = (-42)
          · have h := if_T h hc24
            refine rz_B.ifF (fun hn => hn ((eq32 (hw 126 (((130 * v1) + v3)).toNat).1 (by decide)).mpr hc24)) ?_
            refine rz_B.go 4 (pc' := 90) (L' := [some (.ref 91), some (vI v1), some (vI v2), some (vI v3), some (vI (A.1 126 (((130 * v1) + v3)).toNat)), none, none, none, none]) (S' := [vI 1, vI v2, .ref 136]) rfl ?_
            obtain ⟨hk25, h⟩ := rz_g32_inv h
            refine rz_B.isub rfl ?_
            refine rz_B.go 5 (pc' := 98) (L' := [some (.ref 91), some (vI v1), some (vI v2), some (vI v3), some (vI (A.1 126 (((130 * v1) + v3)).toNat)), none, none, none, none]) (S' := [vI 1, vI v2, .ref 136, vL 1, vI (v2 - 1), .ref 136]) rfl ?_
            refine rz_B.isub rfl ?_
            obtain ⟨hi26, hj27, h⟩ := rz_gx_inv h
            refine rz_B.lald rfl rfl hi26 hj27 (by decide) ?_
            obtain ⟨hk28, h⟩ := rz_g64_inv h
            refine rz_B.lsub rfl ?_
            refine rz_B.last rfl rfl hi26 hj27 (by decide) ?_
            have hw29 : wf (aL A 136 ((v2 - 1)).toNat (1 - (A.2 136 ((v2 - 1)).toNat))) := wf_aL hw hk28
            refine rz_B.go 1 (pc' := 267) (L' := [some (.ref 91), some (vI v1), some (vI v2), some (vI v3), some (vI (A.1 126 (((130 * v1) + v3)).toNat)), none, none, none, none]) (S' := []) rfl ?_
            obtain ⟨hk30, h⟩ := rz_g32_inv h
            refine rz_B.iinc rfl (by decide) rfl (L' := [some (.ref 91), some (vI v1), some (vI v2), some (vI (v3 + 1)), some (vI (A.1 126 (((130 * v1) + v3)).toNat)), none, none, none, none]) rfl ?_
            refine rz_B.go 1 (pc' := 4) (L' := [some (.ref 91), some (vI v1), some (vI v2), some (vI (v3 + 1)), some (vI (A.1 126 (((130 * v1) + v3)).toNat)), none, none, none, none]) (S' := []) rfl ?_
            refine rz_B.more (rg_le_ok (L := [some (.ref 91), some (vI v1), some (vI v2), some (vI (v3 + 1)), none, none, none, none, none]) (by simp [rg_le])) ?_
            exact ih _ _ _ _ _ _ h hv1 hv2 hk30 hw29
          · have h := if_F h hc24
            refine rz_B.ifT (mt (eq32 (hw 126 (((130 * v1) + v3)).toNat).1 (by decide)).mp hc24) ?_
            obtain ⟨hk31, h⟩ := rz_g32_inv h
            refine rz_B.iinc rfl (by decide) rfl (L' := [some (.ref 91), some (vI v1), some (vI (v2 + (-1))), some (vI v3), some (vI (A.1 126 (((130 * v1) + v3)).toNat)), none, none, none, none]) rfl ?_
            refine rz_B.go 4 (pc' := 114) (L' := [some (.ref 91), some (vI v1), some (vI (v2 + (-1))), some (vI v3), some (vI (A.1 126 (((130 * v1) + v3)).toNat)), none, none, none, none]) (S' := [vI 1, vI (v2 + (-1)), .ref 136]) rfl ?_
            obtain ⟨hk32, h⟩ := rz_g32_inv h
            refine rz_B.isub rfl ?_
            obtain ⟨hi33, hj34, h⟩ := rz_gx_inv h
            refine rz_B.lald rfl rfl hi33 hj34 (by decide) ?_
            refine rz_B.go 4 (pc' := 123) (L' := [some (.ref 91), some (vI v1), some (vI (v2 + (-1))), some (vI v3), some (vI (A.1 126 (((130 * v1) + v3)).toNat)), some (vL (A.2 136 (((v2 + (-1)) - 1)).toNat)), none, none, none]) (S' := [vI (v2 + (-1)), .ref 136]) rfl ?_
            obtain ⟨hi35, hj36, h⟩ := rz_gx_inv h
            refine rz_B.lald rfl rfl hi35 hj36 (by decide) ?_
            refine rz_B.go 5 (pc' := 132) (L' := [some (.ref 91), some (vI v1), some (vI (v2 + (-1))), some (vI v3), some (vI (A.1 126 (((130 * v1) + v3)).toNat)), some (vL (A.2 136 (((v2 + (-1)) - 1)).toNat)), none, some (vL (A.2 136 ((v2 + (-1))).toNat)), none]) (S' := [vI 1, vI (v2 + (-1)), .ref 136]) rfl ?_
            refine rz_B.isub rfl ?_
            refine rz_B.go 3 (pc' := if decide (¬ Int32.ofInt (A.1 126 (((130 * v1) + v3)).toNat) = Int32.ofInt (-46)) = true then 151 else 140) (L' := [some (.ref 91), some (vI v1), some (vI (v2 + (-1))), some (vI v3), some (vI (A.1 126 (((130 * v1) + v3)).toNat)), some (vL (A.2 136 (((v2 + (-1)) - 1)).toNat)), none, some (vL (A.2 136 ((v2 + (-1))).toNat)), none]) (S' := [vI ((v2 + (-1)) - 1), .ref 136]) rfl ?_
            by_cases hc37 : (A.1 126 (((130 * v1) + v3)).toNat) = (-46)
            · have h := if_T h hc37
              refine rz_B.ifF (fun hn => hn ((eq32 (hw 126 (((130 * v1) + v3)).toNat).1 (by decide)).mpr hc37)) ?_
              refine rz_B.go 2 (pc' := 144) (L' := [some (.ref 91), some (vI v1), some (vI (v2 + (-1))), some (vI v3), some (vI (A.1 126 (((130 * v1) + v3)).toNat)), some (vL (A.2 136 (((v2 + (-1)) - 1)).toNat)), none, some (vL (A.2 136 ((v2 + (-1))).toNat)), none]) (S' := [vL (A.2 136 ((v2 + (-1))).toNat), vL (A.2 136 (((v2 + (-1)) - 1)).toNat), vI ((v2 + (-1)) - 1), .ref 136]) rfl ?_
              obtain ⟨hk38, h⟩ := rz_g64_inv h
              refine rz_B.ladd rfl ?_
              obtain ⟨r39, A39, hf39, h⟩ := rz_b_inv h
              obtain ⟨hg39, hr39, hw39⟩ := cx159_held F (d := d + 0) hf39 hk38 hw
              refine rz_B.call (d := d + 0) (as := [vL ((A.2 136 (((v2 + (-1)) - 1)).toNat) + (A.2 136 ((v2 + (-1))).toNat))]) (rest := [vI ((v2 + (-1)) - 1), .ref 136]) (w := some (vL r39)) rfl hg39 ?_
              refine rz_B.go 1 (pc' := 266) (L' := [some (.ref 91), some (vI v1), some (vI (v2 + (-1))), some (vI v3), some (vI (A.1 126 (((130 * v1) + v3)).toNat)), some (vL (A.2 136 (((v2 + (-1)) - 1)).toNat)), none, some (vL (A.2 136 ((v2 + (-1))).toNat)), none]) (S' := [vL r39, vI ((v2 + (-1)) - 1), .ref 136]) rfl ?_
              refine rz_B.last rfl rfl hi33 hj34 (by decide) ?_
              have hw40 : wf (aL A39 136 (((v2 + (-1)) - 1)).toNat r39) := wf_aL hw39 hr39
              obtain ⟨hk41, h⟩ := rz_g32_inv h
              refine rz_B.iinc rfl (by decide) rfl (L' := [some (.ref 91), some (vI v1), some (vI (v2 + (-1))), some (vI (v3 + 1)), some (vI (A.1 126 (((130 * v1) + v3)).toNat)), some (vL (A.2 136 (((v2 + (-1)) - 1)).toNat)), none, some (vL (A.2 136 ((v2 + (-1))).toNat)), none]) rfl ?_
              refine rz_B.go 1 (pc' := 4) (L' := [some (.ref 91), some (vI v1), some (vI (v2 + (-1))), some (vI (v3 + 1)), some (vI (A.1 126 (((130 * v1) + v3)).toNat)), some (vL (A.2 136 (((v2 + (-1)) - 1)).toNat)), none, some (vL (A.2 136 ((v2 + (-1))).toNat)), none]) (S' := []) rfl ?_
              refine rz_B.more (rg_le_ok (L := [some (.ref 91), some (vI v1), some (vI (v2 + (-1))), some (vI (v3 + 1)), none, none, none, none, none]) (by simp [rg_le])) ?_
              exact ih _ _ _ _ _ _ h hv1 hk31 hk41 hw40
            · have h := if_F h hc37
              refine rz_B.ifT (mt (eq32 (hw 126 (((130 * v1) + v3)).toNat).1 (by decide)).mp hc37) ?_
              refine rz_B.go 3 (pc' := if decide (¬ Int32.ofInt (A.1 126 (((130 * v1) + v3)).toNat) = Int32.ofInt (-47)) = true then 169 else 158) (L' := [some (.ref 91), some (vI v1), some (vI (v2 + (-1))), some (vI v3), some (vI (A.1 126 (((130 * v1) + v3)).toNat)), some (vL (A.2 136 (((v2 + (-1)) - 1)).toNat)), none, some (vL (A.2 136 ((v2 + (-1))).toNat)), none]) (S' := [vI ((v2 + (-1)) - 1), .ref 136]) rfl ?_
              by_cases hc42 : (A.1 126 (((130 * v1) + v3)).toNat) = (-47)
              · have h := if_T h hc42
                refine rz_B.ifF (fun hn => hn ((eq32 (hw 126 (((130 * v1) + v3)).toNat).1 (by decide)).mpr hc42)) ?_
                refine rz_B.go 2 (pc' := 162) (L' := [some (.ref 91), some (vI v1), some (vI (v2 + (-1))), some (vI v3), some (vI (A.1 126 (((130 * v1) + v3)).toNat)), some (vL (A.2 136 (((v2 + (-1)) - 1)).toNat)), none, some (vL (A.2 136 ((v2 + (-1))).toNat)), none]) (S' := [vL (A.2 136 ((v2 + (-1))).toNat), vL (A.2 136 (((v2 + (-1)) - 1)).toNat), vI ((v2 + (-1)) - 1), .ref 136]) rfl ?_
                obtain ⟨hk43, h⟩ := rz_g64_inv h
                refine rz_B.lsub rfl ?_
                obtain ⟨r44, A44, hf44, h⟩ := rz_b_inv h
                obtain ⟨hg44, hr44, hw44⟩ := cx159_held F (d := d + 0) hf44 hk43 hw
                refine rz_B.call (d := d + 0) (as := [vL ((A.2 136 (((v2 + (-1)) - 1)).toNat) - (A.2 136 ((v2 + (-1))).toNat))]) (rest := [vI ((v2 + (-1)) - 1), .ref 136]) (w := some (vL r44)) rfl hg44 ?_
                refine rz_B.go 1 (pc' := 266) (L' := [some (.ref 91), some (vI v1), some (vI (v2 + (-1))), some (vI v3), some (vI (A.1 126 (((130 * v1) + v3)).toNat)), some (vL (A.2 136 (((v2 + (-1)) - 1)).toNat)), none, some (vL (A.2 136 ((v2 + (-1))).toNat)), none]) (S' := [vL r44, vI ((v2 + (-1)) - 1), .ref 136]) rfl ?_
                refine rz_B.last rfl rfl hi33 hj34 (by decide) ?_
                have hw45 : wf (aL A44 136 (((v2 + (-1)) - 1)).toNat r44) := wf_aL hw44 hr44
                obtain ⟨hk46, h⟩ := rz_g32_inv h
                refine rz_B.iinc rfl (by decide) rfl (L' := [some (.ref 91), some (vI v1), some (vI (v2 + (-1))), some (vI (v3 + 1)), some (vI (A.1 126 (((130 * v1) + v3)).toNat)), some (vL (A.2 136 (((v2 + (-1)) - 1)).toNat)), none, some (vL (A.2 136 ((v2 + (-1))).toNat)), none]) rfl ?_
                refine rz_B.go 1 (pc' := 4) (L' := [some (.ref 91), some (vI v1), some (vI (v2 + (-1))), some (vI (v3 + 1)), some (vI (A.1 126 (((130 * v1) + v3)).toNat)), some (vL (A.2 136 (((v2 + (-1)) - 1)).toNat)), none, some (vL (A.2 136 ((v2 + (-1))).toNat)), none]) (S' := []) rfl ?_
                refine rz_B.more (rg_le_ok (L := [some (.ref 91), some (vI v1), some (vI (v2 + (-1))), some (vI (v3 + 1)), none, none, none, none, none]) (by simp [rg_le])) ?_
                exact ih _ _ _ _ _ _ h hv1 hk31 hk46 hw45
              · have h := if_F h hc42
                refine rz_B.ifT (mt (eq32 (hw 126 (((130 * v1) + v3)).toNat).1 (by decide)).mp hc42) ?_
                refine rz_B.go 3 (pc' := if decide (¬ Int32.ofInt (A.1 126 (((130 * v1) + v3)).toNat) = Int32.ofInt (-48)) = true then 187 else 176) (L' := [some (.ref 91), some (vI v1), some (vI (v2 + (-1))), some (vI v3), some (vI (A.1 126 (((130 * v1) + v3)).toNat)), some (vL (A.2 136 (((v2 + (-1)) - 1)).toNat)), none, some (vL (A.2 136 ((v2 + (-1))).toNat)), none]) (S' := [vI ((v2 + (-1)) - 1), .ref 136]) rfl ?_
                by_cases hc47 : (A.1 126 (((130 * v1) + v3)).toNat) = (-48)
                · have h := if_T h hc47
                  refine rz_B.ifF (fun hn => hn ((eq32 (hw 126 (((130 * v1) + v3)).toNat).1 (by decide)).mpr hc47)) ?_
                  refine rz_B.go 2 (pc' := 180) (L' := [some (.ref 91), some (vI v1), some (vI (v2 + (-1))), some (vI v3), some (vI (A.1 126 (((130 * v1) + v3)).toNat)), some (vL (A.2 136 (((v2 + (-1)) - 1)).toNat)), none, some (vL (A.2 136 ((v2 + (-1))).toNat)), none]) (S' := [vL (A.2 136 ((v2 + (-1))).toNat), vL (A.2 136 (((v2 + (-1)) - 1)).toNat), vI ((v2 + (-1)) - 1), .ref 136]) rfl ?_
                  obtain ⟨hk48, h⟩ := rz_g64_inv h
                  refine rz_B.lmul rfl ?_
                  obtain ⟨r49, A49, hf49, h⟩ := rz_b_inv h
                  obtain ⟨hg49, hr49, hw49⟩ := cx159_held F (d := d + 0) hf49 hk48 hw
                  refine rz_B.call (d := d + 0) (as := [vL ((A.2 136 (((v2 + (-1)) - 1)).toNat) * (A.2 136 ((v2 + (-1))).toNat))]) (rest := [vI ((v2 + (-1)) - 1), .ref 136]) (w := some (vL r49)) rfl hg49 ?_
                  refine rz_B.go 1 (pc' := 266) (L' := [some (.ref 91), some (vI v1), some (vI (v2 + (-1))), some (vI v3), some (vI (A.1 126 (((130 * v1) + v3)).toNat)), some (vL (A.2 136 (((v2 + (-1)) - 1)).toNat)), none, some (vL (A.2 136 ((v2 + (-1))).toNat)), none]) (S' := [vL r49, vI ((v2 + (-1)) - 1), .ref 136]) rfl ?_
                  refine rz_B.last rfl rfl hi33 hj34 (by decide) ?_
                  have hw50 : wf (aL A49 136 (((v2 + (-1)) - 1)).toNat r49) := wf_aL hw49 hr49
                  obtain ⟨hk51, h⟩ := rz_g32_inv h
                  refine rz_B.iinc rfl (by decide) rfl (L' := [some (.ref 91), some (vI v1), some (vI (v2 + (-1))), some (vI (v3 + 1)), some (vI (A.1 126 (((130 * v1) + v3)).toNat)), some (vL (A.2 136 (((v2 + (-1)) - 1)).toNat)), none, some (vL (A.2 136 ((v2 + (-1))).toNat)), none]) rfl ?_
                  refine rz_B.go 1 (pc' := 4) (L' := [some (.ref 91), some (vI v1), some (vI (v2 + (-1))), some (vI (v3 + 1)), some (vI (A.1 126 (((130 * v1) + v3)).toNat)), some (vL (A.2 136 (((v2 + (-1)) - 1)).toNat)), none, some (vL (A.2 136 ((v2 + (-1))).toNat)), none]) (S' := []) rfl ?_
                  refine rz_B.more (rg_le_ok (L := [some (.ref 91), some (vI v1), some (vI (v2 + (-1))), some (vI (v3 + 1)), none, none, none, none, none]) (by simp [rg_le])) ?_
                  exact ih _ _ _ _ _ _ h hv1 hk31 hk51 hw50
                · have h := if_F h hc47
                  refine rz_B.ifT (mt (eq32 (hw 126 (((130 * v1) + v3)).toNat).1 (by decide)).mp hc47) ?_
                  refine rz_B.go 3 (pc' := if decide (¬ Int32.ofInt (A.1 126 (((130 * v1) + v3)).toNat) = Int32.ofInt (-40)) = true then 202 else 194) (L' := [some (.ref 91), some (vI v1), some (vI (v2 + (-1))), some (vI v3), some (vI (A.1 126 (((130 * v1) + v3)).toNat)), some (vL (A.2 136 (((v2 + (-1)) - 1)).toNat)), none, some (vL (A.2 136 ((v2 + (-1))).toNat)), none]) (S' := [vI ((v2 + (-1)) - 1), .ref 136]) rfl ?_
                  by_cases hc52 : (A.1 126 (((130 * v1) + v3)).toNat) = (-40)
                  · have h := if_T h hc52
                    refine rz_B.ifF (fun hn => hn ((eq32 (hw 126 (((130 * v1) + v3)).toNat).1 (by decide)).mpr hc52)) ?_
                    refine rz_B.go 2 (pc' := 198) (L' := [some (.ref 91), some (vI v1), some (vI (v2 + (-1))), some (vI v3), some (vI (A.1 126 (((130 * v1) + v3)).toNat)), some (vL (A.2 136 (((v2 + (-1)) - 1)).toNat)), none, some (vL (A.2 136 ((v2 + (-1))).toNat)), none]) (S' := [vL (A.2 136 ((v2 + (-1))).toNat), vL (A.2 136 (((v2 + (-1)) - 1)).toNat), vI ((v2 + (-1)) - 1), .ref 136]) rfl ?_
                    refine rz_B.oL gOr rfl ?_
                    refine rz_B.go 1 (pc' := 266) (L' := [some (.ref 91), some (vI v1), some (vI (v2 + (-1))), some (vI v3), some (vI (A.1 126 (((130 * v1) + v3)).toNat)), some (vL (A.2 136 (((v2 + (-1)) - 1)).toNat)), none, some (vL (A.2 136 ((v2 + (-1))).toNat)), none]) (S' := [vL (rz_oL gOr (A.2 136 (((v2 + (-1)) - 1)).toNat) (A.2 136 ((v2 + (-1))).toNat)), vI ((v2 + (-1)) - 1), .ref 136]) rfl ?_
                    refine rz_B.last rfl rfl hi33 hj34 (by decide) ?_
                    have hw53 : wf (aL A 136 (((v2 + (-1)) - 1)).toNat (rz_oL gOr (A.2 136 (((v2 + (-1)) - 1)).toNat) (A.2 136 ((v2 + (-1))).toNat))) := wf_aL hw r64_oL
                    obtain ⟨hk54, h⟩ := rz_g32_inv h
                    refine rz_B.iinc rfl (by decide) rfl (L' := [some (.ref 91), some (vI v1), some (vI (v2 + (-1))), some (vI (v3 + 1)), some (vI (A.1 126 (((130 * v1) + v3)).toNat)), some (vL (A.2 136 (((v2 + (-1)) - 1)).toNat)), none, some (vL (A.2 136 ((v2 + (-1))).toNat)), none]) rfl ?_
                    refine rz_B.go 1 (pc' := 4) (L' := [some (.ref 91), some (vI v1), some (vI (v2 + (-1))), some (vI (v3 + 1)), some (vI (A.1 126 (((130 * v1) + v3)).toNat)), some (vL (A.2 136 (((v2 + (-1)) - 1)).toNat)), none, some (vL (A.2 136 ((v2 + (-1))).toNat)), none]) (S' := []) rfl ?_
                    refine rz_B.more (rg_le_ok (L := [some (.ref 91), some (vI v1), some (vI (v2 + (-1))), some (vI (v3 + 1)), none, none, none, none, none]) (by simp [rg_le])) ?_
                    exact ih _ _ _ _ _ _ h hv1 hk31 hk54 hw53
                  · have h := if_F h hc52
                    refine rz_B.ifT (mt (eq32 (hw 126 (((130 * v1) + v3)).toNat).1 (by decide)).mp hc52) ?_
                    refine rz_B.go 3 (pc' := if decide (¬ Int32.ofInt (A.1 126 (((130 * v1) + v3)).toNat) = Int32.ofInt (-41)) = true then 217 else 209) (L' := [some (.ref 91), some (vI v1), some (vI (v2 + (-1))), some (vI v3), some (vI (A.1 126 (((130 * v1) + v3)).toNat)), some (vL (A.2 136 (((v2 + (-1)) - 1)).toNat)), none, some (vL (A.2 136 ((v2 + (-1))).toNat)), none]) (S' := [vI ((v2 + (-1)) - 1), .ref 136]) rfl ?_
                    by_cases hc55 : (A.1 126 (((130 * v1) + v3)).toNat) = (-41)
                    · have h := if_T h hc55
                      refine rz_B.ifF (fun hn => hn ((eq32 (hw 126 (((130 * v1) + v3)).toNat).1 (by decide)).mpr hc55)) ?_
                      refine rz_B.go 2 (pc' := 213) (L' := [some (.ref 91), some (vI v1), some (vI (v2 + (-1))), some (vI v3), some (vI (A.1 126 (((130 * v1) + v3)).toNat)), some (vL (A.2 136 (((v2 + (-1)) - 1)).toNat)), none, some (vL (A.2 136 ((v2 + (-1))).toNat)), none]) (S' := [vL (A.2 136 ((v2 + (-1))).toNat), vL (A.2 136 (((v2 + (-1)) - 1)).toNat), vI ((v2 + (-1)) - 1), .ref 136]) rfl ?_
                      refine rz_B.oL gAnd rfl ?_
                      refine rz_B.go 1 (pc' := 266) (L' := [some (.ref 91), some (vI v1), some (vI (v2 + (-1))), some (vI v3), some (vI (A.1 126 (((130 * v1) + v3)).toNat)), some (vL (A.2 136 (((v2 + (-1)) - 1)).toNat)), none, some (vL (A.2 136 ((v2 + (-1))).toNat)), none]) (S' := [vL (rz_oL gAnd (A.2 136 (((v2 + (-1)) - 1)).toNat) (A.2 136 ((v2 + (-1))).toNat)), vI ((v2 + (-1)) - 1), .ref 136]) rfl ?_
                      refine rz_B.last rfl rfl hi33 hj34 (by decide) ?_
                      have hw56 : wf (aL A 136 (((v2 + (-1)) - 1)).toNat (rz_oL gAnd (A.2 136 (((v2 + (-1)) - 1)).toNat) (A.2 136 ((v2 + (-1))).toNat))) := wf_aL hw r64_oL
                      obtain ⟨hk57, h⟩ := rz_g32_inv h
                      refine rz_B.iinc rfl (by decide) rfl (L' := [some (.ref 91), some (vI v1), some (vI (v2 + (-1))), some (vI (v3 + 1)), some (vI (A.1 126 (((130 * v1) + v3)).toNat)), some (vL (A.2 136 (((v2 + (-1)) - 1)).toNat)), none, some (vL (A.2 136 ((v2 + (-1))).toNat)), none]) rfl ?_
                      refine rz_B.go 1 (pc' := 4) (L' := [some (.ref 91), some (vI v1), some (vI (v2 + (-1))), some (vI (v3 + 1)), some (vI (A.1 126 (((130 * v1) + v3)).toNat)), some (vL (A.2 136 (((v2 + (-1)) - 1)).toNat)), none, some (vL (A.2 136 ((v2 + (-1))).toNat)), none]) (S' := []) rfl ?_
                      refine rz_B.more (rg_le_ok (L := [some (.ref 91), some (vI v1), some (vI (v2 + (-1))), some (vI (v3 + 1)), none, none, none, none, none]) (by simp [rg_le])) ?_
                      exact ih _ _ _ _ _ _ h hv1 hk31 hk57 hw56
                    · have h := if_F h hc55
                      refine rz_B.ifT (mt (eq32 (hw 126 (((130 * v1) + v3)).toNat).1 (by decide)).mp hc55) ?_
                      refine rz_B.go 3 (pc' := if decide (¬ Int32.ofInt (A.1 126 (((130 * v1) + v3)).toNat) = Int32.ofInt (-43)) = true then 235 else 224) (L' := [some (.ref 91), some (vI v1), some (vI (v2 + (-1))), some (vI v3), some (vI (A.1 126 (((130 * v1) + v3)).toNat)), some (vL (A.2 136 (((v2 + (-1)) - 1)).toNat)), none, some (vL (A.2 136 ((v2 + (-1))).toNat)), none]) (S' := [vI ((v2 + (-1)) - 1), .ref 136]) rfl ?_
                      by_cases hc58 : (A.1 126 (((130 * v1) + v3)).toNat) = (-43)
                      · have h := if_T h hc58
                        refine rz_B.ifF (fun hn => hn ((eq32 (hw 126 (((130 * v1) + v3)).toNat).1 (by decide)).mpr hc58)) ?_
                        refine rz_B.go 4 (pc' := if decide (0 ≤ lg_cmp (Int64.ofInt (A.2 136 (((v2 + (-1)) - 1)).toNat)) (Int64.ofInt (A.2 136 ((v2 + (-1))).toNat))) = true then 265 else 232) (L' := [some (.ref 91), some (vI v1), some (vI (v2 + (-1))), some (vI v3), some (vI (A.1 126 (((130 * v1) + v3)).toNat)), some (vL (A.2 136 (((v2 + (-1)) - 1)).toNat)), none, some (vL (A.2 136 ((v2 + (-1))).toNat)), none]) (S' := [vI ((v2 + (-1)) - 1), .ref 136]) rfl ?_
                        by_cases hc59 : (A.2 136 (((v2 + (-1)) - 1)).toNat) < (A.2 136 ((v2 + (-1))).toNat)
                        · have h := if_T h hc59
                          refine rz_B.ifF (mt (cmp_ge (hw 136 (((v2 + (-1)) - 1)).toNat).2 (hw 136 ((v2 + (-1))).toNat).2).mp (Int.not_le.mpr hc59)) ?_
                          refine rz_B.go 3 (pc' := 266) (L' := [some (.ref 91), some (vI v1), some (vI (v2 + (-1))), some (vI v3), some (vI (A.1 126 (((130 * v1) + v3)).toNat)), some (vL (A.2 136 (((v2 + (-1)) - 1)).toNat)), none, some (vL (A.2 136 ((v2 + (-1))).toNat)), none]) (S' := [vL 1, vI ((v2 + (-1)) - 1), .ref 136]) rfl ?_
                          refine rz_B.last rfl rfl hi33 hj34 (by decide) ?_
                          have hw60 : wf (aL A 136 (((v2 + (-1)) - 1)).toNat 1) := wf_aL hw (by decide)
                          obtain ⟨hk61, h⟩ := rz_g32_inv h
                          refine rz_B.iinc rfl (by decide) rfl (L' := [some (.ref 91), some (vI v1), some (vI (v2 + (-1))), some (vI (v3 + 1)), some (vI (A.1 126 (((130 * v1) + v3)).toNat)), some (vL (A.2 136 (((v2 + (-1)) - 1)).toNat)), none, some (vL (A.2 136 ((v2 + (-1))).toNat)), none]) rfl ?_
                          refine rz_B.go 1 (pc' := 4) (L' := [some (.ref 91), some (vI v1), some (vI (v2 + (-1))), some (vI (v3 + 1)), some (vI (A.1 126 (((130 * v1) + v3)).toNat)), some (vL (A.2 136 (((v2 + (-1)) - 1)).toNat)), none, some (vL (A.2 136 ((v2 + (-1))).toNat)), none]) (S' := []) rfl ?_
                          refine rz_B.more (rg_le_ok (L := [some (.ref 91), some (vI v1), some (vI (v2 + (-1))), some (vI (v3 + 1)), none, none, none, none, none]) (by simp [rg_le])) ?_
                          exact ih _ _ _ _ _ _ h hv1 hk31 hk61 hw60
                        · have h := if_F h hc59
                          refine rz_B.ifT ((cmp_ge (hw 136 (((v2 + (-1)) - 1)).toNat).2 (hw 136 ((v2 + (-1))).toNat).2).mpr (Int.not_lt.mp hc59)) ?_
                          refine rz_B.go 1 (pc' := 266) (L' := [some (.ref 91), some (vI v1), some (vI (v2 + (-1))), some (vI v3), some (vI (A.1 126 (((130 * v1) + v3)).toNat)), some (vL (A.2 136 (((v2 + (-1)) - 1)).toNat)), none, some (vL (A.2 136 ((v2 + (-1))).toNat)), none]) (S' := [vL 0, vI ((v2 + (-1)) - 1), .ref 136]) rfl ?_
                          refine rz_B.last rfl rfl hi33 hj34 (by decide) ?_
                          have hw62 : wf (aL A 136 (((v2 + (-1)) - 1)).toNat 0) := wf_aL hw (by decide)
                          obtain ⟨hk63, h⟩ := rz_g32_inv h
                          refine rz_B.iinc rfl (by decide) rfl (L' := [some (.ref 91), some (vI v1), some (vI (v2 + (-1))), some (vI (v3 + 1)), some (vI (A.1 126 (((130 * v1) + v3)).toNat)), some (vL (A.2 136 (((v2 + (-1)) - 1)).toNat)), none, some (vL (A.2 136 ((v2 + (-1))).toNat)), none]) rfl ?_
                          refine rz_B.go 1 (pc' := 4) (L' := [some (.ref 91), some (vI v1), some (vI (v2 + (-1))), some (vI (v3 + 1)), some (vI (A.1 126 (((130 * v1) + v3)).toNat)), some (vL (A.2 136 (((v2 + (-1)) - 1)).toNat)), none, some (vL (A.2 136 ((v2 + (-1))).toNat)), none]) (S' := []) rfl ?_
                          refine rz_B.more (rg_le_ok (L := [some (.ref 91), some (vI v1), some (vI (v2 + (-1))), some (vI (v3 + 1)), none, none, none, none, none]) (by simp [rg_le])) ?_
                          exact ih _ _ _ _ _ _ h hv1 hk31 hk63 hw62
                      · have h := if_F h hc58
                        refine rz_B.ifT (mt (eq32 (hw 126 (((130 * v1) + v3)).toNat).1 (by decide)).mp hc58) ?_
                        refine rz_B.go 3 (pc' := if decide (¬ Int32.ofInt (A.1 126 (((130 * v1) + v3)).toNat) = Int32.ofInt (-44)) = true then 253 else 242) (L' := [some (.ref 91), some (vI v1), some (vI (v2 + (-1))), some (vI v3), some (vI (A.1 126 (((130 * v1) + v3)).toNat)), some (vL (A.2 136 (((v2 + (-1)) - 1)).toNat)), none, some (vL (A.2 136 ((v2 + (-1))).toNat)), none]) (S' := [vI ((v2 + (-1)) - 1), .ref 136]) rfl ?_
                        by_cases hc64 : (A.1 126 (((130 * v1) + v3)).toNat) = (-44)
                        · have h := if_T h hc64
                          refine rz_B.ifF (fun hn => hn ((eq32 (hw 126 (((130 * v1) + v3)).toNat).1 (by decide)).mpr hc64)) ?_
                          refine rz_B.go 4 (pc' := if decide (¬ lg_cmp (Int64.ofInt (A.2 136 (((v2 + (-1)) - 1)).toNat)) (Int64.ofInt (A.2 136 ((v2 + (-1))).toNat)) = 0) = true then 265 else 250) (L' := [some (.ref 91), some (vI v1), some (vI (v2 + (-1))), some (vI v3), some (vI (A.1 126 (((130 * v1) + v3)).toNat)), some (vL (A.2 136 (((v2 + (-1)) - 1)).toNat)), none, some (vL (A.2 136 ((v2 + (-1))).toNat)), none]) (S' := [vI ((v2 + (-1)) - 1), .ref 136]) rfl ?_
                          by_cases hc65 : (A.2 136 (((v2 + (-1)) - 1)).toNat) = (A.2 136 ((v2 + (-1))).toNat)
                          · have h := if_T h hc65
                            refine rz_B.ifF (fun hn => hn ((cmp_eq (hw 136 (((v2 + (-1)) - 1)).toNat).2 (hw 136 ((v2 + (-1))).toNat).2).mpr hc65)) ?_
                            refine rz_B.go 3 (pc' := 266) (L' := [some (.ref 91), some (vI v1), some (vI (v2 + (-1))), some (vI v3), some (vI (A.1 126 (((130 * v1) + v3)).toNat)), some (vL (A.2 136 (((v2 + (-1)) - 1)).toNat)), none, some (vL (A.2 136 ((v2 + (-1))).toNat)), none]) (S' := [vL 1, vI ((v2 + (-1)) - 1), .ref 136]) rfl ?_
                            refine rz_B.last rfl rfl hi33 hj34 (by decide) ?_
                            have hw66 : wf (aL A 136 (((v2 + (-1)) - 1)).toNat 1) := wf_aL hw (by decide)
                            obtain ⟨hk67, h⟩ := rz_g32_inv h
                            refine rz_B.iinc rfl (by decide) rfl (L' := [some (.ref 91), some (vI v1), some (vI (v2 + (-1))), some (vI (v3 + 1)), some (vI (A.1 126 (((130 * v1) + v3)).toNat)), some (vL (A.2 136 (((v2 + (-1)) - 1)).toNat)), none, some (vL (A.2 136 ((v2 + (-1))).toNat)), none]) rfl ?_
                            refine rz_B.go 1 (pc' := 4) (L' := [some (.ref 91), some (vI v1), some (vI (v2 + (-1))), some (vI (v3 + 1)), some (vI (A.1 126 (((130 * v1) + v3)).toNat)), some (vL (A.2 136 (((v2 + (-1)) - 1)).toNat)), none, some (vL (A.2 136 ((v2 + (-1))).toNat)), none]) (S' := []) rfl ?_
                            refine rz_B.more (rg_le_ok (L := [some (.ref 91), some (vI v1), some (vI (v2 + (-1))), some (vI (v3 + 1)), none, none, none, none, none]) (by simp [rg_le])) ?_
                            exact ih _ _ _ _ _ _ h hv1 hk31 hk67 hw66
                          · have h := if_F h hc65
                            refine rz_B.ifT (mt (cmp_eq (hw 136 (((v2 + (-1)) - 1)).toNat).2 (hw 136 ((v2 + (-1))).toNat).2).mp hc65) ?_
                            refine rz_B.go 1 (pc' := 266) (L' := [some (.ref 91), some (vI v1), some (vI (v2 + (-1))), some (vI v3), some (vI (A.1 126 (((130 * v1) + v3)).toNat)), some (vL (A.2 136 (((v2 + (-1)) - 1)).toNat)), none, some (vL (A.2 136 ((v2 + (-1))).toNat)), none]) (S' := [vL 0, vI ((v2 + (-1)) - 1), .ref 136]) rfl ?_
                            refine rz_B.last rfl rfl hi33 hj34 (by decide) ?_
                            have hw68 : wf (aL A 136 (((v2 + (-1)) - 1)).toNat 0) := wf_aL hw (by decide)
                            obtain ⟨hk69, h⟩ := rz_g32_inv h
                            refine rz_B.iinc rfl (by decide) rfl (L' := [some (.ref 91), some (vI v1), some (vI (v2 + (-1))), some (vI (v3 + 1)), some (vI (A.1 126 (((130 * v1) + v3)).toNat)), some (vL (A.2 136 (((v2 + (-1)) - 1)).toNat)), none, some (vL (A.2 136 ((v2 + (-1))).toNat)), none]) rfl ?_
                            refine rz_B.go 1 (pc' := 4) (L' := [some (.ref 91), some (vI v1), some (vI (v2 + (-1))), some (vI (v3 + 1)), some (vI (A.1 126 (((130 * v1) + v3)).toNat)), some (vL (A.2 136 (((v2 + (-1)) - 1)).toNat)), none, some (vL (A.2 136 ((v2 + (-1))).toNat)), none]) (S' := []) rfl ?_
                            refine rz_B.more (rg_le_ok (L := [some (.ref 91), some (vI v1), some (vI (v2 + (-1))), some (vI (v3 + 1)), none, none, none, none, none]) (by simp [rg_le])) ?_
                            exact ih _ _ _ _ _ _ h hv1 hk31 hk69 hw68
                        · have h := if_F h hc64
                          refine rz_B.ifT (mt (eq32 (hw 126 (((130 * v1) + v3)).toNat).1 (by decide)).mp hc64) ?_
                          refine rz_B.go 4 (pc' := if decide (lg_cmp (Int64.ofInt (A.2 136 (((v2 + (-1)) - 1)).toNat)) (Int64.ofInt (A.2 136 ((v2 + (-1))).toNat)) ≤ 0) = true then 265 else 261) (L' := [some (.ref 91), some (vI v1), some (vI (v2 + (-1))), some (vI v3), some (vI (A.1 126 (((130 * v1) + v3)).toNat)), some (vL (A.2 136 (((v2 + (-1)) - 1)).toNat)), none, some (vL (A.2 136 ((v2 + (-1))).toNat)), none]) (S' := [vI ((v2 + (-1)) - 1), .ref 136]) rfl ?_
                          by_cases hc70 : (A.2 136 ((v2 + (-1))).toNat) < (A.2 136 (((v2 + (-1)) - 1)).toNat)
                          · have h := if_T h hc70
                            refine rz_B.ifF (mt (cmp_le (hw 136 (((v2 + (-1)) - 1)).toNat).2 (hw 136 ((v2 + (-1))).toNat).2).mp (Int.not_le.mpr hc70)) ?_
                            refine rz_B.go 2 (pc' := 266) (L' := [some (.ref 91), some (vI v1), some (vI (v2 + (-1))), some (vI v3), some (vI (A.1 126 (((130 * v1) + v3)).toNat)), some (vL (A.2 136 (((v2 + (-1)) - 1)).toNat)), none, some (vL (A.2 136 ((v2 + (-1))).toNat)), none]) (S' := [vL 1, vI ((v2 + (-1)) - 1), .ref 136]) rfl ?_
                            refine rz_B.last rfl rfl hi33 hj34 (by decide) ?_
                            have hw71 : wf (aL A 136 (((v2 + (-1)) - 1)).toNat 1) := wf_aL hw (by decide)
                            obtain ⟨hk72, h⟩ := rz_g32_inv h
                            refine rz_B.iinc rfl (by decide) rfl (L' := [some (.ref 91), some (vI v1), some (vI (v2 + (-1))), some (vI (v3 + 1)), some (vI (A.1 126 (((130 * v1) + v3)).toNat)), some (vL (A.2 136 (((v2 + (-1)) - 1)).toNat)), none, some (vL (A.2 136 ((v2 + (-1))).toNat)), none]) rfl ?_
                            refine rz_B.go 1 (pc' := 4) (L' := [some (.ref 91), some (vI v1), some (vI (v2 + (-1))), some (vI (v3 + 1)), some (vI (A.1 126 (((130 * v1) + v3)).toNat)), some (vL (A.2 136 (((v2 + (-1)) - 1)).toNat)), none, some (vL (A.2 136 ((v2 + (-1))).toNat)), none]) (S' := []) rfl ?_
                            refine rz_B.more (rg_le_ok (L := [some (.ref 91), some (vI v1), some (vI (v2 + (-1))), some (vI (v3 + 1)), none, none, none, none, none]) (by simp [rg_le])) ?_
                            exact ih _ _ _ _ _ _ h hv1 hk31 hk72 hw71
                          · have h := if_F h hc70
                            refine rz_B.ifT ((cmp_le (hw 136 (((v2 + (-1)) - 1)).toNat).2 (hw 136 ((v2 + (-1))).toNat).2).mpr (Int.not_lt.mp hc70)) ?_
                            refine rz_B.go 1 (pc' := 266) (L' := [some (.ref 91), some (vI v1), some (vI (v2 + (-1))), some (vI v3), some (vI (A.1 126 (((130 * v1) + v3)).toNat)), some (vL (A.2 136 (((v2 + (-1)) - 1)).toNat)), none, some (vL (A.2 136 ((v2 + (-1))).toNat)), none]) (S' := [vL 0, vI ((v2 + (-1)) - 1), .ref 136]) rfl ?_
                            refine rz_B.last rfl rfl hi33 hj34 (by decide) ?_
                            have hw73 : wf (aL A 136 (((v2 + (-1)) - 1)).toNat 0) := wf_aL hw (by decide)
                            obtain ⟨hk74, h⟩ := rz_g32_inv h
                            refine rz_B.iinc rfl (by decide) rfl (L' := [some (.ref 91), some (vI v1), some (vI (v2 + (-1))), some (vI (v3 + 1)), some (vI (A.1 126 (((130 * v1) + v3)).toNat)), some (vL (A.2 136 (((v2 + (-1)) - 1)).toNat)), none, some (vL (A.2 136 ((v2 + (-1))).toNat)), none]) rfl ?_
                            refine rz_B.go 1 (pc' := 4) (L' := [some (.ref 91), some (vI v1), some (vI (v2 + (-1))), some (vI (v3 + 1)), some (vI (A.1 126 (((130 * v1) + v3)).toNat)), some (vL (A.2 136 (((v2 + (-1)) - 1)).toNat)), none, some (vL (A.2 136 ((v2 + (-1))).toNat)), none]) (S' := []) rfl ?_
                            refine rz_B.more (rg_le_ok (L := [some (.ref 91), some (vI v1), some (vI (v2 + (-1))), some (vI (v3 + 1)), none, none, none, none, none]) (by simp [rg_le])) ?_
                            exact ih _ _ _ _ _ _ h hv1 hk31 hk74 hw73
    · have h := if_F h hc3
      refine rz_B.ifT ((le32 (hw 125 (v1).toNat).1 hv3).mpr (Int.not_lt.mp hc3)) ?_
      refine rz_B.more (rg_le_ok (L := [some (.ref 91), none, none, none, none, none, none, none, none]) (by simp [rg_le])) ?_
      exact cx158_says_273 F _ _ _ h hw
/-- RiverGaugeModel.says(I)Z -/
def x158_says (F : Nat) (a0 : Int) (A : rz_A) : Option (Int × rz_A) :=
  x158_says_4 F F a0 0 0 A
theorem cx158_says (F : Nat) {d : Nat} {a0 : Int} {A : rz_A} {r : Int} {A' : rz_A} (h : x158_says F a0 A = some (r, A')) (ha0 : r32 a0) (hw : wf A) : rg_Rn (d + 1) 158 [.ref 91, vI a0] (toM A) (some (vI r)) (toM A') ∧ (r32 r) ∧ wf A' := by
  show rz_B (d + 1) 158 0 [some (.ref 91), some (vI a0), none, none, none, none, none, none, none] [] A (some (vI r)) A' (r32 r)
  unfold x158_says at h
  refine rz_B.go 4 (pc' := 4) (L' := [some (.ref 91), some (vI a0), some (vI 0), some (vI 0), none, none, none, none, none]) (S' := []) rfl ?_
  refine rz_B.more (rg_le_ok (L := [some (.ref 91), some (vI a0), some (vI 0), some (vI 0), none, none, none, none, none]) (by simp [rg_le])) ?_
  exact cx158_says_4 F F _ _ _ _ _ _ h ha0 (by decide) (by decide) hw
/-- RiverGaugeModel.isByStandard(II)Z -/
def x154_isByStandard (F : Nat) (a0 : Int) (a1 : Int) (A : rz_A) : Option (Int × rz_A) :=
  rz_gx a0 300 <|
  if (A.1 107 (a0).toNat) < 0 then
    some (0, A)
  else
    rz_g32 ((A.1 105 (a0).toNat).tdiv 96) <|
    rz_b (x155_inForce F 0 ((A.1 105 (a0).toNat).tdiv 96) a1 A) fun r5 A5 =>
    if r5 < 0 then
      some (0, A5)
    else
      rz_b (x156_ahead F a0 a1 A5) fun r7 A7 =>
      rz_b (x157_lays F (A7.1 105 (a0).toNat) A7) fun _ A8 =>
      if r7 < 0 then
        rz_b (x158_says F r5 (aL (aL (aL (aL A8 133 17 (A8.1 107 (a0).toNat)) 133 10 (A8.1 106 (a0).toNat)) 133 0 0) 133 1 9999)) fun r14 A14 =>
        rz_gz r14 <|
        some (r14, A14)
      else
        rz_gx r7 300 <|
        if (A8.1 107 (r7).toNat) < (A8.1 107 (a0).toNat) then
          rz_g32 ((A8.1 107 (a0).toNat) - (A8.1 107 (r7).toNat)) <|
          rz_g32 ((A8.1 105 (a0).toNat) - (A8.1 105 (r7).toNat)) <|
          rz_b (x158_says F r5 (aL (aL (aL (aL A8 133 17 (A8.1 107 (a0).toNat)) 133 10 (A8.1 106 (a0).toNat)) 133 0 ((A8.1 107 (a0).toNat) - (A8.1 107 (r7).toNat))) 133 1 ((A8.1 105 (a0).toNat) - (A8.1 105 (r7).toNat)))) fun r23 A23 =>
          rz_gz r23 <|
          some (r23, A23)
        else
          rz_g32 ((A8.1 107 (r7).toNat) - (A8.1 107 (a0).toNat)) <|
          rz_g32 ((A8.1 105 (a0).toNat) - (A8.1 105 (r7).toNat)) <|
          rz_b (x158_says F r5 (aL (aL (aL (aL A8 133 17 (A8.1 107 (a0).toNat)) 133 10 (A8.1 106 (a0).toNat)) 133 0 ((A8.1 107 (r7).toNat) - (A8.1 107 (a0).toNat))) 133 1 ((A8.1 105 (a0).toNat) - (A8.1 105 (r7).toNat)))) fun r29 A29 =>
          rz_gz r29 <|
          some (r29, A29)
theorem cx154_isByStandard (F : Nat) {d : Nat} {a0 : Int} {a1 : Int} {A : rz_A} {r : Int} {A' : rz_A} (h : x154_isByStandard F a0 a1 A = some (r, A')) (ha0 : r32 a0) (ha1 : r32 a1) (hw : wf A) : rg_Rn (d + 2) 154 [.ref 91, vI a0, vI a1] (toM A) (some (vI r)) (toM A') ∧ (r32 r) ∧ wf A' := by
  show rz_B (d + 2) 154 0 [some (.ref 91), some (vI a0), some (vI a1), none, none] [] A (some (vI r)) A' (r32 r)
  unfold x154_isByStandard at h
  refine rz_B.go 3 (pc' := 5) (L' := [some (.ref 91), some (vI a0), some (vI a1), none, none]) (S' := [vI a0, .ref 107]) rfl ?_
  obtain ⟨hi1, hj2, h⟩ := rz_gx_inv h
  refine rz_B.iald rfl rfl hi1 hj2 (by decide) ?_
  refine rz_B.go 1 (pc' := if decide (Int32.ofInt 0 ≤ Int32.ofInt (A.1 107 (a0).toNat)) = true then 11 else 9) (L' := [some (.ref 91), some (vI a0), some (vI a1), none, none]) (S' := []) rfl ?_
  by_cases hc3 : (A.1 107 (a0).toNat) < 0
  · have h := if_T h hc3
    refine rz_B.ifF (mt (le32 (by decide) (hw 107 (a0).toNat).1).mp (Int.not_le.mpr hc3)) ?_
    refine rz_B.go 1 (pc' := 10) (L' := [some (.ref 91), some (vI a0), some (vI a1), none, none]) (S' := [vI 0]) rfl ?_
    cases h
    exact rz_B.ret rfl (by decide) hw
  · have h := if_F h hc3
    refine rz_B.ifT ((le32 (by decide) (hw 107 (a0).toNat).1).mpr (Int.not_lt.mp hc3)) ?_
    refine rz_B.go 5 (pc' := 18) (L' := [some (.ref 91), some (vI a0), some (vI a1), none, none]) (S' := [vI a0, .ref 105, vI 0, .ref 91]) rfl ?_
    refine rz_B.iald rfl rfl hi1 hj2 (by decide) ?_
    refine rz_B.go 1 (pc' := 21) (L' := [some (.ref 91), some (vI a0), some (vI a1), none, none]) (S' := [vI 96, vI (A.1 105 (a0).toNat), vI 0, .ref 91]) rfl ?_
    obtain ⟨hk4, h⟩ := rz_g32_inv h
    refine rz_B.idiv rfl (hw 105 (a0).toNat).1 (by decide) (by decide) ?_
    refine rz_B.go 1 (pc' := 23) (L' := [some (.ref 91), some (vI a0), some (vI a1), none, none]) (S' := [vI a1, vI ((A.1 105 (a0).toNat).tdiv 96), vI 0, .ref 91]) rfl ?_
    obtain ⟨r5, A5, hf5, h⟩ := rz_b_inv h
    obtain ⟨hg5, hr5, hw5⟩ := cx155_inForce F (d := d + 1) hf5 (by decide) hk4 ha1 hw
    refine rz_B.call (d := d + 1) (as := [.ref 91, vI 0, vI ((A.1 105 (a0).toNat).tdiv 96), vI a1]) (rest := []) (w := some (vI r5)) rfl hg5 ?_
    refine rz_B.go 3 (pc' := if decide (Int32.ofInt 0 ≤ Int32.ofInt r5) = true then 33 else 31) (L' := [some (.ref 91), some (vI a0), some (vI a1), some (vI r5), none]) (S' := []) rfl ?_
    by_cases hc6 : r5 < 0
    · have h := if_T h hc6
      refine rz_B.ifF (mt (le32 (by decide) hr5).mp (Int.not_le.mpr hc6)) ?_
      refine rz_B.go 1 (pc' := 32) (L' := [some (.ref 91), some (vI a0), some (vI a1), some (vI r5), none]) (S' := [vI 0]) rfl ?_
      cases h
      exact rz_B.ret rfl (by decide) hw5
    · have h := if_F h hc6
      refine rz_B.ifT ((le32 (by decide) hr5).mpr (Int.not_lt.mp hc6)) ?_
      refine rz_B.go 3 (pc' := 36) (L' := [some (.ref 91), some (vI a0), some (vI a1), some (vI r5), none]) (S' := [vI a1, vI a0, .ref 91]) rfl ?_
      obtain ⟨r7, A7, hf7, h⟩ := rz_b_inv h
      obtain ⟨hg7, hr7, hw7⟩ := cx156_ahead F (d := d + 0) hf7 ha0 ha1 hw5
      refine rz_B.call (d := d + 1) (as := [.ref 91, vI a0, vI a1]) (rest := []) (w := some (vI r7)) rfl hg7 ?_
      refine rz_B.go 5 (pc' := 47) (L' := [some (.ref 91), some (vI a0), some (vI a1), some (vI r5), some (vI r7)]) (S' := [vI a0, .ref 105, .ref 91]) rfl ?_
      refine rz_B.iald rfl rfl hi1 hj2 (by decide) ?_
      obtain ⟨_, A8, hf8, h⟩ := rz_b_inv h
      obtain ⟨hg8, hr8, hw8⟩ := cx157_lays F (d := d + 1) hf8 (hw7 105 (a0).toNat).1 hw7
      refine rz_B.call (d := d + 1) (as := [.ref 91, vI (A7.1 105 (a0).toNat)]) (rest := []) (w := none) rfl hg8 ?_
      refine rz_B.go 6 (pc' := 62) (L' := [some (.ref 91), some (vI a0), some (vI a1), some (vI r5), some (vI r7)]) (S' := [vI a0, .ref 107, vI 17, .ref 133]) rfl ?_
      refine rz_B.iald rfl rfl hi1 hj2 (by decide) ?_
      refine rz_B.i2l rfl (hw8 107 (a0).toNat).1 ?_
      refine rz_B.last rfl rfl (by decide) (by decide) (by decide) ?_
      have hw9 : wf (aL A8 133 17 (A8.1 107 (a0).toNat)) := wf_aL hw8 (r64_of (hw8 107 (a0).toNat).1)
      refine rz_B.go 6 (pc' := 76) (L' := [some (.ref 91), some (vI a0), some (vI a1), some (vI r5), some (vI r7)]) (S' := [vI a0, .ref 106, vI 10, .ref 133]) rfl ?_
      refine rz_B.iald rfl rfl hi1 hj2 (by decide) ?_
      refine rz_B.i2l rfl (hw8 106 (a0).toNat).1 ?_
      refine rz_B.last rfl rfl (by decide) (by decide) (by decide) ?_
      have hw10 : wf (aL (aL A8 133 17 (A8.1 107 (a0).toNat)) 133 10 (A8.1 106 (a0).toNat)) := wf_aL hw9 (r64_of (hw8 106 (a0).toNat).1)
      refine rz_B.go 5 (pc' := if decide (Int32.ofInt 0 ≤ Int32.ofInt r7) = true then 93 else 89) (L' := [some (.ref 91), some (vI a0), some (vI a1), some (vI r5), some (vI r7)]) (S' := [vI 0, .ref 133]) rfl ?_
      by_cases hc11 : r7 < 0
      · have h := if_T h hc11
        refine rz_B.ifF (mt (le32 (by decide) hr7).mp (Int.not_le.mpr hc11)) ?_
        refine rz_B.go 2 (pc' := 142) (L' := [some (.ref 91), some (vI a0), some (vI a1), some (vI r5), some (vI r7)]) (S' := [vL 0, vI 0, .ref 133]) rfl ?_
        refine rz_B.last rfl rfl (by decide) (by decide) (by decide) ?_
        have hw12 : wf (aL (aL (aL A8 133 17 (A8.1 107 (a0).toNat)) 133 10 (A8.1 106 (a0).toNat)) 133 0 0) := wf_aL hw10 (by decide)
        refine rz_B.go 5 (pc' := if decide (Int32.ofInt 0 ≤ Int32.ofInt r7) = true then 159 else 153) (L' := [some (.ref 91), some (vI a0), some (vI a1), some (vI r5), some (vI r7)]) (S' := [vI 1, .ref 133]) rfl ?_
        refine rz_B.ifF (mt (le32 (by decide) hr7).mp (Int.not_le.mpr hc11)) ?_
        refine rz_B.go 2 (pc' := 174) (L' := [some (.ref 91), some (vI a0), some (vI a1), some (vI r5), some (vI r7)]) (S' := [vL 9999, vI 1, .ref 133]) rfl ?_
        refine rz_B.last rfl rfl (by decide) (by decide) (by decide) ?_
        have hw13 : wf (aL (aL (aL (aL A8 133 17 (A8.1 107 (a0).toNat)) 133 10 (A8.1 106 (a0).toNat)) 133 0 0) 133 1 9999) := wf_aL hw12 (by decide)
        refine rz_B.go 2 (pc' := 177) (L' := [some (.ref 91), some (vI a0), some (vI a1), some (vI r5), some (vI r7)]) (S' := [vI r5, .ref 91]) rfl ?_
        obtain ⟨r14, A14, hf14, h⟩ := rz_b_inv h
        obtain ⟨hg14, hr14, hw14⟩ := cx158_says F (d := d + 0) hf14 hr5 hw13
        refine rz_B.call (d := d + 1) (as := [.ref 91, vI r5]) (rest := []) (w := some (vI r14)) rfl hg14 ?_
        obtain ⟨hb15, h⟩ := rz_gz_inv h
        cases h
        exact rz_B.zret rfl rfl hb15 hr14 hw14
      · have h := if_F h hc11
        refine rz_B.ifT ((le32 (by decide) hr7).mpr (Int.not_lt.mp hc11)) ?_
        refine rz_B.go 3 (pc' := 98) (L' := [some (.ref 91), some (vI a0), some (vI a1), some (vI r5), some (vI r7)]) (S' := [vI a0, .ref 107, vI 0, .ref 133]) rfl ?_
        refine rz_B.iald rfl rfl hi1 hj2 (by decide) ?_
        refine rz_B.go 3 (pc' := 105) (L' := [some (.ref 91), some (vI a0), some (vI a1), some (vI r5), some (vI r7)]) (S' := [vI r7, .ref 107, vI (A8.1 107 (a0).toNat), vI 0, .ref 133]) rfl ?_
        obtain ⟨hi16, hj17, h⟩ := rz_gx_inv h
        refine rz_B.iald rfl rfl hi16 hj17 (by decide) ?_
        refine rz_B.go 1 (pc' := if decide (Int32.ofInt (A8.1 107 (a0).toNat) ≤ Int32.ofInt (A8.1 107 (r7).toNat)) = true then 127 else 109) (L' := [some (.ref 91), some (vI a0), some (vI a1), some (vI r5), some (vI r7)]) (S' := [vI 0, .ref 133]) rfl ?_
        by_cases hc18 : (A8.1 107 (r7).toNat) < (A8.1 107 (a0).toNat)
        · have h := if_T h hc18
          refine rz_B.ifF (mt (le32 (hw8 107 (a0).toNat).1 (hw8 107 (r7).toNat).1).mp (Int.not_le.mpr hc18)) ?_
          refine rz_B.go 3 (pc' := 114) (L' := [some (.ref 91), some (vI a0), some (vI a1), some (vI r5), some (vI r7)]) (S' := [vI a0, .ref 107, vI 0, .ref 133]) rfl ?_
          refine rz_B.iald rfl rfl hi1 hj2 (by decide) ?_
          refine rz_B.go 3 (pc' := 121) (L' := [some (.ref 91), some (vI a0), some (vI a1), some (vI r5), some (vI r7)]) (S' := [vI r7, .ref 107, vI (A8.1 107 (a0).toNat), vI 0, .ref 133]) rfl ?_
          refine rz_B.iald rfl rfl hi16 hj17 (by decide) ?_
          obtain ⟨hk19, h⟩ := rz_g32_inv h
          refine rz_B.isub rfl ?_
          refine rz_B.i2l rfl hk19 ?_
          refine rz_B.go 1 (pc' := 142) (L' := [some (.ref 91), some (vI a0), some (vI a1), some (vI r5), some (vI r7)]) (S' := [vL ((A8.1 107 (a0).toNat) - (A8.1 107 (r7).toNat)), vI 0, .ref 133]) rfl ?_
          refine rz_B.last rfl rfl (by decide) (by decide) (by decide) ?_
          have hw20 : wf (aL (aL (aL A8 133 17 (A8.1 107 (a0).toNat)) 133 10 (A8.1 106 (a0).toNat)) 133 0 ((A8.1 107 (a0).toNat) - (A8.1 107 (r7).toNat))) := wf_aL hw10 (r64_of hk19)
          refine rz_B.go 5 (pc' := if decide (Int32.ofInt 0 ≤ Int32.ofInt r7) = true then 159 else 153) (L' := [some (.ref 91), some (vI a0), some (vI a1), some (vI r5), some (vI r7)]) (S' := [vI 1, .ref 133]) rfl ?_
          refine rz_B.ifT ((le32 (by decide) hr7).mpr (Int.not_lt.mp hc11)) ?_
          refine rz_B.go 3 (pc' := 164) (L' := [some (.ref 91), some (vI a0), some (vI a1), some (vI r5), some (vI r7)]) (S' := [vI a0, .ref 105, vI 1, .ref 133]) rfl ?_
          refine rz_B.iald rfl rfl hi1 hj2 (by decide) ?_
          refine rz_B.go 3 (pc' := 171) (L' := [some (.ref 91), some (vI a0), some (vI a1), some (vI r5), some (vI r7)]) (S' := [vI r7, .ref 105, vI (A8.1 105 (a0).toNat), vI 1, .ref 133]) rfl ?_
          refine rz_B.iald rfl rfl hi16 hj17 (by decide) ?_
          obtain ⟨hk21, h⟩ := rz_g32_inv h
          refine rz_B.isub rfl ?_
          refine rz_B.i2l rfl hk21 ?_
          refine rz_B.last rfl rfl (by decide) (by decide) (by decide) ?_
          have hw22 : wf (aL (aL (aL (aL A8 133 17 (A8.1 107 (a0).toNat)) 133 10 (A8.1 106 (a0).toNat)) 133 0 ((A8.1 107 (a0).toNat) - (A8.1 107 (r7).toNat))) 133 1 ((A8.1 105 (a0).toNat) - (A8.1 105 (r7).toNat))) := wf_aL hw20 (r64_of hk21)
          refine rz_B.go 2 (pc' := 177) (L' := [some (.ref 91), some (vI a0), some (vI a1), some (vI r5), some (vI r7)]) (S' := [vI r5, .ref 91]) rfl ?_
          obtain ⟨r23, A23, hf23, h⟩ := rz_b_inv h
          obtain ⟨hg23, hr23, hw23⟩ := cx158_says F (d := d + 0) hf23 hr5 hw22
          refine rz_B.call (d := d + 1) (as := [.ref 91, vI r5]) (rest := []) (w := some (vI r23)) rfl hg23 ?_
          obtain ⟨hb24, h⟩ := rz_gz_inv h
          cases h
          exact rz_B.zret rfl rfl hb24 hr23 hw23
        · have h := if_F h hc18
          refine rz_B.ifT ((le32 (hw8 107 (a0).toNat).1 (hw8 107 (r7).toNat).1).mpr (Int.not_lt.mp hc18)) ?_
          refine rz_B.go 3 (pc' := 133) (L' := [some (.ref 91), some (vI a0), some (vI a1), some (vI r5), some (vI r7)]) (S' := [vI r7, .ref 107, vI 0, .ref 133]) rfl ?_
          refine rz_B.iald rfl rfl hi16 hj17 (by decide) ?_
          refine rz_B.go 3 (pc' := 139) (L' := [some (.ref 91), some (vI a0), some (vI a1), some (vI r5), some (vI r7)]) (S' := [vI a0, .ref 107, vI (A8.1 107 (r7).toNat), vI 0, .ref 133]) rfl ?_
          refine rz_B.iald rfl rfl hi1 hj2 (by decide) ?_
          obtain ⟨hk25, h⟩ := rz_g32_inv h
          refine rz_B.isub rfl ?_
          refine rz_B.i2l rfl hk25 ?_
          refine rz_B.last rfl rfl (by decide) (by decide) (by decide) ?_
          have hw26 : wf (aL (aL (aL A8 133 17 (A8.1 107 (a0).toNat)) 133 10 (A8.1 106 (a0).toNat)) 133 0 ((A8.1 107 (r7).toNat) - (A8.1 107 (a0).toNat))) := wf_aL hw10 (r64_of hk25)
          refine rz_B.go 5 (pc' := if decide (Int32.ofInt 0 ≤ Int32.ofInt r7) = true then 159 else 153) (L' := [some (.ref 91), some (vI a0), some (vI a1), some (vI r5), some (vI r7)]) (S' := [vI 1, .ref 133]) rfl ?_
          refine rz_B.ifT ((le32 (by decide) hr7).mpr (Int.not_lt.mp hc11)) ?_
          refine rz_B.go 3 (pc' := 164) (L' := [some (.ref 91), some (vI a0), some (vI a1), some (vI r5), some (vI r7)]) (S' := [vI a0, .ref 105, vI 1, .ref 133]) rfl ?_
          refine rz_B.iald rfl rfl hi1 hj2 (by decide) ?_
          refine rz_B.go 3 (pc' := 171) (L' := [some (.ref 91), some (vI a0), some (vI a1), some (vI r5), some (vI r7)]) (S' := [vI r7, .ref 105, vI (A8.1 105 (a0).toNat), vI 1, .ref 133]) rfl ?_
          refine rz_B.iald rfl rfl hi16 hj17 (by decide) ?_
          obtain ⟨hk27, h⟩ := rz_g32_inv h
          refine rz_B.isub rfl ?_
          refine rz_B.i2l rfl hk27 ?_
          refine rz_B.last rfl rfl (by decide) (by decide) (by decide) ?_
          have hw28 : wf (aL (aL (aL (aL A8 133 17 (A8.1 107 (a0).toNat)) 133 10 (A8.1 106 (a0).toNat)) 133 0 ((A8.1 107 (r7).toNat) - (A8.1 107 (a0).toNat))) 133 1 ((A8.1 105 (a0).toNat) - (A8.1 105 (r7).toNat))) := wf_aL hw26 (r64_of hk27)
          refine rz_B.go 2 (pc' := 177) (L' := [some (.ref 91), some (vI a0), some (vI a1), some (vI r5), some (vI r7)]) (S' := [vI r5, .ref 91]) rfl ?_
          obtain ⟨r29, A29, hf29, h⟩ := rz_b_inv h
          obtain ⟨hg29, hr29, hw29⟩ := cx158_says F (d := d + 0) hf29 hr5 hw28
          refine rz_B.call (d := d + 1) (as := [.ref 91, vI r5]) (rest := []) (w := some (vI r29)) rfl hg29 ?_
          obtain ⟨hb30, h⟩ := rz_gz_inv h
          cases h
          exact rz_B.zret rfl rfl hb30 hr29 hw29
/-- RiverGaugeModel.isStruck(II)I -/
def x152_isStruck (F : Nat) (a0 : Int) (a1 : Int) (A : rz_A) : Option (Int × rz_A) :=
  if 0 ≤ a0 then
    if (A.1 91 3) ≤ a0 then
      rz_b (x142_no F (-1) A) fun r3 A3 =>
      some (r3, A3)
    else
      rz_b (x147_times F a1 a1 A) fun r4 A4 =>
      if r4 = 0 then
        rz_gx a0 300 <|
        if a1 < (A4.1 108 (a0).toNat) then
          some (0, A4)
        else
          rz_b (x153_isTold F a0 a1 A4) fun r9 A9 =>
          if r9 = 0 then
            rz_b (x154_isByStandard F a0 a1 A9) fun r11 A11 =>
            if r11 = 0 then
              some (0, A11)
            else
              some (1, A11)
          else
            some (2, A9)
      else
        rz_b (x142_no F r4 A4) fun r13 A13 =>
        some (r13, A13)
  else
    rz_b (x142_no F (-1) A) fun r14 A14 =>
    some (r14, A14)
theorem cx152_isStruck (F : Nat) {d : Nat} {a0 : Int} {a1 : Int} {A : rz_A} {r : Int} {A' : rz_A} (h : x152_isStruck F a0 a1 A = some (r, A')) (ha0 : r32 a0) (ha1 : r32 a1) (hw : wf A) : rg_Rn (d + 3) 152 [.ref 91, vI a0, vI a1] (toM A) (some (vI r)) (toM A') ∧ (r32 r) ∧ wf A' := by
  show rz_B (d + 3) 152 0 [some (.ref 91), some (vI a0), some (vI a1), none] [] A (some (vI r)) A' (r32 r)
  unfold x152_isStruck at h
  refine rz_B.go 2 (pc' := if decide (Int32.ofInt a0 < Int32.ofInt 0) = true then 12 else 4) (L' := [some (.ref 91), some (vI a0), some (vI a1), none]) (S' := []) rfl ?_
  by_cases hc1 : 0 ≤ a0
  · have h := if_T h hc1
    refine rz_B.ifF (mt (lt32 ha0 (by decide)).mp (Int.not_lt.mpr hc1)) ?_
    refine rz_B.go 4 (pc' := if decide (Int32.ofInt a0 < Int32.ofInt (A.1 91 3)) = true then 16 else 12) (L' := [some (.ref 91), some (vI a0), some (vI a1), none]) (S' := []) rfl ?_
    by_cases hc2 : (A.1 91 3) ≤ a0
    · have h := if_T h hc2
      refine rz_B.ifF (mt (lt32 ha0 (hw 91 3).1).mp (Int.not_lt.mpr hc2)) ?_
      refine rz_B.go 7 (pc' := 28) (L' := [some (.ref 91), some (vI a0), some (vI a1), some (vI (-1))]) (S' := [vI (-1), .ref 91]) rfl ?_
      obtain ⟨r3, A3, hf3, h⟩ := rz_b_inv h
      obtain ⟨hg3, hr3, hw3⟩ := cx142_no F (d := d + 2) hf3 (by decide) hw
      refine rz_B.call (d := d + 2) (as := [.ref 91, vI (-1)]) (rest := []) (w := some (vI r3)) rfl hg3 ?_
      cases h
      exact rz_B.ret rfl hr3 hw3
    · have h := if_F h hc2
      refine rz_B.ifT ((lt32 ha0 (hw 91 3).1).mpr (Int.not_le.mp hc2)) ?_
      refine rz_B.go 2 (pc' := 18) (L' := [some (.ref 91), some (vI a0), some (vI a1), none]) (S' := [vI a1, vI a1]) rfl ?_
      obtain ⟨r4, A4, hf4, h⟩ := rz_b_inv h
      obtain ⟨hg4, hr4, hw4⟩ := cx147_times F (d := d + 2) hf4 ha1 ha1 hw
      refine rz_B.call (d := d + 2) (as := [vI a1, vI a1]) (rest := []) (w := some (vI r4)) rfl hg4 ?_
      refine rz_B.go 3 (pc' := if decide (Int32.ofInt r4 = Int32.ofInt 0) = true then 32 else 26) (L' := [some (.ref 91), some (vI a0), some (vI a1), some (vI r4)]) (S' := []) rfl ?_
      by_cases hc5 : r4 = 0
      · have h := if_T h hc5
        refine rz_B.ifT ((eq32 hr4 (by decide)).mpr hc5) ?_
        refine rz_B.go 3 (pc' := 37) (L' := [some (.ref 91), some (vI a0), some (vI a1), some (vI r4)]) (S' := [vI a0, .ref 108]) rfl ?_
        obtain ⟨hi6, hj7, h⟩ := rz_gx_inv h
        refine rz_B.iald rfl rfl hi6 hj7 (by decide) ?_
        refine rz_B.go 2 (pc' := if decide (Int32.ofInt (A4.1 108 (a0).toNat) ≤ Int32.ofInt a1) = true then 44 else 42) (L' := [some (.ref 91), some (vI a0), some (vI a1), some (vI r4)]) (S' := []) rfl ?_
        by_cases hc8 : a1 < (A4.1 108 (a0).toNat)
        · have h := if_T h hc8
          refine rz_B.ifF (mt (le32 (hw4 108 (a0).toNat).1 ha1).mp (Int.not_le.mpr hc8)) ?_
          refine rz_B.go 1 (pc' := 43) (L' := [some (.ref 91), some (vI a0), some (vI a1), some (vI r4)]) (S' := [vI 0]) rfl ?_
          cases h
          exact rz_B.ret rfl (by decide) hw4
        · have h := if_F h hc8
          refine rz_B.ifT ((le32 (hw4 108 (a0).toNat).1 ha1).mpr (Int.not_lt.mp hc8)) ?_
          refine rz_B.go 3 (pc' := 47) (L' := [some (.ref 91), some (vI a0), some (vI a1), some (vI r4)]) (S' := [vI a1, vI a0, .ref 91]) rfl ?_
          obtain ⟨r9, A9, hf9, h⟩ := rz_b_inv h
          obtain ⟨hg9, hr9, hw9⟩ := cx153_isTold F (d := d + 2) hf9 ha0 ha1 hw4
          refine rz_B.call (d := d + 2) (as := [.ref 91, vI a0, vI a1]) (rest := []) (w := some (vI r9)) rfl hg9 ?_
          refine rz_B.go 1 (pc' := if decide (Int32.ofInt r9 = Int32.ofInt 0) = true then 57 else 53) (L' := [some (.ref 91), some (vI a0), some (vI a1), some (vI r4)]) (S' := []) rfl ?_
          by_cases hc10 : r9 = 0
          · have h := if_T h hc10
            refine rz_B.ifT ((eq32 hr9 (by decide)).mpr hc10) ?_
            refine rz_B.go 3 (pc' := 60) (L' := [some (.ref 91), some (vI a0), some (vI a1), some (vI r4)]) (S' := [vI a1, vI a0, .ref 91]) rfl ?_
            obtain ⟨r11, A11, hf11, h⟩ := rz_b_inv h
            obtain ⟨hg11, hr11, hw11⟩ := cx154_isByStandard F (d := d + 0) hf11 ha0 ha1 hw9
            refine rz_B.call (d := d + 2) (as := [.ref 91, vI a0, vI a1]) (rest := []) (w := some (vI r11)) rfl hg11 ?_
            refine rz_B.go 1 (pc' := if decide (Int32.ofInt r11 = Int32.ofInt 0) = true then 70 else 66) (L' := [some (.ref 91), some (vI a0), some (vI a1), some (vI r4)]) (S' := []) rfl ?_
            by_cases hc12 : r11 = 0
            · have h := if_T h hc12
              refine rz_B.ifT ((eq32 hr11 (by decide)).mpr hc12) ?_
              refine rz_B.go 1 (pc' := 71) (L' := [some (.ref 91), some (vI a0), some (vI a1), some (vI r4)]) (S' := [vI 0]) rfl ?_
              cases h
              exact rz_B.ret rfl (by decide) hw11
            · have h := if_F h hc12
              refine rz_B.ifF (mt (eq32 hr11 (by decide)).mp hc12) ?_
              refine rz_B.go 2 (pc' := 71) (L' := [some (.ref 91), some (vI a0), some (vI a1), some (vI r4)]) (S' := [vI 1]) rfl ?_
              cases h
              exact rz_B.ret rfl (by decide) hw11
          · have h := if_F h hc10
            refine rz_B.ifF (mt (eq32 hr9 (by decide)).mp hc10) ?_
            refine rz_B.go 2 (pc' := 71) (L' := [some (.ref 91), some (vI a0), some (vI a1), some (vI r4)]) (S' := [vI 2]) rfl ?_
            cases h
            exact rz_B.ret rfl (by decide) hw9
      · have h := if_F h hc5
        refine rz_B.ifF (mt (eq32 hr4 (by decide)).mp hc5) ?_
        refine rz_B.go 2 (pc' := 28) (L' := [some (.ref 91), some (vI a0), some (vI a1), some (vI r4)]) (S' := [vI r4, .ref 91]) rfl ?_
        obtain ⟨r13, A13, hf13, h⟩ := rz_b_inv h
        obtain ⟨hg13, hr13, hw13⟩ := cx142_no F (d := d + 2) hf13 hr4 hw4
        refine rz_B.call (d := d + 2) (as := [.ref 91, vI r4]) (rest := []) (w := some (vI r13)) rfl hg13 ?_
        cases h
        exact rz_B.ret rfl hr13 hw13
  · have h := if_F h hc1
    refine rz_B.ifT ((lt32 ha0 (by decide)).mpr (Int.not_le.mp hc1)) ?_
    refine rz_B.go 7 (pc' := 28) (L' := [some (.ref 91), some (vI a0), some (vI a1), some (vI (-1))]) (S' := [vI (-1), .ref 91]) rfl ?_
    obtain ⟨r14, A14, hf14, h⟩ := rz_b_inv h
    obtain ⟨hg14, hr14, hw14⟩ := cx142_no F (d := d + 2) hf14 (by decide) hw
    refine rz_B.call (d := d + 2) (as := [.ref 91, vI (-1)]) (rest := []) (w := some (vI r14)) rfl hg14 ?_
    cases h
    exact rz_B.ret rfl hr14 hw14
def x162_which_83 (F : Nat) (k6 : (Int → Int → Int → Int → Int → rz_A → Option (Int × rz_A))) (v1 : Int) (v2 : Int) (v3 : Int) (v4 : Int) (v5 : Int) (A : rz_A) : Option (Int × rz_A) :=
  rz_b (x153_isTold F v5 v3 A) fun r1 A1 =>
  if r1 = 0 then
    rz_b (x154_isByStandard F v5 v3 A1) fun r3 A3 =>
    if r3 = 0 then
      rz_g32 (v5 + 1) <|
      k6 v1 v2 v3 v5 (v5 + 1) A3
    else
      rz_g32 (v5 + 1) <|
      k6 v1 v2 v3 v4 (v5 + 1) A3
  else
    rz_g32 (v5 + 1) <|
    k6 v1 v2 v3 v4 (v5 + 1) A1
theorem cx162_which_83 {d : Nat} (F : Nat) {k6 : (Int → Int → Int → Int → Int → rz_A → Option (Int × rz_A))} (hkk6 : ∀ (v1 : Int) (v2 : Int) (v3 : Int) (v4 : Int) (v5 : Int) (A : rz_A) (r : Int) (A' : rz_A), k6 v1 v2 v3 v4 v5 A = some (r, A') → r32 v1 → r32 v2 → r32 v3 → r32 v4 → r32 v5 → wf A → rz_B (d + 3) 162 6 [some (.ref 91), some (vI v1), some (vI v2), some (vI v3), some (vI v4), some (vI v5)] [] A (some (vI r)) A' (r32 r)) : ∀ (v1 : Int) (v2 : Int) (v3 : Int) (v4 : Int) (v5 : Int) (A : rz_A) (r : Int) (A' : rz_A), x162_which_83 F k6 v1 v2 v3 v4 v5 A = some (r, A') → r32 v1 → r32 v2 → r32 v3 → r32 v4 → r32 v5 → wf A → rz_B (d + 3) 162 83 [some (.ref 91), some (vI v1), some (vI v2), some (vI v3), some (vI v4), some (vI v5)] [] A (some (vI r)) A' (r32 r) := by
  intro v1 v2 v3 v4 v5 A r A' h hv1 hv2 hv3 hv4 hv5 hw
  unfold x162_which_83 at h
  refine rz_B.go 3 (pc' := 87) (L' := [some (.ref 91), some (vI v1), some (vI v2), some (vI v3), some (vI v4), some (vI v5)]) (S' := [vI v3, vI v5, .ref 91]) rfl ?_
  obtain ⟨r1, A1, hf1, h⟩ := rz_b_inv h
  obtain ⟨hg1, hr1, hw1⟩ := cx153_isTold F (d := d + 2) hf1 hv5 hv3 hw
  refine rz_B.call (d := d + 2) (as := [.ref 91, vI v5, vI v3]) (rest := []) (w := some (vI r1)) rfl hg1 ?_
  refine rz_B.go 1 (pc' := if decide (¬ Int32.ofInt r1 = Int32.ofInt 0) = true then 107 else 93) (L' := [some (.ref 91), some (vI v1), some (vI v2), some (vI v3), some (vI v4), some (vI v5)]) (S' := []) rfl ?_
  by_cases hc2 : r1 = 0
  · have h := if_T h hc2
    refine rz_B.ifF (fun hn => hn ((eq32 hr1 (by decide)).mpr hc2)) ?_
    refine rz_B.go 3 (pc' := 97) (L' := [some (.ref 91), some (vI v1), some (vI v2), some (vI v3), some (vI v4), some (vI v5)]) (S' := [vI v3, vI v5, .ref 91]) rfl ?_
    obtain ⟨r3, A3, hf3, h⟩ := rz_b_inv h
    obtain ⟨hg3, hr3, hw3⟩ := cx154_isByStandard F (d := d + 0) hf3 hv5 hv3 hw1
    refine rz_B.call (d := d + 2) (as := [.ref 91, vI v5, vI v3]) (rest := []) (w := some (vI r3)) rfl hg3 ?_
    refine rz_B.go 1 (pc' := if decide (¬ Int32.ofInt r3 = Int32.ofInt 0) = true then 107 else 103) (L' := [some (.ref 91), some (vI v1), some (vI v2), some (vI v3), some (vI v4), some (vI v5)]) (S' := []) rfl ?_
    by_cases hc4 : r3 = 0
    · have h := if_T h hc4
      refine rz_B.ifF (fun hn => hn ((eq32 hr3 (by decide)).mpr hc4)) ?_
      refine rz_B.go 2 (pc' := 107) (L' := [some (.ref 91), some (vI v1), some (vI v2), some (vI v3), some (vI v5), some (vI v5)]) (S' := []) rfl ?_
      obtain ⟨hk5, h⟩ := rz_g32_inv h
      refine rz_B.iinc rfl (by decide) rfl (L' := [some (.ref 91), some (vI v1), some (vI v2), some (vI v3), some (vI v5), some (vI (v5 + 1))]) rfl ?_
      refine rz_B.go 1 (pc' := 6) (L' := [some (.ref 91), some (vI v1), some (vI v2), some (vI v3), some (vI v5), some (vI (v5 + 1))]) (S' := []) rfl ?_
      refine rz_B.more (rg_le_ok (L := [some (.ref 91), some (vI v1), some (vI v2), some (vI v3), some (vI v5), some (vI (v5 + 1))]) (by simp [rg_le])) ?_
      exact hkk6 _ _ _ _ _ _ _ _ h hv1 hv2 hv3 hv5 hk5 hw3
    · have h := if_F h hc4
      refine rz_B.ifT (mt (eq32 hr3 (by decide)).mp hc4) ?_
      obtain ⟨hk6, h⟩ := rz_g32_inv h
      refine rz_B.iinc rfl (by decide) rfl (L' := [some (.ref 91), some (vI v1), some (vI v2), some (vI v3), some (vI v4), some (vI (v5 + 1))]) rfl ?_
      refine rz_B.go 1 (pc' := 6) (L' := [some (.ref 91), some (vI v1), some (vI v2), some (vI v3), some (vI v4), some (vI (v5 + 1))]) (S' := []) rfl ?_
      refine rz_B.more (rg_le_ok (L := [some (.ref 91), some (vI v1), some (vI v2), some (vI v3), some (vI v4), some (vI (v5 + 1))]) (by simp [rg_le])) ?_
      exact hkk6 _ _ _ _ _ _ _ _ h hv1 hv2 hv3 hv4 hk6 hw3
  · have h := if_F h hc2
    refine rz_B.ifT (mt (eq32 hr1 (by decide)).mp hc2) ?_
    obtain ⟨hk7, h⟩ := rz_g32_inv h
    refine rz_B.iinc rfl (by decide) rfl (L' := [some (.ref 91), some (vI v1), some (vI v2), some (vI v3), some (vI v4), some (vI (v5 + 1))]) rfl ?_
    refine rz_B.go 1 (pc' := 6) (L' := [some (.ref 91), some (vI v1), some (vI v2), some (vI v3), some (vI v4), some (vI (v5 + 1))]) (S' := []) rfl ?_
    refine rz_B.more (rg_le_ok (L := [some (.ref 91), some (vI v1), some (vI v2), some (vI v3), some (vI v4), some (vI (v5 + 1))]) (by simp [rg_le])) ?_
    exact hkk6 _ _ _ _ _ _ _ _ h hv1 hv2 hv3 hv4 hk7 hw1
def x162_which_6 (F : Nat) : Nat → Int → Int → Int → Int → Int → rz_A → Option (Int × rz_A)
  | 0, _, _, _, _, _, _ => none
  | n + 1, v1, v2, v3, v4, v5, A =>
    if v5 < (A.1 91 3) then
      rz_gx v5 300 <|
      if (A.1 104 (v5).toNat) = v1 then
        if (A.1 105 (v5).toNat) = v2 then
          if (A.1 108 (v5).toNat) ≤ v3 then
            if 0 ≤ (A.1 107 (v5).toNat) then
              if 0 ≤ v4 then
                rz_gx v4 300 <|
                if (A.1 106 (v5).toNat) < (A.1 106 (v4).toNat) then
                  rz_g32 (v5 + 1) <|
                  x162_which_6 F n v1 v2 v3 v4 (v5 + 1) A
                else
                  x162_which_83 F (x162_which_6 F n) v1 v2 v3 v4 v5 A
              else
                x162_which_83 F (x162_which_6 F n) v1 v2 v3 v4 v5 A
            else
              rz_g32 (v5 + 1) <|
              x162_which_6 F n v1 v2 v3 v4 (v5 + 1) A
          else
            rz_g32 (v5 + 1) <|
            x162_which_6 F n v1 v2 v3 v4 (v5 + 1) A
        else
          rz_g32 (v5 + 1) <|
          x162_which_6 F n v1 v2 v3 v4 (v5 + 1) A
      else
        rz_g32 (v5 + 1) <|
        x162_which_6 F n v1 v2 v3 v4 (v5 + 1) A
    else
      some (v4, A)
theorem cx162_which_6 {d : Nat} (F : Nat) : ∀ (n : Nat) (v1 : Int) (v2 : Int) (v3 : Int) (v4 : Int) (v5 : Int) (A : rz_A) (r : Int) (A' : rz_A), x162_which_6 F n v1 v2 v3 v4 v5 A = some (r, A') → r32 v1 → r32 v2 → r32 v3 → r32 v4 → r32 v5 → wf A → rz_B (d + 3) 162 6 [some (.ref 91), some (vI v1), some (vI v2), some (vI v3), some (vI v4), some (vI v5)] [] A (some (vI r)) A' (r32 r) := by
  intro n
  induction n with
  | zero => intro v1 v2 v3 v4 v5 A r A' h; cases h
  | succ n ih =>
    intro v1 v2 v3 v4 v5 A r A' h hv1 hv2 hv3 hv4 hv5 hw
    rw [x162_which_6] at h
    refine rz_B.go 4 (pc' := if decide (Int32.ofInt (A.1 91 3) ≤ Int32.ofInt v5) = true then 113 else 15) (L' := [some (.ref 91), some (vI v1), some (vI v2), some (vI v3), some (vI v4), some (vI v5)]) (S' := []) rfl ?_
    by_cases hc1 : v5 < (A.1 91 3)
    · have h := if_T h hc1
      refine rz_B.ifF (mt (le32 (hw 91 3).1 hv5).mp (Int.not_le.mpr hc1)) ?_
      refine rz_B.go 3 (pc' := 21) (L' := [some (.ref 91), some (vI v1), some (vI v2), some (vI v3), some (vI v4), some (vI v5)]) (S' := [vI v5, .ref 104]) rfl ?_
      obtain ⟨hi2, hj3, h⟩ := rz_gx_inv h
      refine rz_B.iald rfl rfl hi2 hj3 (by decide) ?_
      refine rz_B.go 2 (pc' := if decide (¬ Int32.ofInt (A.1 104 (v5).toNat) = Int32.ofInt v1) = true then 107 else 26) (L' := [some (.ref 91), some (vI v1), some (vI v2), some (vI v3), some (vI v4), some (vI v5)]) (S' := []) rfl ?_
      by_cases hc4 : (A.1 104 (v5).toNat) = v1
      · have h := if_T h hc4
        refine rz_B.ifF (fun hn => hn ((eq32 (hw 104 (v5).toNat).1 hv1).mpr hc4)) ?_
        refine rz_B.go 3 (pc' := 32) (L' := [some (.ref 91), some (vI v1), some (vI v2), some (vI v3), some (vI v4), some (vI v5)]) (S' := [vI v5, .ref 105]) rfl ?_
        refine rz_B.iald rfl rfl hi2 hj3 (by decide) ?_
        refine rz_B.go 2 (pc' := if decide (¬ Int32.ofInt (A.1 105 (v5).toNat) = Int32.ofInt v2) = true then 107 else 37) (L' := [some (.ref 91), some (vI v1), some (vI v2), some (vI v3), some (vI v4), some (vI v5)]) (S' := []) rfl ?_
        by_cases hc5 : (A.1 105 (v5).toNat) = v2
        · have h := if_T h hc5
          refine rz_B.ifF (fun hn => hn ((eq32 (hw 105 (v5).toNat).1 hv2).mpr hc5)) ?_
          refine rz_B.go 3 (pc' := 43) (L' := [some (.ref 91), some (vI v1), some (vI v2), some (vI v3), some (vI v4), some (vI v5)]) (S' := [vI v5, .ref 108]) rfl ?_
          refine rz_B.iald rfl rfl hi2 hj3 (by decide) ?_
          refine rz_B.go 2 (pc' := if decide (Int32.ofInt v3 < Int32.ofInt (A.1 108 (v5).toNat)) = true then 107 else 48) (L' := [some (.ref 91), some (vI v1), some (vI v2), some (vI v3), some (vI v4), some (vI v5)]) (S' := []) rfl ?_
          by_cases hc6 : (A.1 108 (v5).toNat) ≤ v3
          · have h := if_T h hc6
            refine rz_B.ifF (mt (lt32 hv3 (hw 108 (v5).toNat).1).mp (Int.not_lt.mpr hc6)) ?_
            refine rz_B.go 3 (pc' := 54) (L' := [some (.ref 91), some (vI v1), some (vI v2), some (vI v3), some (vI v4), some (vI v5)]) (S' := [vI v5, .ref 107]) rfl ?_
            refine rz_B.iald rfl rfl hi2 hj3 (by decide) ?_
            refine rz_B.go 1 (pc' := if decide (Int32.ofInt (A.1 107 (v5).toNat) < Int32.ofInt 0) = true then 107 else 58) (L' := [some (.ref 91), some (vI v1), some (vI v2), some (vI v3), some (vI v4), some (vI v5)]) (S' := []) rfl ?_
            by_cases hc7 : 0 ≤ (A.1 107 (v5).toNat)
            · have h := if_T h hc7
              refine rz_B.ifF (mt (lt32 (hw 107 (v5).toNat).1 (by decide)).mp (Int.not_lt.mpr hc7)) ?_
              refine rz_B.go 2 (pc' := if decide (Int32.ofInt v4 < Int32.ofInt 0) = true then 83 else 63) (L' := [some (.ref 91), some (vI v1), some (vI v2), some (vI v3), some (vI v4), some (vI v5)]) (S' := []) rfl ?_
              by_cases hc8 : 0 ≤ v4
              · have h := if_T h hc8
                refine rz_B.ifF (mt (lt32 hv4 (by decide)).mp (Int.not_lt.mpr hc8)) ?_
                refine rz_B.go 3 (pc' := 69) (L' := [some (.ref 91), some (vI v1), some (vI v2), some (vI v3), some (vI v4), some (vI v5)]) (S' := [vI v4, .ref 106]) rfl ?_
                obtain ⟨hi9, hj10, h⟩ := rz_gx_inv h
                refine rz_B.iald rfl rfl hi9 hj10 (by decide) ?_
                refine rz_B.go 3 (pc' := 76) (L' := [some (.ref 91), some (vI v1), some (vI v2), some (vI v3), some (vI v4), some (vI v5)]) (S' := [vI v5, .ref 106, vI (A.1 106 (v4).toNat)]) rfl ?_
                refine rz_B.iald rfl rfl hi2 hj3 (by decide) ?_
                refine rz_B.go 1 (pc' := if decide (Int32.ofInt (A.1 106 (v4).toNat) ≤ Int32.ofInt (A.1 106 (v5).toNat)) = true then 83 else 80) (L' := [some (.ref 91), some (vI v1), some (vI v2), some (vI v3), some (vI v4), some (vI v5)]) (S' := []) rfl ?_
                by_cases hc11 : (A.1 106 (v5).toNat) < (A.1 106 (v4).toNat)
                · have h := if_T h hc11
                  refine rz_B.ifF (mt (le32 (hw 106 (v4).toNat).1 (hw 106 (v5).toNat).1).mp (Int.not_le.mpr hc11)) ?_
                  refine rz_B.go 1 (pc' := 107) (L' := [some (.ref 91), some (vI v1), some (vI v2), some (vI v3), some (vI v4), some (vI v5)]) (S' := []) rfl ?_
                  obtain ⟨hk12, h⟩ := rz_g32_inv h
                  refine rz_B.iinc rfl (by decide) rfl (L' := [some (.ref 91), some (vI v1), some (vI v2), some (vI v3), some (vI v4), some (vI (v5 + 1))]) rfl ?_
                  refine rz_B.go 1 (pc' := 6) (L' := [some (.ref 91), some (vI v1), some (vI v2), some (vI v3), some (vI v4), some (vI (v5 + 1))]) (S' := []) rfl ?_
                  refine rz_B.more (rg_le_ok (L := [some (.ref 91), some (vI v1), some (vI v2), some (vI v3), some (vI v4), some (vI (v5 + 1))]) (by simp [rg_le])) ?_
                  exact ih _ _ _ _ _ _ _ _ h hv1 hv2 hv3 hv4 hk12 hw
                · have h := if_F h hc11
                  refine rz_B.ifT ((le32 (hw 106 (v4).toNat).1 (hw 106 (v5).toNat).1).mpr (Int.not_lt.mp hc11)) ?_
                  refine rz_B.more (rg_le_ok (L := [some (.ref 91), some (vI v1), some (vI v2), some (vI v3), some (vI v4), some (vI v5)]) (by simp [rg_le])) ?_
                  exact cx162_which_83 F ih _ _ _ _ _ _ _ _ h hv1 hv2 hv3 hv4 hv5 hw
              · have h := if_F h hc8
                refine rz_B.ifT ((lt32 hv4 (by decide)).mpr (Int.not_le.mp hc8)) ?_
                refine rz_B.more (rg_le_ok (L := [some (.ref 91), some (vI v1), some (vI v2), some (vI v3), some (vI v4), some (vI v5)]) (by simp [rg_le])) ?_
                exact cx162_which_83 F ih _ _ _ _ _ _ _ _ h hv1 hv2 hv3 hv4 hv5 hw
            · have h := if_F h hc7
              refine rz_B.ifT ((lt32 (hw 107 (v5).toNat).1 (by decide)).mpr (Int.not_le.mp hc7)) ?_
              obtain ⟨hk13, h⟩ := rz_g32_inv h
              refine rz_B.iinc rfl (by decide) rfl (L' := [some (.ref 91), some (vI v1), some (vI v2), some (vI v3), some (vI v4), some (vI (v5 + 1))]) rfl ?_
              refine rz_B.go 1 (pc' := 6) (L' := [some (.ref 91), some (vI v1), some (vI v2), some (vI v3), some (vI v4), some (vI (v5 + 1))]) (S' := []) rfl ?_
              refine rz_B.more (rg_le_ok (L := [some (.ref 91), some (vI v1), some (vI v2), some (vI v3), some (vI v4), some (vI (v5 + 1))]) (by simp [rg_le])) ?_
              exact ih _ _ _ _ _ _ _ _ h hv1 hv2 hv3 hv4 hk13 hw
          · have h := if_F h hc6
            refine rz_B.ifT ((lt32 hv3 (hw 108 (v5).toNat).1).mpr (Int.not_le.mp hc6)) ?_
            obtain ⟨hk14, h⟩ := rz_g32_inv h
            refine rz_B.iinc rfl (by decide) rfl (L' := [some (.ref 91), some (vI v1), some (vI v2), some (vI v3), some (vI v4), some (vI (v5 + 1))]) rfl ?_
            refine rz_B.go 1 (pc' := 6) (L' := [some (.ref 91), some (vI v1), some (vI v2), some (vI v3), some (vI v4), some (vI (v5 + 1))]) (S' := []) rfl ?_
            refine rz_B.more (rg_le_ok (L := [some (.ref 91), some (vI v1), some (vI v2), some (vI v3), some (vI v4), some (vI (v5 + 1))]) (by simp [rg_le])) ?_
            exact ih _ _ _ _ _ _ _ _ h hv1 hv2 hv3 hv4 hk14 hw
        · have h := if_F h hc5
          refine rz_B.ifT (mt (eq32 (hw 105 (v5).toNat).1 hv2).mp hc5) ?_
          obtain ⟨hk15, h⟩ := rz_g32_inv h
          refine rz_B.iinc rfl (by decide) rfl (L' := [some (.ref 91), some (vI v1), some (vI v2), some (vI v3), some (vI v4), some (vI (v5 + 1))]) rfl ?_
          refine rz_B.go 1 (pc' := 6) (L' := [some (.ref 91), some (vI v1), some (vI v2), some (vI v3), some (vI v4), some (vI (v5 + 1))]) (S' := []) rfl ?_
          refine rz_B.more (rg_le_ok (L := [some (.ref 91), some (vI v1), some (vI v2), some (vI v3), some (vI v4), some (vI (v5 + 1))]) (by simp [rg_le])) ?_
          exact ih _ _ _ _ _ _ _ _ h hv1 hv2 hv3 hv4 hk15 hw
      · have h := if_F h hc4
        refine rz_B.ifT (mt (eq32 (hw 104 (v5).toNat).1 hv1).mp hc4) ?_
        obtain ⟨hk16, h⟩ := rz_g32_inv h
        refine rz_B.iinc rfl (by decide) rfl (L' := [some (.ref 91), some (vI v1), some (vI v2), some (vI v3), some (vI v4), some (vI (v5 + 1))]) rfl ?_
        refine rz_B.go 1 (pc' := 6) (L' := [some (.ref 91), some (vI v1), some (vI v2), some (vI v3), some (vI v4), some (vI (v5 + 1))]) (S' := []) rfl ?_
        refine rz_B.more (rg_le_ok (L := [some (.ref 91), some (vI v1), some (vI v2), some (vI v3), some (vI v4), some (vI (v5 + 1))]) (by simp [rg_le])) ?_
        exact ih _ _ _ _ _ _ _ _ h hv1 hv2 hv3 hv4 hk16 hw
    · have h := if_F h hc1
      refine rz_B.ifT ((le32 (hw 91 3).1 hv5).mpr (Int.not_lt.mp hc1)) ?_
      refine rz_B.go 1 (pc' := 115) (L' := [some (.ref 91), some (vI v1), some (vI v2), some (vI v3), some (vI v4), some (vI v5)]) (S' := [vI v4]) rfl ?_
      cases h
      exact rz_B.ret rfl hv4 hw
/-- RiverGaugeModel.which(III)I -/
def x162_which (F : Nat) (a0 : Int) (a1 : Int) (a2 : Int) (A : rz_A) : Option (Int × rz_A) :=
  x162_which_6 F F a0 a1 a2 (-1) 0 A
theorem cx162_which (F : Nat) {d : Nat} {a0 : Int} {a1 : Int} {a2 : Int} {A : rz_A} {r : Int} {A' : rz_A} (h : x162_which F a0 a1 a2 A = some (r, A')) (ha0 : r32 a0) (ha1 : r32 a1) (ha2 : r32 a2) (hw : wf A) : rg_Rn (d + 3) 162 [.ref 91, vI a0, vI a1, vI a2] (toM A) (some (vI r)) (toM A') ∧ (r32 r) ∧ wf A' := by
  show rz_B (d + 3) 162 0 [some (.ref 91), some (vI a0), some (vI a1), some (vI a2), none, none] [] A (some (vI r)) A' (r32 r)
  unfold x162_which at h
  refine rz_B.go 4 (pc' := 6) (L' := [some (.ref 91), some (vI a0), some (vI a1), some (vI a2), some (vI (-1)), some (vI 0)]) (S' := []) rfl ?_
  refine rz_B.more (rg_le_ok (L := [some (.ref 91), some (vI a0), some (vI a1), some (vI a2), some (vI (-1)), some (vI 0)]) (by simp [rg_le])) ?_
  exact cx162_which_6 F F _ _ _ _ _ _ _ _ h ha0 ha1 ha2 (by decide) (by decide) hw
