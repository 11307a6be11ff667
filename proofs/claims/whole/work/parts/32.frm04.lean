set_option maxRecDepth 16384
def cs_x185_along_p : List Nat := []
def fs_x185_along_p : List (Nat × Nat) := [(91, 76)]
theorem wx185_along_p_139 (F : Nat) : ∀ (v6 : Int) (v7 : Int) (A : rz_A) (r : Int) (A' : rz_A), x185_along_p_139 F v6 v7 A = some (r, A') → Fr cs_x185_along_p fs_x185_along_p A A' := by
  intro v6 v7 A r A' h
  have fr : Fr cs_x185_along_p fs_x185_along_p A A := Fr.rfl
  unfold x185_along_p_139 at h
  replace h := (rz_gx_inv h).2.2
  replace h := (rz_g32_inv h).2
  replace h := (rz_gx_inv h).2.2
  replace h := (rz_g32_inv h).2
  replace h := (rz_g32_inv h).2
  replace h := (rz_g64_inv h).2
  replace h := (rz_g32_inv h).2
  replace h := (rz_gn_inv h).2
  replace h := (rz_g64_inv h).2
  replace h := (rz_g64_inv h).2
  by_cases hc13 : 99999999 < ((A.1 138 (v7).toNat) + ((((A.1 138 ((v7 + 1)).toNat) - (A.1 138 (v7).toNat)) * (v6 - (A.1 137 (v7).toNat))).tdiv ((A.1 137 ((v7 + 1)).toNat) - (A.1 137 (v7).toNat))))
  · replace h := if_T h hc13
    cases h
    exact fr
  · replace h := if_F h hc13
    replace h := (rz_g32_inv h).2
    cases h
    exact fr
theorem wx185_along_p_105 (F : Nat) : ∀ (v3 : Int) (v4 : Int) (v6 : Int) (v7 : Int) (A : rz_A) (r : Int) (A' : rz_A), x185_along_p_105 F v3 v4 v6 v7 A = some (r, A') → Fr cs_x185_along_p fs_x185_along_p A A' := by
  intro v3 v4 v6 v7 A r A' h
  have fr : Fr cs_x185_along_p fs_x185_along_p A A := Fr.rfl
  unfold x185_along_p_105 at h
  replace h := (rz_gx_inv h).2.2
  by_cases hc3 : (A.1 137 (v7).toNat) = v6
  · replace h := if_T h hc3
    cases h
    exact fr
  · replace h := if_F h hc3
    by_cases hc4 : v4 = 1
    · replace h := if_T h hc4
      cases h
      exact fr
    · replace h := if_F h hc4
      replace h := (rz_g32_inv h).2
      replace h := (rz_g32_inv h).2
      by_cases hc7 : v7 = ((v3 + v4) - 1)
      · replace h := if_T h hc7
        replace h := (rz_g32_inv h).2
        exact fr.trans (wx185_along_p_139 F _ _ _ _ _ h)
      · replace h := if_F h hc7
        exact fr.trans (wx185_along_p_139 F _ _ _ _ _ h)
theorem wx185_along_p_77 (F : Nat) : ∀ (n : Nat) (v3 : Int) (v4 : Int) (v6 : Int) (v7 : Int) (A : rz_A) (r : Int) (A' : rz_A), x185_along_p_77 F n v3 v4 v6 v7 A = some (r, A') → Fr cs_x185_along_p fs_x185_along_p A A' := by
  intro n
  induction n with
  | zero => intro v3 v4 v6 v7 A r A' h; cases h
  | succ n ih =>
    intro v3 v4 v6 v7 A r A' h
    have fr : Fr cs_x185_along_p fs_x185_along_p A A := Fr.rfl
    rw [x185_along_p_77] at h
    replace h := (rz_g32_inv h).2
    replace h := (rz_g32_inv h).2
    by_cases hc3 : (v7 + 1) < (v3 + v4)
    · replace h := if_T h hc3
      replace h := (rz_gx_inv h).2.2
      by_cases hc6 : (A.1 137 ((v7 + 1)).toNat) ≤ v6
      · replace h := if_T h hc6
        exact fr.trans (ih _ _ _ _ _ _ _ h)
      · replace h := if_F h hc6
        exact fr.trans (wx185_along_p_105 F _ _ _ _ _ _ _ h)
    · replace h := if_F h hc3
      exact fr.trans (wx185_along_p_105 F _ _ _ _ _ _ _ h)
theorem wx185_along_p (F : Nat) {a0 : Int} {a1 : Int} {a2 : Int} {a3 : Int} {A : rz_A} {r : Int} {A' : rz_A} (h : x185_along_p F a0 a1 a2 a3 A = some (r, A')) : Fr cs_x185_along_p fs_x185_along_p A A' := by
  have fr : Fr cs_x185_along_p fs_x185_along_p A A := Fr.rfl
  unfold x185_along_p at h
  replace h := (rz_g32_inv h).2
  replace h := (rz_g32_inv h).2
  replace h := (rz_gx_inv h).2.2
  by_cases hc5 : (A.1 137 (((a0 + a1) - 1)).toNat) < a3
  · replace h := if_T h hc5
    replace h := (rz_gx_inv h).2.2
    by_cases hc9 : a3 < (A.1 137 (a0).toNat)
    · replace h := if_T h hc9
      by_cases hc10 : (A.1 137 (a0).toNat) ≤ a2
      · replace h := if_T h hc10
        cases h
        exact (Fr.aI fr (Or.inr (by decide)))
      · replace h := if_F h hc10
        by_cases hc11 : a3 ≤ a2
        · replace h := if_T h hc11
          cases h
          exact (Fr.aI fr (Or.inr (by decide)))
        · replace h := if_F h hc11
          replace h := (rz_g32_inv h).2
          replace h := (rz_g64_inv h).2
          replace h := (rz_g32_inv h).2
          replace h := (rz_gn_inv h).2
          replace h := (rz_g64_inv h).2
          replace h := (rz_g32_inv h).2
          cases h
          exact (Fr.aI fr (Or.inr (by decide)))
    · replace h := if_F h hc9
      exact (Fr.aI fr (Or.inr (by decide))).trans (wx185_along_p_77 F F _ _ _ _ _ _ _ h)
  · replace h := if_F h hc5
    replace h := (rz_gx_inv h).2.2
    by_cases hc21 : a3 < (A.1 137 (a0).toNat)
    · replace h := if_T h hc21
      by_cases hc22 : (A.1 137 (a0).toNat) ≤ a2
      · replace h := if_T h hc22
        cases h
        exact (Fr.aI fr (Or.inr (by decide)))
      · replace h := if_F h hc22
        by_cases hc23 : a3 ≤ a2
        · replace h := if_T h hc23
          cases h
          exact (Fr.aI fr (Or.inr (by decide)))
        · replace h := if_F h hc23
          replace h := (rz_g32_inv h).2
          replace h := (rz_g64_inv h).2
          replace h := (rz_g32_inv h).2
          replace h := (rz_gn_inv h).2
          replace h := (rz_g64_inv h).2
          replace h := (rz_g32_inv h).2
          cases h
          exact (Fr.aI fr (Or.inr (by decide)))
    · replace h := if_F h hc21
      exact (Fr.aI fr (Or.inr (by decide))).trans (wx185_along_p_77 F F _ _ _ _ _ _ _ h)
def cs_x184_flowAt : List Nat := [132, 133, 136, 137, 138, 139, 140, 141, 142, 143]
def fs_x184_flowAt : List (Nat × Nat) := [(91, 54), (91, 62), (91, 63), (91, 64), (91, 65), (91, 66), (91, 67), (91, 68), (91, 76)]
theorem wx184_flowAt (F : Nat) {a0 : Int} {a1 : Int} {a2 : Int} {A : rz_A} {r : Int} {A' : rz_A} (h : x184_flowAt F a0 a1 a2 A = some (r, A')) : Fr cs_x184_flowAt fs_x184_flowAt A A' := by
  have fr : Fr cs_x184_flowAt fs_x184_flowAt A A := Fr.rfl
  unfold x184_flowAt at h
  obtain ⟨r1, A1, hf1, h⟩ := rz_b_inv h
  have fr1 := fr.trans ((wx145_isPost F hf1).mono (by decide) (by decide))
  by_cases hc2 : r1 = 0
  · replace h := if_T h hc2
    obtain ⟨r3, A3, hf3, h⟩ := rz_b_inv h
    have fr3 := fr1.trans ((wx142_no F hf3).mono (by decide) (by decide))
    cases h
    exact fr3
  · replace h := if_F h hc2
    by_cases hc4 : 0 ≤ a1
    · replace h := if_T h hc4
      by_cases hc5 : a2 < (-9999)
      · replace h := if_T h hc5
        obtain ⟨r6, A6, hf6, h⟩ := rz_b_inv h
        have fr6 := fr1.trans ((wx142_no F hf6).mono (by decide) (by decide))
        cases h
        exact fr6
      · replace h := if_F h hc5
        by_cases hc7 : a1 ≤ 9999
        · replace h := if_T h hc7
          by_cases hc8 : 99999 < a2
          · replace h := if_T h hc8
            obtain ⟨r9, A9, hf9, h⟩ := rz_b_inv h
            have fr9 := fr1.trans ((wx142_no F hf9).mono (by decide) (by decide))
            cases h
            exact fr9
          · replace h := if_F h hc8
            obtain ⟨_, A10, hf10, h⟩ := rz_b_inv h
            have fr10 := fr1.trans ((wx181_makes F hf10).mono (by decide) (by decide))
            by_cases hc11 : (A10.1 91 67) = 0
            · replace h := if_T h hc11
              obtain ⟨r12, A12, hf12, h⟩ := rz_b_inv h
              have fr12 := fr10.trans ((wx142_no F hf12).mono (by decide) (by decide))
              cases h
              exact fr12
            · replace h := if_F h hc11
              replace h := (rz_gx_inv h).2.2
              obtain ⟨r15, A15, hf15, h⟩ := rz_b_inv h
              have fr15 := fr10.trans ((wx185_along_p F hf15).mono (by decide) (by decide))
              cases h
              exact fr15
        · replace h := if_F h hc7
          obtain ⟨r16, A16, hf16, h⟩ := rz_b_inv h
          have fr16 := fr1.trans ((wx142_no F hf16).mono (by decide) (by decide))
          cases h
          exact fr16
    · replace h := if_F h hc4
      obtain ⟨r17, A17, hf17, h⟩ := rz_b_inv h
      have fr17 := fr1.trans ((wx142_no F hf17).mono (by decide) (by decide))
      cases h
      exact fr17
def cs_x186_under : List Nat := [116, 117, 118, 119, 120, 121, 132]
def fs_x186_under : List (Nat × Nat) := [(91, 6), (91, 11)]
theorem wx186_under (F : Nat) {a0 : Int} {a1 : Int} {a2 : Int} {a3 : Int} {a4 : Int} {A : rz_A} {r : Int} {A' : rz_A} (h : x186_under F a0 a1 a2 a3 a4 A = some (r, A')) : Fr cs_x186_under fs_x186_under A A' := by
  have fr : Fr cs_x186_under fs_x186_under A A := Fr.rfl
  unfold x186_under at h
  obtain ⟨r1, A1, hf1, h⟩ := rz_b_inv h
  have fr1 := fr.trans ((wx145_isPost F hf1).mono (by decide) (by decide))
  by_cases hc2 : r1 = 0
  · replace h := if_T h hc2
    obtain ⟨r3, A3, hf3, h⟩ := rz_b_inv h
    have fr3 := fr1.trans ((wx142_no F hf3).mono (by decide) (by decide))
    cases h
    exact fr3
  · replace h := if_F h hc2
    by_cases hc4 : 0 ≤ a1
    · replace h := if_T h hc4
      by_cases hc5 : 1 < a1
      · replace h := if_T h hc5
        obtain ⟨r6, A6, hf6, h⟩ := rz_b_inv h
        have fr6 := fr1.trans ((wx142_no F hf6).mono (by decide) (by decide))
        cases h
        exact fr6
      · replace h := if_F h hc5
        by_cases hc7 : 0 ≤ a2
        · replace h := if_T h hc7
          by_cases hc8 : a2 ≤ a3
          · replace h := if_T h hc8
            by_cases hc9 : a4 < 0
            · replace h := if_T h hc9
              obtain ⟨r10, A10, hf10, h⟩ := rz_b_inv h
              have fr10 := fr1.trans ((wx142_no F hf10).mono (by decide) (by decide))
              cases h
              exact fr10
            · replace h := if_F h hc9
              by_cases hc11 : a2 ≤ 9999
              · replace h := if_T h hc11
                by_cases hc12 : a3 ≤ 9999
                · replace h := if_T h hc12
                  by_cases hc13 : a4 ≤ 99
                  · replace h := if_T h hc13
                    by_cases hc14 : (A1.1 91 6) = 40
                    · replace h := if_T h hc14
                      obtain ⟨r15, A15, hf15, h⟩ := rz_b_inv h
                      have fr15 := fr1.trans ((wx142_no F hf15).mono (by decide) (by decide))
                      cases h
                      exact fr15
                    · replace h := if_F h hc14
                      replace h := (rz_gx_inv h).2.2
                      replace h := (rz_g32_inv h).2
                      replace h := (rz_g32_inv h).2
                      cases h
                      exact (Fr.aI (Fr.aI (Fr.aI (Fr.aI (Fr.aI (Fr.aI (Fr.aI (Fr.aI fr1 (Or.inl (by decide))) (Or.inl (by decide))) (Or.inl (by decide))) (Or.inl (by decide))) (Or.inl (by decide))) (Or.inl (by decide))) (Or.inr (by decide))) (Or.inr (by decide)))
                  · replace h := if_F h hc13
                    obtain ⟨r28, A28, hf28, h⟩ := rz_b_inv h
                    have fr28 := fr1.trans ((wx142_no F hf28).mono (by decide) (by decide))
                    cases h
                    exact fr28
                · replace h := if_F h hc12
                  obtain ⟨r29, A29, hf29, h⟩ := rz_b_inv h
                  have fr29 := fr1.trans ((wx142_no F hf29).mono (by decide) (by decide))
                  cases h
                  exact fr29
              · replace h := if_F h hc11
                obtain ⟨r30, A30, hf30, h⟩ := rz_b_inv h
                have fr30 := fr1.trans ((wx142_no F hf30).mono (by decide) (by decide))
                cases h
                exact fr30
          · replace h := if_F h hc8
            obtain ⟨r31, A31, hf31, h⟩ := rz_b_inv h
            have fr31 := fr1.trans ((wx142_no F hf31).mono (by decide) (by decide))
            cases h
            exact fr31
        · replace h := if_F h hc7
          obtain ⟨r32, A32, hf32, h⟩ := rz_b_inv h
          have fr32 := fr1.trans ((wx142_no F hf32).mono (by decide) (by decide))
          cases h
          exact fr32
    · replace h := if_F h hc4
      obtain ⟨r33, A33, hf33, h⟩ := rz_b_inv h
      have fr33 := fr1.trans ((wx142_no F hf33).mono (by decide) (by decide))
      cases h
      exact fr33
def cs_x189_hundredths : List Nat := []
def fs_x189_hundredths : List (Nat × Nat) := [(91, 77)]
theorem wx189_hundredths_6 (F : Nat) : ∀ (n : Nat) (v1 : Int) (v2 : Int) (v3 : Int) (v4 : Int) (v5 : Int) (v6 : Int) (A : rz_A) (r : Int) (A' : rz_A), x189_hundredths_6 F n v1 v2 v3 v4 v5 v6 A = some (r, A') → Fr cs_x189_hundredths fs_x189_hundredths A A' := by
  intro n
  induction n with
  | zero => intro v1 v2 v3 v4 v5 v6 A r A' h; cases h
  | succ n ih =>
    intro v1 v2 v3 v4 v5 v6 A r A' h
    have fr : Fr cs_x189_hundredths fs_x189_hundredths A A := Fr.rfl
    rw [x189_hundredths_6] at h
    by_cases hc1 : v6 < (A.1 91 6)
    · replace h := if_T h hc1
      replace h := (rz_gx_inv h).2.2
      by_cases hc4 : (A.1 116 (v6).toNat) = v1
      · replace h := if_T h hc4
        by_cases hc5 : (A.1 117 (v6).toNat) = v2
        · replace h := if_T h hc5
          by_cases hc6 : (A.1 121 (v6).toNat) ≤ v4
          · replace h := if_T h hc6
            by_cases hc7 : (A.1 118 (v6).toNat) ≤ v3
            · replace h := if_T h hc7
              by_cases hc8 : (A.1 119 (v6).toNat) < v3
              · replace h := if_T h hc8
                replace h := (rz_g32_inv h).2
                exact fr.trans (ih _ _ _ _ _ _ _ _ _ h)
              · replace h := if_F h hc8
                by_cases hc11 : v2 = 0
                · replace h := if_T h hc11
                  by_cases hc12 : v5 < (A.1 120 (v6).toNat)
                  · replace h := if_T h hc12
                    replace h := (rz_g32_inv h).2
                    exact (Fr.aI fr (Or.inr (by decide))).trans (ih _ _ _ _ _ _ _ _ _ h)
                  · replace h := if_F h hc12
                    replace h := (rz_g32_inv h).2
                    exact (Fr.aI fr (Or.inr (by decide))).trans (ih _ _ _ _ _ _ _ _ _ h)
                · replace h := if_F h hc11
                  by_cases hc15 : (A.1 118 (v6).toNat) = (A.1 119 (v6).toNat)
                  · replace h := if_T h hc15
                    by_cases hc16 : v5 < (A.1 120 (v6).toNat)
                    · replace h := if_T h hc16
                      replace h := (rz_g32_inv h).2
                      exact (Fr.aI fr (Or.inr (by decide))).trans (ih _ _ _ _ _ _ _ _ _ h)
                    · replace h := if_F h hc16
                      replace h := (rz_g32_inv h).2
                      exact (Fr.aI fr (Or.inr (by decide))).trans (ih _ _ _ _ _ _ _ _ _ h)
                  · replace h := if_F h hc15
                    replace h := (rz_g32_inv h).2
                    replace h := (rz_g32_inv h).2
                    replace h := (rz_g32_inv h).2
                    replace h := (rz_gn_inv h).2
                    replace h := (rz_g32_inv h).2
                    by_cases hc24 : v5 < (((A.1 120 (v6).toNat) * (v3 - (A.1 118 (v6).toNat))).tdiv ((A.1 119 (v6).toNat) - (A.1 118 (v6).toNat)))
                    · replace h := if_T h hc24
                      replace h := (rz_g32_inv h).2
                      exact (Fr.aI fr (Or.inr (by decide))).trans (ih _ _ _ _ _ _ _ _ _ h)
                    · replace h := if_F h hc24
                      replace h := (rz_g32_inv h).2
                      exact (Fr.aI fr (Or.inr (by decide))).trans (ih _ _ _ _ _ _ _ _ _ h)
            · replace h := if_F h hc7
              replace h := (rz_g32_inv h).2
              exact fr.trans (ih _ _ _ _ _ _ _ _ _ h)
          · replace h := if_F h hc6
            replace h := (rz_g32_inv h).2
            exact fr.trans (ih _ _ _ _ _ _ _ _ _ h)
        · replace h := if_F h hc5
          replace h := (rz_g32_inv h).2
          exact fr.trans (ih _ _ _ _ _ _ _ _ _ h)
      · replace h := if_F h hc4
        replace h := (rz_g32_inv h).2
        exact fr.trans (ih _ _ _ _ _ _ _ _ _ h)
    · replace h := if_F h hc1
      cases h
      exact fr
theorem wx189_hundredths (F : Nat) {a0 : Int} {a1 : Int} {a2 : Int} {a3 : Int} {A : rz_A} {r : Int} {A' : rz_A} (h : x189_hundredths F a0 a1 a2 a3 A = some (r, A')) : Fr cs_x189_hundredths fs_x189_hundredths A A' := by
  have fr : Fr cs_x189_hundredths fs_x189_hundredths A A := Fr.rfl
  unfold x189_hundredths at h
  exact fr.trans (wx189_hundredths_6 F F _ _ _ _ _ _ _ _ _ h)
def cs_x188_flows : List Nat := [133, 136, 137, 138, 139, 140, 141, 142, 143]
def fs_x188_flows : List (Nat × Nat) := [(91, 54), (91, 62), (91, 63), (91, 64), (91, 65), (91, 66), (91, 67), (91, 68), (91, 76), (91, 77), (91, 78), (91, 79)]
theorem wx188_flows_103 (F : Nat) : ∀ (v1 : Int) (v2 : Int) (v3 : Int) (v5 : Int) (A : rz_A) (r : Int) (A' : rz_A), x188_flows_103 F v1 v2 v3 v5 A = some (r, A') → Fr cs_x188_flows fs_x188_flows A A' := by
  intro v1 v2 v3 v5 A r A' h
  have fr : Fr cs_x188_flows fs_x188_flows A A := Fr.rfl
  unfold x188_flows_103 at h
  obtain ⟨r2, A2, hf2, h⟩ := rz_b_inv h
  have fr2 := (Fr.aI fr (Or.inr (by decide))).trans ((wx189_hundredths F hf2).mono (by decide) (by decide))
  replace h := (rz_g64_inv h).2
  replace h := (rz_g64_inv h).2
  replace h := (rz_g32_inv h).2
  replace h := (rz_g32_inv h).2
  obtain ⟨r7, A7, hf7, h⟩ := rz_b_inv h
  have fr7 := fr2.trans ((wx189_hundredths F hf7).mono (by decide) (by decide))
  replace h := (rz_g64_inv h).2
  replace h := (rz_g64_inv h).2
  replace h := (rz_g32_inv h).2
  replace h := (rz_g32_inv h).2
  cases h
  exact (Fr.aI fr7 (Or.inr (by decide)))
theorem wx188_flows (F : Nat) {a0 : Int} {a1 : Int} {a2 : Int} {A : rz_A} {r : Int} {A' : rz_A} (h : x188_flows F a0 a1 a2 A = some (r, A')) : Fr cs_x188_flows fs_x188_flows A A' := by
  have fr : Fr cs_x188_flows fs_x188_flows A A := Fr.rfl
  unfold x188_flows at h
  obtain ⟨r1, A1, hf1, h⟩ := rz_b_inv h
  have fr1 := fr.trans ((wx161_has F hf1).mono (by decide) (by decide))
  by_cases hc2 : r1 = 0
  · replace h := if_T h hc2
    cases h
    exact fr1
  · replace h := if_F h hc2
    obtain ⟨_, A3, hf3, h⟩ := rz_b_inv h
    have fr3 := fr1.trans ((wx181_makes F hf3).mono (by decide) (by decide))
    by_cases hc4 : (A3.1 91 67) = 0
    · replace h := if_T h hc4
      cases h
      exact fr3
    · replace h := if_F h hc4
      replace h := (rz_gx_inv h).2.2
      obtain ⟨r7, A7, hf7, h⟩ := rz_b_inv h
      have fr7 := fr3.trans ((wx185_along_p F hf7).mono (by decide) (by decide))
      by_cases hc8 : (A7.1 91 76) = 0
      · replace h := if_T h hc8
        by_cases hc10 : 100 < (A7.1 91 68)
        · replace h := if_T h hc10
          exact (Fr.aI (Fr.aI fr7 (Or.inr (by decide))) (Or.inr (by decide))).trans (wx188_flows_103 F _ _ _ _ _ _ _ h)
        · replace h := if_F h hc10
          exact (Fr.aI fr7 (Or.inr (by decide))).trans (wx188_flows_103 F _ _ _ _ _ _ _ h)
      · replace h := if_F h hc8
        replace h := (rz_g32_inv h).2
        replace h := (rz_g32_inv h).2
        by_cases hc15 : 100 < ((2 * (A7.1 91 68)) + 10)
        · replace h := if_T h hc15
          exact (Fr.aI (Fr.aI fr7 (Or.inr (by decide))) (Or.inr (by decide))).trans (wx188_flows_103 F _ _ _ _ _ _ _ h)
        · replace h := if_F h hc15
          exact (Fr.aI fr7 (Or.inr (by decide))).trans (wx188_flows_103 F _ _ _ _ _ _ _ h)
def cs_x187_flowOf : List Nat := [132, 133, 136, 137, 138, 139, 140, 141, 142, 143]
def fs_x187_flowOf : List (Nat × Nat) := [(91, 54), (91, 62), (91, 63), (91, 64), (91, 65), (91, 66), (91, 67), (91, 68), (91, 76), (91, 77), (91, 78), (91, 79)]
theorem wx187_flowOf (F : Nat) {a0 : Int} {a1 : Int} {a2 : Int} {a3 : Int} {A : rz_A} {r : Int} {A' : rz_A} (h : x187_flowOf F a0 a1 a2 a3 A = some (r, A')) : Fr cs_x187_flowOf fs_x187_flowOf A A' := by
  have fr : Fr cs_x187_flowOf fs_x187_flowOf A A := Fr.rfl
  unfold x187_flowOf at h
  obtain ⟨r1, A1, hf1, h⟩ := rz_b_inv h
  have fr1 := fr.trans ((wx145_isPost F hf1).mono (by decide) (by decide))
  by_cases hc2 : r1 = 0
  · replace h := if_T h hc2
    obtain ⟨r3, A3, hf3, h⟩ := rz_b_inv h
    have fr3 := fr1.trans ((wx142_no F hf3).mono (by decide) (by decide))
    cases h
    exact fr3
  · replace h := if_F h hc2
    by_cases hc4 : 0 ≤ a3
    · replace h := if_T h hc4
      by_cases hc5 : 2 < a3
      · replace h := if_T h hc5
        obtain ⟨r6, A6, hf6, h⟩ := rz_b_inv h
        have fr6 := fr1.trans ((wx142_no F hf6).mono (by decide) (by decide))
        cases h
        exact fr6
      · replace h := if_F h hc5
        obtain ⟨r7, A7, hf7, h⟩ := rz_b_inv h
        have fr7 := fr1.trans ((wx147_times F hf7).mono (by decide) (by decide))
        by_cases hc8 : r7 = 0
        · replace h := if_T h hc8
          obtain ⟨r9, A9, hf9, h⟩ := rz_b_inv h
          have fr9 := fr7.trans ((wx188_flows F hf9).mono (by decide) (by decide))
          by_cases hc10 : r9 = 0
          · replace h := if_T h hc10
            obtain ⟨r11, A11, hf11, h⟩ := rz_b_inv h
            have fr11 := fr9.trans ((wx142_no F hf11).mono (by decide) (by decide))
            cases h
            exact fr11
          · replace h := if_F h hc10
            by_cases hc12 : a3 = 0
            · replace h := if_T h hc12
              cases h
              exact fr9
            · replace h := if_F h hc12
              by_cases hc13 : a3 = 1
              · replace h := if_T h hc13
                cases h
                exact fr9
              · replace h := if_F h hc13
                by_cases hc14 : (A9.1 91 76) = 0
                · replace h := if_T h hc14
                  cases h
                  exact fr9
                · replace h := if_F h hc14
                  cases h
                  exact fr9
        · replace h := if_F h hc8
          obtain ⟨r15, A15, hf15, h⟩ := rz_b_inv h
          have fr15 := fr7.trans ((wx142_no F hf15).mono (by decide) (by decide))
          cases h
          exact fr15
    · replace h := if_F h hc4
      obtain ⟨r16, A16, hf16, h⟩ := rz_b_inv h
      have fr16 := fr1.trans ((wx142_no F hf16).mono (by decide) (by decide))
      cases h
      exact fr16
def cs_x190_base : List Nat := [96, 98, 99, 132]
def fs_x190_base : List (Nat × Nat) := []
theorem wx190_base_86 (F : Nat) : ∀ (v1 : Int) (v2 : Int) (v3 : Int) (v4 : Int) (A : rz_A) (r : Int) (A' : rz_A), x190_base_86 F v1 v2 v3 v4 A = some (r, A') → Fr cs_x190_base fs_x190_base A A' := by
  intro v1 v2 v3 v4 A r A' h
  have fr : Fr cs_x190_base fs_x190_base A A := Fr.rfl
  unfold x190_base_86 at h
  by_cases hc1 : v3 ≤ 99999
  · replace h := if_T h hc1
    by_cases hc2 : v4 ≤ 99999
    · replace h := if_T h hc2
      by_cases hc3 : v2 = 8
      · replace h := if_T h hc3
        obtain ⟨r4, A4, hf4, h⟩ := rz_b_inv h
        have fr4 := fr.trans ((wx142_no F hf4).mono (by decide) (by decide))
        cases h
        exact fr4
      · replace h := if_F h hc3
        replace h := (rz_g32_inv h).2
        replace h := (rz_g32_inv h).2
        replace h := (rz_gx_inv h).2.2
        replace h := (rz_g32_inv h).2
        replace h := (rz_gx_inv h).2.2
        cases h
        exact (Fr.aI (Fr.aI (Fr.aI fr (Or.inl (by decide))) (Or.inl (by decide))) (Or.inl (by decide)))
    · replace h := if_F h hc2
      obtain ⟨r15, A15, hf15, h⟩ := rz_b_inv h
      have fr15 := fr.trans ((wx142_no F hf15).mono (by decide) (by decide))
      cases h
      exact fr15
  · replace h := if_F h hc1
    obtain ⟨r16, A16, hf16, h⟩ := rz_b_inv h
    have fr16 := fr.trans ((wx142_no F hf16).mono (by decide) (by decide))
    cases h
    exact fr16
theorem wx190_base (F : Nat) {a0 : Int} {a1 : Int} {a2 : Int} {a3 : Int} {A : rz_A} {r : Int} {A' : rz_A} (h : x190_base F a0 a1 a2 a3 A = some (r, A')) : Fr cs_x190_base fs_x190_base A A' := by
  have fr : Fr cs_x190_base fs_x190_base A A := Fr.rfl
  unfold x190_base at h
  obtain ⟨r1, A1, hf1, h⟩ := rz_b_inv h
  have fr1 := fr.trans ((wx145_isPost F hf1).mono (by decide) (by decide))
  by_cases hc2 : r1 = 0
  · replace h := if_T h hc2
    obtain ⟨r3, A3, hf3, h⟩ := rz_b_inv h
    have fr3 := fr1.trans ((wx142_no F hf3).mono (by decide) (by decide))
    cases h
    exact fr3
  · replace h := if_F h hc2
    by_cases hc4 : 0 ≤ a1
    · replace h := if_T h hc4
      replace h := (rz_gx_inv h).2.2
      by_cases hc7 : (A1.1 96 (a0).toNat) < a1
      · replace h := if_T h hc7
        obtain ⟨r8, A8, hf8, h⟩ := rz_b_inv h
        have fr8 := fr1.trans ((wx142_no F hf8).mono (by decide) (by decide))
        cases h
        exact fr8
      · replace h := if_F h hc7
        by_cases hc9 : (-9999) ≤ a2
        · replace h := if_T h hc9
          by_cases hc10 : 0 ≤ a3
          · replace h := if_T h hc10
            by_cases hc11 : 0 < a1
            · replace h := if_T h hc11
              replace h := (rz_g32_inv h).2
              replace h := (rz_g32_inv h).2
              replace h := (rz_g32_inv h).2
              replace h := (rz_gx_inv h).2.2
              by_cases hc17 : (A1.1 98 ((((8 * a0) + a1) - 1)).toNat) < a2
              · replace h := if_T h hc17
                by_cases hc18 : a3 < (A1.1 99 ((((8 * a0) + a1) - 1)).toNat)
                · replace h := if_T h hc18
                  obtain ⟨r19, A19, hf19, h⟩ := rz_b_inv h
                  have fr19 := fr1.trans ((wx142_no F hf19).mono (by decide) (by decide))
                  cases h
                  exact fr19
                · replace h := if_F h hc18
                  exact fr1.trans (wx190_base_86 F _ _ _ _ _ _ _ h)
              · replace h := if_F h hc17
                obtain ⟨r20, A20, hf20, h⟩ := rz_b_inv h
                have fr20 := fr1.trans ((wx142_no F hf20).mono (by decide) (by decide))
                cases h
                exact fr20
            · replace h := if_F h hc11
              exact fr1.trans (wx190_base_86 F _ _ _ _ _ _ _ h)
          · replace h := if_F h hc10
            obtain ⟨r21, A21, hf21, h⟩ := rz_b_inv h
            have fr21 := fr1.trans ((wx142_no F hf21).mono (by decide) (by decide))
            cases h
            exact fr21
        · replace h := if_F h hc9
          obtain ⟨r22, A22, hf22, h⟩ := rz_b_inv h
          have fr22 := fr1.trans ((wx142_no F hf22).mono (by decide) (by decide))
          cases h
          exact fr22
    · replace h := if_F h hc4
      obtain ⟨r23, A23, hf23, h⟩ := rz_b_inv h
      have fr23 := fr1.trans ((wx142_no F hf23).mono (by decide) (by decide))
      cases h
      exact fr23
def cs_x192_gathers : List Nat := [133, 136, 144, 145]
def fs_x192_gathers : List (Nat × Nat) := [(91, 54), (91, 80)]
theorem wx192_gathers_120 (F : Nat) {k9 : (Int → Int → Int → rz_A → Option (Unit × rz_A))} (hkk9 : ∀ (v1 : Int) (v2 : Int) (v3 : Int) (A : rz_A) (r : Unit) (A' : rz_A), k9 v1 v2 v3 A = some (r, A') → Fr cs_x192_gathers fs_x192_gathers A A') : ∀ (v1 : Int) (v4 : Int) (A : rz_A) (r : Unit) (A' : rz_A), x192_gathers_120 F k9 v1 v4 A = some (r, A') → Fr cs_x192_gathers fs_x192_gathers A A' := by
  intro v1 v4 A r A' h
  have fr : Fr cs_x192_gathers fs_x192_gathers A A := Fr.rfl
  unfold x192_gathers_120 at h
  by_cases hc1 : v4 < 0
  · replace h := if_T h hc1
    cases h
    exact fr
  · replace h := if_F h hc1
    replace h := (rz_gx_inv h).2.2
    obtain ⟨r4, A4, hf4, h⟩ := rz_b_inv h
    have fr4 := fr.trans ((wx166_isIn F hf4).mono (by decide) (by decide))
    replace h := (rz_gx_inv h).2.2
    replace h := (rz_g32_inv h).2
    exact (Fr.aI (Fr.aI (Fr.aI fr4 (Or.inl (by decide))) (Or.inr (by decide))) (Or.inl (by decide))).trans (hkk9 _ _ _ _ _ _ h)
theorem wx192_gathers_72 (F : Nat) {k24 : (Int → Int → Int → Int → Int → rz_A → Option (Unit × rz_A))} (hkk24 : ∀ (v1 : Int) (v2 : Int) (v3 : Int) (v4 : Int) (v5 : Int) (A : rz_A) (r : Unit) (A' : rz_A), k24 v1 v2 v3 v4 v5 A = some (r, A') → Fr cs_x192_gathers fs_x192_gathers A A') : ∀ (v1 : Int) (v2 : Int) (v3 : Int) (v4 : Int) (v5 : Int) (A : rz_A) (r : Unit) (A' : rz_A), x192_gathers_72 F k24 v1 v2 v3 v4 v5 A = some (r, A') → Fr cs_x192_gathers fs_x192_gathers A A' := by
  intro v1 v2 v3 v4 v5 A r A' h
  have fr : Fr cs_x192_gathers fs_x192_gathers A A := Fr.rfl
  unfold x192_gathers_72 at h
  by_cases hc1 : 0 ≤ v4
  · replace h := if_T h hc1
    replace h := (rz_gx_inv h).2.2
    replace h := (rz_gx_inv h).2.2
    by_cases hc6 : (A.1 111 (v5).toNat) < (A.1 111 (v4).toNat)
    · replace h := if_T h hc6
      obtain ⟨r7, A7, hf7, h⟩ := rz_b_inv h
      have fr7 := fr.trans ((wx166_isIn F hf7).mono (by decide) (by decide))
      by_cases hc8 : r7 = 0
      · replace h := if_T h hc8
        replace h := (rz_g32_inv h).2
        exact fr7.trans (hkk24 _ _ _ _ _ _ _ _ h)
      · replace h := if_F h hc8
        replace h := (rz_g32_inv h).2
        exact fr7.trans (hkk24 _ _ _ _ _ _ _ _ h)
    · replace h := if_F h hc6
      replace h := (rz_g32_inv h).2
      exact fr.trans (hkk24 _ _ _ _ _ _ _ _ h)
  · replace h := if_F h hc1
    obtain ⟨r12, A12, hf12, h⟩ := rz_b_inv h
    have fr12 := fr.trans ((wx166_isIn F hf12).mono (by decide) (by decide))
    by_cases hc13 : r12 = 0
    · replace h := if_T h hc13
      replace h := (rz_g32_inv h).2
      exact fr12.trans (hkk24 _ _ _ _ _ _ _ _ h)
    · replace h := if_F h hc13
      replace h := (rz_g32_inv h).2
      exact fr12.trans (hkk24 _ _ _ _ _ _ _ _ h)
theorem wx192_gathers_24 (F : Nat) {k9 : (Int → Int → Int → rz_A → Option (Unit × rz_A))} (hkk9 : ∀ (v1 : Int) (v2 : Int) (v3 : Int) (A : rz_A) (r : Unit) (A' : rz_A), k9 v1 v2 v3 A = some (r, A') → Fr cs_x192_gathers fs_x192_gathers A A') : ∀ (n : Nat) (v1 : Int) (v2 : Int) (v3 : Int) (v4 : Int) (v5 : Int) (A : rz_A) (r : Unit) (A' : rz_A), x192_gathers_24 F k9 n v1 v2 v3 v4 v5 A = some (r, A') → Fr cs_x192_gathers fs_x192_gathers A A' := by
  intro n
  induction n with
  | zero => intro v1 v2 v3 v4 v5 A r A' h; cases h
  | succ n ih =>
    intro v1 v2 v3 v4 v5 A r A' h
    have fr : Fr cs_x192_gathers fs_x192_gathers A A := Fr.rfl
    rw [x192_gathers_24] at h
    by_cases hc1 : v5 < (A.1 91 4)
    · replace h := if_T h hc1
      replace h := (rz_gx_inv h).2.2
      by_cases hc4 : (A.1 110 (v5).toNat) = v1
      · replace h := if_T h hc4
        by_cases hc5 : v3 ≤ (A.1 111 (v5).toNat)
        · replace h := if_T h hc5
          by_cases hc6 : (A.1 111 (v5).toNat) = v3
          · replace h := if_T h hc6
            by_cases hc7 : v2 < v5
            · replace h := if_T h hc7
              exact fr.trans (wx192_gathers_72 F ih _ _ _ _ _ _ _ _ h)
            · replace h := if_F h hc7
              replace h := (rz_g32_inv h).2
              exact fr.trans (ih _ _ _ _ _ _ _ _ h)
          · replace h := if_F h hc6
            exact fr.trans (wx192_gathers_72 F ih _ _ _ _ _ _ _ _ h)
        · replace h := if_F h hc5
          replace h := (rz_g32_inv h).2
          exact fr.trans (ih _ _ _ _ _ _ _ _ h)
      · replace h := if_F h hc4
        replace h := (rz_g32_inv h).2
        exact fr.trans (ih _ _ _ _ _ _ _ _ h)
    · replace h := if_F h hc1
      exact fr.trans (wx192_gathers_120 F hkk9 _ _ _ _ _ h)
theorem wx192_gathers_9 (F : Nat) : ∀ (n : Nat) (v1 : Int) (v2 : Int) (v3 : Int) (A : rz_A) (r : Unit) (A' : rz_A), x192_gathers_9 F n v1 v2 v3 A = some (r, A') → Fr cs_x192_gathers fs_x192_gathers A A' := by
  intro n
  induction n with
  | zero => intro v1 v2 v3 A r A' h; cases h
  | succ n ih =>
    intro v1 v2 v3 A r A' h
    have fr : Fr cs_x192_gathers fs_x192_gathers A A := Fr.rfl
    rw [x192_gathers_9] at h
    by_cases hc1 : (A.1 91 80) < 8
    · replace h := if_T h hc1
      exact fr.trans (wx192_gathers_24 F ih F _ _ _ _ _ _ _ _ h)
    · replace h := if_F h hc1
      cases h
      exact fr
theorem wx192_gathers (F : Nat) {a0 : Int} {A : rz_A} {r : Unit} {A' : rz_A} (h : x192_gathers F a0 A = some (r, A')) : Fr cs_x192_gathers fs_x192_gathers A A' := by
  have fr : Fr cs_x192_gathers fs_x192_gathers A A := Fr.rfl
  unfold x192_gathers at h
  exact (Fr.aI fr (Or.inr (by decide))).trans (wx192_gathers_9 F F _ _ _ _ _ _ h)
def cs_x197_bits : List Nat := []
def fs_x197_bits : List (Nat × Nat) := []
theorem wx197_bits_4 (F : Nat) : ∀ (n : Nat) (v0 : Int) (v1 : Int) (v2 : Int) (A : rz_A) (r : Int) (A' : rz_A), x197_bits_4 F n v0 v1 v2 A = some (r, A') → Fr cs_x197_bits fs_x197_bits A A' := by
  intro n
  induction n with
  | zero => intro v0 v1 v2 A r A' h; cases h
  | succ n ih =>
    intro v0 v1 v2 A r A' h
    have fr : Fr cs_x197_bits fs_x197_bits A A := Fr.rfl
    rw [x197_bits_4] at h
    by_cases hc1 : v2 < 8
    · replace h := if_T h hc1
      replace h := (rz_g32_inv h).2
      replace h := (rz_g32_inv h).2
      exact fr.trans (ih _ _ _ _ _ _ h)
    · replace h := if_F h hc1
      cases h
      exact fr
theorem wx197_bits (F : Nat) {a0 : Int} {A : rz_A} {r : Int} {A' : rz_A} (h : x197_bits F a0 A = some (r, A')) : Fr cs_x197_bits fs_x197_bits A A' := by
  have fr : Fr cs_x197_bits fs_x197_bits A A := Fr.rfl
  unfold x197_bits at h
  exact fr.trans (wx197_bits_4 F F _ _ _ _ _ _ h)
def cs_x198_goesAll : List Nat := []
def fs_x198_goesAll : List (Nat × Nat) := []
theorem wx198_goesAll_4 (F : Nat) : ∀ (n : Nat) (v1 : Int) (v2 : Int) (v3 : Int) (A : rz_A) (r : Int) (A' : rz_A), x198_goesAll_4 F n v1 v2 v3 A = some (r, A') → Fr cs_x198_goesAll fs_x198_goesAll A A' := by
  intro n
  induction n with
  | zero => intro v1 v2 v3 A r A' h; cases h
  | succ n ih =>
    intro v1 v2 v3 A r A' h
    have fr : Fr cs_x198_goesAll fs_x198_goesAll A A := Fr.rfl
    rw [x198_goesAll_4] at h
    by_cases hc1 : v3 < (A.1 91 80)
    · replace h := if_T h hc1
      replace h := (rz_g32_inv h).2
      by_cases hc3 : (v3 + 1) < (A.1 91 80)
      · replace h := if_T h hc3
        by_cases hc4 : (rz_oI fAnd (rz_oI fShr v1 v3) 1) = 0
        · replace h := if_T h hc4
          exact fr.trans (ih _ _ _ _ _ _ h)
        · replace h := if_F h hc4
          replace h := (rz_g32_inv h).2
          replace h := (rz_g32_inv h).2
          replace h := (rz_gx_inv h).2.2
          by_cases hc9 : (A.1 146 (((8 * v2) + v3)).toNat) = 99
          · replace h := if_T h hc9
            cases h
            exact fr
          · replace h := if_F h hc9
            exact fr.trans (ih _ _ _ _ _ _ h)
      · replace h := if_F h hc3
        replace h := (rz_g32_inv h).2
        replace h := (rz_g32_inv h).2
        replace h := (rz_gx_inv h).2.2
        by_cases hc14 : (A.1 146 (((8 * v2) + v3)).toNat) = 99
        · replace h := if_T h hc14
          cases h
          exact fr
        · replace h := if_F h hc14
          exact fr.trans (ih _ _ _ _ _ _ h)
    · replace h := if_F h hc1
      cases h
      exact fr
theorem wx198_goesAll (F : Nat) {a0 : Int} {A : rz_A} {r : Int} {A' : rz_A} (h : x198_goesAll F a0 A = some (r, A')) : Fr cs_x198_goesAll fs_x198_goesAll A A' := by
  have fr : Fr cs_x198_goesAll fs_x198_goesAll A A := Fr.rfl
  unfold x198_goesAll at h
  exact fr.trans (wx198_goesAll_4 F F _ _ _ _ _ _ h)
def cs_x185_along_q : List Nat := []
def fs_x185_along_q : List (Nat × Nat) := [(91, 76)]
theorem wx185_along_q_139 (F : Nat) : ∀ (v6 : Int) (v7 : Int) (A : rz_A) (r : Int) (A' : rz_A), x185_along_q_139 F v6 v7 A = some (r, A') → Fr cs_x185_along_q fs_x185_along_q A A' := by
  intro v6 v7 A r A' h
  have fr : Fr cs_x185_along_q fs_x185_along_q A A := Fr.rfl
  unfold x185_along_q_139 at h
  replace h := (rz_gx_inv h).2.2
  replace h := (rz_g32_inv h).2
  replace h := (rz_gx_inv h).2.2
  replace h := (rz_g32_inv h).2
  replace h := (rz_g32_inv h).2
  replace h := (rz_g64_inv h).2
  replace h := (rz_g32_inv h).2
  replace h := (rz_gn_inv h).2
  replace h := (rz_g64_inv h).2
  replace h := (rz_g64_inv h).2
  by_cases hc13 : 99999999 < ((A.1 99 (v7).toNat) + ((((A.1 99 ((v7 + 1)).toNat) - (A.1 99 (v7).toNat)) * (v6 - (A.1 98 (v7).toNat))).tdiv ((A.1 98 ((v7 + 1)).toNat) - (A.1 98 (v7).toNat))))
  · replace h := if_T h hc13
    cases h
    exact fr
  · replace h := if_F h hc13
    replace h := (rz_g32_inv h).2
    cases h
    exact fr
theorem wx185_along_q_105 (F : Nat) : ∀ (v3 : Int) (v4 : Int) (v6 : Int) (v7 : Int) (A : rz_A) (r : Int) (A' : rz_A), x185_along_q_105 F v3 v4 v6 v7 A = some (r, A') → Fr cs_x185_along_q fs_x185_along_q A A' := by
  intro v3 v4 v6 v7 A r A' h
  have fr : Fr cs_x185_along_q fs_x185_along_q A A := Fr.rfl
  unfold x185_along_q_105 at h
  replace h := (rz_gx_inv h).2.2
  by_cases hc3 : (A.1 98 (v7).toNat) = v6
  · replace h := if_T h hc3
    cases h
    exact fr
  · replace h := if_F h hc3
    by_cases hc4 : v4 = 1
    · replace h := if_T h hc4
      cases h
      exact fr
    · replace h := if_F h hc4
      replace h := (rz_g32_inv h).2
      replace h := (rz_g32_inv h).2
      by_cases hc7 : v7 = ((v3 + v4) - 1)
      · replace h := if_T h hc7
        replace h := (rz_g32_inv h).2
        exact fr.trans (wx185_along_q_139 F _ _ _ _ _ h)
      · replace h := if_F h hc7
        exact fr.trans (wx185_along_q_139 F _ _ _ _ _ h)
theorem wx185_along_q_77 (F : Nat) : ∀ (n : Nat) (v3 : Int) (v4 : Int) (v6 : Int) (v7 : Int) (A : rz_A) (r : Int) (A' : rz_A), x185_along_q_77 F n v3 v4 v6 v7 A = some (r, A') → Fr cs_x185_along_q fs_x185_along_q A A' := by
  intro n
  induction n with
  | zero => intro v3 v4 v6 v7 A r A' h; cases h
  | succ n ih =>
    intro v3 v4 v6 v7 A r A' h
    have fr : Fr cs_x185_along_q fs_x185_along_q A A := Fr.rfl
    rw [x185_along_q_77] at h
    replace h := (rz_g32_inv h).2
    replace h := (rz_g32_inv h).2
    by_cases hc3 : (v7 + 1) < (v3 + v4)
    · replace h := if_T h hc3
      replace h := (rz_gx_inv h).2.2
      by_cases hc6 : (A.1 98 ((v7 + 1)).toNat) ≤ v6
      · replace h := if_T h hc6
        exact fr.trans (ih _ _ _ _ _ _ _ h)
      · replace h := if_F h hc6
        exact fr.trans (wx185_along_q_105 F _ _ _ _ _ _ _ h)
    · replace h := if_F h hc3
      exact fr.trans (wx185_along_q_105 F _ _ _ _ _ _ _ h)
theorem wx185_along_q (F : Nat) {a0 : Int} {a1 : Int} {a2 : Int} {a3 : Int} {A : rz_A} {r : Int} {A' : rz_A} (h : x185_along_q F a0 a1 a2 a3 A = some (r, A')) : Fr cs_x185_along_q fs_x185_along_q A A' := by
  have fr : Fr cs_x185_along_q fs_x185_along_q A A := Fr.rfl
  unfold x185_along_q at h
  replace h := (rz_g32_inv h).2
  replace h := (rz_g32_inv h).2
  replace h := (rz_gx_inv h).2.2
  by_cases hc5 : (A.1 98 (((a0 + a1) - 1)).toNat) < a3
  · replace h := if_T h hc5
    replace h := (rz_gx_inv h).2.2
    by_cases hc9 : a3 < (A.1 98 (a0).toNat)
    · replace h := if_T h hc9
      by_cases hc10 : (A.1 98 (a0).toNat) ≤ a2
      · replace h := if_T h hc10
        cases h
        exact (Fr.aI fr (Or.inr (by decide)))
      · replace h := if_F h hc10
        by_cases hc11 : a3 ≤ a2
        · replace h := if_T h hc11
          cases h
          exact (Fr.aI fr (Or.inr (by decide)))
        · replace h := if_F h hc11
          replace h := (rz_g32_inv h).2
          replace h := (rz_g64_inv h).2
          replace h := (rz_g32_inv h).2
          replace h := (rz_gn_inv h).2
          replace h := (rz_g64_inv h).2
          replace h := (rz_g32_inv h).2
          cases h
          exact (Fr.aI fr (Or.inr (by decide)))
    · replace h := if_F h hc9
      exact (Fr.aI fr (Or.inr (by decide))).trans (wx185_along_q_77 F F _ _ _ _ _ _ _ h)
  · replace h := if_F h hc5
    replace h := (rz_gx_inv h).2.2
    by_cases hc21 : a3 < (A.1 98 (a0).toNat)
    · replace h := if_T h hc21
      by_cases hc22 : (A.1 98 (a0).toNat) ≤ a2
      · replace h := if_T h hc22
        cases h
        exact (Fr.aI fr (Or.inr (by decide)))
      · replace h := if_F h hc22
        by_cases hc23 : a3 ≤ a2
        · replace h := if_T h hc23
          cases h
          exact (Fr.aI fr (Or.inr (by decide)))
        · replace h := if_F h hc23
          replace h := (rz_g32_inv h).2
          replace h := (rz_g64_inv h).2
          replace h := (rz_g32_inv h).2
          replace h := (rz_gn_inv h).2
          replace h := (rz_g64_inv h).2
          replace h := (rz_g32_inv h).2
          cases h
          exact (Fr.aI fr (Or.inr (by decide)))
    · replace h := if_F h hc21
      exact (Fr.aI fr (Or.inr (by decide))).trans (wx185_along_q_77 F F _ _ _ _ _ _ _ h)
def cs_x196_goes : List Nat := []
def fs_x196_goes : List (Nat × Nat) := [(91, 76)]
theorem wx196_goes_19 (F : Nat) : ∀ (n : Nat) (v1 : Int) (v3 : Int) (v4 : Int) (v5 : Int) (A : rz_A) (r : Int) (A' : rz_A), x196_goes_19 F n v1 v3 v4 v5 A = some (r, A') → Fr cs_x196_goes fs_x196_goes A A' := by
  intro n
  induction n with
  | zero => intro v1 v3 v4 v5 A r A' h; cases h
  | succ n ih =>
    intro v1 v3 v4 v5 A r A' h
    have fr : Fr cs_x196_goes fs_x196_goes A A := Fr.rfl
    rw [x196_goes_19] at h
    by_cases hc1 : v5 ≤ v3
    · replace h := if_T h hc1
      replace h := (rz_gx_inv h).2.2
      replace h := (rz_g32_inv h).2
      replace h := (rz_gx_inv h).2.2
      replace h := (rz_g32_inv h).2
      obtain ⟨r8, A8, hf8, h⟩ := rz_b_inv h
      have fr8 := fr.trans ((wx185_along_q F hf8).mono (by decide) (by decide))
      replace h := (rz_gx_inv h).2.2
      replace h := (rz_g32_inv h).2
      replace h := (rz_g32_inv h).2
      replace h := (rz_g32_inv h).2
      by_cases hc14 : ((A8.1 112 ((A.1 144 (v5).toNat)).toNat) - (((A8.1 112 ((A.1 144 (v5).toNat)).toNat) * (A8.1 113 ((A.1 144 (v5).toNat)).toNat)).tdiv 100)) ≤ r8
      · replace h := if_T h hc14
        replace h := (rz_g32_inv h).2
        by_cases hc16 : ((A8.1 112 ((A.1 144 (v5).toNat)).toNat) + (((A8.1 112 ((A.1 144 (v5).toNat)).toNat) * (A8.1 113 ((A.1 144 (v5).toNat)).toNat)).tdiv 100)) < r8
        · replace h := if_T h hc16
          cases h
          exact fr8
        · replace h := if_F h hc16
          replace h := (rz_g32_inv h).2
          exact fr8.trans (ih _ _ _ _ _ _ _ h)
      · replace h := if_F h hc14
        cases h
        exact fr8
    · replace h := if_F h hc1
      cases h
      exact fr
theorem wx196_goes (F : Nat) {a0 : Int} {a1 : Int} {a2 : Int} {a3 : Int} {A : rz_A} {r : Int} {A' : rz_A} (h : x196_goes F a0 a1 a2 a3 A = some (r, A')) : Fr cs_x196_goes fs_x196_goes A A' := by
  have fr : Fr cs_x196_goes fs_x196_goes A A := Fr.rfl
  unfold x196_goes at h
  by_cases hc1 : (-50) ≤ a3
  · replace h := if_T h hc1
    by_cases hc2 : 50 < a3
    · replace h := if_T h hc2
      cases h
      exact fr
    · replace h := if_F h hc2
      exact fr.trans (wx196_goes_19 F F _ _ _ _ _ _ _ h)
  · replace h := if_F h hc1
    cases h
    exact fr
def cs_x195_shiftOf : List Nat := []
def fs_x195_shiftOf : List (Nat × Nat) := [(91, 76)]
theorem wx195_shiftOf_3 (F : Nat) : ∀ (n : Nat) (v1 : Int) (v2 : Int) (v3 : Int) (v4 : Int) (A : rz_A) (r : Int) (A' : rz_A), x195_shiftOf_3 F n v1 v2 v3 v4 A = some (r, A') → Fr cs_x195_shiftOf fs_x195_shiftOf A A' := by
  intro n
  induction n with
  | zero => intro v1 v2 v3 v4 A r A' h; cases h
  | succ n ih =>
    intro v1 v2 v3 v4 A r A' h
    have fr : Fr cs_x195_shiftOf fs_x195_shiftOf A A := Fr.rfl
    rw [x195_shiftOf_3] at h
    by_cases hc1 : v4 ≤ 50
    · replace h := if_T h hc1
      replace h := (rz_g32_inv h).2
      obtain ⟨r3, A3, hf3, h⟩ := rz_b_inv h
      have fr3 := fr.trans ((wx196_goes F hf3).mono (by decide) (by decide))
      by_cases hc4 : r3 = 0
      · replace h := if_T h hc4
        obtain ⟨r5, A5, hf5, h⟩ := rz_b_inv h
        have fr5 := fr3.trans ((wx196_goes F hf5).mono (by decide) (by decide))
        by_cases hc6 : r5 = 0
        · replace h := if_T h hc6
          replace h := (rz_g32_inv h).2
          exact fr5.trans (ih _ _ _ _ _ _ _ h)
        · replace h := if_F h hc6
          cases h
          exact fr5
      · replace h := if_F h hc4
        cases h
        exact fr3
    · replace h := if_F h hc1
      cases h
      exact fr
theorem wx195_shiftOf (F : Nat) {a0 : Int} {a1 : Int} {a2 : Int} {A : rz_A} {r : Int} {A' : rz_A} (h : x195_shiftOf F a0 a1 a2 A = some (r, A')) : Fr cs_x195_shiftOf fs_x195_shiftOf A A' := by
  have fr : Fr cs_x195_shiftOf fs_x195_shiftOf A A := Fr.rfl
  unfold x195_shiftOf at h
  exact fr.trans (wx195_shiftOf_3 F F _ _ _ _ _ _ _ h)
def cs_x194_tries : List Nat := [146]
def fs_x194_tries : List (Nat × Nat) := [(91, 76)]
theorem wx194_tries_12 (F : Nat) {k2 : (Int → Int → rz_A → Option (Unit × rz_A))} (hkk2 : ∀ (v1 : Int) (v2 : Int) (A : rz_A) (r : Unit) (A' : rz_A), k2 v1 v2 A = some (r, A') → Fr cs_x194_tries fs_x194_tries A A') : ∀ (n : Nat) (v1 : Int) (v2 : Int) (v3 : Int) (A : rz_A) (r : Unit) (A' : rz_A), x194_tries_12 F k2 n v1 v2 v3 A = some (r, A') → Fr cs_x194_tries fs_x194_tries A A' := by
  intro n
  induction n with
  | zero => intro v1 v2 v3 A r A' h; cases h
  | succ n ih =>
    intro v1 v2 v3 A r A' h
    have fr : Fr cs_x194_tries fs_x194_tries A A := Fr.rfl
    rw [x194_tries_12] at h
    by_cases hc1 : v3 < (A.1 91 80)
    · replace h := if_T h hc1
      replace h := (rz_g32_inv h).2
      replace h := (rz_g32_inv h).2
      obtain ⟨r4, A4, hf4, h⟩ := rz_b_inv h
      have fr4 := fr.trans ((wx195_shiftOf F hf4).mono (by decide) (by decide))
      replace h := (rz_gx_inv h).2.2
      replace h := (rz_g32_inv h).2
      exact (Fr.aI fr4 (Or.inl (by decide))).trans (ih _ _ _ _ _ _ h)
    · replace h := if_F h hc1
      replace h := (rz_g32_inv h).2
      exact fr.trans (hkk2 _ _ _ _ _ h)
theorem wx194_tries_2 (F : Nat) : ∀ (n : Nat) (v1 : Int) (v2 : Int) (A : rz_A) (r : Unit) (A' : rz_A), x194_tries_2 F n v1 v2 A = some (r, A') → Fr cs_x194_tries fs_x194_tries A A' := by
  intro n
  induction n with
  | zero => intro v1 v2 A r A' h; cases h
  | succ n ih =>
    intro v1 v2 A r A' h
    have fr : Fr cs_x194_tries fs_x194_tries A A := Fr.rfl
    rw [x194_tries_2] at h
    by_cases hc1 : v2 < (A.1 91 80)
    · replace h := if_T h hc1
      exact fr.trans (wx194_tries_12 F ih F _ _ _ _ _ _ h)
    · replace h := if_F h hc1
      cases h
      exact fr
theorem wx194_tries (F : Nat) {a0 : Int} {A : rz_A} {r : Unit} {A' : rz_A} (h : x194_tries F a0 A = some (r, A')) : Fr cs_x194_tries fs_x194_tries A A' := by
  have fr : Fr cs_x194_tries fs_x194_tries A A := Fr.rfl
  unfold x194_tries at h
  exact fr.trans (wx194_tries_2 F F _ _ _ _ _ h)
def cs_x193_seeks : List Nat := [146]
def fs_x193_seeks : List (Nat × Nat) := [(91, 76), (91, 84), (91, 85), (91, 86)]
theorem wx193_seeks_23 (F : Nat) : ∀ (n : Nat) (v2 : Int) (A : rz_A) (r : Unit) (A' : rz_A), x193_seeks_23 F n v2 A = some (r, A') → Fr cs_x193_seeks fs_x193_seeks A A' := by
  intro n
  induction n with
  | zero => intro v2 A r A' h; cases h
  | succ n ih =>
    intro v2 A r A' h
    have fr : Fr cs_x193_seeks fs_x193_seeks A A := Fr.rfl
    rw [x193_seeks_23] at h
    replace h := (rz_g32_inv h).2
    by_cases hc2 : v2 < (rz_oI fShl 1 ((A.1 91 80) - 1))
    · replace h := if_T h hc2
      obtain ⟨r3, A3, hf3, h⟩ := rz_b_inv h
      have fr3 := fr.trans ((wx197_bits F hf3).mono (by decide) (by decide))
      by_cases hc4 : r3 ≤ (A3.1 91 84)
      · replace h := if_T h hc4
        obtain ⟨r5, A5, hf5, h⟩ := rz_b_inv h
        have fr5 := fr3.trans ((wx198_goesAll F hf5).mono (by decide) (by decide))
        by_cases hc6 : r5 = 0
        · replace h := if_T h hc6
          replace h := (rz_g32_inv h).2
          exact fr5.trans (ih _ _ _ _ h)
        · replace h := if_F h hc6
          obtain ⟨r8, A8, hf8, h⟩ := rz_b_inv h
          have fr8 := fr5.trans ((wx197_bits F hf8).mono (by decide) (by decide))
          by_cases hc9 : r8 < (A8.1 91 84)
          · replace h := if_T h hc9
            obtain ⟨r10, A10, hf10, h⟩ := rz_b_inv h
            have fr10 := fr8.trans ((wx197_bits F hf10).mono (by decide) (by decide))
            replace h := (rz_g32_inv h).2
            exact (Fr.aI (Fr.aI (Fr.aI (Fr.aI fr10 (Or.inr (by decide))) (Or.inr (by decide))) (Or.inr (by decide))) (Or.inr (by decide))).trans (ih _ _ _ _ h)
          · replace h := if_F h hc9
            replace h := (rz_g32_inv h).2
            replace h := (rz_g32_inv h).2
            exact (Fr.aI fr8 (Or.inr (by decide))).trans (ih _ _ _ _ h)
      · replace h := if_F h hc4
        replace h := (rz_g32_inv h).2
        exact fr3.trans (ih _ _ _ _ h)
    · replace h := if_F h hc2
      cases h
      exact fr
theorem wx193_seeks (F : Nat) {a0 : Int} {A : rz_A} {r : Unit} {A' : rz_A} (h : x193_seeks F a0 A = some (r, A')) : Fr cs_x193_seeks fs_x193_seeks A A' := by
  have fr : Fr cs_x193_seeks fs_x193_seeks A A := Fr.rfl
  unfold x193_seeks at h
  obtain ⟨_, A1, hf1, h⟩ := rz_b_inv h
  have fr1 := fr.trans ((wx194_tries F hf1).mono (by decide) (by decide))
  exact (Fr.aI (Fr.aI (Fr.aI fr1 (Or.inr (by decide))) (Or.inr (by decide))) (Or.inr (by decide))).trans (wx193_seeks_23 F F _ _ _ _ h)
def cs_x191_breaks : List Nat := [132, 133, 136, 144, 145, 146]
def fs_x191_breaks : List (Nat × Nat) := [(91, 54), (91, 76), (91, 80), (91, 84), (91, 85), (91, 86)]
theorem wx191_breaks (F : Nat) {a0 : Int} {a1 : Int} {A : rz_A} {r : Int} {A' : rz_A} (h : x191_breaks F a0 a1 A = some (r, A')) : Fr cs_x191_breaks fs_x191_breaks A A' := by
  have fr : Fr cs_x191_breaks fs_x191_breaks A A := Fr.rfl
  unfold x191_breaks at h
  obtain ⟨r1, A1, hf1, h⟩ := rz_b_inv h
  have fr1 := fr.trans ((wx145_isPost F hf1).mono (by decide) (by decide))
  by_cases hc2 : r1 = 0
  · replace h := if_T h hc2
    obtain ⟨r3, A3, hf3, h⟩ := rz_b_inv h
    have fr3 := fr1.trans ((wx142_no F hf3).mono (by decide) (by decide))
    cases h
    exact fr3
  · replace h := if_F h hc2
    by_cases hc4 : 0 ≤ a1
    · replace h := if_T h hc4
      by_cases hc5 : 3 < a1
      · replace h := if_T h hc5
        obtain ⟨r6, A6, hf6, h⟩ := rz_b_inv h
        have fr6 := fr1.trans ((wx142_no F hf6).mono (by decide) (by decide))
        cases h
        exact fr6
      · replace h := if_F h hc5
        obtain ⟨_, A7, hf7, h⟩ := rz_b_inv h
        have fr7 := fr1.trans ((wx192_gathers F hf7).mono (by decide) (by decide))
        replace h := (rz_gx_inv h).2.2
        by_cases hc10 : (A7.1 96 (a0).toNat) = 0
        · replace h := if_T h hc10
          obtain ⟨r11, A11, hf11, h⟩ := rz_b_inv h
          have fr11 := fr7.trans ((wx142_no F hf11).mono (by decide) (by decide))
          cases h
          exact fr11
        · replace h := if_F h hc10
          by_cases hc12 : (A7.1 91 80) = 0
          · replace h := if_T h hc12
            obtain ⟨r13, A13, hf13, h⟩ := rz_b_inv h
            have fr13 := fr7.trans ((wx142_no F hf13).mono (by decide) (by decide))
            cases h
            exact fr13
          · replace h := if_F h hc12
            by_cases hc14 : a1 = 3
            · replace h := if_T h hc14
              cases h
              exact fr7
            · replace h := if_F h hc14
              obtain ⟨_, A15, hf15, h⟩ := rz_b_inv h
              have fr15 := fr7.trans ((wx193_seeks F hf15).mono (by decide) (by decide))
              by_cases hc16 : (A15.1 91 84) = 99
              · replace h := if_T h hc16
                cases h
                exact fr15
              · replace h := if_F h hc16
                by_cases hc17 : a1 = 0
                · replace h := if_T h hc17
                  cases h
                  exact fr15
                · replace h := if_F h hc17
                  by_cases hc18 : a1 = 1
                  · replace h := if_T h hc18
                    cases h
                    exact fr15
                  · replace h := if_F h hc18
                    cases h
                    exact fr15
    · replace h := if_F h hc4
      obtain ⟨r19, A19, hf19, h⟩ := rz_b_inv h
      have fr19 := fr1.trans ((wx142_no F hf19).mono (by decide) (by decide))
      cases h
      exact fr19
def cs_x199_shift : List Nat := [132, 133, 136, 144, 145, 146]
def fs_x199_shift : List (Nat × Nat) := [(91, 54), (91, 76), (91, 80), (91, 84), (91, 85), (91, 86)]
theorem wx199_shift_156 (F : Nat) : ∀ (A : rz_A) (r : Int) (A' : rz_A), x199_shift_156 F A = some (r, A') → Fr cs_x199_shift fs_x199_shift A A' := by
  intro A r A' h
  have fr : Fr cs_x199_shift fs_x199_shift A A := Fr.rfl
  unfold x199_shift_156 at h
  obtain ⟨r1, A1, hf1, h⟩ := rz_b_inv h
  have fr1 := fr.trans ((wx148_far F hf1).mono (by decide) (by decide))
  cases h
  exact fr1
theorem wx199_shift_89 (F : Nat) : ∀ (n : Nat) (v3 : Int) (v4 : Int) (v5 : Int) (A : rz_A) (r : Int) (A' : rz_A), x199_shift_89 F n v3 v4 v5 A = some (r, A') → Fr cs_x199_shift fs_x199_shift A A' := by
  intro n
  induction n with
  | zero => intro v3 v4 v5 A r A' h; cases h
  | succ n ih =>
    intro v3 v4 v5 A r A' h
    have fr : Fr cs_x199_shift fs_x199_shift A A := Fr.rfl
    rw [x199_shift_89] at h
    by_cases hc1 : v5 < (A.1 91 80)
    · replace h := if_T h hc1
      replace h := (rz_g32_inv h).2
      by_cases hc3 : (v5 + 1) < (A.1 91 80)
      · replace h := if_T h hc3
        by_cases hc4 : (rz_oI fAnd (rz_oI fShr (A.1 91 86) v5) 1) = 0
        · replace h := if_T h hc4
          exact fr.trans (ih _ _ _ _ _ _ h)
        · replace h := if_F h hc4
          replace h := (rz_g32_inv h).2
          by_cases hc6 : v4 = 0
          · replace h := if_T h hc6
            replace h := (rz_g32_inv h).2
            replace h := (rz_g32_inv h).2
            replace h := (rz_gx_inv h).2.2
            cases h
            exact fr
          · replace h := if_F h hc6
            exact fr.trans (ih _ _ _ _ _ _ h)
      · replace h := if_F h hc3
        replace h := (rz_g32_inv h).2
        by_cases hc12 : v4 = 0
        · replace h := if_T h hc12
          replace h := (rz_g32_inv h).2
          replace h := (rz_g32_inv h).2
          replace h := (rz_gx_inv h).2.2
          cases h
          exact fr
        · replace h := if_F h hc12
          exact fr.trans (ih _ _ _ _ _ _ h)
    · replace h := if_F h hc1
      exact fr.trans (wx199_shift_156 F _ _ _ h)
theorem wx199_shift (F : Nat) {a0 : Int} {a1 : Int} {A : rz_A} {r : Int} {A' : rz_A} (h : x199_shift F a0 a1 A = some (r, A')) : Fr cs_x199_shift fs_x199_shift A A' := by
  have fr : Fr cs_x199_shift fs_x199_shift A A := Fr.rfl
  unfold x199_shift at h
  obtain ⟨r1, A1, hf1, h⟩ := rz_b_inv h
  have fr1 := fr.trans ((wx145_isPost F hf1).mono (by decide) (by decide))
  by_cases hc2 : r1 = 0
  · replace h := if_T h hc2
    obtain ⟨r3, A3, hf3, h⟩ := rz_b_inv h
    have fr3 := fr1.trans ((wx148_far F hf3).mono (by decide) (by decide))
    cases h
    exact fr3
  · replace h := if_F h hc2
    obtain ⟨_, A4, hf4, h⟩ := rz_b_inv h
    have fr4 := fr1.trans ((wx192_gathers F hf4).mono (by decide) (by decide))
    replace h := (rz_gx_inv h).2.2
    by_cases hc7 : (A4.1 96 (a0).toNat) = 0
    · replace h := if_T h hc7
      obtain ⟨r8, A8, hf8, h⟩ := rz_b_inv h
      have fr8 := fr4.trans ((wx148_far F hf8).mono (by decide) (by decide))
      cases h
      exact fr8
    · replace h := if_F h hc7
      by_cases hc9 : (A4.1 91 80) = 0
      · replace h := if_T h hc9
        obtain ⟨r10, A10, hf10, h⟩ := rz_b_inv h
        have fr10 := fr4.trans ((wx148_far F hf10).mono (by decide) (by decide))
        cases h
        exact fr10
      · replace h := if_F h hc9
        obtain ⟨_, A11, hf11, h⟩ := rz_b_inv h
        have fr11 := fr4.trans ((wx193_seeks F hf11).mono (by decide) (by decide))
        by_cases hc12 : (A11.1 91 84) = 99
        · replace h := if_T h hc12
          obtain ⟨r13, A13, hf13, h⟩ := rz_b_inv h
          have fr13 := fr11.trans ((wx148_far F hf13).mono (by decide) (by decide))
          cases h
          exact fr13
        · replace h := if_F h hc12
          by_cases hc14 : 0 ≤ a1
          · replace h := if_T h hc14
            by_cases hc15 : (A11.1 91 84) < a1
            · replace h := if_T h hc15
              obtain ⟨r16, A16, hf16, h⟩ := rz_b_inv h
              have fr16 := fr11.trans ((wx148_far F hf16).mono (by decide) (by decide))
              cases h
              exact fr16
            · replace h := if_F h hc15
              exact fr11.trans (wx199_shift_89 F F _ _ _ _ _ _ h)
          · replace h := if_F h hc14
            obtain ⟨r17, A17, hf17, h⟩ := rz_b_inv h
            have fr17 := fr11.trans ((wx148_far F hf17).mono (by decide) (by decide))
            cases h
            exact fr17
def cs_x200_put : List Nat := [131, 132]
def fs_x200_put : List (Nat × Nat) := [(91, 9)]
theorem wx200_put (F : Nat) {a0 : Int} {A : rz_A} {r : Int} {A' : rz_A} (h : x200_put F a0 A = some (r, A')) : Fr cs_x200_put fs_x200_put A A' := by
  have fr : Fr cs_x200_put fs_x200_put A A := Fr.rfl
  unfold x200_put at h
  by_cases hc1 : a0 < (-128)
  · replace h := if_T h hc1
    obtain ⟨r2, A2, hf2, h⟩ := rz_b_inv h
    have fr2 := fr.trans ((wx142_no F hf2).mono (by decide) (by decide))
    cases h
    exact fr2
  · replace h := if_F h hc1
    by_cases hc3 : a0 ≤ 127
    · replace h := if_T h hc3
      by_cases hc4 : (A.1 91 9) = 12
      · replace h := if_T h hc4
        obtain ⟨r5, A5, hf5, h⟩ := rz_b_inv h
        have fr5 := fr.trans ((wx142_no F hf5).mono (by decide) (by decide))
        cases h
        exact fr5
      · replace h := if_F h hc4
        replace h := (rz_g32_inv h).2
        replace h := (rz_gx_inv h).2.2
        cases h
        exact (Fr.aI (Fr.aI fr (Or.inr (by decide))) (Or.inl (by decide)))
    · replace h := if_F h hc3
      obtain ⟨r11, A11, hf11, h⟩ := rz_b_inv h
      have fr11 := fr.trans ((wx142_no F hf11).mono (by decide) (by decide))
      cases h
      exact fr11
def cs_x201_judge : List Nat := [132, 133, 136, 144, 145]
def fs_x201_judge : List (Nat × Nat) := [(91, 9), (91, 54), (91, 76), (91, 80)]
theorem wx201_judge_172 (F : Nat) : ∀ (v2 : Int) (v4 : Int) (A : rz_A) (r : Int) (A' : rz_A), x201_judge_172 F v2 v4 A = some (r, A') → Fr cs_x201_judge fs_x201_judge A A' := by
  intro v2 v4 A r A' h
  have fr : Fr cs_x201_judge fs_x201_judge A A := Fr.rfl
  unfold x201_judge_172 at h
  by_cases hc1 : v4 < v2
  · replace h := if_T h hc1
    cases h
    exact fr
  · replace h := if_F h hc1
    cases h
    exact fr
theorem wx201_judge_129 (F : Nat) {k92 : (Int → Int → Int → Int → Int → rz_A → Option (Int × rz_A))} (hkk92 : ∀ (v1 : Int) (v2 : Int) (v3 : Int) (v4 : Int) (v5 : Int) (A : rz_A) (r : Int) (A' : rz_A), k92 v1 v2 v3 v4 v5 A = some (r, A') → Fr cs_x201_judge fs_x201_judge A A') : ∀ (v1 : Int) (v2 : Int) (v3 : Int) (v4 : Int) (v5 : Int) (A : rz_A) (r : Int) (A' : rz_A), x201_judge_129 F k92 v1 v2 v3 v4 v5 A = some (r, A') → Fr cs_x201_judge fs_x201_judge A A' := by
  intro v1 v2 v3 v4 v5 A r A' h
  have fr : Fr cs_x201_judge fs_x201_judge A A := Fr.rfl
  unfold x201_judge_129 at h
  by_cases hc1 : v2 ≤ v4
  · replace h := if_T h hc1
    cases h
    exact fr
  · replace h := if_F h hc1
    replace h := (rz_gx_inv h).2.2
    obtain ⟨r4, A4, hf4, h⟩ := rz_b_inv h
    have fr4 := fr.trans ((wx196_goes F hf4).mono (by decide) (by decide))
    by_cases hc5 : r4 = 0
    · replace h := if_T h hc5
      cases h
      exact fr4
    · replace h := if_F h hc5
      replace h := (rz_g32_inv h).2
      replace h := (rz_g32_inv h).2
      exact fr4.trans (hkk92 _ _ _ _ _ _ _ _ h)
theorem wx201_judge_92 (F : Nat) : ∀ (n : Nat) (v1 : Int) (v2 : Int) (v3 : Int) (v4 : Int) (v5 : Int) (A : rz_A) (r : Int) (A' : rz_A), x201_judge_92 F n v1 v2 v3 v4 v5 A = some (r, A') → Fr cs_x201_judge fs_x201_judge A A' := by
  intro n
  induction n with
  | zero => intro v1 v2 v3 v4 v5 A r A' h; cases h
  | succ n ih =>
    intro v1 v2 v3 v4 v5 A r A' h
    have fr : Fr cs_x201_judge fs_x201_judge A A := Fr.rfl
    rw [x201_judge_92] at h
    by_cases hc1 : v5 < (A.1 91 80)
    · replace h := if_T h hc1
      replace h := (rz_g32_inv h).2
      by_cases hc3 : (v5 + 1) < (A.1 91 80)
      · replace h := if_T h hc3
        by_cases hc4 : (rz_oI fAnd (rz_oI fShr (A.1 131 0) v5) 1) = 0
        · replace h := if_T h hc4
          exact fr.trans (ih _ _ _ _ _ _ _ _ h)
        · replace h := if_F h hc4
          exact fr.trans (wx201_judge_129 F ih _ _ _ _ _ _ _ _ h)
      · replace h := if_F h hc3
        exact fr.trans (wx201_judge_129 F ih _ _ _ _ _ _ _ _ h)
    · replace h := if_F h hc1
      exact fr.trans (wx201_judge_172 F _ _ _ _ _ h)
theorem wx201_judge (F : Nat) {a0 : Int} {A : rz_A} {r : Int} {A' : rz_A} (h : x201_judge F a0 A = some (r, A')) : Fr cs_x201_judge fs_x201_judge A A' := by
  have fr : Fr cs_x201_judge fs_x201_judge A A := Fr.rfl
  unfold x201_judge at h
  obtain ⟨r1, A1, hf1, h⟩ := rz_b_inv h
  have fr1 := fr.trans ((wx145_isPost F hf1).mono (by decide) (by decide))
  by_cases hc2 : r1 = 0
  · replace h := if_T h hc2
    obtain ⟨r3, A3, hf3, h⟩ := rz_b_inv h
    have fr3 := fr1.trans ((wx142_no F hf3).mono (by decide) (by decide))
    cases h
    exact fr3
  · replace h := if_F h hc2
    obtain ⟨_, A4, hf4, h⟩ := rz_b_inv h
    have fr4 := fr1.trans ((wx192_gathers F hf4).mono (by decide) (by decide))
    replace h := (rz_gx_inv h).2.2
    by_cases hc7 : (A4.1 96 (a0).toNat) = 0
    · replace h := if_T h hc7
      obtain ⟨r8, A8, hf8, h⟩ := rz_b_inv h
      have fr8 := fr4.trans ((wx142_no F hf8).mono (by decide) (by decide))
      cases h
      exact fr8
    · replace h := if_F h hc7
      by_cases hc9 : (A4.1 91 80) = 0
      · replace h := if_T h hc9
        obtain ⟨r10, A10, hf10, h⟩ := rz_b_inv h
        have fr10 := fr4.trans ((wx142_no F hf10).mono (by decide) (by decide))
        cases h
        exact fr10
      · replace h := if_F h hc9
        by_cases hc12 : (A4.1 91 9) = 0
        · replace h := if_T h hc12
          cases h
          exact (Fr.aI fr4 (Or.inr (by decide)))
        · replace h := if_F h hc12
          by_cases hc13 : 0 ≤ (A4.1 131 0)
          · replace h := if_T h hc13
            replace h := (rz_g32_inv h).2
            by_cases hc15 : (rz_oI fShl 1 ((A4.1 91 80) - 1)) ≤ (A4.1 131 0)
            · replace h := if_T h hc15
              cases h
              exact (Fr.aI fr4 (Or.inr (by decide)))
            · replace h := if_F h hc15
              exact (Fr.aI fr4 (Or.inr (by decide))).trans (wx201_judge_92 F F _ _ _ _ _ _ _ _ h)
          · replace h := if_F h hc13
            cases h
            exact (Fr.aI fr4 (Or.inr (by decide)))
def cs_x202_beside : List Nat := [94, 132]
def fs_x202_beside : List (Nat × Nat) := []
theorem wx202_beside_21 (F : Nat) : ∀ (v1 : Int) (v2 : Int) (A : rz_A) (r : Int) (A' : rz_A), x202_beside_21 F v1 v2 A = some (r, A') → Fr cs_x202_beside fs_x202_beside A A' := by
  intro v1 v2 A r A' h
  have fr : Fr cs_x202_beside fs_x202_beside A A := Fr.rfl
  unfold x202_beside_21 at h
  by_cases hc1 : v1 = v2
  · replace h := if_T h hc1
    obtain ⟨r2, A2, hf2, h⟩ := rz_b_inv h
    have fr2 := fr.trans ((wx148_far F hf2).mono (by decide) (by decide))
    cases h
    exact fr2
  · replace h := if_F h hc1
    replace h := (rz_gx_inv h).2.2
    cases h
    exact (Fr.aI fr (Or.inl (by decide)))
theorem wx202_beside (F : Nat) {a0 : Int} {a1 : Int} {A : rz_A} {r : Int} {A' : rz_A} (h : x202_beside F a0 a1 A = some (r, A')) : Fr cs_x202_beside fs_x202_beside A A' := by
  have fr : Fr cs_x202_beside fs_x202_beside A A := Fr.rfl
  unfold x202_beside at h
  obtain ⟨r1, A1, hf1, h⟩ := rz_b_inv h
  have fr1 := fr.trans ((wx145_isPost F hf1).mono (by decide) (by decide))
  by_cases hc2 : r1 = 0
  · replace h := if_T h hc2
    obtain ⟨r3, A3, hf3, h⟩ := rz_b_inv h
    have fr3 := fr1.trans ((wx148_far F hf3).mono (by decide) (by decide))
    cases h
    exact fr3
  · replace h := if_F h hc2
    by_cases hc4 : a1 = (-1)
    · replace h := if_T h hc4
      exact fr1.trans (wx202_beside_21 F _ _ _ _ _ h)
    · replace h := if_F h hc4
      obtain ⟨r5, A5, hf5, h⟩ := rz_b_inv h
      have fr5 := fr1.trans ((wx145_isPost F hf5).mono (by decide) (by decide))
      by_cases hc6 : r5 = 0
      · replace h := if_T h hc6
        obtain ⟨r7, A7, hf7, h⟩ := rz_b_inv h
        have fr7 := fr5.trans ((wx148_far F hf7).mono (by decide) (by decide))
        cases h
        exact fr7
      · replace h := if_F h hc6
        exact fr5.trans (wx202_beside_21 F _ _ _ _ _ h)
def cs_x204_between : List Nat := []
def fs_x204_between : List (Nat × Nat) := []
theorem wx204_between (F : Nat) {a0 : Int} {a1 : Int} {a2 : Int} {a3 : Int} {a4 : Int} {A : rz_A} {r : Int} {A' : rz_A} (h : x204_between F a0 a1 a2 a3 a4 A = some (r, A')) : Fr cs_x204_between fs_x204_between A A' := by
  have fr : Fr cs_x204_between fs_x204_between A A := Fr.rfl
  unfold x204_between at h
  replace h := (rz_g32_inv h).2
  replace h := (rz_g32_inv h).2
  replace h := (rz_g64_inv h).2
  replace h := (rz_g32_inv h).2
  replace h := (rz_gn_inv h).2
  replace h := (rz_g64_inv h).2
  replace h := (rz_g32_inv h).2
  replace h := (rz_g32_inv h).2
  cases h
  exact fr
def cs_x203_gap : List Nat := [132, 133, 136]
def fs_x203_gap : List (Nat × Nat) := [(91, 54)]
theorem wx203_gap_465 (F : Nat) : ∀ (v3 : Int) (v5 : Int) (v7 : Int) (v8 : Int) (v10 : Int) (A : rz_A) (r : Int) (A' : rz_A), x203_gap_465 F v3 v5 v7 v8 v10 A = some (r, A') → Fr cs_x203_gap fs_x203_gap A A' := by
  intro v3 v5 v7 v8 v10 A r A' h
  have fr : Fr cs_x203_gap fs_x203_gap A A := Fr.rfl
  unfold x203_gap_465 at h
  by_cases hc1 : v3 = 0
  · replace h := if_T h hc1
    cases h
    exact fr
  · replace h := if_F h hc1
    by_cases hc2 : v3 = 1
    · replace h := if_T h hc2
      cases h
      exact fr
    · replace h := if_F h hc2
      by_cases hc3 : v3 = 2
      · replace h := if_T h hc3
        cases h
        exact fr
      · replace h := if_F h hc3
        by_cases hc4 : v10 = 0
        · replace h := if_T h hc4
          cases h
          exact fr
        · replace h := if_F h hc4
          cases h
          exact fr
theorem wx203_gap_400 (F : Nat) : ∀ (v2 : Int) (v3 : Int) (v5 : Int) (v7 : Int) (v8 : Int) (v9 : Int) (v10 : Int) (v11 : Int) (v12 : Int) (A : rz_A) (r : Int) (A' : rz_A), x203_gap_400 F v2 v3 v5 v7 v8 v9 v10 v11 v12 A = some (r, A') → Fr cs_x203_gap fs_x203_gap A A' := by
  intro v2 v3 v5 v7 v8 v9 v10 v11 v12 A r A' h
  have fr : Fr cs_x203_gap fs_x203_gap A A := Fr.rfl
  unfold x203_gap_400 at h
  obtain ⟨_, A1, hf1, h⟩ := rz_b_inv h
  have fr1 := fr.trans ((wx157_lays F hf1).mono (by decide) (by decide))
  replace h := (rz_g32_inv h).2
  by_cases hc5 : v10 = 0
  · replace h := if_T h hc5
    obtain ⟨r7, A7, hf7, h⟩ := rz_b_inv h
    have fr7 := (Fr.aL (Fr.aL (Fr.aL fr1 (Or.inl (by decide))) (Or.inl (by decide))) (Or.inl (by decide))).trans ((wx158_says F hf7).mono (by decide) (by decide))
    by_cases hc8 : r7 = 0
    · replace h := if_T h hc8
      obtain ⟨r9, A9, hf9, h⟩ := rz_b_inv h
      have fr9 := fr7.trans ((wx148_far F hf9).mono (by decide) (by decide))
      cases h
      exact fr9
    · replace h := if_F h hc8
      exact fr7.trans (wx203_gap_465 F _ _ _ _ _ _ _ _ h)
  · replace h := if_F h hc5
    obtain ⟨r11, A11, hf11, h⟩ := rz_b_inv h
    have fr11 := (Fr.aL (Fr.aL (Fr.aL fr1 (Or.inl (by decide))) (Or.inl (by decide))) (Or.inl (by decide))).trans ((wx158_says F hf11).mono (by decide) (by decide))
    by_cases hc12 : r11 = 0
    · replace h := if_T h hc12
      obtain ⟨r13, A13, hf13, h⟩ := rz_b_inv h
      have fr13 := fr11.trans ((wx148_far F hf13).mono (by decide) (by decide))
      cases h
      exact fr13
    · replace h := if_F h hc12
      exact fr11.trans (wx203_gap_465 F _ _ _ _ _ _ _ _ h)
theorem wx203_gap_368 (F : Nat) : ∀ (n : Nat) (v2 : Int) (v3 : Int) (v5 : Int) (v7 : Int) (v8 : Int) (v9 : Int) (v10 : Int) (v11 : Int) (v12 : Int) (v13 : Int) (A : rz_A) (r : Int) (A' : rz_A), x203_gap_368 F n v2 v3 v5 v7 v8 v9 v10 v11 v12 v13 A = some (r, A') → Fr cs_x203_gap fs_x203_gap A A' := by
  intro n
  induction n with
  | zero => intro v2 v3 v5 v7 v8 v9 v10 v11 v12 v13 A r A' h; cases h
  | succ n ih =>
    intro v2 v3 v5 v7 v8 v9 v10 v11 v12 v13 A r A' h
    have fr : Fr cs_x203_gap fs_x203_gap A A := Fr.rfl
    rw [x203_gap_368] at h
    by_cases hc1 : v13 < (A.1 91 1)
    · replace h := if_T h hc1
      obtain ⟨r2, A2, hf2, h⟩ := rz_b_inv h
      have fr2 := fr.trans ((wx161_has F hf2).mono (by decide) (by decide))
      by_cases hc3 : r2 = 0
      · replace h := if_T h hc3
        replace h := (rz_g32_inv h).2
        exact fr2.trans (ih _ _ _ _ _ _ _ _ _ _ _ _ _ h)
      · replace h := if_F h hc3
        replace h := (rz_g32_inv h).2
        replace h := (rz_g32_inv h).2
        exact fr2.trans (ih _ _ _ _ _ _ _ _ _ _ _ _ _ h)
    · replace h := if_F h hc1
      exact fr.trans (wx203_gap_400 F _ _ _ _ _ _ _ _ _ _ _ _ h)
theorem wx203_gap_342 (F : Nat) : ∀ (v2 : Int) (v3 : Int) (v5 : Int) (v7 : Int) (v8 : Int) (v9 : Int) (v10 : Int) (A : rz_A) (r : Int) (A' : rz_A), x203_gap_342 F v2 v3 v5 v7 v8 v9 v10 A = some (r, A') → Fr cs_x203_gap fs_x203_gap A A' := by
  intro v2 v3 v5 v7 v8 v9 v10 A r A' h
  have fr : Fr cs_x203_gap fs_x203_gap A A := Fr.rfl
  unfold x203_gap_342 at h
  replace h := (rz_g32_inv h).2
  obtain ⟨r2, A2, hf2, h⟩ := rz_b_inv h
  have fr2 := fr.trans ((wx155_inForce F hf2).mono (by decide) (by decide))
  by_cases hc3 : 0 ≤ r2
  · replace h := if_T h hc3
    exact fr2.trans (wx203_gap_368 F F _ _ _ _ _ _ _ _ _ _ _ _ _ h)
  · replace h := if_F h hc3
    exact fr2.trans (wx203_gap_465 F _ _ _ _ _ _ _ _ h)
theorem wx203_gap_181 (F : Nat) : ∀ (v1 : Int) (v2 : Int) (v3 : Int) (v5 : Int) (v6 : Int) (v7 : Int) (A : rz_A) (r : Int) (A' : rz_A), x203_gap_181 F v1 v2 v3 v5 v6 v7 A = some (r, A') → Fr cs_x203_gap fs_x203_gap A A' := by
  intro v1 v2 v3 v5 v6 v7 A r A' h
  have fr : Fr cs_x203_gap fs_x203_gap A A := Fr.rfl
  unfold x203_gap_181 at h
  by_cases hc1 : v7 ≤ 9999
  · replace h := if_T h hc1
    replace h := (rz_g32_inv h).2
    by_cases hc3 : 200 < (v7 - v5)
    · replace h := if_T h hc3
      obtain ⟨r4, A4, hf4, h⟩ := rz_b_inv h
      have fr4 := fr.trans ((wx148_far F hf4).mono (by decide) (by decide))
      cases h
      exact fr4
    · replace h := if_F h hc3
      obtain ⟨r5, A5, hf5, h⟩ := rz_b_inv h
      have fr5 := fr.trans ((wx204_between F hf5).mono (by decide) (by decide))
      replace h := (rz_gx_inv h).2.2
      by_cases hc8 : 0 ≤ (A5.1 94 (v1).toNat)
      · replace h := if_T h hc8
        obtain ⟨r9, A9, hf9, h⟩ := rz_b_inv h
        have fr9 := fr5.trans ((wx161_has F hf9).mono (by decide) (by decide))
        by_cases hc10 : r9 = 0
        · replace h := if_T h hc10
          exact fr9.trans (wx203_gap_342 F _ _ _ _ _ _ _ _ _ _ h)
        · replace h := if_F h hc10
          obtain ⟨r11, A11, hf11, h⟩ := rz_b_inv h
          have fr11 := fr9.trans ((wx161_has F hf11).mono (by decide) (by decide))
          by_cases hc12 : r11 = 0
          · replace h := if_T h hc12
            exact fr11.trans (wx203_gap_342 F _ _ _ _ _ _ _ _ _ _ h)
          · replace h := if_F h hc12
            obtain ⟨r13, A13, hf13, h⟩ := rz_b_inv h
            have fr13 := fr11.trans ((wx161_has F hf13).mono (by decide) (by decide))
            by_cases hc14 : r13 = 0
            · replace h := if_T h hc14
              exact fr13.trans (wx203_gap_342 F _ _ _ _ _ _ _ _ _ _ h)
            · replace h := if_F h hc14
              obtain ⟨r15, A15, hf15, h⟩ := rz_b_inv h
              have fr15 := fr13.trans ((wx204_between F hf15).mono (by decide) (by decide))
              replace h := (rz_g32_inv h).2
              replace h := (rz_g32_inv h).2
              exact fr15.trans (wx203_gap_342 F _ _ _ _ _ _ _ _ _ _ h)
      · replace h := if_F h hc8
        exact fr5.trans (wx203_gap_342 F _ _ _ _ _ _ _ _ _ _ h)
  · replace h := if_F h hc1
    obtain ⟨r18, A18, hf18, h⟩ := rz_b_inv h
    have fr18 := fr.trans ((wx148_far F hf18).mono (by decide) (by decide))
    cases h
    exact fr18
theorem wx203_gap_142 (F : Nat) : ∀ (n : Nat) (v1 : Int) (v2 : Int) (v3 : Int) (v5 : Int) (v6 : Int) (v7 : Int) (A : rz_A) (r : Int) (A' : rz_A), x203_gap_142 F n v1 v2 v3 v5 v6 v7 A = some (r, A') → Fr cs_x203_gap fs_x203_gap A A' := by
  intro n
  induction n with
  | zero => intro v1 v2 v3 v5 v6 v7 A r A' h; cases h
  | succ n ih =>
    intro v1 v2 v3 v5 v6 v7 A r A' h
    have fr : Fr cs_x203_gap fs_x203_gap A A := Fr.rfl
    rw [x203_gap_142] at h
    by_cases hc1 : v7 ≤ 9999
    · replace h := if_T h hc1
      replace h := (rz_g32_inv h).2
      by_cases hc3 : (v7 - v5) ≤ 200
      · replace h := if_T h hc3
        obtain ⟨r4, A4, hf4, h⟩ := rz_b_inv h
        have fr4 := fr.trans ((wx161_has F hf4).mono (by decide) (by decide))
        by_cases hc5 : r4 = 0
        · replace h := if_T h hc5
          replace h := (rz_g32_inv h).2
          exact fr4.trans (ih _ _ _ _ _ _ _ _ _ h)
        · replace h := if_F h hc5
          exact fr4.trans (wx203_gap_181 F _ _ _ _ _ _ _ _ _ h)
      · replace h := if_F h hc3
        exact fr.trans (wx203_gap_181 F _ _ _ _ _ _ _ _ _ h)
    · replace h := if_F h hc1
      exact fr.trans (wx203_gap_181 F _ _ _ _ _ _ _ _ _ h)
theorem wx203_gap_109 (F : Nat) : ∀ (v1 : Int) (v2 : Int) (v3 : Int) (v5 : Int) (A : rz_A) (r : Int) (A' : rz_A), x203_gap_109 F v1 v2 v3 v5 A = some (r, A') → Fr cs_x203_gap fs_x203_gap A A' := by
  intro v1 v2 v3 v5 A r A' h
  have fr : Fr cs_x203_gap fs_x203_gap A A := Fr.rfl
  unfold x203_gap_109 at h
  by_cases hc1 : 0 ≤ v5
  · replace h := if_T h hc1
    replace h := (rz_g32_inv h).2
    by_cases hc3 : 200 ≤ (v2 - v5)
    · replace h := if_T h hc3
      obtain ⟨r4, A4, hf4, h⟩ := rz_b_inv h
      have fr4 := fr.trans ((wx148_far F hf4).mono (by decide) (by decide))
      cases h
      exact fr4
    · replace h := if_F h hc3
      replace h := (rz_g32_inv h).2
      exact fr.trans (wx203_gap_142 F F _ _ _ _ _ _ _ _ _ h)
  · replace h := if_F h hc1
    obtain ⟨r6, A6, hf6, h⟩ := rz_b_inv h
    have fr6 := fr.trans ((wx148_far F hf6).mono (by decide) (by decide))
    cases h
    exact fr6
theorem wx203_gap_74 (F : Nat) : ∀ (n : Nat) (v1 : Int) (v2 : Int) (v3 : Int) (v5 : Int) (A : rz_A) (r : Int) (A' : rz_A), x203_gap_74 F n v1 v2 v3 v5 A = some (r, A') → Fr cs_x203_gap fs_x203_gap A A' := by
  intro n
  induction n with
  | zero => intro v1 v2 v3 v5 A r A' h; cases h
  | succ n ih =>
    intro v1 v2 v3 v5 A r A' h
    have fr : Fr cs_x203_gap fs_x203_gap A A := Fr.rfl
    rw [x203_gap_74] at h
    by_cases hc1 : 0 ≤ v5
    · replace h := if_T h hc1
      replace h := (rz_g32_inv h).2
      by_cases hc3 : (v2 - v5) < 200
      · replace h := if_T h hc3
        obtain ⟨r4, A4, hf4, h⟩ := rz_b_inv h
        have fr4 := fr.trans ((wx161_has F hf4).mono (by decide) (by decide))
        by_cases hc5 : r4 = 0
        · replace h := if_T h hc5
          replace h := (rz_g32_inv h).2
          exact fr4.trans (ih _ _ _ _ _ _ _ h)
        · replace h := if_F h hc5
          exact fr4.trans (wx203_gap_109 F _ _ _ _ _ _ _ h)
      · replace h := if_F h hc3
        exact fr.trans (wx203_gap_109 F _ _ _ _ _ _ _ h)
    · replace h := if_F h hc1
      exact fr.trans (wx203_gap_109 F _ _ _ _ _ _ _ h)
theorem wx203_gap (F : Nat) {a0 : Int} {a1 : Int} {a2 : Int} {A : rz_A} {r : Int} {A' : rz_A} (h : x203_gap F a0 a1 a2 A = some (r, A')) : Fr cs_x203_gap fs_x203_gap A A' := by
  have fr : Fr cs_x203_gap fs_x203_gap A A := Fr.rfl
  unfold x203_gap at h
  obtain ⟨r1, A1, hf1, h⟩ := rz_b_inv h
  have fr1 := fr.trans ((wx145_isPost F hf1).mono (by decide) (by decide))
  by_cases hc2 : r1 = 0
  · replace h := if_T h hc2
    obtain ⟨r3, A3, hf3, h⟩ := rz_b_inv h
    have fr3 := fr1.trans ((wx148_far F hf3).mono (by decide) (by decide))
    cases h
    exact fr3
  · replace h := if_F h hc2
    by_cases hc4 : 0 ≤ a2
    · replace h := if_T h hc4
      by_cases hc5 : 3 < a2
      · replace h := if_T h hc5
        obtain ⟨r6, A6, hf6, h⟩ := rz_b_inv h
        have fr6 := fr1.trans ((wx148_far F hf6).mono (by decide) (by decide))
        cases h
        exact fr6
      · replace h := if_F h hc5
        obtain ⟨r7, A7, hf7, h⟩ := rz_b_inv h
        have fr7 := fr1.trans ((wx147_times F hf7).mono (by decide) (by decide))
        by_cases hc8 : r7 = 0
        · replace h := if_T h hc8
          obtain ⟨r9, A9, hf9, h⟩ := rz_b_inv h
          have fr9 := fr7.trans ((wx161_has F hf9).mono (by decide) (by decide))
          by_cases hc10 : r9 = 0
          · replace h := if_T h hc10
            replace h := (rz_g32_inv h).2
            exact fr9.trans (wx203_gap_74 F F _ _ _ _ _ _ _ h)
          · replace h := if_F h hc10
            obtain ⟨r12, A12, hf12, h⟩ := rz_b_inv h
            have fr12 := fr9.trans ((wx148_far F hf12).mono (by decide) (by decide))
            cases h
            exact fr12
        · replace h := if_F h hc8
          obtain ⟨r13, A13, hf13, h⟩ := rz_b_inv h
          have fr13 := fr7.trans ((wx148_far F hf13).mono (by decide) (by decide))
          cases h
          exact fr13
    · replace h := if_F h hc4
      obtain ⟨r14, A14, hf14, h⟩ := rz_b_inv h
      have fr14 := fr1.trans ((wx148_far F hf14).mono (by decide) (by decide))
      cases h
      exact fr14
def cs_x205_peak : List Nat := [132, 133, 136, 137, 138, 139, 140, 141, 142, 143]
def fs_x205_peak : List (Nat × Nat) := [(91, 54), (91, 62), (91, 63), (91, 64), (91, 65), (91, 66), (91, 67), (91, 68), (91, 76), (91, 77), (91, 78), (91, 79)]
theorem wx205_peak_150 (F : Nat) : ∀ (v5 : Int) (A : rz_A) (r : Int) (A' : rz_A), x205_peak_150 F v5 A = some (r, A') → Fr cs_x205_peak fs_x205_peak A A' := by
  intro v5 A r A' h
  have fr : Fr cs_x205_peak fs_x205_peak A A := Fr.rfl
  unfold x205_peak_150 at h
  by_cases hc1 : v5 < 0
  · replace h := if_T h hc1
    obtain ⟨r2, A2, hf2, h⟩ := rz_b_inv h
    have fr2 := fr.trans ((wx142_no F hf2).mono (by decide) (by decide))
    cases h
    exact fr2
  · replace h := if_F h hc1
    cases h
    exact fr
theorem wx205_peak_70 (F : Nat) : ∀ (n : Nat) (v1 : Int) (v2 : Int) (v3 : Int) (v4 : Int) (v5 : Int) (v6 : Int) (A : rz_A) (r : Int) (A' : rz_A), x205_peak_70 F n v1 v2 v3 v4 v5 v6 A = some (r, A') → Fr cs_x205_peak fs_x205_peak A A' := by
  intro n
  induction n with
  | zero => intro v1 v2 v3 v4 v5 v6 A r A' h; cases h
  | succ n ih =>
    intro v1 v2 v3 v4 v5 v6 A r A' h
    have fr : Fr cs_x205_peak fs_x205_peak A A := Fr.rfl
    rw [x205_peak_70] at h
    by_cases hc1 : v6 < (A.1 91 3)
    · replace h := if_T h hc1
      replace h := (rz_gx_inv h).2.2
      by_cases hc4 : (A.1 104 (v6).toNat) = v1
      · replace h := if_T h hc4
        by_cases hc5 : v2 ≤ (A.1 105 (v6).toNat)
        · replace h := if_T h hc5
          by_cases hc6 : (A.1 105 (v6).toNat) ≤ v3
          · replace h := if_T h hc6
            obtain ⟨r7, A7, hf7, h⟩ := rz_b_inv h
            have fr7 := fr.trans ((wx188_flows F hf7).mono (by decide) (by decide))
            by_cases hc8 : r7 = 0
            · replace h := if_T h hc8
              replace h := (rz_g32_inv h).2
              exact fr7.trans (ih _ _ _ _ _ _ _ _ _ h)
            · replace h := if_F h hc8
              by_cases hc10 : v5 < (A7.1 91 78)
              · replace h := if_T h hc10
                replace h := (rz_g32_inv h).2
                exact fr7.trans (ih _ _ _ _ _ _ _ _ _ h)
              · replace h := if_F h hc10
                replace h := (rz_g32_inv h).2
                exact fr7.trans (ih _ _ _ _ _ _ _ _ _ h)
          · replace h := if_F h hc6
            replace h := (rz_g32_inv h).2
            exact fr.trans (ih _ _ _ _ _ _ _ _ _ h)
        · replace h := if_F h hc5
          replace h := (rz_g32_inv h).2
          exact fr.trans (ih _ _ _ _ _ _ _ _ _ h)
      · replace h := if_F h hc4
        replace h := (rz_g32_inv h).2
        exact fr.trans (ih _ _ _ _ _ _ _ _ _ h)
    · replace h := if_F h hc1
      exact fr.trans (wx205_peak_150 F _ _ _ _ h)
theorem wx205_peak (F : Nat) {a0 : Int} {a1 : Int} {a2 : Int} {a3 : Int} {A : rz_A} {r : Int} {A' : rz_A} (h : x205_peak F a0 a1 a2 a3 A = some (r, A')) : Fr cs_x205_peak fs_x205_peak A A' := by
  have fr : Fr cs_x205_peak fs_x205_peak A A := Fr.rfl
  unfold x205_peak at h
  obtain ⟨r1, A1, hf1, h⟩ := rz_b_inv h
  have fr1 := fr.trans ((wx145_isPost F hf1).mono (by decide) (by decide))
  by_cases hc2 : r1 = 0
  · replace h := if_T h hc2
    obtain ⟨r3, A3, hf3, h⟩ := rz_b_inv h
    have fr3 := fr1.trans ((wx142_no F hf3).mono (by decide) (by decide))
    cases h
    exact fr3
  · replace h := if_F h hc2
    by_cases hc4 : 0 ≤ a1
    · replace h := if_T h hc4
      by_cases hc5 : 0 ≤ a3
      · replace h := if_T h hc5
        by_cases hc6 : a2 < a1
        · replace h := if_T h hc6
          obtain ⟨r7, A7, hf7, h⟩ := rz_b_inv h
          have fr7 := fr1.trans ((wx142_no F hf7).mono (by decide) (by decide))
          cases h
          exact fr7
        · replace h := if_F h hc6
          by_cases hc8 : a1 ≤ 9999
          · replace h := if_T h hc8
            by_cases hc9 : a2 ≤ 9999
            · replace h := if_T h hc9
              by_cases hc10 : 9999 < a3
              · replace h := if_T h hc10
                obtain ⟨r11, A11, hf11, h⟩ := rz_b_inv h
                have fr11 := fr1.trans ((wx142_no F hf11).mono (by decide) (by decide))
                cases h
                exact fr11
              · replace h := if_F h hc10
                exact fr1.trans (wx205_peak_70 F F _ _ _ _ _ _ _ _ _ h)
            · replace h := if_F h hc9
              obtain ⟨r12, A12, hf12, h⟩ := rz_b_inv h
              have fr12 := fr1.trans ((wx142_no F hf12).mono (by decide) (by decide))
              cases h
              exact fr12
          · replace h := if_F h hc8
            obtain ⟨r13, A13, hf13, h⟩ := rz_b_inv h
            have fr13 := fr1.trans ((wx142_no F hf13).mono (by decide) (by decide))
            cases h
            exact fr13
      · replace h := if_F h hc5
        obtain ⟨r14, A14, hf14, h⟩ := rz_b_inv h
        have fr14 := fr1.trans ((wx142_no F hf14).mono (by decide) (by decide))
        cases h
        exact fr14
    · replace h := if_F h hc4
      obtain ⟨r15, A15, hf15, h⟩ := rz_b_inv h
      have fr15 := fr1.trans ((wx142_no F hf15).mono (by decide) (by decide))
      cases h
      exact fr15
def cs_x206_often : List Nat := [132, 133, 136, 137, 138, 139, 140, 141, 142, 143]
def fs_x206_often : List (Nat × Nat) := [(91, 54), (91, 62), (91, 63), (91, 64), (91, 65), (91, 66), (91, 67), (91, 68), (91, 76), (91, 77), (91, 78), (91, 79)]
theorem wx206_often_137 (F : Nat) : ∀ (n : Nat) (v3 : Int) (v4 : Int) (v5 : Int) (A : rz_A) (r : Int) (A' : rz_A), x206_often_137 F n v3 v4 v5 A = some (r, A') → Fr cs_x206_often fs_x206_often A A' := by
  intro n
  induction n with
  | zero => intro v3 v4 v5 A r A' h; cases h
  | succ n ih =>
    intro v3 v4 v5 A r A' h
    have fr : Fr cs_x206_often fs_x206_often A A := Fr.rfl
    rw [x206_often_137] at h
    by_cases hc1 : v5 < 10
    · replace h := if_T h hc1
      replace h := (rz_g32_inv h).2
      replace h := (rz_g32_inv h).2
      exact fr.trans (ih _ _ _ _ _ _ h)
    · replace h := if_F h hc1
      cases h
      exact fr
theorem wx206_often_44 (F : Nat) : ∀ (n : Nat) (v1 : Int) (v2 : Int) (v3 : Int) (v4 : Int) (A : rz_A) (r : Int) (A' : rz_A), x206_often_44 F n v1 v2 v3 v4 A = some (r, A') → Fr cs_x206_often fs_x206_often A A' := by
  intro n
  induction n with
  | zero => intro v1 v2 v3 v4 A r A' h; cases h
  | succ n ih =>
    intro v1 v2 v3 v4 A r A' h
    have fr : Fr cs_x206_often fs_x206_often A A := Fr.rfl
    rw [x206_often_44] at h
    by_cases hc1 : v4 < (A.1 91 3)
    · replace h := if_T h hc1
      replace h := (rz_gx_inv h).2.2
      by_cases hc4 : (A.1 104 (v4).toNat) = v1
      · replace h := if_T h hc4
        replace h := (rz_g32_inv h).2
        by_cases hc6 : (rz_oI fAnd (rz_oI fShr v3 ((A.1 105 (v4).toNat).tdiv 1000)) 1) = 0
        · replace h := if_T h hc6
          obtain ⟨r7, A7, hf7, h⟩ := rz_b_inv h
          have fr7 := fr.trans ((wx188_flows F hf7).mono (by decide) (by decide))
          by_cases hc8 : r7 = 0
          · replace h := if_T h hc8
            replace h := (rz_g32_inv h).2
            exact fr7.trans (ih _ _ _ _ _ _ _ h)
          · replace h := if_F h hc8
            by_cases hc10 : v2 ≤ (A7.1 91 78)
            · replace h := if_T h hc10
              replace h := (rz_g32_inv h).2
              replace h := (rz_g32_inv h).2
              exact fr7.trans (ih _ _ _ _ _ _ _ h)
            · replace h := if_F h hc10
              replace h := (rz_g32_inv h).2
              exact fr7.trans (ih _ _ _ _ _ _ _ h)
        · replace h := if_F h hc6
          replace h := (rz_g32_inv h).2
          exact fr.trans (ih _ _ _ _ _ _ _ h)
      · replace h := if_F h hc4
        replace h := (rz_g32_inv h).2
        exact fr.trans (ih _ _ _ _ _ _ _ h)
    · replace h := if_F h hc1
      exact fr.trans (wx206_often_137 F F _ _ _ _ _ _ h)
theorem wx206_often (F : Nat) {a0 : Int} {a1 : Int} {A : rz_A} {r : Int} {A' : rz_A} (h : x206_often F a0 a1 A = some (r, A')) : Fr cs_x206_often fs_x206_often A A' := by
  have fr : Fr cs_x206_often fs_x206_often A A := Fr.rfl
  unfold x206_often at h
  obtain ⟨r1, A1, hf1, h⟩ := rz_b_inv h
  have fr1 := fr.trans ((wx145_isPost F hf1).mono (by decide) (by decide))
  by_cases hc2 : r1 = 0
  · replace h := if_T h hc2
    obtain ⟨r3, A3, hf3, h⟩ := rz_b_inv h
    have fr3 := fr1.trans ((wx142_no F hf3).mono (by decide) (by decide))
    cases h
    exact fr3
  · replace h := if_F h hc2
    by_cases hc4 : a1 < 0
    · replace h := if_T h hc4
      obtain ⟨r5, A5, hf5, h⟩ := rz_b_inv h
      have fr5 := fr1.trans ((wx142_no F hf5).mono (by decide) (by decide))
      cases h
      exact fr5
    · replace h := if_F h hc4
      by_cases hc6 : 99999999 < a1
      · replace h := if_T h hc6
        obtain ⟨r7, A7, hf7, h⟩ := rz_b_inv h
        have fr7 := fr1.trans ((wx142_no F hf7).mono (by decide) (by decide))
        cases h
        exact fr7
      · replace h := if_F h hc6
        exact fr1.trans (wx206_often_44 F F _ _ _ _ _ _ _ h)
def cs_x207_agree : List Nat := [132, 133, 136, 137, 138, 139, 140, 141, 142, 143, 147, 148]
def fs_x207_agree : List (Nat × Nat) := [(91, 54), (91, 62), (91, 63), (91, 64), (91, 65), (91, 66), (91, 67), (91, 68), (91, 76), (91, 77), (91, 78), (91, 79)]
theorem wx207_agree_529 (F : Nat) : ∀ (v5 : Int) (v6 : Int) (v7 : Int) (v9 : Int) (v11 : Int) (A : rz_A) (r : Int) (A' : rz_A), x207_agree_529 F v5 v6 v7 v9 v11 A = some (r, A') → Fr cs_x207_agree fs_x207_agree A A' := by
  intro v5 v6 v7 v9 v11 A r A' h
  have fr : Fr cs_x207_agree fs_x207_agree A A := Fr.rfl
  unfold x207_agree_529 at h
  by_cases hc1 : v5 = 0
  · replace h := if_T h hc1
    cases h
    exact fr
  · replace h := if_F h hc1
    by_cases hc2 : v5 = 1
    · replace h := if_T h hc2
      replace h := (rz_gn_inv h).2
      replace h := (rz_g64_inv h).2
      cases h
      exact fr
    · replace h := if_F h hc2
      replace h := (rz_gn_inv h).2
      replace h := (rz_g64_inv h).2
      cases h
      exact fr
theorem wx207_agree_504 (F : Nat) : ∀ (n : Nat) (v5 : Int) (v6 : Int) (v7 : Int) (v9 : Int) (v11 : Int) (v13 : Int) (A : rz_A) (r : Int) (A' : rz_A), x207_agree_504 F n v5 v6 v7 v9 v11 v13 A = some (r, A') → Fr cs_x207_agree fs_x207_agree A A' := by
  intro n
  induction n with
  | zero => intro v5 v6 v7 v9 v11 v13 A r A' h; cases h
  | succ n ih =>
    intro v5 v6 v7 v9 v11 v13 A r A' h
    have fr : Fr cs_x207_agree fs_x207_agree A A := Fr.rfl
    rw [x207_agree_504] at h
    by_cases hc1 : v13 = 0
    · replace h := if_T h hc1
      exact fr.trans (wx207_agree_529 F _ _ _ _ _ _ _ _ h)
    · replace h := if_F h hc1
      replace h := (rz_gn_inv h).2
      replace h := (rz_g64_inv h).2
      exact fr.trans (ih _ _ _ _ _ _ _ _ _ h)
theorem wx207_agree_484 (F : Nat) : ∀ (v5 : Int) (v6 : Int) (v7 : Int) (v9 : Int) (A : rz_A) (r : Int) (A' : rz_A), x207_agree_484 F v5 v6 v7 v9 A = some (r, A') → Fr cs_x207_agree fs_x207_agree A A' := by
  intro v5 v6 v7 v9 A r A' h
  have fr : Fr cs_x207_agree fs_x207_agree A A := Fr.rfl
  unfold x207_agree_484 at h
  by_cases hc1 : v6 < 0
  · replace h := if_T h hc1
    obtain ⟨r2, A2, hf2, h⟩ := rz_b_inv h
    have fr2 := fr.trans ((wx142_no F hf2).mono (by decide) (by decide))
    cases h
    exact fr2
  · replace h := if_F h hc1
    exact fr.trans (wx207_agree_504 F F _ _ _ _ _ _ _ _ _ h)
theorem wx207_agree_437 (F : Nat) {k311 : (Int → Int → Int → Int → Int → Int → Int → rz_A → Option (Int × rz_A))} (hkk311 : ∀ (v3 : Int) (v4 : Int) (v5 : Int) (v6 : Int) (v7 : Int) (v9 : Int) (v11 : Int) (A : rz_A) (r : Int) (A' : rz_A), k311 v3 v4 v5 v6 v7 v9 v11 A = some (r, A') → Fr cs_x207_agree fs_x207_agree A A') : ∀ (v3 : Int) (v4 : Int) (v5 : Int) (v6 : Int) (v7 : Int) (v9 : Int) (v11 : Int) (v12 : Int) (v14 : Int) (A : rz_A) (r : Int) (A' : rz_A), x207_agree_437 F k311 v3 v4 v5 v6 v7 v9 v11 v12 v14 A = some (r, A') → Fr cs_x207_agree fs_x207_agree A A' := by
  intro v3 v4 v5 v6 v7 v9 v11 v12 v14 A r A' h
  have fr : Fr cs_x207_agree fs_x207_agree A A := Fr.rfl
  unfold x207_agree_437 at h
  by_cases hc1 : v14 = 0
  · replace h := if_T h hc1
    replace h := (rz_g32_inv h).2
    exact fr.trans (hkk311 _ _ _ _ _ _ _ _ _ _ h)
  · replace h := if_F h hc1
    by_cases hc3 : 0 ≤ v6
    · replace h := if_T h hc3
      replace h := (rz_g64_inv h).2
      replace h := (rz_g64_inv h).2
      by_cases hc6 : (v7 * v14) ≤ (v12 * v9)
      · replace h := if_T h hc6
        replace h := (rz_g32_inv h).2
        exact fr.trans (hkk311 _ _ _ _ _ _ _ _ _ _ h)
      · replace h := if_F h hc6
        replace h := (rz_g32_inv h).2
        exact fr.trans (hkk311 _ _ _ _ _ _ _ _ _ _ h)
    · replace h := if_F h hc3
      replace h := (rz_g32_inv h).2
      exact fr.trans (hkk311 _ _ _ _ _ _ _ _ _ _ h)
theorem wx207_agree_327 (F : Nat) {k311 : (Int → Int → Int → Int → Int → Int → Int → rz_A → Option (Int × rz_A))} (hkk311 : ∀ (v3 : Int) (v4 : Int) (v5 : Int) (v6 : Int) (v7 : Int) (v9 : Int) (v11 : Int) (A : rz_A) (r : Int) (A' : rz_A), k311 v3 v4 v5 v6 v7 v9 v11 A = some (r, A') → Fr cs_x207_agree fs_x207_agree A A') : ∀ (n : Nat) (v3 : Int) (v4 : Int) (v5 : Int) (v6 : Int) (v7 : Int) (v9 : Int) (v11 : Int) (v12 : Int) (v14 : Int) (v15 : Int) (A : rz_A) (r : Int) (A' : rz_A), x207_agree_327 F k311 n v3 v4 v5 v6 v7 v9 v11 v12 v14 v15 A = some (r, A') → Fr cs_x207_agree fs_x207_agree A A' := by
  intro n
  induction n with
  | zero => intro v3 v4 v5 v6 v7 v9 v11 v12 v14 v15 A r A' h; cases h
  | succ n ih =>
    intro v3 v4 v5 v6 v7 v9 v11 v12 v14 v15 A r A' h
    have fr : Fr cs_x207_agree fs_x207_agree A A := Fr.rfl
    rw [x207_agree_327] at h
    replace h := (rz_g32_inv h).2
    by_cases hc2 : v15 ≤ (v4 - v3)
    · replace h := if_T h hc2
      replace h := (rz_gx_inv h).2.2
      by_cases hc5 : 0 ≤ (A.1 147 (v15).toNat)
      · replace h := if_T h hc5
        replace h := (rz_g32_inv h).2
        replace h := (rz_gx_inv h).2.2
        by_cases hc9 : (A.1 148 ((v15 + v11)).toNat) < 0
        · replace h := if_T h hc9
          replace h := (rz_g32_inv h).2
          exact fr.trans (ih _ _ _ _ _ _ _ _ _ _ _ _ _ h)
        · replace h := if_F h hc9
          by_cases hc11 : (A.1 148 ((v15 + v11)).toNat) < (A.1 147 (v15).toNat)
          · replace h := if_T h hc11
            replace h := (rz_g32_inv h).2
            replace h := (rz_g64_inv h).2
            replace h := (rz_g32_inv h).2
            replace h := (rz_g32_inv h).2
            exact fr.trans (ih _ _ _ _ _ _ _ _ _ _ _ _ _ h)
          · replace h := if_F h hc11
            replace h := (rz_g32_inv h).2
            replace h := (rz_g64_inv h).2
            replace h := (rz_g32_inv h).2
            replace h := (rz_g32_inv h).2
            exact fr.trans (ih _ _ _ _ _ _ _ _ _ _ _ _ _ h)
      · replace h := if_F h hc5
        replace h := (rz_g32_inv h).2
        exact fr.trans (ih _ _ _ _ _ _ _ _ _ _ _ _ _ h)
    · replace h := if_F h hc2
      exact fr.trans (wx207_agree_437 F hkk311 _ _ _ _ _ _ _ _ _ _ _ _ h)
theorem wx207_agree_311 (F : Nat) : ∀ (n : Nat) (v3 : Int) (v4 : Int) (v5 : Int) (v6 : Int) (v7 : Int) (v9 : Int) (v11 : Int) (A : rz_A) (r : Int) (A' : rz_A), x207_agree_311 F n v3 v4 v5 v6 v7 v9 v11 A = some (r, A') → Fr cs_x207_agree fs_x207_agree A A' := by
  intro n
  induction n with
  | zero => intro v3 v4 v5 v6 v7 v9 v11 A r A' h; cases h
  | succ n ih =>
    intro v3 v4 v5 v6 v7 v9 v11 A r A' h
    have fr : Fr cs_x207_agree fs_x207_agree A A := Fr.rfl
    rw [x207_agree_311] at h
    by_cases hc1 : v11 < 21
    · replace h := if_T h hc1
      exact fr.trans (wx207_agree_327 F ih F _ _ _ _ _ _ _ _ _ _ _ _ _ h)
    · replace h := if_F h hc1
      exact fr.trans (wx207_agree_484 F _ _ _ _ _ _ _ h)
theorem wx207_agree_299 (F : Nat) : ∀ (v3 : Int) (v4 : Int) (v5 : Int) (A : rz_A) (r : Int) (A' : rz_A), x207_agree_299 F v3 v4 v5 A = some (r, A') → Fr cs_x207_agree fs_x207_agree A A' := by
  intro v3 v4 v5 A r A' h
  have fr : Fr cs_x207_agree fs_x207_agree A A := Fr.rfl
  unfold x207_agree_299 at h
  exact fr.trans (wx207_agree_311 F F _ _ _ _ _ _ _ _ _ _ h)
theorem wx207_agree_212 (F : Nat) : ∀ (n : Nat) (v2 : Int) (v3 : Int) (v4 : Int) (v5 : Int) (v6 : Int) (A : rz_A) (r : Int) (A' : rz_A), x207_agree_212 F n v2 v3 v4 v5 v6 A = some (r, A') → Fr cs_x207_agree fs_x207_agree A A' := by
  intro n
  induction n with
  | zero => intro v2 v3 v4 v5 v6 A r A' h; cases h
  | succ n ih =>
    intro v2 v3 v4 v5 v6 A r A' h
    have fr : Fr cs_x207_agree fs_x207_agree A A := Fr.rfl
    rw [x207_agree_212] at h
    by_cases hc1 : v6 < (A.1 91 3)
    · replace h := if_T h hc1
      replace h := (rz_gx_inv h).2.2
      replace h := (rz_g32_inv h).2
      by_cases hc5 : (A.1 104 (v6).toNat) = v2
      · replace h := if_T h hc5
        by_cases hc6 : 0 ≤ ((A.1 105 (v6).toNat) - v3)
        · replace h := if_T h hc6
          replace h := (rz_g32_inv h).2
          by_cases hc8 : (A.1 105 (v6).toNat) ≤ (v4 + 20)
          · replace h := if_T h hc8
            obtain ⟨r9, A9, hf9, h⟩ := rz_b_inv h
            have fr9 := fr.trans ((wx188_flows F hf9).mono (by decide) (by decide))
            by_cases hc10 : r9 = 0
            · replace h := if_T h hc10
              replace h := (rz_g32_inv h).2
              exact fr9.trans (ih _ _ _ _ _ _ _ _ h)
            · replace h := if_F h hc10
              replace h := (rz_gx_inv h).2.2
              replace h := (rz_g32_inv h).2
              exact (Fr.aI fr9 (Or.inl (by decide))).trans (ih _ _ _ _ _ _ _ _ h)
          · replace h := if_F h hc8
            replace h := (rz_g32_inv h).2
            exact fr.trans (ih _ _ _ _ _ _ _ _ h)
        · replace h := if_F h hc6
          replace h := (rz_g32_inv h).2
          exact fr.trans (ih _ _ _ _ _ _ _ _ h)
      · replace h := if_F h hc5
        replace h := (rz_g32_inv h).2
        exact fr.trans (ih _ _ _ _ _ _ _ _ h)
    · replace h := if_F h hc1
      exact fr.trans (wx207_agree_299 F _ _ _ _ _ _ h)
theorem wx207_agree_125 (F : Nat) : ∀ (n : Nat) (v1 : Int) (v2 : Int) (v3 : Int) (v4 : Int) (v5 : Int) (v6 : Int) (A : rz_A) (r : Int) (A' : rz_A), x207_agree_125 F n v1 v2 v3 v4 v5 v6 A = some (r, A') → Fr cs_x207_agree fs_x207_agree A A' := by
  intro n
  induction n with
  | zero => intro v1 v2 v3 v4 v5 v6 A r A' h; cases h
  | succ n ih =>
    intro v1 v2 v3 v4 v5 v6 A r A' h
    have fr : Fr cs_x207_agree fs_x207_agree A A := Fr.rfl
    rw [x207_agree_125] at h
    by_cases hc1 : v6 < (A.1 91 3)
    · replace h := if_T h hc1
      replace h := (rz_gx_inv h).2.2
      replace h := (rz_g32_inv h).2
      by_cases hc5 : (A.1 104 (v6).toNat) = v1
      · replace h := if_T h hc5
        by_cases hc6 : 0 ≤ ((A.1 105 (v6).toNat) - v3)
        · replace h := if_T h hc6
          by_cases hc7 : (A.1 105 (v6).toNat) ≤ v4
          · replace h := if_T h hc7
            obtain ⟨r8, A8, hf8, h⟩ := rz_b_inv h
            have fr8 := fr.trans ((wx188_flows F hf8).mono (by decide) (by decide))
            by_cases hc9 : r8 = 0
            · replace h := if_T h hc9
              replace h := (rz_g32_inv h).2
              exact fr8.trans (ih _ _ _ _ _ _ _ _ _ h)
            · replace h := if_F h hc9
              replace h := (rz_gx_inv h).2.2
              replace h := (rz_g32_inv h).2
              exact (Fr.aI fr8 (Or.inl (by decide))).trans (ih _ _ _ _ _ _ _ _ _ h)
          · replace h := if_F h hc7
            replace h := (rz_g32_inv h).2
            exact fr.trans (ih _ _ _ _ _ _ _ _ _ h)
        · replace h := if_F h hc6
          replace h := (rz_g32_inv h).2
          exact fr.trans (ih _ _ _ _ _ _ _ _ _ h)
      · replace h := if_F h hc5
        replace h := (rz_g32_inv h).2
        exact fr.trans (ih _ _ _ _ _ _ _ _ _ h)
    · replace h := if_F h hc1
      exact fr.trans (wx207_agree_212 F F _ _ _ _ _ _ _ _ h)
theorem wx207_agree_92 (F : Nat) : ∀ (n : Nat) (v1 : Int) (v2 : Int) (v3 : Int) (v4 : Int) (v5 : Int) (v6 : Int) (A : rz_A) (r : Int) (A' : rz_A), x207_agree_92 F n v1 v2 v3 v4 v5 v6 A = some (r, A') → Fr cs_x207_agree fs_x207_agree A A' := by
  intro n
  induction n with
  | zero => intro v1 v2 v3 v4 v5 v6 A r A' h; cases h
  | succ n ih =>
    intro v1 v2 v3 v4 v5 v6 A r A' h
    have fr : Fr cs_x207_agree fs_x207_agree A A := Fr.rfl
    rw [x207_agree_92] at h
    by_cases hc1 : v6 < 400
    · replace h := if_T h hc1
      replace h := (rz_gx_inv h).2.2
      replace h := (rz_g32_inv h).2
      exact (Fr.aI (Fr.aI fr (Or.inl (by decide))) (Or.inl (by decide))).trans (ih _ _ _ _ _ _ _ _ _ h)
    · replace h := if_F h hc1
      exact fr.trans (wx207_agree_125 F F _ _ _ _ _ _ _ _ _ h)
theorem wx207_agree (F : Nat) {a0 : Int} {a1 : Int} {a2 : Int} {a3 : Int} {a4 : Int} {A : rz_A} {r : Int} {A' : rz_A} (h : x207_agree F a0 a1 a2 a3 a4 A = some (r, A')) : Fr cs_x207_agree fs_x207_agree A A' := by
  have fr : Fr cs_x207_agree fs_x207_agree A A := Fr.rfl
  unfold x207_agree at h
  obtain ⟨r1, A1, hf1, h⟩ := rz_b_inv h
  have fr1 := fr.trans ((wx145_isPost F hf1).mono (by decide) (by decide))
  by_cases hc2 : r1 = 0
  · replace h := if_T h hc2
    obtain ⟨r3, A3, hf3, h⟩ := rz_b_inv h
    have fr3 := fr1.trans ((wx142_no F hf3).mono (by decide) (by decide))
    cases h
    exact fr3
  · replace h := if_F h hc2
    obtain ⟨r4, A4, hf4, h⟩ := rz_b_inv h
    have fr4 := fr1.trans ((wx145_isPost F hf4).mono (by decide) (by decide))
    by_cases hc5 : r4 = 0
    · replace h := if_T h hc5
      obtain ⟨r6, A6, hf6, h⟩ := rz_b_inv h
      have fr6 := fr4.trans ((wx142_no F hf6).mono (by decide) (by decide))
      cases h
      exact fr6
    · replace h := if_F h hc5
      by_cases hc7 : 0 ≤ a4
      · replace h := if_T h hc7
        by_cases hc8 : 2 < a4
        · replace h := if_T h hc8
          obtain ⟨r9, A9, hf9, h⟩ := rz_b_inv h
          have fr9 := fr4.trans ((wx142_no F hf9).mono (by decide) (by decide))
          cases h
          exact fr9
        · replace h := if_F h hc8
          by_cases hc10 : 0 ≤ a2
          · replace h := if_T h hc10
            by_cases hc11 : a3 < a2
            · replace h := if_T h hc11
              obtain ⟨r12, A12, hf12, h⟩ := rz_b_inv h
              have fr12 := fr4.trans ((wx142_no F hf12).mono (by decide) (by decide))
              cases h
              exact fr12
            · replace h := if_F h hc11
              by_cases hc13 : a2 ≤ 9999
              · replace h := if_T h hc13
                by_cases hc14 : a3 ≤ 9999
                · replace h := if_T h hc14
                  replace h := (rz_g32_inv h).2
                  by_cases hc16 : 299 < (a3 - a2)
                  · replace h := if_T h hc16
                    obtain ⟨r17, A17, hf17, h⟩ := rz_b_inv h
                    have fr17 := fr4.trans ((wx142_no F hf17).mono (by decide) (by decide))
                    cases h
                    exact fr17
                  · replace h := if_F h hc16
                    exact fr4.trans (wx207_agree_92 F F _ _ _ _ _ _ _ _ _ h)
                · replace h := if_F h hc14
                  obtain ⟨r18, A18, hf18, h⟩ := rz_b_inv h
                  have fr18 := fr4.trans ((wx142_no F hf18).mono (by decide) (by decide))
                  cases h
                  exact fr18
              · replace h := if_F h hc13
                obtain ⟨r19, A19, hf19, h⟩ := rz_b_inv h
                have fr19 := fr4.trans ((wx142_no F hf19).mono (by decide) (by decide))
                cases h
                exact fr19
          · replace h := if_F h hc10
            obtain ⟨r20, A20, hf20, h⟩ := rz_b_inv h
            have fr20 := fr4.trans ((wx142_no F hf20).mono (by decide) (by decide))
            cases h
            exact fr20
      · replace h := if_F h hc7
        obtain ⟨r21, A21, hf21, h⟩ := rz_b_inv h
        have fr21 := fr4.trans ((wx142_no F hf21).mono (by decide) (by decide))
        cases h
        exact fr21
def cs_x208_next : List Nat := [132, 133, 136, 137, 138, 139, 140, 141, 142, 143]
def fs_x208_next : List (Nat × Nat) := [(91, 54), (91, 62), (91, 63), (91, 64), (91, 65), (91, 66), (91, 67), (91, 68)]
theorem wx208_next_215 (F : Nat) : ∀ (v4 : Int) (A : rz_A) (r : Int) (A' : rz_A), x208_next_215 F v4 A = some (r, A') → Fr cs_x208_next fs_x208_next A A' := by
  intro v4 A r A' h
  have fr : Fr cs_x208_next fs_x208_next A A := Fr.rfl
  unfold x208_next_215 at h
  replace h := (rz_gx_inv h).2.2
  replace h := (rz_g32_inv h).2
  replace h := (rz_gx_inv h).2.2
  replace h := (rz_g32_inv h).2
  obtain ⟨r7, A7, hf7, h⟩ := rz_b_inv h
  have fr7 := fr.trans ((wx131_floorDiv F hf7).mono (by decide) (by decide))
  cases h
  exact fr7
theorem wx208_next_168 (F : Nat) {k52 : (Int → Int → Int → Int → rz_A → Option (Int × rz_A))} (hkk52 : ∀ (v1 : Int) (v2 : Int) (v4 : Int) (v5 : Int) (A : rz_A) (r : Int) (A' : rz_A), k52 v1 v2 v4 v5 A = some (r, A') → Fr cs_x208_next fs_x208_next A A') : ∀ (v1 : Int) (v2 : Int) (v4 : Int) (v5 : Int) (v6 : Int) (A : rz_A) (r : Int) (A' : rz_A), x208_next_168 F k52 v1 v2 v4 v5 v6 A = some (r, A') → Fr cs_x208_next fs_x208_next A A' := by
  intro v1 v2 v4 v5 v6 A r A' h
  have fr : Fr cs_x208_next fs_x208_next A A := Fr.rfl
  unfold x208_next_168 at h
  replace h := (rz_g32_inv h).2
  replace h := (rz_gx_inv h).2.2
  replace h := (rz_gx_inv h).2.2
  replace h := (rz_g32_inv h).2
  replace h := (rz_g64_inv h).2
  by_cases hc8 : (((A.1 137 ((v5 + 1)).toNat) - (A.1 137 (v5).toNat)) * v6) ≤ v2
  · replace h := if_T h hc8
    exact fr.trans (hkk52 _ _ _ _ _ _ _ h)
  · replace h := if_F h hc8
    exact fr.trans (hkk52 _ _ _ _ _ _ _ h)
theorem wx208_next_69 (F : Nat) {k52 : (Int → Int → Int → Int → rz_A → Option (Int × rz_A))} (hkk52 : ∀ (v1 : Int) (v2 : Int) (v4 : Int) (v5 : Int) (A : rz_A) (r : Int) (A' : rz_A), k52 v1 v2 v4 v5 A = some (r, A') → Fr cs_x208_next fs_x208_next A A') : ∀ (n : Nat) (v1 : Int) (v2 : Int) (v4 : Int) (v5 : Int) (v6 : Int) (v7 : Int) (A : rz_A) (r : Int) (A' : rz_A), x208_next_69 F k52 n v1 v2 v4 v5 v6 v7 A = some (r, A') → Fr cs_x208_next fs_x208_next A A' := by
  intro n
  induction n with
  | zero => intro v1 v2 v4 v5 v6 v7 A r A' h; cases h
  | succ n ih =>
    intro v1 v2 v4 v5 v6 v7 A r A' h
    have fr : Fr cs_x208_next fs_x208_next A A := Fr.rfl
    rw [x208_next_69] at h
    by_cases hc1 : v7 < (A.1 91 3)
    · replace h := if_T h hc1
      replace h := (rz_gx_inv h).2.2
      by_cases hc4 : (A.1 104 (v7).toNat) = v1
      · replace h := if_T h hc4
        obtain ⟨r5, A5, hf5, h⟩ := rz_b_inv h
        have fr5 := fr.trans ((wx162_which F hf5).mono (by decide) (by decide))
        by_cases hc6 : r5 = v7
        · replace h := if_T h hc6
          obtain ⟨r7, A7, hf7, h⟩ := rz_b_inv h
          have fr7 := fr5.trans ((wx161_has F hf7).mono (by decide) (by decide))
          by_cases hc8 : r7 = 0
          · replace h := if_T h hc8
            replace h := (rz_g32_inv h).2
            exact fr7.trans (ih _ _ _ _ _ _ _ _ _ h)
          · replace h := if_F h hc8
            replace h := (rz_gx_inv h).2.2
            by_cases hc12 : (A7.1 137 (v5).toNat) < (A7.1 91 54)
            · replace h := if_T h hc12
              replace h := (rz_g32_inv h).2
              replace h := (rz_gx_inv h).2.2
              by_cases hc16 : (A7.1 91 54) < (A7.1 137 ((v5 + 1)).toNat)
              · replace h := if_T h hc16
                replace h := (rz_g32_inv h).2
                replace h := (rz_g32_inv h).2
                exact fr7.trans (ih _ _ _ _ _ _ _ _ _ h)
              · replace h := if_F h hc16
                replace h := (rz_g32_inv h).2
                exact fr7.trans (ih _ _ _ _ _ _ _ _ _ h)
            · replace h := if_F h hc12
              replace h := (rz_g32_inv h).2
              exact fr7.trans (ih _ _ _ _ _ _ _ _ _ h)
        · replace h := if_F h hc6
          replace h := (rz_g32_inv h).2
          exact fr5.trans (ih _ _ _ _ _ _ _ _ _ h)
      · replace h := if_F h hc4
        replace h := (rz_g32_inv h).2
        exact fr.trans (ih _ _ _ _ _ _ _ _ _ h)
    · replace h := if_F h hc1
      exact fr.trans (wx208_next_168 F hkk52 _ _ _ _ _ _ _ _ h)
theorem wx208_next_52 (F : Nat) : ∀ (n : Nat) (v1 : Int) (v2 : Int) (v4 : Int) (v5 : Int) (A : rz_A) (r : Int) (A' : rz_A), x208_next_52 F n v1 v2 v4 v5 A = some (r, A') → Fr cs_x208_next fs_x208_next A A' := by
  intro n
  induction n with
  | zero => intro v1 v2 v4 v5 A r A' h; cases h
  | succ n ih =>
    intro v1 v2 v4 v5 A r A' h
    have fr : Fr cs_x208_next fs_x208_next A A := Fr.rfl
    rw [x208_next_52] at h
    replace h := (rz_g32_inv h).2
    by_cases hc2 : (v5 + 1) < (A.1 91 67)
    · replace h := if_T h hc2
      exact fr.trans (wx208_next_69 F ih F _ _ _ _ _ _ _ _ _ h)
    · replace h := if_F h hc2
      exact fr.trans (wx208_next_215 F _ _ _ _ h)
theorem wx208_next (F : Nat) {a0 : Int} {A : rz_A} {r : Int} {A' : rz_A} (h : x208_next F a0 A = some (r, A')) : Fr cs_x208_next fs_x208_next A A' := by
  have fr : Fr cs_x208_next fs_x208_next A A := Fr.rfl
  unfold x208_next at h
  obtain ⟨r1, A1, hf1, h⟩ := rz_b_inv h
  have fr1 := fr.trans ((wx145_isPost F hf1).mono (by decide) (by decide))
  by_cases hc2 : r1 = 0
  · replace h := if_T h hc2
    obtain ⟨r3, A3, hf3, h⟩ := rz_b_inv h
    have fr3 := fr1.trans ((wx148_far F hf3).mono (by decide) (by decide))
    cases h
    exact fr3
  · replace h := if_F h hc2
    obtain ⟨_, A4, hf4, h⟩ := rz_b_inv h
    have fr4 := fr1.trans ((wx182_makes F hf4).mono (by decide) (by decide))
    by_cases hc5 : (A4.1 91 67) < 2
    · replace h := if_T h hc5
      obtain ⟨r6, A6, hf6, h⟩ := rz_b_inv h
      have fr6 := fr4.trans ((wx148_far F hf6).mono (by decide) (by decide))
      cases h
      exact fr6
    · replace h := if_F h hc5
      exact fr4.trans (wx208_next_52 F F _ _ _ _ _ _ _ h)
def cs_x209_publish : List Nat := [127, 128, 129, 132, 133, 136, 137, 138, 139, 140, 141, 142, 143]
def fs_x209_publish : List (Nat × Nat) := [(91, 7), (91, 54), (91, 62), (91, 63), (91, 64), (91, 65), (91, 66), (91, 67), (91, 68), (91, 76), (91, 77), (91, 78), (91, 79)]
theorem wx209_publish_168 (F : Nat) : ∀ (v1 : Int) (v2 : Int) (A : rz_A) (r : Int) (A' : rz_A), x209_publish_168 F v1 v2 A = some (r, A') → Fr cs_x209_publish fs_x209_publish A A' := by
  intro v1 v2 A r A' h
  have fr : Fr cs_x209_publish fs_x209_publish A A := Fr.rfl
  unfold x209_publish_168 at h
  replace h := (rz_gx_inv h).2.2
  replace h := (rz_g32_inv h).2
  cases h
  exact (Fr.aI (Fr.aI (Fr.aI (Fr.aI fr (Or.inl (by decide))) (Or.inl (by decide))) (Or.inl (by decide))) (Or.inr (by decide)))
theorem wx209_publish (F : Nat) {a0 : Int} {a1 : Int} {A : rz_A} {r : Int} {A' : rz_A} (h : x209_publish F a0 a1 A = some (r, A')) : Fr cs_x209_publish fs_x209_publish A A' := by
  have fr : Fr cs_x209_publish fs_x209_publish A A := Fr.rfl
  unfold x209_publish at h
  obtain ⟨r1, A1, hf1, h⟩ := rz_b_inv h
  have fr1 := fr.trans ((wx145_isPost F hf1).mono (by decide) (by decide))
  by_cases hc2 : r1 = 0
  · replace h := if_T h hc2
    obtain ⟨r3, A3, hf3, h⟩ := rz_b_inv h
    have fr3 := fr1.trans ((wx142_no F hf3).mono (by decide) (by decide))
    cases h
    exact fr3
  · replace h := if_F h hc2
    obtain ⟨r4, A4, hf4, h⟩ := rz_b_inv h
    have fr4 := fr1.trans ((wx147_times F hf4).mono (by decide) (by decide))
    by_cases hc5 : r4 = 0
    · replace h := if_T h hc5
      by_cases hc6 : (A4.1 91 7) = 40
      · replace h := if_T h hc6
        obtain ⟨r7, A7, hf7, h⟩ := rz_b_inv h
        have fr7 := fr4.trans ((wx142_no F hf7).mono (by decide) (by decide))
        cases h
        exact fr7
      · replace h := if_F h hc6
        obtain ⟨r8, A8, hf8, h⟩ := rz_b_inv h
        have fr8 := fr4.trans ((wx188_flows F hf8).mono (by decide) (by decide))
        by_cases hc9 : r8 = 0
        · replace h := if_T h hc9
          obtain ⟨r10, A10, hf10, h⟩ := rz_b_inv h
          have fr10 := fr8.trans ((wx142_no F hf10).mono (by decide) (by decide))
          cases h
          exact fr10
        · replace h := if_F h hc9
          replace h := (rz_g32_inv h).2
          obtain ⟨r12, A12, hf12, h⟩ := rz_b_inv h
          have fr12 := fr8.trans ((wx155_inForce F hf12).mono (by decide) (by decide))
          by_cases hc13 : 0 ≤ r12
          · replace h := if_T h hc13
            obtain ⟨_, A14, hf14, h⟩ := rz_b_inv h
            have fr14 := fr12.trans ((wx157_lays F hf14).mono (by decide) (by decide))
            by_cases hc17 : (A14.1 91 76) = 0
            · replace h := if_T h hc17
              by_cases hc19 : (A14.1 91 77) = 0
              · replace h := if_T h hc19
                obtain ⟨r21, A21, hf21, h⟩ := rz_b_inv h
                have fr21 := (Fr.aL (Fr.aL (Fr.aL (Fr.aL fr14 (Or.inl (by decide))) (Or.inl (by decide))) (Or.inl (by decide))) (Or.inl (by decide))).trans ((wx158_says F hf21).mono (by decide) (by decide))
                by_cases hc22 : r21 = 0
                · replace h := if_T h hc22
                  obtain ⟨r23, A23, hf23, h⟩ := rz_b_inv h
                  have fr23 := fr21.trans ((wx142_no F hf23).mono (by decide) (by decide))
                  cases h
                  exact fr23
                · replace h := if_F h hc22
                  exact fr21.trans (wx209_publish_168 F _ _ _ _ _ h)
              · replace h := if_F h hc19
                obtain ⟨r25, A25, hf25, h⟩ := rz_b_inv h
                have fr25 := (Fr.aL (Fr.aL (Fr.aL (Fr.aL fr14 (Or.inl (by decide))) (Or.inl (by decide))) (Or.inl (by decide))) (Or.inl (by decide))).trans ((wx158_says F hf25).mono (by decide) (by decide))
                by_cases hc26 : r25 = 0
                · replace h := if_T h hc26
                  obtain ⟨r27, A27, hf27, h⟩ := rz_b_inv h
                  have fr27 := fr25.trans ((wx142_no F hf27).mono (by decide) (by decide))
                  cases h
                  exact fr27
                · replace h := if_F h hc26
                  exact fr25.trans (wx209_publish_168 F _ _ _ _ _ h)
            · replace h := if_F h hc17
              by_cases hc29 : (A14.1 91 77) = 0
              · replace h := if_T h hc29
                obtain ⟨r31, A31, hf31, h⟩ := rz_b_inv h
                have fr31 := (Fr.aL (Fr.aL (Fr.aL (Fr.aL fr14 (Or.inl (by decide))) (Or.inl (by decide))) (Or.inl (by decide))) (Or.inl (by decide))).trans ((wx158_says F hf31).mono (by decide) (by decide))
                by_cases hc32 : r31 = 0
                · replace h := if_T h hc32
                  obtain ⟨r33, A33, hf33, h⟩ := rz_b_inv h
                  have fr33 := fr31.trans ((wx142_no F hf33).mono (by decide) (by decide))
                  cases h
                  exact fr33
                · replace h := if_F h hc32
                  exact fr31.trans (wx209_publish_168 F _ _ _ _ _ h)
              · replace h := if_F h hc29
                obtain ⟨r35, A35, hf35, h⟩ := rz_b_inv h
                have fr35 := (Fr.aL (Fr.aL (Fr.aL (Fr.aL fr14 (Or.inl (by decide))) (Or.inl (by decide))) (Or.inl (by decide))) (Or.inl (by decide))).trans ((wx158_says F hf35).mono (by decide) (by decide))
                by_cases hc36 : r35 = 0
                · replace h := if_T h hc36
                  obtain ⟨r37, A37, hf37, h⟩ := rz_b_inv h
                  have fr37 := fr35.trans ((wx142_no F hf37).mono (by decide) (by decide))
                  cases h
                  exact fr37
                · replace h := if_F h hc36
                  exact fr35.trans (wx209_publish_168 F _ _ _ _ _ h)
          · replace h := if_F h hc13
            exact fr12.trans (wx209_publish_168 F _ _ _ _ _ h)
    · replace h := if_F h hc5
      obtain ⟨r38, A38, hf38, h⟩ := rz_b_inv h
      have fr38 := fr4.trans ((wx142_no F hf38).mono (by decide) (by decide))
      cases h
      exact fr38
def cs_x210_published : List Nat := [132, 133, 136, 137, 138, 139, 140, 141, 142, 143]
def fs_x210_published : List (Nat × Nat) := [(91, 54), (91, 62), (91, 63), (91, 64), (91, 65), (91, 66), (91, 67), (91, 68), (91, 76), (91, 77), (91, 78), (91, 79)]
theorem wx210_published (F : Nat) {a0 : Int} {a1 : Int} {A : rz_A} {r : Int} {A' : rz_A} (h : x210_published F a0 a1 A = some (r, A')) : Fr cs_x210_published fs_x210_published A A' := by
  have fr : Fr cs_x210_published fs_x210_published A A := Fr.rfl
  unfold x210_published at h
  by_cases hc1 : 0 ≤ a0
  · replace h := if_T h hc1
    by_cases hc2 : (A.1 91 7) ≤ a0
    · replace h := if_T h hc2
      obtain ⟨r3, A3, hf3, h⟩ := rz_b_inv h
      have fr3 := fr.trans ((wx142_no F hf3).mono (by decide) (by decide))
      cases h
      exact fr3
    · replace h := if_F h hc2
      by_cases hc4 : 0 ≤ a1
      · replace h := if_T h hc4
        by_cases hc5 : 3 < a1
        · replace h := if_T h hc5
          obtain ⟨r6, A6, hf6, h⟩ := rz_b_inv h
          have fr6 := fr.trans ((wx142_no F hf6).mono (by decide) (by decide))
          cases h
          exact fr6
        · replace h := if_F h hc5
          by_cases hc7 : a1 = 0
          · replace h := if_T h hc7
            replace h := (rz_gx_inv h).2.2
            cases h
            exact fr
          · replace h := if_F h hc7
            by_cases hc10 : a1 = 1
            · replace h := if_T h hc10
              replace h := (rz_gx_inv h).2.2
              cases h
              exact fr
            · replace h := if_F h hc10
              by_cases hc13 : a1 = 2
              · replace h := if_T h hc13
                replace h := (rz_gx_inv h).2.2
                cases h
                exact fr
              · replace h := if_F h hc13
                replace h := (rz_gx_inv h).2.2
                obtain ⟨r18, A18, hf18, h⟩ := rz_b_inv h
                have fr18 := fr.trans ((wx188_flows F hf18).mono (by decide) (by decide))
                by_cases hc19 : r18 = 0
                · replace h := if_T h hc19
                  cases h
                  exact fr18
                · replace h := if_F h hc19
                  cases h
                  exact fr18
      · replace h := if_F h hc4
        obtain ⟨r20, A20, hf20, h⟩ := rz_b_inv h
        have fr20 := fr.trans ((wx142_no F hf20).mono (by decide) (by decide))
        cases h
        exact fr20
  · replace h := if_F h hc1
    obtain ⟨r21, A21, hf21, h⟩ := rz_b_inv h
    have fr21 := fr.trans ((wx142_no F hf21).mono (by decide) (by decide))
    cases h
    exact fr21
def cs_x211_mend : List Nat := [133, 136, 137, 138, 139, 140, 141, 142, 143]
def fs_x211_mend : List (Nat × Nat) := [(91, 54), (91, 62), (91, 63), (91, 64), (91, 65), (91, 66), (91, 67), (91, 68), (91, 76), (91, 77), (91, 78), (91, 79)]
theorem wx211_mend_2 (F : Nat) : ∀ (n : Nat) (v1 : Int) (A : rz_A) (r : Int) (A' : rz_A), x211_mend_2 F n v1 A = some (r, A') → Fr cs_x211_mend fs_x211_mend A A' := by
  intro n
  induction n with
  | zero => intro v1 A r A' h; cases h
  | succ n ih =>
    intro v1 A r A' h
    have fr : Fr cs_x211_mend fs_x211_mend A A := Fr.rfl
    rw [x211_mend_2] at h
    by_cases hc1 : v1 < (A.1 91 7)
    · replace h := if_T h hc1
      replace h := (rz_gx_inv h).2.2
      obtain ⟨r4, A4, hf4, h⟩ := rz_b_inv h
      have fr4 := fr.trans ((wx188_flows F hf4).mono (by decide) (by decide))
      by_cases hc5 : r4 = 0
      · replace h := if_T h hc5
        cases h
        exact fr4
      · replace h := if_F h hc5
        replace h := (rz_g32_inv h).2
        by_cases hc7 : ((A4.1 91 78) - (A4.1 129 (v1).toNat)) < 0
        · replace h := if_T h hc7
          replace h := (rz_g64_inv h).2
          replace h := (rz_g64_inv h).2
          replace h := (rz_g64_inv h).2
          by_cases hc11 : ((A4.1 91 10) * (A4.1 129 (v1).toNat)) < ((-((A4.1 91 78) - (A4.1 129 (v1).toNat))) * 100)
          · replace h := if_T h hc11
            cases h
            exact fr4
          · replace h := if_F h hc11
            replace h := (rz_g32_inv h).2
            exact fr4.trans (ih _ _ _ _ h)
        · replace h := if_F h hc7
          replace h := (rz_g64_inv h).2
          replace h := (rz_g64_inv h).2
          by_cases hc15 : ((A4.1 91 10) * (A4.1 129 (v1).toNat)) < (((A4.1 91 78) - (A4.1 129 (v1).toNat)) * 100)
          · replace h := if_T h hc15
            cases h
            exact fr4
          · replace h := if_F h hc15
            replace h := (rz_g32_inv h).2
            exact fr4.trans (ih _ _ _ _ h)
    · replace h := if_F h hc1
      cases h
      exact fr
theorem wx211_mend (F : Nat) {A : rz_A} {r : Int} {A' : rz_A} (h : x211_mend F A = some (r, A')) : Fr cs_x211_mend fs_x211_mend A A' := by
  have fr : Fr cs_x211_mend fs_x211_mend A A := Fr.rfl
  unfold x211_mend at h
  exact fr.trans (wx211_mend_2 F F _ _ _ _ h)
def cs_x212_limit : List Nat := [132]
def fs_x212_limit : List (Nat × Nat) := [(91, 10)]
theorem wx212_limit (F : Nat) {a0 : Int} {A : rz_A} {r : Int} {A' : rz_A} (h : x212_limit F a0 A = some (r, A')) : Fr cs_x212_limit fs_x212_limit A A' := by
  have fr : Fr cs_x212_limit fs_x212_limit A A := Fr.rfl
  unfold x212_limit at h
  by_cases hc1 : a0 < 0
  · replace h := if_T h hc1
    obtain ⟨r2, A2, hf2, h⟩ := rz_b_inv h
    have fr2 := fr.trans ((wx142_no F hf2).mono (by decide) (by decide))
    cases h
    exact fr2
  · replace h := if_F h hc1
    by_cases hc3 : 100 < a0
    · replace h := if_T h hc3
      obtain ⟨r4, A4, hf4, h⟩ := rz_b_inv h
      have fr4 := fr.trans ((wx142_no F hf4).mono (by decide) (by decide))
      cases h
      exact fr4
    · replace h := if_F h hc3
      cases h
      exact (Fr.aI fr (Or.inr (by decide)))
def cs_x213_count : List Nat := []
def fs_x213_count : List (Nat × Nat) := []
theorem wx213_count_106 (F : Nat) : ∀ (n : Nat) (v2 : Int) (v3 : Int) (A : rz_A) (r : Int) (A' : rz_A), x213_count_106 F n v2 v3 A = some (r, A') → Fr cs_x213_count fs_x213_count A A' := by
  intro n
  induction n with
  | zero => intro v2 v3 A r A' h; cases h
  | succ n ih =>
    intro v2 v3 A r A' h
    have fr : Fr cs_x213_count fs_x213_count A A := Fr.rfl
    rw [x213_count_106] at h
    by_cases hc1 : v3 < (A.1 91 3)
    · replace h := if_T h hc1
      replace h := (rz_gx_inv h).2.2
      by_cases hc4 : 0 ≤ (A.1 109 (v3).toNat)
      · replace h := if_T h hc4
        replace h := (rz_g32_inv h).2
        replace h := (rz_g32_inv h).2
        exact fr.trans (ih _ _ _ _ _ h)
      · replace h := if_F h hc4
        replace h := (rz_g32_inv h).2
        exact fr.trans (ih _ _ _ _ _ h)
    · replace h := if_F h hc1
      cases h
      exact fr
theorem wx213_count (F : Nat) {a0 : Int} {A : rz_A} {r : Int} {A' : rz_A} (h : x213_count F a0 A = some (r, A')) : Fr cs_x213_count fs_x213_count A A' := by
  have fr : Fr cs_x213_count fs_x213_count A A := Fr.rfl
  unfold x213_count at h
  by_cases hc1 : 10 < a0
  · replace h := if_T h hc1
    by_cases hc2 : a0 < 17
    · replace h := if_T h hc2
      replace h := (rz_g32_inv h).2
      replace h := (rz_gx_inv h).2.2
      cases h
      exact fr
    · replace h := if_F h hc2
      by_cases hs6 : a0 = 0
      · replace h := if_T h hs6
        cases h
        exact fr
      · replace h := if_F h hs6
        by_cases hs7 : a0 = 1
        · replace h := if_T h hs7
          cases h
          exact fr
        · replace h := if_F h hs7
          by_cases hs8 : a0 = 2
          · replace h := if_T h hs8
            cases h
            exact fr
          · replace h := if_F h hs8
            by_cases hs9 : a0 = 3
            · replace h := if_T h hs9
              cases h
              exact fr
            · replace h := if_F h hs9
              by_cases hs10 : a0 = 4
              · replace h := if_T h hs10
                exact fr.trans (wx213_count_106 F F _ _ _ _ _ h)
              · replace h := if_F h hs10
                by_cases hs11 : a0 = 5
                · replace h := if_T h hs11
                  cases h
                  exact fr
                · replace h := if_F h hs11
                  by_cases hs12 : a0 = 6
                  · replace h := if_T h hs12
                    cases h
                    exact fr
                  · replace h := if_F h hs12
                    by_cases hs13 : a0 = 7
                    · replace h := if_T h hs13
                      cases h
                      exact fr
                    · replace h := if_F h hs13
                      by_cases hs14 : a0 = 8
                      · replace h := if_T h hs14
                        cases h
                        exact fr
                      · replace h := if_F h hs14
                        by_cases hs15 : a0 = 9
                        · replace h := if_T h hs15
                          cases h
                          exact fr
                        · replace h := if_F h hs15
                          by_cases hs16 : a0 = 10
                          · replace h := if_T h hs16
                            cases h
                            exact fr
                          · replace h := if_F h hs16
                            cases h
                            exact fr
  · replace h := if_F h hc1
    by_cases hs17 : a0 = 0
    · replace h := if_T h hs17
      cases h
      exact fr
    · replace h := if_F h hs17
      by_cases hs18 : a0 = 1
      · replace h := if_T h hs18
        cases h
        exact fr
      · replace h := if_F h hs18
        by_cases hs19 : a0 = 2
        · replace h := if_T h hs19
          cases h
          exact fr
        · replace h := if_F h hs19
          by_cases hs20 : a0 = 3
          · replace h := if_T h hs20
            cases h
            exact fr
          · replace h := if_F h hs20
            by_cases hs21 : a0 = 4
            · replace h := if_T h hs21
              exact fr.trans (wx213_count_106 F F _ _ _ _ _ h)
            · replace h := if_F h hs21
              by_cases hs22 : a0 = 5
              · replace h := if_T h hs22
                cases h
                exact fr
              · replace h := if_F h hs22
                by_cases hs23 : a0 = 6
                · replace h := if_T h hs23
                  cases h
                  exact fr
                · replace h := if_F h hs23
                  by_cases hs24 : a0 = 7
                  · replace h := if_T h hs24
                    cases h
                    exact fr
                  · replace h := if_F h hs24
                    by_cases hs25 : a0 = 8
                    · replace h := if_T h hs25
                      cases h
                      exact fr
                    · replace h := if_F h hs25
                      by_cases hs26 : a0 = 9
                      · replace h := if_T h hs26
                        cases h
                        exact fr
                      · replace h := if_F h hs26
                        by_cases hs27 : a0 = 10
                        · replace h := if_T h hs27
                          cases h
                          exact fr
                        · replace h := if_F h hs27
                          cases h
                          exact fr
