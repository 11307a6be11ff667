set_option maxRecDepth 16384
def cs_x103_bitCount : List Nat := []
def fs_x103_bitCount : List (Nat × Nat) := []
theorem wx103_bitCount (F : Nat) {a : Int} {A : rz_A} {r : Int} {A' : rz_A} (h : x103_bitCount F a A = some (r, A')) : Fr cs_x103_bitCount fs_x103_bitCount A A' := by
  unfold x103_bitCount at h
  cases h
  exact Fr.rfl
def cs_x1_refuse : List Nat := [1]
def fs_x1_refuse : List (Nat × Nat) := []
theorem wx1_refuse (F : Nat) {a0 : Int} {A : rz_A} {r : Int} {A' : rz_A} (h : x1_refuse F a0 A = some (r, A')) : Fr cs_x1_refuse fs_x1_refuse A A' := by
  have fr : Fr cs_x1_refuse fs_x1_refuse A A := Fr.rfl
  unfold x1_refuse at h
  replace h := (rz_g32_inv h).2
  by_cases hc2 : 0 ≤ ((-1) - a0)
  · replace h := if_T h hc2
    by_cases hc3 : ((-1) - a0) < 6
    · replace h := if_T h hc3
      replace h := (rz_gx_inv h).2.2
      replace h := (rz_g32_inv h).2
      cases h
      exact (Fr.aI fr (Or.inl (by decide)))
    · replace h := if_F h hc3
      cases h
      exact fr
  · replace h := if_F h hc2
    cases h
    exact fr
def cs_x0_go : List Nat := [1]
def fs_x0_go : List (Nat × Nat) := [(0, 16)]
theorem wx0_go (F : Nat) {a0 : Int} {A : rz_A} {r : Int} {A' : rz_A} (h : x0_go F a0 A = some (r, A')) : Fr cs_x0_go fs_x0_go A A' := by
  have fr : Fr cs_x0_go fs_x0_go A A := Fr.rfl
  unfold x0_go at h
  by_cases hc1 : a0 < 1
  · replace h := if_T h hc1
    obtain ⟨r2, A2, hf2, h⟩ := rz_b_inv h
    have fr2 := fr.trans ((wx1_refuse F hf2).mono (by decide) (by decide))
    cases h
    exact fr2
  · replace h := if_F h hc1
    replace h := (rz_g32_inv h).2
    by_cases hc4 : (9999 - (A.1 0 16)) < a0
    · replace h := if_T h hc4
      obtain ⟨r5, A5, hf5, h⟩ := rz_b_inv h
      have fr5 := fr.trans ((wx1_refuse F hf5).mono (by decide) (by decide))
      cases h
      exact fr5
    · replace h := if_F h hc4
      replace h := (rz_g32_inv h).2
      cases h
      exact (Fr.aI fr (Or.inr (by decide)))
def cs_x3_come : List Nat := [3, 4, 5]
def fs_x3_come : List (Nat × Nat) := [(2, 0)]
theorem wx3_come (F : Nat) {a0 : Int} {A : rz_A} {r : Int} {A' : rz_A} (h : x3_come F a0 A = some (r, A')) : Fr cs_x3_come fs_x3_come A A' := by
  have fr : Fr cs_x3_come fs_x3_come A A := Fr.rfl
  unfold x3_come at h
  replace h := (rz_gx_inv h).2.2
  replace h := (rz_g32_inv h).2
  replace h := (rz_g32_inv h).2
  cases h
  exact (Fr.aI (Fr.aI (Fr.aI (Fr.aI fr (Or.inl (by decide))) (Or.inl (by decide))) (Or.inl (by decide))) (Or.inr (by decide)))
def cs_x2_post : List Nat := [1, 3, 4, 5]
def fs_x2_post : List (Nat × Nat) := [(2, 0)]
theorem wx2_post (F : Nat) {a0 : Int} {A : rz_A} {r : Int} {A' : rz_A} (h : x2_post F a0 A = some (r, A')) : Fr cs_x2_post fs_x2_post A A' := by
  have fr : Fr cs_x2_post fs_x2_post A A := Fr.rfl
  unfold x2_post at h
  by_cases hc1 : a0 < (-999)
  · replace h := if_T h hc1
    obtain ⟨r2, A2, hf2, h⟩ := rz_b_inv h
    have fr2 := fr.trans ((wx1_refuse F hf2).mono (by decide) (by decide))
    cases h
    exact fr2
  · replace h := if_F h hc1
    by_cases hc3 : a0 ≤ 999
    · replace h := if_T h hc3
      by_cases hc4 : 6 ≤ (A.1 2 0)
      · replace h := if_T h hc4
        obtain ⟨r5, A5, hf5, h⟩ := rz_b_inv h
        have fr5 := fr.trans ((wx1_refuse F hf5).mono (by decide) (by decide))
        cases h
        exact fr5
      · replace h := if_F h hc4
        obtain ⟨r6, A6, hf6, h⟩ := rz_b_inv h
        have fr6 := fr.trans ((wx3_come F hf6).mono (by decide) (by decide))
        cases h
        exact fr6
    · replace h := if_F h hc3
      obtain ⟨r7, A7, hf7, h⟩ := rz_b_inv h
      have fr7 := fr.trans ((wx1_refuse F hf7).mono (by decide) (by decide))
      cases h
      exact fr7
def cs_x5_has : List Nat := []
def fs_x5_has : List (Nat × Nat) := []
theorem wx5_has (F : Nat) {a0 : Int} {A : rz_A} {r : Int} {A' : rz_A} (h : x5_has F a0 A = some (r, A')) : Fr cs_x5_has fs_x5_has A A' := by
  have fr : Fr cs_x5_has fs_x5_has A A := Fr.rfl
  unfold x5_has at h
  by_cases hc1 : 0 ≤ a0
  · replace h := if_T h hc1
    by_cases hc2 : a0 < (A.1 2 0)
    · replace h := if_T h hc2
      cases h
      exact fr
    · replace h := if_F h hc2
      cases h
      exact fr
  · replace h := if_F h hc1
    cases h
    exact fr
def cs_x6_forget : List Nat := []
def fs_x6_forget : List (Nat × Nat) := [(51, 5)]
theorem wx6_forget (F : Nat) {A : rz_A} {r : Unit} {A' : rz_A} (h : x6_forget F A = some (r, A')) : Fr cs_x6_forget fs_x6_forget A A' := by
  have fr : Fr cs_x6_forget fs_x6_forget A A := Fr.rfl
  unfold x6_forget at h
  cases h
  exact (Fr.aI fr (Or.inr (by decide)))
def cs_x7_move : List Nat := [14, 15, 16, 17]
def fs_x7_move : List (Nat × Nat) := [(2, 1)]
theorem wx7_move (F : Nat) {a0 : Int} {a1 : Int} {a2 : Int} {a3 : Int} {A : rz_A} {r : Int} {A' : rz_A} (h : x7_move F a0 a1 a2 a3 A = some (r, A')) : Fr cs_x7_move fs_x7_move A A' := by
  have fr : Fr cs_x7_move fs_x7_move A A := Fr.rfl
  unfold x7_move at h
  replace h := (rz_gx_inv h).2.2
  replace h := (rz_g32_inv h).2
  cases h
  exact (Fr.aI (Fr.aI (Fr.aI (Fr.aI (Fr.aI fr (Or.inl (by decide))) (Or.inl (by decide))) (Or.inl (by decide))) (Or.inl (by decide))) (Or.inr (by decide)))
def cs_x4_moved : List Nat := [1, 14, 15, 16, 17]
def fs_x4_moved : List (Nat × Nat) := [(2, 1), (51, 5)]
theorem wx4_moved (F : Nat) {a0 : Int} {a1 : Int} {a2 : Int} {A : rz_A} {r : Int} {A' : rz_A} (h : x4_moved F a0 a1 a2 A = some (r, A')) : Fr cs_x4_moved fs_x4_moved A A' := by
  have fr : Fr cs_x4_moved fs_x4_moved A A := Fr.rfl
  unfold x4_moved at h
  obtain ⟨r1, A1, hf1, h⟩ := rz_b_inv h
  have fr1 := fr.trans ((wx5_has F hf1).mono (by decide) (by decide))
  by_cases hc2 : r1 = 0
  · replace h := if_T h hc2
    obtain ⟨r3, A3, hf3, h⟩ := rz_b_inv h
    have fr3 := fr1.trans ((wx1_refuse F hf3).mono (by decide) (by decide))
    cases h
    exact fr3
  · replace h := if_F h hc2
    by_cases hc4 : (-999) ≤ a1
    · replace h := if_T h hc4
      by_cases hc5 : a2 < 0
      · replace h := if_T h hc5
        obtain ⟨r6, A6, hf6, h⟩ := rz_b_inv h
        have fr6 := fr1.trans ((wx1_refuse F hf6).mono (by decide) (by decide))
        cases h
        exact fr6
      · replace h := if_F h hc5
        by_cases hc7 : a1 ≤ 999
        · replace h := if_T h hc7
          by_cases hc8 : a2 ≤ (A1.1 0 16)
          · replace h := if_T h hc8
            by_cases hc9 : 60 ≤ (A1.1 2 1)
            · replace h := if_T h hc9
              obtain ⟨r10, A10, hf10, h⟩ := rz_b_inv h
              have fr10 := fr1.trans ((wx1_refuse F hf10).mono (by decide) (by decide))
              cases h
              exact fr10
            · replace h := if_F h hc9
              obtain ⟨_, A11, hf11, h⟩ := rz_b_inv h
              have fr11 := fr1.trans ((wx6_forget F hf11).mono (by decide) (by decide))
              obtain ⟨r12, A12, hf12, h⟩ := rz_b_inv h
              have fr12 := fr11.trans ((wx7_move F hf12).mono (by decide) (by decide))
              cases h
              exact fr12
          · replace h := if_F h hc8
            obtain ⟨r13, A13, hf13, h⟩ := rz_b_inv h
            have fr13 := fr1.trans ((wx1_refuse F hf13).mono (by decide) (by decide))
            cases h
            exact fr13
        · replace h := if_F h hc7
          obtain ⟨r14, A14, hf14, h⟩ := rz_b_inv h
          have fr14 := fr1.trans ((wx1_refuse F hf14).mono (by decide) (by decide))
          cases h
          exact fr14
    · replace h := if_F h hc4
      obtain ⟨r15, A15, hf15, h⟩ := rz_b_inv h
      have fr15 := fr1.trans ((wx1_refuse F hf15).mono (by decide) (by decide))
      cases h
      exact fr15
def cs_x9_whyNotAt : List Nat := []
def fs_x9_whyNotAt : List (Nat × Nat) := []
theorem wx9_whyNotAt (F : Nat) {a0 : Int} {a1 : Int} {a2 : Int} {A : rz_A} {r : Int} {A' : rz_A} (h : x9_whyNotAt F a0 a1 a2 A = some (r, A')) : Fr cs_x9_whyNotAt fs_x9_whyNotAt A A' := by
  have fr : Fr cs_x9_whyNotAt fs_x9_whyNotAt A A := Fr.rfl
  unfold x9_whyNotAt at h
  obtain ⟨r1, A1, hf1, h⟩ := rz_b_inv h
  have fr1 := fr.trans ((wx5_has F hf1).mono (by decide) (by decide))
  by_cases hc2 : r1 = 0
  · replace h := if_T h hc2
    cases h
    exact fr1
  · replace h := if_F h hc2
    by_cases hc3 : 0 ≤ a1
    · replace h := if_T h hc3
      by_cases hc4 : a2 < 0
      · replace h := if_T h hc4
        cases h
        exact fr1
      · replace h := if_F h hc4
        by_cases hc5 : a1 ≤ 9999
        · replace h := if_T h hc5
          by_cases hc6 : 9999 < a2
          · replace h := if_T h hc6
            cases h
            exact fr1
          · replace h := if_F h hc6
            cases h
            exact fr1
        · replace h := if_F h hc5
          cases h
          exact fr1
    · replace h := if_F h hc3
      cases h
      exact fr1
def cs_x11_zeroOf : List Nat := []
def fs_x11_zeroOf : List (Nat × Nat) := []
theorem wx11_zeroOf_14 (F : Nat) : ∀ (n : Nat) (v1 : Int) (v2 : Int) (v3 : Int) (v4 : Int) (v5 : Int) (v6 : Int) (A : rz_A) (r : Int) (A' : rz_A), x11_zeroOf_14 F n v1 v2 v3 v4 v5 v6 A = some (r, A') → Fr cs_x11_zeroOf fs_x11_zeroOf A A' := by
  intro n
  induction n with
  | zero => intro v1 v2 v3 v4 v5 v6 A r A' h; cases h
  | succ n ih =>
    intro v1 v2 v3 v4 v5 v6 A r A' h
    have fr : Fr cs_x11_zeroOf fs_x11_zeroOf A A := Fr.rfl
    rw [x11_zeroOf_14] at h
    by_cases hc1 : v6 < (A.1 2 1)
    · replace h := if_T h hc1
      replace h := (rz_gx_inv h).2.2
      by_cases hc4 : (A.1 14 (v6).toNat) = v1
      · replace h := if_T h hc4
        by_cases hc5 : (A.1 17 (v6).toNat) ≤ v3
        · replace h := if_T h hc5
          by_cases hc6 : (A.1 16 (v6).toNat) ≤ v2
          · replace h := if_T h hc6
            by_cases hc7 : v5 ≤ (A.1 16 (v6).toNat)
            · replace h := if_T h hc7
              replace h := (rz_g32_inv h).2
              exact fr.trans (ih _ _ _ _ _ _ _ _ _ h)
            · replace h := if_F h hc7
              replace h := (rz_g32_inv h).2
              exact fr.trans (ih _ _ _ _ _ _ _ _ _ h)
          · replace h := if_F h hc6
            replace h := (rz_g32_inv h).2
            exact fr.trans (ih _ _ _ _ _ _ _ _ _ h)
        · replace h := if_F h hc5
          replace h := (rz_g32_inv h).2
          exact fr.trans (ih _ _ _ _ _ _ _ _ _ h)
      · replace h := if_F h hc4
        replace h := (rz_g32_inv h).2
        exact fr.trans (ih _ _ _ _ _ _ _ _ _ h)
    · replace h := if_F h hc1
      cases h
      exact fr
theorem wx11_zeroOf (F : Nat) {a0 : Int} {a1 : Int} {a2 : Int} {A : rz_A} {r : Int} {A' : rz_A} (h : x11_zeroOf F a0 a1 a2 A = some (r, A')) : Fr cs_x11_zeroOf fs_x11_zeroOf A A' := by
  have fr : Fr cs_x11_zeroOf fs_x11_zeroOf A A := Fr.rfl
  unfold x11_zeroOf at h
  replace h := (rz_gx_inv h).2.2
  exact fr.trans (wx11_zeroOf_14 F F _ _ _ _ _ _ _ _ _ h)
def cs_x10_refuseAsTold : List Nat := [1]
def fs_x10_refuseAsTold : List (Nat × Nat) := []
theorem wx10_refuseAsTold (F : Nat) {a0 : Int} {A : rz_A} {r : Int} {A' : rz_A} (h : x10_refuseAsTold F a0 A = some (r, A')) : Fr cs_x10_refuseAsTold fs_x10_refuseAsTold A A' := by
  have fr : Fr cs_x10_refuseAsTold fs_x10_refuseAsTold A A := Fr.rfl
  unfold x10_refuseAsTold at h
  obtain ⟨r1, A1, hf1, h⟩ := rz_b_inv h
  have fr1 := fr.trans ((wx1_refuse F hf1).mono (by decide) (by decide))
  replace h := (rz_g32_inv h).2
  cases h
  exact fr1
def cs_x8_zeroAt : List Nat := [1]
def fs_x8_zeroAt : List (Nat × Nat) := []
theorem wx8_zeroAt (F : Nat) {a0 : Int} {a1 : Int} {a2 : Int} {A : rz_A} {r : Int} {A' : rz_A} (h : x8_zeroAt F a0 a1 a2 A = some (r, A')) : Fr cs_x8_zeroAt fs_x8_zeroAt A A' := by
  have fr : Fr cs_x8_zeroAt fs_x8_zeroAt A A := Fr.rfl
  unfold x8_zeroAt at h
  obtain ⟨r1, A1, hf1, h⟩ := rz_b_inv h
  have fr1 := fr.trans ((wx9_whyNotAt F hf1).mono (by decide) (by decide))
  by_cases hc2 : r1 = 0
  · replace h := if_T h hc2
    obtain ⟨r3, A3, hf3, h⟩ := rz_b_inv h
    have fr3 := fr1.trans ((wx11_zeroOf F hf3).mono (by decide) (by decide))
    cases h
    exact fr3
  · replace h := if_F h hc2
    obtain ⟨r4, A4, hf4, h⟩ := rz_b_inv h
    have fr4 := fr1.trans ((wx10_refuseAsTold F hf4).mono (by decide) (by decide))
    cases h
    exact fr4
def cs_x14_keyOf : List Nat := []
def fs_x14_keyOf : List (Nat × Nat) := []
theorem wx14_keyOf (F : Nat) {a0 : Int} {a1 : Int} {A : rz_A} {r : Int} {A' : rz_A} (h : x14_keyOf F a0 a1 A = some (r, A')) : Fr cs_x14_keyOf fs_x14_keyOf A A' := by
  have fr : Fr cs_x14_keyOf fs_x14_keyOf A A := Fr.rfl
  unfold x14_keyOf at h
  replace h := (rz_g32_inv h).2
  replace h := (rz_g32_inv h).2
  cases h
  exact fr
def cs_x13_come : List Nat := [19, 20, 21, 22, 23, 24, 25]
def fs_x13_come : List (Nat × Nat) := [(18, 0)]
theorem wx13_come_135 (F : Nat) : ∀ (v6 : Int) (A : rz_A) (r : Int) (A' : rz_A), x13_come_135 F v6 A = some (r, A') → Fr cs_x13_come fs_x13_come A A' := by
  intro v6 A r A' h
  have fr : Fr cs_x13_come fs_x13_come A A := Fr.rfl
  unfold x13_come_135 at h
  replace h := (rz_gx_inv h).2.2
  replace h := (rz_g32_inv h).2
  replace h := (rz_g32_inv h).2
  cases h
  exact (Fr.aI (Fr.aI fr (Or.inl (by decide))) (Or.inr (by decide)))
theorem wx13_come_69 (F : Nat) : ∀ (n : Nat) (v1 : Int) (v2 : Int) (v6 : Int) (A : rz_A) (r : Int) (A' : rz_A), x13_come_69 F n v1 v2 v6 A = some (r, A') → Fr cs_x13_come fs_x13_come A A' := by
  intro n
  induction n with
  | zero => intro v1 v2 v6 A r A' h; cases h
  | succ n ih =>
    intro v1 v2 v6 A r A' h
    have fr : Fr cs_x13_come fs_x13_come A A := Fr.rfl
    rw [x13_come_69] at h
    by_cases hc1 : 0 < v6
    · replace h := if_T h hc1
      replace h := (rz_g32_inv h).2
      replace h := (rz_gx_inv h).2.2
      replace h := (rz_gx_inv h).2.2
      obtain ⟨r7, A7, hf7, h⟩ := rz_b_inv h
      have fr7 := fr.trans ((wx14_keyOf F hf7).mono (by decide) (by decide))
      obtain ⟨r8, A8, hf8, h⟩ := rz_b_inv h
      have fr8 := fr7.trans ((wx14_keyOf F hf8).mono (by decide) (by decide))
      by_cases hc9 : r8 < r7
      · replace h := if_T h hc9
        replace h := (rz_gx_inv h).2.2
        replace h := (rz_g32_inv h).2
        exact (Fr.aI fr8 (Or.inl (by decide))).trans (ih _ _ _ _ _ _ h)
      · replace h := if_F h hc9
        exact fr8.trans (wx13_come_135 F _ _ _ _ h)
    · replace h := if_F h hc1
      exact fr.trans (wx13_come_135 F _ _ _ _ h)
theorem wx13_come (F : Nat) {a0 : Int} {a1 : Int} {a2 : Int} {a3 : Int} {a4 : Int} {A : rz_A} {r : Int} {A' : rz_A} (h : x13_come F a0 a1 a2 a3 a4 A = some (r, A')) : Fr cs_x13_come fs_x13_come A A' := by
  have fr : Fr cs_x13_come fs_x13_come A A := Fr.rfl
  unfold x13_come at h
  replace h := (rz_gx_inv h).2.2
  exact (Fr.aI (Fr.aI (Fr.aI (Fr.aI (Fr.aI (Fr.aI fr (Or.inl (by decide))) (Or.inl (by decide))) (Or.inl (by decide))) (Or.inl (by decide))) (Or.inl (by decide))) (Or.inl (by decide))).trans (wx13_come_69 F F _ _ _ _ _ _ h)
def cs_x12_height : List Nat := [1, 19, 20, 21, 22, 23, 24, 25]
def fs_x12_height : List (Nat × Nat) := [(18, 0), (51, 5)]
theorem wx12_height (F : Nat) {a0 : Int} {a1 : Int} {a2 : Int} {a3 : Int} {A : rz_A} {r : Int} {A' : rz_A} (h : x12_height F a0 a1 a2 a3 A = some (r, A')) : Fr cs_x12_height fs_x12_height A A' := by
  have fr : Fr cs_x12_height fs_x12_height A A := Fr.rfl
  unfold x12_height at h
  obtain ⟨r1, A1, hf1, h⟩ := rz_b_inv h
  have fr1 := fr.trans ((wx5_has F hf1).mono (by decide) (by decide))
  by_cases hc2 : r1 = 0
  · replace h := if_T h hc2
    obtain ⟨r3, A3, hf3, h⟩ := rz_b_inv h
    have fr3 := fr1.trans ((wx1_refuse F hf3).mono (by decide) (by decide))
    cases h
    exact fr3
  · replace h := if_F h hc2
    by_cases hc4 : 0 ≤ a2
    · replace h := if_T h hc4
      by_cases hc5 : 1 < a2
      · replace h := if_T h hc5
        obtain ⟨r6, A6, hf6, h⟩ := rz_b_inv h
        have fr6 := fr1.trans ((wx1_refuse F hf6).mono (by decide) (by decide))
        cases h
        exact fr6
      · replace h := if_F h hc5
        by_cases hc7 : 0 ≤ a1
        · replace h := if_T h hc7
          by_cases hc8 : a2 = 1
          · replace h := if_T h hc8
            by_cases hc9 : a3 < 0
            · replace h := if_T h hc9
              obtain ⟨r10, A10, hf10, h⟩ := rz_b_inv h
              have fr10 := fr1.trans ((wx1_refuse F hf10).mono (by decide) (by decide))
              cases h
              exact fr10
            · replace h := if_F h hc9
              by_cases hc11 : a1 ≤ (A1.1 0 16)
              · replace h := if_T h hc11
                by_cases hc12 : a3 ≤ 9999
                · replace h := if_T h hc12
                  by_cases hc13 : 300 ≤ (A1.1 18 0)
                  · replace h := if_T h hc13
                    obtain ⟨r14, A14, hf14, h⟩ := rz_b_inv h
                    have fr14 := fr1.trans ((wx1_refuse F hf14).mono (by decide) (by decide))
                    cases h
                    exact fr14
                  · replace h := if_F h hc13
                    obtain ⟨_, A15, hf15, h⟩ := rz_b_inv h
                    have fr15 := fr1.trans ((wx6_forget F hf15).mono (by decide) (by decide))
                    obtain ⟨r16, A16, hf16, h⟩ := rz_b_inv h
                    have fr16 := fr15.trans ((wx13_come F hf16).mono (by decide) (by decide))
                    cases h
                    exact fr16
                · replace h := if_F h hc12
                  obtain ⟨r17, A17, hf17, h⟩ := rz_b_inv h
                  have fr17 := fr1.trans ((wx1_refuse F hf17).mono (by decide) (by decide))
                  cases h
                  exact fr17
              · replace h := if_F h hc11
                obtain ⟨r18, A18, hf18, h⟩ := rz_b_inv h
                have fr18 := fr1.trans ((wx1_refuse F hf18).mono (by decide) (by decide))
                cases h
                exact fr18
          · replace h := if_F h hc8
            by_cases hc19 : a3 < (-1)
            · replace h := if_T h hc19
              obtain ⟨r20, A20, hf20, h⟩ := rz_b_inv h
              have fr20 := fr1.trans ((wx1_refuse F hf20).mono (by decide) (by decide))
              cases h
              exact fr20
            · replace h := if_F h hc19
              by_cases hc21 : a1 ≤ (A1.1 0 16)
              · replace h := if_T h hc21
                by_cases hc22 : a3 ≤ 9999
                · replace h := if_T h hc22
                  by_cases hc23 : 300 ≤ (A1.1 18 0)
                  · replace h := if_T h hc23
                    obtain ⟨r24, A24, hf24, h⟩ := rz_b_inv h
                    have fr24 := fr1.trans ((wx1_refuse F hf24).mono (by decide) (by decide))
                    cases h
                    exact fr24
                  · replace h := if_F h hc23
                    obtain ⟨_, A25, hf25, h⟩ := rz_b_inv h
                    have fr25 := fr1.trans ((wx6_forget F hf25).mono (by decide) (by decide))
                    obtain ⟨r26, A26, hf26, h⟩ := rz_b_inv h
                    have fr26 := fr25.trans ((wx13_come F hf26).mono (by decide) (by decide))
                    cases h
                    exact fr26
                · replace h := if_F h hc22
                  obtain ⟨r27, A27, hf27, h⟩ := rz_b_inv h
                  have fr27 := fr1.trans ((wx1_refuse F hf27).mono (by decide) (by decide))
                  cases h
                  exact fr27
              · replace h := if_F h hc21
                obtain ⟨r28, A28, hf28, h⟩ := rz_b_inv h
                have fr28 := fr1.trans ((wx1_refuse F hf28).mono (by decide) (by decide))
                cases h
                exact fr28
        · replace h := if_F h hc7
          obtain ⟨r29, A29, hf29, h⟩ := rz_b_inv h
          have fr29 := fr1.trans ((wx1_refuse F hf29).mono (by decide) (by decide))
          cases h
          exact fr29
    · replace h := if_F h hc4
      obtain ⟨r30, A30, hf30, h⟩ := rz_b_inv h
      have fr30 := fr1.trans ((wx1_refuse F hf30).mono (by decide) (by decide))
      cases h
      exact fr30
def cs_x16_has : List Nat := []
def fs_x16_has : List (Nat × Nat) := []
theorem wx16_has (F : Nat) {a0 : Int} {A : rz_A} {r : Int} {A' : rz_A} (h : x16_has F a0 A = some (r, A')) : Fr cs_x16_has fs_x16_has A A' := by
  have fr : Fr cs_x16_has fs_x16_has A A := Fr.rfl
  unfold x16_has at h
  by_cases hc1 : 0 ≤ a0
  · replace h := if_T h hc1
    by_cases hc2 : a0 < (A.1 18 0)
    · replace h := if_T h hc2
      cases h
      exact fr
    · replace h := if_F h hc2
      cases h
      exact fr
  · replace h := if_F h hc1
    cases h
    exact fr
def cs_x17_isStuck : List Nat := []
def fs_x17_isStuck : List (Nat × Nat) := []
theorem wx17_isStuck (F : Nat) {a0 : Int} {A : rz_A} {r : Int} {A' : rz_A} (h : x17_isStuck F a0 A = some (r, A')) : Fr cs_x17_isStuck fs_x17_isStuck A A' := by
  have fr : Fr cs_x17_isStuck fs_x17_isStuck A A := Fr.rfl
  unfold x17_isStuck at h
  replace h := (rz_gx_inv h).2.2
  by_cases hc3 : (A.1 22 (a0).toNat) < 0
  · replace h := if_T h hc3
    cases h
    exact fr
  · replace h := if_F h hc3
    cases h
    exact fr
def cs_x15_strike : List Nat := [1, 24]
def fs_x15_strike : List (Nat × Nat) := [(18, 1), (51, 5)]
theorem wx15_strike (F : Nat) {a0 : Int} {A : rz_A} {r : Int} {A' : rz_A} (h : x15_strike F a0 A = some (r, A')) : Fr cs_x15_strike fs_x15_strike A A' := by
  have fr : Fr cs_x15_strike fs_x15_strike A A := Fr.rfl
  unfold x15_strike at h
  obtain ⟨r1, A1, hf1, h⟩ := rz_b_inv h
  have fr1 := fr.trans ((wx16_has F hf1).mono (by decide) (by decide))
  by_cases hc2 : r1 = 0
  · replace h := if_T h hc2
    obtain ⟨r3, A3, hf3, h⟩ := rz_b_inv h
    have fr3 := fr1.trans ((wx1_refuse F hf3).mono (by decide) (by decide))
    cases h
    exact fr3
  · replace h := if_F h hc2
    replace h := (rz_gx_inv h).2.2
    by_cases hc6 : (A1.1 24 (a0).toNat) = 2147483647
    · replace h := if_T h hc6
      obtain ⟨r7, A7, hf7, h⟩ := rz_b_inv h
      have fr7 := fr1.trans ((wx17_isStuck F hf7).mono (by decide) (by decide))
      by_cases hc8 : r7 = 0
      · replace h := if_T h hc8
        obtain ⟨_, A9, hf9, h⟩ := rz_b_inv h
        have fr9 := fr7.trans ((wx6_forget F hf9).mono (by decide) (by decide))
        replace h := (rz_g32_inv h).2
        cases h
        exact (Fr.aI (Fr.aI fr9 (Or.inl (by decide))) (Or.inr (by decide)))
      · replace h := if_F h hc8
        obtain ⟨r13, A13, hf13, h⟩ := rz_b_inv h
        have fr13 := fr7.trans ((wx1_refuse F hf13).mono (by decide) (by decide))
        cases h
        exact fr13
    · replace h := if_F h hc6
      obtain ⟨r14, A14, hf14, h⟩ := rz_b_inv h
      have fr14 := fr1.trans ((wx1_refuse F hf14).mono (by decide) (by decide))
      cases h
      exact fr14
def cs_x19_whyNotTime : List Nat := []
def fs_x19_whyNotTime : List (Nat × Nat) := []
theorem wx19_whyNotTime (F : Nat) {a0 : Int} {A : rz_A} {r : Int} {A' : rz_A} (h : x19_whyNotTime F a0 A = some (r, A')) : Fr cs_x19_whyNotTime fs_x19_whyNotTime A A' := by
  have fr : Fr cs_x19_whyNotTime fs_x19_whyNotTime A A := Fr.rfl
  unfold x19_whyNotTime at h
  by_cases hc1 : a0 < 0
  · replace h := if_T h hc1
    cases h
    exact fr
  · replace h := if_F h hc1
    by_cases hc2 : 9999 < a0
    · replace h := if_T h hc2
      cases h
      exact fr
    · replace h := if_F h hc2
      cases h
      exact fr
def cs_x22_inForce : List Nat := []
def fs_x22_inForce : List (Nat × Nat) := []
theorem wx22_inForce_6 (F : Nat) : ∀ (n : Nat) (v1 : Int) (v2 : Int) (v3 : Int) (v4 : Int) (v5 : Int) (A : rz_A) (r : Int) (A' : rz_A), x22_inForce_6 F n v1 v2 v3 v4 v5 A = some (r, A') → Fr cs_x22_inForce fs_x22_inForce A A' := by
  intro n
  induction n with
  | zero => intro v1 v2 v3 v4 v5 A r A' h; cases h
  | succ n ih =>
    intro v1 v2 v3 v4 v5 A r A' h
    have fr : Fr cs_x22_inForce fs_x22_inForce A A := Fr.rfl
    rw [x22_inForce_6] at h
    by_cases hc1 : v5 < (A.1 43 0)
    · replace h := if_T h hc1
      replace h := (rz_gx_inv h).2.2
      by_cases hc4 : (A.1 44 (v5).toNat) = v1
      · replace h := if_T h hc4
        by_cases hc5 : (A.1 45 (v5).toNat) ≤ v2
        · replace h := if_T h hc5
          by_cases hc6 : (A.1 46 (v5).toNat) ≤ v3
          · replace h := if_T h hc6
            by_cases hc7 : 0 ≤ v4
            · replace h := if_T h hc7
              replace h := (rz_gx_inv h).2.2
              by_cases hc10 : (A.1 45 (v4).toNat) ≤ (A.1 45 (v5).toNat)
              · replace h := if_T h hc10
                replace h := (rz_g32_inv h).2
                exact fr.trans (ih _ _ _ _ _ _ _ _ h)
              · replace h := if_F h hc10
                replace h := (rz_g32_inv h).2
                exact fr.trans (ih _ _ _ _ _ _ _ _ h)
            · replace h := if_F h hc7
              replace h := (rz_g32_inv h).2
              exact fr.trans (ih _ _ _ _ _ _ _ _ h)
          · replace h := if_F h hc6
            replace h := (rz_g32_inv h).2
            exact fr.trans (ih _ _ _ _ _ _ _ _ h)
        · replace h := if_F h hc5
          replace h := (rz_g32_inv h).2
          exact fr.trans (ih _ _ _ _ _ _ _ _ h)
      · replace h := if_F h hc4
        replace h := (rz_g32_inv h).2
        exact fr.trans (ih _ _ _ _ _ _ _ _ h)
    · replace h := if_F h hc1
      cases h
      exact fr
theorem wx22_inForce (F : Nat) {a0 : Int} {a1 : Int} {a2 : Int} {A : rz_A} {r : Int} {A' : rz_A} (h : x22_inForce F a0 a1 a2 A = some (r, A')) : Fr cs_x22_inForce fs_x22_inForce A A' := by
  have fr : Fr cs_x22_inForce fs_x22_inForce A A := Fr.rfl
  unfold x22_inForce at h
  exact fr.trans (wx22_inForce_6 F F _ _ _ _ _ _ _ _ h)
def cs_x23_lettersOf : List Nat := [49]
def fs_x23_lettersOf : List (Nat × Nat) := []
theorem wx23_lettersOf_21 (F : Nat) : ∀ (v1 : Int) (A : rz_A) (r : Unit) (A' : rz_A), x23_lettersOf_21 F v1 A = some (r, A') → Fr cs_x23_lettersOf fs_x23_lettersOf A A' := by
  intro v1 A r A' h
  have fr : Fr cs_x23_lettersOf fs_x23_lettersOf A A := Fr.rfl
  unfold x23_lettersOf_21 at h
  replace h := (rz_g32_inv h).2
  replace h := (rz_g32_inv h).2
  cases h
  exact (Fr.aI (Fr.aI fr (Or.inl (by decide))) (Or.inl (by decide)))
theorem wx23_lettersOf_2 (F : Nat) : ∀ (n : Nat) (v1 : Int) (v2 : Int) (A : rz_A) (r : Unit) (A' : rz_A), x23_lettersOf_2 F n v1 v2 A = some (r, A') → Fr cs_x23_lettersOf fs_x23_lettersOf A A' := by
  intro n
  induction n with
  | zero => intro v1 v2 A r A' h; cases h
  | succ n ih =>
    intro v1 v2 A r A' h
    have fr : Fr cs_x23_lettersOf fs_x23_lettersOf A A := Fr.rfl
    rw [x23_lettersOf_2] at h
    by_cases hc1 : v2 < 13
    · replace h := if_T h hc1
      replace h := (rz_gx_inv h).2.2
      replace h := (rz_g32_inv h).2
      exact (Fr.aI fr (Or.inl (by decide))).trans (ih _ _ _ _ _ h)
    · replace h := if_F h hc1
      exact fr.trans (wx23_lettersOf_21 F _ _ _ _ h)
theorem wx23_lettersOf (F : Nat) {a0 : Int} {A : rz_A} {r : Unit} {A' : rz_A} (h : x23_lettersOf F a0 A = some (r, A')) : Fr cs_x23_lettersOf fs_x23_lettersOf A A' := by
  have fr : Fr cs_x23_lettersOf fs_x23_lettersOf A A := Fr.rfl
  unfold x23_lettersOf at h
  exact fr.trans (wx23_lettersOf_2 F F _ _ _ _ _ h)
def cs_x28_min : List Nat := []
def fs_x28_min : List (Nat × Nat) := []
theorem wx28_min (F : Nat) {a0 : Int} {a1 : Int} {A : rz_A} {r : Int} {A' : rz_A} (h : x28_min F a0 a1 A = some (r, A')) : Fr cs_x28_min fs_x28_min A A' := by
  have fr : Fr cs_x28_min fs_x28_min A A := Fr.rfl
  unfold x28_min at h
  by_cases hc1 : a0 ≤ a1
  · replace h := if_T h hc1
    cases h
    exact fr
  · replace h := if_F h hc1
    cases h
    exact fr
def cs_x29_max : List Nat := []
def fs_x29_max : List (Nat × Nat) := []
theorem wx29_max (F : Nat) {a0 : Int} {a1 : Int} {A : rz_A} {r : Int} {A' : rz_A} (h : x29_max F a0 a1 A = some (r, A')) : Fr cs_x29_max fs_x29_max A A' := by
  have fr : Fr cs_x29_max fs_x29_max A A := Fr.rfl
  unfold x29_max at h
  by_cases hc1 : a1 ≤ a0
  · replace h := if_T h hc1
    cases h
    exact fr
  · replace h := if_F h hc1
    cases h
    exact fr
def cs_x27_held : List Nat := []
def fs_x27_held : List (Nat × Nat) := []
theorem wx27_held (F : Nat) {a0 : Int} {A : rz_A} {r : Int} {A' : rz_A} (h : x27_held F a0 A = some (r, A')) : Fr cs_x27_held fs_x27_held A A' := by
  have fr : Fr cs_x27_held fs_x27_held A A := Fr.rfl
  unfold x27_held at h
  obtain ⟨r1, A1, hf1, h⟩ := rz_b_inv h
  have fr1 := fr.trans ((wx28_min F hf1).mono (by decide) (by decide))
  obtain ⟨r2, A2, hf2, h⟩ := rz_b_inv h
  have fr2 := fr1.trans ((wx29_max F hf2).mono (by decide) (by decide))
  replace h := (rz_g32_inv h).2
  cases h
  exact fr2
def cs_x26_joined : List Nat := []
def fs_x26_joined : List (Nat × Nat) := []
theorem wx26_joined (F : Nat) {a0 : Int} {a1 : Int} {a2 : Int} {A : rz_A} {r : Int} {A' : rz_A} (h : x26_joined F a0 a1 a2 A = some (r, A')) : Fr cs_x26_joined fs_x26_joined A A' := by
  have fr : Fr cs_x26_joined fs_x26_joined A A := Fr.rfl
  unfold x26_joined at h
  by_cases hs1 : a0 = (-28)
  · replace h := if_T h hs1
    replace h := (rz_g64_inv h).2
    obtain ⟨r3, A3, hf3, h⟩ := rz_b_inv h
    have fr3 := fr.trans ((wx27_held F hf3).mono (by decide) (by decide))
    cases h
    exact fr3
  · replace h := if_F h hs1
    by_cases hs4 : a0 = (-27)
    · replace h := if_T h hs4
      replace h := (rz_g64_inv h).2
      obtain ⟨r6, A6, hf6, h⟩ := rz_b_inv h
      have fr6 := fr.trans ((wx27_held F hf6).mono (by decide) (by decide))
      cases h
      exact fr6
    · replace h := if_F h hs4
      by_cases hs7 : a0 = (-26)
      · replace h := if_T h hs7
        replace h := (rz_g64_inv h).2
        obtain ⟨r9, A9, hf9, h⟩ := rz_b_inv h
        have fr9 := fr.trans ((wx27_held F hf9).mono (by decide) (by decide))
        cases h
        exact fr9
      · replace h := if_F h hs7
        by_cases hs10 : a0 = (-25)
        · replace h := if_T h hs10
          by_cases hc11 : a2 < a1
          · replace h := if_T h hc11
            cases h
            exact fr
          · replace h := if_F h hc11
            cases h
            exact fr
        · replace h := if_F h hs10
          by_cases hs12 : a0 = (-24)
          · replace h := if_T h hs12
            by_cases hc13 : a1 = a2
            · replace h := if_T h hc13
              cases h
              exact fr
            · replace h := if_F h hc13
              cases h
              exact fr
          · replace h := if_F h hs12
            by_cases hs14 : a0 = (-23)
            · replace h := if_T h hs14
              by_cases hc15 : a1 < a2
              · replace h := if_T h hc15
                cases h
                exact fr
              · replace h := if_F h hc15
                cases h
                exact fr
            · replace h := if_F h hs14
              by_cases hs16 : a0 = (-21)
              · replace h := if_T h hs16
                by_cases hc17 : a1 = 0
                · replace h := if_T h hc17
                  cases h
                  exact fr
                · replace h := if_F h hc17
                  by_cases hc18 : a2 = 0
                  · replace h := if_T h hc18
                    cases h
                    exact fr
                  · replace h := if_F h hc18
                    cases h
                    exact fr
              · replace h := if_F h hs16
                by_cases hc19 : a1 = 0
                · replace h := if_T h hc19
                  by_cases hc20 : a2 = 0
                  · replace h := if_T h hc20
                    cases h
                    exact fr
                  · replace h := if_F h hc20
                    cases h
                    exact fr
                · replace h := if_F h hc19
                  cases h
                  exact fr
def cs_x25_holds : List Nat := [50]
def fs_x25_holds : List (Nat × Nat) := []
theorem wx25_holds_158 (F : Nat) : ∀ (v3 : Int) (A : rz_A) (r : Int) (A' : rz_A), x25_holds_158 F v3 A = some (r, A') → Fr cs_x25_holds fs_x25_holds A A' := by
  intro v3 A r A' h
  have fr : Fr cs_x25_holds fs_x25_holds A A := Fr.rfl
  unfold x25_holds_158 at h
  by_cases hc1 : 0 < v3
  · replace h := if_T h hc1
    by_cases hc2 : (A.1 50 0) = 0
    · replace h := if_T h hc2
      cases h
      exact fr
    · replace h := if_F h hc2
      cases h
      exact fr
  · replace h := if_F h hc1
    cases h
    exact fr
theorem wx25_holds_10 (F : Nat) : ∀ (n : Nat) (v1 : Int) (v2 : Int) (v3 : Int) (v4 : Int) (A : rz_A) (r : Int) (A' : rz_A), x25_holds_10 F n v1 v2 v3 v4 A = some (r, A') → Fr cs_x25_holds fs_x25_holds A A' := by
  intro n
  induction n with
  | zero => intro v1 v2 v3 v4 A r A' h; cases h
  | succ n ih =>
    intro v1 v2 v3 v4 A r A' h
    have fr : Fr cs_x25_holds fs_x25_holds A A := Fr.rfl
    rw [x25_holds_10] at h
    replace h := (rz_gx_inv h).2.2
    replace h := (rz_g32_inv h).2
    by_cases hc4 : v4 < (v2 + (A.1 47 (v1).toNat))
    · replace h := if_T h hc4
      replace h := (rz_gx_inv h).2.2
      by_cases hc7 : (-13) ≤ (A.1 48 (v4).toNat)
      · replace h := if_T h hc7
        by_cases hc8 : 60 ≤ v3
        · replace h := if_T h hc8
          cases h
          exact fr
        · replace h := if_F h hc8
          by_cases hc9 : 0 ≤ (A.1 48 (v4).toNat)
          · replace h := if_T h hc9
            replace h := (rz_gx_inv h).2.2
            replace h := (rz_g32_inv h).2
            replace h := (rz_g32_inv h).2
            exact (Fr.aI fr (Or.inl (by decide))).trans (ih _ _ _ _ _ _ _ h)
          · replace h := if_F h hc9
            replace h := (rz_g32_inv h).2
            replace h := (rz_gx_inv h).2.2
            replace h := (rz_gx_inv h).2.2
            replace h := (rz_g32_inv h).2
            replace h := (rz_g32_inv h).2
            exact (Fr.aI fr (Or.inl (by decide))).trans (ih _ _ _ _ _ _ _ h)
      · replace h := if_F h hc7
        by_cases hc23 : (A.1 48 (v4).toNat) = (-20)
        · replace h := if_T h hc23
          by_cases hc24 : v3 < 1
          · replace h := if_T h hc24
            cases h
            exact fr
          · replace h := if_F h hc24
            replace h := (rz_g32_inv h).2
            replace h := (rz_gx_inv h).2.2
            replace h := (rz_g32_inv h).2
            replace h := (rz_g32_inv h).2
            exact (Fr.aI fr (Or.inl (by decide))).trans (ih _ _ _ _ _ _ _ h)
        · replace h := if_F h hc23
          by_cases hc31 : v3 < 2
          · replace h := if_T h hc31
            cases h
            exact fr
          · replace h := if_F h hc31
            replace h := (rz_g32_inv h).2
            replace h := (rz_g32_inv h).2
            replace h := (rz_gx_inv h).2.2
            replace h := (rz_gx_inv h).2.2
            obtain ⟨r38, A38, hf38, h⟩ := rz_b_inv h
            have fr38 := fr.trans ((wx26_joined F hf38).mono (by decide) (by decide))
            replace h := (rz_g32_inv h).2
            exact (Fr.aI fr38 (Or.inl (by decide))).trans (ih _ _ _ _ _ _ _ h)
    · replace h := if_F h hc4
      exact fr.trans (wx25_holds_158 F _ _ _ _ h)
theorem wx25_holds (F : Nat) {a0 : Int} {A : rz_A} {r : Int} {A' : rz_A} (h : x25_holds F a0 A = some (r, A')) : Fr cs_x25_holds fs_x25_holds A A' := by
  have fr : Fr cs_x25_holds fs_x25_holds A A := Fr.rfl
  unfold x25_holds at h
  replace h := (rz_g32_inv h).2
  exact fr.trans (wx25_holds_10 F F _ _ _ _ _ _ _ h)
def cs_x24_abs : List Nat := []
def fs_x24_abs : List (Nat × Nat) := []
theorem wx24_abs (F : Nat) {a0 : Int} {A : rz_A} {r : Int} {A' : rz_A} (h : x24_abs F a0 A = some (r, A')) : Fr cs_x24_abs fs_x24_abs A A' := by
  have fr : Fr cs_x24_abs fs_x24_abs A A := Fr.rfl
  unfold x24_abs at h
  by_cases hc1 : a0 < 0
  · replace h := if_T h hc1
    replace h := (rz_g32_inv h).2
    cases h
    exact fr
  · replace h := if_F h hc1
    cases h
    exact fr
def cs_x21_isStruckByText : List Nat := [49, 50]
def fs_x21_isStruckByText : List (Nat × Nat) := []
theorem wx21_isStruckByText (F : Nat) {a0 : Int} {a1 : Int} {A : rz_A} {r : Int} {A' : rz_A} (h : x21_isStruckByText F a0 a1 A = some (r, A')) : Fr cs_x21_isStruckByText fs_x21_isStruckByText A A' := by
  have fr : Fr cs_x21_isStruckByText fs_x21_isStruckByText A A := Fr.rfl
  unfold x21_isStruckByText at h
  replace h := (rz_gx_inv h).2.2
  replace h := (rz_g32_inv h).2
  obtain ⟨r4, A4, hf4, h⟩ := rz_b_inv h
  have fr4 := fr.trans ((wx22_inForce F hf4).mono (by decide) (by decide))
  by_cases hc5 : r4 < 0
  · replace h := if_T h hc5
    cases h
    exact fr4
  · replace h := if_F h hc5
    obtain ⟨_, A6, hf6, h⟩ := rz_b_inv h
    have fr6 := fr4.trans ((wx23_lettersOf F hf6).mono (by decide) (by decide))
    by_cases hc9 : a1 < 0
    · replace h := if_T h hc9
      obtain ⟨r12, A12, hf12, h⟩ := rz_b_inv h
      have fr12 := (Fr.aI (Fr.aI (Fr.aI (Fr.aI fr6 (Or.inl (by decide))) (Or.inl (by decide))) (Or.inl (by decide))) (Or.inl (by decide))).trans ((wx25_holds F hf12).mono (by decide) (by decide))
      replace h := (rz_gz_inv h).2
      cases h
      exact fr12
    · replace h := if_F h hc9
      replace h := (rz_gx_inv h).2.2
      replace h := (rz_g32_inv h).2
      obtain ⟨r17, A17, hf17, h⟩ := rz_b_inv h
      have fr17 := (Fr.aI (Fr.aI fr6 (Or.inl (by decide))) (Or.inl (by decide))).trans ((wx24_abs F hf17).mono (by decide) (by decide))
      replace h := (rz_g32_inv h).2
      obtain ⟨r21, A21, hf21, h⟩ := rz_b_inv h
      have fr21 := (Fr.aI (Fr.aI fr17 (Or.inl (by decide))) (Or.inl (by decide))).trans ((wx25_holds F hf21).mono (by decide) (by decide))
      replace h := (rz_gz_inv h).2
      cases h
      exact fr21
def cs_x30_keep : List Nat := [53, 54, 55]
def fs_x30_keep : List (Nat × Nat) := [(51, 10)]
theorem wx30_keep_101 (F : Nat) : ∀ (v1 : Int) (v2 : Int) (v3 : Int) (v4 : Int) (A : rz_A) (r : Unit) (A' : rz_A), x30_keep_101 F v1 v2 v3 v4 A = some (r, A') → Fr cs_x30_keep fs_x30_keep A A' := by
  intro v1 v2 v3 v4 A r A' h
  have fr : Fr cs_x30_keep fs_x30_keep A A := Fr.rfl
  unfold x30_keep_101 at h
  replace h := (rz_g32_inv h).2
  replace h := (rz_gx_inv h).2.2
  replace h := (rz_gx_inv h).2.2
  obtain ⟨r8, A8, hf8, h⟩ := rz_b_inv h
  have fr8 := (Fr.aI (Fr.aI fr (Or.inl (by decide))) (Or.inl (by decide))).trans ((wx11_zeroOf F hf8).mono (by decide) (by decide))
  replace h := (rz_g32_inv h).2
  cases h
  exact (Fr.aI fr8 (Or.inl (by decide)))
theorem wx30_keep (F : Nat) {a0 : Int} {A : rz_A} {r : Unit} {A' : rz_A} (h : x30_keep F a0 A = some (r, A')) : Fr cs_x30_keep fs_x30_keep A A' := by
  have fr : Fr cs_x30_keep fs_x30_keep A A := Fr.rfl
  unfold x30_keep at h
  replace h := (rz_gx_inv h).2.2
  obtain ⟨r3, A3, hf3, h⟩ := rz_b_inv h
  have fr3 := fr.trans ((wx14_keyOf F hf3).mono (by decide) (by decide))
  by_cases hc4 : 0 < (A3.1 51 10)
  · replace h := if_T h hc4
    replace h := (rz_g32_inv h).2
    replace h := (rz_gx_inv h).2.2
    by_cases hc8 : (A3.1 53 (((A3.1 51 10) - 1)).toNat) = r3
    · replace h := if_T h hc8
      by_cases hc9 : (A3.1 21 (a0).toNat) < (A3.1 55 (((A3.1 51 10) - 1)).toNat)
      · replace h := if_T h hc9
        cases h
        exact fr3
      · replace h := if_F h hc9
        exact fr3.trans (wx30_keep_101 F _ _ _ _ _ _ _ h)
    · replace h := if_F h hc8
      replace h := (rz_g32_inv h).2
      exact (Fr.aI fr3 (Or.inr (by decide))).trans (wx30_keep_101 F _ _ _ _ _ _ _ h)
  · replace h := if_F h hc4
    replace h := (rz_g32_inv h).2
    exact (Fr.aI fr3 (Or.inr (by decide))).trans (wx30_keep_101 F _ _ _ _ _ _ _ h)
def cs_x20_see : List Nat := [49, 50, 52, 53, 54, 55]
def fs_x20_see : List (Nat × Nat) := [(51, 3), (51, 4), (51, 5), (51, 10)]
theorem wx20_see_95 (F : Nat) {k45 : (Int → Int → rz_A → Option (Unit × rz_A))} (hkk45 : ∀ (v2 : Int) (v3 : Int) (A : rz_A) (r : Unit) (A' : rz_A), k45 v2 v3 A = some (r, A') → Fr cs_x20_see fs_x20_see A A') : ∀ (v2 : Int) (v3 : Int) (v4 : Int) (A : rz_A) (r : Unit) (A' : rz_A), x20_see_95 F k45 v2 v3 v4 A = some (r, A') → Fr cs_x20_see fs_x20_see A A' := by
  intro v2 v3 v4 A r A' h
  have fr : Fr cs_x20_see fs_x20_see A A := Fr.rfl
  unfold x20_see_95 at h
  replace h := (rz_gx_inv h).2.2
  by_cases hc4 : (A.1 23 (v4).toNat) ≤ (A.1 51 3)
  · replace h := if_T h hc4
    obtain ⟨r5, A5, hf5, h⟩ := rz_b_inv h
    have fr5 := (Fr.aI fr (Or.inl (by decide))).trans ((wx17_isStuck F hf5).mono (by decide) (by decide))
    by_cases hc6 : r5 = 0
    · replace h := if_T h hc6
      by_cases hc7 : (A5.1 24 (v4).toNat) ≤ (A5.1 51 3)
      · replace h := if_T h hc7
        replace h := (rz_g32_inv h).2
        exact (Fr.aI fr5 (Or.inl (by decide))).trans (hkk45 _ _ _ _ _ h)
      · replace h := if_F h hc7
        obtain ⟨r10, A10, hf10, h⟩ := rz_b_inv h
        have fr10 := fr5.trans ((wx21_isStruckByText F hf10).mono (by decide) (by decide))
        by_cases hc11 : r10 = 0
        · replace h := if_T h hc11
          obtain ⟨_, A12, hf12, h⟩ := rz_b_inv h
          have fr12 := fr10.trans ((wx30_keep F hf12).mono (by decide) (by decide))
          replace h := (rz_g32_inv h).2
          exact fr12.trans (hkk45 _ _ _ _ _ h)
        · replace h := if_F h hc11
          replace h := (rz_g32_inv h).2
          exact (Fr.aI fr10 (Or.inl (by decide))).trans (hkk45 _ _ _ _ _ h)
    · replace h := if_F h hc6
      replace h := (rz_g32_inv h).2
      exact fr5.trans (hkk45 _ _ _ _ _ h)
  · replace h := if_F h hc4
    replace h := (rz_g32_inv h).2
    exact (Fr.aI fr (Or.inl (by decide))).trans (hkk45 _ _ _ _ _ h)
theorem wx20_see_45 (F : Nat) : ∀ (n : Nat) (v2 : Int) (v3 : Int) (A : rz_A) (r : Unit) (A' : rz_A), x20_see_45 F n v2 v3 A = some (r, A') → Fr cs_x20_see fs_x20_see A A' := by
  intro n
  induction n with
  | zero => intro v2 v3 A r A' h; cases h
  | succ n ih =>
    intro v2 v3 A r A' h
    have fr : Fr cs_x20_see fs_x20_see A A := Fr.rfl
    rw [x20_see_45] at h
    by_cases hc1 : v3 < (A.1 18 0)
    · replace h := if_T h hc1
      replace h := (rz_gx_inv h).2.2
      by_cases hc4 : 0 ≤ v2
      · replace h := if_T h hc4
        replace h := (rz_gx_inv h).2.2
        replace h := (rz_gx_inv h).2.2
        by_cases hc9 : (A.1 19 (v2).toNat) = (A.1 19 ((A.1 25 (v3).toNat)).toNat)
        · replace h := if_T h hc9
          exact fr.trans (wx20_see_95 F ih _ _ _ _ _ _ h)
        · replace h := if_F h hc9
          exact fr.trans (wx20_see_95 F ih _ _ _ _ _ _ h)
      · replace h := if_F h hc4
        exact fr.trans (wx20_see_95 F ih _ _ _ _ _ _ h)
    · replace h := if_F h hc1
      cases h
      exact fr
theorem wx20_see (F : Nat) {a0 : Int} {A : rz_A} {r : Unit} {A' : rz_A} (h : x20_see F a0 A = some (r, A')) : Fr cs_x20_see fs_x20_see A A' := by
  have fr : Fr cs_x20_see fs_x20_see A A := Fr.rfl
  unfold x20_see at h
  by_cases hc1 : (A.1 51 5) = 0
  · replace h := if_T h hc1
    replace h := (rz_g32_inv h).2
    exact (Fr.aI (Fr.aI (Fr.aI (Fr.aI fr (Or.inr (by decide))) (Or.inr (by decide))) (Or.inr (by decide))) (Or.inr (by decide))).trans (wx20_see_45 F F _ _ _ _ _ h)
  · replace h := if_F h hc1
    by_cases hc7 : (A.1 51 3) = a0
    · replace h := if_T h hc7
      cases h
      exact fr
    · replace h := if_F h hc7
      replace h := (rz_g32_inv h).2
      exact (Fr.aI (Fr.aI (Fr.aI (Fr.aI fr (Or.inr (by decide))) (Or.inr (by decide))) (Or.inr (by decide))) (Or.inr (by decide))).trans (wx20_see_45 F F _ _ _ _ _ h)
def cs_x18_isStruck : List Nat := [1, 49, 50, 52, 53, 54, 55]
def fs_x18_isStruck : List (Nat × Nat) := [(51, 3), (51, 4), (51, 5), (51, 10)]
theorem wx18_isStruck (F : Nat) {a0 : Int} {a1 : Int} {A : rz_A} {r : Int} {A' : rz_A} (h : x18_isStruck F a0 a1 A = some (r, A')) : Fr cs_x18_isStruck fs_x18_isStruck A A' := by
  have fr : Fr cs_x18_isStruck fs_x18_isStruck A A := Fr.rfl
  unfold x18_isStruck at h
  obtain ⟨r1, A1, hf1, h⟩ := rz_b_inv h
  have fr1 := fr.trans ((wx16_has F hf1).mono (by decide) (by decide))
  by_cases hc2 : r1 = 0
  · replace h := if_T h hc2
    obtain ⟨r3, A3, hf3, h⟩ := rz_b_inv h
    have fr3 := fr1.trans ((wx1_refuse F hf3).mono (by decide) (by decide))
    cases h
    exact fr3
  · replace h := if_F h hc2
    obtain ⟨r4, A4, hf4, h⟩ := rz_b_inv h
    have fr4 := fr1.trans ((wx19_whyNotTime F hf4).mono (by decide) (by decide))
    by_cases hc5 : r4 = 0
    · replace h := if_T h hc5
      obtain ⟨_, A6, hf6, h⟩ := rz_b_inv h
      have fr6 := fr4.trans ((wx20_see F hf6).mono (by decide) (by decide))
      replace h := (rz_gx_inv h).2.2
      cases h
      exact fr6
    · replace h := if_F h hc5
      obtain ⟨r9, A9, hf9, h⟩ := rz_b_inv h
      have fr9 := fr4.trans ((wx1_refuse F hf9).mono (by decide) (by decide))
      cases h
      exact fr9
def cs_x33_firstFrom : List Nat := []
def fs_x33_firstFrom : List (Nat × Nat) := []
theorem wx33_firstFrom_10 (F : Nat) : ∀ (n : Nat) (v1 : Int) (v2 : Int) (v3 : Int) (v4 : Int) (A : rz_A) (r : Int) (A' : rz_A), x33_firstFrom_10 F n v1 v2 v3 v4 A = some (r, A') → Fr cs_x33_firstFrom fs_x33_firstFrom A A' := by
  intro n
  induction n with
  | zero => intro v1 v2 v3 v4 A r A' h; cases h
  | succ n ih =>
    intro v1 v2 v3 v4 A r A' h
    have fr : Fr cs_x33_firstFrom fs_x33_firstFrom A A := Fr.rfl
    rw [x33_firstFrom_10] at h
    by_cases hc1 : v4 < 300
    · replace h := if_T h hc1
      by_cases hc2 : v2 < v3
      · replace h := if_T h hc2
        replace h := (rz_g32_inv h).2
        replace h := (rz_g32_inv h).2
        replace h := (rz_gx_inv h).2.2
        by_cases hc7 : (A.1 53 (((v2 + v3).tdiv 2)).toNat) < v1
        · replace h := if_T h hc7
          replace h := (rz_g32_inv h).2
          replace h := (rz_g32_inv h).2
          exact fr.trans (ih _ _ _ _ _ _ _ h)
        · replace h := if_F h hc7
          replace h := (rz_g32_inv h).2
          exact fr.trans (ih _ _ _ _ _ _ _ h)
      · replace h := if_F h hc2
        cases h
        exact fr
    · replace h := if_F h hc1
      cases h
      exact fr
theorem wx33_firstFrom (F : Nat) {a0 : Int} {A : rz_A} {r : Int} {A' : rz_A} (h : x33_firstFrom F a0 A = some (r, A')) : Fr cs_x33_firstFrom fs_x33_firstFrom A A' := by
  have fr : Fr cs_x33_firstFrom fs_x33_firstFrom A A := Fr.rfl
  unfold x33_firstFrom at h
  exact fr.trans (wx33_firstFrom_10 F F _ _ _ _ _ _ _ h)
def cs_x32_find : List Nat := []
def fs_x32_find : List (Nat × Nat) := []
theorem wx32_find (F : Nat) {a0 : Int} {a1 : Int} {A : rz_A} {r : Int} {A' : rz_A} (h : x32_find F a0 a1 A = some (r, A')) : Fr cs_x32_find fs_x32_find A A' := by
  have fr : Fr cs_x32_find fs_x32_find A A := Fr.rfl
  unfold x32_find at h
  obtain ⟨r1, A1, hf1, h⟩ := rz_b_inv h
  have fr1 := fr.trans ((wx14_keyOf F hf1).mono (by decide) (by decide))
  obtain ⟨r2, A2, hf2, h⟩ := rz_b_inv h
  have fr2 := fr1.trans ((wx33_firstFrom F hf2).mono (by decide) (by decide))
  by_cases hc3 : r2 < (A2.1 51 10)
  · replace h := if_T h hc3
    replace h := (rz_gx_inv h).2.2
    by_cases hc6 : (A2.1 53 (r2).toNat) = r1
    · replace h := if_T h hc6
      cases h
      exact fr2
    · replace h := if_F h hc6
      cases h
      exact fr2
  · replace h := if_F h hc3
    cases h
    exact fr2
def cs_x31_heightAt : List Nat := [1, 49, 50, 52, 53, 54, 55]
def fs_x31_heightAt : List (Nat × Nat) := [(51, 3), (51, 4), (51, 5), (51, 10)]
theorem wx31_heightAt (F : Nat) {a0 : Int} {a1 : Int} {a2 : Int} {A : rz_A} {r : Int} {A' : rz_A} (h : x31_heightAt F a0 a1 a2 A = some (r, A')) : Fr cs_x31_heightAt fs_x31_heightAt A A' := by
  have fr : Fr cs_x31_heightAt fs_x31_heightAt A A := Fr.rfl
  unfold x31_heightAt at h
  obtain ⟨r1, A1, hf1, h⟩ := rz_b_inv h
  have fr1 := fr.trans ((wx9_whyNotAt F hf1).mono (by decide) (by decide))
  by_cases hc2 : r1 = 0
  · replace h := if_T h hc2
    obtain ⟨_, A3, hf3, h⟩ := rz_b_inv h
    have fr3 := fr1.trans ((wx20_see F hf3).mono (by decide) (by decide))
    obtain ⟨r4, A4, hf4, h⟩ := rz_b_inv h
    have fr4 := fr3.trans ((wx32_find F hf4).mono (by decide) (by decide))
    by_cases hc5 : r4 < 0
    · replace h := if_T h hc5
      obtain ⟨r6, A6, hf6, h⟩ := rz_b_inv h
      have fr6 := fr4.trans ((wx10_refuseAsTold F hf6).mono (by decide) (by decide))
      cases h
      exact fr6
    · replace h := if_F h hc5
      replace h := (rz_gx_inv h).2.2
      cases h
      exact fr4
  · replace h := if_F h hc2
    obtain ⟨r9, A9, hf9, h⟩ := rz_b_inv h
    have fr9 := fr1.trans ((wx10_refuseAsTold F hf9).mono (by decide) (by decide))
    cases h
    exact fr9
def cs_x35_come : List Nat := [27, 28, 29, 30, 31, 32]
def fs_x35_come : List (Nat × Nat) := [(26, 0)]
theorem wx35_come (F : Nat) {a0 : Int} {a1 : Int} {a2 : Int} {a3 : Int} {a4 : Int} {A : rz_A} {r : Int} {A' : rz_A} (h : x35_come F a0 a1 a2 a3 a4 A = some (r, A')) : Fr cs_x35_come fs_x35_come A A' := by
  have fr : Fr cs_x35_come fs_x35_come A A := Fr.rfl
  unfold x35_come at h
  replace h := (rz_gx_inv h).2.2
  replace h := (rz_g32_inv h).2
  replace h := (rz_g32_inv h).2
  cases h
  exact (Fr.aI (Fr.aI (Fr.aI (Fr.aI (Fr.aI (Fr.aI (Fr.aI fr (Or.inl (by decide))) (Or.inl (by decide))) (Or.inl (by decide))) (Or.inl (by decide))) (Or.inl (by decide))) (Or.inl (by decide))) (Or.inr (by decide)))
def cs_x34_measure : List Nat := [1, 27, 28, 29, 30, 31, 32]
def fs_x34_measure : List (Nat × Nat) := [(26, 0), (51, 5)]
theorem wx34_measure (F : Nat) {a0 : Int} {a1 : Int} {a2 : Int} {a3 : Int} {A : rz_A} {r : Int} {A' : rz_A} (h : x34_measure F a0 a1 a2 a3 A = some (r, A')) : Fr cs_x34_measure fs_x34_measure A A' := by
  have fr : Fr cs_x34_measure fs_x34_measure A A := Fr.rfl
  unfold x34_measure at h
  obtain ⟨r1, A1, hf1, h⟩ := rz_b_inv h
  have fr1 := fr.trans ((wx5_has F hf1).mono (by decide) (by decide))
  by_cases hc2 : r1 = 0
  · replace h := if_T h hc2
    obtain ⟨r3, A3, hf3, h⟩ := rz_b_inv h
    have fr3 := fr1.trans ((wx1_refuse F hf3).mono (by decide) (by decide))
    cases h
    exact fr3
  · replace h := if_F h hc2
    by_cases hc4 : 0 ≤ a1
    · replace h := if_T h hc4
      by_cases hc5 : 0 ≤ a2
      · replace h := if_T h hc5
        by_cases hc6 : a3 < 0
        · replace h := if_T h hc6
          obtain ⟨r7, A7, hf7, h⟩ := rz_b_inv h
          have fr7 := fr1.trans ((wx1_refuse F hf7).mono (by decide) (by decide))
          cases h
          exact fr7
        · replace h := if_F h hc6
          by_cases hc8 : a1 ≤ (A1.1 0 16)
          · replace h := if_T h hc8
            by_cases hc9 : a2 ≤ 99999
            · replace h := if_T h hc9
              by_cases hc10 : 99 < a3
              · replace h := if_T h hc10
                obtain ⟨r11, A11, hf11, h⟩ := rz_b_inv h
                have fr11 := fr1.trans ((wx1_refuse F hf11).mono (by decide) (by decide))
                cases h
                exact fr11
              · replace h := if_F h hc10
                by_cases hc12 : 60 ≤ (A1.1 26 0)
                · replace h := if_T h hc12
                  obtain ⟨r13, A13, hf13, h⟩ := rz_b_inv h
                  have fr13 := fr1.trans ((wx1_refuse F hf13).mono (by decide) (by decide))
                  cases h
                  exact fr13
                · replace h := if_F h hc12
                  obtain ⟨_, A14, hf14, h⟩ := rz_b_inv h
                  have fr14 := fr1.trans ((wx6_forget F hf14).mono (by decide) (by decide))
                  obtain ⟨r15, A15, hf15, h⟩ := rz_b_inv h
                  have fr15 := fr14.trans ((wx35_come F hf15).mono (by decide) (by decide))
                  cases h
                  exact fr15
            · replace h := if_F h hc9
              obtain ⟨r16, A16, hf16, h⟩ := rz_b_inv h
              have fr16 := fr1.trans ((wx1_refuse F hf16).mono (by decide) (by decide))
              cases h
              exact fr16
          · replace h := if_F h hc8
            obtain ⟨r17, A17, hf17, h⟩ := rz_b_inv h
            have fr17 := fr1.trans ((wx1_refuse F hf17).mono (by decide) (by decide))
            cases h
            exact fr17
      · replace h := if_F h hc5
        obtain ⟨r18, A18, hf18, h⟩ := rz_b_inv h
        have fr18 := fr1.trans ((wx1_refuse F hf18).mono (by decide) (by decide))
        cases h
        exact fr18
    · replace h := if_F h hc4
      obtain ⟨r19, A19, hf19, h⟩ := rz_b_inv h
      have fr19 := fr1.trans ((wx1_refuse F hf19).mono (by decide) (by decide))
      cases h
      exact fr19
def cs_x37_has : List Nat := []
def fs_x37_has : List (Nat × Nat) := []
theorem wx37_has (F : Nat) {a0 : Int} {A : rz_A} {r : Int} {A' : rz_A} (h : x37_has F a0 A = some (r, A')) : Fr cs_x37_has fs_x37_has A A' := by
  have fr : Fr cs_x37_has fs_x37_has A A := Fr.rfl
  unfold x37_has at h
  by_cases hc1 : 0 ≤ a0
  · replace h := if_T h hc1
    by_cases hc2 : a0 < (A.1 26 0)
    · replace h := if_T h hc2
      cases h
      exact fr
    · replace h := if_F h hc2
      cases h
      exact fr
  · replace h := if_F h hc1
    cases h
    exact fr
def cs_x36_drop : List Nat := [1, 32]
def fs_x36_drop : List (Nat × Nat) := [(51, 5)]
theorem wx36_drop (F : Nat) {a0 : Int} {A : rz_A} {r : Int} {A' : rz_A} (h : x36_drop F a0 A = some (r, A')) : Fr cs_x36_drop fs_x36_drop A A' := by
  have fr : Fr cs_x36_drop fs_x36_drop A A := Fr.rfl
  unfold x36_drop at h
  obtain ⟨r1, A1, hf1, h⟩ := rz_b_inv h
  have fr1 := fr.trans ((wx37_has F hf1).mono (by decide) (by decide))
  by_cases hc2 : r1 = 0
  · replace h := if_T h hc2
    obtain ⟨r3, A3, hf3, h⟩ := rz_b_inv h
    have fr3 := fr1.trans ((wx1_refuse F hf3).mono (by decide) (by decide))
    cases h
    exact fr3
  · replace h := if_F h hc2
    replace h := (rz_gx_inv h).2.2
    by_cases hc6 : (A1.1 32 (a0).toNat) = 2147483647
    · replace h := if_T h hc6
      obtain ⟨_, A7, hf7, h⟩ := rz_b_inv h
      have fr7 := fr1.trans ((wx6_forget F hf7).mono (by decide) (by decide))
      cases h
      exact (Fr.aI fr7 (Or.inl (by decide)))
    · replace h := if_F h hc6
      obtain ⟨r9, A9, hf9, h⟩ := rz_b_inv h
      have fr9 := fr1.trans ((wx1_refuse F hf9).mono (by decide) (by decide))
      cases h
      exact fr9
def cs_x39_placeOf : List Nat := []
def fs_x39_placeOf : List (Nat × Nat) := []
theorem wx39_placeOf (F : Nat) {a0 : Int} {A : rz_A} {r : Int} {A' : rz_A} (h : x39_placeOf F a0 A = some (r, A')) : Fr cs_x39_placeOf fs_x39_placeOf A A' := by
  have fr : Fr cs_x39_placeOf fs_x39_placeOf A A := Fr.rfl
  unfold x39_placeOf at h
  replace h := (rz_gx_inv h).2.2
  by_cases hc3 : (A.1 31 (a0).toNat) ≤ (A.1 51 3)
  · replace h := if_T h hc3
    by_cases hc4 : (A.1 32 (a0).toNat) ≤ (A.1 51 3)
    · replace h := if_T h hc4
      cases h
      exact fr
    · replace h := if_F h hc4
      obtain ⟨r5, A5, hf5, h⟩ := rz_b_inv h
      have fr5 := fr.trans ((wx32_find F hf5).mono (by decide) (by decide))
      cases h
      exact fr5
  · replace h := if_F h hc3
    cases h
    exact fr
def cs_x38_counts : List Nat := [1, 49, 50, 52, 53, 54, 55]
def fs_x38_counts : List (Nat × Nat) := [(51, 3), (51, 4), (51, 5), (51, 10)]
theorem wx38_counts (F : Nat) {a0 : Int} {a1 : Int} {A : rz_A} {r : Int} {A' : rz_A} (h : x38_counts F a0 a1 A = some (r, A')) : Fr cs_x38_counts fs_x38_counts A A' := by
  have fr : Fr cs_x38_counts fs_x38_counts A A := Fr.rfl
  unfold x38_counts at h
  obtain ⟨r1, A1, hf1, h⟩ := rz_b_inv h
  have fr1 := fr.trans ((wx37_has F hf1).mono (by decide) (by decide))
  by_cases hc2 : r1 = 0
  · replace h := if_T h hc2
    obtain ⟨r3, A3, hf3, h⟩ := rz_b_inv h
    have fr3 := fr1.trans ((wx1_refuse F hf3).mono (by decide) (by decide))
    cases h
    exact fr3
  · replace h := if_F h hc2
    obtain ⟨r4, A4, hf4, h⟩ := rz_b_inv h
    have fr4 := fr1.trans ((wx19_whyNotTime F hf4).mono (by decide) (by decide))
    by_cases hc5 : r4 = 0
    · replace h := if_T h hc5
      obtain ⟨_, A6, hf6, h⟩ := rz_b_inv h
      have fr6 := fr4.trans ((wx20_see F hf6).mono (by decide) (by decide))
      obtain ⟨r7, A7, hf7, h⟩ := rz_b_inv h
      have fr7 := fr6.trans ((wx39_placeOf F hf7).mono (by decide) (by decide))
      by_cases hc8 : 0 ≤ r7
      · replace h := if_T h hc8
        cases h
        exact fr7
      · replace h := if_F h hc8
        cases h
        exact fr7
    · replace h := if_F h hc5
      obtain ⟨r9, A9, hf9, h⟩ := rz_b_inv h
      have fr9 := fr4.trans ((wx1_refuse F hf9).mono (by decide) (by decide))
      cases h
      exact fr9
def cs_x41_take : List Nat := [41]
def fs_x41_take : List (Nat × Nat) := [(40, 1)]
theorem wx41_take_3 (F : Nat) : ∀ (n : Nat) (v1 : Int) (v2 : Int) (v4 : Int) (A : rz_A) (r : Int) (A' : rz_A), x41_take_3 F n v1 v2 v4 A = some (r, A') → Fr cs_x41_take fs_x41_take A A' := by
  intro n
  induction n with
  | zero => intro v1 v2 v4 A r A' h; cases h
  | succ n ih =>
    intro v1 v2 v4 A r A' h
    have fr : Fr cs_x41_take fs_x41_take A A := Fr.rfl
    rw [x41_take_3] at h
    by_cases hc1 : v4 < v1
    · replace h := if_T h hc1
      by_cases hc2 : (A.1 40 1) < 60
      · replace h := if_T h hc2
        replace h := (rz_g32_inv h).2
        replace h := (rz_gx_inv h).2.2
        replace h := (rz_g32_inv h).2
        replace h := (rz_g32_inv h).2
        exact (Fr.aI (Fr.aI fr (Or.inl (by decide))) (Or.inr (by decide))).trans (ih _ _ _ _ _ _ h)
      · replace h := if_F h hc2
        cases h
        exact fr
    · replace h := if_F h hc1
      cases h
      exact fr
theorem wx41_take (F : Nat) {a0 : Int} {a1 : Int} {A : rz_A} {r : Int} {A' : rz_A} (h : x41_take F a0 a1 A = some (r, A')) : Fr cs_x41_take fs_x41_take A A' := by
  have fr : Fr cs_x41_take fs_x41_take A A := Fr.rfl
  unfold x41_take at h
  exact fr.trans (wx41_take_3 F F _ _ _ _ _ _ h)
def cs_x40_feed : List Nat := [1, 41]
def fs_x40_feed : List (Nat × Nat) := [(40, 1)]
theorem wx40_feed (F : Nat) {a0 : Int} {a1 : Int} {A : rz_A} {r : Int} {A' : rz_A} (h : x40_feed F a0 a1 A = some (r, A')) : Fr cs_x40_feed fs_x40_feed A A' := by
  have fr : Fr cs_x40_feed fs_x40_feed A A := Fr.rfl
  unfold x40_feed at h
  by_cases hc1 : a0 < 1
  · replace h := if_T h hc1
    obtain ⟨r2, A2, hf2, h⟩ := rz_b_inv h
    have fr2 := fr.trans ((wx1_refuse F hf2).mono (by decide) (by decide))
    cases h
    exact fr2
  · replace h := if_F h hc1
    by_cases hc3 : a0 ≤ 8
    · replace h := if_T h hc3
      replace h := (rz_g32_inv h).2
      by_cases hc5 : (60 - (A.1 40 1)) < a0
      · replace h := if_T h hc5
        obtain ⟨r6, A6, hf6, h⟩ := rz_b_inv h
        have fr6 := fr.trans ((wx1_refuse F hf6).mono (by decide) (by decide))
        cases h
        exact fr6
      · replace h := if_F h hc5
        obtain ⟨r7, A7, hf7, h⟩ := rz_b_inv h
        have fr7 := fr.trans ((wx41_take F hf7).mono (by decide) (by decide))
        cases h
        exact fr7
    · replace h := if_F h hc3
      obtain ⟨r8, A8, hf8, h⟩ := rz_b_inv h
      have fr8 := fr.trans ((wx1_refuse F hf8).mono (by decide) (by decide))
      cases h
      exact fr8
def cs_x47_isNext : List Nat := []
def fs_x47_isNext : List (Nat × Nat) := []
theorem wx47_isNext (F : Nat) {a0 : Int} {A : rz_A} {r : Int} {A' : rz_A} (h : x47_isNext F a0 A = some (r, A')) : Fr cs_x47_isNext fs_x47_isNext A A' := by
  have fr : Fr cs_x47_isNext fs_x47_isNext A A := Fr.rfl
  unfold x47_isNext at h
  by_cases hc1 : (A.1 40 4) < (A.1 40 1)
  · replace h := if_T h hc1
    replace h := (rz_gx_inv h).2.2
    by_cases hc4 : (A.1 41 ((A.1 40 4)).toNat) = a0
    · replace h := if_T h hc4
      cases h
      exact fr
    · replace h := if_F h hc4
      cases h
      exact fr
  · replace h := if_F h hc1
    cases h
    exact fr
def cs_x49_step : List Nat := [42]
def fs_x49_step : List (Nat × Nat) := [(40, 3)]
theorem wx49_step (F : Nat) {a0 : Int} {A : rz_A} {r : Unit} {A' : rz_A} (h : x49_step F a0 A = some (r, A')) : Fr cs_x49_step fs_x49_step A A' := by
  have fr : Fr cs_x49_step fs_x49_step A A := Fr.rfl
  unfold x49_step at h
  by_cases hc1 : 60 ≤ (A.1 40 3)
  · replace h := if_T h hc1
    cases h
    exact fr
  · replace h := if_F h hc1
    replace h := (rz_gx_inv h).2.2
    replace h := (rz_g32_inv h).2
    cases h
    exact (Fr.aI (Fr.aI fr (Or.inl (by decide))) (Or.inr (by decide)))
def cs_x55_isLatin1 : List Nat := []
def fs_x55_isLatin1 : List (Nat × Nat) := []
theorem wx55_isLatin1 (F : Nat) {A : rz_A} {r : Int} {A' : rz_A} (h : x55_isLatin1 F A = some (r, A')) : Fr cs_x55_isLatin1 fs_x55_isLatin1 A A' := by
  have fr : Fr cs_x55_isLatin1 fs_x55_isLatin1 A A := Fr.rfl
  unfold x55_isLatin1 at h
  cases h
  exact fr
def cs_x57_coder : List Nat := []
def fs_x57_coder : List (Nat × Nat) := []
theorem wx57_coder (F : Nat) {A : rz_A} {r : Int} {A' : rz_A} (h : x57_coder F A = some (r, A')) : Fr cs_x57_coder fs_x57_coder A A' := by
  have fr : Fr cs_x57_coder fs_x57_coder A A := Fr.rfl
  unfold x57_coder at h
  cases h
  exact fr
def cs_x56_length : List Nat := []
def fs_x56_length : List (Nat × Nat) := []
theorem wx56_length (F : Nat) {A : rz_A} {r : Int} {A' : rz_A} (h : x56_length F A = some (r, A')) : Fr cs_x56_length fs_x56_length A A' := by
  have fr : Fr cs_x56_length fs_x56_length A A := Fr.rfl
  unfold x56_length at h
  obtain ⟨r1, A1, hf1, h⟩ := rz_b_inv h
  have fr1 := fr.trans ((wx57_coder F hf1).mono (by decide) (by decide))
  cases h
  exact fr1
def cs_x59_canEncode : List Nat := []
def fs_x59_canEncode : List (Nat × Nat) := []
theorem wx59_canEncode (F : Nat) {a0 : Int} {A : rz_A} {r : Int} {A' : rz_A} (h : x59_canEncode F a0 A = some (r, A')) : Fr cs_x59_canEncode fs_x59_canEncode A A' := by
  have fr : Fr cs_x59_canEncode fs_x59_canEncode A A := Fr.rfl
  unfold x59_canEncode at h
  by_cases hc1 : 0 ≤ a0
  · replace h := if_T h hc1
    by_cases hc2 : a0 ≤ 255
    · replace h := if_T h hc2
      cases h
      exact fr
    · replace h := if_F h hc2
      cases h
      exact fr
  · replace h := if_F h hc1
    cases h
    exact fr
def cs_x60_max : List Nat := []
def fs_x60_max : List (Nat × Nat) := []
theorem wx60_max (F : Nat) {a0 : Int} {a1 : Int} {A : rz_A} {r : Int} {A' : rz_A} (h : x60_max F a0 a1 A = some (r, A')) : Fr cs_x60_max fs_x60_max A A' := by
  have fr : Fr cs_x60_max fs_x60_max A A := Fr.rfl
  unfold x60_max at h
  by_cases hc1 : a1 ≤ a0
  · replace h := if_T h hc1
    cases h
    exact fr
  · replace h := if_F h hc1
    cases h
    exact fr
def cs_x61_min : List Nat := []
def fs_x61_min : List (Nat × Nat) := []
theorem wx61_min (F : Nat) {a0 : Int} {a1 : Int} {A : rz_A} {r : Int} {A' : rz_A} (h : x61_min F a0 a1 A = some (r, A')) : Fr cs_x61_min fs_x61_min A A' := by
  have fr : Fr cs_x61_min fs_x61_min A A := Fr.rfl
  unfold x61_min at h
  by_cases hc1 : a0 ≤ a1
  · replace h := if_T h hc1
    cases h
    exact fr
  · replace h := if_F h hc1
    cases h
    exact fr
def cs_x62_indexOfChar : List Nat := []
def fs_x62_indexOfChar : List (Nat × Nat) := []
theorem wx62_indexOfChar_7 (F : Nat) : ∀ (n : Nat) (v3 : Int) (v4 : Int) (v5 : Int) (A : rz_A) (r : Int) (A' : rz_A), x62_indexOfChar_7 F n v3 v4 v5 A = some (r, A') → Fr cs_x62_indexOfChar fs_x62_indexOfChar A A' := by
  intro n
  induction n with
  | zero => intro v3 v4 v5 A r A' h; cases h
  | succ n ih =>
    intro v3 v4 v5 A r A' h
    have fr : Fr cs_x62_indexOfChar fs_x62_indexOfChar A A := Fr.rfl
    rw [x62_indexOfChar_7] at h
    by_cases hc1 : v5 < v3
    · replace h := if_T h hc1
      replace h := (rz_gx_inv h).2.2
      by_cases hc4 : (rz_letN (v5).toNat) = v4
      · replace h := if_T h hc4
        cases h
        exact fr
      · replace h := if_F h hc4
        replace h := (rz_g32_inv h).2
        exact fr.trans (ih _ _ _ _ _ _ h)
    · replace h := if_F h hc1
      cases h
      exact fr
theorem wx62_indexOfChar (F : Nat) {a0 : Int} {a1 : Int} {a2 : Int} {A : rz_A} {r : Int} {A' : rz_A} (h : x62_indexOfChar F a0 a1 a2 A = some (r, A')) : Fr cs_x62_indexOfChar fs_x62_indexOfChar A A' := by
  have fr : Fr cs_x62_indexOfChar fs_x62_indexOfChar A A := Fr.rfl
  unfold x62_indexOfChar at h
  exact fr.trans (wx62_indexOfChar_7 F F _ _ _ _ _ _ h)
def cs_x58_indexOf : List Nat := []
def fs_x58_indexOf : List (Nat × Nat) := []
theorem wx58_indexOf (F : Nat) {a0 : Int} {a1 : Int} {a2 : Int} {A : rz_A} {r : Int} {A' : rz_A} (h : x58_indexOf F a0 a1 a2 A = some (r, A')) : Fr cs_x58_indexOf fs_x58_indexOf A A' := by
  have fr : Fr cs_x58_indexOf fs_x58_indexOf A A := Fr.rfl
  unfold x58_indexOf at h
  obtain ⟨r1, A1, hf1, h⟩ := rz_b_inv h
  have fr1 := fr.trans ((wx59_canEncode F hf1).mono (by decide) (by decide))
  by_cases hc2 : r1 = 0
  · replace h := if_T h hc2
    cases h
    exact fr1
  · replace h := if_F h hc2
    obtain ⟨r3, A3, hf3, h⟩ := rz_b_inv h
    have fr3 := fr1.trans ((wx60_max F hf3).mono (by decide) (by decide))
    obtain ⟨r4, A4, hf4, h⟩ := rz_b_inv h
    have fr4 := fr3.trans ((wx61_min F hf4).mono (by decide) (by decide))
    by_cases hc5 : r4 ≤ r3
    · replace h := if_T h hc5
      cases h
      exact fr4
    · replace h := if_F h hc5
      obtain ⟨r6, A6, hf6, h⟩ := rz_b_inv h
      have fr6 := fr4.trans ((wx62_indexOfChar F hf6).mono (by decide) (by decide))
      cases h
      exact fr6
def cs_x54_indexOf : List Nat := []
def fs_x54_indexOf : List (Nat × Nat) := []
theorem wx54_indexOf (F : Nat) {a0 : Int} {a1 : Int} {A : rz_A} {r : Int} {A' : rz_A} (h : x54_indexOf F a0 a1 A = some (r, A')) : Fr cs_x54_indexOf fs_x54_indexOf A A' := by
  have fr : Fr cs_x54_indexOf fs_x54_indexOf A A := Fr.rfl
  unfold x54_indexOf at h
  obtain ⟨r1, A1, hf1, h⟩ := rz_b_inv h
  have fr1 := fr.trans ((wx55_isLatin1 F hf1).mono (by decide) (by decide))
  by_cases hc2 : r1 = 0
  · replace h := if_T h hc2
    obtain ⟨r3, A3, hf3, h⟩ := rz_b_inv h
    have fr3 := fr1.trans ((wx56_length F hf3).mono (by decide) (by decide))
    cases h
  · replace h := if_F h hc2
    obtain ⟨r4, A4, hf4, h⟩ := rz_b_inv h
    have fr4 := fr1.trans ((wx56_length F hf4).mono (by decide) (by decide))
    obtain ⟨r5, A5, hf5, h⟩ := rz_b_inv h
    have fr5 := fr4.trans ((wx58_indexOf F hf5).mono (by decide) (by decide))
    cases h
    exact fr5
def cs_x53_indexOf : List Nat := []
def fs_x53_indexOf : List (Nat × Nat) := []
theorem wx53_indexOf (F : Nat) {a0 : Int} {A : rz_A} {r : Int} {A' : rz_A} (h : x53_indexOf F a0 A = some (r, A')) : Fr cs_x53_indexOf fs_x53_indexOf A A' := by
  have fr : Fr cs_x53_indexOf fs_x53_indexOf A A := Fr.rfl
  unfold x53_indexOf at h
  obtain ⟨r1, A1, hf1, h⟩ := rz_b_inv h
  have fr1 := fr.trans ((wx54_indexOf F hf1).mono (by decide) (by decide))
  cases h
  exact fr1
def cs_x52_readUnit : List Nat := [42]
def fs_x52_readUnit : List (Nat × Nat) := [(40, 3), (40, 4)]
theorem wx52_readUnit_134 (F : Nat) : ∀ (v2 : Int) (v3 : Int) (A : rz_A) (r : Int) (A' : rz_A), x52_readUnit_134 F v2 v3 A = some (r, A') → Fr cs_x52_readUnit fs_x52_readUnit A A' := by
  intro v2 v3 A r A' h
  have fr : Fr cs_x52_readUnit fs_x52_readUnit A A := Fr.rfl
  unfold x52_readUnit_134 at h
  by_cases hc1 : 0 < v3
  · replace h := if_T h hc1
    obtain ⟨_, A2, hf2, h⟩ := rz_b_inv h
    have fr2 := fr.trans ((wx49_step F hf2).mono (by decide) (by decide))
    cases h
    exact fr2
  · replace h := if_F h hc1
    cases h
    exact fr
theorem wx52_readUnit_56 (F : Nat) : ∀ (n : Nat) (v2 : Int) (v3 : Int) (A : rz_A) (r : Int) (A' : rz_A), x52_readUnit_56 F n v2 v3 A = some (r, A') → Fr cs_x52_readUnit fs_x52_readUnit A A' := by
  intro n
  induction n with
  | zero => intro v2 v3 A r A' h; cases h
  | succ n ih =>
    intro v2 v3 A r A' h
    have fr : Fr cs_x52_readUnit fs_x52_readUnit A A := Fr.rfl
    rw [x52_readUnit_56] at h
    by_cases hc1 : v3 < 5
    · replace h := if_T h hc1
      by_cases hc2 : (A.1 40 4) < (A.1 40 1)
      · replace h := if_T h hc2
        replace h := (rz_gx_inv h).2.2
        by_cases hc5 : 48 ≤ (A.1 41 ((A.1 40 4)).toNat)
        · replace h := if_T h hc5
          by_cases hc6 : (A.1 41 ((A.1 40 4)).toNat) ≤ 57
          · replace h := if_T h hc6
            replace h := (rz_g32_inv h).2
            replace h := (rz_g32_inv h).2
            replace h := (rz_g32_inv h).2
            replace h := (rz_g32_inv h).2
            replace h := (rz_g32_inv h).2
            exact (Fr.aI fr (Or.inr (by decide))).trans (ih _ _ _ _ _ h)
          · replace h := if_F h hc6
            exact fr.trans (wx52_readUnit_134 F _ _ _ _ _ h)
        · replace h := if_F h hc5
          exact fr.trans (wx52_readUnit_134 F _ _ _ _ _ h)
      · replace h := if_F h hc2
        exact fr.trans (wx52_readUnit_134 F _ _ _ _ _ h)
    · replace h := if_F h hc1
      exact fr.trans (wx52_readUnit_134 F _ _ _ _ _ h)
theorem wx52_readUnit (F : Nat) {A : rz_A} {r : Int} {A' : rz_A} (h : x52_readUnit F A = some (r, A')) : Fr cs_x52_readUnit fs_x52_readUnit A A' := by
  have fr : Fr cs_x52_readUnit fs_x52_readUnit A A := Fr.rfl
  unfold x52_readUnit at h
  by_cases hc1 : (A.1 40 1) ≤ (A.1 40 4)
  · replace h := if_T h hc1
    cases h
    exact fr
  · replace h := if_F h hc1
    replace h := (rz_gx_inv h).2.2
    obtain ⟨r4, A4, hf4, h⟩ := rz_b_inv h
    have fr4 := fr.trans ((wx53_indexOf F hf4).mono (by decide) (by decide))
    by_cases hc5 : 0 ≤ r4
    · replace h := if_T h hc5
      replace h := (rz_g32_inv h).2
      replace h := (rz_g32_inv h).2
      obtain ⟨_, A9, hf9, h⟩ := rz_b_inv h
      have fr9 := (Fr.aI fr4 (Or.inr (by decide))).trans ((wx49_step F hf9).mono (by decide) (by decide))
      cases h
      exact fr9
    · replace h := if_F h hc5
      exact fr4.trans (wx52_readUnit_56 F F _ _ _ _ _ h)
def cs_x51_readSum : List Nat := [42]
def fs_x51_readSum : List (Nat × Nat) := [(40, 3), (40, 4)]
theorem wx51_readSum_11 (F : Nat) : ∀ (n : Nat) (v1 : Int) (A : rz_A) (r : Int) (A' : rz_A), x51_readSum_11 F n v1 A = some (r, A') → Fr cs_x51_readSum fs_x51_readSum A A' := by
  intro n
  induction n with
  | zero => intro v1 A r A' h; cases h
  | succ n ih =>
    intro v1 A r A' h
    have fr : Fr cs_x51_readSum fs_x51_readSum A A := Fr.rfl
    rw [x51_readSum_11] at h
    by_cases hc1 : v1 < 60
    · replace h := if_T h hc1
      obtain ⟨r2, A2, hf2, h⟩ := rz_b_inv h
      have fr2 := fr.trans ((wx47_isNext F hf2).mono (by decide) (by decide))
      by_cases hc3 : r2 = 0
      · replace h := if_T h hc3
        obtain ⟨r4, A4, hf4, h⟩ := rz_b_inv h
        have fr4 := fr2.trans ((wx47_isNext F hf4).mono (by decide) (by decide))
        by_cases hc5 : r4 = 0
        · replace h := if_T h hc5
          obtain ⟨r6, A6, hf6, h⟩ := rz_b_inv h
          have fr6 := fr4.trans ((wx47_isNext F hf6).mono (by decide) (by decide))
          by_cases hc7 : r6 = 0
          · replace h := if_T h hc7
            cases h
            exact fr6
          · replace h := if_F h hc7
            replace h := (rz_g32_inv h).2
            obtain ⟨r10, A10, hf10, h⟩ := rz_b_inv h
            have fr10 := (Fr.aI fr6 (Or.inr (by decide))).trans ((wx52_readUnit F hf10).mono (by decide) (by decide))
            by_cases hc11 : r10 = 0
            · replace h := if_T h hc11
              cases h
              exact fr10
            · replace h := if_F h hc11
              obtain ⟨_, A12, hf12, h⟩ := rz_b_inv h
              have fr12 := fr10.trans ((wx49_step F hf12).mono (by decide) (by decide))
              replace h := (rz_g32_inv h).2
              exact fr12.trans (ih _ _ _ _ h)
        · replace h := if_F h hc5
          replace h := (rz_g32_inv h).2
          obtain ⟨r16, A16, hf16, h⟩ := rz_b_inv h
          have fr16 := (Fr.aI fr4 (Or.inr (by decide))).trans ((wx52_readUnit F hf16).mono (by decide) (by decide))
          by_cases hc17 : r16 = 0
          · replace h := if_T h hc17
            cases h
            exact fr16
          · replace h := if_F h hc17
            obtain ⟨_, A18, hf18, h⟩ := rz_b_inv h
            have fr18 := fr16.trans ((wx49_step F hf18).mono (by decide) (by decide))
            replace h := (rz_g32_inv h).2
            exact fr18.trans (ih _ _ _ _ h)
      · replace h := if_F h hc3
        replace h := (rz_g32_inv h).2
        obtain ⟨r22, A22, hf22, h⟩ := rz_b_inv h
        have fr22 := (Fr.aI fr2 (Or.inr (by decide))).trans ((wx52_readUnit F hf22).mono (by decide) (by decide))
        by_cases hc23 : r22 = 0
        · replace h := if_T h hc23
          cases h
          exact fr22
        · replace h := if_F h hc23
          obtain ⟨_, A24, hf24, h⟩ := rz_b_inv h
          have fr24 := fr22.trans ((wx49_step F hf24).mono (by decide) (by decide))
          replace h := (rz_g32_inv h).2
          exact fr24.trans (ih _ _ _ _ h)
    · replace h := if_F h hc1
      cases h
      exact fr
theorem wx51_readSum (F : Nat) {A : rz_A} {r : Int} {A' : rz_A} (h : x51_readSum F A = some (r, A')) : Fr cs_x51_readSum fs_x51_readSum A A' := by
  have fr : Fr cs_x51_readSum fs_x51_readSum A A := Fr.rfl
  unfold x51_readSum at h
  obtain ⟨r1, A1, hf1, h⟩ := rz_b_inv h
  have fr1 := fr.trans ((wx52_readUnit F hf1).mono (by decide) (by decide))
  by_cases hc2 : r1 = 0
  · replace h := if_T h hc2
    cases h
    exact fr1
  · replace h := if_F h hc2
    exact fr1.trans (wx51_readSum_11 F F _ _ _ _ h)
def cs_x50_readGroup : List Nat := [42]
def fs_x50_readGroup : List (Nat × Nat) := [(40, 3), (40, 4)]
theorem wx50_readGroup (F : Nat) {oT oO : Int → rz_A → Option (Int × rz_A)} (hT : ∀ (a : Int) (A : rz_A) (r : Int) (A' : rz_A), oT a A = some (r, A') → Fr [42] [(40, 3), (40, 4)] A A') (hO : ∀ (a : Int) (A : rz_A) (r : Int) (A' : rz_A), oO a A = some (r, A') → Fr [42] [(40, 3), (40, 4)] A A') {a0 : Int} {A : rz_A} {r : Int} {A' : rz_A} (h : x50_readGroup F oT oO a0 A = some (r, A')) : Fr cs_x50_readGroup fs_x50_readGroup A A' := by
  have fr : Fr cs_x50_readGroup fs_x50_readGroup A A := Fr.rfl
  unfold x50_readGroup at h
  by_cases hc1 : 5 ≤ a0
  · replace h := if_T h hc1
    cases h
    exact fr
  · replace h := if_F h hc1
    replace h := (rz_g32_inv h).2
    replace h := (rz_g32_inv h).2
    obtain ⟨r5, A5, hf5, h⟩ := rz_b_inv h
    have fr5 := (Fr.aI fr (Or.inr (by decide))).trans ((hO _ _ _ _ hf5).mono (by decide) (by decide))
    by_cases hc6 : r5 = 0
    · replace h := if_T h hc6
      cases h
      exact fr5
    · replace h := if_F h hc6
      obtain ⟨r7, A7, hf7, h⟩ := rz_b_inv h
      have fr7 := fr5.trans ((wx47_isNext F hf7).mono (by decide) (by decide))
      by_cases hc8 : r7 = 0
      · replace h := if_T h hc8
        cases h
        exact fr7
      · replace h := if_F h hc8
        replace h := (rz_g32_inv h).2
        cases h
        exact (Fr.aI fr7 (Or.inr (by decide)))
def cs_x48_readNot : List Nat := [42]
def fs_x48_readNot : List (Nat × Nat) := [(40, 3), (40, 4)]
theorem wx48_readNot (F : Nat) {oT oO : Int → rz_A → Option (Int × rz_A)} (hT : ∀ (a : Int) (A : rz_A) (r : Int) (A' : rz_A), oT a A = some (r, A') → Fr [42] [(40, 3), (40, 4)] A A') (hO : ∀ (a : Int) (A : rz_A) (r : Int) (A' : rz_A), oO a A = some (r, A') → Fr [42] [(40, 3), (40, 4)] A A') {a0 : Int} {A : rz_A} {r : Int} {A' : rz_A} (h : x48_readNot F oT oO a0 A = some (r, A')) : Fr cs_x48_readNot fs_x48_readNot A A' := by
  have fr : Fr cs_x48_readNot fs_x48_readNot A A := Fr.rfl
  unfold x48_readNot at h
  by_cases hc1 : 5 ≤ a0
  · replace h := if_T h hc1
    cases h
    exact fr
  · replace h := if_F h hc1
    replace h := (rz_g32_inv h).2
    replace h := (rz_g32_inv h).2
    obtain ⟨r5, A5, hf5, h⟩ := rz_b_inv h
    have fr5 := (Fr.aI fr (Or.inr (by decide))).trans ((hT _ _ _ _ hf5).mono (by decide) (by decide))
    by_cases hc6 : r5 = 0
    · replace h := if_T h hc6
      cases h
      exact fr5
    · replace h := if_F h hc6
      obtain ⟨_, A7, hf7, h⟩ := rz_b_inv h
      have fr7 := fr5.trans ((wx49_step F hf7).mono (by decide) (by decide))
      cases h
      exact fr7
def cs_x46_readTest : List Nat := [42]
def fs_x46_readTest : List (Nat × Nat) := [(40, 3), (40, 4)]
theorem wx46_readTest (F : Nat) {oT oO : Int → rz_A → Option (Int × rz_A)} (hT : ∀ (a : Int) (A : rz_A) (r : Int) (A' : rz_A), oT a A = some (r, A') → Fr [42] [(40, 3), (40, 4)] A A') (hO : ∀ (a : Int) (A : rz_A) (r : Int) (A' : rz_A), oO a A = some (r, A') → Fr [42] [(40, 3), (40, 4)] A A') {a0 : Int} {A : rz_A} {r : Int} {A' : rz_A} (h : x46_readTest F oT oO a0 A = some (r, A')) : Fr cs_x46_readTest fs_x46_readTest A A' := by
  have fr : Fr cs_x46_readTest fs_x46_readTest A A := Fr.rfl
  unfold x46_readTest at h
  obtain ⟨r1, A1, hf1, h⟩ := rz_b_inv h
  have fr1 := fr.trans ((wx47_isNext F hf1).mono (by decide) (by decide))
  by_cases hc2 : r1 = 0
  · replace h := if_T h hc2
    obtain ⟨r3, A3, hf3, h⟩ := rz_b_inv h
    have fr3 := fr1.trans ((wx47_isNext F hf3).mono (by decide) (by decide))
    by_cases hc4 : r3 = 0
    · replace h := if_T h hc4
      obtain ⟨r5, A5, hf5, h⟩ := rz_b_inv h
      have fr5 := fr3.trans ((wx51_readSum F hf5).mono (by decide) (by decide))
      by_cases hc6 : r5 = 0
      · replace h := if_T h hc6
        cases h
        exact fr5
      · replace h := if_F h hc6
        obtain ⟨r7, A7, hf7, h⟩ := rz_b_inv h
        have fr7 := fr5.trans ((wx47_isNext F hf7).mono (by decide) (by decide))
        by_cases hc8 : r7 = 0
        · replace h := if_T h hc8
          obtain ⟨r9, A9, hf9, h⟩ := rz_b_inv h
          have fr9 := fr7.trans ((wx47_isNext F hf9).mono (by decide) (by decide))
          by_cases hc10 : r9 = 0
          · replace h := if_T h hc10
            obtain ⟨r11, A11, hf11, h⟩ := rz_b_inv h
            have fr11 := fr9.trans ((wx47_isNext F hf11).mono (by decide) (by decide))
            by_cases hc12 : r11 = 0
            · replace h := if_T h hc12
              cases h
              exact fr11
            · replace h := if_F h hc12
              replace h := (rz_g32_inv h).2
              obtain ⟨r15, A15, hf15, h⟩ := rz_b_inv h
              have fr15 := (Fr.aI fr11 (Or.inr (by decide))).trans ((wx51_readSum F hf15).mono (by decide) (by decide))
              by_cases hc16 : r15 = 0
              · replace h := if_T h hc16
                cases h
                exact fr15
              · replace h := if_F h hc16
                obtain ⟨_, A17, hf17, h⟩ := rz_b_inv h
                have fr17 := fr15.trans ((wx49_step F hf17).mono (by decide) (by decide))
                cases h
                exact fr17
          · replace h := if_F h hc10
            replace h := (rz_g32_inv h).2
            obtain ⟨r20, A20, hf20, h⟩ := rz_b_inv h
            have fr20 := (Fr.aI fr9 (Or.inr (by decide))).trans ((wx51_readSum F hf20).mono (by decide) (by decide))
            by_cases hc21 : r20 = 0
            · replace h := if_T h hc21
              cases h
              exact fr20
            · replace h := if_F h hc21
              obtain ⟨_, A22, hf22, h⟩ := rz_b_inv h
              have fr22 := fr20.trans ((wx49_step F hf22).mono (by decide) (by decide))
              cases h
              exact fr22
        · replace h := if_F h hc8
          replace h := (rz_g32_inv h).2
          obtain ⟨r25, A25, hf25, h⟩ := rz_b_inv h
          have fr25 := (Fr.aI fr7 (Or.inr (by decide))).trans ((wx51_readSum F hf25).mono (by decide) (by decide))
          by_cases hc26 : r25 = 0
          · replace h := if_T h hc26
            cases h
            exact fr25
          · replace h := if_F h hc26
            obtain ⟨_, A27, hf27, h⟩ := rz_b_inv h
            have fr27 := fr25.trans ((wx49_step F hf27).mono (by decide) (by decide))
            cases h
            exact fr27
    · replace h := if_F h hc4
      obtain ⟨r28, A28, hf28, h⟩ := rz_b_inv h
      have fr28 := fr3.trans ((wx50_readGroup F hT hO hf28).mono (by decide) (by decide))
      replace h := (rz_gz_inv h).2
      cases h
      exact fr28
  · replace h := if_F h hc2
    obtain ⟨r30, A30, hf30, h⟩ := rz_b_inv h
    have fr30 := fr1.trans ((wx48_readNot F hT hO hf30).mono (by decide) (by decide))
    replace h := (rz_gz_inv h).2
    cases h
    exact fr30
def cs_x45_readAnds : List Nat := [42]
def fs_x45_readAnds : List (Nat × Nat) := [(40, 3), (40, 4)]
theorem wx45_readAnds_12 (F : Nat) {oT oO : Int → rz_A → Option (Int × rz_A)} (hT : ∀ (a : Int) (A : rz_A) (r : Int) (A' : rz_A), oT a A = some (r, A') → Fr [42] [(40, 3), (40, 4)] A A') (hO : ∀ (a : Int) (A : rz_A) (r : Int) (A' : rz_A), oO a A = some (r, A') → Fr [42] [(40, 3), (40, 4)] A A') : ∀ (n : Nat) (v1 : Int) (v2 : Int) (A : rz_A) (r : Int) (A' : rz_A), x45_readAnds_12 F oT oO n v1 v2 A = some (r, A') → Fr cs_x45_readAnds fs_x45_readAnds A A' := by
  intro n
  induction n with
  | zero => intro v1 v2 A r A' h; cases h
  | succ n ih =>
    intro v1 v2 A r A' h
    have fr : Fr cs_x45_readAnds fs_x45_readAnds A A := Fr.rfl
    rw [x45_readAnds_12] at h
    by_cases hc1 : v2 < 60
    · replace h := if_T h hc1
      obtain ⟨r2, A2, hf2, h⟩ := rz_b_inv h
      have fr2 := fr.trans ((wx47_isNext F hf2).mono (by decide) (by decide))
      by_cases hc3 : r2 = 0
      · replace h := if_T h hc3
        cases h
        exact fr2
      · replace h := if_F h hc3
        replace h := (rz_g32_inv h).2
        obtain ⟨r6, A6, hf6, h⟩ := rz_b_inv h
        have fr6 := (Fr.aI fr2 (Or.inr (by decide))).trans ((wx46_readTest F hT hO hf6).mono (by decide) (by decide))
        by_cases hc7 : r6 = 0
        · replace h := if_T h hc7
          cases h
          exact fr6
        · replace h := if_F h hc7
          obtain ⟨_, A8, hf8, h⟩ := rz_b_inv h
          have fr8 := fr6.trans ((wx49_step F hf8).mono (by decide) (by decide))
          replace h := (rz_g32_inv h).2
          exact fr8.trans (ih _ _ _ _ _ h)
    · replace h := if_F h hc1
      cases h
      exact fr
theorem wx45_readAnds (F : Nat) {oT oO : Int → rz_A → Option (Int × rz_A)} (hT : ∀ (a : Int) (A : rz_A) (r : Int) (A' : rz_A), oT a A = some (r, A') → Fr [42] [(40, 3), (40, 4)] A A') (hO : ∀ (a : Int) (A : rz_A) (r : Int) (A' : rz_A), oO a A = some (r, A') → Fr [42] [(40, 3), (40, 4)] A A') {a0 : Int} {A : rz_A} {r : Int} {A' : rz_A} (h : x45_readAnds F oT oO a0 A = some (r, A')) : Fr cs_x45_readAnds fs_x45_readAnds A A' := by
  have fr : Fr cs_x45_readAnds fs_x45_readAnds A A := Fr.rfl
  unfold x45_readAnds at h
  obtain ⟨r1, A1, hf1, h⟩ := rz_b_inv h
  have fr1 := fr.trans ((wx46_readTest F hT hO hf1).mono (by decide) (by decide))
  by_cases hc2 : r1 = 0
  · replace h := if_T h hc2
    cases h
    exact fr1
  · replace h := if_F h hc2
    exact fr1.trans (wx45_readAnds_12 F hT hO F _ _ _ _ _ h)
def cs_x44_readOrs : List Nat := [42]
def fs_x44_readOrs : List (Nat × Nat) := [(40, 3), (40, 4)]
theorem wx44_readOrs_12 (F : Nat) {oT oO : Int → rz_A → Option (Int × rz_A)} (hT : ∀ (a : Int) (A : rz_A) (r : Int) (A' : rz_A), oT a A = some (r, A') → Fr [42] [(40, 3), (40, 4)] A A') (hO : ∀ (a : Int) (A : rz_A) (r : Int) (A' : rz_A), oO a A = some (r, A') → Fr [42] [(40, 3), (40, 4)] A A') : ∀ (n : Nat) (v1 : Int) (v2 : Int) (A : rz_A) (r : Int) (A' : rz_A), x44_readOrs_12 F oT oO n v1 v2 A = some (r, A') → Fr cs_x44_readOrs fs_x44_readOrs A A' := by
  intro n
  induction n with
  | zero => intro v1 v2 A r A' h; cases h
  | succ n ih =>
    intro v1 v2 A r A' h
    have fr : Fr cs_x44_readOrs fs_x44_readOrs A A := Fr.rfl
    rw [x44_readOrs_12] at h
    by_cases hc1 : v2 < 60
    · replace h := if_T h hc1
      obtain ⟨r2, A2, hf2, h⟩ := rz_b_inv h
      have fr2 := fr.trans ((wx47_isNext F hf2).mono (by decide) (by decide))
      by_cases hc3 : r2 = 0
      · replace h := if_T h hc3
        cases h
        exact fr2
      · replace h := if_F h hc3
        replace h := (rz_g32_inv h).2
        obtain ⟨r6, A6, hf6, h⟩ := rz_b_inv h
        have fr6 := (Fr.aI fr2 (Or.inr (by decide))).trans ((wx45_readAnds F hT hO hf6).mono (by decide) (by decide))
        by_cases hc7 : r6 = 0
        · replace h := if_T h hc7
          cases h
          exact fr6
        · replace h := if_F h hc7
          obtain ⟨_, A8, hf8, h⟩ := rz_b_inv h
          have fr8 := fr6.trans ((wx49_step F hf8).mono (by decide) (by decide))
          replace h := (rz_g32_inv h).2
          exact fr8.trans (ih _ _ _ _ _ h)
    · replace h := if_F h hc1
      cases h
      exact fr
theorem wx44_readOrs (F : Nat) {oT oO : Int → rz_A → Option (Int × rz_A)} (hT : ∀ (a : Int) (A : rz_A) (r : Int) (A' : rz_A), oT a A = some (r, A') → Fr [42] [(40, 3), (40, 4)] A A') (hO : ∀ (a : Int) (A : rz_A) (r : Int) (A' : rz_A), oO a A = some (r, A') → Fr [42] [(40, 3), (40, 4)] A A') {a0 : Int} {A : rz_A} {r : Int} {A' : rz_A} (h : x44_readOrs F oT oO a0 A = some (r, A')) : Fr cs_x44_readOrs fs_x44_readOrs A A' := by
  have fr : Fr cs_x44_readOrs fs_x44_readOrs A A := Fr.rfl
  unfold x44_readOrs at h
  obtain ⟨r1, A1, hf1, h⟩ := rz_b_inv h
  have fr1 := fr.trans ((wx45_readAnds F hT hO hf1).mono (by decide) (by decide))
  by_cases hc2 : r1 = 0
  · replace h := if_T h hc2
    cases h
    exact fr1
  · replace h := if_F h hc2
    exact fr1.trans (wx44_readOrs_12 F hT hO F _ _ _ _ _ h)
theorem wx_lv (F : Nat) : ∀ n : Nat, (∀ (a : Int) (A : rz_A) (r : Int) (A' : rz_A), (x_lv F n).1 a A = some (r, A') → Fr [42] [(40, 3), (40, 4)] A A') ∧ (∀ (a : Int) (A : rz_A) (r : Int) (A' : rz_A), (x_lv F n).2 a A = some (r, A') → Fr [42] [(40, 3), (40, 4)] A A') := by
  intro n
  induction n with
  | zero => exact ⟨fun a A r A' h => (by cases h), fun a A r A' h => (by cases h)⟩
  | succ n ih => exact ⟨fun a A r A' h => wx46_readTest F ih.1 ih.2 h, fun a A r A' h => wx44_readOrs F ih.1 ih.2 h⟩
theorem wx_lv_O (F : Nat) {a : Int} {A : rz_A} {r : Int} {A' : rz_A} (h : x_lv_O F a A = some (r, A')) : Fr [42] [(40, 3), (40, 4)] A A' := (wx_lv F 7).2 a A r A' h
def cs_x43_fault : List Nat := [42]
def fs_x43_fault : List (Nat × Nat) := [(40, 3), (40, 4)]
theorem wx43_fault (F : Nat) {A : rz_A} {r : Int} {A' : rz_A} (h : x43_fault F A = some (r, A')) : Fr cs_x43_fault fs_x43_fault A A' := by
  have fr : Fr cs_x43_fault fs_x43_fault A A := Fr.rfl
  unfold x43_fault at h
  obtain ⟨r3, A3, hf3, h⟩ := rz_b_inv h
  have fr3 := (Fr.aI (Fr.aI fr (Or.inr (by decide))) (Or.inr (by decide))).trans ((wx_lv_O F hf3).mono (by decide) (by decide))
  by_cases hc4 : r3 = 0
  · replace h := if_T h hc4
    cases h
    exact fr3
  · replace h := if_F h hc4
    by_cases hc5 : (A3.1 40 1) ≤ (A3.1 40 4)
    · replace h := if_T h hc5
      cases h
      exact fr3
    · replace h := if_F h hc5
      cases h
      exact fr3
def cs_x63_come : List Nat := [44, 45, 46, 47, 48]
def fs_x63_come : List (Nat × Nat) := [(43, 0)]
theorem wx63_come (F : Nat) {a0 : Int} {a1 : Int} {a2 : Int} {A : rz_A} {r : Int} {A' : rz_A} (h : x63_come F a0 a1 a2 A = some (r, A')) : Fr cs_x63_come fs_x63_come A A' := by
  have fr : Fr cs_x63_come fs_x63_come A A := Fr.rfl
  unfold x63_come at h
  replace h := (rz_gx_inv h).2.2
  replace h := (rz_g32_inv h).2
  replace h := (rz_gp_inv h).2
  replace h := (rz_g32_inv h).2
  replace h := (rz_g32_inv h).2
  cases h
  exact (Fr.aI (Fr.aC (Fr.aI (Fr.aI (Fr.aI (Fr.aI fr (Or.inl (by decide))) (Or.inl (by decide))) (Or.inl (by decide))) (Or.inl (by decide))) (by decide)) (Or.inr (by decide)))
def cs_x42_standard : List Nat := [1, 42, 44, 45, 46, 47, 48]
def fs_x42_standard : List (Nat × Nat) := [(40, 1), (40, 3), (40, 4), (43, 0), (51, 5)]
theorem wx42_standard (F : Nat) {a0 : Int} {a1 : Int} {A : rz_A} {r : Int} {A' : rz_A} (h : x42_standard F a0 a1 A = some (r, A')) : Fr cs_x42_standard fs_x42_standard A A' := by
  have fr : Fr cs_x42_standard fs_x42_standard A A := Fr.rfl
  unfold x42_standard at h
  by_cases hc1 : 0 ≤ a0
  · replace h := if_T h hc1
    by_cases hc2 : 2 < a0
    · replace h := if_T h hc2
      obtain ⟨r3, A3, hf3, h⟩ := rz_b_inv h
      have fr3 := fr.trans ((wx1_refuse F hf3).mono (by decide) (by decide))
      cases h
      exact fr3
    · replace h := if_F h hc2
      replace h := (rz_g32_inv h).2
      by_cases hc5 : a1 < ((A.1 0 16).tdiv 96)
      · replace h := if_T h hc5
        obtain ⟨r6, A6, hf6, h⟩ := rz_b_inv h
        have fr6 := fr.trans ((wx1_refuse F hf6).mono (by decide) (by decide))
        cases h
        exact fr6
      · replace h := if_F h hc5
        by_cases hc7 : a1 ≤ 200
        · replace h := if_T h hc7
          by_cases hc8 : 20 ≤ (A.1 43 0)
          · replace h := if_T h hc8
            obtain ⟨r9, A9, hf9, h⟩ := rz_b_inv h
            have fr9 := fr.trans ((wx1_refuse F hf9).mono (by decide) (by decide))
            cases h
            exact fr9
          · replace h := if_F h hc8
            obtain ⟨r10, A10, hf10, h⟩ := rz_b_inv h
            have fr10 := fr.trans ((wx43_fault F hf10).mono (by decide) (by decide))
            by_cases hc12 : 0 ≤ r10
            · replace h := if_T h hc12
              replace h := (rz_g32_inv h).2
              cases h
              exact (Fr.aI fr10 (Or.inr (by decide)))
            · replace h := if_F h hc12
              obtain ⟨_, A14, hf14, h⟩ := rz_b_inv h
              have fr14 := (Fr.aI fr10 (Or.inr (by decide))).trans ((wx6_forget F hf14).mono (by decide) (by decide))
              obtain ⟨r15, A15, hf15, h⟩ := rz_b_inv h
              have fr15 := fr14.trans ((wx63_come F hf15).mono (by decide) (by decide))
              cases h
              exact fr15
        · replace h := if_F h hc7
          obtain ⟨r16, A16, hf16, h⟩ := rz_b_inv h
          have fr16 := fr.trans ((wx1_refuse F hf16).mono (by decide) (by decide))
          cases h
          exact fr16
  · replace h := if_F h hc1
    obtain ⟨r17, A17, hf17, h⟩ := rz_b_inv h
    have fr17 := fr.trans ((wx1_refuse F hf17).mono (by decide) (by decide))
    cases h
    exact fr17
def cs_x64_low : List Nat := [1, 4]
def fs_x64_low : List (Nat × Nat) := []
theorem wx64_low (F : Nat) {a0 : Int} {a1 : Int} {A : rz_A} {r : Int} {A' : rz_A} (h : x64_low F a0 a1 A = some (r, A')) : Fr cs_x64_low fs_x64_low A A' := by
  have fr : Fr cs_x64_low fs_x64_low A A := Fr.rfl
  unfold x64_low at h
  obtain ⟨r1, A1, hf1, h⟩ := rz_b_inv h
  have fr1 := fr.trans ((wx5_has F hf1).mono (by decide) (by decide))
  by_cases hc2 : r1 = 0
  · replace h := if_T h hc2
    obtain ⟨r3, A3, hf3, h⟩ := rz_b_inv h
    have fr3 := fr1.trans ((wx10_refuseAsTold F hf3).mono (by decide) (by decide))
    cases h
    exact fr3
  · replace h := if_F h hc2
    by_cases hc4 : a1 < (-2000)
    · replace h := if_T h hc4
      obtain ⟨r5, A5, hf5, h⟩ := rz_b_inv h
      have fr5 := fr1.trans ((wx10_refuseAsTold F hf5).mono (by decide) (by decide))
      cases h
      exact fr5
    · replace h := if_F h hc4
      by_cases hc6 : 9999 < a1
      · replace h := if_T h hc6
        obtain ⟨r7, A7, hf7, h⟩ := rz_b_inv h
        have fr7 := fr1.trans ((wx10_refuseAsTold F hf7).mono (by decide) (by decide))
        cases h
        exact fr7
      · replace h := if_F h hc6
        replace h := (rz_gx_inv h).2.2
        cases h
        exact (Fr.aI fr1 (Or.inl (by decide)))
def cs_x66_beginsAt : List Nat := []
def fs_x66_beginsAt : List (Nat × Nat) := []
theorem wx66_beginsAt_2 (F : Nat) : ∀ (n : Nat) (v1 : Int) (v2 : Int) (v3 : Int) (A : rz_A) (r : Int) (A' : rz_A), x66_beginsAt_2 F n v1 v2 v3 A = some (r, A') → Fr cs_x66_beginsAt fs_x66_beginsAt A A' := by
  intro n
  induction n with
  | zero => intro v1 v2 v3 A r A' h; cases h
  | succ n ih =>
    intro v1 v2 v3 A r A' h
    have fr : Fr cs_x66_beginsAt fs_x66_beginsAt A A := Fr.rfl
    rw [x66_beginsAt_2] at h
    replace h := (rz_gx_inv h).2.2
    by_cases hc3 : v3 < (A.1 6 (v1).toNat)
    · replace h := if_T h hc3
      by_cases hj4 : v1 = 0
      · replace h := if_T h hj4
        replace h := (rz_gx_inv h).2.2
        by_cases hc7 : (A.1 8 (v3).toNat) = v2
        · replace h := if_T h hc7
          cases h
          exact fr
        · replace h := if_F h hc7
          replace h := (rz_g32_inv h).2
          exact fr.trans (ih _ _ _ _ _ _ h)
      · replace h := if_F h hj4
        by_cases hj9 : v1 = 1
        · replace h := if_T h hj9
          replace h := (rz_gx_inv h).2.2
          by_cases hc12 : (A.1 9 (v3).toNat) = v2
          · replace h := if_T h hc12
            cases h
            exact fr
          · replace h := if_F h hc12
            replace h := (rz_g32_inv h).2
            exact fr.trans (ih _ _ _ _ _ _ h)
        · replace h := if_F h hj9
          by_cases hj14 : v1 = 2
          · replace h := if_T h hj14
            replace h := (rz_gx_inv h).2.2
            by_cases hc17 : (A.1 10 (v3).toNat) = v2
            · replace h := if_T h hc17
              cases h
              exact fr
            · replace h := if_F h hc17
              replace h := (rz_g32_inv h).2
              exact fr.trans (ih _ _ _ _ _ _ h)
          · replace h := if_F h hj14
            by_cases hj19 : v1 = 3
            · replace h := if_T h hj19
              replace h := (rz_gx_inv h).2.2
              by_cases hc22 : (A.1 11 (v3).toNat) = v2
              · replace h := if_T h hc22
                cases h
                exact fr
              · replace h := if_F h hc22
                replace h := (rz_g32_inv h).2
                exact fr.trans (ih _ _ _ _ _ _ h)
            · replace h := if_F h hj19
              by_cases hj24 : v1 = 4
              · replace h := if_T h hj24
                replace h := (rz_gx_inv h).2.2
                by_cases hc27 : (A.1 12 (v3).toNat) = v2
                · replace h := if_T h hc27
                  cases h
                  exact fr
                · replace h := if_F h hc27
                  replace h := (rz_g32_inv h).2
                  exact fr.trans (ih _ _ _ _ _ _ h)
              · replace h := if_F h hj24
                replace h := (rz_gx_inv h).2.2
                by_cases hc32 : (A.1 13 (v3).toNat) = v2
                · replace h := if_T h hc32
                  cases h
                  exact fr
                · replace h := if_F h hc32
                  replace h := (rz_g32_inv h).2
                  exact fr.trans (ih _ _ _ _ _ _ h)
    · replace h := if_F h hc3
      cases h
      exact fr
theorem wx66_beginsAt (F : Nat) {a0 : Int} {a1 : Int} {A : rz_A} {r : Int} {A' : rz_A} (h : x66_beginsAt F a0 a1 A = some (r, A')) : Fr cs_x66_beginsAt fs_x66_beginsAt A A' := by
  have fr : Fr cs_x66_beginsAt fs_x66_beginsAt A A := Fr.rfl
  unfold x66_beginsAt at h
  exact fr.trans (wx66_beginsAt_2 F F _ _ _ _ _ _ h)
def cs_x67_begin : List Nat := [6, 8, 9, 10, 11, 12, 13]
def fs_x67_begin : List (Nat × Nat) := []
theorem wx67_begin (F : Nat) {a0 : Int} {a1 : Int} {A : rz_A} {r : Int} {A' : rz_A} (h : x67_begin F a0 a1 A = some (r, A')) : Fr cs_x67_begin fs_x67_begin A A' := by
  have fr : Fr cs_x67_begin fs_x67_begin A A := Fr.rfl
  unfold x67_begin at h
  replace h := (rz_gx_inv h).2.2
  by_cases hj3 : a0 = 0
  · replace h := if_T h hj3
    replace h := (rz_gx_inv h).2.2
    replace h := (rz_g32_inv h).2
    cases h
    exact (Fr.aI (Fr.aI fr (Or.inl (by decide))) (Or.inl (by decide)))
  · replace h := if_F h hj3
    by_cases hj9 : a0 = 1
    · replace h := if_T h hj9
      replace h := (rz_gx_inv h).2.2
      replace h := (rz_g32_inv h).2
      cases h
      exact (Fr.aI (Fr.aI fr (Or.inl (by decide))) (Or.inl (by decide)))
    · replace h := if_F h hj9
      by_cases hj15 : a0 = 2
      · replace h := if_T h hj15
        replace h := (rz_gx_inv h).2.2
        replace h := (rz_g32_inv h).2
        cases h
        exact (Fr.aI (Fr.aI fr (Or.inl (by decide))) (Or.inl (by decide)))
      · replace h := if_F h hj15
        by_cases hj21 : a0 = 3
        · replace h := if_T h hj21
          replace h := (rz_gx_inv h).2.2
          replace h := (rz_g32_inv h).2
          cases h
          exact (Fr.aI (Fr.aI fr (Or.inl (by decide))) (Or.inl (by decide)))
        · replace h := if_F h hj21
          by_cases hj27 : a0 = 4
          · replace h := if_T h hj27
            replace h := (rz_gx_inv h).2.2
            replace h := (rz_g32_inv h).2
            cases h
            exact (Fr.aI (Fr.aI fr (Or.inl (by decide))) (Or.inl (by decide)))
          · replace h := if_F h hj27
            replace h := (rz_gx_inv h).2.2
            replace h := (rz_g32_inv h).2
            cases h
            exact (Fr.aI (Fr.aI fr (Or.inl (by decide))) (Or.inl (by decide)))
def cs_x65_stretch : List Nat := [1, 6, 8, 9, 10, 11, 12, 13]
def fs_x65_stretch : List (Nat × Nat) := []
theorem wx65_stretch (F : Nat) {a0 : Int} {a1 : Int} {A : rz_A} {r : Int} {A' : rz_A} (h : x65_stretch F a0 a1 A = some (r, A')) : Fr cs_x65_stretch fs_x65_stretch A A' := by
  have fr : Fr cs_x65_stretch fs_x65_stretch A A := Fr.rfl
  unfold x65_stretch at h
  obtain ⟨r1, A1, hf1, h⟩ := rz_b_inv h
  have fr1 := fr.trans ((wx5_has F hf1).mono (by decide) (by decide))
  by_cases hc2 : r1 = 0
  · replace h := if_T h hc2
    obtain ⟨r3, A3, hf3, h⟩ := rz_b_inv h
    have fr3 := fr1.trans ((wx1_refuse F hf3).mono (by decide) (by decide))
    cases h
    exact fr3
  · replace h := if_F h hc2
    obtain ⟨r4, A4, hf4, h⟩ := rz_b_inv h
    have fr4 := fr1.trans ((wx66_beginsAt F hf4).mono (by decide) (by decide))
    by_cases hc5 : r4 = 0
    · replace h := if_T h hc5
      obtain ⟨r6, A6, hf6, h⟩ := rz_b_inv h
      have fr6 := fr4.trans ((wx19_whyNotTime F hf6).mono (by decide) (by decide))
      by_cases hc7 : r6 = 0
      · replace h := if_T h hc7
        replace h := (rz_gx_inv h).2.2
        by_cases hc10 : 8 ≤ (A6.1 6 (a0).toNat)
        · replace h := if_T h hc10
          obtain ⟨r11, A11, hf11, h⟩ := rz_b_inv h
          have fr11 := fr6.trans ((wx1_refuse F hf11).mono (by decide) (by decide))
          cases h
          exact fr11
        · replace h := if_F h hc10
          obtain ⟨r12, A12, hf12, h⟩ := rz_b_inv h
          have fr12 := fr6.trans ((wx67_begin F hf12).mono (by decide) (by decide))
          cases h
          exact fr12
      · replace h := if_F h hc7
        obtain ⟨r13, A13, hf13, h⟩ := rz_b_inv h
        have fr13 := fr6.trans ((wx1_refuse F hf13).mono (by decide) (by decide))
        cases h
        exact fr13
    · replace h := if_F h hc5
      obtain ⟨r14, A14, hf14, h⟩ := rz_b_inv h
      have fr14 := fr4.trans ((wx1_refuse F hf14).mono (by decide) (by decide))
      cases h
      exact fr14
def cs_x70_stretchStart : List Nat := []
def fs_x70_stretchStart : List (Nat × Nat) := []
theorem wx70_stretchStart_5 (F : Nat) : ∀ (n : Nat) (v1 : Int) (v2 : Int) (v3 : Int) (v4 : Int) (A : rz_A) (r : Int) (A' : rz_A), x70_stretchStart_5 F n v1 v2 v3 v4 A = some (r, A') → Fr cs_x70_stretchStart fs_x70_stretchStart A A' := by
  intro n
  induction n with
  | zero => intro v1 v2 v3 v4 A r A' h; cases h
  | succ n ih =>
    intro v1 v2 v3 v4 A r A' h
    have fr : Fr cs_x70_stretchStart fs_x70_stretchStart A A := Fr.rfl
    rw [x70_stretchStart_5] at h
    replace h := (rz_gx_inv h).2.2
    by_cases hc3 : v4 < (A.1 6 (v1).toNat)
    · replace h := if_T h hc3
      by_cases hj4 : v1 = 0
      · replace h := if_T h hj4
        replace h := (rz_gx_inv h).2.2
        by_cases hc7 : (A.1 8 (v4).toNat) ≤ v2
        · replace h := if_T h hc7
          by_cases hc8 : v3 < (A.1 8 (v4).toNat)
          · replace h := if_T h hc8
            replace h := (rz_g32_inv h).2
            exact fr.trans (ih _ _ _ _ _ _ _ h)
          · replace h := if_F h hc8
            replace h := (rz_g32_inv h).2
            exact fr.trans (ih _ _ _ _ _ _ _ h)
        · replace h := if_F h hc7
          replace h := (rz_g32_inv h).2
          exact fr.trans (ih _ _ _ _ _ _ _ h)
      · replace h := if_F h hj4
        by_cases hj12 : v1 = 1
        · replace h := if_T h hj12
          replace h := (rz_gx_inv h).2.2
          by_cases hc15 : (A.1 9 (v4).toNat) ≤ v2
          · replace h := if_T h hc15
            by_cases hc16 : v3 < (A.1 9 (v4).toNat)
            · replace h := if_T h hc16
              replace h := (rz_g32_inv h).2
              exact fr.trans (ih _ _ _ _ _ _ _ h)
            · replace h := if_F h hc16
              replace h := (rz_g32_inv h).2
              exact fr.trans (ih _ _ _ _ _ _ _ h)
          · replace h := if_F h hc15
            replace h := (rz_g32_inv h).2
            exact fr.trans (ih _ _ _ _ _ _ _ h)
        · replace h := if_F h hj12
          by_cases hj20 : v1 = 2
          · replace h := if_T h hj20
            replace h := (rz_gx_inv h).2.2
            by_cases hc23 : (A.1 10 (v4).toNat) ≤ v2
            · replace h := if_T h hc23
              by_cases hc24 : v3 < (A.1 10 (v4).toNat)
              · replace h := if_T h hc24
                replace h := (rz_g32_inv h).2
                exact fr.trans (ih _ _ _ _ _ _ _ h)
              · replace h := if_F h hc24
                replace h := (rz_g32_inv h).2
                exact fr.trans (ih _ _ _ _ _ _ _ h)
            · replace h := if_F h hc23
              replace h := (rz_g32_inv h).2
              exact fr.trans (ih _ _ _ _ _ _ _ h)
          · replace h := if_F h hj20
            by_cases hj28 : v1 = 3
            · replace h := if_T h hj28
              replace h := (rz_gx_inv h).2.2
              by_cases hc31 : (A.1 11 (v4).toNat) ≤ v2
              · replace h := if_T h hc31
                by_cases hc32 : v3 < (A.1 11 (v4).toNat)
                · replace h := if_T h hc32
                  replace h := (rz_g32_inv h).2
                  exact fr.trans (ih _ _ _ _ _ _ _ h)
                · replace h := if_F h hc32
                  replace h := (rz_g32_inv h).2
                  exact fr.trans (ih _ _ _ _ _ _ _ h)
              · replace h := if_F h hc31
                replace h := (rz_g32_inv h).2
                exact fr.trans (ih _ _ _ _ _ _ _ h)
            · replace h := if_F h hj28
              by_cases hj36 : v1 = 4
              · replace h := if_T h hj36
                replace h := (rz_gx_inv h).2.2
                by_cases hc39 : (A.1 12 (v4).toNat) ≤ v2
                · replace h := if_T h hc39
                  by_cases hc40 : v3 < (A.1 12 (v4).toNat)
                  · replace h := if_T h hc40
                    replace h := (rz_g32_inv h).2
                    exact fr.trans (ih _ _ _ _ _ _ _ h)
                  · replace h := if_F h hc40
                    replace h := (rz_g32_inv h).2
                    exact fr.trans (ih _ _ _ _ _ _ _ h)
                · replace h := if_F h hc39
                  replace h := (rz_g32_inv h).2
                  exact fr.trans (ih _ _ _ _ _ _ _ h)
              · replace h := if_F h hj36
                replace h := (rz_gx_inv h).2.2
                by_cases hc47 : (A.1 13 (v4).toNat) ≤ v2
                · replace h := if_T h hc47
                  by_cases hc48 : v3 < (A.1 13 (v4).toNat)
                  · replace h := if_T h hc48
                    replace h := (rz_g32_inv h).2
                    exact fr.trans (ih _ _ _ _ _ _ _ h)
                  · replace h := if_F h hc48
                    replace h := (rz_g32_inv h).2
                    exact fr.trans (ih _ _ _ _ _ _ _ h)
                · replace h := if_F h hc47
                  replace h := (rz_g32_inv h).2
                  exact fr.trans (ih _ _ _ _ _ _ _ h)
    · replace h := if_F h hc3
      cases h
      exact fr
theorem wx70_stretchStart (F : Nat) {a0 : Int} {a1 : Int} {A : rz_A} {r : Int} {A' : rz_A} (h : x70_stretchStart F a0 a1 A = some (r, A')) : Fr cs_x70_stretchStart fs_x70_stretchStart A A' := by
  have fr : Fr cs_x70_stretchStart fs_x70_stretchStart A A := Fr.rfl
  unfold x70_stretchStart at h
  exact fr.trans (wx70_stretchStart_5 F F _ _ _ _ _ _ _ h)
def cs_x71_stretchEnd : List Nat := []
def fs_x71_stretchEnd : List (Nat × Nat) := []
theorem wx71_stretchEnd_7 (F : Nat) : ∀ (n : Nat) (v1 : Int) (v2 : Int) (v3 : Int) (v4 : Int) (A : rz_A) (r : Int) (A' : rz_A), x71_stretchEnd_7 F n v1 v2 v3 v4 A = some (r, A') → Fr cs_x71_stretchEnd fs_x71_stretchEnd A A' := by
  intro n
  induction n with
  | zero => intro v1 v2 v3 v4 A r A' h; cases h
  | succ n ih =>
    intro v1 v2 v3 v4 A r A' h
    have fr : Fr cs_x71_stretchEnd fs_x71_stretchEnd A A := Fr.rfl
    rw [x71_stretchEnd_7] at h
    replace h := (rz_gx_inv h).2.2
    by_cases hc3 : v4 < (A.1 6 (v1).toNat)
    · replace h := if_T h hc3
      by_cases hj4 : v1 = 0
      · replace h := if_T h hj4
        replace h := (rz_gx_inv h).2.2
        by_cases hc7 : v2 < (A.1 8 (v4).toNat)
        · replace h := if_T h hc7
          by_cases hc8 : (A.1 8 (v4).toNat) ≤ v3
          · replace h := if_T h hc8
            replace h := (rz_g32_inv h).2
            replace h := (rz_g32_inv h).2
            exact fr.trans (ih _ _ _ _ _ _ _ h)
          · replace h := if_F h hc8
            replace h := (rz_g32_inv h).2
            exact fr.trans (ih _ _ _ _ _ _ _ h)
        · replace h := if_F h hc7
          replace h := (rz_g32_inv h).2
          exact fr.trans (ih _ _ _ _ _ _ _ h)
      · replace h := if_F h hj4
        by_cases hj13 : v1 = 1
        · replace h := if_T h hj13
          replace h := (rz_gx_inv h).2.2
          by_cases hc16 : v2 < (A.1 9 (v4).toNat)
          · replace h := if_T h hc16
            by_cases hc17 : (A.1 9 (v4).toNat) ≤ v3
            · replace h := if_T h hc17
              replace h := (rz_g32_inv h).2
              replace h := (rz_g32_inv h).2
              exact fr.trans (ih _ _ _ _ _ _ _ h)
            · replace h := if_F h hc17
              replace h := (rz_g32_inv h).2
              exact fr.trans (ih _ _ _ _ _ _ _ h)
          · replace h := if_F h hc16
            replace h := (rz_g32_inv h).2
            exact fr.trans (ih _ _ _ _ _ _ _ h)
        · replace h := if_F h hj13
          by_cases hj22 : v1 = 2
          · replace h := if_T h hj22
            replace h := (rz_gx_inv h).2.2
            by_cases hc25 : v2 < (A.1 10 (v4).toNat)
            · replace h := if_T h hc25
              by_cases hc26 : (A.1 10 (v4).toNat) ≤ v3
              · replace h := if_T h hc26
                replace h := (rz_g32_inv h).2
                replace h := (rz_g32_inv h).2
                exact fr.trans (ih _ _ _ _ _ _ _ h)
              · replace h := if_F h hc26
                replace h := (rz_g32_inv h).2
                exact fr.trans (ih _ _ _ _ _ _ _ h)
            · replace h := if_F h hc25
              replace h := (rz_g32_inv h).2
              exact fr.trans (ih _ _ _ _ _ _ _ h)
          · replace h := if_F h hj22
            by_cases hj31 : v1 = 3
            · replace h := if_T h hj31
              replace h := (rz_gx_inv h).2.2
              by_cases hc34 : v2 < (A.1 11 (v4).toNat)
              · replace h := if_T h hc34
                by_cases hc35 : (A.1 11 (v4).toNat) ≤ v3
                · replace h := if_T h hc35
                  replace h := (rz_g32_inv h).2
                  replace h := (rz_g32_inv h).2
                  exact fr.trans (ih _ _ _ _ _ _ _ h)
                · replace h := if_F h hc35
                  replace h := (rz_g32_inv h).2
                  exact fr.trans (ih _ _ _ _ _ _ _ h)
              · replace h := if_F h hc34
                replace h := (rz_g32_inv h).2
                exact fr.trans (ih _ _ _ _ _ _ _ h)
            · replace h := if_F h hj31
              by_cases hj40 : v1 = 4
              · replace h := if_T h hj40
                replace h := (rz_gx_inv h).2.2
                by_cases hc43 : v2 < (A.1 12 (v4).toNat)
                · replace h := if_T h hc43
                  by_cases hc44 : (A.1 12 (v4).toNat) ≤ v3
                  · replace h := if_T h hc44
                    replace h := (rz_g32_inv h).2
                    replace h := (rz_g32_inv h).2
                    exact fr.trans (ih _ _ _ _ _ _ _ h)
                  · replace h := if_F h hc44
                    replace h := (rz_g32_inv h).2
                    exact fr.trans (ih _ _ _ _ _ _ _ h)
                · replace h := if_F h hc43
                  replace h := (rz_g32_inv h).2
                  exact fr.trans (ih _ _ _ _ _ _ _ h)
              · replace h := if_F h hj40
                replace h := (rz_gx_inv h).2.2
                by_cases hc52 : v2 < (A.1 13 (v4).toNat)
                · replace h := if_T h hc52
                  by_cases hc53 : (A.1 13 (v4).toNat) ≤ v3
                  · replace h := if_T h hc53
                    replace h := (rz_g32_inv h).2
                    replace h := (rz_g32_inv h).2
                    exact fr.trans (ih _ _ _ _ _ _ _ h)
                  · replace h := if_F h hc53
                    replace h := (rz_g32_inv h).2
                    exact fr.trans (ih _ _ _ _ _ _ _ h)
                · replace h := if_F h hc52
                  replace h := (rz_g32_inv h).2
                  exact fr.trans (ih _ _ _ _ _ _ _ h)
    · replace h := if_F h hc3
      cases h
      exact fr
theorem wx71_stretchEnd (F : Nat) {a0 : Int} {a1 : Int} {A : rz_A} {r : Int} {A' : rz_A} (h : x71_stretchEnd F a0 a1 A = some (r, A')) : Fr cs_x71_stretchEnd fs_x71_stretchEnd A A' := by
  have fr : Fr cs_x71_stretchEnd fs_x71_stretchEnd A A := Fr.rfl
  unfold x71_stretchEnd at h
  exact fr.trans (wx71_stretchEnd_7 F F _ _ _ _ _ _ _ h)
def cs_x75_isAbove : List Nat := []
def fs_x75_isAbove : List (Nat × Nat) := []
theorem wx75_isAbove (F : Nat) {a0 : Int} {a1 : Int} {A : rz_A} {r : Int} {A' : rz_A} (h : x75_isAbove F a0 a1 A = some (r, A')) : Fr cs_x75_isAbove fs_x75_isAbove A A' := by
  have fr : Fr cs_x75_isAbove fs_x75_isAbove A A := Fr.rfl
  unfold x75_isAbove at h
  replace h := (rz_gx_inv h).2.2
  replace h := (rz_gx_inv h).2.2
  replace h := (rz_g64_inv h).2
  replace h := (rz_g64_inv h).2
  by_cases hc7 : ((A.1 60 (a1).toNat) * (A.1 61 (a0).toNat)) < ((A.1 60 (a0).toNat) * (A.1 61 (a1).toNat))
  · replace h := if_T h hc7
    cases h
    exact fr
  · replace h := if_F h hc7
    cases h
    exact fr
def cs_x74_joinBlocks : List Nat := [60, 61, 62]
def fs_x74_joinBlocks : List (Nat × Nat) := []
theorem wx74_joinBlocks_49 (F : Nat) {k4 : (Int → Int → rz_A → Option (Int × rz_A))} (hkk4 : ∀ (v1 : Int) (v2 : Int) (A : rz_A) (r : Int) (A' : rz_A), k4 v1 v2 A = some (r, A') → Fr cs_x74_joinBlocks fs_x74_joinBlocks A A') : ∀ (n : Nat) (v1 : Int) (v2 : Int) (A : rz_A) (r : Int) (A' : rz_A), x74_joinBlocks_49 F k4 n v1 v2 A = some (r, A') → Fr cs_x74_joinBlocks fs_x74_joinBlocks A A' := by
  intro n
  induction n with
  | zero => intro v1 v2 A r A' h; cases h
  | succ n ih =>
    intro v1 v2 A r A' h
    have fr : Fr cs_x74_joinBlocks fs_x74_joinBlocks A A := Fr.rfl
    rw [x74_joinBlocks_49] at h
    by_cases hc1 : 1 < v1
    · replace h := if_T h hc1
      replace h := (rz_g32_inv h).2
      replace h := (rz_g32_inv h).2
      obtain ⟨r4, A4, hf4, h⟩ := rz_b_inv h
      have fr4 := fr.trans ((wx75_isAbove F hf4).mono (by decide) (by decide))
      by_cases hc5 : r4 = 0
      · replace h := if_T h hc5
        replace h := (rz_gx_inv h).2.2
        replace h := (rz_gx_inv h).2.2
        replace h := (rz_g32_inv h).2
        replace h := (rz_g32_inv h).2
        replace h := (rz_g32_inv h).2
        replace h := (rz_g32_inv h).2
        exact (Fr.aI (Fr.aI (Fr.aI fr4 (Or.inl (by decide))) (Or.inl (by decide))) (Or.inl (by decide))).trans (ih _ _ _ _ _ h)
      · replace h := if_F h hc5
        replace h := (rz_g32_inv h).2
        exact fr4.trans (hkk4 _ _ _ _ _ h)
    · replace h := if_F h hc1
      replace h := (rz_g32_inv h).2
      exact fr.trans (hkk4 _ _ _ _ _ h)
theorem wx74_joinBlocks_4 (F : Nat) : ∀ (n : Nat) (v1 : Int) (v2 : Int) (A : rz_A) (r : Int) (A' : rz_A), x74_joinBlocks_4 F n v1 v2 A = some (r, A') → Fr cs_x74_joinBlocks fs_x74_joinBlocks A A' := by
  intro n
  induction n with
  | zero => intro v1 v2 A r A' h; cases h
  | succ n ih =>
    intro v1 v2 A r A' h
    have fr : Fr cs_x74_joinBlocks fs_x74_joinBlocks A A := Fr.rfl
    rw [x74_joinBlocks_4] at h
    by_cases hc1 : v2 < (A.1 57 0)
    · replace h := if_T h hc1
      replace h := (rz_gx_inv h).2.2
      replace h := (rz_gx_inv h).2.2
      replace h := (rz_g32_inv h).2
      exact (Fr.aI (Fr.aI (Fr.aI fr (Or.inl (by decide))) (Or.inl (by decide))) (Or.inl (by decide))).trans (wx74_joinBlocks_49 F ih F _ _ _ _ _ h)
    · replace h := if_F h hc1
      cases h
      exact fr
theorem wx74_joinBlocks (F : Nat) {A : rz_A} {r : Int} {A' : rz_A} (h : x74_joinBlocks F A = some (r, A')) : Fr cs_x74_joinBlocks fs_x74_joinBlocks A A' := by
  have fr : Fr cs_x74_joinBlocks fs_x74_joinBlocks A A := Fr.rfl
  unfold x74_joinBlocks at h
  exact fr.trans (wx74_joinBlocks_4 F F _ _ _ _ _ h)
def cs_x77_share : List Nat := []
def fs_x77_share : List (Nat × Nat) := []
theorem wx77_share (F : Nat) {a0 : Int} {a1 : Int} {a2 : Int} {A : rz_A} {r : Int} {A' : rz_A} (h : x77_share F a0 a1 a2 A = some (r, A')) : Fr cs_x77_share fs_x77_share A A' := by
  have fr : Fr cs_x77_share fs_x77_share A A := Fr.rfl
  unfold x77_share at h
  by_cases hc1 : a2 = 0
  · replace h := if_T h hc1
    cases h
    exact fr
  · replace h := if_F h hc1
    replace h := (rz_g64_inv h).2
    replace h := (rz_gn_inv h).2
    replace h := (rz_g64_inv h).2
    cases h
    exact fr
def cs_x76_setFlows : List Nat := [59]
def fs_x76_setFlows : List (Nat × Nat) := []
theorem wx76_setFlows_33 (F : Nat) {k4 : (Int → Int → Int → rz_A → Option (Unit × rz_A))} (hkk4 : ∀ (v1 : Int) (v2 : Int) (v3 : Int) (A : rz_A) (r : Unit) (A' : rz_A), k4 v1 v2 v3 A = some (r, A') → Fr cs_x76_setFlows fs_x76_setFlows A A') : ∀ (n : Nat) (v1 : Int) (v2 : Int) (v3 : Int) (v4 : Int) (v5 : Int) (A : rz_A) (r : Unit) (A' : rz_A), x76_setFlows_33 F k4 n v1 v2 v3 v4 v5 A = some (r, A') → Fr cs_x76_setFlows fs_x76_setFlows A A' := by
  intro n
  induction n with
  | zero => intro v1 v2 v3 v4 v5 A r A' h; cases h
  | succ n ih =>
    intro v1 v2 v3 v4 v5 A r A' h
    have fr : Fr cs_x76_setFlows fs_x76_setFlows A A := Fr.rfl
    rw [x76_setFlows_33] at h
    replace h := (rz_gx_inv h).2.2
    by_cases hc3 : v5 < (A.1 62 (v3).toNat)
    · replace h := if_T h hc3
      replace h := (rz_gx_inv h).2.2
      replace h := (rz_g32_inv h).2
      replace h := (rz_g32_inv h).2
      exact (Fr.aI fr (Or.inl (by decide))).trans (ih _ _ _ _ _ _ _ _ h)
    · replace h := if_F h hc3
      replace h := (rz_g32_inv h).2
      exact fr.trans (hkk4 _ _ _ _ _ _ h)
theorem wx76_setFlows_4 (F : Nat) : ∀ (n : Nat) (v1 : Int) (v2 : Int) (v3 : Int) (A : rz_A) (r : Unit) (A' : rz_A), x76_setFlows_4 F n v1 v2 v3 A = some (r, A') → Fr cs_x76_setFlows fs_x76_setFlows A A' := by
  intro n
  induction n with
  | zero => intro v1 v2 v3 A r A' h; cases h
  | succ n ih =>
    intro v1 v2 v3 A r A' h
    have fr : Fr cs_x76_setFlows fs_x76_setFlows A A := Fr.rfl
    rw [x76_setFlows_4] at h
    by_cases hc1 : v3 < v1
    · replace h := if_T h hc1
      replace h := (rz_gx_inv h).2.2
      obtain ⟨r4, A4, hf4, h⟩ := rz_b_inv h
      have fr4 := fr.trans ((wx77_share F hf4).mono (by decide) (by decide))
      replace h := (rz_g32_inv h).2
      exact fr4.trans (wx76_setFlows_33 F ih F _ _ _ _ _ _ _ _ h)
    · replace h := if_F h hc1
      cases h
      exact fr
theorem wx76_setFlows (F : Nat) {a0 : Int} {A : rz_A} {r : Unit} {A' : rz_A} (h : x76_setFlows F a0 A = some (r, A')) : Fr cs_x76_setFlows fs_x76_setFlows A A' := by
  have fr : Fr cs_x76_setFlows fs_x76_setFlows A A := Fr.rfl
  unfold x76_setFlows at h
  exact fr.trans (wx76_setFlows_4 F F _ _ _ _ _ _ h)
