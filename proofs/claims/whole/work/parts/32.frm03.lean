set_option maxRecDepth 16384
def cs_x134_isOn : List Nat := []
def fs_x134_isOn : List (Nat × Nat) := []
theorem wx134_isOn (F : Nat) {a0 : Int} {a1 : Int} {a2 : Int} {A : rz_A} {r : Int} {A' : rz_A} (h : x134_isOn F a0 a1 a2 A = some (r, A')) : Fr cs_x134_isOn fs_x134_isOn A A' := by
  have fr : Fr cs_x134_isOn fs_x134_isOn A A := Fr.rfl
  unfold x134_isOn at h
  obtain ⟨r1, A1, hf1, h⟩ := rz_b_inv h
  have fr1 := fr.trans ((wx88_greatest F hf1).mono (by decide) (by decide))
  by_cases hc2 : r1 < 0
  · replace h := if_T h hc2
    obtain ⟨r3, A3, hf3, h⟩ := rz_b_inv h
    have fr3 := fr1.trans ((wx88_greatest F hf3).mono (by decide) (by decide))
    by_cases hc4 : 0 ≤ r3
    · replace h := if_T h hc4
      cases h
      exact fr3
    · replace h := if_F h hc4
      cases h
      exact fr3
  · replace h := if_F h hc2
    cases h
    exact fr1
def cs_x133_publishLets : List Nat := [49, 50]
def fs_x133_publishLets : List (Nat × Nat) := []
theorem wx133_publishLets (F : Nat) {a0 : Int} {a1 : Int} {A : rz_A} {r : Int} {A' : rz_A} (h : x133_publishLets F a0 a1 A = some (r, A')) : Fr cs_x133_publishLets fs_x133_publishLets A A' := by
  have fr : Fr cs_x133_publishLets fs_x133_publishLets A A := Fr.rfl
  unfold x133_publishLets at h
  obtain ⟨r1, A1, hf1, h⟩ := rz_b_inv h
  have fr1 := fr.trans ((wx87_timeOf F hf1).mono (by decide) (by decide))
  replace h := (rz_g32_inv h).2
  obtain ⟨r3, A3, hf3, h⟩ := rz_b_inv h
  have fr3 := fr1.trans ((wx22_inForce F hf3).mono (by decide) (by decide))
  by_cases hc4 : r3 < 0
  · replace h := if_T h hc4
    cases h
    exact fr3
  · replace h := if_F h hc4
    obtain ⟨_, A5, hf5, h⟩ := rz_b_inv h
    have fr5 := fr3.trans ((wx23_lettersOf F hf5).mono (by decide) (by decide))
    obtain ⟨r7, A7, hf7, h⟩ := rz_b_inv h
    have fr7 := (Fr.aI fr5 (Or.inl (by decide))).trans ((wx91_howWrong F hf7).mono (by decide) (by decide))
    obtain ⟨r9, A9, hf9, h⟩ := rz_b_inv h
    have fr9 := (Fr.aI fr7 (Or.inl (by decide))).trans ((wx92_beyond F hf9).mono (by decide) (by decide))
    obtain ⟨r11, A11, hf11, h⟩ := rz_b_inv h
    have fr11 := (Fr.aI fr9 (Or.inl (by decide))).trans ((wx86_postOf F hf11).mono (by decide) (by decide))
    obtain ⟨r12, A12, hf12, h⟩ := rz_b_inv h
    have fr12 := fr11.trans ((wx134_isOn F hf12).mono (by decide) (by decide))
    by_cases hc13 : r12 = 0
    · replace h := if_T h hc13
      obtain ⟨r15, A15, hf15, h⟩ := rz_b_inv h
      have fr15 := (Fr.aI fr12 (Or.inl (by decide))).trans ((wx25_holds F hf15).mono (by decide) (by decide))
      replace h := (rz_gz_inv h).2
      cases h
      exact fr15
    · replace h := if_F h hc13
      obtain ⟨r18, A18, hf18, h⟩ := rz_b_inv h
      have fr18 := (Fr.aI fr12 (Or.inl (by decide))).trans ((wx25_holds F hf18).mono (by decide) (by decide))
      replace h := (rz_gz_inv h).2
      cases h
      exact fr18
def cs_x132_publish : List Nat := [1, 49, 50, 52, 53, 54, 55, 58, 59, 60, 61, 62, 88, 89, 90]
def fs_x132_publish : List (Nat × Nat) := [(0, 14), (51, 3), (51, 4), (51, 5), (51, 10), (56, 8), (56, 9), (56, 10), (56, 11), (56, 12), (57, 0)]
theorem wx132_publish (F : Nat) {a0 : Int} {a1 : Int} {A : rz_A} {r : Int} {A' : rz_A} (h : x132_publish F a0 a1 A = some (r, A')) : Fr cs_x132_publish fs_x132_publish A A' := by
  have fr : Fr cs_x132_publish fs_x132_publish A A := Fr.rfl
  unfold x132_publish at h
  obtain ⟨r1, A1, hf1, h⟩ := rz_b_inv h
  have fr1 := fr.trans ((wx5_has F hf1).mono (by decide) (by decide))
  by_cases hc2 : r1 = 0
  · replace h := if_T h hc2
    obtain ⟨r3, A3, hf3, h⟩ := rz_b_inv h
    have fr3 := fr1.trans ((wx1_refuse F hf3).mono (by decide) (by decide))
    cases h
    exact fr3
  · replace h := if_F h hc2
    by_cases hc4 : a1 < 0
    · replace h := if_T h hc4
      obtain ⟨r5, A5, hf5, h⟩ := rz_b_inv h
      have fr5 := fr1.trans ((wx1_refuse F hf5).mono (by decide) (by decide))
      cases h
      exact fr5
    · replace h := if_F h hc4
      by_cases hc6 : a1 ≤ 9999
      · replace h := if_T h hc6
        by_cases hc7 : 40 ≤ (A1.1 0 14)
        · replace h := if_T h hc7
          obtain ⟨r8, A8, hf8, h⟩ := rz_b_inv h
          have fr8 := fr1.trans ((wx1_refuse F hf8).mono (by decide) (by decide))
          cases h
          exact fr8
        · replace h := if_F h hc7
          obtain ⟨_, A9, hf9, h⟩ := rz_b_inv h
          have fr9 := fr1.trans ((wx20_see F hf9).mono (by decide) (by decide))
          obtain ⟨r10, A10, hf10, h⟩ := rz_b_inv h
          have fr10 := fr9.trans ((wx32_find F hf10).mono (by decide) (by decide))
          obtain ⟨r11, A11, hf11, h⟩ := rz_b_inv h
          have fr11 := fr10.trans ((wx85_rate F hf11).mono (by decide) (by decide))
          by_cases hc12 : r11 < 0
          · replace h := if_T h hc12
            obtain ⟨r13, A13, hf13, h⟩ := rz_b_inv h
            have fr13 := fr11.trans ((wx1_refuse F hf13).mono (by decide) (by decide))
            cases h
            exact fr13
          · replace h := if_F h hc12
            obtain ⟨r14, A14, hf14, h⟩ := rz_b_inv h
            have fr14 := fr11.trans ((wx133_publishLets F hf14).mono (by decide) (by decide))
            by_cases hc15 : r14 = 0
            · replace h := if_T h hc15
              obtain ⟨r16, A16, hf16, h⟩ := rz_b_inv h
              have fr16 := fr14.trans ((wx1_refuse F hf16).mono (by decide) (by decide))
              cases h
              exact fr16
            · replace h := if_F h hc15
              replace h := (rz_gx_inv h).2.2
              replace h := (rz_g32_inv h).2
              replace h := (rz_g32_inv h).2
              cases h
              exact (Fr.aI (Fr.aI (Fr.aI (Fr.aI fr14 (Or.inl (by decide))) (Or.inl (by decide))) (Or.inl (by decide))) (Or.inr (by decide)))
      · replace h := if_F h hc6
        obtain ⟨r25, A25, hf25, h⟩ := rz_b_inv h
        have fr25 := fr1.trans ((wx1_refuse F hf25).mono (by decide) (by decide))
        cases h
        exact fr25
def cs_x136_flowNow : List Nat := [58, 59, 60, 61, 62]
def fs_x136_flowNow : List (Nat × Nat) := [(56, 8), (56, 9), (56, 10), (56, 11), (56, 12), (57, 0)]
theorem wx136_flowNow (F : Nat) {a0 : Int} {A : rz_A} {r : Int} {A' : rz_A} (h : x136_flowNow F a0 A = some (r, A')) : Fr cs_x136_flowNow fs_x136_flowNow A A' := by
  have fr : Fr cs_x136_flowNow fs_x136_flowNow A A := Fr.rfl
  unfold x136_flowNow at h
  replace h := (rz_gx_inv h).2.2
  obtain ⟨r3, A3, hf3, h⟩ := rz_b_inv h
  have fr3 := fr.trans ((wx32_find F hf3).mono (by decide) (by decide))
  obtain ⟨r4, A4, hf4, h⟩ := rz_b_inv h
  have fr4 := fr3.trans ((wx85_rate F hf4).mono (by decide) (by decide))
  cases h
  exact fr4
def cs_x135_published : List Nat := [1, 49, 50, 52, 53, 54, 55, 58, 59, 60, 61, 62]
def fs_x135_published : List (Nat × Nat) := [(51, 3), (51, 4), (51, 5), (51, 10), (56, 8), (56, 9), (56, 10), (56, 11), (56, 12), (57, 0)]
theorem wx135_published (F : Nat) {a0 : Int} {a1 : Int} {A : rz_A} {r : Int} {A' : rz_A} (h : x135_published F a0 a1 A = some (r, A')) : Fr cs_x135_published fs_x135_published A A' := by
  have fr : Fr cs_x135_published fs_x135_published A A := Fr.rfl
  unfold x135_published at h
  by_cases hc1 : 0 ≤ a0
  · replace h := if_T h hc1
    by_cases hc2 : (A.1 0 14) ≤ a0
    · replace h := if_T h hc2
      obtain ⟨r3, A3, hf3, h⟩ := rz_b_inv h
      have fr3 := fr.trans ((wx1_refuse F hf3).mono (by decide) (by decide))
      cases h
      exact fr3
    · replace h := if_F h hc2
      by_cases hc4 : 0 ≤ a1
      · replace h := if_T h hc4
        by_cases hc5 : 3 < a1
        · replace h := if_T h hc5
          obtain ⟨r6, A6, hf6, h⟩ := rz_b_inv h
          have fr6 := fr.trans ((wx1_refuse F hf6).mono (by decide) (by decide))
          cases h
          exact fr6
        · replace h := if_F h hc5
          by_cases hc7 : a1 = 0
          · replace h := if_T h hc7
            replace h := (rz_gx_inv h).2.2
            cases h
            exact fr
          · replace h := if_F h hc7
            by_cases hc10 : a1 = 1
            · replace h := if_T h hc10
              replace h := (rz_gx_inv h).2.2
              cases h
              exact fr
            · replace h := if_F h hc10
              by_cases hc13 : a1 = 2
              · replace h := if_T h hc13
                replace h := (rz_gx_inv h).2.2
                cases h
                exact fr
              · replace h := if_F h hc13
                obtain ⟨_, A16, hf16, h⟩ := rz_b_inv h
                have fr16 := fr.trans ((wx20_see F hf16).mono (by decide) (by decide))
                obtain ⟨r17, A17, hf17, h⟩ := rz_b_inv h
                have fr17 := fr16.trans ((wx136_flowNow F hf17).mono (by decide) (by decide))
                by_cases hc18 : r17 < 0
                · replace h := if_T h hc18
                  cases h
                  exact fr17
                · replace h := if_F h hc18
                  cases h
                  exact fr17
      · replace h := if_F h hc4
        obtain ⟨r19, A19, hf19, h⟩ := rz_b_inv h
        have fr19 := fr.trans ((wx1_refuse F hf19).mono (by decide) (by decide))
        cases h
        exact fr19
  · replace h := if_F h hc1
    obtain ⟨r20, A20, hf20, h⟩ := rz_b_inv h
    have fr20 := fr.trans ((wx1_refuse F hf20).mono (by decide) (by decide))
    cases h
    exact fr20
def cs_x138_abs : List Nat := []
def fs_x138_abs : List (Nat × Nat) := []
theorem wx138_abs (F : Nat) {a0 : Int} {A : rz_A} {r : Int} {A' : rz_A} (h : x138_abs F a0 A = some (r, A')) : Fr cs_x138_abs fs_x138_abs A A' := by
  have fr : Fr cs_x138_abs fs_x138_abs A A := Fr.rfl
  unfold x138_abs at h
  by_cases hc1 : a0 < 0
  · replace h := if_T h hc1
    replace h := (rz_g64_inv h).2
    cases h
    exact fr
  · replace h := if_F h hc1
    cases h
    exact fr
def cs_x137_mend : List Nat := [49, 50, 52, 53, 54, 55, 58, 59, 60, 61, 62]
def fs_x137_mend : List (Nat × Nat) := [(51, 3), (51, 4), (51, 5), (51, 10), (56, 8), (56, 9), (56, 10), (56, 11), (56, 12), (57, 0)]
theorem wx137_mend_13 (F : Nat) : ∀ (n : Nat) (v1 : Int) (A : rz_A) (r : Int) (A' : rz_A), x137_mend_13 F n v1 A = some (r, A') → Fr cs_x137_mend fs_x137_mend A A' := by
  intro n
  induction n with
  | zero => intro v1 A r A' h; cases h
  | succ n ih =>
    intro v1 A r A' h
    have fr : Fr cs_x137_mend fs_x137_mend A A := Fr.rfl
    rw [x137_mend_13] at h
    by_cases hc1 : v1 < (A.1 0 14)
    · replace h := if_T h hc1
      replace h := (rz_gx_inv h).2.2
      obtain ⟨r4, A4, hf4, h⟩ := rz_b_inv h
      have fr4 := fr.trans ((wx136_flowNow F hf4).mono (by decide) (by decide))
      by_cases hc5 : 0 ≤ r4
      · replace h := if_T h hc5
        replace h := (rz_g64_inv h).2
        obtain ⟨r7, A7, hf7, h⟩ := rz_b_inv h
        have fr7 := fr4.trans ((wx138_abs F hf7).mono (by decide) (by decide))
        replace h := (rz_g64_inv h).2
        replace h := (rz_g64_inv h).2
        by_cases hc10 : ((A.1 90 (v1).toNat) * (A7.1 0 15)) < (r7 * 100)
        · replace h := if_T h hc10
          cases h
          exact fr7
        · replace h := if_F h hc10
          replace h := (rz_g32_inv h).2
          exact fr7.trans (ih _ _ _ _ h)
      · replace h := if_F h hc5
        cases h
        exact fr4
    · replace h := if_F h hc1
      cases h
      exact fr
theorem wx137_mend (F : Nat) {A : rz_A} {r : Int} {A' : rz_A} (h : x137_mend F A = some (r, A')) : Fr cs_x137_mend fs_x137_mend A A' := by
  have fr : Fr cs_x137_mend fs_x137_mend A A := Fr.rfl
  unfold x137_mend at h
  obtain ⟨_, A1, hf1, h⟩ := rz_b_inv h
  have fr1 := fr.trans ((wx20_see F hf1).mono (by decide) (by decide))
  exact fr1.trans (wx137_mend_13 F F _ _ _ _ h)
def cs_x139_limit : List Nat := [1]
def fs_x139_limit : List (Nat × Nat) := [(0, 15)]
theorem wx139_limit (F : Nat) {a0 : Int} {A : rz_A} {r : Int} {A' : rz_A} (h : x139_limit F a0 A = some (r, A')) : Fr cs_x139_limit fs_x139_limit A A' := by
  have fr : Fr cs_x139_limit fs_x139_limit A A := Fr.rfl
  unfold x139_limit at h
  by_cases hc1 : a0 < 0
  · replace h := if_T h hc1
    obtain ⟨r2, A2, hf2, h⟩ := rz_b_inv h
    have fr2 := fr.trans ((wx1_refuse F hf2).mono (by decide) (by decide))
    cases h
    exact fr2
  · replace h := if_F h hc1
    by_cases hc3 : 100 < a0
    · replace h := if_T h hc3
      obtain ⟨r4, A4, hf4, h⟩ := rz_b_inv h
      have fr4 := fr.trans ((wx1_refuse F hf4).mono (by decide) (by decide))
      cases h
      exact fr4
    · replace h := if_F h hc3
      cases h
      exact (Fr.aI fr (Or.inr (by decide)))
def cs_x140_count : List Nat := []
def fs_x140_count : List (Nat × Nat) := []
theorem wx140_count_22 (F : Nat) : ∀ (v1 : Int) (A : rz_A) (r : Int) (A' : rz_A), x140_count_22 F v1 A = some (r, A') → Fr cs_x140_count fs_x140_count A A' := by
  intro v1 A r A' h
  have fr : Fr cs_x140_count fs_x140_count A A := Fr.rfl
  unfold x140_count_22 at h
  by_cases hs1 : v1 = 0
  · replace h := if_T h hs1
    cases h
    exact fr
  · replace h := if_F h hs1
    by_cases hs2 : v1 = 1
    · replace h := if_T h hs2
      cases h
      exact fr
    · replace h := if_F h hs2
      by_cases hs3 : v1 = 2
      · replace h := if_T h hs3
        cases h
        exact fr
      · replace h := if_F h hs3
        by_cases hs4 : v1 = 3
        · replace h := if_T h hs4
          cases h
          exact fr
        · replace h := if_F h hs4
          by_cases hs5 : v1 = 4
          · replace h := if_T h hs5
            cases h
            exact fr
          · replace h := if_F h hs5
            by_cases hs6 : v1 = 5
            · replace h := if_T h hs6
              cases h
              exact fr
            · replace h := if_F h hs6
              by_cases hs7 : v1 = 6
              · replace h := if_T h hs7
                cases h
                exact fr
              · replace h := if_F h hs7
                by_cases hs8 : v1 = 7
                · replace h := if_T h hs8
                  cases h
                  exact fr
                · replace h := if_F h hs8
                  by_cases hs9 : v1 = 8
                  · replace h := if_T h hs9
                    cases h
                    exact fr
                  · replace h := if_F h hs9
                    by_cases hs10 : v1 = 9
                    · replace h := if_T h hs10
                      cases h
                      exact fr
                    · replace h := if_F h hs10
                      by_cases hs11 : v1 = 10
                      · replace h := if_T h hs11
                        cases h
                        exact fr
                      · replace h := if_F h hs11
                        cases h
                        exact fr
theorem wx140_count (F : Nat) {a0 : Int} {A : rz_A} {r : Int} {A' : rz_A} (h : x140_count F a0 A = some (r, A')) : Fr cs_x140_count fs_x140_count A A' := by
  have fr : Fr cs_x140_count fs_x140_count A A := Fr.rfl
  unfold x140_count at h
  by_cases hc1 : 11 ≤ a0
  · replace h := if_T h hc1
    by_cases hc2 : a0 ≤ 16
    · replace h := if_T h hc2
      replace h := (rz_g32_inv h).2
      replace h := (rz_gx_inv h).2.2
      cases h
      exact fr
    · replace h := if_F h hc2
      exact fr.trans (wx140_count_22 F _ _ _ _ h)
  · replace h := if_F h hc1
    exact fr.trans (wx140_count_22 F _ _ _ _ h)
def cs_x142_no : List Nat := [132]
def fs_x142_no : List (Nat × Nat) := []
theorem wx142_no (F : Nat) {a0 : Int} {A : rz_A} {r : Int} {A' : rz_A} (h : x142_no F a0 A = some (r, A')) : Fr cs_x142_no fs_x142_no A A' := by
  have fr : Fr cs_x142_no fs_x142_no A A := Fr.rfl
  unfold x142_no at h
  replace h := (rz_g32_inv h).2
  replace h := (rz_gx_inv h).2.2
  replace h := (rz_g32_inv h).2
  cases h
  exact (Fr.aI fr (Or.inl (by decide)))
def cs_x141_go : List Nat := [132]
def fs_x141_go : List (Nat × Nat) := [(91, 0)]
theorem wx141_go (F : Nat) {a0 : Int} {A : rz_A} {r : Int} {A' : rz_A} (h : x141_go F a0 A = some (r, A')) : Fr cs_x141_go fs_x141_go A A' := by
  have fr : Fr cs_x141_go fs_x141_go A A := Fr.rfl
  unfold x141_go at h
  by_cases hc1 : a0 < 1
  · replace h := if_T h hc1
    obtain ⟨r2, A2, hf2, h⟩ := rz_b_inv h
    have fr2 := fr.trans ((wx142_no F hf2).mono (by decide) (by decide))
    cases h
    exact fr2
  · replace h := if_F h hc1
    replace h := (rz_g32_inv h).2
    by_cases hc4 : (9999 - (A.1 91 0)) < a0
    · replace h := if_T h hc4
      obtain ⟨r5, A5, hf5, h⟩ := rz_b_inv h
      have fr5 := fr.trans ((wx142_no F hf5).mono (by decide) (by decide))
      cases h
      exact fr5
    · replace h := if_F h hc4
      replace h := (rz_g32_inv h).2
      cases h
      exact (Fr.aI fr (Or.inr (by decide)))
def cs_x143_post : List Nat := [92, 93, 94, 132]
def fs_x143_post : List (Nat × Nat) := [(91, 1)]
theorem wx143_post (F : Nat) {a0 : Int} {A : rz_A} {r : Int} {A' : rz_A} (h : x143_post F a0 A = some (r, A')) : Fr cs_x143_post fs_x143_post A A' := by
  have fr : Fr cs_x143_post fs_x143_post A A := Fr.rfl
  unfold x143_post at h
  by_cases hc1 : a0 < (-999)
  · replace h := if_T h hc1
    obtain ⟨r2, A2, hf2, h⟩ := rz_b_inv h
    have fr2 := fr.trans ((wx142_no F hf2).mono (by decide) (by decide))
    cases h
    exact fr2
  · replace h := if_F h hc1
    by_cases hc3 : a0 ≤ 999
    · replace h := if_T h hc3
      by_cases hc4 : (A.1 91 1) = 6
      · replace h := if_T h hc4
        obtain ⟨r5, A5, hf5, h⟩ := rz_b_inv h
        have fr5 := fr.trans ((wx142_no F hf5).mono (by decide) (by decide))
        cases h
        exact fr5
      · replace h := if_F h hc4
        replace h := (rz_gx_inv h).2.2
        replace h := (rz_g32_inv h).2
        cases h
        exact (Fr.aI (Fr.aI (Fr.aI (Fr.aI fr (Or.inl (by decide))) (Or.inl (by decide))) (Or.inl (by decide))) (Or.inr (by decide)))
    · replace h := if_F h hc3
      obtain ⟨r13, A13, hf13, h⟩ := rz_b_inv h
      have fr13 := fr.trans ((wx142_no F hf13).mono (by decide) (by decide))
      cases h
      exact fr13
def cs_x145_isPost : List Nat := []
def fs_x145_isPost : List (Nat × Nat) := []
theorem wx145_isPost (F : Nat) {a0 : Int} {A : rz_A} {r : Int} {A' : rz_A} (h : x145_isPost F a0 A = some (r, A')) : Fr cs_x145_isPost fs_x145_isPost A A' := by
  have fr : Fr cs_x145_isPost fs_x145_isPost A A := Fr.rfl
  unfold x145_isPost at h
  by_cases hc1 : 0 ≤ a0
  · replace h := if_T h hc1
    by_cases hc2 : a0 < (A.1 91 1)
    · replace h := if_T h hc2
      cases h
      exact fr
    · replace h := if_F h hc2
      cases h
      exact fr
  · replace h := if_F h hc1
    cases h
    exact fr
def cs_x144_moved : List Nat := [100, 101, 102, 103, 132]
def fs_x144_moved : List (Nat × Nat) := [(91, 2), (91, 11)]
theorem wx144_moved (F : Nat) {a0 : Int} {a1 : Int} {a2 : Int} {A : rz_A} {r : Int} {A' : rz_A} (h : x144_moved F a0 a1 a2 A = some (r, A')) : Fr cs_x144_moved fs_x144_moved A A' := by
  have fr : Fr cs_x144_moved fs_x144_moved A A := Fr.rfl
  unfold x144_moved at h
  obtain ⟨r1, A1, hf1, h⟩ := rz_b_inv h
  have fr1 := fr.trans ((wx145_isPost F hf1).mono (by decide) (by decide))
  by_cases hc2 : r1 = 0
  · replace h := if_T h hc2
    obtain ⟨r3, A3, hf3, h⟩ := rz_b_inv h
    have fr3 := fr1.trans ((wx142_no F hf3).mono (by decide) (by decide))
    cases h
    exact fr3
  · replace h := if_F h hc2
    by_cases hc4 : (-999) ≤ a1
    · replace h := if_T h hc4
      by_cases hc5 : a2 < 0
      · replace h := if_T h hc5
        obtain ⟨r6, A6, hf6, h⟩ := rz_b_inv h
        have fr6 := fr1.trans ((wx142_no F hf6).mono (by decide) (by decide))
        cases h
        exact fr6
      · replace h := if_F h hc5
        by_cases hc7 : a1 ≤ 999
        · replace h := if_T h hc7
          by_cases hc8 : a2 ≤ (A1.1 91 0)
          · replace h := if_T h hc8
            by_cases hc9 : (A1.1 91 2) = 60
            · replace h := if_T h hc9
              obtain ⟨r10, A10, hf10, h⟩ := rz_b_inv h
              have fr10 := fr1.trans ((wx142_no F hf10).mono (by decide) (by decide))
              cases h
              exact fr10
            · replace h := if_F h hc9
              replace h := (rz_gx_inv h).2.2
              replace h := (rz_g32_inv h).2
              replace h := (rz_g32_inv h).2
              cases h
              exact (Fr.aI (Fr.aI (Fr.aI (Fr.aI (Fr.aI (Fr.aI fr1 (Or.inl (by decide))) (Or.inl (by decide))) (Or.inl (by decide))) (Or.inl (by decide))) (Or.inr (by decide))) (Or.inr (by decide)))
          · replace h := if_F h hc8
            obtain ⟨r21, A21, hf21, h⟩ := rz_b_inv h
            have fr21 := fr1.trans ((wx142_no F hf21).mono (by decide) (by decide))
            cases h
            exact fr21
        · replace h := if_F h hc7
          obtain ⟨r22, A22, hf22, h⟩ := rz_b_inv h
          have fr22 := fr1.trans ((wx142_no F hf22).mono (by decide) (by decide))
          cases h
          exact fr22
    · replace h := if_F h hc4
      obtain ⟨r23, A23, hf23, h⟩ := rz_b_inv h
      have fr23 := fr1.trans ((wx142_no F hf23).mono (by decide) (by decide))
      cases h
      exact fr23
def cs_x148_far : List Nat := [132]
def fs_x148_far : List (Nat × Nat) := []
theorem wx148_far (F : Nat) {a0 : Int} {A : rz_A} {r : Int} {A' : rz_A} (h : x148_far F a0 A = some (r, A')) : Fr cs_x148_far fs_x148_far A A' := by
  have fr : Fr cs_x148_far fs_x148_far A A := Fr.rfl
  unfold x148_far at h
  obtain ⟨r1, A1, hf1, h⟩ := rz_b_inv h
  have fr1 := fr.trans ((wx142_no F hf1).mono (by decide) (by decide))
  replace h := (rz_g32_inv h).2
  cases h
  exact fr1
def cs_x147_times : List Nat := []
def fs_x147_times : List (Nat × Nat) := []
theorem wx147_times (F : Nat) {a0 : Int} {a1 : Int} {A : rz_A} {r : Int} {A' : rz_A} (h : x147_times F a0 a1 A = some (r, A')) : Fr cs_x147_times fs_x147_times A A' := by
  have fr : Fr cs_x147_times fs_x147_times A A := Fr.rfl
  unfold x147_times at h
  by_cases hc1 : 0 ≤ a0
  · replace h := if_T h hc1
    by_cases hc2 : a1 < 0
    · replace h := if_T h hc2
      cases h
      exact fr
    · replace h := if_F h hc2
      by_cases hc3 : a0 ≤ 9999
      · replace h := if_T h hc3
        by_cases hc4 : 9999 < a1
        · replace h := if_T h hc4
          cases h
          exact fr
        · replace h := if_F h hc4
          cases h
          exact fr
      · replace h := if_F h hc3
        cases h
        exact fr
  · replace h := if_F h hc1
    cases h
    exact fr
def cs_x149_zeroOf : List Nat := []
def fs_x149_zeroOf : List (Nat × Nat) := []
theorem wx149_zeroOf_80 (F : Nat) : ∀ (v1 : Int) (v4 : Int) (A : rz_A) (r : Int) (A' : rz_A), x149_zeroOf_80 F v1 v4 A = some (r, A') → Fr cs_x149_zeroOf fs_x149_zeroOf A A' := by
  intro v1 v4 A r A' h
  have fr : Fr cs_x149_zeroOf fs_x149_zeroOf A A := Fr.rfl
  unfold x149_zeroOf_80 at h
  by_cases hc1 : v4 < 0
  · replace h := if_T h hc1
    replace h := (rz_gx_inv h).2.2
    cases h
    exact fr
  · replace h := if_F h hc1
    replace h := (rz_gx_inv h).2.2
    cases h
    exact fr
theorem wx149_zeroOf_6 (F : Nat) : ∀ (n : Nat) (v1 : Int) (v2 : Int) (v3 : Int) (v4 : Int) (v5 : Int) (A : rz_A) (r : Int) (A' : rz_A), x149_zeroOf_6 F n v1 v2 v3 v4 v5 A = some (r, A') → Fr cs_x149_zeroOf fs_x149_zeroOf A A' := by
  intro n
  induction n with
  | zero => intro v1 v2 v3 v4 v5 A r A' h; cases h
  | succ n ih =>
    intro v1 v2 v3 v4 v5 A r A' h
    have fr : Fr cs_x149_zeroOf fs_x149_zeroOf A A := Fr.rfl
    rw [x149_zeroOf_6] at h
    by_cases hc1 : v5 < (A.1 91 2)
    · replace h := if_T h hc1
      replace h := (rz_gx_inv h).2.2
      by_cases hc4 : (A.1 100 (v5).toNat) = v1
      · replace h := if_T h hc4
        by_cases hc5 : (A.1 103 (v5).toNat) ≤ v3
        · replace h := if_T h hc5
          by_cases hc6 : (A.1 102 (v5).toNat) ≤ v2
          · replace h := if_T h hc6
            by_cases hc7 : 0 ≤ v4
            · replace h := if_T h hc7
              replace h := (rz_gx_inv h).2.2
              by_cases hc10 : (A.1 102 (v4).toNat) ≤ (A.1 102 (v5).toNat)
              · replace h := if_T h hc10
                replace h := (rz_g32_inv h).2
                exact fr.trans (ih _ _ _ _ _ _ _ _ h)
              · replace h := if_F h hc10
                replace h := (rz_g32_inv h).2
                exact fr.trans (ih _ _ _ _ _ _ _ _ h)
            · replace h := if_F h hc7
              replace h := (rz_g32_inv h).2
              exact fr.trans (ih _ _ _ _ _ _ _ _ h)
          · replace h := if_F h hc6
            replace h := (rz_g32_inv h).2
            exact fr.trans (ih _ _ _ _ _ _ _ _ h)
        · replace h := if_F h hc5
          replace h := (rz_g32_inv h).2
          exact fr.trans (ih _ _ _ _ _ _ _ _ h)
      · replace h := if_F h hc4
        replace h := (rz_g32_inv h).2
        exact fr.trans (ih _ _ _ _ _ _ _ _ h)
    · replace h := if_F h hc1
      exact fr.trans (wx149_zeroOf_80 F _ _ _ _ _ h)
theorem wx149_zeroOf (F : Nat) {a0 : Int} {a1 : Int} {a2 : Int} {A : rz_A} {r : Int} {A' : rz_A} (h : x149_zeroOf F a0 a1 a2 A = some (r, A')) : Fr cs_x149_zeroOf fs_x149_zeroOf A A' := by
  have fr : Fr cs_x149_zeroOf fs_x149_zeroOf A A := Fr.rfl
  unfold x149_zeroOf at h
  exact fr.trans (wx149_zeroOf_6 F F _ _ _ _ _ _ _ _ h)
def cs_x146_zeroAt : List Nat := [132]
def fs_x146_zeroAt : List (Nat × Nat) := []
theorem wx146_zeroAt (F : Nat) {a0 : Int} {a1 : Int} {a2 : Int} {A : rz_A} {r : Int} {A' : rz_A} (h : x146_zeroAt F a0 a1 a2 A = some (r, A')) : Fr cs_x146_zeroAt fs_x146_zeroAt A A' := by
  have fr : Fr cs_x146_zeroAt fs_x146_zeroAt A A := Fr.rfl
  unfold x146_zeroAt at h
  obtain ⟨r1, A1, hf1, h⟩ := rz_b_inv h
  have fr1 := fr.trans ((wx145_isPost F hf1).mono (by decide) (by decide))
  by_cases hc2 : r1 = 0
  · replace h := if_T h hc2
    obtain ⟨r3, A3, hf3, h⟩ := rz_b_inv h
    have fr3 := fr1.trans ((wx148_far F hf3).mono (by decide) (by decide))
    cases h
    exact fr3
  · replace h := if_F h hc2
    obtain ⟨r4, A4, hf4, h⟩ := rz_b_inv h
    have fr4 := fr1.trans ((wx147_times F hf4).mono (by decide) (by decide))
    by_cases hc5 : r4 = 0
    · replace h := if_T h hc5
      obtain ⟨r6, A6, hf6, h⟩ := rz_b_inv h
      have fr6 := fr4.trans ((wx149_zeroOf F hf6).mono (by decide) (by decide))
      cases h
      exact fr6
    · replace h := if_F h hc5
      obtain ⟨r7, A7, hf7, h⟩ := rz_b_inv h
      have fr7 := fr4.trans ((wx148_far F hf7).mono (by decide) (by decide))
      cases h
      exact fr7
def cs_x150_height : List Nat := [104, 105, 106, 107, 108, 109, 132]
def fs_x150_height : List (Nat × Nat) := [(91, 3), (91, 11)]
theorem wx150_height (F : Nat) {a0 : Int} {a1 : Int} {a2 : Int} {a3 : Int} {A : rz_A} {r : Int} {A' : rz_A} (h : x150_height F a0 a1 a2 a3 A = some (r, A')) : Fr cs_x150_height fs_x150_height A A' := by
  have fr : Fr cs_x150_height fs_x150_height A A := Fr.rfl
  unfold x150_height at h
  obtain ⟨r1, A1, hf1, h⟩ := rz_b_inv h
  have fr1 := fr.trans ((wx145_isPost F hf1).mono (by decide) (by decide))
  by_cases hc2 : r1 = 0
  · replace h := if_T h hc2
    obtain ⟨r3, A3, hf3, h⟩ := rz_b_inv h
    have fr3 := fr1.trans ((wx142_no F hf3).mono (by decide) (by decide))
    cases h
    exact fr3
  · replace h := if_F h hc2
    by_cases hc4 : 0 ≤ a2
    · replace h := if_T h hc4
      by_cases hc5 : 1 < a2
      · replace h := if_T h hc5
        obtain ⟨r6, A6, hf6, h⟩ := rz_b_inv h
        have fr6 := fr1.trans ((wx142_no F hf6).mono (by decide) (by decide))
        cases h
        exact fr6
      · replace h := if_F h hc5
        by_cases hc7 : 0 ≤ a1
        · replace h := if_T h hc7
          by_cases hc8 : a2 = 0
          · replace h := if_T h hc8
            by_cases hc9 : a3 < (-1)
            · replace h := if_T h hc9
              obtain ⟨r10, A10, hf10, h⟩ := rz_b_inv h
              have fr10 := fr1.trans ((wx142_no F hf10).mono (by decide) (by decide))
              cases h
              exact fr10
            · replace h := if_F h hc9
              by_cases hc11 : a1 ≤ (A1.1 91 0)
              · replace h := if_T h hc11
                by_cases hc12 : a3 ≤ 9999
                · replace h := if_T h hc12
                  by_cases hc13 : (A1.1 91 3) = 300
                  · replace h := if_T h hc13
                    obtain ⟨r14, A14, hf14, h⟩ := rz_b_inv h
                    have fr14 := fr1.trans ((wx142_no F hf14).mono (by decide) (by decide))
                    cases h
                    exact fr14
                  · replace h := if_F h hc13
                    replace h := (rz_gx_inv h).2.2
                    replace h := (rz_g32_inv h).2
                    replace h := (rz_g32_inv h).2
                    cases h
                    exact (Fr.aI (Fr.aI (Fr.aI (Fr.aI (Fr.aI (Fr.aI (Fr.aI (Fr.aI fr1 (Or.inl (by decide))) (Or.inl (by decide))) (Or.inl (by decide))) (Or.inl (by decide))) (Or.inl (by decide))) (Or.inl (by decide))) (Or.inr (by decide))) (Or.inr (by decide)))
                · replace h := if_F h hc12
                  obtain ⟨r27, A27, hf27, h⟩ := rz_b_inv h
                  have fr27 := fr1.trans ((wx142_no F hf27).mono (by decide) (by decide))
                  cases h
                  exact fr27
              · replace h := if_F h hc11
                obtain ⟨r28, A28, hf28, h⟩ := rz_b_inv h
                have fr28 := fr1.trans ((wx142_no F hf28).mono (by decide) (by decide))
                cases h
                exact fr28
          · replace h := if_F h hc8
            by_cases hc29 : a3 < 0
            · replace h := if_T h hc29
              obtain ⟨r30, A30, hf30, h⟩ := rz_b_inv h
              have fr30 := fr1.trans ((wx142_no F hf30).mono (by decide) (by decide))
              cases h
              exact fr30
            · replace h := if_F h hc29
              by_cases hc31 : a1 ≤ (A1.1 91 0)
              · replace h := if_T h hc31
                by_cases hc32 : a3 ≤ 9999
                · replace h := if_T h hc32
                  by_cases hc33 : (A1.1 91 3) = 300
                  · replace h := if_T h hc33
                    obtain ⟨r34, A34, hf34, h⟩ := rz_b_inv h
                    have fr34 := fr1.trans ((wx142_no F hf34).mono (by decide) (by decide))
                    cases h
                    exact fr34
                  · replace h := if_F h hc33
                    replace h := (rz_gx_inv h).2.2
                    replace h := (rz_g32_inv h).2
                    replace h := (rz_g32_inv h).2
                    cases h
                    exact (Fr.aI (Fr.aI (Fr.aI (Fr.aI (Fr.aI (Fr.aI (Fr.aI (Fr.aI fr1 (Or.inl (by decide))) (Or.inl (by decide))) (Or.inl (by decide))) (Or.inl (by decide))) (Or.inl (by decide))) (Or.inl (by decide))) (Or.inr (by decide))) (Or.inr (by decide)))
                · replace h := if_F h hc32
                  obtain ⟨r47, A47, hf47, h⟩ := rz_b_inv h
                  have fr47 := fr1.trans ((wx142_no F hf47).mono (by decide) (by decide))
                  cases h
                  exact fr47
              · replace h := if_F h hc31
                obtain ⟨r48, A48, hf48, h⟩ := rz_b_inv h
                have fr48 := fr1.trans ((wx142_no F hf48).mono (by decide) (by decide))
                cases h
                exact fr48
        · replace h := if_F h hc7
          obtain ⟨r49, A49, hf49, h⟩ := rz_b_inv h
          have fr49 := fr1.trans ((wx142_no F hf49).mono (by decide) (by decide))
          cases h
          exact fr49
    · replace h := if_F h hc4
      obtain ⟨r50, A50, hf50, h⟩ := rz_b_inv h
      have fr50 := fr1.trans ((wx142_no F hf50).mono (by decide) (by decide))
      cases h
      exact fr50
def cs_x151_strike : List Nat := [109, 132]
def fs_x151_strike : List (Nat × Nat) := [(91, 11)]
theorem wx151_strike (F : Nat) {a0 : Int} {A : rz_A} {r : Int} {A' : rz_A} (h : x151_strike F a0 A = some (r, A')) : Fr cs_x151_strike fs_x151_strike A A' := by
  have fr : Fr cs_x151_strike fs_x151_strike A A := Fr.rfl
  unfold x151_strike at h
  by_cases hc1 : 0 ≤ a0
  · replace h := if_T h hc1
    by_cases hc2 : (A.1 91 3) ≤ a0
    · replace h := if_T h hc2
      obtain ⟨r3, A3, hf3, h⟩ := rz_b_inv h
      have fr3 := fr.trans ((wx142_no F hf3).mono (by decide) (by decide))
      cases h
      exact fr3
    · replace h := if_F h hc2
      replace h := (rz_gx_inv h).2.2
      by_cases hc6 : (A.1 109 (a0).toNat) < 0
      · replace h := if_T h hc6
        by_cases hc7 : (A.1 107 (a0).toNat) < 0
        · replace h := if_T h hc7
          obtain ⟨r8, A8, hf8, h⟩ := rz_b_inv h
          have fr8 := fr.trans ((wx142_no F hf8).mono (by decide) (by decide))
          cases h
          exact fr8
        · replace h := if_F h hc7
          replace h := (rz_g32_inv h).2
          cases h
          exact (Fr.aI (Fr.aI fr (Or.inl (by decide))) (Or.inr (by decide)))
      · replace h := if_F h hc6
        obtain ⟨r12, A12, hf12, h⟩ := rz_b_inv h
        have fr12 := fr.trans ((wx142_no F hf12).mono (by decide) (by decide))
        cases h
        exact fr12
  · replace h := if_F h hc1
    obtain ⟨r13, A13, hf13, h⟩ := rz_b_inv h
    have fr13 := fr.trans ((wx142_no F hf13).mono (by decide) (by decide))
    cases h
    exact fr13
def cs_x153_isTold : List Nat := []
def fs_x153_isTold : List (Nat × Nat) := []
theorem wx153_isTold (F : Nat) {a0 : Int} {a1 : Int} {A : rz_A} {r : Int} {A' : rz_A} (h : x153_isTold F a0 a1 A = some (r, A')) : Fr cs_x153_isTold fs_x153_isTold A A' := by
  have fr : Fr cs_x153_isTold fs_x153_isTold A A := Fr.rfl
  unfold x153_isTold at h
  replace h := (rz_gx_inv h).2.2
  by_cases hc3 : 0 ≤ (A.1 109 (a0).toNat)
  · replace h := if_T h hc3
    by_cases hc4 : (A.1 109 (a0).toNat) ≤ a1
    · replace h := if_T h hc4
      cases h
      exact fr
    · replace h := if_F h hc4
      cases h
      exact fr
  · replace h := if_F h hc3
    cases h
    exact fr
def cs_x155_inForce : List Nat := []
def fs_x155_inForce : List (Nat × Nat) := []
theorem wx155_inForce_6 (F : Nat) : ∀ (n : Nat) (v1 : Int) (v2 : Int) (v3 : Int) (v4 : Int) (v5 : Int) (A : rz_A) (r : Int) (A' : rz_A), x155_inForce_6 F n v1 v2 v3 v4 v5 A = some (r, A') → Fr cs_x155_inForce fs_x155_inForce A A' := by
  intro n
  induction n with
  | zero => intro v1 v2 v3 v4 v5 A r A' h; cases h
  | succ n ih =>
    intro v1 v2 v3 v4 v5 A r A' h
    have fr : Fr cs_x155_inForce fs_x155_inForce A A := Fr.rfl
    rw [x155_inForce_6] at h
    by_cases hc1 : v5 < (A.1 91 5)
    · replace h := if_T h hc1
      replace h := (rz_gx_inv h).2.2
      by_cases hc4 : (A.1 122 (v5).toNat) = v1
      · replace h := if_T h hc4
        by_cases hc5 : (A.1 124 (v5).toNat) ≤ v3
        · replace h := if_T h hc5
          by_cases hc6 : (A.1 123 (v5).toNat) ≤ v2
          · replace h := if_T h hc6
            by_cases hc7 : 0 ≤ v4
            · replace h := if_T h hc7
              replace h := (rz_gx_inv h).2.2
              by_cases hc10 : (A.1 123 (v4).toNat) ≤ (A.1 123 (v5).toNat)
              · replace h := if_T h hc10
                replace h := (rz_g32_inv h).2
                exact fr.trans (ih _ _ _ _ _ _ _ _ h)
              · replace h := if_F h hc10
                replace h := (rz_g32_inv h).2
                exact fr.trans (ih _ _ _ _ _ _ _ _ h)
            · replace h := if_F h hc7
              replace h := (rz_g32_inv h).2
              exact fr.trans (ih _ _ _ _ _ _ _ _ h)
          · replace h := if_F h hc6
            replace h := (rz_g32_inv h).2
            exact fr.trans (ih _ _ _ _ _ _ _ _ h)
        · replace h := if_F h hc5
          replace h := (rz_g32_inv h).2
          exact fr.trans (ih _ _ _ _ _ _ _ _ h)
      · replace h := if_F h hc4
        replace h := (rz_g32_inv h).2
        exact fr.trans (ih _ _ _ _ _ _ _ _ h)
    · replace h := if_F h hc1
      cases h
      exact fr
theorem wx155_inForce (F : Nat) {a0 : Int} {a1 : Int} {a2 : Int} {A : rz_A} {r : Int} {A' : rz_A} (h : x155_inForce F a0 a1 a2 A = some (r, A')) : Fr cs_x155_inForce fs_x155_inForce A A' := by
  have fr : Fr cs_x155_inForce fs_x155_inForce A A := Fr.rfl
  unfold x155_inForce at h
  exact fr.trans (wx155_inForce_6 F F _ _ _ _ _ _ _ _ h)
def cs_x156_ahead : List Nat := []
def fs_x156_ahead : List (Nat × Nat) := []
theorem wx156_ahead_105 (F : Nat) {k5 : (Int → Int → Int → Int → rz_A → Option (Int × rz_A))} (hkk5 : ∀ (v1 : Int) (v2 : Int) (v3 : Int) (v4 : Int) (A : rz_A) (r : Int) (A' : rz_A), k5 v1 v2 v3 v4 A = some (r, A') → Fr cs_x156_ahead fs_x156_ahead A A') : ∀ (v1 : Int) (v2 : Int) (v3 : Int) (v4 : Int) (A : rz_A) (r : Int) (A' : rz_A), x156_ahead_105 F k5 v1 v2 v3 v4 A = some (r, A') → Fr cs_x156_ahead fs_x156_ahead A A' := by
  intro v1 v2 v3 v4 A r A' h
  have fr : Fr cs_x156_ahead fs_x156_ahead A A := Fr.rfl
  unfold x156_ahead_105 at h
  by_cases hc1 : 0 ≤ v3
  · replace h := if_T h hc1
    replace h := (rz_gx_inv h).2.2
    replace h := (rz_gx_inv h).2.2
    by_cases hc6 : (A.1 105 (v3).toNat) ≤ (A.1 105 (v4).toNat)
    · replace h := if_T h hc6
      replace h := (rz_g32_inv h).2
      exact fr.trans (hkk5 _ _ _ _ _ _ _ h)
    · replace h := if_F h hc6
      replace h := (rz_g32_inv h).2
      exact fr.trans (hkk5 _ _ _ _ _ _ _ h)
  · replace h := if_F h hc1
    replace h := (rz_g32_inv h).2
    exact fr.trans (hkk5 _ _ _ _ _ _ _ h)
theorem wx156_ahead_5 (F : Nat) : ∀ (n : Nat) (v1 : Int) (v2 : Int) (v3 : Int) (v4 : Int) (A : rz_A) (r : Int) (A' : rz_A), x156_ahead_5 F n v1 v2 v3 v4 A = some (r, A') → Fr cs_x156_ahead fs_x156_ahead A A' := by
  intro n
  induction n with
  | zero => intro v1 v2 v3 v4 A r A' h; cases h
  | succ n ih =>
    intro v1 v2 v3 v4 A r A' h
    have fr : Fr cs_x156_ahead fs_x156_ahead A A := Fr.rfl
    rw [x156_ahead_5] at h
    by_cases hc1 : v4 < (A.1 91 3)
    · replace h := if_T h hc1
      replace h := (rz_gx_inv h).2.2
      replace h := (rz_gx_inv h).2.2
      by_cases hc6 : (A.1 104 (v4).toNat) = (A.1 104 (v1).toNat)
      · replace h := if_T h hc6
        by_cases hc7 : (A.1 108 (v4).toNat) ≤ v2
        · replace h := if_T h hc7
          by_cases hc8 : 0 ≤ (A.1 107 (v4).toNat)
          · replace h := if_T h hc8
            obtain ⟨r9, A9, hf9, h⟩ := rz_b_inv h
            have fr9 := fr.trans ((wx153_isTold F hf9).mono (by decide) (by decide))
            by_cases hc10 : r9 = 0
            · replace h := if_T h hc10
              by_cases hc11 : (A9.1 105 (v4).toNat) ≤ (A9.1 105 (v1).toNat)
              · replace h := if_T h hc11
                by_cases hc12 : (A9.1 105 (v4).toNat) = (A9.1 105 (v1).toNat)
                · replace h := if_T h hc12
                  by_cases hc13 : v1 ≤ v4
                  · replace h := if_T h hc13
                    replace h := (rz_g32_inv h).2
                    exact fr9.trans (ih _ _ _ _ _ _ _ h)
                  · replace h := if_F h hc13
                    exact fr9.trans (wx156_ahead_105 F ih _ _ _ _ _ _ _ h)
                · replace h := if_F h hc12
                  exact fr9.trans (wx156_ahead_105 F ih _ _ _ _ _ _ _ h)
              · replace h := if_F h hc11
                replace h := (rz_g32_inv h).2
                exact fr9.trans (ih _ _ _ _ _ _ _ h)
            · replace h := if_F h hc10
              replace h := (rz_g32_inv h).2
              exact fr9.trans (ih _ _ _ _ _ _ _ h)
          · replace h := if_F h hc8
            replace h := (rz_g32_inv h).2
            exact fr.trans (ih _ _ _ _ _ _ _ h)
        · replace h := if_F h hc7
          replace h := (rz_g32_inv h).2
          exact fr.trans (ih _ _ _ _ _ _ _ h)
      · replace h := if_F h hc6
        replace h := (rz_g32_inv h).2
        exact fr.trans (ih _ _ _ _ _ _ _ h)
    · replace h := if_F h hc1
      cases h
      exact fr
theorem wx156_ahead (F : Nat) {a0 : Int} {a1 : Int} {A : rz_A} {r : Int} {A' : rz_A} (h : x156_ahead F a0 a1 A = some (r, A')) : Fr cs_x156_ahead fs_x156_ahead A A' := by
  have fr : Fr cs_x156_ahead fs_x156_ahead A A := Fr.rfl
  unfold x156_ahead at h
  exact fr.trans (wx156_ahead_5 F F _ _ _ _ _ _ _ h)
def cs_x157_lays : List Nat := [133]
def fs_x157_lays : List (Nat × Nat) := []
theorem wx157_lays_21 (F : Nat) : ∀ (v1 : Int) (A : rz_A) (r : Unit) (A' : rz_A), x157_lays_21 F v1 A = some (r, A') → Fr cs_x157_lays fs_x157_lays A A' := by
  intro v1 A r A' h
  have fr : Fr cs_x157_lays fs_x157_lays A A := Fr.rfl
  unfold x157_lays_21 at h
  replace h := (rz_g32_inv h).2
  replace h := (rz_g32_inv h).2
  cases h
  exact (Fr.aL (Fr.aL fr (Or.inl (by decide))) (Or.inl (by decide)))
theorem wx157_lays_2 (F : Nat) : ∀ (n : Nat) (v1 : Int) (v2 : Int) (A : rz_A) (r : Unit) (A' : rz_A), x157_lays_2 F n v1 v2 A = some (r, A') → Fr cs_x157_lays fs_x157_lays A A' := by
  intro n
  induction n with
  | zero => intro v1 v2 A r A' h; cases h
  | succ n ih =>
    intro v1 v2 A r A' h
    have fr : Fr cs_x157_lays fs_x157_lays A A := Fr.rfl
    rw [x157_lays_2] at h
    by_cases hc1 : v2 < 26
    · replace h := if_T h hc1
      replace h := (rz_gx_inv h).2.2
      replace h := (rz_g32_inv h).2
      exact (Fr.aL fr (Or.inl (by decide))).trans (ih _ _ _ _ _ h)
    · replace h := if_F h hc1
      exact fr.trans (wx157_lays_21 F _ _ _ _ h)
theorem wx157_lays (F : Nat) {a0 : Int} {A : rz_A} {r : Unit} {A' : rz_A} (h : x157_lays F a0 A = some (r, A')) : Fr cs_x157_lays fs_x157_lays A A' := by
  have fr : Fr cs_x157_lays fs_x157_lays A A := Fr.rfl
  unfold x157_lays at h
  exact fr.trans (wx157_lays_2 F F _ _ _ _ _ h)
def cs_x159_held : List Nat := []
def fs_x159_held : List (Nat × Nat) := []
theorem wx159_held (F : Nat) {a0 : Int} {A : rz_A} {r : Int} {A' : rz_A} (h : x159_held F a0 A = some (r, A')) : Fr cs_x159_held fs_x159_held A A' := by
  have fr : Fr cs_x159_held fs_x159_held A A := Fr.rfl
  unfold x159_held at h
  by_cases hc1 : a0 < (-1000000000)
  · replace h := if_T h hc1
    cases h
    exact fr
  · replace h := if_F h hc1
    by_cases hc2 : 1000000000 < a0
    · replace h := if_T h hc2
      cases h
      exact fr
    · replace h := if_F h hc2
      cases h
      exact fr
def cs_x158_says : List Nat := [136]
def fs_x158_says : List (Nat × Nat) := []
theorem wx158_says_273 (F : Nat) : ∀ (A : rz_A) (r : Int) (A' : rz_A), x158_says_273 F A = some (r, A') → Fr cs_x158_says fs_x158_says A A' := by
  intro A r A' h
  have fr : Fr cs_x158_says fs_x158_says A A := Fr.rfl
  unfold x158_says_273 at h
  by_cases hc1 : (A.2 136 0) = 0
  · replace h := if_T h hc1
    cases h
    exact fr
  · replace h := if_F h hc1
    cases h
    exact fr
theorem wx158_says_4 (F : Nat) : ∀ (n : Nat) (v1 : Int) (v2 : Int) (v3 : Int) (A : rz_A) (r : Int) (A' : rz_A), x158_says_4 F n v1 v2 v3 A = some (r, A') → Fr cs_x158_says fs_x158_says A A' := by
  intro n
  induction n with
  | zero => intro v1 v2 v3 A r A' h; cases h
  | succ n ih =>
    intro v1 v2 v3 A r A' h
    have fr : Fr cs_x158_says fs_x158_says A A := Fr.rfl
    rw [x158_says_4] at h
    replace h := (rz_gx_inv h).2.2
    by_cases hc3 : v3 < (A.1 125 (v1).toNat)
    · replace h := if_T h hc3
      replace h := (rz_g32_inv h).2
      replace h := (rz_g32_inv h).2
      replace h := (rz_gx_inv h).2.2
      by_cases hc8 : 0 ≤ (A.1 126 (((130 * v1) + v3)).toNat)
      · replace h := if_T h hc8
        replace h := (rz_g32_inv h).2
        replace h := (rz_gx_inv h).2.2
        replace h := (rz_g32_inv h).2
        exact (Fr.aL fr (Or.inl (by decide))).trans (ih _ _ _ _ _ _ h)
      · replace h := if_F h hc8
        by_cases hc14 : (-40) < (A.1 126 (((130 * v1) + v3)).toNat)
        · replace h := if_T h hc14
          replace h := (rz_g32_inv h).2
          replace h := (rz_g32_inv h).2
          replace h := (rz_g32_inv h).2
          replace h := (rz_gx_inv h).2.2
          replace h := (rz_gx_inv h).2.2
          replace h := (rz_g32_inv h).2
          exact (Fr.aL fr (Or.inl (by decide))).trans (ih _ _ _ _ _ _ h)
        · replace h := if_F h hc14
          by_cases hc24 : (A.1 126 (((130 * v1) + v3)).toNat) = (-42)
          · replace h := if_T h hc24
            replace h := (rz_g32_inv h).2
            replace h := (rz_gx_inv h).2.2
            replace h := (rz_g64_inv h).2
            replace h := (rz_g32_inv h).2
            exact (Fr.aL fr (Or.inl (by decide))).trans (ih _ _ _ _ _ _ h)
          · replace h := if_F h hc24
            replace h := (rz_g32_inv h).2
            replace h := (rz_g32_inv h).2
            replace h := (rz_gx_inv h).2.2
            replace h := (rz_gx_inv h).2.2
            by_cases hc37 : (A.1 126 (((130 * v1) + v3)).toNat) = (-46)
            · replace h := if_T h hc37
              replace h := (rz_g64_inv h).2
              obtain ⟨r39, A39, hf39, h⟩ := rz_b_inv h
              have fr39 := fr.trans ((wx159_held F hf39).mono (by decide) (by decide))
              replace h := (rz_g32_inv h).2
              exact (Fr.aL fr39 (Or.inl (by decide))).trans (ih _ _ _ _ _ _ h)
            · replace h := if_F h hc37
              by_cases hc42 : (A.1 126 (((130 * v1) + v3)).toNat) = (-47)
              · replace h := if_T h hc42
                replace h := (rz_g64_inv h).2
                obtain ⟨r44, A44, hf44, h⟩ := rz_b_inv h
                have fr44 := fr.trans ((wx159_held F hf44).mono (by decide) (by decide))
                replace h := (rz_g32_inv h).2
                exact (Fr.aL fr44 (Or.inl (by decide))).trans (ih _ _ _ _ _ _ h)
              · replace h := if_F h hc42
                by_cases hc47 : (A.1 126 (((130 * v1) + v3)).toNat) = (-48)
                · replace h := if_T h hc47
                  replace h := (rz_g64_inv h).2
                  obtain ⟨r49, A49, hf49, h⟩ := rz_b_inv h
                  have fr49 := fr.trans ((wx159_held F hf49).mono (by decide) (by decide))
                  replace h := (rz_g32_inv h).2
                  exact (Fr.aL fr49 (Or.inl (by decide))).trans (ih _ _ _ _ _ _ h)
                · replace h := if_F h hc47
                  by_cases hc52 : (A.1 126 (((130 * v1) + v3)).toNat) = (-40)
                  · replace h := if_T h hc52
                    replace h := (rz_g32_inv h).2
                    exact (Fr.aL fr (Or.inl (by decide))).trans (ih _ _ _ _ _ _ h)
                  · replace h := if_F h hc52
                    by_cases hc55 : (A.1 126 (((130 * v1) + v3)).toNat) = (-41)
                    · replace h := if_T h hc55
                      replace h := (rz_g32_inv h).2
                      exact (Fr.aL fr (Or.inl (by decide))).trans (ih _ _ _ _ _ _ h)
                    · replace h := if_F h hc55
                      by_cases hc58 : (A.1 126 (((130 * v1) + v3)).toNat) = (-43)
                      · replace h := if_T h hc58
                        by_cases hc59 : (A.2 136 (((v2 + (-1)) - 1)).toNat) < (A.2 136 ((v2 + (-1))).toNat)
                        · replace h := if_T h hc59
                          replace h := (rz_g32_inv h).2
                          exact (Fr.aL fr (Or.inl (by decide))).trans (ih _ _ _ _ _ _ h)
                        · replace h := if_F h hc59
                          replace h := (rz_g32_inv h).2
                          exact (Fr.aL fr (Or.inl (by decide))).trans (ih _ _ _ _ _ _ h)
                      · replace h := if_F h hc58
                        by_cases hc64 : (A.1 126 (((130 * v1) + v3)).toNat) = (-44)
                        · replace h := if_T h hc64
                          by_cases hc65 : (A.2 136 (((v2 + (-1)) - 1)).toNat) = (A.2 136 ((v2 + (-1))).toNat)
                          · replace h := if_T h hc65
                            replace h := (rz_g32_inv h).2
                            exact (Fr.aL fr (Or.inl (by decide))).trans (ih _ _ _ _ _ _ h)
                          · replace h := if_F h hc65
                            replace h := (rz_g32_inv h).2
                            exact (Fr.aL fr (Or.inl (by decide))).trans (ih _ _ _ _ _ _ h)
                        · replace h := if_F h hc64
                          by_cases hc70 : (A.2 136 ((v2 + (-1))).toNat) < (A.2 136 (((v2 + (-1)) - 1)).toNat)
                          · replace h := if_T h hc70
                            replace h := (rz_g32_inv h).2
                            exact (Fr.aL fr (Or.inl (by decide))).trans (ih _ _ _ _ _ _ h)
                          · replace h := if_F h hc70
                            replace h := (rz_g32_inv h).2
                            exact (Fr.aL fr (Or.inl (by decide))).trans (ih _ _ _ _ _ _ h)
    · replace h := if_F h hc3
      exact fr.trans (wx158_says_273 F _ _ _ h)
theorem wx158_says (F : Nat) {a0 : Int} {A : rz_A} {r : Int} {A' : rz_A} (h : x158_says F a0 A = some (r, A')) : Fr cs_x158_says fs_x158_says A A' := by
  have fr : Fr cs_x158_says fs_x158_says A A := Fr.rfl
  unfold x158_says at h
  exact fr.trans (wx158_says_4 F F _ _ _ _ _ _ h)
def cs_x154_isByStandard : List Nat := [133, 136]
def fs_x154_isByStandard : List (Nat × Nat) := []
theorem wx154_isByStandard (F : Nat) {a0 : Int} {a1 : Int} {A : rz_A} {r : Int} {A' : rz_A} (h : x154_isByStandard F a0 a1 A = some (r, A')) : Fr cs_x154_isByStandard fs_x154_isByStandard A A' := by
  have fr : Fr cs_x154_isByStandard fs_x154_isByStandard A A := Fr.rfl
  unfold x154_isByStandard at h
  replace h := (rz_gx_inv h).2.2
  by_cases hc3 : (A.1 107 (a0).toNat) < 0
  · replace h := if_T h hc3
    cases h
    exact fr
  · replace h := if_F h hc3
    replace h := (rz_g32_inv h).2
    obtain ⟨r5, A5, hf5, h⟩ := rz_b_inv h
    have fr5 := fr.trans ((wx155_inForce F hf5).mono (by decide) (by decide))
    by_cases hc6 : r5 < 0
    · replace h := if_T h hc6
      cases h
      exact fr5
    · replace h := if_F h hc6
      obtain ⟨r7, A7, hf7, h⟩ := rz_b_inv h
      have fr7 := fr5.trans ((wx156_ahead F hf7).mono (by decide) (by decide))
      obtain ⟨_, A8, hf8, h⟩ := rz_b_inv h
      have fr8 := fr7.trans ((wx157_lays F hf8).mono (by decide) (by decide))
      by_cases hc11 : r7 < 0
      · replace h := if_T h hc11
        obtain ⟨r14, A14, hf14, h⟩ := rz_b_inv h
        have fr14 := (Fr.aL (Fr.aL (Fr.aL (Fr.aL fr8 (Or.inl (by decide))) (Or.inl (by decide))) (Or.inl (by decide))) (Or.inl (by decide))).trans ((wx158_says F hf14).mono (by decide) (by decide))
        replace h := (rz_gz_inv h).2
        cases h
        exact fr14
      · replace h := if_F h hc11
        replace h := (rz_gx_inv h).2.2
        by_cases hc18 : (A8.1 107 (r7).toNat) < (A8.1 107 (a0).toNat)
        · replace h := if_T h hc18
          replace h := (rz_g32_inv h).2
          replace h := (rz_g32_inv h).2
          obtain ⟨r23, A23, hf23, h⟩ := rz_b_inv h
          have fr23 := (Fr.aL (Fr.aL (Fr.aL (Fr.aL fr8 (Or.inl (by decide))) (Or.inl (by decide))) (Or.inl (by decide))) (Or.inl (by decide))).trans ((wx158_says F hf23).mono (by decide) (by decide))
          replace h := (rz_gz_inv h).2
          cases h
          exact fr23
        · replace h := if_F h hc18
          replace h := (rz_g32_inv h).2
          replace h := (rz_g32_inv h).2
          obtain ⟨r29, A29, hf29, h⟩ := rz_b_inv h
          have fr29 := (Fr.aL (Fr.aL (Fr.aL (Fr.aL fr8 (Or.inl (by decide))) (Or.inl (by decide))) (Or.inl (by decide))) (Or.inl (by decide))).trans ((wx158_says F hf29).mono (by decide) (by decide))
          replace h := (rz_gz_inv h).2
          cases h
          exact fr29
def cs_x152_isStruck : List Nat := [132, 133, 136]
def fs_x152_isStruck : List (Nat × Nat) := []
theorem wx152_isStruck (F : Nat) {a0 : Int} {a1 : Int} {A : rz_A} {r : Int} {A' : rz_A} (h : x152_isStruck F a0 a1 A = some (r, A')) : Fr cs_x152_isStruck fs_x152_isStruck A A' := by
  have fr : Fr cs_x152_isStruck fs_x152_isStruck A A := Fr.rfl
  unfold x152_isStruck at h
  by_cases hc1 : 0 ≤ a0
  · replace h := if_T h hc1
    by_cases hc2 : (A.1 91 3) ≤ a0
    · replace h := if_T h hc2
      obtain ⟨r3, A3, hf3, h⟩ := rz_b_inv h
      have fr3 := fr.trans ((wx142_no F hf3).mono (by decide) (by decide))
      cases h
      exact fr3
    · replace h := if_F h hc2
      obtain ⟨r4, A4, hf4, h⟩ := rz_b_inv h
      have fr4 := fr.trans ((wx147_times F hf4).mono (by decide) (by decide))
      by_cases hc5 : r4 = 0
      · replace h := if_T h hc5
        replace h := (rz_gx_inv h).2.2
        by_cases hc8 : a1 < (A4.1 108 (a0).toNat)
        · replace h := if_T h hc8
          cases h
          exact fr4
        · replace h := if_F h hc8
          obtain ⟨r9, A9, hf9, h⟩ := rz_b_inv h
          have fr9 := fr4.trans ((wx153_isTold F hf9).mono (by decide) (by decide))
          by_cases hc10 : r9 = 0
          · replace h := if_T h hc10
            obtain ⟨r11, A11, hf11, h⟩ := rz_b_inv h
            have fr11 := fr9.trans ((wx154_isByStandard F hf11).mono (by decide) (by decide))
            by_cases hc12 : r11 = 0
            · replace h := if_T h hc12
              cases h
              exact fr11
            · replace h := if_F h hc12
              cases h
              exact fr11
          · replace h := if_F h hc10
            cases h
            exact fr9
      · replace h := if_F h hc5
        obtain ⟨r13, A13, hf13, h⟩ := rz_b_inv h
        have fr13 := fr4.trans ((wx142_no F hf13).mono (by decide) (by decide))
        cases h
        exact fr13
  · replace h := if_F h hc1
    obtain ⟨r14, A14, hf14, h⟩ := rz_b_inv h
    have fr14 := fr.trans ((wx142_no F hf14).mono (by decide) (by decide))
    cases h
    exact fr14
def cs_x162_which : List Nat := [133, 136]
def fs_x162_which : List (Nat × Nat) := []
theorem wx162_which_83 (F : Nat) {k6 : (Int → Int → Int → Int → Int → rz_A → Option (Int × rz_A))} (hkk6 : ∀ (v1 : Int) (v2 : Int) (v3 : Int) (v4 : Int) (v5 : Int) (A : rz_A) (r : Int) (A' : rz_A), k6 v1 v2 v3 v4 v5 A = some (r, A') → Fr cs_x162_which fs_x162_which A A') : ∀ (v1 : Int) (v2 : Int) (v3 : Int) (v4 : Int) (v5 : Int) (A : rz_A) (r : Int) (A' : rz_A), x162_which_83 F k6 v1 v2 v3 v4 v5 A = some (r, A') → Fr cs_x162_which fs_x162_which A A' := by
  intro v1 v2 v3 v4 v5 A r A' h
  have fr : Fr cs_x162_which fs_x162_which A A := Fr.rfl
  unfold x162_which_83 at h
  obtain ⟨r1, A1, hf1, h⟩ := rz_b_inv h
  have fr1 := fr.trans ((wx153_isTold F hf1).mono (by decide) (by decide))
  by_cases hc2 : r1 = 0
  · replace h := if_T h hc2
    obtain ⟨r3, A3, hf3, h⟩ := rz_b_inv h
    have fr3 := fr1.trans ((wx154_isByStandard F hf3).mono (by decide) (by decide))
    by_cases hc4 : r3 = 0
    · replace h := if_T h hc4
      replace h := (rz_g32_inv h).2
      exact fr3.trans (hkk6 _ _ _ _ _ _ _ _ h)
    · replace h := if_F h hc4
      replace h := (rz_g32_inv h).2
      exact fr3.trans (hkk6 _ _ _ _ _ _ _ _ h)
  · replace h := if_F h hc2
    replace h := (rz_g32_inv h).2
    exact fr1.trans (hkk6 _ _ _ _ _ _ _ _ h)
theorem wx162_which_6 (F : Nat) : ∀ (n : Nat) (v1 : Int) (v2 : Int) (v3 : Int) (v4 : Int) (v5 : Int) (A : rz_A) (r : Int) (A' : rz_A), x162_which_6 F n v1 v2 v3 v4 v5 A = some (r, A') → Fr cs_x162_which fs_x162_which A A' := by
  intro n
  induction n with
  | zero => intro v1 v2 v3 v4 v5 A r A' h; cases h
  | succ n ih =>
    intro v1 v2 v3 v4 v5 A r A' h
    have fr : Fr cs_x162_which fs_x162_which A A := Fr.rfl
    rw [x162_which_6] at h
    by_cases hc1 : v5 < (A.1 91 3)
    · replace h := if_T h hc1
      replace h := (rz_gx_inv h).2.2
      by_cases hc4 : (A.1 104 (v5).toNat) = v1
      · replace h := if_T h hc4
        by_cases hc5 : (A.1 105 (v5).toNat) = v2
        · replace h := if_T h hc5
          by_cases hc6 : (A.1 108 (v5).toNat) ≤ v3
          · replace h := if_T h hc6
            by_cases hc7 : 0 ≤ (A.1 107 (v5).toNat)
            · replace h := if_T h hc7
              by_cases hc8 : 0 ≤ v4
              · replace h := if_T h hc8
                replace h := (rz_gx_inv h).2.2
                by_cases hc11 : (A.1 106 (v5).toNat) < (A.1 106 (v4).toNat)
                · replace h := if_T h hc11
                  replace h := (rz_g32_inv h).2
                  exact fr.trans (ih _ _ _ _ _ _ _ _ h)
                · replace h := if_F h hc11
                  exact fr.trans (wx162_which_83 F ih _ _ _ _ _ _ _ _ h)
              · replace h := if_F h hc8
                exact fr.trans (wx162_which_83 F ih _ _ _ _ _ _ _ _ h)
            · replace h := if_F h hc7
              replace h := (rz_g32_inv h).2
              exact fr.trans (ih _ _ _ _ _ _ _ _ h)
          · replace h := if_F h hc6
            replace h := (rz_g32_inv h).2
            exact fr.trans (ih _ _ _ _ _ _ _ _ h)
        · replace h := if_F h hc5
          replace h := (rz_g32_inv h).2
          exact fr.trans (ih _ _ _ _ _ _ _ _ h)
      · replace h := if_F h hc4
        replace h := (rz_g32_inv h).2
        exact fr.trans (ih _ _ _ _ _ _ _ _ h)
    · replace h := if_F h hc1
      cases h
      exact fr
theorem wx162_which (F : Nat) {a0 : Int} {a1 : Int} {a2 : Int} {A : rz_A} {r : Int} {A' : rz_A} (h : x162_which F a0 a1 a2 A = some (r, A')) : Fr cs_x162_which fs_x162_which A A' := by
  have fr : Fr cs_x162_which fs_x162_which A A := Fr.rfl
  unfold x162_which at h
  exact fr.trans (wx162_which_6 F F _ _ _ _ _ _ _ _ h)
def cs_x161_has : List Nat := [133, 136]
def fs_x161_has : List (Nat × Nat) := [(91, 54)]
theorem wx161_has (F : Nat) {a0 : Int} {a1 : Int} {a2 : Int} {A : rz_A} {r : Int} {A' : rz_A} (h : x161_has F a0 a1 a2 A = some (r, A')) : Fr cs_x161_has fs_x161_has A A' := by
  have fr : Fr cs_x161_has fs_x161_has A A := Fr.rfl
  unfold x161_has at h
  obtain ⟨r1, A1, hf1, h⟩ := rz_b_inv h
  have fr1 := fr.trans ((wx162_which F hf1).mono (by decide) (by decide))
  by_cases hc2 : r1 < 0
  · replace h := if_T h hc2
    cases h
    exact fr1
  · replace h := if_F h hc2
    replace h := (rz_gx_inv h).2.2
    obtain ⟨r5, A5, hf5, h⟩ := rz_b_inv h
    have fr5 := fr1.trans ((wx149_zeroOf F hf5).mono (by decide) (by decide))
    replace h := (rz_g32_inv h).2
    cases h
    exact (Fr.aI fr5 (Or.inr (by decide)))
def cs_x160_heightAt : List Nat := [132, 133, 136]
def fs_x160_heightAt : List (Nat × Nat) := [(91, 54)]
theorem wx160_heightAt (F : Nat) {a0 : Int} {a1 : Int} {a2 : Int} {A : rz_A} {r : Int} {A' : rz_A} (h : x160_heightAt F a0 a1 a2 A = some (r, A')) : Fr cs_x160_heightAt fs_x160_heightAt A A' := by
  have fr : Fr cs_x160_heightAt fs_x160_heightAt A A := Fr.rfl
  unfold x160_heightAt at h
  obtain ⟨r1, A1, hf1, h⟩ := rz_b_inv h
  have fr1 := fr.trans ((wx145_isPost F hf1).mono (by decide) (by decide))
  by_cases hc2 : r1 = 0
  · replace h := if_T h hc2
    obtain ⟨r3, A3, hf3, h⟩ := rz_b_inv h
    have fr3 := fr1.trans ((wx148_far F hf3).mono (by decide) (by decide))
    cases h
    exact fr3
  · replace h := if_F h hc2
    obtain ⟨r4, A4, hf4, h⟩ := rz_b_inv h
    have fr4 := fr1.trans ((wx147_times F hf4).mono (by decide) (by decide))
    by_cases hc5 : r4 = 0
    · replace h := if_T h hc5
      obtain ⟨r6, A6, hf6, h⟩ := rz_b_inv h
      have fr6 := fr4.trans ((wx161_has F hf6).mono (by decide) (by decide))
      by_cases hc7 : r6 = 0
      · replace h := if_T h hc7
        obtain ⟨r8, A8, hf8, h⟩ := rz_b_inv h
        have fr8 := fr6.trans ((wx148_far F hf8).mono (by decide) (by decide))
        cases h
        exact fr8
      · replace h := if_F h hc7
        cases h
        exact fr6
    · replace h := if_F h hc5
      obtain ⟨r9, A9, hf9, h⟩ := rz_b_inv h
      have fr9 := fr4.trans ((wx148_far F hf9).mono (by decide) (by decide))
      cases h
      exact fr9
def cs_x163_measure : List Nat := [110, 111, 112, 113, 114, 115, 132]
def fs_x163_measure : List (Nat × Nat) := [(91, 4), (91, 11)]
theorem wx163_measure (F : Nat) {a0 : Int} {a1 : Int} {a2 : Int} {a3 : Int} {A : rz_A} {r : Int} {A' : rz_A} (h : x163_measure F a0 a1 a2 a3 A = some (r, A')) : Fr cs_x163_measure fs_x163_measure A A' := by
  have fr : Fr cs_x163_measure fs_x163_measure A A := Fr.rfl
  unfold x163_measure at h
  obtain ⟨r1, A1, hf1, h⟩ := rz_b_inv h
  have fr1 := fr.trans ((wx145_isPost F hf1).mono (by decide) (by decide))
  by_cases hc2 : r1 = 0
  · replace h := if_T h hc2
    obtain ⟨r3, A3, hf3, h⟩ := rz_b_inv h
    have fr3 := fr1.trans ((wx142_no F hf3).mono (by decide) (by decide))
    cases h
    exact fr3
  · replace h := if_F h hc2
    by_cases hc4 : 0 ≤ a1
    · replace h := if_T h hc4
      by_cases hc5 : 0 ≤ a2
      · replace h := if_T h hc5
        by_cases hc6 : a3 < 0
        · replace h := if_T h hc6
          obtain ⟨r7, A7, hf7, h⟩ := rz_b_inv h
          have fr7 := fr1.trans ((wx142_no F hf7).mono (by decide) (by decide))
          cases h
          exact fr7
        · replace h := if_F h hc6
          by_cases hc8 : a1 ≤ (A1.1 91 0)
          · replace h := if_T h hc8
            by_cases hc9 : a2 ≤ 99999
            · replace h := if_T h hc9
              by_cases hc10 : a3 ≤ 99
              · replace h := if_T h hc10
                by_cases hc11 : (A1.1 91 4) = 60
                · replace h := if_T h hc11
                  obtain ⟨r12, A12, hf12, h⟩ := rz_b_inv h
                  have fr12 := fr1.trans ((wx142_no F hf12).mono (by decide) (by decide))
                  cases h
                  exact fr12
                · replace h := if_F h hc11
                  replace h := (rz_gx_inv h).2.2
                  replace h := (rz_g32_inv h).2
                  replace h := (rz_g32_inv h).2
                  cases h
                  exact (Fr.aI (Fr.aI (Fr.aI (Fr.aI (Fr.aI (Fr.aI (Fr.aI (Fr.aI fr1 (Or.inl (by decide))) (Or.inl (by decide))) (Or.inl (by decide))) (Or.inl (by decide))) (Or.inl (by decide))) (Or.inl (by decide))) (Or.inr (by decide))) (Or.inr (by decide)))
              · replace h := if_F h hc10
                obtain ⟨r25, A25, hf25, h⟩ := rz_b_inv h
                have fr25 := fr1.trans ((wx142_no F hf25).mono (by decide) (by decide))
                cases h
                exact fr25
            · replace h := if_F h hc9
              obtain ⟨r26, A26, hf26, h⟩ := rz_b_inv h
              have fr26 := fr1.trans ((wx142_no F hf26).mono (by decide) (by decide))
              cases h
              exact fr26
          · replace h := if_F h hc8
            obtain ⟨r27, A27, hf27, h⟩ := rz_b_inv h
            have fr27 := fr1.trans ((wx142_no F hf27).mono (by decide) (by decide))
            cases h
            exact fr27
      · replace h := if_F h hc5
        obtain ⟨r28, A28, hf28, h⟩ := rz_b_inv h
        have fr28 := fr1.trans ((wx142_no F hf28).mono (by decide) (by decide))
        cases h
        exact fr28
    · replace h := if_F h hc4
      obtain ⟨r29, A29, hf29, h⟩ := rz_b_inv h
      have fr29 := fr1.trans ((wx142_no F hf29).mono (by decide) (by decide))
      cases h
      exact fr29
def cs_x164_drop : List Nat := [115, 132]
def fs_x164_drop : List (Nat × Nat) := [(91, 11)]
theorem wx164_drop (F : Nat) {a0 : Int} {A : rz_A} {r : Int} {A' : rz_A} (h : x164_drop F a0 A = some (r, A')) : Fr cs_x164_drop fs_x164_drop A A' := by
  have fr : Fr cs_x164_drop fs_x164_drop A A := Fr.rfl
  unfold x164_drop at h
  by_cases hc1 : 0 ≤ a0
  · replace h := if_T h hc1
    by_cases hc2 : (A.1 91 4) ≤ a0
    · replace h := if_T h hc2
      obtain ⟨r3, A3, hf3, h⟩ := rz_b_inv h
      have fr3 := fr.trans ((wx142_no F hf3).mono (by decide) (by decide))
      cases h
      exact fr3
    · replace h := if_F h hc2
      replace h := (rz_gx_inv h).2.2
      by_cases hc6 : 0 ≤ (A.1 115 (a0).toNat)
      · replace h := if_T h hc6
        obtain ⟨r7, A7, hf7, h⟩ := rz_b_inv h
        have fr7 := fr.trans ((wx142_no F hf7).mono (by decide) (by decide))
        cases h
        exact fr7
      · replace h := if_F h hc6
        replace h := (rz_g32_inv h).2
        cases h
        exact (Fr.aI (Fr.aI fr (Or.inl (by decide))) (Or.inr (by decide)))
  · replace h := if_F h hc1
    obtain ⟨r11, A11, hf11, h⟩ := rz_b_inv h
    have fr11 := fr.trans ((wx142_no F hf11).mono (by decide) (by decide))
    cases h
    exact fr11
def cs_x166_isIn : List Nat := [133, 136]
def fs_x166_isIn : List (Nat × Nat) := [(91, 54)]
theorem wx166_isIn_29 (F : Nat) : ∀ (v1 : Int) (v2 : Int) (A : rz_A) (r : Int) (A' : rz_A), x166_isIn_29 F v1 v2 A = some (r, A') → Fr cs_x166_isIn fs_x166_isIn A A' := by
  intro v1 v2 A r A' h
  have fr : Fr cs_x166_isIn fs_x166_isIn A A := Fr.rfl
  unfold x166_isIn_29 at h
  replace h := (rz_gx_inv h).2.2
  obtain ⟨r3, A3, hf3, h⟩ := rz_b_inv h
  have fr3 := fr.trans ((wx161_has F hf3).mono (by decide) (by decide))
  by_cases hc4 : r3 = 0
  · replace h := if_T h hc4
    cases h
    exact fr3
  · replace h := if_F h hc4
    cases h
    exact fr3
theorem wx166_isIn (F : Nat) {a0 : Int} {a1 : Int} {A : rz_A} {r : Int} {A' : rz_A} (h : x166_isIn F a0 a1 A = some (r, A')) : Fr cs_x166_isIn fs_x166_isIn A A' := by
  have fr : Fr cs_x166_isIn fs_x166_isIn A A := Fr.rfl
  unfold x166_isIn at h
  replace h := (rz_gx_inv h).2.2
  by_cases hc3 : (A.1 114 (a0).toNat) ≤ a1
  · replace h := if_T h hc3
    by_cases hc4 : 0 ≤ (A.1 115 (a0).toNat)
    · replace h := if_T h hc4
      by_cases hc5 : a1 < (A.1 115 (a0).toNat)
      · replace h := if_T h hc5
        exact fr.trans (wx166_isIn_29 F _ _ _ _ _ h)
      · replace h := if_F h hc5
        cases h
        exact fr
    · replace h := if_F h hc4
      exact fr.trans (wx166_isIn_29 F _ _ _ _ _ h)
  · replace h := if_F h hc3
    cases h
    exact fr
def cs_x165_counts : List Nat := [132, 133, 136]
def fs_x165_counts : List (Nat × Nat) := [(91, 54)]
theorem wx165_counts (F : Nat) {a0 : Int} {a1 : Int} {A : rz_A} {r : Int} {A' : rz_A} (h : x165_counts F a0 a1 A = some (r, A')) : Fr cs_x165_counts fs_x165_counts A A' := by
  have fr : Fr cs_x165_counts fs_x165_counts A A := Fr.rfl
  unfold x165_counts at h
  by_cases hc1 : 0 ≤ a0
  · replace h := if_T h hc1
    by_cases hc2 : (A.1 91 4) ≤ a0
    · replace h := if_T h hc2
      obtain ⟨r3, A3, hf3, h⟩ := rz_b_inv h
      have fr3 := fr.trans ((wx142_no F hf3).mono (by decide) (by decide))
      cases h
      exact fr3
    · replace h := if_F h hc2
      obtain ⟨r4, A4, hf4, h⟩ := rz_b_inv h
      have fr4 := fr.trans ((wx147_times F hf4).mono (by decide) (by decide))
      by_cases hc5 : r4 = 0
      · replace h := if_T h hc5
        obtain ⟨r6, A6, hf6, h⟩ := rz_b_inv h
        have fr6 := fr4.trans ((wx166_isIn F hf6).mono (by decide) (by decide))
        by_cases hc7 : r6 = 0
        · replace h := if_T h hc7
          cases h
          exact fr6
        · replace h := if_F h hc7
          cases h
          exact fr6
      · replace h := if_F h hc5
        obtain ⟨r8, A8, hf8, h⟩ := rz_b_inv h
        have fr8 := fr4.trans ((wx142_no F hf8).mono (by decide) (by decide))
        cases h
        exact fr8
  · replace h := if_F h hc1
    obtain ⟨r9, A9, hf9, h⟩ := rz_b_inv h
    have fr9 := fr.trans ((wx142_no F hf9).mono (by decide) (by decide))
    cases h
    exact fr9
def cs_x167_feed : List Nat := [130, 132]
def fs_x167_feed : List (Nat × Nat) := [(91, 8)]
theorem wx167_feed_39 (F : Nat) : ∀ (n : Nat) (v1 : Int) (v2 : Int) (v4 : Int) (A : rz_A) (r : Int) (A' : rz_A), x167_feed_39 F n v1 v2 v4 A = some (r, A') → Fr cs_x167_feed fs_x167_feed A A' := by
  intro n
  induction n with
  | zero => intro v1 v2 v4 A r A' h; cases h
  | succ n ih =>
    intro v1 v2 v4 A r A' h
    have fr : Fr cs_x167_feed fs_x167_feed A A := Fr.rfl
    rw [x167_feed_39] at h
    by_cases hc1 : v4 < v1
    · replace h := if_T h hc1
      replace h := (rz_g32_inv h).2
      replace h := (rz_g32_inv h).2
      replace h := (rz_g32_inv h).2
      replace h := (rz_gx_inv h).2.2
      replace h := (rz_g32_inv h).2
      exact (Fr.aI (Fr.aI fr (Or.inr (by decide))) (Or.inl (by decide))).trans (ih _ _ _ _ _ _ h)
    · replace h := if_F h hc1
      cases h
      exact fr
theorem wx167_feed (F : Nat) {a0 : Int} {a1 : Int} {A : rz_A} {r : Int} {A' : rz_A} (h : x167_feed F a0 a1 A = some (r, A')) : Fr cs_x167_feed fs_x167_feed A A' := by
  have fr : Fr cs_x167_feed fs_x167_feed A A := Fr.rfl
  unfold x167_feed at h
  by_cases hc1 : a0 < 1
  · replace h := if_T h hc1
    obtain ⟨r2, A2, hf2, h⟩ := rz_b_inv h
    have fr2 := fr.trans ((wx142_no F hf2).mono (by decide) (by decide))
    cases h
    exact fr2
  · replace h := if_F h hc1
    by_cases hc3 : a0 ≤ 8
    · replace h := if_T h hc3
      replace h := (rz_g32_inv h).2
      by_cases hc5 : 60 < ((A.1 91 8) + a0)
      · replace h := if_T h hc5
        obtain ⟨r6, A6, hf6, h⟩ := rz_b_inv h
        have fr6 := fr.trans ((wx142_no F hf6).mono (by decide) (by decide))
        cases h
        exact fr6
      · replace h := if_F h hc5
        exact fr.trans (wx167_feed_39 F F _ _ _ _ _ _ h)
    · replace h := if_F h hc3
      obtain ⟨r7, A7, hf7, h⟩ := rz_b_inv h
      have fr7 := fr.trans ((wx142_no F hf7).mono (by decide) (by decide))
      cases h
      exact fr7
def cs_x176_pops : List Nat := [135]
def fs_x176_pops : List (Nat × Nat) := [(91, 58), (91, 59)]
theorem wx176_pops_0 (F : Nat) : ∀ (n : Nat) (v1 : Int) (A : rz_A) (r : Unit) (A' : rz_A), x176_pops_0 F n v1 A = some (r, A') → Fr cs_x176_pops fs_x176_pops A A' := by
  intro n
  induction n with
  | zero => intro v1 A r A' h; cases h
  | succ n ih =>
    intro v1 A r A' h
    have fr : Fr cs_x176_pops fs_x176_pops A A := Fr.rfl
    rw [x176_pops_0] at h
    by_cases hc1 : 0 < (A.1 91 59)
    · replace h := if_T h hc1
      replace h := (rz_g32_inv h).2
      replace h := (rz_gx_inv h).2.2
      by_cases hc5 : (A.1 134 (((A.1 91 59) - 1)).toNat) = (-41)
      · replace h := if_T h hc5
        replace h := (rz_g32_inv h).2
        replace h := (rz_gx_inv h).2.2
        exact (Fr.aI (Fr.aI (Fr.aI fr (Or.inr (by decide))) (Or.inr (by decide))) (Or.inl (by decide))).trans (ih _ _ _ _ h)
      · replace h := if_F h hc5
        by_cases hc12 : (A.1 134 (((A.1 91 59) - 1)).toNat) = (-40)
        · replace h := if_T h hc12
          by_cases hc13 : v1 = 0
          · replace h := if_T h hc13
            replace h := (rz_g32_inv h).2
            replace h := (rz_gx_inv h).2.2
            exact (Fr.aI (Fr.aI (Fr.aI fr (Or.inr (by decide))) (Or.inr (by decide))) (Or.inl (by decide))).trans (ih _ _ _ _ h)
          · replace h := if_F h hc13
            cases h
            exact fr
        · replace h := if_F h hc12
          cases h
          exact fr
    · replace h := if_F h hc1
      cases h
      exact fr
theorem wx176_pops (F : Nat) {a0 : Int} {A : rz_A} {r : Unit} {A' : rz_A} (h : x176_pops F a0 A = some (r, A')) : Fr cs_x176_pops fs_x176_pops A A' := by
  have fr : Fr cs_x176_pops fs_x176_pops A A := Fr.rfl
  unfold x176_pops at h
  exact fr.trans (wx176_pops_0 F F _ _ _ _ h)
def cs_x175_denies : List Nat := [135]
def fs_x175_denies : List (Nat × Nat) := [(91, 58), (91, 59), (91, 60)]
theorem wx175_denies_0 (F : Nat) : ∀ (n : Nat) (A : rz_A) (r : Unit) (A' : rz_A), x175_denies_0 F n A = some (r, A') → Fr cs_x175_denies fs_x175_denies A A' := by
  intro n
  induction n with
  | zero => intro A r A' h; cases h
  | succ n ih =>
    intro A r A' h
    have fr : Fr cs_x175_denies fs_x175_denies A A := Fr.rfl
    rw [x175_denies_0] at h
    by_cases hc1 : 0 < (A.1 91 59)
    · replace h := if_T h hc1
      replace h := (rz_g32_inv h).2
      replace h := (rz_gx_inv h).2.2
      by_cases hc5 : (A.1 134 (((A.1 91 59) - 1)).toNat) = (-42)
      · replace h := if_T h hc5
        replace h := (rz_g32_inv h).2
        replace h := (rz_gx_inv h).2.2
        replace h := (rz_g32_inv h).2
        exact (Fr.aI (Fr.aI (Fr.aI (Fr.aI fr (Or.inr (by decide))) (Or.inr (by decide))) (Or.inl (by decide))) (Or.inr (by decide))).trans (ih _ _ _ h)
      · replace h := if_F h hc5
        cases h
        exact fr
    · replace h := if_F h hc1
      cases h
      exact fr
theorem wx175_denies (F : Nat) {A : rz_A} {r : Unit} {A' : rz_A} (h : x175_denies F A = some (r, A')) : Fr cs_x175_denies fs_x175_denies A A' := by
  have fr : Fr cs_x175_denies fs_x175_denies A A := Fr.rfl
  unfold x175_denies at h
  exact fr.trans (wx175_denies_0 F F _ _ _ h)
def cs_x170_sign : List Nat := []
def fs_x170_sign : List (Nat × Nat) := []
theorem wx170_sign (F : Nat) {A : rz_A} {r : Int} {A' : rz_A} (h : x170_sign F A = some (r, A')) : Fr cs_x170_sign fs_x170_sign A A' := by
  have fr : Fr cs_x170_sign fs_x170_sign A A := Fr.rfl
  unfold x170_sign at h
  by_cases hc1 : (A.1 91 57) < (A.1 91 8)
  · replace h := if_T h hc1
    replace h := (rz_gx_inv h).2.2
    cases h
    exact fr
  · replace h := if_F h hc1
    cases h
    exact fr
def cs_x174_isLetter : List Nat := []
def fs_x174_isLetter : List (Nat × Nat) := []
theorem wx174_isLetter (F : Nat) {a0 : Int} {A : rz_A} {r : Int} {A' : rz_A} (h : x174_isLetter F a0 A = some (r, A')) : Fr cs_x174_isLetter fs_x174_isLetter A A' := by
  have fr : Fr cs_x174_isLetter fs_x174_isLetter A A := Fr.rfl
  unfold x174_isLetter at h
  by_cases hs1 : a0 = 97 ∨ a0 = 98 ∨ a0 = 100 ∨ a0 = 102 ∨ a0 = 103 ∨ a0 = 104 ∨ a0 = 105 ∨ a0 = 107 ∨ a0 = 109 ∨ a0 = 110 ∨ a0 = 114 ∨ a0 = 119 ∨ a0 = 120
  · replace h := if_T h hs1
    cases h
    exact fr
  · replace h := if_F h hs1
    cases h
    exact fr
def cs_x173_isUnit : List Nat := [135]
def fs_x173_isUnit : List (Nat × Nat) := [(91, 57), (91, 58)]
theorem wx173_isUnit_102 (F : Nat) : ∀ (v2 : Int) (v3 : Int) (A : rz_A) (r : Int) (A' : rz_A), x173_isUnit_102 F v2 v3 A = some (r, A') → Fr cs_x173_isUnit fs_x173_isUnit A A' := by
  intro v2 v3 A r A' h
  have fr : Fr cs_x173_isUnit fs_x173_isUnit A A := Fr.rfl
  unfold x173_isUnit_102 at h
  by_cases hc1 : v3 = 0
  · replace h := if_T h hc1
    cases h
    exact fr
  · replace h := if_F h hc1
    replace h := (rz_g32_inv h).2
    replace h := (rz_gx_inv h).2.2
    cases h
    exact (Fr.aI (Fr.aI fr (Or.inr (by decide))) (Or.inl (by decide)))
theorem wx173_isUnit_50 (F : Nat) : ∀ (n : Nat) (v2 : Int) (v3 : Int) (A : rz_A) (r : Int) (A' : rz_A), x173_isUnit_50 F n v2 v3 A = some (r, A') → Fr cs_x173_isUnit fs_x173_isUnit A A' := by
  intro n
  induction n with
  | zero => intro v2 v3 A r A' h; cases h
  | succ n ih =>
    intro v2 v3 A r A' h
    have fr : Fr cs_x173_isUnit fs_x173_isUnit A A := Fr.rfl
    rw [x173_isUnit_50] at h
    by_cases hc1 : v3 < 5
    · replace h := if_T h hc1
      obtain ⟨r2, A2, hf2, h⟩ := rz_b_inv h
      have fr2 := fr.trans ((wx170_sign F hf2).mono (by decide) (by decide))
      by_cases hc3 : 48 ≤ r2
      · replace h := if_T h hc3
        obtain ⟨r4, A4, hf4, h⟩ := rz_b_inv h
        have fr4 := fr2.trans ((wx170_sign F hf4).mono (by decide) (by decide))
        by_cases hc5 : r4 ≤ 57
        · replace h := if_T h hc5
          replace h := (rz_g32_inv h).2
          obtain ⟨r7, A7, hf7, h⟩ := rz_b_inv h
          have fr7 := fr4.trans ((wx170_sign F hf7).mono (by decide) (by decide))
          replace h := (rz_g32_inv h).2
          replace h := (rz_g32_inv h).2
          replace h := (rz_g32_inv h).2
          replace h := (rz_g32_inv h).2
          exact (Fr.aI fr7 (Or.inr (by decide))).trans (ih _ _ _ _ _ h)
        · replace h := if_F h hc5
          exact fr4.trans (wx173_isUnit_102 F _ _ _ _ _ h)
      · replace h := if_F h hc3
        exact fr2.trans (wx173_isUnit_102 F _ _ _ _ _ h)
    · replace h := if_F h hc1
      exact fr.trans (wx173_isUnit_102 F _ _ _ _ _ h)
theorem wx173_isUnit (F : Nat) {A : rz_A} {r : Int} {A' : rz_A} (h : x173_isUnit F A = some (r, A')) : Fr cs_x173_isUnit fs_x173_isUnit A A' := by
  have fr : Fr cs_x173_isUnit fs_x173_isUnit A A := Fr.rfl
  unfold x173_isUnit at h
  obtain ⟨r1, A1, hf1, h⟩ := rz_b_inv h
  have fr1 := fr.trans ((wx170_sign F hf1).mono (by decide) (by decide))
  obtain ⟨r2, A2, hf2, h⟩ := rz_b_inv h
  have fr2 := fr1.trans ((wx174_isLetter F hf2).mono (by decide) (by decide))
  by_cases hc3 : r2 = 0
  · replace h := if_T h hc3
    exact fr2.trans (wx173_isUnit_50 F F _ _ _ _ _ h)
  · replace h := if_F h hc3
    replace h := (rz_g32_inv h).2
    replace h := (rz_g32_inv h).2
    replace h := (rz_g32_inv h).2
    replace h := (rz_gx_inv h).2.2
    replace h := (rz_g32_inv h).2
    cases h
    exact (Fr.aI (Fr.aI (Fr.aI fr2 (Or.inr (by decide))) (Or.inl (by decide))) (Or.inr (by decide)))
def cs_x172_isSum : List Nat := [135]
def fs_x172_isSum : List (Nat × Nat) := [(91, 57), (91, 58)]
theorem wx172_isSum_36 (F : Nat) {k9 : (rz_A → Option (Int × rz_A))} (hkk9 : ∀ (A : rz_A) (r : Int) (A' : rz_A), k9 A = some (r, A') → Fr cs_x172_isSum fs_x172_isSum A A') : ∀ (A : rz_A) (r : Int) (A' : rz_A), x172_isSum_36 F k9 A = some (r, A') → Fr cs_x172_isSum fs_x172_isSum A A' := by
  intro A r A' h
  have fr : Fr cs_x172_isSum fs_x172_isSum A A := Fr.rfl
  unfold x172_isSum_36 at h
  obtain ⟨r1, A1, hf1, h⟩ := rz_b_inv h
  have fr1 := fr.trans ((wx170_sign F hf1).mono (by decide) (by decide))
  by_cases hc2 : r1 = 43
  · replace h := if_T h hc2
    replace h := (rz_g32_inv h).2
    obtain ⟨r5, A5, hf5, h⟩ := rz_b_inv h
    have fr5 := (Fr.aI fr1 (Or.inr (by decide))).trans ((wx173_isUnit F hf5).mono (by decide) (by decide))
    by_cases hc6 : r5 = 0
    · replace h := if_T h hc6
      cases h
      exact fr5
    · replace h := if_F h hc6
      replace h := (rz_g32_inv h).2
      replace h := (rz_gx_inv h).2.2
      exact (Fr.aI (Fr.aI fr5 (Or.inr (by decide))) (Or.inl (by decide))).trans (hkk9 _ _ _ h)
  · replace h := if_F h hc2
    obtain ⟨r12, A12, hf12, h⟩ := rz_b_inv h
    have fr12 := fr1.trans ((wx170_sign F hf12).mono (by decide) (by decide))
    by_cases hc13 : r12 = 45
    · replace h := if_T h hc13
      replace h := (rz_g32_inv h).2
      obtain ⟨r16, A16, hf16, h⟩ := rz_b_inv h
      have fr16 := (Fr.aI fr12 (Or.inr (by decide))).trans ((wx173_isUnit F hf16).mono (by decide) (by decide))
      by_cases hc17 : r16 = 0
      · replace h := if_T h hc17
        cases h
        exact fr16
      · replace h := if_F h hc17
        replace h := (rz_g32_inv h).2
        replace h := (rz_gx_inv h).2.2
        exact (Fr.aI (Fr.aI fr16 (Or.inr (by decide))) (Or.inl (by decide))).trans (hkk9 _ _ _ h)
    · replace h := if_F h hc13
      replace h := (rz_g32_inv h).2
      obtain ⟨r25, A25, hf25, h⟩ := rz_b_inv h
      have fr25 := (Fr.aI fr12 (Or.inr (by decide))).trans ((wx173_isUnit F hf25).mono (by decide) (by decide))
      by_cases hc26 : r25 = 0
      · replace h := if_T h hc26
        cases h
        exact fr25
      · replace h := if_F h hc26
        replace h := (rz_g32_inv h).2
        replace h := (rz_gx_inv h).2.2
        exact (Fr.aI (Fr.aI fr25 (Or.inr (by decide))) (Or.inl (by decide))).trans (hkk9 _ _ _ h)
theorem wx172_isSum_9 (F : Nat) : ∀ (n : Nat) (A : rz_A) (r : Int) (A' : rz_A), x172_isSum_9 F n A = some (r, A') → Fr cs_x172_isSum fs_x172_isSum A A' := by
  intro n
  induction n with
  | zero => intro A r A' h; cases h
  | succ n ih =>
    intro A r A' h
    have fr : Fr cs_x172_isSum fs_x172_isSum A A := Fr.rfl
    rw [x172_isSum_9] at h
    obtain ⟨r1, A1, hf1, h⟩ := rz_b_inv h
    have fr1 := fr.trans ((wx170_sign F hf1).mono (by decide) (by decide))
    by_cases hc2 : r1 = 43
    · replace h := if_T h hc2
      exact fr1.trans (wx172_isSum_36 F ih _ _ _ h)
    · replace h := if_F h hc2
      obtain ⟨r3, A3, hf3, h⟩ := rz_b_inv h
      have fr3 := fr1.trans ((wx170_sign F hf3).mono (by decide) (by decide))
      by_cases hc4 : r3 = 45
      · replace h := if_T h hc4
        exact fr3.trans (wx172_isSum_36 F ih _ _ _ h)
      · replace h := if_F h hc4
        obtain ⟨r5, A5, hf5, h⟩ := rz_b_inv h
        have fr5 := fr3.trans ((wx170_sign F hf5).mono (by decide) (by decide))
        by_cases hc6 : r5 = 42
        · replace h := if_T h hc6
          exact fr5.trans (wx172_isSum_36 F ih _ _ _ h)
        · replace h := if_F h hc6
          cases h
          exact fr5
theorem wx172_isSum (F : Nat) {A : rz_A} {r : Int} {A' : rz_A} (h : x172_isSum F A = some (r, A')) : Fr cs_x172_isSum fs_x172_isSum A A' := by
  have fr : Fr cs_x172_isSum fs_x172_isSum A A := Fr.rfl
  unfold x172_isSum at h
  obtain ⟨r1, A1, hf1, h⟩ := rz_b_inv h
  have fr1 := fr.trans ((wx173_isUnit F hf1).mono (by decide) (by decide))
  by_cases hc2 : r1 = 0
  · replace h := if_T h hc2
    cases h
    exact fr1
  · replace h := if_F h hc2
    exact fr1.trans (wx172_isSum_9 F F _ _ _ h)
def cs_x171_isTest : List Nat := [135]
def fs_x171_isTest : List (Nat × Nat) := [(91, 57), (91, 58)]
theorem wx171_isTest (F : Nat) {A : rz_A} {r : Int} {A' : rz_A} (h : x171_isTest F A = some (r, A')) : Fr cs_x171_isTest fs_x171_isTest A A' := by
  have fr : Fr cs_x171_isTest fs_x171_isTest A A := Fr.rfl
  unfold x171_isTest at h
  obtain ⟨r1, A1, hf1, h⟩ := rz_b_inv h
  have fr1 := fr.trans ((wx172_isSum F hf1).mono (by decide) (by decide))
  by_cases hc2 : r1 = 0
  · replace h := if_T h hc2
    cases h
    exact fr1
  · replace h := if_F h hc2
    obtain ⟨r3, A3, hf3, h⟩ := rz_b_inv h
    have fr3 := fr1.trans ((wx170_sign F hf3).mono (by decide) (by decide))
    by_cases hc4 : r3 = 60
    · replace h := if_T h hc4
      replace h := (rz_g32_inv h).2
      obtain ⟨r7, A7, hf7, h⟩ := rz_b_inv h
      have fr7 := (Fr.aI fr3 (Or.inr (by decide))).trans ((wx172_isSum F hf7).mono (by decide) (by decide))
      by_cases hc8 : r7 = 0
      · replace h := if_T h hc8
        cases h
        exact fr7
      · replace h := if_F h hc8
        replace h := (rz_g32_inv h).2
        replace h := (rz_gx_inv h).2.2
        cases h
        exact (Fr.aI (Fr.aI fr7 (Or.inr (by decide))) (Or.inl (by decide)))
    · replace h := if_F h hc4
      obtain ⟨r14, A14, hf14, h⟩ := rz_b_inv h
      have fr14 := fr3.trans ((wx170_sign F hf14).mono (by decide) (by decide))
      by_cases hc15 : r14 = 61
      · replace h := if_T h hc15
        replace h := (rz_g32_inv h).2
        obtain ⟨r18, A18, hf18, h⟩ := rz_b_inv h
        have fr18 := (Fr.aI fr14 (Or.inr (by decide))).trans ((wx172_isSum F hf18).mono (by decide) (by decide))
        by_cases hc19 : r18 = 0
        · replace h := if_T h hc19
          cases h
          exact fr18
        · replace h := if_F h hc19
          replace h := (rz_g32_inv h).2
          replace h := (rz_gx_inv h).2.2
          cases h
          exact (Fr.aI (Fr.aI fr18 (Or.inr (by decide))) (Or.inl (by decide)))
      · replace h := if_F h hc15
        obtain ⟨r25, A25, hf25, h⟩ := rz_b_inv h
        have fr25 := fr14.trans ((wx170_sign F hf25).mono (by decide) (by decide))
        by_cases hc26 : r25 = 62
        · replace h := if_T h hc26
          replace h := (rz_g32_inv h).2
          obtain ⟨r29, A29, hf29, h⟩ := rz_b_inv h
          have fr29 := (Fr.aI fr25 (Or.inr (by decide))).trans ((wx172_isSum F hf29).mono (by decide) (by decide))
          by_cases hc30 : r29 = 0
          · replace h := if_T h hc30
            cases h
            exact fr29
          · replace h := if_F h hc30
            replace h := (rz_g32_inv h).2
            replace h := (rz_gx_inv h).2.2
            cases h
            exact (Fr.aI (Fr.aI fr29 (Or.inr (by decide))) (Or.inl (by decide)))
        · replace h := if_F h hc26
          cases h
          exact fr25
def cs_x169_isText : List Nat := [134, 135]
def fs_x169_isText : List (Nat × Nat) := [(91, 57), (91, 58), (91, 59), (91, 60)]
theorem wx169_isText_165 (F : Nat) {k24 : (Int → Int → rz_A → Option (Int × rz_A))} (hkk24 : ∀ (v1 : Int) (v2 : Int) (A : rz_A) (r : Int) (A' : rz_A), k24 v1 v2 A = some (r, A') → Fr cs_x169_isText fs_x169_isText A A') : ∀ (v1 : Int) (v3 : Int) (A : rz_A) (r : Int) (A' : rz_A), x169_isText_165 F k24 v1 v3 A = some (r, A') → Fr cs_x169_isText fs_x169_isText A A' := by
  intro v1 v3 A r A' h
  have fr : Fr cs_x169_isText fs_x169_isText A A := Fr.rfl
  unfold x169_isText_165 at h
  by_cases hc1 : v3 = 38
  · replace h := if_T h hc1
    obtain ⟨_, A2, hf2, h⟩ := rz_b_inv h
    have fr2 := fr.trans ((wx176_pops F hf2).mono (by decide) (by decide))
    replace h := (rz_g32_inv h).2
    replace h := (rz_gx_inv h).2.2
    replace h := (rz_g32_inv h).2
    exact (Fr.aI (Fr.aI (Fr.aI fr2 (Or.inr (by decide))) (Or.inl (by decide))) (Or.inr (by decide))).trans (hkk24 _ _ _ _ _ h)
  · replace h := if_F h hc1
    obtain ⟨_, A10, hf10, h⟩ := rz_b_inv h
    have fr10 := fr.trans ((wx176_pops F hf10).mono (by decide) (by decide))
    replace h := (rz_g32_inv h).2
    replace h := (rz_gx_inv h).2.2
    replace h := (rz_g32_inv h).2
    exact (Fr.aI (Fr.aI (Fr.aI fr10 (Or.inr (by decide))) (Or.inl (by decide))) (Or.inr (by decide))).trans (hkk24 _ _ _ _ _ h)
theorem wx169_isText_153 (F : Nat) {k24 : (Int → Int → rz_A → Option (Int × rz_A))} (hkk24 : ∀ (v1 : Int) (v2 : Int) (A : rz_A) (r : Int) (A' : rz_A), k24 v1 v2 A = some (r, A') → Fr cs_x169_isText fs_x169_isText A A') : ∀ (v1 : Int) (v2 : Int) (v3 : Int) (A : rz_A) (r : Int) (A' : rz_A), x169_isText_153 F k24 v1 v2 v3 A = some (r, A') → Fr cs_x169_isText fs_x169_isText A A' := by
  intro v1 v2 v3 A r A' h
  have fr : Fr cs_x169_isText fs_x169_isText A A := Fr.rfl
  unfold x169_isText_153 at h
  by_cases hc1 : v3 = 38
  · replace h := if_T h hc1
    exact fr.trans (wx169_isText_165 F hkk24 _ _ _ _ _ h)
  · replace h := if_F h hc1
    by_cases hc2 : v3 = 124
    · replace h := if_T h hc2
      exact fr.trans (wx169_isText_165 F hkk24 _ _ _ _ _ h)
    · replace h := if_F h hc2
      by_cases hc3 : v3 = 41
      · replace h := if_T h hc3
        by_cases hc4 : 0 < v1
        · replace h := if_T h hc4
          obtain ⟨_, A5, hf5, h⟩ := rz_b_inv h
          have fr5 := fr.trans ((wx176_pops F hf5).mono (by decide) (by decide))
          replace h := (rz_g32_inv h).2
          replace h := (rz_g32_inv h).2
          replace h := (rz_g32_inv h).2
          obtain ⟨_, A11, hf11, h⟩ := rz_b_inv h
          have fr11 := (Fr.aI (Fr.aI fr5 (Or.inr (by decide))) (Or.inr (by decide))).trans ((wx175_denies F hf11).mono (by decide) (by decide))
          replace h := (rz_g32_inv h).2
          exact (Fr.aI fr11 (Or.inr (by decide))).trans (hkk24 _ _ _ _ _ h)
        · replace h := if_F h hc4
          cases h
          exact fr
      · replace h := if_F h hc3
        cases h
        exact fr
theorem wx169_isText_116 (F : Nat) {k24 : (Int → Int → rz_A → Option (Int × rz_A))} (hkk24 : ∀ (v1 : Int) (v2 : Int) (A : rz_A) (r : Int) (A' : rz_A), k24 v1 v2 A = some (r, A') → Fr cs_x169_isText fs_x169_isText A A') : ∀ (v1 : Int) (v2 : Int) (v3 : Int) (A : rz_A) (r : Int) (A' : rz_A), x169_isText_116 F k24 v1 v2 v3 A = some (r, A') → Fr cs_x169_isText fs_x169_isText A A' := by
  intro v1 v2 v3 A r A' h
  have fr : Fr cs_x169_isText fs_x169_isText A A := Fr.rfl
  unfold x169_isText_116 at h
  by_cases hc1 : v2 = 0
  · replace h := if_T h hc1
    by_cases hc2 : v3 < 0
    · replace h := if_T h hc2
      by_cases hc3 : v1 = 0
      · replace h := if_T h hc3
        obtain ⟨_, A4, hf4, h⟩ := rz_b_inv h
        have fr4 := fr.trans ((wx176_pops F hf4).mono (by decide) (by decide))
        cases h
        exact fr4
      · replace h := if_F h hc3
        exact fr.trans (wx169_isText_153 F hkk24 _ _ _ _ _ _ h)
    · replace h := if_F h hc2
      exact fr.trans (wx169_isText_153 F hkk24 _ _ _ _ _ _ h)
  · replace h := if_F h hc1
    obtain ⟨r5, A5, hf5, h⟩ := rz_b_inv h
    have fr5 := fr.trans ((wx171_isTest F hf5).mono (by decide) (by decide))
    by_cases hc6 : r5 = 0
    · replace h := if_T h hc6
      cases h
      exact fr5
    · replace h := if_F h hc6
      obtain ⟨_, A7, hf7, h⟩ := rz_b_inv h
      have fr7 := fr5.trans ((wx175_denies F hf7).mono (by decide) (by decide))
      exact fr7.trans (hkk24 _ _ _ _ _ h)
theorem wx169_isText_45 (F : Nat) {k24 : (Int → Int → rz_A → Option (Int × rz_A))} (hkk24 : ∀ (v1 : Int) (v2 : Int) (A : rz_A) (r : Int) (A' : rz_A), k24 v1 v2 A = some (r, A') → Fr cs_x169_isText fs_x169_isText A A') : ∀ (v1 : Int) (v2 : Int) (v3 : Int) (A : rz_A) (r : Int) (A' : rz_A), x169_isText_45 F k24 v1 v2 v3 A = some (r, A') → Fr cs_x169_isText fs_x169_isText A A' := by
  intro v1 v2 v3 A r A' h
  have fr : Fr cs_x169_isText fs_x169_isText A A := Fr.rfl
  unfold x169_isText_45 at h
  by_cases hc1 : (A.1 91 60) = 5
  · replace h := if_T h hc1
    cases h
    exact fr
  · replace h := if_F h hc1
    replace h := (rz_g32_inv h).2
    replace h := (rz_g32_inv h).2
    by_cases hc6 : v3 = 33
    · replace h := if_T h hc6
      replace h := (rz_gx_inv h).2.2
      by_cases hc10 : v3 = 40
      · replace h := if_T h hc10
        replace h := (rz_g32_inv h).2
        replace h := (rz_g32_inv h).2
        exact (Fr.aI (Fr.aI (Fr.aI (Fr.aI fr (Or.inr (by decide))) (Or.inr (by decide))) (Or.inl (by decide))) (Or.inr (by decide))).trans (hkk24 _ _ _ _ _ h)
      · replace h := if_F h hc10
        replace h := (rz_g32_inv h).2
        exact (Fr.aI (Fr.aI (Fr.aI (Fr.aI fr (Or.inr (by decide))) (Or.inr (by decide))) (Or.inl (by decide))) (Or.inr (by decide))).trans (hkk24 _ _ _ _ _ h)
    · replace h := if_F h hc6
      replace h := (rz_gx_inv h).2.2
      by_cases hc19 : v3 = 40
      · replace h := if_T h hc19
        replace h := (rz_g32_inv h).2
        replace h := (rz_g32_inv h).2
        exact (Fr.aI (Fr.aI (Fr.aI (Fr.aI fr (Or.inr (by decide))) (Or.inr (by decide))) (Or.inl (by decide))) (Or.inr (by decide))).trans (hkk24 _ _ _ _ _ h)
      · replace h := if_F h hc19
        replace h := (rz_g32_inv h).2
        exact (Fr.aI (Fr.aI (Fr.aI (Fr.aI fr (Or.inr (by decide))) (Or.inr (by decide))) (Or.inl (by decide))) (Or.inr (by decide))).trans (hkk24 _ _ _ _ _ h)
theorem wx169_isText_24 (F : Nat) : ∀ (n : Nat) (v1 : Int) (v2 : Int) (A : rz_A) (r : Int) (A' : rz_A), x169_isText_24 F n v1 v2 A = some (r, A') → Fr cs_x169_isText fs_x169_isText A A' := by
  intro n
  induction n with
  | zero => intro v1 v2 A r A' h; cases h
  | succ n ih =>
    intro v1 v2 A r A' h
    have fr : Fr cs_x169_isText fs_x169_isText A A := Fr.rfl
    rw [x169_isText_24] at h
    obtain ⟨r1, A1, hf1, h⟩ := rz_b_inv h
    have fr1 := fr.trans ((wx170_sign F hf1).mono (by decide) (by decide))
    by_cases hc2 : v2 = 0
    · replace h := if_T h hc2
      exact fr1.trans (wx169_isText_116 F ih _ _ _ _ _ _ h)
    · replace h := if_F h hc2
      by_cases hc3 : r1 = 33
      · replace h := if_T h hc3
        exact fr1.trans (wx169_isText_45 F ih _ _ _ _ _ _ h)
      · replace h := if_F h hc3
        by_cases hc4 : r1 = 40
        · replace h := if_T h hc4
          exact fr1.trans (wx169_isText_45 F ih _ _ _ _ _ _ h)
        · replace h := if_F h hc4
          exact fr1.trans (wx169_isText_116 F ih _ _ _ _ _ _ h)
theorem wx169_isText (F : Nat) {A : rz_A} {r : Int} {A' : rz_A} (h : x169_isText F A = some (r, A')) : Fr cs_x169_isText fs_x169_isText A A' := by
  have fr : Fr cs_x169_isText fs_x169_isText A A := Fr.rfl
  unfold x169_isText at h
  exact (Fr.aI (Fr.aI (Fr.aI (Fr.aI fr (Or.inr (by decide))) (Or.inr (by decide))) (Or.inr (by decide))) (Or.inr (by decide))).trans (wx169_isText_24 F F _ _ _ _ _ h)
def cs_x168_standard : List Nat := [122, 123, 124, 125, 126, 132, 134, 135]
def fs_x168_standard : List (Nat × Nat) := [(91, 5), (91, 8), (91, 11), (91, 57), (91, 58), (91, 59), (91, 60)]
theorem wx168_standard_166 (F : Nat) : ∀ (A : rz_A) (r : Int) (A' : rz_A), x168_standard_166 F A = some (r, A') → Fr cs_x168_standard fs_x168_standard A A' := by
  intro A r A' h
  have fr : Fr cs_x168_standard fs_x168_standard A A := Fr.rfl
  unfold x168_standard_166 at h
  replace h := (rz_g32_inv h).2
  replace h := (rz_g32_inv h).2
  cases h
  exact (Fr.aI (Fr.aI fr (Or.inr (by decide))) (Or.inr (by decide)))
theorem wx168_standard_128 (F : Nat) : ∀ (n : Nat) (v4 : Int) (A : rz_A) (r : Int) (A' : rz_A), x168_standard_128 F n v4 A = some (r, A') → Fr cs_x168_standard fs_x168_standard A A' := by
  intro n
  induction n with
  | zero => intro v4 A r A' h; cases h
  | succ n ih =>
    intro v4 A r A' h
    have fr : Fr cs_x168_standard fs_x168_standard A A := Fr.rfl
    rw [x168_standard_128] at h
    by_cases hc1 : v4 < (A.1 91 58)
    · replace h := if_T h hc1
      replace h := (rz_g32_inv h).2
      replace h := (rz_g32_inv h).2
      replace h := (rz_gx_inv h).2.2
      replace h := (rz_gx_inv h).2.2
      replace h := (rz_g32_inv h).2
      exact (Fr.aI fr (Or.inl (by decide))).trans (ih _ _ _ _ h)
    · replace h := if_F h hc1
      exact fr.trans (wx168_standard_166 F _ _ _ h)
theorem wx168_standard (F : Nat) {a0 : Int} {a1 : Int} {A : rz_A} {r : Int} {A' : rz_A} (h : x168_standard F a0 a1 A = some (r, A')) : Fr cs_x168_standard fs_x168_standard A A' := by
  have fr : Fr cs_x168_standard fs_x168_standard A A := Fr.rfl
  unfold x168_standard at h
  by_cases hc1 : 0 ≤ a0
  · replace h := if_T h hc1
    by_cases hc2 : 2 < a0
    · replace h := if_T h hc2
      obtain ⟨r3, A3, hf3, h⟩ := rz_b_inv h
      have fr3 := fr.trans ((wx142_no F hf3).mono (by decide) (by decide))
      cases h
      exact fr3
    · replace h := if_F h hc2
      replace h := (rz_g32_inv h).2
      by_cases hc5 : a1 < ((A.1 91 0).tdiv 96)
      · replace h := if_T h hc5
        obtain ⟨r6, A6, hf6, h⟩ := rz_b_inv h
        have fr6 := fr.trans ((wx142_no F hf6).mono (by decide) (by decide))
        cases h
        exact fr6
      · replace h := if_F h hc5
        by_cases hc7 : a1 ≤ 200
        · replace h := if_T h hc7
          by_cases hc8 : (A.1 91 5) = 20
          · replace h := if_T h hc8
            obtain ⟨r9, A9, hf9, h⟩ := rz_b_inv h
            have fr9 := fr.trans ((wx142_no F hf9).mono (by decide) (by decide))
            cases h
            exact fr9
          · replace h := if_F h hc8
            obtain ⟨r10, A10, hf10, h⟩ := rz_b_inv h
            have fr10 := fr.trans ((wx169_isText F hf10).mono (by decide) (by decide))
            by_cases hc12 : r10 = 0
            · replace h := if_T h hc12
              replace h := (rz_g32_inv h).2
              cases h
              exact (Fr.aI fr10 (Or.inr (by decide)))
            · replace h := if_F h hc12
              replace h := (rz_gx_inv h).2.2
              exact (Fr.aI (Fr.aI (Fr.aI (Fr.aI (Fr.aI fr10 (Or.inr (by decide))) (Or.inl (by decide))) (Or.inl (by decide))) (Or.inl (by decide))) (Or.inl (by decide))).trans (wx168_standard_128 F F _ _ _ _ h)
        · replace h := if_F h hc7
          obtain ⟨r20, A20, hf20, h⟩ := rz_b_inv h
          have fr20 := fr.trans ((wx142_no F hf20).mono (by decide) (by decide))
          cases h
          exact fr20
  · replace h := if_F h hc1
    obtain ⟨r21, A21, hf21, h⟩ := rz_b_inv h
    have fr21 := fr.trans ((wx142_no F hf21).mono (by decide) (by decide))
    cases h
    exact fr21
def cs_x177_low : List Nat := [93, 132]
def fs_x177_low : List (Nat × Nat) := [(91, 11)]
theorem wx177_low (F : Nat) {a0 : Int} {a1 : Int} {A : rz_A} {r : Int} {A' : rz_A} (h : x177_low F a0 a1 A = some (r, A')) : Fr cs_x177_low fs_x177_low A A' := by
  have fr : Fr cs_x177_low fs_x177_low A A := Fr.rfl
  unfold x177_low at h
  obtain ⟨r1, A1, hf1, h⟩ := rz_b_inv h
  have fr1 := fr.trans ((wx145_isPost F hf1).mono (by decide) (by decide))
  by_cases hc2 : r1 = 0
  · replace h := if_T h hc2
    obtain ⟨r3, A3, hf3, h⟩ := rz_b_inv h
    have fr3 := fr1.trans ((wx148_far F hf3).mono (by decide) (by decide))
    cases h
    exact fr3
  · replace h := if_F h hc2
    by_cases hc4 : a1 < (-2000)
    · replace h := if_T h hc4
      obtain ⟨r5, A5, hf5, h⟩ := rz_b_inv h
      have fr5 := fr1.trans ((wx148_far F hf5).mono (by decide) (by decide))
      cases h
      exact fr5
    · replace h := if_F h hc4
      by_cases hc6 : 9999 < a1
      · replace h := if_T h hc6
        obtain ⟨r7, A7, hf7, h⟩ := rz_b_inv h
        have fr7 := fr1.trans ((wx148_far F hf7).mono (by decide) (by decide))
        cases h
        exact fr7
      · replace h := if_F h hc6
        replace h := (rz_gx_inv h).2.2
        replace h := (rz_g32_inv h).2
        cases h
        exact (Fr.aI (Fr.aI fr1 (Or.inl (by decide))) (Or.inr (by decide)))
def cs_x178_stretch : List Nat := [95, 97, 132]
def fs_x178_stretch : List (Nat × Nat) := [(91, 11)]
theorem wx178_stretch_54 (F : Nat) : ∀ (v1 : Int) (v2 : Int) (A : rz_A) (r : Int) (A' : rz_A), x178_stretch_54 F v1 v2 A = some (r, A') → Fr cs_x178_stretch fs_x178_stretch A A' := by
  intro v1 v2 A r A' h
  have fr : Fr cs_x178_stretch fs_x178_stretch A A := Fr.rfl
  unfold x178_stretch_54 at h
  obtain ⟨r1, A1, hf1, h⟩ := rz_b_inv h
  have fr1 := fr.trans ((wx147_times F hf1).mono (by decide) (by decide))
  by_cases hc2 : r1 = 0
  · replace h := if_T h hc2
    replace h := (rz_gx_inv h).2.2
    by_cases hc5 : (A1.1 95 (v1).toNat) = 8
    · replace h := if_T h hc5
      obtain ⟨r6, A6, hf6, h⟩ := rz_b_inv h
      have fr6 := fr1.trans ((wx142_no F hf6).mono (by decide) (by decide))
      cases h
      exact fr6
    · replace h := if_F h hc5
      replace h := (rz_g32_inv h).2
      replace h := (rz_g32_inv h).2
      replace h := (rz_gx_inv h).2.2
      replace h := (rz_g32_inv h).2
      replace h := (rz_g32_inv h).2
      cases h
      exact (Fr.aI (Fr.aI (Fr.aI fr1 (Or.inl (by decide))) (Or.inr (by decide))) (Or.inl (by decide)))
  · replace h := if_F h hc2
    obtain ⟨r16, A16, hf16, h⟩ := rz_b_inv h
    have fr16 := fr1.trans ((wx142_no F hf16).mono (by decide) (by decide))
    cases h
    exact fr16
theorem wx178_stretch_16 (F : Nat) : ∀ (n : Nat) (v1 : Int) (v2 : Int) (v3 : Int) (A : rz_A) (r : Int) (A' : rz_A), x178_stretch_16 F n v1 v2 v3 A = some (r, A') → Fr cs_x178_stretch fs_x178_stretch A A' := by
  intro n
  induction n with
  | zero => intro v1 v2 v3 A r A' h; cases h
  | succ n ih =>
    intro v1 v2 v3 A r A' h
    have fr : Fr cs_x178_stretch fs_x178_stretch A A := Fr.rfl
    rw [x178_stretch_16] at h
    replace h := (rz_gx_inv h).2.2
    by_cases hc3 : v3 < (A.1 95 (v1).toNat)
    · replace h := if_T h hc3
      replace h := (rz_g32_inv h).2
      replace h := (rz_g32_inv h).2
      replace h := (rz_gx_inv h).2.2
      by_cases hc8 : (A.1 97 (((8 * v1) + v3)).toNat) = v2
      · replace h := if_T h hc8
        obtain ⟨r9, A9, hf9, h⟩ := rz_b_inv h
        have fr9 := fr.trans ((wx142_no F hf9).mono (by decide) (by decide))
        cases h
        exact fr9
      · replace h := if_F h hc8
        replace h := (rz_g32_inv h).2
        exact fr.trans (ih _ _ _ _ _ _ h)
    · replace h := if_F h hc3
      exact fr.trans (wx178_stretch_54 F _ _ _ _ _ h)
theorem wx178_stretch (F : Nat) {a0 : Int} {a1 : Int} {A : rz_A} {r : Int} {A' : rz_A} (h : x178_stretch F a0 a1 A = some (r, A')) : Fr cs_x178_stretch fs_x178_stretch A A' := by
  have fr : Fr cs_x178_stretch fs_x178_stretch A A := Fr.rfl
  unfold x178_stretch at h
  obtain ⟨r1, A1, hf1, h⟩ := rz_b_inv h
  have fr1 := fr.trans ((wx145_isPost F hf1).mono (by decide) (by decide))
  by_cases hc2 : r1 = 0
  · replace h := if_T h hc2
    obtain ⟨r3, A3, hf3, h⟩ := rz_b_inv h
    have fr3 := fr1.trans ((wx142_no F hf3).mono (by decide) (by decide))
    cases h
    exact fr3
  · replace h := if_F h hc2
    exact fr1.trans (wx178_stretch_16 F F _ _ _ _ _ _ h)
def cs_x180_known : List Nat := []
def fs_x180_known : List (Nat × Nat) := []
theorem wx180_known (F : Nat) {a0 : Int} {a1 : Int} {a2 : Int} {A : rz_A} {r : Int} {A' : rz_A} (h : x180_known F a0 a1 a2 A = some (r, A')) : Fr cs_x180_known fs_x180_known A A' := by
  have fr : Fr cs_x180_known fs_x180_known A A := Fr.rfl
  unfold x180_known at h
  obtain ⟨r1, A1, hf1, h⟩ := rz_b_inv h
  have fr1 := fr.trans ((wx145_isPost F hf1).mono (by decide) (by decide))
  by_cases hc2 : r1 = 0
  · replace h := if_T h hc2
    cases h
    exact fr1
  · replace h := if_F h hc2
    obtain ⟨r3, A3, hf3, h⟩ := rz_b_inv h
    have fr3 := fr1.trans ((wx147_times F hf3).mono (by decide) (by decide))
    cases h
    exact fr3
def cs_x182_makes : List Nat := [133, 136, 137, 138, 139, 140, 141, 142, 143]
def fs_x182_makes : List (Nat × Nat) := [(91, 54), (91, 62), (91, 63), (91, 64), (91, 65), (91, 66), (91, 67), (91, 68)]
theorem wx182_makes_540 (F : Nat) {k524 : (Int → Int → rz_A → Option (Unit × rz_A))} (hkk524 : ∀ (v5 : Int) (v6 : Int) (A : rz_A) (r : Unit) (A' : rz_A), k524 v5 v6 A = some (r, A') → Fr cs_x182_makes fs_x182_makes A A') : ∀ (n : Nat) (v5 : Int) (v6 : Int) (v7 : Int) (A : rz_A) (r : Unit) (A' : rz_A), x182_makes_540 F k524 n v5 v6 v7 A = some (r, A') → Fr cs_x182_makes fs_x182_makes A A' := by
  intro n
  induction n with
  | zero => intro v5 v6 v7 A r A' h; cases h
  | succ n ih =>
    intro v5 v6 v7 A r A' h
    have fr : Fr cs_x182_makes fs_x182_makes A A := Fr.rfl
    rw [x182_makes_540] at h
    replace h := (rz_g32_inv h).2
    by_cases hc2 : (v6 + 1) < v5
    · replace h := if_T h hc2
      replace h := (rz_gx_inv h).2.2
      by_cases hc5 : v7 < (A.1 140 ((v6 + 1)).toNat)
      · replace h := if_T h hc5
        replace h := (rz_gx_inv h).2.2
        replace h := (rz_gn_inv h).2
        replace h := (rz_g64_inv h).2
        replace h := (rz_g32_inv h).2
        replace h := (rz_gx_inv h).2.2
        replace h := (rz_g32_inv h).2
        exact (Fr.aI fr (Or.inl (by decide))).trans (ih _ _ _ _ _ _ h)
      · replace h := if_F h hc5
        exact fr.trans (hkk524 _ _ _ _ _ h)
    · replace h := if_F h hc2
      by_cases hc15 : v7 < (A.1 91 67)
      · replace h := if_T h hc15
        replace h := (rz_gx_inv h).2.2
        replace h := (rz_gn_inv h).2
        replace h := (rz_g64_inv h).2
        replace h := (rz_g32_inv h).2
        replace h := (rz_gx_inv h).2.2
        replace h := (rz_g32_inv h).2
        exact (Fr.aI fr (Or.inl (by decide))).trans (ih _ _ _ _ _ _ h)
      · replace h := if_F h hc15
        exact fr.trans (hkk524 _ _ _ _ _ h)
theorem wx182_makes_524 (F : Nat) : ∀ (n : Nat) (v5 : Int) (v6 : Int) (A : rz_A) (r : Unit) (A' : rz_A), x182_makes_524 F n v5 v6 A = some (r, A') → Fr cs_x182_makes fs_x182_makes A A' := by
  intro n
  induction n with
  | zero => intro v5 v6 A r A' h; cases h
  | succ n ih =>
    intro v5 v6 A r A' h
    have fr : Fr cs_x182_makes fs_x182_makes A A := Fr.rfl
    rw [x182_makes_524] at h
    by_cases hc1 : v6 < v5
    · replace h := if_T h hc1
      replace h := (rz_gx_inv h).2.2
      exact fr.trans (wx182_makes_540 F ih F _ _ _ _ _ _ h)
    · replace h := if_F h hc1
      cases h
      exact fr
theorem wx182_makes_417 (F : Nat) {k368 : (Int → Int → rz_A → Option (Unit × rz_A))} (hkk368 : ∀ (v5 : Int) (v6 : Int) (A : rz_A) (r : Unit) (A' : rz_A), k368 v5 v6 A = some (r, A') → Fr cs_x182_makes fs_x182_makes A A') : ∀ (n : Nat) (v5 : Int) (v6 : Int) (A : rz_A) (r : Unit) (A' : rz_A), x182_makes_417 F k368 n v5 v6 A = some (r, A') → Fr cs_x182_makes fs_x182_makes A A' := by
  intro n
  induction n with
  | zero => intro v5 v6 A r A' h; cases h
  | succ n ih =>
    intro v5 v6 A r A' h
    have fr : Fr cs_x182_makes fs_x182_makes A A := Fr.rfl
    rw [x182_makes_417] at h
    by_cases hc1 : 1 < v5
    · replace h := if_T h hc1
      replace h := (rz_g32_inv h).2
      replace h := (rz_gx_inv h).2.2
      replace h := (rz_g32_inv h).2
      replace h := (rz_gx_inv h).2.2
      replace h := (rz_g64_inv h).2
      replace h := (rz_g64_inv h).2
      by_cases hc10 : ((A.2 143 ((v5 - 1)).toNat) * (A.1 141 ((v5 - 2)).toNat)) ≤ ((A.2 143 ((v5 - 2)).toNat) * (A.1 141 ((v5 - 1)).toNat))
      · replace h := if_T h hc10
        replace h := (rz_g64_inv h).2
        replace h := (rz_g32_inv h).2
        replace h := (rz_g32_inv h).2
        exact (Fr.aI (Fr.aL fr (Or.inl (by decide))) (Or.inl (by decide))).trans (ih _ _ _ _ _ h)
      · replace h := if_F h hc10
        replace h := (rz_g32_inv h).2
        exact fr.trans (hkk368 _ _ _ _ _ h)
    · replace h := if_F h hc1
      replace h := (rz_g32_inv h).2
      exact fr.trans (hkk368 _ _ _ _ _ h)
theorem wx182_makes_368 (F : Nat) : ∀ (n : Nat) (v5 : Int) (v6 : Int) (A : rz_A) (r : Unit) (A' : rz_A), x182_makes_368 F n v5 v6 A = some (r, A') → Fr cs_x182_makes fs_x182_makes A A' := by
  intro n
  induction n with
  | zero => intro v5 v6 A r A' h; cases h
  | succ n ih =>
    intro v5 v6 A r A' h
    have fr : Fr cs_x182_makes fs_x182_makes A A := Fr.rfl
    rw [x182_makes_368] at h
    by_cases hc1 : v6 < (A.1 91 67)
    · replace h := if_T h hc1
      replace h := (rz_gx_inv h).2.2
      replace h := (rz_gx_inv h).2.2
      replace h := (rz_g32_inv h).2
      exact (Fr.aI (Fr.aI (Fr.aL fr (Or.inl (by decide))) (Or.inl (by decide))) (Or.inl (by decide))).trans (wx182_makes_417 F ih F _ _ _ _ _ h)
    · replace h := if_F h hc1
      exact fr.trans (wx182_makes_524 F F _ _ _ _ _ h)
theorem wx182_makes_290 (F : Nat) {k87 : (Int → Int → Int → Int → Int → rz_A → Option (Unit × rz_A))} (hkk87 : ∀ (v1 : Int) (v2 : Int) (v3 : Int) (v4 : Int) (v5 : Int) (A : rz_A) (r : Unit) (A' : rz_A), k87 v1 v2 v3 v4 v5 A = some (r, A') → Fr cs_x182_makes fs_x182_makes A A') : ∀ (v1 : Int) (v2 : Int) (v3 : Int) (v4 : Int) (v5 : Int) (v6 : Int) (A : rz_A) (r : Unit) (A' : rz_A), x182_makes_290 F k87 v1 v2 v3 v4 v5 v6 A = some (r, A') → Fr cs_x182_makes fs_x182_makes A A' := by
  intro v1 v2 v3 v4 v5 v6 A r A' h
  have fr : Fr cs_x182_makes fs_x182_makes A A := Fr.rfl
  unfold x182_makes_290 at h
  replace h := (rz_gx_inv h).2.2
  replace h := (rz_g32_inv h).2
  replace h := (rz_gx_inv h).2.2
  replace h := (rz_g64_inv h).2
  replace h := (rz_g32_inv h).2
  replace h := (rz_g32_inv h).2
  exact (Fr.aI (Fr.aL (Fr.aI (Fr.aI (Fr.aL (Fr.aI fr (Or.inl (by decide))) (Or.inl (by decide))) (Or.inl (by decide))) (Or.inr (by decide))) (Or.inl (by decide))) (Or.inl (by decide))).trans (hkk87 _ _ _ _ _ _ _ _ h)
theorem wx182_makes_229 (F : Nat) {k87 : (Int → Int → Int → Int → Int → rz_A → Option (Unit × rz_A))} (hkk87 : ∀ (v1 : Int) (v2 : Int) (v3 : Int) (v4 : Int) (v5 : Int) (A : rz_A) (r : Unit) (A' : rz_A), k87 v1 v2 v3 v4 v5 A = some (r, A') → Fr cs_x182_makes fs_x182_makes A A') : ∀ (n : Nat) (v1 : Int) (v2 : Int) (v3 : Int) (v4 : Int) (v5 : Int) (v6 : Int) (v7 : Int) (A : rz_A) (r : Unit) (A' : rz_A), x182_makes_229 F k87 n v1 v2 v3 v4 v5 v6 v7 A = some (r, A') → Fr cs_x182_makes fs_x182_makes A A' := by
  intro n
  induction n with
  | zero => intro v1 v2 v3 v4 v5 v6 v7 A r A' h; cases h
  | succ n ih =>
    intro v1 v2 v3 v4 v5 v6 v7 A r A' h
    have fr : Fr cs_x182_makes fs_x182_makes A A := Fr.rfl
    rw [x182_makes_229] at h
    by_cases hc1 : v6 < v7
    · replace h := if_T h hc1
      replace h := (rz_g32_inv h).2
      replace h := (rz_gx_inv h).2.2
      replace h := (rz_gx_inv h).2.2
      replace h := (rz_g32_inv h).2
      exact (Fr.aI (Fr.aL (Fr.aI fr (Or.inl (by decide))) (Or.inl (by decide))) (Or.inl (by decide))).trans (ih _ _ _ _ _ _ _ _ _ _ h)
    · replace h := if_F h hc1
      exact fr.trans (wx182_makes_290 F hkk87 _ _ _ _ _ _ _ _ _ h)
theorem wx182_makes_200 (F : Nat) {k87 : (Int → Int → Int → Int → Int → rz_A → Option (Unit × rz_A))} (hkk87 : ∀ (v1 : Int) (v2 : Int) (v3 : Int) (v4 : Int) (v5 : Int) (A : rz_A) (r : Unit) (A' : rz_A), k87 v1 v2 v3 v4 v5 A = some (r, A') → Fr cs_x182_makes fs_x182_makes A A') : ∀ (v1 : Int) (v2 : Int) (v3 : Int) (v4 : Int) (v5 : Int) (v6 : Int) (A : rz_A) (r : Unit) (A' : rz_A), x182_makes_200 F k87 v1 v2 v3 v4 v5 v6 A = some (r, A') → Fr cs_x182_makes fs_x182_makes A A' := by
  intro v1 v2 v3 v4 v5 v6 A r A' h
  have fr : Fr cs_x182_makes fs_x182_makes A A := Fr.rfl
  unfold x182_makes_200 at h
  by_cases hc1 : v6 = (A.1 91 67)
  · replace h := if_T h hc1
    exact fr.trans (wx182_makes_229 F hkk87 F _ _ _ _ _ _ _ _ _ _ h)
  · replace h := if_F h hc1
    replace h := (rz_gx_inv h).2.2
    by_cases hc4 : (A.1 137 (v6).toNat) = (A.1 91 54)
    · replace h := if_T h hc4
      replace h := (rz_gx_inv h).2.2
      replace h := (rz_g64_inv h).2
      replace h := (rz_g32_inv h).2
      replace h := (rz_g32_inv h).2
      exact (Fr.aI (Fr.aL fr (Or.inl (by decide))) (Or.inl (by decide))).trans (hkk87 _ _ _ _ _ _ _ _ h)
    · replace h := if_F h hc4
      exact fr.trans (wx182_makes_229 F hkk87 F _ _ _ _ _ _ _ _ _ _ h)
theorem wx182_makes_171 (F : Nat) {k87 : (Int → Int → Int → Int → Int → rz_A → Option (Unit × rz_A))} (hkk87 : ∀ (v1 : Int) (v2 : Int) (v3 : Int) (v4 : Int) (v5 : Int) (A : rz_A) (r : Unit) (A' : rz_A), k87 v1 v2 v3 v4 v5 A = some (r, A') → Fr cs_x182_makes fs_x182_makes A A') : ∀ (n : Nat) (v1 : Int) (v2 : Int) (v3 : Int) (v4 : Int) (v5 : Int) (v6 : Int) (A : rz_A) (r : Unit) (A' : rz_A), x182_makes_171 F k87 n v1 v2 v3 v4 v5 v6 A = some (r, A') → Fr cs_x182_makes fs_x182_makes A A' := by
  intro n
  induction n with
  | zero => intro v1 v2 v3 v4 v5 v6 A r A' h; cases h
  | succ n ih =>
    intro v1 v2 v3 v4 v5 v6 A r A' h
    have fr : Fr cs_x182_makes fs_x182_makes A A := Fr.rfl
    rw [x182_makes_171] at h
    by_cases hc1 : v6 < (A.1 91 67)
    · replace h := if_T h hc1
      replace h := (rz_gx_inv h).2.2
      by_cases hc4 : (A.1 137 (v6).toNat) < (A.1 91 54)
      · replace h := if_T h hc4
        replace h := (rz_g32_inv h).2
        exact fr.trans (ih _ _ _ _ _ _ _ _ _ h)
      · replace h := if_F h hc4
        exact fr.trans (wx182_makes_200 F hkk87 _ _ _ _ _ _ _ _ _ h)
    · replace h := if_F h hc1
      exact fr.trans (wx182_makes_200 F hkk87 _ _ _ _ _ _ _ _ _ h)
theorem wx182_makes_87 (F : Nat) : ∀ (n : Nat) (v1 : Int) (v2 : Int) (v3 : Int) (v4 : Int) (v5 : Int) (A : rz_A) (r : Unit) (A' : rz_A), x182_makes_87 F n v1 v2 v3 v4 v5 A = some (r, A') → Fr cs_x182_makes fs_x182_makes A A' := by
  intro n
  induction n with
  | zero => intro v1 v2 v3 v4 v5 A r A' h; cases h
  | succ n ih =>
    intro v1 v2 v3 v4 v5 A r A' h
    have fr : Fr cs_x182_makes fs_x182_makes A A := Fr.rfl
    rw [x182_makes_87] at h
    by_cases hc1 : v5 < (A.1 91 4)
    · replace h := if_T h hc1
      replace h := (rz_gx_inv h).2.2
      by_cases hc4 : (A.1 110 (v5).toNat) = v1
      · replace h := if_T h hc4
        by_cases hc5 : v2 ≤ (A.1 111 (v5).toNat)
        · replace h := if_T h hc5
          by_cases hc6 : (A.1 111 (v5).toNat) ≤ v3
          · replace h := if_T h hc6
            obtain ⟨r7, A7, hf7, h⟩ := rz_b_inv h
            have fr7 := fr.trans ((wx166_isIn F hf7).mono (by decide) (by decide))
            by_cases hc8 : r7 = 0
            · replace h := if_T h hc8
              replace h := (rz_g32_inv h).2
              exact fr7.trans (ih _ _ _ _ _ _ _ _ h)
            · replace h := if_F h hc8
              by_cases hc10 : (A7.1 91 68) < (A7.1 113 (v5).toNat)
              · replace h := if_T h hc10
                exact (Fr.aI fr7 (Or.inr (by decide))).trans (wx182_makes_171 F ih F _ _ _ _ _ _ _ _ _ h)
              · replace h := if_F h hc10
                exact fr7.trans (wx182_makes_171 F ih F _ _ _ _ _ _ _ _ _ h)
          · replace h := if_F h hc6
            replace h := (rz_g32_inv h).2
            exact fr.trans (ih _ _ _ _ _ _ _ _ h)
        · replace h := if_F h hc5
          replace h := (rz_g32_inv h).2
          exact fr.trans (ih _ _ _ _ _ _ _ _ h)
      · replace h := if_F h hc4
        replace h := (rz_g32_inv h).2
        exact fr.trans (ih _ _ _ _ _ _ _ _ h)
    · replace h := if_F h hc1
      exact fr.trans (wx182_makes_368 F F _ _ _ _ _ h)
theorem wx182_makes_45 (F : Nat) : ∀ (v1 : Int) (v2 : Int) (v3 : Int) (v4 : Int) (A : rz_A) (r : Unit) (A' : rz_A), x182_makes_45 F v1 v2 v3 v4 A = some (r, A') → Fr cs_x182_makes fs_x182_makes A A' := by
  intro v1 v2 v3 v4 A r A' h
  have fr : Fr cs_x182_makes fs_x182_makes A A := Fr.rfl
  unfold x182_makes_45 at h
  exact (Fr.aI (Fr.aI (Fr.aI (Fr.aI (Fr.aI (Fr.aI (Fr.aI fr (Or.inr (by decide))) (Or.inr (by decide))) (Or.inr (by decide))) (Or.inr (by decide))) (Or.inr (by decide))) (Or.inr (by decide))) (Or.inr (by decide))).trans (wx182_makes_87 F F _ _ _ _ _ _ _ _ h)
theorem wx182_makes (F : Nat) {a0 : Int} {a1 : Int} {a2 : Int} {a3 : Int} {A : rz_A} {r : Unit} {A' : rz_A} (h : x182_makes F a0 a1 a2 a3 A = some (r, A')) : Fr cs_x182_makes fs_x182_makes A A' := by
  have fr : Fr cs_x182_makes fs_x182_makes A A := Fr.rfl
  unfold x182_makes at h
  by_cases hc1 : (A.1 91 62) = a0
  · replace h := if_T h hc1
    by_cases hc2 : (A.1 91 63) = a1
    · replace h := if_T h hc2
      by_cases hc3 : (A.1 91 64) = a2
      · replace h := if_T h hc3
        by_cases hc4 : (A.1 91 65) = a3
        · replace h := if_T h hc4
          by_cases hc5 : (A.1 91 66) = (A.1 91 11)
          · replace h := if_T h hc5
            cases h
            exact fr
          · replace h := if_F h hc5
            exact fr.trans (wx182_makes_45 F _ _ _ _ _ _ _ h)
        · replace h := if_F h hc4
          exact fr.trans (wx182_makes_45 F _ _ _ _ _ _ _ h)
      · replace h := if_F h hc3
        exact fr.trans (wx182_makes_45 F _ _ _ _ _ _ _ h)
    · replace h := if_F h hc2
      exact fr.trans (wx182_makes_45 F _ _ _ _ _ _ _ h)
  · replace h := if_F h hc1
    exact fr.trans (wx182_makes_45 F _ _ _ _ _ _ _ h)
def cs_x181_makes : List Nat := [133, 136, 137, 138, 139, 140, 141, 142, 143]
def fs_x181_makes : List (Nat × Nat) := [(91, 54), (91, 62), (91, 63), (91, 64), (91, 65), (91, 66), (91, 67), (91, 68)]
theorem wx181_makes_80 (F : Nat) : ∀ (v1 : Int) (v3 : Int) (v4 : Int) (v5 : Int) (A : rz_A) (r : Unit) (A' : rz_A), x181_makes_80 F v1 v3 v4 v5 A = some (r, A') → Fr cs_x181_makes fs_x181_makes A A' := by
  intro v1 v3 v4 v5 A r A' h
  have fr : Fr cs_x181_makes fs_x181_makes A A := Fr.rfl
  unfold x181_makes_80 at h
  obtain ⟨_, A1, hf1, h⟩ := rz_b_inv h
  have fr1 := fr.trans ((wx182_makes F hf1).mono (by decide) (by decide))
  cases h
  exact fr1
theorem wx181_makes_53 (F : Nat) {k11 : (Int → Int → Int → Int → Int → Int → rz_A → Option (Unit × rz_A))} (hkk11 : ∀ (v1 : Int) (v2 : Int) (v3 : Int) (v4 : Int) (v5 : Int) (v6 : Int) (A : rz_A) (r : Unit) (A' : rz_A), k11 v1 v2 v3 v4 v5 v6 A = some (r, A') → Fr cs_x181_makes fs_x181_makes A A') : ∀ (v1 : Int) (v2 : Int) (v3 : Int) (v4 : Int) (v5 : Int) (v6 : Int) (v7 : Int) (A : rz_A) (r : Unit) (A' : rz_A), x181_makes_53 F k11 v1 v2 v3 v4 v5 v6 v7 A = some (r, A') → Fr cs_x181_makes fs_x181_makes A A' := by
  intro v1 v2 v3 v4 v5 v6 v7 A r A' h
  have fr : Fr cs_x181_makes fs_x181_makes A A := Fr.rfl
  unfold x181_makes_53 at h
  by_cases hc1 : v2 < v7
  · replace h := if_T h hc1
    replace h := (rz_g32_inv h).2
    by_cases hc3 : (v7 - 1) < v5
    · replace h := if_T h hc3
      replace h := (rz_g32_inv h).2
      exact fr.trans (hkk11 _ _ _ _ _ _ _ _ _ h)
    · replace h := if_F h hc3
      replace h := (rz_g32_inv h).2
      exact fr.trans (hkk11 _ _ _ _ _ _ _ _ _ h)
  · replace h := if_F h hc1
    replace h := (rz_g32_inv h).2
    exact fr.trans (hkk11 _ _ _ _ _ _ _ _ _ h)
theorem wx181_makes_11 (F : Nat) : ∀ (n : Nat) (v1 : Int) (v2 : Int) (v3 : Int) (v4 : Int) (v5 : Int) (v6 : Int) (A : rz_A) (r : Unit) (A' : rz_A), x181_makes_11 F n v1 v2 v3 v4 v5 v6 A = some (r, A') → Fr cs_x181_makes fs_x181_makes A A' := by
  intro n
  induction n with
  | zero => intro v1 v2 v3 v4 v5 v6 A r A' h; cases h
  | succ n ih =>
    intro v1 v2 v3 v4 v5 v6 A r A' h
    have fr : Fr cs_x181_makes fs_x181_makes A A := Fr.rfl
    rw [x181_makes_11] at h
    replace h := (rz_gx_inv h).2.2
    by_cases hc3 : v6 < (A.1 95 (v1).toNat)
    · replace h := if_T h hc3
      replace h := (rz_g32_inv h).2
      replace h := (rz_g32_inv h).2
      replace h := (rz_gx_inv h).2.2
      by_cases hc8 : (A.1 97 (((8 * v1) + v6)).toNat) ≤ v2
      · replace h := if_T h hc8
        by_cases hc9 : v4 < (A.1 97 (((8 * v1) + v6)).toNat)
        · replace h := if_T h hc9
          exact fr.trans (wx181_makes_53 F ih _ _ _ _ _ _ _ _ _ _ h)
        · replace h := if_F h hc9
          exact fr.trans (wx181_makes_53 F ih _ _ _ _ _ _ _ _ _ _ h)
      · replace h := if_F h hc8
        exact fr.trans (wx181_makes_53 F ih _ _ _ _ _ _ _ _ _ _ h)
    · replace h := if_F h hc3
      exact fr.trans (wx181_makes_80 F _ _ _ _ _ _ _ h)
theorem wx181_makes (F : Nat) {a0 : Int} {a1 : Int} {a2 : Int} {A : rz_A} {r : Unit} {A' : rz_A} (h : x181_makes F a0 a1 a2 A = some (r, A')) : Fr cs_x181_makes fs_x181_makes A A' := by
  have fr : Fr cs_x181_makes fs_x181_makes A A := Fr.rfl
  unfold x181_makes at h
  exact fr.trans (wx181_makes_11 F F _ _ _ _ _ _ _ _ _ h)
def cs_x179_points : List Nat := [132, 133, 136, 137, 138, 139, 140, 141, 142, 143]
def fs_x179_points : List (Nat × Nat) := [(91, 54), (91, 62), (91, 63), (91, 64), (91, 65), (91, 66), (91, 67), (91, 68)]
theorem wx179_points (F : Nat) {a0 : Int} {a1 : Int} {a2 : Int} {A : rz_A} {r : Int} {A' : rz_A} (h : x179_points F a0 a1 a2 A = some (r, A')) : Fr cs_x179_points fs_x179_points A A' := by
  have fr : Fr cs_x179_points fs_x179_points A A := Fr.rfl
  unfold x179_points at h
  obtain ⟨r1, A1, hf1, h⟩ := rz_b_inv h
  have fr1 := fr.trans ((wx180_known F hf1).mono (by decide) (by decide))
  by_cases hc2 : r1 = 0
  · replace h := if_T h hc2
    obtain ⟨_, A3, hf3, h⟩ := rz_b_inv h
    have fr3 := fr1.trans ((wx181_makes F hf3).mono (by decide) (by decide))
    cases h
    exact fr3
  · replace h := if_F h hc2
    obtain ⟨r4, A4, hf4, h⟩ := rz_b_inv h
    have fr4 := fr1.trans ((wx142_no F hf4).mono (by decide) (by decide))
    cases h
    exact fr4
def cs_x183_point : List Nat := [132, 133, 136, 137, 138, 139, 140, 141, 142, 143]
def fs_x183_point : List (Nat × Nat) := [(91, 54), (91, 62), (91, 63), (91, 64), (91, 65), (91, 66), (91, 67), (91, 68)]
theorem wx183_point (F : Nat) {a0 : Int} {a1 : Int} {a2 : Int} {a3 : Int} {a4 : Int} {A : rz_A} {r : Int} {A' : rz_A} (h : x183_point F a0 a1 a2 a3 a4 A = some (r, A')) : Fr cs_x183_point fs_x183_point A A' := by
  have fr : Fr cs_x183_point fs_x183_point A A := Fr.rfl
  unfold x183_point at h
  obtain ⟨r1, A1, hf1, h⟩ := rz_b_inv h
  have fr1 := fr.trans ((wx145_isPost F hf1).mono (by decide) (by decide))
  by_cases hc2 : r1 = 0
  · replace h := if_T h hc2
    obtain ⟨r3, A3, hf3, h⟩ := rz_b_inv h
    have fr3 := fr1.trans ((wx148_far F hf3).mono (by decide) (by decide))
    cases h
    exact fr3
  · replace h := if_F h hc2
    by_cases hc4 : 0 ≤ a4
    · replace h := if_T h hc4
      by_cases hc5 : 1 < a4
      · replace h := if_T h hc5
        obtain ⟨r6, A6, hf6, h⟩ := rz_b_inv h
        have fr6 := fr1.trans ((wx148_far F hf6).mono (by decide) (by decide))
        cases h
        exact fr6
      · replace h := if_F h hc5
        obtain ⟨r7, A7, hf7, h⟩ := rz_b_inv h
        have fr7 := fr1.trans ((wx147_times F hf7).mono (by decide) (by decide))
        by_cases hc8 : r7 = 0
        · replace h := if_T h hc8
          obtain ⟨_, A9, hf9, h⟩ := rz_b_inv h
          have fr9 := fr7.trans ((wx181_makes F hf9).mono (by decide) (by decide))
          by_cases hc10 : 0 ≤ a3
          · replace h := if_T h hc10
            by_cases hc11 : (A9.1 91 67) ≤ a3
            · replace h := if_T h hc11
              obtain ⟨r12, A12, hf12, h⟩ := rz_b_inv h
              have fr12 := fr9.trans ((wx148_far F hf12).mono (by decide) (by decide))
              cases h
              exact fr12
            · replace h := if_F h hc11
              by_cases hc13 : a4 = 0
              · replace h := if_T h hc13
                replace h := (rz_gx_inv h).2.2
                cases h
                exact fr9
              · replace h := if_F h hc13
                replace h := (rz_gx_inv h).2.2
                cases h
                exact fr9
          · replace h := if_F h hc10
            obtain ⟨r18, A18, hf18, h⟩ := rz_b_inv h
            have fr18 := fr9.trans ((wx148_far F hf18).mono (by decide) (by decide))
            cases h
            exact fr18
        · replace h := if_F h hc8
          obtain ⟨r19, A19, hf19, h⟩ := rz_b_inv h
          have fr19 := fr7.trans ((wx148_far F hf19).mono (by decide) (by decide))
          cases h
          exact fr19
    · replace h := if_F h hc4
      obtain ⟨r20, A20, hf20, h⟩ := rz_b_inv h
      have fr20 := fr1.trans ((wx148_far F hf20).mono (by decide) (by decide))
      cases h
      exact fr20
