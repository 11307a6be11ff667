set_option maxRecDepth 16384
def cs_x73_addPoint : List Nat := [58, 60, 61]
def fs_x73_addPoint : List (Nat × Nat) := [(57, 0)]
theorem wx73_addPoint_152 (F : Nat) : ∀ (v1 : Int) (v2 : Int) (v3 : Int) (A : rz_A) (r : Unit) (A' : rz_A), x73_addPoint_152 F v1 v2 v3 A = some (r, A') → Fr cs_x73_addPoint fs_x73_addPoint A A' := by
  intro v1 v2 v3 A r A' h
  have fr : Fr cs_x73_addPoint fs_x73_addPoint A A := Fr.rfl
  unfold x73_addPoint_152 at h
  replace h := (rz_gx_inv h).2.2
  replace h := (rz_g32_inv h).2
  cases h
  exact (Fr.aI (Fr.aI (Fr.aI (Fr.aI fr (Or.inl (by decide))) (Or.inl (by decide))) (Or.inl (by decide))) (Or.inr (by decide)))
theorem wx73_addPoint_86 (F : Nat) : ∀ (n : Nat) (v1 : Int) (v2 : Int) (v3 : Int) (v4 : Int) (A : rz_A) (r : Unit) (A' : rz_A), x73_addPoint_86 F n v1 v2 v3 v4 A = some (r, A') → Fr cs_x73_addPoint fs_x73_addPoint A A' := by
  intro n
  induction n with
  | zero => intro v1 v2 v3 v4 A r A' h; cases h
  | succ n ih =>
    intro v1 v2 v3 v4 A r A' h
    have fr : Fr cs_x73_addPoint fs_x73_addPoint A A := Fr.rfl
    rw [x73_addPoint_86] at h
    by_cases hc1 : v3 < v4
    · replace h := if_T h hc1
      replace h := (rz_g32_inv h).2
      replace h := (rz_gx_inv h).2.2
      replace h := (rz_gx_inv h).2.2
      replace h := (rz_g32_inv h).2
      exact (Fr.aI (Fr.aI (Fr.aI fr (Or.inl (by decide))) (Or.inl (by decide))) (Or.inl (by decide))).trans (ih _ _ _ _ _ _ _ h)
    · replace h := if_F h hc1
      exact fr.trans (wx73_addPoint_152 F _ _ _ _ _ _ h)
theorem wx73_addPoint_33 (F : Nat) : ∀ (v1 : Int) (v2 : Int) (v3 : Int) (A : rz_A) (r : Unit) (A' : rz_A), x73_addPoint_33 F v1 v2 v3 A = some (r, A') → Fr cs_x73_addPoint fs_x73_addPoint A A' := by
  intro v1 v2 v3 A r A' h
  have fr : Fr cs_x73_addPoint fs_x73_addPoint A A := Fr.rfl
  unfold x73_addPoint_33 at h
  by_cases hc1 : 0 < v3
  · replace h := if_T h hc1
    replace h := (rz_g32_inv h).2
    replace h := (rz_gx_inv h).2.2
    by_cases hc5 : (A.1 58 ((v3 - 1)).toNat) = v1
    · replace h := if_T h hc5
      replace h := (rz_g32_inv h).2
      replace h := (rz_g32_inv h).2
      cases h
      exact (Fr.aI (Fr.aI fr (Or.inl (by decide))) (Or.inl (by decide)))
    · replace h := if_F h hc5
      exact fr.trans (wx73_addPoint_86 F F _ _ _ _ _ _ _ h)
  · replace h := if_F h hc1
    exact fr.trans (wx73_addPoint_86 F F _ _ _ _ _ _ _ h)
theorem wx73_addPoint_8 (F : Nat) : ∀ (n : Nat) (v1 : Int) (v2 : Int) (v3 : Int) (A : rz_A) (r : Unit) (A' : rz_A), x73_addPoint_8 F n v1 v2 v3 A = some (r, A') → Fr cs_x73_addPoint fs_x73_addPoint A A' := by
  intro n
  induction n with
  | zero => intro v1 v2 v3 A r A' h; cases h
  | succ n ih =>
    intro v1 v2 v3 A r A' h
    have fr : Fr cs_x73_addPoint fs_x73_addPoint A A := Fr.rfl
    rw [x73_addPoint_8] at h
    by_cases hc1 : 0 < v3
    · replace h := if_T h hc1
      replace h := (rz_g32_inv h).2
      replace h := (rz_gx_inv h).2.2
      by_cases hc5 : v1 < (A.1 58 ((v3 - 1)).toNat)
      · replace h := if_T h hc5
        replace h := (rz_g32_inv h).2
        exact fr.trans (ih _ _ _ _ _ _ h)
      · replace h := if_F h hc5
        exact fr.trans (wx73_addPoint_33 F _ _ _ _ _ _ h)
    · replace h := if_F h hc1
      exact fr.trans (wx73_addPoint_33 F _ _ _ _ _ _ h)
theorem wx73_addPoint (F : Nat) {a0 : Int} {a1 : Int} {A : rz_A} {r : Unit} {A' : rz_A} (h : x73_addPoint F a0 a1 A = some (r, A')) : Fr cs_x73_addPoint fs_x73_addPoint A A' := by
  have fr : Fr cs_x73_addPoint fs_x73_addPoint A A := Fr.rfl
  unfold x73_addPoint at h
  exact fr.trans (wx73_addPoint_8 F F _ _ _ _ _ _ h)
def cs_x72_draw : List Nat := [58, 59, 60, 61, 62]
def fs_x72_draw : List (Nat × Nat) := [(56, 8), (56, 9), (56, 10), (56, 11), (56, 12), (57, 0)]
theorem wx72_draw_237 (F : Nat) : ∀ (A : rz_A) (r : Unit) (A' : rz_A), x72_draw_237 F A = some (r, A') → Fr cs_x72_draw fs_x72_draw A A' := by
  intro A r A' h
  have fr : Fr cs_x72_draw fs_x72_draw A A := Fr.rfl
  unfold x72_draw_237 at h
  obtain ⟨r1, A1, hf1, h⟩ := rz_b_inv h
  have fr1 := fr.trans ((wx74_joinBlocks F hf1).mono (by decide) (by decide))
  obtain ⟨_, A2, hf2, h⟩ := rz_b_inv h
  have fr2 := fr1.trans ((wx76_setFlows F hf2).mono (by decide) (by decide))
  cases h
  exact fr2
theorem wx72_draw_93 (F : Nat) : ∀ (n : Nat) (v1 : Int) (v2 : Int) (v3 : Int) (v5 : Int) (A : rz_A) (r : Unit) (A' : rz_A), x72_draw_93 F n v1 v2 v3 v5 A = some (r, A') → Fr cs_x72_draw fs_x72_draw A A' := by
  intro n
  induction n with
  | zero => intro v1 v2 v3 v5 A r A' h; cases h
  | succ n ih =>
    intro v1 v2 v3 v5 A r A' h
    have fr : Fr cs_x72_draw fs_x72_draw A A := Fr.rfl
    rw [x72_draw_93] at h
    by_cases hc1 : v5 < (A.1 26 0)
    · replace h := if_T h hc1
      replace h := (rz_gx_inv h).2.2
      by_cases hc4 : (A.1 27 (v5).toNat) = v1
      · replace h := if_T h hc4
        by_cases hc5 : v2 ≤ (A.1 28 (v5).toNat)
        · replace h := if_T h hc5
          by_cases hc6 : (A.1 28 (v5).toNat) ≤ v3
          · replace h := if_T h hc6
            obtain ⟨r7, A7, hf7, h⟩ := rz_b_inv h
            have fr7 := fr.trans ((wx39_placeOf F hf7).mono (by decide) (by decide))
            by_cases hc8 : r7 < 0
            · replace h := if_T h hc8
              replace h := (rz_g32_inv h).2
              exact fr7.trans (ih _ _ _ _ _ _ _ h)
            · replace h := if_F h hc8
              replace h := (rz_gx_inv h).2.2
              obtain ⟨_, A12, hf12, h⟩ := rz_b_inv h
              have fr12 := fr7.trans ((wx73_addPoint F hf12).mono (by decide) (by decide))
              obtain ⟨r13, A13, hf13, h⟩ := rz_b_inv h
              have fr13 := fr12.trans ((wx60_max F hf13).mono (by decide) (by decide))
              replace h := (rz_g32_inv h).2
              exact (Fr.aI fr13 (Or.inr (by decide))).trans (ih _ _ _ _ _ _ _ h)
          · replace h := if_F h hc6
            replace h := (rz_g32_inv h).2
            exact fr.trans (ih _ _ _ _ _ _ _ h)
        · replace h := if_F h hc5
          replace h := (rz_g32_inv h).2
          exact fr.trans (ih _ _ _ _ _ _ _ h)
      · replace h := if_F h hc4
        replace h := (rz_g32_inv h).2
        exact fr.trans (ih _ _ _ _ _ _ _ h)
    · replace h := if_F h hc1
      exact fr.trans (wx72_draw_237 F _ _ _ h)
theorem wx72_draw (F : Nat) {a0 : Int} {a1 : Int} {a2 : Int} {A : rz_A} {r : Unit} {A' : rz_A} (h : x72_draw F a0 a1 a2 A = some (r, A')) : Fr cs_x72_draw fs_x72_draw A A' := by
  have fr : Fr cs_x72_draw fs_x72_draw A A := Fr.rfl
  unfold x72_draw at h
  by_cases hc1 : (A.1 56 9) = a0
  · replace h := if_T h hc1
    by_cases hc2 : (A.1 56 10) = a1
    · replace h := if_T h hc2
      by_cases hc3 : (A.1 56 11) = a2
      · replace h := if_T h hc3
        by_cases hc4 : (A.1 56 12) = (A.1 51 4)
        · replace h := if_T h hc4
          cases h
          exact fr
        · replace h := if_F h hc4
          exact (Fr.aI (Fr.aI (Fr.aI (Fr.aI (Fr.aI (Fr.aI fr (Or.inr (by decide))) (Or.inr (by decide))) (Or.inr (by decide))) (Or.inr (by decide))) (Or.inr (by decide))) (Or.inr (by decide))).trans (wx72_draw_93 F F _ _ _ _ _ _ _ h)
      · replace h := if_F h hc3
        exact (Fr.aI (Fr.aI (Fr.aI (Fr.aI (Fr.aI (Fr.aI fr (Or.inr (by decide))) (Or.inr (by decide))) (Or.inr (by decide))) (Or.inr (by decide))) (Or.inr (by decide))) (Or.inr (by decide))).trans (wx72_draw_93 F F _ _ _ _ _ _ _ h)
    · replace h := if_F h hc2
      exact (Fr.aI (Fr.aI (Fr.aI (Fr.aI (Fr.aI (Fr.aI fr (Or.inr (by decide))) (Or.inr (by decide))) (Or.inr (by decide))) (Or.inr (by decide))) (Or.inr (by decide))) (Or.inr (by decide))).trans (wx72_draw_93 F F _ _ _ _ _ _ _ h)
  · replace h := if_F h hc1
    exact (Fr.aI (Fr.aI (Fr.aI (Fr.aI (Fr.aI (Fr.aI fr (Or.inr (by decide))) (Or.inr (by decide))) (Or.inr (by decide))) (Or.inr (by decide))) (Or.inr (by decide))) (Or.inr (by decide))).trans (wx72_draw_93 F F _ _ _ _ _ _ _ h)
def cs_x69_drawAt : List Nat := [58, 59, 60, 61, 62]
def fs_x69_drawAt : List (Nat × Nat) := [(56, 8), (56, 9), (56, 10), (56, 11), (56, 12), (57, 0)]
theorem wx69_drawAt (F : Nat) {a0 : Int} {a1 : Int} {A : rz_A} {r : Unit} {A' : rz_A} (h : x69_drawAt F a0 a1 A = some (r, A')) : Fr cs_x69_drawAt fs_x69_drawAt A A' := by
  have fr : Fr cs_x69_drawAt fs_x69_drawAt A A := Fr.rfl
  unfold x69_drawAt at h
  obtain ⟨r1, A1, hf1, h⟩ := rz_b_inv h
  have fr1 := fr.trans ((wx70_stretchStart F hf1).mono (by decide) (by decide))
  obtain ⟨r2, A2, hf2, h⟩ := rz_b_inv h
  have fr2 := fr1.trans ((wx71_stretchEnd F hf2).mono (by decide) (by decide))
  obtain ⟨_, A3, hf3, h⟩ := rz_b_inv h
  have fr3 := fr2.trans ((wx72_draw F hf3).mono (by decide) (by decide))
  cases h
  exact fr3
def cs_x68_points : List Nat := [1, 49, 50, 52, 53, 54, 55, 58, 59, 60, 61, 62]
def fs_x68_points : List (Nat × Nat) := [(51, 3), (51, 4), (51, 5), (51, 10), (56, 8), (56, 9), (56, 10), (56, 11), (56, 12), (57, 0)]
theorem wx68_points (F : Nat) {a0 : Int} {a1 : Int} {a2 : Int} {A : rz_A} {r : Int} {A' : rz_A} (h : x68_points F a0 a1 a2 A = some (r, A')) : Fr cs_x68_points fs_x68_points A A' := by
  have fr : Fr cs_x68_points fs_x68_points A A := Fr.rfl
  unfold x68_points at h
  obtain ⟨r1, A1, hf1, h⟩ := rz_b_inv h
  have fr1 := fr.trans ((wx9_whyNotAt F hf1).mono (by decide) (by decide))
  by_cases hc2 : r1 = 0
  · replace h := if_T h hc2
    obtain ⟨_, A3, hf3, h⟩ := rz_b_inv h
    have fr3 := fr1.trans ((wx20_see F hf3).mono (by decide) (by decide))
    obtain ⟨_, A4, hf4, h⟩ := rz_b_inv h
    have fr4 := fr3.trans ((wx69_drawAt F hf4).mono (by decide) (by decide))
    cases h
    exact fr4
  · replace h := if_F h hc2
    obtain ⟨r5, A5, hf5, h⟩ := rz_b_inv h
    have fr5 := fr1.trans ((wx1_refuse F hf5).mono (by decide) (by decide))
    cases h
    exact fr5
def cs_x78_point : List Nat := [1, 49, 50, 52, 53, 54, 55, 58, 59, 60, 61, 62]
def fs_x78_point : List (Nat × Nat) := [(51, 3), (51, 4), (51, 5), (51, 10), (56, 8), (56, 9), (56, 10), (56, 11), (56, 12), (57, 0)]
theorem wx78_point (F : Nat) {a0 : Int} {a1 : Int} {a2 : Int} {a3 : Int} {a4 : Int} {A : rz_A} {r : Int} {A' : rz_A} (h : x78_point F a0 a1 a2 a3 a4 A = some (r, A')) : Fr cs_x78_point fs_x78_point A A' := by
  have fr : Fr cs_x78_point fs_x78_point A A := Fr.rfl
  unfold x78_point at h
  obtain ⟨r1, A1, hf1, h⟩ := rz_b_inv h
  have fr1 := fr.trans ((wx5_has F hf1).mono (by decide) (by decide))
  by_cases hc2 : r1 = 0
  · replace h := if_T h hc2
    obtain ⟨r3, A3, hf3, h⟩ := rz_b_inv h
    have fr3 := fr1.trans ((wx10_refuseAsTold F hf3).mono (by decide) (by decide))
    cases h
    exact fr3
  · replace h := if_F h hc2
    by_cases hc4 : 0 ≤ a4
    · replace h := if_T h hc4
      by_cases hc5 : 1 < a4
      · replace h := if_T h hc5
        obtain ⟨r6, A6, hf6, h⟩ := rz_b_inv h
        have fr6 := fr1.trans ((wx10_refuseAsTold F hf6).mono (by decide) (by decide))
        cases h
        exact fr6
      · replace h := if_F h hc5
        obtain ⟨r7, A7, hf7, h⟩ := rz_b_inv h
        have fr7 := fr1.trans ((wx9_whyNotAt F hf7).mono (by decide) (by decide))
        by_cases hc8 : r7 = 0
        · replace h := if_T h hc8
          obtain ⟨_, A9, hf9, h⟩ := rz_b_inv h
          have fr9 := fr7.trans ((wx20_see F hf9).mono (by decide) (by decide))
          obtain ⟨_, A10, hf10, h⟩ := rz_b_inv h
          have fr10 := fr9.trans ((wx69_drawAt F hf10).mono (by decide) (by decide))
          by_cases hc11 : 0 ≤ a3
          · replace h := if_T h hc11
            by_cases hc12 : (A10.1 57 0) ≤ a3
            · replace h := if_T h hc12
              obtain ⟨r13, A13, hf13, h⟩ := rz_b_inv h
              have fr13 := fr10.trans ((wx10_refuseAsTold F hf13).mono (by decide) (by decide))
              cases h
              exact fr13
            · replace h := if_F h hc12
              by_cases hc14 : a4 = 0
              · replace h := if_T h hc14
                replace h := (rz_gx_inv h).2.2
                cases h
                exact fr10
              · replace h := if_F h hc14
                replace h := (rz_gx_inv h).2.2
                cases h
                exact fr10
          · replace h := if_F h hc11
            obtain ⟨r19, A19, hf19, h⟩ := rz_b_inv h
            have fr19 := fr10.trans ((wx10_refuseAsTold F hf19).mono (by decide) (by decide))
            cases h
            exact fr19
        · replace h := if_F h hc8
          obtain ⟨r20, A20, hf20, h⟩ := rz_b_inv h
          have fr20 := fr7.trans ((wx10_refuseAsTold F hf20).mono (by decide) (by decide))
          cases h
          exact fr20
    · replace h := if_F h hc4
      obtain ⟨r21, A21, hf21, h⟩ := rz_b_inv h
      have fr21 := fr1.trans ((wx10_refuseAsTold F hf21).mono (by decide) (by decide))
      cases h
      exact fr21
def cs_x81_flowBelow_c : List Nat := []
def fs_x81_flowBelow_c : List (Nat × Nat) := []
theorem wx81_flowBelow_c (F : Nat) {a0 : Int} {a1 : Int} {A : rz_A} {r : Int} {A' : rz_A} (h : x81_flowBelow_c F a0 a1 A = some (r, A')) : Fr cs_x81_flowBelow_c fs_x81_flowBelow_c A A' := by
  have fr : Fr cs_x81_flowBelow_c fs_x81_flowBelow_c A A := Fr.rfl
  unfold x81_flowBelow_c at h
  by_cases hc1 : (A.1 58 0) ≤ a1
  · replace h := if_T h hc1
    cases h
    exact fr
  · replace h := if_F h hc1
    by_cases hc2 : a0 ≤ a1
    · replace h := if_T h hc2
      cases h
      exact fr
    · replace h := if_F h hc2
      replace h := (rz_g32_inv h).2
      replace h := (rz_g32_inv h).2
      obtain ⟨r5, A5, hf5, h⟩ := rz_b_inv h
      have fr5 := fr.trans ((wx77_share F hf5).mono (by decide) (by decide))
      replace h := (rz_g32_inv h).2
      cases h
      exact fr5
def cs_x80_flowBy_c : List Nat := []
def fs_x80_flowBy_c : List (Nat × Nat) := []
theorem wx80_flowBy_c_71 (F : Nat) : ∀ (v1 : Int) (v3 : Int) (A : rz_A) (r : Int) (A' : rz_A), x80_flowBy_c_71 F v1 v3 A = some (r, A') → Fr cs_x80_flowBy_c fs_x80_flowBy_c A A' := by
  intro v1 v3 A r A' h
  have fr : Fr cs_x80_flowBy_c fs_x80_flowBy_c A A := Fr.rfl
  unfold x80_flowBy_c_71 at h
  replace h := (rz_g32_inv h).2
  replace h := (rz_gx_inv h).2.2
  replace h := (rz_gx_inv h).2.2
  replace h := (rz_g32_inv h).2
  replace h := (rz_g32_inv h).2
  replace h := (rz_g32_inv h).2
  obtain ⟨r9, A9, hf9, h⟩ := rz_b_inv h
  have fr9 := fr.trans ((wx77_share F hf9).mono (by decide) (by decide))
  replace h := (rz_g64_inv h).2
  obtain ⟨r11, A11, hf11, h⟩ := rz_b_inv h
  have fr11 := fr9.trans ((wx28_min F hf11).mono (by decide) (by decide))
  replace h := (rz_g32_inv h).2
  cases h
  exact fr11
theorem wx80_flowBy_c_43 (F : Nat) : ∀ (n : Nat) (v1 : Int) (v3 : Int) (A : rz_A) (r : Int) (A' : rz_A), x80_flowBy_c_43 F n v1 v3 A = some (r, A') → Fr cs_x80_flowBy_c fs_x80_flowBy_c A A' := by
  intro n
  induction n with
  | zero => intro v1 v3 A r A' h; cases h
  | succ n ih =>
    intro v1 v3 A r A' h
    have fr : Fr cs_x80_flowBy_c fs_x80_flowBy_c A A := Fr.rfl
    rw [x80_flowBy_c_43] at h
    replace h := (rz_g32_inv h).2
    by_cases hc2 : v3 < ((A.1 57 0) - 2)
    · replace h := if_T h hc2
      replace h := (rz_g32_inv h).2
      replace h := (rz_gx_inv h).2.2
      by_cases hc6 : (A.1 58 ((v3 + 1)).toNat) ≤ v1
      · replace h := if_T h hc6
        exact fr.trans (ih _ _ _ _ _ h)
      · replace h := if_F h hc6
        exact fr.trans (wx80_flowBy_c_71 F _ _ _ _ _ h)
    · replace h := if_F h hc2
      exact fr.trans (wx80_flowBy_c_71 F _ _ _ _ _ h)
theorem wx80_flowBy_c (F : Nat) {a0 : Int} {a1 : Int} {A : rz_A} {r : Int} {A' : rz_A} (h : x80_flowBy_c F a0 a1 A = some (r, A')) : Fr cs_x80_flowBy_c fs_x80_flowBy_c A A' := by
  have fr : Fr cs_x80_flowBy_c fs_x80_flowBy_c A A := Fr.rfl
  unfold x80_flowBy_c at h
  by_cases hc1 : (A.1 57 0) = 0
  · replace h := if_T h hc1
    cases h
    exact fr
  · replace h := if_F h hc1
    by_cases hc2 : a0 < (A.1 58 0)
    · replace h := if_T h hc2
      obtain ⟨r3, A3, hf3, h⟩ := rz_b_inv h
      have fr3 := fr.trans ((wx81_flowBelow_c F hf3).mono (by decide) (by decide))
      cases h
      exact fr3
    · replace h := if_F h hc2
      by_cases hc4 : (A.1 57 0) = 1
      · replace h := if_T h hc4
        cases h
        exact fr
      · replace h := if_F h hc4
        exact fr.trans (wx80_flowBy_c_43 F F _ _ _ _ _ h)
def cs_x79_flowAt : List Nat := [1, 49, 50, 52, 53, 54, 55, 58, 59, 60, 61, 62]
def fs_x79_flowAt : List (Nat × Nat) := [(51, 3), (51, 4), (51, 5), (51, 10), (56, 8), (56, 9), (56, 10), (56, 11), (56, 12), (57, 0)]
theorem wx79_flowAt (F : Nat) {a0 : Int} {a1 : Int} {a2 : Int} {A : rz_A} {r : Int} {A' : rz_A} (h : x79_flowAt F a0 a1 a2 A = some (r, A')) : Fr cs_x79_flowAt fs_x79_flowAt A A' := by
  have fr : Fr cs_x79_flowAt fs_x79_flowAt A A := Fr.rfl
  unfold x79_flowAt at h
  obtain ⟨r1, A1, hf1, h⟩ := rz_b_inv h
  have fr1 := fr.trans ((wx5_has F hf1).mono (by decide) (by decide))
  by_cases hc2 : r1 = 0
  · replace h := if_T h hc2
    obtain ⟨r3, A3, hf3, h⟩ := rz_b_inv h
    have fr3 := fr1.trans ((wx1_refuse F hf3).mono (by decide) (by decide))
    cases h
    exact fr3
  · replace h := if_F h hc2
    by_cases hc4 : 0 ≤ a1
    · replace h := if_T h hc4
      by_cases hc5 : a2 < (-9999)
      · replace h := if_T h hc5
        obtain ⟨r6, A6, hf6, h⟩ := rz_b_inv h
        have fr6 := fr1.trans ((wx1_refuse F hf6).mono (by decide) (by decide))
        cases h
        exact fr6
      · replace h := if_F h hc5
        by_cases hc7 : a1 ≤ 9999
        · replace h := if_T h hc7
          by_cases hc8 : 99999 < a2
          · replace h := if_T h hc8
            obtain ⟨r9, A9, hf9, h⟩ := rz_b_inv h
            have fr9 := fr1.trans ((wx1_refuse F hf9).mono (by decide) (by decide))
            cases h
            exact fr9
          · replace h := if_F h hc8
            obtain ⟨_, A10, hf10, h⟩ := rz_b_inv h
            have fr10 := fr1.trans ((wx20_see F hf10).mono (by decide) (by decide))
            obtain ⟨_, A11, hf11, h⟩ := rz_b_inv h
            have fr11 := fr10.trans ((wx69_drawAt F hf11).mono (by decide) (by decide))
            replace h := (rz_gx_inv h).2.2
            obtain ⟨r14, A14, hf14, h⟩ := rz_b_inv h
            have fr14 := fr11.trans ((wx80_flowBy_c F hf14).mono (by decide) (by decide))
            by_cases hc15 : r14 < 0
            · replace h := if_T h hc15
              obtain ⟨r16, A16, hf16, h⟩ := rz_b_inv h
              have fr16 := fr14.trans ((wx1_refuse F hf16).mono (by decide) (by decide))
              cases h
              exact fr16
            · replace h := if_F h hc15
              cases h
              exact fr14
        · replace h := if_F h hc7
          obtain ⟨r17, A17, hf17, h⟩ := rz_b_inv h
          have fr17 := fr1.trans ((wx1_refuse F hf17).mono (by decide) (by decide))
          cases h
          exact fr17
    · replace h := if_F h hc4
      obtain ⟨r18, A18, hf18, h⟩ := rz_b_inv h
      have fr18 := fr1.trans ((wx1_refuse F hf18).mono (by decide) (by decide))
      cases h
      exact fr18
def cs_x83_come : List Nat := [34, 35, 36, 37, 38, 39]
def fs_x83_come : List (Nat × Nat) := [(33, 0)]
theorem wx83_come (F : Nat) {a0 : Int} {a1 : Int} {a2 : Int} {a3 : Int} {a4 : Int} {a5 : Int} {A : rz_A} {r : Int} {A' : rz_A} (h : x83_come F a0 a1 a2 a3 a4 a5 A = some (r, A')) : Fr cs_x83_come fs_x83_come A A' := by
  have fr : Fr cs_x83_come fs_x83_come A A := Fr.rfl
  unfold x83_come at h
  replace h := (rz_gx_inv h).2.2
  replace h := (rz_g32_inv h).2
  cases h
  exact (Fr.aI (Fr.aI (Fr.aI (Fr.aI (Fr.aI (Fr.aI (Fr.aI fr (Or.inl (by decide))) (Or.inl (by decide))) (Or.inl (by decide))) (Or.inl (by decide))) (Or.inl (by decide))) (Or.inl (by decide))) (Or.inr (by decide)))
def cs_x82_under : List Nat := [1, 34, 35, 36, 37, 38, 39]
def fs_x82_under : List (Nat × Nat) := [(33, 0)]
theorem wx82_under (F : Nat) {a0 : Int} {a1 : Int} {a2 : Int} {a3 : Int} {a4 : Int} {A : rz_A} {r : Int} {A' : rz_A} (h : x82_under F a0 a1 a2 a3 a4 A = some (r, A')) : Fr cs_x82_under fs_x82_under A A' := by
  have fr : Fr cs_x82_under fs_x82_under A A := Fr.rfl
  unfold x82_under at h
  obtain ⟨r1, A1, hf1, h⟩ := rz_b_inv h
  have fr1 := fr.trans ((wx5_has F hf1).mono (by decide) (by decide))
  by_cases hc2 : r1 = 0
  · replace h := if_T h hc2
    obtain ⟨r3, A3, hf3, h⟩ := rz_b_inv h
    have fr3 := fr1.trans ((wx1_refuse F hf3).mono (by decide) (by decide))
    cases h
    exact fr3
  · replace h := if_F h hc2
    by_cases hc4 : 0 ≤ a1
    · replace h := if_T h hc4
      by_cases hc5 : 1 < a1
      · replace h := if_T h hc5
        obtain ⟨r6, A6, hf6, h⟩ := rz_b_inv h
        have fr6 := fr1.trans ((wx1_refuse F hf6).mono (by decide) (by decide))
        cases h
        exact fr6
      · replace h := if_F h hc5
        by_cases hc7 : 0 ≤ a2
        · replace h := if_T h hc7
          by_cases hc8 : a2 ≤ a3
          · replace h := if_T h hc8
            by_cases hc9 : a4 < 0
            · replace h := if_T h hc9
              obtain ⟨r10, A10, hf10, h⟩ := rz_b_inv h
              have fr10 := fr1.trans ((wx1_refuse F hf10).mono (by decide) (by decide))
              cases h
              exact fr10
            · replace h := if_F h hc9
              by_cases hc11 : a3 ≤ 9999
              · replace h := if_T h hc11
                by_cases hc12 : a4 ≤ 99
                · replace h := if_T h hc12
                  by_cases hc13 : 40 ≤ (A1.1 33 0)
                  · replace h := if_T h hc13
                    obtain ⟨r14, A14, hf14, h⟩ := rz_b_inv h
                    have fr14 := fr1.trans ((wx1_refuse F hf14).mono (by decide) (by decide))
                    cases h
                    exact fr14
                  · replace h := if_F h hc13
                    obtain ⟨r15, A15, hf15, h⟩ := rz_b_inv h
                    have fr15 := fr1.trans ((wx83_come F hf15).mono (by decide) (by decide))
                    cases h
                    exact fr15
                · replace h := if_F h hc12
                  obtain ⟨r16, A16, hf16, h⟩ := rz_b_inv h
                  have fr16 := fr1.trans ((wx1_refuse F hf16).mono (by decide) (by decide))
                  cases h
                  exact fr16
              · replace h := if_F h hc11
                obtain ⟨r17, A17, hf17, h⟩ := rz_b_inv h
                have fr17 := fr1.trans ((wx1_refuse F hf17).mono (by decide) (by decide))
                cases h
                exact fr17
          · replace h := if_F h hc8
            obtain ⟨r18, A18, hf18, h⟩ := rz_b_inv h
            have fr18 := fr1.trans ((wx1_refuse F hf18).mono (by decide) (by decide))
            cases h
            exact fr18
        · replace h := if_F h hc7
          obtain ⟨r19, A19, hf19, h⟩ := rz_b_inv h
          have fr19 := fr1.trans ((wx1_refuse F hf19).mono (by decide) (by decide))
          cases h
          exact fr19
    · replace h := if_F h hc4
      obtain ⟨r20, A20, hf20, h⟩ := rz_b_inv h
      have fr20 := fr1.trans ((wx1_refuse F hf20).mono (by decide) (by decide))
      cases h
      exact fr20
def cs_x86_postOf : List Nat := []
def fs_x86_postOf : List (Nat × Nat) := []
theorem wx86_postOf (F : Nat) {a0 : Int} {A : rz_A} {r : Int} {A' : rz_A} (h : x86_postOf F a0 A = some (r, A')) : Fr cs_x86_postOf fs_x86_postOf A A' := by
  have fr : Fr cs_x86_postOf fs_x86_postOf A A := Fr.rfl
  unfold x86_postOf at h
  replace h := (rz_gx_inv h).2.2
  replace h := (rz_g32_inv h).2
  cases h
  exact fr
def cs_x87_timeOf : List Nat := []
def fs_x87_timeOf : List (Nat × Nat) := []
theorem wx87_timeOf (F : Nat) {a0 : Int} {A : rz_A} {r : Int} {A' : rz_A} (h : x87_timeOf F a0 A = some (r, A')) : Fr cs_x87_timeOf fs_x87_timeOf A A' := by
  have fr : Fr cs_x87_timeOf fs_x87_timeOf A A := Fr.rfl
  unfold x87_timeOf at h
  replace h := (rz_gx_inv h).2.2
  replace h := (rz_g32_inv h).2
  cases h
  exact fr
def cs_x89_hundredthsAt : List Nat := []
def fs_x89_hundredthsAt : List (Nat × Nat) := []
theorem wx89_hundredthsAt (F : Nat) {a0 : Int} {a1 : Int} {A : rz_A} {r : Int} {A' : rz_A} (h : x89_hundredthsAt F a0 a1 A = some (r, A')) : Fr cs_x89_hundredthsAt fs_x89_hundredthsAt A A' := by
  have fr : Fr cs_x89_hundredthsAt fs_x89_hundredthsAt A A := Fr.rfl
  unfold x89_hundredthsAt at h
  replace h := (rz_gx_inv h).2.2
  by_cases hc3 : (A.1 35 (a0).toNat) = 0
  · replace h := if_T h hc3
    cases h
    exact fr
  · replace h := if_F h hc3
    by_cases hc4 : (A.1 36 (a0).toNat) = (A.1 37 (a0).toNat)
    · replace h := if_T h hc4
      cases h
      exact fr
    · replace h := if_F h hc4
      replace h := (rz_g32_inv h).2
      replace h := (rz_g32_inv h).2
      obtain ⟨r7, A7, hf7, h⟩ := rz_b_inv h
      have fr7 := fr.trans ((wx77_share F hf7).mono (by decide) (by decide))
      replace h := (rz_g32_inv h).2
      cases h
      exact fr7
def cs_x88_greatest : List Nat := []
def fs_x88_greatest : List (Nat × Nat) := []
theorem wx88_greatest_6 (F : Nat) : ∀ (n : Nat) (v1 : Int) (v2 : Int) (v3 : Int) (v4 : Int) (v5 : Int) (v6 : Int) (A : rz_A) (r : Int) (A' : rz_A), x88_greatest_6 F n v1 v2 v3 v4 v5 v6 A = some (r, A') → Fr cs_x88_greatest fs_x88_greatest A A' := by
  intro n
  induction n with
  | zero => intro v1 v2 v3 v4 v5 v6 A r A' h; cases h
  | succ n ih =>
    intro v1 v2 v3 v4 v5 v6 A r A' h
    have fr : Fr cs_x88_greatest fs_x88_greatest A A := Fr.rfl
    rw [x88_greatest_6] at h
    by_cases hc1 : v6 < (A.1 33 0)
    · replace h := if_T h hc1
      replace h := (rz_gx_inv h).2.2
      by_cases hc4 : (A.1 35 (v6).toNat) = v1
      · replace h := if_T h hc4
        by_cases hc5 : (A.1 34 (v6).toNat) = v2
        · replace h := if_T h hc5
          by_cases hc6 : (A.1 39 (v6).toNat) ≤ v4
          · replace h := if_T h hc6
            by_cases hc7 : (A.1 36 (v6).toNat) ≤ v3
            · replace h := if_T h hc7
              by_cases hc8 : v3 ≤ (A.1 37 (v6).toNat)
              · replace h := if_T h hc8
                obtain ⟨r9, A9, hf9, h⟩ := rz_b_inv h
                have fr9 := fr.trans ((wx89_hundredthsAt F hf9).mono (by decide) (by decide))
                obtain ⟨r10, A10, hf10, h⟩ := rz_b_inv h
                have fr10 := fr9.trans ((wx60_max F hf10).mono (by decide) (by decide))
                replace h := (rz_g32_inv h).2
                exact fr10.trans (ih _ _ _ _ _ _ _ _ _ h)
              · replace h := if_F h hc8
                replace h := (rz_g32_inv h).2
                exact fr.trans (ih _ _ _ _ _ _ _ _ _ h)
            · replace h := if_F h hc7
              replace h := (rz_g32_inv h).2
              exact fr.trans (ih _ _ _ _ _ _ _ _ _ h)
          · replace h := if_F h hc6
            replace h := (rz_g32_inv h).2
            exact fr.trans (ih _ _ _ _ _ _ _ _ _ h)
        · replace h := if_F h hc5
          replace h := (rz_g32_inv h).2
          exact fr.trans (ih _ _ _ _ _ _ _ _ _ h)
      · replace h := if_F h hc4
        replace h := (rz_g32_inv h).2
        exact fr.trans (ih _ _ _ _ _ _ _ _ _ h)
    · replace h := if_F h hc1
      cases h
      exact fr
theorem wx88_greatest (F : Nat) {a0 : Int} {a1 : Int} {a2 : Int} {a3 : Int} {A : rz_A} {r : Int} {A' : rz_A} (h : x88_greatest F a0 a1 a2 a3 A = some (r, A')) : Fr cs_x88_greatest fs_x88_greatest A A' := by
  have fr : Fr cs_x88_greatest fs_x88_greatest A A := Fr.rfl
  unfold x88_greatest at h
  exact fr.trans (wx88_greatest_6 F F _ _ _ _ _ _ _ _ _ h)
def cs_x90_less : List Nat := []
def fs_x90_less : List (Nat × Nat) := []
theorem wx90_less (F : Nat) {a0 : Int} {a1 : Int} {A : rz_A} {r : Int} {A' : rz_A} (h : x90_less F a0 a1 A = some (r, A')) : Fr cs_x90_less fs_x90_less A A' := by
  have fr : Fr cs_x90_less fs_x90_less A A := Fr.rfl
  unfold x90_less at h
  by_cases hc1 : a1 ≤ 0
  · replace h := if_T h hc1
    cases h
    exact fr
  · replace h := if_F h hc1
    obtain ⟨r2, A2, hf2, h⟩ := rz_b_inv h
    have fr2 := fr.trans ((wx77_share F hf2).mono (by decide) (by decide))
    replace h := (rz_g32_inv h).2
    replace h := (rz_g32_inv h).2
    cases h
    exact fr2
def cs_x85_rate : List Nat := [58, 59, 60, 61, 62]
def fs_x85_rate : List (Nat × Nat) := [(56, 8), (56, 9), (56, 10), (56, 11), (56, 12), (57, 0)]
theorem wx85_rate (F : Nat) {a0 : Int} {A : rz_A} {r : Int} {A' : rz_A} (h : x85_rate F a0 A = some (r, A')) : Fr cs_x85_rate fs_x85_rate A A' := by
  have fr : Fr cs_x85_rate fs_x85_rate A A := Fr.rfl
  unfold x85_rate at h
  by_cases hc1 : 0 ≤ a0
  · replace h := if_T h hc1
    by_cases hc2 : (A.1 51 10) ≤ a0
    · replace h := if_T h hc2
      cases h
      exact fr
    · replace h := if_F h hc2
      obtain ⟨r3, A3, hf3, h⟩ := rz_b_inv h
      have fr3 := fr.trans ((wx86_postOf F hf3).mono (by decide) (by decide))
      obtain ⟨r4, A4, hf4, h⟩ := rz_b_inv h
      have fr4 := fr3.trans ((wx87_timeOf F hf4).mono (by decide) (by decide))
      obtain ⟨r5, A5, hf5, h⟩ := rz_b_inv h
      have fr5 := fr4.trans ((wx70_stretchStart F hf5).mono (by decide) (by decide))
      obtain ⟨r6, A6, hf6, h⟩ := rz_b_inv h
      have fr6 := fr5.trans ((wx71_stretchEnd F hf6).mono (by decide) (by decide))
      obtain ⟨_, A7, hf7, h⟩ := rz_b_inv h
      have fr7 := fr6.trans ((wx72_draw F hf7).mono (by decide) (by decide))
      replace h := (rz_gx_inv h).2.2
      replace h := (rz_gx_inv h).2.2
      obtain ⟨r12, A12, hf12, h⟩ := rz_b_inv h
      have fr12 := fr7.trans ((wx80_flowBy_c F hf12).mono (by decide) (by decide))
      by_cases hc13 : r12 < 0
      · replace h := if_T h hc13
        cases h
        exact fr12
      · replace h := if_F h hc13
        obtain ⟨r14, A14, hf14, h⟩ := rz_b_inv h
        have fr14 := fr12.trans ((wx88_greatest F hf14).mono (by decide) (by decide))
        obtain ⟨r15, A15, hf15, h⟩ := rz_b_inv h
        have fr15 := fr14.trans ((wx90_less F hf15).mono (by decide) (by decide))
        obtain ⟨r16, A16, hf16, h⟩ := rz_b_inv h
        have fr16 := fr15.trans ((wx88_greatest F hf16).mono (by decide) (by decide))
        obtain ⟨r17, A17, hf17, h⟩ := rz_b_inv h
        have fr17 := fr16.trans ((wx90_less F hf17).mono (by decide) (by decide))
        cases h
        exact fr17
  · replace h := if_F h hc1
    cases h
    exact fr
def cs_x93_isBeyond_c : List Nat := []
def fs_x93_isBeyond_c : List (Nat × Nat) := []
theorem wx93_isBeyond_c (F : Nat) {a0 : Int} {A : rz_A} {r : Int} {A' : rz_A} (h : x93_isBeyond_c F a0 A = some (r, A')) : Fr cs_x93_isBeyond_c fs_x93_isBeyond_c A A' := by
  have fr : Fr cs_x93_isBeyond_c fs_x93_isBeyond_c A A := Fr.rfl
  unfold x93_isBeyond_c at h
  by_cases hc1 : 0 < (A.1 57 0)
  · replace h := if_T h hc1
    replace h := (rz_g32_inv h).2
    replace h := (rz_gx_inv h).2.2
    by_cases hc5 : (A.1 58 (((A.1 57 0) - 1)).toNat) < a0
    · replace h := if_T h hc5
      cases h
      exact fr
    · replace h := if_F h hc5
      cases h
      exact fr
  · replace h := if_F h hc1
    cases h
    exact fr
def cs_x92_beyond : List Nat := []
def fs_x92_beyond : List (Nat × Nat) := []
theorem wx92_beyond (F : Nat) {a0 : Int} {A : rz_A} {r : Int} {A' : rz_A} (h : x92_beyond F a0 A = some (r, A')) : Fr cs_x92_beyond fs_x92_beyond A A' := by
  have fr : Fr cs_x92_beyond fs_x92_beyond A A := Fr.rfl
  unfold x92_beyond at h
  replace h := (rz_gx_inv h).2.2
  obtain ⟨r3, A3, hf3, h⟩ := rz_b_inv h
  have fr3 := fr.trans ((wx93_isBeyond_c F hf3).mono (by decide) (by decide))
  by_cases hc4 : r3 = 0
  · replace h := if_T h hc4
    cases h
    exact fr3
  · replace h := if_F h hc4
    cases h
    exact fr3
def cs_x91_howWrong : List Nat := []
def fs_x91_howWrong : List (Nat × Nat) := []
theorem wx91_howWrong (F : Nat) {a0 : Int} {A : rz_A} {r : Int} {A' : rz_A} (h : x91_howWrong F a0 A = some (r, A')) : Fr cs_x91_howWrong fs_x91_howWrong A A' := by
  have fr : Fr cs_x91_howWrong fs_x91_howWrong A A := Fr.rfl
  unfold x91_howWrong at h
  obtain ⟨r1, A1, hf1, h⟩ := rz_b_inv h
  have fr1 := fr.trans ((wx92_beyond F hf1).mono (by decide) (by decide))
  by_cases hc2 : r1 = 1
  · replace h := if_T h hc2
    replace h := (rz_g32_inv h).2
    replace h := (rz_g32_inv h).2
    obtain ⟨r5, A5, hf5, h⟩ := rz_b_inv h
    have fr5 := fr1.trans ((wx61_min F hf5).mono (by decide) (by decide))
    cases h
    exact fr5
  · replace h := if_F h hc2
    obtain ⟨r6, A6, hf6, h⟩ := rz_b_inv h
    have fr6 := fr1.trans ((wx61_min F hf6).mono (by decide) (by decide))
    cases h
    exact fr6
def cs_x84_flowOf : List Nat := [1, 49, 50, 52, 53, 54, 55, 58, 59, 60, 61, 62]
def fs_x84_flowOf : List (Nat × Nat) := [(51, 3), (51, 4), (51, 5), (51, 10), (56, 8), (56, 9), (56, 10), (56, 11), (56, 12), (57, 0)]
theorem wx84_flowOf (F : Nat) {a0 : Int} {a1 : Int} {a2 : Int} {a3 : Int} {A : rz_A} {r : Int} {A' : rz_A} (h : x84_flowOf F a0 a1 a2 a3 A = some (r, A')) : Fr cs_x84_flowOf fs_x84_flowOf A A' := by
  have fr : Fr cs_x84_flowOf fs_x84_flowOf A A := Fr.rfl
  unfold x84_flowOf at h
  obtain ⟨r1, A1, hf1, h⟩ := rz_b_inv h
  have fr1 := fr.trans ((wx5_has F hf1).mono (by decide) (by decide))
  by_cases hc2 : r1 = 0
  · replace h := if_T h hc2
    obtain ⟨r3, A3, hf3, h⟩ := rz_b_inv h
    have fr3 := fr1.trans ((wx1_refuse F hf3).mono (by decide) (by decide))
    cases h
    exact fr3
  · replace h := if_F h hc2
    by_cases hc4 : 0 ≤ a3
    · replace h := if_T h hc4
      by_cases hc5 : 2 < a3
      · replace h := if_T h hc5
        obtain ⟨r6, A6, hf6, h⟩ := rz_b_inv h
        have fr6 := fr1.trans ((wx1_refuse F hf6).mono (by decide) (by decide))
        cases h
        exact fr6
      · replace h := if_F h hc5
        obtain ⟨r7, A7, hf7, h⟩ := rz_b_inv h
        have fr7 := fr1.trans ((wx9_whyNotAt F hf7).mono (by decide) (by decide))
        by_cases hc8 : r7 = 0
        · replace h := if_T h hc8
          obtain ⟨_, A9, hf9, h⟩ := rz_b_inv h
          have fr9 := fr7.trans ((wx20_see F hf9).mono (by decide) (by decide))
          obtain ⟨r10, A10, hf10, h⟩ := rz_b_inv h
          have fr10 := fr9.trans ((wx32_find F hf10).mono (by decide) (by decide))
          obtain ⟨r11, A11, hf11, h⟩ := rz_b_inv h
          have fr11 := fr10.trans ((wx85_rate F hf11).mono (by decide) (by decide))
          by_cases hc12 : r11 < 0
          · replace h := if_T h hc12
            obtain ⟨r13, A13, hf13, h⟩ := rz_b_inv h
            have fr13 := fr11.trans ((wx1_refuse F hf13).mono (by decide) (by decide))
            cases h
            exact fr13
          · replace h := if_F h hc12
            by_cases hc14 : a3 = 0
            · replace h := if_T h hc14
              cases h
              exact fr11
            · replace h := if_F h hc14
              by_cases hc15 : a3 = 1
              · replace h := if_T h hc15
                obtain ⟨r16, A16, hf16, h⟩ := rz_b_inv h
                have fr16 := fr11.trans ((wx91_howWrong F hf16).mono (by decide) (by decide))
                cases h
                exact fr16
              · replace h := if_F h hc15
                obtain ⟨r17, A17, hf17, h⟩ := rz_b_inv h
                have fr17 := fr11.trans ((wx92_beyond F hf17).mono (by decide) (by decide))
                cases h
                exact fr17
        · replace h := if_F h hc8
          obtain ⟨r18, A18, hf18, h⟩ := rz_b_inv h
          have fr18 := fr7.trans ((wx1_refuse F hf18).mono (by decide) (by decide))
          cases h
          exact fr18
    · replace h := if_F h hc4
      obtain ⟨r19, A19, hf19, h⟩ := rz_b_inv h
      have fr19 := fr1.trans ((wx1_refuse F hf19).mono (by decide) (by decide))
      cases h
      exact fr19
def cs_x95_falls_b : List Nat := []
def fs_x95_falls_b : List (Nat × Nat) := []
theorem wx95_falls_b (F : Nat) (q : Nat) {a0 : Int} {a1 : Int} {a2 : Int} {A : rz_A} {r : Int} {A' : rz_A} (h : x95_falls_b F q a0 a1 a2 A = some (r, A')) : Fr cs_x95_falls_b fs_x95_falls_b A A' := by
  have fr : Fr cs_x95_falls_b fs_x95_falls_b A A := Fr.rfl
  unfold x95_falls_b at h
  by_cases hc1 : 0 < a0
  · replace h := if_T h hc1
    replace h := (rz_g32_inv h).2
    replace h := (rz_gx_inv h).2.2
    by_cases hc5 : (A.1 (70 + 3 * q) ((a0 - 1)).toNat) < a1
    · replace h := if_T h hc5
      by_cases hc6 : a2 < (A.1 (71 + 3 * q) ((a0 - 1)).toNat)
      · replace h := if_T h hc6
        cases h
        exact fr
      · replace h := if_F h hc6
        cases h
        exact fr
    · replace h := if_F h hc5
      cases h
      exact fr
  · replace h := if_F h hc1
    cases h
    exact fr
def cs_x81_flowBelow_b : List Nat := []
def fs_x81_flowBelow_b : List (Nat × Nat) := []
theorem wx81_flowBelow_b (F : Nat) (q : Nat) {a0 : Int} {a1 : Int} {A : rz_A} {r : Int} {A' : rz_A} (h : x81_flowBelow_b F q a0 a1 A = some (r, A')) : Fr cs_x81_flowBelow_b fs_x81_flowBelow_b A A' := by
  have fr : Fr cs_x81_flowBelow_b fs_x81_flowBelow_b A A := Fr.rfl
  unfold x81_flowBelow_b at h
  by_cases hc1 : (A.1 (70 + 3 * q) 0) ≤ a1
  · replace h := if_T h hc1
    cases h
    exact fr
  · replace h := if_F h hc1
    by_cases hc2 : a0 ≤ a1
    · replace h := if_T h hc2
      cases h
      exact fr
    · replace h := if_F h hc2
      replace h := (rz_g32_inv h).2
      replace h := (rz_g32_inv h).2
      obtain ⟨r5, A5, hf5, h⟩ := rz_b_inv h
      have fr5 := fr.trans ((wx77_share F hf5).mono (by decide) (by decide))
      replace h := (rz_g32_inv h).2
      cases h
      exact fr5
def cs_x80_flowBy_b : List Nat := []
def fs_x80_flowBy_b : List (Nat × Nat) := []
theorem wx80_flowBy_b_71 (F : Nat) (q : Nat) : ∀ (v1 : Int) (v3 : Int) (A : rz_A) (r : Int) (A' : rz_A), x80_flowBy_b_71 F q v1 v3 A = some (r, A') → Fr cs_x80_flowBy_b fs_x80_flowBy_b A A' := by
  intro v1 v3 A r A' h
  have fr : Fr cs_x80_flowBy_b fs_x80_flowBy_b A A := Fr.rfl
  unfold x80_flowBy_b_71 at h
  replace h := (rz_g32_inv h).2
  replace h := (rz_gx_inv h).2.2
  replace h := (rz_gx_inv h).2.2
  replace h := (rz_g32_inv h).2
  replace h := (rz_g32_inv h).2
  replace h := (rz_g32_inv h).2
  obtain ⟨r9, A9, hf9, h⟩ := rz_b_inv h
  have fr9 := fr.trans ((wx77_share F hf9).mono (by decide) (by decide))
  replace h := (rz_g64_inv h).2
  obtain ⟨r11, A11, hf11, h⟩ := rz_b_inv h
  have fr11 := fr9.trans ((wx28_min F hf11).mono (by decide) (by decide))
  replace h := (rz_g32_inv h).2
  cases h
  exact fr11
theorem wx80_flowBy_b_43 (F : Nat) (q : Nat) : ∀ (n : Nat) (v1 : Int) (v3 : Int) (A : rz_A) (r : Int) (A' : rz_A), x80_flowBy_b_43 F q n v1 v3 A = some (r, A') → Fr cs_x80_flowBy_b fs_x80_flowBy_b A A' := by
  intro n
  induction n with
  | zero => intro v1 v3 A r A' h; cases h
  | succ n ih =>
    intro v1 v3 A r A' h
    have fr : Fr cs_x80_flowBy_b fs_x80_flowBy_b A A := Fr.rfl
    rw [x80_flowBy_b_43] at h
    replace h := (rz_g32_inv h).2
    by_cases hc2 : v3 < ((A.1 (69 + 3 * q) 0) - 2)
    · replace h := if_T h hc2
      replace h := (rz_g32_inv h).2
      replace h := (rz_gx_inv h).2.2
      by_cases hc6 : (A.1 (70 + 3 * q) ((v3 + 1)).toNat) ≤ v1
      · replace h := if_T h hc6
        exact fr.trans (ih _ _ _ _ _ h)
      · replace h := if_F h hc6
        exact fr.trans (wx80_flowBy_b_71 F q _ _ _ _ _ h)
    · replace h := if_F h hc2
      exact fr.trans (wx80_flowBy_b_71 F q _ _ _ _ _ h)
theorem wx80_flowBy_b (F : Nat) (q : Nat) {a0 : Int} {a1 : Int} {A : rz_A} {r : Int} {A' : rz_A} (h : x80_flowBy_b F q a0 a1 A = some (r, A')) : Fr cs_x80_flowBy_b fs_x80_flowBy_b A A' := by
  have fr : Fr cs_x80_flowBy_b fs_x80_flowBy_b A A := Fr.rfl
  unfold x80_flowBy_b at h
  by_cases hc1 : (A.1 (69 + 3 * q) 0) = 0
  · replace h := if_T h hc1
    cases h
    exact fr
  · replace h := if_F h hc1
    by_cases hc2 : a0 < (A.1 (70 + 3 * q) 0)
    · replace h := if_T h hc2
      obtain ⟨r3, A3, hf3, h⟩ := rz_b_inv h
      have fr3 := fr.trans ((wx81_flowBelow_b F q hf3).mono (by decide) (by decide))
      cases h
      exact fr3
    · replace h := if_F h hc2
      by_cases hc4 : (A.1 (69 + 3 * q) 0) = 1
      · replace h := if_T h hc4
        cases h
        exact fr
      · replace h := if_F h hc4
        exact fr.trans (wx80_flowBy_b_43 F q F _ _ _ _ _ h)
def cs_x101_mayDiffer : List Nat := []
def fs_x101_mayDiffer : List (Nat × Nat) := []
theorem wx101_mayDiffer (F : Nat) {a0 : Int} {A : rz_A} {r : Int} {A' : rz_A} (h : x101_mayDiffer F a0 A = some (r, A')) : Fr cs_x101_mayDiffer fs_x101_mayDiffer A A' := by
  have fr : Fr cs_x101_mayDiffer fs_x101_mayDiffer A A := Fr.rfl
  unfold x101_mayDiffer at h
  replace h := (rz_gx_inv h).2.2
  obtain ⟨r3, A3, hf3, h⟩ := rz_b_inv h
  have fr3 := fr.trans ((wx77_share F hf3).mono (by decide) (by decide))
  replace h := (rz_g32_inv h).2
  cases h
  exact fr3
def cs_x100_findShifts_b : List Nat := [68]
def fs_x100_findShifts_b : List (Nat × Nat) := []
theorem wx100_findShifts_b_91 (F : Nat) (q : Nat) : ∀ (n : Nat) (v1 : Int) (v4 : Int) (v5 : Int) (v6 : Int) (v7 : Int) (A : rz_A) (r : Unit) (A' : rz_A), x100_findShifts_b_91 F q n v1 v4 v5 v6 v7 A = some (r, A') → Fr cs_x100_findShifts_b fs_x100_findShifts_b A A' := by
  intro n
  induction n with
  | zero => intro v1 v4 v5 v6 v7 A r A' h; cases h
  | succ n ih =>
    intro v1 v4 v5 v6 v7 A r A' h
    have fr : Fr cs_x100_findShifts_b fs_x100_findShifts_b A A := Fr.rfl
    rw [x100_findShifts_b_91] at h
    by_cases hc1 : v7 ≤ 50
    · replace h := if_T h hc1
      replace h := (rz_gx_inv h).2.2
      replace h := (rz_g32_inv h).2
      obtain ⟨r5, A5, hf5, h⟩ := rz_b_inv h
      have fr5 := fr.trans ((wx80_flowBy_b F q hf5).mono (by decide) (by decide))
      replace h := (rz_g32_inv h).2
      by_cases hc7 : v5 ≤ r5
      · replace h := if_T h hc7
        by_cases hc8 : r5 ≤ v6
        · replace h := if_T h hc8
          replace h := (rz_g32_inv h).2
          replace h := (rz_g32_inv h).2
          replace h := (rz_g32_inv h).2
          replace h := (rz_gx_inv h).2.2
          replace h := (rz_g32_inv h).2
          replace h := (rz_g32_inv h).2
          exact (Fr.aL fr5 (Or.inl (by decide))).trans (ih _ _ _ _ _ _ _ _ h)
        · replace h := if_F h hc8
          replace h := (rz_g32_inv h).2
          exact fr5.trans (ih _ _ _ _ _ _ _ _ h)
      · replace h := if_F h hc7
        replace h := (rz_g32_inv h).2
        exact fr5.trans (ih _ _ _ _ _ _ _ _ h)
    · replace h := if_F h hc1
      cases h
      exact fr
theorem wx100_findShifts_b (F : Nat) (q : Nat) {a0 : Int} {A : rz_A} {r : Unit} {A' : rz_A} (h : x100_findShifts_b F q a0 A = some (r, A')) : Fr cs_x100_findShifts_b fs_x100_findShifts_b A A' := by
  have fr : Fr cs_x100_findShifts_b fs_x100_findShifts_b A A := Fr.rfl
  unfold x100_findShifts_b at h
  replace h := (rz_gx_inv h).2.2
  obtain ⟨r3, A3, hf3, h⟩ := rz_b_inv h
  have fr3 := fr.trans ((wx39_placeOf F hf3).mono (by decide) (by decide))
  replace h := (rz_g32_inv h).2
  replace h := (rz_gx_inv h).2.2
  replace h := (rz_g32_inv h).2
  replace h := (rz_gx_inv h).2.2
  by_cases hc12 : r3 < 0
  · replace h := if_T h hc12
    cases h
    exact (Fr.aL (Fr.aL fr3 (Or.inl (by decide))) (Or.inl (by decide)))
  · replace h := if_F h hc12
    replace h := (rz_gx_inv h).2.2
    obtain ⟨r15, A15, hf15, h⟩ := rz_b_inv h
    have fr15 := (Fr.aL (Fr.aL fr3 (Or.inl (by decide))) (Or.inl (by decide))).trans ((wx101_mayDiffer F hf15).mono (by decide) (by decide))
    replace h := (rz_g32_inv h).2
    obtain ⟨r17, A17, hf17, h⟩ := rz_b_inv h
    have fr17 := fr15.trans ((wx101_mayDiffer F hf17).mono (by decide) (by decide))
    replace h := (rz_g32_inv h).2
    exact fr17.trans (wx100_findShifts_b_91 F q F _ _ _ _ _ _ _ _ h)
def cs_x99_pick : List Nat := [67]
def fs_x99_pick : List (Nat × Nat) := [(64, 6)]
theorem wx99_pick_101 (F : Nat) : ∀ (v1 : Int) (v2 : Int) (A : rz_A) (r : Unit) (A' : rz_A), x99_pick_101 F v1 v2 A = some (r, A') → Fr cs_x99_pick fs_x99_pick A A' := by
  intro v1 v2 A r A' h
  have fr : Fr cs_x99_pick fs_x99_pick A A := Fr.rfl
  unfold x99_pick_101 at h
  replace h := (rz_gx_inv h).2.2
  cases h
  exact (Fr.aI fr (Or.inl (by decide)))
theorem wx99_pick_76 (F : Nat) : ∀ (n : Nat) (v1 : Int) (v2 : Int) (v3 : Int) (A : rz_A) (r : Unit) (A' : rz_A), x99_pick_76 F n v1 v2 v3 A = some (r, A') → Fr cs_x99_pick fs_x99_pick A A' := by
  intro n
  induction n with
  | zero => intro v1 v2 v3 A r A' h; cases h
  | succ n ih =>
    intro v1 v2 v3 A r A' h
    have fr : Fr cs_x99_pick fs_x99_pick A A := Fr.rfl
    rw [x99_pick_76] at h
    by_cases hc1 : v2 < v3
    · replace h := if_T h hc1
      replace h := (rz_g32_inv h).2
      replace h := (rz_gx_inv h).2.2
      replace h := (rz_gx_inv h).2.2
      replace h := (rz_g32_inv h).2
      exact (Fr.aI fr (Or.inl (by decide))).trans (ih _ _ _ _ _ _ h)
    · replace h := if_F h hc1
      exact fr.trans (wx99_pick_101 F _ _ _ _ _ h)
theorem wx99_pick_43 (F : Nat) : ∀ (v1 : Int) (v2 : Int) (A : rz_A) (r : Unit) (A' : rz_A), x99_pick_43 F v1 v2 A = some (r, A') → Fr cs_x99_pick fs_x99_pick A A' := by
  intro v1 v2 A r A' h
  have fr : Fr cs_x99_pick fs_x99_pick A A := Fr.rfl
  unfold x99_pick_43 at h
  by_cases hc1 : 8 ≤ v2
  · replace h := if_T h hc1
    cases h
    exact fr
  · replace h := if_F h hc1
    by_cases hc2 : (A.1 64 6) < 8
    · replace h := if_T h hc2
      replace h := (rz_g32_inv h).2
      replace h := (rz_g32_inv h).2
      exact (Fr.aI fr (Or.inr (by decide))).trans (wx99_pick_76 F F _ _ _ _ _ _ h)
    · replace h := if_F h hc2
      replace h := (rz_g32_inv h).2
      exact fr.trans (wx99_pick_76 F F _ _ _ _ _ _ h)
theorem wx99_pick_5 (F : Nat) : ∀ (n : Nat) (v1 : Int) (v2 : Int) (A : rz_A) (r : Unit) (A' : rz_A), x99_pick_5 F n v1 v2 A = some (r, A') → Fr cs_x99_pick fs_x99_pick A A' := by
  intro n
  induction n with
  | zero => intro v1 v2 A r A' h; cases h
  | succ n ih =>
    intro v1 v2 A r A' h
    have fr : Fr cs_x99_pick fs_x99_pick A A := Fr.rfl
    rw [x99_pick_5] at h
    by_cases hc1 : 0 < v2
    · replace h := if_T h hc1
      replace h := (rz_g32_inv h).2
      replace h := (rz_gx_inv h).2.2
      replace h := (rz_gx_inv h).2.2
      replace h := (rz_gx_inv h).2.2
      by_cases hc9 : (A.1 28 (v1).toNat) < (A.1 28 ((A.1 67 ((v2 - 1)).toNat)).toNat)
      · replace h := if_T h hc9
        replace h := (rz_g32_inv h).2
        exact fr.trans (ih _ _ _ _ _ h)
      · replace h := if_F h hc9
        exact fr.trans (wx99_pick_43 F _ _ _ _ _ h)
    · replace h := if_F h hc1
      exact fr.trans (wx99_pick_43 F _ _ _ _ _ h)
theorem wx99_pick (F : Nat) {a0 : Int} {A : rz_A} {r : Unit} {A' : rz_A} (h : x99_pick F a0 A = some (r, A')) : Fr cs_x99_pick fs_x99_pick A A' := by
  have fr : Fr cs_x99_pick fs_x99_pick A A := Fr.rfl
  unfold x99_pick at h
  exact fr.trans (wx99_pick_5 F F _ _ _ _ _ h)
def cs_x98_gather : List Nat := [67, 68]
def fs_x98_gather : List (Nat × Nat) := [(64, 6)]
theorem wx98_gather_80 (F : Nat) : ∀ (n : Nat) (v1 : Int) (v2 : Int) (A : rz_A) (r : Int) (A' : rz_A), x98_gather_80 F n v1 v2 A = some (r, A') → Fr cs_x98_gather fs_x98_gather A A' := by
  intro n
  induction n with
  | zero => intro v1 v2 A r A' h; cases h
  | succ n ih =>
    intro v1 v2 A r A' h
    have fr : Fr cs_x98_gather fs_x98_gather A A := Fr.rfl
    rw [x98_gather_80] at h
    by_cases hc1 : v2 < (A.1 64 6)
    · replace h := if_T h hc1
      replace h := (rz_gx_inv h).2.2
      by_cases hj4 : v1 = 0
      · replace h := if_T h hj4
        obtain ⟨_, A5, hf5, h⟩ := rz_b_inv h
        have fr5 := fr.trans ((wx100_findShifts_b F 0 hf5).mono (by decide) (by decide))
        replace h := (rz_g32_inv h).2
        exact fr5.trans (ih _ _ _ _ _ h)
      · replace h := if_F h hj4
        by_cases hj7 : v1 = 1
        · replace h := if_T h hj7
          obtain ⟨_, A8, hf8, h⟩ := rz_b_inv h
          have fr8 := fr.trans ((wx100_findShifts_b F 1 hf8).mono (by decide) (by decide))
          replace h := (rz_g32_inv h).2
          exact fr8.trans (ih _ _ _ _ _ h)
        · replace h := if_F h hj7
          by_cases hj10 : v1 = 2
          · replace h := if_T h hj10
            obtain ⟨_, A11, hf11, h⟩ := rz_b_inv h
            have fr11 := fr.trans ((wx100_findShifts_b F 2 hf11).mono (by decide) (by decide))
            replace h := (rz_g32_inv h).2
            exact fr11.trans (ih _ _ _ _ _ h)
          · replace h := if_F h hj10
            by_cases hj13 : v1 = 3
            · replace h := if_T h hj13
              obtain ⟨_, A14, hf14, h⟩ := rz_b_inv h
              have fr14 := fr.trans ((wx100_findShifts_b F 3 hf14).mono (by decide) (by decide))
              replace h := (rz_g32_inv h).2
              exact fr14.trans (ih _ _ _ _ _ h)
            · replace h := if_F h hj13
              by_cases hj16 : v1 = 4
              · replace h := if_T h hj16
                obtain ⟨_, A17, hf17, h⟩ := rz_b_inv h
                have fr17 := fr.trans ((wx100_findShifts_b F 4 hf17).mono (by decide) (by decide))
                replace h := (rz_g32_inv h).2
                exact fr17.trans (ih _ _ _ _ _ h)
              · replace h := if_F h hj16
                obtain ⟨_, A20, hf20, h⟩ := rz_b_inv h
                have fr20 := fr.trans ((wx100_findShifts_b F 5 hf20).mono (by decide) (by decide))
                replace h := (rz_g32_inv h).2
                exact fr20.trans (ih _ _ _ _ _ h)
    · replace h := if_F h hc1
      cases h
      exact fr
theorem wx98_gather_57 (F : Nat) : ∀ (v1 : Int) (A : rz_A) (r : Int) (A' : rz_A), x98_gather_57 F v1 A = some (r, A') → Fr cs_x98_gather fs_x98_gather A A' := by
  intro v1 A r A' h
  have fr : Fr cs_x98_gather fs_x98_gather A A := Fr.rfl
  unfold x98_gather_57 at h
  replace h := (rz_gx_inv h).2.2
  by_cases hj3 : v1 = 0
  · replace h := if_T h hj3
    by_cases hc4 : (A.1 69 0) = 0
    · replace h := if_T h hc4
      cases h
      exact fr
    · replace h := if_F h hc4
      by_cases hc5 : (A.1 64 6) = 0
      · replace h := if_T h hc5
        cases h
        exact fr
      · replace h := if_F h hc5
        exact fr.trans (wx98_gather_80 F F _ _ _ _ _ h)
  · replace h := if_F h hj3
    by_cases hj6 : v1 = 1
    · replace h := if_T h hj6
      by_cases hc7 : (A.1 72 0) = 0
      · replace h := if_T h hc7
        cases h
        exact fr
      · replace h := if_F h hc7
        by_cases hc8 : (A.1 64 6) = 0
        · replace h := if_T h hc8
          cases h
          exact fr
        · replace h := if_F h hc8
          exact fr.trans (wx98_gather_80 F F _ _ _ _ _ h)
    · replace h := if_F h hj6
      by_cases hj9 : v1 = 2
      · replace h := if_T h hj9
        by_cases hc10 : (A.1 75 0) = 0
        · replace h := if_T h hc10
          cases h
          exact fr
        · replace h := if_F h hc10
          by_cases hc11 : (A.1 64 6) = 0
          · replace h := if_T h hc11
            cases h
            exact fr
          · replace h := if_F h hc11
            exact fr.trans (wx98_gather_80 F F _ _ _ _ _ h)
      · replace h := if_F h hj9
        by_cases hj12 : v1 = 3
        · replace h := if_T h hj12
          by_cases hc13 : (A.1 78 0) = 0
          · replace h := if_T h hc13
            cases h
            exact fr
          · replace h := if_F h hc13
            by_cases hc14 : (A.1 64 6) = 0
            · replace h := if_T h hc14
              cases h
              exact fr
            · replace h := if_F h hc14
              exact fr.trans (wx98_gather_80 F F _ _ _ _ _ h)
        · replace h := if_F h hj12
          by_cases hj15 : v1 = 4
          · replace h := if_T h hj15
            by_cases hc16 : (A.1 81 0) = 0
            · replace h := if_T h hc16
              cases h
              exact fr
            · replace h := if_F h hc16
              by_cases hc17 : (A.1 64 6) = 0
              · replace h := if_T h hc17
                cases h
                exact fr
              · replace h := if_F h hc17
                exact fr.trans (wx98_gather_80 F F _ _ _ _ _ h)
          · replace h := if_F h hj15
            by_cases hc19 : (A.1 84 0) = 0
            · replace h := if_T h hc19
              cases h
              exact fr
            · replace h := if_F h hc19
              by_cases hc20 : (A.1 64 6) = 0
              · replace h := if_T h hc20
                cases h
                exact fr
              · replace h := if_F h hc20
                exact fr.trans (wx98_gather_80 F F _ _ _ _ _ h)
theorem wx98_gather_7 (F : Nat) : ∀ (n : Nat) (v1 : Int) (v2 : Int) (A : rz_A) (r : Int) (A' : rz_A), x98_gather_7 F n v1 v2 A = some (r, A') → Fr cs_x98_gather fs_x98_gather A A' := by
  intro n
  induction n with
  | zero => intro v1 v2 A r A' h; cases h
  | succ n ih =>
    intro v1 v2 A r A' h
    have fr : Fr cs_x98_gather fs_x98_gather A A := Fr.rfl
    rw [x98_gather_7] at h
    by_cases hc1 : v2 < (A.1 26 0)
    · replace h := if_T h hc1
      replace h := (rz_gx_inv h).2.2
      by_cases hc4 : (A.1 27 (v2).toNat) = v1
      · replace h := if_T h hc4
        obtain ⟨r5, A5, hf5, h⟩ := rz_b_inv h
        have fr5 := fr.trans ((wx39_placeOf F hf5).mono (by decide) (by decide))
        by_cases hc6 : 0 ≤ r5
        · replace h := if_T h hc6
          obtain ⟨_, A7, hf7, h⟩ := rz_b_inv h
          have fr7 := fr5.trans ((wx99_pick F hf7).mono (by decide) (by decide))
          replace h := (rz_g32_inv h).2
          exact fr7.trans (ih _ _ _ _ _ h)
        · replace h := if_F h hc6
          replace h := (rz_g32_inv h).2
          exact fr5.trans (ih _ _ _ _ _ h)
      · replace h := if_F h hc4
        replace h := (rz_g32_inv h).2
        exact fr.trans (ih _ _ _ _ _ h)
    · replace h := if_F h hc1
      exact fr.trans (wx98_gather_57 F _ _ _ _ h)
theorem wx98_gather (F : Nat) {a0 : Int} {A : rz_A} {r : Int} {A' : rz_A} (h : x98_gather F a0 A = some (r, A')) : Fr cs_x98_gather fs_x98_gather A A' := by
  have fr : Fr cs_x98_gather fs_x98_gather A A := Fr.rfl
  unfold x98_gather at h
  exact (Fr.aI fr (Or.inr (by decide))).trans (wx98_gather_7 F F _ _ _ _ _ h)
def cs_x105_isRunStart : List Nat := []
def fs_x105_isRunStart : List (Nat × Nat) := []
theorem wx105_isRunStart (F : Nat) {a0 : Int} {a1 : Int} {A : rz_A} {r : Int} {A' : rz_A} (h : x105_isRunStart F a0 a1 A = some (r, A')) : Fr cs_x105_isRunStart fs_x105_isRunStart A A' := by
  have fr : Fr cs_x105_isRunStart fs_x105_isRunStart A A := Fr.rfl
  unfold x105_isRunStart at h
  by_cases hc1 : a1 = 0
  · replace h := if_T h hc1
    cases h
    exact fr
  · replace h := if_F h hc1
    replace h := (rz_g32_inv h).2
    by_cases hc3 : (rz_oI fAnd (rz_oI fShr a0 (a1 - 1)) 1) = 1
    · replace h := if_T h hc3
      cases h
      exact fr
    · replace h := if_F h hc3
      cases h
      exact fr
def cs_x104_allGo : List Nat := []
def fs_x104_allGo : List (Nat × Nat) := []
theorem wx104_allGo_39 (F : Nat) {k12 : (Int → Int → Int → Int → rz_A → Option (Int × rz_A))} (hkk12 : ∀ (v1 : Int) (v2 : Int) (v4 : Int) (v6 : Int) (A : rz_A) (r : Int) (A' : rz_A), k12 v1 v2 v4 v6 A = some (r, A') → Fr cs_x104_allGo fs_x104_allGo A A') : ∀ (v1 : Int) (v2 : Int) (v4 : Int) (v6 : Int) (A : rz_A) (r : Int) (A' : rz_A), x104_allGo_39 F k12 v1 v2 v4 v6 A = some (r, A') → Fr cs_x104_allGo fs_x104_allGo A A' := by
  intro v1 v2 v4 v6 A r A' h
  have fr : Fr cs_x104_allGo fs_x104_allGo A A := Fr.rfl
  unfold x104_allGo_39 at h
  replace h := (rz_g32_inv h).2
  replace h := (rz_gx_inv h).2.2
  replace h := (rz_g32_inv h).2
  replace h := (rz_gx_inv h).2.2
  by_cases hc7 : (rz_oL gOr (rz_oL gAnd v2 (A.2 68 ((2 * v6)).toNat)) (rz_oL gAnd v4 (A.2 68 (((2 * v6) + 1)).toNat))) = 0
  · replace h := if_T h hc7
    cases h
    exact fr
  · replace h := if_F h hc7
    replace h := (rz_g32_inv h).2
    exact fr.trans (hkk12 _ _ _ _ _ _ _ h)
theorem wx104_allGo_12 (F : Nat) : ∀ (n : Nat) (v1 : Int) (v2 : Int) (v4 : Int) (v6 : Int) (A : rz_A) (r : Int) (A' : rz_A), x104_allGo_12 F n v1 v2 v4 v6 A = some (r, A') → Fr cs_x104_allGo fs_x104_allGo A A' := by
  intro n
  induction n with
  | zero => intro v1 v2 v4 v6 A r A' h; cases h
  | succ n ih =>
    intro v1 v2 v4 v6 A r A' h
    have fr : Fr cs_x104_allGo fs_x104_allGo A A := Fr.rfl
    rw [x104_allGo_12] at h
    by_cases hc1 : v6 < (A.1 64 6)
    · replace h := if_T h hc1
      obtain ⟨r2, A2, hf2, h⟩ := rz_b_inv h
      have fr2 := fr.trans ((wx105_isRunStart F hf2).mono (by decide) (by decide))
      by_cases hc3 : r2 = 0
      · replace h := if_T h hc3
        exact fr2.trans (wx104_allGo_39 F ih _ _ _ _ _ _ _ h)
      · replace h := if_F h hc3
        exact fr2.trans (wx104_allGo_39 F ih _ _ _ _ _ _ _ h)
    · replace h := if_F h hc1
      cases h
      exact fr
theorem wx104_allGo (F : Nat) {a0 : Int} {A : rz_A} {r : Int} {A' : rz_A} (h : x104_allGo F a0 A = some (r, A')) : Fr cs_x104_allGo fs_x104_allGo A A' := by
  have fr : Fr cs_x104_allGo fs_x104_allGo A A := Fr.rfl
  unfold x104_allGo at h
  exact fr.trans (wx104_allGo_12 F F _ _ _ _ _ _ _ h)
def cs_x102_search : List Nat := []
def fs_x102_search : List (Nat × Nat) := [(64, 8), (64, 9), (64, 10)]
theorem wx102_search_88 (F : Nat) : ∀ (A : rz_A) (r : Int) (A' : rz_A), x102_search_88 F A = some (r, A') → Fr cs_x102_search fs_x102_search A A' := by
  intro A r A' h
  have fr : Fr cs_x102_search fs_x102_search A A := Fr.rfl
  unfold x102_search_88 at h
  by_cases hc1 : 0 < (A.1 64 9)
  · replace h := if_T h hc1
    cases h
    exact fr
  · replace h := if_F h hc1
    cases h
    exact fr
theorem wx102_search_13 (F : Nat) : ∀ (n : Nat) (v1 : Int) (A : rz_A) (r : Int) (A' : rz_A), x102_search_13 F n v1 A = some (r, A') → Fr cs_x102_search fs_x102_search A A' := by
  intro n
  induction n with
  | zero => intro v1 A r A' h; cases h
  | succ n ih =>
    intro v1 A r A' h
    have fr : Fr cs_x102_search fs_x102_search A A := Fr.rfl
    rw [x102_search_13] at h
    replace h := (rz_g32_inv h).2
    by_cases hc2 : v1 < (rz_oI fShl 1 ((A.1 64 6) - 1))
    · replace h := if_T h hc2
      obtain ⟨r3, A3, hf3, h⟩ := rz_b_inv h
      have fr3 := fr.trans ((wx103_bitCount F hf3).mono (by decide) (by decide))
      by_cases hc4 : r3 ≤ (A3.1 64 8)
      · replace h := if_T h hc4
        obtain ⟨r5, A5, hf5, h⟩ := rz_b_inv h
        have fr5 := fr3.trans ((wx104_allGo F hf5).mono (by decide) (by decide))
        by_cases hc6 : r5 = 0
        · replace h := if_T h hc6
          replace h := (rz_g32_inv h).2
          exact fr5.trans (ih _ _ _ _ h)
        · replace h := if_F h hc6
          by_cases hc8 : r3 < (A5.1 64 8)
          · replace h := if_T h hc8
            replace h := (rz_g32_inv h).2
            exact (Fr.aI (Fr.aI (Fr.aI (Fr.aI fr5 (Or.inr (by decide))) (Or.inr (by decide))) (Or.inr (by decide))) (Or.inr (by decide))).trans (ih _ _ _ _ h)
          · replace h := if_F h hc8
            replace h := (rz_g32_inv h).2
            replace h := (rz_g32_inv h).2
            exact (Fr.aI fr5 (Or.inr (by decide))).trans (ih _ _ _ _ h)
      · replace h := if_F h hc4
        replace h := (rz_g32_inv h).2
        exact fr3.trans (ih _ _ _ _ h)
    · replace h := if_F h hc2
      exact fr.trans (wx102_search_88 F _ _ _ h)
theorem wx102_search (F : Nat) {A : rz_A} {r : Int} {A' : rz_A} (h : x102_search F A = some (r, A')) : Fr cs_x102_search fs_x102_search A A' := by
  have fr : Fr cs_x102_search fs_x102_search A A := Fr.rfl
  unfold x102_search at h
  exact (Fr.aI (Fr.aI fr (Or.inr (by decide))) (Or.inr (by decide))).trans (wx102_search_13 F F _ _ _ _ h)
def cs_x97_breaks : List Nat := [1, 49, 50, 52, 53, 54, 55, 67, 68]
def fs_x97_breaks : List (Nat × Nat) := [(51, 3), (51, 4), (51, 5), (51, 10), (64, 6), (64, 8), (64, 9), (64, 10)]
theorem wx97_breaks (F : Nat) {a0 : Int} {a1 : Int} {A : rz_A} {r : Int} {A' : rz_A} (h : x97_breaks F a0 a1 A = some (r, A')) : Fr cs_x97_breaks fs_x97_breaks A A' := by
  have fr : Fr cs_x97_breaks fs_x97_breaks A A := Fr.rfl
  unfold x97_breaks at h
  obtain ⟨r1, A1, hf1, h⟩ := rz_b_inv h
  have fr1 := fr.trans ((wx5_has F hf1).mono (by decide) (by decide))
  by_cases hc2 : r1 = 0
  · replace h := if_T h hc2
    obtain ⟨r3, A3, hf3, h⟩ := rz_b_inv h
    have fr3 := fr1.trans ((wx1_refuse F hf3).mono (by decide) (by decide))
    cases h
    exact fr3
  · replace h := if_F h hc2
    by_cases hc4 : 0 ≤ a1
    · replace h := if_T h hc4
      by_cases hc5 : 3 < a1
      · replace h := if_T h hc5
        obtain ⟨r6, A6, hf6, h⟩ := rz_b_inv h
        have fr6 := fr1.trans ((wx1_refuse F hf6).mono (by decide) (by decide))
        cases h
        exact fr6
      · replace h := if_F h hc5
        obtain ⟨_, A7, hf7, h⟩ := rz_b_inv h
        have fr7 := fr1.trans ((wx20_see F hf7).mono (by decide) (by decide))
        obtain ⟨r8, A8, hf8, h⟩ := rz_b_inv h
        have fr8 := fr7.trans ((wx98_gather F hf8).mono (by decide) (by decide))
        by_cases hc9 : r8 = 0
        · replace h := if_T h hc9
          obtain ⟨r10, A10, hf10, h⟩ := rz_b_inv h
          have fr10 := fr8.trans ((wx1_refuse F hf10).mono (by decide) (by decide))
          cases h
          exact fr10
        · replace h := if_F h hc9
          by_cases hc11 : a1 = 3
          · replace h := if_T h hc11
            cases h
            exact fr8
          · replace h := if_F h hc11
            obtain ⟨r12, A12, hf12, h⟩ := rz_b_inv h
            have fr12 := fr8.trans ((wx102_search F hf12).mono (by decide) (by decide))
            by_cases hc13 : r12 = 0
            · replace h := if_T h hc13
              cases h
              exact fr12
            · replace h := if_F h hc13
              by_cases hc14 : a1 = 0
              · replace h := if_T h hc14
                cases h
                exact fr12
              · replace h := if_F h hc14
                by_cases hc15 : a1 = 1
                · replace h := if_T h hc15
                  cases h
                  exact fr12
                · replace h := if_F h hc15
                  cases h
                  exact fr12
    · replace h := if_F h hc4
      obtain ⟨r16, A16, hf16, h⟩ := rz_b_inv h
      have fr16 := fr1.trans ((wx1_refuse F hf16).mono (by decide) (by decide))
      cases h
      exact fr16
def cs_x108_runGoesWith : List Nat := []
def fs_x108_runGoesWith : List (Nat × Nat) := []
theorem wx108_runGoesWith_47 (F : Nat) {k26 : (Int → Int → Int → Int → Int → rz_A → Option (Int × rz_A))} (hkk26 : ∀ (v1 : Int) (v2 : Int) (v4 : Int) (v5 : Int) (v6 : Int) (A : rz_A) (r : Int) (A' : rz_A), k26 v1 v2 v4 v5 v6 A = some (r, A') → Fr cs_x108_runGoesWith fs_x108_runGoesWith A A') : ∀ (v1 : Int) (v2 : Int) (v4 : Int) (v5 : Int) (v6 : Int) (A : rz_A) (r : Int) (A' : rz_A), x108_runGoesWith_47 F k26 v1 v2 v4 v5 v6 A = some (r, A') → Fr cs_x108_runGoesWith fs_x108_runGoesWith A A' := by
  intro v1 v2 v4 v5 v6 A r A' h
  have fr : Fr cs_x108_runGoesWith fs_x108_runGoesWith A A := Fr.rfl
  unfold x108_runGoesWith_47 at h
  by_cases hc1 : v5 = v2
  · replace h := if_T h hc1
    replace h := (rz_g32_inv h).2
    replace h := (rz_g32_inv h).2
    replace h := (rz_g32_inv h).2
    replace h := (rz_gx_inv h).2.2
    replace h := (rz_g32_inv h).2
    by_cases hc8 : (rz_oL gAnd (rz_oS gShr (A.2 68 (((2 * v6) + (v4.tdiv 64))).toNat) (v4.tmod 64)) 1) = 0
    · replace h := if_T h hc8
      cases h
      exact fr
    · replace h := if_F h hc8
      replace h := (rz_g32_inv h).2
      exact fr.trans (hkk26 _ _ _ _ _ _ _ _ h)
  · replace h := if_F h hc1
    replace h := (rz_g32_inv h).2
    exact fr.trans (hkk26 _ _ _ _ _ _ _ _ h)
theorem wx108_runGoesWith_26 (F : Nat) : ∀ (n : Nat) (v1 : Int) (v2 : Int) (v4 : Int) (v5 : Int) (v6 : Int) (A : rz_A) (r : Int) (A' : rz_A), x108_runGoesWith_26 F n v1 v2 v4 v5 v6 A = some (r, A') → Fr cs_x108_runGoesWith fs_x108_runGoesWith A A' := by
  intro n
  induction n with
  | zero => intro v1 v2 v4 v5 v6 A r A' h; cases h
  | succ n ih =>
    intro v1 v2 v4 v5 v6 A r A' h
    have fr : Fr cs_x108_runGoesWith fs_x108_runGoesWith A A := Fr.rfl
    rw [x108_runGoesWith_26] at h
    by_cases hc1 : v6 < (A.1 64 6)
    · replace h := if_T h hc1
      obtain ⟨r2, A2, hf2, h⟩ := rz_b_inv h
      have fr2 := fr.trans ((wx105_isRunStart F hf2).mono (by decide) (by decide))
      by_cases hc3 : r2 = 0
      · replace h := if_T h hc3
        exact fr2.trans (wx108_runGoesWith_47 F ih _ _ _ _ _ _ _ _ h)
      · replace h := if_F h hc3
        replace h := (rz_g32_inv h).2
        exact fr2.trans (wx108_runGoesWith_47 F ih _ _ _ _ _ _ _ _ h)
    · replace h := if_F h hc1
      cases h
      exact fr
theorem wx108_runGoesWith (F : Nat) {a0 : Int} {a1 : Int} {a2 : Int} {A : rz_A} {r : Int} {A' : rz_A} (h : x108_runGoesWith F a0 a1 a2 A = some (r, A')) : Fr cs_x108_runGoesWith fs_x108_runGoesWith A A' := by
  have fr : Fr cs_x108_runGoesWith fs_x108_runGoesWith A A := Fr.rfl
  unfold x108_runGoesWith at h
  by_cases hc1 : (-50) ≤ a2
  · replace h := if_T h hc1
    by_cases hc2 : 50 < a2
    · replace h := if_T h hc2
      cases h
      exact fr
    · replace h := if_F h hc2
      replace h := (rz_g32_inv h).2
      exact fr.trans (wx108_runGoesWith_26 F F _ _ _ _ _ _ _ _ h)
  · replace h := if_F h hc1
    cases h
    exact fr
def cs_x107_leastShift : List Nat := []
def fs_x107_leastShift : List (Nat × Nat) := []
theorem wx107_leastShift_2 (F : Nat) : ∀ (n : Nat) (v1 : Int) (v2 : Int) (A : rz_A) (r : Int) (A' : rz_A), x107_leastShift_2 F n v1 v2 A = some (r, A') → Fr cs_x107_leastShift fs_x107_leastShift A A' := by
  intro n
  induction n with
  | zero => intro v1 v2 A r A' h; cases h
  | succ n ih =>
    intro v1 v2 A r A' h
    have fr : Fr cs_x107_leastShift fs_x107_leastShift A A := Fr.rfl
    rw [x107_leastShift_2] at h
    by_cases hc1 : v2 ≤ 50
    · replace h := if_T h hc1
      replace h := (rz_g32_inv h).2
      obtain ⟨r3, A3, hf3, h⟩ := rz_b_inv h
      have fr3 := fr.trans ((wx108_runGoesWith F hf3).mono (by decide) (by decide))
      by_cases hc4 : r3 = 0
      · replace h := if_T h hc4
        obtain ⟨r5, A5, hf5, h⟩ := rz_b_inv h
        have fr5 := fr3.trans ((wx108_runGoesWith F hf5).mono (by decide) (by decide))
        by_cases hc6 : r5 = 0
        · replace h := if_T h hc6
          replace h := (rz_g32_inv h).2
          exact fr5.trans (ih _ _ _ _ _ h)
        · replace h := if_F h hc6
          cases h
          exact fr5
      · replace h := if_F h hc4
        cases h
        exact fr3
    · replace h := if_F h hc1
      cases h
      exact fr
theorem wx107_leastShift (F : Nat) {a0 : Int} {A : rz_A} {r : Int} {A' : rz_A} (h : x107_leastShift F a0 A = some (r, A')) : Fr cs_x107_leastShift fs_x107_leastShift A A' := by
  have fr : Fr cs_x107_leastShift fs_x107_leastShift A A := Fr.rfl
  unfold x107_leastShift at h
  exact fr.trans (wx107_leastShift_2 F F _ _ _ _ _ h)
def cs_x106_shift : List Nat := [1, 49, 50, 52, 53, 54, 55, 67, 68]
def fs_x106_shift : List (Nat × Nat) := [(51, 3), (51, 4), (51, 5), (51, 10), (64, 6), (64, 8), (64, 9), (64, 10)]
theorem wx106_shift (F : Nat) {a0 : Int} {a1 : Int} {A : rz_A} {r : Int} {A' : rz_A} (h : x106_shift F a0 a1 A = some (r, A')) : Fr cs_x106_shift fs_x106_shift A A' := by
  have fr : Fr cs_x106_shift fs_x106_shift A A := Fr.rfl
  unfold x106_shift at h
  obtain ⟨r1, A1, hf1, h⟩ := rz_b_inv h
  have fr1 := fr.trans ((wx5_has F hf1).mono (by decide) (by decide))
  by_cases hc2 : r1 = 0
  · replace h := if_T h hc2
    obtain ⟨r3, A3, hf3, h⟩ := rz_b_inv h
    have fr3 := fr1.trans ((wx10_refuseAsTold F hf3).mono (by decide) (by decide))
    cases h
    exact fr3
  · replace h := if_F h hc2
    obtain ⟨_, A4, hf4, h⟩ := rz_b_inv h
    have fr4 := fr1.trans ((wx20_see F hf4).mono (by decide) (by decide))
    obtain ⟨r5, A5, hf5, h⟩ := rz_b_inv h
    have fr5 := fr4.trans ((wx98_gather F hf5).mono (by decide) (by decide))
    by_cases hc6 : r5 = 0
    · replace h := if_T h hc6
      obtain ⟨r7, A7, hf7, h⟩ := rz_b_inv h
      have fr7 := fr5.trans ((wx10_refuseAsTold F hf7).mono (by decide) (by decide))
      cases h
      exact fr7
    · replace h := if_F h hc6
      obtain ⟨r8, A8, hf8, h⟩ := rz_b_inv h
      have fr8 := fr5.trans ((wx102_search F hf8).mono (by decide) (by decide))
      by_cases hc9 : r8 = 0
      · replace h := if_T h hc9
        obtain ⟨r10, A10, hf10, h⟩ := rz_b_inv h
        have fr10 := fr8.trans ((wx10_refuseAsTold F hf10).mono (by decide) (by decide))
        cases h
        exact fr10
      · replace h := if_F h hc9
        by_cases hc11 : 0 ≤ a1
        · replace h := if_T h hc11
          by_cases hc12 : (A8.1 64 8) < a1
          · replace h := if_T h hc12
            obtain ⟨r13, A13, hf13, h⟩ := rz_b_inv h
            have fr13 := fr8.trans ((wx10_refuseAsTold F hf13).mono (by decide) (by decide))
            cases h
            exact fr13
          · replace h := if_F h hc12
            obtain ⟨r14, A14, hf14, h⟩ := rz_b_inv h
            have fr14 := fr8.trans ((wx107_leastShift F hf14).mono (by decide) (by decide))
            cases h
            exact fr14
        · replace h := if_F h hc11
          obtain ⟨r15, A15, hf15, h⟩ := rz_b_inv h
          have fr15 := fr8.trans ((wx10_refuseAsTold F hf15).mono (by decide) (by decide))
          cases h
          exact fr15
def cs_x109_put : List Nat := [1, 66]
def fs_x109_put : List (Nat × Nat) := [(64, 4)]
theorem wx109_put (F : Nat) {a0 : Int} {A : rz_A} {r : Int} {A' : rz_A} (h : x109_put F a0 A = some (r, A')) : Fr cs_x109_put fs_x109_put A A' := by
  have fr : Fr cs_x109_put fs_x109_put A A := Fr.rfl
  unfold x109_put at h
  by_cases hc1 : a0 < (-128)
  · replace h := if_T h hc1
    obtain ⟨r2, A2, hf2, h⟩ := rz_b_inv h
    have fr2 := fr.trans ((wx1_refuse F hf2).mono (by decide) (by decide))
    cases h
    exact fr2
  · replace h := if_F h hc1
    by_cases hc3 : a0 ≤ 127
    · replace h := if_T h hc3
      by_cases hc4 : 12 ≤ (A.1 64 4)
      · replace h := if_T h hc4
        obtain ⟨r5, A5, hf5, h⟩ := rz_b_inv h
        have fr5 := fr.trans ((wx1_refuse F hf5).mono (by decide) (by decide))
        cases h
        exact fr5
      · replace h := if_F h hc4
        replace h := (rz_gx_inv h).2.2
        replace h := (rz_g32_inv h).2
        cases h
        exact (Fr.aI (Fr.aI fr (Or.inl (by decide))) (Or.inr (by decide)))
    · replace h := if_F h hc3
      obtain ⟨r11, A11, hf11, h⟩ := rz_b_inv h
      have fr11 := fr.trans ((wx1_refuse F hf11).mono (by decide) (by decide))
      cases h
      exact fr11
def cs_x111_firstWrong : List Nat := []
def fs_x111_firstWrong : List (Nat × Nat) := []
theorem wx111_firstWrong_85 (F : Nat) : ∀ (v2 : Int) (A : rz_A) (r : Int) (A' : rz_A), x111_firstWrong_85 F v2 A = some (r, A') → Fr cs_x111_firstWrong fs_x111_firstWrong A A' := by
  intro v2 A r A' h
  have fr : Fr cs_x111_firstWrong fs_x111_firstWrong A A := Fr.rfl
  unfold x111_firstWrong_85 at h
  replace h := (rz_g32_inv h).2
  by_cases hc2 : (v2 + 1) < (A.1 64 4)
  · replace h := if_T h hc2
    cases h
    exact fr
  · replace h := if_F h hc2
    cases h
    exact fr
theorem wx111_firstWrong_43 (F : Nat) : ∀ (n : Nat) (v1 : Int) (v2 : Int) (v3 : Int) (A : rz_A) (r : Int) (A' : rz_A), x111_firstWrong_43 F n v1 v2 v3 A = some (r, A') → Fr cs_x111_firstWrong fs_x111_firstWrong A A' := by
  intro n
  induction n with
  | zero => intro v1 v2 v3 A r A' h; cases h
  | succ n ih =>
    intro v1 v2 v3 A r A' h
    have fr : Fr cs_x111_firstWrong fs_x111_firstWrong A A := Fr.rfl
    rw [x111_firstWrong_43] at h
    by_cases hc1 : v3 < v2
    · replace h := if_T h hc1
      replace h := (rz_g32_inv h).2
      by_cases hc3 : (v3 + 1) < (A.1 64 4)
      · replace h := if_T h hc3
        replace h := (rz_gx_inv h).2.2
        obtain ⟨r6, A6, hf6, h⟩ := rz_b_inv h
        have fr6 := fr.trans ((wx108_runGoesWith F hf6).mono (by decide) (by decide))
        by_cases hc7 : r6 = 0
        · replace h := if_T h hc7
          cases h
          exact fr6
        · replace h := if_F h hc7
          exact fr6.trans (ih _ _ _ _ _ _ h)
      · replace h := if_F h hc3
        cases h
        exact fr
    · replace h := if_F h hc1
      exact fr.trans (wx111_firstWrong_85 F _ _ _ _ h)
theorem wx111_firstWrong (F : Nat) {A : rz_A} {r : Int} {A' : rz_A} (h : x111_firstWrong F A = some (r, A')) : Fr cs_x111_firstWrong fs_x111_firstWrong A A' := by
  have fr : Fr cs_x111_firstWrong fs_x111_firstWrong A A := Fr.rfl
  unfold x111_firstWrong at h
  by_cases hc1 : (A.1 64 4) = 0
  · replace h := if_T h hc1
    cases h
    exact fr
  · replace h := if_F h hc1
    by_cases hc2 : 0 ≤ (A.1 66 0)
    · replace h := if_T h hc2
      replace h := (rz_g32_inv h).2
      by_cases hc4 : (rz_oI fShl 1 ((A.1 64 6) - 1)) ≤ (A.1 66 0)
      · replace h := if_T h hc4
        cases h
        exact fr
      · replace h := if_F h hc4
        obtain ⟨r5, A5, hf5, h⟩ := rz_b_inv h
        have fr5 := fr.trans ((wx103_bitCount F hf5).mono (by decide) (by decide))
        replace h := (rz_g32_inv h).2
        exact fr5.trans (wx111_firstWrong_43 F F _ _ _ _ _ _ h)
    · replace h := if_F h hc2
      cases h
      exact fr
def cs_x110_judge : List Nat := [1, 49, 50, 52, 53, 54, 55, 67, 68]
def fs_x110_judge : List (Nat × Nat) := [(51, 3), (51, 4), (51, 5), (51, 10), (64, 4), (64, 6)]
theorem wx110_judge (F : Nat) {a0 : Int} {A : rz_A} {r : Int} {A' : rz_A} (h : x110_judge F a0 A = some (r, A')) : Fr cs_x110_judge fs_x110_judge A A' := by
  have fr : Fr cs_x110_judge fs_x110_judge A A := Fr.rfl
  unfold x110_judge at h
  obtain ⟨r1, A1, hf1, h⟩ := rz_b_inv h
  have fr1 := fr.trans ((wx5_has F hf1).mono (by decide) (by decide))
  by_cases hc2 : r1 = 0
  · replace h := if_T h hc2
    obtain ⟨r3, A3, hf3, h⟩ := rz_b_inv h
    have fr3 := fr1.trans ((wx1_refuse F hf3).mono (by decide) (by decide))
    cases h
    exact fr3
  · replace h := if_F h hc2
    obtain ⟨_, A4, hf4, h⟩ := rz_b_inv h
    have fr4 := fr1.trans ((wx20_see F hf4).mono (by decide) (by decide))
    obtain ⟨r5, A5, hf5, h⟩ := rz_b_inv h
    have fr5 := fr4.trans ((wx98_gather F hf5).mono (by decide) (by decide))
    by_cases hc6 : r5 = 0
    · replace h := if_T h hc6
      obtain ⟨r7, A7, hf7, h⟩ := rz_b_inv h
      have fr7 := fr5.trans ((wx1_refuse F hf7).mono (by decide) (by decide))
      cases h
      exact fr7
    · replace h := if_F h hc6
      obtain ⟨r8, A8, hf8, h⟩ := rz_b_inv h
      have fr8 := fr5.trans ((wx111_firstWrong F hf8).mono (by decide) (by decide))
      cases h
      exact (Fr.aI fr8 (Or.inr (by decide)))
def cs_x112_beside : List Nat := [1, 5]
def fs_x112_beside : List (Nat × Nat) := []
theorem wx112_beside (F : Nat) {a0 : Int} {a1 : Int} {A : rz_A} {r : Int} {A' : rz_A} (h : x112_beside F a0 a1 A = some (r, A')) : Fr cs_x112_beside fs_x112_beside A A' := by
  have fr : Fr cs_x112_beside fs_x112_beside A A := Fr.rfl
  unfold x112_beside at h
  obtain ⟨r1, A1, hf1, h⟩ := rz_b_inv h
  have fr1 := fr.trans ((wx5_has F hf1).mono (by decide) (by decide))
  by_cases hc2 : r1 = 0
  · replace h := if_T h hc2
    obtain ⟨r3, A3, hf3, h⟩ := rz_b_inv h
    have fr3 := fr1.trans ((wx10_refuseAsTold F hf3).mono (by decide) (by decide))
    cases h
    exact fr3
  · replace h := if_F h hc2
    by_cases hc4 : a1 = (-1)
    · replace h := if_T h hc4
      replace h := (rz_gx_inv h).2.2
      cases h
      exact (Fr.aI fr1 (Or.inl (by decide)))
    · replace h := if_F h hc4
      obtain ⟨r8, A8, hf8, h⟩ := rz_b_inv h
      have fr8 := fr1.trans ((wx5_has F hf8).mono (by decide) (by decide))
      by_cases hc9 : r8 = 0
      · replace h := if_T h hc9
        obtain ⟨r10, A10, hf10, h⟩ := rz_b_inv h
        have fr10 := fr8.trans ((wx10_refuseAsTold F hf10).mono (by decide) (by decide))
        cases h
        exact fr10
      · replace h := if_F h hc9
        by_cases hc11 : a1 = a0
        · replace h := if_T h hc11
          obtain ⟨r12, A12, hf12, h⟩ := rz_b_inv h
          have fr12 := fr8.trans ((wx10_refuseAsTold F hf12).mono (by decide) (by decide))
          cases h
          exact fr12
        · replace h := if_F h hc11
          replace h := (rz_gx_inv h).2.2
          cases h
          exact (Fr.aI fr8 (Or.inl (by decide)))
def cs_x114_findEnds : List Nat := []
def fs_x114_findEnds : List (Nat × Nat) := [(87, 2), (87, 3)]
theorem wx114_findEnds (F : Nat) {a0 : Int} {a1 : Int} {A : rz_A} {r : Int} {A' : rz_A} (h : x114_findEnds F a0 a1 A = some (r, A')) : Fr cs_x114_findEnds fs_x114_findEnds A A' := by
  have fr : Fr cs_x114_findEnds fs_x114_findEnds A A := Fr.rfl
  unfold x114_findEnds at h
  obtain ⟨r1, A1, hf1, h⟩ := rz_b_inv h
  have fr1 := fr.trans ((wx14_keyOf F hf1).mono (by decide) (by decide))
  obtain ⟨r2, A2, hf2, h⟩ := rz_b_inv h
  have fr2 := fr1.trans ((wx33_firstFrom F hf2).mono (by decide) (by decide))
  replace h := (rz_g32_inv h).2
  by_cases hc4 : 0 ≤ (r2 - 1)
  · replace h := if_T h hc4
    by_cases hc5 : (A2.1 51 10) ≤ r2
    · replace h := if_T h hc5
      cases h
      exact fr2
    · replace h := if_F h hc5
      obtain ⟨r6, A6, hf6, h⟩ := rz_b_inv h
      have fr6 := fr2.trans ((wx86_postOf F hf6).mono (by decide) (by decide))
      by_cases hc7 : r6 = a0
      · replace h := if_T h hc7
        obtain ⟨r8, A8, hf8, h⟩ := rz_b_inv h
        have fr8 := fr6.trans ((wx86_postOf F hf8).mono (by decide) (by decide))
        by_cases hc9 : r8 = a0
        · replace h := if_T h hc9
          obtain ⟨r10, A10, hf10, h⟩ := rz_b_inv h
          have fr10 := fr8.trans ((wx87_timeOf F hf10).mono (by decide) (by decide))
          obtain ⟨r12, A12, hf12, h⟩ := rz_b_inv h
          have fr12 := (Fr.aI fr10 (Or.inr (by decide))).trans ((wx87_timeOf F hf12).mono (by decide) (by decide))
          replace h := (rz_g32_inv h).2
          by_cases hc15 : (r12 - (A12.1 87 2)) ≤ 200
          · replace h := if_T h hc15
            cases h
            exact (Fr.aI fr12 (Or.inr (by decide)))
          · replace h := if_F h hc15
            cases h
            exact (Fr.aI fr12 (Or.inr (by decide)))
        · replace h := if_F h hc9
          cases h
          exact fr8
      · replace h := if_F h hc7
        cases h
        exact fr6
  · replace h := if_F h hc4
    cases h
    exact fr2
def cs_x115_findNeighbour : List Nat := []
def fs_x115_findNeighbour : List (Nat × Nat) := [(87, 4)]
theorem wx115_findNeighbour (F : Nat) {a0 : Int} {a1 : Int} {A : rz_A} {r : Unit} {A' : rz_A} (h : x115_findNeighbour F a0 a1 A = some (r, A')) : Fr cs_x115_findNeighbour fs_x115_findNeighbour A A' := by
  have fr : Fr cs_x115_findNeighbour fs_x115_findNeighbour A A := Fr.rfl
  unfold x115_findNeighbour at h
  replace h := (rz_gx_inv h).2.2
  by_cases hc4 : (A.1 5 (a0).toNat) < 0
  · replace h := if_T h hc4
    cases h
    exact (Fr.aI fr (Or.inr (by decide)))
  · replace h := if_F h hc4
    obtain ⟨r5, A5, hf5, h⟩ := rz_b_inv h
    have fr5 := (Fr.aI fr (Or.inr (by decide))).trans ((wx32_find F hf5).mono (by decide) (by decide))
    by_cases hc6 : 0 ≤ r5
    · replace h := if_T h hc6
      obtain ⟨r7, A7, hf7, h⟩ := rz_b_inv h
      have fr7 := fr5.trans ((wx32_find F hf7).mono (by decide) (by decide))
      by_cases hc8 : 0 ≤ r7
      · replace h := if_T h hc8
        obtain ⟨r9, A9, hf9, h⟩ := rz_b_inv h
        have fr9 := fr7.trans ((wx32_find F hf9).mono (by decide) (by decide))
        by_cases hc10 : 0 ≤ r9
        · replace h := if_T h hc10
          cases h
          exact fr9
        · replace h := if_F h hc10
          cases h
          exact (Fr.aI fr9 (Or.inr (by decide)))
      · replace h := if_F h hc8
        cases h
        exact (Fr.aI fr7 (Or.inr (by decide)))
    · replace h := if_F h hc6
      cases h
      exact (Fr.aI fr5 (Or.inr (by decide)))
def cs_x117_postsAt : List Nat := []
def fs_x117_postsAt : List (Nat × Nat) := []
theorem wx117_postsAt_4 (F : Nat) : ∀ (n : Nat) (v1 : Int) (v2 : Int) (v3 : Int) (A : rz_A) (r : Int) (A' : rz_A), x117_postsAt_4 F n v1 v2 v3 A = some (r, A') → Fr cs_x117_postsAt fs_x117_postsAt A A' := by
  intro n
  induction n with
  | zero => intro v1 v2 v3 A r A' h; cases h
  | succ n ih =>
    intro v1 v2 v3 A r A' h
    have fr : Fr cs_x117_postsAt fs_x117_postsAt A A := Fr.rfl
    rw [x117_postsAt_4] at h
    by_cases hc1 : v3 < (A.1 2 0)
    · replace h := if_T h hc1
      obtain ⟨r2, A2, hf2, h⟩ := rz_b_inv h
      have fr2 := fr.trans ((wx32_find F hf2).mono (by decide) (by decide))
      by_cases hc3 : 0 ≤ r2
      · replace h := if_T h hc3
        replace h := (rz_g32_inv h).2
        replace h := (rz_g32_inv h).2
        exact fr2.trans (ih _ _ _ _ _ _ h)
      · replace h := if_F h hc3
        replace h := (rz_g32_inv h).2
        exact fr2.trans (ih _ _ _ _ _ _ h)
    · replace h := if_F h hc1
      cases h
      exact fr
theorem wx117_postsAt (F : Nat) {a0 : Int} {A : rz_A} {r : Int} {A' : rz_A} (h : x117_postsAt F a0 A = some (r, A')) : Fr cs_x117_postsAt fs_x117_postsAt A A' := by
  have fr : Fr cs_x117_postsAt fs_x117_postsAt A A := Fr.rfl
  unfold x117_postsAt at h
  exact fr.trans (wx117_postsAt_4 F F _ _ _ _ _ _ h)
def cs_x116_fillLets : List Nat := [49, 50]
def fs_x116_fillLets : List (Nat × Nat) := []
theorem wx116_fillLets (F : Nat) {a0 : Int} {A : rz_A} {r : Int} {A' : rz_A} (h : x116_fillLets F a0 A = some (r, A')) : Fr cs_x116_fillLets fs_x116_fillLets A A' := by
  have fr : Fr cs_x116_fillLets fs_x116_fillLets A A := Fr.rfl
  unfold x116_fillLets at h
  replace h := (rz_g32_inv h).2
  obtain ⟨r2, A2, hf2, h⟩ := rz_b_inv h
  have fr2 := fr.trans ((wx22_inForce F hf2).mono (by decide) (by decide))
  by_cases hc3 : r2 < 0
  · replace h := if_T h hc3
    cases h
    exact fr2
  · replace h := if_F h hc3
    obtain ⟨_, A4, hf4, h⟩ := rz_b_inv h
    have fr4 := fr2.trans ((wx23_lettersOf F hf4).mono (by decide) (by decide))
    replace h := (rz_g32_inv h).2
    obtain ⟨r7, A7, hf7, h⟩ := rz_b_inv h
    have fr7 := (Fr.aI fr4 (Or.inl (by decide))).trans ((wx117_postsAt F hf7).mono (by decide) (by decide))
    by_cases hc9 : 0 ≤ (A7.1 87 4)
    · replace h := if_T h hc9
      obtain ⟨r11, A11, hf11, h⟩ := rz_b_inv h
      have fr11 := (Fr.aI (Fr.aI fr7 (Or.inl (by decide))) (Or.inl (by decide))).trans ((wx25_holds F hf11).mono (by decide) (by decide))
      replace h := (rz_gz_inv h).2
      cases h
      exact fr11
    · replace h := if_F h hc9
      obtain ⟨r14, A14, hf14, h⟩ := rz_b_inv h
      have fr14 := (Fr.aI (Fr.aI fr7 (Or.inl (by decide))) (Or.inl (by decide))).trans ((wx25_holds F hf14).mono (by decide) (by decide))
      replace h := (rz_gz_inv h).2
      cases h
      exact fr14
def cs_x119_between : List Nat := []
def fs_x119_between : List (Nat × Nat) := []
theorem wx119_between (F : Nat) {a0 : Int} {a1 : Int} {A : rz_A} {r : Int} {A' : rz_A} (h : x119_between F a0 a1 A = some (r, A')) : Fr cs_x119_between fs_x119_between A A' := by
  have fr : Fr cs_x119_between fs_x119_between A A := Fr.rfl
  unfold x119_between at h
  obtain ⟨r1, A1, hf1, h⟩ := rz_b_inv h
  have fr1 := fr.trans ((wx32_find F hf1).mono (by decide) (by decide))
  obtain ⟨r2, A2, hf2, h⟩ := rz_b_inv h
  have fr2 := fr1.trans ((wx32_find F hf2).mono (by decide) (by decide))
  by_cases hc3 : 0 ≤ r1
  · replace h := if_T h hc3
    by_cases hc4 : r2 < 0
    · replace h := if_T h hc4
      cases h
      exact fr2
    · replace h := if_F h hc4
      replace h := (rz_gx_inv h).2.2
      replace h := (rz_gx_inv h).2.2
      replace h := (rz_g32_inv h).2
      replace h := (rz_g32_inv h).2
      replace h := (rz_g32_inv h).2
      obtain ⟨r12, A12, hf12, h⟩ := rz_b_inv h
      have fr12 := fr2.trans ((wx77_share F hf12).mono (by decide) (by decide))
      replace h := (rz_g32_inv h).2
      replace h := (rz_g32_inv h).2
      cases h
      exact fr12
  · replace h := if_F h hc3
    cases h
    exact fr2
def cs_x118_filled : List Nat := []
def fs_x118_filled : List (Nat × Nat) := []
theorem wx118_filled (F : Nat) {a0 : Int} {a1 : Int} {A : rz_A} {r : Int} {A' : rz_A} (h : x118_filled F a0 a1 A = some (r, A')) : Fr cs_x118_filled fs_x118_filled A A' := by
  have fr : Fr cs_x118_filled fs_x118_filled A A := Fr.rfl
  unfold x118_filled at h
  obtain ⟨r1, A1, hf1, h⟩ := rz_b_inv h
  have fr1 := fr.trans ((wx119_between F hf1).mono (by decide) (by decide))
  by_cases hc2 : (A1.1 87 4) < 0
  · replace h := if_T h hc2
    cases h
    exact fr1
  · replace h := if_F h hc2
    obtain ⟨r3, A3, hf3, h⟩ := rz_b_inv h
    have fr3 := fr1.trans ((wx32_find F hf3).mono (by decide) (by decide))
    by_cases hc4 : r3 < 0
    · replace h := if_T h hc4
      cases h
      exact fr3
    · replace h := if_F h hc4
      replace h := (rz_gx_inv h).2.2
      replace h := (rz_g32_inv h).2
      obtain ⟨r8, A8, hf8, h⟩ := rz_b_inv h
      have fr8 := fr3.trans ((wx119_between F hf8).mono (by decide) (by decide))
      replace h := (rz_g32_inv h).2
      cases h
      exact fr8
def cs_x113_gap : List Nat := [1, 49, 50, 52, 53, 54, 55]
def fs_x113_gap : List (Nat × Nat) := [(51, 3), (51, 4), (51, 5), (51, 10), (87, 2), (87, 3), (87, 4)]
theorem wx113_gap (F : Nat) {a0 : Int} {a1 : Int} {a2 : Int} {A : rz_A} {r : Int} {A' : rz_A} (h : x113_gap F a0 a1 a2 A = some (r, A')) : Fr cs_x113_gap fs_x113_gap A A' := by
  have fr : Fr cs_x113_gap fs_x113_gap A A := Fr.rfl
  unfold x113_gap at h
  obtain ⟨r1, A1, hf1, h⟩ := rz_b_inv h
  have fr1 := fr.trans ((wx5_has F hf1).mono (by decide) (by decide))
  by_cases hc2 : r1 = 0
  · replace h := if_T h hc2
    obtain ⟨r3, A3, hf3, h⟩ := rz_b_inv h
    have fr3 := fr1.trans ((wx10_refuseAsTold F hf3).mono (by decide) (by decide))
    cases h
    exact fr3
  · replace h := if_F h hc2
    by_cases hc4 : 0 ≤ a2
    · replace h := if_T h hc4
      by_cases hc5 : 3 < a2
      · replace h := if_T h hc5
        obtain ⟨r6, A6, hf6, h⟩ := rz_b_inv h
        have fr6 := fr1.trans ((wx10_refuseAsTold F hf6).mono (by decide) (by decide))
        cases h
        exact fr6
      · replace h := if_F h hc5
        obtain ⟨r7, A7, hf7, h⟩ := rz_b_inv h
        have fr7 := fr1.trans ((wx19_whyNotTime F hf7).mono (by decide) (by decide))
        by_cases hc8 : r7 = 0
        · replace h := if_T h hc8
          obtain ⟨_, A9, hf9, h⟩ := rz_b_inv h
          have fr9 := fr7.trans ((wx20_see F hf9).mono (by decide) (by decide))
          obtain ⟨r10, A10, hf10, h⟩ := rz_b_inv h
          have fr10 := fr9.trans ((wx32_find F hf10).mono (by decide) (by decide))
          by_cases hc11 : 0 ≤ r10
          · replace h := if_T h hc11
            obtain ⟨r12, A12, hf12, h⟩ := rz_b_inv h
            have fr12 := fr10.trans ((wx10_refuseAsTold F hf12).mono (by decide) (by decide))
            cases h
            exact fr12
          · replace h := if_F h hc11
            obtain ⟨r13, A13, hf13, h⟩ := rz_b_inv h
            have fr13 := fr10.trans ((wx114_findEnds F hf13).mono (by decide) (by decide))
            by_cases hc14 : r13 = 0
            · replace h := if_T h hc14
              obtain ⟨r15, A15, hf15, h⟩ := rz_b_inv h
              have fr15 := fr13.trans ((wx10_refuseAsTold F hf15).mono (by decide) (by decide))
              cases h
              exact fr15
            · replace h := if_F h hc14
              obtain ⟨_, A16, hf16, h⟩ := rz_b_inv h
              have fr16 := fr13.trans ((wx115_findNeighbour F hf16).mono (by decide) (by decide))
              obtain ⟨r17, A17, hf17, h⟩ := rz_b_inv h
              have fr17 := fr16.trans ((wx116_fillLets F hf17).mono (by decide) (by decide))
              by_cases hc18 : r17 = 0
              · replace h := if_T h hc18
                obtain ⟨r19, A19, hf19, h⟩ := rz_b_inv h
                have fr19 := fr17.trans ((wx10_refuseAsTold F hf19).mono (by decide) (by decide))
                cases h
                exact fr19
              · replace h := if_F h hc18
                by_cases hc20 : a2 = 0
                · replace h := if_T h hc20
                  obtain ⟨r21, A21, hf21, h⟩ := rz_b_inv h
                  have fr21 := fr17.trans ((wx118_filled F hf21).mono (by decide) (by decide))
                  cases h
                  exact fr21
                · replace h := if_F h hc20
                  by_cases hc22 : a2 = 3
                  · replace h := if_T h hc22
                    by_cases hc23 : 0 ≤ (A17.1 87 4)
                    · replace h := if_T h hc23
                      cases h
                      exact fr17
                    · replace h := if_F h hc23
                      cases h
                      exact fr17
                  · replace h := if_F h hc22
                    by_cases hc24 : a2 = 1
                    · replace h := if_T h hc24
                      cases h
                      exact fr17
                    · replace h := if_F h hc24
                      cases h
                      exact fr17
        · replace h := if_F h hc8
          obtain ⟨r25, A25, hf25, h⟩ := rz_b_inv h
          have fr25 := fr7.trans ((wx10_refuseAsTold F hf25).mono (by decide) (by decide))
          cases h
          exact fr25
    · replace h := if_F h hc4
      obtain ⟨r26, A26, hf26, h⟩ := rz_b_inv h
      have fr26 := fr1.trans ((wx10_refuseAsTold F hf26).mono (by decide) (by decide))
      cases h
      exact fr26
def cs_x121_greatest : List Nat := [58, 59, 60, 61, 62]
def fs_x121_greatest : List (Nat × Nat) := [(56, 8), (56, 9), (56, 10), (56, 11), (56, 12), (57, 0)]
theorem wx121_greatest_24 (F : Nat) : ∀ (n : Nat) (v4 : Int) (v5 : Int) (v6 : Int) (A : rz_A) (r : Int) (A' : rz_A), x121_greatest_24 F n v4 v5 v6 A = some (r, A') → Fr cs_x121_greatest fs_x121_greatest A A' := by
  intro n
  induction n with
  | zero => intro v4 v5 v6 A r A' h; cases h
  | succ n ih =>
    intro v4 v5 v6 A r A' h
    have fr : Fr cs_x121_greatest fs_x121_greatest A A := Fr.rfl
    rw [x121_greatest_24] at h
    by_cases hc1 : v6 < (A.1 51 10)
    · replace h := if_T h hc1
      replace h := (rz_gx_inv h).2.2
      by_cases hc4 : (A.1 53 (v6).toNat) ≤ v5
      · replace h := if_T h hc4
        obtain ⟨r5, A5, hf5, h⟩ := rz_b_inv h
        have fr5 := fr.trans ((wx85_rate F hf5).mono (by decide) (by decide))
        obtain ⟨r6, A6, hf6, h⟩ := rz_b_inv h
        have fr6 := fr5.trans ((wx60_max F hf6).mono (by decide) (by decide))
        replace h := (rz_g32_inv h).2
        exact fr6.trans (ih _ _ _ _ _ _ h)
      · replace h := if_F h hc4
        cases h
        exact fr
    · replace h := if_F h hc1
      cases h
      exact fr
theorem wx121_greatest (F : Nat) {a0 : Int} {a1 : Int} {a2 : Int} {A : rz_A} {r : Int} {A' : rz_A} (h : x121_greatest F a0 a1 a2 A = some (r, A')) : Fr cs_x121_greatest fs_x121_greatest A A' := by
  have fr : Fr cs_x121_greatest fs_x121_greatest A A := Fr.rfl
  unfold x121_greatest at h
  obtain ⟨r1, A1, hf1, h⟩ := rz_b_inv h
  have fr1 := fr.trans ((wx14_keyOf F hf1).mono (by decide) (by decide))
  obtain ⟨r2, A2, hf2, h⟩ := rz_b_inv h
  have fr2 := fr1.trans ((wx14_keyOf F hf2).mono (by decide) (by decide))
  obtain ⟨r3, A3, hf3, h⟩ := rz_b_inv h
  have fr3 := fr2.trans ((wx33_firstFrom F hf3).mono (by decide) (by decide))
  exact fr3.trans (wx121_greatest_24 F F _ _ _ _ _ _ h)
def cs_x120_peak : List Nat := [1, 49, 50, 52, 53, 54, 55, 58, 59, 60, 61, 62]
def fs_x120_peak : List (Nat × Nat) := [(51, 3), (51, 4), (51, 5), (51, 10), (56, 8), (56, 9), (56, 10), (56, 11), (56, 12), (57, 0)]
theorem wx120_peak (F : Nat) {a0 : Int} {a1 : Int} {a2 : Int} {a3 : Int} {A : rz_A} {r : Int} {A' : rz_A} (h : x120_peak F a0 a1 a2 a3 A = some (r, A')) : Fr cs_x120_peak fs_x120_peak A A' := by
  have fr : Fr cs_x120_peak fs_x120_peak A A := Fr.rfl
  unfold x120_peak at h
  obtain ⟨r1, A1, hf1, h⟩ := rz_b_inv h
  have fr1 := fr.trans ((wx5_has F hf1).mono (by decide) (by decide))
  by_cases hc2 : r1 = 0
  · replace h := if_T h hc2
    obtain ⟨r3, A3, hf3, h⟩ := rz_b_inv h
    have fr3 := fr1.trans ((wx1_refuse F hf3).mono (by decide) (by decide))
    cases h
    exact fr3
  · replace h := if_F h hc2
    by_cases hc4 : 0 ≤ a1
    · replace h := if_T h hc4
      by_cases hc5 : a1 ≤ a2
      · replace h := if_T h hc5
        by_cases hc6 : a3 < 0
        · replace h := if_T h hc6
          obtain ⟨r7, A7, hf7, h⟩ := rz_b_inv h
          have fr7 := fr1.trans ((wx1_refuse F hf7).mono (by decide) (by decide))
          cases h
          exact fr7
        · replace h := if_F h hc6
          by_cases hc8 : a2 ≤ 9999
          · replace h := if_T h hc8
            by_cases hc9 : 9999 < a3
            · replace h := if_T h hc9
              obtain ⟨r10, A10, hf10, h⟩ := rz_b_inv h
              have fr10 := fr1.trans ((wx1_refuse F hf10).mono (by decide) (by decide))
              cases h
              exact fr10
            · replace h := if_F h hc9
              obtain ⟨_, A11, hf11, h⟩ := rz_b_inv h
              have fr11 := fr1.trans ((wx20_see F hf11).mono (by decide) (by decide))
              obtain ⟨r12, A12, hf12, h⟩ := rz_b_inv h
              have fr12 := fr11.trans ((wx121_greatest F hf12).mono (by decide) (by decide))
              by_cases hc13 : r12 < 0
              · replace h := if_T h hc13
                obtain ⟨r14, A14, hf14, h⟩ := rz_b_inv h
                have fr14 := fr12.trans ((wx1_refuse F hf14).mono (by decide) (by decide))
                cases h
                exact fr14
              · replace h := if_F h hc13
                cases h
                exact fr12
          · replace h := if_F h hc8
            obtain ⟨r15, A15, hf15, h⟩ := rz_b_inv h
            have fr15 := fr1.trans ((wx1_refuse F hf15).mono (by decide) (by decide))
            cases h
            exact fr15
      · replace h := if_F h hc5
        obtain ⟨r16, A16, hf16, h⟩ := rz_b_inv h
        have fr16 := fr1.trans ((wx1_refuse F hf16).mono (by decide) (by decide))
        cases h
        exact fr16
    · replace h := if_F h hc4
      obtain ⟨r17, A17, hf17, h⟩ := rz_b_inv h
      have fr17 := fr1.trans ((wx1_refuse F hf17).mono (by decide) (by decide))
      cases h
      exact fr17
def cs_x122_often : List Nat := [1, 49, 50, 52, 53, 54, 55, 58, 59, 60, 61, 62]
def fs_x122_often : List (Nat × Nat) := [(51, 3), (51, 4), (51, 5), (51, 10), (56, 8), (56, 9), (56, 10), (56, 11), (56, 12), (57, 0)]
theorem wx122_often_58 (F : Nat) : ∀ (n : Nat) (v1 : Int) (v2 : Int) (v3 : Int) (v4 : Int) (A : rz_A) (r : Int) (A' : rz_A), x122_often_58 F n v1 v2 v3 v4 A = some (r, A') → Fr cs_x122_often fs_x122_often A A' := by
  intro n
  induction n with
  | zero => intro v1 v2 v3 v4 A r A' h; cases h
  | succ n ih =>
    intro v1 v2 v3 v4 A r A' h
    have fr : Fr cs_x122_often fs_x122_often A A := Fr.rfl
    rw [x122_often_58] at h
    by_cases hc1 : v4 ≤ 9999
    · replace h := if_T h hc1
      replace h := (rz_g32_inv h).2
      replace h := (rz_g32_inv h).2
      obtain ⟨r4, A4, hf4, h⟩ := rz_b_inv h
      have fr4 := fr.trans ((wx121_greatest F hf4).mono (by decide) (by decide))
      by_cases hc5 : v2 ≤ r4
      · replace h := if_T h hc5
        replace h := (rz_g32_inv h).2
        exact fr4.trans (ih _ _ _ _ _ _ _ h)
      · replace h := if_F h hc5
        exact fr4.trans (ih _ _ _ _ _ _ _ h)
    · replace h := if_F h hc1
      cases h
      exact fr
theorem wx122_often (F : Nat) {a0 : Int} {a1 : Int} {A : rz_A} {r : Int} {A' : rz_A} (h : x122_often F a0 a1 A = some (r, A')) : Fr cs_x122_often fs_x122_often A A' := by
  have fr : Fr cs_x122_often fs_x122_often A A := Fr.rfl
  unfold x122_often at h
  obtain ⟨r1, A1, hf1, h⟩ := rz_b_inv h
  have fr1 := fr.trans ((wx5_has F hf1).mono (by decide) (by decide))
  by_cases hc2 : r1 = 0
  · replace h := if_T h hc2
    obtain ⟨r3, A3, hf3, h⟩ := rz_b_inv h
    have fr3 := fr1.trans ((wx1_refuse F hf3).mono (by decide) (by decide))
    cases h
    exact fr3
  · replace h := if_F h hc2
    by_cases hc4 : a1 < 0
    · replace h := if_T h hc4
      obtain ⟨r5, A5, hf5, h⟩ := rz_b_inv h
      have fr5 := fr1.trans ((wx1_refuse F hf5).mono (by decide) (by decide))
      cases h
      exact fr5
    · replace h := if_F h hc4
      by_cases hc6 : 99999999 < a1
      · replace h := if_T h hc6
        obtain ⟨r7, A7, hf7, h⟩ := rz_b_inv h
        have fr7 := fr1.trans ((wx1_refuse F hf7).mono (by decide) (by decide))
        cases h
        exact fr7
      · replace h := if_F h hc6
        obtain ⟨_, A8, hf8, h⟩ := rz_b_inv h
        have fr8 := fr1.trans ((wx20_see F hf8).mono (by decide) (by decide))
        exact fr8.trans (wx122_often_58 F F _ _ _ _ _ _ _ h)
def cs_x127_commonDivisor : List Nat := []
def fs_x127_commonDivisor : List (Nat × Nat) := []
theorem wx127_commonDivisor_9 (F : Nat) : ∀ (n : Nat) (v4 : Int) (v6 : Int) (v8 : Int) (A : rz_A) (r : Int) (A' : rz_A), x127_commonDivisor_9 F n v4 v6 v8 A = some (r, A') → Fr cs_x127_commonDivisor fs_x127_commonDivisor A A' := by
  intro n
  induction n with
  | zero => intro v4 v6 v8 A r A' h; cases h
  | succ n ih =>
    intro v4 v6 v8 A r A' h
    have fr : Fr cs_x127_commonDivisor fs_x127_commonDivisor A A := Fr.rfl
    rw [x127_commonDivisor_9] at h
    by_cases hc1 : v8 < 100
    · replace h := if_T h hc1
      by_cases hc2 : v6 = 0
      · replace h := if_T h hc2
        cases h
        exact fr
      · replace h := if_F h hc2
        replace h := (rz_gn_inv h).2
        replace h := (rz_g64_inv h).2
        replace h := (rz_g32_inv h).2
        exact fr.trans (ih _ _ _ _ _ _ h)
    · replace h := if_F h hc1
      cases h
      exact fr
theorem wx127_commonDivisor (F : Nat) {a0 : Int} {a1 : Int} {A : rz_A} {r : Int} {A' : rz_A} (h : x127_commonDivisor F a0 a1 A = some (r, A')) : Fr cs_x127_commonDivisor fs_x127_commonDivisor A A' := by
  have fr : Fr cs_x127_commonDivisor fs_x127_commonDivisor A A := Fr.rfl
  unfold x127_commonDivisor at h
  exact fr.trans (wx127_commonDivisor_9 F F _ _ _ _ _ _ h)
def cs_x126_compareBy : List Nat := []
def fs_x126_compareBy : List (Nat × Nat) := [(56, 14), (56, 15), (56, 16)]
theorem wx126_compareBy_218 (F : Nat) : ∀ (v1 : Int) (v6 : Int) (v8 : Int) (A : rz_A) (r : Unit) (A' : rz_A), x126_compareBy_218 F v1 v6 v8 A = some (r, A') → Fr cs_x126_compareBy fs_x126_compareBy A A' := by
  intro v1 v6 v8 A r A' h
  have fr : Fr cs_x126_compareBy fs_x126_compareBy A A := Fr.rfl
  unfold x126_compareBy_218 at h
  by_cases hc1 : 0 < v8
  · replace h := if_T h hc1
    by_cases hc2 : 0 ≤ (A.1 56 14)
    · replace h := if_T h hc2
      replace h := (rz_g64_inv h).2
      replace h := (rz_g64_inv h).2
      by_cases hc5 : (v6 * (A.2 56 16)) < ((A.2 56 15) * v8)
      · replace h := if_T h hc5
        cases h
        exact (Fr.aL (Fr.aL (Fr.aI fr (Or.inr (by decide))) (Or.inr (by decide))) (Or.inr (by decide)))
      · replace h := if_F h hc5
        cases h
        exact fr
    · replace h := if_F h hc2
      cases h
      exact (Fr.aL (Fr.aL (Fr.aI fr (Or.inr (by decide))) (Or.inr (by decide))) (Or.inr (by decide)))
  · replace h := if_F h hc1
    cases h
    exact fr
theorem wx126_compareBy_123 (F : Nat) {k46 : (Int → Int → Int → Int → Int → Int → Int → rz_A → Option (Unit × rz_A))} (hkk46 : ∀ (v1 : Int) (v3 : Int) (v6 : Int) (v8 : Int) (v10 : Int) (v11 : Int) (v12 : Int) (A : rz_A) (r : Unit) (A' : rz_A), k46 v1 v3 v6 v8 v10 v11 v12 A = some (r, A') → Fr cs_x126_compareBy fs_x126_compareBy A A') : ∀ (v1 : Int) (v3 : Int) (v6 : Int) (v8 : Int) (v10 : Int) (v11 : Int) (v12 : Int) (v13 : Int) (A : rz_A) (r : Unit) (A' : rz_A), x126_compareBy_123 F k46 v1 v3 v6 v8 v10 v11 v12 v13 A = some (r, A') → Fr cs_x126_compareBy fs_x126_compareBy A A' := by
  intro v1 v3 v6 v8 v10 v11 v12 v13 A r A' h
  have fr : Fr cs_x126_compareBy fs_x126_compareBy A A := Fr.rfl
  unfold x126_compareBy_123 at h
  by_cases hc1 : v11 < (A.1 51 10)
  · replace h := if_T h hc1
    replace h := (rz_gx_inv h).2.2
    by_cases hc4 : (A.1 53 (v11).toNat) = v13
    · replace h := if_T h hc4
      replace h := (rz_gx_inv h).2.2
      by_cases hc7 : 0 ≤ (A.1 63 (v12).toNat)
      · replace h := if_T h hc7
        by_cases hc8 : 0 ≤ (A.1 63 (v11).toNat)
        · replace h := if_T h hc8
          replace h := (rz_g32_inv h).2
          obtain ⟨r10, A10, hf10, h⟩ := rz_b_inv h
          have fr10 := fr.trans ((wx24_abs F hf10).mono (by decide) (by decide))
          replace h := (rz_g64_inv h).2
          replace h := (rz_g64_inv h).2
          replace h := (rz_g32_inv h).2
          exact fr10.trans (hkk46 _ _ _ _ _ _ _ _ _ _ h)
        · replace h := if_F h hc8
          replace h := (rz_g32_inv h).2
          exact fr.trans (hkk46 _ _ _ _ _ _ _ _ _ _ h)
      · replace h := if_F h hc7
        replace h := (rz_g32_inv h).2
        exact fr.trans (hkk46 _ _ _ _ _ _ _ _ _ _ h)
    · replace h := if_F h hc4
      replace h := (rz_g32_inv h).2
      exact fr.trans (hkk46 _ _ _ _ _ _ _ _ _ _ h)
  · replace h := if_F h hc1
    replace h := (rz_g32_inv h).2
    exact fr.trans (hkk46 _ _ _ _ _ _ _ _ _ _ h)
theorem wx126_compareBy_90 (F : Nat) {k46 : (Int → Int → Int → Int → Int → Int → Int → rz_A → Option (Unit × rz_A))} (hkk46 : ∀ (v1 : Int) (v3 : Int) (v6 : Int) (v8 : Int) (v10 : Int) (v11 : Int) (v12 : Int) (A : rz_A) (r : Unit) (A' : rz_A), k46 v1 v3 v6 v8 v10 v11 v12 A = some (r, A') → Fr cs_x126_compareBy fs_x126_compareBy A A') : ∀ (n : Nat) (v1 : Int) (v3 : Int) (v6 : Int) (v8 : Int) (v10 : Int) (v11 : Int) (v12 : Int) (v13 : Int) (A : rz_A) (r : Unit) (A' : rz_A), x126_compareBy_90 F k46 n v1 v3 v6 v8 v10 v11 v12 v13 A = some (r, A') → Fr cs_x126_compareBy fs_x126_compareBy A A' := by
  intro n
  induction n with
  | zero => intro v1 v3 v6 v8 v10 v11 v12 v13 A r A' h; cases h
  | succ n ih =>
    intro v1 v3 v6 v8 v10 v11 v12 v13 A r A' h
    have fr : Fr cs_x126_compareBy fs_x126_compareBy A A := Fr.rfl
    rw [x126_compareBy_90] at h
    by_cases hc1 : v11 < (A.1 51 10)
    · replace h := if_T h hc1
      replace h := (rz_gx_inv h).2.2
      by_cases hc4 : (A.1 53 (v11).toNat) < v13
      · replace h := if_T h hc4
        replace h := (rz_g32_inv h).2
        exact fr.trans (ih _ _ _ _ _ _ _ _ _ _ _ h)
      · replace h := if_F h hc4
        exact fr.trans (wx126_compareBy_123 F hkk46 _ _ _ _ _ _ _ _ _ _ _ h)
    · replace h := if_F h hc1
      exact fr.trans (wx126_compareBy_123 F hkk46 _ _ _ _ _ _ _ _ _ _ _ h)
theorem wx126_compareBy_46 (F : Nat) : ∀ (n : Nat) (v1 : Int) (v3 : Int) (v6 : Int) (v8 : Int) (v10 : Int) (v11 : Int) (v12 : Int) (A : rz_A) (r : Unit) (A' : rz_A), x126_compareBy_46 F n v1 v3 v6 v8 v10 v11 v12 A = some (r, A') → Fr cs_x126_compareBy fs_x126_compareBy A A' := by
  intro n
  induction n with
  | zero => intro v1 v3 v6 v8 v10 v11 v12 A r A' h; cases h
  | succ n ih =>
    intro v1 v3 v6 v8 v10 v11 v12 A r A' h
    have fr : Fr cs_x126_compareBy fs_x126_compareBy A A := Fr.rfl
    rw [x126_compareBy_46] at h
    by_cases hc1 : v12 < (A.1 51 10)
    · replace h := if_T h hc1
      replace h := (rz_gx_inv h).2.2
      by_cases hc4 : (A.1 53 (v12).toNat) ≤ v10
      · replace h := if_T h hc4
        obtain ⟨r5, A5, hf5, h⟩ := rz_b_inv h
        have fr5 := fr.trans ((wx87_timeOf F hf5).mono (by decide) (by decide))
        replace h := (rz_g32_inv h).2
        obtain ⟨r7, A7, hf7, h⟩ := rz_b_inv h
        have fr7 := fr5.trans ((wx14_keyOf F hf7).mono (by decide) (by decide))
        exact fr7.trans (wx126_compareBy_90 F ih F _ _ _ _ _ _ _ _ _ _ _ h)
      · replace h := if_F h hc4
        exact fr.trans (wx126_compareBy_218 F _ _ _ _ _ _ h)
    · replace h := if_F h hc1
      exact fr.trans (wx126_compareBy_218 F _ _ _ _ _ _ h)
theorem wx126_compareBy (F : Nat) {a0 : Int} {a1 : Int} {a2 : Int} {a3 : Int} {a4 : Int} {A : rz_A} {r : Unit} {A' : rz_A} (h : x126_compareBy F a0 a1 a2 a3 a4 A = some (r, A')) : Fr cs_x126_compareBy fs_x126_compareBy A A' := by
  have fr : Fr cs_x126_compareBy fs_x126_compareBy A A := Fr.rfl
  unfold x126_compareBy at h
  obtain ⟨r1, A1, hf1, h⟩ := rz_b_inv h
  have fr1 := fr.trans ((wx14_keyOf F hf1).mono (by decide) (by decide))
  replace h := (rz_g32_inv h).2
  obtain ⟨r3, A3, hf3, h⟩ := rz_b_inv h
  have fr3 := fr1.trans ((wx14_keyOf F hf3).mono (by decide) (by decide))
  obtain ⟨r4, A4, hf4, h⟩ := rz_b_inv h
  have fr4 := fr3.trans ((wx33_firstFrom F hf4).mono (by decide) (by decide))
  obtain ⟨r5, A5, hf5, h⟩ := rz_b_inv h
  have fr5 := fr4.trans ((wx14_keyOf F hf5).mono (by decide) (by decide))
  obtain ⟨r6, A6, hf6, h⟩ := rz_b_inv h
  have fr6 := fr5.trans ((wx33_firstFrom F hf6).mono (by decide) (by decide))
  exact fr6.trans (wx126_compareBy_46 F F _ _ _ _ _ _ _ _ _ _ h)
def cs_x125_rateAll : List Nat := [58, 59, 60, 61, 62, 63]
def fs_x125_rateAll : List (Nat × Nat) := [(56, 8), (56, 9), (56, 10), (56, 11), (56, 12), (57, 0)]
theorem wx125_rateAll_21 (F : Nat) : ∀ (n : Nat) (v4 : Int) (v5 : Int) (A : rz_A) (r : Unit) (A' : rz_A), x125_rateAll_21 F n v4 v5 A = some (r, A') → Fr cs_x125_rateAll fs_x125_rateAll A A' := by
  intro n
  induction n with
  | zero => intro v4 v5 A r A' h; cases h
  | succ n ih =>
    intro v4 v5 A r A' h
    have fr : Fr cs_x125_rateAll fs_x125_rateAll A A := Fr.rfl
    rw [x125_rateAll_21] at h
    by_cases hc1 : v5 < (A.1 51 10)
    · replace h := if_T h hc1
      replace h := (rz_gx_inv h).2.2
      by_cases hc4 : (A.1 53 (v5).toNat) ≤ v4
      · replace h := if_T h hc4
        obtain ⟨r5, A5, hf5, h⟩ := rz_b_inv h
        have fr5 := fr.trans ((wx85_rate F hf5).mono (by decide) (by decide))
        replace h := (rz_g32_inv h).2
        exact (Fr.aI fr5 (Or.inl (by decide))).trans (ih _ _ _ _ _ h)
      · replace h := if_F h hc4
        cases h
        exact fr
    · replace h := if_F h hc1
      cases h
      exact fr
theorem wx125_rateAll (F : Nat) {a0 : Int} {a1 : Int} {a2 : Int} {A : rz_A} {r : Unit} {A' : rz_A} (h : x125_rateAll F a0 a1 a2 A = some (r, A')) : Fr cs_x125_rateAll fs_x125_rateAll A A' := by
  have fr : Fr cs_x125_rateAll fs_x125_rateAll A A := Fr.rfl
  unfold x125_rateAll at h
  obtain ⟨r1, A1, hf1, h⟩ := rz_b_inv h
  have fr1 := fr.trans ((wx14_keyOf F hf1).mono (by decide) (by decide))
  obtain ⟨r2, A2, hf2, h⟩ := rz_b_inv h
  have fr2 := fr1.trans ((wx14_keyOf F hf2).mono (by decide) (by decide))
  obtain ⟨r3, A3, hf3, h⟩ := rz_b_inv h
  have fr3 := fr2.trans ((wx33_firstFrom F hf3).mono (by decide) (by decide))
  exact fr3.trans (wx125_rateAll_21 F F _ _ _ _ _ h)
def cs_x124_compare : List Nat := [58, 59, 60, 61, 62, 63]
def fs_x124_compare : List (Nat × Nat) := [(56, 8), (56, 9), (56, 10), (56, 11), (56, 12), (56, 14), (56, 15), (56, 16), (57, 0)]
theorem wx124_compare_67 (F : Nat) : ∀ (A : rz_A) (r : Unit) (A' : rz_A), x124_compare_67 F A = some (r, A') → Fr cs_x124_compare fs_x124_compare A A' := by
  intro A r A' h
  have fr : Fr cs_x124_compare fs_x124_compare A A := Fr.rfl
  unfold x124_compare_67 at h
  obtain ⟨r1, A1, hf1, h⟩ := rz_b_inv h
  have fr1 := fr.trans ((wx127_commonDivisor F hf1).mono (by decide) (by decide))
  by_cases hc2 : 1 < r1
  · replace h := if_T h hc2
    replace h := (rz_gn_inv h).2
    replace h := (rz_g64_inv h).2
    replace h := (rz_g64_inv h).2
    cases h
    exact (Fr.aL (Fr.aL fr1 (Or.inr (by decide))) (Or.inr (by decide)))
  · replace h := if_F h hc2
    cases h
    exact fr1
theorem wx124_compare_43 (F : Nat) : ∀ (n : Nat) (v1 : Int) (v2 : Int) (v3 : Int) (v4 : Int) (v5 : Int) (A : rz_A) (r : Unit) (A' : rz_A), x124_compare_43 F n v1 v2 v3 v4 v5 A = some (r, A') → Fr cs_x124_compare fs_x124_compare A A' := by
  intro n
  induction n with
  | zero => intro v1 v2 v3 v4 v5 A r A' h; cases h
  | succ n ih =>
    intro v1 v2 v3 v4 v5 A r A' h
    have fr : Fr cs_x124_compare fs_x124_compare A A := Fr.rfl
    rw [x124_compare_43] at h
    by_cases hc1 : v5 ≤ 20
    · replace h := if_T h hc1
      obtain ⟨_, A2, hf2, h⟩ := rz_b_inv h
      have fr2 := fr.trans ((wx126_compareBy F hf2).mono (by decide) (by decide))
      replace h := (rz_g32_inv h).2
      exact fr2.trans (ih _ _ _ _ _ _ _ _ h)
    · replace h := if_F h hc1
      exact fr.trans (wx124_compare_67 F _ _ _ h)
theorem wx124_compare (F : Nat) {a0 : Int} {a1 : Int} {a2 : Int} {a3 : Int} {A : rz_A} {r : Unit} {A' : rz_A} (h : x124_compare F a0 a1 a2 a3 A = some (r, A')) : Fr cs_x124_compare fs_x124_compare A A' := by
  have fr : Fr cs_x124_compare fs_x124_compare A A := Fr.rfl
  unfold x124_compare at h
  obtain ⟨_, A1, hf1, h⟩ := rz_b_inv h
  have fr1 := fr.trans ((wx125_rateAll F hf1).mono (by decide) (by decide))
  replace h := (rz_g32_inv h).2
  obtain ⟨r3, A3, hf3, h⟩ := rz_b_inv h
  have fr3 := fr1.trans ((wx61_min F hf3).mono (by decide) (by decide))
  obtain ⟨_, A4, hf4, h⟩ := rz_b_inv h
  have fr4 := fr3.trans ((wx125_rateAll F hf4).mono (by decide) (by decide))
  exact (Fr.aL (Fr.aL (Fr.aI fr4 (Or.inr (by decide))) (Or.inr (by decide))) (Or.inr (by decide))).trans (wx124_compare_43 F F _ _ _ _ _ _ _ _ h)
def cs_x123_agree : List Nat := [1, 49, 50, 52, 53, 54, 55, 58, 59, 60, 61, 62, 63]
def fs_x123_agree : List (Nat × Nat) := [(51, 3), (51, 4), (51, 5), (51, 10), (56, 8), (56, 9), (56, 10), (56, 11), (56, 12), (56, 14), (56, 15), (56, 16), (57, 0)]
theorem wx123_agree (F : Nat) {a0 : Int} {a1 : Int} {a2 : Int} {a3 : Int} {a4 : Int} {A : rz_A} {r : Int} {A' : rz_A} (h : x123_agree F a0 a1 a2 a3 a4 A = some (r, A')) : Fr cs_x123_agree fs_x123_agree A A' := by
  have fr : Fr cs_x123_agree fs_x123_agree A A := Fr.rfl
  unfold x123_agree at h
  obtain ⟨r1, A1, hf1, h⟩ := rz_b_inv h
  have fr1 := fr.trans ((wx5_has F hf1).mono (by decide) (by decide))
  by_cases hc2 : r1 = 0
  · replace h := if_T h hc2
    obtain ⟨r3, A3, hf3, h⟩ := rz_b_inv h
    have fr3 := fr1.trans ((wx1_refuse F hf3).mono (by decide) (by decide))
    cases h
    exact fr3
  · replace h := if_F h hc2
    obtain ⟨r4, A4, hf4, h⟩ := rz_b_inv h
    have fr4 := fr1.trans ((wx5_has F hf4).mono (by decide) (by decide))
    by_cases hc5 : r4 = 0
    · replace h := if_T h hc5
      obtain ⟨r6, A6, hf6, h⟩ := rz_b_inv h
      have fr6 := fr4.trans ((wx1_refuse F hf6).mono (by decide) (by decide))
      cases h
      exact fr6
    · replace h := if_F h hc5
      by_cases hc7 : 0 ≤ a4
      · replace h := if_T h hc7
        by_cases hc8 : 2 < a4
        · replace h := if_T h hc8
          obtain ⟨r9, A9, hf9, h⟩ := rz_b_inv h
          have fr9 := fr4.trans ((wx1_refuse F hf9).mono (by decide) (by decide))
          cases h
          exact fr9
        · replace h := if_F h hc8
          by_cases hc10 : 0 ≤ a2
          · replace h := if_T h hc10
            by_cases hc11 : a3 < a2
            · replace h := if_T h hc11
              obtain ⟨r12, A12, hf12, h⟩ := rz_b_inv h
              have fr12 := fr4.trans ((wx1_refuse F hf12).mono (by decide) (by decide))
              cases h
              exact fr12
            · replace h := if_F h hc11
              by_cases hc13 : a3 ≤ 9999
              · replace h := if_T h hc13
                replace h := (rz_g32_inv h).2
                by_cases hc15 : 300 ≤ (a3 - a2)
                · replace h := if_T h hc15
                  obtain ⟨r16, A16, hf16, h⟩ := rz_b_inv h
                  have fr16 := fr4.trans ((wx1_refuse F hf16).mono (by decide) (by decide))
                  cases h
                  exact fr16
                · replace h := if_F h hc15
                  obtain ⟨_, A17, hf17, h⟩ := rz_b_inv h
                  have fr17 := fr4.trans ((wx20_see F hf17).mono (by decide) (by decide))
                  obtain ⟨_, A18, hf18, h⟩ := rz_b_inv h
                  have fr18 := fr17.trans ((wx124_compare F hf18).mono (by decide) (by decide))
                  by_cases hc19 : (A18.1 56 14) < 0
                  · replace h := if_T h hc19
                    obtain ⟨r20, A20, hf20, h⟩ := rz_b_inv h
                    have fr20 := fr18.trans ((wx1_refuse F hf20).mono (by decide) (by decide))
                    cases h
                    exact fr20
                  · replace h := if_F h hc19
                    by_cases hc21 : a4 = 0
                    · replace h := if_T h hc21
                      cases h
                      exact fr18
                    · replace h := if_F h hc21
                      by_cases hc22 : a4 = 1
                      · replace h := if_T h hc22
                        cases h
                        exact fr18
                      · replace h := if_F h hc22
                        cases h
                        exact fr18
              · replace h := if_F h hc13
                obtain ⟨r23, A23, hf23, h⟩ := rz_b_inv h
                have fr23 := fr4.trans ((wx1_refuse F hf23).mono (by decide) (by decide))
                cases h
                exact fr23
          · replace h := if_F h hc10
            obtain ⟨r24, A24, hf24, h⟩ := rz_b_inv h
            have fr24 := fr4.trans ((wx1_refuse F hf24).mono (by decide) (by decide))
            cases h
            exact fr24
      · replace h := if_F h hc7
        obtain ⟨r25, A25, hf25, h⟩ := rz_b_inv h
        have fr25 := fr4.trans ((wx1_refuse F hf25).mono (by decide) (by decide))
        cases h
        exact fr25
def cs_x130_heightsBetween : List Nat := []
def fs_x130_heightsBetween : List (Nat × Nat) := []
theorem wx130_heightsBetween_26 (F : Nat) : ∀ (n : Nat) (v2 : Int) (v3 : Int) (v4 : Int) (v5 : Int) (v6 : Int) (A : rz_A) (r : Int) (A' : rz_A), x130_heightsBetween_26 F n v2 v3 v4 v5 v6 A = some (r, A') → Fr cs_x130_heightsBetween fs_x130_heightsBetween A A' := by
  intro n
  induction n with
  | zero => intro v2 v3 v4 v5 v6 A r A' h; cases h
  | succ n ih =>
    intro v2 v3 v4 v5 v6 A r A' h
    have fr : Fr cs_x130_heightsBetween fs_x130_heightsBetween A A := Fr.rfl
    rw [x130_heightsBetween_26] at h
    by_cases hc1 : v6 < (A.1 51 10)
    · replace h := if_T h hc1
      replace h := (rz_gx_inv h).2.2
      by_cases hc4 : (A.1 53 (v6).toNat) ≤ v5
      · replace h := if_T h hc4
        by_cases hc5 : v2 < (A.1 54 (v6).toNat)
        · replace h := if_T h hc5
          by_cases hc6 : (A.1 54 (v6).toNat) < v3
          · replace h := if_T h hc6
            replace h := (rz_g32_inv h).2
            replace h := (rz_g32_inv h).2
            exact fr.trans (ih _ _ _ _ _ _ _ _ h)
          · replace h := if_F h hc6
            replace h := (rz_g32_inv h).2
            exact fr.trans (ih _ _ _ _ _ _ _ _ h)
        · replace h := if_F h hc5
          replace h := (rz_g32_inv h).2
          exact fr.trans (ih _ _ _ _ _ _ _ _ h)
      · replace h := if_F h hc4
        cases h
        exact fr
    · replace h := if_F h hc1
      cases h
      exact fr
theorem wx130_heightsBetween (F : Nat) {a0 : Int} {a1 : Int} {a2 : Int} {A : rz_A} {r : Int} {A' : rz_A} (h : x130_heightsBetween F a0 a1 a2 A = some (r, A')) : Fr cs_x130_heightsBetween fs_x130_heightsBetween A A' := by
  have fr : Fr cs_x130_heightsBetween fs_x130_heightsBetween A A := Fr.rfl
  unfold x130_heightsBetween at h
  obtain ⟨r1, A1, hf1, h⟩ := rz_b_inv h
  have fr1 := fr.trans ((wx14_keyOf F hf1).mono (by decide) (by decide))
  obtain ⟨r2, A2, hf2, h⟩ := rz_b_inv h
  have fr2 := fr1.trans ((wx14_keyOf F hf2).mono (by decide) (by decide))
  obtain ⟨r3, A3, hf3, h⟩ := rz_b_inv h
  have fr3 := fr2.trans ((wx33_firstFrom F hf3).mono (by decide) (by decide))
  exact fr3.trans (wx130_heightsBetween_26 F F _ _ _ _ _ _ _ _ h)
def cs_x131_floorDiv : List Nat := []
def fs_x131_floorDiv : List (Nat × Nat) := []
theorem wx131_floorDiv (F : Nat) {a0 : Int} {a1 : Int} {A : rz_A} {r : Int} {A' : rz_A} (h : x131_floorDiv F a0 a1 A = some (r, A')) : Fr cs_x131_floorDiv fs_x131_floorDiv A A' := by
  have fr : Fr cs_x131_floorDiv fs_x131_floorDiv A A := Fr.rfl
  unfold x131_floorDiv at h
  replace h := (rz_gn_inv h).2
  replace h := (rz_g32_inv h).2
  by_cases hc3 : (rz_oI fXor a0 a1) < 0
  · replace h := if_T h hc3
    replace h := (rz_g32_inv h).2
    by_cases hc5 : ((a0.tdiv a1) * a1) = a0
    · replace h := if_T h hc5
      cases h
      exact fr
    · replace h := if_F h hc5
      replace h := (rz_g32_inv h).2
      cases h
      exact fr
  · replace h := if_F h hc3
    cases h
    exact fr
def cs_x129_worthMeasuring : List Nat := []
def fs_x129_worthMeasuring : List (Nat × Nat) := []
theorem wx129_worthMeasuring_10 (F : Nat) : ∀ (n : Nat) (v1 : Int) (v2 : Int) (v4 : Int) (v5 : Int) (A : rz_A) (r : Int) (A' : rz_A), x129_worthMeasuring_10 F n v1 v2 v4 v5 A = some (r, A') → Fr cs_x129_worthMeasuring fs_x129_worthMeasuring A A' := by
  intro n
  induction n with
  | zero => intro v1 v2 v4 v5 A r A' h; cases h
  | succ n ih =>
    intro v1 v2 v4 v5 A r A' h
    have fr : Fr cs_x129_worthMeasuring fs_x129_worthMeasuring A A := Fr.rfl
    rw [x129_worthMeasuring_10] at h
    replace h := (rz_g32_inv h).2
    by_cases hc2 : (v5 + 1) < (A.1 57 0)
    · replace h := if_T h hc2
      replace h := (rz_gx_inv h).2.2
      replace h := (rz_gx_inv h).2.2
      replace h := (rz_g32_inv h).2
      obtain ⟨r8, A8, hf8, h⟩ := rz_b_inv h
      have fr8 := fr.trans ((wx130_heightsBetween F hf8).mono (by decide) (by decide))
      replace h := (rz_g64_inv h).2
      by_cases hc10 : v2 < (((A.1 58 ((v5 + 1)).toNat) - (A.1 58 (v5).toNat)) * r8)
      · replace h := if_T h hc10
        replace h := (rz_g32_inv h).2
        obtain ⟨r12, A12, hf12, h⟩ := rz_b_inv h
        have fr12 := fr8.trans ((wx131_floorDiv F hf12).mono (by decide) (by decide))
        exact fr12.trans (ih _ _ _ _ _ _ _ h)
      · replace h := if_F h hc10
        exact fr8.trans (ih _ _ _ _ _ _ _ h)
    · replace h := if_F h hc2
      cases h
      exact fr
theorem wx129_worthMeasuring (F : Nat) {a0 : Int} {A : rz_A} {r : Int} {A' : rz_A} (h : x129_worthMeasuring F a0 A = some (r, A')) : Fr cs_x129_worthMeasuring fs_x129_worthMeasuring A A' := by
  have fr : Fr cs_x129_worthMeasuring fs_x129_worthMeasuring A A := Fr.rfl
  unfold x129_worthMeasuring at h
  exact fr.trans (wx129_worthMeasuring_10 F F _ _ _ _ _ _ _ h)
def cs_x128_next : List Nat := [1, 49, 50, 52, 53, 54, 55, 58, 59, 60, 61, 62]
def fs_x128_next : List (Nat × Nat) := [(51, 3), (51, 4), (51, 5), (51, 10), (56, 8), (56, 9), (56, 10), (56, 11), (56, 12), (57, 0)]
theorem wx128_next (F : Nat) {a0 : Int} {A : rz_A} {r : Int} {A' : rz_A} (h : x128_next F a0 A = some (r, A')) : Fr cs_x128_next fs_x128_next A A' := by
  have fr : Fr cs_x128_next fs_x128_next A A := Fr.rfl
  unfold x128_next at h
  obtain ⟨r1, A1, hf1, h⟩ := rz_b_inv h
  have fr1 := fr.trans ((wx5_has F hf1).mono (by decide) (by decide))
  by_cases hc2 : r1 = 0
  · replace h := if_T h hc2
    obtain ⟨r3, A3, hf3, h⟩ := rz_b_inv h
    have fr3 := fr1.trans ((wx10_refuseAsTold F hf3).mono (by decide) (by decide))
    cases h
    exact fr3
  · replace h := if_F h hc2
    obtain ⟨_, A4, hf4, h⟩ := rz_b_inv h
    have fr4 := fr1.trans ((wx20_see F hf4).mono (by decide) (by decide))
    obtain ⟨_, A5, hf5, h⟩ := rz_b_inv h
    have fr5 := fr4.trans ((wx72_draw F hf5).mono (by decide) (by decide))
    by_cases hc6 : (A5.1 57 0) < 2
    · replace h := if_T h hc6
      obtain ⟨r7, A7, hf7, h⟩ := rz_b_inv h
      have fr7 := fr5.trans ((wx10_refuseAsTold F hf7).mono (by decide) (by decide))
      cases h
      exact fr7
    · replace h := if_F h hc6
      obtain ⟨r8, A8, hf8, h⟩ := rz_b_inv h
      have fr8 := fr5.trans ((wx129_worthMeasuring F hf8).mono (by decide) (by decide))
      cases h
      exact fr8
