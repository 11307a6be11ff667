set_option maxRecDepth 100000
def A9 : rz_A := (fun c k => (rg_M0.1 c k).toInt, fun c k => (rg_M0.2 c k).toInt)
def rc_ar (c : Nat) : Bool := match rc_m[c]? with
  | some (.inl _) => false
  | _ => true
theorem m0_ar {c : Nat} (h : rc_ar c = true) : A9.1 c = fun _ => 0 := by
  refine funext fun k => ?_
  have e : rg_M0.1 c k = 0 := by
    revert h
    unfold rc_ar rg_M0
    dsimp only
    generalize rc_m[c]? = o
    intro h
    cases o with
    | none => rfl
    | some x => cases x with
      | inl y => cases h
      | inr y => rfl
  show (rg_M0.1 c k).toInt = 0
  rw [e]
  rfl
theorem m0_rows : ([1, 3, 4, 5, 6, 8, 9, 10, 11, 12, 13, 14, 15, 16, 17, 19, 20, 21, 22, 23, 27, 28, 29, 30, 31, 34, 35, 36, 37, 38, 39, 41, 44, 45, 46, 47, 66, 70, 71, 73, 74, 76, 77, 79, 80, 82, 83, 85, 86, 88, 89, 90] ++ (List.range 41).map (· + 92)).all rc_ar = true := by decide +kernel
theorem m0_slots : ([(0, 16), (2, 0), (2, 1), (18, 0), (18, 1), (26, 0), (33, 0), (43, 0), (0, 14), (40, 1), (64, 4), (69, 0), (72, 0), (75, 0), (78, 0), (81, 0), (84, 0), (51, 5), (51, 4), (91, 0), (91, 1), (91, 2), (91, 3), (91, 4), (91, 5), (91, 6), (91, 7), (91, 8), (91, 9), (91, 11)] : List (Nat × Nat)).all (fun x => decide (A9.1 x.1 x.2 = 0)) = true := by decide +kernel
theorem m0_lim : A9.1 91 10 = A9.1 0 15 ∧ 0 ≤ A9.1 0 15 ∧ A9.1 0 15 ≤ 100 := by decide +kernel
theorem m0_dr : A9.1 56 12 ≤ 0 := by decide +kernel
theorem m0_mi : A9.1 91 66 ≤ 0 ∧ (A9.1 91 62 < 0 ∨ A9.1 91 66 < 0) := by decide +kernel
theorem A9_M : rg_M0 = toM A9 := by
  refine Prod.ext (funext fun c => funext fun k => ?_) (funext fun c => funext fun k => ?_)
  · show rg_M0.1 c k = Int32.ofInt (rg_M0.1 c k).toInt
    rw [Int32.ofInt_toInt]
  · show rg_M0.2 c k = Int64.ofInt (rg_M0.2 c k).toInt
    rw [Int64.ofInt_toInt]
theorem A9_wf : wf A9 := fun c k => ⟨r32_toInt _, r64_toInt _⟩
