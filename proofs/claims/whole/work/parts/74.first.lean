set_option maxRecDepth 100000
def A9 : rz_A := (fun c k => (rg_M0.1 c k).toInt, fun c k => (rg_M0.2 c k).toInt)
def rc_ar (c : Nat) : Bool := match rc_m[c]? with
  | some (.inl _) => false
  | _ => true
theorem m0_ar {c : Nat} (h : rc_ar c = true) : A9.1 c = fun _ => 0 := by
  refine funext fun k => ?_
  have e : rg_M0.1 c k = 0 := by
    revert h
    unfold rc_ar rg_M0
    dsimp only
    generalize rc_m[c]? = o
    intro h
    cases o with
    | none => rfl
    | some x => cases x with
      | inl y => cases h
      | inr y => rfl
  show (rg_M0.1 c k).toInt = 0
  rw [e]
  rfl
theorem A9_M : rg_M0 = toM A9 := by
  refine Prod.ext (funext fun c => funext fun k => ?_) (funext fun c => funext fun k => ?_)
  · show rg_M0.1 c k = Int32.ofInt (rg_M0.1 c k).toInt
    rw [Int32.ofInt_toInt]
  · show rg_M0.2 c k = Int64.ofInt (rg_M0.2 c k).toInt
    rw [Int64.ofInt_toInt]
theorem A9_wf : wf A9 := fun c k => ⟨r32_toInt _, r64_toInt _⟩
