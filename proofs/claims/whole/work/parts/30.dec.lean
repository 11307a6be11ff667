abbrev rg_cI (q : Int32 × rg_M) : Option Value × rg_M := (some (.int q.1), q.2)
abbrev rg_cJ (q : Int64 × rg_M) : Option Value × rg_M := (some (.long q.1), q.2)
abbrev rg_cU (q : Unit × rg_M) : Option Value × rg_M := (none, q.2)
abbrev rg_cR (c : Nat) (q : Unit × rg_M) : Option Value × rg_M := (some (.ref c), q.2)
/-- RiverGauge.refuse(I)I -/
def f1 (F : Nat) (a0 : Int32) (M : rg_M) : Option (Int32 × rg_M) :=
  if ((-1 : Int32) - a0) < 0 then
    some (a0, M)
  else
    if (nI 6) ≤ ((-1 : Int32) - a0) then
      some (a0, M)
    else
      if rg_in ((-1 : Int32) - a0) 6 = true then
      if rg_in ((-1 : Int32) - a0) 6 = true then
      some (a0, (rg_wI M 1 (((-1 : Int32) - a0)).toNatClampNeg ((M.1 1 (((-1 : Int32) - a0)).toNatClampNeg) + (1 : Int32))))
      else none
      else none
theorem c_f1 (F : Nat) {d : Nat} {a0 : Int32} {M : rg_M} {res : Int32 × rg_M} (h : f1 F a0 M = some res) : rg_Rn (d + 0) 1 [.ref 0, .int a0] M (some (.int res.1)) res.2 := by
  show rg_At (d + 0) 1 0 [some (.ref 0), some (.int a0), none] [] M (rg_cI res)
  unfold f1 at h
  refine rg_At.go 6 (pc' := if decide (((-1 : Int32) - a0) < 0) = true then 27 else 8) (L' := [some (.ref 0), some (.int a0), some (.int ((-1 : Int32) - a0))]) (S' := []) (M' := M) rfl ?_
  by_cases hc0 : ((-1 : Int32) - a0) < 0
  · rw [if_pos hc0] at h
    refine rg_At.ifT hc0 ?_
    refine rg_At.go 1 (pc' := 28) (L' := [some (.ref 0), some (.int a0), some (.int ((-1 : Int32) - a0))]) (S' := [.int a0]) (M' := M) rfl ?_
    cases h
    exact rg_At.ret rfl
  · rw [if_neg hc0] at h
    refine rg_At.ifF hc0 ?_
    refine rg_At.go 5 (pc' := if decide ((nI 6) ≤ ((-1 : Int32) - a0)) = true then 27 else 17) (L' := [some (.ref 0), some (.int a0), some (.int ((-1 : Int32) - a0))]) (S' := []) (M' := M) rfl ?_
    by_cases hc1 : (nI 6) ≤ ((-1 : Int32) - a0)
    · rw [if_pos hc1] at h
      refine rg_At.ifT hc1 ?_
      refine rg_At.go 1 (pc' := 28) (L' := [some (.ref 0), some (.int a0), some (.int ((-1 : Int32) - a0))]) (S' := [.int a0]) (M' := M) rfl ?_
      cases h
      exact rg_At.ret rfl
    · rw [if_neg hc1] at h
      refine rg_At.ifF hc1 ?_
      refine rg_At.go 4 (pc' := 23) (L' := [some (.ref 0), some (.int a0), some (.int ((-1 : Int32) - a0))]) (S' := [.int ((-1 : Int32) - a0), .ref 1, .int ((-1 : Int32) - a0), .ref 1]) (M' := M) rfl ?_
      by_cases hi2 : rg_in ((-1 : Int32) - a0) 6 = true
      rotate_left
      · rw [if_neg hi2] at h; cases h
      rw [if_pos hi2] at h
      refine rg_At.iald rfl rfl hi2 ?_
      refine rg_At.go 2 (pc' := 26) (L' := [some (.ref 0), some (.int a0), some (.int ((-1 : Int32) - a0))]) (S' := [.int ((M.1 1 (((-1 : Int32) - a0)).toNatClampNeg) + (1 : Int32)), .int ((-1 : Int32) - a0), .ref 1]) (M' := M) rfl ?_
      by_cases hi3 : rg_in ((-1 : Int32) - a0) 6 = true
      rotate_left
      · rw [if_neg hi3] at h; cases h
      rw [if_pos hi3] at h
      refine rg_At.iast rfl rfl hi3 ?_
      refine rg_At.go 1 (pc' := 28) (L' := [some (.ref 0), some (.int a0), some (.int ((-1 : Int32) - a0))]) (S' := [.int a0]) (M' := (rg_wI M 1 (((-1 : Int32) - a0)).toNatClampNeg ((M.1 1 (((-1 : Int32) - a0)).toNatClampNeg) + (1 : Int32)))) rfl ?_
      cases h
      exact rg_At.ret rfl
/-- RiverGauge.go(I)I -/
def f0 (F : Nat) (a0 : Int32) (M : rg_M) : Option (Int32 × rg_M) :=
  if (1 : Int32) ≤ a0 then
    if a0 ≤ ((9999 : Int32) - (M.1 0 16)) then
      some (((M.1 0 16) + a0), (rg_wI M 0 16 ((M.1 0 16) + a0)))
    else
      match f1 F (-6 : Int32) M with
      | none => none
      | some (r2, M2) =>
        some (r2, M2)
  else
    match f1 F (-4 : Int32) M with
    | none => none
    | some (r3, M3) =>
      some (r3, M3)
theorem c_f0 (F : Nat) {d : Nat} {a0 : Int32} {M : rg_M} {res : Int32 × rg_M} (h : f0 F a0 M = some res) : rg_Rn (d + 1) 0 [.ref 0, .int a0] M (some (.int res.1)) res.2 := by
  show rg_At (d + 1) 0 0 [some (.ref 0), some (.int a0)] [] M (rg_cI res)
  unfold f0 at h
  refine rg_At.go 3 (pc' := if decide ((1 : Int32) ≤ a0) = true then 12 else 5) (L' := [some (.ref 0), some (.int a0)]) (S' := []) (M' := M) rfl ?_
  by_cases hc0 : (1 : Int32) ≤ a0
  · rw [if_pos hc0] at h
    refine rg_At.ifT hc0 ?_
    refine rg_At.go 6 (pc' := if decide (a0 ≤ ((9999 : Int32) - (M.1 0 16))) = true then 31 else 24) (L' := [some (.ref 0), some (.int a0)]) (S' := []) (M' := M) rfl ?_
    by_cases hc1 : a0 ≤ ((9999 : Int32) - (M.1 0 16))
    · rw [if_pos hc1] at h
      refine rg_At.ifT hc1 ?_
      refine rg_At.go 8 (pc' := 45) (L' := [some (.ref 0), some (.int a0)]) (S' := [.int ((M.1 0 16) + a0)]) (M' := (rg_wI M 0 16 ((M.1 0 16) + a0))) rfl ?_
      cases h
      exact rg_At.ret rfl
    · rw [if_neg hc1] at h
      refine rg_At.ifF hc1 ?_
      refine rg_At.go 2 (pc' := 27) (L' := [some (.ref 0), some (.int a0)]) (S' := [.int (-6 : Int32), .ref 0]) (M' := M) rfl ?_
      cases hf2 : f1 F (-6 : Int32) M with
      | none => simp only [hf2] at h; cases h
      | some q2 =>
        obtain ⟨r2, M2⟩ := q2
        simp only [hf2] at h
        refine rg_At.call (d := d + 0) (as := [.ref 0, .int (-6 : Int32)]) (rest := []) (r := some (.int r2)) (M' := M2) rfl (c_f1 F (d := d + 0) hf2) ?_
        cases h
        exact rg_At.ret rfl
  · rw [if_neg hc0] at h
    refine rg_At.ifF hc0 ?_
    refine rg_At.go 2 (pc' := 8) (L' := [some (.ref 0), some (.int a0)]) (S' := [.int (-4 : Int32), .ref 0]) (M' := M) rfl ?_
    cases hf3 : f1 F (-4 : Int32) M with
    | none => simp only [hf3] at h; cases h
    | some q3 =>
      obtain ⟨r3, M3⟩ := q3
      simp only [hf3] at h
      refine rg_At.call (d := d + 0) (as := [.ref 0, .int (-4 : Int32)]) (rest := []) (r := some (.int r3)) (M' := M3) rfl (c_f1 F (d := d + 0) hf3) ?_
      cases h
      exact rg_At.ret rfl
def f11_14 (F : Nat) : Nat → Int32 → Int32 → Int32 → Int32 → Int32 → Int32 → rg_M → Option (Int32 × rg_M)
  | 0, _, _, _, _, _, _, _ => none
  | n + 1, v1, v2, v3, v4, v5, v6, M =>
    if (M.1 2 1) ≤ v6 then
      some (v4, M)
    else
      if rg_in v6 60 = true then
      if ¬ (M.1 14 (v6).toNatClampNeg) = v1 then
        if (0 : Int32) = 0 then
          f11_14 F n v1 v2 v3 v4 v5 (v6 + (1 : Int32)) M
        else
          if rg_in v6 60 = true then
          if (M.1 16 (v6).toNatClampNeg) < v5 then
            f11_14 F n v1 v2 v3 v4 v5 (v6 + (1 : Int32)) M
          else
            if rg_in v6 60 = true then
            if rg_in v6 60 = true then
            f11_14 F n v1 v2 v3 (M.1 15 (v6).toNatClampNeg) (M.1 16 (v6).toNatClampNeg) (v6 + (1 : Int32)) M
            else none
            else none
          else none
      else
        if rg_in v6 60 = true then
        if v3 < (M.1 17 (v6).toNatClampNeg) then
          if (0 : Int32) = 0 then
            f11_14 F n v1 v2 v3 v4 v5 (v6 + (1 : Int32)) M
          else
            if rg_in v6 60 = true then
            if (M.1 16 (v6).toNatClampNeg) < v5 then
              f11_14 F n v1 v2 v3 v4 v5 (v6 + (1 : Int32)) M
            else
              if rg_in v6 60 = true then
              if rg_in v6 60 = true then
              f11_14 F n v1 v2 v3 (M.1 15 (v6).toNatClampNeg) (M.1 16 (v6).toNatClampNeg) (v6 + (1 : Int32)) M
              else none
              else none
            else none
        else
          if rg_in v6 60 = true then
          if v2 < (M.1 16 (v6).toNatClampNeg) then
            if (0 : Int32) = 0 then
              f11_14 F n v1 v2 v3 v4 v5 (v6 + (1 : Int32)) M
            else
              if rg_in v6 60 = true then
              if (M.1 16 (v6).toNatClampNeg) < v5 then
                f11_14 F n v1 v2 v3 v4 v5 (v6 + (1 : Int32)) M
              else
                if rg_in v6 60 = true then
                if rg_in v6 60 = true then
                f11_14 F n v1 v2 v3 (M.1 15 (v6).toNatClampNeg) (M.1 16 (v6).toNatClampNeg) (v6 + (1 : Int32)) M
                else none
                else none
              else none
          else
            if (1 : Int32) = 0 then
              f11_14 F n v1 v2 v3 v4 v5 (v6 + (1 : Int32)) M
            else
              if rg_in v6 60 = true then
              if (M.1 16 (v6).toNatClampNeg) < v5 then
                f11_14 F n v1 v2 v3 v4 v5 (v6 + (1 : Int32)) M
              else
                if rg_in v6 60 = true then
                if rg_in v6 60 = true then
                f11_14 F n v1 v2 v3 (M.1 15 (v6).toNatClampNeg) (M.1 16 (v6).toNatClampNeg) (v6 + (1 : Int32)) M
                else none
                else none
              else none
          else none
        else none
      else none
theorem c_f11_14 {d : Nat} (F : Nat) : ∀ (n : Nat) (v1 : Int32) (v2 : Int32) (v3 : Int32) (v4 : Int32) (v5 : Int32) (v6 : Int32) (M : rg_M) (res : Int32 × rg_M), f11_14 F n v1 v2 v3 v4 v5 v6 M = some res → rg_At (d + 0) 11 14 [some (.ref 2), some (.int v1), some (.int v2), some (.int v3), some (.int v4), some (.int v5), some (.int v6), none] [] M (rg_cI res) := by
  intro n
  induction n with
  | zero => intro v1 v2 v3 v4 v5 v6 M res h; cases h
  | succ n ih =>
    intro v1 v2 v3 v4 v5 v6 M res h
    rw [f11_14] at h
    refine rg_At.go 4 (pc' := if decide ((M.1 2 1) ≤ v6) = true then 104 else 23) (L' := [some (.ref 2), some (.int v1), some (.int v2), some (.int v3), some (.int v4), some (.int v5), some (.int v6), none]) (S' := []) (M' := M) rfl ?_
    by_cases hc0 : (M.1 2 1) ≤ v6
    · rw [if_pos hc0] at h
      refine rg_At.ifT hc0 ?_
      refine rg_At.go 1 (pc' := 106) (L' := [some (.ref 2), some (.int v1), some (.int v2), some (.int v3), some (.int v4), some (.int v5), some (.int v6), none]) (S' := [.int v4]) (M' := M) rfl ?_
      cases h
      exact rg_At.ret rfl
    · rw [if_neg hc0] at h
      refine rg_At.ifF hc0 ?_
      refine rg_At.go 3 (pc' := 29) (L' := [some (.ref 2), some (.int v1), some (.int v2), some (.int v3), some (.int v4), some (.int v5), some (.int v6), none]) (S' := [.int v6, .ref 14]) (M' := M) rfl ?_
      by_cases hi1 : rg_in v6 60 = true
      rotate_left
      · rw [if_neg hi1] at h; cases h
      rw [if_pos hi1] at h
      refine rg_At.iald rfl rfl hi1 ?_
      refine rg_At.go 2 (pc' := if decide (¬ (M.1 14 (v6).toNatClampNeg) = v1) = true then 60 else 34) (L' := [some (.ref 2), some (.int v1), some (.int v2), some (.int v3), some (.int v4), some (.int v5), some (.int v6), none]) (S' := []) (M' := M) rfl ?_
      by_cases hc2 : ¬ (M.1 14 (v6).toNatClampNeg) = v1
      · rw [if_pos hc2] at h
        refine rg_At.ifT hc2 ?_
        refine rg_At.go 4 (pc' := if decide ((0 : Int32) = 0) = true then 98 else 68) (L' := [some (.ref 2), some (.int v1), some (.int v2), some (.int v3), some (.int v4), some (.int v5), some (.int v6), some (.int (0 : Int32))]) (S' := []) (M' := M) rfl ?_
        by_cases hc3 : (0 : Int32) = 0
        · rw [if_pos hc3] at h
          refine rg_At.ifT hc3 ?_
          refine rg_At.go 2 (pc' := 14) (L' := [some (.ref 2), some (.int v1), some (.int v2), some (.int v3), some (.int v4), some (.int v5), some (.int (v6 + (1 : Int32))), some (.int (0 : Int32))]) (S' := []) (M' := M) rfl ?_
          refine rg_At.more (rg_le_ok (L := [some (.ref 2), some (.int v1), some (.int v2), some (.int v3), some (.int v4), some (.int v5), some (.int (v6 + (1 : Int32))), none]) (by simp [rg_le])) ?_
          exact ih _ _ _ _ _ _ _ _ h
        · rw [if_neg hc3] at h
          refine rg_At.ifF hc3 ?_
          refine rg_At.go 3 (pc' := 74) (L' := [some (.ref 2), some (.int v1), some (.int v2), some (.int v3), some (.int v4), some (.int v5), some (.int v6), some (.int (0 : Int32))]) (S' := [.int v6, .ref 16]) (M' := M) rfl ?_
          by_cases hi4 : rg_in v6 60 = true
          rotate_left
          · rw [if_neg hi4] at h; cases h
          rw [if_pos hi4] at h
          refine rg_At.iald rfl rfl hi4 ?_
          refine rg_At.go 2 (pc' := if decide ((M.1 16 (v6).toNatClampNeg) < v5) = true then 98 else 80) (L' := [some (.ref 2), some (.int v1), some (.int v2), some (.int v3), some (.int v4), some (.int v5), some (.int v6), some (.int (0 : Int32))]) (S' := []) (M' := M) rfl ?_
          by_cases hc5 : (M.1 16 (v6).toNatClampNeg) < v5
          · rw [if_pos hc5] at h
            refine rg_At.ifT hc5 ?_
            refine rg_At.go 2 (pc' := 14) (L' := [some (.ref 2), some (.int v1), some (.int v2), some (.int v3), some (.int v4), some (.int v5), some (.int (v6 + (1 : Int32))), some (.int (0 : Int32))]) (S' := []) (M' := M) rfl ?_
            refine rg_At.more (rg_le_ok (L := [some (.ref 2), some (.int v1), some (.int v2), some (.int v3), some (.int v4), some (.int v5), some (.int (v6 + (1 : Int32))), none]) (by simp [rg_le])) ?_
            exact ih _ _ _ _ _ _ _ _ h
          · rw [if_neg hc5] at h
            refine rg_At.ifF hc5 ?_
            refine rg_At.go 3 (pc' := 86) (L' := [some (.ref 2), some (.int v1), some (.int v2), some (.int v3), some (.int v4), some (.int v5), some (.int v6), some (.int (0 : Int32))]) (S' := [.int v6, .ref 16]) (M' := M) rfl ?_
            by_cases hi6 : rg_in v6 60 = true
            rotate_left
            · rw [if_neg hi6] at h; cases h
            rw [if_pos hi6] at h
            refine rg_At.iald rfl rfl hi6 ?_
            refine rg_At.go 4 (pc' := 95) (L' := [some (.ref 2), some (.int v1), some (.int v2), some (.int v3), some (.int v4), some (.int (M.1 16 (v6).toNatClampNeg)), some (.int v6), some (.int (0 : Int32))]) (S' := [.int v6, .ref 15]) (M' := M) rfl ?_
            by_cases hi7 : rg_in v6 60 = true
            rotate_left
            · rw [if_neg hi7] at h; cases h
            rw [if_pos hi7] at h
            refine rg_At.iald rfl rfl hi7 ?_
            refine rg_At.go 3 (pc' := 14) (L' := [some (.ref 2), some (.int v1), some (.int v2), some (.int v3), some (.int (M.1 15 (v6).toNatClampNeg)), some (.int (M.1 16 (v6).toNatClampNeg)), some (.int (v6 + (1 : Int32))), some (.int (0 : Int32))]) (S' := []) (M' := M) rfl ?_
            refine rg_At.more (rg_le_ok (L := [some (.ref 2), some (.int v1), some (.int v2), some (.int v3), some (.int (M.1 15 (v6).toNatClampNeg)), some (.int (M.1 16 (v6).toNatClampNeg)), some (.int (v6 + (1 : Int32))), none]) (by simp [rg_le])) ?_
            exact ih _ _ _ _ _ _ _ _ h
      · rw [if_neg hc2] at h
        refine rg_At.ifF hc2 ?_
        refine rg_At.go 3 (pc' := 40) (L' := [some (.ref 2), some (.int v1), some (.int v2), some (.int v3), some (.int v4), some (.int v5), some (.int v6), none]) (S' := [.int v6, .ref 17]) (M' := M) rfl ?_
        by_cases hi8 : rg_in v6 60 = true
        rotate_left
        · rw [if_neg hi8] at h; cases h
        rw [if_pos hi8] at h
        refine rg_At.iald rfl rfl hi8 ?_
        refine rg_At.go 2 (pc' := if decide (v3 < (M.1 17 (v6).toNatClampNeg)) = true then 60 else 45) (L' := [some (.ref 2), some (.int v1), some (.int v2), some (.int v3), some (.int v4), some (.int v5), some (.int v6), none]) (S' := []) (M' := M) rfl ?_
        by_cases hc9 : v3 < (M.1 17 (v6).toNatClampNeg)
        · rw [if_pos hc9] at h
          refine rg_At.ifT hc9 ?_
          refine rg_At.go 4 (pc' := if decide ((0 : Int32) = 0) = true then 98 else 68) (L' := [some (.ref 2), some (.int v1), some (.int v2), some (.int v3), some (.int v4), some (.int v5), some (.int v6), some (.int (0 : Int32))]) (S' := []) (M' := M) rfl ?_
          by_cases hc10 : (0 : Int32) = 0
          · rw [if_pos hc10] at h
            refine rg_At.ifT hc10 ?_
            refine rg_At.go 2 (pc' := 14) (L' := [some (.ref 2), some (.int v1), some (.int v2), some (.int v3), some (.int v4), some (.int v5), some (.int (v6 + (1 : Int32))), some (.int (0 : Int32))]) (S' := []) (M' := M) rfl ?_
            refine rg_At.more (rg_le_ok (L := [some (.ref 2), some (.int v1), some (.int v2), some (.int v3), some (.int v4), some (.int v5), some (.int (v6 + (1 : Int32))), none]) (by simp [rg_le])) ?_
            exact ih _ _ _ _ _ _ _ _ h
          · rw [if_neg hc10] at h
            refine rg_At.ifF hc10 ?_
            refine rg_At.go 3 (pc' := 74) (L' := [some (.ref 2), some (.int v1), some (.int v2), some (.int v3), some (.int v4), some (.int v5), some (.int v6), some (.int (0 : Int32))]) (S' := [.int v6, .ref 16]) (M' := M) rfl ?_
            by_cases hi11 : rg_in v6 60 = true
            rotate_left
            · rw [if_neg hi11] at h; cases h
            rw [if_pos hi11] at h
            refine rg_At.iald rfl rfl hi11 ?_
            refine rg_At.go 2 (pc' := if decide ((M.1 16 (v6).toNatClampNeg) < v5) = true then 98 else 80) (L' := [some (.ref 2), some (.int v1), some (.int v2), some (.int v3), some (.int v4), some (.int v5), some (.int v6), some (.int (0 : Int32))]) (S' := []) (M' := M) rfl ?_
            by_cases hc12 : (M.1 16 (v6).toNatClampNeg) < v5
            · rw [if_pos hc12] at h
              refine rg_At.ifT hc12 ?_
              refine rg_At.go 2 (pc' := 14) (L' := [some (.ref 2), some (.int v1), some (.int v2), some (.int v3), some (.int v4), some (.int v5), some (.int (v6 + (1 : Int32))), some (.int (0 : Int32))]) (S' := []) (M' := M) rfl ?_
              refine rg_At.more (rg_le_ok (L := [some (.ref 2), some (.int v1), some (.int v2), some (.int v3), some (.int v4), some (.int v5), some (.int (v6 + (1 : Int32))), none]) (by simp [rg_le])) ?_
              exact ih _ _ _ _ _ _ _ _ h
            · rw [if_neg hc12] at h
              refine rg_At.ifF hc12 ?_
              refine rg_At.go 3 (pc' := 86) (L' := [some (.ref 2), some (.int v1), some (.int v2), some (.int v3), some (.int v4), some (.int v5), some (.int v6), some (.int (0 : Int32))]) (S' := [.int v6, .ref 16]) (M' := M) rfl ?_
              by_cases hi13 : rg_in v6 60 = true
              rotate_left
              · rw [if_neg hi13] at h; cases h
              rw [if_pos hi13] at h
              refine rg_At.iald rfl rfl hi13 ?_
              refine rg_At.go 4 (pc' := 95) (L' := [some (.ref 2), some (.int v1), some (.int v2), some (.int v3), some (.int v4), some (.int (M.1 16 (v6).toNatClampNeg)), some (.int v6), some (.int (0 : Int32))]) (S' := [.int v6, .ref 15]) (M' := M) rfl ?_
              by_cases hi14 : rg_in v6 60 = true
              rotate_left
              · rw [if_neg hi14] at h; cases h
              rw [if_pos hi14] at h
              refine rg_At.iald rfl rfl hi14 ?_
              refine rg_At.go 3 (pc' := 14) (L' := [some (.ref 2), some (.int v1), some (.int v2), some (.int v3), some (.int (M.1 15 (v6).toNatClampNeg)), some (.int (M.1 16 (v6).toNatClampNeg)), some (.int (v6 + (1 : Int32))), some (.int (0 : Int32))]) (S' := []) (M' := M) rfl ?_
              refine rg_At.more (rg_le_ok (L := [some (.ref 2), some (.int v1), some (.int v2), some (.int v3), some (.int (M.1 15 (v6).toNatClampNeg)), some (.int (M.1 16 (v6).toNatClampNeg)), some (.int (v6 + (1 : Int32))), none]) (by simp [rg_le])) ?_
              exact ih _ _ _ _ _ _ _ _ h
        · rw [if_neg hc9] at h
          refine rg_At.ifF hc9 ?_
          refine rg_At.go 3 (pc' := 51) (L' := [some (.ref 2), some (.int v1), some (.int v2), some (.int v3), some (.int v4), some (.int v5), some (.int v6), none]) (S' := [.int v6, .ref 16]) (M' := M) rfl ?_
          by_cases hi15 : rg_in v6 60 = true
          rotate_left
          · rw [if_neg hi15] at h; cases h
          rw [if_pos hi15] at h
          refine rg_At.iald rfl rfl hi15 ?_
          refine rg_At.go 2 (pc' := if decide (v2 < (M.1 16 (v6).toNatClampNeg)) = true then 60 else 56) (L' := [some (.ref 2), some (.int v1), some (.int v2), some (.int v3), some (.int v4), some (.int v5), some (.int v6), none]) (S' := []) (M' := M) rfl ?_
          by_cases hc16 : v2 < (M.1 16 (v6).toNatClampNeg)
          · rw [if_pos hc16] at h
            refine rg_At.ifT hc16 ?_
            refine rg_At.go 4 (pc' := if decide ((0 : Int32) = 0) = true then 98 else 68) (L' := [some (.ref 2), some (.int v1), some (.int v2), some (.int v3), some (.int v4), some (.int v5), some (.int v6), some (.int (0 : Int32))]) (S' := []) (M' := M) rfl ?_
            by_cases hc17 : (0 : Int32) = 0
            · rw [if_pos hc17] at h
              refine rg_At.ifT hc17 ?_
              refine rg_At.go 2 (pc' := 14) (L' := [some (.ref 2), some (.int v1), some (.int v2), some (.int v3), some (.int v4), some (.int v5), some (.int (v6 + (1 : Int32))), some (.int (0 : Int32))]) (S' := []) (M' := M) rfl ?_
              refine rg_At.more (rg_le_ok (L := [some (.ref 2), some (.int v1), some (.int v2), some (.int v3), some (.int v4), some (.int v5), some (.int (v6 + (1 : Int32))), none]) (by simp [rg_le])) ?_
              exact ih _ _ _ _ _ _ _ _ h
            · rw [if_neg hc17] at h
              refine rg_At.ifF hc17 ?_
              refine rg_At.go 3 (pc' := 74) (L' := [some (.ref 2), some (.int v1), some (.int v2), some (.int v3), some (.int v4), some (.int v5), some (.int v6), some (.int (0 : Int32))]) (S' := [.int v6, .ref 16]) (M' := M) rfl ?_
              by_cases hi18 : rg_in v6 60 = true
              rotate_left
              · rw [if_neg hi18] at h; cases h
              rw [if_pos hi18] at h
              refine rg_At.iald rfl rfl hi18 ?_
              refine rg_At.go 2 (pc' := if decide ((M.1 16 (v6).toNatClampNeg) < v5) = true then 98 else 80) (L' := [some (.ref 2), some (.int v1), some (.int v2), some (.int v3), some (.int v4), some (.int v5), some (.int v6), some (.int (0 : Int32))]) (S' := []) (M' := M) rfl ?_
              by_cases hc19 : (M.1 16 (v6).toNatClampNeg) < v5
              · rw [if_pos hc19] at h
                refine rg_At.ifT hc19 ?_
                refine rg_At.go 2 (pc' := 14) (L' := [some (.ref 2), some (.int v1), some (.int v2), some (.int v3), some (.int v4), some (.int v5), some (.int (v6 + (1 : Int32))), some (.int (0 : Int32))]) (S' := []) (M' := M) rfl ?_
                refine rg_At.more (rg_le_ok (L := [some (.ref 2), some (.int v1), some (.int v2), some (.int v3), some (.int v4), some (.int v5), some (.int (v6 + (1 : Int32))), none]) (by simp [rg_le])) ?_
                exact ih _ _ _ _ _ _ _ _ h
              · rw [if_neg hc19] at h
                refine rg_At.ifF hc19 ?_
                refine rg_At.go 3 (pc' := 86) (L' := [some (.ref 2), some (.int v1), some (.int v2), some (.int v3), some (.int v4), some (.int v5), some (.int v6), some (.int (0 : Int32))]) (S' := [.int v6, .ref 16]) (M' := M) rfl ?_
                by_cases hi20 : rg_in v6 60 = true
                rotate_left
                · rw [if_neg hi20] at h; cases h
                rw [if_pos hi20] at h
                refine rg_At.iald rfl rfl hi20 ?_
                refine rg_At.go 4 (pc' := 95) (L' := [some (.ref 2), some (.int v1), some (.int v2), some (.int v3), some (.int v4), some (.int (M.1 16 (v6).toNatClampNeg)), some (.int v6), some (.int (0 : Int32))]) (S' := [.int v6, .ref 15]) (M' := M) rfl ?_
                by_cases hi21 : rg_in v6 60 = true
                rotate_left
                · rw [if_neg hi21] at h; cases h
                rw [if_pos hi21] at h
                refine rg_At.iald rfl rfl hi21 ?_
                refine rg_At.go 3 (pc' := 14) (L' := [some (.ref 2), some (.int v1), some (.int v2), some (.int v3), some (.int (M.1 15 (v6).toNatClampNeg)), some (.int (M.1 16 (v6).toNatClampNeg)), some (.int (v6 + (1 : Int32))), some (.int (0 : Int32))]) (S' := []) (M' := M) rfl ?_
                refine rg_At.more (rg_le_ok (L := [some (.ref 2), some (.int v1), some (.int v2), some (.int v3), some (.int (M.1 15 (v6).toNatClampNeg)), some (.int (M.1 16 (v6).toNatClampNeg)), some (.int (v6 + (1 : Int32))), none]) (by simp [rg_le])) ?_
                exact ih _ _ _ _ _ _ _ _ h
          · rw [if_neg hc16] at h
            refine rg_At.ifF hc16 ?_
            refine rg_At.go 5 (pc' := if decide ((1 : Int32) = 0) = true then 98 else 68) (L' := [some (.ref 2), some (.int v1), some (.int v2), some (.int v3), some (.int v4), some (.int v5), some (.int v6), some (.int (1 : Int32))]) (S' := []) (M' := M) rfl ?_
            by_cases hc22 : (1 : Int32) = 0
            · rw [if_pos hc22] at h
              refine rg_At.ifT hc22 ?_
              refine rg_At.go 2 (pc' := 14) (L' := [some (.ref 2), some (.int v1), some (.int v2), some (.int v3), some (.int v4), some (.int v5), some (.int (v6 + (1 : Int32))), some (.int (1 : Int32))]) (S' := []) (M' := M) rfl ?_
              refine rg_At.more (rg_le_ok (L := [some (.ref 2), some (.int v1), some (.int v2), some (.int v3), some (.int v4), some (.int v5), some (.int (v6 + (1 : Int32))), none]) (by simp [rg_le])) ?_
              exact ih _ _ _ _ _ _ _ _ h
            · rw [if_neg hc22] at h
              refine rg_At.ifF hc22 ?_
              refine rg_At.go 3 (pc' := 74) (L' := [some (.ref 2), some (.int v1), some (.int v2), some (.int v3), some (.int v4), some (.int v5), some (.int v6), some (.int (1 : Int32))]) (S' := [.int v6, .ref 16]) (M' := M) rfl ?_
              by_cases hi23 : rg_in v6 60 = true
              rotate_left
              · rw [if_neg hi23] at h; cases h
              rw [if_pos hi23] at h
              refine rg_At.iald rfl rfl hi23 ?_
              refine rg_At.go 2 (pc' := if decide ((M.1 16 (v6).toNatClampNeg) < v5) = true then 98 else 80) (L' := [some (.ref 2), some (.int v1), some (.int v2), some (.int v3), some (.int v4), some (.int v5), some (.int v6), some (.int (1 : Int32))]) (S' := []) (M' := M) rfl ?_
              by_cases hc24 : (M.1 16 (v6).toNatClampNeg) < v5
              · rw [if_pos hc24] at h
                refine rg_At.ifT hc24 ?_
                refine rg_At.go 2 (pc' := 14) (L' := [some (.ref 2), some (.int v1), some (.int v2), some (.int v3), some (.int v4), some (.int v5), some (.int (v6 + (1 : Int32))), some (.int (1 : Int32))]) (S' := []) (M' := M) rfl ?_
                refine rg_At.more (rg_le_ok (L := [some (.ref 2), some (.int v1), some (.int v2), some (.int v3), some (.int v4), some (.int v5), some (.int (v6 + (1 : Int32))), none]) (by simp [rg_le])) ?_
                exact ih _ _ _ _ _ _ _ _ h
              · rw [if_neg hc24] at h
                refine rg_At.ifF hc24 ?_
                refine rg_At.go 3 (pc' := 86) (L' := [some (.ref 2), some (.int v1), some (.int v2), some (.int v3), some (.int v4), some (.int v5), some (.int v6), some (.int (1 : Int32))]) (S' := [.int v6, .ref 16]) (M' := M) rfl ?_
                by_cases hi25 : rg_in v6 60 = true
                rotate_left
                · rw [if_neg hi25] at h; cases h
                rw [if_pos hi25] at h
                refine rg_At.iald rfl rfl hi25 ?_
                refine rg_At.go 4 (pc' := 95) (L' := [some (.ref 2), some (.int v1), some (.int v2), some (.int v3), some (.int v4), some (.int (M.1 16 (v6).toNatClampNeg)), some (.int v6), some (.int (1 : Int32))]) (S' := [.int v6, .ref 15]) (M' := M) rfl ?_
                by_cases hi26 : rg_in v6 60 = true
                rotate_left
                · rw [if_neg hi26] at h; cases h
                rw [if_pos hi26] at h
                refine rg_At.iald rfl rfl hi26 ?_
                refine rg_At.go 3 (pc' := 14) (L' := [some (.ref 2), some (.int v1), some (.int v2), some (.int v3), some (.int (M.1 15 (v6).toNatClampNeg)), some (.int (M.1 16 (v6).toNatClampNeg)), some (.int (v6 + (1 : Int32))), some (.int (1 : Int32))]) (S' := []) (M' := M) rfl ?_
                refine rg_At.more (rg_le_ok (L := [some (.ref 2), some (.int v1), some (.int v2), some (.int v3), some (.int (M.1 15 (v6).toNatClampNeg)), some (.int (M.1 16 (v6).toNatClampNeg)), some (.int (v6 + (1 : Int32))), none]) (by simp [rg_le])) ?_
                exact ih _ _ _ _ _ _ _ _ h
/-- RiverGauge$Posts.zeroOf(III)I -/
def f11 (F : Nat) (a0 : Int32) (a1 : Int32) (a2 : Int32) (M : rg_M) : Option (Int32 × rg_M) :=
  if rg_in a0 6 = true then
  f11_14 F F a0 a1 a2 (M.1 3 (a0).toNatClampNeg) (-1 : Int32) (0 : Int32) M
  else none
theorem c_f11 (F : Nat) {d : Nat} {a0 : Int32} {a1 : Int32} {a2 : Int32} {M : rg_M} {res : Int32 × rg_M} (h : f11 F a0 a1 a2 M = some res) : rg_Rn (d + 0) 11 [.ref 2, .int a0, .int a1, .int a2] M (some (.int res.1)) res.2 := by
  show rg_At (d + 0) 11 0 [some (.ref 2), some (.int a0), some (.int a1), some (.int a2), none, none, none, none] [] M (rg_cI res)
  unfold f11 at h
  refine rg_At.go 3 (pc' := 5) (L' := [some (.ref 2), some (.int a0), some (.int a1), some (.int a2), none, none, none, none]) (S' := [.int a0, .ref 3]) (M' := M) rfl ?_
  by_cases hi0 : rg_in a0 6 = true
  rotate_left
  · rw [if_neg hi0] at h; cases h
  rw [if_pos hi0] at h
  refine rg_At.iald rfl rfl hi0 ?_
  refine rg_At.go 5 (pc' := 14) (L' := [some (.ref 2), some (.int a0), some (.int a1), some (.int a2), some (.int (M.1 3 (a0).toNatClampNeg)), some (.int (-1 : Int32)), some (.int (0 : Int32)), none]) (S' := []) (M' := M) rfl ?_
  refine rg_At.more (rg_le_ok (L := [some (.ref 2), some (.int a0), some (.int a1), some (.int a2), some (.int (M.1 3 (a0).toNatClampNeg)), some (.int (-1 : Int32)), some (.int (0 : Int32)), none]) (by simp [rg_le])) ?_
  exact c_f11_14 F F _ _ _ _ _ _ _ _ h
/-- RiverGauge$View.keyOf(II)I -/
def f14 (F : Nat) (a0 : Int32) (a1 : Int32) (M : rg_M) : Option (Int32 × rg_M) :=
  some (((a0 * (16384 : Int32)) + a1), M)
theorem c_f14 (F : Nat) {d : Nat} {a0 : Int32} {a1 : Int32} {M : rg_M} {res : Int32 × rg_M} (h : f14 F a0 a1 M = some res) : rg_Rn (d + 0) 14 [.int a0, .int a1] M (some (.int res.1)) res.2 := by
  show rg_At (d + 0) 14 0 [some (.int a0), some (.int a1)] [] M (rg_cI res)
  unfold f14 at h
  refine rg_At.go 5 (pc' := 7) (L' := [some (.int a0), some (.int a1)]) (S' := [.int ((a0 * (16384 : Int32)) + a1)]) (M' := M) rfl ?_
  cases h
  exact rg_At.ret rfl
/-- RiverGaugeModel.no(I)I -/
def f142 (F : Nat) (a0 : Int32) (M : rg_M) : Option (Int32 × rg_M) :=
  if rg_in (-a0) 7 = true then
  if rg_in (-a0) 7 = true then
  some (a0, (rg_wI M 132 ((-a0)).toNatClampNeg ((M.1 132 ((-a0)).toNatClampNeg) + (1 : Int32))))
  else none
  else none
theorem c_f142 (F : Nat) {d : Nat} {a0 : Int32} {M : rg_M} {res : Int32 × rg_M} (h : f142 F a0 M = some res) : rg_Rn (d + 0) 142 [.ref 91, .int a0] M (some (.int res.1)) res.2 := by
  show rg_At (d + 0) 142 0 [some (.ref 91), some (.int a0)] [] M (rg_cI res)
  unfold f142 at h
  refine rg_At.go 5 (pc' := 7) (L' := [some (.ref 91), some (.int a0)]) (S' := [.int (-a0), .ref 132, .int (-a0), .ref 132]) (M' := M) rfl ?_
  by_cases hi0 : rg_in (-a0) 7 = true
  rotate_left
  · rw [if_neg hi0] at h; cases h
  rw [if_pos hi0] at h
  refine rg_At.iald rfl rfl hi0 ?_
  refine rg_At.go 2 (pc' := 10) (L' := [some (.ref 91), some (.int a0)]) (S' := [.int ((M.1 132 ((-a0)).toNatClampNeg) + (1 : Int32)), .int (-a0), .ref 132]) (M' := M) rfl ?_
  by_cases hi1 : rg_in (-a0) 7 = true
  rotate_left
  · rw [if_neg hi1] at h; cases h
  rw [if_pos hi1] at h
  refine rg_At.iast rfl rfl hi1 ?_
  refine rg_At.go 1 (pc' := 12) (L' := [some (.ref 91), some (.int a0)]) (S' := [.int a0]) (M' := (rg_wI M 132 ((-a0)).toNatClampNeg ((M.1 132 ((-a0)).toNatClampNeg) + (1 : Int32)))) rfl ?_
  cases h
  exact rg_At.ret rfl
/-- RiverGaugeModel.go(I)I -/
def f141 (F : Nat) (a0 : Int32) (M : rg_M) : Option (Int32 × rg_M) :=
  if (1 : Int32) ≤ a0 then
    if a0 ≤ ((9999 : Int32) - (M.1 91 0)) then
      some (((M.1 91 0) + a0), (rg_wI M 91 0 ((M.1 91 0) + a0)))
    else
      match f142 F (-6 : Int32) M with
      | none => none
      | some (r2, M2) =>
        some (r2, M2)
  else
    match f142 F (-4 : Int32) M with
    | none => none
    | some (r3, M3) =>
      some (r3, M3)
theorem c_f141 (F : Nat) {d : Nat} {a0 : Int32} {M : rg_M} {res : Int32 × rg_M} (h : f141 F a0 M = some res) : rg_Rn (d + 1) 141 [.ref 91, .int a0] M (some (.int res.1)) res.2 := by
  show rg_At (d + 1) 141 0 [some (.ref 91), some (.int a0)] [] M (rg_cI res)
  unfold f141 at h
  refine rg_At.go 3 (pc' := if decide ((1 : Int32) ≤ a0) = true then 12 else 5) (L' := [some (.ref 91), some (.int a0)]) (S' := []) (M' := M) rfl ?_
  by_cases hc0 : (1 : Int32) ≤ a0
  · rw [if_pos hc0] at h
    refine rg_At.ifT hc0 ?_
    refine rg_At.go 6 (pc' := if decide (a0 ≤ ((9999 : Int32) - (M.1 91 0))) = true then 31 else 24) (L' := [some (.ref 91), some (.int a0)]) (S' := []) (M' := M) rfl ?_
    by_cases hc1 : a0 ≤ ((9999 : Int32) - (M.1 91 0))
    · rw [if_pos hc1] at h
      refine rg_At.ifT hc1 ?_
      refine rg_At.go 8 (pc' := 45) (L' := [some (.ref 91), some (.int a0)]) (S' := [.int ((M.1 91 0) + a0)]) (M' := (rg_wI M 91 0 ((M.1 91 0) + a0))) rfl ?_
      cases h
      exact rg_At.ret rfl
    · rw [if_neg hc1] at h
      refine rg_At.ifF hc1 ?_
      refine rg_At.go 2 (pc' := 27) (L' := [some (.ref 91), some (.int a0)]) (S' := [.int (-6 : Int32), .ref 91]) (M' := M) rfl ?_
      cases hf2 : f142 F (-6 : Int32) M with
      | none => simp only [hf2] at h; cases h
      | some q2 =>
        obtain ⟨r2, M2⟩ := q2
        simp only [hf2] at h
        refine rg_At.call (d := d + 0) (as := [.ref 91, .int (-6 : Int32)]) (rest := []) (r := some (.int r2)) (M' := M2) rfl (c_f142 F (d := d + 0) hf2) ?_
        cases h
        exact rg_At.ret rfl
  · rw [if_neg hc0] at h
    refine rg_At.ifF hc0 ?_
    refine rg_At.go 2 (pc' := 8) (L' := [some (.ref 91), some (.int a0)]) (S' := [.int (-4 : Int32), .ref 91]) (M' := M) rfl ?_
    cases hf3 : f142 F (-4 : Int32) M with
    | none => simp only [hf3] at h; cases h
    | some q3 =>
      obtain ⟨r3, M3⟩ := q3
      simp only [hf3] at h
      refine rg_At.call (d := d + 0) (as := [.ref 91, .int (-4 : Int32)]) (rest := []) (r := some (.int r3)) (M' := M3) rfl (c_f142 F (d := d + 0) hf3) ?_
      cases h
      exact rg_At.ret rfl
def f149_6 (F : Nat) : Nat → Int32 → Int32 → Int32 → Int32 → Int32 → rg_M → Option (Int32 × rg_M)
  | 0, _, _, _, _, _, _ => none
  | n + 1, v1, v2, v3, v4, v5, M =>
    if (M.1 91 2) ≤ v5 then
      if 0 ≤ v4 then
        if rg_in v4 60 = true then
        some ((M.1 101 (v4).toNatClampNeg), M)
        else none
      else
        if rg_in v1 6 = true then
        some ((M.1 92 (v1).toNatClampNeg), M)
        else none
    else
      if rg_in v5 60 = true then
      if ¬ (M.1 100 (v5).toNatClampNeg) = v1 then
        f149_6 F n v1 v2 v3 v4 (v5 + (1 : Int32)) M
      else
        if rg_in v5 60 = true then
        if v3 < (M.1 103 (v5).toNatClampNeg) then
          f149_6 F n v1 v2 v3 v4 (v5 + (1 : Int32)) M
        else
          if rg_in v5 60 = true then
          if v2 < (M.1 102 (v5).toNatClampNeg) then
            f149_6 F n v1 v2 v3 v4 (v5 + (1 : Int32)) M
          else
            if v4 < 0 then
              f149_6 F n v1 v2 v3 v5 (v5 + (1 : Int32)) M
            else
              if rg_in v5 60 = true then
              if rg_in v4 60 = true then
              if (M.1 102 (v5).toNatClampNeg) < (M.1 102 (v4).toNatClampNeg) then
                f149_6 F n v1 v2 v3 v4 (v5 + (1 : Int32)) M
              else
                f149_6 F n v1 v2 v3 v5 (v5 + (1 : Int32)) M
              else none
              else none
          else none
        else none
      else none
theorem c_f149_6 {d : Nat} (F : Nat) : ∀ (n : Nat) (v1 : Int32) (v2 : Int32) (v3 : Int32) (v4 : Int32) (v5 : Int32) (M : rg_M) (res : Int32 × rg_M), f149_6 F n v1 v2 v3 v4 v5 M = some res → rg_At (d + 0) 149 6 [some (.ref 91), some (.int v1), some (.int v2), some (.int v3), some (.int v4), some (.int v5)] [] M (rg_cI res) := by
  intro n
  induction n with
  | zero => intro v1 v2 v3 v4 v5 M res h; cases h
  | succ n ih =>
    intro v1 v2 v3 v4 v5 M res h
    rw [f149_6] at h
    refine rg_At.go 4 (pc' := if decide ((M.1 91 2) ≤ v5) = true then 80 else 15) (L' := [some (.ref 91), some (.int v1), some (.int v2), some (.int v3), some (.int v4), some (.int v5)]) (S' := []) (M' := M) rfl ?_
    by_cases hc0 : (M.1 91 2) ≤ v5
    · rw [if_pos hc0] at h
      refine rg_At.ifT hc0 ?_
      refine rg_At.go 2 (pc' := if decide (0 ≤ v4) = true then 94 else 85) (L' := [some (.ref 91), some (.int v1), some (.int v2), some (.int v3), some (.int v4), some (.int v5)]) (S' := []) (M' := M) rfl ?_
      by_cases hc1 : 0 ≤ v4
      · rw [if_pos hc1] at h
        refine rg_At.ifT hc1 ?_
        refine rg_At.go 3 (pc' := 100) (L' := [some (.ref 91), some (.int v1), some (.int v2), some (.int v3), some (.int v4), some (.int v5)]) (S' := [.int v4, .ref 101]) (M' := M) rfl ?_
        by_cases hi2 : rg_in v4 60 = true
        rotate_left
        · rw [if_neg hi2] at h; cases h
        rw [if_pos hi2] at h
        refine rg_At.iald rfl rfl hi2 ?_
        cases h
        exact rg_At.ret rfl
      · rw [if_neg hc1] at h
        refine rg_At.ifF hc1 ?_
        refine rg_At.go 3 (pc' := 90) (L' := [some (.ref 91), some (.int v1), some (.int v2), some (.int v3), some (.int v4), some (.int v5)]) (S' := [.int v1, .ref 92]) (M' := M) rfl ?_
        by_cases hi3 : rg_in v1 6 = true
        rotate_left
        · rw [if_neg hi3] at h; cases h
        rw [if_pos hi3] at h
        refine rg_At.iald rfl rfl hi3 ?_
        refine rg_At.go 1 (pc' := 101) (L' := [some (.ref 91), some (.int v1), some (.int v2), some (.int v3), some (.int v4), some (.int v5)]) (S' := [.int (M.1 92 (v1).toNatClampNeg)]) (M' := M) rfl ?_
        cases h
        exact rg_At.ret rfl
    · rw [if_neg hc0] at h
      refine rg_At.ifF hc0 ?_
      refine rg_At.go 3 (pc' := 21) (L' := [some (.ref 91), some (.int v1), some (.int v2), some (.int v3), some (.int v4), some (.int v5)]) (S' := [.int v5, .ref 100]) (M' := M) rfl ?_
      by_cases hi4 : rg_in v5 60 = true
      rotate_left
      · rw [if_neg hi4] at h; cases h
      rw [if_pos hi4] at h
      refine rg_At.iald rfl rfl hi4 ?_
      refine rg_At.go 2 (pc' := if decide (¬ (M.1 100 (v5).toNatClampNeg) = v1) = true then 74 else 26) (L' := [some (.ref 91), some (.int v1), some (.int v2), some (.int v3), some (.int v4), some (.int v5)]) (S' := []) (M' := M) rfl ?_
      by_cases hc5 : ¬ (M.1 100 (v5).toNatClampNeg) = v1
      · rw [if_pos hc5] at h
        refine rg_At.ifT hc5 ?_
        refine rg_At.go 2 (pc' := 6) (L' := [some (.ref 91), some (.int v1), some (.int v2), some (.int v3), some (.int v4), some (.int (v5 + (1 : Int32)))]) (S' := []) (M' := M) rfl ?_
        refine rg_At.more (rg_le_ok (L := [some (.ref 91), some (.int v1), some (.int v2), some (.int v3), some (.int v4), some (.int (v5 + (1 : Int32)))]) (by simp [rg_le])) ?_
        exact ih _ _ _ _ _ _ _ h
      · rw [if_neg hc5] at h
        refine rg_At.ifF hc5 ?_
        refine rg_At.go 3 (pc' := 32) (L' := [some (.ref 91), some (.int v1), some (.int v2), some (.int v3), some (.int v4), some (.int v5)]) (S' := [.int v5, .ref 103]) (M' := M) rfl ?_
        by_cases hi6 : rg_in v5 60 = true
        rotate_left
        · rw [if_neg hi6] at h; cases h
        rw [if_pos hi6] at h
        refine rg_At.iald rfl rfl hi6 ?_
        refine rg_At.go 2 (pc' := if decide (v3 < (M.1 103 (v5).toNatClampNeg)) = true then 74 else 37) (L' := [some (.ref 91), some (.int v1), some (.int v2), some (.int v3), some (.int v4), some (.int v5)]) (S' := []) (M' := M) rfl ?_
        by_cases hc7 : v3 < (M.1 103 (v5).toNatClampNeg)
        · rw [if_pos hc7] at h
          refine rg_At.ifT hc7 ?_
          refine rg_At.go 2 (pc' := 6) (L' := [some (.ref 91), some (.int v1), some (.int v2), some (.int v3), some (.int v4), some (.int (v5 + (1 : Int32)))]) (S' := []) (M' := M) rfl ?_
          refine rg_At.more (rg_le_ok (L := [some (.ref 91), some (.int v1), some (.int v2), some (.int v3), some (.int v4), some (.int (v5 + (1 : Int32)))]) (by simp [rg_le])) ?_
          exact ih _ _ _ _ _ _ _ h
        · rw [if_neg hc7] at h
          refine rg_At.ifF hc7 ?_
          refine rg_At.go 3 (pc' := 43) (L' := [some (.ref 91), some (.int v1), some (.int v2), some (.int v3), some (.int v4), some (.int v5)]) (S' := [.int v5, .ref 102]) (M' := M) rfl ?_
          by_cases hi8 : rg_in v5 60 = true
          rotate_left
          · rw [if_neg hi8] at h; cases h
          rw [if_pos hi8] at h
          refine rg_At.iald rfl rfl hi8 ?_
          refine rg_At.go 2 (pc' := if decide (v2 < (M.1 102 (v5).toNatClampNeg)) = true then 74 else 48) (L' := [some (.ref 91), some (.int v1), some (.int v2), some (.int v3), some (.int v4), some (.int v5)]) (S' := []) (M' := M) rfl ?_
          by_cases hc9 : v2 < (M.1 102 (v5).toNatClampNeg)
          · rw [if_pos hc9] at h
            refine rg_At.ifT hc9 ?_
            refine rg_At.go 2 (pc' := 6) (L' := [some (.ref 91), some (.int v1), some (.int v2), some (.int v3), some (.int v4), some (.int (v5 + (1 : Int32)))]) (S' := []) (M' := M) rfl ?_
            refine rg_At.more (rg_le_ok (L := [some (.ref 91), some (.int v1), some (.int v2), some (.int v3), some (.int v4), some (.int (v5 + (1 : Int32)))]) (by simp [rg_le])) ?_
            exact ih _ _ _ _ _ _ _ h
          · rw [if_neg hc9] at h
            refine rg_At.ifF hc9 ?_
            refine rg_At.go 2 (pc' := if decide (v4 < 0) = true then 70 else 53) (L' := [some (.ref 91), some (.int v1), some (.int v2), some (.int v3), some (.int v4), some (.int v5)]) (S' := []) (M' := M) rfl ?_
            by_cases hc10 : v4 < 0
            · rw [if_pos hc10] at h
              refine rg_At.ifT hc10 ?_
              refine rg_At.go 4 (pc' := 6) (L' := [some (.ref 91), some (.int v1), some (.int v2), some (.int v3), some (.int v5), some (.int (v5 + (1 : Int32)))]) (S' := []) (M' := M) rfl ?_
              refine rg_At.more (rg_le_ok (L := [some (.ref 91), some (.int v1), some (.int v2), some (.int v3), some (.int v5), some (.int (v5 + (1 : Int32)))]) (by simp [rg_le])) ?_
              exact ih _ _ _ _ _ _ _ h
            · rw [if_neg hc10] at h
              refine rg_At.ifF hc10 ?_
              refine rg_At.go 3 (pc' := 59) (L' := [some (.ref 91), some (.int v1), some (.int v2), some (.int v3), some (.int v4), some (.int v5)]) (S' := [.int v5, .ref 102]) (M' := M) rfl ?_
              by_cases hi11 : rg_in v5 60 = true
              rotate_left
              · rw [if_neg hi11] at h; cases h
              rw [if_pos hi11] at h
              refine rg_At.iald rfl rfl hi11 ?_
              refine rg_At.go 3 (pc' := 66) (L' := [some (.ref 91), some (.int v1), some (.int v2), some (.int v3), some (.int v4), some (.int v5)]) (S' := [.int v4, .ref 102, .int (M.1 102 (v5).toNatClampNeg)]) (M' := M) rfl ?_
              by_cases hi12 : rg_in v4 60 = true
              rotate_left
              · rw [if_neg hi12] at h; cases h
              rw [if_pos hi12] at h
              refine rg_At.iald rfl rfl hi12 ?_
              refine rg_At.go 1 (pc' := if decide ((M.1 102 (v5).toNatClampNeg) < (M.1 102 (v4).toNatClampNeg)) = true then 74 else 70) (L' := [some (.ref 91), some (.int v1), some (.int v2), some (.int v3), some (.int v4), some (.int v5)]) (S' := []) (M' := M) rfl ?_
              by_cases hc13 : (M.1 102 (v5).toNatClampNeg) < (M.1 102 (v4).toNatClampNeg)
              · rw [if_pos hc13] at h
                refine rg_At.ifT hc13 ?_
                refine rg_At.go 2 (pc' := 6) (L' := [some (.ref 91), some (.int v1), some (.int v2), some (.int v3), some (.int v4), some (.int (v5 + (1 : Int32)))]) (S' := []) (M' := M) rfl ?_
                refine rg_At.more (rg_le_ok (L := [some (.ref 91), some (.int v1), some (.int v2), some (.int v3), some (.int v4), some (.int (v5 + (1 : Int32)))]) (by simp [rg_le])) ?_
                exact ih _ _ _ _ _ _ _ h
              · rw [if_neg hc13] at h
                refine rg_At.ifF hc13 ?_
                refine rg_At.go 4 (pc' := 6) (L' := [some (.ref 91), some (.int v1), some (.int v2), some (.int v3), some (.int v5), some (.int (v5 + (1 : Int32)))]) (S' := []) (M' := M) rfl ?_
                refine rg_At.more (rg_le_ok (L := [some (.ref 91), some (.int v1), some (.int v2), some (.int v3), some (.int v5), some (.int (v5 + (1 : Int32)))]) (by simp [rg_le])) ?_
                exact ih _ _ _ _ _ _ _ h
/-- RiverGaugeModel.zeroOf(III)I -/
def f149 (F : Nat) (a0 : Int32) (a1 : Int32) (a2 : Int32) (M : rg_M) : Option (Int32 × rg_M) :=
  f149_6 F F a0 a1 a2 (-1 : Int32) (0 : Int32) M
theorem c_f149 (F : Nat) {d : Nat} {a0 : Int32} {a1 : Int32} {a2 : Int32} {M : rg_M} {res : Int32 × rg_M} (h : f149 F a0 a1 a2 M = some res) : rg_Rn (d + 0) 149 [.ref 91, .int a0, .int a1, .int a2] M (some (.int res.1)) res.2 := by
  show rg_At (d + 0) 149 0 [some (.ref 91), some (.int a0), some (.int a1), some (.int a2), none, none] [] M (rg_cI res)
  unfold f149 at h
  refine rg_At.go 4 (pc' := 6) (L' := [some (.ref 91), some (.int a0), some (.int a1), some (.int a2), some (.int (-1 : Int32)), some (.int (0 : Int32))]) (S' := []) (M' := M) rfl ?_
  refine rg_At.more (rg_le_ok (L := [some (.ref 91), some (.int a0), some (.int a1), some (.int a2), some (.int (-1 : Int32)), some (.int (0 : Int32))]) (by simp [rg_le])) ?_
  exact c_f149_6 F F _ _ _ _ _ _ _ h
