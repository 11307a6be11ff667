set_option maxRecDepth 16384
def x181_makes_80 (F : Nat) (v1 : Int) (v3 : Int) (v4 : Int) (v5 : Int) (A : rz_A) : Option (Unit × rz_A) :=
  rz_b (x182_makes F v1 v4 v5 v3 A) fun _ A1 =>
  some ((), A1)
theorem cx181_makes_80 {d : Nat} (F : Nat) : ∀ (v1 : Int) (v3 : Int) (v4 : Int) (v5 : Int) (A : rz_A) (r : Unit) (A' : rz_A), x181_makes_80 F v1 v3 v4 v5 A = some (r, A') → r32 v1 → r32 v3 → r32 v4 → r32 v5 → wf A → rz_B (d + 7) 181 80 [some (.ref 91), some (vI v1), none, some (vI v3), some (vI v4), some (vI v5), none, none] [] A (none) A' (True) := by
  intro v1 v3 v4 v5 A r A' h hv1 hv3 hv4 hv5 hw
  unfold x181_makes_80 at h
  refine rz_B.go 5 (pc' := 87) (L' := [some (.ref 91), some (vI v1), none, some (vI v3), some (vI v4), some (vI v5), none, none]) (S' := [vI v3, vI v5, vI v4, vI v1, .ref 91]) rfl ?_
  obtain ⟨_, A1, hf1, h⟩ := rz_b_inv h
  obtain ⟨hg1, hr1, hw1⟩ := cx182_makes F (d := d + 0) hf1 hv1 hv4 hv5 hv3 hw
  refine rz_B.call (d := d + 6) (as := [.ref 91, vI v1, vI v4, vI v5, vI v3]) (rest := []) (w := none) rfl hg1 ?_
  cases h
  exact rz_B.ret rfl trivial hw1
def x181_makes_53 (F : Nat) (k11 : (Int → Int → Int → Int → Int → Int → rz_A → Option (Unit × rz_A))) (v1 : Int) (v2 : Int) (v3 : Int) (v4 : Int) (v5 : Int) (v6 : Int) (v7 : Int) (A : rz_A) : Option (Unit × rz_A) :=
  if v2 < v7 then
    rz_g32 (v7 - 1) <|
    if (v7 - 1) < v5 then
      rz_g32 (v6 + 1) <|
      k11 v1 v2 v3 v4 (v7 - 1) (v6 + 1) A
    else
      rz_g32 (v6 + 1) <|
      k11 v1 v2 v3 v4 v5 (v6 + 1) A
  else
    rz_g32 (v6 + 1) <|
    k11 v1 v2 v3 v4 v5 (v6 + 1) A
theorem cx181_makes_53 {d : Nat} (F : Nat) {k11 : (Int → Int → Int → Int → Int → Int → rz_A → Option (Unit × rz_A))} (hkk11 : ∀ (v1 : Int) (v2 : Int) (v3 : Int) (v4 : Int) (v5 : Int) (v6 : Int) (A : rz_A) (r : Unit) (A' : rz_A), k11 v1 v2 v3 v4 v5 v6 A = some (r, A') → r32 v1 → r32 v2 → r32 v3 → r32 v4 → r32 v5 → r32 v6 → wf A → rz_B (d + 7) 181 11 [some (.ref 91), some (vI v1), some (vI v2), some (vI v3), some (vI v4), some (vI v5), some (vI v6), none] [] A (none) A' (True)) : ∀ (v1 : Int) (v2 : Int) (v3 : Int) (v4 : Int) (v5 : Int) (v6 : Int) (v7 : Int) (A : rz_A) (r : Unit) (A' : rz_A), x181_makes_53 F k11 v1 v2 v3 v4 v5 v6 v7 A = some (r, A') → r32 v1 → r32 v2 → r32 v3 → r32 v4 → r32 v5 → r32 v6 → r32 v7 → wf A → rz_B (d + 7) 181 53 [some (.ref 91), some (vI v1), some (vI v2), some (vI v3), some (vI v4), some (vI v5), some (vI v6), some (vI v7)] [] A (none) A' (True) := by
  intro v1 v2 v3 v4 v5 v6 v7 A r A' h hv1 hv2 hv3 hv4 hv5 hv6 hv7 hw
  unfold x181_makes_53 at h
  refine rz_B.go 3 (pc' := if decide (Int32.ofInt v7 ≤ Int32.ofInt v2) = true then 74 else 59) (L' := [some (.ref 91), some (vI v1), some (vI v2), some (vI v3), some (vI v4), some (vI v5), some (vI v6), some (vI v7)]) (S' := []) rfl ?_
  by_cases hc1 : v2 < v7
  · have h := if_T h hc1
    refine rz_B.ifF (mt (le32 hv7 hv2).mp (Int.not_le.mpr hc1)) ?_
    refine rz_B.go 2 (pc' := 62) (L' := [some (.ref 91), some (vI v1), some (vI v2), some (vI v3), some (vI v4), some (vI v5), some (vI v6), some (vI v7)]) (S' := [vI 1, vI v7]) rfl ?_
    obtain ⟨hk2, h⟩ := rz_g32_inv h
    refine rz_B.isub rfl ?_
    refine rz_B.go 2 (pc' := if decide (Int32.ofInt v5 ≤ Int32.ofInt (v7 - 1)) = true then 74 else 68) (L' := [some (.ref 91), some (vI v1), some (vI v2), some (vI v3), some (vI v4), some (vI v5), some (vI v6), some (vI v7)]) (S' := []) rfl ?_
    by_cases hc3 : (v7 - 1) < v5
    · have h := if_T h hc3
      refine rz_B.ifF (mt (le32 hv5 hk2).mp (Int.not_le.mpr hc3)) ?_
      refine rz_B.go 2 (pc' := 71) (L' := [some (.ref 91), some (vI v1), some (vI v2), some (vI v3), some (vI v4), some (vI v5), some (vI v6), some (vI v7)]) (S' := [vI 1, vI v7]) rfl ?_
      refine rz_B.isub rfl ?_
      refine rz_B.go 1 (pc' := 74) (L' := [some (.ref 91), some (vI v1), some (vI v2), some (vI v3), some (vI v4), some (vI (v7 - 1)), some (vI v6), some (vI v7)]) (S' := []) rfl ?_
      obtain ⟨hk4, h⟩ := rz_g32_inv h
      refine rz_B.iinc rfl (by decide) rfl (L' := [some (.ref 91), some (vI v1), some (vI v2), some (vI v3), some (vI v4), some (vI (v7 - 1)), some (vI (v6 + 1)), some (vI v7)]) rfl ?_
      refine rz_B.go 1 (pc' := 11) (L' := [some (.ref 91), some (vI v1), some (vI v2), some (vI v3), some (vI v4), some (vI (v7 - 1)), some (vI (v6 + 1)), some (vI v7)]) (S' := []) rfl ?_
      refine rz_B.more (rg_le_ok (L := [some (.ref 91), some (vI v1), some (vI v2), some (vI v3), some (vI v4), some (vI (v7 - 1)), some (vI (v6 + 1)), none]) (by simp [rg_le])) ?_
      exact hkk11 _ _ _ _ _ _ _ _ _ h hv1 hv2 hv3 hv4 hk2 hk4 hw
    · have h := if_F h hc3
      refine rz_B.ifT ((le32 hv5 hk2).mpr (Int.not_lt.mp hc3)) ?_
      obtain ⟨hk5, h⟩ := rz_g32_inv h
      refine rz_B.iinc rfl (by decide) rfl (L' := [some (.ref 91), some (vI v1), some (vI v2), some (vI v3), some (vI v4), some (vI v5), some (vI (v6 + 1)), some (vI v7)]) rfl ?_
      refine rz_B.go 1 (pc' := 11) (L' := [some (.ref 91), some (vI v1), some (vI v2), some (vI v3), some (vI v4), some (vI v5), some (vI (v6 + 1)), some (vI v7)]) (S' := []) rfl ?_
      refine rz_B.more (rg_le_ok (L := [some (.ref 91), some (vI v1), some (vI v2), some (vI v3), some (vI v4), some (vI v5), some (vI (v6 + 1)), none]) (by simp [rg_le])) ?_
      exact hkk11 _ _ _ _ _ _ _ _ _ h hv1 hv2 hv3 hv4 hv5 hk5 hw
  · have h := if_F h hc1
    refine rz_B.ifT ((le32 hv7 hv2).mpr (Int.not_lt.mp hc1)) ?_
    obtain ⟨hk6, h⟩ := rz_g32_inv h
    refine rz_B.iinc rfl (by decide) rfl (L' := [some (.ref 91), some (vI v1), some (vI v2), some (vI v3), some (vI v4), some (vI v5), some (vI (v6 + 1)), some (vI v7)]) rfl ?_
    refine rz_B.go 1 (pc' := 11) (L' := [some (.ref 91), some (vI v1), some (vI v2), some (vI v3), some (vI v4), some (vI v5), some (vI (v6 + 1)), some (vI v7)]) (S' := []) rfl ?_
    refine rz_B.more (rg_le_ok (L := [some (.ref 91), some (vI v1), some (vI v2), some (vI v3), some (vI v4), some (vI v5), some (vI (v6 + 1)), none]) (by simp [rg_le])) ?_
    exact hkk11 _ _ _ _ _ _ _ _ _ h hv1 hv2 hv3 hv4 hv5 hk6 hw
def x181_makes_11 (F : Nat) : Nat → Int → Int → Int → Int → Int → Int → rz_A → Option (Unit × rz_A)
  | 0, _, _, _, _, _, _, _ => none
  | n + 1, v1, v2, v3, v4, v5, v6, A =>
    rz_gx v1 6 <|
    if v6 < (A.1 95 (v1).toNat) then
      rz_g32 (8 * v1) <|
      rz_g32 ((8 * v1) + v6) <|
      rz_gx ((8 * v1) + v6) 48 <|
      if (A.1 97 (((8 * v1) + v6)).toNat) ≤ v2 then
        if v4 < (A.1 97 (((8 * v1) + v6)).toNat) then
          x181_makes_53 F (x181_makes_11 F n) v1 v2 v3 (A.1 97 (((8 * v1) + v6)).toNat) v5 v6 (A.1 97 (((8 * v1) + v6)).toNat) A
        else
          x181_makes_53 F (x181_makes_11 F n) v1 v2 v3 v4 v5 v6 (A.1 97 (((8 * v1) + v6)).toNat) A
      else
        x181_makes_53 F (x181_makes_11 F n) v1 v2 v3 v4 v5 v6 (A.1 97 (((8 * v1) + v6)).toNat) A
    else
      x181_makes_80 F v1 v3 v4 v5 A
theorem cx181_makes_11 {d : Nat} (F : Nat) : ∀ (n : Nat) (v1 : Int) (v2 : Int) (v3 : Int) (v4 : Int) (v5 : Int) (v6 : Int) (A : rz_A) (r : Unit) (A' : rz_A), x181_makes_11 F n v1 v2 v3 v4 v5 v6 A = some (r, A') → r32 v1 → r32 v2 → r32 v3 → r32 v4 → r32 v5 → r32 v6 → wf A → rz_B (d + 7) 181 11 [some (.ref 91), some (vI v1), some (vI v2), some (vI v3), some (vI v4), some (vI v5), some (vI v6), none] [] A (none) A' (True) := by
  intro n
  induction n with
  | zero => intro v1 v2 v3 v4 v5 v6 A r A' h; cases h
  | succ n ih =>
    intro v1 v2 v3 v4 v5 v6 A r A' h hv1 hv2 hv3 hv4 hv5 hv6 hw
    rw [x181_makes_11] at h
    refine rz_B.go 4 (pc' := 18) (L' := [some (.ref 91), some (vI v1), some (vI v2), some (vI v3), some (vI v4), some (vI v5), some (vI v6), none]) (S' := [vI v1, .ref 95, vI v6]) rfl ?_
    obtain ⟨hi1, hj2, h⟩ := rz_gx_inv h
    refine rz_B.iald rfl rfl hi1 hj2 (by decide) ?_
    refine rz_B.go 1 (pc' := if decide (Int32.ofInt (A.1 95 (v1).toNat) ≤ Int32.ofInt v6) = true then 80 else 22) (L' := [some (.ref 91), some (vI v1), some (vI v2), some (vI v3), some (vI v4), some (vI v5), some (vI v6), none]) (S' := []) rfl ?_
    by_cases hc3 : v6 < (A.1 95 (v1).toNat)
    · have h := if_T h hc3
      refine rz_B.ifF (mt (le32 (hw 95 (v1).toNat).1 hv6).mp (Int.not_le.mpr hc3)) ?_
      refine rz_B.go 4 (pc' := 29) (L' := [some (.ref 91), some (vI v1), some (vI v2), some (vI v3), some (vI v4), some (vI v5), some (vI v6), none]) (S' := [vI v1, vI 8, .ref 97]) rfl ?_
      obtain ⟨hk4, h⟩ := rz_g32_inv h
      refine rz_B.imul rfl ?_
      refine rz_B.go 1 (pc' := 32) (L' := [some (.ref 91), some (vI v1), some (vI v2), some (vI v3), some (vI v4), some (vI v5), some (vI v6), none]) (S' := [vI v6, vI (8 * v1), .ref 97]) rfl ?_
      obtain ⟨hk5, h⟩ := rz_g32_inv h
      refine rz_B.iadd rfl ?_
      obtain ⟨hi6, hj7, h⟩ := rz_gx_inv h
      refine rz_B.iald rfl rfl hi6 hj7 (by decide) ?_
      refine rz_B.go 4 (pc' := if decide (Int32.ofInt v2 < Int32.ofInt (A.1 97 (((8 * v1) + v6)).toNat)) = true then 53 else 42) (L' := [some (.ref 91), some (vI v1), some (vI v2), some (vI v3), some (vI v4), some (vI v5), some (vI v6), some (vI (A.1 97 (((8 * v1) + v6)).toNat))]) (S' := []) rfl ?_
      by_cases hc8 : (A.1 97 (((8 * v1) + v6)).toNat) ≤ v2
      · have h := if_T h hc8
        refine rz_B.ifF (mt (lt32 hv2 (hw 97 (((8 * v1) + v6)).toNat).1).mp (Int.not_lt.mpr hc8)) ?_
        refine rz_B.go 3 (pc' := if decide (Int32.ofInt (A.1 97 (((8 * v1) + v6)).toNat) ≤ Int32.ofInt v4) = true then 53 else 49) (L' := [some (.ref 91), some (vI v1), some (vI v2), some (vI v3), some (vI v4), some (vI v5), some (vI v6), some (vI (A.1 97 (((8 * v1) + v6)).toNat))]) (S' := []) rfl ?_
        by_cases hc9 : v4 < (A.1 97 (((8 * v1) + v6)).toNat)
        · have h := if_T h hc9
          refine rz_B.ifF (mt (le32 (hw 97 (((8 * v1) + v6)).toNat).1 hv4).mp (Int.not_le.mpr hc9)) ?_
          refine rz_B.go 2 (pc' := 53) (L' := [some (.ref 91), some (vI v1), some (vI v2), some (vI v3), some (vI (A.1 97 (((8 * v1) + v6)).toNat)), some (vI v5), some (vI v6), some (vI (A.1 97 (((8 * v1) + v6)).toNat))]) (S' := []) rfl ?_
          refine rz_B.more (rg_le_ok (L := [some (.ref 91), some (vI v1), some (vI v2), some (vI v3), some (vI (A.1 97 (((8 * v1) + v6)).toNat)), some (vI v5), some (vI v6), some (vI (A.1 97 (((8 * v1) + v6)).toNat))]) (by simp [rg_le])) ?_
          exact cx181_makes_53 F ih _ _ _ _ _ _ _ _ _ _ h hv1 hv2 hv3 (hw 97 (((8 * v1) + v6)).toNat).1 hv5 hv6 (hw 97 (((8 * v1) + v6)).toNat).1 hw
        · have h := if_F h hc9
          refine rz_B.ifT ((le32 (hw 97 (((8 * v1) + v6)).toNat).1 hv4).mpr (Int.not_lt.mp hc9)) ?_
          refine rz_B.more (rg_le_ok (L := [some (.ref 91), some (vI v1), some (vI v2), some (vI v3), some (vI v4), some (vI v5), some (vI v6), some (vI (A.1 97 (((8 * v1) + v6)).toNat))]) (by simp [rg_le])) ?_
          exact cx181_makes_53 F ih _ _ _ _ _ _ _ _ _ _ h hv1 hv2 hv3 hv4 hv5 hv6 (hw 97 (((8 * v1) + v6)).toNat).1 hw
      · have h := if_F h hc8
        refine rz_B.ifT ((lt32 hv2 (hw 97 (((8 * v1) + v6)).toNat).1).mpr (Int.not_le.mp hc8)) ?_
        refine rz_B.more (rg_le_ok (L := [some (.ref 91), some (vI v1), some (vI v2), some (vI v3), some (vI v4), some (vI v5), some (vI v6), some (vI (A.1 97 (((8 * v1) + v6)).toNat))]) (by simp [rg_le])) ?_
        exact cx181_makes_53 F ih _ _ _ _ _ _ _ _ _ _ h hv1 hv2 hv3 hv4 hv5 hv6 (hw 97 (((8 * v1) + v6)).toNat).1 hw
    · have h := if_F h hc3
      refine rz_B.ifT ((le32 (hw 95 (v1).toNat).1 hv6).mpr (Int.not_lt.mp hc3)) ?_
      refine rz_B.more (rg_le_ok (L := [some (.ref 91), some (vI v1), none, some (vI v3), some (vI v4), some (vI v5), none, none]) (by simp [rg_le])) ?_
      exact cx181_makes_80 F _ _ _ _ _ _ _ h hv1 hv3 hv4 hv5 hw
/-- RiverGaugeModel.makes(III)V -/
def x181_makes (F : Nat) (a0 : Int) (a1 : Int) (a2 : Int) (A : rz_A) : Option (Unit × rz_A) :=
  x181_makes_11 F F a0 a1 a2 0 9999 0 A
theorem cx181_makes (F : Nat) {d : Nat} {a0 : Int} {a1 : Int} {a2 : Int} {A : rz_A} {r : Unit} {A' : rz_A} (h : x181_makes F a0 a1 a2 A = some (r, A')) (ha0 : r32 a0) (ha1 : r32 a1) (ha2 : r32 a2) (hw : wf A) : rg_Rn (d + 7) 181 [.ref 91, vI a0, vI a1, vI a2] (toM A) (none) (toM A') ∧ (True) ∧ wf A' := by
  show rz_B (d + 7) 181 0 [some (.ref 91), some (vI a0), some (vI a1), some (vI a2), none, none, none, none] [] A (none) A' (True)
  unfold x181_makes at h
  refine rz_B.go 6 (pc' := 11) (L' := [some (.ref 91), some (vI a0), some (vI a1), some (vI a2), some (vI 0), some (vI 9999), some (vI 0), none]) (S' := []) rfl ?_
  refine rz_B.more (rg_le_ok (L := [some (.ref 91), some (vI a0), some (vI a1), some (vI a2), some (vI 0), some (vI 9999), some (vI 0), none]) (by simp [rg_le])) ?_
  exact cx181_makes_11 F F _ _ _ _ _ _ _ _ _ h ha0 ha1 ha2 (by decide) (by decide) (by decide) hw
/-- RiverGaugeModel.points(III)I -/
def x179_points (F : Nat) (a0 : Int) (a1 : Int) (a2 : Int) (A : rz_A) : Option (Int × rz_A) :=
  rz_b (x180_known F a0 a1 a2 A) fun r1 A1 =>
  if r1 = 0 then
    rz_b (x181_makes F a0 a1 a2 A1) fun _ A3 =>
    some ((A3.1 91 67), A3)
  else
    rz_b (x142_no F r1 A1) fun r4 A4 =>
    some (r4, A4)
theorem cx179_points (F : Nat) {d : Nat} {a0 : Int} {a1 : Int} {a2 : Int} {A : rz_A} {r : Int} {A' : rz_A} (h : x179_points F a0 a1 a2 A = some (r, A')) (ha0 : r32 a0) (ha1 : r32 a1) (ha2 : r32 a2) (hw : wf A) : rg_Rn (d + 8) 179 [.ref 91, vI a0, vI a1, vI a2] (toM A) (some (vI r)) (toM A') ∧ (r32 r) ∧ wf A' := by
  show rz_B (d + 8) 179 0 [some (.ref 91), some (vI a0), some (vI a1), some (vI a2), none] [] A (some (vI r)) A' (r32 r)
  unfold x179_points at h
  refine rz_B.go 4 (pc' := 4) (L' := [some (.ref 91), some (vI a0), some (vI a1), some (vI a2), none]) (S' := [vI a2, vI a1, vI a0, .ref 91]) rfl ?_
  obtain ⟨r1, A1, hf1, h⟩ := rz_b_inv h
  obtain ⟨hg1, hr1, hw1⟩ := cx180_known F (d := d + 6) hf1 ha0 ha1 ha2 hw
  refine rz_B.call (d := d + 7) (as := [.ref 91, vI a0, vI a1, vI a2]) (rest := []) (w := some (vI r1)) rfl hg1 ?_
  refine rz_B.go 3 (pc' := if decide (Int32.ofInt r1 = Int32.ofInt 0) = true then 21 else 14) (L' := [some (.ref 91), some (vI a0), some (vI a1), some (vI a2), some (vI r1)]) (S' := []) rfl ?_
  by_cases hc2 : r1 = 0
  · have h := if_T h hc2
    refine rz_B.ifT ((eq32 hr1 (by decide)).mpr hc2) ?_
    refine rz_B.go 4 (pc' := 25) (L' := [some (.ref 91), some (vI a0), some (vI a1), some (vI a2), some (vI r1)]) (S' := [vI a2, vI a1, vI a0, .ref 91]) rfl ?_
    obtain ⟨_, A3, hf3, h⟩ := rz_b_inv h
    obtain ⟨hg3, hr3, hw3⟩ := cx181_makes F (d := d + 0) hf3 ha0 ha1 ha2 hw1
    refine rz_B.call (d := d + 7) (as := [.ref 91, vI a0, vI a1, vI a2]) (rest := []) (w := none) rfl hg3 ?_
    refine rz_B.go 2 (pc' := 32) (L' := [some (.ref 91), some (vI a0), some (vI a1), some (vI a2), some (vI r1)]) (S' := [vI (A3.1 91 67)]) rfl ?_
    cases h
    exact rz_B.ret rfl (hw3 91 67).1 hw3
  · have h := if_F h hc2
    refine rz_B.ifF (mt (eq32 hr1 (by decide)).mp hc2) ?_
    refine rz_B.go 2 (pc' := 17) (L' := [some (.ref 91), some (vI a0), some (vI a1), some (vI a2), some (vI r1)]) (S' := [vI r1, .ref 91]) rfl ?_
    obtain ⟨r4, A4, hf4, h⟩ := rz_b_inv h
    obtain ⟨hg4, hr4, hw4⟩ := cx142_no F (d := d + 7) hf4 hr1 hw1
    refine rz_B.call (d := d + 7) (as := [.ref 91, vI r1]) (rest := []) (w := some (vI r4)) rfl hg4 ?_
    cases h
    exact rz_B.ret rfl hr4 hw4
/-- RiverGaugeModel.point(IIIII)I -/
def x183_point (F : Nat) (a0 : Int) (a1 : Int) (a2 : Int) (a3 : Int) (a4 : Int) (A : rz_A) : Option (Int × rz_A) :=
  rz_b (x145_isPost F a0 A) fun r1 A1 =>
  if r1 = 0 then
    rz_b (x148_far F (-1) A1) fun r3 A3 =>
    some (r3, A3)
  else
    if 0 ≤ a4 then
      if 1 < a4 then
        rz_b (x148_far F (-2) A1) fun r6 A6 =>
        some (r6, A6)
      else
        rz_b (x147_times F a1 a2 A1) fun r7 A7 =>
        if r7 = 0 then
          rz_b (x181_makes F a0 a1 a2 A7) fun _ A9 =>
          if 0 ≤ a3 then
            if (A9.1 91 67) ≤ a3 then
              rz_b (x148_far F (-5) A9) fun r12 A12 =>
              some (r12, A12)
            else
              if a4 = 0 then
                rz_gx a3 60 <|
                some ((A9.1 137 (a3).toNat), A9)
              else
                rz_gx a3 60 <|
                some ((A9.1 138 (a3).toNat), A9)
          else
            rz_b (x148_far F (-5) A9) fun r18 A18 =>
            some (r18, A18)
        else
          rz_b (x148_far F r7 A7) fun r19 A19 =>
          some (r19, A19)
    else
      rz_b (x148_far F (-2) A1) fun r20 A20 =>
      some (r20, A20)
theorem cx183_point (F : Nat) {d : Nat} {a0 : Int} {a1 : Int} {a2 : Int} {a3 : Int} {a4 : Int} {A : rz_A} {r : Int} {A' : rz_A} (h : x183_point F a0 a1 a2 a3 a4 A = some (r, A')) (ha0 : r32 a0) (ha1 : r32 a1) (ha2 : r32 a2) (ha3 : r32 a3) (ha4 : r32 a4) (hw : wf A) : rg_Rn (d + 8) 183 [.ref 91, vI a0, vI a1, vI a2, vI a3, vI a4] (toM A) (some (vI r)) (toM A') ∧ (r32 r) ∧ wf A' := by
  show rz_B (d + 8) 183 0 [some (.ref 91), some (vI a0), some (vI a1), some (vI a2), some (vI a3), some (vI a4), none] [] A (some (vI r)) A' (r32 r)
  unfold x183_point at h
  refine rz_B.go 2 (pc' := 2) (L' := [some (.ref 91), some (vI a0), some (vI a1), some (vI a2), some (vI a3), some (vI a4), none]) (S' := [vI a0, .ref 91]) rfl ?_
  obtain ⟨r1, A1, hf1, h⟩ := rz_b_inv h
  obtain ⟨hg1, hr1, hw1⟩ := cx145_isPost F (d := d + 7) hf1 ha0 hw
  refine rz_B.call (d := d + 7) (as := [.ref 91, vI a0]) (rest := []) (w := some (vI r1)) rfl hg1 ?_
  refine rz_B.go 1 (pc' := if decide (¬ Int32.ofInt r1 = Int32.ofInt 0) = true then 14 else 8) (L' := [some (.ref 91), some (vI a0), some (vI a1), some (vI a2), some (vI a3), some (vI a4), none]) (S' := []) rfl ?_
  by_cases hc2 : r1 = 0
  · have h := if_T h hc2
    refine rz_B.ifF (fun hn => hn ((eq32 hr1 (by decide)).mpr hc2)) ?_
    refine rz_B.go 2 (pc' := 10) (L' := [some (.ref 91), some (vI a0), some (vI a1), some (vI a2), some (vI a3), some (vI a4), none]) (S' := [vI (-1), .ref 91]) rfl ?_
    obtain ⟨r3, A3, hf3, h⟩ := rz_b_inv h
    obtain ⟨hg3, hr3, hw3⟩ := cx148_far F (d := d + 6) hf3 (by decide) hw1
    refine rz_B.call (d := d + 7) (as := [.ref 91, vI (-1)]) (rest := []) (w := some (vI r3)) rfl hg3 ?_
    cases h
    exact rz_B.ret rfl hr3 hw3
  · have h := if_F h hc2
    refine rz_B.ifT (mt (eq32 hr1 (by decide)).mp hc2) ?_
    refine rz_B.go 2 (pc' := if decide (Int32.ofInt a4 < Int32.ofInt 0) = true then 25 else 19) (L' := [some (.ref 91), some (vI a0), some (vI a1), some (vI a2), some (vI a3), some (vI a4), none]) (S' := []) rfl ?_
    by_cases hc4 : 0 ≤ a4
    · have h := if_T h hc4
      refine rz_B.ifF (mt (lt32 ha4 (by decide)).mp (Int.not_lt.mpr hc4)) ?_
      refine rz_B.go 3 (pc' := if decide (Int32.ofInt a4 ≤ Int32.ofInt 1) = true then 32 else 25) (L' := [some (.ref 91), some (vI a0), some (vI a1), some (vI a2), some (vI a3), some (vI a4), none]) (S' := []) rfl ?_
      by_cases hc5 : 1 < a4
      · have h := if_T h hc5
        refine rz_B.ifF (mt (le32 ha4 (by decide)).mp (Int.not_le.mpr hc5)) ?_
        refine rz_B.go 2 (pc' := 28) (L' := [some (.ref 91), some (vI a0), some (vI a1), some (vI a2), some (vI a3), some (vI a4), none]) (S' := [vI (-2), .ref 91]) rfl ?_
        obtain ⟨r6, A6, hf6, h⟩ := rz_b_inv h
        obtain ⟨hg6, hr6, hw6⟩ := cx148_far F (d := d + 6) hf6 (by decide) hw1
        refine rz_B.call (d := d + 7) (as := [.ref 91, vI (-2)]) (rest := []) (w := some (vI r6)) rfl hg6 ?_
        cases h
        exact rz_B.ret rfl hr6 hw6
      · have h := if_F h hc5
        refine rz_B.ifT ((le32 ha4 (by decide)).mpr (Int.not_lt.mp hc5)) ?_
        refine rz_B.go 2 (pc' := 34) (L' := [some (.ref 91), some (vI a0), some (vI a1), some (vI a2), some (vI a3), some (vI a4), none]) (S' := [vI a2, vI a1]) rfl ?_
        obtain ⟨r7, A7, hf7, h⟩ := rz_b_inv h
        obtain ⟨hg7, hr7, hw7⟩ := cx147_times F (d := d + 7) hf7 ha1 ha2 hw1
        refine rz_B.call (d := d + 7) (as := [vI a1, vI a2]) (rest := []) (w := some (vI r7)) rfl hg7 ?_
        refine rz_B.go 3 (pc' := if decide (Int32.ofInt r7 = Int32.ofInt 0) = true then 51 else 44) (L' := [some (.ref 91), some (vI a0), some (vI a1), some (vI a2), some (vI a3), some (vI a4), some (vI r7)]) (S' := []) rfl ?_
        by_cases hc8 : r7 = 0
        · have h := if_T h hc8
          refine rz_B.ifT ((eq32 hr7 (by decide)).mpr hc8) ?_
          refine rz_B.go 4 (pc' := 55) (L' := [some (.ref 91), some (vI a0), some (vI a1), some (vI a2), some (vI a3), some (vI a4), some (vI r7)]) (S' := [vI a2, vI a1, vI a0, .ref 91]) rfl ?_
          obtain ⟨_, A9, hf9, h⟩ := rz_b_inv h
          obtain ⟨hg9, hr9, hw9⟩ := cx181_makes F (d := d + 0) hf9 ha0 ha1 ha2 hw7
          refine rz_B.call (d := d + 7) (as := [.ref 91, vI a0, vI a1, vI a2]) (rest := []) (w := none) rfl hg9 ?_
          refine rz_B.go 2 (pc' := if decide (Int32.ofInt a3 < Int32.ofInt 0) = true then 72 else 63) (L' := [some (.ref 91), some (vI a0), some (vI a1), some (vI a2), some (vI a3), some (vI a4), some (vI r7)]) (S' := []) rfl ?_
          by_cases hc10 : 0 ≤ a3
          · have h := if_T h hc10
            refine rz_B.ifF (mt (lt32 ha3 (by decide)).mp (Int.not_lt.mpr hc10)) ?_
            refine rz_B.go 4 (pc' := if decide (Int32.ofInt a3 < Int32.ofInt (A9.1 91 67)) = true then 79 else 72) (L' := [some (.ref 91), some (vI a0), some (vI a1), some (vI a2), some (vI a3), some (vI a4), some (vI r7)]) (S' := []) rfl ?_
            by_cases hc11 : (A9.1 91 67) ≤ a3
            · have h := if_T h hc11
              refine rz_B.ifF (mt (lt32 ha3 (hw9 91 67).1).mp (Int.not_lt.mpr hc11)) ?_
              refine rz_B.go 2 (pc' := 75) (L' := [some (.ref 91), some (vI a0), some (vI a1), some (vI a2), some (vI a3), some (vI a4), some (vI r7)]) (S' := [vI (-5), .ref 91]) rfl ?_
              obtain ⟨r12, A12, hf12, h⟩ := rz_b_inv h
              obtain ⟨hg12, hr12, hw12⟩ := cx148_far F (d := d + 6) hf12 (by decide) hw9
              refine rz_B.call (d := d + 7) (as := [.ref 91, vI (-5)]) (rest := []) (w := some (vI r12)) rfl hg12 ?_
              cases h
              exact rz_B.ret rfl hr12 hw12
            · have h := if_F h hc11
              refine rz_B.ifT ((lt32 ha3 (hw9 91 67).1).mpr (Int.not_le.mp hc11)) ?_
              refine rz_B.go 2 (pc' := if decide (¬ Int32.ofInt a4 = Int32.ofInt 0) = true then 94 else 84) (L' := [some (.ref 91), some (vI a0), some (vI a1), some (vI a2), some (vI a3), some (vI a4), some (vI r7)]) (S' := []) rfl ?_
              by_cases hc13 : a4 = 0
              · have h := if_T h hc13
                refine rz_B.ifF (fun hn => hn ((eq32 ha4 (by decide)).mpr hc13)) ?_
                refine rz_B.go 3 (pc' := 90) (L' := [some (.ref 91), some (vI a0), some (vI a1), some (vI a2), some (vI a3), some (vI a4), some (vI r7)]) (S' := [vI a3, .ref 137]) rfl ?_
                obtain ⟨hi14, hj15, h⟩ := rz_gx_inv h
                refine rz_B.iald rfl rfl hi14 hj15 (by decide) ?_
                refine rz_B.go 1 (pc' := 101) (L' := [some (.ref 91), some (vI a0), some (vI a1), some (vI a2), some (vI a3), some (vI a4), some (vI r7)]) (S' := [vI (A9.1 137 (a3).toNat)]) rfl ?_
                cases h
                exact rz_B.ret rfl (hw9 137 (a3).toNat).1 hw9
              · have h := if_F h hc13
                refine rz_B.ifT (mt (eq32 ha4 (by decide)).mp hc13) ?_
                refine rz_B.go 3 (pc' := 100) (L' := [some (.ref 91), some (vI a0), some (vI a1), some (vI a2), some (vI a3), some (vI a4), some (vI r7)]) (S' := [vI a3, .ref 138]) rfl ?_
                obtain ⟨hi16, hj17, h⟩ := rz_gx_inv h
                refine rz_B.iald rfl rfl hi16 hj17 (by decide) ?_
                cases h
                exact rz_B.ret rfl (hw9 138 (a3).toNat).1 hw9
          · have h := if_F h hc10
            refine rz_B.ifT ((lt32 ha3 (by decide)).mpr (Int.not_le.mp hc10)) ?_
            refine rz_B.go 2 (pc' := 75) (L' := [some (.ref 91), some (vI a0), some (vI a1), some (vI a2), some (vI a3), some (vI a4), some (vI r7)]) (S' := [vI (-5), .ref 91]) rfl ?_
            obtain ⟨r18, A18, hf18, h⟩ := rz_b_inv h
            obtain ⟨hg18, hr18, hw18⟩ := cx148_far F (d := d + 6) hf18 (by decide) hw9
            refine rz_B.call (d := d + 7) (as := [.ref 91, vI (-5)]) (rest := []) (w := some (vI r18)) rfl hg18 ?_
            cases h
            exact rz_B.ret rfl hr18 hw18
        · have h := if_F h hc8
          refine rz_B.ifF (mt (eq32 hr7 (by decide)).mp hc8) ?_
          refine rz_B.go 2 (pc' := 47) (L' := [some (.ref 91), some (vI a0), some (vI a1), some (vI a2), some (vI a3), some (vI a4), some (vI r7)]) (S' := [vI r7, .ref 91]) rfl ?_
          obtain ⟨r19, A19, hf19, h⟩ := rz_b_inv h
          obtain ⟨hg19, hr19, hw19⟩ := cx148_far F (d := d + 6) hf19 hr7 hw7
          refine rz_B.call (d := d + 7) (as := [.ref 91, vI r7]) (rest := []) (w := some (vI r19)) rfl hg19 ?_
          cases h
          exact rz_B.ret rfl hr19 hw19
    · have h := if_F h hc4
      refine rz_B.ifT ((lt32 ha4 (by decide)).mpr (Int.not_le.mp hc4)) ?_
      refine rz_B.go 2 (pc' := 28) (L' := [some (.ref 91), some (vI a0), some (vI a1), some (vI a2), some (vI a3), some (vI a4), none]) (S' := [vI (-2), .ref 91]) rfl ?_
      obtain ⟨r20, A20, hf20, h⟩ := rz_b_inv h
      obtain ⟨hg20, hr20, hw20⟩ := cx148_far F (d := d + 6) hf20 (by decide) hw1
      refine rz_B.call (d := d + 7) (as := [.ref 91, vI (-2)]) (rest := []) (w := some (vI r20)) rfl hg20 ?_
      cases h
      exact rz_B.ret rfl hr20 hw20
def x185_along_p_139 (F : Nat) (v6 : Int) (v7 : Int) (A : rz_A) : Option (Int × rz_A) :=
  rz_gx v7 60 <|
  rz_g32 (v7 + 1) <|
  rz_gx (v7 + 1) 60 <|
  rz_g32 ((A.1 138 ((v7 + 1)).toNat) - (A.1 138 (v7).toNat)) <|
  rz_g32 (v6 - (A.1 137 (v7).toNat)) <|
  rz_g64 (((A.1 138 ((v7 + 1)).toNat) - (A.1 138 (v7).toNat)) * (v6 - (A.1 137 (v7).toNat))) <|
  rz_g32 ((A.1 137 ((v7 + 1)).toNat) - (A.1 137 (v7).toNat)) <|
  rz_gn ((A.1 137 ((v7 + 1)).toNat) - (A.1 137 (v7).toNat)) <|
  rz_g64 ((((A.1 138 ((v7 + 1)).toNat) - (A.1 138 (v7).toNat)) * (v6 - (A.1 137 (v7).toNat))).tdiv ((A.1 137 ((v7 + 1)).toNat) - (A.1 137 (v7).toNat))) <|
  rz_g64 ((A.1 138 (v7).toNat) + ((((A.1 138 ((v7 + 1)).toNat) - (A.1 138 (v7).toNat)) * (v6 - (A.1 137 (v7).toNat))).tdiv ((A.1 137 ((v7 + 1)).toNat) - (A.1 137 (v7).toNat)))) <|
  if 99999999 < ((A.1 138 (v7).toNat) + ((((A.1 138 ((v7 + 1)).toNat) - (A.1 138 (v7).toNat)) * (v6 - (A.1 137 (v7).toNat))).tdiv ((A.1 137 ((v7 + 1)).toNat) - (A.1 137 (v7).toNat)))) then
    some (99999999, A)
  else
    rz_g32 ((A.1 138 (v7).toNat) + ((((A.1 138 ((v7 + 1)).toNat) - (A.1 138 (v7).toNat)) * (v6 - (A.1 137 (v7).toNat))).tdiv ((A.1 137 ((v7 + 1)).toNat) - (A.1 137 (v7).toNat)))) <|
    some (((A.1 138 (v7).toNat) + ((((A.1 138 ((v7 + 1)).toNat) - (A.1 138 (v7).toNat)) * (v6 - (A.1 137 (v7).toNat))).tdiv ((A.1 137 ((v7 + 1)).toNat) - (A.1 137 (v7).toNat)))), A)
theorem cx185_along_p_139 {d : Nat} (F : Nat) : ∀ (v6 : Int) (v7 : Int) (A : rz_A) (r : Int) (A' : rz_A), x185_along_p_139 F v6 v7 A = some (r, A') → r32 v6 → r32 v7 → wf A → rz_B (d + 0) 185 139 [none, some (.ref 137), some (.ref 138), none, none, none, some (vI v6), some (vI v7), none, none] [] A (some (vI r)) A' (r32 r) := by
  intro v6 v7 A r A' h hv6 hv7 hw
  unfold x185_along_p_139 at h
  refine rz_B.go 2 (pc' := 142) (L' := [none, some (.ref 137), some (.ref 138), none, none, none, some (vI v6), some (vI v7), none, none]) (S' := [vI v7, .ref 138]) rfl ?_
  obtain ⟨hi1, hj2, h⟩ := rz_gx_inv h
  refine rz_B.iald rfl rfl hi1 hj2 (by decide) ?_
  refine rz_B.i2l rfl (hw 138 (v7).toNat).1 ?_
  refine rz_B.go 3 (pc' := 148) (L' := [none, some (.ref 137), some (.ref 138), none, none, none, some (vI v6), some (vI v7), none, none]) (S' := [vI 1, vI v7, .ref 138, vL (A.1 138 (v7).toNat)]) rfl ?_
  obtain ⟨hk3, h⟩ := rz_g32_inv h
  refine rz_B.iadd rfl ?_
  obtain ⟨hi4, hj5, h⟩ := rz_gx_inv h
  refine rz_B.iald rfl rfl hi4 hj5 (by decide) ?_
  refine rz_B.go 2 (pc' := 153) (L' := [none, some (.ref 137), some (.ref 138), none, none, none, some (vI v6), some (vI v7), none, none]) (S' := [vI v7, .ref 138, vI (A.1 138 ((v7 + 1)).toNat), vL (A.1 138 (v7).toNat)]) rfl ?_
  refine rz_B.iald rfl rfl hi1 hj2 (by decide) ?_
  obtain ⟨hk6, h⟩ := rz_g32_inv h
  refine rz_B.isub rfl ?_
  refine rz_B.i2l rfl hk6 ?_
  refine rz_B.go 3 (pc' := 161) (L' := [none, some (.ref 137), some (.ref 138), none, none, none, some (vI v6), some (vI v7), none, none]) (S' := [vI v7, .ref 137, vI v6, vL ((A.1 138 ((v7 + 1)).toNat) - (A.1 138 (v7).toNat)), vL (A.1 138 (v7).toNat)]) rfl ?_
  refine rz_B.iald rfl rfl hi1 hj2 (by decide) ?_
  obtain ⟨hk7, h⟩ := rz_g32_inv h
  refine rz_B.isub rfl ?_
  refine rz_B.i2l rfl hk7 ?_
  obtain ⟨hk8, h⟩ := rz_g64_inv h
  refine rz_B.lmul rfl ?_
  refine rz_B.go 3 (pc' := 169) (L' := [none, some (.ref 137), some (.ref 138), none, none, none, some (vI v6), some (vI v7), none, none]) (S' := [vI 1, vI v7, .ref 137, vL (((A.1 138 ((v7 + 1)).toNat) - (A.1 138 (v7).toNat)) * (v6 - (A.1 137 (v7).toNat))), vL (A.1 138 (v7).toNat)]) rfl ?_
  refine rz_B.iadd rfl ?_
  refine rz_B.iald rfl rfl hi4 hj5 (by decide) ?_
  refine rz_B.go 2 (pc' := 174) (L' := [none, some (.ref 137), some (.ref 138), none, none, none, some (vI v6), some (vI v7), none, none]) (S' := [vI v7, .ref 137, vI (A.1 137 ((v7 + 1)).toNat), vL (((A.1 138 ((v7 + 1)).toNat) - (A.1 138 (v7).toNat)) * (v6 - (A.1 137 (v7).toNat))), vL (A.1 138 (v7).toNat)]) rfl ?_
  refine rz_B.iald rfl rfl hi1 hj2 (by decide) ?_
  obtain ⟨hk9, h⟩ := rz_g32_inv h
  refine rz_B.isub rfl ?_
  refine rz_B.i2l rfl hk9 ?_
  obtain ⟨hz10, h⟩ := rz_gn_inv h
  obtain ⟨hk11, h⟩ := rz_g64_inv h
  refine rz_B.ldiv rfl hk8 (r64_of hk9) hz10 ?_
  obtain ⟨hk12, h⟩ := rz_g64_inv h
  refine rz_B.ladd rfl ?_
  refine rz_B.go 5 (pc' := if decide (lg_cmp (Int64.ofInt ((A.1 138 (v7).toNat) + ((((A.1 138 ((v7 + 1)).toNat) - (A.1 138 (v7).toNat)) * (v6 - (A.1 137 (v7).toNat))).tdiv ((A.1 137 ((v7 + 1)).toNat) - (A.1 137 (v7).toNat))))) (Int64.ofInt 99999999) ≤ 0) = true then 196 else 190) (L' := [none, some (.ref 137), some (.ref 138), none, none, none, some (vI v6), some (vI v7), some (vL ((A.1 138 (v7).toNat) + ((((A.1 138 ((v7 + 1)).toNat) - (A.1 138 (v7).toNat)) * (v6 - (A.1 137 (v7).toNat))).tdiv ((A.1 137 ((v7 + 1)).toNat) - (A.1 137 (v7).toNat))))), none]) (S' := []) rfl ?_
  by_cases hc13 : 99999999 < ((A.1 138 (v7).toNat) + ((((A.1 138 ((v7 + 1)).toNat) - (A.1 138 (v7).toNat)) * (v6 - (A.1 137 (v7).toNat))).tdiv ((A.1 137 ((v7 + 1)).toNat) - (A.1 137 (v7).toNat))))
  · have h := if_T h hc13
    refine rz_B.ifF (mt (cmp_le hk12 (by decide)).mp (Int.not_le.mpr hc13)) ?_
    refine rz_B.go 2 (pc' := 199) (L' := [none, some (.ref 137), some (.ref 138), none, none, none, some (vI v6), some (vI v7), some (vL ((A.1 138 (v7).toNat) + ((((A.1 138 ((v7 + 1)).toNat) - (A.1 138 (v7).toNat)) * (v6 - (A.1 137 (v7).toNat))).tdiv ((A.1 137 ((v7 + 1)).toNat) - (A.1 137 (v7).toNat))))), none]) (S' := [vI 99999999]) rfl ?_
    cases h
    exact rz_B.ret rfl (by decide) hw
  · have h := if_F h hc13
    refine rz_B.ifT ((cmp_le hk12 (by decide)).mpr (Int.not_lt.mp hc13)) ?_
    refine rz_B.go 1 (pc' := 198) (L' := [none, some (.ref 137), some (.ref 138), none, none, none, some (vI v6), some (vI v7), some (vL ((A.1 138 (v7).toNat) + ((((A.1 138 ((v7 + 1)).toNat) - (A.1 138 (v7).toNat)) * (v6 - (A.1 137 (v7).toNat))).tdiv ((A.1 137 ((v7 + 1)).toNat) - (A.1 137 (v7).toNat))))), none]) (S' := [vL ((A.1 138 (v7).toNat) + ((((A.1 138 ((v7 + 1)).toNat) - (A.1 138 (v7).toNat)) * (v6 - (A.1 137 (v7).toNat))).tdiv ((A.1 137 ((v7 + 1)).toNat) - (A.1 137 (v7).toNat))))]) rfl ?_
    obtain ⟨hk14, h⟩ := rz_g32_inv h
    refine rz_B.l2i rfl ?_
    cases h
    exact rz_B.ret rfl hk14 hw
def x185_along_p_105 (F : Nat) (v3 : Int) (v4 : Int) (v6 : Int) (v7 : Int) (A : rz_A) : Option (Int × rz_A) :=
  rz_gx v7 60 <|
  if (A.1 137 (v7).toNat) = v6 then
    some ((A.1 138 (v7).toNat), A)
  else
    if v4 = 1 then
      some ((A.1 138 (v7).toNat), A)
    else
      rz_g32 (v3 + v4) <|
      rz_g32 ((v3 + v4) - 1) <|
      if v7 = ((v3 + v4) - 1) then
        rz_g32 (v7 + (-1)) <|
        x185_along_p_139 F v6 (v7 + (-1)) A
      else
        x185_along_p_139 F v6 v7 A
theorem cx185_along_p_105 {d : Nat} (F : Nat) : ∀ (v3 : Int) (v4 : Int) (v6 : Int) (v7 : Int) (A : rz_A) (r : Int) (A' : rz_A), x185_along_p_105 F v3 v4 v6 v7 A = some (r, A') → r32 v3 → r32 v4 → r32 v6 → r32 v7 → wf A → rz_B (d + 0) 185 105 [none, some (.ref 137), some (.ref 138), some (vI v3), some (vI v4), none, some (vI v6), some (vI v7), none, none] [] A (some (vI r)) A' (r32 r) := by
  intro v3 v4 v6 v7 A r A' h hv3 hv4 hv6 hv7 hw
  unfold x185_along_p_105 at h
  refine rz_B.go 2 (pc' := 108) (L' := [none, some (.ref 137), some (.ref 138), some (vI v3), some (vI v4), none, some (vI v6), some (vI v7), none, none]) (S' := [vI v7, .ref 137]) rfl ?_
  obtain ⟨hi1, hj2, h⟩ := rz_gx_inv h
  refine rz_B.iald rfl rfl hi1 hj2 (by decide) ?_
  refine rz_B.go 2 (pc' := if decide (Int32.ofInt (A.1 137 (v7).toNat) = Int32.ofInt v6) = true then 120 else 114) (L' := [none, some (.ref 137), some (.ref 138), some (vI v3), some (vI v4), none, some (vI v6), some (vI v7), none, none]) (S' := []) rfl ?_
  by_cases hc3 : (A.1 137 (v7).toNat) = v6
  · have h := if_T h hc3
    refine rz_B.ifT ((eq32 (hw 137 (v7).toNat).1 hv6).mpr hc3) ?_
    refine rz_B.go 2 (pc' := 123) (L' := [none, some (.ref 137), some (.ref 138), some (vI v3), some (vI v4), none, some (vI v6), some (vI v7), none, none]) (S' := [vI v7, .ref 138]) rfl ?_
    refine rz_B.iald rfl rfl hi1 hj2 (by decide) ?_
    cases h
    exact rz_B.ret rfl (hw 138 (v7).toNat).1 hw
  · have h := if_F h hc3
    refine rz_B.ifF (mt (eq32 (hw 137 (v7).toNat).1 hv6).mp hc3) ?_
    refine rz_B.go 3 (pc' := if decide (¬ Int32.ofInt v4 = Int32.ofInt 1) = true then 125 else 120) (L' := [none, some (.ref 137), some (.ref 138), some (vI v3), some (vI v4), none, some (vI v6), some (vI v7), none, none]) (S' := []) rfl ?_
    by_cases hc4 : v4 = 1
    · have h := if_T h hc4
      refine rz_B.ifF (fun hn => hn ((eq32 hv4 (by decide)).mpr hc4)) ?_
      refine rz_B.go 2 (pc' := 123) (L' := [none, some (.ref 137), some (.ref 138), some (vI v3), some (vI v4), none, some (vI v6), some (vI v7), none, none]) (S' := [vI v7, .ref 138]) rfl ?_
      refine rz_B.iald rfl rfl hi1 hj2 (by decide) ?_
      cases h
      exact rz_B.ret rfl (hw 138 (v7).toNat).1 hw
    · have h := if_F h hc4
      refine rz_B.ifT (mt (eq32 hv4 (by decide)).mp hc4) ?_
      refine rz_B.go 3 (pc' := 130) (L' := [none, some (.ref 137), some (.ref 138), some (vI v3), some (vI v4), none, some (vI v6), some (vI v7), none, none]) (S' := [vI v4, vI v3, vI v7]) rfl ?_
      obtain ⟨hk5, h⟩ := rz_g32_inv h
      refine rz_B.iadd rfl ?_
      refine rz_B.go 1 (pc' := 132) (L' := [none, some (.ref 137), some (.ref 138), some (vI v3), some (vI v4), none, some (vI v6), some (vI v7), none, none]) (S' := [vI 1, vI (v3 + v4), vI v7]) rfl ?_
      obtain ⟨hk6, h⟩ := rz_g32_inv h
      refine rz_B.isub rfl ?_
      refine rz_B.go 1 (pc' := if decide (¬ Int32.ofInt v7 = Int32.ofInt ((v3 + v4) - 1)) = true then 139 else 136) (L' := [none, some (.ref 137), some (.ref 138), some (vI v3), some (vI v4), none, some (vI v6), some (vI v7), none, none]) (S' := []) rfl ?_
      by_cases hc7 : v7 = ((v3 + v4) - 1)
      · have h := if_T h hc7
        refine rz_B.ifF (fun hn => hn ((eq32 hv7 hk6).mpr hc7)) ?_
        obtain ⟨hk8, h⟩ := rz_g32_inv h
        refine rz_B.iinc rfl (by decide) rfl (L' := [none, some (.ref 137), some (.ref 138), some (vI v3), some (vI v4), none, some (vI v6), some (vI (v7 + (-1))), none, none]) rfl ?_
        refine rz_B.more (rg_le_ok (L := [none, some (.ref 137), some (.ref 138), none, none, none, some (vI v6), some (vI (v7 + (-1))), none, none]) (by simp [rg_le])) ?_
        exact cx185_along_p_139 F _ _ _ _ _ h hv6 hk8 hw
      · have h := if_F h hc7
        refine rz_B.ifT (mt (eq32 hv7 hk6).mp hc7) ?_
        refine rz_B.more (rg_le_ok (L := [none, some (.ref 137), some (.ref 138), none, none, none, some (vI v6), some (vI v7), none, none]) (by simp [rg_le])) ?_
        exact cx185_along_p_139 F _ _ _ _ _ h hv6 hv7 hw
def x185_along_p_77 (F : Nat) : Nat → Int → Int → Int → Int → rz_A → Option (Int × rz_A)
  | 0, _, _, _, _, _ => none
  | n + 1, v3, v4, v6, v7, A =>
    rz_g32 (v7 + 1) <|
    rz_g32 (v3 + v4) <|
    if (v7 + 1) < (v3 + v4) then
      rz_gx (v7 + 1) 60 <|
      if (A.1 137 ((v7 + 1)).toNat) ≤ v6 then
        x185_along_p_77 F n v3 v4 v6 (v7 + 1) A
      else
        x185_along_p_105 F v3 v4 v6 v7 A
    else
      x185_along_p_105 F v3 v4 v6 v7 A
theorem cx185_along_p_77 {d : Nat} (F : Nat) : ∀ (n : Nat) (v3 : Int) (v4 : Int) (v6 : Int) (v7 : Int) (A : rz_A) (r : Int) (A' : rz_A), x185_along_p_77 F n v3 v4 v6 v7 A = some (r, A') → r32 v3 → r32 v4 → r32 v6 → r32 v7 → wf A → rz_B (d + 0) 185 77 [none, some (.ref 137), some (.ref 138), some (vI v3), some (vI v4), none, some (vI v6), some (vI v7), none, none] [] A (some (vI r)) A' (r32 r) := by
  intro n
  induction n with
  | zero => intro v3 v4 v6 v7 A r A' h; cases h
  | succ n ih =>
    intro v3 v4 v6 v7 A r A' h hv3 hv4 hv6 hv7 hw
    rw [x185_along_p_77] at h
    refine rz_B.go 2 (pc' := 80) (L' := [none, some (.ref 137), some (.ref 138), some (vI v3), some (vI v4), none, some (vI v6), some (vI v7), none, none]) (S' := [vI 1, vI v7]) rfl ?_
    obtain ⟨hk1, h⟩ := rz_g32_inv h
    refine rz_B.iadd rfl ?_
    refine rz_B.go 2 (pc' := 84) (L' := [none, some (.ref 137), some (.ref 138), some (vI v3), some (vI v4), none, some (vI v6), some (vI v7), none, none]) (S' := [vI v4, vI v3, vI (v7 + 1)]) rfl ?_
    obtain ⟨hk2, h⟩ := rz_g32_inv h
    refine rz_B.iadd rfl ?_
    refine rz_B.go 1 (pc' := if decide (Int32.ofInt (v3 + v4) ≤ Int32.ofInt (v7 + 1)) = true then 105 else 88) (L' := [none, some (.ref 137), some (.ref 138), some (vI v3), some (vI v4), none, some (vI v6), some (vI v7), none, none]) (S' := []) rfl ?_
    by_cases hc3 : (v7 + 1) < (v3 + v4)
    · have h := if_T h hc3
      refine rz_B.ifF (mt (le32 hk2 hk1).mp (Int.not_le.mpr hc3)) ?_
      refine rz_B.go 3 (pc' := 92) (L' := [none, some (.ref 137), some (.ref 138), some (vI v3), some (vI v4), none, some (vI v6), some (vI v7), none, none]) (S' := [vI 1, vI v7, .ref 137]) rfl ?_
      refine rz_B.iadd rfl ?_
      obtain ⟨hi4, hj5, h⟩ := rz_gx_inv h
      refine rz_B.iald rfl rfl hi4 hj5 (by decide) ?_
      refine rz_B.go 2 (pc' := if decide (Int32.ofInt v6 < Int32.ofInt (A.1 137 ((v7 + 1)).toNat)) = true then 105 else 99) (L' := [none, some (.ref 137), some (.ref 138), some (vI v3), some (vI v4), none, some (vI v6), some (vI v7), none, none]) (S' := []) rfl ?_
      by_cases hc6 : (A.1 137 ((v7 + 1)).toNat) ≤ v6
      · have h := if_T h hc6
        refine rz_B.ifF (mt (lt32 hv6 (hw 137 ((v7 + 1)).toNat).1).mp (Int.not_lt.mpr hc6)) ?_
        refine rz_B.iinc rfl (by decide) rfl (L' := [none, some (.ref 137), some (.ref 138), some (vI v3), some (vI v4), none, some (vI v6), some (vI (v7 + 1)), none, none]) rfl ?_
        refine rz_B.go 1 (pc' := 77) (L' := [none, some (.ref 137), some (.ref 138), some (vI v3), some (vI v4), none, some (vI v6), some (vI (v7 + 1)), none, none]) (S' := []) rfl ?_
        refine rz_B.more (rg_le_ok (L := [none, some (.ref 137), some (.ref 138), some (vI v3), some (vI v4), none, some (vI v6), some (vI (v7 + 1)), none, none]) (by simp [rg_le])) ?_
        exact ih _ _ _ _ _ _ _ h hv3 hv4 hv6 hk1 hw
      · have h := if_F h hc6
        refine rz_B.ifT ((lt32 hv6 (hw 137 ((v7 + 1)).toNat).1).mpr (Int.not_le.mp hc6)) ?_
        refine rz_B.more (rg_le_ok (L := [none, some (.ref 137), some (.ref 138), some (vI v3), some (vI v4), none, some (vI v6), some (vI v7), none, none]) (by simp [rg_le])) ?_
        exact cx185_along_p_105 F _ _ _ _ _ _ _ h hv3 hv4 hv6 hv7 hw
    · have h := if_F h hc3
      refine rz_B.ifT ((le32 hk2 hk1).mpr (Int.not_lt.mp hc3)) ?_
      refine rz_B.more (rg_le_ok (L := [none, some (.ref 137), some (.ref 138), some (vI v3), some (vI v4), none, some (vI v6), some (vI v7), none, none]) (by simp [rg_le])) ?_
      exact cx185_along_p_105 F _ _ _ _ _ _ _ h hv3 hv4 hv6 hv7 hw
/-- RiverGaugeModel.along([I[IIIII)I -/
def x185_along_p (F : Nat) (a0 : Int) (a1 : Int) (a2 : Int) (a3 : Int) (A : rz_A) : Option (Int × rz_A) :=
  rz_g32 (a0 + a1) <|
  rz_g32 ((a0 + a1) - 1) <|
  rz_gx ((a0 + a1) - 1) 60 <|
  if (A.1 137 (((a0 + a1) - 1)).toNat) < a3 then
    rz_gx a0 60 <|
    if a3 < (A.1 137 (a0).toNat) then
      if (A.1 137 (a0).toNat) ≤ a2 then
        some ((A.1 138 (a0).toNat), (aI A 91 76 1))
      else
        if a3 ≤ a2 then
          some (0, (aI A 91 76 1))
        else
          rz_g32 (a3 - a2) <|
          rz_g64 ((A.1 138 (a0).toNat) * (a3 - a2)) <|
          rz_g32 ((A.1 137 (a0).toNat) - a2) <|
          rz_gn ((A.1 137 (a0).toNat) - a2) <|
          rz_g64 (((A.1 138 (a0).toNat) * (a3 - a2)).tdiv ((A.1 137 (a0).toNat) - a2)) <|
          rz_g32 (((A.1 138 (a0).toNat) * (a3 - a2)).tdiv ((A.1 137 (a0).toNat) - a2)) <|
          some ((((A.1 138 (a0).toNat) * (a3 - a2)).tdiv ((A.1 137 (a0).toNat) - a2)), (aI A 91 76 1))
    else
      x185_along_p_77 F F a0 a1 a3 a0 (aI A 91 76 1)
  else
    rz_gx a0 60 <|
    if a3 < (A.1 137 (a0).toNat) then
      if (A.1 137 (a0).toNat) ≤ a2 then
        some ((A.1 138 (a0).toNat), (aI A 91 76 0))
      else
        if a3 ≤ a2 then
          some (0, (aI A 91 76 0))
        else
          rz_g32 (a3 - a2) <|
          rz_g64 ((A.1 138 (a0).toNat) * (a3 - a2)) <|
          rz_g32 ((A.1 137 (a0).toNat) - a2) <|
          rz_gn ((A.1 137 (a0).toNat) - a2) <|
          rz_g64 (((A.1 138 (a0).toNat) * (a3 - a2)).tdiv ((A.1 137 (a0).toNat) - a2)) <|
          rz_g32 (((A.1 138 (a0).toNat) * (a3 - a2)).tdiv ((A.1 137 (a0).toNat) - a2)) <|
          some ((((A.1 138 (a0).toNat) * (a3 - a2)).tdiv ((A.1 137 (a0).toNat) - a2)), (aI A 91 76 0))
    else
      x185_along_p_77 F F a0 a1 a3 a0 (aI A 91 76 0)
theorem cx185_along_p (F : Nat) {d : Nat} {a0 : Int} {a1 : Int} {a2 : Int} {a3 : Int} {A : rz_A} {r : Int} {A' : rz_A} (h : x185_along_p F a0 a1 a2 a3 A = some (r, A')) (ha0 : r32 a0) (ha1 : r32 a1) (ha2 : r32 a2) (ha3 : r32 a3) (hw : wf A) : rg_Rn (d + 0) 185 [.ref 91, .ref 137, .ref 138, vI a0, vI a1, vI a2, vI a3] (toM A) (some (vI r)) (toM A') ∧ (r32 r) ∧ wf A' := by
  show rz_B (d + 0) 185 0 [some (.ref 91), some (.ref 137), some (.ref 138), some (vI a0), some (vI a1), some (vI a2), some (vI a3), none, none, none] [] A (some (vI r)) A' (r32 r)
  unfold x185_along_p at h
  refine rz_B.go 5 (pc' := 7) (L' := [some (.ref 91), some (.ref 137), some (.ref 138), some (vI a0), some (vI a1), some (vI a2), some (vI a3), none, none, none]) (S' := [vI a1, vI a0, .ref 137, vI a3, .ref 91]) rfl ?_
  obtain ⟨hk1, h⟩ := rz_g32_inv h
  refine rz_B.iadd rfl ?_
  refine rz_B.go 1 (pc' := 9) (L' := [some (.ref 91), some (.ref 137), some (.ref 138), some (vI a0), some (vI a1), some (vI a2), some (vI a3), none, none, none]) (S' := [vI 1, vI (a0 + a1), .ref 137, vI a3, .ref 91]) rfl ?_
  obtain ⟨hk2, h⟩ := rz_g32_inv h
  refine rz_B.isub rfl ?_
  obtain ⟨hi3, hj4, h⟩ := rz_gx_inv h
  refine rz_B.iald rfl rfl hi3 hj4 (by decide) ?_
  refine rz_B.go 1 (pc' := if decide (Int32.ofInt a3 ≤ Int32.ofInt (A.1 137 (((a0 + a1) - 1)).toNat)) = true then 18 else 14) (L' := [some (.ref 91), some (.ref 137), some (.ref 138), some (vI a0), some (vI a1), some (vI a2), some (vI a3), none, none, none]) (S' := [.ref 91]) rfl ?_
  by_cases hc5 : (A.1 137 (((a0 + a1) - 1)).toNat) < a3
  · have h := if_T h hc5
    refine rz_B.ifF (mt (le32 ha3 (hw 137 (((a0 + a1) - 1)).toNat).1).mp (Int.not_le.mpr hc5)) ?_
    refine rz_B.put 3 (pc' := 22) (L' := [some (.ref 91), some (.ref 137), some (.ref 138), some (vI a0), some (vI a1), some (vI a2), some (vI a3), none, none, none]) (S' := []) (c := 91) (k := 76) (x := 1) rfl ?_
    have hw6 : wf (aI A 91 76 1) := wf_aI hw (by decide)
    refine rz_B.go 3 (pc' := 26) (L' := [some (.ref 91), some (.ref 137), some (.ref 138), some (vI a0), some (vI a1), some (vI a2), some (vI a3), none, none, none]) (S' := [vI a0, .ref 137, vI a3]) rfl ?_
    obtain ⟨hi7, hj8, h⟩ := rz_gx_inv h
    refine rz_B.iald rfl rfl hi7 hj8 (by decide) ?_
    refine rz_B.go 1 (pc' := if decide (Int32.ofInt (A.1 137 (a0).toNat) ≤ Int32.ofInt a3) = true then 74 else 30) (L' := [some (.ref 91), some (.ref 137), some (.ref 138), some (vI a0), some (vI a1), some (vI a2), some (vI a3), none, none, none]) (S' := []) rfl ?_
    by_cases hc9 : a3 < (A.1 137 (a0).toNat)
    · have h := if_T h hc9
      refine rz_B.ifF (mt (le32 (hw 137 (a0).toNat).1 ha3).mp (Int.not_le.mpr hc9)) ?_
      refine rz_B.go 2 (pc' := 32) (L' := [some (.ref 91), some (.ref 137), some (.ref 138), some (vI a0), some (vI a1), some (vI a2), some (vI a3), none, none, none]) (S' := [vI a0, .ref 137]) rfl ?_
      refine rz_B.iald rfl rfl hi7 hj8 (by decide) ?_
      refine rz_B.go 2 (pc' := if decide (Int32.ofInt a2 < Int32.ofInt (A.1 137 (a0).toNat)) = true then 42 else 38) (L' := [some (.ref 91), some (.ref 137), some (.ref 138), some (vI a0), some (vI a1), some (vI a2), some (vI a3), none, none, none]) (S' := []) rfl ?_
      by_cases hc10 : (A.1 137 (a0).toNat) ≤ a2
      · have h := if_T h hc10
        refine rz_B.ifF (mt (lt32 ha2 (hw 137 (a0).toNat).1).mp (Int.not_lt.mpr hc10)) ?_
        refine rz_B.go 2 (pc' := 40) (L' := [some (.ref 91), some (.ref 137), some (.ref 138), some (vI a0), some (vI a1), some (vI a2), some (vI a3), none, none, none]) (S' := [vI a0, .ref 138]) rfl ?_
        refine rz_B.iald rfl rfl hi7 hj8 (by decide) ?_
        cases h
        exact rz_B.ret rfl (hw 138 (a0).toNat).1 hw6
      · have h := if_F h hc10
        refine rz_B.ifT ((lt32 ha2 (hw 137 (a0).toNat).1).mpr (Int.not_le.mp hc10)) ?_
        refine rz_B.go 3 (pc' := if decide (Int32.ofInt a2 < Int32.ofInt a3) = true then 53 else 49) (L' := [some (.ref 91), some (.ref 137), some (.ref 138), some (vI a0), some (vI a1), some (vI a2), some (vI a3), none, none, none]) (S' := []) rfl ?_
        by_cases hc11 : a3 ≤ a2
        · have h := if_T h hc11
          refine rz_B.ifF (mt (lt32 ha2 ha3).mp (Int.not_lt.mpr hc11)) ?_
          refine rz_B.go 2 (pc' := 73) (L' := [some (.ref 91), some (.ref 137), some (.ref 138), some (vI a0), some (vI a1), some (vI a2), some (vI a3), none, none, none]) (S' := [vI 0]) rfl ?_
          cases h
          exact rz_B.ret rfl (by decide) hw6
        · have h := if_F h hc11
          refine rz_B.ifT ((lt32 ha2 ha3).mpr (Int.not_le.mp hc11)) ?_
          refine rz_B.go 2 (pc' := 55) (L' := [some (.ref 91), some (.ref 137), some (.ref 138), some (vI a0), some (vI a1), some (vI a2), some (vI a3), none, none, none]) (S' := [vI a0, .ref 138]) rfl ?_
          refine rz_B.iald rfl rfl hi7 hj8 (by decide) ?_
          refine rz_B.i2l rfl (hw 138 (a0).toNat).1 ?_
          refine rz_B.go 2 (pc' := 61) (L' := [some (.ref 91), some (.ref 137), some (.ref 138), some (vI a0), some (vI a1), some (vI a2), some (vI a3), none, none, none]) (S' := [vI a2, vI a3, vL (A.1 138 (a0).toNat)]) rfl ?_
          obtain ⟨hk12, h⟩ := rz_g32_inv h
          refine rz_B.isub rfl ?_
          refine rz_B.i2l rfl hk12 ?_
          obtain ⟨hk13, h⟩ := rz_g64_inv h
          refine rz_B.lmul rfl ?_
          refine rz_B.go 2 (pc' := 66) (L' := [some (.ref 91), some (.ref 137), some (.ref 138), some (vI a0), some (vI a1), some (vI a2), some (vI a3), none, none, none]) (S' := [vI a0, .ref 137, vL ((A.1 138 (a0).toNat) * (a3 - a2))]) rfl ?_
          refine rz_B.iald rfl rfl hi7 hj8 (by decide) ?_
          refine rz_B.go 1 (pc' := 69) (L' := [some (.ref 91), some (.ref 137), some (.ref 138), some (vI a0), some (vI a1), some (vI a2), some (vI a3), none, none, none]) (S' := [vI a2, vI (A.1 137 (a0).toNat), vL ((A.1 138 (a0).toNat) * (a3 - a2))]) rfl ?_
          obtain ⟨hk14, h⟩ := rz_g32_inv h
          refine rz_B.isub rfl ?_
          refine rz_B.i2l rfl hk14 ?_
          obtain ⟨hz15, h⟩ := rz_gn_inv h
          obtain ⟨hk16, h⟩ := rz_g64_inv h
          refine rz_B.ldiv rfl hk13 (r64_of hk14) hz15 ?_
          obtain ⟨hk17, h⟩ := rz_g32_inv h
          refine rz_B.l2i rfl ?_
          cases h
          exact rz_B.ret rfl hk17 hw6
    · have h := if_F h hc9
      refine rz_B.ifT ((le32 (hw 137 (a0).toNat).1 ha3).mpr (Int.not_lt.mp hc9)) ?_
      refine rz_B.go 2 (pc' := 77) (L' := [some (.ref 91), some (.ref 137), some (.ref 138), some (vI a0), some (vI a1), some (vI a2), some (vI a3), some (vI a0), none, none]) (S' := []) rfl ?_
      refine rz_B.more (rg_le_ok (L := [none, some (.ref 137), some (.ref 138), some (vI a0), some (vI a1), none, some (vI a3), some (vI a0), none, none]) (by simp [rg_le])) ?_
      exact cx185_along_p_77 F F _ _ _ _ _ _ _ h ha0 ha1 ha3 ha0 hw6
  · have h := if_F h hc5
    refine rz_B.ifT ((le32 ha3 (hw 137 (((a0 + a1) - 1)).toNat).1).mpr (Int.not_lt.mp hc5)) ?_
    refine rz_B.put 2 (pc' := 22) (L' := [some (.ref 91), some (.ref 137), some (.ref 138), some (vI a0), some (vI a1), some (vI a2), some (vI a3), none, none, none]) (S' := []) (c := 91) (k := 76) (x := 0) rfl ?_
    have hw18 : wf (aI A 91 76 0) := wf_aI hw (by decide)
    refine rz_B.go 3 (pc' := 26) (L' := [some (.ref 91), some (.ref 137), some (.ref 138), some (vI a0), some (vI a1), some (vI a2), some (vI a3), none, none, none]) (S' := [vI a0, .ref 137, vI a3]) rfl ?_
    obtain ⟨hi19, hj20, h⟩ := rz_gx_inv h
    refine rz_B.iald rfl rfl hi19 hj20 (by decide) ?_
    refine rz_B.go 1 (pc' := if decide (Int32.ofInt (A.1 137 (a0).toNat) ≤ Int32.ofInt a3) = true then 74 else 30) (L' := [some (.ref 91), some (.ref 137), some (.ref 138), some (vI a0), some (vI a1), some (vI a2), some (vI a3), none, none, none]) (S' := []) rfl ?_
    by_cases hc21 : a3 < (A.1 137 (a0).toNat)
    · have h := if_T h hc21
      refine rz_B.ifF (mt (le32 (hw 137 (a0).toNat).1 ha3).mp (Int.not_le.mpr hc21)) ?_
      refine rz_B.go 2 (pc' := 32) (L' := [some (.ref 91), some (.ref 137), some (.ref 138), some (vI a0), some (vI a1), some (vI a2), some (vI a3), none, none, none]) (S' := [vI a0, .ref 137]) rfl ?_
      refine rz_B.iald rfl rfl hi19 hj20 (by decide) ?_
      refine rz_B.go 2 (pc' := if decide (Int32.ofInt a2 < Int32.ofInt (A.1 137 (a0).toNat)) = true then 42 else 38) (L' := [some (.ref 91), some (.ref 137), some (.ref 138), some (vI a0), some (vI a1), some (vI a2), some (vI a3), none, none, none]) (S' := []) rfl ?_
      by_cases hc22 : (A.1 137 (a0).toNat) ≤ a2
      · have h := if_T h hc22
        refine rz_B.ifF (mt (lt32 ha2 (hw 137 (a0).toNat).1).mp (Int.not_lt.mpr hc22)) ?_
        refine rz_B.go 2 (pc' := 40) (L' := [some (.ref 91), some (.ref 137), some (.ref 138), some (vI a0), some (vI a1), some (vI a2), some (vI a3), none, none, none]) (S' := [vI a0, .ref 138]) rfl ?_
        refine rz_B.iald rfl rfl hi19 hj20 (by decide) ?_
        cases h
        exact rz_B.ret rfl (hw 138 (a0).toNat).1 hw18
      · have h := if_F h hc22
        refine rz_B.ifT ((lt32 ha2 (hw 137 (a0).toNat).1).mpr (Int.not_le.mp hc22)) ?_
        refine rz_B.go 3 (pc' := if decide (Int32.ofInt a2 < Int32.ofInt a3) = true then 53 else 49) (L' := [some (.ref 91), some (.ref 137), some (.ref 138), some (vI a0), some (vI a1), some (vI a2), some (vI a3), none, none, none]) (S' := []) rfl ?_
        by_cases hc23 : a3 ≤ a2
        · have h := if_T h hc23
          refine rz_B.ifF (mt (lt32 ha2 ha3).mp (Int.not_lt.mpr hc23)) ?_
          refine rz_B.go 2 (pc' := 73) (L' := [some (.ref 91), some (.ref 137), some (.ref 138), some (vI a0), some (vI a1), some (vI a2), some (vI a3), none, none, none]) (S' := [vI 0]) rfl ?_
          cases h
          exact rz_B.ret rfl (by decide) hw18
        · have h := if_F h hc23
          refine rz_B.ifT ((lt32 ha2 ha3).mpr (Int.not_le.mp hc23)) ?_
          refine rz_B.go 2 (pc' := 55) (L' := [some (.ref 91), some (.ref 137), some (.ref 138), some (vI a0), some (vI a1), some (vI a2), some (vI a3), none, none, none]) (S' := [vI a0, .ref 138]) rfl ?_
          refine rz_B.iald rfl rfl hi19 hj20 (by decide) ?_
          refine rz_B.i2l rfl (hw 138 (a0).toNat).1 ?_
          refine rz_B.go 2 (pc' := 61) (L' := [some (.ref 91), some (.ref 137), some (.ref 138), some (vI a0), some (vI a1), some (vI a2), some (vI a3), none, none, none]) (S' := [vI a2, vI a3, vL (A.1 138 (a0).toNat)]) rfl ?_
          obtain ⟨hk24, h⟩ := rz_g32_inv h
          refine rz_B.isub rfl ?_
          refine rz_B.i2l rfl hk24 ?_
          obtain ⟨hk25, h⟩ := rz_g64_inv h
          refine rz_B.lmul rfl ?_
          refine rz_B.go 2 (pc' := 66) (L' := [some (.ref 91), some (.ref 137), some (.ref 138), some (vI a0), some (vI a1), some (vI a2), some (vI a3), none, none, none]) (S' := [vI a0, .ref 137, vL ((A.1 138 (a0).toNat) * (a3 - a2))]) rfl ?_
          refine rz_B.iald rfl rfl hi19 hj20 (by decide) ?_
          refine rz_B.go 1 (pc' := 69) (L' := [some (.ref 91), some (.ref 137), some (.ref 138), some (vI a0), some (vI a1), some (vI a2), some (vI a3), none, none, none]) (S' := [vI a2, vI (A.1 137 (a0).toNat), vL ((A.1 138 (a0).toNat) * (a3 - a2))]) rfl ?_
          obtain ⟨hk26, h⟩ := rz_g32_inv h
          refine rz_B.isub rfl ?_
          refine rz_B.i2l rfl hk26 ?_
          obtain ⟨hz27, h⟩ := rz_gn_inv h
          obtain ⟨hk28, h⟩ := rz_g64_inv h
          refine rz_B.ldiv rfl hk25 (r64_of hk26) hz27 ?_
          obtain ⟨hk29, h⟩ := rz_g32_inv h
          refine rz_B.l2i rfl ?_
          cases h
          exact rz_B.ret rfl hk29 hw18
    · have h := if_F h hc21
      refine rz_B.ifT ((le32 (hw 137 (a0).toNat).1 ha3).mpr (Int.not_lt.mp hc21)) ?_
      refine rz_B.go 2 (pc' := 77) (L' := [some (.ref 91), some (.ref 137), some (.ref 138), some (vI a0), some (vI a1), some (vI a2), some (vI a3), some (vI a0), none, none]) (S' := []) rfl ?_
      refine rz_B.more (rg_le_ok (L := [none, some (.ref 137), some (.ref 138), some (vI a0), some (vI a1), none, some (vI a3), some (vI a0), none, none]) (by simp [rg_le])) ?_
      exact cx185_along_p_77 F F _ _ _ _ _ _ _ h ha0 ha1 ha3 ha0 hw18
/-- RiverGaugeModel.flowAt(III)I -/
def x184_flowAt (F : Nat) (a0 : Int) (a1 : Int) (a2 : Int) (A : rz_A) : Option (Int × rz_A) :=
  rz_b (x145_isPost F a0 A) fun r1 A1 =>
  if r1 = 0 then
    rz_b (x142_no F (-1) A1) fun r3 A3 =>
    some (r3, A3)
  else
    if 0 ≤ a1 then
      if a2 < (-9999) then
        rz_b (x142_no F (-4) A1) fun r6 A6 =>
        some (r6, A6)
      else
        if a1 ≤ 9999 then
          if 99999 < a2 then
            rz_b (x142_no F (-6) A1) fun r9 A9 =>
            some (r9, A9)
          else
            rz_b (x181_makes F a0 a1 (A1.1 91 0) A1) fun _ A10 =>
            if (A10.1 91 67) = 0 then
              rz_b (x142_no F (-5) A10) fun r12 A12 =>
              some (r12, A12)
            else
              rz_gx a0 6 <|
              rz_b (x185_along_p F 0 (A10.1 91 67) (A10.1 93 (a0).toNat) a2 A10) fun r15 A15 =>
              some (r15, A15)
        else
          rz_b (x142_no F (-6) A1) fun r16 A16 =>
          some (r16, A16)
    else
      rz_b (x142_no F (-4) A1) fun r17 A17 =>
      some (r17, A17)
theorem cx184_flowAt (F : Nat) {d : Nat} {a0 : Int} {a1 : Int} {a2 : Int} {A : rz_A} {r : Int} {A' : rz_A} (h : x184_flowAt F a0 a1 a2 A = some (r, A')) (ha0 : r32 a0) (ha1 : r32 a1) (ha2 : r32 a2) (hw : wf A) : rg_Rn (d + 8) 184 [.ref 91, vI a0, vI a1, vI a2] (toM A) (some (vI r)) (toM A') ∧ (r32 r) ∧ wf A' := by
  show rz_B (d + 8) 184 0 [some (.ref 91), some (vI a0), some (vI a1), some (vI a2)] [] A (some (vI r)) A' (r32 r)
  unfold x184_flowAt at h
  refine rz_B.go 2 (pc' := 2) (L' := [some (.ref 91), some (vI a0), some (vI a1), some (vI a2)]) (S' := [vI a0, .ref 91]) rfl ?_
  obtain ⟨r1, A1, hf1, h⟩ := rz_b_inv h
  obtain ⟨hg1, hr1, hw1⟩ := cx145_isPost F (d := d + 7) hf1 ha0 hw
  refine rz_B.call (d := d + 7) (as := [.ref 91, vI a0]) (rest := []) (w := some (vI r1)) rfl hg1 ?_
  refine rz_B.go 1 (pc' := if decide (¬ Int32.ofInt r1 = Int32.ofInt 0) = true then 14 else 8) (L' := [some (.ref 91), some (vI a0), some (vI a1), some (vI a2)]) (S' := []) rfl ?_
  by_cases hc2 : r1 = 0
  · have h := if_T h hc2
    refine rz_B.ifF (fun hn => hn ((eq32 hr1 (by decide)).mpr hc2)) ?_
    refine rz_B.go 2 (pc' := 10) (L' := [some (.ref 91), some (vI a0), some (vI a1), some (vI a2)]) (S' := [vI (-1), .ref 91]) rfl ?_
    obtain ⟨r3, A3, hf3, h⟩ := rz_b_inv h
    obtain ⟨hg3, hr3, hw3⟩ := cx142_no F (d := d + 7) hf3 (by decide) hw1
    refine rz_B.call (d := d + 7) (as := [.ref 91, vI (-1)]) (rest := []) (w := some (vI r3)) rfl hg3 ?_
    cases h
    exact rz_B.ret rfl hr3 hw3
  · have h := if_F h hc2
    refine rz_B.ifT (mt (eq32 hr1 (by decide)).mp hc2) ?_
    refine rz_B.go 2 (pc' := if decide (Int32.ofInt a1 < Int32.ofInt 0) = true then 25 else 18) (L' := [some (.ref 91), some (vI a0), some (vI a1), some (vI a2)]) (S' := []) rfl ?_
    by_cases hc4 : 0 ≤ a1
    · have h := if_T h hc4
      refine rz_B.ifF (mt (lt32 ha1 (by decide)).mp (Int.not_lt.mpr hc4)) ?_
      refine rz_B.go 3 (pc' := if decide (Int32.ofInt (-9999) ≤ Int32.ofInt a2) = true then 32 else 25) (L' := [some (.ref 91), some (vI a0), some (vI a1), some (vI a2)]) (S' := []) rfl ?_
      by_cases hc5 : a2 < (-9999)
      · have h := if_T h hc5
        refine rz_B.ifF (mt (le32 (by decide) ha2).mp (Int.not_le.mpr hc5)) ?_
        refine rz_B.go 2 (pc' := 28) (L' := [some (.ref 91), some (vI a0), some (vI a1), some (vI a2)]) (S' := [vI (-4), .ref 91]) rfl ?_
        obtain ⟨r6, A6, hf6, h⟩ := rz_b_inv h
        obtain ⟨hg6, hr6, hw6⟩ := cx142_no F (d := d + 7) hf6 (by decide) hw1
        refine rz_B.call (d := d + 7) (as := [.ref 91, vI (-4)]) (rest := []) (w := some (vI r6)) rfl hg6 ?_
        cases h
        exact rz_B.ret rfl hr6 hw6
      · have h := if_F h hc5
        refine rz_B.ifT ((le32 (by decide) ha2).mpr (Int.not_lt.mp hc5)) ?_
        refine rz_B.go 3 (pc' := if decide (Int32.ofInt 9999 < Int32.ofInt a1) = true then 46 else 39) (L' := [some (.ref 91), some (vI a0), some (vI a1), some (vI a2)]) (S' := []) rfl ?_
        by_cases hc7 : a1 ≤ 9999
        · have h := if_T h hc7
          refine rz_B.ifF (mt (lt32 (by decide) ha1).mp (Int.not_lt.mpr hc7)) ?_
          refine rz_B.go 3 (pc' := if decide (Int32.ofInt a2 ≤ Int32.ofInt 99999) = true then 53 else 46) (L' := [some (.ref 91), some (vI a0), some (vI a1), some (vI a2)]) (S' := []) rfl ?_
          by_cases hc8 : 99999 < a2
          · have h := if_T h hc8
            refine rz_B.ifF (mt (le32 ha2 (by decide)).mp (Int.not_le.mpr hc8)) ?_
            refine rz_B.go 2 (pc' := 49) (L' := [some (.ref 91), some (vI a0), some (vI a1), some (vI a2)]) (S' := [vI (-6), .ref 91]) rfl ?_
            obtain ⟨r9, A9, hf9, h⟩ := rz_b_inv h
            obtain ⟨hg9, hr9, hw9⟩ := cx142_no F (d := d + 7) hf9 (by decide) hw1
            refine rz_B.call (d := d + 7) (as := [.ref 91, vI (-6)]) (rest := []) (w := some (vI r9)) rfl hg9 ?_
            cases h
            exact rz_B.ret rfl hr9 hw9
          · have h := if_F h hc8
            refine rz_B.ifT ((le32 ha2 (by decide)).mpr (Int.not_lt.mp hc8)) ?_
            refine rz_B.go 5 (pc' := 60) (L' := [some (.ref 91), some (vI a0), some (vI a1), some (vI a2)]) (S' := [vI (A1.1 91 0), vI a1, vI a0, .ref 91]) rfl ?_
            obtain ⟨_, A10, hf10, h⟩ := rz_b_inv h
            obtain ⟨hg10, hr10, hw10⟩ := cx181_makes F (d := d + 0) hf10 ha0 ha1 (hw1 91 0).1 hw1
            refine rz_B.call (d := d + 7) (as := [.ref 91, vI a0, vI a1, vI (A1.1 91 0)]) (rest := []) (w := none) rfl hg10 ?_
            refine rz_B.go 3 (pc' := if decide (¬ Int32.ofInt (A10.1 91 67) = Int32.ofInt 0) = true then 79 else 70) (L' := [some (.ref 91), some (vI a0), some (vI a1), some (vI a2)]) (S' := []) rfl ?_
            by_cases hc11 : (A10.1 91 67) = 0
            · have h := if_T h hc11
              refine rz_B.ifF (fun hn => hn ((eq32 (hw10 91 67).1 (by decide)).mpr hc11)) ?_
              refine rz_B.go 2 (pc' := 73) (L' := [some (.ref 91), some (vI a0), some (vI a1), some (vI a2)]) (S' := [vI (-5), .ref 91]) rfl ?_
              obtain ⟨r12, A12, hf12, h⟩ := rz_b_inv h
              obtain ⟨hg12, hr12, hw12⟩ := cx142_no F (d := d + 7) hf12 (by decide) hw10
              refine rz_B.call (d := d + 7) (as := [.ref 91, vI (-5)]) (rest := []) (w := some (vI r12)) rfl hg12 ?_
              refine rz_B.go 1 (pc' := 103) (L' := [some (.ref 91), some (vI a0), some (vI a1), some (vI a2)]) (S' := [vI r12]) rfl ?_
              cases h
              exact rz_B.ret rfl hr12 hw12
            · have h := if_F h hc11
              refine rz_B.ifT (mt (eq32 (hw10 91 67).1 (by decide)).mp hc11) ?_
              refine rz_B.go 11 (pc' := 98) (L' := [some (.ref 91), some (vI a0), some (vI a1), some (vI a2)]) (S' := [vI a0, .ref 93, vI (A10.1 91 67), vI 0, .ref 138, .ref 137, .ref 91]) rfl ?_
              obtain ⟨hi13, hj14, h⟩ := rz_gx_inv h
              refine rz_B.iald rfl rfl hi13 hj14 (by decide) ?_
              refine rz_B.go 1 (pc' := 100) (L' := [some (.ref 91), some (vI a0), some (vI a1), some (vI a2)]) (S' := [vI a2, vI (A10.1 93 (a0).toNat), vI (A10.1 91 67), vI 0, .ref 138, .ref 137, .ref 91]) rfl ?_
              obtain ⟨r15, A15, hf15, h⟩ := rz_b_inv h
              obtain ⟨hg15, hr15, hw15⟩ := cx185_along_p F (d := d + 7) hf15 (by decide) (hw10 91 67).1 (hw10 93 (a0).toNat).1 ha2 hw10
              refine rz_B.call (d := d + 7) (as := [.ref 91, .ref 137, .ref 138, vI 0, vI (A10.1 91 67), vI (A10.1 93 (a0).toNat), vI a2]) (rest := []) (w := some (vI r15)) rfl hg15 ?_
              cases h
              exact rz_B.ret rfl hr15 hw15
        · have h := if_F h hc7
          refine rz_B.ifT ((lt32 (by decide) ha1).mpr (Int.not_le.mp hc7)) ?_
          refine rz_B.go 2 (pc' := 49) (L' := [some (.ref 91), some (vI a0), some (vI a1), some (vI a2)]) (S' := [vI (-6), .ref 91]) rfl ?_
          obtain ⟨r16, A16, hf16, h⟩ := rz_b_inv h
          obtain ⟨hg16, hr16, hw16⟩ := cx142_no F (d := d + 7) hf16 (by decide) hw1
          refine rz_B.call (d := d + 7) (as := [.ref 91, vI (-6)]) (rest := []) (w := some (vI r16)) rfl hg16 ?_
          cases h
          exact rz_B.ret rfl hr16 hw16
    · have h := if_F h hc4
      refine rz_B.ifT ((lt32 ha1 (by decide)).mpr (Int.not_le.mp hc4)) ?_
      refine rz_B.go 2 (pc' := 28) (L' := [some (.ref 91), some (vI a0), some (vI a1), some (vI a2)]) (S' := [vI (-4), .ref 91]) rfl ?_
      obtain ⟨r17, A17, hf17, h⟩ := rz_b_inv h
      obtain ⟨hg17, hr17, hw17⟩ := cx142_no F (d := d + 7) hf17 (by decide) hw1
      refine rz_B.call (d := d + 7) (as := [.ref 91, vI (-4)]) (rest := []) (w := some (vI r17)) rfl hg17 ?_
      cases h
      exact rz_B.ret rfl hr17 hw17
/-- RiverGaugeModel.under(IIIII)I -/
def x186_under (F : Nat) (a0 : Int) (a1 : Int) (a2 : Int) (a3 : Int) (a4 : Int) (A : rz_A) : Option (Int × rz_A) :=
  rz_b (x145_isPost F a0 A) fun r1 A1 =>
  if r1 = 0 then
    rz_b (x142_no F (-1) A1) fun r3 A3 =>
    some (r3, A3)
  else
    if 0 ≤ a1 then
      if 1 < a1 then
        rz_b (x142_no F (-2) A1) fun r6 A6 =>
        some (r6, A6)
      else
        if 0 ≤ a2 then
          if a2 ≤ a3 then
            if a4 < 0 then
              rz_b (x142_no F (-4) A1) fun r10 A10 =>
              some (r10, A10)
            else
              if a2 ≤ 9999 then
                if a3 ≤ 9999 then
                  if a4 ≤ 99 then
                    if (A1.1 91 6) = 40 then
                      rz_b (x142_no F (-6) A1) fun r15 A15 =>
                      some (r15, A15)
                    else
                      rz_gx (A1.1 91 6) 40 <|
                      rz_g32 ((A1.1 91 11) + 1) <|
                      rz_g32 ((A1.1 91 6) + 1) <|
                      some (((A1.1 91 6) + 1), (aI (aI (aI (aI (aI (aI (aI (aI A1 116 ((A1.1 91 6)).toNat a0) 117 ((A1.1 91 6)).toNat a1) 118 ((A1.1 91 6)).toNat a2) 119 ((A1.1 91 6)).toNat a3) 120 ((A1.1 91 6)).toNat a4) 121 ((A1.1 91 6)).toNat (A1.1 91 0)) 91 11 ((A1.1 91 11) + 1)) 91 6 ((A1.1 91 6) + 1)))
                  else
                    rz_b (x142_no F (-6) A1) fun r28 A28 =>
                    some (r28, A28)
                else
                  rz_b (x142_no F (-6) A1) fun r29 A29 =>
                  some (r29, A29)
              else
                rz_b (x142_no F (-6) A1) fun r30 A30 =>
                some (r30, A30)
          else
            rz_b (x142_no F (-4) A1) fun r31 A31 =>
            some (r31, A31)
        else
          rz_b (x142_no F (-4) A1) fun r32 A32 =>
          some (r32, A32)
    else
      rz_b (x142_no F (-2) A1) fun r33 A33 =>
      some (r33, A33)
theorem cx186_under (F : Nat) {d : Nat} {a0 : Int} {a1 : Int} {a2 : Int} {a3 : Int} {a4 : Int} {A : rz_A} {r : Int} {A' : rz_A} (h : x186_under F a0 a1 a2 a3 a4 A = some (r, A')) (ha0 : r32 a0) (ha1 : r32 a1) (ha2 : r32 a2) (ha3 : r32 a3) (ha4 : r32 a4) (hw : wf A) : rg_Rn (d + 1) 186 [.ref 91, vI a0, vI a1, vI a2, vI a3, vI a4] (toM A) (some (vI r)) (toM A') ∧ (r32 r) ∧ wf A' := by
  show rz_B (d + 1) 186 0 [some (.ref 91), some (vI a0), some (vI a1), some (vI a2), some (vI a3), some (vI a4)] [] A (some (vI r)) A' (r32 r)
  unfold x186_under at h
  refine rz_B.go 2 (pc' := 2) (L' := [some (.ref 91), some (vI a0), some (vI a1), some (vI a2), some (vI a3), some (vI a4)]) (S' := [vI a0, .ref 91]) rfl ?_
  obtain ⟨r1, A1, hf1, h⟩ := rz_b_inv h
  obtain ⟨hg1, hr1, hw1⟩ := cx145_isPost F (d := d + 0) hf1 ha0 hw
  refine rz_B.call (d := d + 0) (as := [.ref 91, vI a0]) (rest := []) (w := some (vI r1)) rfl hg1 ?_
  refine rz_B.go 1 (pc' := if decide (¬ Int32.ofInt r1 = Int32.ofInt 0) = true then 14 else 8) (L' := [some (.ref 91), some (vI a0), some (vI a1), some (vI a2), some (vI a3), some (vI a4)]) (S' := []) rfl ?_
  by_cases hc2 : r1 = 0
  · have h := if_T h hc2
    refine rz_B.ifF (fun hn => hn ((eq32 hr1 (by decide)).mpr hc2)) ?_
    refine rz_B.go 2 (pc' := 10) (L' := [some (.ref 91), some (vI a0), some (vI a1), some (vI a2), some (vI a3), some (vI a4)]) (S' := [vI (-1), .ref 91]) rfl ?_
    obtain ⟨r3, A3, hf3, h⟩ := rz_b_inv h
    obtain ⟨hg3, hr3, hw3⟩ := cx142_no F (d := d + 0) hf3 (by decide) hw1
    refine rz_B.call (d := d + 0) (as := [.ref 91, vI (-1)]) (rest := []) (w := some (vI r3)) rfl hg3 ?_
    cases h
    exact rz_B.ret rfl hr3 hw3
  · have h := if_F h hc2
    refine rz_B.ifT (mt (eq32 hr1 (by decide)).mp hc2) ?_
    refine rz_B.go 2 (pc' := if decide (Int32.ofInt a1 < Int32.ofInt 0) = true then 23 else 18) (L' := [some (.ref 91), some (vI a0), some (vI a1), some (vI a2), some (vI a3), some (vI a4)]) (S' := []) rfl ?_
    by_cases hc4 : 0 ≤ a1
    · have h := if_T h hc4
      refine rz_B.ifF (mt (lt32 ha1 (by decide)).mp (Int.not_lt.mpr hc4)) ?_
      refine rz_B.go 3 (pc' := if decide (Int32.ofInt a1 ≤ Int32.ofInt 1) = true then 30 else 23) (L' := [some (.ref 91), some (vI a0), some (vI a1), some (vI a2), some (vI a3), some (vI a4)]) (S' := []) rfl ?_
      by_cases hc5 : 1 < a1
      · have h := if_T h hc5
        refine rz_B.ifF (mt (le32 ha1 (by decide)).mp (Int.not_le.mpr hc5)) ?_
        refine rz_B.go 2 (pc' := 26) (L' := [some (.ref 91), some (vI a0), some (vI a1), some (vI a2), some (vI a3), some (vI a4)]) (S' := [vI (-2), .ref 91]) rfl ?_
        obtain ⟨r6, A6, hf6, h⟩ := rz_b_inv h
        obtain ⟨hg6, hr6, hw6⟩ := cx142_no F (d := d + 0) hf6 (by decide) hw1
        refine rz_B.call (d := d + 0) (as := [.ref 91, vI (-2)]) (rest := []) (w := some (vI r6)) rfl hg6 ?_
        cases h
        exact rz_B.ret rfl hr6 hw6
      · have h := if_F h hc5
        refine rz_B.ifT ((le32 ha1 (by decide)).mpr (Int.not_lt.mp hc5)) ?_
        refine rz_B.go 2 (pc' := if decide (Int32.ofInt a2 < Int32.ofInt 0) = true then 45 else 34) (L' := [some (.ref 91), some (vI a0), some (vI a1), some (vI a2), some (vI a3), some (vI a4)]) (S' := []) rfl ?_
        by_cases hc7 : 0 ≤ a2
        · have h := if_T h hc7
          refine rz_B.ifF (mt (lt32 ha2 (by decide)).mp (Int.not_lt.mpr hc7)) ?_
          refine rz_B.go 3 (pc' := if decide (Int32.ofInt a3 < Int32.ofInt a2) = true then 45 else 40) (L' := [some (.ref 91), some (vI a0), some (vI a1), some (vI a2), some (vI a3), some (vI a4)]) (S' := []) rfl ?_
          by_cases hc8 : a2 ≤ a3
          · have h := if_T h hc8
            refine rz_B.ifF (mt (lt32 ha3 ha2).mp (Int.not_lt.mpr hc8)) ?_
            refine rz_B.go 2 (pc' := if decide (Int32.ofInt 0 ≤ Int32.ofInt a4) = true then 52 else 45) (L' := [some (.ref 91), some (vI a0), some (vI a1), some (vI a2), some (vI a3), some (vI a4)]) (S' := []) rfl ?_
            by_cases hc9 : a4 < 0
            · have h := if_T h hc9
              refine rz_B.ifF (mt (le32 (by decide) ha4).mp (Int.not_le.mpr hc9)) ?_
              refine rz_B.go 2 (pc' := 48) (L' := [some (.ref 91), some (vI a0), some (vI a1), some (vI a2), some (vI a3), some (vI a4)]) (S' := [vI (-4), .ref 91]) rfl ?_
              obtain ⟨r10, A10, hf10, h⟩ := rz_b_inv h
              obtain ⟨hg10, hr10, hw10⟩ := cx142_no F (d := d + 0) hf10 (by decide) hw1
              refine rz_B.call (d := d + 0) (as := [.ref 91, vI (-4)]) (rest := []) (w := some (vI r10)) rfl hg10 ?_
              cases h
              exact rz_B.ret rfl hr10 hw10
            · have h := if_F h hc9
              refine rz_B.ifT ((le32 (by decide) ha4).mpr (Int.not_lt.mp hc9)) ?_
              refine rz_B.go 3 (pc' := if decide (Int32.ofInt 9999 < Int32.ofInt a2) = true then 83 else 59) (L' := [some (.ref 91), some (vI a0), some (vI a1), some (vI a2), some (vI a3), some (vI a4)]) (S' := []) rfl ?_
              by_cases hc11 : a2 ≤ 9999
              · have h := if_T h hc11
                refine rz_B.ifF (mt (lt32 (by decide) ha2).mp (Int.not_lt.mpr hc11)) ?_
                refine rz_B.go 3 (pc' := if decide (Int32.ofInt 9999 < Int32.ofInt a3) = true then 83 else 67) (L' := [some (.ref 91), some (vI a0), some (vI a1), some (vI a2), some (vI a3), some (vI a4)]) (S' := []) rfl ?_
                by_cases hc12 : a3 ≤ 9999
                · have h := if_T h hc12
                  refine rz_B.ifF (mt (lt32 (by decide) ha3).mp (Int.not_lt.mpr hc12)) ?_
                  refine rz_B.go 3 (pc' := if decide (Int32.ofInt 99 < Int32.ofInt a4) = true then 83 else 74) (L' := [some (.ref 91), some (vI a0), some (vI a1), some (vI a2), some (vI a3), some (vI a4)]) (S' := []) rfl ?_
                  by_cases hc13 : a4 ≤ 99
                  · have h := if_T h hc13
                    refine rz_B.ifF (mt (lt32 (by decide) ha4).mp (Int.not_lt.mpr hc13)) ?_
                    refine rz_B.go 4 (pc' := if decide (¬ Int32.ofInt (A1.1 91 6) = Int32.ofInt 40) = true then 90 else 83) (L' := [some (.ref 91), some (vI a0), some (vI a1), some (vI a2), some (vI a3), some (vI a4)]) (S' := []) rfl ?_
                    by_cases hc14 : (A1.1 91 6) = 40
                    · have h := if_T h hc14
                      refine rz_B.ifF (fun hn => hn ((eq32 (hw1 91 6).1 (by decide)).mpr hc14)) ?_
                      refine rz_B.go 2 (pc' := 86) (L' := [some (.ref 91), some (vI a0), some (vI a1), some (vI a2), some (vI a3), some (vI a4)]) (S' := [vI (-6), .ref 91]) rfl ?_
                      obtain ⟨r15, A15, hf15, h⟩ := rz_b_inv h
                      obtain ⟨hg15, hr15, hw15⟩ := cx142_no F (d := d + 0) hf15 (by decide) hw1
                      refine rz_B.call (d := d + 0) (as := [.ref 91, vI (-6)]) (rest := []) (w := some (vI r15)) rfl hg15 ?_
                      cases h
                      exact rz_B.ret rfl hr15 hw15
                    · have h := if_F h hc14
                      refine rz_B.ifT (mt (eq32 (hw1 91 6).1 (by decide)).mp hc14) ?_
                      refine rz_B.go 5 (pc' := 99) (L' := [some (.ref 91), some (vI a0), some (vI a1), some (vI a2), some (vI a3), some (vI a4)]) (S' := [vI a0, vI (A1.1 91 6), .ref 116]) rfl ?_
                      obtain ⟨hi16, hj17, h⟩ := rz_gx_inv h
                      refine rz_B.iast rfl rfl hi16 hj17 (by decide) ?_
                      have hw18 : wf (aI A1 116 ((A1.1 91 6)).toNat a0) := wf_aI hw1 ha0
                      refine rz_B.go 5 (pc' := 109) (L' := [some (.ref 91), some (vI a0), some (vI a1), some (vI a2), some (vI a3), some (vI a4)]) (S' := [vI a1, vI (A1.1 91 6), .ref 117]) rfl ?_
                      refine rz_B.iast rfl rfl hi16 hj17 (by decide) ?_
                      have hw19 : wf (aI (aI A1 116 ((A1.1 91 6)).toNat a0) 117 ((A1.1 91 6)).toNat a1) := wf_aI hw18 ha1
                      refine rz_B.go 5 (pc' := 119) (L' := [some (.ref 91), some (vI a0), some (vI a1), some (vI a2), some (vI a3), some (vI a4)]) (S' := [vI a2, vI (A1.1 91 6), .ref 118]) rfl ?_
                      refine rz_B.iast rfl rfl hi16 hj17 (by decide) ?_
                      have hw20 : wf (aI (aI (aI A1 116 ((A1.1 91 6)).toNat a0) 117 ((A1.1 91 6)).toNat a1) 118 ((A1.1 91 6)).toNat a2) := wf_aI hw19 ha2
                      refine rz_B.go 5 (pc' := 130) (L' := [some (.ref 91), some (vI a0), some (vI a1), some (vI a2), some (vI a3), some (vI a4)]) (S' := [vI a3, vI (A1.1 91 6), .ref 119]) rfl ?_
                      refine rz_B.iast rfl rfl hi16 hj17 (by decide) ?_
                      have hw21 : wf (aI (aI (aI (aI A1 116 ((A1.1 91 6)).toNat a0) 117 ((A1.1 91 6)).toNat a1) 118 ((A1.1 91 6)).toNat a2) 119 ((A1.1 91 6)).toNat a3) := wf_aI hw20 ha3
                      refine rz_B.go 5 (pc' := 141) (L' := [some (.ref 91), some (vI a0), some (vI a1), some (vI a2), some (vI a3), some (vI a4)]) (S' := [vI a4, vI (A1.1 91 6), .ref 120]) rfl ?_
                      refine rz_B.iast rfl rfl hi16 hj17 (by decide) ?_
                      have hw22 : wf (aI (aI (aI (aI (aI A1 116 ((A1.1 91 6)).toNat a0) 117 ((A1.1 91 6)).toNat a1) 118 ((A1.1 91 6)).toNat a2) 119 ((A1.1 91 6)).toNat a3) 120 ((A1.1 91 6)).toNat a4) := wf_aI hw21 ha4
                      refine rz_B.go 6 (pc' := 154) (L' := [some (.ref 91), some (vI a0), some (vI a1), some (vI a2), some (vI a3), some (vI a4)]) (S' := [vI (A1.1 91 0), vI (A1.1 91 6), .ref 121]) rfl ?_
                      refine rz_B.iast rfl rfl hi16 hj17 (by decide) ?_
                      have hw23 : wf (aI (aI (aI (aI (aI (aI A1 116 ((A1.1 91 6)).toNat a0) 117 ((A1.1 91 6)).toNat a1) 118 ((A1.1 91 6)).toNat a2) 119 ((A1.1 91 6)).toNat a3) 120 ((A1.1 91 6)).toNat a4) 121 ((A1.1 91 6)).toNat (A1.1 91 0)) := wf_aI hw22 (hw1 91 0).1
                      refine rz_B.go 4 (pc' := 161) (L' := [some (.ref 91), some (vI a0), some (vI a1), some (vI a2), some (vI a3), some (vI a4)]) (S' := [vI 1, vI (A1.1 91 11), .ref 91]) rfl ?_
                      obtain ⟨hk24, h⟩ := rz_g32_inv h
                      refine rz_B.iadd rfl ?_
                      refine rz_B.put 1 (pc' := 165) (L' := [some (.ref 91), some (vI a0), some (vI a1), some (vI a2), some (vI a3), some (vI a4)]) (S' := []) (c := 91) (k := 11) (x := ((A1.1 91 11) + 1)) rfl ?_
                      have hw25 : wf (aI (aI (aI (aI (aI (aI (aI A1 116 ((A1.1 91 6)).toNat a0) 117 ((A1.1 91 6)).toNat a1) 118 ((A1.1 91 6)).toNat a2) 119 ((A1.1 91 6)).toNat a3) 120 ((A1.1 91 6)).toNat a4) 121 ((A1.1 91 6)).toNat (A1.1 91 0)) 91 11 ((A1.1 91 11) + 1)) := wf_aI hw23 hk24
                      refine rz_B.go 4 (pc' := 171) (L' := [some (.ref 91), some (vI a0), some (vI a1), some (vI a2), some (vI a3), some (vI a4)]) (S' := [vI 1, vI (A1.1 91 6), .ref 91]) rfl ?_
                      obtain ⟨hk26, h⟩ := rz_g32_inv h
                      refine rz_B.iadd rfl ?_
                      refine rz_B.put 2 (pc' := 176) (L' := [some (.ref 91), some (vI a0), some (vI a1), some (vI a2), some (vI a3), some (vI a4)]) (S' := [vI ((A1.1 91 6) + 1)]) (c := 91) (k := 6) (x := ((A1.1 91 6) + 1)) rfl ?_
                      have hw27 : wf (aI (aI (aI (aI (aI (aI (aI (aI A1 116 ((A1.1 91 6)).toNat a0) 117 ((A1.1 91 6)).toNat a1) 118 ((A1.1 91 6)).toNat a2) 119 ((A1.1 91 6)).toNat a3) 120 ((A1.1 91 6)).toNat a4) 121 ((A1.1 91 6)).toNat (A1.1 91 0)) 91 11 ((A1.1 91 11) + 1)) 91 6 ((A1.1 91 6) + 1)) := wf_aI hw25 hk26
                      cases h
                      exact rz_B.ret rfl hk26 hw27
                  · have h := if_F h hc13
                    refine rz_B.ifT ((lt32 (by decide) ha4).mpr (Int.not_le.mp hc13)) ?_
                    refine rz_B.go 2 (pc' := 86) (L' := [some (.ref 91), some (vI a0), some (vI a1), some (vI a2), some (vI a3), some (vI a4)]) (S' := [vI (-6), .ref 91]) rfl ?_
                    obtain ⟨r28, A28, hf28, h⟩ := rz_b_inv h
                    obtain ⟨hg28, hr28, hw28⟩ := cx142_no F (d := d + 0) hf28 (by decide) hw1
                    refine rz_B.call (d := d + 0) (as := [.ref 91, vI (-6)]) (rest := []) (w := some (vI r28)) rfl hg28 ?_
                    cases h
                    exact rz_B.ret rfl hr28 hw28
                · have h := if_F h hc12
                  refine rz_B.ifT ((lt32 (by decide) ha3).mpr (Int.not_le.mp hc12)) ?_
                  refine rz_B.go 2 (pc' := 86) (L' := [some (.ref 91), some (vI a0), some (vI a1), some (vI a2), some (vI a3), some (vI a4)]) (S' := [vI (-6), .ref 91]) rfl ?_
                  obtain ⟨r29, A29, hf29, h⟩ := rz_b_inv h
                  obtain ⟨hg29, hr29, hw29⟩ := cx142_no F (d := d + 0) hf29 (by decide) hw1
                  refine rz_B.call (d := d + 0) (as := [.ref 91, vI (-6)]) (rest := []) (w := some (vI r29)) rfl hg29 ?_
                  cases h
                  exact rz_B.ret rfl hr29 hw29
              · have h := if_F h hc11
                refine rz_B.ifT ((lt32 (by decide) ha2).mpr (Int.not_le.mp hc11)) ?_
                refine rz_B.go 2 (pc' := 86) (L' := [some (.ref 91), some (vI a0), some (vI a1), some (vI a2), some (vI a3), some (vI a4)]) (S' := [vI (-6), .ref 91]) rfl ?_
                obtain ⟨r30, A30, hf30, h⟩ := rz_b_inv h
                obtain ⟨hg30, hr30, hw30⟩ := cx142_no F (d := d + 0) hf30 (by decide) hw1
                refine rz_B.call (d := d + 0) (as := [.ref 91, vI (-6)]) (rest := []) (w := some (vI r30)) rfl hg30 ?_
                cases h
                exact rz_B.ret rfl hr30 hw30
          · have h := if_F h hc8
            refine rz_B.ifT ((lt32 ha3 ha2).mpr (Int.not_le.mp hc8)) ?_
            refine rz_B.go 2 (pc' := 48) (L' := [some (.ref 91), some (vI a0), some (vI a1), some (vI a2), some (vI a3), some (vI a4)]) (S' := [vI (-4), .ref 91]) rfl ?_
            obtain ⟨r31, A31, hf31, h⟩ := rz_b_inv h
            obtain ⟨hg31, hr31, hw31⟩ := cx142_no F (d := d + 0) hf31 (by decide) hw1
            refine rz_B.call (d := d + 0) (as := [.ref 91, vI (-4)]) (rest := []) (w := some (vI r31)) rfl hg31 ?_
            cases h
            exact rz_B.ret rfl hr31 hw31
        · have h := if_F h hc7
          refine rz_B.ifT ((lt32 ha2 (by decide)).mpr (Int.not_le.mp hc7)) ?_
          refine rz_B.go 2 (pc' := 48) (L' := [some (.ref 91), some (vI a0), some (vI a1), some (vI a2), some (vI a3), some (vI a4)]) (S' := [vI (-4), .ref 91]) rfl ?_
          obtain ⟨r32, A32, hf32, h⟩ := rz_b_inv h
          obtain ⟨hg32, hr32, hw32⟩ := cx142_no F (d := d + 0) hf32 (by decide) hw1
          refine rz_B.call (d := d + 0) (as := [.ref 91, vI (-4)]) (rest := []) (w := some (vI r32)) rfl hg32 ?_
          cases h
          exact rz_B.ret rfl hr32 hw32
    · have h := if_F h hc4
      refine rz_B.ifT ((lt32 ha1 (by decide)).mpr (Int.not_le.mp hc4)) ?_
      refine rz_B.go 2 (pc' := 26) (L' := [some (.ref 91), some (vI a0), some (vI a1), some (vI a2), some (vI a3), some (vI a4)]) (S' := [vI (-2), .ref 91]) rfl ?_
      obtain ⟨r33, A33, hf33, h⟩ := rz_b_inv h
      obtain ⟨hg33, hr33, hw33⟩ := cx142_no F (d := d + 0) hf33 (by decide) hw1
      refine rz_B.call (d := d + 0) (as := [.ref 91, vI (-2)]) (rest := []) (w := some (vI r33)) rfl hg33 ?_
      cases h
      exact rz_B.ret rfl hr33 hw33
def x189_hundredths_6 (F : Nat) : Nat → Int → Int → Int → Int → Int → Int → rz_A → Option (Int × rz_A)
  | 0, _, _, _, _, _, _, _ => none
  | n + 1, v1, v2, v3, v4, v5, v6, A =>
    if v6 < (A.1 91 6) then
      rz_gx v6 40 <|
      if (A.1 116 (v6).toNat) = v1 then
        if (A.1 117 (v6).toNat) = v2 then
          if (A.1 121 (v6).toNat) ≤ v4 then
            if (A.1 118 (v6).toNat) ≤ v3 then
              if (A.1 119 (v6).toNat) < v3 then
                rz_g32 (v6 + 1) <|
                x189_hundredths_6 F n v1 v2 v3 v4 v5 (v6 + 1) A
              else
                if v2 = 0 then
                  if v5 < (A.1 120 (v6).toNat) then
                    rz_g32 (v6 + 1) <|
                    x189_hundredths_6 F n v1 v2 v3 v4 (A.1 120 (v6).toNat) (v6 + 1) (aI A 91 77 1)
                  else
                    rz_g32 (v6 + 1) <|
                    x189_hundredths_6 F n v1 v2 v3 v4 v5 (v6 + 1) (aI A 91 77 1)
                else
                  if (A.1 118 (v6).toNat) = (A.1 119 (v6).toNat) then
                    if v5 < (A.1 120 (v6).toNat) then
                      rz_g32 (v6 + 1) <|
                      x189_hundredths_6 F n v1 v2 v3 v4 (A.1 120 (v6).toNat) (v6 + 1) (aI A 91 77 1)
                    else
                      rz_g32 (v6 + 1) <|
                      x189_hundredths_6 F n v1 v2 v3 v4 v5 (v6 + 1) (aI A 91 77 1)
                  else
                    rz_g32 (v3 - (A.1 118 (v6).toNat)) <|
                    rz_g32 ((A.1 120 (v6).toNat) * (v3 - (A.1 118 (v6).toNat))) <|
                    rz_g32 ((A.1 119 (v6).toNat) - (A.1 118 (v6).toNat)) <|
                    rz_gn ((A.1 119 (v6).toNat) - (A.1 118 (v6).toNat)) <|
                    rz_g32 (((A.1 120 (v6).toNat) * (v3 - (A.1 118 (v6).toNat))).tdiv ((A.1 119 (v6).toNat) - (A.1 118 (v6).toNat))) <|
                    if v5 < (((A.1 120 (v6).toNat) * (v3 - (A.1 118 (v6).toNat))).tdiv ((A.1 119 (v6).toNat) - (A.1 118 (v6).toNat))) then
                      rz_g32 (v6 + 1) <|
                      x189_hundredths_6 F n v1 v2 v3 v4 (((A.1 120 (v6).toNat) * (v3 - (A.1 118 (v6).toNat))).tdiv ((A.1 119 (v6).toNat) - (A.1 118 (v6).toNat))) (v6 + 1) (aI A 91 77 1)
                    else
                      rz_g32 (v6 + 1) <|
                      x189_hundredths_6 F n v1 v2 v3 v4 v5 (v6 + 1) (aI A 91 77 1)
            else
              rz_g32 (v6 + 1) <|
              x189_hundredths_6 F n v1 v2 v3 v4 v5 (v6 + 1) A
          else
            rz_g32 (v6 + 1) <|
            x189_hundredths_6 F n v1 v2 v3 v4 v5 (v6 + 1) A
        else
          rz_g32 (v6 + 1) <|
          x189_hundredths_6 F n v1 v2 v3 v4 v5 (v6 + 1) A
      else
        rz_g32 (v6 + 1) <|
        x189_hundredths_6 F n v1 v2 v3 v4 v5 (v6 + 1) A
    else
      some (v5, A)
theorem cx189_hundredths_6 {d : Nat} (F : Nat) : ∀ (n : Nat) (v1 : Int) (v2 : Int) (v3 : Int) (v4 : Int) (v5 : Int) (v6 : Int) (A : rz_A) (r : Int) (A' : rz_A), x189_hundredths_6 F n v1 v2 v3 v4 v5 v6 A = some (r, A') → r32 v1 → r32 v2 → r32 v3 → r32 v4 → r32 v5 → r32 v6 → wf A → rz_B (d + 0) 189 6 [some (.ref 91), some (vI v1), some (vI v2), some (vI v3), some (vI v4), some (vI v5), some (vI v6), none] [] A (some (vI r)) A' (r32 r) := by
  intro n
  induction n with
  | zero => intro v1 v2 v3 v4 v5 v6 A r A' h; cases h
  | succ n ih =>
    intro v1 v2 v3 v4 v5 v6 A r A' h hv1 hv2 hv3 hv4 hv5 hv6 hw
    rw [x189_hundredths_6] at h
    refine rz_B.go 4 (pc' := if decide (Int32.ofInt (A.1 91 6) ≤ Int32.ofInt v6) = true then 162 else 15) (L' := [some (.ref 91), some (vI v1), some (vI v2), some (vI v3), some (vI v4), some (vI v5), some (vI v6), none]) (S' := []) rfl ?_
    by_cases hc1 : v6 < (A.1 91 6)
    · have h := if_T h hc1
      refine rz_B.ifF (mt (le32 (hw 91 6).1 hv6).mp (Int.not_le.mpr hc1)) ?_
      refine rz_B.go 3 (pc' := 21) (L' := [some (.ref 91), some (vI v1), some (vI v2), some (vI v3), some (vI v4), some (vI v5), some (vI v6), none]) (S' := [vI v6, .ref 116]) rfl ?_
      obtain ⟨hi2, hj3, h⟩ := rz_gx_inv h
      refine rz_B.iald rfl rfl hi2 hj3 (by decide) ?_
      refine rz_B.go 2 (pc' := if decide (¬ Int32.ofInt (A.1 116 (v6).toNat) = Int32.ofInt v1) = true then 156 else 26) (L' := [some (.ref 91), some (vI v1), some (vI v2), some (vI v3), some (vI v4), some (vI v5), some (vI v6), none]) (S' := []) rfl ?_
      by_cases hc4 : (A.1 116 (v6).toNat) = v1
      · have h := if_T h hc4
        refine rz_B.ifF (fun hn => hn ((eq32 (hw 116 (v6).toNat).1 hv1).mpr hc4)) ?_
        refine rz_B.go 3 (pc' := 32) (L' := [some (.ref 91), some (vI v1), some (vI v2), some (vI v3), some (vI v4), some (vI v5), some (vI v6), none]) (S' := [vI v6, .ref 117]) rfl ?_
        refine rz_B.iald rfl rfl hi2 hj3 (by decide) ?_
        refine rz_B.go 2 (pc' := if decide (¬ Int32.ofInt (A.1 117 (v6).toNat) = Int32.ofInt v2) = true then 156 else 37) (L' := [some (.ref 91), some (vI v1), some (vI v2), some (vI v3), some (vI v4), some (vI v5), some (vI v6), none]) (S' := []) rfl ?_
        by_cases hc5 : (A.1 117 (v6).toNat) = v2
        · have h := if_T h hc5
          refine rz_B.ifF (fun hn => hn ((eq32 (hw 117 (v6).toNat).1 hv2).mpr hc5)) ?_
          refine rz_B.go 3 (pc' := 43) (L' := [some (.ref 91), some (vI v1), some (vI v2), some (vI v3), some (vI v4), some (vI v5), some (vI v6), none]) (S' := [vI v6, .ref 121]) rfl ?_
          refine rz_B.iald rfl rfl hi2 hj3 (by decide) ?_
          refine rz_B.go 2 (pc' := if decide (Int32.ofInt v4 < Int32.ofInt (A.1 121 (v6).toNat)) = true then 156 else 49) (L' := [some (.ref 91), some (vI v1), some (vI v2), some (vI v3), some (vI v4), some (vI v5), some (vI v6), none]) (S' := []) rfl ?_
          by_cases hc6 : (A.1 121 (v6).toNat) ≤ v4
          · have h := if_T h hc6
            refine rz_B.ifF (mt (lt32 hv4 (hw 121 (v6).toNat).1).mp (Int.not_lt.mpr hc6)) ?_
            refine rz_B.go 4 (pc' := 56) (L' := [some (.ref 91), some (vI v1), some (vI v2), some (vI v3), some (vI v4), some (vI v5), some (vI v6), none]) (S' := [vI v6, .ref 118, vI v3]) rfl ?_
            refine rz_B.iald rfl rfl hi2 hj3 (by decide) ?_
            refine rz_B.go 1 (pc' := if decide (Int32.ofInt v3 < Int32.ofInt (A.1 118 (v6).toNat)) = true then 156 else 60) (L' := [some (.ref 91), some (vI v1), some (vI v2), some (vI v3), some (vI v4), some (vI v5), some (vI v6), none]) (S' := []) rfl ?_
            by_cases hc7 : (A.1 118 (v6).toNat) ≤ v3
            · have h := if_T h hc7
              refine rz_B.ifF (mt (lt32 hv3 (hw 118 (v6).toNat).1).mp (Int.not_lt.mpr hc7)) ?_
              refine rz_B.go 4 (pc' := 67) (L' := [some (.ref 91), some (vI v1), some (vI v2), some (vI v3), some (vI v4), some (vI v5), some (vI v6), none]) (S' := [vI v6, .ref 119, vI v3]) rfl ?_
              refine rz_B.iald rfl rfl hi2 hj3 (by decide) ?_
              refine rz_B.go 1 (pc' := if decide (Int32.ofInt v3 ≤ Int32.ofInt (A.1 119 (v6).toNat)) = true then 74 else 71) (L' := [some (.ref 91), some (vI v1), some (vI v2), some (vI v3), some (vI v4), some (vI v5), some (vI v6), none]) (S' := []) rfl ?_
              by_cases hc8 : (A.1 119 (v6).toNat) < v3
              · have h := if_T h hc8
                refine rz_B.ifF (mt (le32 hv3 (hw 119 (v6).toNat).1).mp (Int.not_le.mpr hc8)) ?_
                refine rz_B.go 1 (pc' := 156) (L' := [some (.ref 91), some (vI v1), some (vI v2), some (vI v3), some (vI v4), some (vI v5), some (vI v6), none]) (S' := []) rfl ?_
                obtain ⟨hk9, h⟩ := rz_g32_inv h
                refine rz_B.iinc rfl (by decide) rfl (L' := [some (.ref 91), some (vI v1), some (vI v2), some (vI v3), some (vI v4), some (vI v5), some (vI (v6 + 1)), none]) rfl ?_
                refine rz_B.go 1 (pc' := 6) (L' := [some (.ref 91), some (vI v1), some (vI v2), some (vI v3), some (vI v4), some (vI v5), some (vI (v6 + 1)), none]) (S' := []) rfl ?_
                refine rz_B.more (rg_le_ok (L := [some (.ref 91), some (vI v1), some (vI v2), some (vI v3), some (vI v4), some (vI v5), some (vI (v6 + 1)), none]) (by simp [rg_le])) ?_
                exact ih _ _ _ _ _ _ _ _ _ h hv1 hv2 hv3 hv4 hv5 hk9 hw
              · have h := if_F h hc8
                refine rz_B.ifT ((le32 hv3 (hw 119 (v6).toNat).1).mpr (Int.not_lt.mp hc8)) ?_
                refine rz_B.put 3 (pc' := 79) (L' := [some (.ref 91), some (vI v1), some (vI v2), some (vI v3), some (vI v4), some (vI v5), some (vI v6), none]) (S' := []) (c := 91) (k := 77) (x := 1) rfl ?_
                have hw10 : wf (aI A 91 77 1) := wf_aI hw (by decide)
                refine rz_B.go 2 (pc' := if decide (Int32.ofInt v2 = Int32.ofInt 0) = true then 100 else 83) (L' := [some (.ref 91), some (vI v1), some (vI v2), some (vI v3), some (vI v4), some (vI v5), some (vI v6), none]) (S' := []) rfl ?_
                by_cases hc11 : v2 = 0
                · have h := if_T h hc11
                  refine rz_B.ifT ((eq32 hv2 (by decide)).mpr hc11) ?_
                  refine rz_B.go 3 (pc' := 106) (L' := [some (.ref 91), some (vI v1), some (vI v2), some (vI v3), some (vI v4), some (vI v5), some (vI v6), none]) (S' := [vI v6, .ref 120]) rfl ?_
                  refine rz_B.iald rfl rfl hi2 hj3 (by decide) ?_
                  refine rz_B.go 5 (pc' := if decide (Int32.ofInt (A.1 120 (v6).toNat) ≤ Int32.ofInt v5) = true then 156 else 152) (L' := [some (.ref 91), some (vI v1), some (vI v2), some (vI v3), some (vI v4), some (vI v5), some (vI v6), some (vI (A.1 120 (v6).toNat))]) (S' := []) rfl ?_
                  by_cases hc12 : v5 < (A.1 120 (v6).toNat)
                  · have h := if_T h hc12
                    refine rz_B.ifF (mt (le32 (hw 120 (v6).toNat).1 hv5).mp (Int.not_le.mpr hc12)) ?_
                    refine rz_B.go 2 (pc' := 156) (L' := [some (.ref 91), some (vI v1), some (vI v2), some (vI v3), some (vI v4), some (vI (A.1 120 (v6).toNat)), some (vI v6), some (vI (A.1 120 (v6).toNat))]) (S' := []) rfl ?_
                    obtain ⟨hk13, h⟩ := rz_g32_inv h
                    refine rz_B.iinc rfl (by decide) rfl (L' := [some (.ref 91), some (vI v1), some (vI v2), some (vI v3), some (vI v4), some (vI (A.1 120 (v6).toNat)), some (vI (v6 + 1)), some (vI (A.1 120 (v6).toNat))]) rfl ?_
                    refine rz_B.go 1 (pc' := 6) (L' := [some (.ref 91), some (vI v1), some (vI v2), some (vI v3), some (vI v4), some (vI (A.1 120 (v6).toNat)), some (vI (v6 + 1)), some (vI (A.1 120 (v6).toNat))]) (S' := []) rfl ?_
                    refine rz_B.more (rg_le_ok (L := [some (.ref 91), some (vI v1), some (vI v2), some (vI v3), some (vI v4), some (vI (A.1 120 (v6).toNat)), some (vI (v6 + 1)), none]) (by simp [rg_le])) ?_
                    exact ih _ _ _ _ _ _ _ _ _ h hv1 hv2 hv3 hv4 (hw 120 (v6).toNat).1 hk13 hw10
                  · have h := if_F h hc12
                    refine rz_B.ifT ((le32 (hw 120 (v6).toNat).1 hv5).mpr (Int.not_lt.mp hc12)) ?_
                    obtain ⟨hk14, h⟩ := rz_g32_inv h
                    refine rz_B.iinc rfl (by decide) rfl (L' := [some (.ref 91), some (vI v1), some (vI v2), some (vI v3), some (vI v4), some (vI v5), some (vI (v6 + 1)), some (vI (A.1 120 (v6).toNat))]) rfl ?_
                    refine rz_B.go 1 (pc' := 6) (L' := [some (.ref 91), some (vI v1), some (vI v2), some (vI v3), some (vI v4), some (vI v5), some (vI (v6 + 1)), some (vI (A.1 120 (v6).toNat))]) (S' := []) rfl ?_
                    refine rz_B.more (rg_le_ok (L := [some (.ref 91), some (vI v1), some (vI v2), some (vI v3), some (vI v4), some (vI v5), some (vI (v6 + 1)), none]) (by simp [rg_le])) ?_
                    exact ih _ _ _ _ _ _ _ _ _ h hv1 hv2 hv3 hv4 hv5 hk14 hw10
                · have h := if_F h hc11
                  refine rz_B.ifF (mt (eq32 hv2 (by decide)).mp hc11) ?_
                  refine rz_B.go 3 (pc' := 89) (L' := [some (.ref 91), some (vI v1), some (vI v2), some (vI v3), some (vI v4), some (vI v5), some (vI v6), none]) (S' := [vI v6, .ref 118]) rfl ?_
                  refine rz_B.iald rfl rfl hi2 hj3 (by decide) ?_
                  refine rz_B.go 3 (pc' := 96) (L' := [some (.ref 91), some (vI v1), some (vI v2), some (vI v3), some (vI v4), some (vI v5), some (vI v6), none]) (S' := [vI v6, .ref 119, vI (A.1 118 (v6).toNat)]) rfl ?_
                  refine rz_B.iald rfl rfl hi2 hj3 (by decide) ?_
                  refine rz_B.go 1 (pc' := if decide (¬ Int32.ofInt (A.1 118 (v6).toNat) = Int32.ofInt (A.1 119 (v6).toNat)) = true then 110 else 100) (L' := [some (.ref 91), some (vI v1), some (vI v2), some (vI v3), some (vI v4), some (vI v5), some (vI v6), none]) (S' := []) rfl ?_
                  by_cases hc15 : (A.1 118 (v6).toNat) = (A.1 119 (v6).toNat)
                  · have h := if_T h hc15
                    refine rz_B.ifF (fun hn => hn ((eq32 (hw 118 (v6).toNat).1 (hw 119 (v6).toNat).1).mpr hc15)) ?_
                    refine rz_B.go 3 (pc' := 106) (L' := [some (.ref 91), some (vI v1), some (vI v2), some (vI v3), some (vI v4), some (vI v5), some (vI v6), none]) (S' := [vI v6, .ref 120]) rfl ?_
                    refine rz_B.iald rfl rfl hi2 hj3 (by decide) ?_
                    refine rz_B.go 5 (pc' := if decide (Int32.ofInt (A.1 120 (v6).toNat) ≤ Int32.ofInt v5) = true then 156 else 152) (L' := [some (.ref 91), some (vI v1), some (vI v2), some (vI v3), some (vI v4), some (vI v5), some (vI v6), some (vI (A.1 120 (v6).toNat))]) (S' := []) rfl ?_
                    by_cases hc16 : v5 < (A.1 120 (v6).toNat)
                    · have h := if_T h hc16
                      refine rz_B.ifF (mt (le32 (hw 120 (v6).toNat).1 hv5).mp (Int.not_le.mpr hc16)) ?_
                      refine rz_B.go 2 (pc' := 156) (L' := [some (.ref 91), some (vI v1), some (vI v2), some (vI v3), some (vI v4), some (vI (A.1 120 (v6).toNat)), some (vI v6), some (vI (A.1 120 (v6).toNat))]) (S' := []) rfl ?_
                      obtain ⟨hk17, h⟩ := rz_g32_inv h
                      refine rz_B.iinc rfl (by decide) rfl (L' := [some (.ref 91), some (vI v1), some (vI v2), some (vI v3), some (vI v4), some (vI (A.1 120 (v6).toNat)), some (vI (v6 + 1)), some (vI (A.1 120 (v6).toNat))]) rfl ?_
                      refine rz_B.go 1 (pc' := 6) (L' := [some (.ref 91), some (vI v1), some (vI v2), some (vI v3), some (vI v4), some (vI (A.1 120 (v6).toNat)), some (vI (v6 + 1)), some (vI (A.1 120 (v6).toNat))]) (S' := []) rfl ?_
                      refine rz_B.more (rg_le_ok (L := [some (.ref 91), some (vI v1), some (vI v2), some (vI v3), some (vI v4), some (vI (A.1 120 (v6).toNat)), some (vI (v6 + 1)), none]) (by simp [rg_le])) ?_
                      exact ih _ _ _ _ _ _ _ _ _ h hv1 hv2 hv3 hv4 (hw 120 (v6).toNat).1 hk17 hw10
                    · have h := if_F h hc16
                      refine rz_B.ifT ((le32 (hw 120 (v6).toNat).1 hv5).mpr (Int.not_lt.mp hc16)) ?_
                      obtain ⟨hk18, h⟩ := rz_g32_inv h
                      refine rz_B.iinc rfl (by decide) rfl (L' := [some (.ref 91), some (vI v1), some (vI v2), some (vI v3), some (vI v4), some (vI v5), some (vI (v6 + 1)), some (vI (A.1 120 (v6).toNat))]) rfl ?_
                      refine rz_B.go 1 (pc' := 6) (L' := [some (.ref 91), some (vI v1), some (vI v2), some (vI v3), some (vI v4), some (vI v5), some (vI (v6 + 1)), some (vI (A.1 120 (v6).toNat))]) (S' := []) rfl ?_
                      refine rz_B.more (rg_le_ok (L := [some (.ref 91), some (vI v1), some (vI v2), some (vI v3), some (vI v4), some (vI v5), some (vI (v6 + 1)), none]) (by simp [rg_le])) ?_
                      exact ih _ _ _ _ _ _ _ _ _ h hv1 hv2 hv3 hv4 hv5 hk18 hw10
                  · have h := if_F h hc15
                    refine rz_B.ifT (mt (eq32 (hw 118 (v6).toNat).1 (hw 119 (v6).toNat).1).mp hc15) ?_
                    refine rz_B.go 3 (pc' := 116) (L' := [some (.ref 91), some (vI v1), some (vI v2), some (vI v3), some (vI v4), some (vI v5), some (vI v6), none]) (S' := [vI v6, .ref 120]) rfl ?_
                    refine rz_B.iald rfl rfl hi2 hj3 (by decide) ?_
                    refine rz_B.go 4 (pc' := 124) (L' := [some (.ref 91), some (vI v1), some (vI v2), some (vI v3), some (vI v4), some (vI v5), some (vI v6), none]) (S' := [vI v6, .ref 118, vI v3, vI (A.1 120 (v6).toNat)]) rfl ?_
                    refine rz_B.iald rfl rfl hi2 hj3 (by decide) ?_
                    obtain ⟨hk19, h⟩ := rz_g32_inv h
                    refine rz_B.isub rfl ?_
                    obtain ⟨hk20, h⟩ := rz_g32_inv h
                    refine rz_B.imul rfl ?_
                    refine rz_B.go 3 (pc' := 133) (L' := [some (.ref 91), some (vI v1), some (vI v2), some (vI v3), some (vI v4), some (vI v5), some (vI v6), none]) (S' := [vI v6, .ref 119, vI ((A.1 120 (v6).toNat) * (v3 - (A.1 118 (v6).toNat)))]) rfl ?_
                    refine rz_B.iald rfl rfl hi2 hj3 (by decide) ?_
                    refine rz_B.go 3 (pc' := 140) (L' := [some (.ref 91), some (vI v1), some (vI v2), some (vI v3), some (vI v4), some (vI v5), some (vI v6), none]) (S' := [vI v6, .ref 118, vI (A.1 119 (v6).toNat), vI ((A.1 120 (v6).toNat) * (v3 - (A.1 118 (v6).toNat)))]) rfl ?_
                    refine rz_B.iald rfl rfl hi2 hj3 (by decide) ?_
                    obtain ⟨hk21, h⟩ := rz_g32_inv h
                    refine rz_B.isub rfl ?_
                    obtain ⟨hz22, h⟩ := rz_gn_inv h
                    obtain ⟨hk23, h⟩ := rz_g32_inv h
                    refine rz_B.idiv rfl hk20 hk21 hz22 ?_
                    refine rz_B.go 4 (pc' := if decide (Int32.ofInt (((A.1 120 (v6).toNat) * (v3 - (A.1 118 (v6).toNat))).tdiv ((A.1 119 (v6).toNat) - (A.1 118 (v6).toNat))) ≤ Int32.ofInt v5) = true then 156 else 152) (L' := [some (.ref 91), some (vI v1), some (vI v2), some (vI v3), some (vI v4), some (vI v5), some (vI v6), some (vI (((A.1 120 (v6).toNat) * (v3 - (A.1 118 (v6).toNat))).tdiv ((A.1 119 (v6).toNat) - (A.1 118 (v6).toNat))))]) (S' := []) rfl ?_
                    by_cases hc24 : v5 < (((A.1 120 (v6).toNat) * (v3 - (A.1 118 (v6).toNat))).tdiv ((A.1 119 (v6).toNat) - (A.1 118 (v6).toNat)))
                    · have h := if_T h hc24
                      refine rz_B.ifF (mt (le32 hk23 hv5).mp (Int.not_le.mpr hc24)) ?_
                      refine rz_B.go 2 (pc' := 156) (L' := [some (.ref 91), some (vI v1), some (vI v2), some (vI v3), some (vI v4), some (vI (((A.1 120 (v6).toNat) * (v3 - (A.1 118 (v6).toNat))).tdiv ((A.1 119 (v6).toNat) - (A.1 118 (v6).toNat)))), some (vI v6), some (vI (((A.1 120 (v6).toNat) * (v3 - (A.1 118 (v6).toNat))).tdiv ((A.1 119 (v6).toNat) - (A.1 118 (v6).toNat))))]) (S' := []) rfl ?_
                      obtain ⟨hk25, h⟩ := rz_g32_inv h
                      refine rz_B.iinc rfl (by decide) rfl (L' := [some (.ref 91), some (vI v1), some (vI v2), some (vI v3), some (vI v4), some (vI (((A.1 120 (v6).toNat) * (v3 - (A.1 118 (v6).toNat))).tdiv ((A.1 119 (v6).toNat) - (A.1 118 (v6).toNat)))), some (vI (v6 + 1)), some (vI (((A.1 120 (v6).toNat) * (v3 - (A.1 118 (v6).toNat))).tdiv ((A.1 119 (v6).toNat) - (A.1 118 (v6).toNat))))]) rfl ?_
                      refine rz_B.go 1 (pc' := 6) (L' := [some (.ref 91), some (vI v1), some (vI v2), some (vI v3), some (vI v4), some (vI (((A.1 120 (v6).toNat) * (v3 - (A.1 118 (v6).toNat))).tdiv ((A.1 119 (v6).toNat) - (A.1 118 (v6).toNat)))), some (vI (v6 + 1)), some (vI (((A.1 120 (v6).toNat) * (v3 - (A.1 118 (v6).toNat))).tdiv ((A.1 119 (v6).toNat) - (A.1 118 (v6).toNat))))]) (S' := []) rfl ?_
                      refine rz_B.more (rg_le_ok (L := [some (.ref 91), some (vI v1), some (vI v2), some (vI v3), some (vI v4), some (vI (((A.1 120 (v6).toNat) * (v3 - (A.1 118 (v6).toNat))).tdiv ((A.1 119 (v6).toNat) - (A.1 118 (v6).toNat)))), some (vI (v6 + 1)), none]) (by simp [rg_le])) ?_
                      exact ih _ _ _ _ _ _ _ _ _ h hv1 hv2 hv3 hv4 hk23 hk25 hw10
                    · have h := if_F h hc24
                      refine rz_B.ifT ((le32 hk23 hv5).mpr (Int.not_lt.mp hc24)) ?_
                      obtain ⟨hk26, h⟩ := rz_g32_inv h
                      refine rz_B.iinc rfl (by decide) rfl (L' := [some (.ref 91), some (vI v1), some (vI v2), some (vI v3), some (vI v4), some (vI v5), some (vI (v6 + 1)), some (vI (((A.1 120 (v6).toNat) * (v3 - (A.1 118 (v6).toNat))).tdiv ((A.1 119 (v6).toNat) - (A.1 118 (v6).toNat))))]) rfl ?_
                      refine rz_B.go 1 (pc' := 6) (L' := [some (.ref 91), some (vI v1), some (vI v2), some (vI v3), some (vI v4), some (vI v5), some (vI (v6 + 1)), some (vI (((A.1 120 (v6).toNat) * (v3 - (A.1 118 (v6).toNat))).tdiv ((A.1 119 (v6).toNat) - (A.1 118 (v6).toNat))))]) (S' := []) rfl ?_
                      refine rz_B.more (rg_le_ok (L := [some (.ref 91), some (vI v1), some (vI v2), some (vI v3), some (vI v4), some (vI v5), some (vI (v6 + 1)), none]) (by simp [rg_le])) ?_
                      exact ih _ _ _ _ _ _ _ _ _ h hv1 hv2 hv3 hv4 hv5 hk26 hw10
            · have h := if_F h hc7
              refine rz_B.ifT ((lt32 hv3 (hw 118 (v6).toNat).1).mpr (Int.not_le.mp hc7)) ?_
              obtain ⟨hk27, h⟩ := rz_g32_inv h
              refine rz_B.iinc rfl (by decide) rfl (L' := [some (.ref 91), some (vI v1), some (vI v2), some (vI v3), some (vI v4), some (vI v5), some (vI (v6 + 1)), none]) rfl ?_
              refine rz_B.go 1 (pc' := 6) (L' := [some (.ref 91), some (vI v1), some (vI v2), some (vI v3), some (vI v4), some (vI v5), some (vI (v6 + 1)), none]) (S' := []) rfl ?_
              refine rz_B.more (rg_le_ok (L := [some (.ref 91), some (vI v1), some (vI v2), some (vI v3), some (vI v4), some (vI v5), some (vI (v6 + 1)), none]) (by simp [rg_le])) ?_
              exact ih _ _ _ _ _ _ _ _ _ h hv1 hv2 hv3 hv4 hv5 hk27 hw
          · have h := if_F h hc6
            refine rz_B.ifT ((lt32 hv4 (hw 121 (v6).toNat).1).mpr (Int.not_le.mp hc6)) ?_
            obtain ⟨hk28, h⟩ := rz_g32_inv h
            refine rz_B.iinc rfl (by decide) rfl (L' := [some (.ref 91), some (vI v1), some (vI v2), some (vI v3), some (vI v4), some (vI v5), some (vI (v6 + 1)), none]) rfl ?_
            refine rz_B.go 1 (pc' := 6) (L' := [some (.ref 91), some (vI v1), some (vI v2), some (vI v3), some (vI v4), some (vI v5), some (vI (v6 + 1)), none]) (S' := []) rfl ?_
            refine rz_B.more (rg_le_ok (L := [some (.ref 91), some (vI v1), some (vI v2), some (vI v3), some (vI v4), some (vI v5), some (vI (v6 + 1)), none]) (by simp [rg_le])) ?_
            exact ih _ _ _ _ _ _ _ _ _ h hv1 hv2 hv3 hv4 hv5 hk28 hw
        · have h := if_F h hc5
          refine rz_B.ifT (mt (eq32 (hw 117 (v6).toNat).1 hv2).mp hc5) ?_
          obtain ⟨hk29, h⟩ := rz_g32_inv h
          refine rz_B.iinc rfl (by decide) rfl (L' := [some (.ref 91), some (vI v1), some (vI v2), some (vI v3), some (vI v4), some (vI v5), some (vI (v6 + 1)), none]) rfl ?_
          refine rz_B.go 1 (pc' := 6) (L' := [some (.ref 91), some (vI v1), some (vI v2), some (vI v3), some (vI v4), some (vI v5), some (vI (v6 + 1)), none]) (S' := []) rfl ?_
          refine rz_B.more (rg_le_ok (L := [some (.ref 91), some (vI v1), some (vI v2), some (vI v3), some (vI v4), some (vI v5), some (vI (v6 + 1)), none]) (by simp [rg_le])) ?_
          exact ih _ _ _ _ _ _ _ _ _ h hv1 hv2 hv3 hv4 hv5 hk29 hw
      · have h := if_F h hc4
        refine rz_B.ifT (mt (eq32 (hw 116 (v6).toNat).1 hv1).mp hc4) ?_
        obtain ⟨hk30, h⟩ := rz_g32_inv h
        refine rz_B.iinc rfl (by decide) rfl (L' := [some (.ref 91), some (vI v1), some (vI v2), some (vI v3), some (vI v4), some (vI v5), some (vI (v6 + 1)), none]) rfl ?_
        refine rz_B.go 1 (pc' := 6) (L' := [some (.ref 91), some (vI v1), some (vI v2), some (vI v3), some (vI v4), some (vI v5), some (vI (v6 + 1)), none]) (S' := []) rfl ?_
        refine rz_B.more (rg_le_ok (L := [some (.ref 91), some (vI v1), some (vI v2), some (vI v3), some (vI v4), some (vI v5), some (vI (v6 + 1)), none]) (by simp [rg_le])) ?_
        exact ih _ _ _ _ _ _ _ _ _ h hv1 hv2 hv3 hv4 hv5 hk30 hw
    · have h := if_F h hc1
      refine rz_B.ifT ((le32 (hw 91 6).1 hv6).mpr (Int.not_lt.mp hc1)) ?_
      refine rz_B.go 1 (pc' := 164) (L' := [some (.ref 91), some (vI v1), some (vI v2), some (vI v3), some (vI v4), some (vI v5), some (vI v6), none]) (S' := [vI v5]) rfl ?_
      cases h
      exact rz_B.ret rfl hv5 hw
/-- RiverGaugeModel.hundredths(IIII)I -/
def x189_hundredths (F : Nat) (a0 : Int) (a1 : Int) (a2 : Int) (a3 : Int) (A : rz_A) : Option (Int × rz_A) :=
  x189_hundredths_6 F F a0 a1 a2 a3 0 0 A
theorem cx189_hundredths (F : Nat) {d : Nat} {a0 : Int} {a1 : Int} {a2 : Int} {a3 : Int} {A : rz_A} {r : Int} {A' : rz_A} (h : x189_hundredths F a0 a1 a2 a3 A = some (r, A')) (ha0 : r32 a0) (ha1 : r32 a1) (ha2 : r32 a2) (ha3 : r32 a3) (hw : wf A) : rg_Rn (d + 0) 189 [.ref 91, vI a0, vI a1, vI a2, vI a3] (toM A) (some (vI r)) (toM A') ∧ (r32 r) ∧ wf A' := by
  show rz_B (d + 0) 189 0 [some (.ref 91), some (vI a0), some (vI a1), some (vI a2), some (vI a3), none, none, none] [] A (some (vI r)) A' (r32 r)
  unfold x189_hundredths at h
  refine rz_B.go 4 (pc' := 6) (L' := [some (.ref 91), some (vI a0), some (vI a1), some (vI a2), some (vI a3), some (vI 0), some (vI 0), none]) (S' := []) rfl ?_
  refine rz_B.more (rg_le_ok (L := [some (.ref 91), some (vI a0), some (vI a1), some (vI a2), some (vI a3), some (vI 0), some (vI 0), none]) (by simp [rg_le])) ?_
  exact cx189_hundredths_6 F F _ _ _ _ _ _ _ _ _ h ha0 ha1 ha2 ha3 (by decide) (by decide) hw
def x188_flows_103 (F : Nat) (v1 : Int) (v2 : Int) (v3 : Int) (v5 : Int) (A : rz_A) : Option (Int × rz_A) :=
  rz_b (x189_hundredths F v1 0 v2 v3 (aI A 91 77 0)) fun r2 A2 =>
  rz_g64 (v5 * r2) <|
  rz_g64 ((v5 * r2).tdiv 100) <|
  rz_g32 ((v5 * r2).tdiv 100) <|
  rz_g32 (v5 - ((v5 * r2).tdiv 100)) <|
  rz_b (x189_hundredths F v1 1 v2 v3 A2) fun r7 A7 =>
  rz_g64 ((v5 - ((v5 * r2).tdiv 100)) * r7) <|
  rz_g64 (((v5 - ((v5 * r2).tdiv 100)) * r7).tdiv 100) <|
  rz_g32 (((v5 - ((v5 * r2).tdiv 100)) * r7).tdiv 100) <|
  rz_g32 ((v5 - ((v5 * r2).tdiv 100)) - (((v5 - ((v5 * r2).tdiv 100)) * r7).tdiv 100)) <|
  some (1, (aI A7 91 78 ((v5 - ((v5 * r2).tdiv 100)) - (((v5 - ((v5 * r2).tdiv 100)) * r7).tdiv 100))))
theorem cx188_flows_103 {d : Nat} (F : Nat) : ∀ (v1 : Int) (v2 : Int) (v3 : Int) (v5 : Int) (A : rz_A) (r : Int) (A' : rz_A), x188_flows_103 F v1 v2 v3 v5 A = some (r, A') → r32 v1 → r32 v2 → r32 v3 → r32 v5 → wf A → rz_B (d + 8) 188 103 [some (.ref 91), some (vI v1), some (vI v2), some (vI v3), none, some (vI v5)] [] A (some (vI r)) A' (r32 r) := by
  intro v1 v2 v3 v5 A r A' h hv1 hv2 hv3 hv5 hw
  unfold x188_flows_103 at h
  refine rz_B.put 3 (pc' := 108) (L' := [some (.ref 91), some (vI v1), some (vI v2), some (vI v3), none, some (vI v5)]) (S' := []) (c := 91) (k := 77) (x := 0) rfl ?_
  have hw1 : wf (aI A 91 77 0) := wf_aI hw (by decide)
  refine rz_B.go 2 (pc' := 112) (L' := [some (.ref 91), some (vI v1), some (vI v2), some (vI v3), none, some (vI v5)]) (S' := [vI v5, vI v5]) rfl ?_
  refine rz_B.i2l rfl hv5 ?_
  refine rz_B.go 5 (pc' := 118) (L' := [some (.ref 91), some (vI v1), some (vI v2), some (vI v3), none, some (vI v5)]) (S' := [vI v3, vI v2, vI 0, vI v1, .ref 91, vL v5, vI v5]) rfl ?_
  obtain ⟨r2, A2, hf2, h⟩ := rz_b_inv h
  obtain ⟨hg2, hr2, hw2⟩ := cx189_hundredths F (d := d + 7) hf2 hv1 (by decide) hv2 hv3 hw1
  refine rz_B.call (d := d + 7) (as := [.ref 91, vI v1, vI 0, vI v2, vI v3]) (rest := [vL v5, vI v5]) (w := some (vI r2)) rfl hg2 ?_
  refine rz_B.i2l rfl hr2 ?_
  obtain ⟨hk3, h⟩ := rz_g64_inv h
  refine rz_B.lmul rfl ?_
  refine rz_B.go 1 (pc' := 126) (L' := [some (.ref 91), some (vI v1), some (vI v2), some (vI v3), none, some (vI v5)]) (S' := [vL 100, vL (v5 * r2), vI v5]) rfl ?_
  obtain ⟨hk4, h⟩ := rz_g64_inv h
  refine rz_B.ldiv rfl hk3 (by decide) (by decide) ?_
  obtain ⟨hk5, h⟩ := rz_g32_inv h
  refine rz_B.l2i rfl ?_
  obtain ⟨hk6, h⟩ := rz_g32_inv h
  refine rz_B.isub rfl ?_
  refine rz_B.go 3 (pc' := 135) (L' := [some (.ref 91), some (vI v1), some (vI v2), some (vI v3), none, some (vI (v5 - ((v5 * r2).tdiv 100)))]) (S' := [vI (v5 - ((v5 * r2).tdiv 100)), vI (v5 - ((v5 * r2).tdiv 100))]) rfl ?_
  refine rz_B.i2l rfl hk6 ?_
  refine rz_B.go 5 (pc' := 141) (L' := [some (.ref 91), some (vI v1), some (vI v2), some (vI v3), none, some (vI (v5 - ((v5 * r2).tdiv 100)))]) (S' := [vI v3, vI v2, vI 1, vI v1, .ref 91, vL (v5 - ((v5 * r2).tdiv 100)), vI (v5 - ((v5 * r2).tdiv 100))]) rfl ?_
  obtain ⟨r7, A7, hf7, h⟩ := rz_b_inv h
  obtain ⟨hg7, hr7, hw7⟩ := cx189_hundredths F (d := d + 7) hf7 hv1 (by decide) hv2 hv3 hw2
  refine rz_B.call (d := d + 7) (as := [.ref 91, vI v1, vI 1, vI v2, vI v3]) (rest := [vL (v5 - ((v5 * r2).tdiv 100)), vI (v5 - ((v5 * r2).tdiv 100))]) (w := some (vI r7)) rfl hg7 ?_
  refine rz_B.i2l rfl hr7 ?_
  obtain ⟨hk8, h⟩ := rz_g64_inv h
  refine rz_B.lmul rfl ?_
  refine rz_B.go 1 (pc' := 149) (L' := [some (.ref 91), some (vI v1), some (vI v2), some (vI v3), none, some (vI (v5 - ((v5 * r2).tdiv 100)))]) (S' := [vL 100, vL ((v5 - ((v5 * r2).tdiv 100)) * r7), vI (v5 - ((v5 * r2).tdiv 100))]) rfl ?_
  obtain ⟨hk9, h⟩ := rz_g64_inv h
  refine rz_B.ldiv rfl hk8 (by decide) (by decide) ?_
  obtain ⟨hk10, h⟩ := rz_g32_inv h
  refine rz_B.l2i rfl ?_
  obtain ⟨hk11, h⟩ := rz_g32_inv h
  refine rz_B.isub rfl ?_
  refine rz_B.put 4 (pc' := 160) (L' := [some (.ref 91), some (vI v1), some (vI v2), some (vI v3), none, some (vI ((v5 - ((v5 * r2).tdiv 100)) - (((v5 - ((v5 * r2).tdiv 100)) * r7).tdiv 100)))]) (S' := []) (c := 91) (k := 78) (x := ((v5 - ((v5 * r2).tdiv 100)) - (((v5 - ((v5 * r2).tdiv 100)) * r7).tdiv 100))) rfl ?_
  have hw12 : wf (aI A7 91 78 ((v5 - ((v5 * r2).tdiv 100)) - (((v5 - ((v5 * r2).tdiv 100)) * r7).tdiv 100))) := wf_aI hw7 hk11
  refine rz_B.go 1 (pc' := 161) (L' := [some (.ref 91), some (vI v1), some (vI v2), some (vI v3), none, some (vI ((v5 - ((v5 * r2).tdiv 100)) - (((v5 - ((v5 * r2).tdiv 100)) * r7).tdiv 100)))]) (S' := [vI 1]) rfl ?_
  cases h
  exact rz_B.ret rfl (by decide) hw12
/-- RiverGaugeModel.flows(III)Z -/
def x188_flows (F : Nat) (a0 : Int) (a1 : Int) (a2 : Int) (A : rz_A) : Option (Int × rz_A) :=
  rz_b (x161_has F a0 a1 a2 A) fun r1 A1 =>
  if r1 = 0 then
    some (0, A1)
  else
    rz_b (x181_makes F a0 a1 a2 A1) fun _ A3 =>
    if (A3.1 91 67) = 0 then
      some (0, A3)
    else
      rz_gx a0 6 <|
      rz_b (x185_along_p F 0 (A3.1 91 67) (A3.1 93 (a0).toNat) (A1.1 91 54) A3) fun r7 A7 =>
      if (A7.1 91 76) = 0 then
        if 100 < (A7.1 91 68) then
          x188_flows_103 F a0 a1 a2 r7 (aI (aI A7 91 79 (A7.1 91 68)) 91 79 100)
        else
          x188_flows_103 F a0 a1 a2 r7 (aI A7 91 79 (A7.1 91 68))
      else
        rz_g32 (2 * (A7.1 91 68)) <|
        rz_g32 ((2 * (A7.1 91 68)) + 10) <|
        if 100 < ((2 * (A7.1 91 68)) + 10) then
          x188_flows_103 F a0 a1 a2 r7 (aI (aI A7 91 79 ((2 * (A7.1 91 68)) + 10)) 91 79 100)
        else
          x188_flows_103 F a0 a1 a2 r7 (aI A7 91 79 ((2 * (A7.1 91 68)) + 10))
theorem cx188_flows (F : Nat) {d : Nat} {a0 : Int} {a1 : Int} {a2 : Int} {A : rz_A} {r : Int} {A' : rz_A} (h : x188_flows F a0 a1 a2 A = some (r, A')) (ha0 : r32 a0) (ha1 : r32 a1) (ha2 : r32 a2) (hw : wf A) : rg_Rn (d + 8) 188 [.ref 91, vI a0, vI a1, vI a2] (toM A) (some (vI r)) (toM A') ∧ (r32 r) ∧ wf A' := by
  show rz_B (d + 8) 188 0 [some (.ref 91), some (vI a0), some (vI a1), some (vI a2), none, none] [] A (some (vI r)) A' (r32 r)
  unfold x188_flows at h
  refine rz_B.go 4 (pc' := 4) (L' := [some (.ref 91), some (vI a0), some (vI a1), some (vI a2), none, none]) (S' := [vI a2, vI a1, vI a0, .ref 91]) rfl ?_
  obtain ⟨r1, A1, hf1, h⟩ := rz_b_inv h
  obtain ⟨hg1, hr1, hw1⟩ := cx161_has F (d := d + 3) hf1 ha0 ha1 ha2 hw
  refine rz_B.call (d := d + 7) (as := [.ref 91, vI a0, vI a1, vI a2]) (rest := []) (w := some (vI r1)) rfl hg1 ?_
  refine rz_B.go 1 (pc' := if decide (¬ Int32.ofInt r1 = Int32.ofInt 0) = true then 12 else 10) (L' := [some (.ref 91), some (vI a0), some (vI a1), some (vI a2), none, none]) (S' := []) rfl ?_
  by_cases hc2 : r1 = 0
  · have h := if_T h hc2
    refine rz_B.ifF (fun hn => hn ((eq32 hr1 (by decide)).mpr hc2)) ?_
    refine rz_B.go 1 (pc' := 11) (L' := [some (.ref 91), some (vI a0), some (vI a1), some (vI a2), none, none]) (S' := [vI 0]) rfl ?_
    cases h
    exact rz_B.ret rfl (by decide) hw1
  · have h := if_F h hc2
    refine rz_B.ifT (mt (eq32 hr1 (by decide)).mp hc2) ?_
    refine rz_B.go 7 (pc' := 22) (L' := [some (.ref 91), some (vI a0), some (vI a1), some (vI a2), some (vI (A1.1 91 54)), none]) (S' := [vI a2, vI a1, vI a0, .ref 91]) rfl ?_
    obtain ⟨_, A3, hf3, h⟩ := rz_b_inv h
    obtain ⟨hg3, hr3, hw3⟩ := cx181_makes F (d := d + 0) hf3 ha0 ha1 ha2 hw1
    refine rz_B.call (d := d + 7) (as := [.ref 91, vI a0, vI a1, vI a2]) (rest := []) (w := none) rfl hg3 ?_
    refine rz_B.go 3 (pc' := if decide (¬ Int32.ofInt (A3.1 91 67) = Int32.ofInt 0) = true then 34 else 32) (L' := [some (.ref 91), some (vI a0), some (vI a1), some (vI a2), some (vI (A1.1 91 54)), none]) (S' := []) rfl ?_
    by_cases hc4 : (A3.1 91 67) = 0
    · have h := if_T h hc4
      refine rz_B.ifF (fun hn => hn ((eq32 (hw3 91 67).1 (by decide)).mpr hc4)) ?_
      refine rz_B.go 1 (pc' := 33) (L' := [some (.ref 91), some (vI a0), some (vI a1), some (vI a2), some (vI (A1.1 91 54)), none]) (S' := [vI 0]) rfl ?_
      cases h
      exact rz_B.ret rfl (by decide) hw3
    · have h := if_F h hc4
      refine rz_B.ifT (mt (eq32 (hw3 91 67).1 (by decide)).mp hc4) ?_
      refine rz_B.go 11 (pc' := 53) (L' := [some (.ref 91), some (vI a0), some (vI a1), some (vI a2), some (vI (A1.1 91 54)), none]) (S' := [vI a0, .ref 93, vI (A3.1 91 67), vI 0, .ref 138, .ref 137, .ref 91]) rfl ?_
      obtain ⟨hi5, hj6, h⟩ := rz_gx_inv h
      refine rz_B.iald rfl rfl hi5 hj6 (by decide) ?_
      refine rz_B.go 1 (pc' := 56) (L' := [some (.ref 91), some (vI a0), some (vI a1), some (vI a2), some (vI (A1.1 91 54)), none]) (S' := [vI (A1.1 91 54), vI (A3.1 93 (a0).toNat), vI (A3.1 91 67), vI 0, .ref 138, .ref 137, .ref 91]) rfl ?_
      obtain ⟨r7, A7, hf7, h⟩ := rz_b_inv h
      obtain ⟨hg7, hr7, hw7⟩ := cx185_along_p F (d := d + 7) hf7 (by decide) (hw3 91 67).1 (hw3 93 (a0).toNat).1 (hw1 91 54).1 hw3
      refine rz_B.call (d := d + 7) (as := [.ref 91, .ref 137, .ref 138, vI 0, vI (A3.1 91 67), vI (A3.1 93 (a0).toNat), vI (A1.1 91 54)]) (rest := []) (w := some (vI r7)) rfl hg7 ?_
      refine rz_B.go 5 (pc' := if decide (Int32.ofInt (A7.1 91 76) = Int32.ofInt 0) = true then 81 else 69) (L' := [some (.ref 91), some (vI a0), some (vI a1), some (vI a2), some (vI (A1.1 91 54)), some (vI r7)]) (S' := [.ref 91]) rfl ?_
      by_cases hc8 : (A7.1 91 76) = 0
      · have h := if_T h hc8
        refine rz_B.ifT ((eq32 (hw7 91 76).1 (by decide)).mpr hc8) ?_
        refine rz_B.put 3 (pc' := 88) (L' := [some (.ref 91), some (vI a0), some (vI a1), some (vI a2), some (vI (A1.1 91 54)), some (vI r7)]) (S' := []) (c := 91) (k := 79) (x := (A7.1 91 68)) rfl ?_
        have hw9 : wf (aI A7 91 79 (A7.1 91 68)) := wf_aI hw7 (hw7 91 68).1
        refine rz_B.go 4 (pc' := if decide (Int32.ofInt (A7.1 91 68) ≤ Int32.ofInt 100) = true then 103 else 97) (L' := [some (.ref 91), some (vI a0), some (vI a1), some (vI a2), some (vI (A1.1 91 54)), some (vI r7)]) (S' := []) rfl ?_
        by_cases hc10 : 100 < (A7.1 91 68)
        · have h := if_T h hc10
          refine rz_B.ifF (mt (le32 (hw7 91 68).1 (by decide)).mp (Int.not_le.mpr hc10)) ?_
          refine rz_B.put 3 (pc' := 103) (L' := [some (.ref 91), some (vI a0), some (vI a1), some (vI a2), some (vI (A1.1 91 54)), some (vI r7)]) (S' := []) (c := 91) (k := 79) (x := 100) rfl ?_
          have hw11 : wf (aI (aI A7 91 79 (A7.1 91 68)) 91 79 100) := wf_aI hw9 (by decide)
          refine rz_B.more (rg_le_ok (L := [some (.ref 91), some (vI a0), some (vI a1), some (vI a2), none, some (vI r7)]) (by simp [rg_le])) ?_
          exact cx188_flows_103 F _ _ _ _ _ _ _ h ha0 ha1 ha2 hr7 hw11
        · have h := if_F h hc10
          refine rz_B.ifT ((le32 (hw7 91 68).1 (by decide)).mpr (Int.not_lt.mp hc10)) ?_
          refine rz_B.more (rg_le_ok (L := [some (.ref 91), some (vI a0), some (vI a1), some (vI a2), none, some (vI r7)]) (by simp [rg_le])) ?_
          exact cx188_flows_103 F _ _ _ _ _ _ _ h ha0 ha1 ha2 hr7 hw9
      · have h := if_F h hc8
        refine rz_B.ifF (mt (eq32 (hw7 91 76).1 (by decide)).mp hc8) ?_
        refine rz_B.go 3 (pc' := 74) (L' := [some (.ref 91), some (vI a0), some (vI a1), some (vI a2), some (vI (A1.1 91 54)), some (vI r7)]) (S' := [vI (A7.1 91 68), vI 2, .ref 91]) rfl ?_
        obtain ⟨hk12, h⟩ := rz_g32_inv h
        refine rz_B.imul rfl ?_
        refine rz_B.go 1 (pc' := 77) (L' := [some (.ref 91), some (vI a0), some (vI a1), some (vI a2), some (vI (A1.1 91 54)), some (vI r7)]) (S' := [vI 10, vI (2 * (A7.1 91 68)), .ref 91]) rfl ?_
        obtain ⟨hk13, h⟩ := rz_g32_inv h
        refine rz_B.iadd rfl ?_
        refine rz_B.put 2 (pc' := 88) (L' := [some (.ref 91), some (vI a0), some (vI a1), some (vI a2), some (vI (A1.1 91 54)), some (vI r7)]) (S' := []) (c := 91) (k := 79) (x := ((2 * (A7.1 91 68)) + 10)) rfl ?_
        have hw14 : wf (aI A7 91 79 ((2 * (A7.1 91 68)) + 10)) := wf_aI hw7 hk13
        refine rz_B.go 4 (pc' := if decide (Int32.ofInt ((2 * (A7.1 91 68)) + 10) ≤ Int32.ofInt 100) = true then 103 else 97) (L' := [some (.ref 91), some (vI a0), some (vI a1), some (vI a2), some (vI (A1.1 91 54)), some (vI r7)]) (S' := []) rfl ?_
        by_cases hc15 : 100 < ((2 * (A7.1 91 68)) + 10)
        · have h := if_T h hc15
          refine rz_B.ifF (mt (le32 hk13 (by decide)).mp (Int.not_le.mpr hc15)) ?_
          refine rz_B.put 3 (pc' := 103) (L' := [some (.ref 91), some (vI a0), some (vI a1), some (vI a2), some (vI (A1.1 91 54)), some (vI r7)]) (S' := []) (c := 91) (k := 79) (x := 100) rfl ?_
          have hw16 : wf (aI (aI A7 91 79 ((2 * (A7.1 91 68)) + 10)) 91 79 100) := wf_aI hw14 (by decide)
          refine rz_B.more (rg_le_ok (L := [some (.ref 91), some (vI a0), some (vI a1), some (vI a2), none, some (vI r7)]) (by simp [rg_le])) ?_
          exact cx188_flows_103 F _ _ _ _ _ _ _ h ha0 ha1 ha2 hr7 hw16
        · have h := if_F h hc15
          refine rz_B.ifT ((le32 hk13 (by decide)).mpr (Int.not_lt.mp hc15)) ?_
          refine rz_B.more (rg_le_ok (L := [some (.ref 91), some (vI a0), some (vI a1), some (vI a2), none, some (vI r7)]) (by simp [rg_le])) ?_
          exact cx188_flows_103 F _ _ _ _ _ _ _ h ha0 ha1 ha2 hr7 hw14
/-- RiverGaugeModel.flowOf(IIII)I -/
def x187_flowOf (F : Nat) (a0 : Int) (a1 : Int) (a2 : Int) (a3 : Int) (A : rz_A) : Option (Int × rz_A) :=
  rz_b (x145_isPost F a0 A) fun r1 A1 =>
  if r1 = 0 then
    rz_b (x142_no F (-1) A1) fun r3 A3 =>
    some (r3, A3)
  else
    if 0 ≤ a3 then
      if 2 < a3 then
        rz_b (x142_no F (-2) A1) fun r6 A6 =>
        some (r6, A6)
      else
        rz_b (x147_times F a1 a2 A1) fun r7 A7 =>
        if r7 = 0 then
          rz_b (x188_flows F a0 a1 a2 A7) fun r9 A9 =>
          if r9 = 0 then
            rz_b (x142_no F (-5) A9) fun r11 A11 =>
            some (r11, A11)
          else
            if a3 = 0 then
              some ((A9.1 91 78), A9)
            else
              if a3 = 1 then
                some ((A9.1 91 79), A9)
              else
                if (A9.1 91 76) = 0 then
                  some (0, A9)
                else
                  some (1, A9)
        else
          rz_b (x142_no F r7 A7) fun r15 A15 =>
          some (r15, A15)
    else
      rz_b (x142_no F (-2) A1) fun r16 A16 =>
      some (r16, A16)
theorem cx187_flowOf (F : Nat) {d : Nat} {a0 : Int} {a1 : Int} {a2 : Int} {a3 : Int} {A : rz_A} {r : Int} {A' : rz_A} (h : x187_flowOf F a0 a1 a2 a3 A = some (r, A')) (ha0 : r32 a0) (ha1 : r32 a1) (ha2 : r32 a2) (ha3 : r32 a3) (hw : wf A) : rg_Rn (d + 9) 187 [.ref 91, vI a0, vI a1, vI a2, vI a3] (toM A) (some (vI r)) (toM A') ∧ (r32 r) ∧ wf A' := by
  show rz_B (d + 9) 187 0 [some (.ref 91), some (vI a0), some (vI a1), some (vI a2), some (vI a3), none] [] A (some (vI r)) A' (r32 r)
  unfold x187_flowOf at h
  refine rz_B.go 2 (pc' := 2) (L' := [some (.ref 91), some (vI a0), some (vI a1), some (vI a2), some (vI a3), none]) (S' := [vI a0, .ref 91]) rfl ?_
  obtain ⟨r1, A1, hf1, h⟩ := rz_b_inv h
  obtain ⟨hg1, hr1, hw1⟩ := cx145_isPost F (d := d + 8) hf1 ha0 hw
  refine rz_B.call (d := d + 8) (as := [.ref 91, vI a0]) (rest := []) (w := some (vI r1)) rfl hg1 ?_
  refine rz_B.go 1 (pc' := if decide (¬ Int32.ofInt r1 = Int32.ofInt 0) = true then 14 else 8) (L' := [some (.ref 91), some (vI a0), some (vI a1), some (vI a2), some (vI a3), none]) (S' := []) rfl ?_
  by_cases hc2 : r1 = 0
  · have h := if_T h hc2
    refine rz_B.ifF (fun hn => hn ((eq32 hr1 (by decide)).mpr hc2)) ?_
    refine rz_B.go 2 (pc' := 10) (L' := [some (.ref 91), some (vI a0), some (vI a1), some (vI a2), some (vI a3), none]) (S' := [vI (-1), .ref 91]) rfl ?_
    obtain ⟨r3, A3, hf3, h⟩ := rz_b_inv h
    obtain ⟨hg3, hr3, hw3⟩ := cx142_no F (d := d + 8) hf3 (by decide) hw1
    refine rz_B.call (d := d + 8) (as := [.ref 91, vI (-1)]) (rest := []) (w := some (vI r3)) rfl hg3 ?_
    cases h
    exact rz_B.ret rfl hr3 hw3
  · have h := if_F h hc2
    refine rz_B.ifT (mt (eq32 hr1 (by decide)).mp hc2) ?_
    refine rz_B.go 2 (pc' := if decide (Int32.ofInt a3 < Int32.ofInt 0) = true then 25 else 19) (L' := [some (.ref 91), some (vI a0), some (vI a1), some (vI a2), some (vI a3), none]) (S' := []) rfl ?_
    by_cases hc4 : 0 ≤ a3
    · have h := if_T h hc4
      refine rz_B.ifF (mt (lt32 ha3 (by decide)).mp (Int.not_lt.mpr hc4)) ?_
      refine rz_B.go 3 (pc' := if decide (Int32.ofInt a3 ≤ Int32.ofInt 2) = true then 32 else 25) (L' := [some (.ref 91), some (vI a0), some (vI a1), some (vI a2), some (vI a3), none]) (S' := []) rfl ?_
      by_cases hc5 : 2 < a3
      · have h := if_T h hc5
        refine rz_B.ifF (mt (le32 ha3 (by decide)).mp (Int.not_le.mpr hc5)) ?_
        refine rz_B.go 2 (pc' := 28) (L' := [some (.ref 91), some (vI a0), some (vI a1), some (vI a2), some (vI a3), none]) (S' := [vI (-2), .ref 91]) rfl ?_
        obtain ⟨r6, A6, hf6, h⟩ := rz_b_inv h
        obtain ⟨hg6, hr6, hw6⟩ := cx142_no F (d := d + 8) hf6 (by decide) hw1
        refine rz_B.call (d := d + 8) (as := [.ref 91, vI (-2)]) (rest := []) (w := some (vI r6)) rfl hg6 ?_
        cases h
        exact rz_B.ret rfl hr6 hw6
      · have h := if_F h hc5
        refine rz_B.ifT ((le32 ha3 (by decide)).mpr (Int.not_lt.mp hc5)) ?_
        refine rz_B.go 2 (pc' := 34) (L' := [some (.ref 91), some (vI a0), some (vI a1), some (vI a2), some (vI a3), none]) (S' := [vI a2, vI a1]) rfl ?_
        obtain ⟨r7, A7, hf7, h⟩ := rz_b_inv h
        obtain ⟨hg7, hr7, hw7⟩ := cx147_times F (d := d + 8) hf7 ha1 ha2 hw1
        refine rz_B.call (d := d + 8) (as := [vI a1, vI a2]) (rest := []) (w := some (vI r7)) rfl hg7 ?_
        refine rz_B.go 3 (pc' := if decide (Int32.ofInt r7 = Int32.ofInt 0) = true then 51 else 44) (L' := [some (.ref 91), some (vI a0), some (vI a1), some (vI a2), some (vI a3), some (vI r7)]) (S' := []) rfl ?_
        by_cases hc8 : r7 = 0
        · have h := if_T h hc8
          refine rz_B.ifT ((eq32 hr7 (by decide)).mpr hc8) ?_
          refine rz_B.go 4 (pc' := 55) (L' := [some (.ref 91), some (vI a0), some (vI a1), some (vI a2), some (vI a3), some (vI r7)]) (S' := [vI a2, vI a1, vI a0, .ref 91]) rfl ?_
          obtain ⟨r9, A9, hf9, h⟩ := rz_b_inv h
          obtain ⟨hg9, hr9, hw9⟩ := cx188_flows F (d := d + 0) hf9 ha0 ha1 ha2 hw7
          refine rz_B.call (d := d + 8) (as := [.ref 91, vI a0, vI a1, vI a2]) (rest := []) (w := some (vI r9)) rfl hg9 ?_
          refine rz_B.go 1 (pc' := if decide (¬ Int32.ofInt r9 = Int32.ofInt 0) = true then 68 else 61) (L' := [some (.ref 91), some (vI a0), some (vI a1), some (vI a2), some (vI a3), some (vI r7)]) (S' := []) rfl ?_
          by_cases hc10 : r9 = 0
          · have h := if_T h hc10
            refine rz_B.ifF (fun hn => hn ((eq32 hr9 (by decide)).mpr hc10)) ?_
            refine rz_B.go 2 (pc' := 64) (L' := [some (.ref 91), some (vI a0), some (vI a1), some (vI a2), some (vI a3), some (vI r7)]) (S' := [vI (-5), .ref 91]) rfl ?_
            obtain ⟨r11, A11, hf11, h⟩ := rz_b_inv h
            obtain ⟨hg11, hr11, hw11⟩ := cx142_no F (d := d + 8) hf11 (by decide) hw9
            refine rz_B.call (d := d + 8) (as := [.ref 91, vI (-5)]) (rest := []) (w := some (vI r11)) rfl hg11 ?_
            cases h
            exact rz_B.ret rfl hr11 hw11
          · have h := if_F h hc10
            refine rz_B.ifT (mt (eq32 hr9 (by decide)).mp hc10) ?_
            refine rz_B.go 2 (pc' := if decide (¬ Int32.ofInt a3 = Int32.ofInt 0) = true then 80 else 73) (L' := [some (.ref 91), some (vI a0), some (vI a1), some (vI a2), some (vI a3), some (vI r7)]) (S' := []) rfl ?_
            by_cases hc12 : a3 = 0
            · have h := if_T h hc12
              refine rz_B.ifF (fun hn => hn ((eq32 ha3 (by decide)).mpr hc12)) ?_
              refine rz_B.go 3 (pc' := 105) (L' := [some (.ref 91), some (vI a0), some (vI a1), some (vI a2), some (vI a3), some (vI r7)]) (S' := [vI (A9.1 91 78)]) rfl ?_
              cases h
              exact rz_B.ret rfl (hw9 91 78).1 hw9
            · have h := if_F h hc12
              refine rz_B.ifT (mt (eq32 ha3 (by decide)).mp hc12) ?_
              refine rz_B.go 3 (pc' := if decide (¬ Int32.ofInt a3 = Int32.ofInt 1) = true then 93 else 86) (L' := [some (.ref 91), some (vI a0), some (vI a1), some (vI a2), some (vI a3), some (vI r7)]) (S' := []) rfl ?_
              by_cases hc13 : a3 = 1
              · have h := if_T h hc13
                refine rz_B.ifF (fun hn => hn ((eq32 ha3 (by decide)).mpr hc13)) ?_
                refine rz_B.go 3 (pc' := 105) (L' := [some (.ref 91), some (vI a0), some (vI a1), some (vI a2), some (vI a3), some (vI r7)]) (S' := [vI (A9.1 91 79)]) rfl ?_
                cases h
                exact rz_B.ret rfl (hw9 91 79).1 hw9
              · have h := if_F h hc13
                refine rz_B.ifT (mt (eq32 ha3 (by decide)).mp hc13) ?_
                refine rz_B.go 3 (pc' := if decide (Int32.ofInt (A9.1 91 76) = Int32.ofInt 0) = true then 104 else 100) (L' := [some (.ref 91), some (vI a0), some (vI a1), some (vI a2), some (vI a3), some (vI r7)]) (S' := []) rfl ?_
                by_cases hc14 : (A9.1 91 76) = 0
                · have h := if_T h hc14
                  refine rz_B.ifT ((eq32 (hw9 91 76).1 (by decide)).mpr hc14) ?_
                  refine rz_B.go 1 (pc' := 105) (L' := [some (.ref 91), some (vI a0), some (vI a1), some (vI a2), some (vI a3), some (vI r7)]) (S' := [vI 0]) rfl ?_
                  cases h
                  exact rz_B.ret rfl (by decide) hw9
                · have h := if_F h hc14
                  refine rz_B.ifF (mt (eq32 (hw9 91 76).1 (by decide)).mp hc14) ?_
                  refine rz_B.go 2 (pc' := 105) (L' := [some (.ref 91), some (vI a0), some (vI a1), some (vI a2), some (vI a3), some (vI r7)]) (S' := [vI 1]) rfl ?_
                  cases h
                  exact rz_B.ret rfl (by decide) hw9
        · have h := if_F h hc8
          refine rz_B.ifF (mt (eq32 hr7 (by decide)).mp hc8) ?_
          refine rz_B.go 2 (pc' := 47) (L' := [some (.ref 91), some (vI a0), some (vI a1), some (vI a2), some (vI a3), some (vI r7)]) (S' := [vI r7, .ref 91]) rfl ?_
          obtain ⟨r15, A15, hf15, h⟩ := rz_b_inv h
          obtain ⟨hg15, hr15, hw15⟩ := cx142_no F (d := d + 8) hf15 hr7 hw7
          refine rz_B.call (d := d + 8) (as := [.ref 91, vI r7]) (rest := []) (w := some (vI r15)) rfl hg15 ?_
          cases h
          exact rz_B.ret rfl hr15 hw15
    · have h := if_F h hc4
      refine rz_B.ifT ((lt32 ha3 (by decide)).mpr (Int.not_le.mp hc4)) ?_
      refine rz_B.go 2 (pc' := 28) (L' := [some (.ref 91), some (vI a0), some (vI a1), some (vI a2), some (vI a3), none]) (S' := [vI (-2), .ref 91]) rfl ?_
      obtain ⟨r16, A16, hf16, h⟩ := rz_b_inv h
      obtain ⟨hg16, hr16, hw16⟩ := cx142_no F (d := d + 8) hf16 (by decide) hw1
      refine rz_B.call (d := d + 8) (as := [.ref 91, vI (-2)]) (rest := []) (w := some (vI r16)) rfl hg16 ?_
      cases h
      exact rz_B.ret rfl hr16 hw16
def x190_base_86 (F : Nat) (v1 : Int) (v2 : Int) (v3 : Int) (v4 : Int) (A : rz_A) : Option (Int × rz_A) :=
  if v3 ≤ 99999 then
    if v4 ≤ 99999 then
      if v2 = 8 then
        rz_b (x142_no F (-6) A) fun r4 A4 =>
        some (r4, A4)
      else
        rz_g32 (8 * v1) <|
        rz_g32 ((8 * v1) + v2) <|
        rz_gx ((8 * v1) + v2) 48 <|
        rz_g32 (v2 + 1) <|
        rz_gx v1 6 <|
        some ((v2 + 1), (aI (aI (aI A 98 (((8 * v1) + v2)).toNat v3) 99 (((8 * v1) + v2)).toNat v4) 96 (v1).toNat (v2 + 1)))
    else
      rz_b (x142_no F (-6) A) fun r15 A15 =>
      some (r15, A15)
  else
    rz_b (x142_no F (-6) A) fun r16 A16 =>
    some (r16, A16)
theorem cx190_base_86 {d : Nat} (F : Nat) : ∀ (v1 : Int) (v2 : Int) (v3 : Int) (v4 : Int) (A : rz_A) (r : Int) (A' : rz_A), x190_base_86 F v1 v2 v3 v4 A = some (r, A') → r32 v1 → r32 v2 → r32 v3 → r32 v4 → wf A → rz_B (d + 1) 190 86 [some (.ref 91), some (vI v1), some (vI v2), some (vI v3), some (vI v4)] [] A (some (vI r)) A' (r32 r) := by
  intro v1 v2 v3 v4 A r A' h hv1 hv2 hv3 hv4 hw
  unfold x190_base_86 at h
  refine rz_B.go 3 (pc' := if decide (Int32.ofInt 99999 < Int32.ofInt v3) = true then 107 else 93) (L' := [some (.ref 91), some (vI v1), some (vI v2), some (vI v3), some (vI v4)]) (S' := []) rfl ?_
  by_cases hc1 : v3 ≤ 99999
  · have h := if_T h hc1
    refine rz_B.ifF (mt (lt32 (by decide) hv3).mp (Int.not_lt.mpr hc1)) ?_
    refine rz_B.go 3 (pc' := if decide (Int32.ofInt 99999 < Int32.ofInt v4) = true then 107 else 101) (L' := [some (.ref 91), some (vI v1), some (vI v2), some (vI v3), some (vI v4)]) (S' := []) rfl ?_
    by_cases hc2 : v4 ≤ 99999
    · have h := if_T h hc2
      refine rz_B.ifF (mt (lt32 (by decide) hv4).mp (Int.not_lt.mpr hc2)) ?_
      refine rz_B.go 3 (pc' := if decide (¬ Int32.ofInt v2 = Int32.ofInt 8) = true then 114 else 107) (L' := [some (.ref 91), some (vI v1), some (vI v2), some (vI v3), some (vI v4)]) (S' := []) rfl ?_
      by_cases hc3 : v2 = 8
      · have h := if_T h hc3
        refine rz_B.ifF (fun hn => hn ((eq32 hv2 (by decide)).mpr hc3)) ?_
        refine rz_B.go 2 (pc' := 110) (L' := [some (.ref 91), some (vI v1), some (vI v2), some (vI v3), some (vI v4)]) (S' := [vI (-6), .ref 91]) rfl ?_
        obtain ⟨r4, A4, hf4, h⟩ := rz_b_inv h
        obtain ⟨hg4, hr4, hw4⟩ := cx142_no F (d := d + 0) hf4 (by decide) hw
        refine rz_B.call (d := d + 0) (as := [.ref 91, vI (-6)]) (rest := []) (w := some (vI r4)) rfl hg4 ?_
        cases h
        exact rz_B.ret rfl hr4 hw4
      · have h := if_F h hc3
        refine rz_B.ifT (mt (eq32 hv2 (by decide)).mp hc3) ?_
        refine rz_B.go 4 (pc' := 121) (L' := [some (.ref 91), some (vI v1), some (vI v2), some (vI v3), some (vI v4)]) (S' := [vI v1, vI 8, .ref 98]) rfl ?_
        obtain ⟨hk5, h⟩ := rz_g32_inv h
        refine rz_B.imul rfl ?_
        refine rz_B.go 1 (pc' := 123) (L' := [some (.ref 91), some (vI v1), some (vI v2), some (vI v3), some (vI v4)]) (S' := [vI v2, vI (8 * v1), .ref 98]) rfl ?_
        obtain ⟨hk6, h⟩ := rz_g32_inv h
        refine rz_B.iadd rfl ?_
        refine rz_B.go 1 (pc' := 125) (L' := [some (.ref 91), some (vI v1), some (vI v2), some (vI v3), some (vI v4)]) (S' := [vI v3, vI ((8 * v1) + v2), .ref 98]) rfl ?_
        obtain ⟨hi7, hj8, h⟩ := rz_gx_inv h
        refine rz_B.iast rfl rfl hi7 hj8 (by decide) ?_
        have hw9 : wf (aI A 98 (((8 * v1) + v2)).toNat v3) := wf_aI hw hv3
        refine rz_B.go 4 (pc' := 133) (L' := [some (.ref 91), some (vI v1), some (vI v2), some (vI v3), some (vI v4)]) (S' := [vI v1, vI 8, .ref 99]) rfl ?_
        refine rz_B.imul rfl ?_
        refine rz_B.go 1 (pc' := 135) (L' := [some (.ref 91), some (vI v1), some (vI v2), some (vI v3), some (vI v4)]) (S' := [vI v2, vI (8 * v1), .ref 99]) rfl ?_
        refine rz_B.iadd rfl ?_
        refine rz_B.go 1 (pc' := 138) (L' := [some (.ref 91), some (vI v1), some (vI v2), some (vI v3), some (vI v4)]) (S' := [vI v4, vI ((8 * v1) + v2), .ref 99]) rfl ?_
        refine rz_B.iast rfl rfl hi7 hj8 (by decide) ?_
        have hw10 : wf (aI (aI A 98 (((8 * v1) + v2)).toNat v3) 99 (((8 * v1) + v2)).toNat v4) := wf_aI hw9 hv4
        refine rz_B.go 5 (pc' := 146) (L' := [some (.ref 91), some (vI v1), some (vI v2), some (vI v3), some (vI v4)]) (S' := [vI 1, vI v2, vI v1, .ref 96]) rfl ?_
        obtain ⟨hk11, h⟩ := rz_g32_inv h
        refine rz_B.iadd rfl ?_
        obtain ⟨hi12, hj13, h⟩ := rz_gx_inv h
        refine rz_B.iast rfl rfl hi12 hj13 (by decide) ?_
        have hw14 : wf (aI (aI (aI A 98 (((8 * v1) + v2)).toNat v3) 99 (((8 * v1) + v2)).toNat v4) 96 (v1).toNat (v2 + 1)) := wf_aI hw10 hk11
        refine rz_B.go 2 (pc' := 150) (L' := [some (.ref 91), some (vI v1), some (vI v2), some (vI v3), some (vI v4)]) (S' := [vI 1, vI v2]) rfl ?_
        refine rz_B.iadd rfl ?_
        cases h
        exact rz_B.ret rfl hk11 hw14
    · have h := if_F h hc2
      refine rz_B.ifT ((lt32 (by decide) hv4).mpr (Int.not_le.mp hc2)) ?_
      refine rz_B.go 2 (pc' := 110) (L' := [some (.ref 91), some (vI v1), some (vI v2), some (vI v3), some (vI v4)]) (S' := [vI (-6), .ref 91]) rfl ?_
      obtain ⟨r15, A15, hf15, h⟩ := rz_b_inv h
      obtain ⟨hg15, hr15, hw15⟩ := cx142_no F (d := d + 0) hf15 (by decide) hw
      refine rz_B.call (d := d + 0) (as := [.ref 91, vI (-6)]) (rest := []) (w := some (vI r15)) rfl hg15 ?_
      cases h
      exact rz_B.ret rfl hr15 hw15
  · have h := if_F h hc1
    refine rz_B.ifT ((lt32 (by decide) hv3).mpr (Int.not_le.mp hc1)) ?_
    refine rz_B.go 2 (pc' := 110) (L' := [some (.ref 91), some (vI v1), some (vI v2), some (vI v3), some (vI v4)]) (S' := [vI (-6), .ref 91]) rfl ?_
    obtain ⟨r16, A16, hf16, h⟩ := rz_b_inv h
    obtain ⟨hg16, hr16, hw16⟩ := cx142_no F (d := d + 0) hf16 (by decide) hw
    refine rz_B.call (d := d + 0) (as := [.ref 91, vI (-6)]) (rest := []) (w := some (vI r16)) rfl hg16 ?_
    cases h
    exact rz_B.ret rfl hr16 hw16
/-- RiverGaugeModel.base(IIII)I -/
def x190_base (F : Nat) (a0 : Int) (a1 : Int) (a2 : Int) (a3 : Int) (A : rz_A) : Option (Int × rz_A) :=
  rz_b (x145_isPost F a0 A) fun r1 A1 =>
  if r1 = 0 then
    rz_b (x142_no F (-1) A1) fun r3 A3 =>
    some (r3, A3)
  else
    if 0 ≤ a1 then
      rz_gx a0 6 <|
      if (A1.1 96 (a0).toNat) < a1 then
        rz_b (x142_no F (-1) A1) fun r8 A8 =>
        some (r8, A8)
      else
        if (-9999) ≤ a2 then
          if 0 ≤ a3 then
            if 0 < a1 then
              rz_g32 (8 * a0) <|
              rz_g32 ((8 * a0) + a1) <|
              rz_g32 (((8 * a0) + a1) - 1) <|
              rz_gx (((8 * a0) + a1) - 1) 48 <|
              if (A1.1 98 ((((8 * a0) + a1) - 1)).toNat) < a2 then
                if a3 < (A1.1 99 ((((8 * a0) + a1) - 1)).toNat) then
                  rz_b (x142_no F (-4) A1) fun r19 A19 =>
                  some (r19, A19)
                else
                  x190_base_86 F a0 a1 a2 a3 A1
              else
                rz_b (x142_no F (-4) A1) fun r20 A20 =>
                some (r20, A20)
            else
              x190_base_86 F a0 a1 a2 a3 A1
          else
            rz_b (x142_no F (-4) A1) fun r21 A21 =>
            some (r21, A21)
        else
          rz_b (x142_no F (-4) A1) fun r22 A22 =>
          some (r22, A22)
    else
      rz_b (x142_no F (-1) A1) fun r23 A23 =>
      some (r23, A23)
theorem cx190_base (F : Nat) {d : Nat} {a0 : Int} {a1 : Int} {a2 : Int} {a3 : Int} {A : rz_A} {r : Int} {A' : rz_A} (h : x190_base F a0 a1 a2 a3 A = some (r, A')) (ha0 : r32 a0) (ha1 : r32 a1) (ha2 : r32 a2) (ha3 : r32 a3) (hw : wf A) : rg_Rn (d + 1) 190 [.ref 91, vI a0, vI a1, vI a2, vI a3] (toM A) (some (vI r)) (toM A') ∧ (r32 r) ∧ wf A' := by
  show rz_B (d + 1) 190 0 [some (.ref 91), some (vI a0), some (vI a1), some (vI a2), some (vI a3)] [] A (some (vI r)) A' (r32 r)
  unfold x190_base at h
  refine rz_B.go 2 (pc' := 2) (L' := [some (.ref 91), some (vI a0), some (vI a1), some (vI a2), some (vI a3)]) (S' := [vI a0, .ref 91]) rfl ?_
  obtain ⟨r1, A1, hf1, h⟩ := rz_b_inv h
  obtain ⟨hg1, hr1, hw1⟩ := cx145_isPost F (d := d + 0) hf1 ha0 hw
  refine rz_B.call (d := d + 0) (as := [.ref 91, vI a0]) (rest := []) (w := some (vI r1)) rfl hg1 ?_
  refine rz_B.go 1 (pc' := if decide (Int32.ofInt r1 = Int32.ofInt 0) = true then 22 else 8) (L' := [some (.ref 91), some (vI a0), some (vI a1), some (vI a2), some (vI a3)]) (S' := []) rfl ?_
  by_cases hc2 : r1 = 0
  · have h := if_T h hc2
    refine rz_B.ifT ((eq32 hr1 (by decide)).mpr hc2) ?_
    refine rz_B.go 2 (pc' := 24) (L' := [some (.ref 91), some (vI a0), some (vI a1), some (vI a2), some (vI a3)]) (S' := [vI (-1), .ref 91]) rfl ?_
    obtain ⟨r3, A3, hf3, h⟩ := rz_b_inv h
    obtain ⟨hg3, hr3, hw3⟩ := cx142_no F (d := d + 0) hf3 (by decide) hw1
    refine rz_B.call (d := d + 0) (as := [.ref 91, vI (-1)]) (rest := []) (w := some (vI r3)) rfl hg3 ?_
    cases h
    exact rz_B.ret rfl hr3 hw3
  · have h := if_F h hc2
    refine rz_B.ifF (mt (eq32 hr1 (by decide)).mp hc2) ?_
    refine rz_B.go 2 (pc' := if decide (Int32.ofInt a1 < Int32.ofInt 0) = true then 22 else 12) (L' := [some (.ref 91), some (vI a0), some (vI a1), some (vI a2), some (vI a3)]) (S' := []) rfl ?_
    by_cases hc4 : 0 ≤ a1
    · have h := if_T h hc4
      refine rz_B.ifF (mt (lt32 ha1 (by decide)).mp (Int.not_lt.mpr hc4)) ?_
      refine rz_B.go 4 (pc' := 18) (L' := [some (.ref 91), some (vI a0), some (vI a1), some (vI a2), some (vI a3)]) (S' := [vI a0, .ref 96, vI a1]) rfl ?_
      obtain ⟨hi5, hj6, h⟩ := rz_gx_inv h
      refine rz_B.iald rfl rfl hi5 hj6 (by decide) ?_
      refine rz_B.go 1 (pc' := if decide (Int32.ofInt a1 ≤ Int32.ofInt (A1.1 96 (a0).toNat)) = true then 28 else 22) (L' := [some (.ref 91), some (vI a0), some (vI a1), some (vI a2), some (vI a3)]) (S' := []) rfl ?_
      by_cases hc7 : (A1.1 96 (a0).toNat) < a1
      · have h := if_T h hc7
        refine rz_B.ifF (mt (le32 ha1 (hw1 96 (a0).toNat).1).mp (Int.not_le.mpr hc7)) ?_
        refine rz_B.go 2 (pc' := 24) (L' := [some (.ref 91), some (vI a0), some (vI a1), some (vI a2), some (vI a3)]) (S' := [vI (-1), .ref 91]) rfl ?_
        obtain ⟨r8, A8, hf8, h⟩ := rz_b_inv h
        obtain ⟨hg8, hr8, hw8⟩ := cx142_no F (d := d + 0) hf8 (by decide) hw1
        refine rz_B.call (d := d + 0) (as := [.ref 91, vI (-1)]) (rest := []) (w := some (vI r8)) rfl hg8 ?_
        cases h
        exact rz_B.ret rfl hr8 hw8
      · have h := if_F h hc7
        refine rz_B.ifT ((le32 ha1 (hw1 96 (a0).toNat).1).mpr (Int.not_lt.mp hc7)) ?_
        refine rz_B.go 3 (pc' := if decide (Int32.ofInt a2 < Int32.ofInt (-9999)) = true then 79 else 35) (L' := [some (.ref 91), some (vI a0), some (vI a1), some (vI a2), some (vI a3)]) (S' := []) rfl ?_
        by_cases hc9 : (-9999) ≤ a2
        · have h := if_T h hc9
          refine rz_B.ifF (mt (lt32 ha2 (by decide)).mp (Int.not_lt.mpr hc9)) ?_
          refine rz_B.go 2 (pc' := if decide (Int32.ofInt a3 < Int32.ofInt 0) = true then 79 else 40) (L' := [some (.ref 91), some (vI a0), some (vI a1), some (vI a2), some (vI a3)]) (S' := []) rfl ?_
          by_cases hc10 : 0 ≤ a3
          · have h := if_T h hc10
            refine rz_B.ifF (mt (lt32 ha3 (by decide)).mp (Int.not_lt.mpr hc10)) ?_
            refine rz_B.go 2 (pc' := if decide (Int32.ofInt a1 ≤ Int32.ofInt 0) = true then 86 else 44) (L' := [some (.ref 91), some (vI a0), some (vI a1), some (vI a2), some (vI a3)]) (S' := []) rfl ?_
            by_cases hc11 : 0 < a1
            · have h := if_T h hc11
              refine rz_B.ifF (mt (le32 ha1 (by decide)).mp (Int.not_le.mpr hc11)) ?_
              refine rz_B.go 5 (pc' := 52) (L' := [some (.ref 91), some (vI a0), some (vI a1), some (vI a2), some (vI a3)]) (S' := [vI a0, vI 8, .ref 98, vI a2]) rfl ?_
              obtain ⟨hk12, h⟩ := rz_g32_inv h
              refine rz_B.imul rfl ?_
              refine rz_B.go 1 (pc' := 54) (L' := [some (.ref 91), some (vI a0), some (vI a1), some (vI a2), some (vI a3)]) (S' := [vI a1, vI (8 * a0), .ref 98, vI a2]) rfl ?_
              obtain ⟨hk13, h⟩ := rz_g32_inv h
              refine rz_B.iadd rfl ?_
              refine rz_B.go 1 (pc' := 56) (L' := [some (.ref 91), some (vI a0), some (vI a1), some (vI a2), some (vI a3)]) (S' := [vI 1, vI ((8 * a0) + a1), .ref 98, vI a2]) rfl ?_
              obtain ⟨hk14, h⟩ := rz_g32_inv h
              refine rz_B.isub rfl ?_
              obtain ⟨hi15, hj16, h⟩ := rz_gx_inv h
              refine rz_B.iald rfl rfl hi15 hj16 (by decide) ?_
              refine rz_B.go 1 (pc' := if decide (Int32.ofInt a2 ≤ Int32.ofInt (A1.1 98 ((((8 * a0) + a1) - 1)).toNat)) = true then 79 else 61) (L' := [some (.ref 91), some (vI a0), some (vI a1), some (vI a2), some (vI a3)]) (S' := []) rfl ?_
              by_cases hc17 : (A1.1 98 ((((8 * a0) + a1) - 1)).toNat) < a2
              · have h := if_T h hc17
                refine rz_B.ifF (mt (le32 ha2 (hw1 98 ((((8 * a0) + a1) - 1)).toNat).1).mp (Int.not_le.mpr hc17)) ?_
                refine rz_B.go 5 (pc' := 70) (L' := [some (.ref 91), some (vI a0), some (vI a1), some (vI a2), some (vI a3)]) (S' := [vI a0, vI 8, .ref 99, vI a3]) rfl ?_
                refine rz_B.imul rfl ?_
                refine rz_B.go 1 (pc' := 72) (L' := [some (.ref 91), some (vI a0), some (vI a1), some (vI a2), some (vI a3)]) (S' := [vI a1, vI (8 * a0), .ref 99, vI a3]) rfl ?_
                refine rz_B.iadd rfl ?_
                refine rz_B.go 1 (pc' := 74) (L' := [some (.ref 91), some (vI a0), some (vI a1), some (vI a2), some (vI a3)]) (S' := [vI 1, vI ((8 * a0) + a1), .ref 99, vI a3]) rfl ?_
                refine rz_B.isub rfl ?_
                refine rz_B.iald rfl rfl hi15 hj16 (by decide) ?_
                refine rz_B.go 1 (pc' := if decide (Int32.ofInt (A1.1 99 ((((8 * a0) + a1) - 1)).toNat) ≤ Int32.ofInt a3) = true then 86 else 79) (L' := [some (.ref 91), some (vI a0), some (vI a1), some (vI a2), some (vI a3)]) (S' := []) rfl ?_
                by_cases hc18 : a3 < (A1.1 99 ((((8 * a0) + a1) - 1)).toNat)
                · have h := if_T h hc18
                  refine rz_B.ifF (mt (le32 (hw1 99 ((((8 * a0) + a1) - 1)).toNat).1 ha3).mp (Int.not_le.mpr hc18)) ?_
                  refine rz_B.go 2 (pc' := 82) (L' := [some (.ref 91), some (vI a0), some (vI a1), some (vI a2), some (vI a3)]) (S' := [vI (-4), .ref 91]) rfl ?_
                  obtain ⟨r19, A19, hf19, h⟩ := rz_b_inv h
                  obtain ⟨hg19, hr19, hw19⟩ := cx142_no F (d := d + 0) hf19 (by decide) hw1
                  refine rz_B.call (d := d + 0) (as := [.ref 91, vI (-4)]) (rest := []) (w := some (vI r19)) rfl hg19 ?_
                  cases h
                  exact rz_B.ret rfl hr19 hw19
                · have h := if_F h hc18
                  refine rz_B.ifT ((le32 (hw1 99 ((((8 * a0) + a1) - 1)).toNat).1 ha3).mpr (Int.not_lt.mp hc18)) ?_
                  refine rz_B.more (rg_le_ok (L := [some (.ref 91), some (vI a0), some (vI a1), some (vI a2), some (vI a3)]) (by simp [rg_le])) ?_
                  exact cx190_base_86 F _ _ _ _ _ _ _ h ha0 ha1 ha2 ha3 hw1
              · have h := if_F h hc17
                refine rz_B.ifT ((le32 ha2 (hw1 98 ((((8 * a0) + a1) - 1)).toNat).1).mpr (Int.not_lt.mp hc17)) ?_
                refine rz_B.go 2 (pc' := 82) (L' := [some (.ref 91), some (vI a0), some (vI a1), some (vI a2), some (vI a3)]) (S' := [vI (-4), .ref 91]) rfl ?_
                obtain ⟨r20, A20, hf20, h⟩ := rz_b_inv h
                obtain ⟨hg20, hr20, hw20⟩ := cx142_no F (d := d + 0) hf20 (by decide) hw1
                refine rz_B.call (d := d + 0) (as := [.ref 91, vI (-4)]) (rest := []) (w := some (vI r20)) rfl hg20 ?_
                cases h
                exact rz_B.ret rfl hr20 hw20
            · have h := if_F h hc11
              refine rz_B.ifT ((le32 ha1 (by decide)).mpr (Int.not_lt.mp hc11)) ?_
              refine rz_B.more (rg_le_ok (L := [some (.ref 91), some (vI a0), some (vI a1), some (vI a2), some (vI a3)]) (by simp [rg_le])) ?_
              exact cx190_base_86 F _ _ _ _ _ _ _ h ha0 ha1 ha2 ha3 hw1
          · have h := if_F h hc10
            refine rz_B.ifT ((lt32 ha3 (by decide)).mpr (Int.not_le.mp hc10)) ?_
            refine rz_B.go 2 (pc' := 82) (L' := [some (.ref 91), some (vI a0), some (vI a1), some (vI a2), some (vI a3)]) (S' := [vI (-4), .ref 91]) rfl ?_
            obtain ⟨r21, A21, hf21, h⟩ := rz_b_inv h
            obtain ⟨hg21, hr21, hw21⟩ := cx142_no F (d := d + 0) hf21 (by decide) hw1
            refine rz_B.call (d := d + 0) (as := [.ref 91, vI (-4)]) (rest := []) (w := some (vI r21)) rfl hg21 ?_
            cases h
            exact rz_B.ret rfl hr21 hw21
        · have h := if_F h hc9
          refine rz_B.ifT ((lt32 ha2 (by decide)).mpr (Int.not_le.mp hc9)) ?_
          refine rz_B.go 2 (pc' := 82) (L' := [some (.ref 91), some (vI a0), some (vI a1), some (vI a2), some (vI a3)]) (S' := [vI (-4), .ref 91]) rfl ?_
          obtain ⟨r22, A22, hf22, h⟩ := rz_b_inv h
          obtain ⟨hg22, hr22, hw22⟩ := cx142_no F (d := d + 0) hf22 (by decide) hw1
          refine rz_B.call (d := d + 0) (as := [.ref 91, vI (-4)]) (rest := []) (w := some (vI r22)) rfl hg22 ?_
          cases h
          exact rz_B.ret rfl hr22 hw22
    · have h := if_F h hc4
      refine rz_B.ifT ((lt32 ha1 (by decide)).mpr (Int.not_le.mp hc4)) ?_
      refine rz_B.go 2 (pc' := 24) (L' := [some (.ref 91), some (vI a0), some (vI a1), some (vI a2), some (vI a3)]) (S' := [vI (-1), .ref 91]) rfl ?_
      obtain ⟨r23, A23, hf23, h⟩ := rz_b_inv h
      obtain ⟨hg23, hr23, hw23⟩ := cx142_no F (d := d + 0) hf23 (by decide) hw1
      refine rz_B.call (d := d + 0) (as := [.ref 91, vI (-1)]) (rest := []) (w := some (vI r23)) rfl hg23 ?_
      cases h
      exact rz_B.ret rfl hr23 hw23
def x192_gathers_120 (F : Nat) (k9 : (Int → Int → Int → rz_A → Option (Unit × rz_A))) (v1 : Int) (v4 : Int) (A : rz_A) : Option (Unit × rz_A) :=
  if v4 < 0 then
    some ((), A)
  else
    rz_gx v4 60 <|
    rz_b (x166_isIn F v4 (A.1 91 0) A) fun r4 A4 =>
    rz_gx (A4.1 91 80) 8 <|
    rz_g32 ((A4.1 91 80) + 1) <|
    k9 v1 v4 (A.1 111 (v4).toNat) (aI (aI (aI A4 144 ((A4.1 91 80)).toNat v4) 91 80 ((A4.1 91 80) + 1)) 145 ((A4.1 91 80)).toNat (A4.1 91 54))
theorem cx192_gathers_120 {d : Nat} (F : Nat) {k9 : (Int → Int → Int → rz_A → Option (Unit × rz_A))} (hkk9 : ∀ (v1 : Int) (v2 : Int) (v3 : Int) (A : rz_A) (r : Unit) (A' : rz_A), k9 v1 v2 v3 A = some (r, A') → r32 v1 → r32 v2 → r32 v3 → wf A → rz_B (d + 6) 192 9 [some (.ref 91), some (vI v1), some (vI v2), some (vI v3), none, none] [] A (none) A' (True)) : ∀ (v1 : Int) (v4 : Int) (A : rz_A) (r : Unit) (A' : rz_A), x192_gathers_120 F k9 v1 v4 A = some (r, A') → r32 v1 → r32 v4 → wf A → rz_B (d + 6) 192 120 [some (.ref 91), some (vI v1), none, none, some (vI v4), none] [] A (none) A' (True) := by
  intro v1 v4 A r A' h hv1 hv4 hw
  unfold x192_gathers_120 at h
  refine rz_B.go 2 (pc' := if decide (Int32.ofInt 0 ≤ Int32.ofInt v4) = true then 126 else 125) (L' := [some (.ref 91), some (vI v1), none, none, some (vI v4), none]) (S' := []) rfl ?_
  by_cases hc1 : v4 < 0
  · have h := if_T h hc1
    refine rz_B.ifF (mt (le32 (by decide) hv4).mp (Int.not_le.mpr hc1)) ?_
    cases h
    exact rz_B.ret rfl trivial hw
  · have h := if_F h hc1
    refine rz_B.ifT ((le32 (by decide) hv4).mpr (Int.not_lt.mp hc1)) ?_
    refine rz_B.go 5 (pc' := 135) (L' := [some (.ref 91), some (vI v1), some (vI v4), none, some (vI v4), none]) (S' := [vI v4, .ref 111]) rfl ?_
    obtain ⟨hi2, hj3, h⟩ := rz_gx_inv h
    refine rz_B.iald rfl rfl hi2 hj3 (by decide) ?_
    refine rz_B.go 5 (pc' := 144) (L' := [some (.ref 91), some (vI v1), some (vI v4), some (vI (A.1 111 (v4).toNat)), some (vI v4), none]) (S' := [vI (A.1 91 0), vI v4, .ref 91]) rfl ?_
    obtain ⟨r4, A4, hf4, h⟩ := rz_b_inv h
    obtain ⟨hg4, hr4, hw4⟩ := cx166_isIn F (d := d + 0) hf4 hv4 (hw 91 0).1 hw
    refine rz_B.call (d := d + 5) (as := [.ref 91, vI v4, vI (A.1 91 0)]) (rest := []) (w := some (vI r4)) rfl hg4 ?_
    refine rz_B.go 6 (pc' := 158) (L' := [some (.ref 91), some (vI v1), some (vI v4), some (vI (A.1 111 (v4).toNat)), some (vI v4), none]) (S' := [vI v4, vI (A4.1 91 80), .ref 144]) rfl ?_
    obtain ⟨hi5, hj6, h⟩ := rz_gx_inv h
    refine rz_B.iast rfl rfl hi5 hj6 (by decide) ?_
    have hw7 : wf (aI A4 144 ((A4.1 91 80)).toNat v4) := wf_aI hw4 hv4
    refine rz_B.go 7 (pc' := 170) (L' := [some (.ref 91), some (vI v1), some (vI v4), some (vI (A.1 111 (v4).toNat)), some (vI v4), none]) (S' := [vI 1, vI (A4.1 91 80), .ref 91, vI (A4.1 91 80), .ref 145]) rfl ?_
    obtain ⟨hk8, h⟩ := rz_g32_inv h
    refine rz_B.iadd rfl ?_
    refine rz_B.put 1 (pc' := 174) (L' := [some (.ref 91), some (vI v1), some (vI v4), some (vI (A.1 111 (v4).toNat)), some (vI v4), none]) (S' := [vI (A4.1 91 80), .ref 145]) (c := 91) (k := 80) (x := ((A4.1 91 80) + 1)) rfl ?_
    have hw9 : wf (aI (aI A4 144 ((A4.1 91 80)).toNat v4) 91 80 ((A4.1 91 80) + 1)) := wf_aI hw7 hk8
    refine rz_B.go 2 (pc' := 178) (L' := [some (.ref 91), some (vI v1), some (vI v4), some (vI (A.1 111 (v4).toNat)), some (vI v4), none]) (S' := [vI (A4.1 91 54), vI (A4.1 91 80), .ref 145]) rfl ?_
    refine rz_B.iast rfl rfl hi5 hj6 (by decide) ?_
    have hw10 : wf (aI (aI (aI A4 144 ((A4.1 91 80)).toNat v4) 91 80 ((A4.1 91 80) + 1)) 145 ((A4.1 91 80)).toNat (A4.1 91 54)) := wf_aI hw9 (hw4 91 54).1
    refine rz_B.go 1 (pc' := 9) (L' := [some (.ref 91), some (vI v1), some (vI v4), some (vI (A.1 111 (v4).toNat)), some (vI v4), none]) (S' := []) rfl ?_
    refine rz_B.more (rg_le_ok (L := [some (.ref 91), some (vI v1), some (vI v4), some (vI (A.1 111 (v4).toNat)), none, none]) (by simp [rg_le])) ?_
    exact hkk9 _ _ _ _ _ _ h hv1 hv4 (hw 111 (v4).toNat).1 hw10
def x192_gathers_72 (F : Nat) (k24 : (Int → Int → Int → Int → Int → rz_A → Option (Unit × rz_A))) (v1 : Int) (v2 : Int) (v3 : Int) (v4 : Int) (v5 : Int) (A : rz_A) : Option (Unit × rz_A) :=
  if 0 ≤ v4 then
    rz_gx v5 60 <|
    rz_gx v4 60 <|
    if (A.1 111 (v5).toNat) < (A.1 111 (v4).toNat) then
      rz_b (x166_isIn F v5 (A.1 91 0) A) fun r7 A7 =>
      if r7 = 0 then
        rz_g32 (v5 + 1) <|
        k24 v1 v2 v3 v4 (v5 + 1) A7
      else
        rz_g32 (v5 + 1) <|
        k24 v1 v2 v3 v5 (v5 + 1) A7
    else
      rz_g32 (v5 + 1) <|
      k24 v1 v2 v3 v4 (v5 + 1) A
  else
    rz_b (x166_isIn F v5 (A.1 91 0) A) fun r12 A12 =>
    if r12 = 0 then
      rz_g32 (v5 + 1) <|
      k24 v1 v2 v3 v4 (v5 + 1) A12
    else
      rz_g32 (v5 + 1) <|
      k24 v1 v2 v3 v5 (v5 + 1) A12
theorem cx192_gathers_72 {d : Nat} (F : Nat) {k24 : (Int → Int → Int → Int → Int → rz_A → Option (Unit × rz_A))} (hkk24 : ∀ (v1 : Int) (v2 : Int) (v3 : Int) (v4 : Int) (v5 : Int) (A : rz_A) (r : Unit) (A' : rz_A), k24 v1 v2 v3 v4 v5 A = some (r, A') → r32 v1 → r32 v2 → r32 v3 → r32 v4 → r32 v5 → wf A → rz_B (d + 6) 192 24 [some (.ref 91), some (vI v1), some (vI v2), some (vI v3), some (vI v4), some (vI v5)] [] A (none) A' (True)) : ∀ (v1 : Int) (v2 : Int) (v3 : Int) (v4 : Int) (v5 : Int) (A : rz_A) (r : Unit) (A' : rz_A), x192_gathers_72 F k24 v1 v2 v3 v4 v5 A = some (r, A') → r32 v1 → r32 v2 → r32 v3 → r32 v4 → r32 v5 → wf A → rz_B (d + 6) 192 72 [some (.ref 91), some (vI v1), some (vI v2), some (vI v3), some (vI v4), some (vI v5)] [] A (none) A' (True) := by
  intro v1 v2 v3 v4 v5 A r A' h hv1 hv2 hv3 hv4 hv5 hw
  unfold x192_gathers_72 at h
  refine rz_B.go 2 (pc' := if decide (Int32.ofInt v4 < Int32.ofInt 0) = true then 94 else 77) (L' := [some (.ref 91), some (vI v1), some (vI v2), some (vI v3), some (vI v4), some (vI v5)]) (S' := []) rfl ?_
  by_cases hc1 : 0 ≤ v4
  · have h := if_T h hc1
    refine rz_B.ifF (mt (lt32 hv4 (by decide)).mp (Int.not_lt.mpr hc1)) ?_
    refine rz_B.go 3 (pc' := 83) (L' := [some (.ref 91), some (vI v1), some (vI v2), some (vI v3), some (vI v4), some (vI v5)]) (S' := [vI v5, .ref 111]) rfl ?_
    obtain ⟨hi2, hj3, h⟩ := rz_gx_inv h
    refine rz_B.iald rfl rfl hi2 hj3 (by decide) ?_
    refine rz_B.go 3 (pc' := 90) (L' := [some (.ref 91), some (vI v1), some (vI v2), some (vI v3), some (vI v4), some (vI v5)]) (S' := [vI v4, .ref 111, vI (A.1 111 (v5).toNat)]) rfl ?_
    obtain ⟨hi4, hj5, h⟩ := rz_gx_inv h
    refine rz_B.iald rfl rfl hi4 hj5 (by decide) ?_
    refine rz_B.go 1 (pc' := if decide (Int32.ofInt (A.1 111 (v4).toNat) ≤ Int32.ofInt (A.1 111 (v5).toNat)) = true then 114 else 94) (L' := [some (.ref 91), some (vI v1), some (vI v2), some (vI v3), some (vI v4), some (vI v5)]) (S' := []) rfl ?_
    by_cases hc6 : (A.1 111 (v5).toNat) < (A.1 111 (v4).toNat)
    · have h := if_T h hc6
      refine rz_B.ifF (mt (le32 (hw 111 (v4).toNat).1 (hw 111 (v5).toNat).1).mp (Int.not_le.mpr hc6)) ?_
      refine rz_B.go 4 (pc' := 101) (L' := [some (.ref 91), some (vI v1), some (vI v2), some (vI v3), some (vI v4), some (vI v5)]) (S' := [vI (A.1 91 0), vI v5, .ref 91]) rfl ?_
      obtain ⟨r7, A7, hf7, h⟩ := rz_b_inv h
      obtain ⟨hg7, hr7, hw7⟩ := cx166_isIn F (d := d + 0) hf7 hv5 (hw 91 0).1 hw
      refine rz_B.call (d := d + 5) (as := [.ref 91, vI v5, vI (A.1 91 0)]) (rest := []) (w := some (vI r7)) rfl hg7 ?_
      refine rz_B.go 1 (pc' := if decide (¬ Int32.ofInt r7 = Int32.ofInt 0) = true then 110 else 107) (L' := [some (.ref 91), some (vI v1), some (vI v2), some (vI v3), some (vI v4), some (vI v5)]) (S' := []) rfl ?_
      by_cases hc8 : r7 = 0
      · have h := if_T h hc8
        refine rz_B.ifF (fun hn => hn ((eq32 hr7 (by decide)).mpr hc8)) ?_
        refine rz_B.go 1 (pc' := 114) (L' := [some (.ref 91), some (vI v1), some (vI v2), some (vI v3), some (vI v4), some (vI v5)]) (S' := []) rfl ?_
        obtain ⟨hk9, h⟩ := rz_g32_inv h
        refine rz_B.iinc rfl (by decide) rfl (L' := [some (.ref 91), some (vI v1), some (vI v2), some (vI v3), some (vI v4), some (vI (v5 + 1))]) rfl ?_
        refine rz_B.go 1 (pc' := 24) (L' := [some (.ref 91), some (vI v1), some (vI v2), some (vI v3), some (vI v4), some (vI (v5 + 1))]) (S' := []) rfl ?_
        refine rz_B.more (rg_le_ok (L := [some (.ref 91), some (vI v1), some (vI v2), some (vI v3), some (vI v4), some (vI (v5 + 1))]) (by simp [rg_le])) ?_
        exact hkk24 _ _ _ _ _ _ _ _ h hv1 hv2 hv3 hv4 hk9 hw7
      · have h := if_F h hc8
        refine rz_B.ifT (mt (eq32 hr7 (by decide)).mp hc8) ?_
        refine rz_B.go 2 (pc' := 114) (L' := [some (.ref 91), some (vI v1), some (vI v2), some (vI v3), some (vI v5), some (vI v5)]) (S' := []) rfl ?_
        obtain ⟨hk10, h⟩ := rz_g32_inv h
        refine rz_B.iinc rfl (by decide) rfl (L' := [some (.ref 91), some (vI v1), some (vI v2), some (vI v3), some (vI v5), some (vI (v5 + 1))]) rfl ?_
        refine rz_B.go 1 (pc' := 24) (L' := [some (.ref 91), some (vI v1), some (vI v2), some (vI v3), some (vI v5), some (vI (v5 + 1))]) (S' := []) rfl ?_
        refine rz_B.more (rg_le_ok (L := [some (.ref 91), some (vI v1), some (vI v2), some (vI v3), some (vI v5), some (vI (v5 + 1))]) (by simp [rg_le])) ?_
        exact hkk24 _ _ _ _ _ _ _ _ h hv1 hv2 hv3 hv5 hk10 hw7
    · have h := if_F h hc6
      refine rz_B.ifT ((le32 (hw 111 (v4).toNat).1 (hw 111 (v5).toNat).1).mpr (Int.not_lt.mp hc6)) ?_
      obtain ⟨hk11, h⟩ := rz_g32_inv h
      refine rz_B.iinc rfl (by decide) rfl (L' := [some (.ref 91), some (vI v1), some (vI v2), some (vI v3), some (vI v4), some (vI (v5 + 1))]) rfl ?_
      refine rz_B.go 1 (pc' := 24) (L' := [some (.ref 91), some (vI v1), some (vI v2), some (vI v3), some (vI v4), some (vI (v5 + 1))]) (S' := []) rfl ?_
      refine rz_B.more (rg_le_ok (L := [some (.ref 91), some (vI v1), some (vI v2), some (vI v3), some (vI v4), some (vI (v5 + 1))]) (by simp [rg_le])) ?_
      exact hkk24 _ _ _ _ _ _ _ _ h hv1 hv2 hv3 hv4 hk11 hw
  · have h := if_F h hc1
    refine rz_B.ifT ((lt32 hv4 (by decide)).mpr (Int.not_le.mp hc1)) ?_
    refine rz_B.go 4 (pc' := 101) (L' := [some (.ref 91), some (vI v1), some (vI v2), some (vI v3), some (vI v4), some (vI v5)]) (S' := [vI (A.1 91 0), vI v5, .ref 91]) rfl ?_
    obtain ⟨r12, A12, hf12, h⟩ := rz_b_inv h
    obtain ⟨hg12, hr12, hw12⟩ := cx166_isIn F (d := d + 0) hf12 hv5 (hw 91 0).1 hw
    refine rz_B.call (d := d + 5) (as := [.ref 91, vI v5, vI (A.1 91 0)]) (rest := []) (w := some (vI r12)) rfl hg12 ?_
    refine rz_B.go 1 (pc' := if decide (¬ Int32.ofInt r12 = Int32.ofInt 0) = true then 110 else 107) (L' := [some (.ref 91), some (vI v1), some (vI v2), some (vI v3), some (vI v4), some (vI v5)]) (S' := []) rfl ?_
    by_cases hc13 : r12 = 0
    · have h := if_T h hc13
      refine rz_B.ifF (fun hn => hn ((eq32 hr12 (by decide)).mpr hc13)) ?_
      refine rz_B.go 1 (pc' := 114) (L' := [some (.ref 91), some (vI v1), some (vI v2), some (vI v3), some (vI v4), some (vI v5)]) (S' := []) rfl ?_
      obtain ⟨hk14, h⟩ := rz_g32_inv h
      refine rz_B.iinc rfl (by decide) rfl (L' := [some (.ref 91), some (vI v1), some (vI v2), some (vI v3), some (vI v4), some (vI (v5 + 1))]) rfl ?_
      refine rz_B.go 1 (pc' := 24) (L' := [some (.ref 91), some (vI v1), some (vI v2), some (vI v3), some (vI v4), some (vI (v5 + 1))]) (S' := []) rfl ?_
      refine rz_B.more (rg_le_ok (L := [some (.ref 91), some (vI v1), some (vI v2), some (vI v3), some (vI v4), some (vI (v5 + 1))]) (by simp [rg_le])) ?_
      exact hkk24 _ _ _ _ _ _ _ _ h hv1 hv2 hv3 hv4 hk14 hw12
    · have h := if_F h hc13
      refine rz_B.ifT (mt (eq32 hr12 (by decide)).mp hc13) ?_
      refine rz_B.go 2 (pc' := 114) (L' := [some (.ref 91), some (vI v1), some (vI v2), some (vI v3), some (vI v5), some (vI v5)]) (S' := []) rfl ?_
      obtain ⟨hk15, h⟩ := rz_g32_inv h
      refine rz_B.iinc rfl (by decide) rfl (L' := [some (.ref 91), some (vI v1), some (vI v2), some (vI v3), some (vI v5), some (vI (v5 + 1))]) rfl ?_
      refine rz_B.go 1 (pc' := 24) (L' := [some (.ref 91), some (vI v1), some (vI v2), some (vI v3), some (vI v5), some (vI (v5 + 1))]) (S' := []) rfl ?_
      refine rz_B.more (rg_le_ok (L := [some (.ref 91), some (vI v1), some (vI v2), some (vI v3), some (vI v5), some (vI (v5 + 1))]) (by simp [rg_le])) ?_
      exact hkk24 _ _ _ _ _ _ _ _ h hv1 hv2 hv3 hv5 hk15 hw12
def x192_gathers_24 (F : Nat) (k9 : (Int → Int → Int → rz_A → Option (Unit × rz_A))) : Nat → Int → Int → Int → Int → Int → rz_A → Option (Unit × rz_A)
  | 0, _, _, _, _, _, _ => none
  | n + 1, v1, v2, v3, v4, v5, A =>
    if v5 < (A.1 91 4) then
      rz_gx v5 60 <|
      if (A.1 110 (v5).toNat) = v1 then
        if v3 ≤ (A.1 111 (v5).toNat) then
          if (A.1 111 (v5).toNat) = v3 then
            if v2 < v5 then
              x192_gathers_72 F (x192_gathers_24 F k9 n) v1 v2 v3 v4 v5 A
            else
              rz_g32 (v5 + 1) <|
              x192_gathers_24 F k9 n v1 v2 v3 v4 (v5 + 1) A
          else
            x192_gathers_72 F (x192_gathers_24 F k9 n) v1 v2 v3 v4 v5 A
        else
          rz_g32 (v5 + 1) <|
          x192_gathers_24 F k9 n v1 v2 v3 v4 (v5 + 1) A
      else
        rz_g32 (v5 + 1) <|
        x192_gathers_24 F k9 n v1 v2 v3 v4 (v5 + 1) A
    else
      x192_gathers_120 F k9 v1 v4 A
theorem cx192_gathers_24 {d : Nat} (F : Nat) {k9 : (Int → Int → Int → rz_A → Option (Unit × rz_A))} (hkk9 : ∀ (v1 : Int) (v2 : Int) (v3 : Int) (A : rz_A) (r : Unit) (A' : rz_A), k9 v1 v2 v3 A = some (r, A') → r32 v1 → r32 v2 → r32 v3 → wf A → rz_B (d + 6) 192 9 [some (.ref 91), some (vI v1), some (vI v2), some (vI v3), none, none] [] A (none) A' (True)) : ∀ (n : Nat) (v1 : Int) (v2 : Int) (v3 : Int) (v4 : Int) (v5 : Int) (A : rz_A) (r : Unit) (A' : rz_A), x192_gathers_24 F k9 n v1 v2 v3 v4 v5 A = some (r, A') → r32 v1 → r32 v2 → r32 v3 → r32 v4 → r32 v5 → wf A → rz_B (d + 6) 192 24 [some (.ref 91), some (vI v1), some (vI v2), some (vI v3), some (vI v4), some (vI v5)] [] A (none) A' (True) := by
  intro n
  induction n with
  | zero => intro v1 v2 v3 v4 v5 A r A' h; cases h
  | succ n ih =>
    intro v1 v2 v3 v4 v5 A r A' h hv1 hv2 hv3 hv4 hv5 hw
    rw [x192_gathers_24] at h
    refine rz_B.go 4 (pc' := if decide (Int32.ofInt (A.1 91 4) ≤ Int32.ofInt v5) = true then 120 else 33) (L' := [some (.ref 91), some (vI v1), some (vI v2), some (vI v3), some (vI v4), some (vI v5)]) (S' := []) rfl ?_
    by_cases hc1 : v5 < (A.1 91 4)
    · have h := if_T h hc1
      refine rz_B.ifF (mt (le32 (hw 91 4).1 hv5).mp (Int.not_le.mpr hc1)) ?_
      refine rz_B.go 3 (pc' := 39) (L' := [some (.ref 91), some (vI v1), some (vI v2), some (vI v3), some (vI v4), some (vI v5)]) (S' := [vI v5, .ref 110]) rfl ?_
      obtain ⟨hi2, hj3, h⟩ := rz_gx_inv h
      refine rz_B.iald rfl rfl hi2 hj3 (by decide) ?_
      refine rz_B.go 2 (pc' := if decide (¬ Int32.ofInt (A.1 110 (v5).toNat) = Int32.ofInt v1) = true then 114 else 44) (L' := [some (.ref 91), some (vI v1), some (vI v2), some (vI v3), some (vI v4), some (vI v5)]) (S' := []) rfl ?_
      by_cases hc4 : (A.1 110 (v5).toNat) = v1
      · have h := if_T h hc4
        refine rz_B.ifF (fun hn => hn ((eq32 (hw 110 (v5).toNat).1 hv1).mpr hc4)) ?_
        refine rz_B.go 3 (pc' := 50) (L' := [some (.ref 91), some (vI v1), some (vI v2), some (vI v3), some (vI v4), some (vI v5)]) (S' := [vI v5, .ref 111]) rfl ?_
        refine rz_B.iald rfl rfl hi2 hj3 (by decide) ?_
        refine rz_B.go 2 (pc' := if decide (Int32.ofInt (A.1 111 (v5).toNat) < Int32.ofInt v3) = true then 114 else 55) (L' := [some (.ref 91), some (vI v1), some (vI v2), some (vI v3), some (vI v4), some (vI v5)]) (S' := []) rfl ?_
        by_cases hc5 : v3 ≤ (A.1 111 (v5).toNat)
        · have h := if_T h hc5
          refine rz_B.ifF (mt (lt32 (hw 111 (v5).toNat).1 hv3).mp (Int.not_lt.mpr hc5)) ?_
          refine rz_B.go 3 (pc' := 61) (L' := [some (.ref 91), some (vI v1), some (vI v2), some (vI v3), some (vI v4), some (vI v5)]) (S' := [vI v5, .ref 111]) rfl ?_
          refine rz_B.iald rfl rfl hi2 hj3 (by decide) ?_
          refine rz_B.go 2 (pc' := if decide (¬ Int32.ofInt (A.1 111 (v5).toNat) = Int32.ofInt v3) = true then 72 else 66) (L' := [some (.ref 91), some (vI v1), some (vI v2), some (vI v3), some (vI v4), some (vI v5)]) (S' := []) rfl ?_
          by_cases hc6 : (A.1 111 (v5).toNat) = v3
          · have h := if_T h hc6
            refine rz_B.ifF (fun hn => hn ((eq32 (hw 111 (v5).toNat).1 hv3).mpr hc6)) ?_
            refine rz_B.go 3 (pc' := if decide (Int32.ofInt v5 ≤ Int32.ofInt v2) = true then 114 else 72) (L' := [some (.ref 91), some (vI v1), some (vI v2), some (vI v3), some (vI v4), some (vI v5)]) (S' := []) rfl ?_
            by_cases hc7 : v2 < v5
            · have h := if_T h hc7
              refine rz_B.ifF (mt (le32 hv5 hv2).mp (Int.not_le.mpr hc7)) ?_
              refine rz_B.more (rg_le_ok (L := [some (.ref 91), some (vI v1), some (vI v2), some (vI v3), some (vI v4), some (vI v5)]) (by simp [rg_le])) ?_
              exact cx192_gathers_72 F ih _ _ _ _ _ _ _ _ h hv1 hv2 hv3 hv4 hv5 hw
            · have h := if_F h hc7
              refine rz_B.ifT ((le32 hv5 hv2).mpr (Int.not_lt.mp hc7)) ?_
              obtain ⟨hk8, h⟩ := rz_g32_inv h
              refine rz_B.iinc rfl (by decide) rfl (L' := [some (.ref 91), some (vI v1), some (vI v2), some (vI v3), some (vI v4), some (vI (v5 + 1))]) rfl ?_
              refine rz_B.go 1 (pc' := 24) (L' := [some (.ref 91), some (vI v1), some (vI v2), some (vI v3), some (vI v4), some (vI (v5 + 1))]) (S' := []) rfl ?_
              refine rz_B.more (rg_le_ok (L := [some (.ref 91), some (vI v1), some (vI v2), some (vI v3), some (vI v4), some (vI (v5 + 1))]) (by simp [rg_le])) ?_
              exact ih _ _ _ _ _ _ _ _ h hv1 hv2 hv3 hv4 hk8 hw
          · have h := if_F h hc6
            refine rz_B.ifT (mt (eq32 (hw 111 (v5).toNat).1 hv3).mp hc6) ?_
            refine rz_B.more (rg_le_ok (L := [some (.ref 91), some (vI v1), some (vI v2), some (vI v3), some (vI v4), some (vI v5)]) (by simp [rg_le])) ?_
            exact cx192_gathers_72 F ih _ _ _ _ _ _ _ _ h hv1 hv2 hv3 hv4 hv5 hw
        · have h := if_F h hc5
          refine rz_B.ifT ((lt32 (hw 111 (v5).toNat).1 hv3).mpr (Int.not_le.mp hc5)) ?_
          obtain ⟨hk9, h⟩ := rz_g32_inv h
          refine rz_B.iinc rfl (by decide) rfl (L' := [some (.ref 91), some (vI v1), some (vI v2), some (vI v3), some (vI v4), some (vI (v5 + 1))]) rfl ?_
          refine rz_B.go 1 (pc' := 24) (L' := [some (.ref 91), some (vI v1), some (vI v2), some (vI v3), some (vI v4), some (vI (v5 + 1))]) (S' := []) rfl ?_
          refine rz_B.more (rg_le_ok (L := [some (.ref 91), some (vI v1), some (vI v2), some (vI v3), some (vI v4), some (vI (v5 + 1))]) (by simp [rg_le])) ?_
          exact ih _ _ _ _ _ _ _ _ h hv1 hv2 hv3 hv4 hk9 hw
      · have h := if_F h hc4
        refine rz_B.ifT (mt (eq32 (hw 110 (v5).toNat).1 hv1).mp hc4) ?_
        obtain ⟨hk10, h⟩ := rz_g32_inv h
        refine rz_B.iinc rfl (by decide) rfl (L' := [some (.ref 91), some (vI v1), some (vI v2), some (vI v3), some (vI v4), some (vI (v5 + 1))]) rfl ?_
        refine rz_B.go 1 (pc' := 24) (L' := [some (.ref 91), some (vI v1), some (vI v2), some (vI v3), some (vI v4), some (vI (v5 + 1))]) (S' := []) rfl ?_
        refine rz_B.more (rg_le_ok (L := [some (.ref 91), some (vI v1), some (vI v2), some (vI v3), some (vI v4), some (vI (v5 + 1))]) (by simp [rg_le])) ?_
        exact ih _ _ _ _ _ _ _ _ h hv1 hv2 hv3 hv4 hk10 hw
    · have h := if_F h hc1
      refine rz_B.ifT ((le32 (hw 91 4).1 hv5).mpr (Int.not_lt.mp hc1)) ?_
      refine rz_B.more (rg_le_ok (L := [some (.ref 91), some (vI v1), none, none, some (vI v4), none]) (by simp [rg_le])) ?_
      exact cx192_gathers_120 F hkk9 _ _ _ _ _ h hv1 hv4 hw
def x192_gathers_9 (F : Nat) : Nat → Int → Int → Int → rz_A → Option (Unit × rz_A)
  | 0, _, _, _, _ => none
  | n + 1, v1, v2, v3, A =>
    if (A.1 91 80) < 8 then
      x192_gathers_24 F (x192_gathers_9 F n) F v1 v2 v3 (-1) 0 A
    else
      some ((), A)
theorem cx192_gathers_9 {d : Nat} (F : Nat) : ∀ (n : Nat) (v1 : Int) (v2 : Int) (v3 : Int) (A : rz_A) (r : Unit) (A' : rz_A), x192_gathers_9 F n v1 v2 v3 A = some (r, A') → r32 v1 → r32 v2 → r32 v3 → wf A → rz_B (d + 6) 192 9 [some (.ref 91), some (vI v1), some (vI v2), some (vI v3), none, none] [] A (none) A' (True) := by
  intro n
  induction n with
  | zero => intro v1 v2 v3 A r A' h; cases h
  | succ n ih =>
    intro v1 v2 v3 A r A' h hv1 hv2 hv3 hw
    rw [x192_gathers_9] at h
    refine rz_B.go 4 (pc' := if decide (Int32.ofInt 8 ≤ Int32.ofInt (A.1 91 80)) = true then 182 else 18) (L' := [some (.ref 91), some (vI v1), some (vI v2), some (vI v3), none, none]) (S' := []) rfl ?_
    by_cases hc1 : (A.1 91 80) < 8
    · have h := if_T h hc1
      refine rz_B.ifF (mt (le32 (by decide) (hw 91 80).1).mp (Int.not_le.mpr hc1)) ?_
      refine rz_B.go 4 (pc' := 24) (L' := [some (.ref 91), some (vI v1), some (vI v2), some (vI v3), some (vI (-1)), some (vI 0)]) (S' := []) rfl ?_
      refine rz_B.more (rg_le_ok (L := [some (.ref 91), some (vI v1), some (vI v2), some (vI v3), some (vI (-1)), some (vI 0)]) (by simp [rg_le])) ?_
      exact cx192_gathers_24 F ih F _ _ _ _ _ _ _ _ h hv1 hv2 hv3 (by decide) (by decide) hw
    · have h := if_F h hc1
      refine rz_B.ifT ((le32 (by decide) (hw 91 80).1).mpr (Int.not_lt.mp hc1)) ?_
      cases h
      exact rz_B.ret rfl trivial hw
/-- RiverGaugeModel.gathers(I)V -/
def x192_gathers (F : Nat) (a0 : Int) (A : rz_A) : Option (Unit × rz_A) :=
  x192_gathers_9 F F a0 (-1) (-1) (aI A 91 80 0)
theorem cx192_gathers (F : Nat) {d : Nat} {a0 : Int} {A : rz_A} {r : Unit} {A' : rz_A} (h : x192_gathers F a0 A = some (r, A')) (ha0 : r32 a0) (hw : wf A) : rg_Rn (d + 6) 192 [.ref 91, vI a0] (toM A) (none) (toM A') ∧ (True) ∧ wf A' := by
  show rz_B (d + 6) 192 0 [some (.ref 91), some (vI a0), none, none, none, none] [] A (none) A' (True)
  unfold x192_gathers at h
  refine rz_B.put 3 (pc' := 5) (L' := [some (.ref 91), some (vI a0), none, none, none, none]) (S' := []) (c := 91) (k := 80) (x := 0) rfl ?_
  have hw1 : wf (aI A 91 80 0) := wf_aI hw (by decide)
  refine rz_B.go 4 (pc' := 9) (L' := [some (.ref 91), some (vI a0), some (vI (-1)), some (vI (-1)), none, none]) (S' := []) rfl ?_
  refine rz_B.more (rg_le_ok (L := [some (.ref 91), some (vI a0), some (vI (-1)), some (vI (-1)), none, none]) (by simp [rg_le])) ?_
  exact cx192_gathers_9 F F _ _ _ _ _ _ h ha0 (by decide) (by decide) hw1
def x197_bits_4 (F : Nat) : Nat → Int → Int → Int → rz_A → Option (Int × rz_A)
  | 0, _, _, _, _ => none
  | n + 1, v0, v1, v2, A =>
    if v2 < 8 then
      rz_g32 (v1 + (rz_oI fAnd (rz_oI fShr v0 v2) 1)) <|
      rz_g32 (v2 + 1) <|
      x197_bits_4 F n v0 (v1 + (rz_oI fAnd (rz_oI fShr v0 v2) 1)) (v2 + 1) A
    else
      some (v1, A)
theorem cx197_bits_4 {d : Nat} (F : Nat) : ∀ (n : Nat) (v0 : Int) (v1 : Int) (v2 : Int) (A : rz_A) (r : Int) (A' : rz_A), x197_bits_4 F n v0 v1 v2 A = some (r, A') → r32 v0 → r32 v1 → r32 v2 → wf A → rz_B (d + 0) 197 4 [some (vI v0), some (vI v1), some (vI v2)] [] A (some (vI r)) A' (r32 r) := by
  intro n
  induction n with
  | zero => intro v0 v1 v2 A r A' h; cases h
  | succ n ih =>
    intro v0 v1 v2 A r A' h hv0 hv1 hv2 hw
    rw [x197_bits_4] at h
    refine rz_B.go 3 (pc' := if decide (Int32.ofInt 8 ≤ Int32.ofInt v2) = true then 24 else 10) (L' := [some (vI v0), some (vI v1), some (vI v2)]) (S' := []) rfl ?_
    by_cases hc1 : v2 < 8
    · have h := if_T h hc1
      refine rz_B.ifF (mt (le32 (by decide) hv2).mp (Int.not_le.mpr hc1)) ?_
      refine rz_B.go 3 (pc' := 13) (L' := [some (vI v0), some (vI v1), some (vI v2)]) (S' := [vI v2, vI v0, vI v1]) rfl ?_
      refine rz_B.oI fShr rfl ?_
      refine rz_B.go 1 (pc' := 15) (L' := [some (vI v0), some (vI v1), some (vI v2)]) (S' := [vI 1, vI (rz_oI fShr v0 v2), vI v1]) rfl ?_
      refine rz_B.oI fAnd rfl ?_
      obtain ⟨hk2, h⟩ := rz_g32_inv h
      refine rz_B.iadd rfl ?_
      refine rz_B.go 1 (pc' := 18) (L' := [some (vI v0), some (vI (v1 + (rz_oI fAnd (rz_oI fShr v0 v2) 1))), some (vI v2)]) (S' := []) rfl ?_
      obtain ⟨hk3, h⟩ := rz_g32_inv h
      refine rz_B.iinc rfl (by decide) rfl (L' := [some (vI v0), some (vI (v1 + (rz_oI fAnd (rz_oI fShr v0 v2) 1))), some (vI (v2 + 1))]) rfl ?_
      refine rz_B.go 1 (pc' := 4) (L' := [some (vI v0), some (vI (v1 + (rz_oI fAnd (rz_oI fShr v0 v2) 1))), some (vI (v2 + 1))]) (S' := []) rfl ?_
      refine rz_B.more (rg_le_ok (L := [some (vI v0), some (vI (v1 + (rz_oI fAnd (rz_oI fShr v0 v2) 1))), some (vI (v2 + 1))]) (by simp [rg_le])) ?_
      exact ih _ _ _ _ _ _ h hv0 hk2 hk3 hw
    · have h := if_F h hc1
      refine rz_B.ifT ((le32 (by decide) hv2).mpr (Int.not_lt.mp hc1)) ?_
      refine rz_B.go 1 (pc' := 25) (L' := [some (vI v0), some (vI v1), some (vI v2)]) (S' := [vI v1]) rfl ?_
      cases h
      exact rz_B.ret rfl hv1 hw
/-- RiverGaugeModel.bits(I)I -/
def x197_bits (F : Nat) (a0 : Int) (A : rz_A) : Option (Int × rz_A) :=
  x197_bits_4 F F a0 0 0 A
theorem cx197_bits (F : Nat) {d : Nat} {a0 : Int} {A : rz_A} {r : Int} {A' : rz_A} (h : x197_bits F a0 A = some (r, A')) (ha0 : r32 a0) (hw : wf A) : rg_Rn (d + 0) 197 [vI a0] (toM A) (some (vI r)) (toM A') ∧ (r32 r) ∧ wf A' := by
  show rz_B (d + 0) 197 0 [some (vI a0), none, none] [] A (some (vI r)) A' (r32 r)
  unfold x197_bits at h
  refine rz_B.go 4 (pc' := 4) (L' := [some (vI a0), some (vI 0), some (vI 0)]) (S' := []) rfl ?_
  refine rz_B.more (rg_le_ok (L := [some (vI a0), some (vI 0), some (vI 0)]) (by simp [rg_le])) ?_
  exact cx197_bits_4 F F _ _ _ _ _ _ h ha0 (by decide) (by decide) hw
def x198_goesAll_4 (F : Nat) : Nat → Int → Int → Int → rz_A → Option (Int × rz_A)
  | 0, _, _, _, _ => none
  | n + 1, v1, v2, v3, A =>
    if v3 < (A.1 91 80) then
      rz_g32 (v3 + 1) <|
      if (v3 + 1) < (A.1 91 80) then
        if (rz_oI fAnd (rz_oI fShr v1 v3) 1) = 0 then
          x198_goesAll_4 F n v1 v2 (v3 + 1) A
        else
          rz_g32 (8 * v2) <|
          rz_g32 ((8 * v2) + v3) <|
          rz_gx ((8 * v2) + v3) 64 <|
          if (A.1 146 (((8 * v2) + v3)).toNat) = 99 then
            some (0, A)
          else
            x198_goesAll_4 F n v1 (v3 + 1) (v3 + 1) A
      else
        rz_g32 (8 * v2) <|
        rz_g32 ((8 * v2) + v3) <|
        rz_gx ((8 * v2) + v3) 64 <|
        if (A.1 146 (((8 * v2) + v3)).toNat) = 99 then
          some (0, A)
        else
          x198_goesAll_4 F n v1 (v3 + 1) (v3 + 1) A
    else
      some (1, A)
theorem cx198_goesAll_4 {d : Nat} (F : Nat) : ∀ (n : Nat) (v1 : Int) (v2 : Int) (v3 : Int) (A : rz_A) (r : Int) (A' : rz_A), x198_goesAll_4 F n v1 v2 v3 A = some (r, A') → r32 v1 → r32 v2 → r32 v3 → wf A → rz_B (d + 0) 198 4 [some (.ref 91), some (vI v1), some (vI v2), some (vI v3)] [] A (some (vI r)) A' (r32 r) := by
  intro n
  induction n with
  | zero => intro v1 v2 v3 A r A' h; cases h
  | succ n ih =>
    intro v1 v2 v3 A r A' h hv1 hv2 hv3 hw
    rw [x198_goesAll_4] at h
    refine rz_B.go 4 (pc' := if decide (Int32.ofInt (A.1 91 80) ≤ Int32.ofInt v3) = true then 61 else 12) (L' := [some (.ref 91), some (vI v1), some (vI v2), some (vI v3)]) (S' := []) rfl ?_
    by_cases hc1 : v3 < (A.1 91 80)
    · have h := if_T h hc1
      refine rz_B.ifF (mt (le32 (hw 91 80).1 hv3).mp (Int.not_le.mpr hc1)) ?_
      refine rz_B.go 2 (pc' := 14) (L' := [some (.ref 91), some (vI v1), some (vI v2), some (vI v3)]) (S' := [vI 1, vI v3]) rfl ?_
      obtain ⟨hk2, h⟩ := rz_g32_inv h
      refine rz_B.iadd rfl ?_
      refine rz_B.go 3 (pc' := if decide (Int32.ofInt (A.1 91 80) ≤ Int32.ofInt (v3 + 1)) = true then 33 else 22) (L' := [some (.ref 91), some (vI v1), some (vI v2), some (vI v3)]) (S' := []) rfl ?_
      by_cases hc3 : (v3 + 1) < (A.1 91 80)
      · have h := if_T h hc3
        refine rz_B.ifF (mt (le32 (hw 91 80).1 hk2).mp (Int.not_le.mpr hc3)) ?_
        refine rz_B.go 2 (pc' := 24) (L' := [some (.ref 91), some (vI v1), some (vI v2), some (vI v3)]) (S' := [vI v3, vI v1]) rfl ?_
        refine rz_B.oI fShr rfl ?_
        refine rz_B.go 1 (pc' := 26) (L' := [some (.ref 91), some (vI v1), some (vI v2), some (vI v3)]) (S' := [vI 1, vI (rz_oI fShr v1 v3)]) rfl ?_
        refine rz_B.oI fAnd rfl ?_
        refine rz_B.go 1 (pc' := if decide (¬ Int32.ofInt (rz_oI fAnd (rz_oI fShr v1 v3) 1) = Int32.ofInt 0) = true then 33 else 30) (L' := [some (.ref 91), some (vI v1), some (vI v2), some (vI v3)]) (S' := []) rfl ?_
        by_cases hc4 : (rz_oI fAnd (rz_oI fShr v1 v3) 1) = 0
        · have h := if_T h hc4
          refine rz_B.ifF (fun hn => hn ((eq32 r32_oI (by decide)).mpr hc4)) ?_
          refine rz_B.go 1 (pc' := 55) (L' := [some (.ref 91), some (vI v1), some (vI v2), some (vI v3)]) (S' := []) rfl ?_
          refine rz_B.iinc rfl (by decide) rfl (L' := [some (.ref 91), some (vI v1), some (vI v2), some (vI (v3 + 1))]) rfl ?_
          refine rz_B.go 1 (pc' := 4) (L' := [some (.ref 91), some (vI v1), some (vI v2), some (vI (v3 + 1))]) (S' := []) rfl ?_
          refine rz_B.more (rg_le_ok (L := [some (.ref 91), some (vI v1), some (vI v2), some (vI (v3 + 1))]) (by simp [rg_le])) ?_
          exact ih _ _ _ _ _ _ h hv1 hv2 hk2 hw
        · have h := if_F h hc4
          refine rz_B.ifT (mt (eq32 r32_oI (by decide)).mp hc4) ?_
          refine rz_B.go 4 (pc' := 40) (L' := [some (.ref 91), some (vI v1), some (vI v2), some (vI v3)]) (S' := [vI v2, vI 8, .ref 146]) rfl ?_
          obtain ⟨hk5, h⟩ := rz_g32_inv h
          refine rz_B.imul rfl ?_
          refine rz_B.go 1 (pc' := 42) (L' := [some (.ref 91), some (vI v1), some (vI v2), some (vI v3)]) (S' := [vI v3, vI (8 * v2), .ref 146]) rfl ?_
          obtain ⟨hk6, h⟩ := rz_g32_inv h
          refine rz_B.iadd rfl ?_
          obtain ⟨hi7, hj8, h⟩ := rz_gx_inv h
          refine rz_B.iald rfl rfl hi7 hj8 (by decide) ?_
          refine rz_B.go 2 (pc' := if decide (¬ Int32.ofInt (A.1 146 (((8 * v2) + v3)).toNat) = Int32.ofInt 99) = true then 51 else 49) (L' := [some (.ref 91), some (vI v1), some (vI v2), some (vI v3)]) (S' := []) rfl ?_
          by_cases hc9 : (A.1 146 (((8 * v2) + v3)).toNat) = 99
          · have h := if_T h hc9
            refine rz_B.ifF (fun hn => hn ((eq32 (hw 146 (((8 * v2) + v3)).toNat).1 (by decide)).mpr hc9)) ?_
            refine rz_B.go 1 (pc' := 50) (L' := [some (.ref 91), some (vI v1), some (vI v2), some (vI v3)]) (S' := [vI 0]) rfl ?_
            cases h
            exact rz_B.ret rfl (by decide) hw
          · have h := if_F h hc9
            refine rz_B.ifT (mt (eq32 (hw 146 (((8 * v2) + v3)).toNat).1 (by decide)).mp hc9) ?_
            refine rz_B.go 2 (pc' := 53) (L' := [some (.ref 91), some (vI v1), some (vI v2), some (vI v3)]) (S' := [vI 1, vI v3]) rfl ?_
            refine rz_B.iadd rfl ?_
            refine rz_B.go 1 (pc' := 55) (L' := [some (.ref 91), some (vI v1), some (vI (v3 + 1)), some (vI v3)]) (S' := []) rfl ?_
            refine rz_B.iinc rfl (by decide) rfl (L' := [some (.ref 91), some (vI v1), some (vI (v3 + 1)), some (vI (v3 + 1))]) rfl ?_
            refine rz_B.go 1 (pc' := 4) (L' := [some (.ref 91), some (vI v1), some (vI (v3 + 1)), some (vI (v3 + 1))]) (S' := []) rfl ?_
            refine rz_B.more (rg_le_ok (L := [some (.ref 91), some (vI v1), some (vI (v3 + 1)), some (vI (v3 + 1))]) (by simp [rg_le])) ?_
            exact ih _ _ _ _ _ _ h hv1 hk2 hk2 hw
      · have h := if_F h hc3
        refine rz_B.ifT ((le32 (hw 91 80).1 hk2).mpr (Int.not_lt.mp hc3)) ?_
        refine rz_B.go 4 (pc' := 40) (L' := [some (.ref 91), some (vI v1), some (vI v2), some (vI v3)]) (S' := [vI v2, vI 8, .ref 146]) rfl ?_
        obtain ⟨hk10, h⟩ := rz_g32_inv h
        refine rz_B.imul rfl ?_
        refine rz_B.go 1 (pc' := 42) (L' := [some (.ref 91), some (vI v1), some (vI v2), some (vI v3)]) (S' := [vI v3, vI (8 * v2), .ref 146]) rfl ?_
        obtain ⟨hk11, h⟩ := rz_g32_inv h
        refine rz_B.iadd rfl ?_
        obtain ⟨hi12, hj13, h⟩ := rz_gx_inv h
        refine rz_B.iald rfl rfl hi12 hj13 (by decide) ?_
        refine rz_B.go 2 (pc' := if decide (¬ Int32.ofInt (A.1 146 (((8 * v2) + v3)).toNat) = Int32.ofInt 99) = true then 51 else 49) (L' := [some (.ref 91), some (vI v1), some (vI v2), some (vI v3)]) (S' := []) rfl ?_
        by_cases hc14 : (A.1 146 (((8 * v2) + v3)).toNat) = 99
        · have h := if_T h hc14
          refine rz_B.ifF (fun hn => hn ((eq32 (hw 146 (((8 * v2) + v3)).toNat).1 (by decide)).mpr hc14)) ?_
          refine rz_B.go 1 (pc' := 50) (L' := [some (.ref 91), some (vI v1), some (vI v2), some (vI v3)]) (S' := [vI 0]) rfl ?_
          cases h
          exact rz_B.ret rfl (by decide) hw
        · have h := if_F h hc14
          refine rz_B.ifT (mt (eq32 (hw 146 (((8 * v2) + v3)).toNat).1 (by decide)).mp hc14) ?_
          refine rz_B.go 2 (pc' := 53) (L' := [some (.ref 91), some (vI v1), some (vI v2), some (vI v3)]) (S' := [vI 1, vI v3]) rfl ?_
          refine rz_B.iadd rfl ?_
          refine rz_B.go 1 (pc' := 55) (L' := [some (.ref 91), some (vI v1), some (vI (v3 + 1)), some (vI v3)]) (S' := []) rfl ?_
          refine rz_B.iinc rfl (by decide) rfl (L' := [some (.ref 91), some (vI v1), some (vI (v3 + 1)), some (vI (v3 + 1))]) rfl ?_
          refine rz_B.go 1 (pc' := 4) (L' := [some (.ref 91), some (vI v1), some (vI (v3 + 1)), some (vI (v3 + 1))]) (S' := []) rfl ?_
          refine rz_B.more (rg_le_ok (L := [some (.ref 91), some (vI v1), some (vI (v3 + 1)), some (vI (v3 + 1))]) (by simp [rg_le])) ?_
          exact ih _ _ _ _ _ _ h hv1 hk2 hk2 hw
    · have h := if_F h hc1
      refine rz_B.ifT ((le32 (hw 91 80).1 hv3).mpr (Int.not_lt.mp hc1)) ?_
      refine rz_B.go 1 (pc' := 62) (L' := [some (.ref 91), some (vI v1), some (vI v2), some (vI v3)]) (S' := [vI 1]) rfl ?_
      cases h
      exact rz_B.ret rfl (by decide) hw
/-- RiverGaugeModel.goesAll(I)Z -/
def x198_goesAll (F : Nat) (a0 : Int) (A : rz_A) : Option (Int × rz_A) :=
  x198_goesAll_4 F F a0 0 0 A
theorem cx198_goesAll (F : Nat) {d : Nat} {a0 : Int} {A : rz_A} {r : Int} {A' : rz_A} (h : x198_goesAll F a0 A = some (r, A')) (ha0 : r32 a0) (hw : wf A) : rg_Rn (d + 0) 198 [.ref 91, vI a0] (toM A) (some (vI r)) (toM A') ∧ (r32 r) ∧ wf A' := by
  show rz_B (d + 0) 198 0 [some (.ref 91), some (vI a0), none, none] [] A (some (vI r)) A' (r32 r)
  unfold x198_goesAll at h
  refine rz_B.go 4 (pc' := 4) (L' := [some (.ref 91), some (vI a0), some (vI 0), some (vI 0)]) (S' := []) rfl ?_
  refine rz_B.more (rg_le_ok (L := [some (.ref 91), some (vI a0), some (vI 0), some (vI 0)]) (by simp [rg_le])) ?_
  exact cx198_goesAll_4 F F _ _ _ _ _ _ h ha0 (by decide) (by decide) hw
def x185_along_q_139 (F : Nat) (v6 : Int) (v7 : Int) (A : rz_A) : Option (Int × rz_A) :=
  rz_gx v7 48 <|
  rz_g32 (v7 + 1) <|
  rz_gx (v7 + 1) 48 <|
  rz_g32 ((A.1 99 ((v7 + 1)).toNat) - (A.1 99 (v7).toNat)) <|
  rz_g32 (v6 - (A.1 98 (v7).toNat)) <|
  rz_g64 (((A.1 99 ((v7 + 1)).toNat) - (A.1 99 (v7).toNat)) * (v6 - (A.1 98 (v7).toNat))) <|
  rz_g32 ((A.1 98 ((v7 + 1)).toNat) - (A.1 98 (v7).toNat)) <|
  rz_gn ((A.1 98 ((v7 + 1)).toNat) - (A.1 98 (v7).toNat)) <|
  rz_g64 ((((A.1 99 ((v7 + 1)).toNat) - (A.1 99 (v7).toNat)) * (v6 - (A.1 98 (v7).toNat))).tdiv ((A.1 98 ((v7 + 1)).toNat) - (A.1 98 (v7).toNat))) <|
  rz_g64 ((A.1 99 (v7).toNat) + ((((A.1 99 ((v7 + 1)).toNat) - (A.1 99 (v7).toNat)) * (v6 - (A.1 98 (v7).toNat))).tdiv ((A.1 98 ((v7 + 1)).toNat) - (A.1 98 (v7).toNat)))) <|
  if 99999999 < ((A.1 99 (v7).toNat) + ((((A.1 99 ((v7 + 1)).toNat) - (A.1 99 (v7).toNat)) * (v6 - (A.1 98 (v7).toNat))).tdiv ((A.1 98 ((v7 + 1)).toNat) - (A.1 98 (v7).toNat)))) then
    some (99999999, A)
  else
    rz_g32 ((A.1 99 (v7).toNat) + ((((A.1 99 ((v7 + 1)).toNat) - (A.1 99 (v7).toNat)) * (v6 - (A.1 98 (v7).toNat))).tdiv ((A.1 98 ((v7 + 1)).toNat) - (A.1 98 (v7).toNat)))) <|
    some (((A.1 99 (v7).toNat) + ((((A.1 99 ((v7 + 1)).toNat) - (A.1 99 (v7).toNat)) * (v6 - (A.1 98 (v7).toNat))).tdiv ((A.1 98 ((v7 + 1)).toNat) - (A.1 98 (v7).toNat)))), A)
theorem cx185_along_q_139 {d : Nat} (F : Nat) : ∀ (v6 : Int) (v7 : Int) (A : rz_A) (r : Int) (A' : rz_A), x185_along_q_139 F v6 v7 A = some (r, A') → r32 v6 → r32 v7 → wf A → rz_B (d + 0) 185 139 [none, some (.ref 98), some (.ref 99), none, none, none, some (vI v6), some (vI v7), none, none] [] A (some (vI r)) A' (r32 r) := by
  intro v6 v7 A r A' h hv6 hv7 hw
  unfold x185_along_q_139 at h
  refine rz_B.go 2 (pc' := 142) (L' := [none, some (.ref 98), some (.ref 99), none, none, none, some (vI v6), some (vI v7), none, none]) (S' := [vI v7, .ref 99]) rfl ?_
  obtain ⟨hi1, hj2, h⟩ := rz_gx_inv h
  refine rz_B.iald rfl rfl hi1 hj2 (by decide) ?_
  refine rz_B.i2l rfl (hw 99 (v7).toNat).1 ?_
  refine rz_B.go 3 (pc' := 148) (L' := [none, some (.ref 98), some (.ref 99), none, none, none, some (vI v6), some (vI v7), none, none]) (S' := [vI 1, vI v7, .ref 99, vL (A.1 99 (v7).toNat)]) rfl ?_
  obtain ⟨hk3, h⟩ := rz_g32_inv h
  refine rz_B.iadd rfl ?_
  obtain ⟨hi4, hj5, h⟩ := rz_gx_inv h
  refine rz_B.iald rfl rfl hi4 hj5 (by decide) ?_
  refine rz_B.go 2 (pc' := 153) (L' := [none, some (.ref 98), some (.ref 99), none, none, none, some (vI v6), some (vI v7), none, none]) (S' := [vI v7, .ref 99, vI (A.1 99 ((v7 + 1)).toNat), vL (A.1 99 (v7).toNat)]) rfl ?_
  refine rz_B.iald rfl rfl hi1 hj2 (by decide) ?_
  obtain ⟨hk6, h⟩ := rz_g32_inv h
  refine rz_B.isub rfl ?_
  refine rz_B.i2l rfl hk6 ?_
  refine rz_B.go 3 (pc' := 161) (L' := [none, some (.ref 98), some (.ref 99), none, none, none, some (vI v6), some (vI v7), none, none]) (S' := [vI v7, .ref 98, vI v6, vL ((A.1 99 ((v7 + 1)).toNat) - (A.1 99 (v7).toNat)), vL (A.1 99 (v7).toNat)]) rfl ?_
  refine rz_B.iald rfl rfl hi1 hj2 (by decide) ?_
  obtain ⟨hk7, h⟩ := rz_g32_inv h
  refine rz_B.isub rfl ?_
  refine rz_B.i2l rfl hk7 ?_
  obtain ⟨hk8, h⟩ := rz_g64_inv h
  refine rz_B.lmul rfl ?_
  refine rz_B.go 3 (pc' := 169) (L' := [none, some (.ref 98), some (.ref 99), none, none, none, some (vI v6), some (vI v7), none, none]) (S' := [vI 1, vI v7, .ref 98, vL (((A.1 99 ((v7 + 1)).toNat) - (A.1 99 (v7).toNat)) * (v6 - (A.1 98 (v7).toNat))), vL (A.1 99 (v7).toNat)]) rfl ?_
  refine rz_B.iadd rfl ?_
  refine rz_B.iald rfl rfl hi4 hj5 (by decide) ?_
  refine rz_B.go 2 (pc' := 174) (L' := [none, some (.ref 98), some (.ref 99), none, none, none, some (vI v6), some (vI v7), none, none]) (S' := [vI v7, .ref 98, vI (A.1 98 ((v7 + 1)).toNat), vL (((A.1 99 ((v7 + 1)).toNat) - (A.1 99 (v7).toNat)) * (v6 - (A.1 98 (v7).toNat))), vL (A.1 99 (v7).toNat)]) rfl ?_
  refine rz_B.iald rfl rfl hi1 hj2 (by decide) ?_
  obtain ⟨hk9, h⟩ := rz_g32_inv h
  refine rz_B.isub rfl ?_
  refine rz_B.i2l rfl hk9 ?_
  obtain ⟨hz10, h⟩ := rz_gn_inv h
  obtain ⟨hk11, h⟩ := rz_g64_inv h
  refine rz_B.ldiv rfl hk8 (r64_of hk9) hz10 ?_
  obtain ⟨hk12, h⟩ := rz_g64_inv h
  refine rz_B.ladd rfl ?_
  refine rz_B.go 5 (pc' := if decide (lg_cmp (Int64.ofInt ((A.1 99 (v7).toNat) + ((((A.1 99 ((v7 + 1)).toNat) - (A.1 99 (v7).toNat)) * (v6 - (A.1 98 (v7).toNat))).tdiv ((A.1 98 ((v7 + 1)).toNat) - (A.1 98 (v7).toNat))))) (Int64.ofInt 99999999) ≤ 0) = true then 196 else 190) (L' := [none, some (.ref 98), some (.ref 99), none, none, none, some (vI v6), some (vI v7), some (vL ((A.1 99 (v7).toNat) + ((((A.1 99 ((v7 + 1)).toNat) - (A.1 99 (v7).toNat)) * (v6 - (A.1 98 (v7).toNat))).tdiv ((A.1 98 ((v7 + 1)).toNat) - (A.1 98 (v7).toNat))))), none]) (S' := []) rfl ?_
  by_cases hc13 : 99999999 < ((A.1 99 (v7).toNat) + ((((A.1 99 ((v7 + 1)).toNat) - (A.1 99 (v7).toNat)) * (v6 - (A.1 98 (v7).toNat))).tdiv ((A.1 98 ((v7 + 1)).toNat) - (A.1 98 (v7).toNat))))
  · have h := if_T h hc13
    refine rz_B.ifF (mt (cmp_le hk12 (by decide)).mp (Int.not_le.mpr hc13)) ?_
    refine rz_B.go 2 (pc' := 199) (L' := [none, some (.ref 98), some (.ref 99), none, none, none, some (vI v6), some (vI v7), some (vL ((A.1 99 (v7).toNat) + ((((A.1 99 ((v7 + 1)).toNat) - (A.1 99 (v7).toNat)) * (v6 - (A.1 98 (v7).toNat))).tdiv ((A.1 98 ((v7 + 1)).toNat) - (A.1 98 (v7).toNat))))), none]) (S' := [vI 99999999]) rfl ?_
    cases h
    exact rz_B.ret rfl (by decide) hw
  · have h := if_F h hc13
    refine rz_B.ifT ((cmp_le hk12 (by decide)).mpr (Int.not_lt.mp hc13)) ?_
    refine rz_B.go 1 (pc' := 198) (L' := [none, some (.ref 98), some (.ref 99), none, none, none, some (vI v6), some (vI v7), some (vL ((A.1 99 (v7).toNat) + ((((A.1 99 ((v7 + 1)).toNat) - (A.1 99 (v7).toNat)) * (v6 - (A.1 98 (v7).toNat))).tdiv ((A.1 98 ((v7 + 1)).toNat) - (A.1 98 (v7).toNat))))), none]) (S' := [vL ((A.1 99 (v7).toNat) + ((((A.1 99 ((v7 + 1)).toNat) - (A.1 99 (v7).toNat)) * (v6 - (A.1 98 (v7).toNat))).tdiv ((A.1 98 ((v7 + 1)).toNat) - (A.1 98 (v7).toNat))))]) rfl ?_
    obtain ⟨hk14, h⟩ := rz_g32_inv h
    refine rz_B.l2i rfl ?_
    cases h
    exact rz_B.ret rfl hk14 hw
def x185_along_q_105 (F : Nat) (v3 : Int) (v4 : Int) (v6 : Int) (v7 : Int) (A : rz_A) : Option (Int × rz_A) :=
  rz_gx v7 48 <|
  if (A.1 98 (v7).toNat) = v6 then
    some ((A.1 99 (v7).toNat), A)
  else
    if v4 = 1 then
      some ((A.1 99 (v7).toNat), A)
    else
      rz_g32 (v3 + v4) <|
      rz_g32 ((v3 + v4) - 1) <|
      if v7 = ((v3 + v4) - 1) then
        rz_g32 (v7 + (-1)) <|
        x185_along_q_139 F v6 (v7 + (-1)) A
      else
        x185_along_q_139 F v6 v7 A
theorem cx185_along_q_105 {d : Nat} (F : Nat) : ∀ (v3 : Int) (v4 : Int) (v6 : Int) (v7 : Int) (A : rz_A) (r : Int) (A' : rz_A), x185_along_q_105 F v3 v4 v6 v7 A = some (r, A') → r32 v3 → r32 v4 → r32 v6 → r32 v7 → wf A → rz_B (d + 0) 185 105 [none, some (.ref 98), some (.ref 99), some (vI v3), some (vI v4), none, some (vI v6), some (vI v7), none, none] [] A (some (vI r)) A' (r32 r) := by
  intro v3 v4 v6 v7 A r A' h hv3 hv4 hv6 hv7 hw
  unfold x185_along_q_105 at h
  refine rz_B.go 2 (pc' := 108) (L' := [none, some (.ref 98), some (.ref 99), some (vI v3), some (vI v4), none, some (vI v6), some (vI v7), none, none]) (S' := [vI v7, .ref 98]) rfl ?_
  obtain ⟨hi1, hj2, h⟩ := rz_gx_inv h
  refine rz_B.iald rfl rfl hi1 hj2 (by decide) ?_
  refine rz_B.go 2 (pc' := if decide (Int32.ofInt (A.1 98 (v7).toNat) = Int32.ofInt v6) = true then 120 else 114) (L' := [none, some (.ref 98), some (.ref 99), some (vI v3), some (vI v4), none, some (vI v6), some (vI v7), none, none]) (S' := []) rfl ?_
  by_cases hc3 : (A.1 98 (v7).toNat) = v6
  · have h := if_T h hc3
    refine rz_B.ifT ((eq32 (hw 98 (v7).toNat).1 hv6).mpr hc3) ?_
    refine rz_B.go 2 (pc' := 123) (L' := [none, some (.ref 98), some (.ref 99), some (vI v3), some (vI v4), none, some (vI v6), some (vI v7), none, none]) (S' := [vI v7, .ref 99]) rfl ?_
    refine rz_B.iald rfl rfl hi1 hj2 (by decide) ?_
    cases h
    exact rz_B.ret rfl (hw 99 (v7).toNat).1 hw
  · have h := if_F h hc3
    refine rz_B.ifF (mt (eq32 (hw 98 (v7).toNat).1 hv6).mp hc3) ?_
    refine rz_B.go 3 (pc' := if decide (¬ Int32.ofInt v4 = Int32.ofInt 1) = true then 125 else 120) (L' := [none, some (.ref 98), some (.ref 99), some (vI v3), some (vI v4), none, some (vI v6), some (vI v7), none, none]) (S' := []) rfl ?_
    by_cases hc4 : v4 = 1
    · have h := if_T h hc4
      refine rz_B.ifF (fun hn => hn ((eq32 hv4 (by decide)).mpr hc4)) ?_
      refine rz_B.go 2 (pc' := 123) (L' := [none, some (.ref 98), some (.ref 99), some (vI v3), some (vI v4), none, some (vI v6), some (vI v7), none, none]) (S' := [vI v7, .ref 99]) rfl ?_
      refine rz_B.iald rfl rfl hi1 hj2 (by decide) ?_
      cases h
      exact rz_B.ret rfl (hw 99 (v7).toNat).1 hw
    · have h := if_F h hc4
      refine rz_B.ifT (mt (eq32 hv4 (by decide)).mp hc4) ?_
      refine rz_B.go 3 (pc' := 130) (L' := [none, some (.ref 98), some (.ref 99), some (vI v3), some (vI v4), none, some (vI v6), some (vI v7), none, none]) (S' := [vI v4, vI v3, vI v7]) rfl ?_
      obtain ⟨hk5, h⟩ := rz_g32_inv h
      refine rz_B.iadd rfl ?_
      refine rz_B.go 1 (pc' := 132) (L' := [none, some (.ref 98), some (.ref 99), some (vI v3), some (vI v4), none, some (vI v6), some (vI v7), none, none]) (S' := [vI 1, vI (v3 + v4), vI v7]) rfl ?_
      obtain ⟨hk6, h⟩ := rz_g32_inv h
      refine rz_B.isub rfl ?_
      refine rz_B.go 1 (pc' := if decide (¬ Int32.ofInt v7 = Int32.ofInt ((v3 + v4) - 1)) = true then 139 else 136) (L' := [none, some (.ref 98), some (.ref 99), some (vI v3), some (vI v4), none, some (vI v6), some (vI v7), none, none]) (S' := []) rfl ?_
      by_cases hc7 : v7 = ((v3 + v4) - 1)
      · have h := if_T h hc7
        refine rz_B.ifF (fun hn => hn ((eq32 hv7 hk6).mpr hc7)) ?_
        obtain ⟨hk8, h⟩ := rz_g32_inv h
        refine rz_B.iinc rfl (by decide) rfl (L' := [none, some (.ref 98), some (.ref 99), some (vI v3), some (vI v4), none, some (vI v6), some (vI (v7 + (-1))), none, none]) rfl ?_
        refine rz_B.more (rg_le_ok (L := [none, some (.ref 98), some (.ref 99), none, none, none, some (vI v6), some (vI (v7 + (-1))), none, none]) (by simp [rg_le])) ?_
        exact cx185_along_q_139 F _ _ _ _ _ h hv6 hk8 hw
      · have h := if_F h hc7
        refine rz_B.ifT (mt (eq32 hv7 hk6).mp hc7) ?_
        refine rz_B.more (rg_le_ok (L := [none, some (.ref 98), some (.ref 99), none, none, none, some (vI v6), some (vI v7), none, none]) (by simp [rg_le])) ?_
        exact cx185_along_q_139 F _ _ _ _ _ h hv6 hv7 hw
def x185_along_q_77 (F : Nat) : Nat → Int → Int → Int → Int → rz_A → Option (Int × rz_A)
  | 0, _, _, _, _, _ => none
  | n + 1, v3, v4, v6, v7, A =>
    rz_g32 (v7 + 1) <|
    rz_g32 (v3 + v4) <|
    if (v7 + 1) < (v3 + v4) then
      rz_gx (v7 + 1) 48 <|
      if (A.1 98 ((v7 + 1)).toNat) ≤ v6 then
        x185_along_q_77 F n v3 v4 v6 (v7 + 1) A
      else
        x185_along_q_105 F v3 v4 v6 v7 A
    else
      x185_along_q_105 F v3 v4 v6 v7 A
theorem cx185_along_q_77 {d : Nat} (F : Nat) : ∀ (n : Nat) (v3 : Int) (v4 : Int) (v6 : Int) (v7 : Int) (A : rz_A) (r : Int) (A' : rz_A), x185_along_q_77 F n v3 v4 v6 v7 A = some (r, A') → r32 v3 → r32 v4 → r32 v6 → r32 v7 → wf A → rz_B (d + 0) 185 77 [none, some (.ref 98), some (.ref 99), some (vI v3), some (vI v4), none, some (vI v6), some (vI v7), none, none] [] A (some (vI r)) A' (r32 r) := by
  intro n
  induction n with
  | zero => intro v3 v4 v6 v7 A r A' h; cases h
  | succ n ih =>
    intro v3 v4 v6 v7 A r A' h hv3 hv4 hv6 hv7 hw
    rw [x185_along_q_77] at h
    refine rz_B.go 2 (pc' := 80) (L' := [none, some (.ref 98), some (.ref 99), some (vI v3), some (vI v4), none, some (vI v6), some (vI v7), none, none]) (S' := [vI 1, vI v7]) rfl ?_
    obtain ⟨hk1, h⟩ := rz_g32_inv h
    refine rz_B.iadd rfl ?_
    refine rz_B.go 2 (pc' := 84) (L' := [none, some (.ref 98), some (.ref 99), some (vI v3), some (vI v4), none, some (vI v6), some (vI v7), none, none]) (S' := [vI v4, vI v3, vI (v7 + 1)]) rfl ?_
    obtain ⟨hk2, h⟩ := rz_g32_inv h
    refine rz_B.iadd rfl ?_
    refine rz_B.go 1 (pc' := if decide (Int32.ofInt (v3 + v4) ≤ Int32.ofInt (v7 + 1)) = true then 105 else 88) (L' := [none, some (.ref 98), some (.ref 99), some (vI v3), some (vI v4), none, some (vI v6), some (vI v7), none, none]) (S' := []) rfl ?_
    by_cases hc3 : (v7 + 1) < (v3 + v4)
    · have h := if_T h hc3
      refine rz_B.ifF (mt (le32 hk2 hk1).mp (Int.not_le.mpr hc3)) ?_
      refine rz_B.go 3 (pc' := 92) (L' := [none, some (.ref 98), some (.ref 99), some (vI v3), some (vI v4), none, some (vI v6), some (vI v7), none, none]) (S' := [vI 1, vI v7, .ref 98]) rfl ?_
      refine rz_B.iadd rfl ?_
      obtain ⟨hi4, hj5, h⟩ := rz_gx_inv h
      refine rz_B.iald rfl rfl hi4 hj5 (by decide) ?_
      refine rz_B.go 2 (pc' := if decide (Int32.ofInt v6 < Int32.ofInt (A.1 98 ((v7 + 1)).toNat)) = true then 105 else 99) (L' := [none, some (.ref 98), some (.ref 99), some (vI v3), some (vI v4), none, some (vI v6), some (vI v7), none, none]) (S' := []) rfl ?_
      by_cases hc6 : (A.1 98 ((v7 + 1)).toNat) ≤ v6
      · have h := if_T h hc6
        refine rz_B.ifF (mt (lt32 hv6 (hw 98 ((v7 + 1)).toNat).1).mp (Int.not_lt.mpr hc6)) ?_
        refine rz_B.iinc rfl (by decide) rfl (L' := [none, some (.ref 98), some (.ref 99), some (vI v3), some (vI v4), none, some (vI v6), some (vI (v7 + 1)), none, none]) rfl ?_
        refine rz_B.go 1 (pc' := 77) (L' := [none, some (.ref 98), some (.ref 99), some (vI v3), some (vI v4), none, some (vI v6), some (vI (v7 + 1)), none, none]) (S' := []) rfl ?_
        refine rz_B.more (rg_le_ok (L := [none, some (.ref 98), some (.ref 99), some (vI v3), some (vI v4), none, some (vI v6), some (vI (v7 + 1)), none, none]) (by simp [rg_le])) ?_
        exact ih _ _ _ _ _ _ _ h hv3 hv4 hv6 hk1 hw
      · have h := if_F h hc6
        refine rz_B.ifT ((lt32 hv6 (hw 98 ((v7 + 1)).toNat).1).mpr (Int.not_le.mp hc6)) ?_
        refine rz_B.more (rg_le_ok (L := [none, some (.ref 98), some (.ref 99), some (vI v3), some (vI v4), none, some (vI v6), some (vI v7), none, none]) (by simp [rg_le])) ?_
        exact cx185_along_q_105 F _ _ _ _ _ _ _ h hv3 hv4 hv6 hv7 hw
    · have h := if_F h hc3
      refine rz_B.ifT ((le32 hk2 hk1).mpr (Int.not_lt.mp hc3)) ?_
      refine rz_B.more (rg_le_ok (L := [none, some (.ref 98), some (.ref 99), some (vI v3), some (vI v4), none, some (vI v6), some (vI v7), none, none]) (by simp [rg_le])) ?_
      exact cx185_along_q_105 F _ _ _ _ _ _ _ h hv3 hv4 hv6 hv7 hw
/-- RiverGaugeModel.along([I[IIIII)I -/
def x185_along_q (F : Nat) (a0 : Int) (a1 : Int) (a2 : Int) (a3 : Int) (A : rz_A) : Option (Int × rz_A) :=
  rz_g32 (a0 + a1) <|
  rz_g32 ((a0 + a1) - 1) <|
  rz_gx ((a0 + a1) - 1) 48 <|
  if (A.1 98 (((a0 + a1) - 1)).toNat) < a3 then
    rz_gx a0 48 <|
    if a3 < (A.1 98 (a0).toNat) then
      if (A.1 98 (a0).toNat) ≤ a2 then
        some ((A.1 99 (a0).toNat), (aI A 91 76 1))
      else
        if a3 ≤ a2 then
          some (0, (aI A 91 76 1))
        else
          rz_g32 (a3 - a2) <|
          rz_g64 ((A.1 99 (a0).toNat) * (a3 - a2)) <|
          rz_g32 ((A.1 98 (a0).toNat) - a2) <|
          rz_gn ((A.1 98 (a0).toNat) - a2) <|
          rz_g64 (((A.1 99 (a0).toNat) * (a3 - a2)).tdiv ((A.1 98 (a0).toNat) - a2)) <|
          rz_g32 (((A.1 99 (a0).toNat) * (a3 - a2)).tdiv ((A.1 98 (a0).toNat) - a2)) <|
          some ((((A.1 99 (a0).toNat) * (a3 - a2)).tdiv ((A.1 98 (a0).toNat) - a2)), (aI A 91 76 1))
    else
      x185_along_q_77 F F a0 a1 a3 a0 (aI A 91 76 1)
  else
    rz_gx a0 48 <|
    if a3 < (A.1 98 (a0).toNat) then
      if (A.1 98 (a0).toNat) ≤ a2 then
        some ((A.1 99 (a0).toNat), (aI A 91 76 0))
      else
        if a3 ≤ a2 then
          some (0, (aI A 91 76 0))
        else
          rz_g32 (a3 - a2) <|
          rz_g64 ((A.1 99 (a0).toNat) * (a3 - a2)) <|
          rz_g32 ((A.1 98 (a0).toNat) - a2) <|
          rz_gn ((A.1 98 (a0).toNat) - a2) <|
          rz_g64 (((A.1 99 (a0).toNat) * (a3 - a2)).tdiv ((A.1 98 (a0).toNat) - a2)) <|
          rz_g32 (((A.1 99 (a0).toNat) * (a3 - a2)).tdiv ((A.1 98 (a0).toNat) - a2)) <|
          some ((((A.1 99 (a0).toNat) * (a3 - a2)).tdiv ((A.1 98 (a0).toNat) - a2)), (aI A 91 76 0))
    else
      x185_along_q_77 F F a0 a1 a3 a0 (aI A 91 76 0)
theorem cx185_along_q (F : Nat) {d : Nat} {a0 : Int} {a1 : Int} {a2 : Int} {a3 : Int} {A : rz_A} {r : Int} {A' : rz_A} (h : x185_along_q F a0 a1 a2 a3 A = some (r, A')) (ha0 : r32 a0) (ha1 : r32 a1) (ha2 : r32 a2) (ha3 : r32 a3) (hw : wf A) : rg_Rn (d + 0) 185 [.ref 91, .ref 98, .ref 99, vI a0, vI a1, vI a2, vI a3] (toM A) (some (vI r)) (toM A') ∧ (r32 r) ∧ wf A' := by
  show rz_B (d + 0) 185 0 [some (.ref 91), some (.ref 98), some (.ref 99), some (vI a0), some (vI a1), some (vI a2), some (vI a3), none, none, none] [] A (some (vI r)) A' (r32 r)
  unfold x185_along_q at h
  refine rz_B.go 5 (pc' := 7) (L' := [some (.ref 91), some (.ref 98), some (.ref 99), some (vI a0), some (vI a1), some (vI a2), some (vI a3), none, none, none]) (S' := [vI a1, vI a0, .ref 98, vI a3, .ref 91]) rfl ?_
  obtain ⟨hk1, h⟩ := rz_g32_inv h
  refine rz_B.iadd rfl ?_
  refine rz_B.go 1 (pc' := 9) (L' := [some (.ref 91), some (.ref 98), some (.ref 99), some (vI a0), some (vI a1), some (vI a2), some (vI a3), none, none, none]) (S' := [vI 1, vI (a0 + a1), .ref 98, vI a3, .ref 91]) rfl ?_
  obtain ⟨hk2, h⟩ := rz_g32_inv h
  refine rz_B.isub rfl ?_
  obtain ⟨hi3, hj4, h⟩ := rz_gx_inv h
  refine rz_B.iald rfl rfl hi3 hj4 (by decide) ?_
  refine rz_B.go 1 (pc' := if decide (Int32.ofInt a3 ≤ Int32.ofInt (A.1 98 (((a0 + a1) - 1)).toNat)) = true then 18 else 14) (L' := [some (.ref 91), some (.ref 98), some (.ref 99), some (vI a0), some (vI a1), some (vI a2), some (vI a3), none, none, none]) (S' := [.ref 91]) rfl ?_
  by_cases hc5 : (A.1 98 (((a0 + a1) - 1)).toNat) < a3
  · have h := if_T h hc5
    refine rz_B.ifF (mt (le32 ha3 (hw 98 (((a0 + a1) - 1)).toNat).1).mp (Int.not_le.mpr hc5)) ?_
    refine rz_B.put 3 (pc' := 22) (L' := [some (.ref 91), some (.ref 98), some (.ref 99), some (vI a0), some (vI a1), some (vI a2), some (vI a3), none, none, none]) (S' := []) (c := 91) (k := 76) (x := 1) rfl ?_
    have hw6 : wf (aI A 91 76 1) := wf_aI hw (by decide)
    refine rz_B.go 3 (pc' := 26) (L' := [some (.ref 91), some (.ref 98), some (.ref 99), some (vI a0), some (vI a1), some (vI a2), some (vI a3), none, none, none]) (S' := [vI a0, .ref 98, vI a3]) rfl ?_
    obtain ⟨hi7, hj8, h⟩ := rz_gx_inv h
    refine rz_B.iald rfl rfl hi7 hj8 (by decide) ?_
    refine rz_B.go 1 (pc' := if decide (Int32.ofInt (A.1 98 (a0).toNat) ≤ Int32.ofInt a3) = true then 74 else 30) (L' := [some (.ref 91), some (.ref 98), some (.ref 99), some (vI a0), some (vI a1), some (vI a2), some (vI a3), none, none, none]) (S' := []) rfl ?_
    by_cases hc9 : a3 < (A.1 98 (a0).toNat)
    · have h := if_T h hc9
      refine rz_B.ifF (mt (le32 (hw 98 (a0).toNat).1 ha3).mp (Int.not_le.mpr hc9)) ?_
      refine rz_B.go 2 (pc' := 32) (L' := [some (.ref 91), some (.ref 98), some (.ref 99), some (vI a0), some (vI a1), some (vI a2), some (vI a3), none, none, none]) (S' := [vI a0, .ref 98]) rfl ?_
      refine rz_B.iald rfl rfl hi7 hj8 (by decide) ?_
      refine rz_B.go 2 (pc' := if decide (Int32.ofInt a2 < Int32.ofInt (A.1 98 (a0).toNat)) = true then 42 else 38) (L' := [some (.ref 91), some (.ref 98), some (.ref 99), some (vI a0), some (vI a1), some (vI a2), some (vI a3), none, none, none]) (S' := []) rfl ?_
      by_cases hc10 : (A.1 98 (a0).toNat) ≤ a2
      · have h := if_T h hc10
        refine rz_B.ifF (mt (lt32 ha2 (hw 98 (a0).toNat).1).mp (Int.not_lt.mpr hc10)) ?_
        refine rz_B.go 2 (pc' := 40) (L' := [some (.ref 91), some (.ref 98), some (.ref 99), some (vI a0), some (vI a1), some (vI a2), some (vI a3), none, none, none]) (S' := [vI a0, .ref 99]) rfl ?_
        refine rz_B.iald rfl rfl hi7 hj8 (by decide) ?_
        cases h
        exact rz_B.ret rfl (hw 99 (a0).toNat).1 hw6
      · have h := if_F h hc10
        refine rz_B.ifT ((lt32 ha2 (hw 98 (a0).toNat).1).mpr (Int.not_le.mp hc10)) ?_
        refine rz_B.go 3 (pc' := if decide (Int32.ofInt a2 < Int32.ofInt a3) = true then 53 else 49) (L' := [some (.ref 91), some (.ref 98), some (.ref 99), some (vI a0), some (vI a1), some (vI a2), some (vI a3), none, none, none]) (S' := []) rfl ?_
        by_cases hc11 : a3 ≤ a2
        · have h := if_T h hc11
          refine rz_B.ifF (mt (lt32 ha2 ha3).mp (Int.not_lt.mpr hc11)) ?_
          refine rz_B.go 2 (pc' := 73) (L' := [some (.ref 91), some (.ref 98), some (.ref 99), some (vI a0), some (vI a1), some (vI a2), some (vI a3), none, none, none]) (S' := [vI 0]) rfl ?_
          cases h
          exact rz_B.ret rfl (by decide) hw6
        · have h := if_F h hc11
          refine rz_B.ifT ((lt32 ha2 ha3).mpr (Int.not_le.mp hc11)) ?_
          refine rz_B.go 2 (pc' := 55) (L' := [some (.ref 91), some (.ref 98), some (.ref 99), some (vI a0), some (vI a1), some (vI a2), some (vI a3), none, none, none]) (S' := [vI a0, .ref 99]) rfl ?_
          refine rz_B.iald rfl rfl hi7 hj8 (by decide) ?_
          refine rz_B.i2l rfl (hw 99 (a0).toNat).1 ?_
          refine rz_B.go 2 (pc' := 61) (L' := [some (.ref 91), some (.ref 98), some (.ref 99), some (vI a0), some (vI a1), some (vI a2), some (vI a3), none, none, none]) (S' := [vI a2, vI a3, vL (A.1 99 (a0).toNat)]) rfl ?_
          obtain ⟨hk12, h⟩ := rz_g32_inv h
          refine rz_B.isub rfl ?_
          refine rz_B.i2l rfl hk12 ?_
          obtain ⟨hk13, h⟩ := rz_g64_inv h
          refine rz_B.lmul rfl ?_
          refine rz_B.go 2 (pc' := 66) (L' := [some (.ref 91), some (.ref 98), some (.ref 99), some (vI a0), some (vI a1), some (vI a2), some (vI a3), none, none, none]) (S' := [vI a0, .ref 98, vL ((A.1 99 (a0).toNat) * (a3 - a2))]) rfl ?_
          refine rz_B.iald rfl rfl hi7 hj8 (by decide) ?_
          refine rz_B.go 1 (pc' := 69) (L' := [some (.ref 91), some (.ref 98), some (.ref 99), some (vI a0), some (vI a1), some (vI a2), some (vI a3), none, none, none]) (S' := [vI a2, vI (A.1 98 (a0).toNat), vL ((A.1 99 (a0).toNat) * (a3 - a2))]) rfl ?_
          obtain ⟨hk14, h⟩ := rz_g32_inv h
          refine rz_B.isub rfl ?_
          refine rz_B.i2l rfl hk14 ?_
          obtain ⟨hz15, h⟩ := rz_gn_inv h
          obtain ⟨hk16, h⟩ := rz_g64_inv h
          refine rz_B.ldiv rfl hk13 (r64_of hk14) hz15 ?_
          obtain ⟨hk17, h⟩ := rz_g32_inv h
          refine rz_B.l2i rfl ?_
          cases h
          exact rz_B.ret rfl hk17 hw6
    · have h := if_F h hc9
      refine rz_B.ifT ((le32 (hw 98 (a0).toNat).1 ha3).mpr (Int.not_lt.mp hc9)) ?_
      refine rz_B.go 2 (pc' := 77) (L' := [some (.ref 91), some (.ref 98), some (.ref 99), some (vI a0), some (vI a1), some (vI a2), some (vI a3), some (vI a0), none, none]) (S' := []) rfl ?_
      refine rz_B.more (rg_le_ok (L := [none, some (.ref 98), some (.ref 99), some (vI a0), some (vI a1), none, some (vI a3), some (vI a0), none, none]) (by simp [rg_le])) ?_
      exact cx185_along_q_77 F F _ _ _ _ _ _ _ h ha0 ha1 ha3 ha0 hw6
  · have h := if_F h hc5
    refine rz_B.ifT ((le32 ha3 (hw 98 (((a0 + a1) - 1)).toNat).1).mpr (Int.not_lt.mp hc5)) ?_
    refine rz_B.put 2 (pc' := 22) (L' := [some (.ref 91), some (.ref 98), some (.ref 99), some (vI a0), some (vI a1), some (vI a2), some (vI a3), none, none, none]) (S' := []) (c := 91) (k := 76) (x := 0) rfl ?_
    have hw18 : wf (aI A 91 76 0) := wf_aI hw (by decide)
    refine rz_B.go 3 (pc' := 26) (L' := [some (.ref 91), some (.ref 98), some (.ref 99), some (vI a0), some (vI a1), some (vI a2), some (vI a3), none, none, none]) (S' := [vI a0, .ref 98, vI a3]) rfl ?_
    obtain ⟨hi19, hj20, h⟩ := rz_gx_inv h
    refine rz_B.iald rfl rfl hi19 hj20 (by decide) ?_
    refine rz_B.go 1 (pc' := if decide (Int32.ofInt (A.1 98 (a0).toNat) ≤ Int32.ofInt a3) = true then 74 else 30) (L' := [some (.ref 91), some (.ref 98), some (.ref 99), some (vI a0), some (vI a1), some (vI a2), some (vI a3), none, none, none]) (S' := []) rfl ?_
    by_cases hc21 : a3 < (A.1 98 (a0).toNat)
    · have h := if_T h hc21
      refine rz_B.ifF (mt (le32 (hw 98 (a0).toNat).1 ha3).mp (Int.not_le.mpr hc21)) ?_
      refine rz_B.go 2 (pc' := 32) (L' := [some (.ref 91), some (.ref 98), some (.ref 99), some (vI a0), some (vI a1), some (vI a2), some (vI a3), none, none, none]) (S' := [vI a0, .ref 98]) rfl ?_
      refine rz_B.iald rfl rfl hi19 hj20 (by decide) ?_
      refine rz_B.go 2 (pc' := if decide (Int32.ofInt a2 < Int32.ofInt (A.1 98 (a0).toNat)) = true then 42 else 38) (L' := [some (.ref 91), some (.ref 98), some (.ref 99), some (vI a0), some (vI a1), some (vI a2), some (vI a3), none, none, none]) (S' := []) rfl ?_
      by_cases hc22 : (A.1 98 (a0).toNat) ≤ a2
      · have h := if_T h hc22
        refine rz_B.ifF (mt (lt32 ha2 (hw 98 (a0).toNat).1).mp (Int.not_lt.mpr hc22)) ?_
        refine rz_B.go 2 (pc' := 40) (L' := [some (.ref 91), some (.ref 98), some (.ref 99), some (vI a0), some (vI a1), some (vI a2), some (vI a3), none, none, none]) (S' := [vI a0, .ref 99]) rfl ?_
        refine rz_B.iald rfl rfl hi19 hj20 (by decide) ?_
        cases h
        exact rz_B.ret rfl (hw 99 (a0).toNat).1 hw18
      · have h := if_F h hc22
        refine rz_B.ifT ((lt32 ha2 (hw 98 (a0).toNat).1).mpr (Int.not_le.mp hc22)) ?_
        refine rz_B.go 3 (pc' := if decide (Int32.ofInt a2 < Int32.ofInt a3) = true then 53 else 49) (L' := [some (.ref 91), some (.ref 98), some (.ref 99), some (vI a0), some (vI a1), some (vI a2), some (vI a3), none, none, none]) (S' := []) rfl ?_
        by_cases hc23 : a3 ≤ a2
        · have h := if_T h hc23
          refine rz_B.ifF (mt (lt32 ha2 ha3).mp (Int.not_lt.mpr hc23)) ?_
          refine rz_B.go 2 (pc' := 73) (L' := [some (.ref 91), some (.ref 98), some (.ref 99), some (vI a0), some (vI a1), some (vI a2), some (vI a3), none, none, none]) (S' := [vI 0]) rfl ?_
          cases h
          exact rz_B.ret rfl (by decide) hw18
        · have h := if_F h hc23
          refine rz_B.ifT ((lt32 ha2 ha3).mpr (Int.not_le.mp hc23)) ?_
          refine rz_B.go 2 (pc' := 55) (L' := [some (.ref 91), some (.ref 98), some (.ref 99), some (vI a0), some (vI a1), some (vI a2), some (vI a3), none, none, none]) (S' := [vI a0, .ref 99]) rfl ?_
          refine rz_B.iald rfl rfl hi19 hj20 (by decide) ?_
          refine rz_B.i2l rfl (hw 99 (a0).toNat).1 ?_
          refine rz_B.go 2 (pc' := 61) (L' := [some (.ref 91), some (.ref 98), some (.ref 99), some (vI a0), some (vI a1), some (vI a2), some (vI a3), none, none, none]) (S' := [vI a2, vI a3, vL (A.1 99 (a0).toNat)]) rfl ?_
          obtain ⟨hk24, h⟩ := rz_g32_inv h
          refine rz_B.isub rfl ?_
          refine rz_B.i2l rfl hk24 ?_
          obtain ⟨hk25, h⟩ := rz_g64_inv h
          refine rz_B.lmul rfl ?_
          refine rz_B.go 2 (pc' := 66) (L' := [some (.ref 91), some (.ref 98), some (.ref 99), some (vI a0), some (vI a1), some (vI a2), some (vI a3), none, none, none]) (S' := [vI a0, .ref 98, vL ((A.1 99 (a0).toNat) * (a3 - a2))]) rfl ?_
          refine rz_B.iald rfl rfl hi19 hj20 (by decide) ?_
          refine rz_B.go 1 (pc' := 69) (L' := [some (.ref 91), some (.ref 98), some (.ref 99), some (vI a0), some (vI a1), some (vI a2), some (vI a3), none, none, none]) (S' := [vI a2, vI (A.1 98 (a0).toNat), vL ((A.1 99 (a0).toNat) * (a3 - a2))]) rfl ?_
          obtain ⟨hk26, h⟩ := rz_g32_inv h
          refine rz_B.isub rfl ?_
          refine rz_B.i2l rfl hk26 ?_
          obtain ⟨hz27, h⟩ := rz_gn_inv h
          obtain ⟨hk28, h⟩ := rz_g64_inv h
          refine rz_B.ldiv rfl hk25 (r64_of hk26) hz27 ?_
          obtain ⟨hk29, h⟩ := rz_g32_inv h
          refine rz_B.l2i rfl ?_
          cases h
          exact rz_B.ret rfl hk29 hw18
    · have h := if_F h hc21
      refine rz_B.ifT ((le32 (hw 98 (a0).toNat).1 ha3).mpr (Int.not_lt.mp hc21)) ?_
      refine rz_B.go 2 (pc' := 77) (L' := [some (.ref 91), some (.ref 98), some (.ref 99), some (vI a0), some (vI a1), some (vI a2), some (vI a3), some (vI a0), none, none]) (S' := []) rfl ?_
      refine rz_B.more (rg_le_ok (L := [none, some (.ref 98), some (.ref 99), some (vI a0), some (vI a1), none, some (vI a3), some (vI a0), none, none]) (by simp [rg_le])) ?_
      exact cx185_along_q_77 F F _ _ _ _ _ _ _ h ha0 ha1 ha3 ha0 hw18
