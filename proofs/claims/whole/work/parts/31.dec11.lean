set_option maxRecDepth 16384
def x208_next_215 (F : Nat) (v4 : Int) (A : rz_A) : Option (Int × rz_A) :=
  rz_gx v4 60 <|
  rz_g32 (v4 + 1) <|
  rz_gx (v4 + 1) 60 <|
  rz_g32 ((A.1 137 (v4).toNat) + (A.1 137 ((v4 + 1)).toNat)) <|
  rz_b (x131_floorDiv F ((A.1 137 (v4).toNat) + (A.1 137 ((v4 + 1)).toNat)) 2 A) fun r7 A7 =>
  some (r7, A7)
theorem cx208_next_215 {d : Nat} (F : Nat) : ∀ (v4 : Int) (A : rz_A) (r : Int) (A' : rz_A), x208_next_215 F v4 A = some (r, A') → r32 v4 → wf A → rz_B (d + 7) 208 215 [some (.ref 91), none, none, none, some (vI v4), none, none, none, none] [] A (some (vI r)) A' (r32 r) := by
  intro v4 A r A' h hv4 hw
  unfold x208_next_215 at h
  refine rz_B.go 3 (pc' := 221) (L' := [some (.ref 91), none, none, none, some (vI v4), none, none, none, none]) (S' := [vI v4, .ref 137]) rfl ?_
  obtain ⟨hi1, hj2, h⟩ := rz_gx_inv h
  refine rz_B.iald rfl rfl hi1 hj2 (by decide) ?_
  refine rz_B.go 4 (pc' := 229) (L' := [some (.ref 91), none, none, none, some (vI v4), none, none, none, none]) (S' := [vI 1, vI v4, .ref 137, vI (A.1 137 (v4).toNat)]) rfl ?_
  obtain ⟨hk3, h⟩ := rz_g32_inv h
  refine rz_B.iadd rfl ?_
  obtain ⟨hi4, hj5, h⟩ := rz_gx_inv h
  refine rz_B.iald rfl rfl hi4 hj5 (by decide) ?_
  obtain ⟨hk6, h⟩ := rz_g32_inv h
  refine rz_B.iadd rfl ?_
  refine rz_B.go 1 (pc' := 233) (L' := [some (.ref 91), none, none, none, some (vI v4), none, none, none, none]) (S' := [vI 2, vI ((A.1 137 (v4).toNat) + (A.1 137 ((v4 + 1)).toNat))]) rfl ?_
  obtain ⟨r7, A7, hf7, h⟩ := rz_b_inv h
  obtain ⟨hg7, hr7, hw7⟩ := cx131_floorDiv F (d := d + 6) hf7 hk6 (by decide) hw
  refine rz_B.call (d := d + 6) (as := [vI ((A.1 137 (v4).toNat) + (A.1 137 ((v4 + 1)).toNat)), vI 2]) (rest := []) (w := some (vI r7)) rfl hg7 ?_
  cases h
  exact rz_B.ret rfl hr7 hw7
def x208_next_168 (F : Nat) (k52 : (Int → Int → Int → Int → rz_A → Option (Int × rz_A))) (v1 : Int) (v2 : Int) (v4 : Int) (v5 : Int) (v6 : Int) (A : rz_A) : Option (Int × rz_A) :=
  rz_g32 (v5 + 1) <|
  rz_gx (v5 + 1) 60 <|
  rz_gx v5 60 <|
  rz_g32 ((A.1 137 ((v5 + 1)).toNat) - (A.1 137 (v5).toNat)) <|
  rz_g64 (((A.1 137 ((v5 + 1)).toNat) - (A.1 137 (v5).toNat)) * v6) <|
  if (((A.1 137 ((v5 + 1)).toNat) - (A.1 137 (v5).toNat)) * v6) ≤ v2 then
    k52 v1 v2 v4 (v5 + 1) A
  else
    k52 v1 (((A.1 137 ((v5 + 1)).toNat) - (A.1 137 (v5).toNat)) * v6) v5 (v5 + 1) A
theorem cx208_next_168 {d : Nat} (F : Nat) {k52 : (Int → Int → Int → Int → rz_A → Option (Int × rz_A))} (hkk52 : ∀ (v1 : Int) (v2 : Int) (v4 : Int) (v5 : Int) (A : rz_A) (r : Int) (A' : rz_A), k52 v1 v2 v4 v5 A = some (r, A') → r32 v1 → r64 v2 → r32 v4 → r32 v5 → wf A → rz_B (d + 7) 208 52 [some (.ref 91), some (vI v1), some (vL v2), none, some (vI v4), some (vI v5), none, none, none] [] A (some (vI r)) A' (r32 r)) : ∀ (v1 : Int) (v2 : Int) (v4 : Int) (v5 : Int) (v6 : Int) (A : rz_A) (r : Int) (A' : rz_A), x208_next_168 F k52 v1 v2 v4 v5 v6 A = some (r, A') → r32 v1 → r64 v2 → r32 v4 → r32 v5 → r32 v6 → wf A → rz_B (d + 7) 208 168 [some (.ref 91), some (vI v1), some (vL v2), none, some (vI v4), some (vI v5), some (vI v6), none, none] [] A (some (vI r)) A' (r32 r) := by
  intro v1 v2 v4 v5 v6 A r A' h hv1 hv2 hv4 hv5 hv6 hw
  unfold x208_next_168 at h
  refine rz_B.go 4 (pc' := 175) (L' := [some (.ref 91), some (vI v1), some (vL v2), none, some (vI v4), some (vI v5), some (vI v6), none, none]) (S' := [vI 1, vI v5, .ref 137]) rfl ?_
  obtain ⟨hk1, h⟩ := rz_g32_inv h
  refine rz_B.iadd rfl ?_
  obtain ⟨hi2, hj3, h⟩ := rz_gx_inv h
  refine rz_B.iald rfl rfl hi2 hj3 (by decide) ?_
  refine rz_B.go 3 (pc' := 183) (L' := [some (.ref 91), some (vI v1), some (vL v2), none, some (vI v4), some (vI v5), some (vI v6), none, none]) (S' := [vI v5, .ref 137, vI (A.1 137 ((v5 + 1)).toNat)]) rfl ?_
  obtain ⟨hi4, hj5, h⟩ := rz_gx_inv h
  refine rz_B.iald rfl rfl hi4 hj5 (by decide) ?_
  obtain ⟨hk6, h⟩ := rz_g32_inv h
  refine rz_B.isub rfl ?_
  refine rz_B.i2l rfl hk6 ?_
  refine rz_B.go 1 (pc' := 188) (L' := [some (.ref 91), some (vI v1), some (vL v2), none, some (vI v4), some (vI v5), some (vI v6), none, none]) (S' := [vI v6, vL ((A.1 137 ((v5 + 1)).toNat) - (A.1 137 (v5).toNat))]) rfl ?_
  refine rz_B.i2l rfl hv6 ?_
  obtain ⟨hk7, h⟩ := rz_g64_inv h
  refine rz_B.lmul rfl ?_
  refine rz_B.go 5 (pc' := if decide (0 < lg_cmp (Int64.ofInt (((A.1 137 ((v5 + 1)).toNat) - (A.1 137 (v5).toNat)) * v6)) (Int64.ofInt v2)) = true then 202 else 199) (L' := [some (.ref 91), some (vI v1), some (vL v2), none, some (vI v4), some (vI v5), some (vI v6), some (vL (((A.1 137 ((v5 + 1)).toNat) - (A.1 137 (v5).toNat)) * v6)), none]) (S' := []) rfl ?_
  by_cases hc8 : (((A.1 137 ((v5 + 1)).toNat) - (A.1 137 (v5).toNat)) * v6) ≤ v2
  · have h := if_T h hc8
    refine rz_B.ifF (mt (cmp_gt hk7 hv2).mp (Int.not_lt.mpr hc8)) ?_
    refine rz_B.go 1 (pc' := 209) (L' := [some (.ref 91), some (vI v1), some (vL v2), none, some (vI v4), some (vI v5), some (vI v6), some (vL (((A.1 137 ((v5 + 1)).toNat) - (A.1 137 (v5).toNat)) * v6)), none]) (S' := []) rfl ?_
    refine rz_B.iinc rfl (by decide) rfl (L' := [some (.ref 91), some (vI v1), some (vL v2), none, some (vI v4), some (vI (v5 + 1)), some (vI v6), some (vL (((A.1 137 ((v5 + 1)).toNat) - (A.1 137 (v5).toNat)) * v6)), none]) rfl ?_
    refine rz_B.go 1 (pc' := 52) (L' := [some (.ref 91), some (vI v1), some (vL v2), none, some (vI v4), some (vI (v5 + 1)), some (vI v6), some (vL (((A.1 137 ((v5 + 1)).toNat) - (A.1 137 (v5).toNat)) * v6)), none]) (S' := []) rfl ?_
    refine rz_B.more (rg_le_ok (L := [some (.ref 91), some (vI v1), some (vL v2), none, some (vI v4), some (vI (v5 + 1)), none, none, none]) (by simp [rg_le])) ?_
    exact hkk52 _ _ _ _ _ _ _ h hv1 hv2 hv4 hk1 hw
  · have h := if_F h hc8
    refine rz_B.ifT ((cmp_gt hk7 hv2).mpr (Int.not_le.mp hc8)) ?_
    refine rz_B.go 4 (pc' := 209) (L' := [some (.ref 91), some (vI v1), some (vL (((A.1 137 ((v5 + 1)).toNat) - (A.1 137 (v5).toNat)) * v6)), none, some (vI v5), some (vI v5), some (vI v6), some (vL (((A.1 137 ((v5 + 1)).toNat) - (A.1 137 (v5).toNat)) * v6)), none]) (S' := []) rfl ?_
    refine rz_B.iinc rfl (by decide) rfl (L' := [some (.ref 91), some (vI v1), some (vL (((A.1 137 ((v5 + 1)).toNat) - (A.1 137 (v5).toNat)) * v6)), none, some (vI v5), some (vI (v5 + 1)), some (vI v6), some (vL (((A.1 137 ((v5 + 1)).toNat) - (A.1 137 (v5).toNat)) * v6)), none]) rfl ?_
    refine rz_B.go 1 (pc' := 52) (L' := [some (.ref 91), some (vI v1), some (vL (((A.1 137 ((v5 + 1)).toNat) - (A.1 137 (v5).toNat)) * v6)), none, some (vI v5), some (vI (v5 + 1)), some (vI v6), some (vL (((A.1 137 ((v5 + 1)).toNat) - (A.1 137 (v5).toNat)) * v6)), none]) (S' := []) rfl ?_
    refine rz_B.more (rg_le_ok (L := [some (.ref 91), some (vI v1), some (vL (((A.1 137 ((v5 + 1)).toNat) - (A.1 137 (v5).toNat)) * v6)), none, some (vI v5), some (vI (v5 + 1)), none, none, none]) (by simp [rg_le])) ?_
    exact hkk52 _ _ _ _ _ _ _ h hv1 hk7 hv5 hk1 hw
def x208_next_69 (F : Nat) (k52 : (Int → Int → Int → Int → rz_A → Option (Int × rz_A))) : Nat → Int → Int → Int → Int → Int → Int → rz_A → Option (Int × rz_A)
  | 0, _, _, _, _, _, _, _ => none
  | n + 1, v1, v2, v4, v5, v6, v7, A =>
    if v7 < (A.1 91 3) then
      rz_gx v7 300 <|
      if (A.1 104 (v7).toNat) = v1 then
        rz_b (x162_which F v1 (A.1 105 (v7).toNat) (A.1 91 0) A) fun r5 A5 =>
        if r5 = v7 then
          rz_b (x161_has F v1 (A5.1 105 (v7).toNat) (A5.1 91 0) A5) fun r7 A7 =>
          if r7 = 0 then
            rz_g32 (v7 + 1) <|
            x208_next_69 F k52 n v1 v2 v4 v5 v6 (v7 + 1) A7
          else
            rz_gx v5 60 <|
            if (A7.1 137 (v5).toNat) < (A7.1 91 54) then
              rz_g32 (v5 + 1) <|
              rz_gx (v5 + 1) 60 <|
              if (A7.1 91 54) < (A7.1 137 ((v5 + 1)).toNat) then
                rz_g32 (v6 + 1) <|
                rz_g32 (v7 + 1) <|
                x208_next_69 F k52 n v1 v2 v4 v5 (v6 + 1) (v7 + 1) A7
              else
                rz_g32 (v7 + 1) <|
                x208_next_69 F k52 n v1 v2 v4 v5 v6 (v7 + 1) A7
            else
              rz_g32 (v7 + 1) <|
              x208_next_69 F k52 n v1 v2 v4 v5 v6 (v7 + 1) A7
        else
          rz_g32 (v7 + 1) <|
          x208_next_69 F k52 n v1 v2 v4 v5 v6 (v7 + 1) A5
      else
        rz_g32 (v7 + 1) <|
        x208_next_69 F k52 n v1 v2 v4 v5 v6 (v7 + 1) A
    else
      x208_next_168 F k52 v1 v2 v4 v5 v6 A
theorem cx208_next_69 {d : Nat} (F : Nat) {k52 : (Int → Int → Int → Int → rz_A → Option (Int × rz_A))} (hkk52 : ∀ (v1 : Int) (v2 : Int) (v4 : Int) (v5 : Int) (A : rz_A) (r : Int) (A' : rz_A), k52 v1 v2 v4 v5 A = some (r, A') → r32 v1 → r64 v2 → r32 v4 → r32 v5 → wf A → rz_B (d + 7) 208 52 [some (.ref 91), some (vI v1), some (vL v2), none, some (vI v4), some (vI v5), none, none, none] [] A (some (vI r)) A' (r32 r)) : ∀ (n : Nat) (v1 : Int) (v2 : Int) (v4 : Int) (v5 : Int) (v6 : Int) (v7 : Int) (A : rz_A) (r : Int) (A' : rz_A), x208_next_69 F k52 n v1 v2 v4 v5 v6 v7 A = some (r, A') → r32 v1 → r64 v2 → r32 v4 → r32 v5 → r32 v6 → r32 v7 → wf A → rz_B (d + 7) 208 69 [some (.ref 91), some (vI v1), some (vL v2), none, some (vI v4), some (vI v5), some (vI v6), some (vI v7), none] [] A (some (vI r)) A' (r32 r) := by
  intro n
  induction n with
  | zero => intro v1 v2 v4 v5 v6 v7 A r A' h; cases h
  | succ n ih =>
    intro v1 v2 v4 v5 v6 v7 A r A' h hv1 hv2 hv4 hv5 hv6 hv7 hw
    rw [x208_next_69] at h
    refine rz_B.go 4 (pc' := if decide (Int32.ofInt (A.1 91 3) ≤ Int32.ofInt v7) = true then 168 else 78) (L' := [some (.ref 91), some (vI v1), some (vL v2), none, some (vI v4), some (vI v5), some (vI v6), some (vI v7), none]) (S' := []) rfl ?_
    by_cases hc1 : v7 < (A.1 91 3)
    · have h := if_T h hc1
      refine rz_B.ifF (mt (le32 (hw 91 3).1 hv7).mp (Int.not_le.mpr hc1)) ?_
      refine rz_B.go 3 (pc' := 84) (L' := [some (.ref 91), some (vI v1), some (vL v2), none, some (vI v4), some (vI v5), some (vI v6), some (vI v7), none]) (S' := [vI v7, .ref 104]) rfl ?_
      obtain ⟨hi2, hj3, h⟩ := rz_gx_inv h
      refine rz_B.iald rfl rfl hi2 hj3 (by decide) ?_
      refine rz_B.go 2 (pc' := if decide (¬ Int32.ofInt (A.1 104 (v7).toNat) = Int32.ofInt v1) = true then 162 else 89) (L' := [some (.ref 91), some (vI v1), some (vL v2), none, some (vI v4), some (vI v5), some (vI v6), some (vI v7), none]) (S' := []) rfl ?_
      by_cases hc4 : (A.1 104 (v7).toNat) = v1
      · have h := if_T h hc4
        refine rz_B.ifF (fun hn => hn ((eq32 (hw 104 (v7).toNat).1 hv1).mpr hc4)) ?_
        refine rz_B.go 5 (pc' := 97) (L' := [some (.ref 91), some (vI v1), some (vL v2), none, some (vI v4), some (vI v5), some (vI v6), some (vI v7), none]) (S' := [vI v7, .ref 105, vI v1, .ref 91]) rfl ?_
        refine rz_B.iald rfl rfl hi2 hj3 (by decide) ?_
        refine rz_B.go 2 (pc' := 102) (L' := [some (.ref 91), some (vI v1), some (vL v2), none, some (vI v4), some (vI v5), some (vI v6), some (vI v7), none]) (S' := [vI (A.1 91 0), vI (A.1 105 (v7).toNat), vI v1, .ref 91]) rfl ?_
        obtain ⟨r5, A5, hf5, h⟩ := rz_b_inv h
        obtain ⟨hg5, hr5, hw5⟩ := cx162_which F (d := d + 3) hf5 hv1 (hw 105 (v7).toNat).1 (hw 91 0).1 hw
        refine rz_B.call (d := d + 6) (as := [.ref 91, vI v1, vI (A.1 105 (v7).toNat), vI (A.1 91 0)]) (rest := []) (w := some (vI r5)) rfl hg5 ?_
        refine rz_B.go 2 (pc' := if decide (¬ Int32.ofInt r5 = Int32.ofInt v7) = true then 162 else 110) (L' := [some (.ref 91), some (vI v1), some (vL v2), none, some (vI v4), some (vI v5), some (vI v6), some (vI v7), none]) (S' := []) rfl ?_
        by_cases hc6 : r5 = v7
        · have h := if_T h hc6
          refine rz_B.ifF (fun hn => hn ((eq32 hr5 hv7).mpr hc6)) ?_
          refine rz_B.go 5 (pc' := 118) (L' := [some (.ref 91), some (vI v1), some (vL v2), none, some (vI v4), some (vI v5), some (vI v6), some (vI v7), none]) (S' := [vI v7, .ref 105, vI v1, .ref 91]) rfl ?_
          refine rz_B.iald rfl rfl hi2 hj3 (by decide) ?_
          refine rz_B.go 2 (pc' := 123) (L' := [some (.ref 91), some (vI v1), some (vL v2), none, some (vI v4), some (vI v5), some (vI v6), some (vI v7), none]) (S' := [vI (A5.1 91 0), vI (A5.1 105 (v7).toNat), vI v1, .ref 91]) rfl ?_
          obtain ⟨r7, A7, hf7, h⟩ := rz_b_inv h
          obtain ⟨hg7, hr7, hw7⟩ := cx161_has F (d := d + 2) hf7 hv1 (hw5 105 (v7).toNat).1 (hw5 91 0).1 hw5
          refine rz_B.call (d := d + 6) (as := [.ref 91, vI v1, vI (A5.1 105 (v7).toNat), vI (A5.1 91 0)]) (rest := []) (w := some (vI r7)) rfl hg7 ?_
          refine rz_B.go 1 (pc' := if decide (Int32.ofInt r7 = Int32.ofInt 0) = true then 162 else 129) (L' := [some (.ref 91), some (vI v1), some (vL v2), none, some (vI v4), some (vI v5), some (vI v6), some (vI v7), none]) (S' := []) rfl ?_
          by_cases hc8 : r7 = 0
          · have h := if_T h hc8
            refine rz_B.ifT ((eq32 hr7 (by decide)).mpr hc8) ?_
            obtain ⟨hk9, h⟩ := rz_g32_inv h
            refine rz_B.iinc rfl (by decide) rfl (L' := [some (.ref 91), some (vI v1), some (vL v2), none, some (vI v4), some (vI v5), some (vI v6), some (vI (v7 + 1)), none]) rfl ?_
            refine rz_B.go 1 (pc' := 69) (L' := [some (.ref 91), some (vI v1), some (vL v2), none, some (vI v4), some (vI v5), some (vI v6), some (vI (v7 + 1)), none]) (S' := []) rfl ?_
            refine rz_B.more (rg_le_ok (L := [some (.ref 91), some (vI v1), some (vL v2), none, some (vI v4), some (vI v5), some (vI v6), some (vI (v7 + 1)), none]) (by simp [rg_le])) ?_
            exact ih _ _ _ _ _ _ _ _ _ h hv1 hv2 hv4 hv5 hv6 hk9 hw7
          · have h := if_F h hc8
            refine rz_B.ifF (mt (eq32 hr7 (by decide)).mp hc8) ?_
            refine rz_B.go 5 (pc' := 139) (L' := [some (.ref 91), some (vI v1), some (vL v2), none, some (vI v4), some (vI v5), some (vI v6), some (vI v7), none]) (S' := [vI v5, .ref 137, vI (A7.1 91 54)]) rfl ?_
            obtain ⟨hi10, hj11, h⟩ := rz_gx_inv h
            refine rz_B.iald rfl rfl hi10 hj11 (by decide) ?_
            refine rz_B.go 1 (pc' := if decide (Int32.ofInt (A7.1 91 54) ≤ Int32.ofInt (A7.1 137 (v5).toNat)) = true then 162 else 143) (L' := [some (.ref 91), some (vI v1), some (vL v2), none, some (vI v4), some (vI v5), some (vI v6), some (vI v7), none]) (S' := []) rfl ?_
            by_cases hc12 : (A7.1 137 (v5).toNat) < (A7.1 91 54)
            · have h := if_T h hc12
              refine rz_B.ifF (mt (le32 (hw7 91 54).1 (hw7 137 (v5).toNat).1).mp (Int.not_le.mpr hc12)) ?_
              refine rz_B.go 6 (pc' := 154) (L' := [some (.ref 91), some (vI v1), some (vL v2), none, some (vI v4), some (vI v5), some (vI v6), some (vI v7), none]) (S' := [vI 1, vI v5, .ref 137, vI (A7.1 91 54)]) rfl ?_
              obtain ⟨hk13, h⟩ := rz_g32_inv h
              refine rz_B.iadd rfl ?_
              obtain ⟨hi14, hj15, h⟩ := rz_gx_inv h
              refine rz_B.iald rfl rfl hi14 hj15 (by decide) ?_
              refine rz_B.go 1 (pc' := if decide (Int32.ofInt (A7.1 137 ((v5 + 1)).toNat) ≤ Int32.ofInt (A7.1 91 54)) = true then 162 else 159) (L' := [some (.ref 91), some (vI v1), some (vL v2), none, some (vI v4), some (vI v5), some (vI v6), some (vI v7), none]) (S' := []) rfl ?_
              by_cases hc16 : (A7.1 91 54) < (A7.1 137 ((v5 + 1)).toNat)
              · have h := if_T h hc16
                refine rz_B.ifF (mt (le32 (hw7 137 ((v5 + 1)).toNat).1 (hw7 91 54).1).mp (Int.not_le.mpr hc16)) ?_
                obtain ⟨hk17, h⟩ := rz_g32_inv h
                refine rz_B.iinc rfl (by decide) rfl (L' := [some (.ref 91), some (vI v1), some (vL v2), none, some (vI v4), some (vI v5), some (vI (v6 + 1)), some (vI v7), none]) rfl ?_
                obtain ⟨hk18, h⟩ := rz_g32_inv h
                refine rz_B.iinc rfl (by decide) rfl (L' := [some (.ref 91), some (vI v1), some (vL v2), none, some (vI v4), some (vI v5), some (vI (v6 + 1)), some (vI (v7 + 1)), none]) rfl ?_
                refine rz_B.go 1 (pc' := 69) (L' := [some (.ref 91), some (vI v1), some (vL v2), none, some (vI v4), some (vI v5), some (vI (v6 + 1)), some (vI (v7 + 1)), none]) (S' := []) rfl ?_
                refine rz_B.more (rg_le_ok (L := [some (.ref 91), some (vI v1), some (vL v2), none, some (vI v4), some (vI v5), some (vI (v6 + 1)), some (vI (v7 + 1)), none]) (by simp [rg_le])) ?_
                exact ih _ _ _ _ _ _ _ _ _ h hv1 hv2 hv4 hv5 hk17 hk18 hw7
              · have h := if_F h hc16
                refine rz_B.ifT ((le32 (hw7 137 ((v5 + 1)).toNat).1 (hw7 91 54).1).mpr (Int.not_lt.mp hc16)) ?_
                obtain ⟨hk19, h⟩ := rz_g32_inv h
                refine rz_B.iinc rfl (by decide) rfl (L' := [some (.ref 91), some (vI v1), some (vL v2), none, some (vI v4), some (vI v5), some (vI v6), some (vI (v7 + 1)), none]) rfl ?_
                refine rz_B.go 1 (pc' := 69) (L' := [some (.ref 91), some (vI v1), some (vL v2), none, some (vI v4), some (vI v5), some (vI v6), some (vI (v7 + 1)), none]) (S' := []) rfl ?_
                refine rz_B.more (rg_le_ok (L := [some (.ref 91), some (vI v1), some (vL v2), none, some (vI v4), some (vI v5), some (vI v6), some (vI (v7 + 1)), none]) (by simp [rg_le])) ?_
                exact ih _ _ _ _ _ _ _ _ _ h hv1 hv2 hv4 hv5 hv6 hk19 hw7
            · have h := if_F h hc12
              refine rz_B.ifT ((le32 (hw7 91 54).1 (hw7 137 (v5).toNat).1).mpr (Int.not_lt.mp hc12)) ?_
              obtain ⟨hk20, h⟩ := rz_g32_inv h
              refine rz_B.iinc rfl (by decide) rfl (L' := [some (.ref 91), some (vI v1), some (vL v2), none, some (vI v4), some (vI v5), some (vI v6), some (vI (v7 + 1)), none]) rfl ?_
              refine rz_B.go 1 (pc' := 69) (L' := [some (.ref 91), some (vI v1), some (vL v2), none, some (vI v4), some (vI v5), some (vI v6), some (vI (v7 + 1)), none]) (S' := []) rfl ?_
              refine rz_B.more (rg_le_ok (L := [some (.ref 91), some (vI v1), some (vL v2), none, some (vI v4), some (vI v5), some (vI v6), some (vI (v7 + 1)), none]) (by simp [rg_le])) ?_
              exact ih _ _ _ _ _ _ _ _ _ h hv1 hv2 hv4 hv5 hv6 hk20 hw7
        · have h := if_F h hc6
          refine rz_B.ifT (mt (eq32 hr5 hv7).mp hc6) ?_
          obtain ⟨hk21, h⟩ := rz_g32_inv h
          refine rz_B.iinc rfl (by decide) rfl (L' := [some (.ref 91), some (vI v1), some (vL v2), none, some (vI v4), some (vI v5), some (vI v6), some (vI (v7 + 1)), none]) rfl ?_
          refine rz_B.go 1 (pc' := 69) (L' := [some (.ref 91), some (vI v1), some (vL v2), none, some (vI v4), some (vI v5), some (vI v6), some (vI (v7 + 1)), none]) (S' := []) rfl ?_
          refine rz_B.more (rg_le_ok (L := [some (.ref 91), some (vI v1), some (vL v2), none, some (vI v4), some (vI v5), some (vI v6), some (vI (v7 + 1)), none]) (by simp [rg_le])) ?_
          exact ih _ _ _ _ _ _ _ _ _ h hv1 hv2 hv4 hv5 hv6 hk21 hw5
      · have h := if_F h hc4
        refine rz_B.ifT (mt (eq32 (hw 104 (v7).toNat).1 hv1).mp hc4) ?_
        obtain ⟨hk22, h⟩ := rz_g32_inv h
        refine rz_B.iinc rfl (by decide) rfl (L' := [some (.ref 91), some (vI v1), some (vL v2), none, some (vI v4), some (vI v5), some (vI v6), some (vI (v7 + 1)), none]) rfl ?_
        refine rz_B.go 1 (pc' := 69) (L' := [some (.ref 91), some (vI v1), some (vL v2), none, some (vI v4), some (vI v5), some (vI v6), some (vI (v7 + 1)), none]) (S' := []) rfl ?_
        refine rz_B.more (rg_le_ok (L := [some (.ref 91), some (vI v1), some (vL v2), none, some (vI v4), some (vI v5), some (vI v6), some (vI (v7 + 1)), none]) (by simp [rg_le])) ?_
        exact ih _ _ _ _ _ _ _ _ _ h hv1 hv2 hv4 hv5 hv6 hk22 hw
    · have h := if_F h hc1
      refine rz_B.ifT ((le32 (hw 91 3).1 hv7).mpr (Int.not_lt.mp hc1)) ?_
      refine rz_B.more (rg_le_ok (L := [some (.ref 91), some (vI v1), some (vL v2), none, some (vI v4), some (vI v5), some (vI v6), none, none]) (by simp [rg_le])) ?_
      exact cx208_next_168 F hkk52 _ _ _ _ _ _ _ _ h hv1 hv2 hv4 hv5 hv6 hw
def x208_next_52 (F : Nat) : Nat → Int → Int → Int → Int → rz_A → Option (Int × rz_A)
  | 0, _, _, _, _, _ => none
  | n + 1, v1, v2, v4, v5, A =>
    rz_g32 (v5 + 1) <|
    if (v5 + 1) < (A.1 91 67) then
      x208_next_69 F (x208_next_52 F n) F v1 v2 v4 v5 0 0 A
    else
      x208_next_215 F v4 A
theorem cx208_next_52 {d : Nat} (F : Nat) : ∀ (n : Nat) (v1 : Int) (v2 : Int) (v4 : Int) (v5 : Int) (A : rz_A) (r : Int) (A' : rz_A), x208_next_52 F n v1 v2 v4 v5 A = some (r, A') → r32 v1 → r64 v2 → r32 v4 → r32 v5 → wf A → rz_B (d + 7) 208 52 [some (.ref 91), some (vI v1), some (vL v2), none, some (vI v4), some (vI v5), none, none, none] [] A (some (vI r)) A' (r32 r) := by
  intro n
  induction n with
  | zero => intro v1 v2 v4 v5 A r A' h; cases h
  | succ n ih =>
    intro v1 v2 v4 v5 A r A' h hv1 hv2 hv4 hv5 hw
    rw [x208_next_52] at h
    refine rz_B.go 2 (pc' := 55) (L' := [some (.ref 91), some (vI v1), some (vL v2), none, some (vI v4), some (vI v5), none, none, none]) (S' := [vI 1, vI v5]) rfl ?_
    obtain ⟨hk1, h⟩ := rz_g32_inv h
    refine rz_B.iadd rfl ?_
    refine rz_B.go 3 (pc' := if decide (Int32.ofInt (A.1 91 67) ≤ Int32.ofInt (v5 + 1)) = true then 215 else 63) (L' := [some (.ref 91), some (vI v1), some (vL v2), none, some (vI v4), some (vI v5), none, none, none]) (S' := []) rfl ?_
    by_cases hc2 : (v5 + 1) < (A.1 91 67)
    · have h := if_T h hc2
      refine rz_B.ifF (mt (le32 (hw 91 67).1 hk1).mp (Int.not_le.mpr hc2)) ?_
      refine rz_B.go 4 (pc' := 69) (L' := [some (.ref 91), some (vI v1), some (vL v2), none, some (vI v4), some (vI v5), some (vI 0), some (vI 0), none]) (S' := []) rfl ?_
      refine rz_B.more (rg_le_ok (L := [some (.ref 91), some (vI v1), some (vL v2), none, some (vI v4), some (vI v5), some (vI 0), some (vI 0), none]) (by simp [rg_le])) ?_
      exact cx208_next_69 F ih F _ _ _ _ _ _ _ _ _ h hv1 hv2 hv4 hv5 (by decide) (by decide) hw
    · have h := if_F h hc2
      refine rz_B.ifT ((le32 (hw 91 67).1 hk1).mpr (Int.not_lt.mp hc2)) ?_
      refine rz_B.more (rg_le_ok (L := [some (.ref 91), none, none, none, some (vI v4), none, none, none, none]) (by simp [rg_le])) ?_
      exact cx208_next_215 F _ _ _ _ h hv4 hw
/-- RiverGaugeModel.next(I)I -/
def x208_next (F : Nat) (a0 : Int) (A : rz_A) : Option (Int × rz_A) :=
  rz_b (x145_isPost F a0 A) fun r1 A1 =>
  if r1 = 0 then
    rz_b (x148_far F (-1) A1) fun r3 A3 =>
    some (r3, A3)
  else
    rz_b (x182_makes F a0 0 9999 (A1.1 91 0) A1) fun _ A4 =>
    if (A4.1 91 67) < 2 then
      rz_b (x148_far F (-5) A4) fun r6 A6 =>
      some (r6, A6)
    else
      x208_next_52 F F a0 (-1) 0 0 A4
theorem cx208_next (F : Nat) {d : Nat} {a0 : Int} {A : rz_A} {r : Int} {A' : rz_A} (h : x208_next F a0 A = some (r, A')) (ha0 : r32 a0) (hw : wf A) : rg_Rn (d + 7) 208 [.ref 91, vI a0] (toM A) (some (vI r)) (toM A') ∧ (r32 r) ∧ wf A' := by
  show rz_B (d + 7) 208 0 [some (.ref 91), some (vI a0), none, none, none, none, none, none, none] [] A (some (vI r)) A' (r32 r)
  unfold x208_next at h
  refine rz_B.go 2 (pc' := 2) (L' := [some (.ref 91), some (vI a0), none, none, none, none, none, none, none]) (S' := [vI a0, .ref 91]) rfl ?_
  obtain ⟨r1, A1, hf1, h⟩ := rz_b_inv h
  obtain ⟨hg1, hr1, hw1⟩ := cx145_isPost F (d := d + 6) hf1 ha0 hw
  refine rz_B.call (d := d + 6) (as := [.ref 91, vI a0]) (rest := []) (w := some (vI r1)) rfl hg1 ?_
  refine rz_B.go 1 (pc' := if decide (¬ Int32.ofInt r1 = Int32.ofInt 0) = true then 14 else 8) (L' := [some (.ref 91), some (vI a0), none, none, none, none, none, none, none]) (S' := []) rfl ?_
  by_cases hc2 : r1 = 0
  · have h := if_T h hc2
    refine rz_B.ifF (fun hn => hn ((eq32 hr1 (by decide)).mpr hc2)) ?_
    refine rz_B.go 2 (pc' := 10) (L' := [some (.ref 91), some (vI a0), none, none, none, none, none, none, none]) (S' := [vI (-1), .ref 91]) rfl ?_
    obtain ⟨r3, A3, hf3, h⟩ := rz_b_inv h
    obtain ⟨hg3, hr3, hw3⟩ := cx148_far F (d := d + 5) hf3 (by decide) hw1
    refine rz_B.call (d := d + 6) (as := [.ref 91, vI (-1)]) (rest := []) (w := some (vI r3)) rfl hg3 ?_
    cases h
    exact rz_B.ret rfl hr3 hw3
  · have h := if_F h hc2
    refine rz_B.ifT (mt (eq32 hr1 (by decide)).mp hc2) ?_
    refine rz_B.go 6 (pc' := 24) (L' := [some (.ref 91), some (vI a0), none, none, none, none, none, none, none]) (S' := [vI (A1.1 91 0), vI 9999, vI 0, vI a0, .ref 91]) rfl ?_
    obtain ⟨_, A4, hf4, h⟩ := rz_b_inv h
    obtain ⟨hg4, hr4, hw4⟩ := cx182_makes F (d := d + 0) hf4 ha0 (by decide) (by decide) (hw1 91 0).1 hw1
    refine rz_B.call (d := d + 6) (as := [.ref 91, vI a0, vI 0, vI 9999, vI (A1.1 91 0)]) (rest := []) (w := none) rfl hg4 ?_
    refine rz_B.go 4 (pc' := if decide (Int32.ofInt 2 ≤ Int32.ofInt (A4.1 91 67)) = true then 42 else 35) (L' := [some (.ref 91), some (vI a0), none, none, none, none, none, none, none]) (S' := []) rfl ?_
    by_cases hc5 : (A4.1 91 67) < 2
    · have h := if_T h hc5
      refine rz_B.ifF (mt (le32 (by decide) (hw4 91 67).1).mp (Int.not_le.mpr hc5)) ?_
      refine rz_B.go 2 (pc' := 38) (L' := [some (.ref 91), some (vI a0), none, none, none, none, none, none, none]) (S' := [vI (-5), .ref 91]) rfl ?_
      obtain ⟨r6, A6, hf6, h⟩ := rz_b_inv h
      obtain ⟨hg6, hr6, hw6⟩ := cx148_far F (d := d + 5) hf6 (by decide) hw4
      refine rz_B.call (d := d + 6) (as := [.ref 91, vI (-5)]) (rest := []) (w := some (vI r6)) rfl hg6 ?_
      cases h
      exact rz_B.ret rfl hr6 hw6
    · have h := if_F h hc5
      refine rz_B.ifT ((le32 (by decide) (hw4 91 67).1).mpr (Int.not_lt.mp hc5)) ?_
      refine rz_B.go 6 (pc' := 52) (L' := [some (.ref 91), some (vI a0), some (vL (-1)), none, some (vI 0), some (vI 0), none, none, none]) (S' := []) rfl ?_
      refine rz_B.more (rg_le_ok (L := [some (.ref 91), some (vI a0), some (vL (-1)), none, some (vI 0), some (vI 0), none, none, none]) (by simp [rg_le])) ?_
      exact cx208_next_52 F F _ _ _ _ _ _ _ h ha0 (by decide) (by decide) (by decide) hw4
def x209_publish_168 (F : Nat) (v1 : Int) (v2 : Int) (A : rz_A) : Option (Int × rz_A) :=
  rz_gx (A.1 91 7) 40 <|
  rz_g32 ((A.1 91 7) + 1) <|
  some ((A.1 91 7), (aI (aI (aI (aI A 127 ((A.1 91 7)).toNat v1) 128 ((A.1 91 7)).toNat v2) 129 ((A.1 91 7)).toNat (A.1 91 78)) 91 7 ((A.1 91 7) + 1)))
theorem cx209_publish_168 {d : Nat} (F : Nat) : ∀ (v1 : Int) (v2 : Int) (A : rz_A) (r : Int) (A' : rz_A), x209_publish_168 F v1 v2 A = some (r, A') → r32 v1 → r32 v2 → wf A → rz_B (d + 9) 209 168 [some (.ref 91), some (vI v1), some (vI v2), none, none] [] A (some (vI r)) A' (r32 r) := by
  intro v1 v2 A r A' h hv1 hv2 hw
  unfold x209_publish_168 at h
  refine rz_B.go 5 (pc' := 177) (L' := [some (.ref 91), some (vI v1), some (vI v2), none, none]) (S' := [vI v1, vI (A.1 91 7), .ref 127]) rfl ?_
  obtain ⟨hi1, hj2, h⟩ := rz_gx_inv h
  refine rz_B.iast rfl rfl hi1 hj2 (by decide) ?_
  have hw3 : wf (aI A 127 ((A.1 91 7)).toNat v1) := wf_aI hw hv1
  refine rz_B.go 5 (pc' := 187) (L' := [some (.ref 91), some (vI v1), some (vI v2), none, none]) (S' := [vI v2, vI (A.1 91 7), .ref 128]) rfl ?_
  refine rz_B.iast rfl rfl hi1 hj2 (by decide) ?_
  have hw4 : wf (aI (aI A 127 ((A.1 91 7)).toNat v1) 128 ((A.1 91 7)).toNat v2) := wf_aI hw3 hv2
  refine rz_B.go 6 (pc' := 200) (L' := [some (.ref 91), some (vI v1), some (vI v2), none, none]) (S' := [vI (A.1 91 78), vI (A.1 91 7), .ref 129]) rfl ?_
  refine rz_B.iast rfl rfl hi1 hj2 (by decide) ?_
  have hw5 : wf (aI (aI (aI A 127 ((A.1 91 7)).toNat v1) 128 ((A.1 91 7)).toNat v2) 129 ((A.1 91 7)).toNat (A.1 91 78)) := wf_aI hw4 (hw 91 78).1
  refine rz_B.go 5 (pc' := 208) (L' := [some (.ref 91), some (vI v1), some (vI v2), none, none]) (S' := [vI 1, vI (A.1 91 7), .ref 91, vI (A.1 91 7)]) rfl ?_
  obtain ⟨hk6, h⟩ := rz_g32_inv h
  refine rz_B.iadd rfl ?_
  refine rz_B.put 1 (pc' := 212) (L' := [some (.ref 91), some (vI v1), some (vI v2), none, none]) (S' := [vI (A.1 91 7)]) (c := 91) (k := 7) (x := ((A.1 91 7) + 1)) rfl ?_
  have hw7 : wf (aI (aI (aI (aI A 127 ((A.1 91 7)).toNat v1) 128 ((A.1 91 7)).toNat v2) 129 ((A.1 91 7)).toNat (A.1 91 78)) 91 7 ((A.1 91 7) + 1)) := wf_aI hw5 hk6
  cases h
  exact rz_B.ret rfl (hw 91 7).1 hw7
/-- RiverGaugeModel.publish(II)I -/
def x209_publish (F : Nat) (a0 : Int) (a1 : Int) (A : rz_A) : Option (Int × rz_A) :=
  rz_b (x145_isPost F a0 A) fun r1 A1 =>
  if r1 = 0 then
    rz_b (x142_no F (-1) A1) fun r3 A3 =>
    some (r3, A3)
  else
    rz_b (x147_times F a1 a1 A1) fun r4 A4 =>
    if r4 = 0 then
      if (A4.1 91 7) = 40 then
        rz_b (x142_no F (-6) A4) fun r7 A7 =>
        some (r7, A7)
      else
        rz_b (x188_flows F a0 a1 (A4.1 91 0) A4) fun r8 A8 =>
        if r8 = 0 then
          rz_b (x142_no F (-5) A8) fun r10 A10 =>
          some (r10, A10)
        else
          rz_g32 (a1.tdiv 96) <|
          rz_b (x155_inForce F 2 (a1.tdiv 96) (A8.1 91 0) A8) fun r12 A12 =>
          if 0 ≤ r12 then
            rz_b (x157_lays F a1 A12) fun _ A14 =>
            if (A14.1 91 76) = 0 then
              if (A14.1 91 77) = 0 then
                rz_b (x158_says F r12 (aL (aL (aL (aL A14 133 5 (A14.1 91 78)) 133 22 (A14.1 91 79)) 133 23 0) 133 8 0)) fun r21 A21 =>
                if r21 = 0 then
                  rz_b (x142_no F (-3) A21) fun r23 A23 =>
                  some (r23, A23)
                else
                  x209_publish_168 F a0 a1 A21
              else
                rz_b (x158_says F r12 (aL (aL (aL (aL A14 133 5 (A14.1 91 78)) 133 22 (A14.1 91 79)) 133 23 0) 133 8 1)) fun r25 A25 =>
                if r25 = 0 then
                  rz_b (x142_no F (-3) A25) fun r27 A27 =>
                  some (r27, A27)
                else
                  x209_publish_168 F a0 a1 A25
            else
              if (A14.1 91 77) = 0 then
                rz_b (x158_says F r12 (aL (aL (aL (aL A14 133 5 (A14.1 91 78)) 133 22 (A14.1 91 79)) 133 23 1) 133 8 0)) fun r31 A31 =>
                if r31 = 0 then
                  rz_b (x142_no F (-3) A31) fun r33 A33 =>
                  some (r33, A33)
                else
                  x209_publish_168 F a0 a1 A31
              else
                rz_b (x158_says F r12 (aL (aL (aL (aL A14 133 5 (A14.1 91 78)) 133 22 (A14.1 91 79)) 133 23 1) 133 8 1)) fun r35 A35 =>
                if r35 = 0 then
                  rz_b (x142_no F (-3) A35) fun r37 A37 =>
                  some (r37, A37)
                else
                  x209_publish_168 F a0 a1 A35
          else
            x209_publish_168 F a0 a1 A12
    else
      rz_b (x142_no F r4 A4) fun r38 A38 =>
      some (r38, A38)
theorem cx209_publish (F : Nat) {d : Nat} {a0 : Int} {a1 : Int} {A : rz_A} {r : Int} {A' : rz_A} (h : x209_publish F a0 a1 A = some (r, A')) (ha0 : r32 a0) (ha1 : r32 a1) (hw : wf A) : rg_Rn (d + 9) 209 [.ref 91, vI a0, vI a1] (toM A) (some (vI r)) (toM A') ∧ (r32 r) ∧ wf A' := by
  show rz_B (d + 9) 209 0 [some (.ref 91), some (vI a0), some (vI a1), none, none] [] A (some (vI r)) A' (r32 r)
  unfold x209_publish at h
  refine rz_B.go 2 (pc' := 2) (L' := [some (.ref 91), some (vI a0), some (vI a1), none, none]) (S' := [vI a0, .ref 91]) rfl ?_
  obtain ⟨r1, A1, hf1, h⟩ := rz_b_inv h
  obtain ⟨hg1, hr1, hw1⟩ := cx145_isPost F (d := d + 8) hf1 ha0 hw
  refine rz_B.call (d := d + 8) (as := [.ref 91, vI a0]) (rest := []) (w := some (vI r1)) rfl hg1 ?_
  refine rz_B.go 1 (pc' := if decide (¬ Int32.ofInt r1 = Int32.ofInt 0) = true then 14 else 8) (L' := [some (.ref 91), some (vI a0), some (vI a1), none, none]) (S' := []) rfl ?_
  by_cases hc2 : r1 = 0
  · have h := if_T h hc2
    refine rz_B.ifF (fun hn => hn ((eq32 hr1 (by decide)).mpr hc2)) ?_
    refine rz_B.go 2 (pc' := 10) (L' := [some (.ref 91), some (vI a0), some (vI a1), none, none]) (S' := [vI (-1), .ref 91]) rfl ?_
    obtain ⟨r3, A3, hf3, h⟩ := rz_b_inv h
    obtain ⟨hg3, hr3, hw3⟩ := cx142_no F (d := d + 8) hf3 (by decide) hw1
    refine rz_B.call (d := d + 8) (as := [.ref 91, vI (-1)]) (rest := []) (w := some (vI r3)) rfl hg3 ?_
    cases h
    exact rz_B.ret rfl hr3 hw3
  · have h := if_F h hc2
    refine rz_B.ifT (mt (eq32 hr1 (by decide)).mp hc2) ?_
    refine rz_B.go 2 (pc' := 16) (L' := [some (.ref 91), some (vI a0), some (vI a1), none, none]) (S' := [vI a1, vI a1]) rfl ?_
    obtain ⟨r4, A4, hf4, h⟩ := rz_b_inv h
    obtain ⟨hg4, hr4, hw4⟩ := cx147_times F (d := d + 8) hf4 ha1 ha1 hw1
    refine rz_B.call (d := d + 8) (as := [vI a1, vI a1]) (rest := []) (w := some (vI r4)) rfl hg4 ?_
    refine rz_B.go 3 (pc' := if decide (Int32.ofInt r4 = Int32.ofInt 0) = true then 30 else 24) (L' := [some (.ref 91), some (vI a0), some (vI a1), some (vI r4), none]) (S' := []) rfl ?_
    by_cases hc5 : r4 = 0
    · have h := if_T h hc5
      refine rz_B.ifT ((eq32 hr4 (by decide)).mpr hc5) ?_
      refine rz_B.go 4 (pc' := if decide (¬ Int32.ofInt (A4.1 91 7) = Int32.ofInt 40) = true then 46 else 39) (L' := [some (.ref 91), some (vI a0), some (vI a1), some (vI r4), none]) (S' := []) rfl ?_
      by_cases hc6 : (A4.1 91 7) = 40
      · have h := if_T h hc6
        refine rz_B.ifF (fun hn => hn ((eq32 (hw4 91 7).1 (by decide)).mpr hc6)) ?_
        refine rz_B.go 2 (pc' := 42) (L' := [some (.ref 91), some (vI a0), some (vI a1), some (vI r4), none]) (S' := [vI (-6), .ref 91]) rfl ?_
        obtain ⟨r7, A7, hf7, h⟩ := rz_b_inv h
        obtain ⟨hg7, hr7, hw7⟩ := cx142_no F (d := d + 8) hf7 (by decide) hw4
        refine rz_B.call (d := d + 8) (as := [.ref 91, vI (-6)]) (rest := []) (w := some (vI r7)) rfl hg7 ?_
        cases h
        exact rz_B.ret rfl hr7 hw7
      · have h := if_F h hc6
        refine rz_B.ifT (mt (eq32 (hw4 91 7).1 (by decide)).mp hc6) ?_
        refine rz_B.go 5 (pc' := 53) (L' := [some (.ref 91), some (vI a0), some (vI a1), some (vI r4), none]) (S' := [vI (A4.1 91 0), vI a1, vI a0, .ref 91]) rfl ?_
        obtain ⟨r8, A8, hf8, h⟩ := rz_b_inv h
        obtain ⟨hg8, hr8, hw8⟩ := cx188_flows F (d := d + 0) hf8 ha0 ha1 (hw4 91 0).1 hw4
        refine rz_B.call (d := d + 8) (as := [.ref 91, vI a0, vI a1, vI (A4.1 91 0)]) (rest := []) (w := some (vI r8)) rfl hg8 ?_
        refine rz_B.go 1 (pc' := if decide (¬ Int32.ofInt r8 = Int32.ofInt 0) = true then 66 else 59) (L' := [some (.ref 91), some (vI a0), some (vI a1), some (vI r4), none]) (S' := []) rfl ?_
        by_cases hc9 : r8 = 0
        · have h := if_T h hc9
          refine rz_B.ifF (fun hn => hn ((eq32 hr8 (by decide)).mpr hc9)) ?_
          refine rz_B.go 2 (pc' := 62) (L' := [some (.ref 91), some (vI a0), some (vI a1), some (vI r4), none]) (S' := [vI (-5), .ref 91]) rfl ?_
          obtain ⟨r10, A10, hf10, h⟩ := rz_b_inv h
          obtain ⟨hg10, hr10, hw10⟩ := cx142_no F (d := d + 8) hf10 (by decide) hw8
          refine rz_B.call (d := d + 8) (as := [.ref 91, vI (-5)]) (rest := []) (w := some (vI r10)) rfl hg10 ?_
          cases h
          exact rz_B.ret rfl hr10 hw10
        · have h := if_F h hc9
          refine rz_B.ifT (mt (eq32 hr8 (by decide)).mp hc9) ?_
          refine rz_B.go 4 (pc' := 71) (L' := [some (.ref 91), some (vI a0), some (vI a1), some (vI r4), none]) (S' := [vI 96, vI a1, vI 2, .ref 91]) rfl ?_
          obtain ⟨hk11, h⟩ := rz_g32_inv h
          refine rz_B.idiv rfl ha1 (by decide) (by decide) ?_
          refine rz_B.go 2 (pc' := 76) (L' := [some (.ref 91), some (vI a0), some (vI a1), some (vI r4), none]) (S' := [vI (A8.1 91 0), vI (a1.tdiv 96), vI 2, .ref 91]) rfl ?_
          obtain ⟨r12, A12, hf12, h⟩ := rz_b_inv h
          obtain ⟨hg12, hr12, hw12⟩ := cx155_inForce F (d := d + 8) hf12 (by decide) hk11 (hw8 91 0).1 hw8
          refine rz_B.call (d := d + 8) (as := [.ref 91, vI 2, vI (a1.tdiv 96), vI (A8.1 91 0)]) (rest := []) (w := some (vI r12)) rfl hg12 ?_
          refine rz_B.go 3 (pc' := if decide (Int32.ofInt r12 < Int32.ofInt 0) = true then 168 else 86) (L' := [some (.ref 91), some (vI a0), some (vI a1), some (vI r4), some (vI r12)]) (S' := []) rfl ?_
          by_cases hc13 : 0 ≤ r12
          · have h := if_T h hc13
            refine rz_B.ifF (mt (lt32 hr12 (by decide)).mp (Int.not_lt.mpr hc13)) ?_
            refine rz_B.go 2 (pc' := 88) (L' := [some (.ref 91), some (vI a0), some (vI a1), some (vI r4), some (vI r12)]) (S' := [vI a1, .ref 91]) rfl ?_
            obtain ⟨_, A14, hf14, h⟩ := rz_b_inv h
            obtain ⟨hg14, hr14, hw14⟩ := cx157_lays F (d := d + 8) hf14 ha1 hw12
            refine rz_B.call (d := d + 8) (as := [.ref 91, vI a1]) (rest := []) (w := none) rfl hg14 ?_
            refine rz_B.go 5 (pc' := 100) (L' := [some (.ref 91), some (vI a0), some (vI a1), some (vI r4), some (vI r12)]) (S' := [vI (A14.1 91 78), vI 5, .ref 133]) rfl ?_
            refine rz_B.i2l rfl (hw14 91 78).1 ?_
            refine rz_B.last rfl rfl (by decide) (by decide) (by decide) ?_
            have hw15 : wf (aL A14 133 5 (A14.1 91 78)) := wf_aL hw14 (r64_of (hw14 91 78).1)
            refine rz_B.go 5 (pc' := 112) (L' := [some (.ref 91), some (vI a0), some (vI a1), some (vI r4), some (vI r12)]) (S' := [vI (A14.1 91 79), vI 22, .ref 133]) rfl ?_
            refine rz_B.i2l rfl (hw14 91 79).1 ?_
            refine rz_B.last rfl rfl (by decide) (by decide) (by decide) ?_
            have hw16 : wf (aL (aL A14 133 5 (A14.1 91 78)) 133 22 (A14.1 91 79)) := wf_aL hw15 (r64_of (hw14 91 79).1)
            refine rz_B.go 6 (pc' := if decide (Int32.ofInt (A14.1 91 76) = Int32.ofInt 0) = true then 131 else 127) (L' := [some (.ref 91), some (vI a0), some (vI a1), some (vI r4), some (vI r12)]) (S' := [vI 23, .ref 133]) rfl ?_
            by_cases hc17 : (A14.1 91 76) = 0
            · have h := if_T h hc17
              refine rz_B.ifT ((eq32 (hw14 91 76).1 (by decide)).mpr hc17) ?_
              refine rz_B.go 1 (pc' := 132) (L' := [some (.ref 91), some (vI a0), some (vI a1), some (vI r4), some (vI r12)]) (S' := [vL 0, vI 23, .ref 133]) rfl ?_
              refine rz_B.last rfl rfl (by decide) (by decide) (by decide) ?_
              have hw18 : wf (aL (aL (aL A14 133 5 (A14.1 91 78)) 133 22 (A14.1 91 79)) 133 23 0) := wf_aL hw16 (by decide)
              refine rz_B.go 6 (pc' := if decide (Int32.ofInt (A14.1 91 77) = Int32.ofInt 0) = true then 150 else 146) (L' := [some (.ref 91), some (vI a0), some (vI a1), some (vI r4), some (vI r12)]) (S' := [vI 8, .ref 133]) rfl ?_
              by_cases hc19 : (A14.1 91 77) = 0
              · have h := if_T h hc19
                refine rz_B.ifT ((eq32 (hw14 91 77).1 (by decide)).mpr hc19) ?_
                refine rz_B.go 1 (pc' := 151) (L' := [some (.ref 91), some (vI a0), some (vI a1), some (vI r4), some (vI r12)]) (S' := [vL 0, vI 8, .ref 133]) rfl ?_
                refine rz_B.last rfl rfl (by decide) (by decide) (by decide) ?_
                have hw20 : wf (aL (aL (aL (aL A14 133 5 (A14.1 91 78)) 133 22 (A14.1 91 79)) 133 23 0) 133 8 0) := wf_aL hw18 (by decide)
                refine rz_B.go 2 (pc' := 155) (L' := [some (.ref 91), some (vI a0), some (vI a1), some (vI r4), some (vI r12)]) (S' := [vI r12, .ref 91]) rfl ?_
                obtain ⟨r21, A21, hf21, h⟩ := rz_b_inv h
                obtain ⟨hg21, hr21, hw21⟩ := cx158_says F (d := d + 7) hf21 hr12 hw20
                refine rz_B.call (d := d + 8) (as := [.ref 91, vI r12]) (rest := []) (w := some (vI r21)) rfl hg21 ?_
                refine rz_B.go 1 (pc' := if decide (¬ Int32.ofInt r21 = Int32.ofInt 0) = true then 168 else 161) (L' := [some (.ref 91), some (vI a0), some (vI a1), some (vI r4), some (vI r12)]) (S' := []) rfl ?_
                by_cases hc22 : r21 = 0
                · have h := if_T h hc22
                  refine rz_B.ifF (fun hn => hn ((eq32 hr21 (by decide)).mpr hc22)) ?_
                  refine rz_B.go 2 (pc' := 164) (L' := [some (.ref 91), some (vI a0), some (vI a1), some (vI r4), some (vI r12)]) (S' := [vI (-3), .ref 91]) rfl ?_
                  obtain ⟨r23, A23, hf23, h⟩ := rz_b_inv h
                  obtain ⟨hg23, hr23, hw23⟩ := cx142_no F (d := d + 8) hf23 (by decide) hw21
                  refine rz_B.call (d := d + 8) (as := [.ref 91, vI (-3)]) (rest := []) (w := some (vI r23)) rfl hg23 ?_
                  cases h
                  exact rz_B.ret rfl hr23 hw23
                · have h := if_F h hc22
                  refine rz_B.ifT (mt (eq32 hr21 (by decide)).mp hc22) ?_
                  refine rz_B.more (rg_le_ok (L := [some (.ref 91), some (vI a0), some (vI a1), none, none]) (by simp [rg_le])) ?_
                  exact cx209_publish_168 F _ _ _ _ _ h ha0 ha1 hw21
              · have h := if_F h hc19
                refine rz_B.ifF (mt (eq32 (hw14 91 77).1 (by decide)).mp hc19) ?_
                refine rz_B.go 2 (pc' := 151) (L' := [some (.ref 91), some (vI a0), some (vI a1), some (vI r4), some (vI r12)]) (S' := [vL 1, vI 8, .ref 133]) rfl ?_
                refine rz_B.last rfl rfl (by decide) (by decide) (by decide) ?_
                have hw24 : wf (aL (aL (aL (aL A14 133 5 (A14.1 91 78)) 133 22 (A14.1 91 79)) 133 23 0) 133 8 1) := wf_aL hw18 (by decide)
                refine rz_B.go 2 (pc' := 155) (L' := [some (.ref 91), some (vI a0), some (vI a1), some (vI r4), some (vI r12)]) (S' := [vI r12, .ref 91]) rfl ?_
                obtain ⟨r25, A25, hf25, h⟩ := rz_b_inv h
                obtain ⟨hg25, hr25, hw25⟩ := cx158_says F (d := d + 7) hf25 hr12 hw24
                refine rz_B.call (d := d + 8) (as := [.ref 91, vI r12]) (rest := []) (w := some (vI r25)) rfl hg25 ?_
                refine rz_B.go 1 (pc' := if decide (¬ Int32.ofInt r25 = Int32.ofInt 0) = true then 168 else 161) (L' := [some (.ref 91), some (vI a0), some (vI a1), some (vI r4), some (vI r12)]) (S' := []) rfl ?_
                by_cases hc26 : r25 = 0
                · have h := if_T h hc26
                  refine rz_B.ifF (fun hn => hn ((eq32 hr25 (by decide)).mpr hc26)) ?_
                  refine rz_B.go 2 (pc' := 164) (L' := [some (.ref 91), some (vI a0), some (vI a1), some (vI r4), some (vI r12)]) (S' := [vI (-3), .ref 91]) rfl ?_
                  obtain ⟨r27, A27, hf27, h⟩ := rz_b_inv h
                  obtain ⟨hg27, hr27, hw27⟩ := cx142_no F (d := d + 8) hf27 (by decide) hw25
                  refine rz_B.call (d := d + 8) (as := [.ref 91, vI (-3)]) (rest := []) (w := some (vI r27)) rfl hg27 ?_
                  cases h
                  exact rz_B.ret rfl hr27 hw27
                · have h := if_F h hc26
                  refine rz_B.ifT (mt (eq32 hr25 (by decide)).mp hc26) ?_
                  refine rz_B.more (rg_le_ok (L := [some (.ref 91), some (vI a0), some (vI a1), none, none]) (by simp [rg_le])) ?_
                  exact cx209_publish_168 F _ _ _ _ _ h ha0 ha1 hw25
            · have h := if_F h hc17
              refine rz_B.ifF (mt (eq32 (hw14 91 76).1 (by decide)).mp hc17) ?_
              refine rz_B.go 2 (pc' := 132) (L' := [some (.ref 91), some (vI a0), some (vI a1), some (vI r4), some (vI r12)]) (S' := [vL 1, vI 23, .ref 133]) rfl ?_
              refine rz_B.last rfl rfl (by decide) (by decide) (by decide) ?_
              have hw28 : wf (aL (aL (aL A14 133 5 (A14.1 91 78)) 133 22 (A14.1 91 79)) 133 23 1) := wf_aL hw16 (by decide)
              refine rz_B.go 6 (pc' := if decide (Int32.ofInt (A14.1 91 77) = Int32.ofInt 0) = true then 150 else 146) (L' := [some (.ref 91), some (vI a0), some (vI a1), some (vI r4), some (vI r12)]) (S' := [vI 8, .ref 133]) rfl ?_
              by_cases hc29 : (A14.1 91 77) = 0
              · have h := if_T h hc29
                refine rz_B.ifT ((eq32 (hw14 91 77).1 (by decide)).mpr hc29) ?_
                refine rz_B.go 1 (pc' := 151) (L' := [some (.ref 91), some (vI a0), some (vI a1), some (vI r4), some (vI r12)]) (S' := [vL 0, vI 8, .ref 133]) rfl ?_
                refine rz_B.last rfl rfl (by decide) (by decide) (by decide) ?_
                have hw30 : wf (aL (aL (aL (aL A14 133 5 (A14.1 91 78)) 133 22 (A14.1 91 79)) 133 23 1) 133 8 0) := wf_aL hw28 (by decide)
                refine rz_B.go 2 (pc' := 155) (L' := [some (.ref 91), some (vI a0), some (vI a1), some (vI r4), some (vI r12)]) (S' := [vI r12, .ref 91]) rfl ?_
                obtain ⟨r31, A31, hf31, h⟩ := rz_b_inv h
                obtain ⟨hg31, hr31, hw31⟩ := cx158_says F (d := d + 7) hf31 hr12 hw30
                refine rz_B.call (d := d + 8) (as := [.ref 91, vI r12]) (rest := []) (w := some (vI r31)) rfl hg31 ?_
                refine rz_B.go 1 (pc' := if decide (¬ Int32.ofInt r31 = Int32.ofInt 0) = true then 168 else 161) (L' := [some (.ref 91), some (vI a0), some (vI a1), some (vI r4), some (vI r12)]) (S' := []) rfl ?_
                by_cases hc32 : r31 = 0
                · have h := if_T h hc32
                  refine rz_B.ifF (fun hn => hn ((eq32 hr31 (by decide)).mpr hc32)) ?_
                  refine rz_B.go 2 (pc' := 164) (L' := [some (.ref 91), some (vI a0), some (vI a1), some (vI r4), some (vI r12)]) (S' := [vI (-3), .ref 91]) rfl ?_
                  obtain ⟨r33, A33, hf33, h⟩ := rz_b_inv h
                  obtain ⟨hg33, hr33, hw33⟩ := cx142_no F (d := d + 8) hf33 (by decide) hw31
                  refine rz_B.call (d := d + 8) (as := [.ref 91, vI (-3)]) (rest := []) (w := some (vI r33)) rfl hg33 ?_
                  cases h
                  exact rz_B.ret rfl hr33 hw33
                · have h := if_F h hc32
                  refine rz_B.ifT (mt (eq32 hr31 (by decide)).mp hc32) ?_
                  refine rz_B.more (rg_le_ok (L := [some (.ref 91), some (vI a0), some (vI a1), none, none]) (by simp [rg_le])) ?_
                  exact cx209_publish_168 F _ _ _ _ _ h ha0 ha1 hw31
              · have h := if_F h hc29
                refine rz_B.ifF (mt (eq32 (hw14 91 77).1 (by decide)).mp hc29) ?_
                refine rz_B.go 2 (pc' := 151) (L' := [some (.ref 91), some (vI a0), some (vI a1), some (vI r4), some (vI r12)]) (S' := [vL 1, vI 8, .ref 133]) rfl ?_
                refine rz_B.last rfl rfl (by decide) (by decide) (by decide) ?_
                have hw34 : wf (aL (aL (aL (aL A14 133 5 (A14.1 91 78)) 133 22 (A14.1 91 79)) 133 23 1) 133 8 1) := wf_aL hw28 (by decide)
                refine rz_B.go 2 (pc' := 155) (L' := [some (.ref 91), some (vI a0), some (vI a1), some (vI r4), some (vI r12)]) (S' := [vI r12, .ref 91]) rfl ?_
                obtain ⟨r35, A35, hf35, h⟩ := rz_b_inv h
                obtain ⟨hg35, hr35, hw35⟩ := cx158_says F (d := d + 7) hf35 hr12 hw34
                refine rz_B.call (d := d + 8) (as := [.ref 91, vI r12]) (rest := []) (w := some (vI r35)) rfl hg35 ?_
                refine rz_B.go 1 (pc' := if decide (¬ Int32.ofInt r35 = Int32.ofInt 0) = true then 168 else 161) (L' := [some (.ref 91), some (vI a0), some (vI a1), some (vI r4), some (vI r12)]) (S' := []) rfl ?_
                by_cases hc36 : r35 = 0
                · have h := if_T h hc36
                  refine rz_B.ifF (fun hn => hn ((eq32 hr35 (by decide)).mpr hc36)) ?_
                  refine rz_B.go 2 (pc' := 164) (L' := [some (.ref 91), some (vI a0), some (vI a1), some (vI r4), some (vI r12)]) (S' := [vI (-3), .ref 91]) rfl ?_
                  obtain ⟨r37, A37, hf37, h⟩ := rz_b_inv h
                  obtain ⟨hg37, hr37, hw37⟩ := cx142_no F (d := d + 8) hf37 (by decide) hw35
                  refine rz_B.call (d := d + 8) (as := [.ref 91, vI (-3)]) (rest := []) (w := some (vI r37)) rfl hg37 ?_
                  cases h
                  exact rz_B.ret rfl hr37 hw37
                · have h := if_F h hc36
                  refine rz_B.ifT (mt (eq32 hr35 (by decide)).mp hc36) ?_
                  refine rz_B.more (rg_le_ok (L := [some (.ref 91), some (vI a0), some (vI a1), none, none]) (by simp [rg_le])) ?_
                  exact cx209_publish_168 F _ _ _ _ _ h ha0 ha1 hw35
          · have h := if_F h hc13
            refine rz_B.ifT ((lt32 hr12 (by decide)).mpr (Int.not_le.mp hc13)) ?_
            refine rz_B.more (rg_le_ok (L := [some (.ref 91), some (vI a0), some (vI a1), none, none]) (by simp [rg_le])) ?_
            exact cx209_publish_168 F _ _ _ _ _ h ha0 ha1 hw12
    · have h := if_F h hc5
      refine rz_B.ifF (mt (eq32 hr4 (by decide)).mp hc5) ?_
      refine rz_B.go 2 (pc' := 26) (L' := [some (.ref 91), some (vI a0), some (vI a1), some (vI r4), none]) (S' := [vI r4, .ref 91]) rfl ?_
      obtain ⟨r38, A38, hf38, h⟩ := rz_b_inv h
      obtain ⟨hg38, hr38, hw38⟩ := cx142_no F (d := d + 8) hf38 hr4 hw4
      refine rz_B.call (d := d + 8) (as := [.ref 91, vI r4]) (rest := []) (w := some (vI r38)) rfl hg38 ?_
      cases h
      exact rz_B.ret rfl hr38 hw38
/-- RiverGaugeModel.published(II)I -/
def x210_published (F : Nat) (a0 : Int) (a1 : Int) (A : rz_A) : Option (Int × rz_A) :=
  if 0 ≤ a0 then
    if (A.1 91 7) ≤ a0 then
      rz_b (x142_no F (-1) A) fun r3 A3 =>
      some (r3, A3)
    else
      if 0 ≤ a1 then
        if 3 < a1 then
          rz_b (x142_no F (-2) A) fun r6 A6 =>
          some (r6, A6)
        else
          if a1 = 0 then
            rz_gx a0 40 <|
            some ((A.1 127 (a0).toNat), A)
          else
            if a1 = 1 then
              rz_gx a0 40 <|
              some ((A.1 128 (a0).toNat), A)
            else
              if a1 = 2 then
                rz_gx a0 40 <|
                some ((A.1 129 (a0).toNat), A)
              else
                rz_gx a0 40 <|
                rz_b (x188_flows F (A.1 127 (a0).toNat) (A.1 128 (a0).toNat) (A.1 91 0) A) fun r18 A18 =>
                if r18 = 0 then
                  some ((-9), A18)
                else
                  some ((A18.1 91 78), A18)
      else
        rz_b (x142_no F (-2) A) fun r20 A20 =>
        some (r20, A20)
  else
    rz_b (x142_no F (-1) A) fun r21 A21 =>
    some (r21, A21)
theorem cx210_published (F : Nat) {d : Nat} {a0 : Int} {a1 : Int} {A : rz_A} {r : Int} {A' : rz_A} (h : x210_published F a0 a1 A = some (r, A')) (ha0 : r32 a0) (ha1 : r32 a1) (hw : wf A) : rg_Rn (d + 9) 210 [.ref 91, vI a0, vI a1] (toM A) (some (vI r)) (toM A') ∧ (r32 r) ∧ wf A' := by
  show rz_B (d + 9) 210 0 [some (.ref 91), some (vI a0), some (vI a1)] [] A (some (vI r)) A' (r32 r)
  unfold x210_published at h
  refine rz_B.go 2 (pc' := if decide (Int32.ofInt a0 < Int32.ofInt 0) = true then 12 else 4) (L' := [some (.ref 91), some (vI a0), some (vI a1)]) (S' := []) rfl ?_
  by_cases hc1 : 0 ≤ a0
  · have h := if_T h hc1
    refine rz_B.ifF (mt (lt32 ha0 (by decide)).mp (Int.not_lt.mpr hc1)) ?_
    refine rz_B.go 4 (pc' := if decide (Int32.ofInt a0 < Int32.ofInt (A.1 91 7)) = true then 18 else 12) (L' := [some (.ref 91), some (vI a0), some (vI a1)]) (S' := []) rfl ?_
    by_cases hc2 : (A.1 91 7) ≤ a0
    · have h := if_T h hc2
      refine rz_B.ifF (mt (lt32 ha0 (hw 91 7).1).mp (Int.not_lt.mpr hc2)) ?_
      refine rz_B.go 2 (pc' := 14) (L' := [some (.ref 91), some (vI a0), some (vI a1)]) (S' := [vI (-1), .ref 91]) rfl ?_
      obtain ⟨r3, A3, hf3, h⟩ := rz_b_inv h
      obtain ⟨hg3, hr3, hw3⟩ := cx142_no F (d := d + 8) hf3 (by decide) hw
      refine rz_B.call (d := d + 8) (as := [.ref 91, vI (-1)]) (rest := []) (w := some (vI r3)) rfl hg3 ?_
      cases h
      exact rz_B.ret rfl hr3 hw3
    · have h := if_F h hc2
      refine rz_B.ifT ((lt32 ha0 (hw 91 7).1).mpr (Int.not_le.mp hc2)) ?_
      refine rz_B.go 2 (pc' := if decide (Int32.ofInt a1 < Int32.ofInt 0) = true then 27 else 22) (L' := [some (.ref 91), some (vI a0), some (vI a1)]) (S' := []) rfl ?_
      by_cases hc4 : 0 ≤ a1
      · have h := if_T h hc4
        refine rz_B.ifF (mt (lt32 ha1 (by decide)).mp (Int.not_lt.mpr hc4)) ?_
        refine rz_B.go 3 (pc' := if decide (Int32.ofInt a1 ≤ Int32.ofInt 3) = true then 34 else 27) (L' := [some (.ref 91), some (vI a0), some (vI a1)]) (S' := []) rfl ?_
        by_cases hc5 : 3 < a1
        · have h := if_T h hc5
          refine rz_B.ifF (mt (le32 ha1 (by decide)).mp (Int.not_le.mpr hc5)) ?_
          refine rz_B.go 2 (pc' := 30) (L' := [some (.ref 91), some (vI a0), some (vI a1)]) (S' := [vI (-2), .ref 91]) rfl ?_
          obtain ⟨r6, A6, hf6, h⟩ := rz_b_inv h
          obtain ⟨hg6, hr6, hw6⟩ := cx142_no F (d := d + 8) hf6 (by decide) hw
          refine rz_B.call (d := d + 8) (as := [.ref 91, vI (-2)]) (rest := []) (w := some (vI r6)) rfl hg6 ?_
          cases h
          exact rz_B.ret rfl hr6 hw6
        · have h := if_F h hc5
          refine rz_B.ifT ((le32 ha1 (by decide)).mpr (Int.not_lt.mp hc5)) ?_
          refine rz_B.go 2 (pc' := if decide (¬ Int32.ofInt a1 = Int32.ofInt 0) = true then 45 else 38) (L' := [some (.ref 91), some (vI a0), some (vI a1)]) (S' := []) rfl ?_
          by_cases hc7 : a1 = 0
          · have h := if_T h hc7
            refine rz_B.ifF (fun hn => hn ((eq32 ha1 (by decide)).mpr hc7)) ?_
            refine rz_B.go 3 (pc' := 43) (L' := [some (.ref 91), some (vI a0), some (vI a1)]) (S' := [vI a0, .ref 127]) rfl ?_
            obtain ⟨hi8, hj9, h⟩ := rz_gx_inv h
            refine rz_B.iald rfl rfl hi8 hj9 (by decide) ?_
            cases h
            exact rz_B.ret rfl (hw 127 (a0).toNat).1 hw
          · have h := if_F h hc7
            refine rz_B.ifT (mt (eq32 ha1 (by decide)).mp hc7) ?_
            refine rz_B.go 3 (pc' := if decide (¬ Int32.ofInt a1 = Int32.ofInt 1) = true then 57 else 50) (L' := [some (.ref 91), some (vI a0), some (vI a1)]) (S' := []) rfl ?_
            by_cases hc10 : a1 = 1
            · have h := if_T h hc10
              refine rz_B.ifF (fun hn => hn ((eq32 ha1 (by decide)).mpr hc10)) ?_
              refine rz_B.go 3 (pc' := 55) (L' := [some (.ref 91), some (vI a0), some (vI a1)]) (S' := [vI a0, .ref 128]) rfl ?_
              obtain ⟨hi11, hj12, h⟩ := rz_gx_inv h
              refine rz_B.iald rfl rfl hi11 hj12 (by decide) ?_
              cases h
              exact rz_B.ret rfl (hw 128 (a0).toNat).1 hw
            · have h := if_F h hc10
              refine rz_B.ifT (mt (eq32 ha1 (by decide)).mp hc10) ?_
              refine rz_B.go 3 (pc' := if decide (¬ Int32.ofInt a1 = Int32.ofInt 2) = true then 69 else 62) (L' := [some (.ref 91), some (vI a0), some (vI a1)]) (S' := []) rfl ?_
              by_cases hc13 : a1 = 2
              · have h := if_T h hc13
                refine rz_B.ifF (fun hn => hn ((eq32 ha1 (by decide)).mpr hc13)) ?_
                refine rz_B.go 3 (pc' := 67) (L' := [some (.ref 91), some (vI a0), some (vI a1)]) (S' := [vI a0, .ref 129]) rfl ?_
                obtain ⟨hi14, hj15, h⟩ := rz_gx_inv h
                refine rz_B.iald rfl rfl hi14 hj15 (by decide) ?_
                cases h
                exact rz_B.ret rfl (hw 129 (a0).toNat).1 hw
              · have h := if_F h hc13
                refine rz_B.ifT (mt (eq32 ha1 (by decide)).mp hc13) ?_
                refine rz_B.go 4 (pc' := 75) (L' := [some (.ref 91), some (vI a0), some (vI a1)]) (S' := [vI a0, .ref 127, .ref 91]) rfl ?_
                obtain ⟨hi16, hj17, h⟩ := rz_gx_inv h
                refine rz_B.iald rfl rfl hi16 hj17 (by decide) ?_
                refine rz_B.go 3 (pc' := 81) (L' := [some (.ref 91), some (vI a0), some (vI a1)]) (S' := [vI a0, .ref 128, vI (A.1 127 (a0).toNat), .ref 91]) rfl ?_
                refine rz_B.iald rfl rfl hi16 hj17 (by decide) ?_
                refine rz_B.go 2 (pc' := 86) (L' := [some (.ref 91), some (vI a0), some (vI a1)]) (S' := [vI (A.1 91 0), vI (A.1 128 (a0).toNat), vI (A.1 127 (a0).toNat), .ref 91]) rfl ?_
                obtain ⟨r18, A18, hf18, h⟩ := rz_b_inv h
                obtain ⟨hg18, hr18, hw18⟩ := cx188_flows F (d := d + 0) hf18 (hw 127 (a0).toNat).1 (hw 128 (a0).toNat).1 (hw 91 0).1 hw
                refine rz_B.call (d := d + 8) (as := [.ref 91, vI (A.1 127 (a0).toNat), vI (A.1 128 (a0).toNat), vI (A.1 91 0)]) (rest := []) (w := some (vI r18)) rfl hg18 ?_
                refine rz_B.go 1 (pc' := if decide (Int32.ofInt r18 = Int32.ofInt 0) = true then 99 else 92) (L' := [some (.ref 91), some (vI a0), some (vI a1)]) (S' := []) rfl ?_
                by_cases hc19 : r18 = 0
                · have h := if_T h hc19
                  refine rz_B.ifT ((eq32 hr18 (by decide)).mpr hc19) ?_
                  refine rz_B.go 1 (pc' := 101) (L' := [some (.ref 91), some (vI a0), some (vI a1)]) (S' := [vI (-9)]) rfl ?_
                  cases h
                  exact rz_B.ret rfl (by decide) hw18
                · have h := if_F h hc19
                  refine rz_B.ifF (mt (eq32 hr18 (by decide)).mp hc19) ?_
                  refine rz_B.go 3 (pc' := 101) (L' := [some (.ref 91), some (vI a0), some (vI a1)]) (S' := [vI (A18.1 91 78)]) rfl ?_
                  cases h
                  exact rz_B.ret rfl (hw18 91 78).1 hw18
      · have h := if_F h hc4
        refine rz_B.ifT ((lt32 ha1 (by decide)).mpr (Int.not_le.mp hc4)) ?_
        refine rz_B.go 2 (pc' := 30) (L' := [some (.ref 91), some (vI a0), some (vI a1)]) (S' := [vI (-2), .ref 91]) rfl ?_
        obtain ⟨r20, A20, hf20, h⟩ := rz_b_inv h
        obtain ⟨hg20, hr20, hw20⟩ := cx142_no F (d := d + 8) hf20 (by decide) hw
        refine rz_B.call (d := d + 8) (as := [.ref 91, vI (-2)]) (rest := []) (w := some (vI r20)) rfl hg20 ?_
        cases h
        exact rz_B.ret rfl hr20 hw20
  · have h := if_F h hc1
    refine rz_B.ifT ((lt32 ha0 (by decide)).mpr (Int.not_le.mp hc1)) ?_
    refine rz_B.go 2 (pc' := 14) (L' := [some (.ref 91), some (vI a0), some (vI a1)]) (S' := [vI (-1), .ref 91]) rfl ?_
    obtain ⟨r21, A21, hf21, h⟩ := rz_b_inv h
    obtain ⟨hg21, hr21, hw21⟩ := cx142_no F (d := d + 8) hf21 (by decide) hw
    refine rz_B.call (d := d + 8) (as := [.ref 91, vI (-1)]) (rest := []) (w := some (vI r21)) rfl hg21 ?_
    cases h
    exact rz_B.ret rfl hr21 hw21
def x211_mend_2 (F : Nat) : Nat → Int → rz_A → Option (Int × rz_A)
  | 0, _, _ => none
  | n + 1, v1, A =>
    if v1 < (A.1 91 7) then
      rz_gx v1 40 <|
      rz_b (x188_flows F (A.1 127 (v1).toNat) (A.1 128 (v1).toNat) (A.1 91 0) A) fun r4 A4 =>
      if r4 = 0 then
        some (v1, A4)
      else
        rz_g32 ((A4.1 91 78) - (A4.1 129 (v1).toNat)) <|
        if ((A4.1 91 78) - (A4.1 129 (v1).toNat)) < 0 then
          rz_g64 (-((A4.1 91 78) - (A4.1 129 (v1).toNat))) <|
          rz_g64 ((-((A4.1 91 78) - (A4.1 129 (v1).toNat))) * 100) <|
          rz_g64 ((A4.1 91 10) * (A4.1 129 (v1).toNat)) <|
          if ((A4.1 91 10) * (A4.1 129 (v1).toNat)) < ((-((A4.1 91 78) - (A4.1 129 (v1).toNat))) * 100) then
            some (v1, A4)
          else
            rz_g32 (v1 + 1) <|
            x211_mend_2 F n (v1 + 1) A4
        else
          rz_g64 (((A4.1 91 78) - (A4.1 129 (v1).toNat)) * 100) <|
          rz_g64 ((A4.1 91 10) * (A4.1 129 (v1).toNat)) <|
          if ((A4.1 91 10) * (A4.1 129 (v1).toNat)) < (((A4.1 91 78) - (A4.1 129 (v1).toNat)) * 100) then
            some (v1, A4)
          else
            rz_g32 (v1 + 1) <|
            x211_mend_2 F n (v1 + 1) A4
    else
      some ((-9), A)
theorem cx211_mend_2 {d : Nat} (F : Nat) : ∀ (n : Nat) (v1 : Int) (A : rz_A) (r : Int) (A' : rz_A), x211_mend_2 F n v1 A = some (r, A') → r32 v1 → wf A → rz_B (d + 9) 211 2 [some (.ref 91), some (vI v1), none, none] [] A (some (vI r)) A' (r32 r) := by
  intro n
  induction n with
  | zero => intro v1 A r A' h; cases h
  | succ n ih =>
    intro v1 A r A' h hv1 hw
    rw [x211_mend_2] at h
    refine rz_B.go 4 (pc' := if decide (Int32.ofInt (A.1 91 7) ≤ Int32.ofInt v1) = true then 89 else 10) (L' := [some (.ref 91), some (vI v1), none, none]) (S' := []) rfl ?_
    by_cases hc1 : v1 < (A.1 91 7)
    · have h := if_T h hc1
      refine rz_B.ifF (mt (le32 (hw 91 7).1 hv1).mp (Int.not_le.mpr hc1)) ?_
      refine rz_B.go 4 (pc' := 16) (L' := [some (.ref 91), some (vI v1), none, none]) (S' := [vI v1, .ref 127, .ref 91]) rfl ?_
      obtain ⟨hi2, hj3, h⟩ := rz_gx_inv h
      refine rz_B.iald rfl rfl hi2 hj3 (by decide) ?_
      refine rz_B.go 3 (pc' := 22) (L' := [some (.ref 91), some (vI v1), none, none]) (S' := [vI v1, .ref 128, vI (A.1 127 (v1).toNat), .ref 91]) rfl ?_
      refine rz_B.iald rfl rfl hi2 hj3 (by decide) ?_
      refine rz_B.go 2 (pc' := 27) (L' := [some (.ref 91), some (vI v1), none, none]) (S' := [vI (A.1 91 0), vI (A.1 128 (v1).toNat), vI (A.1 127 (v1).toNat), .ref 91]) rfl ?_
      obtain ⟨r4, A4, hf4, h⟩ := rz_b_inv h
      obtain ⟨hg4, hr4, hw4⟩ := cx188_flows F (d := d + 0) hf4 (hw 127 (v1).toNat).1 (hw 128 (v1).toNat).1 (hw 91 0).1 hw
      refine rz_B.call (d := d + 8) (as := [.ref 91, vI (A.1 127 (v1).toNat), vI (A.1 128 (v1).toNat), vI (A.1 91 0)]) (rest := []) (w := some (vI r4)) rfl hg4 ?_
      refine rz_B.go 1 (pc' := if decide (¬ Int32.ofInt r4 = Int32.ofInt 0) = true then 35 else 33) (L' := [some (.ref 91), some (vI v1), none, none]) (S' := []) rfl ?_
      by_cases hc5 : r4 = 0
      · have h := if_T h hc5
        refine rz_B.ifF (fun hn => hn ((eq32 hr4 (by decide)).mpr hc5)) ?_
        refine rz_B.go 1 (pc' := 34) (L' := [some (.ref 91), some (vI v1), none, none]) (S' := [vI v1]) rfl ?_
        cases h
        exact rz_B.ret rfl hv1 hw4
      · have h := if_F h hc5
        refine rz_B.ifT (mt (eq32 hr4 (by decide)).mp hc5) ?_
        refine rz_B.go 5 (pc' := 44) (L' := [some (.ref 91), some (vI v1), none, none]) (S' := [vI v1, .ref 129, vI (A4.1 91 78)]) rfl ?_
        refine rz_B.iald rfl rfl hi2 hj3 (by decide) ?_
        obtain ⟨hk6, h⟩ := rz_g32_inv h
        refine rz_B.isub rfl ?_
        refine rz_B.i2l rfl hk6 ?_
        refine rz_B.go 5 (pc' := if decide (0 ≤ lg_cmp (Int64.ofInt ((A4.1 91 78) - (A4.1 129 (v1).toNat))) (Int64.ofInt 0)) = true then 59 else 54) (L' := [some (.ref 91), some (vI v1), some (vL ((A4.1 91 78) - (A4.1 129 (v1).toNat))), none]) (S' := []) rfl ?_
        by_cases hc7 : ((A4.1 91 78) - (A4.1 129 (v1).toNat)) < 0
        · have h := if_T h hc7
          refine rz_B.ifF (mt (cmp_ge (r64_of hk6) (by decide)).mp (Int.not_le.mpr hc7)) ?_
          refine rz_B.go 1 (pc' := 55) (L' := [some (.ref 91), some (vI v1), some (vL ((A4.1 91 78) - (A4.1 129 (v1).toNat))), none]) (S' := [vL ((A4.1 91 78) - (A4.1 129 (v1).toNat))]) rfl ?_
          obtain ⟨hk8, h⟩ := rz_g64_inv h
          refine rz_B.lneg rfl ?_
          refine rz_B.go 2 (pc' := 63) (L' := [some (.ref 91), some (vI v1), some (vL ((A4.1 91 78) - (A4.1 129 (v1).toNat))), none]) (S' := [vL 100, vL (-((A4.1 91 78) - (A4.1 129 (v1).toNat)))]) rfl ?_
          obtain ⟨hk9, h⟩ := rz_g64_inv h
          refine rz_B.lmul rfl ?_
          refine rz_B.go 2 (pc' := 68) (L' := [some (.ref 91), some (vI v1), some (vL ((A4.1 91 78) - (A4.1 129 (v1).toNat))), none]) (S' := [vI (A4.1 91 10), vL ((-((A4.1 91 78) - (A4.1 129 (v1).toNat))) * 100)]) rfl ?_
          refine rz_B.i2l rfl (hw4 91 10).1 ?_
          refine rz_B.go 3 (pc' := 74) (L' := [some (.ref 91), some (vI v1), some (vL ((A4.1 91 78) - (A4.1 129 (v1).toNat))), none]) (S' := [vI v1, .ref 129, vL (A4.1 91 10), vL ((-((A4.1 91 78) - (A4.1 129 (v1).toNat))) * 100)]) rfl ?_
          refine rz_B.iald rfl rfl hi2 hj3 (by decide) ?_
          refine rz_B.i2l rfl (hw4 129 (v1).toNat).1 ?_
          obtain ⟨hk10, h⟩ := rz_g64_inv h
          refine rz_B.lmul rfl ?_
          refine rz_B.go 2 (pc' := if decide (lg_cmp (Int64.ofInt ((-((A4.1 91 78) - (A4.1 129 (v1).toNat))) * 100)) (Int64.ofInt ((A4.1 91 10) * (A4.1 129 (v1).toNat))) ≤ 0) = true then 83 else 81) (L' := [some (.ref 91), some (vI v1), some (vL ((A4.1 91 78) - (A4.1 129 (v1).toNat))), none]) (S' := []) rfl ?_
          by_cases hc11 : ((A4.1 91 10) * (A4.1 129 (v1).toNat)) < ((-((A4.1 91 78) - (A4.1 129 (v1).toNat))) * 100)
          · have h := if_T h hc11
            refine rz_B.ifF (mt (cmp_le hk9 hk10).mp (Int.not_le.mpr hc11)) ?_
            refine rz_B.go 1 (pc' := 82) (L' := [some (.ref 91), some (vI v1), some (vL ((A4.1 91 78) - (A4.1 129 (v1).toNat))), none]) (S' := [vI v1]) rfl ?_
            cases h
            exact rz_B.ret rfl hv1 hw4
          · have h := if_F h hc11
            refine rz_B.ifT ((cmp_le hk9 hk10).mpr (Int.not_lt.mp hc11)) ?_
            obtain ⟨hk12, h⟩ := rz_g32_inv h
            refine rz_B.iinc rfl (by decide) rfl (L' := [some (.ref 91), some (vI (v1 + 1)), some (vL ((A4.1 91 78) - (A4.1 129 (v1).toNat))), none]) rfl ?_
            refine rz_B.go 1 (pc' := 2) (L' := [some (.ref 91), some (vI (v1 + 1)), some (vL ((A4.1 91 78) - (A4.1 129 (v1).toNat))), none]) (S' := []) rfl ?_
            refine rz_B.more (rg_le_ok (L := [some (.ref 91), some (vI (v1 + 1)), none, none]) (by simp [rg_le])) ?_
            exact ih _ _ _ _ h hk12 hw4
        · have h := if_F h hc7
          refine rz_B.ifT ((cmp_ge (r64_of hk6) (by decide)).mpr (Int.not_lt.mp hc7)) ?_
          refine rz_B.go 2 (pc' := 63) (L' := [some (.ref 91), some (vI v1), some (vL ((A4.1 91 78) - (A4.1 129 (v1).toNat))), none]) (S' := [vL 100, vL ((A4.1 91 78) - (A4.1 129 (v1).toNat))]) rfl ?_
          obtain ⟨hk13, h⟩ := rz_g64_inv h
          refine rz_B.lmul rfl ?_
          refine rz_B.go 2 (pc' := 68) (L' := [some (.ref 91), some (vI v1), some (vL ((A4.1 91 78) - (A4.1 129 (v1).toNat))), none]) (S' := [vI (A4.1 91 10), vL (((A4.1 91 78) - (A4.1 129 (v1).toNat)) * 100)]) rfl ?_
          refine rz_B.i2l rfl (hw4 91 10).1 ?_
          refine rz_B.go 3 (pc' := 74) (L' := [some (.ref 91), some (vI v1), some (vL ((A4.1 91 78) - (A4.1 129 (v1).toNat))), none]) (S' := [vI v1, .ref 129, vL (A4.1 91 10), vL (((A4.1 91 78) - (A4.1 129 (v1).toNat)) * 100)]) rfl ?_
          refine rz_B.iald rfl rfl hi2 hj3 (by decide) ?_
          refine rz_B.i2l rfl (hw4 129 (v1).toNat).1 ?_
          obtain ⟨hk14, h⟩ := rz_g64_inv h
          refine rz_B.lmul rfl ?_
          refine rz_B.go 2 (pc' := if decide (lg_cmp (Int64.ofInt (((A4.1 91 78) - (A4.1 129 (v1).toNat)) * 100)) (Int64.ofInt ((A4.1 91 10) * (A4.1 129 (v1).toNat))) ≤ 0) = true then 83 else 81) (L' := [some (.ref 91), some (vI v1), some (vL ((A4.1 91 78) - (A4.1 129 (v1).toNat))), none]) (S' := []) rfl ?_
          by_cases hc15 : ((A4.1 91 10) * (A4.1 129 (v1).toNat)) < (((A4.1 91 78) - (A4.1 129 (v1).toNat)) * 100)
          · have h := if_T h hc15
            refine rz_B.ifF (mt (cmp_le hk13 hk14).mp (Int.not_le.mpr hc15)) ?_
            refine rz_B.go 1 (pc' := 82) (L' := [some (.ref 91), some (vI v1), some (vL ((A4.1 91 78) - (A4.1 129 (v1).toNat))), none]) (S' := [vI v1]) rfl ?_
            cases h
            exact rz_B.ret rfl hv1 hw4
          · have h := if_F h hc15
            refine rz_B.ifT ((cmp_le hk13 hk14).mpr (Int.not_lt.mp hc15)) ?_
            obtain ⟨hk16, h⟩ := rz_g32_inv h
            refine rz_B.iinc rfl (by decide) rfl (L' := [some (.ref 91), some (vI (v1 + 1)), some (vL ((A4.1 91 78) - (A4.1 129 (v1).toNat))), none]) rfl ?_
            refine rz_B.go 1 (pc' := 2) (L' := [some (.ref 91), some (vI (v1 + 1)), some (vL ((A4.1 91 78) - (A4.1 129 (v1).toNat))), none]) (S' := []) rfl ?_
            refine rz_B.more (rg_le_ok (L := [some (.ref 91), some (vI (v1 + 1)), none, none]) (by simp [rg_le])) ?_
            exact ih _ _ _ _ h hk16 hw4
    · have h := if_F h hc1
      refine rz_B.ifT ((le32 (hw 91 7).1 hv1).mpr (Int.not_lt.mp hc1)) ?_
      refine rz_B.go 1 (pc' := 91) (L' := [some (.ref 91), some (vI v1), none, none]) (S' := [vI (-9)]) rfl ?_
      cases h
      exact rz_B.ret rfl (by decide) hw
/-- RiverGaugeModel.mend()I -/
def x211_mend (F : Nat) (A : rz_A) : Option (Int × rz_A) :=
  x211_mend_2 F F 0 A
theorem cx211_mend (F : Nat) {d : Nat} {A : rz_A} {r : Int} {A' : rz_A} (h : x211_mend F A = some (r, A')) (hw : wf A) : rg_Rn (d + 9) 211 [.ref 91] (toM A) (some (vI r)) (toM A') ∧ (r32 r) ∧ wf A' := by
  show rz_B (d + 9) 211 0 [some (.ref 91), none, none, none] [] A (some (vI r)) A' (r32 r)
  unfold x211_mend at h
  refine rz_B.go 2 (pc' := 2) (L' := [some (.ref 91), some (vI 0), none, none]) (S' := []) rfl ?_
  refine rz_B.more (rg_le_ok (L := [some (.ref 91), some (vI 0), none, none]) (by simp [rg_le])) ?_
  exact cx211_mend_2 F F _ _ _ _ h (by decide) hw
/-- RiverGaugeModel.limit(I)I -/
def x212_limit (F : Nat) (a0 : Int) (A : rz_A) : Option (Int × rz_A) :=
  if a0 < 0 then
    rz_b (x142_no F (-4) A) fun r2 A2 =>
    some (r2, A2)
  else
    if 100 < a0 then
      rz_b (x142_no F (-6) A) fun r4 A4 =>
      some (r4, A4)
    else
      some ((A.1 91 10), (aI A 91 10 a0))
theorem cx212_limit (F : Nat) {d : Nat} {a0 : Int} {A : rz_A} {r : Int} {A' : rz_A} (h : x212_limit F a0 A = some (r, A')) (ha0 : r32 a0) (hw : wf A) : rg_Rn (d + 1) 212 [.ref 91, vI a0] (toM A) (some (vI r)) (toM A') ∧ (r32 r) ∧ wf A' := by
  show rz_B (d + 1) 212 0 [some (.ref 91), some (vI a0), none] [] A (some (vI r)) A' (r32 r)
  unfold x212_limit at h
  refine rz_B.go 2 (pc' := if decide (Int32.ofInt 0 ≤ Int32.ofInt a0) = true then 11 else 4) (L' := [some (.ref 91), some (vI a0), none]) (S' := []) rfl ?_
  by_cases hc1 : a0 < 0
  · have h := if_T h hc1
    refine rz_B.ifF (mt (le32 (by decide) ha0).mp (Int.not_le.mpr hc1)) ?_
    refine rz_B.go 2 (pc' := 7) (L' := [some (.ref 91), some (vI a0), none]) (S' := [vI (-4), .ref 91]) rfl ?_
    obtain ⟨r2, A2, hf2, h⟩ := rz_b_inv h
    obtain ⟨hg2, hr2, hw2⟩ := cx142_no F (d := d + 0) hf2 (by decide) hw
    refine rz_B.call (d := d + 0) (as := [.ref 91, vI (-4)]) (rest := []) (w := some (vI r2)) rfl hg2 ?_
    cases h
    exact rz_B.ret rfl hr2 hw2
  · have h := if_F h hc1
    refine rz_B.ifT ((le32 (by decide) ha0).mpr (Int.not_lt.mp hc1)) ?_
    refine rz_B.go 3 (pc' := if decide (Int32.ofInt a0 ≤ Int32.ofInt 100) = true then 24 else 17) (L' := [some (.ref 91), some (vI a0), none]) (S' := []) rfl ?_
    by_cases hc3 : 100 < a0
    · have h := if_T h hc3
      refine rz_B.ifF (mt (le32 ha0 (by decide)).mp (Int.not_le.mpr hc3)) ?_
      refine rz_B.go 2 (pc' := 20) (L' := [some (.ref 91), some (vI a0), none]) (S' := [vI (-6), .ref 91]) rfl ?_
      obtain ⟨r4, A4, hf4, h⟩ := rz_b_inv h
      obtain ⟨hg4, hr4, hw4⟩ := cx142_no F (d := d + 0) hf4 (by decide) hw
      refine rz_B.call (d := d + 0) (as := [.ref 91, vI (-6)]) (rest := []) (w := some (vI r4)) rfl hg4 ?_
      cases h
      exact rz_B.ret rfl hr4 hw4
    · have h := if_F h hc3
      refine rz_B.ifT ((le32 ha0 (by decide)).mpr (Int.not_lt.mp hc3)) ?_
      refine rz_B.put 6 (pc' := 34) (L' := [some (.ref 91), some (vI a0), some (vI (A.1 91 10))]) (S' := []) (c := 91) (k := 10) (x := a0) rfl ?_
      have hw5 : wf (aI A 91 10 a0) := wf_aI hw ha0
      refine rz_B.go 1 (pc' := 35) (L' := [some (.ref 91), some (vI a0), some (vI (A.1 91 10))]) (S' := [vI (A.1 91 10)]) rfl ?_
      cases h
      exact rz_B.ret rfl (hw 91 10).1 hw5
def x213_count_106 (F : Nat) : Nat → Int → Int → rz_A → Option (Int × rz_A)
  | 0, _, _, _ => none
  | n + 1, v2, v3, A =>
    if v3 < (A.1 91 3) then
      rz_gx v3 300 <|
      if 0 ≤ (A.1 109 (v3).toNat) then
        rz_g32 (v2 + 1) <|
        rz_g32 (v3 + 1) <|
        x213_count_106 F n (v2 + 1) (v3 + 1) A
      else
        rz_g32 (v3 + 1) <|
        x213_count_106 F n v2 (v3 + 1) A
    else
      some (v2, A)
theorem cx213_count_106 {d : Nat} (F : Nat) : ∀ (n : Nat) (v2 : Int) (v3 : Int) (A : rz_A) (r : Int) (A' : rz_A), x213_count_106 F n v2 v3 A = some (r, A') → r32 v2 → r32 v3 → wf A → rz_B (d + 0) 213 106 [some (.ref 91), none, some (vI v2), some (vI v3)] [] A (some (vI r)) A' (r32 r) := by
  intro n
  induction n with
  | zero => intro v2 v3 A r A' h; cases h
  | succ n ih =>
    intro v2 v3 A r A' h hv2 hv3 hw
    rw [x213_count_106] at h
    refine rz_B.go 4 (pc' := if decide (Int32.ofInt (A.1 91 3) ≤ Int32.ofInt v3) = true then 132 else 114) (L' := [some (.ref 91), none, some (vI v2), some (vI v3)]) (S' := []) rfl ?_
    by_cases hc1 : v3 < (A.1 91 3)
    · have h := if_T h hc1
      refine rz_B.ifF (mt (le32 (hw 91 3).1 hv3).mp (Int.not_le.mpr hc1)) ?_
      refine rz_B.go 3 (pc' := 119) (L' := [some (.ref 91), none, some (vI v2), some (vI v3)]) (S' := [vI v3, .ref 109]) rfl ?_
      obtain ⟨hi2, hj3, h⟩ := rz_gx_inv h
      refine rz_B.iald rfl rfl hi2 hj3 (by decide) ?_
      refine rz_B.go 1 (pc' := if decide (Int32.ofInt (A.1 109 (v3).toNat) < Int32.ofInt 0) = true then 126 else 123) (L' := [some (.ref 91), none, some (vI v2), some (vI v3)]) (S' := []) rfl ?_
      by_cases hc4 : 0 ≤ (A.1 109 (v3).toNat)
      · have h := if_T h hc4
        refine rz_B.ifF (mt (lt32 (hw 109 (v3).toNat).1 (by decide)).mp (Int.not_lt.mpr hc4)) ?_
        obtain ⟨hk5, h⟩ := rz_g32_inv h
        refine rz_B.iinc rfl (by decide) rfl (L' := [some (.ref 91), none, some (vI (v2 + 1)), some (vI v3)]) rfl ?_
        obtain ⟨hk6, h⟩ := rz_g32_inv h
        refine rz_B.iinc rfl (by decide) rfl (L' := [some (.ref 91), none, some (vI (v2 + 1)), some (vI (v3 + 1))]) rfl ?_
        refine rz_B.go 1 (pc' := 106) (L' := [some (.ref 91), none, some (vI (v2 + 1)), some (vI (v3 + 1))]) (S' := []) rfl ?_
        refine rz_B.more (rg_le_ok (L := [some (.ref 91), none, some (vI (v2 + 1)), some (vI (v3 + 1))]) (by simp [rg_le])) ?_
        exact ih _ _ _ _ _ h hk5 hk6 hw
      · have h := if_F h hc4
        refine rz_B.ifT ((lt32 (hw 109 (v3).toNat).1 (by decide)).mpr (Int.not_le.mp hc4)) ?_
        obtain ⟨hk7, h⟩ := rz_g32_inv h
        refine rz_B.iinc rfl (by decide) rfl (L' := [some (.ref 91), none, some (vI v2), some (vI (v3 + 1))]) rfl ?_
        refine rz_B.go 1 (pc' := 106) (L' := [some (.ref 91), none, some (vI v2), some (vI (v3 + 1))]) (S' := []) rfl ?_
        refine rz_B.more (rg_le_ok (L := [some (.ref 91), none, some (vI v2), some (vI (v3 + 1))]) (by simp [rg_le])) ?_
        exact ih _ _ _ _ _ h hv2 hk7 hw
    · have h := if_F h hc1
      refine rz_B.ifT ((le32 (hw 91 3).1 hv3).mpr (Int.not_lt.mp hc1)) ?_
      refine rz_B.go 1 (pc' := 133) (L' := [some (.ref 91), none, some (vI v2), some (vI v3)]) (S' := [vI v2]) rfl ?_
      cases h
      exact rz_B.ret rfl hv2 hw
/-- RiverGaugeModel.count(I)I -/
def x213_count (F : Nat) (a0 : Int) (A : rz_A) : Option (Int × rz_A) :=
  if 10 < a0 then
    if a0 < 17 then
      rz_g32 (a0 - 10) <|
      rz_gx (a0 - 10) 7 <|
      some ((A.1 132 ((a0 - 10)).toNat), A)
    else
      if a0 = 0 then
        some ((A.1 91 0), A)
      else
        if a0 = 1 then
          some ((A.1 91 1), A)
        else
          if a0 = 2 then
            some ((A.1 91 2), A)
          else
            if a0 = 3 then
              some ((A.1 91 3), A)
            else
              if a0 = 4 then
                x213_count_106 F F 0 0 A
              else
                if a0 = 5 then
                  some ((A.1 91 4), A)
                else
                  if a0 = 6 then
                    some ((A.1 91 5), A)
                  else
                    if a0 = 7 then
                      some ((A.1 91 7), A)
                    else
                      if a0 = 8 then
                        some ((A.1 91 6), A)
                      else
                        if a0 = 9 then
                          some ((A.1 91 8), A)
                        else
                          if a0 = 10 then
                            some ((A.1 91 9), A)
                          else
                            some ((-9), A)
  else
    if a0 = 0 then
      some ((A.1 91 0), A)
    else
      if a0 = 1 then
        some ((A.1 91 1), A)
      else
        if a0 = 2 then
          some ((A.1 91 2), A)
        else
          if a0 = 3 then
            some ((A.1 91 3), A)
          else
            if a0 = 4 then
              x213_count_106 F F 0 0 A
            else
              if a0 = 5 then
                some ((A.1 91 4), A)
              else
                if a0 = 6 then
                  some ((A.1 91 5), A)
                else
                  if a0 = 7 then
                    some ((A.1 91 7), A)
                  else
                    if a0 = 8 then
                      some ((A.1 91 6), A)
                    else
                      if a0 = 9 then
                        some ((A.1 91 8), A)
                      else
                        if a0 = 10 then
                          some ((A.1 91 9), A)
                        else
                          some ((-9), A)
theorem cx213_count (F : Nat) {d : Nat} {a0 : Int} {A : rz_A} {r : Int} {A' : rz_A} (h : x213_count F a0 A = some (r, A')) (ha0 : r32 a0) (hw : wf A) : rg_Rn (d + 0) 213 [.ref 91, vI a0] (toM A) (some (vI r)) (toM A') ∧ (r32 r) ∧ wf A' := by
  show rz_B (d + 0) 213 0 [some (.ref 91), some (vI a0), none, none] [] A (some (vI r)) A' (r32 r)
  unfold x213_count at h
  refine rz_B.go 3 (pc' := if decide (Int32.ofInt a0 ≤ Int32.ofInt 10) = true then 22 else 6) (L' := [some (.ref 91), some (vI a0), none, none]) (S' := []) rfl ?_
  by_cases hc1 : 10 < a0
  · have h := if_T h hc1
    refine rz_B.ifF (mt (le32 ha0 (by decide)).mp (Int.not_le.mpr hc1)) ?_
    refine rz_B.go 3 (pc' := if decide (Int32.ofInt 17 ≤ Int32.ofInt a0) = true then 22 else 12) (L' := [some (.ref 91), some (vI a0), none, none]) (S' := []) rfl ?_
    by_cases hc2 : a0 < 17
    · have h := if_T h hc2
      refine rz_B.ifF (mt (le32 (by decide) ha0).mp (Int.not_le.mpr hc2)) ?_
      refine rz_B.go 4 (pc' := 19) (L' := [some (.ref 91), some (vI a0), none, none]) (S' := [vI 10, vI a0, .ref 132]) rfl ?_
      obtain ⟨hk3, h⟩ := rz_g32_inv h
      refine rz_B.isub rfl ?_
      obtain ⟨hi4, hj5, h⟩ := rz_gx_inv h
      refine rz_B.iald rfl rfl hi4 hj5 (by decide) ?_
      cases h
      exact rz_B.ret rfl (hw 132 ((a0 - 10)).toNat).1 hw
    · have h := if_F h hc2
      refine rz_B.ifT ((le32 (by decide) ha0).mpr (Int.not_lt.mp hc2)) ?_
      refine rz_B.go 3 (pc' := 25) (L' := [some (.ref 91), some (vI a0), some (vI 0), none]) (S' := [vI a0]) rfl ?_
      by_cases hs6 : a0 = 0
      · have h := if_T h hs6
        have key : rz_B (d + 0) 213 84 [some (.ref 91), some (vI a0), some (vI 0), none] [] A (some (vI r)) A' (r32 r) := by
          refine rz_B.go 2 (pc' := 88) (L' := [some (.ref 91), some (vI a0), some (vI 0), none]) (S' := [vI (A.1 91 0)]) rfl ?_
          cases h
          exact rz_B.ret rfl (hw 91 0).1 hw
        have he := hs6
        · exact rz_B.tswI rfl ha0 (by omega) (off := 59) (by rw [he]; rfl) (by decide) rfl key
      · have h := if_F h hs6
        by_cases hs7 : a0 = 1
        · have h := if_T h hs7
          have key : rz_B (d + 0) 213 89 [some (.ref 91), some (vI a0), some (vI 0), none] [] A (some (vI r)) A' (r32 r) := by
            refine rz_B.go 2 (pc' := 93) (L' := [some (.ref 91), some (vI a0), some (vI 0), none]) (S' := [vI (A.1 91 1)]) rfl ?_
            cases h
            exact rz_B.ret rfl (hw 91 1).1 hw
          have he := hs7
          · exact rz_B.tswI rfl ha0 (by omega) (off := 64) (by rw [he]; rfl) (by decide) rfl key
        · have h := if_F h hs7
          by_cases hs8 : a0 = 2
          · have h := if_T h hs8
            have key : rz_B (d + 0) 213 94 [some (.ref 91), some (vI a0), some (vI 0), none] [] A (some (vI r)) A' (r32 r) := by
              refine rz_B.go 2 (pc' := 98) (L' := [some (.ref 91), some (vI a0), some (vI 0), none]) (S' := [vI (A.1 91 2)]) rfl ?_
              cases h
              exact rz_B.ret rfl (hw 91 2).1 hw
            have he := hs8
            · exact rz_B.tswI rfl ha0 (by omega) (off := 69) (by rw [he]; rfl) (by decide) rfl key
          · have h := if_F h hs8
            by_cases hs9 : a0 = 3
            · have h := if_T h hs9
              have key : rz_B (d + 0) 213 99 [some (.ref 91), some (vI a0), some (vI 0), none] [] A (some (vI r)) A' (r32 r) := by
                refine rz_B.go 2 (pc' := 103) (L' := [some (.ref 91), some (vI a0), some (vI 0), none]) (S' := [vI (A.1 91 3)]) rfl ?_
                cases h
                exact rz_B.ret rfl (hw 91 3).1 hw
              have he := hs9
              · exact rz_B.tswI rfl ha0 (by omega) (off := 74) (by rw [he]; rfl) (by decide) rfl key
            · have h := if_F h hs9
              by_cases hs10 : a0 = 4
              · have h := if_T h hs10
                have key : rz_B (d + 0) 213 104 [some (.ref 91), some (vI a0), some (vI 0), none] [] A (some (vI r)) A' (r32 r) := by
                  refine rz_B.go 2 (pc' := 106) (L' := [some (.ref 91), some (vI a0), some (vI 0), some (vI 0)]) (S' := []) rfl ?_
                  refine rz_B.more (rg_le_ok (L := [some (.ref 91), none, some (vI 0), some (vI 0)]) (by simp [rg_le])) ?_
                  exact cx213_count_106 F F _ _ _ _ _ h (by decide) (by decide) hw
                have he := hs10
                · exact rz_B.tswI rfl ha0 (by omega) (off := 79) (by rw [he]; rfl) (by decide) rfl key
              · have h := if_F h hs10
                by_cases hs11 : a0 = 5
                · have h := if_T h hs11
                  have key : rz_B (d + 0) 213 134 [some (.ref 91), some (vI a0), some (vI 0), none] [] A (some (vI r)) A' (r32 r) := by
                    refine rz_B.go 2 (pc' := 138) (L' := [some (.ref 91), some (vI a0), some (vI 0), none]) (S' := [vI (A.1 91 4)]) rfl ?_
                    cases h
                    exact rz_B.ret rfl (hw 91 4).1 hw
                  have he := hs11
                  · exact rz_B.tswI rfl ha0 (by omega) (off := 109) (by rw [he]; rfl) (by decide) rfl key
                · have h := if_F h hs11
                  by_cases hs12 : a0 = 6
                  · have h := if_T h hs12
                    have key : rz_B (d + 0) 213 139 [some (.ref 91), some (vI a0), some (vI 0), none] [] A (some (vI r)) A' (r32 r) := by
                      refine rz_B.go 2 (pc' := 143) (L' := [some (.ref 91), some (vI a0), some (vI 0), none]) (S' := [vI (A.1 91 5)]) rfl ?_
                      cases h
                      exact rz_B.ret rfl (hw 91 5).1 hw
                    have he := hs12
                    · exact rz_B.tswI rfl ha0 (by omega) (off := 114) (by rw [he]; rfl) (by decide) rfl key
                  · have h := if_F h hs12
                    by_cases hs13 : a0 = 7
                    · have h := if_T h hs13
                      have key : rz_B (d + 0) 213 144 [some (.ref 91), some (vI a0), some (vI 0), none] [] A (some (vI r)) A' (r32 r) := by
                        refine rz_B.go 2 (pc' := 148) (L' := [some (.ref 91), some (vI a0), some (vI 0), none]) (S' := [vI (A.1 91 7)]) rfl ?_
                        cases h
                        exact rz_B.ret rfl (hw 91 7).1 hw
                      have he := hs13
                      · exact rz_B.tswI rfl ha0 (by omega) (off := 119) (by rw [he]; rfl) (by decide) rfl key
                    · have h := if_F h hs13
                      by_cases hs14 : a0 = 8
                      · have h := if_T h hs14
                        have key : rz_B (d + 0) 213 149 [some (.ref 91), some (vI a0), some (vI 0), none] [] A (some (vI r)) A' (r32 r) := by
                          refine rz_B.go 2 (pc' := 153) (L' := [some (.ref 91), some (vI a0), some (vI 0), none]) (S' := [vI (A.1 91 6)]) rfl ?_
                          cases h
                          exact rz_B.ret rfl (hw 91 6).1 hw
                        have he := hs14
                        · exact rz_B.tswI rfl ha0 (by omega) (off := 124) (by rw [he]; rfl) (by decide) rfl key
                      · have h := if_F h hs14
                        by_cases hs15 : a0 = 9
                        · have h := if_T h hs15
                          have key : rz_B (d + 0) 213 154 [some (.ref 91), some (vI a0), some (vI 0), none] [] A (some (vI r)) A' (r32 r) := by
                            refine rz_B.go 2 (pc' := 158) (L' := [some (.ref 91), some (vI a0), some (vI 0), none]) (S' := [vI (A.1 91 8)]) rfl ?_
                            cases h
                            exact rz_B.ret rfl (hw 91 8).1 hw
                          have he := hs15
                          · exact rz_B.tswI rfl ha0 (by omega) (off := 129) (by rw [he]; rfl) (by decide) rfl key
                        · have h := if_F h hs15
                          by_cases hs16 : a0 = 10
                          · have h := if_T h hs16
                            have key : rz_B (d + 0) 213 159 [some (.ref 91), some (vI a0), some (vI 0), none] [] A (some (vI r)) A' (r32 r) := by
                              refine rz_B.go 2 (pc' := 163) (L' := [some (.ref 91), some (vI a0), some (vI 0), none]) (S' := [vI (A.1 91 9)]) rfl ?_
                              cases h
                              exact rz_B.ret rfl (hw 91 9).1 hw
                            have he := hs16
                            · exact rz_B.tswI rfl ha0 (by omega) (off := 134) (by rw [he]; rfl) (by decide) rfl key
                          · have h := if_F h hs16
                            have key : rz_B (d + 0) 213 164 [some (.ref 91), some (vI a0), some (vI 0), none] [] A (some (vI r)) A' (r32 r) := by
                              refine rz_B.go 1 (pc' := 166) (L' := [some (.ref 91), some (vI a0), some (vI 0), none]) (S' := [vI (-9)]) rfl ?_
                              cases h
                              exact rz_B.ret rfl (by decide) hw
                            exact rz_B.tswO rfl ha0 (by omega) (by decide) rfl key
  · have h := if_F h hc1
    refine rz_B.ifT ((le32 ha0 (by decide)).mpr (Int.not_lt.mp hc1)) ?_
    refine rz_B.go 3 (pc' := 25) (L' := [some (.ref 91), some (vI a0), some (vI 0), none]) (S' := [vI a0]) rfl ?_
    by_cases hs17 : a0 = 0
    · have h := if_T h hs17
      have key : rz_B (d + 0) 213 84 [some (.ref 91), some (vI a0), some (vI 0), none] [] A (some (vI r)) A' (r32 r) := by
        refine rz_B.go 2 (pc' := 88) (L' := [some (.ref 91), some (vI a0), some (vI 0), none]) (S' := [vI (A.1 91 0)]) rfl ?_
        cases h
        exact rz_B.ret rfl (hw 91 0).1 hw
      have he := hs17
      · exact rz_B.tswI rfl ha0 (by omega) (off := 59) (by rw [he]; rfl) (by decide) rfl key
    · have h := if_F h hs17
      by_cases hs18 : a0 = 1
      · have h := if_T h hs18
        have key : rz_B (d + 0) 213 89 [some (.ref 91), some (vI a0), some (vI 0), none] [] A (some (vI r)) A' (r32 r) := by
          refine rz_B.go 2 (pc' := 93) (L' := [some (.ref 91), some (vI a0), some (vI 0), none]) (S' := [vI (A.1 91 1)]) rfl ?_
          cases h
          exact rz_B.ret rfl (hw 91 1).1 hw
        have he := hs18
        · exact rz_B.tswI rfl ha0 (by omega) (off := 64) (by rw [he]; rfl) (by decide) rfl key
      · have h := if_F h hs18
        by_cases hs19 : a0 = 2
        · have h := if_T h hs19
          have key : rz_B (d + 0) 213 94 [some (.ref 91), some (vI a0), some (vI 0), none] [] A (some (vI r)) A' (r32 r) := by
            refine rz_B.go 2 (pc' := 98) (L' := [some (.ref 91), some (vI a0), some (vI 0), none]) (S' := [vI (A.1 91 2)]) rfl ?_
            cases h
            exact rz_B.ret rfl (hw 91 2).1 hw
          have he := hs19
          · exact rz_B.tswI rfl ha0 (by omega) (off := 69) (by rw [he]; rfl) (by decide) rfl key
        · have h := if_F h hs19
          by_cases hs20 : a0 = 3
          · have h := if_T h hs20
            have key : rz_B (d + 0) 213 99 [some (.ref 91), some (vI a0), some (vI 0), none] [] A (some (vI r)) A' (r32 r) := by
              refine rz_B.go 2 (pc' := 103) (L' := [some (.ref 91), some (vI a0), some (vI 0), none]) (S' := [vI (A.1 91 3)]) rfl ?_
              cases h
              exact rz_B.ret rfl (hw 91 3).1 hw
            have he := hs20
            · exact rz_B.tswI rfl ha0 (by omega) (off := 74) (by rw [he]; rfl) (by decide) rfl key
          · have h := if_F h hs20
            by_cases hs21 : a0 = 4
            · have h := if_T h hs21
              have key : rz_B (d + 0) 213 104 [some (.ref 91), some (vI a0), some (vI 0), none] [] A (some (vI r)) A' (r32 r) := by
                refine rz_B.go 2 (pc' := 106) (L' := [some (.ref 91), some (vI a0), some (vI 0), some (vI 0)]) (S' := []) rfl ?_
                refine rz_B.more (rg_le_ok (L := [some (.ref 91), none, some (vI 0), some (vI 0)]) (by simp [rg_le])) ?_
                exact cx213_count_106 F F _ _ _ _ _ h (by decide) (by decide) hw
              have he := hs21
              · exact rz_B.tswI rfl ha0 (by omega) (off := 79) (by rw [he]; rfl) (by decide) rfl key
            · have h := if_F h hs21
              by_cases hs22 : a0 = 5
              · have h := if_T h hs22
                have key : rz_B (d + 0) 213 134 [some (.ref 91), some (vI a0), some (vI 0), none] [] A (some (vI r)) A' (r32 r) := by
                  refine rz_B.go 2 (pc' := 138) (L' := [some (.ref 91), some (vI a0), some (vI 0), none]) (S' := [vI (A.1 91 4)]) rfl ?_
                  cases h
                  exact rz_B.ret rfl (hw 91 4).1 hw
                have he := hs22
                · exact rz_B.tswI rfl ha0 (by omega) (off := 109) (by rw [he]; rfl) (by decide) rfl key
              · have h := if_F h hs22
                by_cases hs23 : a0 = 6
                · have h := if_T h hs23
                  have key : rz_B (d + 0) 213 139 [some (.ref 91), some (vI a0), some (vI 0), none] [] A (some (vI r)) A' (r32 r) := by
                    refine rz_B.go 2 (pc' := 143) (L' := [some (.ref 91), some (vI a0), some (vI 0), none]) (S' := [vI (A.1 91 5)]) rfl ?_
                    cases h
                    exact rz_B.ret rfl (hw 91 5).1 hw
                  have he := hs23
                  · exact rz_B.tswI rfl ha0 (by omega) (off := 114) (by rw [he]; rfl) (by decide) rfl key
                · have h := if_F h hs23
                  by_cases hs24 : a0 = 7
                  · have h := if_T h hs24
                    have key : rz_B (d + 0) 213 144 [some (.ref 91), some (vI a0), some (vI 0), none] [] A (some (vI r)) A' (r32 r) := by
                      refine rz_B.go 2 (pc' := 148) (L' := [some (.ref 91), some (vI a0), some (vI 0), none]) (S' := [vI (A.1 91 7)]) rfl ?_
                      cases h
                      exact rz_B.ret rfl (hw 91 7).1 hw
                    have he := hs24
                    · exact rz_B.tswI rfl ha0 (by omega) (off := 119) (by rw [he]; rfl) (by decide) rfl key
                  · have h := if_F h hs24
                    by_cases hs25 : a0 = 8
                    · have h := if_T h hs25
                      have key : rz_B (d + 0) 213 149 [some (.ref 91), some (vI a0), some (vI 0), none] [] A (some (vI r)) A' (r32 r) := by
                        refine rz_B.go 2 (pc' := 153) (L' := [some (.ref 91), some (vI a0), some (vI 0), none]) (S' := [vI (A.1 91 6)]) rfl ?_
                        cases h
                        exact rz_B.ret rfl (hw 91 6).1 hw
                      have he := hs25
                      · exact rz_B.tswI rfl ha0 (by omega) (off := 124) (by rw [he]; rfl) (by decide) rfl key
                    · have h := if_F h hs25
                      by_cases hs26 : a0 = 9
                      · have h := if_T h hs26
                        have key : rz_B (d + 0) 213 154 [some (.ref 91), some (vI a0), some (vI 0), none] [] A (some (vI r)) A' (r32 r) := by
                          refine rz_B.go 2 (pc' := 158) (L' := [some (.ref 91), some (vI a0), some (vI 0), none]) (S' := [vI (A.1 91 8)]) rfl ?_
                          cases h
                          exact rz_B.ret rfl (hw 91 8).1 hw
                        have he := hs26
                        · exact rz_B.tswI rfl ha0 (by omega) (off := 129) (by rw [he]; rfl) (by decide) rfl key
                      · have h := if_F h hs26
                        by_cases hs27 : a0 = 10
                        · have h := if_T h hs27
                          have key : rz_B (d + 0) 213 159 [some (.ref 91), some (vI a0), some (vI 0), none] [] A (some (vI r)) A' (r32 r) := by
                            refine rz_B.go 2 (pc' := 163) (L' := [some (.ref 91), some (vI a0), some (vI 0), none]) (S' := [vI (A.1 91 9)]) rfl ?_
                            cases h
                            exact rz_B.ret rfl (hw 91 9).1 hw
                          have he := hs27
                          · exact rz_B.tswI rfl ha0 (by omega) (off := 134) (by rw [he]; rfl) (by decide) rfl key
                        · have h := if_F h hs27
                          have key : rz_B (d + 0) 213 164 [some (.ref 91), some (vI a0), some (vI 0), none] [] A (some (vI r)) A' (r32 r) := by
                            refine rz_B.go 1 (pc' := 166) (L' := [some (.ref 91), some (vI a0), some (vI 0), none]) (S' := [vI (-9)]) rfl ?_
                            cases h
                            exact rz_B.ret rfl (by decide) hw
                          exact rz_B.tswO rfl ha0 (by omega) (by decide) rfl key
