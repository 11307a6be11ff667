set_option maxRecDepth 16384
def x70_stretchStart_5 (F : Nat) : Nat → Int → Int → Int → Int → rz_A → Option (Int × rz_A)
  | 0, _, _, _, _, _ => none
  | n + 1, v1, v2, v3, v4, A =>
    rz_gx v1 6 <|
    if v4 < (A.1 6 (v1).toNat) then
      if v1 = 0 then
        rz_gx v4 8 <|
        if (A.1 8 (v4).toNat) ≤ v2 then
          if v3 < (A.1 8 (v4).toNat) then
            rz_g32 (v4 + 1) <|
            x70_stretchStart_5 F n v1 v2 (A.1 8 (v4).toNat) (v4 + 1) A
          else
            rz_g32 (v4 + 1) <|
            x70_stretchStart_5 F n v1 v2 v3 (v4 + 1) A
        else
          rz_g32 (v4 + 1) <|
          x70_stretchStart_5 F n v1 v2 v3 (v4 + 1) A
      else
        if v1 = 1 then
          rz_gx v4 8 <|
          if (A.1 9 (v4).toNat) ≤ v2 then
            if v3 < (A.1 9 (v4).toNat) then
              rz_g32 (v4 + 1) <|
              x70_stretchStart_5 F n v1 v2 (A.1 9 (v4).toNat) (v4 + 1) A
            else
              rz_g32 (v4 + 1) <|
              x70_stretchStart_5 F n v1 v2 v3 (v4 + 1) A
          else
            rz_g32 (v4 + 1) <|
            x70_stretchStart_5 F n v1 v2 v3 (v4 + 1) A
        else
          if v1 = 2 then
            rz_gx v4 8 <|
            if (A.1 10 (v4).toNat) ≤ v2 then
              if v3 < (A.1 10 (v4).toNat) then
                rz_g32 (v4 + 1) <|
                x70_stretchStart_5 F n v1 v2 (A.1 10 (v4).toNat) (v4 + 1) A
              else
                rz_g32 (v4 + 1) <|
                x70_stretchStart_5 F n v1 v2 v3 (v4 + 1) A
            else
              rz_g32 (v4 + 1) <|
              x70_stretchStart_5 F n v1 v2 v3 (v4 + 1) A
          else
            if v1 = 3 then
              rz_gx v4 8 <|
              if (A.1 11 (v4).toNat) ≤ v2 then
                if v3 < (A.1 11 (v4).toNat) then
                  rz_g32 (v4 + 1) <|
                  x70_stretchStart_5 F n v1 v2 (A.1 11 (v4).toNat) (v4 + 1) A
                else
                  rz_g32 (v4 + 1) <|
                  x70_stretchStart_5 F n v1 v2 v3 (v4 + 1) A
              else
                rz_g32 (v4 + 1) <|
                x70_stretchStart_5 F n v1 v2 v3 (v4 + 1) A
            else
              if v1 = 4 then
                rz_gx v4 8 <|
                if (A.1 12 (v4).toNat) ≤ v2 then
                  if v3 < (A.1 12 (v4).toNat) then
                    rz_g32 (v4 + 1) <|
                    x70_stretchStart_5 F n v1 v2 (A.1 12 (v4).toNat) (v4 + 1) A
                  else
                    rz_g32 (v4 + 1) <|
                    x70_stretchStart_5 F n v1 v2 v3 (v4 + 1) A
                else
                  rz_g32 (v4 + 1) <|
                  x70_stretchStart_5 F n v1 v2 v3 (v4 + 1) A
              else
                  rz_gx v4 8 <|
                  if (A.1 13 (v4).toNat) ≤ v2 then
                    if v3 < (A.1 13 (v4).toNat) then
                      rz_g32 (v4 + 1) <|
                      x70_stretchStart_5 F n v1 v2 (A.1 13 (v4).toNat) (v4 + 1) A
                    else
                      rz_g32 (v4 + 1) <|
                      x70_stretchStart_5 F n v1 v2 v3 (v4 + 1) A
                  else
                    rz_g32 (v4 + 1) <|
                    x70_stretchStart_5 F n v1 v2 v3 (v4 + 1) A
    else
      some (v3, A)
theorem cx70_stretchStart_5 {d : Nat} (F : Nat) : ∀ (n : Nat) (v1 : Int) (v2 : Int) (v3 : Int) (v4 : Int) (A : rz_A) (r : Int) (A' : rz_A), x70_stretchStart_5 F n v1 v2 v3 v4 A = some (r, A') → r32 v1 → r32 v2 → r32 v3 → r32 v4 → wf A → rz_B (d + 0) 70 5 [some (.ref 2), some (vI v1), some (vI v2), some (vI v3), some (vI v4), none] [] A (some (vI r)) A' (r32 r) := by
  intro n
  induction n with
  | zero => intro v1 v2 v3 v4 A r A' h; cases h
  | succ n ih =>
    intro v1 v2 v3 v4 A r A' h hv1 hv2 hv3 hv4 hw
    rw [x70_stretchStart_5] at h
    refine rz_B.go 4 (pc' := 12) (L' := [some (.ref 2), some (vI v1), some (vI v2), some (vI v3), some (vI v4), none]) (S' := [vI v1, .ref 6, vI v4]) rfl ?_
    obtain ⟨hi1, hj2, h⟩ := rz_gx_inv h
    refine rz_B.iald rfl rfl hi1 hj2 (by decide) ?_
    refine rz_B.go 1 (pc' := if decide (Int32.ofInt (A.1 6 (v1).toNat) ≤ Int32.ofInt v4) = true then 48 else 16) (L' := [some (.ref 2), some (vI v1), some (vI v2), some (vI v3), some (vI v4), none]) (S' := []) rfl ?_
    by_cases hc3 : v4 < (A.1 6 (v1).toNat)
    · have h := if_T h hc3
      refine rz_B.ifF (mt (le32 (hw 6 (v1).toNat).1 hv4).mp (Int.not_le.mpr hc3)) ?_
      refine rz_B.go 3 (pc' := 21) (L' := [some (.ref 2), some (vI v1), some (vI v2), some (vI v3), some (vI v4), none]) (S' := [vI v1, .ref 7]) rfl ?_
      by_cases hj4 : v1 = 0
      · have h := if_T h hj4
        refine rz_B.aald rfl (Or.inr rfl) rfl hi1 hj2 (by decide) (c' := 8) (by omega) ?_
        refine rz_B.go 1 (pc' := 24) (L' := [some (.ref 2), some (vI v1), some (vI v2), some (vI v3), some (vI v4), none]) (S' := [vI v4, .ref 8]) rfl ?_
        obtain ⟨hi5, hj6, h⟩ := rz_gx_inv h
        refine rz_B.iald rfl rfl hi5 hj6 (by decide) ?_
        refine rz_B.go 4 (pc' := if decide (Int32.ofInt v2 < Int32.ofInt (A.1 8 (v4).toNat)) = true then 42 else 33) (L' := [some (.ref 2), some (vI v1), some (vI v2), some (vI v3), some (vI v4), some (vI (A.1 8 (v4).toNat))]) (S' := []) rfl ?_
        by_cases hc7 : (A.1 8 (v4).toNat) ≤ v2
        · have h := if_T h hc7
          refine rz_B.ifF (mt (lt32 hv2 (hw 8 (v4).toNat).1).mp (Int.not_lt.mpr hc7)) ?_
          refine rz_B.go 3 (pc' := if decide (Int32.ofInt (A.1 8 (v4).toNat) ≤ Int32.ofInt v3) = true then 42 else 39) (L' := [some (.ref 2), some (vI v1), some (vI v2), some (vI v3), some (vI v4), some (vI (A.1 8 (v4).toNat))]) (S' := []) rfl ?_
          by_cases hc8 : v3 < (A.1 8 (v4).toNat)
          · have h := if_T h hc8
            refine rz_B.ifF (mt (le32 (hw 8 (v4).toNat).1 hv3).mp (Int.not_le.mpr hc8)) ?_
            refine rz_B.go 2 (pc' := 42) (L' := [some (.ref 2), some (vI v1), some (vI v2), some (vI (A.1 8 (v4).toNat)), some (vI v4), some (vI (A.1 8 (v4).toNat))]) (S' := []) rfl ?_
            obtain ⟨hk9, h⟩ := rz_g32_inv h
            refine rz_B.iinc rfl (by decide) rfl (L' := [some (.ref 2), some (vI v1), some (vI v2), some (vI (A.1 8 (v4).toNat)), some (vI (v4 + 1)), some (vI (A.1 8 (v4).toNat))]) rfl ?_
            refine rz_B.go 1 (pc' := 5) (L' := [some (.ref 2), some (vI v1), some (vI v2), some (vI (A.1 8 (v4).toNat)), some (vI (v4 + 1)), some (vI (A.1 8 (v4).toNat))]) (S' := []) rfl ?_
            refine rz_B.more (rg_le_ok (L := [some (.ref 2), some (vI v1), some (vI v2), some (vI (A.1 8 (v4).toNat)), some (vI (v4 + 1)), none]) (by simp [rg_le])) ?_
            exact ih _ _ _ _ _ _ _ h hv1 hv2 (hw 8 (v4).toNat).1 hk9 hw
          · have h := if_F h hc8
            refine rz_B.ifT ((le32 (hw 8 (v4).toNat).1 hv3).mpr (Int.not_lt.mp hc8)) ?_
            obtain ⟨hk10, h⟩ := rz_g32_inv h
            refine rz_B.iinc rfl (by decide) rfl (L' := [some (.ref 2), some (vI v1), some (vI v2), some (vI v3), some (vI (v4 + 1)), some (vI (A.1 8 (v4).toNat))]) rfl ?_
            refine rz_B.go 1 (pc' := 5) (L' := [some (.ref 2), some (vI v1), some (vI v2), some (vI v3), some (vI (v4 + 1)), some (vI (A.1 8 (v4).toNat))]) (S' := []) rfl ?_
            refine rz_B.more (rg_le_ok (L := [some (.ref 2), some (vI v1), some (vI v2), some (vI v3), some (vI (v4 + 1)), none]) (by simp [rg_le])) ?_
            exact ih _ _ _ _ _ _ _ h hv1 hv2 hv3 hk10 hw
        · have h := if_F h hc7
          refine rz_B.ifT ((lt32 hv2 (hw 8 (v4).toNat).1).mpr (Int.not_le.mp hc7)) ?_
          obtain ⟨hk11, h⟩ := rz_g32_inv h
          refine rz_B.iinc rfl (by decide) rfl (L' := [some (.ref 2), some (vI v1), some (vI v2), some (vI v3), some (vI (v4 + 1)), some (vI (A.1 8 (v4).toNat))]) rfl ?_
          refine rz_B.go 1 (pc' := 5) (L' := [some (.ref 2), some (vI v1), some (vI v2), some (vI v3), some (vI (v4 + 1)), some (vI (A.1 8 (v4).toNat))]) (S' := []) rfl ?_
          refine rz_B.more (rg_le_ok (L := [some (.ref 2), some (vI v1), some (vI v2), some (vI v3), some (vI (v4 + 1)), none]) (by simp [rg_le])) ?_
          exact ih _ _ _ _ _ _ _ h hv1 hv2 hv3 hk11 hw
      · have h := if_F h hj4
        by_cases hj12 : v1 = 1
        · have h := if_T h hj12
          refine rz_B.aald rfl (Or.inr rfl) rfl hi1 hj2 (by decide) (c' := 9) (by omega) ?_
          refine rz_B.go 1 (pc' := 24) (L' := [some (.ref 2), some (vI v1), some (vI v2), some (vI v3), some (vI v4), none]) (S' := [vI v4, .ref 9]) rfl ?_
          obtain ⟨hi13, hj14, h⟩ := rz_gx_inv h
          refine rz_B.iald rfl rfl hi13 hj14 (by decide) ?_
          refine rz_B.go 4 (pc' := if decide (Int32.ofInt v2 < Int32.ofInt (A.1 9 (v4).toNat)) = true then 42 else 33) (L' := [some (.ref 2), some (vI v1), some (vI v2), some (vI v3), some (vI v4), some (vI (A.1 9 (v4).toNat))]) (S' := []) rfl ?_
          by_cases hc15 : (A.1 9 (v4).toNat) ≤ v2
          · have h := if_T h hc15
            refine rz_B.ifF (mt (lt32 hv2 (hw 9 (v4).toNat).1).mp (Int.not_lt.mpr hc15)) ?_
            refine rz_B.go 3 (pc' := if decide (Int32.ofInt (A.1 9 (v4).toNat) ≤ Int32.ofInt v3) = true then 42 else 39) (L' := [some (.ref 2), some (vI v1), some (vI v2), some (vI v3), some (vI v4), some (vI (A.1 9 (v4).toNat))]) (S' := []) rfl ?_
            by_cases hc16 : v3 < (A.1 9 (v4).toNat)
            · have h := if_T h hc16
              refine rz_B.ifF (mt (le32 (hw 9 (v4).toNat).1 hv3).mp (Int.not_le.mpr hc16)) ?_
              refine rz_B.go 2 (pc' := 42) (L' := [some (.ref 2), some (vI v1), some (vI v2), some (vI (A.1 9 (v4).toNat)), some (vI v4), some (vI (A.1 9 (v4).toNat))]) (S' := []) rfl ?_
              obtain ⟨hk17, h⟩ := rz_g32_inv h
              refine rz_B.iinc rfl (by decide) rfl (L' := [some (.ref 2), some (vI v1), some (vI v2), some (vI (A.1 9 (v4).toNat)), some (vI (v4 + 1)), some (vI (A.1 9 (v4).toNat))]) rfl ?_
              refine rz_B.go 1 (pc' := 5) (L' := [some (.ref 2), some (vI v1), some (vI v2), some (vI (A.1 9 (v4).toNat)), some (vI (v4 + 1)), some (vI (A.1 9 (v4).toNat))]) (S' := []) rfl ?_
              refine rz_B.more (rg_le_ok (L := [some (.ref 2), some (vI v1), some (vI v2), some (vI (A.1 9 (v4).toNat)), some (vI (v4 + 1)), none]) (by simp [rg_le])) ?_
              exact ih _ _ _ _ _ _ _ h hv1 hv2 (hw 9 (v4).toNat).1 hk17 hw
            · have h := if_F h hc16
              refine rz_B.ifT ((le32 (hw 9 (v4).toNat).1 hv3).mpr (Int.not_lt.mp hc16)) ?_
              obtain ⟨hk18, h⟩ := rz_g32_inv h
              refine rz_B.iinc rfl (by decide) rfl (L' := [some (.ref 2), some (vI v1), some (vI v2), some (vI v3), some (vI (v4 + 1)), some (vI (A.1 9 (v4).toNat))]) rfl ?_
              refine rz_B.go 1 (pc' := 5) (L' := [some (.ref 2), some (vI v1), some (vI v2), some (vI v3), some (vI (v4 + 1)), some (vI (A.1 9 (v4).toNat))]) (S' := []) rfl ?_
              refine rz_B.more (rg_le_ok (L := [some (.ref 2), some (vI v1), some (vI v2), some (vI v3), some (vI (v4 + 1)), none]) (by simp [rg_le])) ?_
              exact ih _ _ _ _ _ _ _ h hv1 hv2 hv3 hk18 hw
          · have h := if_F h hc15
            refine rz_B.ifT ((lt32 hv2 (hw 9 (v4).toNat).1).mpr (Int.not_le.mp hc15)) ?_
            obtain ⟨hk19, h⟩ := rz_g32_inv h
            refine rz_B.iinc rfl (by decide) rfl (L' := [some (.ref 2), some (vI v1), some (vI v2), some (vI v3), some (vI (v4 + 1)), some (vI (A.1 9 (v4).toNat))]) rfl ?_
            refine rz_B.go 1 (pc' := 5) (L' := [some (.ref 2), some (vI v1), some (vI v2), some (vI v3), some (vI (v4 + 1)), some (vI (A.1 9 (v4).toNat))]) (S' := []) rfl ?_
            refine rz_B.more (rg_le_ok (L := [some (.ref 2), some (vI v1), some (vI v2), some (vI v3), some (vI (v4 + 1)), none]) (by simp [rg_le])) ?_
            exact ih _ _ _ _ _ _ _ h hv1 hv2 hv3 hk19 hw
        · have h := if_F h hj12
          by_cases hj20 : v1 = 2
          · have h := if_T h hj20
            refine rz_B.aald rfl (Or.inr rfl) rfl hi1 hj2 (by decide) (c' := 10) (by omega) ?_
            refine rz_B.go 1 (pc' := 24) (L' := [some (.ref 2), some (vI v1), some (vI v2), some (vI v3), some (vI v4), none]) (S' := [vI v4, .ref 10]) rfl ?_
            obtain ⟨hi21, hj22, h⟩ := rz_gx_inv h
            refine rz_B.iald rfl rfl hi21 hj22 (by decide) ?_
            refine rz_B.go 4 (pc' := if decide (Int32.ofInt v2 < Int32.ofInt (A.1 10 (v4).toNat)) = true then 42 else 33) (L' := [some (.ref 2), some (vI v1), some (vI v2), some (vI v3), some (vI v4), some (vI (A.1 10 (v4).toNat))]) (S' := []) rfl ?_
            by_cases hc23 : (A.1 10 (v4).toNat) ≤ v2
            · have h := if_T h hc23
              refine rz_B.ifF (mt (lt32 hv2 (hw 10 (v4).toNat).1).mp (Int.not_lt.mpr hc23)) ?_
              refine rz_B.go 3 (pc' := if decide (Int32.ofInt (A.1 10 (v4).toNat) ≤ Int32.ofInt v3) = true then 42 else 39) (L' := [some (.ref 2), some (vI v1), some (vI v2), some (vI v3), some (vI v4), some (vI (A.1 10 (v4).toNat))]) (S' := []) rfl ?_
              by_cases hc24 : v3 < (A.1 10 (v4).toNat)
              · have h := if_T h hc24
                refine rz_B.ifF (mt (le32 (hw 10 (v4).toNat).1 hv3).mp (Int.not_le.mpr hc24)) ?_
                refine rz_B.go 2 (pc' := 42) (L' := [some (.ref 2), some (vI v1), some (vI v2), some (vI (A.1 10 (v4).toNat)), some (vI v4), some (vI (A.1 10 (v4).toNat))]) (S' := []) rfl ?_
                obtain ⟨hk25, h⟩ := rz_g32_inv h
                refine rz_B.iinc rfl (by decide) rfl (L' := [some (.ref 2), some (vI v1), some (vI v2), some (vI (A.1 10 (v4).toNat)), some (vI (v4 + 1)), some (vI (A.1 10 (v4).toNat))]) rfl ?_
                refine rz_B.go 1 (pc' := 5) (L' := [some (.ref 2), some (vI v1), some (vI v2), some (vI (A.1 10 (v4).toNat)), some (vI (v4 + 1)), some (vI (A.1 10 (v4).toNat))]) (S' := []) rfl ?_
                refine rz_B.more (rg_le_ok (L := [some (.ref 2), some (vI v1), some (vI v2), some (vI (A.1 10 (v4).toNat)), some (vI (v4 + 1)), none]) (by simp [rg_le])) ?_
                exact ih _ _ _ _ _ _ _ h hv1 hv2 (hw 10 (v4).toNat).1 hk25 hw
              · have h := if_F h hc24
                refine rz_B.ifT ((le32 (hw 10 (v4).toNat).1 hv3).mpr (Int.not_lt.mp hc24)) ?_
                obtain ⟨hk26, h⟩ := rz_g32_inv h
                refine rz_B.iinc rfl (by decide) rfl (L' := [some (.ref 2), some (vI v1), some (vI v2), some (vI v3), some (vI (v4 + 1)), some (vI (A.1 10 (v4).toNat))]) rfl ?_
                refine rz_B.go 1 (pc' := 5) (L' := [some (.ref 2), some (vI v1), some (vI v2), some (vI v3), some (vI (v4 + 1)), some (vI (A.1 10 (v4).toNat))]) (S' := []) rfl ?_
                refine rz_B.more (rg_le_ok (L := [some (.ref 2), some (vI v1), some (vI v2), some (vI v3), some (vI (v4 + 1)), none]) (by simp [rg_le])) ?_
                exact ih _ _ _ _ _ _ _ h hv1 hv2 hv3 hk26 hw
            · have h := if_F h hc23
              refine rz_B.ifT ((lt32 hv2 (hw 10 (v4).toNat).1).mpr (Int.not_le.mp hc23)) ?_
              obtain ⟨hk27, h⟩ := rz_g32_inv h
              refine rz_B.iinc rfl (by decide) rfl (L' := [some (.ref 2), some (vI v1), some (vI v2), some (vI v3), some (vI (v4 + 1)), some (vI (A.1 10 (v4).toNat))]) rfl ?_
              refine rz_B.go 1 (pc' := 5) (L' := [some (.ref 2), some (vI v1), some (vI v2), some (vI v3), some (vI (v4 + 1)), some (vI (A.1 10 (v4).toNat))]) (S' := []) rfl ?_
              refine rz_B.more (rg_le_ok (L := [some (.ref 2), some (vI v1), some (vI v2), some (vI v3), some (vI (v4 + 1)), none]) (by simp [rg_le])) ?_
              exact ih _ _ _ _ _ _ _ h hv1 hv2 hv3 hk27 hw
          · have h := if_F h hj20
            by_cases hj28 : v1 = 3
            · have h := if_T h hj28
              refine rz_B.aald rfl (Or.inr rfl) rfl hi1 hj2 (by decide) (c' := 11) (by omega) ?_
              refine rz_B.go 1 (pc' := 24) (L' := [some (.ref 2), some (vI v1), some (vI v2), some (vI v3), some (vI v4), none]) (S' := [vI v4, .ref 11]) rfl ?_
              obtain ⟨hi29, hj30, h⟩ := rz_gx_inv h
              refine rz_B.iald rfl rfl hi29 hj30 (by decide) ?_
              refine rz_B.go 4 (pc' := if decide (Int32.ofInt v2 < Int32.ofInt (A.1 11 (v4).toNat)) = true then 42 else 33) (L' := [some (.ref 2), some (vI v1), some (vI v2), some (vI v3), some (vI v4), some (vI (A.1 11 (v4).toNat))]) (S' := []) rfl ?_
              by_cases hc31 : (A.1 11 (v4).toNat) ≤ v2
              · have h := if_T h hc31
                refine rz_B.ifF (mt (lt32 hv2 (hw 11 (v4).toNat).1).mp (Int.not_lt.mpr hc31)) ?_
                refine rz_B.go 3 (pc' := if decide (Int32.ofInt (A.1 11 (v4).toNat) ≤ Int32.ofInt v3) = true then 42 else 39) (L' := [some (.ref 2), some (vI v1), some (vI v2), some (vI v3), some (vI v4), some (vI (A.1 11 (v4).toNat))]) (S' := []) rfl ?_
                by_cases hc32 : v3 < (A.1 11 (v4).toNat)
                · have h := if_T h hc32
                  refine rz_B.ifF (mt (le32 (hw 11 (v4).toNat).1 hv3).mp (Int.not_le.mpr hc32)) ?_
                  refine rz_B.go 2 (pc' := 42) (L' := [some (.ref 2), some (vI v1), some (vI v2), some (vI (A.1 11 (v4).toNat)), some (vI v4), some (vI (A.1 11 (v4).toNat))]) (S' := []) rfl ?_
                  obtain ⟨hk33, h⟩ := rz_g32_inv h
                  refine rz_B.iinc rfl (by decide) rfl (L' := [some (.ref 2), some (vI v1), some (vI v2), some (vI (A.1 11 (v4).toNat)), some (vI (v4 + 1)), some (vI (A.1 11 (v4).toNat))]) rfl ?_
                  refine rz_B.go 1 (pc' := 5) (L' := [some (.ref 2), some (vI v1), some (vI v2), some (vI (A.1 11 (v4).toNat)), some (vI (v4 + 1)), some (vI (A.1 11 (v4).toNat))]) (S' := []) rfl ?_
                  refine rz_B.more (rg_le_ok (L := [some (.ref 2), some (vI v1), some (vI v2), some (vI (A.1 11 (v4).toNat)), some (vI (v4 + 1)), none]) (by simp [rg_le])) ?_
                  exact ih _ _ _ _ _ _ _ h hv1 hv2 (hw 11 (v4).toNat).1 hk33 hw
                · have h := if_F h hc32
                  refine rz_B.ifT ((le32 (hw 11 (v4).toNat).1 hv3).mpr (Int.not_lt.mp hc32)) ?_
                  obtain ⟨hk34, h⟩ := rz_g32_inv h
                  refine rz_B.iinc rfl (by decide) rfl (L' := [some (.ref 2), some (vI v1), some (vI v2), some (vI v3), some (vI (v4 + 1)), some (vI (A.1 11 (v4).toNat))]) rfl ?_
                  refine rz_B.go 1 (pc' := 5) (L' := [some (.ref 2), some (vI v1), some (vI v2), some (vI v3), some (vI (v4 + 1)), some (vI (A.1 11 (v4).toNat))]) (S' := []) rfl ?_
                  refine rz_B.more (rg_le_ok (L := [some (.ref 2), some (vI v1), some (vI v2), some (vI v3), some (vI (v4 + 1)), none]) (by simp [rg_le])) ?_
                  exact ih _ _ _ _ _ _ _ h hv1 hv2 hv3 hk34 hw
              · have h := if_F h hc31
                refine rz_B.ifT ((lt32 hv2 (hw 11 (v4).toNat).1).mpr (Int.not_le.mp hc31)) ?_
                obtain ⟨hk35, h⟩ := rz_g32_inv h
                refine rz_B.iinc rfl (by decide) rfl (L' := [some (.ref 2), some (vI v1), some (vI v2), some (vI v3), some (vI (v4 + 1)), some (vI (A.1 11 (v4).toNat))]) rfl ?_
                refine rz_B.go 1 (pc' := 5) (L' := [some (.ref 2), some (vI v1), some (vI v2), some (vI v3), some (vI (v4 + 1)), some (vI (A.1 11 (v4).toNat))]) (S' := []) rfl ?_
                refine rz_B.more (rg_le_ok (L := [some (.ref 2), some (vI v1), some (vI v2), some (vI v3), some (vI (v4 + 1)), none]) (by simp [rg_le])) ?_
                exact ih _ _ _ _ _ _ _ h hv1 hv2 hv3 hk35 hw
            · have h := if_F h hj28
              by_cases hj36 : v1 = 4
              · have h := if_T h hj36
                refine rz_B.aald rfl (Or.inr rfl) rfl hi1 hj2 (by decide) (c' := 12) (by omega) ?_
                refine rz_B.go 1 (pc' := 24) (L' := [some (.ref 2), some (vI v1), some (vI v2), some (vI v3), some (vI v4), none]) (S' := [vI v4, .ref 12]) rfl ?_
                obtain ⟨hi37, hj38, h⟩ := rz_gx_inv h
                refine rz_B.iald rfl rfl hi37 hj38 (by decide) ?_
                refine rz_B.go 4 (pc' := if decide (Int32.ofInt v2 < Int32.ofInt (A.1 12 (v4).toNat)) = true then 42 else 33) (L' := [some (.ref 2), some (vI v1), some (vI v2), some (vI v3), some (vI v4), some (vI (A.1 12 (v4).toNat))]) (S' := []) rfl ?_
                by_cases hc39 : (A.1 12 (v4).toNat) ≤ v2
                · have h := if_T h hc39
                  refine rz_B.ifF (mt (lt32 hv2 (hw 12 (v4).toNat).1).mp (Int.not_lt.mpr hc39)) ?_
                  refine rz_B.go 3 (pc' := if decide (Int32.ofInt (A.1 12 (v4).toNat) ≤ Int32.ofInt v3) = true then 42 else 39) (L' := [some (.ref 2), some (vI v1), some (vI v2), some (vI v3), some (vI v4), some (vI (A.1 12 (v4).toNat))]) (S' := []) rfl ?_
                  by_cases hc40 : v3 < (A.1 12 (v4).toNat)
                  · have h := if_T h hc40
                    refine rz_B.ifF (mt (le32 (hw 12 (v4).toNat).1 hv3).mp (Int.not_le.mpr hc40)) ?_
                    refine rz_B.go 2 (pc' := 42) (L' := [some (.ref 2), some (vI v1), some (vI v2), some (vI (A.1 12 (v4).toNat)), some (vI v4), some (vI (A.1 12 (v4).toNat))]) (S' := []) rfl ?_
                    obtain ⟨hk41, h⟩ := rz_g32_inv h
                    refine rz_B.iinc rfl (by decide) rfl (L' := [some (.ref 2), some (vI v1), some (vI v2), some (vI (A.1 12 (v4).toNat)), some (vI (v4 + 1)), some (vI (A.1 12 (v4).toNat))]) rfl ?_
                    refine rz_B.go 1 (pc' := 5) (L' := [some (.ref 2), some (vI v1), some (vI v2), some (vI (A.1 12 (v4).toNat)), some (vI (v4 + 1)), some (vI (A.1 12 (v4).toNat))]) (S' := []) rfl ?_
                    refine rz_B.more (rg_le_ok (L := [some (.ref 2), some (vI v1), some (vI v2), some (vI (A.1 12 (v4).toNat)), some (vI (v4 + 1)), none]) (by simp [rg_le])) ?_
                    exact ih _ _ _ _ _ _ _ h hv1 hv2 (hw 12 (v4).toNat).1 hk41 hw
                  · have h := if_F h hc40
                    refine rz_B.ifT ((le32 (hw 12 (v4).toNat).1 hv3).mpr (Int.not_lt.mp hc40)) ?_
                    obtain ⟨hk42, h⟩ := rz_g32_inv h
                    refine rz_B.iinc rfl (by decide) rfl (L' := [some (.ref 2), some (vI v1), some (vI v2), some (vI v3), some (vI (v4 + 1)), some (vI (A.1 12 (v4).toNat))]) rfl ?_
                    refine rz_B.go 1 (pc' := 5) (L' := [some (.ref 2), some (vI v1), some (vI v2), some (vI v3), some (vI (v4 + 1)), some (vI (A.1 12 (v4).toNat))]) (S' := []) rfl ?_
                    refine rz_B.more (rg_le_ok (L := [some (.ref 2), some (vI v1), some (vI v2), some (vI v3), some (vI (v4 + 1)), none]) (by simp [rg_le])) ?_
                    exact ih _ _ _ _ _ _ _ h hv1 hv2 hv3 hk42 hw
                · have h := if_F h hc39
                  refine rz_B.ifT ((lt32 hv2 (hw 12 (v4).toNat).1).mpr (Int.not_le.mp hc39)) ?_
                  obtain ⟨hk43, h⟩ := rz_g32_inv h
                  refine rz_B.iinc rfl (by decide) rfl (L' := [some (.ref 2), some (vI v1), some (vI v2), some (vI v3), some (vI (v4 + 1)), some (vI (A.1 12 (v4).toNat))]) rfl ?_
                  refine rz_B.go 1 (pc' := 5) (L' := [some (.ref 2), some (vI v1), some (vI v2), some (vI v3), some (vI (v4 + 1)), some (vI (A.1 12 (v4).toNat))]) (S' := []) rfl ?_
                  refine rz_B.more (rg_le_ok (L := [some (.ref 2), some (vI v1), some (vI v2), some (vI v3), some (vI (v4 + 1)), none]) (by simp [rg_le])) ?_
                  exact ih _ _ _ _ _ _ _ h hv1 hv2 hv3 hk43 hw
              · have h := if_F h hj36
                refine rz_B.aald rfl (Or.inr rfl) rfl hi1 hj2 (by decide) (c' := 13) (by omega) ?_
                refine rz_B.go 1 (pc' := 24) (L' := [some (.ref 2), some (vI v1), some (vI v2), some (vI v3), some (vI v4), none]) (S' := [vI v4, .ref 13]) rfl ?_
                obtain ⟨hi45, hj46, h⟩ := rz_gx_inv h
                refine rz_B.iald rfl rfl hi45 hj46 (by decide) ?_
                refine rz_B.go 4 (pc' := if decide (Int32.ofInt v2 < Int32.ofInt (A.1 13 (v4).toNat)) = true then 42 else 33) (L' := [some (.ref 2), some (vI v1), some (vI v2), some (vI v3), some (vI v4), some (vI (A.1 13 (v4).toNat))]) (S' := []) rfl ?_
                by_cases hc47 : (A.1 13 (v4).toNat) ≤ v2
                · have h := if_T h hc47
                  refine rz_B.ifF (mt (lt32 hv2 (hw 13 (v4).toNat).1).mp (Int.not_lt.mpr hc47)) ?_
                  refine rz_B.go 3 (pc' := if decide (Int32.ofInt (A.1 13 (v4).toNat) ≤ Int32.ofInt v3) = true then 42 else 39) (L' := [some (.ref 2), some (vI v1), some (vI v2), some (vI v3), some (vI v4), some (vI (A.1 13 (v4).toNat))]) (S' := []) rfl ?_
                  by_cases hc48 : v3 < (A.1 13 (v4).toNat)
                  · have h := if_T h hc48
                    refine rz_B.ifF (mt (le32 (hw 13 (v4).toNat).1 hv3).mp (Int.not_le.mpr hc48)) ?_
                    refine rz_B.go 2 (pc' := 42) (L' := [some (.ref 2), some (vI v1), some (vI v2), some (vI (A.1 13 (v4).toNat)), some (vI v4), some (vI (A.1 13 (v4).toNat))]) (S' := []) rfl ?_
                    obtain ⟨hk49, h⟩ := rz_g32_inv h
                    refine rz_B.iinc rfl (by decide) rfl (L' := [some (.ref 2), some (vI v1), some (vI v2), some (vI (A.1 13 (v4).toNat)), some (vI (v4 + 1)), some (vI (A.1 13 (v4).toNat))]) rfl ?_
                    refine rz_B.go 1 (pc' := 5) (L' := [some (.ref 2), some (vI v1), some (vI v2), some (vI (A.1 13 (v4).toNat)), some (vI (v4 + 1)), some (vI (A.1 13 (v4).toNat))]) (S' := []) rfl ?_
                    refine rz_B.more (rg_le_ok (L := [some (.ref 2), some (vI v1), some (vI v2), some (vI (A.1 13 (v4).toNat)), some (vI (v4 + 1)), none]) (by simp [rg_le])) ?_
                    exact ih _ _ _ _ _ _ _ h hv1 hv2 (hw 13 (v4).toNat).1 hk49 hw
                  · have h := if_F h hc48
                    refine rz_B.ifT ((le32 (hw 13 (v4).toNat).1 hv3).mpr (Int.not_lt.mp hc48)) ?_
                    obtain ⟨hk50, h⟩ := rz_g32_inv h
                    refine rz_B.iinc rfl (by decide) rfl (L' := [some (.ref 2), some (vI v1), some (vI v2), some (vI v3), some (vI (v4 + 1)), some (vI (A.1 13 (v4).toNat))]) rfl ?_
                    refine rz_B.go 1 (pc' := 5) (L' := [some (.ref 2), some (vI v1), some (vI v2), some (vI v3), some (vI (v4 + 1)), some (vI (A.1 13 (v4).toNat))]) (S' := []) rfl ?_
                    refine rz_B.more (rg_le_ok (L := [some (.ref 2), some (vI v1), some (vI v2), some (vI v3), some (vI (v4 + 1)), none]) (by simp [rg_le])) ?_
                    exact ih _ _ _ _ _ _ _ h hv1 hv2 hv3 hk50 hw
                · have h := if_F h hc47
                  refine rz_B.ifT ((lt32 hv2 (hw 13 (v4).toNat).1).mpr (Int.not_le.mp hc47)) ?_
                  obtain ⟨hk51, h⟩ := rz_g32_inv h
                  refine rz_B.iinc rfl (by decide) rfl (L' := [some (.ref 2), some (vI v1), some (vI v2), some (vI v3), some (vI (v4 + 1)), some (vI (A.1 13 (v4).toNat))]) rfl ?_
                  refine rz_B.go 1 (pc' := 5) (L' := [some (.ref 2), some (vI v1), some (vI v2), some (vI v3), some (vI (v4 + 1)), some (vI (A.1 13 (v4).toNat))]) (S' := []) rfl ?_
                  refine rz_B.more (rg_le_ok (L := [some (.ref 2), some (vI v1), some (vI v2), some (vI v3), some (vI (v4 + 1)), none]) (by simp [rg_le])) ?_
                  exact ih _ _ _ _ _ _ _ h hv1 hv2 hv3 hk51 hw
    · have h := if_F h hc3
      refine rz_B.ifT ((le32 (hw 6 (v1).toNat).1 hv4).mpr (Int.not_lt.mp hc3)) ?_
      refine rz_B.go 1 (pc' := 49) (L' := [some (.ref 2), some (vI v1), some (vI v2), some (vI v3), some (vI v4), none]) (S' := [vI v3]) rfl ?_
      cases h
      exact rz_B.ret rfl hv3 hw
/-- RiverGauge$Posts.stretchStart(II)I -/
def x70_stretchStart (F : Nat) (a0 : Int) (a1 : Int) (A : rz_A) : Option (Int × rz_A) :=
  x70_stretchStart_5 F F a0 a1 0 0 A
theorem cx70_stretchStart (F : Nat) {d : Nat} {a0 : Int} {a1 : Int} {A : rz_A} {r : Int} {A' : rz_A} (h : x70_stretchStart F a0 a1 A = some (r, A')) (ha0 : r32 a0) (ha1 : r32 a1) (hw : wf A) : rg_Rn (d + 0) 70 [.ref 2, vI a0, vI a1] (toM A) (some (vI r)) (toM A') ∧ (r32 r) ∧ wf A' := by
  show rz_B (d + 0) 70 0 [some (.ref 2), some (vI a0), some (vI a1), none, none, none] [] A (some (vI r)) A' (r32 r)
  unfold x70_stretchStart at h
  refine rz_B.go 4 (pc' := 5) (L' := [some (.ref 2), some (vI a0), some (vI a1), some (vI 0), some (vI 0), none]) (S' := []) rfl ?_
  refine rz_B.more (rg_le_ok (L := [some (.ref 2), some (vI a0), some (vI a1), some (vI 0), some (vI 0), none]) (by simp [rg_le])) ?_
  exact cx70_stretchStart_5 F F _ _ _ _ _ _ _ h ha0 ha1 (by decide) (by decide) hw
def x71_stretchEnd_7 (F : Nat) : Nat → Int → Int → Int → Int → rz_A → Option (Int × rz_A)
  | 0, _, _, _, _, _ => none
  | n + 1, v1, v2, v3, v4, A =>
    rz_gx v1 6 <|
    if v4 < (A.1 6 (v1).toNat) then
      if v1 = 0 then
        rz_gx v4 8 <|
        if v2 < (A.1 8 (v4).toNat) then
          if (A.1 8 (v4).toNat) ≤ v3 then
            rz_g32 ((A.1 8 (v4).toNat) - 1) <|
            rz_g32 (v4 + 1) <|
            x71_stretchEnd_7 F n v1 v2 ((A.1 8 (v4).toNat) - 1) (v4 + 1) A
          else
            rz_g32 (v4 + 1) <|
            x71_stretchEnd_7 F n v1 v2 v3 (v4 + 1) A
        else
          rz_g32 (v4 + 1) <|
          x71_stretchEnd_7 F n v1 v2 v3 (v4 + 1) A
      else
        if v1 = 1 then
          rz_gx v4 8 <|
          if v2 < (A.1 9 (v4).toNat) then
            if (A.1 9 (v4).toNat) ≤ v3 then
              rz_g32 ((A.1 9 (v4).toNat) - 1) <|
              rz_g32 (v4 + 1) <|
              x71_stretchEnd_7 F n v1 v2 ((A.1 9 (v4).toNat) - 1) (v4 + 1) A
            else
              rz_g32 (v4 + 1) <|
              x71_stretchEnd_7 F n v1 v2 v3 (v4 + 1) A
          else
            rz_g32 (v4 + 1) <|
            x71_stretchEnd_7 F n v1 v2 v3 (v4 + 1) A
        else
          if v1 = 2 then
            rz_gx v4 8 <|
            if v2 < (A.1 10 (v4).toNat) then
              if (A.1 10 (v4).toNat) ≤ v3 then
                rz_g32 ((A.1 10 (v4).toNat) - 1) <|
                rz_g32 (v4 + 1) <|
                x71_stretchEnd_7 F n v1 v2 ((A.1 10 (v4).toNat) - 1) (v4 + 1) A
              else
                rz_g32 (v4 + 1) <|
                x71_stretchEnd_7 F n v1 v2 v3 (v4 + 1) A
            else
              rz_g32 (v4 + 1) <|
              x71_stretchEnd_7 F n v1 v2 v3 (v4 + 1) A
          else
            if v1 = 3 then
              rz_gx v4 8 <|
              if v2 < (A.1 11 (v4).toNat) then
                if (A.1 11 (v4).toNat) ≤ v3 then
                  rz_g32 ((A.1 11 (v4).toNat) - 1) <|
                  rz_g32 (v4 + 1) <|
                  x71_stretchEnd_7 F n v1 v2 ((A.1 11 (v4).toNat) - 1) (v4 + 1) A
                else
                  rz_g32 (v4 + 1) <|
                  x71_stretchEnd_7 F n v1 v2 v3 (v4 + 1) A
              else
                rz_g32 (v4 + 1) <|
                x71_stretchEnd_7 F n v1 v2 v3 (v4 + 1) A
            else
              if v1 = 4 then
                rz_gx v4 8 <|
                if v2 < (A.1 12 (v4).toNat) then
                  if (A.1 12 (v4).toNat) ≤ v3 then
                    rz_g32 ((A.1 12 (v4).toNat) - 1) <|
                    rz_g32 (v4 + 1) <|
                    x71_stretchEnd_7 F n v1 v2 ((A.1 12 (v4).toNat) - 1) (v4 + 1) A
                  else
                    rz_g32 (v4 + 1) <|
                    x71_stretchEnd_7 F n v1 v2 v3 (v4 + 1) A
                else
                  rz_g32 (v4 + 1) <|
                  x71_stretchEnd_7 F n v1 v2 v3 (v4 + 1) A
              else
                  rz_gx v4 8 <|
                  if v2 < (A.1 13 (v4).toNat) then
                    if (A.1 13 (v4).toNat) ≤ v3 then
                      rz_g32 ((A.1 13 (v4).toNat) - 1) <|
                      rz_g32 (v4 + 1) <|
                      x71_stretchEnd_7 F n v1 v2 ((A.1 13 (v4).toNat) - 1) (v4 + 1) A
                    else
                      rz_g32 (v4 + 1) <|
                      x71_stretchEnd_7 F n v1 v2 v3 (v4 + 1) A
                  else
                    rz_g32 (v4 + 1) <|
                    x71_stretchEnd_7 F n v1 v2 v3 (v4 + 1) A
    else
      some (v3, A)
theorem cx71_stretchEnd_7 {d : Nat} (F : Nat) : ∀ (n : Nat) (v1 : Int) (v2 : Int) (v3 : Int) (v4 : Int) (A : rz_A) (r : Int) (A' : rz_A), x71_stretchEnd_7 F n v1 v2 v3 v4 A = some (r, A') → r32 v1 → r32 v2 → r32 v3 → r32 v4 → wf A → rz_B (d + 0) 71 7 [some (.ref 2), some (vI v1), some (vI v2), some (vI v3), some (vI v4), none] [] A (some (vI r)) A' (r32 r) := by
  intro n
  induction n with
  | zero => intro v1 v2 v3 v4 A r A' h; cases h
  | succ n ih =>
    intro v1 v2 v3 v4 A r A' h hv1 hv2 hv3 hv4 hw
    rw [x71_stretchEnd_7] at h
    refine rz_B.go 4 (pc' := 14) (L' := [some (.ref 2), some (vI v1), some (vI v2), some (vI v3), some (vI v4), none]) (S' := [vI v1, .ref 6, vI v4]) rfl ?_
    obtain ⟨hi1, hj2, h⟩ := rz_gx_inv h
    refine rz_B.iald rfl rfl hi1 hj2 (by decide) ?_
    refine rz_B.go 1 (pc' := if decide (Int32.ofInt (A.1 6 (v1).toNat) ≤ Int32.ofInt v4) = true then 52 else 18) (L' := [some (.ref 2), some (vI v1), some (vI v2), some (vI v3), some (vI v4), none]) (S' := []) rfl ?_
    by_cases hc3 : v4 < (A.1 6 (v1).toNat)
    · have h := if_T h hc3
      refine rz_B.ifF (mt (le32 (hw 6 (v1).toNat).1 hv4).mp (Int.not_le.mpr hc3)) ?_
      refine rz_B.go 3 (pc' := 23) (L' := [some (.ref 2), some (vI v1), some (vI v2), some (vI v3), some (vI v4), none]) (S' := [vI v1, .ref 7]) rfl ?_
      by_cases hj4 : v1 = 0
      · have h := if_T h hj4
        refine rz_B.aald rfl (Or.inr rfl) rfl hi1 hj2 (by decide) (c' := 8) (by omega) ?_
        refine rz_B.go 1 (pc' := 26) (L' := [some (.ref 2), some (vI v1), some (vI v2), some (vI v3), some (vI v4), none]) (S' := [vI v4, .ref 8]) rfl ?_
        obtain ⟨hi5, hj6, h⟩ := rz_gx_inv h
        refine rz_B.iald rfl rfl hi5 hj6 (by decide) ?_
        refine rz_B.go 4 (pc' := if decide (Int32.ofInt (A.1 8 (v4).toNat) ≤ Int32.ofInt v2) = true then 46 else 35) (L' := [some (.ref 2), some (vI v1), some (vI v2), some (vI v3), some (vI v4), some (vI (A.1 8 (v4).toNat))]) (S' := []) rfl ?_
        by_cases hc7 : v2 < (A.1 8 (v4).toNat)
        · have h := if_T h hc7
          refine rz_B.ifF (mt (le32 (hw 8 (v4).toNat).1 hv2).mp (Int.not_le.mpr hc7)) ?_
          refine rz_B.go 3 (pc' := if decide (Int32.ofInt v3 < Int32.ofInt (A.1 8 (v4).toNat)) = true then 46 else 41) (L' := [some (.ref 2), some (vI v1), some (vI v2), some (vI v3), some (vI v4), some (vI (A.1 8 (v4).toNat))]) (S' := []) rfl ?_
          by_cases hc8 : (A.1 8 (v4).toNat) ≤ v3
          · have h := if_T h hc8
            refine rz_B.ifF (mt (lt32 hv3 (hw 8 (v4).toNat).1).mp (Int.not_lt.mpr hc8)) ?_
            refine rz_B.go 2 (pc' := 44) (L' := [some (.ref 2), some (vI v1), some (vI v2), some (vI v3), some (vI v4), some (vI (A.1 8 (v4).toNat))]) (S' := [vI 1, vI (A.1 8 (v4).toNat)]) rfl ?_
            obtain ⟨hk9, h⟩ := rz_g32_inv h
            refine rz_B.isub rfl ?_
            refine rz_B.go 1 (pc' := 46) (L' := [some (.ref 2), some (vI v1), some (vI v2), some (vI ((A.1 8 (v4).toNat) - 1)), some (vI v4), some (vI (A.1 8 (v4).toNat))]) (S' := []) rfl ?_
            obtain ⟨hk10, h⟩ := rz_g32_inv h
            refine rz_B.iinc rfl (by decide) rfl (L' := [some (.ref 2), some (vI v1), some (vI v2), some (vI ((A.1 8 (v4).toNat) - 1)), some (vI (v4 + 1)), some (vI (A.1 8 (v4).toNat))]) rfl ?_
            refine rz_B.go 1 (pc' := 7) (L' := [some (.ref 2), some (vI v1), some (vI v2), some (vI ((A.1 8 (v4).toNat) - 1)), some (vI (v4 + 1)), some (vI (A.1 8 (v4).toNat))]) (S' := []) rfl ?_
            refine rz_B.more (rg_le_ok (L := [some (.ref 2), some (vI v1), some (vI v2), some (vI ((A.1 8 (v4).toNat) - 1)), some (vI (v4 + 1)), none]) (by simp [rg_le])) ?_
            exact ih _ _ _ _ _ _ _ h hv1 hv2 hk9 hk10 hw
          · have h := if_F h hc8
            refine rz_B.ifT ((lt32 hv3 (hw 8 (v4).toNat).1).mpr (Int.not_le.mp hc8)) ?_
            obtain ⟨hk11, h⟩ := rz_g32_inv h
            refine rz_B.iinc rfl (by decide) rfl (L' := [some (.ref 2), some (vI v1), some (vI v2), some (vI v3), some (vI (v4 + 1)), some (vI (A.1 8 (v4).toNat))]) rfl ?_
            refine rz_B.go 1 (pc' := 7) (L' := [some (.ref 2), some (vI v1), some (vI v2), some (vI v3), some (vI (v4 + 1)), some (vI (A.1 8 (v4).toNat))]) (S' := []) rfl ?_
            refine rz_B.more (rg_le_ok (L := [some (.ref 2), some (vI v1), some (vI v2), some (vI v3), some (vI (v4 + 1)), none]) (by simp [rg_le])) ?_
            exact ih _ _ _ _ _ _ _ h hv1 hv2 hv3 hk11 hw
        · have h := if_F h hc7
          refine rz_B.ifT ((le32 (hw 8 (v4).toNat).1 hv2).mpr (Int.not_lt.mp hc7)) ?_
          obtain ⟨hk12, h⟩ := rz_g32_inv h
          refine rz_B.iinc rfl (by decide) rfl (L' := [some (.ref 2), some (vI v1), some (vI v2), some (vI v3), some (vI (v4 + 1)), some (vI (A.1 8 (v4).toNat))]) rfl ?_
          refine rz_B.go 1 (pc' := 7) (L' := [some (.ref 2), some (vI v1), some (vI v2), some (vI v3), some (vI (v4 + 1)), some (vI (A.1 8 (v4).toNat))]) (S' := []) rfl ?_
          refine rz_B.more (rg_le_ok (L := [some (.ref 2), some (vI v1), some (vI v2), some (vI v3), some (vI (v4 + 1)), none]) (by simp [rg_le])) ?_
          exact ih _ _ _ _ _ _ _ h hv1 hv2 hv3 hk12 hw
      · have h := if_F h hj4
        by_cases hj13 : v1 = 1
        · have h := if_T h hj13
          refine rz_B.aald rfl (Or.inr rfl) rfl hi1 hj2 (by decide) (c' := 9) (by omega) ?_
          refine rz_B.go 1 (pc' := 26) (L' := [some (.ref 2), some (vI v1), some (vI v2), some (vI v3), some (vI v4), none]) (S' := [vI v4, .ref 9]) rfl ?_
          obtain ⟨hi14, hj15, h⟩ := rz_gx_inv h
          refine rz_B.iald rfl rfl hi14 hj15 (by decide) ?_
          refine rz_B.go 4 (pc' := if decide (Int32.ofInt (A.1 9 (v4).toNat) ≤ Int32.ofInt v2) = true then 46 else 35) (L' := [some (.ref 2), some (vI v1), some (vI v2), some (vI v3), some (vI v4), some (vI (A.1 9 (v4).toNat))]) (S' := []) rfl ?_
          by_cases hc16 : v2 < (A.1 9 (v4).toNat)
          · have h := if_T h hc16
            refine rz_B.ifF (mt (le32 (hw 9 (v4).toNat).1 hv2).mp (Int.not_le.mpr hc16)) ?_
            refine rz_B.go 3 (pc' := if decide (Int32.ofInt v3 < Int32.ofInt (A.1 9 (v4).toNat)) = true then 46 else 41) (L' := [some (.ref 2), some (vI v1), some (vI v2), some (vI v3), some (vI v4), some (vI (A.1 9 (v4).toNat))]) (S' := []) rfl ?_
            by_cases hc17 : (A.1 9 (v4).toNat) ≤ v3
            · have h := if_T h hc17
              refine rz_B.ifF (mt (lt32 hv3 (hw 9 (v4).toNat).1).mp (Int.not_lt.mpr hc17)) ?_
              refine rz_B.go 2 (pc' := 44) (L' := [some (.ref 2), some (vI v1), some (vI v2), some (vI v3), some (vI v4), some (vI (A.1 9 (v4).toNat))]) (S' := [vI 1, vI (A.1 9 (v4).toNat)]) rfl ?_
              obtain ⟨hk18, h⟩ := rz_g32_inv h
              refine rz_B.isub rfl ?_
              refine rz_B.go 1 (pc' := 46) (L' := [some (.ref 2), some (vI v1), some (vI v2), some (vI ((A.1 9 (v4).toNat) - 1)), some (vI v4), some (vI (A.1 9 (v4).toNat))]) (S' := []) rfl ?_
              obtain ⟨hk19, h⟩ := rz_g32_inv h
              refine rz_B.iinc rfl (by decide) rfl (L' := [some (.ref 2), some (vI v1), some (vI v2), some (vI ((A.1 9 (v4).toNat) - 1)), some (vI (v4 + 1)), some (vI (A.1 9 (v4).toNat))]) rfl ?_
              refine rz_B.go 1 (pc' := 7) (L' := [some (.ref 2), some (vI v1), some (vI v2), some (vI ((A.1 9 (v4).toNat) - 1)), some (vI (v4 + 1)), some (vI (A.1 9 (v4).toNat))]) (S' := []) rfl ?_
              refine rz_B.more (rg_le_ok (L := [some (.ref 2), some (vI v1), some (vI v2), some (vI ((A.1 9 (v4).toNat) - 1)), some (vI (v4 + 1)), none]) (by simp [rg_le])) ?_
              exact ih _ _ _ _ _ _ _ h hv1 hv2 hk18 hk19 hw
            · have h := if_F h hc17
              refine rz_B.ifT ((lt32 hv3 (hw 9 (v4).toNat).1).mpr (Int.not_le.mp hc17)) ?_
              obtain ⟨hk20, h⟩ := rz_g32_inv h
              refine rz_B.iinc rfl (by decide) rfl (L' := [some (.ref 2), some (vI v1), some (vI v2), some (vI v3), some (vI (v4 + 1)), some (vI (A.1 9 (v4).toNat))]) rfl ?_
              refine rz_B.go 1 (pc' := 7) (L' := [some (.ref 2), some (vI v1), some (vI v2), some (vI v3), some (vI (v4 + 1)), some (vI (A.1 9 (v4).toNat))]) (S' := []) rfl ?_
              refine rz_B.more (rg_le_ok (L := [some (.ref 2), some (vI v1), some (vI v2), some (vI v3), some (vI (v4 + 1)), none]) (by simp [rg_le])) ?_
              exact ih _ _ _ _ _ _ _ h hv1 hv2 hv3 hk20 hw
          · have h := if_F h hc16
            refine rz_B.ifT ((le32 (hw 9 (v4).toNat).1 hv2).mpr (Int.not_lt.mp hc16)) ?_
            obtain ⟨hk21, h⟩ := rz_g32_inv h
            refine rz_B.iinc rfl (by decide) rfl (L' := [some (.ref 2), some (vI v1), some (vI v2), some (vI v3), some (vI (v4 + 1)), some (vI (A.1 9 (v4).toNat))]) rfl ?_
            refine rz_B.go 1 (pc' := 7) (L' := [some (.ref 2), some (vI v1), some (vI v2), some (vI v3), some (vI (v4 + 1)), some (vI (A.1 9 (v4).toNat))]) (S' := []) rfl ?_
            refine rz_B.more (rg_le_ok (L := [some (.ref 2), some (vI v1), some (vI v2), some (vI v3), some (vI (v4 + 1)), none]) (by simp [rg_le])) ?_
            exact ih _ _ _ _ _ _ _ h hv1 hv2 hv3 hk21 hw
        · have h := if_F h hj13
          by_cases hj22 : v1 = 2
          · have h := if_T h hj22
            refine rz_B.aald rfl (Or.inr rfl) rfl hi1 hj2 (by decide) (c' := 10) (by omega) ?_
            refine rz_B.go 1 (pc' := 26) (L' := [some (.ref 2), some (vI v1), some (vI v2), some (vI v3), some (vI v4), none]) (S' := [vI v4, .ref 10]) rfl ?_
            obtain ⟨hi23, hj24, h⟩ := rz_gx_inv h
            refine rz_B.iald rfl rfl hi23 hj24 (by decide) ?_
            refine rz_B.go 4 (pc' := if decide (Int32.ofInt (A.1 10 (v4).toNat) ≤ Int32.ofInt v2) = true then 46 else 35) (L' := [some (.ref 2), some (vI v1), some (vI v2), some (vI v3), some (vI v4), some (vI (A.1 10 (v4).toNat))]) (S' := []) rfl ?_
            by_cases hc25 : v2 < (A.1 10 (v4).toNat)
            · have h := if_T h hc25
              refine rz_B.ifF (mt (le32 (hw 10 (v4).toNat).1 hv2).mp (Int.not_le.mpr hc25)) ?_
              refine rz_B.go 3 (pc' := if decide (Int32.ofInt v3 < Int32.ofInt (A.1 10 (v4).toNat)) = true then 46 else 41) (L' := [some (.ref 2), some (vI v1), some (vI v2), some (vI v3), some (vI v4), some (vI (A.1 10 (v4).toNat))]) (S' := []) rfl ?_
              by_cases hc26 : (A.1 10 (v4).toNat) ≤ v3
              · have h := if_T h hc26
                refine rz_B.ifF (mt (lt32 hv3 (hw 10 (v4).toNat).1).mp (Int.not_lt.mpr hc26)) ?_
                refine rz_B.go 2 (pc' := 44) (L' := [some (.ref 2), some (vI v1), some (vI v2), some (vI v3), some (vI v4), some (vI (A.1 10 (v4).toNat))]) (S' := [vI 1, vI (A.1 10 (v4).toNat)]) rfl ?_
                obtain ⟨hk27, h⟩ := rz_g32_inv h
                refine rz_B.isub rfl ?_
                refine rz_B.go 1 (pc' := 46) (L' := [some (.ref 2), some (vI v1), some (vI v2), some (vI ((A.1 10 (v4).toNat) - 1)), some (vI v4), some (vI (A.1 10 (v4).toNat))]) (S' := []) rfl ?_
                obtain ⟨hk28, h⟩ := rz_g32_inv h
                refine rz_B.iinc rfl (by decide) rfl (L' := [some (.ref 2), some (vI v1), some (vI v2), some (vI ((A.1 10 (v4).toNat) - 1)), some (vI (v4 + 1)), some (vI (A.1 10 (v4).toNat))]) rfl ?_
                refine rz_B.go 1 (pc' := 7) (L' := [some (.ref 2), some (vI v1), some (vI v2), some (vI ((A.1 10 (v4).toNat) - 1)), some (vI (v4 + 1)), some (vI (A.1 10 (v4).toNat))]) (S' := []) rfl ?_
                refine rz_B.more (rg_le_ok (L := [some (.ref 2), some (vI v1), some (vI v2), some (vI ((A.1 10 (v4).toNat) - 1)), some (vI (v4 + 1)), none]) (by simp [rg_le])) ?_
                exact ih _ _ _ _ _ _ _ h hv1 hv2 hk27 hk28 hw
              · have h := if_F h hc26
                refine rz_B.ifT ((lt32 hv3 (hw 10 (v4).toNat).1).mpr (Int.not_le.mp hc26)) ?_
                obtain ⟨hk29, h⟩ := rz_g32_inv h
                refine rz_B.iinc rfl (by decide) rfl (L' := [some (.ref 2), some (vI v1), some (vI v2), some (vI v3), some (vI (v4 + 1)), some (vI (A.1 10 (v4).toNat))]) rfl ?_
                refine rz_B.go 1 (pc' := 7) (L' := [some (.ref 2), some (vI v1), some (vI v2), some (vI v3), some (vI (v4 + 1)), some (vI (A.1 10 (v4).toNat))]) (S' := []) rfl ?_
                refine rz_B.more (rg_le_ok (L := [some (.ref 2), some (vI v1), some (vI v2), some (vI v3), some (vI (v4 + 1)), none]) (by simp [rg_le])) ?_
                exact ih _ _ _ _ _ _ _ h hv1 hv2 hv3 hk29 hw
            · have h := if_F h hc25
              refine rz_B.ifT ((le32 (hw 10 (v4).toNat).1 hv2).mpr (Int.not_lt.mp hc25)) ?_
              obtain ⟨hk30, h⟩ := rz_g32_inv h
              refine rz_B.iinc rfl (by decide) rfl (L' := [some (.ref 2), some (vI v1), some (vI v2), some (vI v3), some (vI (v4 + 1)), some (vI (A.1 10 (v4).toNat))]) rfl ?_
              refine rz_B.go 1 (pc' := 7) (L' := [some (.ref 2), some (vI v1), some (vI v2), some (vI v3), some (vI (v4 + 1)), some (vI (A.1 10 (v4).toNat))]) (S' := []) rfl ?_
              refine rz_B.more (rg_le_ok (L := [some (.ref 2), some (vI v1), some (vI v2), some (vI v3), some (vI (v4 + 1)), none]) (by simp [rg_le])) ?_
              exact ih _ _ _ _ _ _ _ h hv1 hv2 hv3 hk30 hw
          · have h := if_F h hj22
            by_cases hj31 : v1 = 3
            · have h := if_T h hj31
              refine rz_B.aald rfl (Or.inr rfl) rfl hi1 hj2 (by decide) (c' := 11) (by omega) ?_
              refine rz_B.go 1 (pc' := 26) (L' := [some (.ref 2), some (vI v1), some (vI v2), some (vI v3), some (vI v4), none]) (S' := [vI v4, .ref 11]) rfl ?_
              obtain ⟨hi32, hj33, h⟩ := rz_gx_inv h
              refine rz_B.iald rfl rfl hi32 hj33 (by decide) ?_
              refine rz_B.go 4 (pc' := if decide (Int32.ofInt (A.1 11 (v4).toNat) ≤ Int32.ofInt v2) = true then 46 else 35) (L' := [some (.ref 2), some (vI v1), some (vI v2), some (vI v3), some (vI v4), some (vI (A.1 11 (v4).toNat))]) (S' := []) rfl ?_
              by_cases hc34 : v2 < (A.1 11 (v4).toNat)
              · have h := if_T h hc34
                refine rz_B.ifF (mt (le32 (hw 11 (v4).toNat).1 hv2).mp (Int.not_le.mpr hc34)) ?_
                refine rz_B.go 3 (pc' := if decide (Int32.ofInt v3 < Int32.ofInt (A.1 11 (v4).toNat)) = true then 46 else 41) (L' := [some (.ref 2), some (vI v1), some (vI v2), some (vI v3), some (vI v4), some (vI (A.1 11 (v4).toNat))]) (S' := []) rfl ?_
                by_cases hc35 : (A.1 11 (v4).toNat) ≤ v3
                · have h := if_T h hc35
                  refine rz_B.ifF (mt (lt32 hv3 (hw 11 (v4).toNat).1).mp (Int.not_lt.mpr hc35)) ?_
                  refine rz_B.go 2 (pc' := 44) (L' := [some (.ref 2), some (vI v1), some (vI v2), some (vI v3), some (vI v4), some (vI (A.1 11 (v4).toNat))]) (S' := [vI 1, vI (A.1 11 (v4).toNat)]) rfl ?_
                  obtain ⟨hk36, h⟩ := rz_g32_inv h
                  refine rz_B.isub rfl ?_
                  refine rz_B.go 1 (pc' := 46) (L' := [some (.ref 2), some (vI v1), some (vI v2), some (vI ((A.1 11 (v4).toNat) - 1)), some (vI v4), some (vI (A.1 11 (v4).toNat))]) (S' := []) rfl ?_
                  obtain ⟨hk37, h⟩ := rz_g32_inv h
                  refine rz_B.iinc rfl (by decide) rfl (L' := [some (.ref 2), some (vI v1), some (vI v2), some (vI ((A.1 11 (v4).toNat) - 1)), some (vI (v4 + 1)), some (vI (A.1 11 (v4).toNat))]) rfl ?_
                  refine rz_B.go 1 (pc' := 7) (L' := [some (.ref 2), some (vI v1), some (vI v2), some (vI ((A.1 11 (v4).toNat) - 1)), some (vI (v4 + 1)), some (vI (A.1 11 (v4).toNat))]) (S' := []) rfl ?_
                  refine rz_B.more (rg_le_ok (L := [some (.ref 2), some (vI v1), some (vI v2), some (vI ((A.1 11 (v4).toNat) - 1)), some (vI (v4 + 1)), none]) (by simp [rg_le])) ?_
                  exact ih _ _ _ _ _ _ _ h hv1 hv2 hk36 hk37 hw
                · have h := if_F h hc35
                  refine rz_B.ifT ((lt32 hv3 (hw 11 (v4).toNat).1).mpr (Int.not_le.mp hc35)) ?_
                  obtain ⟨hk38, h⟩ := rz_g32_inv h
                  refine rz_B.iinc rfl (by decide) rfl (L' := [some (.ref 2), some (vI v1), some (vI v2), some (vI v3), some (vI (v4 + 1)), some (vI (A.1 11 (v4).toNat))]) rfl ?_
                  refine rz_B.go 1 (pc' := 7) (L' := [some (.ref 2), some (vI v1), some (vI v2), some (vI v3), some (vI (v4 + 1)), some (vI (A.1 11 (v4).toNat))]) (S' := []) rfl ?_
                  refine rz_B.more (rg_le_ok (L := [some (.ref 2), some (vI v1), some (vI v2), some (vI v3), some (vI (v4 + 1)), none]) (by simp [rg_le])) ?_
                  exact ih _ _ _ _ _ _ _ h hv1 hv2 hv3 hk38 hw
              · have h := if_F h hc34
                refine rz_B.ifT ((le32 (hw 11 (v4).toNat).1 hv2).mpr (Int.not_lt.mp hc34)) ?_
                obtain ⟨hk39, h⟩ := rz_g32_inv h
                refine rz_B.iinc rfl (by decide) rfl (L' := [some (.ref 2), some (vI v1), some (vI v2), some (vI v3), some (vI (v4 + 1)), some (vI (A.1 11 (v4).toNat))]) rfl ?_
                refine rz_B.go 1 (pc' := 7) (L' := [some (.ref 2), some (vI v1), some (vI v2), some (vI v3), some (vI (v4 + 1)), some (vI (A.1 11 (v4).toNat))]) (S' := []) rfl ?_
                refine rz_B.more (rg_le_ok (L := [some (.ref 2), some (vI v1), some (vI v2), some (vI v3), some (vI (v4 + 1)), none]) (by simp [rg_le])) ?_
                exact ih _ _ _ _ _ _ _ h hv1 hv2 hv3 hk39 hw
            · have h := if_F h hj31
              by_cases hj40 : v1 = 4
              · have h := if_T h hj40
                refine rz_B.aald rfl (Or.inr rfl) rfl hi1 hj2 (by decide) (c' := 12) (by omega) ?_
                refine rz_B.go 1 (pc' := 26) (L' := [some (.ref 2), some (vI v1), some (vI v2), some (vI v3), some (vI v4), none]) (S' := [vI v4, .ref 12]) rfl ?_
                obtain ⟨hi41, hj42, h⟩ := rz_gx_inv h
                refine rz_B.iald rfl rfl hi41 hj42 (by decide) ?_
                refine rz_B.go 4 (pc' := if decide (Int32.ofInt (A.1 12 (v4).toNat) ≤ Int32.ofInt v2) = true then 46 else 35) (L' := [some (.ref 2), some (vI v1), some (vI v2), some (vI v3), some (vI v4), some (vI (A.1 12 (v4).toNat))]) (S' := []) rfl ?_
                by_cases hc43 : v2 < (A.1 12 (v4).toNat)
                · have h := if_T h hc43
                  refine rz_B.ifF (mt (le32 (hw 12 (v4).toNat).1 hv2).mp (Int.not_le.mpr hc43)) ?_
                  refine rz_B.go 3 (pc' := if decide (Int32.ofInt v3 < Int32.ofInt (A.1 12 (v4).toNat)) = true then 46 else 41) (L' := [some (.ref 2), some (vI v1), some (vI v2), some (vI v3), some (vI v4), some (vI (A.1 12 (v4).toNat))]) (S' := []) rfl ?_
                  by_cases hc44 : (A.1 12 (v4).toNat) ≤ v3
                  · have h := if_T h hc44
                    refine rz_B.ifF (mt (lt32 hv3 (hw 12 (v4).toNat).1).mp (Int.not_lt.mpr hc44)) ?_
                    refine rz_B.go 2 (pc' := 44) (L' := [some (.ref 2), some (vI v1), some (vI v2), some (vI v3), some (vI v4), some (vI (A.1 12 (v4).toNat))]) (S' := [vI 1, vI (A.1 12 (v4).toNat)]) rfl ?_
                    obtain ⟨hk45, h⟩ := rz_g32_inv h
                    refine rz_B.isub rfl ?_
                    refine rz_B.go 1 (pc' := 46) (L' := [some (.ref 2), some (vI v1), some (vI v2), some (vI ((A.1 12 (v4).toNat) - 1)), some (vI v4), some (vI (A.1 12 (v4).toNat))]) (S' := []) rfl ?_
                    obtain ⟨hk46, h⟩ := rz_g32_inv h
                    refine rz_B.iinc rfl (by decide) rfl (L' := [some (.ref 2), some (vI v1), some (vI v2), some (vI ((A.1 12 (v4).toNat) - 1)), some (vI (v4 + 1)), some (vI (A.1 12 (v4).toNat))]) rfl ?_
                    refine rz_B.go 1 (pc' := 7) (L' := [some (.ref 2), some (vI v1), some (vI v2), some (vI ((A.1 12 (v4).toNat) - 1)), some (vI (v4 + 1)), some (vI (A.1 12 (v4).toNat))]) (S' := []) rfl ?_
                    refine rz_B.more (rg_le_ok (L := [some (.ref 2), some (vI v1), some (vI v2), some (vI ((A.1 12 (v4).toNat) - 1)), some (vI (v4 + 1)), none]) (by simp [rg_le])) ?_
                    exact ih _ _ _ _ _ _ _ h hv1 hv2 hk45 hk46 hw
                  · have h := if_F h hc44
                    refine rz_B.ifT ((lt32 hv3 (hw 12 (v4).toNat).1).mpr (Int.not_le.mp hc44)) ?_
                    obtain ⟨hk47, h⟩ := rz_g32_inv h
                    refine rz_B.iinc rfl (by decide) rfl (L' := [some (.ref 2), some (vI v1), some (vI v2), some (vI v3), some (vI (v4 + 1)), some (vI (A.1 12 (v4).toNat))]) rfl ?_
                    refine rz_B.go 1 (pc' := 7) (L' := [some (.ref 2), some (vI v1), some (vI v2), some (vI v3), some (vI (v4 + 1)), some (vI (A.1 12 (v4).toNat))]) (S' := []) rfl ?_
                    refine rz_B.more (rg_le_ok (L := [some (.ref 2), some (vI v1), some (vI v2), some (vI v3), some (vI (v4 + 1)), none]) (by simp [rg_le])) ?_
                    exact ih _ _ _ _ _ _ _ h hv1 hv2 hv3 hk47 hw
                · have h := if_F h hc43
                  refine rz_B.ifT ((le32 (hw 12 (v4).toNat).1 hv2).mpr (Int.not_lt.mp hc43)) ?_
                  obtain ⟨hk48, h⟩ := rz_g32_inv h
                  refine rz_B.iinc rfl (by decide) rfl (L' := [some (.ref 2), some (vI v1), some (vI v2), some (vI v3), some (vI (v4 + 1)), some (vI (A.1 12 (v4).toNat))]) rfl ?_
                  refine rz_B.go 1 (pc' := 7) (L' := [some (.ref 2), some (vI v1), some (vI v2), some (vI v3), some (vI (v4 + 1)), some (vI (A.1 12 (v4).toNat))]) (S' := []) rfl ?_
                  refine rz_B.more (rg_le_ok (L := [some (.ref 2), some (vI v1), some (vI v2), some (vI v3), some (vI (v4 + 1)), none]) (by simp [rg_le])) ?_
                  exact ih _ _ _ _ _ _ _ h hv1 hv2 hv3 hk48 hw
              · have h := if_F h hj40
                refine rz_B.aald rfl (Or.inr rfl) rfl hi1 hj2 (by decide) (c' := 13) (by omega) ?_
                refine rz_B.go 1 (pc' := 26) (L' := [some (.ref 2), some (vI v1), some (vI v2), some (vI v3), some (vI v4), none]) (S' := [vI v4, .ref 13]) rfl ?_
                obtain ⟨hi50, hj51, h⟩ := rz_gx_inv h
                refine rz_B.iald rfl rfl hi50 hj51 (by decide) ?_
                refine rz_B.go 4 (pc' := if decide (Int32.ofInt (A.1 13 (v4).toNat) ≤ Int32.ofInt v2) = true then 46 else 35) (L' := [some (.ref 2), some (vI v1), some (vI v2), some (vI v3), some (vI v4), some (vI (A.1 13 (v4).toNat))]) (S' := []) rfl ?_
                by_cases hc52 : v2 < (A.1 13 (v4).toNat)
                · have h := if_T h hc52
                  refine rz_B.ifF (mt (le32 (hw 13 (v4).toNat).1 hv2).mp (Int.not_le.mpr hc52)) ?_
                  refine rz_B.go 3 (pc' := if decide (Int32.ofInt v3 < Int32.ofInt (A.1 13 (v4).toNat)) = true then 46 else 41) (L' := [some (.ref 2), some (vI v1), some (vI v2), some (vI v3), some (vI v4), some (vI (A.1 13 (v4).toNat))]) (S' := []) rfl ?_
                  by_cases hc53 : (A.1 13 (v4).toNat) ≤ v3
                  · have h := if_T h hc53
                    refine rz_B.ifF (mt (lt32 hv3 (hw 13 (v4).toNat).1).mp (Int.not_lt.mpr hc53)) ?_
                    refine rz_B.go 2 (pc' := 44) (L' := [some (.ref 2), some (vI v1), some (vI v2), some (vI v3), some (vI v4), some (vI (A.1 13 (v4).toNat))]) (S' := [vI 1, vI (A.1 13 (v4).toNat)]) rfl ?_
                    obtain ⟨hk54, h⟩ := rz_g32_inv h
                    refine rz_B.isub rfl ?_
                    refine rz_B.go 1 (pc' := 46) (L' := [some (.ref 2), some (vI v1), some (vI v2), some (vI ((A.1 13 (v4).toNat) - 1)), some (vI v4), some (vI (A.1 13 (v4).toNat))]) (S' := []) rfl ?_
                    obtain ⟨hk55, h⟩ := rz_g32_inv h
                    refine rz_B.iinc rfl (by decide) rfl (L' := [some (.ref 2), some (vI v1), some (vI v2), some (vI ((A.1 13 (v4).toNat) - 1)), some (vI (v4 + 1)), some (vI (A.1 13 (v4).toNat))]) rfl ?_
                    refine rz_B.go 1 (pc' := 7) (L' := [some (.ref 2), some (vI v1), some (vI v2), some (vI ((A.1 13 (v4).toNat) - 1)), some (vI (v4 + 1)), some (vI (A.1 13 (v4).toNat))]) (S' := []) rfl ?_
                    refine rz_B.more (rg_le_ok (L := [some (.ref 2), some (vI v1), some (vI v2), some (vI ((A.1 13 (v4).toNat) - 1)), some (vI (v4 + 1)), none]) (by simp [rg_le])) ?_
                    exact ih _ _ _ _ _ _ _ h hv1 hv2 hk54 hk55 hw
                  · have h := if_F h hc53
                    refine rz_B.ifT ((lt32 hv3 (hw 13 (v4).toNat).1).mpr (Int.not_le.mp hc53)) ?_
                    obtain ⟨hk56, h⟩ := rz_g32_inv h
                    refine rz_B.iinc rfl (by decide) rfl (L' := [some (.ref 2), some (vI v1), some (vI v2), some (vI v3), some (vI (v4 + 1)), some (vI (A.1 13 (v4).toNat))]) rfl ?_
                    refine rz_B.go 1 (pc' := 7) (L' := [some (.ref 2), some (vI v1), some (vI v2), some (vI v3), some (vI (v4 + 1)), some (vI (A.1 13 (v4).toNat))]) (S' := []) rfl ?_
                    refine rz_B.more (rg_le_ok (L := [some (.ref 2), some (vI v1), some (vI v2), some (vI v3), some (vI (v4 + 1)), none]) (by simp [rg_le])) ?_
                    exact ih _ _ _ _ _ _ _ h hv1 hv2 hv3 hk56 hw
                · have h := if_F h hc52
                  refine rz_B.ifT ((le32 (hw 13 (v4).toNat).1 hv2).mpr (Int.not_lt.mp hc52)) ?_
                  obtain ⟨hk57, h⟩ := rz_g32_inv h
                  refine rz_B.iinc rfl (by decide) rfl (L' := [some (.ref 2), some (vI v1), some (vI v2), some (vI v3), some (vI (v4 + 1)), some (vI (A.1 13 (v4).toNat))]) rfl ?_
                  refine rz_B.go 1 (pc' := 7) (L' := [some (.ref 2), some (vI v1), some (vI v2), some (vI v3), some (vI (v4 + 1)), some (vI (A.1 13 (v4).toNat))]) (S' := []) rfl ?_
                  refine rz_B.more (rg_le_ok (L := [some (.ref 2), some (vI v1), some (vI v2), some (vI v3), some (vI (v4 + 1)), none]) (by simp [rg_le])) ?_
                  exact ih _ _ _ _ _ _ _ h hv1 hv2 hv3 hk57 hw
    · have h := if_F h hc3
      refine rz_B.ifT ((le32 (hw 6 (v1).toNat).1 hv4).mpr (Int.not_lt.mp hc3)) ?_
      refine rz_B.go 1 (pc' := 53) (L' := [some (.ref 2), some (vI v1), some (vI v2), some (vI v3), some (vI v4), none]) (S' := [vI v3]) rfl ?_
      cases h
      exact rz_B.ret rfl hv3 hw
/-- RiverGauge$Posts.stretchEnd(II)I -/
def x71_stretchEnd (F : Nat) (a0 : Int) (a1 : Int) (A : rz_A) : Option (Int × rz_A) :=
  x71_stretchEnd_7 F F a0 a1 9999 0 A
theorem cx71_stretchEnd (F : Nat) {d : Nat} {a0 : Int} {a1 : Int} {A : rz_A} {r : Int} {A' : rz_A} (h : x71_stretchEnd F a0 a1 A = some (r, A')) (ha0 : r32 a0) (ha1 : r32 a1) (hw : wf A) : rg_Rn (d + 0) 71 [.ref 2, vI a0, vI a1] (toM A) (some (vI r)) (toM A') ∧ (r32 r) ∧ wf A' := by
  show rz_B (d + 0) 71 0 [some (.ref 2), some (vI a0), some (vI a1), none, none, none] [] A (some (vI r)) A' (r32 r)
  unfold x71_stretchEnd at h
  refine rz_B.go 4 (pc' := 7) (L' := [some (.ref 2), some (vI a0), some (vI a1), some (vI 9999), some (vI 0), none]) (S' := []) rfl ?_
  refine rz_B.more (rg_le_ok (L := [some (.ref 2), some (vI a0), some (vI a1), some (vI 9999), some (vI 0), none]) (by simp [rg_le])) ?_
  exact cx71_stretchEnd_7 F F _ _ _ _ _ _ _ h ha0 ha1 (by decide) (by decide) hw
/-- RiverGauge$Rating.isAbove(II)Z -/
def x75_isAbove (F : Nat) (a0 : Int) (a1 : Int) (A : rz_A) : Option (Int × rz_A) :=
  rz_gx a0 60 <|
  rz_gx a1 60 <|
  rz_g64 ((A.1 60 (a0).toNat) * (A.1 61 (a1).toNat)) <|
  rz_g64 ((A.1 60 (a1).toNat) * (A.1 61 (a0).toNat)) <|
  if ((A.1 60 (a1).toNat) * (A.1 61 (a0).toNat)) < ((A.1 60 (a0).toNat) * (A.1 61 (a1).toNat)) then
    some (1, A)
  else
    some (0, A)
theorem cx75_isAbove (F : Nat) {d : Nat} {a0 : Int} {a1 : Int} {A : rz_A} {r : Int} {A' : rz_A} (h : x75_isAbove F a0 a1 A = some (r, A')) (ha0 : r32 a0) (ha1 : r32 a1) (hw : wf A) : rg_Rn (d + 0) 75 [.ref 56, vI a0, vI a1] (toM A) (some (vI r)) (toM A') ∧ (r32 r) ∧ wf A' := by
  show rz_B (d + 0) 75 0 [some (.ref 56), some (vI a0), some (vI a1)] [] A (some (vI r)) A' (r32 r)
  unfold x75_isAbove at h
  refine rz_B.go 3 (pc' := 5) (L' := [some (.ref 56), some (vI a0), some (vI a1)]) (S' := [vI a0, .ref 60]) rfl ?_
  obtain ⟨hi1, hj2, h⟩ := rz_gx_inv h
  refine rz_B.iald rfl rfl hi1 hj2 (by decide) ?_
  refine rz_B.i2l rfl (hw 60 (a0).toNat).1 ?_
  refine rz_B.go 3 (pc' := 12) (L' := [some (.ref 56), some (vI a0), some (vI a1)]) (S' := [vI a1, .ref 61, vL (A.1 60 (a0).toNat)]) rfl ?_
  obtain ⟨hi3, hj4, h⟩ := rz_gx_inv h
  refine rz_B.iald rfl rfl hi3 hj4 (by decide) ?_
  refine rz_B.i2l rfl (hw 61 (a1).toNat).1 ?_
  obtain ⟨hk5, h⟩ := rz_g64_inv h
  refine rz_B.lmul rfl ?_
  refine rz_B.go 3 (pc' := 20) (L' := [some (.ref 56), some (vI a0), some (vI a1)]) (S' := [vI a1, .ref 60, vL ((A.1 60 (a0).toNat) * (A.1 61 (a1).toNat))]) rfl ?_
  refine rz_B.iald rfl rfl hi3 hj4 (by decide) ?_
  refine rz_B.i2l rfl (hw 60 (a1).toNat).1 ?_
  refine rz_B.go 3 (pc' := 27) (L' := [some (.ref 56), some (vI a0), some (vI a1)]) (S' := [vI a0, .ref 61, vL (A.1 60 (a1).toNat), vL ((A.1 60 (a0).toNat) * (A.1 61 (a1).toNat))]) rfl ?_
  refine rz_B.iald rfl rfl hi1 hj2 (by decide) ?_
  refine rz_B.i2l rfl (hw 61 (a0).toNat).1 ?_
  obtain ⟨hk6, h⟩ := rz_g64_inv h
  refine rz_B.lmul rfl ?_
  refine rz_B.go 2 (pc' := if decide (lg_cmp (Int64.ofInt ((A.1 60 (a0).toNat) * (A.1 61 (a1).toNat))) (Int64.ofInt ((A.1 60 (a1).toNat) * (A.1 61 (a0).toNat))) ≤ 0) = true then 38 else 34) (L' := [some (.ref 56), some (vI a0), some (vI a1)]) (S' := []) rfl ?_
  by_cases hc7 : ((A.1 60 (a1).toNat) * (A.1 61 (a0).toNat)) < ((A.1 60 (a0).toNat) * (A.1 61 (a1).toNat))
  · have h := if_T h hc7
    refine rz_B.ifF (mt (cmp_le hk5 hk6).mp (Int.not_le.mpr hc7)) ?_
    refine rz_B.go 2 (pc' := 39) (L' := [some (.ref 56), some (vI a0), some (vI a1)]) (S' := [vI 1]) rfl ?_
    cases h
    exact rz_B.ret rfl (by decide) hw
  · have h := if_F h hc7
    refine rz_B.ifT ((cmp_le hk5 hk6).mpr (Int.not_lt.mp hc7)) ?_
    refine rz_B.go 1 (pc' := 39) (L' := [some (.ref 56), some (vI a0), some (vI a1)]) (S' := [vI 0]) rfl ?_
    cases h
    exact rz_B.ret rfl (by decide) hw
def x74_joinBlocks_49 (F : Nat) (k4 : (Int → Int → rz_A → Option (Int × rz_A))) : Nat → Int → Int → rz_A → Option (Int × rz_A)
  | 0, _, _, _ => none
  | n + 1, v1, v2, A =>
    if 1 < v1 then
      rz_g32 (v1 - 1) <|
      rz_g32 (v1 - 2) <|
      rz_b (x75_isAbove F (v1 - 1) (v1 - 2) A) fun r4 A4 =>
      if r4 = 0 then
        rz_gx (v1 - 2) 60 <|
        rz_gx (v1 - 1) 60 <|
        rz_g32 ((A4.1 60 ((v1 - 2)).toNat) + (A4.1 60 ((v1 - 1)).toNat)) <|
        rz_g32 ((A4.1 61 ((v1 - 2)).toNat) + (A4.1 61 ((v1 - 1)).toNat)) <|
        rz_g32 ((A4.1 62 ((v1 - 2)).toNat) + (A4.1 62 ((v1 - 1)).toNat)) <|
        rz_g32 (v1 + (-1)) <|
        x74_joinBlocks_49 F k4 n (v1 + (-1)) v2 (aI (aI (aI A4 60 ((v1 - 2)).toNat ((A4.1 60 ((v1 - 2)).toNat) + (A4.1 60 ((v1 - 1)).toNat))) 61 ((v1 - 2)).toNat ((A4.1 61 ((v1 - 2)).toNat) + (A4.1 61 ((v1 - 1)).toNat))) 62 ((v1 - 2)).toNat ((A4.1 62 ((v1 - 2)).toNat) + (A4.1 62 ((v1 - 1)).toNat)))
      else
        rz_g32 (v2 + 1) <|
        k4 v1 (v2 + 1) A4
    else
      rz_g32 (v2 + 1) <|
      k4 v1 (v2 + 1) A
theorem cx74_joinBlocks_49 {d : Nat} (F : Nat) {k4 : (Int → Int → rz_A → Option (Int × rz_A))} (hkk4 : ∀ (v1 : Int) (v2 : Int) (A : rz_A) (r : Int) (A' : rz_A), k4 v1 v2 A = some (r, A') → r32 v1 → r32 v2 → wf A → rz_B (d + 1) 74 4 [some (.ref 56), some (vI v1), some (vI v2)] [] A (some (vI r)) A' (r32 r)) : ∀ (n : Nat) (v1 : Int) (v2 : Int) (A : rz_A) (r : Int) (A' : rz_A), x74_joinBlocks_49 F k4 n v1 v2 A = some (r, A') → r32 v1 → r32 v2 → wf A → rz_B (d + 1) 74 49 [some (.ref 56), some (vI v1), some (vI v2)] [] A (some (vI r)) A' (r32 r) := by
  intro n
  induction n with
  | zero => intro v1 v2 A r A' h; cases h
  | succ n ih =>
    intro v1 v2 A r A' h hv1 hv2 hw
    rw [x74_joinBlocks_49] at h
    refine rz_B.go 3 (pc' := if decide (Int32.ofInt v1 ≤ Int32.ofInt 1) = true then 130 else 54) (L' := [some (.ref 56), some (vI v1), some (vI v2)]) (S' := []) rfl ?_
    by_cases hc1 : 1 < v1
    · have h := if_T h hc1
      refine rz_B.ifF (mt (le32 hv1 (by decide)).mp (Int.not_le.mpr hc1)) ?_
      refine rz_B.go 3 (pc' := 57) (L' := [some (.ref 56), some (vI v1), some (vI v2)]) (S' := [vI 1, vI v1, .ref 56]) rfl ?_
      obtain ⟨hk2, h⟩ := rz_g32_inv h
      refine rz_B.isub rfl ?_
      refine rz_B.go 2 (pc' := 60) (L' := [some (.ref 56), some (vI v1), some (vI v2)]) (S' := [vI 2, vI v1, vI (v1 - 1), .ref 56]) rfl ?_
      obtain ⟨hk3, h⟩ := rz_g32_inv h
      refine rz_B.isub rfl ?_
      obtain ⟨r4, A4, hf4, h⟩ := rz_b_inv h
      obtain ⟨hg4, hr4, hw4⟩ := cx75_isAbove F (d := d + 0) hf4 hk2 hk3 hw
      refine rz_B.call (d := d + 0) (as := [.ref 56, vI (v1 - 1), vI (v1 - 2)]) (rest := []) (w := some (vI r4)) rfl hg4 ?_
      refine rz_B.go 1 (pc' := if decide (¬ Int32.ofInt r4 = Int32.ofInt 0) = true then 130 else 67) (L' := [some (.ref 56), some (vI v1), some (vI v2)]) (S' := []) rfl ?_
      by_cases hc5 : r4 = 0
      · have h := if_T h hc5
        refine rz_B.ifF (fun hn => hn ((eq32 hr4 (by decide)).mpr hc5)) ?_
        refine rz_B.go 4 (pc' := 73) (L' := [some (.ref 56), some (vI v1), some (vI v2)]) (S' := [vI 2, vI v1, .ref 60]) rfl ?_
        refine rz_B.isub rfl ?_
        refine rz_B.go 1 (pc' := 75) (L' := [some (.ref 56), some (vI v1), some (vI v2)]) (S' := [vI (v1 - 2), .ref 60, vI (v1 - 2), .ref 60]) rfl ?_
        obtain ⟨hi6, hj7, h⟩ := rz_gx_inv h
        refine rz_B.iald rfl rfl hi6 hj7 (by decide) ?_
        refine rz_B.go 4 (pc' := 82) (L' := [some (.ref 56), some (vI v1), some (vI v2)]) (S' := [vI 1, vI v1, .ref 60, vI (A4.1 60 ((v1 - 2)).toNat), vI (v1 - 2), .ref 60]) rfl ?_
        refine rz_B.isub rfl ?_
        obtain ⟨hi8, hj9, h⟩ := rz_gx_inv h
        refine rz_B.iald rfl rfl hi8 hj9 (by decide) ?_
        obtain ⟨hk10, h⟩ := rz_g32_inv h
        refine rz_B.iadd rfl ?_
        refine rz_B.iast rfl rfl hi6 hj7 (by decide) ?_
        have hw11 : wf (aI A4 60 ((v1 - 2)).toNat ((A4.1 60 ((v1 - 2)).toNat) + (A4.1 60 ((v1 - 1)).toNat))) := wf_aI hw4 hk10
        refine rz_B.go 4 (pc' := 92) (L' := [some (.ref 56), some (vI v1), some (vI v2)]) (S' := [vI 2, vI v1, .ref 61]) rfl ?_
        refine rz_B.isub rfl ?_
        refine rz_B.go 1 (pc' := 94) (L' := [some (.ref 56), some (vI v1), some (vI v2)]) (S' := [vI (v1 - 2), .ref 61, vI (v1 - 2), .ref 61]) rfl ?_
        refine rz_B.iald rfl rfl hi6 hj7 (by decide) ?_
        refine rz_B.go 4 (pc' := 101) (L' := [some (.ref 56), some (vI v1), some (vI v2)]) (S' := [vI 1, vI v1, .ref 61, vI (A4.1 61 ((v1 - 2)).toNat), vI (v1 - 2), .ref 61]) rfl ?_
        refine rz_B.isub rfl ?_
        refine rz_B.iald rfl rfl hi8 hj9 (by decide) ?_
        obtain ⟨hk12, h⟩ := rz_g32_inv h
        refine rz_B.iadd rfl ?_
        refine rz_B.iast rfl rfl hi6 hj7 (by decide) ?_
        have hw13 : wf (aI (aI A4 60 ((v1 - 2)).toNat ((A4.1 60 ((v1 - 2)).toNat) + (A4.1 60 ((v1 - 1)).toNat))) 61 ((v1 - 2)).toNat ((A4.1 61 ((v1 - 2)).toNat) + (A4.1 61 ((v1 - 1)).toNat))) := wf_aI hw11 hk12
        refine rz_B.go 4 (pc' := 111) (L' := [some (.ref 56), some (vI v1), some (vI v2)]) (S' := [vI 2, vI v1, .ref 62]) rfl ?_
        refine rz_B.isub rfl ?_
        refine rz_B.go 1 (pc' := 113) (L' := [some (.ref 56), some (vI v1), some (vI v2)]) (S' := [vI (v1 - 2), .ref 62, vI (v1 - 2), .ref 62]) rfl ?_
        refine rz_B.iald rfl rfl hi6 hj7 (by decide) ?_
        refine rz_B.go 4 (pc' := 120) (L' := [some (.ref 56), some (vI v1), some (vI v2)]) (S' := [vI 1, vI v1, .ref 62, vI (A4.1 62 ((v1 - 2)).toNat), vI (v1 - 2), .ref 62]) rfl ?_
        refine rz_B.isub rfl ?_
        refine rz_B.iald rfl rfl hi8 hj9 (by decide) ?_
        obtain ⟨hk14, h⟩ := rz_g32_inv h
        refine rz_B.iadd rfl ?_
        refine rz_B.iast rfl rfl hi6 hj7 (by decide) ?_
        have hw15 : wf (aI (aI (aI A4 60 ((v1 - 2)).toNat ((A4.1 60 ((v1 - 2)).toNat) + (A4.1 60 ((v1 - 1)).toNat))) 61 ((v1 - 2)).toNat ((A4.1 61 ((v1 - 2)).toNat) + (A4.1 61 ((v1 - 1)).toNat))) 62 ((v1 - 2)).toNat ((A4.1 62 ((v1 - 2)).toNat) + (A4.1 62 ((v1 - 1)).toNat))) := wf_aI hw13 hk14
        obtain ⟨hk16, h⟩ := rz_g32_inv h
        refine rz_B.iinc rfl (by decide) rfl (L' := [some (.ref 56), some (vI (v1 + (-1))), some (vI v2)]) rfl ?_
        refine rz_B.go 1 (pc' := 49) (L' := [some (.ref 56), some (vI (v1 + (-1))), some (vI v2)]) (S' := []) rfl ?_
        refine rz_B.more (rg_le_ok (L := [some (.ref 56), some (vI (v1 + (-1))), some (vI v2)]) (by simp [rg_le])) ?_
        exact ih _ _ _ _ _ h hk16 hv2 hw15
      · have h := if_F h hc5
        refine rz_B.ifT (mt (eq32 hr4 (by decide)).mp hc5) ?_
        obtain ⟨hk17, h⟩ := rz_g32_inv h
        refine rz_B.iinc rfl (by decide) rfl (L' := [some (.ref 56), some (vI v1), some (vI (v2 + 1))]) rfl ?_
        refine rz_B.go 1 (pc' := 4) (L' := [some (.ref 56), some (vI v1), some (vI (v2 + 1))]) (S' := []) rfl ?_
        refine rz_B.more (rg_le_ok (L := [some (.ref 56), some (vI v1), some (vI (v2 + 1))]) (by simp [rg_le])) ?_
        exact hkk4 _ _ _ _ _ h hv1 hk17 hw4
    · have h := if_F h hc1
      refine rz_B.ifT ((le32 hv1 (by decide)).mpr (Int.not_lt.mp hc1)) ?_
      obtain ⟨hk18, h⟩ := rz_g32_inv h
      refine rz_B.iinc rfl (by decide) rfl (L' := [some (.ref 56), some (vI v1), some (vI (v2 + 1))]) rfl ?_
      refine rz_B.go 1 (pc' := 4) (L' := [some (.ref 56), some (vI v1), some (vI (v2 + 1))]) (S' := []) rfl ?_
      refine rz_B.more (rg_le_ok (L := [some (.ref 56), some (vI v1), some (vI (v2 + 1))]) (by simp [rg_le])) ?_
      exact hkk4 _ _ _ _ _ h hv1 hk18 hw
def x74_joinBlocks_4 (F : Nat) : Nat → Int → Int → rz_A → Option (Int × rz_A)
  | 0, _, _, _ => none
  | n + 1, v1, v2, A =>
    if v2 < (A.1 57 0) then
      rz_gx v2 60 <|
      rz_gx v1 60 <|
      rz_g32 (v1 + 1) <|
      x74_joinBlocks_49 F (x74_joinBlocks_4 F n) F (v1 + 1) v2 (aI (aI (aI A 60 (v1).toNat (A.1 60 (v2).toNat)) 61 (v1).toNat (A.1 61 (v2).toNat)) 62 (v1).toNat 1)
    else
      some (v1, A)
theorem cx74_joinBlocks_4 {d : Nat} (F : Nat) : ∀ (n : Nat) (v1 : Int) (v2 : Int) (A : rz_A) (r : Int) (A' : rz_A), x74_joinBlocks_4 F n v1 v2 A = some (r, A') → r32 v1 → r32 v2 → wf A → rz_B (d + 1) 74 4 [some (.ref 56), some (vI v1), some (vI v2)] [] A (some (vI r)) A' (r32 r) := by
  intro n
  induction n with
  | zero => intro v1 v2 A r A' h; cases h
  | succ n ih =>
    intro v1 v2 A r A' h hv1 hv2 hw
    rw [x74_joinBlocks_4] at h
    refine rz_B.go 5 (pc' := if decide (Int32.ofInt (A.1 57 0) ≤ Int32.ofInt v2) = true then 136 else 15) (L' := [some (.ref 56), some (vI v1), some (vI v2)]) (S' := []) rfl ?_
    by_cases hc1 : v2 < (A.1 57 0)
    · have h := if_T h hc1
      refine rz_B.ifF (mt (le32 (hw 57 0).1 hv2).mp (Int.not_le.mpr hc1)) ?_
      refine rz_B.go 6 (pc' := 25) (L' := [some (.ref 56), some (vI v1), some (vI v2)]) (S' := [vI v2, .ref 60, vI v1, .ref 60]) rfl ?_
      obtain ⟨hi2, hj3, h⟩ := rz_gx_inv h
      refine rz_B.iald rfl rfl hi2 hj3 (by decide) ?_
      obtain ⟨hi4, hj5, h⟩ := rz_gx_inv h
      refine rz_B.iast rfl rfl hi4 hj5 (by decide) ?_
      have hw6 : wf (aI A 60 (v1).toNat (A.1 60 (v2).toNat)) := wf_aI hw (hw 60 (v2).toNat).1
      refine rz_B.go 6 (pc' := 37) (L' := [some (.ref 56), some (vI v1), some (vI v2)]) (S' := [vI v2, .ref 61, vI v1, .ref 61]) rfl ?_
      refine rz_B.iald rfl rfl hi2 hj3 (by decide) ?_
      refine rz_B.iast rfl rfl hi4 hj5 (by decide) ?_
      have hw7 : wf (aI (aI A 60 (v1).toNat (A.1 60 (v2).toNat)) 61 (v1).toNat (A.1 61 (v2).toNat)) := wf_aI hw6 (hw 61 (v2).toNat).1
      refine rz_B.go 4 (pc' := 45) (L' := [some (.ref 56), some (vI v1), some (vI v2)]) (S' := [vI 1, vI v1, .ref 62]) rfl ?_
      refine rz_B.iast rfl rfl hi4 hj5 (by decide) ?_
      have hw8 : wf (aI (aI (aI A 60 (v1).toNat (A.1 60 (v2).toNat)) 61 (v1).toNat (A.1 61 (v2).toNat)) 62 (v1).toNat 1) := wf_aI hw7 (by decide)
      obtain ⟨hk9, h⟩ := rz_g32_inv h
      refine rz_B.iinc rfl (by decide) rfl (L' := [some (.ref 56), some (vI (v1 + 1)), some (vI v2)]) rfl ?_
      refine rz_B.more (rg_le_ok (L := [some (.ref 56), some (vI (v1 + 1)), some (vI v2)]) (by simp [rg_le])) ?_
      exact cx74_joinBlocks_49 F ih F _ _ _ _ _ h hk9 hv2 hw8
    · have h := if_F h hc1
      refine rz_B.ifT ((le32 (hw 57 0).1 hv2).mpr (Int.not_lt.mp hc1)) ?_
      refine rz_B.go 1 (pc' := 137) (L' := [some (.ref 56), some (vI v1), some (vI v2)]) (S' := [vI v1]) rfl ?_
      cases h
      exact rz_B.ret rfl hv1 hw
/-- RiverGauge$Rating.joinBlocks()I -/
def x74_joinBlocks (F : Nat) (A : rz_A) : Option (Int × rz_A) :=
  x74_joinBlocks_4 F F 0 0 A
theorem cx74_joinBlocks (F : Nat) {d : Nat} {A : rz_A} {r : Int} {A' : rz_A} (h : x74_joinBlocks F A = some (r, A')) (hw : wf A) : rg_Rn (d + 1) 74 [.ref 56] (toM A) (some (vI r)) (toM A') ∧ (r32 r) ∧ wf A' := by
  show rz_B (d + 1) 74 0 [some (.ref 56), none, none] [] A (some (vI r)) A' (r32 r)
  unfold x74_joinBlocks at h
  refine rz_B.go 4 (pc' := 4) (L' := [some (.ref 56), some (vI 0), some (vI 0)]) (S' := []) rfl ?_
  refine rz_B.more (rg_le_ok (L := [some (.ref 56), some (vI 0), some (vI 0)]) (by simp [rg_le])) ?_
  exact cx74_joinBlocks_4 F F _ _ _ _ _ h (by decide) (by decide) hw
/-- RiverGauge.share(JJJ)J -/
def x77_share (F : Nat) (a0 : Int) (a1 : Int) (a2 : Int) (A : rz_A) : Option (Int × rz_A) :=
  if a2 = 0 then
    some (0, A)
  else
    rz_g64 (a0 * a1) <|
    rz_gn a2 <|
    rz_g64 ((a0 * a1).tdiv a2) <|
    some (((a0 * a1).tdiv a2), A)
theorem cx77_share (F : Nat) {d : Nat} {a0 : Int} {a1 : Int} {a2 : Int} {A : rz_A} {r : Int} {A' : rz_A} (h : x77_share F a0 a1 a2 A = some (r, A')) (ha0 : r64 a0) (ha1 : r64 a1) (ha2 : r64 a2) (hw : wf A) : rg_Rn (d + 0) 77 [vL a0, vL a1, vL a2] (toM A) (some (vL r)) (toM A') ∧ (r64 r) ∧ wf A' := by
  show rz_B (d + 0) 77 0 [some (vL a0), none, some (vL a1), none, some (vL a2), none] [] A (some (vL r)) A' (r64 r)
  unfold x77_share at h
  refine rz_B.go 4 (pc' := if decide (¬ lg_cmp (Int64.ofInt a2) (Int64.ofInt 0) = 0) = true then 11 else 7) (L' := [some (vL a0), none, some (vL a1), none, some (vL a2), none]) (S' := []) rfl ?_
  by_cases hc1 : a2 = 0
  · have h := if_T h hc1
    refine rz_B.ifF (fun hn => hn ((cmp_eq ha2 (by decide)).mpr hc1)) ?_
    refine rz_B.go 2 (pc' := 17) (L' := [some (vL a0), none, some (vL a1), none, some (vL a2), none]) (S' := [vL 0]) rfl ?_
    cases h
    exact rz_B.ret rfl (by decide) hw
  · have h := if_F h hc1
    refine rz_B.ifT (mt (cmp_eq ha2 (by decide)).mp hc1) ?_
    refine rz_B.go 2 (pc' := 13) (L' := [some (vL a0), none, some (vL a1), none, some (vL a2), none]) (S' := [vL a1, vL a0]) rfl ?_
    obtain ⟨hk2, h⟩ := rz_g64_inv h
    refine rz_B.lmul rfl ?_
    refine rz_B.go 1 (pc' := 16) (L' := [some (vL a0), none, some (vL a1), none, some (vL a2), none]) (S' := [vL a2, vL (a0 * a1)]) rfl ?_
    obtain ⟨hz3, h⟩ := rz_gn_inv h
    obtain ⟨hk4, h⟩ := rz_g64_inv h
    refine rz_B.ldiv rfl hk2 ha2 hz3 ?_
    cases h
    exact rz_B.ret rfl hk4 hw
def x76_setFlows_33 (F : Nat) (k4 : (Int → Int → Int → rz_A → Option (Unit × rz_A))) : Nat → Int → Int → Int → Int → Int → rz_A → Option (Unit × rz_A)
  | 0, _, _, _, _, _, _ => none
  | n + 1, v1, v2, v3, v4, v5, A =>
    rz_gx v3 60 <|
    if v5 < (A.1 62 (v3).toNat) then
      rz_gx v2 60 <|
      rz_g32 (v2 + 1) <|
      rz_g32 (v5 + 1) <|
      x76_setFlows_33 F k4 n v1 (v2 + 1) v3 v4 (v5 + 1) (aI A 59 (v2).toNat v4)
    else
      rz_g32 (v3 + 1) <|
      k4 v1 v2 (v3 + 1) A
theorem cx76_setFlows_33 {d : Nat} (F : Nat) {k4 : (Int → Int → Int → rz_A → Option (Unit × rz_A))} (hkk4 : ∀ (v1 : Int) (v2 : Int) (v3 : Int) (A : rz_A) (r : Unit) (A' : rz_A), k4 v1 v2 v3 A = some (r, A') → r32 v1 → r32 v2 → r32 v3 → wf A → rz_B (d + 1) 76 4 [some (.ref 56), some (vI v1), some (vI v2), some (vI v3), none, none] [] A (none) A' (True)) : ∀ (n : Nat) (v1 : Int) (v2 : Int) (v3 : Int) (v4 : Int) (v5 : Int) (A : rz_A) (r : Unit) (A' : rz_A), x76_setFlows_33 F k4 n v1 v2 v3 v4 v5 A = some (r, A') → r32 v1 → r32 v2 → r32 v3 → r32 v4 → r32 v5 → wf A → rz_B (d + 1) 76 33 [some (.ref 56), some (vI v1), some (vI v2), some (vI v3), some (vI v4), some (vI v5)] [] A (none) A' (True) := by
  intro n
  induction n with
  | zero => intro v1 v2 v3 v4 v5 A r A' h; cases h
  | succ n ih =>
    intro v1 v2 v3 v4 v5 A r A' h hv1 hv2 hv3 hv4 hv5 hw
    rw [x76_setFlows_33] at h
    refine rz_B.go 4 (pc' := 40) (L' := [some (.ref 56), some (vI v1), some (vI v2), some (vI v3), some (vI v4), some (vI v5)]) (S' := [vI v3, .ref 62, vI v5]) rfl ?_
    obtain ⟨hi1, hj2, h⟩ := rz_gx_inv h
    refine rz_B.iald rfl rfl hi1 hj2 (by decide) ?_
    refine rz_B.go 1 (pc' := if decide (Int32.ofInt (A.1 62 (v3).toNat) ≤ Int32.ofInt v5) = true then 64 else 44) (L' := [some (.ref 56), some (vI v1), some (vI v2), some (vI v3), some (vI v4), some (vI v5)]) (S' := []) rfl ?_
    by_cases hc3 : v5 < (A.1 62 (v3).toNat)
    · have h := if_T h hc3
      refine rz_B.ifF (mt (le32 (hw 62 (v3).toNat).1 hv5).mp (Int.not_le.mpr hc3)) ?_
      refine rz_B.go 5 (pc' := 54) (L' := [some (.ref 56), some (vI v1), some (vI v2), some (vI v3), some (vI v4), some (vI v5)]) (S' := [vI v4, vI v2, .ref 59]) rfl ?_
      obtain ⟨hi4, hj5, h⟩ := rz_gx_inv h
      refine rz_B.iast rfl rfl hi4 hj5 (by decide) ?_
      have hw6 : wf (aI A 59 (v2).toNat v4) := wf_aI hw hv4
      obtain ⟨hk7, h⟩ := rz_g32_inv h
      refine rz_B.iinc rfl (by decide) rfl (L' := [some (.ref 56), some (vI v1), some (vI (v2 + 1)), some (vI v3), some (vI v4), some (vI v5)]) rfl ?_
      obtain ⟨hk8, h⟩ := rz_g32_inv h
      refine rz_B.iinc rfl (by decide) rfl (L' := [some (.ref 56), some (vI v1), some (vI (v2 + 1)), some (vI v3), some (vI v4), some (vI (v5 + 1))]) rfl ?_
      refine rz_B.go 1 (pc' := 33) (L' := [some (.ref 56), some (vI v1), some (vI (v2 + 1)), some (vI v3), some (vI v4), some (vI (v5 + 1))]) (S' := []) rfl ?_
      refine rz_B.more (rg_le_ok (L := [some (.ref 56), some (vI v1), some (vI (v2 + 1)), some (vI v3), some (vI v4), some (vI (v5 + 1))]) (by simp [rg_le])) ?_
      exact ih _ _ _ _ _ _ _ _ h hv1 hk7 hv3 hv4 hk8 hw6
    · have h := if_F h hc3
      refine rz_B.ifT ((le32 (hw 62 (v3).toNat).1 hv5).mpr (Int.not_lt.mp hc3)) ?_
      obtain ⟨hk9, h⟩ := rz_g32_inv h
      refine rz_B.iinc rfl (by decide) rfl (L' := [some (.ref 56), some (vI v1), some (vI v2), some (vI (v3 + 1)), some (vI v4), some (vI v5)]) rfl ?_
      refine rz_B.go 1 (pc' := 4) (L' := [some (.ref 56), some (vI v1), some (vI v2), some (vI (v3 + 1)), some (vI v4), some (vI v5)]) (S' := []) rfl ?_
      refine rz_B.more (rg_le_ok (L := [some (.ref 56), some (vI v1), some (vI v2), some (vI (v3 + 1)), none, none]) (by simp [rg_le])) ?_
      exact hkk4 _ _ _ _ _ _ h hv1 hv2 hk9 hw
def x76_setFlows_4 (F : Nat) : Nat → Int → Int → Int → rz_A → Option (Unit × rz_A)
  | 0, _, _, _, _ => none
  | n + 1, v1, v2, v3, A =>
    if v3 < v1 then
      rz_gx v3 60 <|
      rz_b (x77_share F (A.1 60 (v3).toNat) 1 (A.1 61 (v3).toNat) A) fun r4 A4 =>
      rz_g32 r4 <|
      x76_setFlows_33 F (x76_setFlows_4 F n) F v1 v2 v3 r4 0 A4
    else
      some ((), A)
theorem cx76_setFlows_4 {d : Nat} (F : Nat) : ∀ (n : Nat) (v1 : Int) (v2 : Int) (v3 : Int) (A : rz_A) (r : Unit) (A' : rz_A), x76_setFlows_4 F n v1 v2 v3 A = some (r, A') → r32 v1 → r32 v2 → r32 v3 → wf A → rz_B (d + 1) 76 4 [some (.ref 56), some (vI v1), some (vI v2), some (vI v3), none, none] [] A (none) A' (True) := by
  intro n
  induction n with
  | zero => intro v1 v2 v3 A r A' h; cases h
  | succ n ih =>
    intro v1 v2 v3 A r A' h hv1 hv2 hv3 hw
    rw [x76_setFlows_4] at h
    refine rz_B.go 3 (pc' := if decide (Int32.ofInt v1 ≤ Int32.ofInt v3) = true then 70 else 9) (L' := [some (.ref 56), some (vI v1), some (vI v2), some (vI v3), none, none]) (S' := []) rfl ?_
    by_cases hc1 : v3 < v1
    · have h := if_T h hc1
      refine rz_B.ifF (mt (le32 hv1 hv3).mp (Int.not_le.mpr hc1)) ?_
      refine rz_B.go 3 (pc' := 14) (L' := [some (.ref 56), some (vI v1), some (vI v2), some (vI v3), none, none]) (S' := [vI v3, .ref 60]) rfl ?_
      obtain ⟨hi2, hj3, h⟩ := rz_gx_inv h
      refine rz_B.iald rfl rfl hi2 hj3 (by decide) ?_
      refine rz_B.i2l rfl (hw 60 (v3).toNat).1 ?_
      refine rz_B.go 4 (pc' := 22) (L' := [some (.ref 56), some (vI v1), some (vI v2), some (vI v3), none, none]) (S' := [vI v3, .ref 61, vL 1, vL (A.1 60 (v3).toNat)]) rfl ?_
      refine rz_B.iald rfl rfl hi2 hj3 (by decide) ?_
      refine rz_B.i2l rfl (hw 61 (v3).toNat).1 ?_
      obtain ⟨r4, A4, hf4, h⟩ := rz_b_inv h
      obtain ⟨hg4, hr4, hw4⟩ := cx77_share F (d := d + 0) hf4 (r64_of (hw 60 (v3).toNat).1) (by decide) (r64_of (hw 61 (v3).toNat).1) hw
      refine rz_B.call (d := d + 0) (as := [vL (A.1 60 (v3).toNat), vL 1, vL (A.1 61 (v3).toNat)]) (rest := []) (w := some (vL r4)) rfl hg4 ?_
      obtain ⟨hk5, h⟩ := rz_g32_inv h
      refine rz_B.l2i rfl ?_
      refine rz_B.go 3 (pc' := 33) (L' := [some (.ref 56), some (vI v1), some (vI v2), some (vI v3), some (vI r4), some (vI 0)]) (S' := []) rfl ?_
      refine rz_B.more (rg_le_ok (L := [some (.ref 56), some (vI v1), some (vI v2), some (vI v3), some (vI r4), some (vI 0)]) (by simp [rg_le])) ?_
      exact cx76_setFlows_33 F ih F _ _ _ _ _ _ _ _ h hv1 hv2 hv3 hk5 (by decide) hw4
    · have h := if_F h hc1
      refine rz_B.ifT ((le32 hv1 hv3).mpr (Int.not_lt.mp hc1)) ?_
      cases h
      exact rz_B.ret rfl trivial hw
/-- RiverGauge$Rating.setFlows(I)V -/
def x76_setFlows (F : Nat) (a0 : Int) (A : rz_A) : Option (Unit × rz_A) :=
  x76_setFlows_4 F F a0 0 0 A
theorem cx76_setFlows (F : Nat) {d : Nat} {a0 : Int} {A : rz_A} {r : Unit} {A' : rz_A} (h : x76_setFlows F a0 A = some (r, A')) (ha0 : r32 a0) (hw : wf A) : rg_Rn (d + 1) 76 [.ref 56, vI a0] (toM A) (none) (toM A') ∧ (True) ∧ wf A' := by
  show rz_B (d + 1) 76 0 [some (.ref 56), some (vI a0), none, none, none, none] [] A (none) A' (True)
  unfold x76_setFlows at h
  refine rz_B.go 4 (pc' := 4) (L' := [some (.ref 56), some (vI a0), some (vI 0), some (vI 0), none, none]) (S' := []) rfl ?_
  refine rz_B.more (rg_le_ok (L := [some (.ref 56), some (vI a0), some (vI 0), some (vI 0), none, none]) (by simp [rg_le])) ?_
  exact cx76_setFlows_4 F F _ _ _ _ _ _ h ha0 (by decide) (by decide) hw
def x73_addPoint_152 (F : Nat) (v1 : Int) (v2 : Int) (v3 : Int) (A : rz_A) : Option (Unit × rz_A) :=
  rz_gx v3 60 <|
  rz_g32 ((A.1 57 0) + 1) <|
  some ((), (aI (aI (aI (aI A 58 (v3).toNat v1) 60 (v3).toNat v2) 61 (v3).toNat 1) 57 0 ((A.1 57 0) + 1)))
theorem cx73_addPoint_152 {d : Nat} (F : Nat) : ∀ (v1 : Int) (v2 : Int) (v3 : Int) (A : rz_A) (r : Unit) (A' : rz_A), x73_addPoint_152 F v1 v2 v3 A = some (r, A') → r32 v1 → r32 v2 → r32 v3 → wf A → rz_B (d + 0) 73 152 [some (.ref 56), some (vI v1), some (vI v2), some (vI v3), none] [] A (none) A' (True) := by
  intro v1 v2 v3 A r A' h hv1 hv2 hv3 hw
  unfold x73_addPoint_152 at h
  refine rz_B.go 5 (pc' := 161) (L' := [some (.ref 56), some (vI v1), some (vI v2), some (vI v3), none]) (S' := [vI v1, vI v3, .ref 58]) rfl ?_
  obtain ⟨hi1, hj2, h⟩ := rz_gx_inv h
  refine rz_B.iast rfl rfl hi1 hj2 (by decide) ?_
  have hw3 : wf (aI A 58 (v3).toNat v1) := wf_aI hw hv1
  refine rz_B.go 4 (pc' := 168) (L' := [some (.ref 56), some (vI v1), some (vI v2), some (vI v3), none]) (S' := [vI v2, vI v3, .ref 60]) rfl ?_
  refine rz_B.iast rfl rfl hi1 hj2 (by decide) ?_
  have hw4 : wf (aI (aI A 58 (v3).toNat v1) 60 (v3).toNat v2) := wf_aI hw3 hv2
  refine rz_B.go 4 (pc' := 175) (L' := [some (.ref 56), some (vI v1), some (vI v2), some (vI v3), none]) (S' := [vI 1, vI v3, .ref 61]) rfl ?_
  refine rz_B.iast rfl rfl hi1 hj2 (by decide) ?_
  have hw5 : wf (aI (aI (aI A 58 (v3).toNat v1) 60 (v3).toNat v2) 61 (v3).toNat 1) := wf_aI hw4 (by decide)
  refine rz_B.go 5 (pc' := 185) (L' := [some (.ref 56), some (vI v1), some (vI v2), some (vI v3), none]) (S' := [vI 1, vI (A.1 57 0), .ref 57]) rfl ?_
  obtain ⟨hk6, h⟩ := rz_g32_inv h
  refine rz_B.iadd rfl ?_
  refine rz_B.put 1 (pc' := 189) (L' := [some (.ref 56), some (vI v1), some (vI v2), some (vI v3), none]) (S' := []) (c := 57) (k := 0) (x := ((A.1 57 0) + 1)) rfl ?_
  have hw7 : wf (aI (aI (aI (aI A 58 (v3).toNat v1) 60 (v3).toNat v2) 61 (v3).toNat 1) 57 0 ((A.1 57 0) + 1)) := wf_aI hw5 hk6
  cases h
  exact rz_B.ret rfl trivial hw7
def x73_addPoint_86 (F : Nat) : Nat → Int → Int → Int → Int → rz_A → Option (Unit × rz_A)
  | 0, _, _, _, _, _ => none
  | n + 1, v1, v2, v3, v4, A =>
    if v3 < v4 then
      rz_g32 (v4 - 1) <|
      rz_gx (v4 - 1) 60 <|
      rz_gx v4 60 <|
      rz_g32 (v4 + (-1)) <|
      x73_addPoint_86 F n v1 v2 v3 (v4 + (-1)) (aI (aI (aI A 58 (v4).toNat (A.1 58 ((v4 - 1)).toNat)) 60 (v4).toNat (A.1 60 ((v4 - 1)).toNat)) 61 (v4).toNat (A.1 61 ((v4 - 1)).toNat))
    else
      x73_addPoint_152 F v1 v2 v3 A
theorem cx73_addPoint_86 {d : Nat} (F : Nat) : ∀ (n : Nat) (v1 : Int) (v2 : Int) (v3 : Int) (v4 : Int) (A : rz_A) (r : Unit) (A' : rz_A), x73_addPoint_86 F n v1 v2 v3 v4 A = some (r, A') → r32 v1 → r32 v2 → r32 v3 → r32 v4 → wf A → rz_B (d + 0) 73 86 [some (.ref 56), some (vI v1), some (vI v2), some (vI v3), some (vI v4)] [] A (none) A' (True) := by
  intro n
  induction n with
  | zero => intro v1 v2 v3 v4 A r A' h; cases h
  | succ n ih =>
    intro v1 v2 v3 v4 A r A' h hv1 hv2 hv3 hv4 hw
    rw [x73_addPoint_86] at h
    refine rz_B.go 3 (pc' := if decide (Int32.ofInt v4 ≤ Int32.ofInt v3) = true then 152 else 92) (L' := [some (.ref 56), some (vI v1), some (vI v2), some (vI v3), some (vI v4)]) (S' := []) rfl ?_
    by_cases hc1 : v3 < v4
    · have h := if_T h hc1
      refine rz_B.ifF (mt (le32 hv4 hv3).mp (Int.not_le.mpr hc1)) ?_
      refine rz_B.go 9 (pc' := 111) (L' := [some (.ref 56), some (vI v1), some (vI v2), some (vI v3), some (vI v4)]) (S' := [vI 1, vI v4, .ref 58, vI v4, .ref 58]) rfl ?_
      obtain ⟨hk2, h⟩ := rz_g32_inv h
      refine rz_B.isub rfl ?_
      obtain ⟨hi3, hj4, h⟩ := rz_gx_inv h
      refine rz_B.iald rfl rfl hi3 hj4 (by decide) ?_
      obtain ⟨hi5, hj6, h⟩ := rz_gx_inv h
      refine rz_B.iast rfl rfl hi5 hj6 (by decide) ?_
      have hw7 : wf (aI A 58 (v4).toNat (A.1 58 ((v4 - 1)).toNat)) := wf_aI hw (hw 58 ((v4 - 1)).toNat).1
      refine rz_B.go 7 (pc' := 127) (L' := [some (.ref 56), some (vI v1), some (vI v2), some (vI v3), some (vI v4)]) (S' := [vI 1, vI v4, .ref 60, vI v4, .ref 60]) rfl ?_
      refine rz_B.isub rfl ?_
      refine rz_B.iald rfl rfl hi3 hj4 (by decide) ?_
      refine rz_B.iast rfl rfl hi5 hj6 (by decide) ?_
      have hw8 : wf (aI (aI A 58 (v4).toNat (A.1 58 ((v4 - 1)).toNat)) 60 (v4).toNat (A.1 60 ((v4 - 1)).toNat)) := wf_aI hw7 (hw 60 ((v4 - 1)).toNat).1
      refine rz_B.go 7 (pc' := 143) (L' := [some (.ref 56), some (vI v1), some (vI v2), some (vI v3), some (vI v4)]) (S' := [vI 1, vI v4, .ref 61, vI v4, .ref 61]) rfl ?_
      refine rz_B.isub rfl ?_
      refine rz_B.iald rfl rfl hi3 hj4 (by decide) ?_
      refine rz_B.iast rfl rfl hi5 hj6 (by decide) ?_
      have hw9 : wf (aI (aI (aI A 58 (v4).toNat (A.1 58 ((v4 - 1)).toNat)) 60 (v4).toNat (A.1 60 ((v4 - 1)).toNat)) 61 (v4).toNat (A.1 61 ((v4 - 1)).toNat)) := wf_aI hw8 (hw 61 ((v4 - 1)).toNat).1
      obtain ⟨hk10, h⟩ := rz_g32_inv h
      refine rz_B.iinc rfl (by decide) rfl (L' := [some (.ref 56), some (vI v1), some (vI v2), some (vI v3), some (vI (v4 + (-1)))]) rfl ?_
      refine rz_B.go 1 (pc' := 86) (L' := [some (.ref 56), some (vI v1), some (vI v2), some (vI v3), some (vI (v4 + (-1)))]) (S' := []) rfl ?_
      refine rz_B.more (rg_le_ok (L := [some (.ref 56), some (vI v1), some (vI v2), some (vI v3), some (vI (v4 + (-1)))]) (by simp [rg_le])) ?_
      exact ih _ _ _ _ _ _ _ h hv1 hv2 hv3 hk10 hw9
    · have h := if_F h hc1
      refine rz_B.ifT ((le32 hv4 hv3).mpr (Int.not_lt.mp hc1)) ?_
      refine rz_B.more (rg_le_ok (L := [some (.ref 56), some (vI v1), some (vI v2), some (vI v3), none]) (by simp [rg_le])) ?_
      exact cx73_addPoint_152 F _ _ _ _ _ _ h hv1 hv2 hv3 hw
def x73_addPoint_33 (F : Nat) (v1 : Int) (v2 : Int) (v3 : Int) (A : rz_A) : Option (Unit × rz_A) :=
  if 0 < v3 then
    rz_g32 (v3 - 1) <|
    rz_gx (v3 - 1) 60 <|
    if (A.1 58 ((v3 - 1)).toNat) = v1 then
      rz_g32 ((A.1 60 ((v3 - 1)).toNat) + v2) <|
      rz_g32 ((A.1 61 ((v3 - 1)).toNat) + 1) <|
      some ((), (aI (aI A 60 ((v3 - 1)).toNat ((A.1 60 ((v3 - 1)).toNat) + v2)) 61 ((v3 - 1)).toNat ((A.1 61 ((v3 - 1)).toNat) + 1)))
    else
      x73_addPoint_86 F F v1 v2 v3 (A.1 57 0) A
  else
    x73_addPoint_86 F F v1 v2 v3 (A.1 57 0) A
theorem cx73_addPoint_33 {d : Nat} (F : Nat) : ∀ (v1 : Int) (v2 : Int) (v3 : Int) (A : rz_A) (r : Unit) (A' : rz_A), x73_addPoint_33 F v1 v2 v3 A = some (r, A') → r32 v1 → r32 v2 → r32 v3 → wf A → rz_B (d + 0) 73 33 [some (.ref 56), some (vI v1), some (vI v2), some (vI v3), none] [] A (none) A' (True) := by
  intro v1 v2 v3 A r A' h hv1 hv2 hv3 hw
  unfold x73_addPoint_33 at h
  refine rz_B.go 2 (pc' := if decide (Int32.ofInt v3 ≤ Int32.ofInt 0) = true then 77 else 37) (L' := [some (.ref 56), some (vI v1), some (vI v2), some (vI v3), none]) (S' := []) rfl ?_
  by_cases hc1 : 0 < v3
  · have h := if_T h hc1
    refine rz_B.ifF (mt (le32 hv3 (by decide)).mp (Int.not_le.mpr hc1)) ?_
    refine rz_B.go 5 (pc' := 46) (L' := [some (.ref 56), some (vI v1), some (vI v2), some (vI v3), none]) (S' := [vI 1, vI v3, .ref 58]) rfl ?_
    obtain ⟨hk2, h⟩ := rz_g32_inv h
    refine rz_B.isub rfl ?_
    obtain ⟨hi3, hj4, h⟩ := rz_gx_inv h
    refine rz_B.iald rfl rfl hi3 hj4 (by decide) ?_
    refine rz_B.go 2 (pc' := if decide (¬ Int32.ofInt (A.1 58 ((v3 - 1)).toNat) = Int32.ofInt v1) = true then 77 else 52) (L' := [some (.ref 56), some (vI v1), some (vI v2), some (vI v3), none]) (S' := []) rfl ?_
    by_cases hc5 : (A.1 58 ((v3 - 1)).toNat) = v1
    · have h := if_T h hc5
      refine rz_B.ifF (fun hn => hn ((eq32 (hw 58 ((v3 - 1)).toNat).1 hv1).mpr hc5)) ?_
      refine rz_B.go 4 (pc' := 58) (L' := [some (.ref 56), some (vI v1), some (vI v2), some (vI v3), none]) (S' := [vI 1, vI v3, .ref 60]) rfl ?_
      refine rz_B.isub rfl ?_
      refine rz_B.go 1 (pc' := 60) (L' := [some (.ref 56), some (vI v1), some (vI v2), some (vI v3), none]) (S' := [vI (v3 - 1), .ref 60, vI (v3 - 1), .ref 60]) rfl ?_
      refine rz_B.iald rfl rfl hi3 hj4 (by decide) ?_
      refine rz_B.go 1 (pc' := 62) (L' := [some (.ref 56), some (vI v1), some (vI v2), some (vI v3), none]) (S' := [vI v2, vI (A.1 60 ((v3 - 1)).toNat), vI (v3 - 1), .ref 60]) rfl ?_
      obtain ⟨hk6, h⟩ := rz_g32_inv h
      refine rz_B.iadd rfl ?_
      refine rz_B.iast rfl rfl hi3 hj4 (by decide) ?_
      have hw7 : wf (aI A 60 ((v3 - 1)).toNat ((A.1 60 ((v3 - 1)).toNat) + v2)) := wf_aI hw hk6
      refine rz_B.go 4 (pc' := 70) (L' := [some (.ref 56), some (vI v1), some (vI v2), some (vI v3), none]) (S' := [vI 1, vI v3, .ref 61]) rfl ?_
      refine rz_B.isub rfl ?_
      refine rz_B.go 1 (pc' := 72) (L' := [some (.ref 56), some (vI v1), some (vI v2), some (vI v3), none]) (S' := [vI (v3 - 1), .ref 61, vI (v3 - 1), .ref 61]) rfl ?_
      refine rz_B.iald rfl rfl hi3 hj4 (by decide) ?_
      refine rz_B.go 1 (pc' := 74) (L' := [some (.ref 56), some (vI v1), some (vI v2), some (vI v3), none]) (S' := [vI 1, vI (A.1 61 ((v3 - 1)).toNat), vI (v3 - 1), .ref 61]) rfl ?_
      obtain ⟨hk8, h⟩ := rz_g32_inv h
      refine rz_B.iadd rfl ?_
      refine rz_B.iast rfl rfl hi3 hj4 (by decide) ?_
      have hw9 : wf (aI (aI A 60 ((v3 - 1)).toNat ((A.1 60 ((v3 - 1)).toNat) + v2)) 61 ((v3 - 1)).toNat ((A.1 61 ((v3 - 1)).toNat) + 1)) := wf_aI hw7 hk8
      cases h
      exact rz_B.ret rfl trivial hw9
    · have h := if_F h hc5
      refine rz_B.ifT (mt (eq32 (hw 58 ((v3 - 1)).toNat).1 hv1).mp hc5) ?_
      refine rz_B.go 4 (pc' := 86) (L' := [some (.ref 56), some (vI v1), some (vI v2), some (vI v3), some (vI (A.1 57 0))]) (S' := []) rfl ?_
      refine rz_B.more (rg_le_ok (L := [some (.ref 56), some (vI v1), some (vI v2), some (vI v3), some (vI (A.1 57 0))]) (by simp [rg_le])) ?_
      exact cx73_addPoint_86 F F _ _ _ _ _ _ _ h hv1 hv2 hv3 (hw 57 0).1 hw
  · have h := if_F h hc1
    refine rz_B.ifT ((le32 hv3 (by decide)).mpr (Int.not_lt.mp hc1)) ?_
    refine rz_B.go 4 (pc' := 86) (L' := [some (.ref 56), some (vI v1), some (vI v2), some (vI v3), some (vI (A.1 57 0))]) (S' := []) rfl ?_
    refine rz_B.more (rg_le_ok (L := [some (.ref 56), some (vI v1), some (vI v2), some (vI v3), some (vI (A.1 57 0))]) (by simp [rg_le])) ?_
    exact cx73_addPoint_86 F F _ _ _ _ _ _ _ h hv1 hv2 hv3 (hw 57 0).1 hw
def x73_addPoint_8 (F : Nat) : Nat → Int → Int → Int → rz_A → Option (Unit × rz_A)
  | 0, _, _, _, _ => none
  | n + 1, v1, v2, v3, A =>
    if 0 < v3 then
      rz_g32 (v3 - 1) <|
      rz_gx (v3 - 1) 60 <|
      if v1 < (A.1 58 ((v3 - 1)).toNat) then
        rz_g32 (v3 + (-1)) <|
        x73_addPoint_8 F n v1 v2 (v3 + (-1)) A
      else
        x73_addPoint_33 F v1 v2 v3 A
    else
      x73_addPoint_33 F v1 v2 v3 A
theorem cx73_addPoint_8 {d : Nat} (F : Nat) : ∀ (n : Nat) (v1 : Int) (v2 : Int) (v3 : Int) (A : rz_A) (r : Unit) (A' : rz_A), x73_addPoint_8 F n v1 v2 v3 A = some (r, A') → r32 v1 → r32 v2 → r32 v3 → wf A → rz_B (d + 0) 73 8 [some (.ref 56), some (vI v1), some (vI v2), some (vI v3), none] [] A (none) A' (True) := by
  intro n
  induction n with
  | zero => intro v1 v2 v3 A r A' h; cases h
  | succ n ih =>
    intro v1 v2 v3 A r A' h hv1 hv2 hv3 hw
    rw [x73_addPoint_8] at h
    refine rz_B.go 2 (pc' := if decide (Int32.ofInt v3 ≤ Int32.ofInt 0) = true then 33 else 12) (L' := [some (.ref 56), some (vI v1), some (vI v2), some (vI v3), none]) (S' := []) rfl ?_
    by_cases hc1 : 0 < v3
    · have h := if_T h hc1
      refine rz_B.ifF (mt (le32 hv3 (by decide)).mp (Int.not_le.mpr hc1)) ?_
      refine rz_B.go 5 (pc' := 21) (L' := [some (.ref 56), some (vI v1), some (vI v2), some (vI v3), none]) (S' := [vI 1, vI v3, .ref 58]) rfl ?_
      obtain ⟨hk2, h⟩ := rz_g32_inv h
      refine rz_B.isub rfl ?_
      obtain ⟨hi3, hj4, h⟩ := rz_gx_inv h
      refine rz_B.iald rfl rfl hi3 hj4 (by decide) ?_
      refine rz_B.go 2 (pc' := if decide (Int32.ofInt (A.1 58 ((v3 - 1)).toNat) ≤ Int32.ofInt v1) = true then 33 else 27) (L' := [some (.ref 56), some (vI v1), some (vI v2), some (vI v3), none]) (S' := []) rfl ?_
      by_cases hc5 : v1 < (A.1 58 ((v3 - 1)).toNat)
      · have h := if_T h hc5
        refine rz_B.ifF (mt (le32 (hw 58 ((v3 - 1)).toNat).1 hv1).mp (Int.not_le.mpr hc5)) ?_
        obtain ⟨hk6, h⟩ := rz_g32_inv h
        refine rz_B.iinc rfl (by decide) rfl (L' := [some (.ref 56), some (vI v1), some (vI v2), some (vI (v3 + (-1))), none]) rfl ?_
        refine rz_B.go 1 (pc' := 8) (L' := [some (.ref 56), some (vI v1), some (vI v2), some (vI (v3 + (-1))), none]) (S' := []) rfl ?_
        refine rz_B.more (rg_le_ok (L := [some (.ref 56), some (vI v1), some (vI v2), some (vI (v3 + (-1))), none]) (by simp [rg_le])) ?_
        exact ih _ _ _ _ _ _ h hv1 hv2 hk6 hw
      · have h := if_F h hc5
        refine rz_B.ifT ((le32 (hw 58 ((v3 - 1)).toNat).1 hv1).mpr (Int.not_lt.mp hc5)) ?_
        refine rz_B.more (rg_le_ok (L := [some (.ref 56), some (vI v1), some (vI v2), some (vI v3), none]) (by simp [rg_le])) ?_
        exact cx73_addPoint_33 F _ _ _ _ _ _ h hv1 hv2 hv3 hw
    · have h := if_F h hc1
      refine rz_B.ifT ((le32 hv3 (by decide)).mpr (Int.not_lt.mp hc1)) ?_
      refine rz_B.more (rg_le_ok (L := [some (.ref 56), some (vI v1), some (vI v2), some (vI v3), none]) (by simp [rg_le])) ?_
      exact cx73_addPoint_33 F _ _ _ _ _ _ h hv1 hv2 hv3 hw
/-- RiverGauge$Rating.addPoint(II)V -/
def x73_addPoint (F : Nat) (a0 : Int) (a1 : Int) (A : rz_A) : Option (Unit × rz_A) :=
  x73_addPoint_8 F F a0 a1 (A.1 57 0) A
theorem cx73_addPoint (F : Nat) {d : Nat} {a0 : Int} {a1 : Int} {A : rz_A} {r : Unit} {A' : rz_A} (h : x73_addPoint F a0 a1 A = some (r, A')) (ha0 : r32 a0) (ha1 : r32 a1) (hw : wf A) : rg_Rn (d + 0) 73 [.ref 56, vI a0, vI a1] (toM A) (none) (toM A') ∧ (True) ∧ wf A' := by
  show rz_B (d + 0) 73 0 [some (.ref 56), some (vI a0), some (vI a1), none, none] [] A (none) A' (True)
  unfold x73_addPoint at h
  refine rz_B.go 4 (pc' := 8) (L' := [some (.ref 56), some (vI a0), some (vI a1), some (vI (A.1 57 0)), none]) (S' := []) rfl ?_
  refine rz_B.more (rg_le_ok (L := [some (.ref 56), some (vI a0), some (vI a1), some (vI (A.1 57 0)), none]) (by simp [rg_le])) ?_
  exact cx73_addPoint_8 F F _ _ _ _ _ _ h ha0 ha1 (hw 57 0).1 hw
def x72_draw_237 (F : Nat) (A : rz_A) : Option (Unit × rz_A) :=
  rz_b (x74_joinBlocks F A) fun r1 A1 =>
  rz_b (x76_setFlows F r1 A1) fun _ A2 =>
  some ((), A2)
theorem cx72_draw_237 {d : Nat} (F : Nat) : ∀ (A : rz_A) (r : Unit) (A' : rz_A), x72_draw_237 F A = some (r, A') → wf A → rz_B (d + 3) 72 237 [some (.ref 56), none, none, none, none, none, none, none] [] A (none) A' (True) := by
  intro A r A' h hw
  unfold x72_draw_237 at h
  refine rz_B.go 2 (pc' := 239) (L' := [some (.ref 56), none, none, none, none, none, none, none]) (S' := [.ref 56, .ref 56]) rfl ?_
  obtain ⟨r1, A1, hf1, h⟩ := rz_b_inv h
  obtain ⟨hg1, hr1, hw1⟩ := cx74_joinBlocks F (d := d + 1) hf1 hw
  refine rz_B.call (d := d + 2) (as := [.ref 56]) (rest := [.ref 56]) (w := some (vI r1)) rfl hg1 ?_
  obtain ⟨_, A2, hf2, h⟩ := rz_b_inv h
  obtain ⟨hg2, hr2, hw2⟩ := cx76_setFlows F (d := d + 1) hf2 hr1 hw1
  refine rz_B.call (d := d + 2) (as := [.ref 56, vI r1]) (rest := []) (w := none) rfl hg2 ?_
  cases h
  exact rz_B.ret rfl trivial hw2
def x72_draw_93 (F : Nat) : Nat → Int → Int → Int → Int → rz_A → Option (Unit × rz_A)
  | 0, _, _, _, _, _ => none
  | n + 1, v1, v2, v3, v5, A =>
    if v5 < (A.1 26 0) then
      rz_gx v5 60 <|
      if (A.1 27 (v5).toNat) = v1 then
        if v2 ≤ (A.1 28 (v5).toNat) then
          if (A.1 28 (v5).toNat) ≤ v3 then
            rz_b (x39_placeOf F v5 A) fun r7 A7 =>
            if r7 < 0 then
              rz_g32 (v5 + 1) <|
              x72_draw_93 F n v1 v2 v3 (v5 + 1) A7
            else
              rz_gx r7 300 <|
              rz_b (x73_addPoint F (A7.1 54 (r7).toNat) (A7.1 29 (v5).toNat) A7) fun _ A12 =>
              rz_b (x60_max F (A12.1 56 8) (A12.1 30 (v5).toNat) A12) fun r13 A13 =>
              rz_g32 (v5 + 1) <|
              x72_draw_93 F n v1 v2 v3 (v5 + 1) (aI A13 56 8 r13)
          else
            rz_g32 (v5 + 1) <|
            x72_draw_93 F n v1 v2 v3 (v5 + 1) A
        else
          rz_g32 (v5 + 1) <|
          x72_draw_93 F n v1 v2 v3 (v5 + 1) A
      else
        rz_g32 (v5 + 1) <|
        x72_draw_93 F n v1 v2 v3 (v5 + 1) A
    else
      x72_draw_237 F A
theorem cx72_draw_93 {d : Nat} (F : Nat) : ∀ (n : Nat) (v1 : Int) (v2 : Int) (v3 : Int) (v5 : Int) (A : rz_A) (r : Unit) (A' : rz_A), x72_draw_93 F n v1 v2 v3 v5 A = some (r, A') → r32 v1 → r32 v2 → r32 v3 → r32 v5 → wf A → rz_B (d + 3) 72 93 [some (.ref 56), some (vI v1), some (vI v2), some (vI v3), none, some (vI v5), none, none] [] A (none) A' (True) := by
  intro n
  induction n with
  | zero => intro v1 v2 v3 v5 A r A' h; cases h
  | succ n ih =>
    intro v1 v2 v3 v5 A r A' h hv1 hv2 hv3 hv5 hw
    rw [x72_draw_93] at h
    refine rz_B.go 5 (pc' := if decide (Int32.ofInt (A.1 26 0) ≤ Int32.ofInt v5) = true then 237 else 105) (L' := [some (.ref 56), some (vI v1), some (vI v2), some (vI v3), none, some (vI v5), none, none]) (S' := []) rfl ?_
    by_cases hc1 : v5 < (A.1 26 0)
    · have h := if_T h hc1
      refine rz_B.ifF (mt (le32 (hw 26 0).1 hv5).mp (Int.not_le.mpr hc1)) ?_
      refine rz_B.go 4 (pc' := 114) (L' := [some (.ref 56), some (vI v1), some (vI v2), some (vI v3), none, some (vI v5), none, none]) (S' := [vI v5, .ref 27]) rfl ?_
      obtain ⟨hi2, hj3, h⟩ := rz_gx_inv h
      refine rz_B.iald rfl rfl hi2 hj3 (by decide) ?_
      refine rz_B.go 2 (pc' := if decide (¬ Int32.ofInt (A.1 27 (v5).toNat) = Int32.ofInt v1) = true then 151 else 119) (L' := [some (.ref 56), some (vI v1), some (vI v2), some (vI v3), none, some (vI v5), none, none]) (S' := []) rfl ?_
      by_cases hc4 : (A.1 27 (v5).toNat) = v1
      · have h := if_T h hc4
        refine rz_B.ifF (fun hn => hn ((eq32 (hw 27 (v5).toNat).1 hv1).mpr hc4)) ?_
        refine rz_B.go 4 (pc' := 128) (L' := [some (.ref 56), some (vI v1), some (vI v2), some (vI v3), none, some (vI v5), none, none]) (S' := [vI v5, .ref 28]) rfl ?_
        refine rz_B.iald rfl rfl hi2 hj3 (by decide) ?_
        refine rz_B.go 2 (pc' := if decide (Int32.ofInt (A.1 28 (v5).toNat) < Int32.ofInt v2) = true then 151 else 133) (L' := [some (.ref 56), some (vI v1), some (vI v2), some (vI v3), none, some (vI v5), none, none]) (S' := []) rfl ?_
        by_cases hc5 : v2 ≤ (A.1 28 (v5).toNat)
        · have h := if_T h hc5
          refine rz_B.ifF (mt (lt32 (hw 28 (v5).toNat).1 hv2).mp (Int.not_lt.mpr hc5)) ?_
          refine rz_B.go 4 (pc' := 142) (L' := [some (.ref 56), some (vI v1), some (vI v2), some (vI v3), none, some (vI v5), none, none]) (S' := [vI v5, .ref 28]) rfl ?_
          refine rz_B.iald rfl rfl hi2 hj3 (by decide) ?_
          refine rz_B.go 2 (pc' := if decide (Int32.ofInt v3 < Int32.ofInt (A.1 28 (v5).toNat)) = true then 151 else 147) (L' := [some (.ref 56), some (vI v1), some (vI v2), some (vI v3), none, some (vI v5), none, none]) (S' := []) rfl ?_
          by_cases hc6 : (A.1 28 (v5).toNat) ≤ v3
          · have h := if_T h hc6
            refine rz_B.ifF (mt (lt32 hv3 (hw 28 (v5).toNat).1).mp (Int.not_lt.mpr hc6)) ?_
            refine rz_B.go 10 (pc' := 169) (L' := [some (.ref 56), some (vI v1), some (vI v2), some (vI v3), none, some (vI v5), some (vI 1), none]) (S' := [.ref 51, vI v5, .ref 26]) rfl ?_
            obtain ⟨r7, A7, hf7, h⟩ := rz_b_inv h
            obtain ⟨hg7, hr7, hw7⟩ := cx39_placeOf F (d := d + 0) hf7 hv5 hw
            refine rz_B.call (d := d + 2) (as := [.ref 26, vI v5, .ref 51]) (rest := []) (w := some (vI r7)) rfl hg7 ?_
            refine rz_B.go 4 (pc' := if decide (Int32.ofInt 0 ≤ Int32.ofInt r7) = true then 186 else 183) (L' := [some (.ref 56), some (vI v1), some (vI v2), some (vI v3), none, some (vI v5), some (vI 1), some (vI r7)]) (S' := []) rfl ?_
            by_cases hc8 : r7 < 0
            · have h := if_T h hc8
              refine rz_B.ifF (mt (le32 (by decide) hr7).mp (Int.not_le.mpr hc8)) ?_
              refine rz_B.go 1 (pc' := 231) (L' := [some (.ref 56), some (vI v1), some (vI v2), some (vI v3), none, some (vI v5), some (vI 1), some (vI r7)]) (S' := []) rfl ?_
              obtain ⟨hk9, h⟩ := rz_g32_inv h
              refine rz_B.iinc rfl (by decide) rfl (L' := [some (.ref 56), some (vI v1), some (vI v2), some (vI v3), none, some (vI (v5 + 1)), some (vI 1), some (vI r7)]) rfl ?_
              refine rz_B.go 1 (pc' := 93) (L' := [some (.ref 56), some (vI v1), some (vI v2), some (vI v3), none, some (vI (v5 + 1)), some (vI 1), some (vI r7)]) (S' := []) rfl ?_
              refine rz_B.more (rg_le_ok (L := [some (.ref 56), some (vI v1), some (vI v2), some (vI v3), none, some (vI (v5 + 1)), none, none]) (by simp [rg_le])) ?_
              exact ih _ _ _ _ _ _ _ h hv1 hv2 hv3 hk9 hw7
            · have h := if_F h hc8
              refine rz_B.ifT ((le32 (by decide) hr7).mpr (Int.not_lt.mp hc8)) ?_
              refine rz_B.go 5 (pc' := 196) (L' := [some (.ref 56), some (vI v1), some (vI v2), some (vI v3), none, some (vI v5), some (vI 1), some (vI r7)]) (S' := [vI r7, .ref 54, .ref 56]) rfl ?_
              obtain ⟨hi10, hj11, h⟩ := rz_gx_inv h
              refine rz_B.iald rfl rfl hi10 hj11 (by decide) ?_
              refine rz_B.go 4 (pc' := 206) (L' := [some (.ref 56), some (vI v1), some (vI v2), some (vI v3), none, some (vI v5), some (vI 1), some (vI r7)]) (S' := [vI v5, .ref 29, vI (A7.1 54 (r7).toNat), .ref 56]) rfl ?_
              refine rz_B.iald rfl rfl hi2 hj3 (by decide) ?_
              obtain ⟨_, A12, hf12, h⟩ := rz_b_inv h
              obtain ⟨hg12, hr12, hw12⟩ := cx73_addPoint F (d := d + 2) hf12 (hw7 54 (r7).toNat).1 (hw7 29 (v5).toNat).1 hw7
              refine rz_B.call (d := d + 2) (as := [.ref 56, vI (A7.1 54 (r7).toNat), vI (A7.1 29 (v5).toNat)]) (rest := []) (w := none) rfl hg12 ?_
              refine rz_B.go 7 (pc' := 224) (L' := [some (.ref 56), some (vI v1), some (vI v2), some (vI v3), none, some (vI v5), some (vI 1), some (vI r7)]) (S' := [vI v5, .ref 30, vI (A12.1 56 8), .ref 56]) rfl ?_
              refine rz_B.iald rfl rfl hi2 hj3 (by decide) ?_
              obtain ⟨r13, A13, hf13, h⟩ := rz_b_inv h
              obtain ⟨hg13, hr13, hw13⟩ := cx60_max F (d := d + 2) hf13 (hw12 56 8).1 (hw12 30 (v5).toNat).1 hw12
              refine rz_B.call (d := d + 2) (as := [vI (A12.1 56 8), vI (A12.1 30 (v5).toNat)]) (rest := [.ref 56]) (w := some (vI r13)) rfl hg13 ?_
              refine rz_B.put 1 (pc' := 231) (L' := [some (.ref 56), some (vI v1), some (vI v2), some (vI v3), none, some (vI v5), some (vI 1), some (vI r7)]) (S' := []) (c := 56) (k := 8) (x := r13) rfl ?_
              have hw14 : wf (aI A13 56 8 r13) := wf_aI hw13 hr13
              obtain ⟨hk15, h⟩ := rz_g32_inv h
              refine rz_B.iinc rfl (by decide) rfl (L' := [some (.ref 56), some (vI v1), some (vI v2), some (vI v3), none, some (vI (v5 + 1)), some (vI 1), some (vI r7)]) rfl ?_
              refine rz_B.go 1 (pc' := 93) (L' := [some (.ref 56), some (vI v1), some (vI v2), some (vI v3), none, some (vI (v5 + 1)), some (vI 1), some (vI r7)]) (S' := []) rfl ?_
              refine rz_B.more (rg_le_ok (L := [some (.ref 56), some (vI v1), some (vI v2), some (vI v3), none, some (vI (v5 + 1)), none, none]) (by simp [rg_le])) ?_
              exact ih _ _ _ _ _ _ _ h hv1 hv2 hv3 hk15 hw14
          · have h := if_F h hc6
            refine rz_B.ifT ((lt32 hv3 (hw 28 (v5).toNat).1).mpr (Int.not_le.mp hc6)) ?_
            refine rz_B.go 9 (pc' := 231) (L' := [some (.ref 56), some (vI v1), some (vI v2), some (vI v3), none, some (vI v5), some (vI 0), some (vI (-1))]) (S' := []) rfl ?_
            obtain ⟨hk16, h⟩ := rz_g32_inv h
            refine rz_B.iinc rfl (by decide) rfl (L' := [some (.ref 56), some (vI v1), some (vI v2), some (vI v3), none, some (vI (v5 + 1)), some (vI 0), some (vI (-1))]) rfl ?_
            refine rz_B.go 1 (pc' := 93) (L' := [some (.ref 56), some (vI v1), some (vI v2), some (vI v3), none, some (vI (v5 + 1)), some (vI 0), some (vI (-1))]) (S' := []) rfl ?_
            refine rz_B.more (rg_le_ok (L := [some (.ref 56), some (vI v1), some (vI v2), some (vI v3), none, some (vI (v5 + 1)), none, none]) (by simp [rg_le])) ?_
            exact ih _ _ _ _ _ _ _ h hv1 hv2 hv3 hk16 hw
        · have h := if_F h hc5
          refine rz_B.ifT ((lt32 (hw 28 (v5).toNat).1 hv2).mpr (Int.not_le.mp hc5)) ?_
          refine rz_B.go 9 (pc' := 231) (L' := [some (.ref 56), some (vI v1), some (vI v2), some (vI v3), none, some (vI v5), some (vI 0), some (vI (-1))]) (S' := []) rfl ?_
          obtain ⟨hk17, h⟩ := rz_g32_inv h
          refine rz_B.iinc rfl (by decide) rfl (L' := [some (.ref 56), some (vI v1), some (vI v2), some (vI v3), none, some (vI (v5 + 1)), some (vI 0), some (vI (-1))]) rfl ?_
          refine rz_B.go 1 (pc' := 93) (L' := [some (.ref 56), some (vI v1), some (vI v2), some (vI v3), none, some (vI (v5 + 1)), some (vI 0), some (vI (-1))]) (S' := []) rfl ?_
          refine rz_B.more (rg_le_ok (L := [some (.ref 56), some (vI v1), some (vI v2), some (vI v3), none, some (vI (v5 + 1)), none, none]) (by simp [rg_le])) ?_
          exact ih _ _ _ _ _ _ _ h hv1 hv2 hv3 hk17 hw
      · have h := if_F h hc4
        refine rz_B.ifT (mt (eq32 (hw 27 (v5).toNat).1 hv1).mp hc4) ?_
        refine rz_B.go 9 (pc' := 231) (L' := [some (.ref 56), some (vI v1), some (vI v2), some (vI v3), none, some (vI v5), some (vI 0), some (vI (-1))]) (S' := []) rfl ?_
        obtain ⟨hk18, h⟩ := rz_g32_inv h
        refine rz_B.iinc rfl (by decide) rfl (L' := [some (.ref 56), some (vI v1), some (vI v2), some (vI v3), none, some (vI (v5 + 1)), some (vI 0), some (vI (-1))]) rfl ?_
        refine rz_B.go 1 (pc' := 93) (L' := [some (.ref 56), some (vI v1), some (vI v2), some (vI v3), none, some (vI (v5 + 1)), some (vI 0), some (vI (-1))]) (S' := []) rfl ?_
        refine rz_B.more (rg_le_ok (L := [some (.ref 56), some (vI v1), some (vI v2), some (vI v3), none, some (vI (v5 + 1)), none, none]) (by simp [rg_le])) ?_
        exact ih _ _ _ _ _ _ _ h hv1 hv2 hv3 hk18 hw
    · have h := if_F h hc1
      refine rz_B.ifT ((le32 (hw 26 0).1 hv5).mpr (Int.not_lt.mp hc1)) ?_
      refine rz_B.more (rg_le_ok (L := [some (.ref 56), none, none, none, none, none, none, none]) (by simp [rg_le])) ?_
      exact cx72_draw_237 F _ _ _ h hw
/-- RiverGauge$Rating.draw(III)V -/
def x72_draw (F : Nat) (a0 : Int) (a1 : Int) (a2 : Int) (A : rz_A) : Option (Unit × rz_A) :=
  if (A.1 56 9) = a0 then
    if (A.1 56 10) = a1 then
      if (A.1 56 11) = a2 then
        if (A.1 56 12) = (A.1 51 4) then
          some ((), A)
        else
          x72_draw_93 F F a0 a1 a2 0 (aI (aI (aI (aI (aI (aI A 56 9 a0) 56 10 a1) 56 11 a2) 56 12 (A.1 51 4)) 57 0 0) 56 8 0)
      else
        x72_draw_93 F F a0 a1 a2 0 (aI (aI (aI (aI (aI (aI A 56 9 a0) 56 10 a1) 56 11 a2) 56 12 (A.1 51 4)) 57 0 0) 56 8 0)
    else
      x72_draw_93 F F a0 a1 a2 0 (aI (aI (aI (aI (aI (aI A 56 9 a0) 56 10 a1) 56 11 a2) 56 12 (A.1 51 4)) 57 0 0) 56 8 0)
  else
    x72_draw_93 F F a0 a1 a2 0 (aI (aI (aI (aI (aI (aI A 56 9 a0) 56 10 a1) 56 11 a2) 56 12 (A.1 51 4)) 57 0 0) 56 8 0)
theorem cx72_draw (F : Nat) {d : Nat} {a0 : Int} {a1 : Int} {a2 : Int} {A : rz_A} {r : Unit} {A' : rz_A} (h : x72_draw F a0 a1 a2 A = some (r, A')) (ha0 : r32 a0) (ha1 : r32 a1) (ha2 : r32 a2) (hw : wf A) : rg_Rn (d + 3) 72 [.ref 56, vI a0, vI a1, vI a2] (toM A) (none) (toM A') ∧ (True) ∧ wf A' := by
  show rz_B (d + 3) 72 0 [some (.ref 56), some (vI a0), some (vI a1), some (vI a2), none, none, none, none] [] A (none) A' (True)
  unfold x72_draw at h
  refine rz_B.go 4 (pc' := if decide (¬ Int32.ofInt (A.1 56 9) = Int32.ofInt a0) = true then 28 else 8) (L' := [some (.ref 56), some (vI a0), some (vI a1), some (vI a2), none, none, none, none]) (S' := []) rfl ?_
  by_cases hc1 : (A.1 56 9) = a0
  · have h := if_T h hc1
    refine rz_B.ifF (fun hn => hn ((eq32 (hw 56 9).1 ha0).mpr hc1)) ?_
    refine rz_B.go 4 (pc' := if decide (¬ Int32.ofInt (A.1 56 10) = Int32.ofInt a1) = true then 28 else 16) (L' := [some (.ref 56), some (vI a0), some (vI a1), some (vI a2), none, none, none, none]) (S' := []) rfl ?_
    by_cases hc2 : (A.1 56 10) = a1
    · have h := if_T h hc2
      refine rz_B.ifF (fun hn => hn ((eq32 (hw 56 10).1 ha1).mpr hc2)) ?_
      refine rz_B.go 4 (pc' := if decide (¬ Int32.ofInt (A.1 56 11) = Int32.ofInt a2) = true then 28 else 24) (L' := [some (.ref 56), some (vI a0), some (vI a1), some (vI a2), none, none, none, none]) (S' := []) rfl ?_
      by_cases hc3 : (A.1 56 11) = a2
      · have h := if_T h hc3
        refine rz_B.ifF (fun hn => hn ((eq32 (hw 56 11).1 ha2).mpr hc3)) ?_
        refine rz_B.go 11 (pc' := if decide (¬ Int32.ofInt (A.1 56 12) = Int32.ofInt (A.1 51 4)) = true then 51 else 50) (L' := [some (.ref 56), some (vI a0), some (vI a1), some (vI a2), some (vI 1), none, none, none]) (S' := []) rfl ?_
        by_cases hc4 : (A.1 56 12) = (A.1 51 4)
        · have h := if_T h hc4
          refine rz_B.ifF (fun hn => hn ((eq32 (hw 56 12).1 (hw 51 4).1).mpr hc4)) ?_
          cases h
          exact rz_B.ret rfl trivial hw
        · have h := if_F h hc4
          refine rz_B.ifT (mt (eq32 (hw 56 12).1 (hw 51 4).1).mp hc4) ?_
          refine rz_B.put 3 (pc' := 56) (L' := [some (.ref 56), some (vI a0), some (vI a1), some (vI a2), some (vI 1), none, none, none]) (S' := []) (c := 56) (k := 9) (x := a0) rfl ?_
          have hw5 : wf (aI A 56 9 a0) := wf_aI hw ha0
          refine rz_B.put 3 (pc' := 61) (L' := [some (.ref 56), some (vI a0), some (vI a1), some (vI a2), some (vI 1), none, none, none]) (S' := []) (c := 56) (k := 10) (x := a1) rfl ?_
          have hw6 : wf (aI (aI A 56 9 a0) 56 10 a1) := wf_aI hw5 ha1
          refine rz_B.put 3 (pc' := 66) (L' := [some (.ref 56), some (vI a0), some (vI a1), some (vI a2), some (vI 1), none, none, none]) (S' := []) (c := 56) (k := 11) (x := a2) rfl ?_
          have hw7 : wf (aI (aI (aI A 56 9 a0) 56 10 a1) 56 11 a2) := wf_aI hw6 ha2
          refine rz_B.put 5 (pc' := 77) (L' := [some (.ref 56), some (vI a0), some (vI a1), some (vI a2), some (vI 1), none, none, none]) (S' := []) (c := 56) (k := 12) (x := (A.1 51 4)) rfl ?_
          have hw8 : wf (aI (aI (aI (aI A 56 9 a0) 56 10 a1) 56 11 a2) 56 12 (A.1 51 4)) := wf_aI hw7 (hw 51 4).1
          refine rz_B.put 4 (pc' := 85) (L' := [some (.ref 56), some (vI a0), some (vI a1), some (vI a2), some (vI 1), none, none, none]) (S' := []) (c := 57) (k := 0) (x := 0) rfl ?_
          have hw9 : wf (aI (aI (aI (aI (aI A 56 9 a0) 56 10 a1) 56 11 a2) 56 12 (A.1 51 4)) 57 0 0) := wf_aI hw8 (by decide)
          refine rz_B.put 3 (pc' := 90) (L' := [some (.ref 56), some (vI a0), some (vI a1), some (vI a2), some (vI 1), none, none, none]) (S' := []) (c := 56) (k := 8) (x := 0) rfl ?_
          have hw10 : wf (aI (aI (aI (aI (aI (aI A 56 9 a0) 56 10 a1) 56 11 a2) 56 12 (A.1 51 4)) 57 0 0) 56 8 0) := wf_aI hw9 (by decide)
          refine rz_B.go 2 (pc' := 93) (L' := [some (.ref 56), some (vI a0), some (vI a1), some (vI a2), some (vI 1), some (vI 0), none, none]) (S' := []) rfl ?_
          refine rz_B.more (rg_le_ok (L := [some (.ref 56), some (vI a0), some (vI a1), some (vI a2), none, some (vI 0), none, none]) (by simp [rg_le])) ?_
          exact cx72_draw_93 F F _ _ _ _ _ _ _ h ha0 ha1 ha2 (by decide) hw10
      · have h := if_F h hc3
        refine rz_B.ifT (mt (eq32 (hw 56 11).1 ha2).mp hc3) ?_
        refine rz_B.put 7 (pc' := 56) (L' := [some (.ref 56), some (vI a0), some (vI a1), some (vI a2), some (vI 0), none, none, none]) (S' := []) (c := 56) (k := 9) (x := a0) rfl ?_
        have hw11 : wf (aI A 56 9 a0) := wf_aI hw ha0
        refine rz_B.put 3 (pc' := 61) (L' := [some (.ref 56), some (vI a0), some (vI a1), some (vI a2), some (vI 0), none, none, none]) (S' := []) (c := 56) (k := 10) (x := a1) rfl ?_
        have hw12 : wf (aI (aI A 56 9 a0) 56 10 a1) := wf_aI hw11 ha1
        refine rz_B.put 3 (pc' := 66) (L' := [some (.ref 56), some (vI a0), some (vI a1), some (vI a2), some (vI 0), none, none, none]) (S' := []) (c := 56) (k := 11) (x := a2) rfl ?_
        have hw13 : wf (aI (aI (aI A 56 9 a0) 56 10 a1) 56 11 a2) := wf_aI hw12 ha2
        refine rz_B.put 5 (pc' := 77) (L' := [some (.ref 56), some (vI a0), some (vI a1), some (vI a2), some (vI 0), none, none, none]) (S' := []) (c := 56) (k := 12) (x := (A.1 51 4)) rfl ?_
        have hw14 : wf (aI (aI (aI (aI A 56 9 a0) 56 10 a1) 56 11 a2) 56 12 (A.1 51 4)) := wf_aI hw13 (hw 51 4).1
        refine rz_B.put 4 (pc' := 85) (L' := [some (.ref 56), some (vI a0), some (vI a1), some (vI a2), some (vI 0), none, none, none]) (S' := []) (c := 57) (k := 0) (x := 0) rfl ?_
        have hw15 : wf (aI (aI (aI (aI (aI A 56 9 a0) 56 10 a1) 56 11 a2) 56 12 (A.1 51 4)) 57 0 0) := wf_aI hw14 (by decide)
        refine rz_B.put 3 (pc' := 90) (L' := [some (.ref 56), some (vI a0), some (vI a1), some (vI a2), some (vI 0), none, none, none]) (S' := []) (c := 56) (k := 8) (x := 0) rfl ?_
        have hw16 : wf (aI (aI (aI (aI (aI (aI A 56 9 a0) 56 10 a1) 56 11 a2) 56 12 (A.1 51 4)) 57 0 0) 56 8 0) := wf_aI hw15 (by decide)
        refine rz_B.go 2 (pc' := 93) (L' := [some (.ref 56), some (vI a0), some (vI a1), some (vI a2), some (vI 0), some (vI 0), none, none]) (S' := []) rfl ?_
        refine rz_B.more (rg_le_ok (L := [some (.ref 56), some (vI a0), some (vI a1), some (vI a2), none, some (vI 0), none, none]) (by simp [rg_le])) ?_
        exact cx72_draw_93 F F _ _ _ _ _ _ _ h ha0 ha1 ha2 (by decide) hw16
    · have h := if_F h hc2
      refine rz_B.ifT (mt (eq32 (hw 56 10).1 ha1).mp hc2) ?_
      refine rz_B.put 7 (pc' := 56) (L' := [some (.ref 56), some (vI a0), some (vI a1), some (vI a2), some (vI 0), none, none, none]) (S' := []) (c := 56) (k := 9) (x := a0) rfl ?_
      have hw17 : wf (aI A 56 9 a0) := wf_aI hw ha0
      refine rz_B.put 3 (pc' := 61) (L' := [some (.ref 56), some (vI a0), some (vI a1), some (vI a2), some (vI 0), none, none, none]) (S' := []) (c := 56) (k := 10) (x := a1) rfl ?_
      have hw18 : wf (aI (aI A 56 9 a0) 56 10 a1) := wf_aI hw17 ha1
      refine rz_B.put 3 (pc' := 66) (L' := [some (.ref 56), some (vI a0), some (vI a1), some (vI a2), some (vI 0), none, none, none]) (S' := []) (c := 56) (k := 11) (x := a2) rfl ?_
      have hw19 : wf (aI (aI (aI A 56 9 a0) 56 10 a1) 56 11 a2) := wf_aI hw18 ha2
      refine rz_B.put 5 (pc' := 77) (L' := [some (.ref 56), some (vI a0), some (vI a1), some (vI a2), some (vI 0), none, none, none]) (S' := []) (c := 56) (k := 12) (x := (A.1 51 4)) rfl ?_
      have hw20 : wf (aI (aI (aI (aI A 56 9 a0) 56 10 a1) 56 11 a2) 56 12 (A.1 51 4)) := wf_aI hw19 (hw 51 4).1
      refine rz_B.put 4 (pc' := 85) (L' := [some (.ref 56), some (vI a0), some (vI a1), some (vI a2), some (vI 0), none, none, none]) (S' := []) (c := 57) (k := 0) (x := 0) rfl ?_
      have hw21 : wf (aI (aI (aI (aI (aI A 56 9 a0) 56 10 a1) 56 11 a2) 56 12 (A.1 51 4)) 57 0 0) := wf_aI hw20 (by decide)
      refine rz_B.put 3 (pc' := 90) (L' := [some (.ref 56), some (vI a0), some (vI a1), some (vI a2), some (vI 0), none, none, none]) (S' := []) (c := 56) (k := 8) (x := 0) rfl ?_
      have hw22 : wf (aI (aI (aI (aI (aI (aI A 56 9 a0) 56 10 a1) 56 11 a2) 56 12 (A.1 51 4)) 57 0 0) 56 8 0) := wf_aI hw21 (by decide)
      refine rz_B.go 2 (pc' := 93) (L' := [some (.ref 56), some (vI a0), some (vI a1), some (vI a2), some (vI 0), some (vI 0), none, none]) (S' := []) rfl ?_
      refine rz_B.more (rg_le_ok (L := [some (.ref 56), some (vI a0), some (vI a1), some (vI a2), none, some (vI 0), none, none]) (by simp [rg_le])) ?_
      exact cx72_draw_93 F F _ _ _ _ _ _ _ h ha0 ha1 ha2 (by decide) hw22
  · have h := if_F h hc1
    refine rz_B.ifT (mt (eq32 (hw 56 9).1 ha0).mp hc1) ?_
    refine rz_B.put 7 (pc' := 56) (L' := [some (.ref 56), some (vI a0), some (vI a1), some (vI a2), some (vI 0), none, none, none]) (S' := []) (c := 56) (k := 9) (x := a0) rfl ?_
    have hw23 : wf (aI A 56 9 a0) := wf_aI hw ha0
    refine rz_B.put 3 (pc' := 61) (L' := [some (.ref 56), some (vI a0), some (vI a1), some (vI a2), some (vI 0), none, none, none]) (S' := []) (c := 56) (k := 10) (x := a1) rfl ?_
    have hw24 : wf (aI (aI A 56 9 a0) 56 10 a1) := wf_aI hw23 ha1
    refine rz_B.put 3 (pc' := 66) (L' := [some (.ref 56), some (vI a0), some (vI a1), some (vI a2), some (vI 0), none, none, none]) (S' := []) (c := 56) (k := 11) (x := a2) rfl ?_
    have hw25 : wf (aI (aI (aI A 56 9 a0) 56 10 a1) 56 11 a2) := wf_aI hw24 ha2
    refine rz_B.put 5 (pc' := 77) (L' := [some (.ref 56), some (vI a0), some (vI a1), some (vI a2), some (vI 0), none, none, none]) (S' := []) (c := 56) (k := 12) (x := (A.1 51 4)) rfl ?_
    have hw26 : wf (aI (aI (aI (aI A 56 9 a0) 56 10 a1) 56 11 a2) 56 12 (A.1 51 4)) := wf_aI hw25 (hw 51 4).1
    refine rz_B.put 4 (pc' := 85) (L' := [some (.ref 56), some (vI a0), some (vI a1), some (vI a2), some (vI 0), none, none, none]) (S' := []) (c := 57) (k := 0) (x := 0) rfl ?_
    have hw27 : wf (aI (aI (aI (aI (aI A 56 9 a0) 56 10 a1) 56 11 a2) 56 12 (A.1 51 4)) 57 0 0) := wf_aI hw26 (by decide)
    refine rz_B.put 3 (pc' := 90) (L' := [some (.ref 56), some (vI a0), some (vI a1), some (vI a2), some (vI 0), none, none, none]) (S' := []) (c := 56) (k := 8) (x := 0) rfl ?_
    have hw28 : wf (aI (aI (aI (aI (aI (aI A 56 9 a0) 56 10 a1) 56 11 a2) 56 12 (A.1 51 4)) 57 0 0) 56 8 0) := wf_aI hw27 (by decide)
    refine rz_B.go 2 (pc' := 93) (L' := [some (.ref 56), some (vI a0), some (vI a1), some (vI a2), some (vI 0), some (vI 0), none, none]) (S' := []) rfl ?_
    refine rz_B.more (rg_le_ok (L := [some (.ref 56), some (vI a0), some (vI a1), some (vI a2), none, some (vI 0), none, none]) (by simp [rg_le])) ?_
    exact cx72_draw_93 F F _ _ _ _ _ _ _ h ha0 ha1 ha2 (by decide) hw28
/-- RiverGauge$Rating.drawAt(II)V -/
def x69_drawAt (F : Nat) (a0 : Int) (a1 : Int) (A : rz_A) : Option (Unit × rz_A) :=
  rz_b (x70_stretchStart F a0 a1 A) fun r1 A1 =>
  rz_b (x71_stretchEnd F a0 a1 A1) fun r2 A2 =>
  rz_b (x72_draw F a0 r1 r2 A2) fun _ A3 =>
  some ((), A3)
theorem cx69_drawAt (F : Nat) {d : Nat} {a0 : Int} {a1 : Int} {A : rz_A} {r : Unit} {A' : rz_A} (h : x69_drawAt F a0 a1 A = some (r, A')) (ha0 : r32 a0) (ha1 : r32 a1) (hw : wf A) : rg_Rn (d + 4) 69 [.ref 56, vI a0, vI a1] (toM A) (none) (toM A') ∧ (True) ∧ wf A' := by
  show rz_B (d + 4) 69 0 [some (.ref 56), some (vI a0), some (vI a1)] [] A (none) A' (True)
  unfold x69_drawAt at h
  refine rz_B.go 6 (pc' := 8) (L' := [some (.ref 56), some (vI a0), some (vI a1)]) (S' := [vI a1, vI a0, .ref 2, vI a0, .ref 56]) rfl ?_
  obtain ⟨r1, A1, hf1, h⟩ := rz_b_inv h
  obtain ⟨hg1, hr1, hw1⟩ := cx70_stretchStart F (d := d + 3) hf1 ha0 ha1 hw
  refine rz_B.call (d := d + 3) (as := [.ref 2, vI a0, vI a1]) (rest := [vI a0, .ref 56]) (w := some (vI r1)) rfl hg1 ?_
  refine rz_B.go 4 (pc' := 17) (L' := [some (.ref 56), some (vI a0), some (vI a1)]) (S' := [vI a1, vI a0, .ref 2, vI r1, vI a0, .ref 56]) rfl ?_
  obtain ⟨r2, A2, hf2, h⟩ := rz_b_inv h
  obtain ⟨hg2, hr2, hw2⟩ := cx71_stretchEnd F (d := d + 3) hf2 ha0 ha1 hw1
  refine rz_B.call (d := d + 3) (as := [.ref 2, vI a0, vI a1]) (rest := [vI r1, vI a0, .ref 56]) (w := some (vI r2)) rfl hg2 ?_
  obtain ⟨_, A3, hf3, h⟩ := rz_b_inv h
  obtain ⟨hg3, hr3, hw3⟩ := cx72_draw F (d := d + 0) hf3 ha0 hr1 hr2 hw2
  refine rz_B.call (d := d + 3) (as := [.ref 56, vI a0, vI r1, vI r2]) (rest := []) (w := none) rfl hg3 ?_
  cases h
  exact rz_B.ret rfl trivial hw3
/-- RiverGauge.points(III)I -/
def x68_points (F : Nat) (a0 : Int) (a1 : Int) (a2 : Int) (A : rz_A) : Option (Int × rz_A) :=
  rz_b (x9_whyNotAt F a0 a1 a2 A) fun r1 A1 =>
  if r1 = 0 then
    rz_b (x20_see F a2 A1) fun _ A3 =>
    rz_b (x69_drawAt F a0 a1 A3) fun _ A4 =>
    some ((A4.1 57 0), A4)
  else
    rz_b (x1_refuse F r1 A1) fun r5 A5 =>
    some (r5, A5)
theorem cx68_points (F : Nat) {d : Nat} {a0 : Int} {a1 : Int} {a2 : Int} {A : rz_A} {r : Int} {A' : rz_A} (h : x68_points F a0 a1 a2 A = some (r, A')) (ha0 : r32 a0) (ha1 : r32 a1) (ha2 : r32 a2) (hw : wf A) : rg_Rn (d + 6) 68 [.ref 0, vI a0, vI a1, vI a2] (toM A) (some (vI r)) (toM A') ∧ (r32 r) ∧ wf A' := by
  show rz_B (d + 6) 68 0 [some (.ref 0), some (vI a0), some (vI a1), some (vI a2), none] [] A (some (vI r)) A' (r32 r)
  unfold x68_points at h
  refine rz_B.go 4 (pc' := 4) (L' := [some (.ref 0), some (vI a0), some (vI a1), some (vI a2), none]) (S' := [vI a2, vI a1, vI a0, .ref 0]) rfl ?_
  obtain ⟨r1, A1, hf1, h⟩ := rz_b_inv h
  obtain ⟨hg1, hr1, hw1⟩ := cx9_whyNotAt F (d := d + 4) hf1 ha0 ha1 ha2 hw
  refine rz_B.call (d := d + 5) (as := [.ref 0, vI a0, vI a1, vI a2]) (rest := []) (w := some (vI r1)) rfl hg1 ?_
  refine rz_B.go 3 (pc' := if decide (Int32.ofInt r1 = Int32.ofInt 0) = true then 21 else 14) (L' := [some (.ref 0), some (vI a0), some (vI a1), some (vI a2), some (vI r1)]) (S' := []) rfl ?_
  by_cases hc2 : r1 = 0
  · have h := if_T h hc2
    refine rz_B.ifT ((eq32 hr1 (by decide)).mpr hc2) ?_
    refine rz_B.go 3 (pc' := 26) (L' := [some (.ref 0), some (vI a0), some (vI a1), some (vI a2), some (vI r1)]) (S' := [vI a2, .ref 51]) rfl ?_
    obtain ⟨_, A3, hf3, h⟩ := rz_b_inv h
    obtain ⟨hg3, hr3, hw3⟩ := cx20_see F (d := d + 0) hf3 ha2 hw1
    refine rz_B.call (d := d + 5) (as := [.ref 51, vI a2]) (rest := []) (w := none) rfl hg3 ?_
    refine rz_B.go 4 (pc' := 35) (L' := [some (.ref 0), some (vI a0), some (vI a1), some (vI a2), some (vI r1)]) (S' := [vI a1, vI a0, .ref 56]) rfl ?_
    obtain ⟨_, A4, hf4, h⟩ := rz_b_inv h
    obtain ⟨hg4, hr4, hw4⟩ := cx69_drawAt F (d := d + 1) hf4 ha0 ha1 hw3
    refine rz_B.call (d := d + 5) (as := [.ref 56, vI a0, vI a1]) (rest := []) (w := none) rfl hg4 ?_
    refine rz_B.go 4 (pc' := 48) (L' := [some (.ref 0), some (vI a0), some (vI a1), some (vI a2), some (vI r1)]) (S' := [vI (A4.1 57 0)]) rfl ?_
    cases h
    exact rz_B.ret rfl (hw4 57 0).1 hw4
  · have h := if_F h hc2
    refine rz_B.ifF (mt (eq32 hr1 (by decide)).mp hc2) ?_
    refine rz_B.go 2 (pc' := 17) (L' := [some (.ref 0), some (vI a0), some (vI a1), some (vI a2), some (vI r1)]) (S' := [vI r1, .ref 0]) rfl ?_
    obtain ⟨r5, A5, hf5, h⟩ := rz_b_inv h
    obtain ⟨hg5, hr5, hw5⟩ := cx1_refuse F (d := d + 5) hf5 hr1 hw1
    refine rz_B.call (d := d + 5) (as := [.ref 0, vI r1]) (rest := []) (w := some (vI r5)) rfl hg5 ?_
    cases h
    exact rz_B.ret rfl hr5 hw5
/-- RiverGauge.point(IIIII)I -/
def x78_point (F : Nat) (a0 : Int) (a1 : Int) (a2 : Int) (a3 : Int) (a4 : Int) (A : rz_A) : Option (Int × rz_A) :=
  rz_b (x5_has F a0 A) fun r1 A1 =>
  if r1 = 0 then
    rz_b (x10_refuseAsTold F (-1) A1) fun r3 A3 =>
    some (r3, A3)
  else
    if 0 ≤ a4 then
      if 1 < a4 then
        rz_b (x10_refuseAsTold F (-2) A1) fun r6 A6 =>
        some (r6, A6)
      else
        rz_b (x9_whyNotAt F a0 a1 a2 A1) fun r7 A7 =>
        if r7 = 0 then
          rz_b (x20_see F a2 A7) fun _ A9 =>
          rz_b (x69_drawAt F a0 a1 A9) fun _ A10 =>
          if 0 ≤ a3 then
            if (A10.1 57 0) ≤ a3 then
              rz_b (x10_refuseAsTold F (-5) A10) fun r13 A13 =>
              some (r13, A13)
            else
              if a4 = 0 then
                rz_gx a3 60 <|
                some ((A10.1 58 (a3).toNat), A10)
              else
                rz_gx a3 60 <|
                some ((A10.1 59 (a3).toNat), A10)
          else
            rz_b (x10_refuseAsTold F (-5) A10) fun r19 A19 =>
            some (r19, A19)
        else
          rz_b (x10_refuseAsTold F r7 A7) fun r20 A20 =>
          some (r20, A20)
    else
      rz_b (x10_refuseAsTold F (-2) A1) fun r21 A21 =>
      some (r21, A21)
theorem cx78_point (F : Nat) {d : Nat} {a0 : Int} {a1 : Int} {a2 : Int} {a3 : Int} {a4 : Int} {A : rz_A} {r : Int} {A' : rz_A} (h : x78_point F a0 a1 a2 a3 a4 A = some (r, A')) (ha0 : r32 a0) (ha1 : r32 a1) (ha2 : r32 a2) (ha3 : r32 a3) (ha4 : r32 a4) (hw : wf A) : rg_Rn (d + 6) 78 [.ref 0, vI a0, vI a1, vI a2, vI a3, vI a4] (toM A) (some (vI r)) (toM A') ∧ (r32 r) ∧ wf A' := by
  show rz_B (d + 6) 78 0 [some (.ref 0), some (vI a0), some (vI a1), some (vI a2), some (vI a3), some (vI a4), none] [] A (some (vI r)) A' (r32 r)
  unfold x78_point at h
  refine rz_B.go 3 (pc' := 5) (L' := [some (.ref 0), some (vI a0), some (vI a1), some (vI a2), some (vI a3), some (vI a4), none]) (S' := [vI a0, .ref 2]) rfl ?_
  obtain ⟨r1, A1, hf1, h⟩ := rz_b_inv h
  obtain ⟨hg1, hr1, hw1⟩ := cx5_has F (d := d + 5) hf1 ha0 hw
  refine rz_B.call (d := d + 5) (as := [.ref 2, vI a0]) (rest := []) (w := some (vI r1)) rfl hg1 ?_
  refine rz_B.go 1 (pc' := if decide (¬ Int32.ofInt r1 = Int32.ofInt 0) = true then 17 else 11) (L' := [some (.ref 0), some (vI a0), some (vI a1), some (vI a2), some (vI a3), some (vI a4), none]) (S' := []) rfl ?_
  by_cases hc2 : r1 = 0
  · have h := if_T h hc2
    refine rz_B.ifF (fun hn => hn ((eq32 hr1 (by decide)).mpr hc2)) ?_
    refine rz_B.go 2 (pc' := 13) (L' := [some (.ref 0), some (vI a0), some (vI a1), some (vI a2), some (vI a3), some (vI a4), none]) (S' := [vI (-1), .ref 0]) rfl ?_
    obtain ⟨r3, A3, hf3, h⟩ := rz_b_inv h
    obtain ⟨hg3, hr3, hw3⟩ := cx10_refuseAsTold F (d := d + 4) hf3 (by decide) hw1
    refine rz_B.call (d := d + 5) (as := [.ref 0, vI (-1)]) (rest := []) (w := some (vI r3)) rfl hg3 ?_
    cases h
    exact rz_B.ret rfl hr3 hw3
  · have h := if_F h hc2
    refine rz_B.ifT (mt (eq32 hr1 (by decide)).mp hc2) ?_
    refine rz_B.go 2 (pc' := if decide (Int32.ofInt a4 < Int32.ofInt 0) = true then 28 else 22) (L' := [some (.ref 0), some (vI a0), some (vI a1), some (vI a2), some (vI a3), some (vI a4), none]) (S' := []) rfl ?_
    by_cases hc4 : 0 ≤ a4
    · have h := if_T h hc4
      refine rz_B.ifF (mt (lt32 ha4 (by decide)).mp (Int.not_lt.mpr hc4)) ?_
      refine rz_B.go 3 (pc' := if decide (Int32.ofInt a4 ≤ Int32.ofInt 1) = true then 35 else 28) (L' := [some (.ref 0), some (vI a0), some (vI a1), some (vI a2), some (vI a3), some (vI a4), none]) (S' := []) rfl ?_
      by_cases hc5 : 1 < a4
      · have h := if_T h hc5
        refine rz_B.ifF (mt (le32 ha4 (by decide)).mp (Int.not_le.mpr hc5)) ?_
        refine rz_B.go 2 (pc' := 31) (L' := [some (.ref 0), some (vI a0), some (vI a1), some (vI a2), some (vI a3), some (vI a4), none]) (S' := [vI (-2), .ref 0]) rfl ?_
        obtain ⟨r6, A6, hf6, h⟩ := rz_b_inv h
        obtain ⟨hg6, hr6, hw6⟩ := cx10_refuseAsTold F (d := d + 4) hf6 (by decide) hw1
        refine rz_B.call (d := d + 5) (as := [.ref 0, vI (-2)]) (rest := []) (w := some (vI r6)) rfl hg6 ?_
        cases h
        exact rz_B.ret rfl hr6 hw6
      · have h := if_F h hc5
        refine rz_B.ifT ((le32 ha4 (by decide)).mpr (Int.not_lt.mp hc5)) ?_
        refine rz_B.go 4 (pc' := 39) (L' := [some (.ref 0), some (vI a0), some (vI a1), some (vI a2), some (vI a3), some (vI a4), none]) (S' := [vI a2, vI a1, vI a0, .ref 0]) rfl ?_
        obtain ⟨r7, A7, hf7, h⟩ := rz_b_inv h
        obtain ⟨hg7, hr7, hw7⟩ := cx9_whyNotAt F (d := d + 4) hf7 ha0 ha1 ha2 hw1
        refine rz_B.call (d := d + 5) (as := [.ref 0, vI a0, vI a1, vI a2]) (rest := []) (w := some (vI r7)) rfl hg7 ?_
        refine rz_B.go 3 (pc' := if decide (Int32.ofInt r7 = Int32.ofInt 0) = true then 56 else 49) (L' := [some (.ref 0), some (vI a0), some (vI a1), some (vI a2), some (vI a3), some (vI a4), some (vI r7)]) (S' := []) rfl ?_
        by_cases hc8 : r7 = 0
        · have h := if_T h hc8
          refine rz_B.ifT ((eq32 hr7 (by decide)).mpr hc8) ?_
          refine rz_B.go 3 (pc' := 61) (L' := [some (.ref 0), some (vI a0), some (vI a1), some (vI a2), some (vI a3), some (vI a4), some (vI r7)]) (S' := [vI a2, .ref 51]) rfl ?_
          obtain ⟨_, A9, hf9, h⟩ := rz_b_inv h
          obtain ⟨hg9, hr9, hw9⟩ := cx20_see F (d := d + 0) hf9 ha2 hw7
          refine rz_B.call (d := d + 5) (as := [.ref 51, vI a2]) (rest := []) (w := none) rfl hg9 ?_
          refine rz_B.go 4 (pc' := 70) (L' := [some (.ref 0), some (vI a0), some (vI a1), some (vI a2), some (vI a3), some (vI a4), some (vI r7)]) (S' := [vI a1, vI a0, .ref 56]) rfl ?_
          obtain ⟨_, A10, hf10, h⟩ := rz_b_inv h
          obtain ⟨hg10, hr10, hw10⟩ := cx69_drawAt F (d := d + 1) hf10 ha0 ha1 hw9
          refine rz_B.call (d := d + 5) (as := [.ref 56, vI a0, vI a1]) (rest := []) (w := none) rfl hg10 ?_
          refine rz_B.go 2 (pc' := if decide (Int32.ofInt a3 < Int32.ofInt 0) = true then 93 else 78) (L' := [some (.ref 0), some (vI a0), some (vI a1), some (vI a2), some (vI a3), some (vI a4), some (vI r7)]) (S' := []) rfl ?_
          by_cases hc11 : 0 ≤ a3
          · have h := if_T h hc11
            refine rz_B.ifF (mt (lt32 ha3 (by decide)).mp (Int.not_lt.mpr hc11)) ?_
            refine rz_B.go 6 (pc' := if decide (Int32.ofInt a3 < Int32.ofInt (A10.1 57 0)) = true then 100 else 93) (L' := [some (.ref 0), some (vI a0), some (vI a1), some (vI a2), some (vI a3), some (vI a4), some (vI r7)]) (S' := []) rfl ?_
            by_cases hc12 : (A10.1 57 0) ≤ a3
            · have h := if_T h hc12
              refine rz_B.ifF (mt (lt32 ha3 (hw10 57 0).1).mp (Int.not_lt.mpr hc12)) ?_
              refine rz_B.go 2 (pc' := 96) (L' := [some (.ref 0), some (vI a0), some (vI a1), some (vI a2), some (vI a3), some (vI a4), some (vI r7)]) (S' := [vI (-5), .ref 0]) rfl ?_
              obtain ⟨r13, A13, hf13, h⟩ := rz_b_inv h
              obtain ⟨hg13, hr13, hw13⟩ := cx10_refuseAsTold F (d := d + 4) hf13 (by decide) hw10
              refine rz_B.call (d := d + 5) (as := [.ref 0, vI (-5)]) (rest := []) (w := some (vI r13)) rfl hg13 ?_
              cases h
              exact rz_B.ret rfl hr13 hw13
            · have h := if_F h hc12
              refine rz_B.ifT ((lt32 ha3 (hw10 57 0).1).mpr (Int.not_le.mp hc12)) ?_
              refine rz_B.go 2 (pc' := if decide (¬ Int32.ofInt a4 = Int32.ofInt 0) = true then 121 else 105) (L' := [some (.ref 0), some (vI a0), some (vI a1), some (vI a2), some (vI a3), some (vI a4), some (vI r7)]) (S' := []) rfl ?_
              by_cases hc14 : a4 = 0
              · have h := if_T h hc14
                refine rz_B.ifF (fun hn => hn ((eq32 ha4 (by decide)).mpr hc14)) ?_
                refine rz_B.go 5 (pc' := 117) (L' := [some (.ref 0), some (vI a0), some (vI a1), some (vI a2), some (vI a3), some (vI a4), some (vI r7)]) (S' := [vI a3, .ref 58]) rfl ?_
                obtain ⟨hi15, hj16, h⟩ := rz_gx_inv h
                refine rz_B.iald rfl rfl hi15 hj16 (by decide) ?_
                refine rz_B.go 1 (pc' := 134) (L' := [some (.ref 0), some (vI a0), some (vI a1), some (vI a2), some (vI a3), some (vI a4), some (vI r7)]) (S' := [vI (A10.1 58 (a3).toNat)]) rfl ?_
                cases h
                exact rz_B.ret rfl (hw10 58 (a3).toNat).1 hw10
              · have h := if_F h hc14
                refine rz_B.ifT (mt (eq32 ha4 (by decide)).mp hc14) ?_
                refine rz_B.go 5 (pc' := 133) (L' := [some (.ref 0), some (vI a0), some (vI a1), some (vI a2), some (vI a3), some (vI a4), some (vI r7)]) (S' := [vI a3, .ref 59]) rfl ?_
                obtain ⟨hi17, hj18, h⟩ := rz_gx_inv h
                refine rz_B.iald rfl rfl hi17 hj18 (by decide) ?_
                cases h
                exact rz_B.ret rfl (hw10 59 (a3).toNat).1 hw10
          · have h := if_F h hc11
            refine rz_B.ifT ((lt32 ha3 (by decide)).mpr (Int.not_le.mp hc11)) ?_
            refine rz_B.go 2 (pc' := 96) (L' := [some (.ref 0), some (vI a0), some (vI a1), some (vI a2), some (vI a3), some (vI a4), some (vI r7)]) (S' := [vI (-5), .ref 0]) rfl ?_
            obtain ⟨r19, A19, hf19, h⟩ := rz_b_inv h
            obtain ⟨hg19, hr19, hw19⟩ := cx10_refuseAsTold F (d := d + 4) hf19 (by decide) hw10
            refine rz_B.call (d := d + 5) (as := [.ref 0, vI (-5)]) (rest := []) (w := some (vI r19)) rfl hg19 ?_
            cases h
            exact rz_B.ret rfl hr19 hw19
        · have h := if_F h hc8
          refine rz_B.ifF (mt (eq32 hr7 (by decide)).mp hc8) ?_
          refine rz_B.go 2 (pc' := 52) (L' := [some (.ref 0), some (vI a0), some (vI a1), some (vI a2), some (vI a3), some (vI a4), some (vI r7)]) (S' := [vI r7, .ref 0]) rfl ?_
          obtain ⟨r20, A20, hf20, h⟩ := rz_b_inv h
          obtain ⟨hg20, hr20, hw20⟩ := cx10_refuseAsTold F (d := d + 4) hf20 hr7 hw7
          refine rz_B.call (d := d + 5) (as := [.ref 0, vI r7]) (rest := []) (w := some (vI r20)) rfl hg20 ?_
          cases h
          exact rz_B.ret rfl hr20 hw20
    · have h := if_F h hc4
      refine rz_B.ifT ((lt32 ha4 (by decide)).mpr (Int.not_le.mp hc4)) ?_
      refine rz_B.go 2 (pc' := 31) (L' := [some (.ref 0), some (vI a0), some (vI a1), some (vI a2), some (vI a3), some (vI a4), none]) (S' := [vI (-2), .ref 0]) rfl ?_
      obtain ⟨r21, A21, hf21, h⟩ := rz_b_inv h
      obtain ⟨hg21, hr21, hw21⟩ := cx10_refuseAsTold F (d := d + 4) hf21 (by decide) hw1
      refine rz_B.call (d := d + 5) (as := [.ref 0, vI (-2)]) (rest := []) (w := some (vI r21)) rfl hg21 ?_
      cases h
      exact rz_B.ret rfl hr21 hw21
/-- RiverGauge$Points.flowBelow(II)I -/
def x81_flowBelow_c (F : Nat) (a0 : Int) (a1 : Int) (A : rz_A) : Option (Int × rz_A) :=
  if (A.1 58 0) ≤ a1 then
    some ((A.1 59 0), A)
  else
    if a0 ≤ a1 then
      some (0, A)
    else
      rz_g32 (a0 - a1) <|
      rz_g32 ((A.1 58 0) - a1) <|
      rz_b (x77_share F (A.1 59 0) (a0 - a1) ((A.1 58 0) - a1) A) fun r5 A5 =>
      rz_g32 r5 <|
      some (r5, A5)
theorem cx81_flowBelow_c (F : Nat) {d : Nat} {a0 : Int} {a1 : Int} {A : rz_A} {r : Int} {A' : rz_A} (h : x81_flowBelow_c F a0 a1 A = some (r, A')) (ha0 : r32 a0) (ha1 : r32 a1) (hw : wf A) : rg_Rn (d + 1) 81 [.ref 57, vI a0, vI a1] (toM A) (some (vI r)) (toM A') ∧ (r32 r) ∧ wf A' := by
  show rz_B (d + 1) 81 0 [some (.ref 57), some (vI a0), some (vI a1)] [] A (some (vI r)) A' (r32 r)
  unfold x81_flowBelow_c at h
  refine rz_B.go 3 (pc' := 5) (L' := [some (.ref 57), some (vI a0), some (vI a1)]) (S' := [vI 0, .ref 58]) rfl ?_
  refine rz_B.iald rfl rfl (by decide) (by decide) (by decide) ?_
  refine rz_B.go 2 (pc' := if decide (Int32.ofInt a1 < Int32.ofInt (A.1 58 0)) = true then 17 else 10) (L' := [some (.ref 57), some (vI a0), some (vI a1)]) (S' := []) rfl ?_
  by_cases hc1 : (A.1 58 0) ≤ a1
  · have h := if_T h hc1
    refine rz_B.ifF (mt (lt32 ha1 (hw 58 0).1).mp (Int.not_lt.mpr hc1)) ?_
    refine rz_B.go 3 (pc' := 15) (L' := [some (.ref 57), some (vI a0), some (vI a1)]) (S' := [vI 0, .ref 59]) rfl ?_
    refine rz_B.iald rfl rfl (by decide) (by decide) (by decide) ?_
    cases h
    exact rz_B.ret rfl (hw 59 0).1 hw
  · have h := if_F h hc1
    refine rz_B.ifT ((lt32 ha1 (hw 58 0).1).mpr (Int.not_le.mp hc1)) ?_
    refine rz_B.go 3 (pc' := if decide (Int32.ofInt a1 < Int32.ofInt a0) = true then 24 else 22) (L' := [some (.ref 57), some (vI a0), some (vI a1)]) (S' := []) rfl ?_
    by_cases hc2 : a0 ≤ a1
    · have h := if_T h hc2
      refine rz_B.ifF (mt (lt32 ha1 ha0).mp (Int.not_lt.mpr hc2)) ?_
      refine rz_B.go 1 (pc' := 23) (L' := [some (.ref 57), some (vI a0), some (vI a1)]) (S' := [vI 0]) rfl ?_
      cases h
      exact rz_B.ret rfl (by decide) hw
    · have h := if_F h hc2
      refine rz_B.ifT ((lt32 ha1 ha0).mpr (Int.not_le.mp hc2)) ?_
      refine rz_B.go 3 (pc' := 29) (L' := [some (.ref 57), some (vI a0), some (vI a1)]) (S' := [vI 0, .ref 59]) rfl ?_
      refine rz_B.iald rfl rfl (by decide) (by decide) (by decide) ?_
      refine rz_B.i2l rfl (hw 59 0).1 ?_
      refine rz_B.go 2 (pc' := 33) (L' := [some (.ref 57), some (vI a0), some (vI a1)]) (S' := [vI a1, vI a0, vL (A.1 59 0)]) rfl ?_
      obtain ⟨hk3, h⟩ := rz_g32_inv h
      refine rz_B.isub rfl ?_
      refine rz_B.i2l rfl hk3 ?_
      refine rz_B.go 3 (pc' := 40) (L' := [some (.ref 57), some (vI a0), some (vI a1)]) (S' := [vI 0, .ref 58, vL (a0 - a1), vL (A.1 59 0)]) rfl ?_
      refine rz_B.iald rfl rfl (by decide) (by decide) (by decide) ?_
      refine rz_B.go 1 (pc' := 42) (L' := [some (.ref 57), some (vI a0), some (vI a1)]) (S' := [vI a1, vI (A.1 58 0), vL (a0 - a1), vL (A.1 59 0)]) rfl ?_
      obtain ⟨hk4, h⟩ := rz_g32_inv h
      refine rz_B.isub rfl ?_
      refine rz_B.i2l rfl hk4 ?_
      obtain ⟨r5, A5, hf5, h⟩ := rz_b_inv h
      obtain ⟨hg5, hr5, hw5⟩ := cx77_share F (d := d + 0) hf5 (r64_of (hw 59 0).1) (r64_of hk3) (r64_of hk4) hw
      refine rz_B.call (d := d + 0) (as := [vL (A.1 59 0), vL (a0 - a1), vL ((A.1 58 0) - a1)]) (rest := []) (w := some (vL r5)) rfl hg5 ?_
      obtain ⟨hk6, h⟩ := rz_g32_inv h
      refine rz_B.l2i rfl ?_
      cases h
      exact rz_B.ret rfl hk6 hw5
def x80_flowBy_c_71 (F : Nat) (v1 : Int) (v3 : Int) (A : rz_A) : Option (Int × rz_A) :=
  rz_g32 (v3 + 1) <|
  rz_gx (v3 + 1) 60 <|
  rz_gx v3 60 <|
  rz_g32 ((A.1 59 ((v3 + 1)).toNat) - (A.1 59 (v3).toNat)) <|
  rz_g32 (v1 - (A.1 58 (v3).toNat)) <|
  rz_g32 ((A.1 58 ((v3 + 1)).toNat) - (A.1 58 (v3).toNat)) <|
  rz_b (x77_share F ((A.1 59 ((v3 + 1)).toNat) - (A.1 59 (v3).toNat)) (v1 - (A.1 58 (v3).toNat)) ((A.1 58 ((v3 + 1)).toNat) - (A.1 58 (v3).toNat)) A) fun r9 A9 =>
  rz_g64 ((A9.1 59 (v3).toNat) + r9) <|
  rz_b (x28_min F ((A9.1 59 (v3).toNat) + r9) 99999999 A9) fun r11 A11 =>
  rz_g32 r11 <|
  some (r11, A11)
theorem cx80_flowBy_c_71 {d : Nat} (F : Nat) : ∀ (v1 : Int) (v3 : Int) (A : rz_A) (r : Int) (A' : rz_A), x80_flowBy_c_71 F v1 v3 A = some (r, A') → r32 v1 → r32 v3 → wf A → rz_B (d + 2) 80 71 [some (.ref 57), some (vI v1), none, some (vI v3), none, none] [] A (some (vI r)) A' (r32 r) := by
  intro v1 v3 A r A' h hv1 hv3 hw
  unfold x80_flowBy_c_71 at h
  refine rz_B.go 4 (pc' := 77) (L' := [some (.ref 57), some (vI v1), none, some (vI v3), none, none]) (S' := [vI 1, vI v3, .ref 59]) rfl ?_
  obtain ⟨hk1, h⟩ := rz_g32_inv h
  refine rz_B.iadd rfl ?_
  obtain ⟨hi2, hj3, h⟩ := rz_gx_inv h
  refine rz_B.iald rfl rfl hi2 hj3 (by decide) ?_
  refine rz_B.go 3 (pc' := 84) (L' := [some (.ref 57), some (vI v1), none, some (vI v3), none, none]) (S' := [vI v3, .ref 59, vI (A.1 59 ((v3 + 1)).toNat)]) rfl ?_
  obtain ⟨hi4, hj5, h⟩ := rz_gx_inv h
  refine rz_B.iald rfl rfl hi4 hj5 (by decide) ?_
  obtain ⟨hk6, h⟩ := rz_g32_inv h
  refine rz_B.isub rfl ?_
  refine rz_B.i2l rfl hk6 ?_
  refine rz_B.go 4 (pc' := 93) (L' := [some (.ref 57), some (vI v1), none, some (vI v3), none, none]) (S' := [vI v3, .ref 58, vI v1, vL ((A.1 59 ((v3 + 1)).toNat) - (A.1 59 (v3).toNat))]) rfl ?_
  refine rz_B.iald rfl rfl hi4 hj5 (by decide) ?_
  obtain ⟨hk7, h⟩ := rz_g32_inv h
  refine rz_B.isub rfl ?_
  refine rz_B.i2l rfl hk7 ?_
  refine rz_B.go 4 (pc' := 102) (L' := [some (.ref 57), some (vI v1), none, some (vI v3), none, none]) (S' := [vI 1, vI v3, .ref 58, vL (v1 - (A.1 58 (v3).toNat)), vL ((A.1 59 ((v3 + 1)).toNat) - (A.1 59 (v3).toNat))]) rfl ?_
  refine rz_B.iadd rfl ?_
  refine rz_B.iald rfl rfl hi2 hj3 (by decide) ?_
  refine rz_B.go 3 (pc' := 109) (L' := [some (.ref 57), some (vI v1), none, some (vI v3), none, none]) (S' := [vI v3, .ref 58, vI (A.1 58 ((v3 + 1)).toNat), vL (v1 - (A.1 58 (v3).toNat)), vL ((A.1 59 ((v3 + 1)).toNat) - (A.1 59 (v3).toNat))]) rfl ?_
  refine rz_B.iald rfl rfl hi4 hj5 (by decide) ?_
  obtain ⟨hk8, h⟩ := rz_g32_inv h
  refine rz_B.isub rfl ?_
  refine rz_B.i2l rfl hk8 ?_
  obtain ⟨r9, A9, hf9, h⟩ := rz_b_inv h
  obtain ⟨hg9, hr9, hw9⟩ := cx77_share F (d := d + 1) hf9 (r64_of hk6) (r64_of hk7) (r64_of hk8) hw
  refine rz_B.call (d := d + 1) (as := [vL ((A.1 59 ((v3 + 1)).toNat) - (A.1 59 (v3).toNat)), vL (v1 - (A.1 58 (v3).toNat)), vL ((A.1 58 ((v3 + 1)).toNat) - (A.1 58 (v3).toNat))]) (rest := []) (w := some (vL r9)) rfl hg9 ?_
  refine rz_B.go 4 (pc' := 122) (L' := [some (.ref 57), some (vI v1), none, some (vI v3), some (vL r9), none]) (S' := [vI v3, .ref 59]) rfl ?_
  refine rz_B.iald rfl rfl hi4 hj5 (by decide) ?_
  refine rz_B.i2l rfl (hw9 59 (v3).toNat).1 ?_
  refine rz_B.go 1 (pc' := 126) (L' := [some (.ref 57), some (vI v1), none, some (vI v3), some (vL r9), none]) (S' := [vL r9, vL (A9.1 59 (v3).toNat)]) rfl ?_
  obtain ⟨hk10, h⟩ := rz_g64_inv h
  refine rz_B.ladd rfl ?_
  refine rz_B.go 1 (pc' := 130) (L' := [some (.ref 57), some (vI v1), none, some (vI v3), some (vL r9), none]) (S' := [vL 99999999, vL ((A9.1 59 (v3).toNat) + r9)]) rfl ?_
  obtain ⟨r11, A11, hf11, h⟩ := rz_b_inv h
  obtain ⟨hg11, hr11, hw11⟩ := cx28_min F (d := d + 1) hf11 hk10 (by decide) hw9
  refine rz_B.call (d := d + 1) (as := [vL ((A9.1 59 (v3).toNat) + r9), vL 99999999]) (rest := []) (w := some (vL r11)) rfl hg11 ?_
  obtain ⟨hk12, h⟩ := rz_g32_inv h
  refine rz_B.l2i rfl ?_
  cases h
  exact rz_B.ret rfl hk12 hw11
def x80_flowBy_c_43 (F : Nat) : Nat → Int → Int → rz_A → Option (Int × rz_A)
  | 0, _, _, _ => none
  | n + 1, v1, v3, A =>
    rz_g32 ((A.1 57 0) - 2) <|
    if v3 < ((A.1 57 0) - 2) then
      rz_g32 (v3 + 1) <|
      rz_gx (v3 + 1) 60 <|
      if (A.1 58 ((v3 + 1)).toNat) ≤ v1 then
        x80_flowBy_c_43 F n v1 (v3 + 1) A
      else
        x80_flowBy_c_71 F v1 v3 A
    else
      x80_flowBy_c_71 F v1 v3 A
theorem cx80_flowBy_c_43 {d : Nat} (F : Nat) : ∀ (n : Nat) (v1 : Int) (v3 : Int) (A : rz_A) (r : Int) (A' : rz_A), x80_flowBy_c_43 F n v1 v3 A = some (r, A') → r32 v1 → r32 v3 → wf A → rz_B (d + 2) 80 43 [some (.ref 57), some (vI v1), none, some (vI v3), none, none] [] A (some (vI r)) A' (r32 r) := by
  intro n
  induction n with
  | zero => intro v1 v3 A r A' h; cases h
  | succ n ih =>
    intro v1 v3 A r A' h hv1 hv3 hw
    rw [x80_flowBy_c_43] at h
    refine rz_B.go 4 (pc' := 49) (L' := [some (.ref 57), some (vI v1), none, some (vI v3), none, none]) (S' := [vI 2, vI (A.1 57 0), vI v3]) rfl ?_
    obtain ⟨hk1, h⟩ := rz_g32_inv h
    refine rz_B.isub rfl ?_
    refine rz_B.go 1 (pc' := if decide (Int32.ofInt ((A.1 57 0) - 2) ≤ Int32.ofInt v3) = true then 71 else 53) (L' := [some (.ref 57), some (vI v1), none, some (vI v3), none, none]) (S' := []) rfl ?_
    by_cases hc2 : v3 < ((A.1 57 0) - 2)
    · have h := if_T h hc2
      refine rz_B.ifF (mt (le32 hk1 hv3).mp (Int.not_le.mpr hc2)) ?_
      refine rz_B.go 4 (pc' := 59) (L' := [some (.ref 57), some (vI v1), none, some (vI v3), none, none]) (S' := [vI 1, vI v3, .ref 58]) rfl ?_
      obtain ⟨hk3, h⟩ := rz_g32_inv h
      refine rz_B.iadd rfl ?_
      obtain ⟨hi4, hj5, h⟩ := rz_gx_inv h
      refine rz_B.iald rfl rfl hi4 hj5 (by decide) ?_
      refine rz_B.go 2 (pc' := if decide (Int32.ofInt v1 < Int32.ofInt (A.1 58 ((v3 + 1)).toNat)) = true then 71 else 65) (L' := [some (.ref 57), some (vI v1), none, some (vI v3), none, none]) (S' := []) rfl ?_
      by_cases hc6 : (A.1 58 ((v3 + 1)).toNat) ≤ v1
      · have h := if_T h hc6
        refine rz_B.ifF (mt (lt32 hv1 (hw 58 ((v3 + 1)).toNat).1).mp (Int.not_lt.mpr hc6)) ?_
        refine rz_B.iinc rfl (by decide) rfl (L' := [some (.ref 57), some (vI v1), none, some (vI (v3 + 1)), none, none]) rfl ?_
        refine rz_B.go 1 (pc' := 43) (L' := [some (.ref 57), some (vI v1), none, some (vI (v3 + 1)), none, none]) (S' := []) rfl ?_
        refine rz_B.more (rg_le_ok (L := [some (.ref 57), some (vI v1), none, some (vI (v3 + 1)), none, none]) (by simp [rg_le])) ?_
        exact ih _ _ _ _ _ h hv1 hk3 hw
      · have h := if_F h hc6
        refine rz_B.ifT ((lt32 hv1 (hw 58 ((v3 + 1)).toNat).1).mpr (Int.not_le.mp hc6)) ?_
        refine rz_B.more (rg_le_ok (L := [some (.ref 57), some (vI v1), none, some (vI v3), none, none]) (by simp [rg_le])) ?_
        exact cx80_flowBy_c_71 F _ _ _ _ _ h hv1 hv3 hw
    · have h := if_F h hc2
      refine rz_B.ifT ((le32 hk1 hv3).mpr (Int.not_lt.mp hc2)) ?_
      refine rz_B.more (rg_le_ok (L := [some (.ref 57), some (vI v1), none, some (vI v3), none, none]) (by simp [rg_le])) ?_
      exact cx80_flowBy_c_71 F _ _ _ _ _ h hv1 hv3 hw
/-- RiverGauge$Points.flowBy(II)I -/
def x80_flowBy_c (F : Nat) (a0 : Int) (a1 : Int) (A : rz_A) : Option (Int × rz_A) :=
  if (A.1 57 0) = 0 then
    some ((-1), A)
  else
    if a0 < (A.1 58 0) then
      rz_b (x81_flowBelow_c F a0 a1 A) fun r3 A3 =>
      some (r3, A3)
    else
      if (A.1 57 0) = 1 then
        some ((A.1 59 0), A)
      else
        x80_flowBy_c_43 F F a0 0 A
theorem cx80_flowBy_c (F : Nat) {d : Nat} {a0 : Int} {a1 : Int} {A : rz_A} {r : Int} {A' : rz_A} (h : x80_flowBy_c F a0 a1 A = some (r, A')) (ha0 : r32 a0) (ha1 : r32 a1) (hw : wf A) : rg_Rn (d + 2) 80 [.ref 57, vI a0, vI a1] (toM A) (some (vI r)) (toM A') ∧ (r32 r) ∧ wf A' := by
  show rz_B (d + 2) 80 0 [some (.ref 57), some (vI a0), some (vI a1), none, none, none] [] A (some (vI r)) A' (r32 r)
  unfold x80_flowBy_c at h
  refine rz_B.go 3 (pc' := if decide (¬ Int32.ofInt (A.1 57 0) = Int32.ofInt 0) = true then 9 else 7) (L' := [some (.ref 57), some (vI a0), some (vI a1), none, none, none]) (S' := []) rfl ?_
  by_cases hc1 : (A.1 57 0) = 0
  · have h := if_T h hc1
    refine rz_B.ifF (fun hn => hn ((eq32 (hw 57 0).1 (by decide)).mpr hc1)) ?_
    refine rz_B.go 1 (pc' := 8) (L' := [some (.ref 57), some (vI a0), some (vI a1), none, none, none]) (S' := [vI (-1)]) rfl ?_
    cases h
    exact rz_B.ret rfl (by decide) hw
  · have h := if_F h hc1
    refine rz_B.ifT (mt (eq32 (hw 57 0).1 (by decide)).mp hc1) ?_
    refine rz_B.go 4 (pc' := 15) (L' := [some (.ref 57), some (vI a0), some (vI a1), none, none, none]) (S' := [vI 0, .ref 58, vI a0]) rfl ?_
    refine rz_B.iald rfl rfl (by decide) (by decide) (by decide) ?_
    refine rz_B.go 1 (pc' := if decide (Int32.ofInt (A.1 58 0) ≤ Int32.ofInt a0) = true then 26 else 19) (L' := [some (.ref 57), some (vI a0), some (vI a1), none, none, none]) (S' := []) rfl ?_
    by_cases hc2 : a0 < (A.1 58 0)
    · have h := if_T h hc2
      refine rz_B.ifF (mt (le32 (hw 58 0).1 ha0).mp (Int.not_le.mpr hc2)) ?_
      refine rz_B.go 3 (pc' := 22) (L' := [some (.ref 57), some (vI a0), some (vI a1), none, none, none]) (S' := [vI a1, vI a0, .ref 57]) rfl ?_
      obtain ⟨r3, A3, hf3, h⟩ := rz_b_inv h
      obtain ⟨hg3, hr3, hw3⟩ := cx81_flowBelow_c F (d := d + 0) hf3 ha0 ha1 hw
      refine rz_B.call (d := d + 1) (as := [.ref 57, vI a0, vI a1]) (rest := []) (w := some (vI r3)) rfl hg3 ?_
      cases h
      exact rz_B.ret rfl hr3 hw3
    · have h := if_F h hc2
      refine rz_B.ifT ((le32 (hw 58 0).1 ha0).mpr (Int.not_lt.mp hc2)) ?_
      refine rz_B.go 4 (pc' := if decide (¬ Int32.ofInt (A.1 57 0) = Int32.ofInt 1) = true then 41 else 34) (L' := [some (.ref 57), some (vI a0), some (vI a1), none, none, none]) (S' := []) rfl ?_
      by_cases hc4 : (A.1 57 0) = 1
      · have h := if_T h hc4
        refine rz_B.ifF (fun hn => hn ((eq32 (hw 57 0).1 (by decide)).mpr hc4)) ?_
        refine rz_B.go 3 (pc' := 39) (L' := [some (.ref 57), some (vI a0), some (vI a1), none, none, none]) (S' := [vI 0, .ref 59]) rfl ?_
        refine rz_B.iald rfl rfl (by decide) (by decide) (by decide) ?_
        cases h
        exact rz_B.ret rfl (hw 59 0).1 hw
      · have h := if_F h hc4
        refine rz_B.ifT (mt (eq32 (hw 57 0).1 (by decide)).mp hc4) ?_
        refine rz_B.go 2 (pc' := 43) (L' := [some (.ref 57), some (vI a0), some (vI a1), some (vI 0), none, none]) (S' := []) rfl ?_
        refine rz_B.more (rg_le_ok (L := [some (.ref 57), some (vI a0), none, some (vI 0), none, none]) (by simp [rg_le])) ?_
        exact cx80_flowBy_c_43 F F _ _ _ _ _ h ha0 (by decide) hw
/-- RiverGauge.flowAt(III)I -/
def x79_flowAt (F : Nat) (a0 : Int) (a1 : Int) (a2 : Int) (A : rz_A) : Option (Int × rz_A) :=
  rz_b (x5_has F a0 A) fun r1 A1 =>
  if r1 = 0 then
    rz_b (x1_refuse F (-1) A1) fun r3 A3 =>
    some (r3, A3)
  else
    if 0 ≤ a1 then
      if a2 < (-9999) then
        rz_b (x1_refuse F (-4) A1) fun r6 A6 =>
        some (r6, A6)
      else
        if a1 ≤ 9999 then
          if 99999 < a2 then
            rz_b (x1_refuse F (-6) A1) fun r9 A9 =>
            some (r9, A9)
          else
            rz_b (x20_see F (A1.1 0 16) A1) fun _ A10 =>
            rz_b (x69_drawAt F a0 a1 A10) fun _ A11 =>
            rz_gx a0 6 <|
            rz_b (x80_flowBy_c F a2 (A11.1 4 (a0).toNat) A11) fun r14 A14 =>
            if r14 < 0 then
              rz_b (x1_refuse F (-5) A14) fun r16 A16 =>
              some (r16, A16)
            else
              some (r14, A14)
        else
          rz_b (x1_refuse F (-6) A1) fun r17 A17 =>
          some (r17, A17)
    else
      rz_b (x1_refuse F (-4) A1) fun r18 A18 =>
      some (r18, A18)
theorem cx79_flowAt (F : Nat) {d : Nat} {a0 : Int} {a1 : Int} {a2 : Int} {A : rz_A} {r : Int} {A' : rz_A} (h : x79_flowAt F a0 a1 a2 A = some (r, A')) (ha0 : r32 a0) (ha1 : r32 a1) (ha2 : r32 a2) (hw : wf A) : rg_Rn (d + 6) 79 [.ref 0, vI a0, vI a1, vI a2] (toM A) (some (vI r)) (toM A') ∧ (r32 r) ∧ wf A' := by
  show rz_B (d + 6) 79 0 [some (.ref 0), some (vI a0), some (vI a1), some (vI a2), none] [] A (some (vI r)) A' (r32 r)
  unfold x79_flowAt at h
  refine rz_B.go 3 (pc' := 5) (L' := [some (.ref 0), some (vI a0), some (vI a1), some (vI a2), none]) (S' := [vI a0, .ref 2]) rfl ?_
  obtain ⟨r1, A1, hf1, h⟩ := rz_b_inv h
  obtain ⟨hg1, hr1, hw1⟩ := cx5_has F (d := d + 5) hf1 ha0 hw
  refine rz_B.call (d := d + 5) (as := [.ref 2, vI a0]) (rest := []) (w := some (vI r1)) rfl hg1 ?_
  refine rz_B.go 1 (pc' := if decide (¬ Int32.ofInt r1 = Int32.ofInt 0) = true then 17 else 11) (L' := [some (.ref 0), some (vI a0), some (vI a1), some (vI a2), none]) (S' := []) rfl ?_
  by_cases hc2 : r1 = 0
  · have h := if_T h hc2
    refine rz_B.ifF (fun hn => hn ((eq32 hr1 (by decide)).mpr hc2)) ?_
    refine rz_B.go 2 (pc' := 13) (L' := [some (.ref 0), some (vI a0), some (vI a1), some (vI a2), none]) (S' := [vI (-1), .ref 0]) rfl ?_
    obtain ⟨r3, A3, hf3, h⟩ := rz_b_inv h
    obtain ⟨hg3, hr3, hw3⟩ := cx1_refuse F (d := d + 5) hf3 (by decide) hw1
    refine rz_B.call (d := d + 5) (as := [.ref 0, vI (-1)]) (rest := []) (w := some (vI r3)) rfl hg3 ?_
    cases h
    exact rz_B.ret rfl hr3 hw3
  · have h := if_F h hc2
    refine rz_B.ifT (mt (eq32 hr1 (by decide)).mp hc2) ?_
    refine rz_B.go 2 (pc' := if decide (Int32.ofInt a1 < Int32.ofInt 0) = true then 28 else 21) (L' := [some (.ref 0), some (vI a0), some (vI a1), some (vI a2), none]) (S' := []) rfl ?_
    by_cases hc4 : 0 ≤ a1
    · have h := if_T h hc4
      refine rz_B.ifF (mt (lt32 ha1 (by decide)).mp (Int.not_lt.mpr hc4)) ?_
      refine rz_B.go 3 (pc' := if decide (Int32.ofInt (-9999) ≤ Int32.ofInt a2) = true then 35 else 28) (L' := [some (.ref 0), some (vI a0), some (vI a1), some (vI a2), none]) (S' := []) rfl ?_
      by_cases hc5 : a2 < (-9999)
      · have h := if_T h hc5
        refine rz_B.ifF (mt (le32 (by decide) ha2).mp (Int.not_le.mpr hc5)) ?_
        refine rz_B.go 2 (pc' := 31) (L' := [some (.ref 0), some (vI a0), some (vI a1), some (vI a2), none]) (S' := [vI (-4), .ref 0]) rfl ?_
        obtain ⟨r6, A6, hf6, h⟩ := rz_b_inv h
        obtain ⟨hg6, hr6, hw6⟩ := cx1_refuse F (d := d + 5) hf6 (by decide) hw1
        refine rz_B.call (d := d + 5) (as := [.ref 0, vI (-4)]) (rest := []) (w := some (vI r6)) rfl hg6 ?_
        cases h
        exact rz_B.ret rfl hr6 hw6
      · have h := if_F h hc5
        refine rz_B.ifT ((le32 (by decide) ha2).mpr (Int.not_lt.mp hc5)) ?_
        refine rz_B.go 3 (pc' := if decide (Int32.ofInt 9999 < Int32.ofInt a1) = true then 48 else 42) (L' := [some (.ref 0), some (vI a0), some (vI a1), some (vI a2), none]) (S' := []) rfl ?_
        by_cases hc7 : a1 ≤ 9999
        · have h := if_T h hc7
          refine rz_B.ifF (mt (lt32 (by decide) ha1).mp (Int.not_lt.mpr hc7)) ?_
          refine rz_B.go 3 (pc' := if decide (Int32.ofInt a2 ≤ Int32.ofInt 99999) = true then 55 else 48) (L' := [some (.ref 0), some (vI a0), some (vI a1), some (vI a2), none]) (S' := []) rfl ?_
          by_cases hc8 : 99999 < a2
          · have h := if_T h hc8
            refine rz_B.ifF (mt (le32 ha2 (by decide)).mp (Int.not_le.mpr hc8)) ?_
            refine rz_B.go 2 (pc' := 51) (L' := [some (.ref 0), some (vI a0), some (vI a1), some (vI a2), none]) (S' := [vI (-6), .ref 0]) rfl ?_
            obtain ⟨r9, A9, hf9, h⟩ := rz_b_inv h
            obtain ⟨hg9, hr9, hw9⟩ := cx1_refuse F (d := d + 5) hf9 (by decide) hw1
            refine rz_B.call (d := d + 5) (as := [.ref 0, vI (-6)]) (rest := []) (w := some (vI r9)) rfl hg9 ?_
            cases h
            exact rz_B.ret rfl hr9 hw9
          · have h := if_F h hc8
            refine rz_B.ifT ((le32 ha2 (by decide)).mpr (Int.not_lt.mp hc8)) ?_
            refine rz_B.go 4 (pc' := 63) (L' := [some (.ref 0), some (vI a0), some (vI a1), some (vI a2), none]) (S' := [vI (A1.1 0 16), .ref 51]) rfl ?_
            obtain ⟨_, A10, hf10, h⟩ := rz_b_inv h
            obtain ⟨hg10, hr10, hw10⟩ := cx20_see F (d := d + 0) hf10 (hw1 0 16).1 hw1
            refine rz_B.call (d := d + 5) (as := [.ref 51, vI (A1.1 0 16)]) (rest := []) (w := none) rfl hg10 ?_
            refine rz_B.go 4 (pc' := 72) (L' := [some (.ref 0), some (vI a0), some (vI a1), some (vI a2), none]) (S' := [vI a1, vI a0, .ref 56]) rfl ?_
            obtain ⟨_, A11, hf11, h⟩ := rz_b_inv h
            obtain ⟨hg11, hr11, hw11⟩ := cx69_drawAt F (d := d + 1) hf11 ha0 ha1 hw10
            refine rz_B.call (d := d + 5) (as := [.ref 56, vI a0, vI a1]) (rest := []) (w := none) rfl hg11 ?_
            refine rz_B.go 8 (pc' := 91) (L' := [some (.ref 0), some (vI a0), some (vI a1), some (vI a2), none]) (S' := [vI a0, .ref 4, vI a2, .ref 57]) rfl ?_
            obtain ⟨hi12, hj13, h⟩ := rz_gx_inv h
            refine rz_B.iald rfl rfl hi12 hj13 (by decide) ?_
            obtain ⟨r14, A14, hf14, h⟩ := rz_b_inv h
            obtain ⟨hg14, hr14, hw14⟩ := cx80_flowBy_c F (d := d + 3) hf14 ha2 (hw11 4 (a0).toNat).1 hw11
            refine rz_B.call (d := d + 5) (as := [.ref 57, vI a2, vI (A11.1 4 (a0).toNat)]) (rest := []) (w := some (vI r14)) rfl hg14 ?_
            refine rz_B.go 3 (pc' := if decide (Int32.ofInt 0 ≤ Int32.ofInt r14) = true then 111 else 102) (L' := [some (.ref 0), some (vI a0), some (vI a1), some (vI a2), some (vI r14)]) (S' := []) rfl ?_
            by_cases hc15 : r14 < 0
            · have h := if_T h hc15
              refine rz_B.ifF (mt (le32 (by decide) hr14).mp (Int.not_le.mpr hc15)) ?_
              refine rz_B.go 2 (pc' := 105) (L' := [some (.ref 0), some (vI a0), some (vI a1), some (vI a2), some (vI r14)]) (S' := [vI (-5), .ref 0]) rfl ?_
              obtain ⟨r16, A16, hf16, h⟩ := rz_b_inv h
              obtain ⟨hg16, hr16, hw16⟩ := cx1_refuse F (d := d + 5) hf16 (by decide) hw14
              refine rz_B.call (d := d + 5) (as := [.ref 0, vI (-5)]) (rest := []) (w := some (vI r16)) rfl hg16 ?_
              refine rz_B.go 1 (pc' := 113) (L' := [some (.ref 0), some (vI a0), some (vI a1), some (vI a2), some (vI r14)]) (S' := [vI r16]) rfl ?_
              cases h
              exact rz_B.ret rfl hr16 hw16
            · have h := if_F h hc15
              refine rz_B.ifT ((le32 (by decide) hr14).mpr (Int.not_lt.mp hc15)) ?_
              refine rz_B.go 1 (pc' := 113) (L' := [some (.ref 0), some (vI a0), some (vI a1), some (vI a2), some (vI r14)]) (S' := [vI r14]) rfl ?_
              cases h
              exact rz_B.ret rfl hr14 hw14
        · have h := if_F h hc7
          refine rz_B.ifT ((lt32 (by decide) ha1).mpr (Int.not_le.mp hc7)) ?_
          refine rz_B.go 2 (pc' := 51) (L' := [some (.ref 0), some (vI a0), some (vI a1), some (vI a2), none]) (S' := [vI (-6), .ref 0]) rfl ?_
          obtain ⟨r17, A17, hf17, h⟩ := rz_b_inv h
          obtain ⟨hg17, hr17, hw17⟩ := cx1_refuse F (d := d + 5) hf17 (by decide) hw1
          refine rz_B.call (d := d + 5) (as := [.ref 0, vI (-6)]) (rest := []) (w := some (vI r17)) rfl hg17 ?_
          cases h
          exact rz_B.ret rfl hr17 hw17
    · have h := if_F h hc4
      refine rz_B.ifT ((lt32 ha1 (by decide)).mpr (Int.not_le.mp hc4)) ?_
      refine rz_B.go 2 (pc' := 31) (L' := [some (.ref 0), some (vI a0), some (vI a1), some (vI a2), none]) (S' := [vI (-4), .ref 0]) rfl ?_
      obtain ⟨r18, A18, hf18, h⟩ := rz_b_inv h
      obtain ⟨hg18, hr18, hw18⟩ := cx1_refuse F (d := d + 5) hf18 (by decide) hw1
      refine rz_B.call (d := d + 5) (as := [.ref 0, vI (-4)]) (rest := []) (w := some (vI r18)) rfl hg18 ?_
      cases h
      exact rz_B.ret rfl hr18 hw18
/-- RiverGauge$Covers.come(IIIIII)I -/
def x83_come (F : Nat) (a0 : Int) (a1 : Int) (a2 : Int) (a3 : Int) (a4 : Int) (a5 : Int) (A : rz_A) : Option (Int × rz_A) :=
  rz_gx (A.1 33 0) 40 <|
  rz_g32 ((A.1 33 0) + 1) <|
  some (((A.1 33 0) + 1), (aI (aI (aI (aI (aI (aI (aI A 34 ((A.1 33 0)).toNat a0) 35 ((A.1 33 0)).toNat a1) 36 ((A.1 33 0)).toNat a2) 37 ((A.1 33 0)).toNat a3) 38 ((A.1 33 0)).toNat a4) 39 ((A.1 33 0)).toNat a5) 33 0 ((A.1 33 0) + 1)))
theorem cx83_come (F : Nat) {d : Nat} {a0 : Int} {a1 : Int} {a2 : Int} {a3 : Int} {a4 : Int} {a5 : Int} {A : rz_A} {r : Int} {A' : rz_A} (h : x83_come F a0 a1 a2 a3 a4 a5 A = some (r, A')) (ha0 : r32 a0) (ha1 : r32 a1) (ha2 : r32 a2) (ha3 : r32 a3) (ha4 : r32 a4) (ha5 : r32 a5) (hw : wf A) : rg_Rn (d + 0) 83 [.ref 33, vI a0, vI a1, vI a2, vI a3, vI a4, vI a5] (toM A) (some (vI r)) (toM A') ∧ (r32 r) ∧ wf A' := by
  show rz_B (d + 0) 83 0 [some (.ref 33), some (vI a0), some (vI a1), some (vI a2), some (vI a3), some (vI a4), some (vI a5)] [] A (some (vI r)) A' (r32 r)
  unfold x83_come at h
  refine rz_B.go 5 (pc' := 9) (L' := [some (.ref 33), some (vI a0), some (vI a1), some (vI a2), some (vI a3), some (vI a4), some (vI a5)]) (S' := [vI a0, vI (A.1 33 0), .ref 34]) rfl ?_
  obtain ⟨hi1, hj2, h⟩ := rz_gx_inv h
  refine rz_B.iast rfl rfl hi1 hj2 (by decide) ?_
  have hw3 : wf (aI A 34 ((A.1 33 0)).toNat a0) := wf_aI hw ha0
  refine rz_B.go 5 (pc' := 19) (L' := [some (.ref 33), some (vI a0), some (vI a1), some (vI a2), some (vI a3), some (vI a4), some (vI a5)]) (S' := [vI a1, vI (A.1 33 0), .ref 35]) rfl ?_
  refine rz_B.iast rfl rfl hi1 hj2 (by decide) ?_
  have hw4 : wf (aI (aI A 34 ((A.1 33 0)).toNat a0) 35 ((A.1 33 0)).toNat a1) := wf_aI hw3 ha1
  refine rz_B.go 5 (pc' := 29) (L' := [some (.ref 33), some (vI a0), some (vI a1), some (vI a2), some (vI a3), some (vI a4), some (vI a5)]) (S' := [vI a2, vI (A.1 33 0), .ref 36]) rfl ?_
  refine rz_B.iast rfl rfl hi1 hj2 (by decide) ?_
  have hw5 : wf (aI (aI (aI A 34 ((A.1 33 0)).toNat a0) 35 ((A.1 33 0)).toNat a1) 36 ((A.1 33 0)).toNat a2) := wf_aI hw4 ha2
  refine rz_B.go 5 (pc' := 40) (L' := [some (.ref 33), some (vI a0), some (vI a1), some (vI a2), some (vI a3), some (vI a4), some (vI a5)]) (S' := [vI a3, vI (A.1 33 0), .ref 37]) rfl ?_
  refine rz_B.iast rfl rfl hi1 hj2 (by decide) ?_
  have hw6 : wf (aI (aI (aI (aI A 34 ((A.1 33 0)).toNat a0) 35 ((A.1 33 0)).toNat a1) 36 ((A.1 33 0)).toNat a2) 37 ((A.1 33 0)).toNat a3) := wf_aI hw5 ha3
  refine rz_B.go 5 (pc' := 51) (L' := [some (.ref 33), some (vI a0), some (vI a1), some (vI a2), some (vI a3), some (vI a4), some (vI a5)]) (S' := [vI a4, vI (A.1 33 0), .ref 38]) rfl ?_
  refine rz_B.iast rfl rfl hi1 hj2 (by decide) ?_
  have hw7 : wf (aI (aI (aI (aI (aI A 34 ((A.1 33 0)).toNat a0) 35 ((A.1 33 0)).toNat a1) 36 ((A.1 33 0)).toNat a2) 37 ((A.1 33 0)).toNat a3) 38 ((A.1 33 0)).toNat a4) := wf_aI hw6 ha4
  refine rz_B.go 5 (pc' := 62) (L' := [some (.ref 33), some (vI a0), some (vI a1), some (vI a2), some (vI a3), some (vI a4), some (vI a5)]) (S' := [vI a5, vI (A.1 33 0), .ref 39]) rfl ?_
  refine rz_B.iast rfl rfl hi1 hj2 (by decide) ?_
  have hw8 : wf (aI (aI (aI (aI (aI (aI A 34 ((A.1 33 0)).toNat a0) 35 ((A.1 33 0)).toNat a1) 36 ((A.1 33 0)).toNat a2) 37 ((A.1 33 0)).toNat a3) 38 ((A.1 33 0)).toNat a4) 39 ((A.1 33 0)).toNat a5) := wf_aI hw7 ha5
  refine rz_B.go 4 (pc' := 69) (L' := [some (.ref 33), some (vI a0), some (vI a1), some (vI a2), some (vI a3), some (vI a4), some (vI a5)]) (S' := [vI 1, vI (A.1 33 0), .ref 33]) rfl ?_
  obtain ⟨hk9, h⟩ := rz_g32_inv h
  refine rz_B.iadd rfl ?_
  refine rz_B.put 1 (pc' := 73) (L' := [some (.ref 33), some (vI a0), some (vI a1), some (vI a2), some (vI a3), some (vI a4), some (vI a5)]) (S' := []) (c := 33) (k := 0) (x := ((A.1 33 0) + 1)) rfl ?_
  have hw10 : wf (aI (aI (aI (aI (aI (aI (aI A 34 ((A.1 33 0)).toNat a0) 35 ((A.1 33 0)).toNat a1) 36 ((A.1 33 0)).toNat a2) 37 ((A.1 33 0)).toNat a3) 38 ((A.1 33 0)).toNat a4) 39 ((A.1 33 0)).toNat a5) 33 0 ((A.1 33 0) + 1)) := wf_aI hw8 hk9
  refine rz_B.go 2 (pc' := 77) (L' := [some (.ref 33), some (vI a0), some (vI a1), some (vI a2), some (vI a3), some (vI a4), some (vI a5)]) (S' := [vI ((A.1 33 0) + 1)]) rfl ?_
  cases h
  exact rz_B.ret rfl hk9 hw10
/-- RiverGauge.under(IIIII)I -/
def x82_under (F : Nat) (a0 : Int) (a1 : Int) (a2 : Int) (a3 : Int) (a4 : Int) (A : rz_A) : Option (Int × rz_A) :=
  rz_b (x5_has F a0 A) fun r1 A1 =>
  if r1 = 0 then
    rz_b (x1_refuse F (-1) A1) fun r3 A3 =>
    some (r3, A3)
  else
    if 0 ≤ a1 then
      if 1 < a1 then
        rz_b (x1_refuse F (-2) A1) fun r6 A6 =>
        some (r6, A6)
      else
        if 0 ≤ a2 then
          if a2 ≤ a3 then
            if a4 < 0 then
              rz_b (x1_refuse F (-4) A1) fun r10 A10 =>
              some (r10, A10)
            else
              if a3 ≤ 9999 then
                if a4 ≤ 99 then
                  if 40 ≤ (A1.1 33 0) then
                    rz_b (x1_refuse F (-6) A1) fun r14 A14 =>
                    some (r14, A14)
                  else
                    rz_b (x83_come F a0 a1 a2 a3 a4 (A1.1 0 16) A1) fun r15 A15 =>
                    some (r15, A15)
                else
                  rz_b (x1_refuse F (-6) A1) fun r16 A16 =>
                  some (r16, A16)
              else
                rz_b (x1_refuse F (-6) A1) fun r17 A17 =>
                some (r17, A17)
          else
            rz_b (x1_refuse F (-4) A1) fun r18 A18 =>
            some (r18, A18)
        else
          rz_b (x1_refuse F (-4) A1) fun r19 A19 =>
          some (r19, A19)
    else
      rz_b (x1_refuse F (-2) A1) fun r20 A20 =>
      some (r20, A20)
theorem cx82_under (F : Nat) {d : Nat} {a0 : Int} {a1 : Int} {a2 : Int} {a3 : Int} {a4 : Int} {A : rz_A} {r : Int} {A' : rz_A} (h : x82_under F a0 a1 a2 a3 a4 A = some (r, A')) (ha0 : r32 a0) (ha1 : r32 a1) (ha2 : r32 a2) (ha3 : r32 a3) (ha4 : r32 a4) (hw : wf A) : rg_Rn (d + 1) 82 [.ref 0, vI a0, vI a1, vI a2, vI a3, vI a4] (toM A) (some (vI r)) (toM A') ∧ (r32 r) ∧ wf A' := by
  show rz_B (d + 1) 82 0 [some (.ref 0), some (vI a0), some (vI a1), some (vI a2), some (vI a3), some (vI a4)] [] A (some (vI r)) A' (r32 r)
  unfold x82_under at h
  refine rz_B.go 3 (pc' := 5) (L' := [some (.ref 0), some (vI a0), some (vI a1), some (vI a2), some (vI a3), some (vI a4)]) (S' := [vI a0, .ref 2]) rfl ?_
  obtain ⟨r1, A1, hf1, h⟩ := rz_b_inv h
  obtain ⟨hg1, hr1, hw1⟩ := cx5_has F (d := d + 0) hf1 ha0 hw
  refine rz_B.call (d := d + 0) (as := [.ref 2, vI a0]) (rest := []) (w := some (vI r1)) rfl hg1 ?_
  refine rz_B.go 1 (pc' := if decide (¬ Int32.ofInt r1 = Int32.ofInt 0) = true then 17 else 11) (L' := [some (.ref 0), some (vI a0), some (vI a1), some (vI a2), some (vI a3), some (vI a4)]) (S' := []) rfl ?_
  by_cases hc2 : r1 = 0
  · have h := if_T h hc2
    refine rz_B.ifF (fun hn => hn ((eq32 hr1 (by decide)).mpr hc2)) ?_
    refine rz_B.go 2 (pc' := 13) (L' := [some (.ref 0), some (vI a0), some (vI a1), some (vI a2), some (vI a3), some (vI a4)]) (S' := [vI (-1), .ref 0]) rfl ?_
    obtain ⟨r3, A3, hf3, h⟩ := rz_b_inv h
    obtain ⟨hg3, hr3, hw3⟩ := cx1_refuse F (d := d + 0) hf3 (by decide) hw1
    refine rz_B.call (d := d + 0) (as := [.ref 0, vI (-1)]) (rest := []) (w := some (vI r3)) rfl hg3 ?_
    cases h
    exact rz_B.ret rfl hr3 hw3
  · have h := if_F h hc2
    refine rz_B.ifT (mt (eq32 hr1 (by decide)).mp hc2) ?_
    refine rz_B.go 2 (pc' := if decide (Int32.ofInt a1 < Int32.ofInt 0) = true then 26 else 21) (L' := [some (.ref 0), some (vI a0), some (vI a1), some (vI a2), some (vI a3), some (vI a4)]) (S' := []) rfl ?_
    by_cases hc4 : 0 ≤ a1
    · have h := if_T h hc4
      refine rz_B.ifF (mt (lt32 ha1 (by decide)).mp (Int.not_lt.mpr hc4)) ?_
      refine rz_B.go 3 (pc' := if decide (Int32.ofInt a1 ≤ Int32.ofInt 1) = true then 33 else 26) (L' := [some (.ref 0), some (vI a0), some (vI a1), some (vI a2), some (vI a3), some (vI a4)]) (S' := []) rfl ?_
      by_cases hc5 : 1 < a1
      · have h := if_T h hc5
        refine rz_B.ifF (mt (le32 ha1 (by decide)).mp (Int.not_le.mpr hc5)) ?_
        refine rz_B.go 2 (pc' := 29) (L' := [some (.ref 0), some (vI a0), some (vI a1), some (vI a2), some (vI a3), some (vI a4)]) (S' := [vI (-2), .ref 0]) rfl ?_
        obtain ⟨r6, A6, hf6, h⟩ := rz_b_inv h
        obtain ⟨hg6, hr6, hw6⟩ := cx1_refuse F (d := d + 0) hf6 (by decide) hw1
        refine rz_B.call (d := d + 0) (as := [.ref 0, vI (-2)]) (rest := []) (w := some (vI r6)) rfl hg6 ?_
        cases h
        exact rz_B.ret rfl hr6 hw6
      · have h := if_F h hc5
        refine rz_B.ifT ((le32 ha1 (by decide)).mpr (Int.not_lt.mp hc5)) ?_
        refine rz_B.go 2 (pc' := if decide (Int32.ofInt a2 < Int32.ofInt 0) = true then 48 else 37) (L' := [some (.ref 0), some (vI a0), some (vI a1), some (vI a2), some (vI a3), some (vI a4)]) (S' := []) rfl ?_
        by_cases hc7 : 0 ≤ a2
        · have h := if_T h hc7
          refine rz_B.ifF (mt (lt32 ha2 (by decide)).mp (Int.not_lt.mpr hc7)) ?_
          refine rz_B.go 3 (pc' := if decide (Int32.ofInt a3 < Int32.ofInt a2) = true then 48 else 43) (L' := [some (.ref 0), some (vI a0), some (vI a1), some (vI a2), some (vI a3), some (vI a4)]) (S' := []) rfl ?_
          by_cases hc8 : a2 ≤ a3
          · have h := if_T h hc8
            refine rz_B.ifF (mt (lt32 ha3 ha2).mp (Int.not_lt.mpr hc8)) ?_
            refine rz_B.go 2 (pc' := if decide (Int32.ofInt 0 ≤ Int32.ofInt a4) = true then 55 else 48) (L' := [some (.ref 0), some (vI a0), some (vI a1), some (vI a2), some (vI a3), some (vI a4)]) (S' := []) rfl ?_
            by_cases hc9 : a4 < 0
            · have h := if_T h hc9
              refine rz_B.ifF (mt (le32 (by decide) ha4).mp (Int.not_le.mpr hc9)) ?_
              refine rz_B.go 2 (pc' := 51) (L' := [some (.ref 0), some (vI a0), some (vI a1), some (vI a2), some (vI a3), some (vI a4)]) (S' := [vI (-4), .ref 0]) rfl ?_
              obtain ⟨r10, A10, hf10, h⟩ := rz_b_inv h
              obtain ⟨hg10, hr10, hw10⟩ := cx1_refuse F (d := d + 0) hf10 (by decide) hw1
              refine rz_B.call (d := d + 0) (as := [.ref 0, vI (-4)]) (rest := []) (w := some (vI r10)) rfl hg10 ?_
              cases h
              exact rz_B.ret rfl hr10 hw10
            · have h := if_F h hc9
              refine rz_B.ifT ((le32 (by decide) ha4).mpr (Int.not_lt.mp hc9)) ?_
              refine rz_B.go 3 (pc' := if decide (Int32.ofInt 9999 < Int32.ofInt a3) = true then 82 else 63) (L' := [some (.ref 0), some (vI a0), some (vI a1), some (vI a2), some (vI a3), some (vI a4)]) (S' := []) rfl ?_
              by_cases hc11 : a3 ≤ 9999
              · have h := if_T h hc11
                refine rz_B.ifF (mt (lt32 (by decide) ha3).mp (Int.not_lt.mpr hc11)) ?_
                refine rz_B.go 3 (pc' := if decide (Int32.ofInt 99 < Int32.ofInt a4) = true then 82 else 70) (L' := [some (.ref 0), some (vI a0), some (vI a1), some (vI a2), some (vI a3), some (vI a4)]) (S' := []) rfl ?_
                by_cases hc12 : a4 ≤ 99
                · have h := if_T h hc12
                  refine rz_B.ifF (mt (lt32 (by decide) ha4).mp (Int.not_lt.mpr hc12)) ?_
                  refine rz_B.go 5 (pc' := if decide (Int32.ofInt (A1.1 33 0) < Int32.ofInt 40) = true then 89 else 82) (L' := [some (.ref 0), some (vI a0), some (vI a1), some (vI a2), some (vI a3), some (vI a4)]) (S' := []) rfl ?_
                  by_cases hc13 : 40 ≤ (A1.1 33 0)
                  · have h := if_T h hc13
                    refine rz_B.ifF (mt (lt32 (hw1 33 0).1 (by decide)).mp (Int.not_lt.mpr hc13)) ?_
                    refine rz_B.go 2 (pc' := 85) (L' := [some (.ref 0), some (vI a0), some (vI a1), some (vI a2), some (vI a3), some (vI a4)]) (S' := [vI (-6), .ref 0]) rfl ?_
                    obtain ⟨r14, A14, hf14, h⟩ := rz_b_inv h
                    obtain ⟨hg14, hr14, hw14⟩ := cx1_refuse F (d := d + 0) hf14 (by decide) hw1
                    refine rz_B.call (d := d + 0) (as := [.ref 0, vI (-6)]) (rest := []) (w := some (vI r14)) rfl hg14 ?_
                    cases h
                    exact rz_B.ret rfl hr14 hw14
                  · have h := if_F h hc13
                    refine rz_B.ifT ((lt32 (hw1 33 0).1 (by decide)).mpr (Int.not_le.mp hc13)) ?_
                    refine rz_B.go 9 (pc' := 104) (L' := [some (.ref 0), some (vI a0), some (vI a1), some (vI a2), some (vI a3), some (vI a4)]) (S' := [vI (A1.1 0 16), vI a4, vI a3, vI a2, vI a1, vI a0, .ref 33]) rfl ?_
                    obtain ⟨r15, A15, hf15, h⟩ := rz_b_inv h
                    obtain ⟨hg15, hr15, hw15⟩ := cx83_come F (d := d + 0) hf15 ha0 ha1 ha2 ha3 ha4 (hw1 0 16).1 hw1
                    refine rz_B.call (d := d + 0) (as := [.ref 33, vI a0, vI a1, vI a2, vI a3, vI a4, vI (A1.1 0 16)]) (rest := []) (w := some (vI r15)) rfl hg15 ?_
                    cases h
                    exact rz_B.ret rfl hr15 hw15
                · have h := if_F h hc12
                  refine rz_B.ifT ((lt32 (by decide) ha4).mpr (Int.not_le.mp hc12)) ?_
                  refine rz_B.go 2 (pc' := 85) (L' := [some (.ref 0), some (vI a0), some (vI a1), some (vI a2), some (vI a3), some (vI a4)]) (S' := [vI (-6), .ref 0]) rfl ?_
                  obtain ⟨r16, A16, hf16, h⟩ := rz_b_inv h
                  obtain ⟨hg16, hr16, hw16⟩ := cx1_refuse F (d := d + 0) hf16 (by decide) hw1
                  refine rz_B.call (d := d + 0) (as := [.ref 0, vI (-6)]) (rest := []) (w := some (vI r16)) rfl hg16 ?_
                  cases h
                  exact rz_B.ret rfl hr16 hw16
              · have h := if_F h hc11
                refine rz_B.ifT ((lt32 (by decide) ha3).mpr (Int.not_le.mp hc11)) ?_
                refine rz_B.go 2 (pc' := 85) (L' := [some (.ref 0), some (vI a0), some (vI a1), some (vI a2), some (vI a3), some (vI a4)]) (S' := [vI (-6), .ref 0]) rfl ?_
                obtain ⟨r17, A17, hf17, h⟩ := rz_b_inv h
                obtain ⟨hg17, hr17, hw17⟩ := cx1_refuse F (d := d + 0) hf17 (by decide) hw1
                refine rz_B.call (d := d + 0) (as := [.ref 0, vI (-6)]) (rest := []) (w := some (vI r17)) rfl hg17 ?_
                cases h
                exact rz_B.ret rfl hr17 hw17
          · have h := if_F h hc8
            refine rz_B.ifT ((lt32 ha3 ha2).mpr (Int.not_le.mp hc8)) ?_
            refine rz_B.go 2 (pc' := 51) (L' := [some (.ref 0), some (vI a0), some (vI a1), some (vI a2), some (vI a3), some (vI a4)]) (S' := [vI (-4), .ref 0]) rfl ?_
            obtain ⟨r18, A18, hf18, h⟩ := rz_b_inv h
            obtain ⟨hg18, hr18, hw18⟩ := cx1_refuse F (d := d + 0) hf18 (by decide) hw1
            refine rz_B.call (d := d + 0) (as := [.ref 0, vI (-4)]) (rest := []) (w := some (vI r18)) rfl hg18 ?_
            cases h
            exact rz_B.ret rfl hr18 hw18
        · have h := if_F h hc7
          refine rz_B.ifT ((lt32 ha2 (by decide)).mpr (Int.not_le.mp hc7)) ?_
          refine rz_B.go 2 (pc' := 51) (L' := [some (.ref 0), some (vI a0), some (vI a1), some (vI a2), some (vI a3), some (vI a4)]) (S' := [vI (-4), .ref 0]) rfl ?_
          obtain ⟨r19, A19, hf19, h⟩ := rz_b_inv h
          obtain ⟨hg19, hr19, hw19⟩ := cx1_refuse F (d := d + 0) hf19 (by decide) hw1
          refine rz_B.call (d := d + 0) (as := [.ref 0, vI (-4)]) (rest := []) (w := some (vI r19)) rfl hg19 ?_
          cases h
          exact rz_B.ret rfl hr19 hw19
    · have h := if_F h hc4
      refine rz_B.ifT ((lt32 ha1 (by decide)).mpr (Int.not_le.mp hc4)) ?_
      refine rz_B.go 2 (pc' := 29) (L' := [some (.ref 0), some (vI a0), some (vI a1), some (vI a2), some (vI a3), some (vI a4)]) (S' := [vI (-2), .ref 0]) rfl ?_
      obtain ⟨r20, A20, hf20, h⟩ := rz_b_inv h
      obtain ⟨hg20, hr20, hw20⟩ := cx1_refuse F (d := d + 0) hf20 (by decide) hw1
      refine rz_B.call (d := d + 0) (as := [.ref 0, vI (-2)]) (rest := []) (w := some (vI r20)) rfl hg20 ?_
      cases h
      exact rz_B.ret rfl hr20 hw20
/-- RiverGauge$View.postOf(I)I -/
def x86_postOf (F : Nat) (a0 : Int) (A : rz_A) : Option (Int × rz_A) :=
  rz_gx a0 300 <|
  rz_g32 ((A.1 53 (a0).toNat).tdiv 16384) <|
  some (((A.1 53 (a0).toNat).tdiv 16384), A)
theorem cx86_postOf (F : Nat) {d : Nat} {a0 : Int} {A : rz_A} {r : Int} {A' : rz_A} (h : x86_postOf F a0 A = some (r, A')) (ha0 : r32 a0) (hw : wf A) : rg_Rn (d + 0) 86 [.ref 51, vI a0] (toM A) (some (vI r)) (toM A') ∧ (r32 r) ∧ wf A' := by
  show rz_B (d + 0) 86 0 [some (.ref 51), some (vI a0)] [] A (some (vI r)) A' (r32 r)
  unfold x86_postOf at h
  refine rz_B.go 3 (pc' := 5) (L' := [some (.ref 51), some (vI a0)]) (S' := [vI a0, .ref 53]) rfl ?_
  obtain ⟨hi1, hj2, h⟩ := rz_gx_inv h
  refine rz_B.iald rfl rfl hi1 hj2 (by decide) ?_
  refine rz_B.go 1 (pc' := 9) (L' := [some (.ref 51), some (vI a0)]) (S' := [vI 16384, vI (A.1 53 (a0).toNat)]) rfl ?_
  obtain ⟨hk3, h⟩ := rz_g32_inv h
  refine rz_B.idiv rfl (hw 53 (a0).toNat).1 (by decide) (by decide) ?_
  cases h
  exact rz_B.ret rfl hk3 hw
/-- RiverGauge$View.timeOf(I)I -/
def x87_timeOf (F : Nat) (a0 : Int) (A : rz_A) : Option (Int × rz_A) :=
  rz_gx a0 300 <|
  rz_g32 ((A.1 53 (a0).toNat).tmod 16384) <|
  some (((A.1 53 (a0).toNat).tmod 16384), A)
theorem cx87_timeOf (F : Nat) {d : Nat} {a0 : Int} {A : rz_A} {r : Int} {A' : rz_A} (h : x87_timeOf F a0 A = some (r, A')) (ha0 : r32 a0) (hw : wf A) : rg_Rn (d + 0) 87 [.ref 51, vI a0] (toM A) (some (vI r)) (toM A') ∧ (r32 r) ∧ wf A' := by
  show rz_B (d + 0) 87 0 [some (.ref 51), some (vI a0)] [] A (some (vI r)) A' (r32 r)
  unfold x87_timeOf at h
  refine rz_B.go 3 (pc' := 5) (L' := [some (.ref 51), some (vI a0)]) (S' := [vI a0, .ref 53]) rfl ?_
  obtain ⟨hi1, hj2, h⟩ := rz_gx_inv h
  refine rz_B.iald rfl rfl hi1 hj2 (by decide) ?_
  refine rz_B.go 1 (pc' := 9) (L' := [some (.ref 51), some (vI a0)]) (S' := [vI 16384, vI (A.1 53 (a0).toNat)]) rfl ?_
  obtain ⟨hk3, h⟩ := rz_g32_inv h
  refine rz_B.irem rfl (hw 53 (a0).toNat).1 (by decide) (by decide) ?_
  cases h
  exact rz_B.ret rfl hk3 hw
/-- RiverGauge$Covers.hundredthsAt(II)I -/
def x89_hundredthsAt (F : Nat) (a0 : Int) (a1 : Int) (A : rz_A) : Option (Int × rz_A) :=
  rz_gx a0 40 <|
  if (A.1 35 (a0).toNat) = 0 then
    some ((A.1 38 (a0).toNat), A)
  else
    if (A.1 36 (a0).toNat) = (A.1 37 (a0).toNat) then
      some ((A.1 38 (a0).toNat), A)
    else
      rz_g32 (a1 - (A.1 36 (a0).toNat)) <|
      rz_g32 ((A.1 37 (a0).toNat) - (A.1 36 (a0).toNat)) <|
      rz_b (x77_share F (A.1 38 (a0).toNat) (a1 - (A.1 36 (a0).toNat)) ((A.1 37 (a0).toNat) - (A.1 36 (a0).toNat)) A) fun r7 A7 =>
      rz_g32 r7 <|
      some (r7, A7)
theorem cx89_hundredthsAt (F : Nat) {d : Nat} {a0 : Int} {a1 : Int} {A : rz_A} {r : Int} {A' : rz_A} (h : x89_hundredthsAt F a0 a1 A = some (r, A')) (ha0 : r32 a0) (ha1 : r32 a1) (hw : wf A) : rg_Rn (d + 1) 89 [.ref 33, vI a0, vI a1] (toM A) (some (vI r)) (toM A') ∧ (r32 r) ∧ wf A' := by
  show rz_B (d + 1) 89 0 [some (.ref 33), some (vI a0), some (vI a1)] [] A (some (vI r)) A' (r32 r)
  unfold x89_hundredthsAt at h
  refine rz_B.go 3 (pc' := 5) (L' := [some (.ref 33), some (vI a0), some (vI a1)]) (S' := [vI a0, .ref 35]) rfl ?_
  obtain ⟨hi1, hj2, h⟩ := rz_gx_inv h
  refine rz_B.iald rfl rfl hi1 hj2 (by decide) ?_
  refine rz_B.go 1 (pc' := if decide (Int32.ofInt (A.1 35 (a0).toNat) = Int32.ofInt 0) = true then 24 else 9) (L' := [some (.ref 33), some (vI a0), some (vI a1)]) (S' := []) rfl ?_
  by_cases hc3 : (A.1 35 (a0).toNat) = 0
  · have h := if_T h hc3
    refine rz_B.ifT ((eq32 (hw 35 (a0).toNat).1 (by decide)).mpr hc3) ?_
    refine rz_B.go 3 (pc' := 29) (L' := [some (.ref 33), some (vI a0), some (vI a1)]) (S' := [vI a0, .ref 38]) rfl ?_
    refine rz_B.iald rfl rfl hi1 hj2 (by decide) ?_
    cases h
    exact rz_B.ret rfl (hw 38 (a0).toNat).1 hw
  · have h := if_F h hc3
    refine rz_B.ifF (mt (eq32 (hw 35 (a0).toNat).1 (by decide)).mp hc3) ?_
    refine rz_B.go 3 (pc' := 14) (L' := [some (.ref 33), some (vI a0), some (vI a1)]) (S' := [vI a0, .ref 36]) rfl ?_
    refine rz_B.iald rfl rfl hi1 hj2 (by decide) ?_
    refine rz_B.go 3 (pc' := 20) (L' := [some (.ref 33), some (vI a0), some (vI a1)]) (S' := [vI a0, .ref 37, vI (A.1 36 (a0).toNat)]) rfl ?_
    refine rz_B.iald rfl rfl hi1 hj2 (by decide) ?_
    refine rz_B.go 1 (pc' := if decide (¬ Int32.ofInt (A.1 36 (a0).toNat) = Int32.ofInt (A.1 37 (a0).toNat)) = true then 31 else 24) (L' := [some (.ref 33), some (vI a0), some (vI a1)]) (S' := []) rfl ?_
    by_cases hc4 : (A.1 36 (a0).toNat) = (A.1 37 (a0).toNat)
    · have h := if_T h hc4
      refine rz_B.ifF (fun hn => hn ((eq32 (hw 36 (a0).toNat).1 (hw 37 (a0).toNat).1).mpr hc4)) ?_
      refine rz_B.go 3 (pc' := 29) (L' := [some (.ref 33), some (vI a0), some (vI a1)]) (S' := [vI a0, .ref 38]) rfl ?_
      refine rz_B.iald rfl rfl hi1 hj2 (by decide) ?_
      cases h
      exact rz_B.ret rfl (hw 38 (a0).toNat).1 hw
    · have h := if_F h hc4
      refine rz_B.ifT (mt (eq32 (hw 36 (a0).toNat).1 (hw 37 (a0).toNat).1).mp hc4) ?_
      refine rz_B.go 3 (pc' := 36) (L' := [some (.ref 33), some (vI a0), some (vI a1)]) (S' := [vI a0, .ref 38]) rfl ?_
      refine rz_B.iald rfl rfl hi1 hj2 (by decide) ?_
      refine rz_B.i2l rfl (hw 38 (a0).toNat).1 ?_
      refine rz_B.go 4 (pc' := 44) (L' := [some (.ref 33), some (vI a0), some (vI a1)]) (S' := [vI a0, .ref 36, vI a1, vL (A.1 38 (a0).toNat)]) rfl ?_
      refine rz_B.iald rfl rfl hi1 hj2 (by decide) ?_
      obtain ⟨hk5, h⟩ := rz_g32_inv h
      refine rz_B.isub rfl ?_
      refine rz_B.i2l rfl hk5 ?_
      refine rz_B.go 3 (pc' := 52) (L' := [some (.ref 33), some (vI a0), some (vI a1)]) (S' := [vI a0, .ref 37, vL (a1 - (A.1 36 (a0).toNat)), vL (A.1 38 (a0).toNat)]) rfl ?_
      refine rz_B.iald rfl rfl hi1 hj2 (by decide) ?_
      refine rz_B.go 3 (pc' := 58) (L' := [some (.ref 33), some (vI a0), some (vI a1)]) (S' := [vI a0, .ref 36, vI (A.1 37 (a0).toNat), vL (a1 - (A.1 36 (a0).toNat)), vL (A.1 38 (a0).toNat)]) rfl ?_
      refine rz_B.iald rfl rfl hi1 hj2 (by decide) ?_
      obtain ⟨hk6, h⟩ := rz_g32_inv h
      refine rz_B.isub rfl ?_
      refine rz_B.i2l rfl hk6 ?_
      obtain ⟨r7, A7, hf7, h⟩ := rz_b_inv h
      obtain ⟨hg7, hr7, hw7⟩ := cx77_share F (d := d + 0) hf7 (r64_of (hw 38 (a0).toNat).1) (r64_of hk5) (r64_of hk6) hw
      refine rz_B.call (d := d + 0) (as := [vL (A.1 38 (a0).toNat), vL (a1 - (A.1 36 (a0).toNat)), vL ((A.1 37 (a0).toNat) - (A.1 36 (a0).toNat))]) (rest := []) (w := some (vL r7)) rfl hg7 ?_
      obtain ⟨hk8, h⟩ := rz_g32_inv h
      refine rz_B.l2i rfl ?_
      cases h
      exact rz_B.ret rfl hk8 hw7
def x88_greatest_6 (F : Nat) : Nat → Int → Int → Int → Int → Int → Int → rz_A → Option (Int × rz_A)
  | 0, _, _, _, _, _, _, _ => none
  | n + 1, v1, v2, v3, v4, v5, v6, A =>
    if v6 < (A.1 33 0) then
      rz_gx v6 40 <|
      if (A.1 35 (v6).toNat) = v1 then
        if (A.1 34 (v6).toNat) = v2 then
          if (A.1 39 (v6).toNat) ≤ v4 then
            if (A.1 36 (v6).toNat) ≤ v3 then
              if v3 ≤ (A.1 37 (v6).toNat) then
                rz_b (x89_hundredthsAt F v6 v3 A) fun r9 A9 =>
                rz_b (x60_max F v5 r9 A9) fun r10 A10 =>
                rz_g32 (v6 + 1) <|
                x88_greatest_6 F n v1 v2 v3 v4 r10 (v6 + 1) A10
              else
                rz_g32 (v6 + 1) <|
                x88_greatest_6 F n v1 v2 v3 v4 v5 (v6 + 1) A
            else
              rz_g32 (v6 + 1) <|
              x88_greatest_6 F n v1 v2 v3 v4 v5 (v6 + 1) A
          else
            rz_g32 (v6 + 1) <|
            x88_greatest_6 F n v1 v2 v3 v4 v5 (v6 + 1) A
        else
          rz_g32 (v6 + 1) <|
          x88_greatest_6 F n v1 v2 v3 v4 v5 (v6 + 1) A
      else
        rz_g32 (v6 + 1) <|
        x88_greatest_6 F n v1 v2 v3 v4 v5 (v6 + 1) A
    else
      some (v5, A)
theorem cx88_greatest_6 {d : Nat} (F : Nat) : ∀ (n : Nat) (v1 : Int) (v2 : Int) (v3 : Int) (v4 : Int) (v5 : Int) (v6 : Int) (A : rz_A) (r : Int) (A' : rz_A), x88_greatest_6 F n v1 v2 v3 v4 v5 v6 A = some (r, A') → r32 v1 → r32 v2 → r32 v3 → r32 v4 → r32 v5 → r32 v6 → wf A → rz_B (d + 2) 88 6 [some (.ref 33), some (vI v1), some (vI v2), some (vI v3), some (vI v4), some (vI v5), some (vI v6), none] [] A (some (vI r)) A' (r32 r) := by
  intro n
  induction n with
  | zero => intro v1 v2 v3 v4 v5 v6 A r A' h; cases h
  | succ n ih =>
    intro v1 v2 v3 v4 v5 v6 A r A' h hv1 hv2 hv3 hv4 hv5 hv6 hw
    rw [x88_greatest_6] at h
    refine rz_B.go 4 (pc' := if decide (Int32.ofInt (A.1 33 0) ≤ Int32.ofInt v6) = true then 103 else 15) (L' := [some (.ref 33), some (vI v1), some (vI v2), some (vI v3), some (vI v4), some (vI v5), some (vI v6), none]) (S' := []) rfl ?_
    by_cases hc1 : v6 < (A.1 33 0)
    · have h := if_T h hc1
      refine rz_B.ifF (mt (le32 (hw 33 0).1 hv6).mp (Int.not_le.mpr hc1)) ?_
      refine rz_B.go 3 (pc' := 21) (L' := [some (.ref 33), some (vI v1), some (vI v2), some (vI v3), some (vI v4), some (vI v5), some (vI v6), none]) (S' := [vI v6, .ref 35]) rfl ?_
      obtain ⟨hi2, hj3, h⟩ := rz_gx_inv h
      refine rz_B.iald rfl rfl hi2 hj3 (by decide) ?_
      refine rz_B.go 2 (pc' := if decide (¬ Int32.ofInt (A.1 35 (v6).toNat) = Int32.ofInt v1) = true then 75 else 26) (L' := [some (.ref 33), some (vI v1), some (vI v2), some (vI v3), some (vI v4), some (vI v5), some (vI v6), none]) (S' := []) rfl ?_
      by_cases hc4 : (A.1 35 (v6).toNat) = v1
      · have h := if_T h hc4
        refine rz_B.ifF (fun hn => hn ((eq32 (hw 35 (v6).toNat).1 hv1).mpr hc4)) ?_
        refine rz_B.go 3 (pc' := 32) (L' := [some (.ref 33), some (vI v1), some (vI v2), some (vI v3), some (vI v4), some (vI v5), some (vI v6), none]) (S' := [vI v6, .ref 34]) rfl ?_
        refine rz_B.iald rfl rfl hi2 hj3 (by decide) ?_
        refine rz_B.go 2 (pc' := if decide (¬ Int32.ofInt (A.1 34 (v6).toNat) = Int32.ofInt v2) = true then 75 else 37) (L' := [some (.ref 33), some (vI v1), some (vI v2), some (vI v3), some (vI v4), some (vI v5), some (vI v6), none]) (S' := []) rfl ?_
        by_cases hc5 : (A.1 34 (v6).toNat) = v2
        · have h := if_T h hc5
          refine rz_B.ifF (fun hn => hn ((eq32 (hw 34 (v6).toNat).1 hv2).mpr hc5)) ?_
          refine rz_B.go 3 (pc' := 43) (L' := [some (.ref 33), some (vI v1), some (vI v2), some (vI v3), some (vI v4), some (vI v5), some (vI v6), none]) (S' := [vI v6, .ref 39]) rfl ?_
          refine rz_B.iald rfl rfl hi2 hj3 (by decide) ?_
          refine rz_B.go 2 (pc' := if decide (Int32.ofInt v4 < Int32.ofInt (A.1 39 (v6).toNat)) = true then 75 else 49) (L' := [some (.ref 33), some (vI v1), some (vI v2), some (vI v3), some (vI v4), some (vI v5), some (vI v6), none]) (S' := []) rfl ?_
          by_cases hc6 : (A.1 39 (v6).toNat) ≤ v4
          · have h := if_T h hc6
            refine rz_B.ifF (mt (lt32 hv4 (hw 39 (v6).toNat).1).mp (Int.not_lt.mpr hc6)) ?_
            refine rz_B.go 3 (pc' := 55) (L' := [some (.ref 33), some (vI v1), some (vI v2), some (vI v3), some (vI v4), some (vI v5), some (vI v6), none]) (S' := [vI v6, .ref 36]) rfl ?_
            refine rz_B.iald rfl rfl hi2 hj3 (by decide) ?_
            refine rz_B.go 2 (pc' := if decide (Int32.ofInt v3 < Int32.ofInt (A.1 36 (v6).toNat)) = true then 75 else 60) (L' := [some (.ref 33), some (vI v1), some (vI v2), some (vI v3), some (vI v4), some (vI v5), some (vI v6), none]) (S' := []) rfl ?_
            by_cases hc7 : (A.1 36 (v6).toNat) ≤ v3
            · have h := if_T h hc7
              refine rz_B.ifF (mt (lt32 hv3 (hw 36 (v6).toNat).1).mp (Int.not_lt.mpr hc7)) ?_
              refine rz_B.go 4 (pc' := 67) (L' := [some (.ref 33), some (vI v1), some (vI v2), some (vI v3), some (vI v4), some (vI v5), some (vI v6), none]) (S' := [vI v6, .ref 37, vI v3]) rfl ?_
              refine rz_B.iald rfl rfl hi2 hj3 (by decide) ?_
              refine rz_B.go 1 (pc' := if decide (Int32.ofInt (A.1 37 (v6).toNat) < Int32.ofInt v3) = true then 75 else 71) (L' := [some (.ref 33), some (vI v1), some (vI v2), some (vI v3), some (vI v4), some (vI v5), some (vI v6), none]) (S' := []) rfl ?_
              by_cases hc8 : v3 ≤ (A.1 37 (v6).toNat)
              · have h := if_T h hc8
                refine rz_B.ifF (mt (lt32 (hw 37 (v6).toNat).1 hv3).mp (Int.not_lt.mpr hc8)) ?_
                refine rz_B.go 9 (pc' := 89) (L' := [some (.ref 33), some (vI v1), some (vI v2), some (vI v3), some (vI v4), some (vI v5), some (vI v6), some (vI 1)]) (S' := [vI v3, vI v6, .ref 33, vI v5]) rfl ?_
                obtain ⟨r9, A9, hf9, h⟩ := rz_b_inv h
                obtain ⟨hg9, hr9, hw9⟩ := cx89_hundredthsAt F (d := d + 0) hf9 hv6 hv3 hw
                refine rz_B.call (d := d + 1) (as := [.ref 33, vI v6, vI v3]) (rest := [vI v5]) (w := some (vI r9)) rfl hg9 ?_
                obtain ⟨r10, A10, hf10, h⟩ := rz_b_inv h
                obtain ⟨hg10, hr10, hw10⟩ := cx60_max F (d := d + 1) hf10 hv5 hr9 hw9
                refine rz_B.call (d := d + 1) (as := [vI v5, vI r9]) (rest := []) (w := some (vI r10)) rfl hg10 ?_
                refine rz_B.go 1 (pc' := 97) (L' := [some (.ref 33), some (vI v1), some (vI v2), some (vI v3), some (vI v4), some (vI r10), some (vI v6), some (vI 1)]) (S' := []) rfl ?_
                obtain ⟨hk11, h⟩ := rz_g32_inv h
                refine rz_B.iinc rfl (by decide) rfl (L' := [some (.ref 33), some (vI v1), some (vI v2), some (vI v3), some (vI v4), some (vI r10), some (vI (v6 + 1)), some (vI 1)]) rfl ?_
                refine rz_B.go 1 (pc' := 6) (L' := [some (.ref 33), some (vI v1), some (vI v2), some (vI v3), some (vI v4), some (vI r10), some (vI (v6 + 1)), some (vI 1)]) (S' := []) rfl ?_
                refine rz_B.more (rg_le_ok (L := [some (.ref 33), some (vI v1), some (vI v2), some (vI v3), some (vI v4), some (vI r10), some (vI (v6 + 1)), none]) (by simp [rg_le])) ?_
                exact ih _ _ _ _ _ _ _ _ _ h hv1 hv2 hv3 hv4 hr10 hk11 hw10
              · have h := if_F h hc8
                refine rz_B.ifT ((lt32 (hw 37 (v6).toNat).1 hv3).mpr (Int.not_le.mp hc8)) ?_
                refine rz_B.go 4 (pc' := 97) (L' := [some (.ref 33), some (vI v1), some (vI v2), some (vI v3), some (vI v4), some (vI v5), some (vI v6), some (vI 0)]) (S' := []) rfl ?_
                obtain ⟨hk12, h⟩ := rz_g32_inv h
                refine rz_B.iinc rfl (by decide) rfl (L' := [some (.ref 33), some (vI v1), some (vI v2), some (vI v3), some (vI v4), some (vI v5), some (vI (v6 + 1)), some (vI 0)]) rfl ?_
                refine rz_B.go 1 (pc' := 6) (L' := [some (.ref 33), some (vI v1), some (vI v2), some (vI v3), some (vI v4), some (vI v5), some (vI (v6 + 1)), some (vI 0)]) (S' := []) rfl ?_
                refine rz_B.more (rg_le_ok (L := [some (.ref 33), some (vI v1), some (vI v2), some (vI v3), some (vI v4), some (vI v5), some (vI (v6 + 1)), none]) (by simp [rg_le])) ?_
                exact ih _ _ _ _ _ _ _ _ _ h hv1 hv2 hv3 hv4 hv5 hk12 hw
            · have h := if_F h hc7
              refine rz_B.ifT ((lt32 hv3 (hw 36 (v6).toNat).1).mpr (Int.not_le.mp hc7)) ?_
              refine rz_B.go 4 (pc' := 97) (L' := [some (.ref 33), some (vI v1), some (vI v2), some (vI v3), some (vI v4), some (vI v5), some (vI v6), some (vI 0)]) (S' := []) rfl ?_
              obtain ⟨hk13, h⟩ := rz_g32_inv h
              refine rz_B.iinc rfl (by decide) rfl (L' := [some (.ref 33), some (vI v1), some (vI v2), some (vI v3), some (vI v4), some (vI v5), some (vI (v6 + 1)), some (vI 0)]) rfl ?_
              refine rz_B.go 1 (pc' := 6) (L' := [some (.ref 33), some (vI v1), some (vI v2), some (vI v3), some (vI v4), some (vI v5), some (vI (v6 + 1)), some (vI 0)]) (S' := []) rfl ?_
              refine rz_B.more (rg_le_ok (L := [some (.ref 33), some (vI v1), some (vI v2), some (vI v3), some (vI v4), some (vI v5), some (vI (v6 + 1)), none]) (by simp [rg_le])) ?_
              exact ih _ _ _ _ _ _ _ _ _ h hv1 hv2 hv3 hv4 hv5 hk13 hw
          · have h := if_F h hc6
            refine rz_B.ifT ((lt32 hv4 (hw 39 (v6).toNat).1).mpr (Int.not_le.mp hc6)) ?_
            refine rz_B.go 4 (pc' := 97) (L' := [some (.ref 33), some (vI v1), some (vI v2), some (vI v3), some (vI v4), some (vI v5), some (vI v6), some (vI 0)]) (S' := []) rfl ?_
            obtain ⟨hk14, h⟩ := rz_g32_inv h
            refine rz_B.iinc rfl (by decide) rfl (L' := [some (.ref 33), some (vI v1), some (vI v2), some (vI v3), some (vI v4), some (vI v5), some (vI (v6 + 1)), some (vI 0)]) rfl ?_
            refine rz_B.go 1 (pc' := 6) (L' := [some (.ref 33), some (vI v1), some (vI v2), some (vI v3), some (vI v4), some (vI v5), some (vI (v6 + 1)), some (vI 0)]) (S' := []) rfl ?_
            refine rz_B.more (rg_le_ok (L := [some (.ref 33), some (vI v1), some (vI v2), some (vI v3), some (vI v4), some (vI v5), some (vI (v6 + 1)), none]) (by simp [rg_le])) ?_
            exact ih _ _ _ _ _ _ _ _ _ h hv1 hv2 hv3 hv4 hv5 hk14 hw
        · have h := if_F h hc5
          refine rz_B.ifT (mt (eq32 (hw 34 (v6).toNat).1 hv2).mp hc5) ?_
          refine rz_B.go 4 (pc' := 97) (L' := [some (.ref 33), some (vI v1), some (vI v2), some (vI v3), some (vI v4), some (vI v5), some (vI v6), some (vI 0)]) (S' := []) rfl ?_
          obtain ⟨hk15, h⟩ := rz_g32_inv h
          refine rz_B.iinc rfl (by decide) rfl (L' := [some (.ref 33), some (vI v1), some (vI v2), some (vI v3), some (vI v4), some (vI v5), some (vI (v6 + 1)), some (vI 0)]) rfl ?_
          refine rz_B.go 1 (pc' := 6) (L' := [some (.ref 33), some (vI v1), some (vI v2), some (vI v3), some (vI v4), some (vI v5), some (vI (v6 + 1)), some (vI 0)]) (S' := []) rfl ?_
          refine rz_B.more (rg_le_ok (L := [some (.ref 33), some (vI v1), some (vI v2), some (vI v3), some (vI v4), some (vI v5), some (vI (v6 + 1)), none]) (by simp [rg_le])) ?_
          exact ih _ _ _ _ _ _ _ _ _ h hv1 hv2 hv3 hv4 hv5 hk15 hw
      · have h := if_F h hc4
        refine rz_B.ifT (mt (eq32 (hw 35 (v6).toNat).1 hv1).mp hc4) ?_
        refine rz_B.go 4 (pc' := 97) (L' := [some (.ref 33), some (vI v1), some (vI v2), some (vI v3), some (vI v4), some (vI v5), some (vI v6), some (vI 0)]) (S' := []) rfl ?_
        obtain ⟨hk16, h⟩ := rz_g32_inv h
        refine rz_B.iinc rfl (by decide) rfl (L' := [some (.ref 33), some (vI v1), some (vI v2), some (vI v3), some (vI v4), some (vI v5), some (vI (v6 + 1)), some (vI 0)]) rfl ?_
        refine rz_B.go 1 (pc' := 6) (L' := [some (.ref 33), some (vI v1), some (vI v2), some (vI v3), some (vI v4), some (vI v5), some (vI (v6 + 1)), some (vI 0)]) (S' := []) rfl ?_
        refine rz_B.more (rg_le_ok (L := [some (.ref 33), some (vI v1), some (vI v2), some (vI v3), some (vI v4), some (vI v5), some (vI (v6 + 1)), none]) (by simp [rg_le])) ?_
        exact ih _ _ _ _ _ _ _ _ _ h hv1 hv2 hv3 hv4 hv5 hk16 hw
    · have h := if_F h hc1
      refine rz_B.ifT ((le32 (hw 33 0).1 hv6).mpr (Int.not_lt.mp hc1)) ?_
      refine rz_B.go 1 (pc' := 105) (L' := [some (.ref 33), some (vI v1), some (vI v2), some (vI v3), some (vI v4), some (vI v5), some (vI v6), none]) (S' := [vI v5]) rfl ?_
      cases h
      exact rz_B.ret rfl hv5 hw
/-- RiverGauge$Covers.greatest(IIII)I -/
def x88_greatest (F : Nat) (a0 : Int) (a1 : Int) (a2 : Int) (a3 : Int) (A : rz_A) : Option (Int × rz_A) :=
  x88_greatest_6 F F a0 a1 a2 a3 (-1) 0 A
theorem cx88_greatest (F : Nat) {d : Nat} {a0 : Int} {a1 : Int} {a2 : Int} {a3 : Int} {A : rz_A} {r : Int} {A' : rz_A} (h : x88_greatest F a0 a1 a2 a3 A = some (r, A')) (ha0 : r32 a0) (ha1 : r32 a1) (ha2 : r32 a2) (ha3 : r32 a3) (hw : wf A) : rg_Rn (d + 2) 88 [.ref 33, vI a0, vI a1, vI a2, vI a3] (toM A) (some (vI r)) (toM A') ∧ (r32 r) ∧ wf A' := by
  show rz_B (d + 2) 88 0 [some (.ref 33), some (vI a0), some (vI a1), some (vI a2), some (vI a3), none, none, none] [] A (some (vI r)) A' (r32 r)
  unfold x88_greatest at h
  refine rz_B.go 4 (pc' := 6) (L' := [some (.ref 33), some (vI a0), some (vI a1), some (vI a2), some (vI a3), some (vI (-1)), some (vI 0), none]) (S' := []) rfl ?_
  refine rz_B.more (rg_le_ok (L := [some (.ref 33), some (vI a0), some (vI a1), some (vI a2), some (vI a3), some (vI (-1)), some (vI 0), none]) (by simp [rg_le])) ?_
  exact cx88_greatest_6 F F _ _ _ _ _ _ _ _ _ h ha0 ha1 ha2 ha3 (by decide) (by decide) hw
/-- RiverGauge$Rating.less(II)I -/
def x90_less (F : Nat) (a0 : Int) (a1 : Int) (A : rz_A) : Option (Int × rz_A) :=
  if a1 ≤ 0 then
    some (a0, A)
  else
    rz_b (x77_share F a0 a1 100 A) fun r2 A2 =>
    rz_g32 r2 <|
    rz_g32 (a0 - r2) <|
    some ((a0 - r2), A2)
theorem cx90_less (F : Nat) {d : Nat} {a0 : Int} {a1 : Int} {A : rz_A} {r : Int} {A' : rz_A} (h : x90_less F a0 a1 A = some (r, A')) (ha0 : r32 a0) (ha1 : r32 a1) (hw : wf A) : rg_Rn (d + 1) 90 [vI a0, vI a1] (toM A) (some (vI r)) (toM A') ∧ (r32 r) ∧ wf A' := by
  show rz_B (d + 1) 90 0 [some (vI a0), some (vI a1)] [] A (some (vI r)) A' (r32 r)
  unfold x90_less at h
  refine rz_B.go 2 (pc' := if decide (Int32.ofInt 0 < Int32.ofInt a1) = true then 8 else 4) (L' := [some (vI a0), some (vI a1)]) (S' := []) rfl ?_
  by_cases hc1 : a1 ≤ 0
  · have h := if_T h hc1
    refine rz_B.ifF (mt (lt32 (by decide) ha1).mp (Int.not_lt.mpr hc1)) ?_
    refine rz_B.go 2 (pc' := 21) (L' := [some (vI a0), some (vI a1)]) (S' := [vI a0]) rfl ?_
    cases h
    exact rz_B.ret rfl ha0 hw
  · have h := if_F h hc1
    refine rz_B.ifT ((lt32 (by decide) ha1).mpr (Int.not_le.mp hc1)) ?_
    refine rz_B.go 2 (pc' := 10) (L' := [some (vI a0), some (vI a1)]) (S' := [vI a0, vI a0]) rfl ?_
    refine rz_B.i2l rfl ha0 ?_
    refine rz_B.go 1 (pc' := 12) (L' := [some (vI a0), some (vI a1)]) (S' := [vI a1, vL a0, vI a0]) rfl ?_
    refine rz_B.i2l rfl ha1 ?_
    refine rz_B.go 1 (pc' := 16) (L' := [some (vI a0), some (vI a1)]) (S' := [vL 100, vL a1, vL a0, vI a0]) rfl ?_
    obtain ⟨r2, A2, hf2, h⟩ := rz_b_inv h
    obtain ⟨hg2, hr2, hw2⟩ := cx77_share F (d := d + 0) hf2 (r64_of ha0) (r64_of ha1) (by decide) hw
    refine rz_B.call (d := d + 0) (as := [vL a0, vL a1, vL 100]) (rest := [vI a0]) (w := some (vL r2)) rfl hg2 ?_
    obtain ⟨hk3, h⟩ := rz_g32_inv h
    refine rz_B.l2i rfl ?_
    obtain ⟨hk4, h⟩ := rz_g32_inv h
    refine rz_B.isub rfl ?_
    cases h
    exact rz_B.ret rfl hk4 hw2
/-- RiverGauge$Rating.rate(I)I -/
def x85_rate (F : Nat) (a0 : Int) (A : rz_A) : Option (Int × rz_A) :=
  if 0 ≤ a0 then
    if (A.1 51 10) ≤ a0 then
      some ((-1), A)
    else
      rz_b (x86_postOf F a0 A) fun r3 A3 =>
      rz_b (x87_timeOf F a0 A3) fun r4 A4 =>
      rz_b (x70_stretchStart F r3 r4 A4) fun r5 A5 =>
      rz_b (x71_stretchEnd F r3 r4 A5) fun r6 A6 =>
      rz_b (x72_draw F r3 r5 r6 A6) fun _ A7 =>
      rz_gx a0 300 <|
      rz_gx r3 6 <|
      rz_b (x80_flowBy_c F (A7.1 54 (a0).toNat) (A7.1 4 (r3).toNat) A7) fun r12 A12 =>
      if r12 < 0 then
        some ((-1), A12)
      else
        rz_b (x88_greatest F 0 r3 r4 (A12.1 51 3) A12) fun r14 A14 =>
        rz_b (x90_less F r12 r14 A14) fun r15 A15 =>
        rz_b (x88_greatest F 1 r3 r4 (A15.1 51 3) A15) fun r16 A16 =>
        rz_b (x90_less F r15 r16 A16) fun r17 A17 =>
        some (r17, A17)
  else
    some ((-1), A)
theorem cx85_rate (F : Nat) {d : Nat} {a0 : Int} {A : rz_A} {r : Int} {A' : rz_A} (h : x85_rate F a0 A = some (r, A')) (ha0 : r32 a0) (hw : wf A) : rg_Rn (d + 4) 85 [.ref 56, vI a0] (toM A) (some (vI r)) (toM A') ∧ (r32 r) ∧ wf A' := by
  show rz_B (d + 4) 85 0 [some (.ref 56), some (vI a0), none, none, none] [] A (some (vI r)) A' (r32 r)
  unfold x85_rate at h
  refine rz_B.go 2 (pc' := if decide (Int32.ofInt a0 < Int32.ofInt 0) = true then 15 else 4) (L' := [some (.ref 56), some (vI a0), none, none, none]) (S' := []) rfl ?_
  by_cases hc1 : 0 ≤ a0
  · have h := if_T h hc1
    refine rz_B.ifF (mt (lt32 ha0 (by decide)).mp (Int.not_lt.mpr hc1)) ?_
    refine rz_B.go 5 (pc' := if decide (Int32.ofInt a0 < Int32.ofInt (A.1 51 10)) = true then 17 else 15) (L' := [some (.ref 56), some (vI a0), none, none, none]) (S' := []) rfl ?_
    by_cases hc2 : (A.1 51 10) ≤ a0
    · have h := if_T h hc2
      refine rz_B.ifF (mt (lt32 ha0 (hw 51 10).1).mp (Int.not_lt.mpr hc2)) ?_
      refine rz_B.go 1 (pc' := 16) (L' := [some (.ref 56), some (vI a0), none, none, none]) (S' := [vI (-1)]) rfl ?_
      cases h
      exact rz_B.ret rfl (by decide) hw
    · have h := if_F h hc2
      refine rz_B.ifT ((lt32 ha0 (hw 51 10).1).mpr (Int.not_le.mp hc2)) ?_
      refine rz_B.go 3 (pc' := 22) (L' := [some (.ref 56), some (vI a0), none, none, none]) (S' := [vI a0, .ref 51]) rfl ?_
      obtain ⟨r3, A3, hf3, h⟩ := rz_b_inv h
      obtain ⟨hg3, hr3, hw3⟩ := cx86_postOf F (d := d + 3) hf3 ha0 hw
      refine rz_B.call (d := d + 3) (as := [.ref 51, vI a0]) (rest := []) (w := some (vI r3)) rfl hg3 ?_
      refine rz_B.go 4 (pc' := 31) (L' := [some (.ref 56), some (vI a0), some (vI r3), none, none]) (S' := [vI a0, .ref 51]) rfl ?_
      obtain ⟨r4, A4, hf4, h⟩ := rz_b_inv h
      obtain ⟨hg4, hr4, hw4⟩ := cx87_timeOf F (d := d + 3) hf4 ha0 hw3
      refine rz_B.call (d := d + 3) (as := [.ref 51, vI a0]) (rest := []) (w := some (vI r4)) rfl hg4 ?_
      refine rz_B.go 7 (pc' := 43) (L' := [some (.ref 56), some (vI a0), some (vI r3), some (vI r4), none]) (S' := [vI r4, vI r3, .ref 2, vI r3, .ref 56]) rfl ?_
      obtain ⟨r5, A5, hf5, h⟩ := rz_b_inv h
      obtain ⟨hg5, hr5, hw5⟩ := cx70_stretchStart F (d := d + 3) hf5 hr3 hr4 hw4
      refine rz_B.call (d := d + 3) (as := [.ref 2, vI r3, vI r4]) (rest := [vI r3, .ref 56]) (w := some (vI r5)) rfl hg5 ?_
      refine rz_B.go 4 (pc' := 52) (L' := [some (.ref 56), some (vI a0), some (vI r3), some (vI r4), none]) (S' := [vI r4, vI r3, .ref 2, vI r5, vI r3, .ref 56]) rfl ?_
      obtain ⟨r6, A6, hf6, h⟩ := rz_b_inv h
      obtain ⟨hg6, hr6, hw6⟩ := cx71_stretchEnd F (d := d + 3) hf6 hr3 hr4 hw5
      refine rz_B.call (d := d + 3) (as := [.ref 2, vI r3, vI r4]) (rest := [vI r5, vI r3, .ref 56]) (w := some (vI r6)) rfl hg6 ?_
      obtain ⟨_, A7, hf7, h⟩ := rz_b_inv h
      obtain ⟨hg7, hr7, hw7⟩ := cx72_draw F (d := d + 0) hf7 hr3 hr5 hr6 hw6
      refine rz_B.call (d := d + 3) (as := [.ref 56, vI r3, vI r5, vI r6]) (rest := []) (w := none) rfl hg7 ?_
      refine rz_B.go 6 (pc' := 70) (L' := [some (.ref 56), some (vI a0), some (vI r3), some (vI r4), none]) (S' := [vI a0, .ref 54, .ref 57]) rfl ?_
      obtain ⟨hi8, hj9, h⟩ := rz_gx_inv h
      refine rz_B.iald rfl rfl hi8 hj9 (by decide) ?_
      refine rz_B.go 4 (pc' := 79) (L' := [some (.ref 56), some (vI a0), some (vI r3), some (vI r4), none]) (S' := [vI r3, .ref 4, vI (A7.1 54 (a0).toNat), .ref 57]) rfl ?_
      obtain ⟨hi10, hj11, h⟩ := rz_gx_inv h
      refine rz_B.iald rfl rfl hi10 hj11 (by decide) ?_
      obtain ⟨r12, A12, hf12, h⟩ := rz_b_inv h
      obtain ⟨hg12, hr12, hw12⟩ := cx80_flowBy_c F (d := d + 1) hf12 (hw7 54 (a0).toNat).1 (hw7 4 (r3).toNat).1 hw7
      refine rz_B.call (d := d + 3) (as := [.ref 57, vI (A7.1 54 (a0).toNat), vI (A7.1 4 (r3).toNat)]) (rest := []) (w := some (vI r12)) rfl hg12 ?_
      refine rz_B.go 3 (pc' := if decide (Int32.ofInt 0 ≤ Int32.ofInt r12) = true then 92 else 90) (L' := [some (.ref 56), some (vI a0), some (vI r3), some (vI r4), some (vI r12)]) (S' := []) rfl ?_
      by_cases hc13 : r12 < 0
      · have h := if_T h hc13
        refine rz_B.ifF (mt (le32 (by decide) hr12).mp (Int.not_le.mpr hc13)) ?_
        refine rz_B.go 1 (pc' := 91) (L' := [some (.ref 56), some (vI a0), some (vI r3), some (vI r4), some (vI r12)]) (S' := [vI (-1)]) rfl ?_
        cases h
        exact rz_B.ret rfl (by decide) hw12
      · have h := if_F h hc13
        refine rz_B.ifT ((le32 (by decide) hr12).mpr (Int.not_lt.mp hc13)) ?_
        refine rz_B.go 9 (pc' := 108) (L' := [some (.ref 56), some (vI a0), some (vI r3), some (vI r4), some (vI r12)]) (S' := [vI (A12.1 51 3), vI r4, vI r3, vI 0, .ref 33, vI r12]) rfl ?_
        obtain ⟨r14, A14, hf14, h⟩ := rz_b_inv h
        obtain ⟨hg14, hr14, hw14⟩ := cx88_greatest F (d := d + 1) hf14 (by decide) hr3 hr4 (hw12 51 3).1 hw12
        refine rz_B.call (d := d + 3) (as := [.ref 33, vI 0, vI r3, vI r4, vI (A12.1 51 3)]) (rest := [vI r12]) (w := some (vI r14)) rfl hg14 ?_
        obtain ⟨r15, A15, hf15, h⟩ := rz_b_inv h
        obtain ⟨hg15, hr15, hw15⟩ := cx90_less F (d := d + 2) hf15 hr12 hr14 hw14
        refine rz_B.call (d := d + 3) (as := [vI r12, vI r14]) (rest := []) (w := some (vI r15)) rfl hg15 ?_
        refine rz_B.go 10 (pc' := 132) (L' := [some (.ref 56), some (vI a0), some (vI r3), some (vI r4), some (vI r15)]) (S' := [vI (A15.1 51 3), vI r4, vI r3, vI 1, .ref 33, vI r15]) rfl ?_
        obtain ⟨r16, A16, hf16, h⟩ := rz_b_inv h
        obtain ⟨hg16, hr16, hw16⟩ := cx88_greatest F (d := d + 1) hf16 (by decide) hr3 hr4 (hw15 51 3).1 hw15
        refine rz_B.call (d := d + 3) (as := [.ref 33, vI 1, vI r3, vI r4, vI (A15.1 51 3)]) (rest := [vI r15]) (w := some (vI r16)) rfl hg16 ?_
        obtain ⟨r17, A17, hf17, h⟩ := rz_b_inv h
        obtain ⟨hg17, hr17, hw17⟩ := cx90_less F (d := d + 2) hf17 hr15 hr16 hw16
        refine rz_B.call (d := d + 3) (as := [vI r15, vI r16]) (rest := []) (w := some (vI r17)) rfl hg17 ?_
        cases h
        exact rz_B.ret rfl hr17 hw17
  · have h := if_F h hc1
    refine rz_B.ifT ((lt32 ha0 (by decide)).mpr (Int.not_le.mp hc1)) ?_
    refine rz_B.go 1 (pc' := 16) (L' := [some (.ref 56), some (vI a0), none, none, none]) (S' := [vI (-1)]) rfl ?_
    cases h
    exact rz_B.ret rfl (by decide) hw
