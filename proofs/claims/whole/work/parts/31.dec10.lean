set_option maxRecDepth 16384
def x196_goes_19 (F : Nat) : Nat → Int → Int → Int → Int → rz_A → Option (Int × rz_A)
  | 0, _, _, _, _, _ => none
  | n + 1, v1, v3, v4, v5, A =>
    if v5 ≤ v3 then
      rz_gx v5 8 <|
      rz_g32 (8 * v1) <|
      rz_gx v1 6 <|
      rz_g32 ((A.1 145 (v5).toNat) + v4) <|
      rz_b (x185_along_q F (8 * v1) (A.1 96 (v1).toNat) (-2000) ((A.1 145 (v5).toNat) + v4) A) fun r8 A8 =>
      rz_gx (A.1 144 (v5).toNat) 60 <|
      rz_g32 ((A8.1 112 ((A.1 144 (v5).toNat)).toNat) * (A8.1 113 ((A.1 144 (v5).toNat)).toNat)) <|
      rz_g32 (((A8.1 112 ((A.1 144 (v5).toNat)).toNat) * (A8.1 113 ((A.1 144 (v5).toNat)).toNat)).tdiv 100) <|
      rz_g32 ((A8.1 112 ((A.1 144 (v5).toNat)).toNat) - (((A8.1 112 ((A.1 144 (v5).toNat)).toNat) * (A8.1 113 ((A.1 144 (v5).toNat)).toNat)).tdiv 100)) <|
      if ((A8.1 112 ((A.1 144 (v5).toNat)).toNat) - (((A8.1 112 ((A.1 144 (v5).toNat)).toNat) * (A8.1 113 ((A.1 144 (v5).toNat)).toNat)).tdiv 100)) ≤ r8 then
        rz_g32 ((A8.1 112 ((A.1 144 (v5).toNat)).toNat) + (((A8.1 112 ((A.1 144 (v5).toNat)).toNat) * (A8.1 113 ((A.1 144 (v5).toNat)).toNat)).tdiv 100)) <|
        if ((A8.1 112 ((A.1 144 (v5).toNat)).toNat) + (((A8.1 112 ((A.1 144 (v5).toNat)).toNat) * (A8.1 113 ((A.1 144 (v5).toNat)).toNat)).tdiv 100)) < r8 then
          some (0, A8)
        else
          rz_g32 (v5 + 1) <|
          x196_goes_19 F n v1 v3 v4 (v5 + 1) A8
      else
        some (0, A8)
    else
      some (1, A)
theorem cx196_goes_19 {d : Nat} (F : Nat) : ∀ (n : Nat) (v1 : Int) (v3 : Int) (v4 : Int) (v5 : Int) (A : rz_A) (r : Int) (A' : rz_A), x196_goes_19 F n v1 v3 v4 v5 A = some (r, A') → r32 v1 → r32 v3 → r32 v4 → r32 v5 → wf A → rz_B (d + 1) 196 19 [some (.ref 91), some (vI v1), none, some (vI v3), some (vI v4), some (vI v5), none, none, none] [] A (some (vI r)) A' (r32 r) := by
  intro n
  induction n with
  | zero => intro v1 v3 v4 v5 A r A' h; cases h
  | succ n ih =>
    intro v1 v3 v4 v5 A r A' h hv1 hv3 hv4 hv5 hw
    rw [x196_goes_19] at h
    refine rz_B.go 3 (pc' := if decide (Int32.ofInt v3 < Int32.ofInt v5) = true then 129 else 25) (L' := [some (.ref 91), some (vI v1), none, some (vI v3), some (vI v4), some (vI v5), none, none, none]) (S' := []) rfl ?_
    by_cases hc1 : v5 ≤ v3
    · have h := if_T h hc1
      refine rz_B.ifF (mt (lt32 hv3 hv5).mp (Int.not_lt.mpr hc1)) ?_
      refine rz_B.go 3 (pc' := 31) (L' := [some (.ref 91), some (vI v1), none, some (vI v3), some (vI v4), some (vI v5), none, none, none]) (S' := [vI v5, .ref 144]) rfl ?_
      obtain ⟨hi2, hj3, h⟩ := rz_gx_inv h
      refine rz_B.iald rfl rfl hi2 hj3 (by decide) ?_
      refine rz_B.go 8 (pc' := 46) (L' := [some (.ref 91), some (vI v1), none, some (vI v3), some (vI v4), some (vI v5), some (vI (A.1 144 (v5).toNat)), none, none]) (S' := [vI v1, vI 8, .ref 99, .ref 98, .ref 91]) rfl ?_
      obtain ⟨hk4, h⟩ := rz_g32_inv h
      refine rz_B.imul rfl ?_
      refine rz_B.go 3 (pc' := 52) (L' := [some (.ref 91), some (vI v1), none, some (vI v3), some (vI v4), some (vI v5), some (vI (A.1 144 (v5).toNat)), none, none]) (S' := [vI v1, .ref 96, vI (8 * v1), .ref 99, .ref 98, .ref 91]) rfl ?_
      obtain ⟨hi5, hj6, h⟩ := rz_gx_inv h
      refine rz_B.iald rfl rfl hi5 hj6 (by decide) ?_
      refine rz_B.go 4 (pc' := 62) (L' := [some (.ref 91), some (vI v1), none, some (vI v3), some (vI v4), some (vI v5), some (vI (A.1 144 (v5).toNat)), none, none]) (S' := [vI v5, .ref 145, vI (-2000), vI (A.1 96 (v1).toNat), vI (8 * v1), .ref 99, .ref 98, .ref 91]) rfl ?_
      refine rz_B.iald rfl rfl hi2 hj3 (by decide) ?_
      refine rz_B.go 1 (pc' := 65) (L' := [some (.ref 91), some (vI v1), none, some (vI v3), some (vI v4), some (vI v5), some (vI (A.1 144 (v5).toNat)), none, none]) (S' := [vI v4, vI (A.1 145 (v5).toNat), vI (-2000), vI (A.1 96 (v1).toNat), vI (8 * v1), .ref 99, .ref 98, .ref 91]) rfl ?_
      obtain ⟨hk7, h⟩ := rz_g32_inv h
      refine rz_B.iadd rfl ?_
      obtain ⟨r8, A8, hf8, h⟩ := rz_b_inv h
      obtain ⟨hg8, hr8, hw8⟩ := cx185_along_q F (d := d + 0) hf8 hk4 (hw 96 (v1).toNat).1 (by decide) hk7 hw
      refine rz_B.call (d := d + 0) (as := [.ref 91, .ref 98, .ref 99, vI (8 * v1), vI (A.1 96 (v1).toNat), vI (-2000), vI ((A.1 145 (v5).toNat) + v4)]) (rest := []) (w := some (vI r8)) rfl hg8 ?_
      refine rz_B.go 4 (pc' := 77) (L' := [some (.ref 91), some (vI v1), none, some (vI v3), some (vI v4), some (vI v5), some (vI (A.1 144 (v5).toNat)), some (vI r8), none]) (S' := [vI (A.1 144 (v5).toNat), .ref 112]) rfl ?_
      obtain ⟨hi9, hj10, h⟩ := rz_gx_inv h
      refine rz_B.iald rfl rfl hi9 hj10 (by decide) ?_
      refine rz_B.go 3 (pc' := 84) (L' := [some (.ref 91), some (vI v1), none, some (vI v3), some (vI v4), some (vI v5), some (vI (A.1 144 (v5).toNat)), some (vI r8), none]) (S' := [vI (A.1 144 (v5).toNat), .ref 113, vI (A8.1 112 ((A.1 144 (v5).toNat)).toNat)]) rfl ?_
      refine rz_B.iald rfl rfl hi9 hj10 (by decide) ?_
      obtain ⟨hk11, h⟩ := rz_g32_inv h
      refine rz_B.imul rfl ?_
      refine rz_B.go 1 (pc' := 88) (L' := [some (.ref 91), some (vI v1), none, some (vI v3), some (vI v4), some (vI v5), some (vI (A.1 144 (v5).toNat)), some (vI r8), none]) (S' := [vI 100, vI ((A8.1 112 ((A.1 144 (v5).toNat)).toNat) * (A8.1 113 ((A.1 144 (v5).toNat)).toNat))]) rfl ?_
      obtain ⟨hk12, h⟩ := rz_g32_inv h
      refine rz_B.idiv rfl hk11 (by decide) (by decide) ?_
      refine rz_B.go 5 (pc' := 99) (L' := [some (.ref 91), some (vI v1), none, some (vI v3), some (vI v4), some (vI v5), some (vI (A.1 144 (v5).toNat)), some (vI r8), some (vI (((A8.1 112 ((A.1 144 (v5).toNat)).toNat) * (A8.1 113 ((A.1 144 (v5).toNat)).toNat)).tdiv 100))]) (S' := [vI (A.1 144 (v5).toNat), .ref 112, vI r8]) rfl ?_
      refine rz_B.iald rfl rfl hi9 hj10 (by decide) ?_
      refine rz_B.go 1 (pc' := 102) (L' := [some (.ref 91), some (vI v1), none, some (vI v3), some (vI v4), some (vI v5), some (vI (A.1 144 (v5).toNat)), some (vI r8), some (vI (((A8.1 112 ((A.1 144 (v5).toNat)).toNat) * (A8.1 113 ((A.1 144 (v5).toNat)).toNat)).tdiv 100))]) (S' := [vI (((A8.1 112 ((A.1 144 (v5).toNat)).toNat) * (A8.1 113 ((A.1 144 (v5).toNat)).toNat)).tdiv 100), vI (A8.1 112 ((A.1 144 (v5).toNat)).toNat), vI r8]) rfl ?_
      obtain ⟨hk13, h⟩ := rz_g32_inv h
      refine rz_B.isub rfl ?_
      refine rz_B.go 1 (pc' := if decide (Int32.ofInt r8 < Int32.ofInt ((A8.1 112 ((A.1 144 (v5).toNat)).toNat) - (((A8.1 112 ((A.1 144 (v5).toNat)).toNat) * (A8.1 113 ((A.1 144 (v5).toNat)).toNat)).tdiv 100))) = true then 121 else 106) (L' := [some (.ref 91), some (vI v1), none, some (vI v3), some (vI v4), some (vI v5), some (vI (A.1 144 (v5).toNat)), some (vI r8), some (vI (((A8.1 112 ((A.1 144 (v5).toNat)).toNat) * (A8.1 113 ((A.1 144 (v5).toNat)).toNat)).tdiv 100))]) (S' := []) rfl ?_
      by_cases hc14 : ((A8.1 112 ((A.1 144 (v5).toNat)).toNat) - (((A8.1 112 ((A.1 144 (v5).toNat)).toNat) * (A8.1 113 ((A.1 144 (v5).toNat)).toNat)).tdiv 100)) ≤ r8
      · have h := if_T h hc14
        refine rz_B.ifF (mt (lt32 hr8 hk13).mp (Int.not_lt.mpr hc14)) ?_
        refine rz_B.go 4 (pc' := 114) (L' := [some (.ref 91), some (vI v1), none, some (vI v3), some (vI v4), some (vI v5), some (vI (A.1 144 (v5).toNat)), some (vI r8), some (vI (((A8.1 112 ((A.1 144 (v5).toNat)).toNat) * (A8.1 113 ((A.1 144 (v5).toNat)).toNat)).tdiv 100))]) (S' := [vI (A.1 144 (v5).toNat), .ref 112, vI r8]) rfl ?_
        refine rz_B.iald rfl rfl hi9 hj10 (by decide) ?_
        refine rz_B.go 1 (pc' := 117) (L' := [some (.ref 91), some (vI v1), none, some (vI v3), some (vI v4), some (vI v5), some (vI (A.1 144 (v5).toNat)), some (vI r8), some (vI (((A8.1 112 ((A.1 144 (v5).toNat)).toNat) * (A8.1 113 ((A.1 144 (v5).toNat)).toNat)).tdiv 100))]) (S' := [vI (((A8.1 112 ((A.1 144 (v5).toNat)).toNat) * (A8.1 113 ((A.1 144 (v5).toNat)).toNat)).tdiv 100), vI (A8.1 112 ((A.1 144 (v5).toNat)).toNat), vI r8]) rfl ?_
        obtain ⟨hk15, h⟩ := rz_g32_inv h
        refine rz_B.iadd rfl ?_
        refine rz_B.go 1 (pc' := if decide (Int32.ofInt r8 ≤ Int32.ofInt ((A8.1 112 ((A.1 144 (v5).toNat)).toNat) + (((A8.1 112 ((A.1 144 (v5).toNat)).toNat) * (A8.1 113 ((A.1 144 (v5).toNat)).toNat)).tdiv 100))) = true then 123 else 121) (L' := [some (.ref 91), some (vI v1), none, some (vI v3), some (vI v4), some (vI v5), some (vI (A.1 144 (v5).toNat)), some (vI r8), some (vI (((A8.1 112 ((A.1 144 (v5).toNat)).toNat) * (A8.1 113 ((A.1 144 (v5).toNat)).toNat)).tdiv 100))]) (S' := []) rfl ?_
        by_cases hc16 : ((A8.1 112 ((A.1 144 (v5).toNat)).toNat) + (((A8.1 112 ((A.1 144 (v5).toNat)).toNat) * (A8.1 113 ((A.1 144 (v5).toNat)).toNat)).tdiv 100)) < r8
        · have h := if_T h hc16
          refine rz_B.ifF (mt (le32 hr8 hk15).mp (Int.not_le.mpr hc16)) ?_
          refine rz_B.go 1 (pc' := 122) (L' := [some (.ref 91), some (vI v1), none, some (vI v3), some (vI v4), some (vI v5), some (vI (A.1 144 (v5).toNat)), some (vI r8), some (vI (((A8.1 112 ((A.1 144 (v5).toNat)).toNat) * (A8.1 113 ((A.1 144 (v5).toNat)).toNat)).tdiv 100))]) (S' := [vI 0]) rfl ?_
          cases h
          exact rz_B.ret rfl (by decide) hw8
        · have h := if_F h hc16
          refine rz_B.ifT ((le32 hr8 hk15).mpr (Int.not_lt.mp hc16)) ?_
          obtain ⟨hk17, h⟩ := rz_g32_inv h
          refine rz_B.iinc rfl (by decide) rfl (L' := [some (.ref 91), some (vI v1), none, some (vI v3), some (vI v4), some (vI (v5 + 1)), some (vI (A.1 144 (v5).toNat)), some (vI r8), some (vI (((A8.1 112 ((A.1 144 (v5).toNat)).toNat) * (A8.1 113 ((A.1 144 (v5).toNat)).toNat)).tdiv 100))]) rfl ?_
          refine rz_B.go 1 (pc' := 19) (L' := [some (.ref 91), some (vI v1), none, some (vI v3), some (vI v4), some (vI (v5 + 1)), some (vI (A.1 144 (v5).toNat)), some (vI r8), some (vI (((A8.1 112 ((A.1 144 (v5).toNat)).toNat) * (A8.1 113 ((A.1 144 (v5).toNat)).toNat)).tdiv 100))]) (S' := []) rfl ?_
          refine rz_B.more (rg_le_ok (L := [some (.ref 91), some (vI v1), none, some (vI v3), some (vI v4), some (vI (v5 + 1)), none, none, none]) (by simp [rg_le])) ?_
          exact ih _ _ _ _ _ _ _ h hv1 hv3 hv4 hk17 hw8
      · have h := if_F h hc14
        refine rz_B.ifT ((lt32 hr8 hk13).mpr (Int.not_le.mp hc14)) ?_
        refine rz_B.go 1 (pc' := 122) (L' := [some (.ref 91), some (vI v1), none, some (vI v3), some (vI v4), some (vI v5), some (vI (A.1 144 (v5).toNat)), some (vI r8), some (vI (((A8.1 112 ((A.1 144 (v5).toNat)).toNat) * (A8.1 113 ((A.1 144 (v5).toNat)).toNat)).tdiv 100))]) (S' := [vI 0]) rfl ?_
        cases h
        exact rz_B.ret rfl (by decide) hw8
    · have h := if_F h hc1
      refine rz_B.ifT ((lt32 hv3 hv5).mpr (Int.not_le.mp hc1)) ?_
      refine rz_B.go 1 (pc' := 130) (L' := [some (.ref 91), some (vI v1), none, some (vI v3), some (vI v4), some (vI v5), none, none, none]) (S' := [vI 1]) rfl ?_
      cases h
      exact rz_B.ret rfl (by decide) hw
/-- RiverGaugeModel.goes(IIII)Z -/
def x196_goes (F : Nat) (a0 : Int) (a1 : Int) (a2 : Int) (a3 : Int) (A : rz_A) : Option (Int × rz_A) :=
  if (-50) ≤ a3 then
    if 50 < a3 then
      some (0, A)
    else
      x196_goes_19 F F a0 a2 a3 a1 A
  else
    some (0, A)
theorem cx196_goes (F : Nat) {d : Nat} {a0 : Int} {a1 : Int} {a2 : Int} {a3 : Int} {A : rz_A} {r : Int} {A' : rz_A} (h : x196_goes F a0 a1 a2 a3 A = some (r, A')) (ha0 : r32 a0) (ha1 : r32 a1) (ha2 : r32 a2) (ha3 : r32 a3) (hw : wf A) : rg_Rn (d + 1) 196 [.ref 91, vI a0, vI a1, vI a2, vI a3] (toM A) (some (vI r)) (toM A') ∧ (r32 r) ∧ wf A' := by
  show rz_B (d + 1) 196 0 [some (.ref 91), some (vI a0), some (vI a1), some (vI a2), some (vI a3), none, none, none, none] [] A (some (vI r)) A' (r32 r)
  unfold x196_goes at h
  refine rz_B.go 3 (pc' := if decide (Int32.ofInt a3 < Int32.ofInt (-50)) = true then 14 else 7) (L' := [some (.ref 91), some (vI a0), some (vI a1), some (vI a2), some (vI a3), none, none, none, none]) (S' := []) rfl ?_
  by_cases hc1 : (-50) ≤ a3
  · have h := if_T h hc1
    refine rz_B.ifF (mt (lt32 ha3 (by decide)).mp (Int.not_lt.mpr hc1)) ?_
    refine rz_B.go 3 (pc' := if decide (Int32.ofInt a3 ≤ Int32.ofInt 50) = true then 16 else 14) (L' := [some (.ref 91), some (vI a0), some (vI a1), some (vI a2), some (vI a3), none, none, none, none]) (S' := []) rfl ?_
    by_cases hc2 : 50 < a3
    · have h := if_T h hc2
      refine rz_B.ifF (mt (le32 ha3 (by decide)).mp (Int.not_le.mpr hc2)) ?_
      refine rz_B.go 1 (pc' := 15) (L' := [some (.ref 91), some (vI a0), some (vI a1), some (vI a2), some (vI a3), none, none, none, none]) (S' := [vI 0]) rfl ?_
      cases h
      exact rz_B.ret rfl (by decide) hw
    · have h := if_F h hc2
      refine rz_B.ifT ((le32 ha3 (by decide)).mpr (Int.not_lt.mp hc2)) ?_
      refine rz_B.go 2 (pc' := 19) (L' := [some (.ref 91), some (vI a0), some (vI a1), some (vI a2), some (vI a3), some (vI a1), none, none, none]) (S' := []) rfl ?_
      refine rz_B.more (rg_le_ok (L := [some (.ref 91), some (vI a0), none, some (vI a2), some (vI a3), some (vI a1), none, none, none]) (by simp [rg_le])) ?_
      exact cx196_goes_19 F F _ _ _ _ _ _ _ h ha0 ha2 ha3 ha1 hw
  · have h := if_F h hc1
    refine rz_B.ifT ((lt32 ha3 (by decide)).mpr (Int.not_le.mp hc1)) ?_
    refine rz_B.go 1 (pc' := 15) (L' := [some (.ref 91), some (vI a0), some (vI a1), some (vI a2), some (vI a3), none, none, none, none]) (S' := [vI 0]) rfl ?_
    cases h
    exact rz_B.ret rfl (by decide) hw
def x195_shiftOf_3 (F : Nat) : Nat → Int → Int → Int → Int → rz_A → Option (Int × rz_A)
  | 0, _, _, _, _, _ => none
  | n + 1, v1, v2, v3, v4, A =>
    if v4 ≤ 50 then
      rz_g32 (-v4) <|
      rz_b (x196_goes F v1 v2 v3 (-v4) A) fun r3 A3 =>
      if r3 = 0 then
        rz_b (x196_goes F v1 v2 v3 v4 A3) fun r5 A5 =>
        if r5 = 0 then
          rz_g32 (v4 + 1) <|
          x195_shiftOf_3 F n v1 v2 v3 (v4 + 1) A5
        else
          some (v4, A5)
      else
        some ((-v4), A3)
    else
      some (99, A)
theorem cx195_shiftOf_3 {d : Nat} (F : Nat) : ∀ (n : Nat) (v1 : Int) (v2 : Int) (v3 : Int) (v4 : Int) (A : rz_A) (r : Int) (A' : rz_A), x195_shiftOf_3 F n v1 v2 v3 v4 A = some (r, A') → r32 v1 → r32 v2 → r32 v3 → r32 v4 → wf A → rz_B (d + 2) 195 3 [some (.ref 91), some (vI v1), some (vI v2), some (vI v3), some (vI v4)] [] A (some (vI r)) A' (r32 r) := by
  intro n
  induction n with
  | zero => intro v1 v2 v3 v4 A r A' h; cases h
  | succ n ih =>
    intro v1 v2 v3 v4 A r A' h hv1 hv2 hv3 hv4 hw
    rw [x195_shiftOf_3] at h
    refine rz_B.go 3 (pc' := if decide (Int32.ofInt 50 < Int32.ofInt v4) = true then 48 else 10) (L' := [some (.ref 91), some (vI v1), some (vI v2), some (vI v3), some (vI v4)]) (S' := []) rfl ?_
    by_cases hc1 : v4 ≤ 50
    · have h := if_T h hc1
      refine rz_B.ifF (mt (lt32 (by decide) hv4).mp (Int.not_lt.mpr hc1)) ?_
      refine rz_B.go 5 (pc' := 16) (L' := [some (.ref 91), some (vI v1), some (vI v2), some (vI v3), some (vI v4)]) (S' := [vI v4, vI v3, vI v2, vI v1, .ref 91]) rfl ?_
      obtain ⟨hk2, h⟩ := rz_g32_inv h
      refine rz_B.ineg rfl ?_
      obtain ⟨r3, A3, hf3, h⟩ := rz_b_inv h
      obtain ⟨hg3, hr3, hw3⟩ := cx196_goes F (d := d + 0) hf3 hv1 hv2 hv3 hk2 hw
      refine rz_B.call (d := d + 1) (as := [.ref 91, vI v1, vI v2, vI v3, vI (-v4)]) (rest := []) (w := some (vI r3)) rfl hg3 ?_
      refine rz_B.go 1 (pc' := if decide (Int32.ofInt r3 = Int32.ofInt 0) = true then 27 else 23) (L' := [some (.ref 91), some (vI v1), some (vI v2), some (vI v3), some (vI v4)]) (S' := []) rfl ?_
      by_cases hc4 : r3 = 0
      · have h := if_T h hc4
        refine rz_B.ifT ((eq32 hr3 (by decide)).mpr hc4) ?_
        refine rz_B.go 5 (pc' := 33) (L' := [some (.ref 91), some (vI v1), some (vI v2), some (vI v3), some (vI v4)]) (S' := [vI v4, vI v3, vI v2, vI v1, .ref 91]) rfl ?_
        obtain ⟨r5, A5, hf5, h⟩ := rz_b_inv h
        obtain ⟨hg5, hr5, hw5⟩ := cx196_goes F (d := d + 0) hf5 hv1 hv2 hv3 hv4 hw3
        refine rz_B.call (d := d + 1) (as := [.ref 91, vI v1, vI v2, vI v3, vI v4]) (rest := []) (w := some (vI r5)) rfl hg5 ?_
        refine rz_B.go 1 (pc' := if decide (Int32.ofInt r5 = Int32.ofInt 0) = true then 42 else 39) (L' := [some (.ref 91), some (vI v1), some (vI v2), some (vI v3), some (vI v4)]) (S' := []) rfl ?_
        by_cases hc6 : r5 = 0
        · have h := if_T h hc6
          refine rz_B.ifT ((eq32 hr5 (by decide)).mpr hc6) ?_
          obtain ⟨hk7, h⟩ := rz_g32_inv h
          refine rz_B.iinc rfl (by decide) rfl (L' := [some (.ref 91), some (vI v1), some (vI v2), some (vI v3), some (vI (v4 + 1))]) rfl ?_
          refine rz_B.go 1 (pc' := 3) (L' := [some (.ref 91), some (vI v1), some (vI v2), some (vI v3), some (vI (v4 + 1))]) (S' := []) rfl ?_
          refine rz_B.more (rg_le_ok (L := [some (.ref 91), some (vI v1), some (vI v2), some (vI v3), some (vI (v4 + 1))]) (by simp [rg_le])) ?_
          exact ih _ _ _ _ _ _ _ h hv1 hv2 hv3 hk7 hw5
        · have h := if_F h hc6
          refine rz_B.ifF (mt (eq32 hr5 (by decide)).mp hc6) ?_
          refine rz_B.go 1 (pc' := 41) (L' := [some (.ref 91), some (vI v1), some (vI v2), some (vI v3), some (vI v4)]) (S' := [vI v4]) rfl ?_
          cases h
          exact rz_B.ret rfl hv4 hw5
      · have h := if_F h hc4
        refine rz_B.ifF (mt (eq32 hr3 (by decide)).mp hc4) ?_
        refine rz_B.go 1 (pc' := 25) (L' := [some (.ref 91), some (vI v1), some (vI v2), some (vI v3), some (vI v4)]) (S' := [vI v4]) rfl ?_
        refine rz_B.ineg rfl ?_
        cases h
        exact rz_B.ret rfl hk2 hw3
    · have h := if_F h hc1
      refine rz_B.ifT ((lt32 (by decide) hv4).mpr (Int.not_le.mp hc1)) ?_
      refine rz_B.go 1 (pc' := 50) (L' := [some (.ref 91), some (vI v1), some (vI v2), some (vI v3), some (vI v4)]) (S' := [vI 99]) rfl ?_
      cases h
      exact rz_B.ret rfl (by decide) hw
/-- RiverGaugeModel.shiftOf(III)I -/
def x195_shiftOf (F : Nat) (a0 : Int) (a1 : Int) (a2 : Int) (A : rz_A) : Option (Int × rz_A) :=
  x195_shiftOf_3 F F a0 a1 a2 0 A
theorem cx195_shiftOf (F : Nat) {d : Nat} {a0 : Int} {a1 : Int} {a2 : Int} {A : rz_A} {r : Int} {A' : rz_A} (h : x195_shiftOf F a0 a1 a2 A = some (r, A')) (ha0 : r32 a0) (ha1 : r32 a1) (ha2 : r32 a2) (hw : wf A) : rg_Rn (d + 2) 195 [.ref 91, vI a0, vI a1, vI a2] (toM A) (some (vI r)) (toM A') ∧ (r32 r) ∧ wf A' := by
  show rz_B (d + 2) 195 0 [some (.ref 91), some (vI a0), some (vI a1), some (vI a2), none] [] A (some (vI r)) A' (r32 r)
  unfold x195_shiftOf at h
  refine rz_B.go 2 (pc' := 3) (L' := [some (.ref 91), some (vI a0), some (vI a1), some (vI a2), some (vI 0)]) (S' := []) rfl ?_
  refine rz_B.more (rg_le_ok (L := [some (.ref 91), some (vI a0), some (vI a1), some (vI a2), some (vI 0)]) (by simp [rg_le])) ?_
  exact cx195_shiftOf_3 F F _ _ _ _ _ _ _ h ha0 ha1 ha2 (by decide) hw
def x194_tries_12 (F : Nat) (k2 : (Int → Int → rz_A → Option (Unit × rz_A))) : Nat → Int → Int → Int → rz_A → Option (Unit × rz_A)
  | 0, _, _, _, _ => none
  | n + 1, v1, v2, v3, A =>
    if v3 < (A.1 91 80) then
      rz_g32 (8 * v2) <|
      rz_g32 ((8 * v2) + v3) <|
      rz_b (x195_shiftOf F v1 v2 v3 A) fun r4 A4 =>
      rz_gx ((8 * v2) + v3) 64 <|
      rz_g32 (v3 + 1) <|
      x194_tries_12 F k2 n v1 v2 (v3 + 1) (aI A4 146 (((8 * v2) + v3)).toNat r4)
    else
      rz_g32 (v2 + 1) <|
      k2 v1 (v2 + 1) A
theorem cx194_tries_12 {d : Nat} (F : Nat) {k2 : (Int → Int → rz_A → Option (Unit × rz_A))} (hkk2 : ∀ (v1 : Int) (v2 : Int) (A : rz_A) (r : Unit) (A' : rz_A), k2 v1 v2 A = some (r, A') → r32 v1 → r32 v2 → wf A → rz_B (d + 3) 194 2 [some (.ref 91), some (vI v1), some (vI v2), none] [] A (none) A' (True)) : ∀ (n : Nat) (v1 : Int) (v2 : Int) (v3 : Int) (A : rz_A) (r : Unit) (A' : rz_A), x194_tries_12 F k2 n v1 v2 v3 A = some (r, A') → r32 v1 → r32 v2 → r32 v3 → wf A → rz_B (d + 3) 194 12 [some (.ref 91), some (vI v1), some (vI v2), some (vI v3)] [] A (none) A' (True) := by
  intro n
  induction n with
  | zero => intro v1 v2 v3 A r A' h; cases h
  | succ n ih =>
    intro v1 v2 v3 A r A' h hv1 hv2 hv3 hw
    rw [x194_tries_12] at h
    refine rz_B.go 4 (pc' := if decide (Int32.ofInt (A.1 91 80) ≤ Int32.ofInt v3) = true then 44 else 20) (L' := [some (.ref 91), some (vI v1), some (vI v2), some (vI v3)]) (S' := []) rfl ?_
    by_cases hc1 : v3 < (A.1 91 80)
    · have h := if_T h hc1
      refine rz_B.ifF (mt (le32 (hw 91 80).1 hv3).mp (Int.not_le.mpr hc1)) ?_
      refine rz_B.go 4 (pc' := 27) (L' := [some (.ref 91), some (vI v1), some (vI v2), some (vI v3)]) (S' := [vI v2, vI 8, .ref 146]) rfl ?_
      obtain ⟨hk2, h⟩ := rz_g32_inv h
      refine rz_B.imul rfl ?_
      refine rz_B.go 1 (pc' := 29) (L' := [some (.ref 91), some (vI v1), some (vI v2), some (vI v3)]) (S' := [vI v3, vI (8 * v2), .ref 146]) rfl ?_
      obtain ⟨hk3, h⟩ := rz_g32_inv h
      refine rz_B.iadd rfl ?_
      refine rz_B.go 4 (pc' := 34) (L' := [some (.ref 91), some (vI v1), some (vI v2), some (vI v3)]) (S' := [vI v3, vI v2, vI v1, .ref 91, vI ((8 * v2) + v3), .ref 146]) rfl ?_
      obtain ⟨r4, A4, hf4, h⟩ := rz_b_inv h
      obtain ⟨hg4, hr4, hw4⟩ := cx195_shiftOf F (d := d + 0) hf4 hv1 hv2 hv3 hw
      refine rz_B.call (d := d + 2) (as := [.ref 91, vI v1, vI v2, vI v3]) (rest := [vI ((8 * v2) + v3), .ref 146]) (w := some (vI r4)) rfl hg4 ?_
      obtain ⟨hi5, hj6, h⟩ := rz_gx_inv h
      refine rz_B.iast rfl rfl hi5 hj6 (by decide) ?_
      have hw7 : wf (aI A4 146 (((8 * v2) + v3)).toNat r4) := wf_aI hw4 hr4
      obtain ⟨hk8, h⟩ := rz_g32_inv h
      refine rz_B.iinc rfl (by decide) rfl (L' := [some (.ref 91), some (vI v1), some (vI v2), some (vI (v3 + 1))]) rfl ?_
      refine rz_B.go 1 (pc' := 12) (L' := [some (.ref 91), some (vI v1), some (vI v2), some (vI (v3 + 1))]) (S' := []) rfl ?_
      refine rz_B.more (rg_le_ok (L := [some (.ref 91), some (vI v1), some (vI v2), some (vI (v3 + 1))]) (by simp [rg_le])) ?_
      exact ih _ _ _ _ _ _ h hv1 hv2 hk8 hw7
    · have h := if_F h hc1
      refine rz_B.ifT ((le32 (hw 91 80).1 hv3).mpr (Int.not_lt.mp hc1)) ?_
      obtain ⟨hk9, h⟩ := rz_g32_inv h
      refine rz_B.iinc rfl (by decide) rfl (L' := [some (.ref 91), some (vI v1), some (vI (v2 + 1)), some (vI v3)]) rfl ?_
      refine rz_B.go 1 (pc' := 2) (L' := [some (.ref 91), some (vI v1), some (vI (v2 + 1)), some (vI v3)]) (S' := []) rfl ?_
      refine rz_B.more (rg_le_ok (L := [some (.ref 91), some (vI v1), some (vI (v2 + 1)), none]) (by simp [rg_le])) ?_
      exact hkk2 _ _ _ _ _ h hv1 hk9 hw
def x194_tries_2 (F : Nat) : Nat → Int → Int → rz_A → Option (Unit × rz_A)
  | 0, _, _, _ => none
  | n + 1, v1, v2, A =>
    if v2 < (A.1 91 80) then
      x194_tries_12 F (x194_tries_2 F n) F v1 v2 v2 A
    else
      some ((), A)
theorem cx194_tries_2 {d : Nat} (F : Nat) : ∀ (n : Nat) (v1 : Int) (v2 : Int) (A : rz_A) (r : Unit) (A' : rz_A), x194_tries_2 F n v1 v2 A = some (r, A') → r32 v1 → r32 v2 → wf A → rz_B (d + 3) 194 2 [some (.ref 91), some (vI v1), some (vI v2), none] [] A (none) A' (True) := by
  intro n
  induction n with
  | zero => intro v1 v2 A r A' h; cases h
  | succ n ih =>
    intro v1 v2 A r A' h hv1 hv2 hw
    rw [x194_tries_2] at h
    refine rz_B.go 4 (pc' := if decide (Int32.ofInt (A.1 91 80) ≤ Int32.ofInt v2) = true then 50 else 10) (L' := [some (.ref 91), some (vI v1), some (vI v2), none]) (S' := []) rfl ?_
    by_cases hc1 : v2 < (A.1 91 80)
    · have h := if_T h hc1
      refine rz_B.ifF (mt (le32 (hw 91 80).1 hv2).mp (Int.not_le.mpr hc1)) ?_
      refine rz_B.go 2 (pc' := 12) (L' := [some (.ref 91), some (vI v1), some (vI v2), some (vI v2)]) (S' := []) rfl ?_
      refine rz_B.more (rg_le_ok (L := [some (.ref 91), some (vI v1), some (vI v2), some (vI v2)]) (by simp [rg_le])) ?_
      exact cx194_tries_12 F ih F _ _ _ _ _ _ h hv1 hv2 hv2 hw
    · have h := if_F h hc1
      refine rz_B.ifT ((le32 (hw 91 80).1 hv2).mpr (Int.not_lt.mp hc1)) ?_
      cases h
      exact rz_B.ret rfl trivial hw
/-- RiverGaugeModel.tries(I)V -/
def x194_tries (F : Nat) (a0 : Int) (A : rz_A) : Option (Unit × rz_A) :=
  x194_tries_2 F F a0 0 A
theorem cx194_tries (F : Nat) {d : Nat} {a0 : Int} {A : rz_A} {r : Unit} {A' : rz_A} (h : x194_tries F a0 A = some (r, A')) (ha0 : r32 a0) (hw : wf A) : rg_Rn (d + 3) 194 [.ref 91, vI a0] (toM A) (none) (toM A') ∧ (True) ∧ wf A' := by
  show rz_B (d + 3) 194 0 [some (.ref 91), some (vI a0), none, none] [] A (none) A' (True)
  unfold x194_tries at h
  refine rz_B.go 2 (pc' := 2) (L' := [some (.ref 91), some (vI a0), some (vI 0), none]) (S' := []) rfl ?_
  refine rz_B.more (rg_le_ok (L := [some (.ref 91), some (vI a0), some (vI 0), none]) (by simp [rg_le])) ?_
  exact cx194_tries_2 F F _ _ _ _ _ h ha0 (by decide) hw
def x193_seeks_23 (F : Nat) : Nat → Int → rz_A → Option (Unit × rz_A)
  | 0, _, _ => none
  | n + 1, v2, A =>
    rz_g32 ((A.1 91 80) - 1) <|
    if v2 < (rz_oI fShl 1 ((A.1 91 80) - 1)) then
      rz_b (x197_bits F v2 A) fun r3 A3 =>
      if r3 ≤ (A3.1 91 84) then
        rz_b (x198_goesAll F v2 A3) fun r5 A5 =>
        if r5 = 0 then
          rz_g32 (v2 + 1) <|
          x193_seeks_23 F n (v2 + 1) A5
        else
          rz_b (x197_bits F v2 A5) fun r8 A8 =>
          if r8 < (A8.1 91 84) then
            rz_b (x197_bits F v2 A8) fun r10 A10 =>
            rz_g32 (v2 + 1) <|
            x193_seeks_23 F n (v2 + 1) (aI (aI (aI (aI A10 91 84 r10) 91 85 0) 91 86 v2) 91 85 1)
          else
            rz_g32 ((A8.1 91 85) + 1) <|
            rz_g32 (v2 + 1) <|
            x193_seeks_23 F n (v2 + 1) (aI A8 91 85 ((A8.1 91 85) + 1))
      else
        rz_g32 (v2 + 1) <|
        x193_seeks_23 F n (v2 + 1) A3
    else
      some ((), A)
theorem cx193_seeks_23 {d : Nat} (F : Nat) : ∀ (n : Nat) (v2 : Int) (A : rz_A) (r : Unit) (A' : rz_A), x193_seeks_23 F n v2 A = some (r, A') → r32 v2 → wf A → rz_B (d + 4) 193 23 [some (.ref 91), none, some (vI v2)] [] A (none) A' (True) := by
  intro n
  induction n with
  | zero => intro v2 A r A' h; cases h
  | succ n ih =>
    intro v2 A r A' h hv2 hw
    rw [x193_seeks_23] at h
    refine rz_B.go 5 (pc' := 30) (L' := [some (.ref 91), none, some (vI v2)]) (S' := [vI 1, vI (A.1 91 80), vI 1, vI v2]) rfl ?_
    obtain ⟨hk1, h⟩ := rz_g32_inv h
    refine rz_B.isub rfl ?_
    refine rz_B.oI fShl rfl ?_
    refine rz_B.go 1 (pc' := if decide (Int32.ofInt (rz_oI fShl 1 ((A.1 91 80) - 1)) ≤ Int32.ofInt v2) = true then 102 else 35) (L' := [some (.ref 91), none, some (vI v2)]) (S' := []) rfl ?_
    by_cases hc2 : v2 < (rz_oI fShl 1 ((A.1 91 80) - 1))
    · have h := if_T h hc2
      refine rz_B.ifF (mt (le32 r32_oI hv2).mp (Int.not_le.mpr hc2)) ?_
      refine rz_B.go 1 (pc' := 36) (L' := [some (.ref 91), none, some (vI v2)]) (S' := [vI v2]) rfl ?_
      obtain ⟨r3, A3, hf3, h⟩ := rz_b_inv h
      obtain ⟨hg3, hr3, hw3⟩ := cx197_bits F (d := d + 3) hf3 hv2 hw
      refine rz_B.call (d := d + 3) (as := [vI v2]) (rest := []) (w := some (vI r3)) rfl hg3 ?_
      refine rz_B.go 3 (pc' := if decide (Int32.ofInt (A3.1 91 84) < Int32.ofInt r3) = true then 96 else 46) (L' := [some (.ref 91), none, some (vI v2)]) (S' := []) rfl ?_
      by_cases hc4 : r3 ≤ (A3.1 91 84)
      · have h := if_T h hc4
        refine rz_B.ifF (mt (lt32 (hw3 91 84).1 hr3).mp (Int.not_lt.mpr hc4)) ?_
        refine rz_B.go 2 (pc' := 48) (L' := [some (.ref 91), none, some (vI v2)]) (S' := [vI v2, .ref 91]) rfl ?_
        obtain ⟨r5, A5, hf5, h⟩ := rz_b_inv h
        obtain ⟨hg5, hr5, hw5⟩ := cx198_goesAll F (d := d + 3) hf5 hv2 hw3
        refine rz_B.call (d := d + 3) (as := [.ref 91, vI v2]) (rest := []) (w := some (vI r5)) rfl hg5 ?_
        refine rz_B.go 1 (pc' := if decide (¬ Int32.ofInt r5 = Int32.ofInt 0) = true then 57 else 54) (L' := [some (.ref 91), none, some (vI v2)]) (S' := []) rfl ?_
        by_cases hc6 : r5 = 0
        · have h := if_T h hc6
          refine rz_B.ifF (fun hn => hn ((eq32 hr5 (by decide)).mpr hc6)) ?_
          refine rz_B.go 1 (pc' := 96) (L' := [some (.ref 91), none, some (vI v2)]) (S' := []) rfl ?_
          obtain ⟨hk7, h⟩ := rz_g32_inv h
          refine rz_B.iinc rfl (by decide) rfl (L' := [some (.ref 91), none, some (vI (v2 + 1))]) rfl ?_
          refine rz_B.go 1 (pc' := 23) (L' := [some (.ref 91), none, some (vI (v2 + 1))]) (S' := []) rfl ?_
          refine rz_B.more (rg_le_ok (L := [some (.ref 91), none, some (vI (v2 + 1))]) (by simp [rg_le])) ?_
          exact ih _ _ _ _ h hk7 hw5
        · have h := if_F h hc6
          refine rz_B.ifT (mt (eq32 hr5 (by decide)).mp hc6) ?_
          refine rz_B.go 1 (pc' := 58) (L' := [some (.ref 91), none, some (vI v2)]) (S' := [vI v2]) rfl ?_
          obtain ⟨r8, A8, hf8, h⟩ := rz_b_inv h
          obtain ⟨hg8, hr8, hw8⟩ := cx197_bits F (d := d + 3) hf8 hv2 hw5
          refine rz_B.call (d := d + 3) (as := [vI v2]) (rest := []) (w := some (vI r8)) rfl hg8 ?_
          refine rz_B.go 3 (pc' := if decide (Int32.ofInt (A8.1 91 84) ≤ Int32.ofInt r8) = true then 86 else 68) (L' := [some (.ref 91), none, some (vI v2)]) (S' := []) rfl ?_
          by_cases hc9 : r8 < (A8.1 91 84)
          · have h := if_T h hc9
            refine rz_B.ifF (mt (le32 (hw8 91 84).1 hr8).mp (Int.not_le.mpr hc9)) ?_
            refine rz_B.go 2 (pc' := 70) (L' := [some (.ref 91), none, some (vI v2)]) (S' := [vI v2, .ref 91]) rfl ?_
            obtain ⟨r10, A10, hf10, h⟩ := rz_b_inv h
            obtain ⟨hg10, hr10, hw10⟩ := cx197_bits F (d := d + 3) hf10 hv2 hw8
            refine rz_B.call (d := d + 3) (as := [vI v2]) (rest := [.ref 91]) (w := some (vI r10)) rfl hg10 ?_
            refine rz_B.put 1 (pc' := 76) (L' := [some (.ref 91), none, some (vI v2)]) (S' := []) (c := 91) (k := 84) (x := r10) rfl ?_
            have hw11 : wf (aI A10 91 84 r10) := wf_aI hw10 hr10
            refine rz_B.put 3 (pc' := 81) (L' := [some (.ref 91), none, some (vI v2)]) (S' := []) (c := 91) (k := 85) (x := 0) rfl ?_
            have hw12 : wf (aI (aI A10 91 84 r10) 91 85 0) := wf_aI hw11 (by decide)
            refine rz_B.put 3 (pc' := 86) (L' := [some (.ref 91), none, some (vI v2)]) (S' := []) (c := 91) (k := 86) (x := v2) rfl ?_
            have hw13 : wf (aI (aI (aI A10 91 84 r10) 91 85 0) 91 86 v2) := wf_aI hw12 hv2
            refine rz_B.put 6 (pc' := 96) (L' := [some (.ref 91), none, some (vI v2)]) (S' := []) (c := 91) (k := 85) (x := 1) rfl ?_
            have hw14 : wf (aI (aI (aI (aI A10 91 84 r10) 91 85 0) 91 86 v2) 91 85 1) := wf_aI hw13 (by decide)
            obtain ⟨hk15, h⟩ := rz_g32_inv h
            refine rz_B.iinc rfl (by decide) rfl (L' := [some (.ref 91), none, some (vI (v2 + 1))]) rfl ?_
            refine rz_B.go 1 (pc' := 23) (L' := [some (.ref 91), none, some (vI (v2 + 1))]) (S' := []) rfl ?_
            refine rz_B.more (rg_le_ok (L := [some (.ref 91), none, some (vI (v2 + 1))]) (by simp [rg_le])) ?_
            exact ih _ _ _ _ h hk15 hw14
          · have h := if_F h hc9
            refine rz_B.ifT ((le32 (hw8 91 84).1 hr8).mpr (Int.not_lt.mp hc9)) ?_
            refine rz_B.go 4 (pc' := 92) (L' := [some (.ref 91), none, some (vI v2)]) (S' := [vI 1, vI (A8.1 91 85), .ref 91]) rfl ?_
            obtain ⟨hk16, h⟩ := rz_g32_inv h
            refine rz_B.iadd rfl ?_
            refine rz_B.put 1 (pc' := 96) (L' := [some (.ref 91), none, some (vI v2)]) (S' := []) (c := 91) (k := 85) (x := ((A8.1 91 85) + 1)) rfl ?_
            have hw17 : wf (aI A8 91 85 ((A8.1 91 85) + 1)) := wf_aI hw8 hk16
            obtain ⟨hk18, h⟩ := rz_g32_inv h
            refine rz_B.iinc rfl (by decide) rfl (L' := [some (.ref 91), none, some (vI (v2 + 1))]) rfl ?_
            refine rz_B.go 1 (pc' := 23) (L' := [some (.ref 91), none, some (vI (v2 + 1))]) (S' := []) rfl ?_
            refine rz_B.more (rg_le_ok (L := [some (.ref 91), none, some (vI (v2 + 1))]) (by simp [rg_le])) ?_
            exact ih _ _ _ _ h hk18 hw17
      · have h := if_F h hc4
        refine rz_B.ifT ((lt32 (hw3 91 84).1 hr3).mpr (Int.not_le.mp hc4)) ?_
        obtain ⟨hk19, h⟩ := rz_g32_inv h
        refine rz_B.iinc rfl (by decide) rfl (L' := [some (.ref 91), none, some (vI (v2 + 1))]) rfl ?_
        refine rz_B.go 1 (pc' := 23) (L' := [some (.ref 91), none, some (vI (v2 + 1))]) (S' := []) rfl ?_
        refine rz_B.more (rg_le_ok (L := [some (.ref 91), none, some (vI (v2 + 1))]) (by simp [rg_le])) ?_
        exact ih _ _ _ _ h hk19 hw3
    · have h := if_F h hc2
      refine rz_B.ifT ((le32 r32_oI hv2).mpr (Int.not_lt.mp hc2)) ?_
      cases h
      exact rz_B.ret rfl trivial hw
/-- RiverGaugeModel.seeks(I)V -/
def x193_seeks (F : Nat) (a0 : Int) (A : rz_A) : Option (Unit × rz_A) :=
  rz_b (x194_tries F a0 A) fun _ A1 =>
  x193_seeks_23 F F 0 (aI (aI (aI A1 91 84 99) 91 85 0) 91 86 0)
theorem cx193_seeks (F : Nat) {d : Nat} {a0 : Int} {A : rz_A} {r : Unit} {A' : rz_A} (h : x193_seeks F a0 A = some (r, A')) (ha0 : r32 a0) (hw : wf A) : rg_Rn (d + 4) 193 [.ref 91, vI a0] (toM A) (none) (toM A') ∧ (True) ∧ wf A' := by
  show rz_B (d + 4) 193 0 [some (.ref 91), some (vI a0), none] [] A (none) A' (True)
  unfold x193_seeks at h
  refine rz_B.go 2 (pc' := 2) (L' := [some (.ref 91), some (vI a0), none]) (S' := [vI a0, .ref 91]) rfl ?_
  obtain ⟨_, A1, hf1, h⟩ := rz_b_inv h
  obtain ⟨hg1, hr1, hw1⟩ := cx194_tries F (d := d + 0) hf1 ha0 hw
  refine rz_B.call (d := d + 3) (as := [.ref 91, vI a0]) (rest := []) (w := none) rfl hg1 ?_
  refine rz_B.put 3 (pc' := 11) (L' := [some (.ref 91), some (vI a0), none]) (S' := []) (c := 91) (k := 84) (x := 99) rfl ?_
  have hw2 : wf (aI A1 91 84 99) := wf_aI hw1 (by decide)
  refine rz_B.put 3 (pc' := 16) (L' := [some (.ref 91), some (vI a0), none]) (S' := []) (c := 91) (k := 85) (x := 0) rfl ?_
  have hw3 : wf (aI (aI A1 91 84 99) 91 85 0) := wf_aI hw2 (by decide)
  refine rz_B.put 3 (pc' := 21) (L' := [some (.ref 91), some (vI a0), none]) (S' := []) (c := 91) (k := 86) (x := 0) rfl ?_
  have hw4 : wf (aI (aI (aI A1 91 84 99) 91 85 0) 91 86 0) := wf_aI hw3 (by decide)
  refine rz_B.go 2 (pc' := 23) (L' := [some (.ref 91), some (vI a0), some (vI 0)]) (S' := []) rfl ?_
  refine rz_B.more (rg_le_ok (L := [some (.ref 91), none, some (vI 0)]) (by simp [rg_le])) ?_
  exact cx193_seeks_23 F F _ _ _ _ h (by decide) hw4
/-- RiverGaugeModel.breaks(II)I -/
def x191_breaks (F : Nat) (a0 : Int) (a1 : Int) (A : rz_A) : Option (Int × rz_A) :=
  rz_b (x145_isPost F a0 A) fun r1 A1 =>
  if r1 = 0 then
    rz_b (x142_no F (-1) A1) fun r3 A3 =>
    some (r3, A3)
  else
    if 0 ≤ a1 then
      if 3 < a1 then
        rz_b (x142_no F (-2) A1) fun r6 A6 =>
        some (r6, A6)
      else
        rz_b (x192_gathers F a0 A1) fun _ A7 =>
        rz_gx a0 6 <|
        if (A7.1 96 (a0).toNat) = 0 then
          rz_b (x142_no F (-5) A7) fun r11 A11 =>
          some (r11, A11)
        else
          if (A7.1 91 80) = 0 then
            rz_b (x142_no F (-5) A7) fun r13 A13 =>
            some (r13, A13)
          else
            if a1 = 3 then
              some ((A7.1 91 80), A7)
            else
              rz_b (x193_seeks F a0 A7) fun _ A15 =>
              if (A15.1 91 84) = 99 then
                some ((-9), A15)
              else
                if a1 = 0 then
                  some ((A15.1 91 84), A15)
                else
                  if a1 = 1 then
                    some ((A15.1 91 85), A15)
                  else
                    some ((A15.1 91 86), A15)
    else
      rz_b (x142_no F (-2) A1) fun r19 A19 =>
      some (r19, A19)
theorem cx191_breaks (F : Nat) {d : Nat} {a0 : Int} {a1 : Int} {A : rz_A} {r : Int} {A' : rz_A} (h : x191_breaks F a0 a1 A = some (r, A')) (ha0 : r32 a0) (ha1 : r32 a1) (hw : wf A) : rg_Rn (d + 7) 191 [.ref 91, vI a0, vI a1] (toM A) (some (vI r)) (toM A') ∧ (r32 r) ∧ wf A' := by
  show rz_B (d + 7) 191 0 [some (.ref 91), some (vI a0), some (vI a1)] [] A (some (vI r)) A' (r32 r)
  unfold x191_breaks at h
  refine rz_B.go 2 (pc' := 2) (L' := [some (.ref 91), some (vI a0), some (vI a1)]) (S' := [vI a0, .ref 91]) rfl ?_
  obtain ⟨r1, A1, hf1, h⟩ := rz_b_inv h
  obtain ⟨hg1, hr1, hw1⟩ := cx145_isPost F (d := d + 6) hf1 ha0 hw
  refine rz_B.call (d := d + 6) (as := [.ref 91, vI a0]) (rest := []) (w := some (vI r1)) rfl hg1 ?_
  refine rz_B.go 1 (pc' := if decide (¬ Int32.ofInt r1 = Int32.ofInt 0) = true then 14 else 8) (L' := [some (.ref 91), some (vI a0), some (vI a1)]) (S' := []) rfl ?_
  by_cases hc2 : r1 = 0
  · have h := if_T h hc2
    refine rz_B.ifF (fun hn => hn ((eq32 hr1 (by decide)).mpr hc2)) ?_
    refine rz_B.go 2 (pc' := 10) (L' := [some (.ref 91), some (vI a0), some (vI a1)]) (S' := [vI (-1), .ref 91]) rfl ?_
    obtain ⟨r3, A3, hf3, h⟩ := rz_b_inv h
    obtain ⟨hg3, hr3, hw3⟩ := cx142_no F (d := d + 6) hf3 (by decide) hw1
    refine rz_B.call (d := d + 6) (as := [.ref 91, vI (-1)]) (rest := []) (w := some (vI r3)) rfl hg3 ?_
    cases h
    exact rz_B.ret rfl hr3 hw3
  · have h := if_F h hc2
    refine rz_B.ifT (mt (eq32 hr1 (by decide)).mp hc2) ?_
    refine rz_B.go 2 (pc' := if decide (Int32.ofInt a1 < Int32.ofInt 0) = true then 23 else 18) (L' := [some (.ref 91), some (vI a0), some (vI a1)]) (S' := []) rfl ?_
    by_cases hc4 : 0 ≤ a1
    · have h := if_T h hc4
      refine rz_B.ifF (mt (lt32 ha1 (by decide)).mp (Int.not_lt.mpr hc4)) ?_
      refine rz_B.go 3 (pc' := if decide (Int32.ofInt a1 ≤ Int32.ofInt 3) = true then 30 else 23) (L' := [some (.ref 91), some (vI a0), some (vI a1)]) (S' := []) rfl ?_
      by_cases hc5 : 3 < a1
      · have h := if_T h hc5
        refine rz_B.ifF (mt (le32 ha1 (by decide)).mp (Int.not_le.mpr hc5)) ?_
        refine rz_B.go 2 (pc' := 26) (L' := [some (.ref 91), some (vI a0), some (vI a1)]) (S' := [vI (-2), .ref 91]) rfl ?_
        obtain ⟨r6, A6, hf6, h⟩ := rz_b_inv h
        obtain ⟨hg6, hr6, hw6⟩ := cx142_no F (d := d + 6) hf6 (by decide) hw1
        refine rz_B.call (d := d + 6) (as := [.ref 91, vI (-2)]) (rest := []) (w := some (vI r6)) rfl hg6 ?_
        cases h
        exact rz_B.ret rfl hr6 hw6
      · have h := if_F h hc5
        refine rz_B.ifT ((le32 ha1 (by decide)).mpr (Int.not_lt.mp hc5)) ?_
        refine rz_B.go 2 (pc' := 32) (L' := [some (.ref 91), some (vI a0), some (vI a1)]) (S' := [vI a0, .ref 91]) rfl ?_
        obtain ⟨_, A7, hf7, h⟩ := rz_b_inv h
        obtain ⟨hg7, hr7, hw7⟩ := cx192_gathers F (d := d + 0) hf7 ha0 hw1
        refine rz_B.call (d := d + 6) (as := [.ref 91, vI a0]) (rest := []) (w := none) rfl hg7 ?_
        refine rz_B.go 3 (pc' := 40) (L' := [some (.ref 91), some (vI a0), some (vI a1)]) (S' := [vI a0, .ref 96]) rfl ?_
        obtain ⟨hi8, hj9, h⟩ := rz_gx_inv h
        refine rz_B.iald rfl rfl hi8 hj9 (by decide) ?_
        refine rz_B.go 1 (pc' := if decide (Int32.ofInt (A7.1 96 (a0).toNat) = Int32.ofInt 0) = true then 51 else 44) (L' := [some (.ref 91), some (vI a0), some (vI a1)]) (S' := []) rfl ?_
        by_cases hc10 : (A7.1 96 (a0).toNat) = 0
        · have h := if_T h hc10
          refine rz_B.ifT ((eq32 (hw7 96 (a0).toNat).1 (by decide)).mpr hc10) ?_
          refine rz_B.go 2 (pc' := 54) (L' := [some (.ref 91), some (vI a0), some (vI a1)]) (S' := [vI (-5), .ref 91]) rfl ?_
          obtain ⟨r11, A11, hf11, h⟩ := rz_b_inv h
          obtain ⟨hg11, hr11, hw11⟩ := cx142_no F (d := d + 6) hf11 (by decide) hw7
          refine rz_B.call (d := d + 6) (as := [.ref 91, vI (-5)]) (rest := []) (w := some (vI r11)) rfl hg11 ?_
          cases h
          exact rz_B.ret rfl hr11 hw11
        · have h := if_F h hc10
          refine rz_B.ifF (mt (eq32 (hw7 96 (a0).toNat).1 (by decide)).mp hc10) ?_
          refine rz_B.go 3 (pc' := if decide (¬ Int32.ofInt (A7.1 91 80) = Int32.ofInt 0) = true then 58 else 51) (L' := [some (.ref 91), some (vI a0), some (vI a1)]) (S' := []) rfl ?_
          by_cases hc12 : (A7.1 91 80) = 0
          · have h := if_T h hc12
            refine rz_B.ifF (fun hn => hn ((eq32 (hw7 91 80).1 (by decide)).mpr hc12)) ?_
            refine rz_B.go 2 (pc' := 54) (L' := [some (.ref 91), some (vI a0), some (vI a1)]) (S' := [vI (-5), .ref 91]) rfl ?_
            obtain ⟨r13, A13, hf13, h⟩ := rz_b_inv h
            obtain ⟨hg13, hr13, hw13⟩ := cx142_no F (d := d + 6) hf13 (by decide) hw7
            refine rz_B.call (d := d + 6) (as := [.ref 91, vI (-5)]) (rest := []) (w := some (vI r13)) rfl hg13 ?_
            cases h
            exact rz_B.ret rfl hr13 hw13
          · have h := if_F h hc12
            refine rz_B.ifT (mt (eq32 (hw7 91 80).1 (by decide)).mp hc12) ?_
            refine rz_B.go 3 (pc' := if decide (¬ Int32.ofInt a1 = Int32.ofInt 3) = true then 68 else 63) (L' := [some (.ref 91), some (vI a0), some (vI a1)]) (S' := []) rfl ?_
            by_cases hc14 : a1 = 3
            · have h := if_T h hc14
              refine rz_B.ifF (fun hn => hn ((eq32 ha1 (by decide)).mpr hc14)) ?_
              refine rz_B.go 2 (pc' := 67) (L' := [some (.ref 91), some (vI a0), some (vI a1)]) (S' := [vI (A7.1 91 80)]) rfl ?_
              cases h
              exact rz_B.ret rfl (hw7 91 80).1 hw7
            · have h := if_F h hc14
              refine rz_B.ifT (mt (eq32 ha1 (by decide)).mp hc14) ?_
              refine rz_B.go 2 (pc' := 70) (L' := [some (.ref 91), some (vI a0), some (vI a1)]) (S' := [vI a0, .ref 91]) rfl ?_
              obtain ⟨_, A15, hf15, h⟩ := rz_b_inv h
              obtain ⟨hg15, hr15, hw15⟩ := cx193_seeks F (d := d + 2) hf15 ha0 hw7
              refine rz_B.call (d := d + 6) (as := [.ref 91, vI a0]) (rest := []) (w := none) rfl hg15 ?_
              refine rz_B.go 4 (pc' := if decide (¬ Int32.ofInt (A15.1 91 84) = Int32.ofInt 99) = true then 87 else 82) (L' := [some (.ref 91), some (vI a0), some (vI a1)]) (S' := []) rfl ?_
              by_cases hc16 : (A15.1 91 84) = 99
              · have h := if_T h hc16
                refine rz_B.ifF (fun hn => hn ((eq32 (hw15 91 84).1 (by decide)).mpr hc16)) ?_
                refine rz_B.go 2 (pc' := 114) (L' := [some (.ref 91), some (vI a0), some (vI a1)]) (S' := [vI (-9)]) rfl ?_
                cases h
                exact rz_B.ret rfl (by decide) hw15
              · have h := if_F h hc16
                refine rz_B.ifT (mt (eq32 (hw15 91 84).1 (by decide)).mp hc16) ?_
                refine rz_B.go 2 (pc' := if decide (¬ Int32.ofInt a1 = Int32.ofInt 0) = true then 98 else 91) (L' := [some (.ref 91), some (vI a0), some (vI a1)]) (S' := []) rfl ?_
                by_cases hc17 : a1 = 0
                · have h := if_T h hc17
                  refine rz_B.ifF (fun hn => hn ((eq32 ha1 (by decide)).mpr hc17)) ?_
                  refine rz_B.go 3 (pc' := 114) (L' := [some (.ref 91), some (vI a0), some (vI a1)]) (S' := [vI (A15.1 91 84)]) rfl ?_
                  cases h
                  exact rz_B.ret rfl (hw15 91 84).1 hw15
                · have h := if_F h hc17
                  refine rz_B.ifT (mt (eq32 ha1 (by decide)).mp hc17) ?_
                  refine rz_B.go 3 (pc' := if decide (¬ Int32.ofInt a1 = Int32.ofInt 1) = true then 110 else 103) (L' := [some (.ref 91), some (vI a0), some (vI a1)]) (S' := []) rfl ?_
                  by_cases hc18 : a1 = 1
                  · have h := if_T h hc18
                    refine rz_B.ifF (fun hn => hn ((eq32 ha1 (by decide)).mpr hc18)) ?_
                    refine rz_B.go 3 (pc' := 114) (L' := [some (.ref 91), some (vI a0), some (vI a1)]) (S' := [vI (A15.1 91 85)]) rfl ?_
                    cases h
                    exact rz_B.ret rfl (hw15 91 85).1 hw15
                  · have h := if_F h hc18
                    refine rz_B.ifT (mt (eq32 ha1 (by decide)).mp hc18) ?_
                    refine rz_B.go 2 (pc' := 114) (L' := [some (.ref 91), some (vI a0), some (vI a1)]) (S' := [vI (A15.1 91 86)]) rfl ?_
                    cases h
                    exact rz_B.ret rfl (hw15 91 86).1 hw15
    · have h := if_F h hc4
      refine rz_B.ifT ((lt32 ha1 (by decide)).mpr (Int.not_le.mp hc4)) ?_
      refine rz_B.go 2 (pc' := 26) (L' := [some (.ref 91), some (vI a0), some (vI a1)]) (S' := [vI (-2), .ref 91]) rfl ?_
      obtain ⟨r19, A19, hf19, h⟩ := rz_b_inv h
      obtain ⟨hg19, hr19, hw19⟩ := cx142_no F (d := d + 6) hf19 (by decide) hw1
      refine rz_B.call (d := d + 6) (as := [.ref 91, vI (-2)]) (rest := []) (w := some (vI r19)) rfl hg19 ?_
      cases h
      exact rz_B.ret rfl hr19 hw19
def x199_shift_156 (F : Nat) (A : rz_A) : Option (Int × rz_A) :=
  rz_b (x148_far F (-1) A) fun r1 A1 =>
  some (r1, A1)
theorem cx199_shift_156 {d : Nat} (F : Nat) : ∀ (A : rz_A) (r : Int) (A' : rz_A), x199_shift_156 F A = some (r, A') → wf A → rz_B (d + 7) 199 156 [some (.ref 91), none, none, none, none, none] [] A (some (vI r)) A' (r32 r) := by
  intro A r A' h hw
  unfold x199_shift_156 at h
  refine rz_B.go 2 (pc' := 158) (L' := [some (.ref 91), none, none, none, none, none]) (S' := [vI (-1), .ref 91]) rfl ?_
  obtain ⟨r1, A1, hf1, h⟩ := rz_b_inv h
  obtain ⟨hg1, hr1, hw1⟩ := cx148_far F (d := d + 5) hf1 (by decide) hw
  refine rz_B.call (d := d + 6) (as := [.ref 91, vI (-1)]) (rest := []) (w := some (vI r1)) rfl hg1 ?_
  cases h
  exact rz_B.ret rfl hr1 hw1
def x199_shift_89 (F : Nat) : Nat → Int → Int → Int → rz_A → Option (Int × rz_A)
  | 0, _, _, _, _ => none
  | n + 1, v3, v4, v5, A =>
    if v5 < (A.1 91 80) then
      rz_g32 (v5 + 1) <|
      if (v5 + 1) < (A.1 91 80) then
        if (rz_oI fAnd (rz_oI fShr (A.1 91 86) v5) 1) = 0 then
          x199_shift_89 F n v3 v4 (v5 + 1) A
        else
          rz_g32 (v4 + (-1)) <|
          if v4 = 0 then
            rz_g32 (8 * v3) <|
            rz_g32 ((8 * v3) + v5) <|
            rz_gx ((8 * v3) + v5) 64 <|
            some ((A.1 146 (((8 * v3) + v5)).toNat), A)
          else
            x199_shift_89 F n (v5 + 1) (v4 + (-1)) (v5 + 1) A
      else
        rz_g32 (v4 + (-1)) <|
        if v4 = 0 then
          rz_g32 (8 * v3) <|
          rz_g32 ((8 * v3) + v5) <|
          rz_gx ((8 * v3) + v5) 64 <|
          some ((A.1 146 (((8 * v3) + v5)).toNat), A)
        else
          x199_shift_89 F n (v5 + 1) (v4 + (-1)) (v5 + 1) A
    else
      x199_shift_156 F A
theorem cx199_shift_89 {d : Nat} (F : Nat) : ∀ (n : Nat) (v3 : Int) (v4 : Int) (v5 : Int) (A : rz_A) (r : Int) (A' : rz_A), x199_shift_89 F n v3 v4 v5 A = some (r, A') → r32 v3 → r32 v4 → r32 v5 → wf A → rz_B (d + 7) 199 89 [some (.ref 91), none, none, some (vI v3), some (vI v4), some (vI v5)] [] A (some (vI r)) A' (r32 r) := by
  intro n
  induction n with
  | zero => intro v3 v4 v5 A r A' h; cases h
  | succ n ih =>
    intro v3 v4 v5 A r A' h hv3 hv4 hv5 hw
    rw [x199_shift_89] at h
    refine rz_B.go 4 (pc' := if decide (Int32.ofInt (A.1 91 80) ≤ Int32.ofInt v5) = true then 156 else 98) (L' := [some (.ref 91), none, none, some (vI v3), some (vI v4), some (vI v5)]) (S' := []) rfl ?_
    by_cases hc1 : v5 < (A.1 91 80)
    · have h := if_T h hc1
      refine rz_B.ifF (mt (le32 (hw 91 80).1 hv5).mp (Int.not_le.mpr hc1)) ?_
      refine rz_B.go 2 (pc' := 101) (L' := [some (.ref 91), none, none, some (vI v3), some (vI v4), some (vI v5)]) (S' := [vI 1, vI v5]) rfl ?_
      obtain ⟨hk2, h⟩ := rz_g32_inv h
      refine rz_B.iadd rfl ?_
      refine rz_B.go 3 (pc' := if decide (Int32.ofInt (A.1 91 80) ≤ Int32.ofInt (v5 + 1)) = true then 124 else 109) (L' := [some (.ref 91), none, none, some (vI v3), some (vI v4), some (vI v5)]) (S' := []) rfl ?_
      by_cases hc3 : (v5 + 1) < (A.1 91 80)
      · have h := if_T h hc3
        refine rz_B.ifF (mt (le32 (hw 91 80).1 hk2).mp (Int.not_le.mpr hc3)) ?_
        refine rz_B.go 3 (pc' := 115) (L' := [some (.ref 91), none, none, some (vI v3), some (vI v4), some (vI v5)]) (S' := [vI v5, vI (A.1 91 86)]) rfl ?_
        refine rz_B.oI fShr rfl ?_
        refine rz_B.go 1 (pc' := 117) (L' := [some (.ref 91), none, none, some (vI v3), some (vI v4), some (vI v5)]) (S' := [vI 1, vI (rz_oI fShr (A.1 91 86) v5)]) rfl ?_
        refine rz_B.oI fAnd rfl ?_
        refine rz_B.go 1 (pc' := if decide (¬ Int32.ofInt (rz_oI fAnd (rz_oI fShr (A.1 91 86) v5) 1) = Int32.ofInt 0) = true then 124 else 121) (L' := [some (.ref 91), none, none, some (vI v3), some (vI v4), some (vI v5)]) (S' := []) rfl ?_
        by_cases hc4 : (rz_oI fAnd (rz_oI fShr (A.1 91 86) v5) 1) = 0
        · have h := if_T h hc4
          refine rz_B.ifF (fun hn => hn ((eq32 r32_oI (by decide)).mpr hc4)) ?_
          refine rz_B.go 1 (pc' := 150) (L' := [some (.ref 91), none, none, some (vI v3), some (vI v4), some (vI v5)]) (S' := []) rfl ?_
          refine rz_B.iinc rfl (by decide) rfl (L' := [some (.ref 91), none, none, some (vI v3), some (vI v4), some (vI (v5 + 1))]) rfl ?_
          refine rz_B.go 1 (pc' := 89) (L' := [some (.ref 91), none, none, some (vI v3), some (vI v4), some (vI (v5 + 1))]) (S' := []) rfl ?_
          refine rz_B.more (rg_le_ok (L := [some (.ref 91), none, none, some (vI v3), some (vI v4), some (vI (v5 + 1))]) (by simp [rg_le])) ?_
          exact ih _ _ _ _ _ _ h hv3 hv4 hk2 hw
        · have h := if_F h hc4
          refine rz_B.ifT (mt (eq32 r32_oI (by decide)).mp hc4) ?_
          refine rz_B.go 1 (pc' := 126) (L' := [some (.ref 91), none, none, some (vI v3), some (vI v4), some (vI v5)]) (S' := [vI v4]) rfl ?_
          obtain ⟨hk5, h⟩ := rz_g32_inv h
          refine rz_B.iinc rfl (by decide) rfl (L' := [some (.ref 91), none, none, some (vI v3), some (vI (v4 + (-1))), some (vI v5)]) rfl ?_
          refine rz_B.go 1 (pc' := if decide (¬ Int32.ofInt v4 = Int32.ofInt 0) = true then 145 else 132) (L' := [some (.ref 91), none, none, some (vI v3), some (vI (v4 + (-1))), some (vI v5)]) (S' := []) rfl ?_
          by_cases hc6 : v4 = 0
          · have h := if_T h hc6
            refine rz_B.ifF (fun hn => hn ((eq32 hv4 (by decide)).mpr hc6)) ?_
            refine rz_B.go 4 (pc' := 139) (L' := [some (.ref 91), none, none, some (vI v3), some (vI (v4 + (-1))), some (vI v5)]) (S' := [vI v3, vI 8, .ref 146]) rfl ?_
            obtain ⟨hk7, h⟩ := rz_g32_inv h
            refine rz_B.imul rfl ?_
            refine rz_B.go 1 (pc' := 142) (L' := [some (.ref 91), none, none, some (vI v3), some (vI (v4 + (-1))), some (vI v5)]) (S' := [vI v5, vI (8 * v3), .ref 146]) rfl ?_
            obtain ⟨hk8, h⟩ := rz_g32_inv h
            refine rz_B.iadd rfl ?_
            obtain ⟨hi9, hj10, h⟩ := rz_gx_inv h
            refine rz_B.iald rfl rfl hi9 hj10 (by decide) ?_
            cases h
            exact rz_B.ret rfl (hw 146 (((8 * v3) + v5)).toNat).1 hw
          · have h := if_F h hc6
            refine rz_B.ifT (mt (eq32 hv4 (by decide)).mp hc6) ?_
            refine rz_B.go 2 (pc' := 148) (L' := [some (.ref 91), none, none, some (vI v3), some (vI (v4 + (-1))), some (vI v5)]) (S' := [vI 1, vI v5]) rfl ?_
            refine rz_B.iadd rfl ?_
            refine rz_B.go 1 (pc' := 150) (L' := [some (.ref 91), none, none, some (vI (v5 + 1)), some (vI (v4 + (-1))), some (vI v5)]) (S' := []) rfl ?_
            refine rz_B.iinc rfl (by decide) rfl (L' := [some (.ref 91), none, none, some (vI (v5 + 1)), some (vI (v4 + (-1))), some (vI (v5 + 1))]) rfl ?_
            refine rz_B.go 1 (pc' := 89) (L' := [some (.ref 91), none, none, some (vI (v5 + 1)), some (vI (v4 + (-1))), some (vI (v5 + 1))]) (S' := []) rfl ?_
            refine rz_B.more (rg_le_ok (L := [some (.ref 91), none, none, some (vI (v5 + 1)), some (vI (v4 + (-1))), some (vI (v5 + 1))]) (by simp [rg_le])) ?_
            exact ih _ _ _ _ _ _ h hk2 hk5 hk2 hw
      · have h := if_F h hc3
        refine rz_B.ifT ((le32 (hw 91 80).1 hk2).mpr (Int.not_lt.mp hc3)) ?_
        refine rz_B.go 1 (pc' := 126) (L' := [some (.ref 91), none, none, some (vI v3), some (vI v4), some (vI v5)]) (S' := [vI v4]) rfl ?_
        obtain ⟨hk11, h⟩ := rz_g32_inv h
        refine rz_B.iinc rfl (by decide) rfl (L' := [some (.ref 91), none, none, some (vI v3), some (vI (v4 + (-1))), some (vI v5)]) rfl ?_
        refine rz_B.go 1 (pc' := if decide (¬ Int32.ofInt v4 = Int32.ofInt 0) = true then 145 else 132) (L' := [some (.ref 91), none, none, some (vI v3), some (vI (v4 + (-1))), some (vI v5)]) (S' := []) rfl ?_
        by_cases hc12 : v4 = 0
        · have h := if_T h hc12
          refine rz_B.ifF (fun hn => hn ((eq32 hv4 (by decide)).mpr hc12)) ?_
          refine rz_B.go 4 (pc' := 139) (L' := [some (.ref 91), none, none, some (vI v3), some (vI (v4 + (-1))), some (vI v5)]) (S' := [vI v3, vI 8, .ref 146]) rfl ?_
          obtain ⟨hk13, h⟩ := rz_g32_inv h
          refine rz_B.imul rfl ?_
          refine rz_B.go 1 (pc' := 142) (L' := [some (.ref 91), none, none, some (vI v3), some (vI (v4 + (-1))), some (vI v5)]) (S' := [vI v5, vI (8 * v3), .ref 146]) rfl ?_
          obtain ⟨hk14, h⟩ := rz_g32_inv h
          refine rz_B.iadd rfl ?_
          obtain ⟨hi15, hj16, h⟩ := rz_gx_inv h
          refine rz_B.iald rfl rfl hi15 hj16 (by decide) ?_
          cases h
          exact rz_B.ret rfl (hw 146 (((8 * v3) + v5)).toNat).1 hw
        · have h := if_F h hc12
          refine rz_B.ifT (mt (eq32 hv4 (by decide)).mp hc12) ?_
          refine rz_B.go 2 (pc' := 148) (L' := [some (.ref 91), none, none, some (vI v3), some (vI (v4 + (-1))), some (vI v5)]) (S' := [vI 1, vI v5]) rfl ?_
          refine rz_B.iadd rfl ?_
          refine rz_B.go 1 (pc' := 150) (L' := [some (.ref 91), none, none, some (vI (v5 + 1)), some (vI (v4 + (-1))), some (vI v5)]) (S' := []) rfl ?_
          refine rz_B.iinc rfl (by decide) rfl (L' := [some (.ref 91), none, none, some (vI (v5 + 1)), some (vI (v4 + (-1))), some (vI (v5 + 1))]) rfl ?_
          refine rz_B.go 1 (pc' := 89) (L' := [some (.ref 91), none, none, some (vI (v5 + 1)), some (vI (v4 + (-1))), some (vI (v5 + 1))]) (S' := []) rfl ?_
          refine rz_B.more (rg_le_ok (L := [some (.ref 91), none, none, some (vI (v5 + 1)), some (vI (v4 + (-1))), some (vI (v5 + 1))]) (by simp [rg_le])) ?_
          exact ih _ _ _ _ _ _ h hk2 hk11 hk2 hw
    · have h := if_F h hc1
      refine rz_B.ifT ((le32 (hw 91 80).1 hv5).mpr (Int.not_lt.mp hc1)) ?_
      refine rz_B.more (rg_le_ok (L := [some (.ref 91), none, none, none, none, none]) (by simp [rg_le])) ?_
      exact cx199_shift_156 F _ _ _ h hw
/-- RiverGaugeModel.shift(II)I -/
def x199_shift (F : Nat) (a0 : Int) (a1 : Int) (A : rz_A) : Option (Int × rz_A) :=
  rz_b (x145_isPost F a0 A) fun r1 A1 =>
  if r1 = 0 then
    rz_b (x148_far F (-1) A1) fun r3 A3 =>
    some (r3, A3)
  else
    rz_b (x192_gathers F a0 A1) fun _ A4 =>
    rz_gx a0 6 <|
    if (A4.1 96 (a0).toNat) = 0 then
      rz_b (x148_far F (-5) A4) fun r8 A8 =>
      some (r8, A8)
    else
      if (A4.1 91 80) = 0 then
        rz_b (x148_far F (-5) A4) fun r10 A10 =>
        some (r10, A10)
      else
        rz_b (x193_seeks F a0 A4) fun _ A11 =>
        if (A11.1 91 84) = 99 then
          rz_b (x148_far F (-3) A11) fun r13 A13 =>
          some (r13, A13)
        else
          if 0 ≤ a1 then
            if (A11.1 91 84) < a1 then
              rz_b (x148_far F (-1) A11) fun r16 A16 =>
              some (r16, A16)
            else
              x199_shift_89 F F 0 a1 0 A11
          else
            rz_b (x148_far F (-1) A11) fun r17 A17 =>
            some (r17, A17)
theorem cx199_shift (F : Nat) {d : Nat} {a0 : Int} {a1 : Int} {A : rz_A} {r : Int} {A' : rz_A} (h : x199_shift F a0 a1 A = some (r, A')) (ha0 : r32 a0) (ha1 : r32 a1) (hw : wf A) : rg_Rn (d + 7) 199 [.ref 91, vI a0, vI a1] (toM A) (some (vI r)) (toM A') ∧ (r32 r) ∧ wf A' := by
  show rz_B (d + 7) 199 0 [some (.ref 91), some (vI a0), some (vI a1), none, none, none] [] A (some (vI r)) A' (r32 r)
  unfold x199_shift at h
  refine rz_B.go 2 (pc' := 2) (L' := [some (.ref 91), some (vI a0), some (vI a1), none, none, none]) (S' := [vI a0, .ref 91]) rfl ?_
  obtain ⟨r1, A1, hf1, h⟩ := rz_b_inv h
  obtain ⟨hg1, hr1, hw1⟩ := cx145_isPost F (d := d + 6) hf1 ha0 hw
  refine rz_B.call (d := d + 6) (as := [.ref 91, vI a0]) (rest := []) (w := some (vI r1)) rfl hg1 ?_
  refine rz_B.go 1 (pc' := if decide (¬ Int32.ofInt r1 = Int32.ofInt 0) = true then 14 else 8) (L' := [some (.ref 91), some (vI a0), some (vI a1), none, none, none]) (S' := []) rfl ?_
  by_cases hc2 : r1 = 0
  · have h := if_T h hc2
    refine rz_B.ifF (fun hn => hn ((eq32 hr1 (by decide)).mpr hc2)) ?_
    refine rz_B.go 2 (pc' := 10) (L' := [some (.ref 91), some (vI a0), some (vI a1), none, none, none]) (S' := [vI (-1), .ref 91]) rfl ?_
    obtain ⟨r3, A3, hf3, h⟩ := rz_b_inv h
    obtain ⟨hg3, hr3, hw3⟩ := cx148_far F (d := d + 5) hf3 (by decide) hw1
    refine rz_B.call (d := d + 6) (as := [.ref 91, vI (-1)]) (rest := []) (w := some (vI r3)) rfl hg3 ?_
    cases h
    exact rz_B.ret rfl hr3 hw3
  · have h := if_F h hc2
    refine rz_B.ifT (mt (eq32 hr1 (by decide)).mp hc2) ?_
    refine rz_B.go 2 (pc' := 16) (L' := [some (.ref 91), some (vI a0), some (vI a1), none, none, none]) (S' := [vI a0, .ref 91]) rfl ?_
    obtain ⟨_, A4, hf4, h⟩ := rz_b_inv h
    obtain ⟨hg4, hr4, hw4⟩ := cx192_gathers F (d := d + 0) hf4 ha0 hw1
    refine rz_B.call (d := d + 6) (as := [.ref 91, vI a0]) (rest := []) (w := none) rfl hg4 ?_
    refine rz_B.go 3 (pc' := 24) (L' := [some (.ref 91), some (vI a0), some (vI a1), none, none, none]) (S' := [vI a0, .ref 96]) rfl ?_
    obtain ⟨hi5, hj6, h⟩ := rz_gx_inv h
    refine rz_B.iald rfl rfl hi5 hj6 (by decide) ?_
    refine rz_B.go 1 (pc' := if decide (Int32.ofInt (A4.1 96 (a0).toNat) = Int32.ofInt 0) = true then 35 else 28) (L' := [some (.ref 91), some (vI a0), some (vI a1), none, none, none]) (S' := []) rfl ?_
    by_cases hc7 : (A4.1 96 (a0).toNat) = 0
    · have h := if_T h hc7
      refine rz_B.ifT ((eq32 (hw4 96 (a0).toNat).1 (by decide)).mpr hc7) ?_
      refine rz_B.go 2 (pc' := 38) (L' := [some (.ref 91), some (vI a0), some (vI a1), none, none, none]) (S' := [vI (-5), .ref 91]) rfl ?_
      obtain ⟨r8, A8, hf8, h⟩ := rz_b_inv h
      obtain ⟨hg8, hr8, hw8⟩ := cx148_far F (d := d + 5) hf8 (by decide) hw4
      refine rz_B.call (d := d + 6) (as := [.ref 91, vI (-5)]) (rest := []) (w := some (vI r8)) rfl hg8 ?_
      cases h
      exact rz_B.ret rfl hr8 hw8
    · have h := if_F h hc7
      refine rz_B.ifF (mt (eq32 (hw4 96 (a0).toNat).1 (by decide)).mp hc7) ?_
      refine rz_B.go 3 (pc' := if decide (¬ Int32.ofInt (A4.1 91 80) = Int32.ofInt 0) = true then 42 else 35) (L' := [some (.ref 91), some (vI a0), some (vI a1), none, none, none]) (S' := []) rfl ?_
      by_cases hc9 : (A4.1 91 80) = 0
      · have h := if_T h hc9
        refine rz_B.ifF (fun hn => hn ((eq32 (hw4 91 80).1 (by decide)).mpr hc9)) ?_
        refine rz_B.go 2 (pc' := 38) (L' := [some (.ref 91), some (vI a0), some (vI a1), none, none, none]) (S' := [vI (-5), .ref 91]) rfl ?_
        obtain ⟨r10, A10, hf10, h⟩ := rz_b_inv h
        obtain ⟨hg10, hr10, hw10⟩ := cx148_far F (d := d + 5) hf10 (by decide) hw4
        refine rz_B.call (d := d + 6) (as := [.ref 91, vI (-5)]) (rest := []) (w := some (vI r10)) rfl hg10 ?_
        cases h
        exact rz_B.ret rfl hr10 hw10
      · have h := if_F h hc9
        refine rz_B.ifT (mt (eq32 (hw4 91 80).1 (by decide)).mp hc9) ?_
        refine rz_B.go 2 (pc' := 44) (L' := [some (.ref 91), some (vI a0), some (vI a1), none, none, none]) (S' := [vI a0, .ref 91]) rfl ?_
        obtain ⟨_, A11, hf11, h⟩ := rz_b_inv h
        obtain ⟨hg11, hr11, hw11⟩ := cx193_seeks F (d := d + 2) hf11 ha0 hw4
        refine rz_B.call (d := d + 6) (as := [.ref 91, vI a0]) (rest := []) (w := none) rfl hg11 ?_
        refine rz_B.go 4 (pc' := if decide (¬ Int32.ofInt (A11.1 91 84) = Int32.ofInt 99) = true then 63 else 56) (L' := [some (.ref 91), some (vI a0), some (vI a1), none, none, none]) (S' := []) rfl ?_
        by_cases hc12 : (A11.1 91 84) = 99
        · have h := if_T h hc12
          refine rz_B.ifF (fun hn => hn ((eq32 (hw11 91 84).1 (by decide)).mpr hc12)) ?_
          refine rz_B.go 2 (pc' := 59) (L' := [some (.ref 91), some (vI a0), some (vI a1), none, none, none]) (S' := [vI (-3), .ref 91]) rfl ?_
          obtain ⟨r13, A13, hf13, h⟩ := rz_b_inv h
          obtain ⟨hg13, hr13, hw13⟩ := cx148_far F (d := d + 5) hf13 (by decide) hw11
          refine rz_B.call (d := d + 6) (as := [.ref 91, vI (-3)]) (rest := []) (w := some (vI r13)) rfl hg13 ?_
          cases h
          exact rz_B.ret rfl hr13 hw13
        · have h := if_F h hc12
          refine rz_B.ifT (mt (eq32 (hw11 91 84).1 (by decide)).mp hc12) ?_
          refine rz_B.go 2 (pc' := if decide (Int32.ofInt a1 < Int32.ofInt 0) = true then 75 else 67) (L' := [some (.ref 91), some (vI a0), some (vI a1), none, none, none]) (S' := []) rfl ?_
          by_cases hc14 : 0 ≤ a1
          · have h := if_T h hc14
            refine rz_B.ifF (mt (lt32 ha1 (by decide)).mp (Int.not_lt.mpr hc14)) ?_
            refine rz_B.go 4 (pc' := if decide (Int32.ofInt a1 ≤ Int32.ofInt (A11.1 91 84)) = true then 81 else 75) (L' := [some (.ref 91), some (vI a0), some (vI a1), none, none, none]) (S' := []) rfl ?_
            by_cases hc15 : (A11.1 91 84) < a1
            · have h := if_T h hc15
              refine rz_B.ifF (mt (le32 ha1 (hw11 91 84).1).mp (Int.not_le.mpr hc15)) ?_
              refine rz_B.go 2 (pc' := 77) (L' := [some (.ref 91), some (vI a0), some (vI a1), none, none, none]) (S' := [vI (-1), .ref 91]) rfl ?_
              obtain ⟨r16, A16, hf16, h⟩ := rz_b_inv h
              obtain ⟨hg16, hr16, hw16⟩ := cx148_far F (d := d + 5) hf16 (by decide) hw11
              refine rz_B.call (d := d + 6) (as := [.ref 91, vI (-1)]) (rest := []) (w := some (vI r16)) rfl hg16 ?_
              cases h
              exact rz_B.ret rfl hr16 hw16
            · have h := if_F h hc15
              refine rz_B.ifT ((le32 ha1 (hw11 91 84).1).mpr (Int.not_lt.mp hc15)) ?_
              refine rz_B.go 6 (pc' := 89) (L' := [some (.ref 91), some (vI a0), some (vI a1), some (vI 0), some (vI a1), some (vI 0)]) (S' := []) rfl ?_
              refine rz_B.more (rg_le_ok (L := [some (.ref 91), none, none, some (vI 0), some (vI a1), some (vI 0)]) (by simp [rg_le])) ?_
              exact cx199_shift_89 F F _ _ _ _ _ _ h (by decide) ha1 (by decide) hw11
          · have h := if_F h hc14
            refine rz_B.ifT ((lt32 ha1 (by decide)).mpr (Int.not_le.mp hc14)) ?_
            refine rz_B.go 2 (pc' := 77) (L' := [some (.ref 91), some (vI a0), some (vI a1), none, none, none]) (S' := [vI (-1), .ref 91]) rfl ?_
            obtain ⟨r17, A17, hf17, h⟩ := rz_b_inv h
            obtain ⟨hg17, hr17, hw17⟩ := cx148_far F (d := d + 5) hf17 (by decide) hw11
            refine rz_B.call (d := d + 6) (as := [.ref 91, vI (-1)]) (rest := []) (w := some (vI r17)) rfl hg17 ?_
            cases h
            exact rz_B.ret rfl hr17 hw17
/-- RiverGaugeModel.put(I)I -/
def x200_put (F : Nat) (a0 : Int) (A : rz_A) : Option (Int × rz_A) :=
  if a0 < (-128) then
    rz_b (x142_no F (-4) A) fun r2 A2 =>
    some (r2, A2)
  else
    if a0 ≤ 127 then
      if (A.1 91 9) = 12 then
        rz_b (x142_no F (-6) A) fun r5 A5 =>
        some (r5, A5)
      else
        rz_g32 ((A.1 91 9) + 1) <|
        rz_gx (A.1 91 9) 12 <|
        some (((A.1 91 9) + 1), (aI (aI A 91 9 ((A.1 91 9) + 1)) 131 ((A.1 91 9)).toNat a0))
    else
      rz_b (x142_no F (-6) A) fun r11 A11 =>
      some (r11, A11)
theorem cx200_put (F : Nat) {d : Nat} {a0 : Int} {A : rz_A} {r : Int} {A' : rz_A} (h : x200_put F a0 A = some (r, A')) (ha0 : r32 a0) (hw : wf A) : rg_Rn (d + 1) 200 [.ref 91, vI a0] (toM A) (some (vI r)) (toM A') ∧ (r32 r) ∧ wf A' := by
  show rz_B (d + 1) 200 0 [some (.ref 91), some (vI a0)] [] A (some (vI r)) A' (r32 r)
  unfold x200_put at h
  refine rz_B.go 3 (pc' := if decide (Int32.ofInt (-128) ≤ Int32.ofInt a0) = true then 13 else 6) (L' := [some (.ref 91), some (vI a0)]) (S' := []) rfl ?_
  by_cases hc1 : a0 < (-128)
  · have h := if_T h hc1
    refine rz_B.ifF (mt (le32 (by decide) ha0).mp (Int.not_le.mpr hc1)) ?_
    refine rz_B.go 2 (pc' := 9) (L' := [some (.ref 91), some (vI a0)]) (S' := [vI (-4), .ref 91]) rfl ?_
    obtain ⟨r2, A2, hf2, h⟩ := rz_b_inv h
    obtain ⟨hg2, hr2, hw2⟩ := cx142_no F (d := d + 0) hf2 (by decide) hw
    refine rz_B.call (d := d + 0) (as := [.ref 91, vI (-4)]) (rest := []) (w := some (vI r2)) rfl hg2 ?_
    cases h
    exact rz_B.ret rfl hr2 hw2
  · have h := if_F h hc1
    refine rz_B.ifT ((le32 (by decide) ha0).mpr (Int.not_lt.mp hc1)) ?_
    refine rz_B.go 3 (pc' := if decide (Int32.ofInt 127 < Int32.ofInt a0) = true then 28 else 19) (L' := [some (.ref 91), some (vI a0)]) (S' := []) rfl ?_
    by_cases hc3 : a0 ≤ 127
    · have h := if_T h hc3
      refine rz_B.ifF (mt (lt32 (by decide) ha0).mp (Int.not_lt.mpr hc3)) ?_
      refine rz_B.go 4 (pc' := if decide (¬ Int32.ofInt (A.1 91 9) = Int32.ofInt 12) = true then 35 else 28) (L' := [some (.ref 91), some (vI a0)]) (S' := []) rfl ?_
      by_cases hc4 : (A.1 91 9) = 12
      · have h := if_T h hc4
        refine rz_B.ifF (fun hn => hn ((eq32 (hw 91 9).1 (by decide)).mpr hc4)) ?_
        refine rz_B.go 2 (pc' := 31) (L' := [some (.ref 91), some (vI a0)]) (S' := [vI (-6), .ref 91]) rfl ?_
        obtain ⟨r5, A5, hf5, h⟩ := rz_b_inv h
        obtain ⟨hg5, hr5, hw5⟩ := cx142_no F (d := d + 0) hf5 (by decide) hw
        refine rz_B.call (d := d + 0) (as := [.ref 91, vI (-6)]) (rest := []) (w := some (vI r5)) rfl hg5 ?_
        cases h
        exact rz_B.ret rfl hr5 hw5
      · have h := if_F h hc4
        refine rz_B.ifT (mt (eq32 (hw 91 9).1 (by decide)).mp hc4) ?_
        refine rz_B.go 7 (pc' := 46) (L' := [some (.ref 91), some (vI a0)]) (S' := [vI 1, vI (A.1 91 9), .ref 91, vI (A.1 91 9), .ref 131]) rfl ?_
        obtain ⟨hk6, h⟩ := rz_g32_inv h
        refine rz_B.iadd rfl ?_
        refine rz_B.put 1 (pc' := 50) (L' := [some (.ref 91), some (vI a0)]) (S' := [vI (A.1 91 9), .ref 131]) (c := 91) (k := 9) (x := ((A.1 91 9) + 1)) rfl ?_
        have hw7 : wf (aI A 91 9 ((A.1 91 9) + 1)) := wf_aI hw hk6
        refine rz_B.go 1 (pc' := 51) (L' := [some (.ref 91), some (vI a0)]) (S' := [vI a0, vI (A.1 91 9), .ref 131]) rfl ?_
        obtain ⟨hi8, hj9, h⟩ := rz_gx_inv h
        refine rz_B.iast rfl rfl hi8 hj9 (by decide) ?_
        have hw10 : wf (aI (aI A 91 9 ((A.1 91 9) + 1)) 131 ((A.1 91 9)).toNat a0) := wf_aI hw7 ha0
        refine rz_B.go 2 (pc' := 56) (L' := [some (.ref 91), some (vI a0)]) (S' := [vI ((A.1 91 9) + 1)]) rfl ?_
        cases h
        exact rz_B.ret rfl hk6 hw10
    · have h := if_F h hc3
      refine rz_B.ifT ((lt32 (by decide) ha0).mpr (Int.not_le.mp hc3)) ?_
      refine rz_B.go 2 (pc' := 31) (L' := [some (.ref 91), some (vI a0)]) (S' := [vI (-6), .ref 91]) rfl ?_
      obtain ⟨r11, A11, hf11, h⟩ := rz_b_inv h
      obtain ⟨hg11, hr11, hw11⟩ := cx142_no F (d := d + 0) hf11 (by decide) hw
      refine rz_B.call (d := d + 0) (as := [.ref 91, vI (-6)]) (rest := []) (w := some (vI r11)) rfl hg11 ?_
      cases h
      exact rz_B.ret rfl hr11 hw11
def x201_judge_172 (F : Nat) (v2 : Int) (v4 : Int) (A : rz_A) : Option (Int × rz_A) :=
  if v4 < v2 then
    some (v4, A)
  else
    some ((-9), A)
theorem cx201_judge_172 {d : Nat} (F : Nat) : ∀ (v2 : Int) (v4 : Int) (A : rz_A) (r : Int) (A' : rz_A), x201_judge_172 F v2 v4 A = some (r, A') → r32 v2 → r32 v4 → wf A → rz_B (d + 7) 201 172 [none, none, some (vI v2), none, some (vI v4), none] [] A (some (vI r)) A' (r32 r) := by
  intro v2 v4 A r A' h hv2 hv4 hw
  unfold x201_judge_172 at h
  refine rz_B.go 3 (pc' := if decide (Int32.ofInt v2 ≤ Int32.ofInt v4) = true then 183 else 178) (L' := [none, none, some (vI v2), none, some (vI v4), none]) (S' := []) rfl ?_
  by_cases hc1 : v4 < v2
  · have h := if_T h hc1
    refine rz_B.ifF (mt (le32 hv2 hv4).mp (Int.not_le.mpr hc1)) ?_
    refine rz_B.go 2 (pc' := 185) (L' := [none, none, some (vI v2), none, some (vI v4), none]) (S' := [vI v4]) rfl ?_
    cases h
    exact rz_B.ret rfl hv4 hw
  · have h := if_F h hc1
    refine rz_B.ifT ((le32 hv2 hv4).mpr (Int.not_lt.mp hc1)) ?_
    refine rz_B.go 1 (pc' := 185) (L' := [none, none, some (vI v2), none, some (vI v4), none]) (S' := [vI (-9)]) rfl ?_
    cases h
    exact rz_B.ret rfl (by decide) hw
def x201_judge_129 (F : Nat) (k92 : (Int → Int → Int → Int → Int → rz_A → Option (Int × rz_A))) (v1 : Int) (v2 : Int) (v3 : Int) (v4 : Int) (v5 : Int) (A : rz_A) : Option (Int × rz_A) :=
  if v2 ≤ v4 then
    some (v2, A)
  else
    rz_gx v4 12 <|
    rz_b (x196_goes F v1 v3 v5 (A.1 131 (v4).toNat) A) fun r4 A4 =>
    if r4 = 0 then
      some (v4, A4)
    else
      rz_g32 (v4 + 1) <|
      rz_g32 (v5 + 1) <|
      k92 v1 v2 (v5 + 1) (v4 + 1) (v5 + 1) A4
theorem cx201_judge_129 {d : Nat} (F : Nat) {k92 : (Int → Int → Int → Int → Int → rz_A → Option (Int × rz_A))} (hkk92 : ∀ (v1 : Int) (v2 : Int) (v3 : Int) (v4 : Int) (v5 : Int) (A : rz_A) (r : Int) (A' : rz_A), k92 v1 v2 v3 v4 v5 A = some (r, A') → r32 v1 → r32 v2 → r32 v3 → r32 v4 → r32 v5 → wf A → rz_B (d + 7) 201 92 [some (.ref 91), some (vI v1), some (vI v2), some (vI v3), some (vI v4), some (vI v5)] [] A (some (vI r)) A' (r32 r)) : ∀ (v1 : Int) (v2 : Int) (v3 : Int) (v4 : Int) (v5 : Int) (A : rz_A) (r : Int) (A' : rz_A), x201_judge_129 F k92 v1 v2 v3 v4 v5 A = some (r, A') → r32 v1 → r32 v2 → r32 v3 → r32 v4 → r32 v5 → wf A → rz_B (d + 7) 201 129 [some (.ref 91), some (vI v1), some (vI v2), some (vI v3), some (vI v4), some (vI v5)] [] A (some (vI r)) A' (r32 r) := by
  intro v1 v2 v3 v4 v5 A r A' h hv1 hv2 hv3 hv4 hv5 hw
  unfold x201_judge_129 at h
  refine rz_B.go 3 (pc' := if decide (Int32.ofInt v4 < Int32.ofInt v2) = true then 137 else 135) (L' := [some (.ref 91), some (vI v1), some (vI v2), some (vI v3), some (vI v4), some (vI v5)]) (S' := []) rfl ?_
  by_cases hc1 : v2 ≤ v4
  · have h := if_T h hc1
    refine rz_B.ifF (mt (lt32 hv4 hv2).mp (Int.not_lt.mpr hc1)) ?_
    refine rz_B.go 1 (pc' := 136) (L' := [some (.ref 91), some (vI v1), some (vI v2), some (vI v3), some (vI v4), some (vI v5)]) (S' := [vI v2]) rfl ?_
    cases h
    exact rz_B.ret rfl hv2 hw
  · have h := if_F h hc1
    refine rz_B.ifT ((lt32 hv4 hv2).mpr (Int.not_le.mp hc1)) ?_
    refine rz_B.go 7 (pc' := 148) (L' := [some (.ref 91), some (vI v1), some (vI v2), some (vI v3), some (vI v4), some (vI v5)]) (S' := [vI v4, .ref 131, vI v5, vI v3, vI v1, .ref 91]) rfl ?_
    obtain ⟨hi2, hj3, h⟩ := rz_gx_inv h
    refine rz_B.iald rfl rfl hi2 hj3 (by decide) ?_
    obtain ⟨r4, A4, hf4, h⟩ := rz_b_inv h
    obtain ⟨hg4, hr4, hw4⟩ := cx196_goes F (d := d + 5) hf4 hv1 hv3 hv5 (hw 131 (v4).toNat).1 hw
    refine rz_B.call (d := d + 6) (as := [.ref 91, vI v1, vI v3, vI v5, vI (A.1 131 (v4).toNat)]) (rest := []) (w := some (vI r4)) rfl hg4 ?_
    refine rz_B.go 1 (pc' := if decide (¬ Int32.ofInt r4 = Int32.ofInt 0) = true then 158 else 155) (L' := [some (.ref 91), some (vI v1), some (vI v2), some (vI v3), some (vI v4), some (vI v5)]) (S' := []) rfl ?_
    by_cases hc5 : r4 = 0
    · have h := if_T h hc5
      refine rz_B.ifF (fun hn => hn ((eq32 hr4 (by decide)).mpr hc5)) ?_
      refine rz_B.go 1 (pc' := 157) (L' := [some (.ref 91), some (vI v1), some (vI v2), some (vI v3), some (vI v4), some (vI v5)]) (S' := [vI v4]) rfl ?_
      cases h
      exact rz_B.ret rfl hv4 hw4
    · have h := if_F h hc5
      refine rz_B.ifT (mt (eq32 hr4 (by decide)).mp hc5) ?_
      obtain ⟨hk6, h⟩ := rz_g32_inv h
      refine rz_B.iinc rfl (by decide) rfl (L' := [some (.ref 91), some (vI v1), some (vI v2), some (vI v3), some (vI (v4 + 1)), some (vI v5)]) rfl ?_
      refine rz_B.go 2 (pc' := 164) (L' := [some (.ref 91), some (vI v1), some (vI v2), some (vI v3), some (vI (v4 + 1)), some (vI v5)]) (S' := [vI 1, vI v5]) rfl ?_
      obtain ⟨hk7, h⟩ := rz_g32_inv h
      refine rz_B.iadd rfl ?_
      refine rz_B.go 1 (pc' := 166) (L' := [some (.ref 91), some (vI v1), some (vI v2), some (vI (v5 + 1)), some (vI (v4 + 1)), some (vI v5)]) (S' := []) rfl ?_
      refine rz_B.iinc rfl (by decide) rfl (L' := [some (.ref 91), some (vI v1), some (vI v2), some (vI (v5 + 1)), some (vI (v4 + 1)), some (vI (v5 + 1))]) rfl ?_
      refine rz_B.go 1 (pc' := 92) (L' := [some (.ref 91), some (vI v1), some (vI v2), some (vI (v5 + 1)), some (vI (v4 + 1)), some (vI (v5 + 1))]) (S' := []) rfl ?_
      refine rz_B.more (rg_le_ok (L := [some (.ref 91), some (vI v1), some (vI v2), some (vI (v5 + 1)), some (vI (v4 + 1)), some (vI (v5 + 1))]) (by simp [rg_le])) ?_
      exact hkk92 _ _ _ _ _ _ _ _ h hv1 hv2 hk7 hk6 hk7 hw4
def x201_judge_92 (F : Nat) : Nat → Int → Int → Int → Int → Int → rz_A → Option (Int × rz_A)
  | 0, _, _, _, _, _, _ => none
  | n + 1, v1, v2, v3, v4, v5, A =>
    if v5 < (A.1 91 80) then
      rz_g32 (v5 + 1) <|
      if (v5 + 1) < (A.1 91 80) then
        if (rz_oI fAnd (rz_oI fShr (A.1 131 0) v5) 1) = 0 then
          x201_judge_92 F n v1 v2 v3 v4 (v5 + 1) A
        else
          x201_judge_129 F (x201_judge_92 F n) v1 v2 v3 v4 v5 A
      else
        x201_judge_129 F (x201_judge_92 F n) v1 v2 v3 v4 v5 A
    else
      x201_judge_172 F v2 v4 A
theorem cx201_judge_92 {d : Nat} (F : Nat) : ∀ (n : Nat) (v1 : Int) (v2 : Int) (v3 : Int) (v4 : Int) (v5 : Int) (A : rz_A) (r : Int) (A' : rz_A), x201_judge_92 F n v1 v2 v3 v4 v5 A = some (r, A') → r32 v1 → r32 v2 → r32 v3 → r32 v4 → r32 v5 → wf A → rz_B (d + 7) 201 92 [some (.ref 91), some (vI v1), some (vI v2), some (vI v3), some (vI v4), some (vI v5)] [] A (some (vI r)) A' (r32 r) := by
  intro n
  induction n with
  | zero => intro v1 v2 v3 v4 v5 A r A' h; cases h
  | succ n ih =>
    intro v1 v2 v3 v4 v5 A r A' h hv1 hv2 hv3 hv4 hv5 hw
    rw [x201_judge_92] at h
    refine rz_B.go 4 (pc' := if decide (Int32.ofInt (A.1 91 80) ≤ Int32.ofInt v5) = true then 172 else 101) (L' := [some (.ref 91), some (vI v1), some (vI v2), some (vI v3), some (vI v4), some (vI v5)]) (S' := []) rfl ?_
    by_cases hc1 : v5 < (A.1 91 80)
    · have h := if_T h hc1
      refine rz_B.ifF (mt (le32 (hw 91 80).1 hv5).mp (Int.not_le.mpr hc1)) ?_
      refine rz_B.go 2 (pc' := 104) (L' := [some (.ref 91), some (vI v1), some (vI v2), some (vI v3), some (vI v4), some (vI v5)]) (S' := [vI 1, vI v5]) rfl ?_
      obtain ⟨hk2, h⟩ := rz_g32_inv h
      refine rz_B.iadd rfl ?_
      refine rz_B.go 3 (pc' := if decide (Int32.ofInt (A.1 91 80) ≤ Int32.ofInt (v5 + 1)) = true then 129 else 112) (L' := [some (.ref 91), some (vI v1), some (vI v2), some (vI v3), some (vI v4), some (vI v5)]) (S' := []) rfl ?_
      by_cases hc3 : (v5 + 1) < (A.1 91 80)
      · have h := if_T h hc3
        refine rz_B.ifF (mt (le32 (hw 91 80).1 hk2).mp (Int.not_le.mpr hc3)) ?_
        refine rz_B.go 3 (pc' := 117) (L' := [some (.ref 91), some (vI v1), some (vI v2), some (vI v3), some (vI v4), some (vI v5)]) (S' := [vI 0, .ref 131]) rfl ?_
        refine rz_B.iald rfl rfl (by decide) (by decide) (by decide) ?_
        refine rz_B.go 1 (pc' := 120) (L' := [some (.ref 91), some (vI v1), some (vI v2), some (vI v3), some (vI v4), some (vI v5)]) (S' := [vI v5, vI (A.1 131 0)]) rfl ?_
        refine rz_B.oI fShr rfl ?_
        refine rz_B.go 1 (pc' := 122) (L' := [some (.ref 91), some (vI v1), some (vI v2), some (vI v3), some (vI v4), some (vI v5)]) (S' := [vI 1, vI (rz_oI fShr (A.1 131 0) v5)]) rfl ?_
        refine rz_B.oI fAnd rfl ?_
        refine rz_B.go 1 (pc' := if decide (¬ Int32.ofInt (rz_oI fAnd (rz_oI fShr (A.1 131 0) v5) 1) = Int32.ofInt 0) = true then 129 else 126) (L' := [some (.ref 91), some (vI v1), some (vI v2), some (vI v3), some (vI v4), some (vI v5)]) (S' := []) rfl ?_
        by_cases hc4 : (rz_oI fAnd (rz_oI fShr (A.1 131 0) v5) 1) = 0
        · have h := if_T h hc4
          refine rz_B.ifF (fun hn => hn ((eq32 r32_oI (by decide)).mpr hc4)) ?_
          refine rz_B.go 1 (pc' := 166) (L' := [some (.ref 91), some (vI v1), some (vI v2), some (vI v3), some (vI v4), some (vI v5)]) (S' := []) rfl ?_
          refine rz_B.iinc rfl (by decide) rfl (L' := [some (.ref 91), some (vI v1), some (vI v2), some (vI v3), some (vI v4), some (vI (v5 + 1))]) rfl ?_
          refine rz_B.go 1 (pc' := 92) (L' := [some (.ref 91), some (vI v1), some (vI v2), some (vI v3), some (vI v4), some (vI (v5 + 1))]) (S' := []) rfl ?_
          refine rz_B.more (rg_le_ok (L := [some (.ref 91), some (vI v1), some (vI v2), some (vI v3), some (vI v4), some (vI (v5 + 1))]) (by simp [rg_le])) ?_
          exact ih _ _ _ _ _ _ _ _ h hv1 hv2 hv3 hv4 hk2 hw
        · have h := if_F h hc4
          refine rz_B.ifT (mt (eq32 r32_oI (by decide)).mp hc4) ?_
          refine rz_B.more (rg_le_ok (L := [some (.ref 91), some (vI v1), some (vI v2), some (vI v3), some (vI v4), some (vI v5)]) (by simp [rg_le])) ?_
          exact cx201_judge_129 F ih _ _ _ _ _ _ _ _ h hv1 hv2 hv3 hv4 hv5 hw
      · have h := if_F h hc3
        refine rz_B.ifT ((le32 (hw 91 80).1 hk2).mpr (Int.not_lt.mp hc3)) ?_
        refine rz_B.more (rg_le_ok (L := [some (.ref 91), some (vI v1), some (vI v2), some (vI v3), some (vI v4), some (vI v5)]) (by simp [rg_le])) ?_
        exact cx201_judge_129 F ih _ _ _ _ _ _ _ _ h hv1 hv2 hv3 hv4 hv5 hw
    · have h := if_F h hc1
      refine rz_B.ifT ((le32 (hw 91 80).1 hv5).mpr (Int.not_lt.mp hc1)) ?_
      refine rz_B.more (rg_le_ok (L := [none, none, some (vI v2), none, some (vI v4), none]) (by simp [rg_le])) ?_
      exact cx201_judge_172 F _ _ _ _ _ h hv2 hv4 hw
/-- RiverGaugeModel.judge(I)I -/
def x201_judge (F : Nat) (a0 : Int) (A : rz_A) : Option (Int × rz_A) :=
  rz_b (x145_isPost F a0 A) fun r1 A1 =>
  if r1 = 0 then
    rz_b (x142_no F (-1) A1) fun r3 A3 =>
    some (r3, A3)
  else
    rz_b (x192_gathers F a0 A1) fun _ A4 =>
    rz_gx a0 6 <|
    if (A4.1 96 (a0).toNat) = 0 then
      rz_b (x142_no F (-5) A4) fun r8 A8 =>
      some (r8, A8)
    else
      if (A4.1 91 80) = 0 then
        rz_b (x142_no F (-5) A4) fun r10 A10 =>
        some (r10, A10)
      else
        if (A4.1 91 9) = 0 then
          some (0, (aI A4 91 9 0))
        else
          if 0 ≤ (A4.1 131 0) then
            rz_g32 ((A4.1 91 80) - 1) <|
            if (rz_oI fShl 1 ((A4.1 91 80) - 1)) ≤ (A4.1 131 0) then
              some (0, (aI A4 91 9 0))
            else
              x201_judge_92 F F a0 (A4.1 91 9) 0 1 0 (aI A4 91 9 0)
          else
            some (0, (aI A4 91 9 0))
theorem cx201_judge (F : Nat) {d : Nat} {a0 : Int} {A : rz_A} {r : Int} {A' : rz_A} (h : x201_judge F a0 A = some (r, A')) (ha0 : r32 a0) (hw : wf A) : rg_Rn (d + 7) 201 [.ref 91, vI a0] (toM A) (some (vI r)) (toM A') ∧ (r32 r) ∧ wf A' := by
  show rz_B (d + 7) 201 0 [some (.ref 91), some (vI a0), none, none, none, none] [] A (some (vI r)) A' (r32 r)
  unfold x201_judge at h
  refine rz_B.go 2 (pc' := 2) (L' := [some (.ref 91), some (vI a0), none, none, none, none]) (S' := [vI a0, .ref 91]) rfl ?_
  obtain ⟨r1, A1, hf1, h⟩ := rz_b_inv h
  obtain ⟨hg1, hr1, hw1⟩ := cx145_isPost F (d := d + 6) hf1 ha0 hw
  refine rz_B.call (d := d + 6) (as := [.ref 91, vI a0]) (rest := []) (w := some (vI r1)) rfl hg1 ?_
  refine rz_B.go 1 (pc' := if decide (¬ Int32.ofInt r1 = Int32.ofInt 0) = true then 14 else 8) (L' := [some (.ref 91), some (vI a0), none, none, none, none]) (S' := []) rfl ?_
  by_cases hc2 : r1 = 0
  · have h := if_T h hc2
    refine rz_B.ifF (fun hn => hn ((eq32 hr1 (by decide)).mpr hc2)) ?_
    refine rz_B.go 2 (pc' := 10) (L' := [some (.ref 91), some (vI a0), none, none, none, none]) (S' := [vI (-1), .ref 91]) rfl ?_
    obtain ⟨r3, A3, hf3, h⟩ := rz_b_inv h
    obtain ⟨hg3, hr3, hw3⟩ := cx142_no F (d := d + 6) hf3 (by decide) hw1
    refine rz_B.call (d := d + 6) (as := [.ref 91, vI (-1)]) (rest := []) (w := some (vI r3)) rfl hg3 ?_
    cases h
    exact rz_B.ret rfl hr3 hw3
  · have h := if_F h hc2
    refine rz_B.ifT (mt (eq32 hr1 (by decide)).mp hc2) ?_
    refine rz_B.go 2 (pc' := 16) (L' := [some (.ref 91), some (vI a0), none, none, none, none]) (S' := [vI a0, .ref 91]) rfl ?_
    obtain ⟨_, A4, hf4, h⟩ := rz_b_inv h
    obtain ⟨hg4, hr4, hw4⟩ := cx192_gathers F (d := d + 0) hf4 ha0 hw1
    refine rz_B.call (d := d + 6) (as := [.ref 91, vI a0]) (rest := []) (w := none) rfl hg4 ?_
    refine rz_B.go 3 (pc' := 24) (L' := [some (.ref 91), some (vI a0), none, none, none, none]) (S' := [vI a0, .ref 96]) rfl ?_
    obtain ⟨hi5, hj6, h⟩ := rz_gx_inv h
    refine rz_B.iald rfl rfl hi5 hj6 (by decide) ?_
    refine rz_B.go 1 (pc' := if decide (Int32.ofInt (A4.1 96 (a0).toNat) = Int32.ofInt 0) = true then 35 else 28) (L' := [some (.ref 91), some (vI a0), none, none, none, none]) (S' := []) rfl ?_
    by_cases hc7 : (A4.1 96 (a0).toNat) = 0
    · have h := if_T h hc7
      refine rz_B.ifT ((eq32 (hw4 96 (a0).toNat).1 (by decide)).mpr hc7) ?_
      refine rz_B.go 2 (pc' := 38) (L' := [some (.ref 91), some (vI a0), none, none, none, none]) (S' := [vI (-5), .ref 91]) rfl ?_
      obtain ⟨r8, A8, hf8, h⟩ := rz_b_inv h
      obtain ⟨hg8, hr8, hw8⟩ := cx142_no F (d := d + 6) hf8 (by decide) hw4
      refine rz_B.call (d := d + 6) (as := [.ref 91, vI (-5)]) (rest := []) (w := some (vI r8)) rfl hg8 ?_
      cases h
      exact rz_B.ret rfl hr8 hw8
    · have h := if_F h hc7
      refine rz_B.ifF (mt (eq32 (hw4 96 (a0).toNat).1 (by decide)).mp hc7) ?_
      refine rz_B.go 3 (pc' := if decide (¬ Int32.ofInt (A4.1 91 80) = Int32.ofInt 0) = true then 42 else 35) (L' := [some (.ref 91), some (vI a0), none, none, none, none]) (S' := []) rfl ?_
      by_cases hc9 : (A4.1 91 80) = 0
      · have h := if_T h hc9
        refine rz_B.ifF (fun hn => hn ((eq32 (hw4 91 80).1 (by decide)).mpr hc9)) ?_
        refine rz_B.go 2 (pc' := 38) (L' := [some (.ref 91), some (vI a0), none, none, none, none]) (S' := [vI (-5), .ref 91]) rfl ?_
        obtain ⟨r10, A10, hf10, h⟩ := rz_b_inv h
        obtain ⟨hg10, hr10, hw10⟩ := cx142_no F (d := d + 6) hf10 (by decide) hw4
        refine rz_B.call (d := d + 6) (as := [.ref 91, vI (-5)]) (rest := []) (w := some (vI r10)) rfl hg10 ?_
        cases h
        exact rz_B.ret rfl hr10 hw10
      · have h := if_F h hc9
        refine rz_B.ifT (mt (eq32 (hw4 91 80).1 (by decide)).mp hc9) ?_
        refine rz_B.put 6 (pc' := 52) (L' := [some (.ref 91), some (vI a0), some (vI (A4.1 91 9)), none, none, none]) (S' := []) (c := 91) (k := 9) (x := 0) rfl ?_
        have hw11 : wf (aI A4 91 9 0) := wf_aI hw4 (by decide)
        refine rz_B.go 2 (pc' := if decide (Int32.ofInt (A4.1 91 9) = Int32.ofInt 0) = true then 82 else 56) (L' := [some (.ref 91), some (vI a0), some (vI (A4.1 91 9)), none, none, none]) (S' := []) rfl ?_
        by_cases hc12 : (A4.1 91 9) = 0
        · have h := if_T h hc12
          refine rz_B.ifT ((eq32 (hw4 91 9).1 (by decide)).mpr hc12) ?_
          refine rz_B.go 1 (pc' := 83) (L' := [some (.ref 91), some (vI a0), some (vI (A4.1 91 9)), none, none, none]) (S' := [vI 0]) rfl ?_
          cases h
          exact rz_B.ret rfl (by decide) hw11
        · have h := if_F h hc12
          refine rz_B.ifF (mt (eq32 (hw4 91 9).1 (by decide)).mp hc12) ?_
          refine rz_B.go 3 (pc' := 61) (L' := [some (.ref 91), some (vI a0), some (vI (A4.1 91 9)), none, none, none]) (S' := [vI 0, .ref 131]) rfl ?_
          refine rz_B.iald rfl rfl (by decide) (by decide) (by decide) ?_
          refine rz_B.go 1 (pc' := if decide (Int32.ofInt (A4.1 131 0) < Int32.ofInt 0) = true then 82 else 65) (L' := [some (.ref 91), some (vI a0), some (vI (A4.1 91 9)), none, none, none]) (S' := []) rfl ?_
          by_cases hc13 : 0 ≤ (A4.1 131 0)
          · have h := if_T h hc13
            refine rz_B.ifF (mt (lt32 (hw4 131 0).1 (by decide)).mp (Int.not_lt.mpr hc13)) ?_
            refine rz_B.go 3 (pc' := 70) (L' := [some (.ref 91), some (vI a0), some (vI (A4.1 91 9)), none, none, none]) (S' := [vI 0, .ref 131]) rfl ?_
            refine rz_B.iald rfl rfl (by decide) (by decide) (by decide) ?_
            refine rz_B.go 4 (pc' := 77) (L' := [some (.ref 91), some (vI a0), some (vI (A4.1 91 9)), none, none, none]) (S' := [vI 1, vI (A4.1 91 80), vI 1, vI (A4.1 131 0)]) rfl ?_
            obtain ⟨hk14, h⟩ := rz_g32_inv h
            refine rz_B.isub rfl ?_
            refine rz_B.oI fShl rfl ?_
            refine rz_B.go 1 (pc' := if decide (Int32.ofInt (A4.1 131 0) < Int32.ofInt (rz_oI fShl 1 ((A4.1 91 80) - 1))) = true then 84 else 82) (L' := [some (.ref 91), some (vI a0), some (vI (A4.1 91 9)), none, none, none]) (S' := []) rfl ?_
            by_cases hc15 : (rz_oI fShl 1 ((A4.1 91 80) - 1)) ≤ (A4.1 131 0)
            · have h := if_T h hc15
              refine rz_B.ifF (mt (lt32 (hw4 131 0).1 r32_oI).mp (Int.not_lt.mpr hc15)) ?_
              refine rz_B.go 1 (pc' := 83) (L' := [some (.ref 91), some (vI a0), some (vI (A4.1 91 9)), none, none, none]) (S' := [vI 0]) rfl ?_
              cases h
              exact rz_B.ret rfl (by decide) hw11
            · have h := if_F h hc15
              refine rz_B.ifT ((lt32 (hw4 131 0).1 r32_oI).mpr (Int.not_le.mp hc15)) ?_
              refine rz_B.go 6 (pc' := 92) (L' := [some (.ref 91), some (vI a0), some (vI (A4.1 91 9)), some (vI 0), some (vI 1), some (vI 0)]) (S' := []) rfl ?_
              refine rz_B.more (rg_le_ok (L := [some (.ref 91), some (vI a0), some (vI (A4.1 91 9)), some (vI 0), some (vI 1), some (vI 0)]) (by simp [rg_le])) ?_
              exact cx201_judge_92 F F _ _ _ _ _ _ _ _ h ha0 (hw4 91 9).1 (by decide) (by decide) (by decide) hw11
          · have h := if_F h hc13
            refine rz_B.ifT ((lt32 (hw4 131 0).1 (by decide)).mpr (Int.not_le.mp hc13)) ?_
            refine rz_B.go 1 (pc' := 83) (L' := [some (.ref 91), some (vI a0), some (vI (A4.1 91 9)), none, none, none]) (S' := [vI 0]) rfl ?_
            cases h
            exact rz_B.ret rfl (by decide) hw11
def x202_beside_21 (F : Nat) (v1 : Int) (v2 : Int) (A : rz_A) : Option (Int × rz_A) :=
  if v1 = v2 then
    rz_b (x148_far F (-1) A) fun r2 A2 =>
    some (r2, A2)
  else
    rz_gx v1 6 <|
    some ((A.1 94 (v1).toNat), (aI A 94 (v1).toNat v2))
theorem cx202_beside_21 {d : Nat} (F : Nat) : ∀ (v1 : Int) (v2 : Int) (A : rz_A) (r : Int) (A' : rz_A), x202_beside_21 F v1 v2 A = some (r, A') → r32 v1 → r32 v2 → wf A → rz_B (d + 2) 202 21 [some (.ref 91), some (vI v1), some (vI v2), none] [] A (some (vI r)) A' (r32 r) := by
  intro v1 v2 A r A' h hv1 hv2 hw
  unfold x202_beside_21 at h
  refine rz_B.go 3 (pc' := if decide (¬ Int32.ofInt v1 = Int32.ofInt v2) = true then 32 else 26) (L' := [some (.ref 91), some (vI v1), some (vI v2), none]) (S' := []) rfl ?_
  by_cases hc1 : v1 = v2
  · have h := if_T h hc1
    refine rz_B.ifF (fun hn => hn ((eq32 hv1 hv2).mpr hc1)) ?_
    refine rz_B.go 2 (pc' := 28) (L' := [some (.ref 91), some (vI v1), some (vI v2), none]) (S' := [vI (-1), .ref 91]) rfl ?_
    obtain ⟨r2, A2, hf2, h⟩ := rz_b_inv h
    obtain ⟨hg2, hr2, hw2⟩ := cx148_far F (d := d + 0) hf2 (by decide) hw
    refine rz_B.call (d := d + 1) (as := [.ref 91, vI (-1)]) (rest := []) (w := some (vI r2)) rfl hg2 ?_
    cases h
    exact rz_B.ret rfl hr2 hw2
  · have h := if_F h hc1
    refine rz_B.ifT (mt (eq32 hv1 hv2).mp hc1) ?_
    refine rz_B.go 3 (pc' := 37) (L' := [some (.ref 91), some (vI v1), some (vI v2), none]) (S' := [vI v1, .ref 94]) rfl ?_
    obtain ⟨hi3, hj4, h⟩ := rz_gx_inv h
    refine rz_B.iald rfl rfl hi3 hj4 (by decide) ?_
    refine rz_B.go 5 (pc' := 45) (L' := [some (.ref 91), some (vI v1), some (vI v2), some (vI (A.1 94 (v1).toNat))]) (S' := [vI v2, vI v1, .ref 94]) rfl ?_
    refine rz_B.iast rfl rfl hi3 hj4 (by decide) ?_
    have hw5 : wf (aI A 94 (v1).toNat v2) := wf_aI hw hv2
    refine rz_B.go 1 (pc' := 47) (L' := [some (.ref 91), some (vI v1), some (vI v2), some (vI (A.1 94 (v1).toNat))]) (S' := [vI (A.1 94 (v1).toNat)]) rfl ?_
    cases h
    exact rz_B.ret rfl (hw 94 (v1).toNat).1 hw5
/-- RiverGaugeModel.beside(II)I -/
def x202_beside (F : Nat) (a0 : Int) (a1 : Int) (A : rz_A) : Option (Int × rz_A) :=
  rz_b (x145_isPost F a0 A) fun r1 A1 =>
  if r1 = 0 then
    rz_b (x148_far F (-1) A1) fun r3 A3 =>
    some (r3, A3)
  else
    if a1 = (-1) then
      x202_beside_21 F a0 a1 A1
    else
      rz_b (x145_isPost F a1 A1) fun r5 A5 =>
      if r5 = 0 then
        rz_b (x148_far F (-1) A5) fun r7 A7 =>
        some (r7, A7)
      else
        x202_beside_21 F a0 a1 A5
theorem cx202_beside (F : Nat) {d : Nat} {a0 : Int} {a1 : Int} {A : rz_A} {r : Int} {A' : rz_A} (h : x202_beside F a0 a1 A = some (r, A')) (ha0 : r32 a0) (ha1 : r32 a1) (hw : wf A) : rg_Rn (d + 2) 202 [.ref 91, vI a0, vI a1] (toM A) (some (vI r)) (toM A') ∧ (r32 r) ∧ wf A' := by
  show rz_B (d + 2) 202 0 [some (.ref 91), some (vI a0), some (vI a1), none] [] A (some (vI r)) A' (r32 r)
  unfold x202_beside at h
  refine rz_B.go 2 (pc' := 2) (L' := [some (.ref 91), some (vI a0), some (vI a1), none]) (S' := [vI a0, .ref 91]) rfl ?_
  obtain ⟨r1, A1, hf1, h⟩ := rz_b_inv h
  obtain ⟨hg1, hr1, hw1⟩ := cx145_isPost F (d := d + 1) hf1 ha0 hw
  refine rz_B.call (d := d + 1) (as := [.ref 91, vI a0]) (rest := []) (w := some (vI r1)) rfl hg1 ?_
  refine rz_B.go 1 (pc' := if decide (Int32.ofInt r1 = Int32.ofInt 0) = true then 26 else 8) (L' := [some (.ref 91), some (vI a0), some (vI a1), none]) (S' := []) rfl ?_
  by_cases hc2 : r1 = 0
  · have h := if_T h hc2
    refine rz_B.ifT ((eq32 hr1 (by decide)).mpr hc2) ?_
    refine rz_B.go 2 (pc' := 28) (L' := [some (.ref 91), some (vI a0), some (vI a1), none]) (S' := [vI (-1), .ref 91]) rfl ?_
    obtain ⟨r3, A3, hf3, h⟩ := rz_b_inv h
    obtain ⟨hg3, hr3, hw3⟩ := cx148_far F (d := d + 0) hf3 (by decide) hw1
    refine rz_B.call (d := d + 1) (as := [.ref 91, vI (-1)]) (rest := []) (w := some (vI r3)) rfl hg3 ?_
    cases h
    exact rz_B.ret rfl hr3 hw3
  · have h := if_F h hc2
    refine rz_B.ifF (mt (eq32 hr1 (by decide)).mp hc2) ?_
    refine rz_B.go 3 (pc' := if decide (Int32.ofInt a1 = Int32.ofInt (-1)) = true then 21 else 13) (L' := [some (.ref 91), some (vI a0), some (vI a1), none]) (S' := []) rfl ?_
    by_cases hc4 : a1 = (-1)
    · have h := if_T h hc4
      refine rz_B.ifT ((eq32 ha1 (by decide)).mpr hc4) ?_
      refine rz_B.more (rg_le_ok (L := [some (.ref 91), some (vI a0), some (vI a1), none]) (by simp [rg_le])) ?_
      exact cx202_beside_21 F _ _ _ _ _ h ha0 ha1 hw1
    · have h := if_F h hc4
      refine rz_B.ifF (mt (eq32 ha1 (by decide)).mp hc4) ?_
      refine rz_B.go 2 (pc' := 15) (L' := [some (.ref 91), some (vI a0), some (vI a1), none]) (S' := [vI a1, .ref 91]) rfl ?_
      obtain ⟨r5, A5, hf5, h⟩ := rz_b_inv h
      obtain ⟨hg5, hr5, hw5⟩ := cx145_isPost F (d := d + 1) hf5 ha1 hw1
      refine rz_B.call (d := d + 1) (as := [.ref 91, vI a1]) (rest := []) (w := some (vI r5)) rfl hg5 ?_
      refine rz_B.go 1 (pc' := if decide (Int32.ofInt r5 = Int32.ofInt 0) = true then 26 else 21) (L' := [some (.ref 91), some (vI a0), some (vI a1), none]) (S' := []) rfl ?_
      by_cases hc6 : r5 = 0
      · have h := if_T h hc6
        refine rz_B.ifT ((eq32 hr5 (by decide)).mpr hc6) ?_
        refine rz_B.go 2 (pc' := 28) (L' := [some (.ref 91), some (vI a0), some (vI a1), none]) (S' := [vI (-1), .ref 91]) rfl ?_
        obtain ⟨r7, A7, hf7, h⟩ := rz_b_inv h
        obtain ⟨hg7, hr7, hw7⟩ := cx148_far F (d := d + 0) hf7 (by decide) hw5
        refine rz_B.call (d := d + 1) (as := [.ref 91, vI (-1)]) (rest := []) (w := some (vI r7)) rfl hg7 ?_
        cases h
        exact rz_B.ret rfl hr7 hw7
      · have h := if_F h hc6
        refine rz_B.ifF (mt (eq32 hr5 (by decide)).mp hc6) ?_
        refine rz_B.more (rg_le_ok (L := [some (.ref 91), some (vI a0), some (vI a1), none]) (by simp [rg_le])) ?_
        exact cx202_beside_21 F _ _ _ _ _ h ha0 ha1 hw5
/-- RiverGaugeModel.between(IIIII)I -/
def x204_between (F : Nat) (a0 : Int) (a1 : Int) (a2 : Int) (a3 : Int) (a4 : Int) (A : rz_A) : Option (Int × rz_A) :=
  rz_g32 (a1 - a0) <|
  rz_g32 (a2 - a3) <|
  rz_g64 ((a1 - a0) * (a2 - a3)) <|
  rz_g32 (a4 - a3) <|
  rz_gn (a4 - a3) <|
  rz_g64 (((a1 - a0) * (a2 - a3)).tdiv (a4 - a3)) <|
  rz_g32 (((a1 - a0) * (a2 - a3)).tdiv (a4 - a3)) <|
  rz_g32 (a0 + (((a1 - a0) * (a2 - a3)).tdiv (a4 - a3))) <|
  some ((a0 + (((a1 - a0) * (a2 - a3)).tdiv (a4 - a3))), A)
theorem cx204_between (F : Nat) {d : Nat} {a0 : Int} {a1 : Int} {a2 : Int} {a3 : Int} {a4 : Int} {A : rz_A} {r : Int} {A' : rz_A} (h : x204_between F a0 a1 a2 a3 a4 A = some (r, A')) (ha0 : r32 a0) (ha1 : r32 a1) (ha2 : r32 a2) (ha3 : r32 a3) (ha4 : r32 a4) (hw : wf A) : rg_Rn (d + 0) 204 [vI a0, vI a1, vI a2, vI a3, vI a4] (toM A) (some (vI r)) (toM A') ∧ (r32 r) ∧ wf A' := by
  show rz_B (d + 0) 204 0 [some (vI a0), some (vI a1), some (vI a2), some (vI a3), some (vI a4)] [] A (some (vI r)) A' (r32 r)
  unfold x204_between at h
  refine rz_B.go 3 (pc' := 3) (L' := [some (vI a0), some (vI a1), some (vI a2), some (vI a3), some (vI a4)]) (S' := [vI a0, vI a1, vI a0]) rfl ?_
  obtain ⟨hk1, h⟩ := rz_g32_inv h
  refine rz_B.isub rfl ?_
  refine rz_B.i2l rfl hk1 ?_
  refine rz_B.go 2 (pc' := 7) (L' := [some (vI a0), some (vI a1), some (vI a2), some (vI a3), some (vI a4)]) (S' := [vI a3, vI a2, vL (a1 - a0), vI a0]) rfl ?_
  obtain ⟨hk2, h⟩ := rz_g32_inv h
  refine rz_B.isub rfl ?_
  refine rz_B.i2l rfl hk2 ?_
  obtain ⟨hk3, h⟩ := rz_g64_inv h
  refine rz_B.lmul rfl ?_
  refine rz_B.go 2 (pc' := 13) (L' := [some (vI a0), some (vI a1), some (vI a2), some (vI a3), some (vI a4)]) (S' := [vI a3, vI a4, vL ((a1 - a0) * (a2 - a3)), vI a0]) rfl ?_
  obtain ⟨hk4, h⟩ := rz_g32_inv h
  refine rz_B.isub rfl ?_
  refine rz_B.i2l rfl hk4 ?_
  obtain ⟨hz5, h⟩ := rz_gn_inv h
  obtain ⟨hk6, h⟩ := rz_g64_inv h
  refine rz_B.ldiv rfl hk3 (r64_of hk4) hz5 ?_
  obtain ⟨hk7, h⟩ := rz_g32_inv h
  refine rz_B.l2i rfl ?_
  obtain ⟨hk8, h⟩ := rz_g32_inv h
  refine rz_B.iadd rfl ?_
  cases h
  exact rz_B.ret rfl hk8 hw
def x203_gap_465 (F : Nat) (v3 : Int) (v5 : Int) (v7 : Int) (v8 : Int) (v10 : Int) (A : rz_A) : Option (Int × rz_A) :=
  if v3 = 0 then
    some (v8, A)
  else
    if v3 = 1 then
      some (v5, A)
    else
      if v3 = 2 then
        some (v7, A)
      else
        if v10 = 0 then
          some (0, A)
        else
          some (1, A)
theorem cx203_gap_465 {d : Nat} (F : Nat) : ∀ (v3 : Int) (v5 : Int) (v7 : Int) (v8 : Int) (v10 : Int) (A : rz_A) (r : Int) (A' : rz_A), x203_gap_465 F v3 v5 v7 v8 v10 A = some (r, A') → r32 v3 → r32 v5 → r32 v7 → r32 v8 → r32 v10 → wf A → rz_B (d + 5) 203 465 [none, none, none, some (vI v3), none, some (vI v5), none, some (vI v7), some (vI v8), none, some (vI v10), none, none, none] [] A (some (vI r)) A' (r32 r) := by
  intro v3 v5 v7 v8 v10 A r A' h hv3 hv5 hv7 hv8 hv10 hw
  unfold x203_gap_465 at h
  refine rz_B.go 2 (pc' := if decide (¬ Int32.ofInt v3 = Int32.ofInt 0) = true then 474 else 469) (L' := [none, none, none, some (vI v3), none, some (vI v5), none, some (vI v7), some (vI v8), none, some (vI v10), none, none, none]) (S' := []) rfl ?_
  by_cases hc1 : v3 = 0
  · have h := if_T h hc1
    refine rz_B.ifF (fun hn => hn ((eq32 hv3 (by decide)).mpr hc1)) ?_
    refine rz_B.go 2 (pc' := 504) (L' := [none, none, none, some (vI v3), none, some (vI v5), none, some (vI v7), some (vI v8), none, some (vI v10), none, none, none]) (S' := [vI v8]) rfl ?_
    cases h
    exact rz_B.ret rfl hv8 hw
  · have h := if_F h hc1
    refine rz_B.ifT (mt (eq32 hv3 (by decide)).mp hc1) ?_
    refine rz_B.go 3 (pc' := if decide (¬ Int32.ofInt v3 = Int32.ofInt 1) = true then 484 else 479) (L' := [none, none, none, some (vI v3), none, some (vI v5), none, some (vI v7), some (vI v8), none, some (vI v10), none, none, none]) (S' := []) rfl ?_
    by_cases hc2 : v3 = 1
    · have h := if_T h hc2
      refine rz_B.ifF (fun hn => hn ((eq32 hv3 (by decide)).mpr hc2)) ?_
      refine rz_B.go 2 (pc' := 504) (L' := [none, none, none, some (vI v3), none, some (vI v5), none, some (vI v7), some (vI v8), none, some (vI v10), none, none, none]) (S' := [vI v5]) rfl ?_
      cases h
      exact rz_B.ret rfl hv5 hw
    · have h := if_F h hc2
      refine rz_B.ifT (mt (eq32 hv3 (by decide)).mp hc2) ?_
      refine rz_B.go 3 (pc' := if decide (¬ Int32.ofInt v3 = Int32.ofInt 2) = true then 494 else 489) (L' := [none, none, none, some (vI v3), none, some (vI v5), none, some (vI v7), some (vI v8), none, some (vI v10), none, none, none]) (S' := []) rfl ?_
      by_cases hc3 : v3 = 2
      · have h := if_T h hc3
        refine rz_B.ifF (fun hn => hn ((eq32 hv3 (by decide)).mpr hc3)) ?_
        refine rz_B.go 2 (pc' := 504) (L' := [none, none, none, some (vI v3), none, some (vI v5), none, some (vI v7), some (vI v8), none, some (vI v10), none, none, none]) (S' := [vI v7]) rfl ?_
        cases h
        exact rz_B.ret rfl hv7 hw
      · have h := if_F h hc3
        refine rz_B.ifT (mt (eq32 hv3 (by decide)).mp hc3) ?_
        refine rz_B.go 2 (pc' := if decide (Int32.ofInt v10 = Int32.ofInt 0) = true then 503 else 499) (L' := [none, none, none, some (vI v3), none, some (vI v5), none, some (vI v7), some (vI v8), none, some (vI v10), none, none, none]) (S' := []) rfl ?_
        by_cases hc4 : v10 = 0
        · have h := if_T h hc4
          refine rz_B.ifT ((eq32 hv10 (by decide)).mpr hc4) ?_
          refine rz_B.go 1 (pc' := 504) (L' := [none, none, none, some (vI v3), none, some (vI v5), none, some (vI v7), some (vI v8), none, some (vI v10), none, none, none]) (S' := [vI 0]) rfl ?_
          cases h
          exact rz_B.ret rfl (by decide) hw
        · have h := if_F h hc4
          refine rz_B.ifF (mt (eq32 hv10 (by decide)).mp hc4) ?_
          refine rz_B.go 2 (pc' := 504) (L' := [none, none, none, some (vI v3), none, some (vI v5), none, some (vI v7), some (vI v8), none, some (vI v10), none, none, none]) (S' := [vI 1]) rfl ?_
          cases h
          exact rz_B.ret rfl (by decide) hw
def x203_gap_400 (F : Nat) (v2 : Int) (v3 : Int) (v5 : Int) (v7 : Int) (v8 : Int) (v9 : Int) (v10 : Int) (v11 : Int) (v12 : Int) (A : rz_A) : Option (Int × rz_A) :=
  rz_b (x157_lays F v2 A) fun _ A1 =>
  rz_g32 (v7 - v5) <|
  if v10 = 0 then
    rz_b (x158_says F v11 (aL (aL (aL A1 133 6 (v7 - v5)) 133 7 v12) 133 13 99)) fun r7 A7 =>
    if r7 = 0 then
      rz_b (x148_far F (-3) A7) fun r9 A9 =>
      some (r9, A9)
    else
      x203_gap_465 F v3 v5 v7 v8 v10 A7
  else
    rz_b (x158_says F v11 (aL (aL (aL A1 133 6 (v7 - v5)) 133 7 v12) 133 13 v9)) fun r11 A11 =>
    if r11 = 0 then
      rz_b (x148_far F (-3) A11) fun r13 A13 =>
      some (r13, A13)
    else
      x203_gap_465 F v3 v5 v7 v8 v10 A11
theorem cx203_gap_400 {d : Nat} (F : Nat) : ∀ (v2 : Int) (v3 : Int) (v5 : Int) (v7 : Int) (v8 : Int) (v9 : Int) (v10 : Int) (v11 : Int) (v12 : Int) (A : rz_A) (r : Int) (A' : rz_A), x203_gap_400 F v2 v3 v5 v7 v8 v9 v10 v11 v12 A = some (r, A') → r32 v2 → r32 v3 → r32 v5 → r32 v7 → r32 v8 → r32 v9 → r32 v10 → r32 v11 → r32 v12 → wf A → rz_B (d + 5) 203 400 [some (.ref 91), none, some (vI v2), some (vI v3), none, some (vI v5), none, some (vI v7), some (vI v8), some (vI v9), some (vI v10), some (vI v11), some (vI v12), none] [] A (some (vI r)) A' (r32 r) := by
  intro v2 v3 v5 v7 v8 v9 v10 v11 v12 A r A' h hv2 hv3 hv5 hv7 hv8 hv9 hv10 hv11 hv12 hw
  unfold x203_gap_400 at h
  refine rz_B.go 2 (pc' := 402) (L' := [some (.ref 91), none, some (vI v2), some (vI v3), none, some (vI v5), none, some (vI v7), some (vI v8), some (vI v9), some (vI v10), some (vI v11), some (vI v12), none]) (S' := [vI v2, .ref 91]) rfl ?_
  obtain ⟨_, A1, hf1, h⟩ := rz_b_inv h
  obtain ⟨hg1, hr1, hw1⟩ := cx157_lays F (d := d + 4) hf1 hv2 hw
  refine rz_B.call (d := d + 4) (as := [.ref 91, vI v2]) (rest := []) (w := none) rfl hg1 ?_
  refine rz_B.go 5 (pc' := 415) (L' := [some (.ref 91), none, some (vI v2), some (vI v3), none, some (vI v5), none, some (vI v7), some (vI v8), some (vI v9), some (vI v10), some (vI v11), some (vI v12), none]) (S' := [vI v5, vI v7, vI 6, .ref 133]) rfl ?_
  obtain ⟨hk2, h⟩ := rz_g32_inv h
  refine rz_B.isub rfl ?_
  refine rz_B.i2l rfl hk2 ?_
  refine rz_B.last rfl rfl (by decide) (by decide) (by decide) ?_
  have hw3 : wf (aL A1 133 6 (v7 - v5)) := wf_aL hw1 (r64_of hk2)
  refine rz_B.go 4 (pc' := 426) (L' := [some (.ref 91), none, some (vI v2), some (vI v3), none, some (vI v5), none, some (vI v7), some (vI v8), some (vI v9), some (vI v10), some (vI v11), some (vI v12), none]) (S' := [vI v12, vI 7, .ref 133]) rfl ?_
  refine rz_B.i2l rfl hv12 ?_
  refine rz_B.last rfl rfl (by decide) (by decide) (by decide) ?_
  have hw4 : wf (aL (aL A1 133 6 (v7 - v5)) 133 7 v12) := wf_aL hw3 (r64_of hv12)
  refine rz_B.go 5 (pc' := if decide (Int32.ofInt v10 = Int32.ofInt 0) = true then 445 else 439) (L' := [some (.ref 91), none, some (vI v2), some (vI v3), none, some (vI v5), none, some (vI v7), some (vI v8), some (vI v9), some (vI v10), some (vI v11), some (vI v12), none]) (S' := [vI 13, .ref 133]) rfl ?_
  by_cases hc5 : v10 = 0
  · have h := if_T h hc5
    refine rz_B.ifT ((eq32 hv10 (by decide)).mpr hc5) ?_
    refine rz_B.go 1 (pc' := 448) (L' := [some (.ref 91), none, some (vI v2), some (vI v3), none, some (vI v5), none, some (vI v7), some (vI v8), some (vI v9), some (vI v10), some (vI v11), some (vI v12), none]) (S' := [vL 99, vI 13, .ref 133]) rfl ?_
    refine rz_B.last rfl rfl (by decide) (by decide) (by decide) ?_
    have hw6 : wf (aL (aL (aL A1 133 6 (v7 - v5)) 133 7 v12) 133 13 99) := wf_aL hw4 (by decide)
    refine rz_B.go 2 (pc' := 452) (L' := [some (.ref 91), none, some (vI v2), some (vI v3), none, some (vI v5), none, some (vI v7), some (vI v8), some (vI v9), some (vI v10), some (vI v11), some (vI v12), none]) (S' := [vI v11, .ref 91]) rfl ?_
    obtain ⟨r7, A7, hf7, h⟩ := rz_b_inv h
    obtain ⟨hg7, hr7, hw7⟩ := cx158_says F (d := d + 3) hf7 hv11 hw6
    refine rz_B.call (d := d + 4) (as := [.ref 91, vI v11]) (rest := []) (w := some (vI r7)) rfl hg7 ?_
    refine rz_B.go 1 (pc' := if decide (¬ Int32.ofInt r7 = Int32.ofInt 0) = true then 465 else 458) (L' := [some (.ref 91), none, some (vI v2), some (vI v3), none, some (vI v5), none, some (vI v7), some (vI v8), some (vI v9), some (vI v10), some (vI v11), some (vI v12), none]) (S' := []) rfl ?_
    by_cases hc8 : r7 = 0
    · have h := if_T h hc8
      refine rz_B.ifF (fun hn => hn ((eq32 hr7 (by decide)).mpr hc8)) ?_
      refine rz_B.go 2 (pc' := 461) (L' := [some (.ref 91), none, some (vI v2), some (vI v3), none, some (vI v5), none, some (vI v7), some (vI v8), some (vI v9), some (vI v10), some (vI v11), some (vI v12), none]) (S' := [vI (-3), .ref 91]) rfl ?_
      obtain ⟨r9, A9, hf9, h⟩ := rz_b_inv h
      obtain ⟨hg9, hr9, hw9⟩ := cx148_far F (d := d + 3) hf9 (by decide) hw7
      refine rz_B.call (d := d + 4) (as := [.ref 91, vI (-3)]) (rest := []) (w := some (vI r9)) rfl hg9 ?_
      cases h
      exact rz_B.ret rfl hr9 hw9
    · have h := if_F h hc8
      refine rz_B.ifT (mt (eq32 hr7 (by decide)).mp hc8) ?_
      refine rz_B.more (rg_le_ok (L := [none, none, none, some (vI v3), none, some (vI v5), none, some (vI v7), some (vI v8), none, some (vI v10), none, none, none]) (by simp [rg_le])) ?_
      exact cx203_gap_465 F _ _ _ _ _ _ _ _ h hv3 hv5 hv7 hv8 hv10 hw7
  · have h := if_F h hc5
    refine rz_B.ifF (mt (eq32 hv10 (by decide)).mp hc5) ?_
    refine rz_B.go 1 (pc' := 441) (L' := [some (.ref 91), none, some (vI v2), some (vI v3), none, some (vI v5), none, some (vI v7), some (vI v8), some (vI v9), some (vI v10), some (vI v11), some (vI v12), none]) (S' := [vI v9, vI 13, .ref 133]) rfl ?_
    refine rz_B.i2l rfl hv9 ?_
    refine rz_B.go 1 (pc' := 448) (L' := [some (.ref 91), none, some (vI v2), some (vI v3), none, some (vI v5), none, some (vI v7), some (vI v8), some (vI v9), some (vI v10), some (vI v11), some (vI v12), none]) (S' := [vL v9, vI 13, .ref 133]) rfl ?_
    refine rz_B.last rfl rfl (by decide) (by decide) (by decide) ?_
    have hw10 : wf (aL (aL (aL A1 133 6 (v7 - v5)) 133 7 v12) 133 13 v9) := wf_aL hw4 (r64_of hv9)
    refine rz_B.go 2 (pc' := 452) (L' := [some (.ref 91), none, some (vI v2), some (vI v3), none, some (vI v5), none, some (vI v7), some (vI v8), some (vI v9), some (vI v10), some (vI v11), some (vI v12), none]) (S' := [vI v11, .ref 91]) rfl ?_
    obtain ⟨r11, A11, hf11, h⟩ := rz_b_inv h
    obtain ⟨hg11, hr11, hw11⟩ := cx158_says F (d := d + 3) hf11 hv11 hw10
    refine rz_B.call (d := d + 4) (as := [.ref 91, vI v11]) (rest := []) (w := some (vI r11)) rfl hg11 ?_
    refine rz_B.go 1 (pc' := if decide (¬ Int32.ofInt r11 = Int32.ofInt 0) = true then 465 else 458) (L' := [some (.ref 91), none, some (vI v2), some (vI v3), none, some (vI v5), none, some (vI v7), some (vI v8), some (vI v9), some (vI v10), some (vI v11), some (vI v12), none]) (S' := []) rfl ?_
    by_cases hc12 : r11 = 0
    · have h := if_T h hc12
      refine rz_B.ifF (fun hn => hn ((eq32 hr11 (by decide)).mpr hc12)) ?_
      refine rz_B.go 2 (pc' := 461) (L' := [some (.ref 91), none, some (vI v2), some (vI v3), none, some (vI v5), none, some (vI v7), some (vI v8), some (vI v9), some (vI v10), some (vI v11), some (vI v12), none]) (S' := [vI (-3), .ref 91]) rfl ?_
      obtain ⟨r13, A13, hf13, h⟩ := rz_b_inv h
      obtain ⟨hg13, hr13, hw13⟩ := cx148_far F (d := d + 3) hf13 (by decide) hw11
      refine rz_B.call (d := d + 4) (as := [.ref 91, vI (-3)]) (rest := []) (w := some (vI r13)) rfl hg13 ?_
      cases h
      exact rz_B.ret rfl hr13 hw13
    · have h := if_F h hc12
      refine rz_B.ifT (mt (eq32 hr11 (by decide)).mp hc12) ?_
      refine rz_B.more (rg_le_ok (L := [none, none, none, some (vI v3), none, some (vI v5), none, some (vI v7), some (vI v8), none, some (vI v10), none, none, none]) (by simp [rg_le])) ?_
      exact cx203_gap_465 F _ _ _ _ _ _ _ _ h hv3 hv5 hv7 hv8 hv10 hw11
def x203_gap_368 (F : Nat) : Nat → Int → Int → Int → Int → Int → Int → Int → Int → Int → Int → rz_A → Option (Int × rz_A)
  | 0, _, _, _, _, _, _, _, _, _, _, _ => none
  | n + 1, v2, v3, v5, v7, v8, v9, v10, v11, v12, v13, A =>
    if v13 < (A.1 91 1) then
      rz_b (x161_has F v13 v2 (A.1 91 0) A) fun r2 A2 =>
      if r2 = 0 then
        rz_g32 (v13 + 1) <|
        x203_gap_368 F n v2 v3 v5 v7 v8 v9 v10 v11 v12 (v13 + 1) A2
      else
        rz_g32 (v12 + 1) <|
        rz_g32 (v13 + 1) <|
        x203_gap_368 F n v2 v3 v5 v7 v8 v9 v10 v11 (v12 + 1) (v13 + 1) A2
    else
      x203_gap_400 F v2 v3 v5 v7 v8 v9 v10 v11 v12 A
theorem cx203_gap_368 {d : Nat} (F : Nat) : ∀ (n : Nat) (v2 : Int) (v3 : Int) (v5 : Int) (v7 : Int) (v8 : Int) (v9 : Int) (v10 : Int) (v11 : Int) (v12 : Int) (v13 : Int) (A : rz_A) (r : Int) (A' : rz_A), x203_gap_368 F n v2 v3 v5 v7 v8 v9 v10 v11 v12 v13 A = some (r, A') → r32 v2 → r32 v3 → r32 v5 → r32 v7 → r32 v8 → r32 v9 → r32 v10 → r32 v11 → r32 v12 → r32 v13 → wf A → rz_B (d + 5) 203 368 [some (.ref 91), none, some (vI v2), some (vI v3), none, some (vI v5), none, some (vI v7), some (vI v8), some (vI v9), some (vI v10), some (vI v11), some (vI v12), some (vI v13)] [] A (some (vI r)) A' (r32 r) := by
  intro n
  induction n with
  | zero => intro v2 v3 v5 v7 v8 v9 v10 v11 v12 v13 A r A' h; cases h
  | succ n ih =>
    intro v2 v3 v5 v7 v8 v9 v10 v11 v12 v13 A r A' h hv2 hv3 hv5 hv7 hv8 hv9 hv10 hv11 hv12 hv13 hw
    rw [x203_gap_368] at h
    refine rz_B.go 4 (pc' := if decide (Int32.ofInt (A.1 91 1) ≤ Int32.ofInt v13) = true then 400 else 377) (L' := [some (.ref 91), none, some (vI v2), some (vI v3), none, some (vI v5), none, some (vI v7), some (vI v8), some (vI v9), some (vI v10), some (vI v11), some (vI v12), some (vI v13)]) (S' := []) rfl ?_
    by_cases hc1 : v13 < (A.1 91 1)
    · have h := if_T h hc1
      refine rz_B.ifF (mt (le32 (hw 91 1).1 hv13).mp (Int.not_le.mpr hc1)) ?_
      refine rz_B.go 5 (pc' := 385) (L' := [some (.ref 91), none, some (vI v2), some (vI v3), none, some (vI v5), none, some (vI v7), some (vI v8), some (vI v9), some (vI v10), some (vI v11), some (vI v12), some (vI v13)]) (S' := [vI (A.1 91 0), vI v2, vI v13, .ref 91]) rfl ?_
      obtain ⟨r2, A2, hf2, h⟩ := rz_b_inv h
      obtain ⟨hg2, hr2, hw2⟩ := cx161_has F (d := d + 0) hf2 hv13 hv2 (hw 91 0).1 hw
      refine rz_B.call (d := d + 4) (as := [.ref 91, vI v13, vI v2, vI (A.1 91 0)]) (rest := []) (w := some (vI r2)) rfl hg2 ?_
      refine rz_B.go 1 (pc' := if decide (Int32.ofInt r2 = Int32.ofInt 0) = true then 394 else 391) (L' := [some (.ref 91), none, some (vI v2), some (vI v3), none, some (vI v5), none, some (vI v7), some (vI v8), some (vI v9), some (vI v10), some (vI v11), some (vI v12), some (vI v13)]) (S' := []) rfl ?_
      by_cases hc3 : r2 = 0
      · have h := if_T h hc3
        refine rz_B.ifT ((eq32 hr2 (by decide)).mpr hc3) ?_
        obtain ⟨hk4, h⟩ := rz_g32_inv h
        refine rz_B.iinc rfl (by decide) rfl (L' := [some (.ref 91), none, some (vI v2), some (vI v3), none, some (vI v5), none, some (vI v7), some (vI v8), some (vI v9), some (vI v10), some (vI v11), some (vI v12), some (vI (v13 + 1))]) rfl ?_
        refine rz_B.go 1 (pc' := 368) (L' := [some (.ref 91), none, some (vI v2), some (vI v3), none, some (vI v5), none, some (vI v7), some (vI v8), some (vI v9), some (vI v10), some (vI v11), some (vI v12), some (vI (v13 + 1))]) (S' := []) rfl ?_
        refine rz_B.more (rg_le_ok (L := [some (.ref 91), none, some (vI v2), some (vI v3), none, some (vI v5), none, some (vI v7), some (vI v8), some (vI v9), some (vI v10), some (vI v11), some (vI v12), some (vI (v13 + 1))]) (by simp [rg_le])) ?_
        exact ih _ _ _ _ _ _ _ _ _ _ _ _ _ h hv2 hv3 hv5 hv7 hv8 hv9 hv10 hv11 hv12 hk4 hw2
      · have h := if_F h hc3
        refine rz_B.ifF (mt (eq32 hr2 (by decide)).mp hc3) ?_
        obtain ⟨hk5, h⟩ := rz_g32_inv h
        refine rz_B.iinc rfl (by decide) rfl (L' := [some (.ref 91), none, some (vI v2), some (vI v3), none, some (vI v5), none, some (vI v7), some (vI v8), some (vI v9), some (vI v10), some (vI v11), some (vI (v12 + 1)), some (vI v13)]) rfl ?_
        obtain ⟨hk6, h⟩ := rz_g32_inv h
        refine rz_B.iinc rfl (by decide) rfl (L' := [some (.ref 91), none, some (vI v2), some (vI v3), none, some (vI v5), none, some (vI v7), some (vI v8), some (vI v9), some (vI v10), some (vI v11), some (vI (v12 + 1)), some (vI (v13 + 1))]) rfl ?_
        refine rz_B.go 1 (pc' := 368) (L' := [some (.ref 91), none, some (vI v2), some (vI v3), none, some (vI v5), none, some (vI v7), some (vI v8), some (vI v9), some (vI v10), some (vI v11), some (vI (v12 + 1)), some (vI (v13 + 1))]) (S' := []) rfl ?_
        refine rz_B.more (rg_le_ok (L := [some (.ref 91), none, some (vI v2), some (vI v3), none, some (vI v5), none, some (vI v7), some (vI v8), some (vI v9), some (vI v10), some (vI v11), some (vI (v12 + 1)), some (vI (v13 + 1))]) (by simp [rg_le])) ?_
        exact ih _ _ _ _ _ _ _ _ _ _ _ _ _ h hv2 hv3 hv5 hv7 hv8 hv9 hv10 hv11 hk5 hk6 hw2
    · have h := if_F h hc1
      refine rz_B.ifT ((le32 (hw 91 1).1 hv13).mpr (Int.not_lt.mp hc1)) ?_
      refine rz_B.more (rg_le_ok (L := [some (.ref 91), none, some (vI v2), some (vI v3), none, some (vI v5), none, some (vI v7), some (vI v8), some (vI v9), some (vI v10), some (vI v11), some (vI v12), none]) (by simp [rg_le])) ?_
      exact cx203_gap_400 F _ _ _ _ _ _ _ _ _ _ _ _ h hv2 hv3 hv5 hv7 hv8 hv9 hv10 hv11 hv12 hw
def x203_gap_342 (F : Nat) (v2 : Int) (v3 : Int) (v5 : Int) (v7 : Int) (v8 : Int) (v9 : Int) (v10 : Int) (A : rz_A) : Option (Int × rz_A) :=
  rz_g32 (v2.tdiv 96) <|
  rz_b (x155_inForce F 1 (v2.tdiv 96) (A.1 91 0) A) fun r2 A2 =>
  if 0 ≤ r2 then
    x203_gap_368 F F v2 v3 v5 v7 v8 v9 v10 r2 0 0 A2
  else
    x203_gap_465 F v3 v5 v7 v8 v10 A2
theorem cx203_gap_342 {d : Nat} (F : Nat) : ∀ (v2 : Int) (v3 : Int) (v5 : Int) (v7 : Int) (v8 : Int) (v9 : Int) (v10 : Int) (A : rz_A) (r : Int) (A' : rz_A), x203_gap_342 F v2 v3 v5 v7 v8 v9 v10 A = some (r, A') → r32 v2 → r32 v3 → r32 v5 → r32 v7 → r32 v8 → r32 v9 → r32 v10 → wf A → rz_B (d + 5) 203 342 [some (.ref 91), none, some (vI v2), some (vI v3), none, some (vI v5), none, some (vI v7), some (vI v8), some (vI v9), some (vI v10), none, none, none] [] A (some (vI r)) A' (r32 r) := by
  intro v2 v3 v5 v7 v8 v9 v10 A r A' h hv2 hv3 hv5 hv7 hv8 hv9 hv10 hw
  unfold x203_gap_342 at h
  refine rz_B.go 4 (pc' := 347) (L' := [some (.ref 91), none, some (vI v2), some (vI v3), none, some (vI v5), none, some (vI v7), some (vI v8), some (vI v9), some (vI v10), none, none, none]) (S' := [vI 96, vI v2, vI 1, .ref 91]) rfl ?_
  obtain ⟨hk1, h⟩ := rz_g32_inv h
  refine rz_B.idiv rfl hv2 (by decide) (by decide) ?_
  refine rz_B.go 2 (pc' := 352) (L' := [some (.ref 91), none, some (vI v2), some (vI v3), none, some (vI v5), none, some (vI v7), some (vI v8), some (vI v9), some (vI v10), none, none, none]) (S' := [vI (A.1 91 0), vI (v2.tdiv 96), vI 1, .ref 91]) rfl ?_
  obtain ⟨r2, A2, hf2, h⟩ := rz_b_inv h
  obtain ⟨hg2, hr2, hw2⟩ := cx155_inForce F (d := d + 4) hf2 (by decide) hk1 (hw 91 0).1 hw
  refine rz_B.call (d := d + 4) (as := [.ref 91, vI 1, vI (v2.tdiv 96), vI (A.1 91 0)]) (rest := []) (w := some (vI r2)) rfl hg2 ?_
  refine rz_B.go 3 (pc' := if decide (Int32.ofInt r2 < Int32.ofInt 0) = true then 465 else 362) (L' := [some (.ref 91), none, some (vI v2), some (vI v3), none, some (vI v5), none, some (vI v7), some (vI v8), some (vI v9), some (vI v10), some (vI r2), none, none]) (S' := []) rfl ?_
  by_cases hc3 : 0 ≤ r2
  · have h := if_T h hc3
    refine rz_B.ifF (mt (lt32 hr2 (by decide)).mp (Int.not_lt.mpr hc3)) ?_
    refine rz_B.go 4 (pc' := 368) (L' := [some (.ref 91), none, some (vI v2), some (vI v3), none, some (vI v5), none, some (vI v7), some (vI v8), some (vI v9), some (vI v10), some (vI r2), some (vI 0), some (vI 0)]) (S' := []) rfl ?_
    refine rz_B.more (rg_le_ok (L := [some (.ref 91), none, some (vI v2), some (vI v3), none, some (vI v5), none, some (vI v7), some (vI v8), some (vI v9), some (vI v10), some (vI r2), some (vI 0), some (vI 0)]) (by simp [rg_le])) ?_
    exact cx203_gap_368 F F _ _ _ _ _ _ _ _ _ _ _ _ _ h hv2 hv3 hv5 hv7 hv8 hv9 hv10 hr2 (by decide) (by decide) hw2
  · have h := if_F h hc3
    refine rz_B.ifT ((lt32 hr2 (by decide)).mpr (Int.not_le.mp hc3)) ?_
    refine rz_B.more (rg_le_ok (L := [none, none, none, some (vI v3), none, some (vI v5), none, some (vI v7), some (vI v8), none, some (vI v10), none, none, none]) (by simp [rg_le])) ?_
    exact cx203_gap_465 F _ _ _ _ _ _ _ _ h hv3 hv5 hv7 hv8 hv10 hw2
def x203_gap_181 (F : Nat) (v1 : Int) (v2 : Int) (v3 : Int) (v5 : Int) (v6 : Int) (v7 : Int) (A : rz_A) : Option (Int × rz_A) :=
  if v7 ≤ 9999 then
    rz_g32 (v7 - v5) <|
    if 200 < (v7 - v5) then
      rz_b (x148_far F (-5) A) fun r4 A4 =>
      some (r4, A4)
    else
      rz_b (x204_between F v6 (A.1 91 54) v2 v5 v7 A) fun r5 A5 =>
      rz_gx v1 6 <|
      if 0 ≤ (A5.1 94 (v1).toNat) then
        rz_b (x161_has F (A5.1 94 (v1).toNat) v5 (A5.1 91 0) A5) fun r9 A9 =>
        if r9 = 0 then
          x203_gap_342 F v2 v3 v5 v7 r5 (A5.1 94 (v1).toNat) 0 A9
        else
          rz_b (x161_has F (A5.1 94 (v1).toNat) v7 (A9.1 91 0) A9) fun r11 A11 =>
          if r11 = 0 then
            x203_gap_342 F v2 v3 v5 v7 r5 (A5.1 94 (v1).toNat) 0 A11
          else
            rz_b (x161_has F (A5.1 94 (v1).toNat) v2 (A11.1 91 0) A11) fun r13 A13 =>
            if r13 = 0 then
              x203_gap_342 F v2 v3 v5 v7 r5 (A5.1 94 (v1).toNat) 0 A13
            else
              rz_b (x204_between F (A9.1 91 54) (A11.1 91 54) v2 v5 v7 A13) fun r15 A15 =>
              rz_g32 ((A13.1 91 54) - r15) <|
              rz_g32 (r5 + ((A13.1 91 54) - r15)) <|
              x203_gap_342 F v2 v3 v5 v7 (r5 + ((A13.1 91 54) - r15)) (A5.1 94 (v1).toNat) 1 A15
      else
        x203_gap_342 F v2 v3 v5 v7 r5 (A5.1 94 (v1).toNat) 0 A5
  else
    rz_b (x148_far F (-5) A) fun r18 A18 =>
    some (r18, A18)
theorem cx203_gap_181 {d : Nat} (F : Nat) : ∀ (v1 : Int) (v2 : Int) (v3 : Int) (v5 : Int) (v6 : Int) (v7 : Int) (A : rz_A) (r : Int) (A' : rz_A), x203_gap_181 F v1 v2 v3 v5 v6 v7 A = some (r, A') → r32 v1 → r32 v2 → r32 v3 → r32 v5 → r32 v6 → r32 v7 → wf A → rz_B (d + 5) 203 181 [some (.ref 91), some (vI v1), some (vI v2), some (vI v3), none, some (vI v5), some (vI v6), some (vI v7), none, none, none, none, none, none] [] A (some (vI r)) A' (r32 r) := by
  intro v1 v2 v3 v5 v6 v7 A r A' h hv1 hv2 hv3 hv5 hv6 hv7 hw
  unfold x203_gap_181 at h
  refine rz_B.go 3 (pc' := if decide (Int32.ofInt 9999 < Int32.ofInt v7) = true then 200 else 189) (L' := [some (.ref 91), some (vI v1), some (vI v2), some (vI v3), none, some (vI v5), some (vI v6), some (vI v7), none, none, none, none, none, none]) (S' := []) rfl ?_
  by_cases hc1 : v7 ≤ 9999
  · have h := if_T h hc1
    refine rz_B.ifF (mt (lt32 (by decide) hv7).mp (Int.not_lt.mpr hc1)) ?_
    refine rz_B.go 2 (pc' := 193) (L' := [some (.ref 91), some (vI v1), some (vI v2), some (vI v3), none, some (vI v5), some (vI v6), some (vI v7), none, none, none, none, none, none]) (S' := [vI v5, vI v7]) rfl ?_
    obtain ⟨hk2, h⟩ := rz_g32_inv h
    refine rz_B.isub rfl ?_
    refine rz_B.go 2 (pc' := if decide (Int32.ofInt (v7 - v5) ≤ Int32.ofInt 200) = true then 207 else 200) (L' := [some (.ref 91), some (vI v1), some (vI v2), some (vI v3), none, some (vI v5), some (vI v6), some (vI v7), none, none, none, none, none, none]) (S' := []) rfl ?_
    by_cases hc3 : 200 < (v7 - v5)
    · have h := if_T h hc3
      refine rz_B.ifF (mt (le32 hk2 (by decide)).mp (Int.not_le.mpr hc3)) ?_
      refine rz_B.go 2 (pc' := 203) (L' := [some (.ref 91), some (vI v1), some (vI v2), some (vI v3), none, some (vI v5), some (vI v6), some (vI v7), none, none, none, none, none, none]) (S' := [vI (-5), .ref 91]) rfl ?_
      obtain ⟨r4, A4, hf4, h⟩ := rz_b_inv h
      obtain ⟨hg4, hr4, hw4⟩ := cx148_far F (d := d + 3) hf4 (by decide) hw
      refine rz_B.call (d := d + 4) (as := [.ref 91, vI (-5)]) (rest := []) (w := some (vI r4)) rfl hg4 ?_
      cases h
      exact rz_B.ret rfl hr4 hw4
    · have h := if_F h hc3
      refine rz_B.ifT ((le32 hk2 (by decide)).mpr (Int.not_lt.mp hc3)) ?_
      refine rz_B.go 6 (pc' := 218) (L' := [some (.ref 91), some (vI v1), some (vI v2), some (vI v3), none, some (vI v5), some (vI v6), some (vI v7), none, none, none, none, none, none]) (S' := [vI v7, vI v5, vI v2, vI (A.1 91 54), vI v6]) rfl ?_
      obtain ⟨r5, A5, hf5, h⟩ := rz_b_inv h
      obtain ⟨hg5, hr5, hw5⟩ := cx204_between F (d := d + 4) hf5 hv6 (hw 91 54).1 hv2 hv5 hv7 hw
      refine rz_B.call (d := d + 4) (as := [vI v6, vI (A.1 91 54), vI v2, vI v5, vI v7]) (rest := []) (w := some (vI r5)) rfl hg5 ?_
      refine rz_B.go 4 (pc' := 228) (L' := [some (.ref 91), some (vI v1), some (vI v2), some (vI v3), none, some (vI v5), some (vI v6), some (vI v7), some (vI r5), none, none, none, none, none]) (S' := [vI v1, .ref 94]) rfl ?_
      obtain ⟨hi6, hj7, h⟩ := rz_gx_inv h
      refine rz_B.iald rfl rfl hi6 hj7 (by decide) ?_
      refine rz_B.go 3 (pc' := if decide (Int32.ofInt (A5.1 94 (v1).toNat) < Int32.ofInt 0) = true then 255 else 236) (L' := [some (.ref 91), some (vI v1), some (vI v2), some (vI v3), none, some (vI v5), some (vI v6), some (vI v7), some (vI r5), some (vI (A5.1 94 (v1).toNat)), none, none, none, none]) (S' := []) rfl ?_
      by_cases hc8 : 0 ≤ (A5.1 94 (v1).toNat)
      · have h := if_T h hc8
        refine rz_B.ifF (mt (lt32 (hw5 94 (v1).toNat).1 (by decide)).mp (Int.not_lt.mpr hc8)) ?_
        refine rz_B.go 5 (pc' := 245) (L' := [some (.ref 91), some (vI v1), some (vI v2), some (vI v3), none, some (vI v5), some (vI v6), some (vI v7), some (vI r5), some (vI (A5.1 94 (v1).toNat)), none, none, none, none]) (S' := [vI (A5.1 91 0), vI v5, vI (A5.1 94 (v1).toNat), .ref 91]) rfl ?_
        obtain ⟨r9, A9, hf9, h⟩ := rz_b_inv h
        obtain ⟨hg9, hr9, hw9⟩ := cx161_has F (d := d + 0) hf9 (hw5 94 (v1).toNat).1 hv5 (hw5 91 0).1 hw5
        refine rz_B.call (d := d + 4) (as := [.ref 91, vI (A5.1 94 (v1).toNat), vI v5, vI (A5.1 91 0)]) (rest := []) (w := some (vI r9)) rfl hg9 ?_
        refine rz_B.go 1 (pc' := if decide (Int32.ofInt r9 = Int32.ofInt 0) = true then 255 else 251) (L' := [some (.ref 91), some (vI v1), some (vI v2), some (vI v3), none, some (vI v5), some (vI v6), some (vI v7), some (vI r5), some (vI (A5.1 94 (v1).toNat)), none, none, none, none]) (S' := []) rfl ?_
        by_cases hc10 : r9 = 0
        · have h := if_T h hc10
          refine rz_B.ifT ((eq32 hr9 (by decide)).mpr hc10) ?_
          refine rz_B.go 4 (pc' := 342) (L' := [some (.ref 91), some (vI v1), some (vI v2), some (vI v3), none, some (vI v5), some (vI v6), some (vI v7), some (vI r5), some (vI (A5.1 94 (v1).toNat)), some (vI 0), none, none, none]) (S' := []) rfl ?_
          refine rz_B.more (rg_le_ok (L := [some (.ref 91), none, some (vI v2), some (vI v3), none, some (vI v5), none, some (vI v7), some (vI r5), some (vI (A5.1 94 (v1).toNat)), some (vI 0), none, none, none]) (by simp [rg_le])) ?_
          exact cx203_gap_342 F _ _ _ _ _ _ _ _ _ _ h hv2 hv3 hv5 hv7 hr5 (hw5 94 (v1).toNat).1 (by decide) hw9
        · have h := if_F h hc10
          refine rz_B.ifF (mt (eq32 hr9 (by decide)).mp hc10) ?_
          refine rz_B.go 13 (pc' := 278) (L' := [some (.ref 91), some (vI v1), some (vI v2), some (vI v3), none, some (vI v5), some (vI v6), some (vI v7), some (vI r5), some (vI (A5.1 94 (v1).toNat)), some (vI 1), some (vI (A9.1 91 54)), none, none]) (S' := [vI (A9.1 91 0), vI v7, vI (A5.1 94 (v1).toNat), .ref 91]) rfl ?_
          obtain ⟨r11, A11, hf11, h⟩ := rz_b_inv h
          obtain ⟨hg11, hr11, hw11⟩ := cx161_has F (d := d + 0) hf11 (hw5 94 (v1).toNat).1 hv7 (hw9 91 0).1 hw9
          refine rz_B.call (d := d + 4) (as := [.ref 91, vI (A5.1 94 (v1).toNat), vI v7, vI (A9.1 91 0)]) (rest := []) (w := some (vI r11)) rfl hg11 ?_
          refine rz_B.go 6 (pc' := if decide (Int32.ofInt r11 = Int32.ofInt 0) = true then 312 else 294) (L' := [some (.ref 91), some (vI v1), some (vI v2), some (vI v3), none, some (vI v5), some (vI v6), some (vI v7), some (vI r5), some (vI (A5.1 94 (v1).toNat)), some (vI r11), some (vI (A9.1 91 54)), some (vI (A11.1 91 54)), none]) (S' := []) rfl ?_
          by_cases hc12 : r11 = 0
          · have h := if_T h hc12
            refine rz_B.ifT ((eq32 hr11 (by decide)).mpr hc12) ?_
            refine rz_B.go 4 (pc' := 342) (L' := [some (.ref 91), some (vI v1), some (vI v2), some (vI v3), none, some (vI v5), some (vI v6), some (vI v7), some (vI r5), some (vI (A5.1 94 (v1).toNat)), some (vI 0), some (vI (A9.1 91 54)), some (vI (A11.1 91 54)), none]) (S' := []) rfl ?_
            refine rz_B.more (rg_le_ok (L := [some (.ref 91), none, some (vI v2), some (vI v3), none, some (vI v5), none, some (vI v7), some (vI r5), some (vI (A5.1 94 (v1).toNat)), some (vI 0), none, none, none]) (by simp [rg_le])) ?_
            exact cx203_gap_342 F _ _ _ _ _ _ _ _ _ _ h hv2 hv3 hv5 hv7 hr5 (hw5 94 (v1).toNat).1 (by decide) hw11
          · have h := if_F h hc12
            refine rz_B.ifF (mt (eq32 hr11 (by decide)).mp hc12) ?_
            refine rz_B.go 5 (pc' := 302) (L' := [some (.ref 91), some (vI v1), some (vI v2), some (vI v3), none, some (vI v5), some (vI v6), some (vI v7), some (vI r5), some (vI (A5.1 94 (v1).toNat)), some (vI r11), some (vI (A9.1 91 54)), some (vI (A11.1 91 54)), none]) (S' := [vI (A11.1 91 0), vI v2, vI (A5.1 94 (v1).toNat), .ref 91]) rfl ?_
            obtain ⟨r13, A13, hf13, h⟩ := rz_b_inv h
            obtain ⟨hg13, hr13, hw13⟩ := cx161_has F (d := d + 0) hf13 (hw5 94 (v1).toNat).1 hv2 (hw11 91 0).1 hw11
            refine rz_B.call (d := d + 4) (as := [.ref 91, vI (A5.1 94 (v1).toNat), vI v2, vI (A11.1 91 0)]) (rest := []) (w := some (vI r13)) rfl hg13 ?_
            refine rz_B.go 1 (pc' := if decide (Int32.ofInt r13 = Int32.ofInt 0) = true then 312 else 308) (L' := [some (.ref 91), some (vI v1), some (vI v2), some (vI v3), none, some (vI v5), some (vI v6), some (vI v7), some (vI r5), some (vI (A5.1 94 (v1).toNat)), some (vI r11), some (vI (A9.1 91 54)), some (vI (A11.1 91 54)), none]) (S' := []) rfl ?_
            by_cases hc14 : r13 = 0
            · have h := if_T h hc14
              refine rz_B.ifT ((eq32 hr13 (by decide)).mpr hc14) ?_
              refine rz_B.go 4 (pc' := 342) (L' := [some (.ref 91), some (vI v1), some (vI v2), some (vI v3), none, some (vI v5), some (vI v6), some (vI v7), some (vI r5), some (vI (A5.1 94 (v1).toNat)), some (vI 0), some (vI (A9.1 91 54)), some (vI (A11.1 91 54)), none]) (S' := []) rfl ?_
              refine rz_B.more (rg_le_ok (L := [some (.ref 91), none, some (vI v2), some (vI v3), none, some (vI v5), none, some (vI v7), some (vI r5), some (vI (A5.1 94 (v1).toNat)), some (vI 0), none, none, none]) (by simp [rg_le])) ?_
              exact cx203_gap_342 F _ _ _ _ _ _ _ _ _ _ h hv2 hv3 hv5 hv7 hr5 (hw5 94 (v1).toNat).1 (by decide) hw13
            · have h := if_F h hc14
              refine rz_B.ifF (mt (eq32 hr13 (by decide)).mp hc14) ?_
              refine rz_B.go 13 (pc' := 335) (L' := [some (.ref 91), some (vI v1), some (vI v2), some (vI v3), none, some (vI v5), some (vI v6), some (vI v7), some (vI r5), some (vI (A5.1 94 (v1).toNat)), some (vI 1), some (vI (A9.1 91 54)), some (vI (A11.1 91 54)), none]) (S' := [vI v7, vI v5, vI v2, vI (A11.1 91 54), vI (A9.1 91 54), vI (A13.1 91 54), vI r5]) rfl ?_
              obtain ⟨r15, A15, hf15, h⟩ := rz_b_inv h
              obtain ⟨hg15, hr15, hw15⟩ := cx204_between F (d := d + 4) hf15 (hw9 91 54).1 (hw11 91 54).1 hv2 hv5 hv7 hw13
              refine rz_B.call (d := d + 4) (as := [vI (A9.1 91 54), vI (A11.1 91 54), vI v2, vI v5, vI v7]) (rest := [vI (A13.1 91 54), vI r5]) (w := some (vI r15)) rfl hg15 ?_
              obtain ⟨hk16, h⟩ := rz_g32_inv h
              refine rz_B.isub rfl ?_
              obtain ⟨hk17, h⟩ := rz_g32_inv h
              refine rz_B.iadd rfl ?_
              refine rz_B.go 1 (pc' := 342) (L' := [some (.ref 91), some (vI v1), some (vI v2), some (vI v3), none, some (vI v5), some (vI v6), some (vI v7), some (vI (r5 + ((A13.1 91 54) - r15))), some (vI (A5.1 94 (v1).toNat)), some (vI 1), some (vI (A9.1 91 54)), some (vI (A11.1 91 54)), none]) (S' := []) rfl ?_
              refine rz_B.more (rg_le_ok (L := [some (.ref 91), none, some (vI v2), some (vI v3), none, some (vI v5), none, some (vI v7), some (vI (r5 + ((A13.1 91 54) - r15))), some (vI (A5.1 94 (v1).toNat)), some (vI 1), none, none, none]) (by simp [rg_le])) ?_
              exact cx203_gap_342 F _ _ _ _ _ _ _ _ _ _ h hv2 hv3 hv5 hv7 hk17 (hw5 94 (v1).toNat).1 (by decide) hw15
      · have h := if_F h hc8
        refine rz_B.ifT ((lt32 (hw5 94 (v1).toNat).1 (by decide)).mpr (Int.not_le.mp hc8)) ?_
        refine rz_B.go 4 (pc' := 342) (L' := [some (.ref 91), some (vI v1), some (vI v2), some (vI v3), none, some (vI v5), some (vI v6), some (vI v7), some (vI r5), some (vI (A5.1 94 (v1).toNat)), some (vI 0), none, none, none]) (S' := []) rfl ?_
        refine rz_B.more (rg_le_ok (L := [some (.ref 91), none, some (vI v2), some (vI v3), none, some (vI v5), none, some (vI v7), some (vI r5), some (vI (A5.1 94 (v1).toNat)), some (vI 0), none, none, none]) (by simp [rg_le])) ?_
        exact cx203_gap_342 F _ _ _ _ _ _ _ _ _ _ h hv2 hv3 hv5 hv7 hr5 (hw5 94 (v1).toNat).1 (by decide) hw5
  · have h := if_F h hc1
    refine rz_B.ifT ((lt32 (by decide) hv7).mpr (Int.not_le.mp hc1)) ?_
    refine rz_B.go 2 (pc' := 203) (L' := [some (.ref 91), some (vI v1), some (vI v2), some (vI v3), none, some (vI v5), some (vI v6), some (vI v7), none, none, none, none, none, none]) (S' := [vI (-5), .ref 91]) rfl ?_
    obtain ⟨r18, A18, hf18, h⟩ := rz_b_inv h
    obtain ⟨hg18, hr18, hw18⟩ := cx148_far F (d := d + 3) hf18 (by decide) hw
    refine rz_B.call (d := d + 4) (as := [.ref 91, vI (-5)]) (rest := []) (w := some (vI r18)) rfl hg18 ?_
    cases h
    exact rz_B.ret rfl hr18 hw18
def x203_gap_142 (F : Nat) : Nat → Int → Int → Int → Int → Int → Int → rz_A → Option (Int × rz_A)
  | 0, _, _, _, _, _, _, _ => none
  | n + 1, v1, v2, v3, v5, v6, v7, A =>
    if v7 ≤ 9999 then
      rz_g32 (v7 - v5) <|
      if (v7 - v5) ≤ 200 then
        rz_b (x161_has F v1 v7 (A.1 91 0) A) fun r4 A4 =>
        if r4 = 0 then
          rz_g32 (v7 + 1) <|
          x203_gap_142 F n v1 v2 v3 v5 v6 (v7 + 1) A4
        else
          x203_gap_181 F v1 v2 v3 v5 v6 v7 A4
      else
        x203_gap_181 F v1 v2 v3 v5 v6 v7 A
    else
      x203_gap_181 F v1 v2 v3 v5 v6 v7 A
theorem cx203_gap_142 {d : Nat} (F : Nat) : ∀ (n : Nat) (v1 : Int) (v2 : Int) (v3 : Int) (v5 : Int) (v6 : Int) (v7 : Int) (A : rz_A) (r : Int) (A' : rz_A), x203_gap_142 F n v1 v2 v3 v5 v6 v7 A = some (r, A') → r32 v1 → r32 v2 → r32 v3 → r32 v5 → r32 v6 → r32 v7 → wf A → rz_B (d + 5) 203 142 [some (.ref 91), some (vI v1), some (vI v2), some (vI v3), none, some (vI v5), some (vI v6), some (vI v7), none, none, none, none, none, none] [] A (some (vI r)) A' (r32 r) := by
  intro n
  induction n with
  | zero => intro v1 v2 v3 v5 v6 v7 A r A' h; cases h
  | succ n ih =>
    intro v1 v2 v3 v5 v6 v7 A r A' h hv1 hv2 hv3 hv5 hv6 hv7 hw
    rw [x203_gap_142] at h
    refine rz_B.go 3 (pc' := if decide (Int32.ofInt 9999 < Int32.ofInt v7) = true then 181 else 150) (L' := [some (.ref 91), some (vI v1), some (vI v2), some (vI v3), none, some (vI v5), some (vI v6), some (vI v7), none, none, none, none, none, none]) (S' := []) rfl ?_
    by_cases hc1 : v7 ≤ 9999
    · have h := if_T h hc1
      refine rz_B.ifF (mt (lt32 (by decide) hv7).mp (Int.not_lt.mpr hc1)) ?_
      refine rz_B.go 2 (pc' := 154) (L' := [some (.ref 91), some (vI v1), some (vI v2), some (vI v3), none, some (vI v5), some (vI v6), some (vI v7), none, none, none, none, none, none]) (S' := [vI v5, vI v7]) rfl ?_
      obtain ⟨hk2, h⟩ := rz_g32_inv h
      refine rz_B.isub rfl ?_
      refine rz_B.go 2 (pc' := if decide (Int32.ofInt 200 < Int32.ofInt (v7 - v5)) = true then 181 else 161) (L' := [some (.ref 91), some (vI v1), some (vI v2), some (vI v3), none, some (vI v5), some (vI v6), some (vI v7), none, none, none, none, none, none]) (S' := []) rfl ?_
      by_cases hc3 : (v7 - v5) ≤ 200
      · have h := if_T h hc3
        refine rz_B.ifF (mt (lt32 (by decide) hk2).mp (Int.not_lt.mpr hc3)) ?_
        refine rz_B.go 5 (pc' := 169) (L' := [some (.ref 91), some (vI v1), some (vI v2), some (vI v3), none, some (vI v5), some (vI v6), some (vI v7), none, none, none, none, none, none]) (S' := [vI (A.1 91 0), vI v7, vI v1, .ref 91]) rfl ?_
        obtain ⟨r4, A4, hf4, h⟩ := rz_b_inv h
        obtain ⟨hg4, hr4, hw4⟩ := cx161_has F (d := d + 0) hf4 hv1 hv7 (hw 91 0).1 hw
        refine rz_B.call (d := d + 4) (as := [.ref 91, vI v1, vI v7, vI (A.1 91 0)]) (rest := []) (w := some (vI r4)) rfl hg4 ?_
        refine rz_B.go 1 (pc' := if decide (¬ Int32.ofInt r4 = Int32.ofInt 0) = true then 181 else 175) (L' := [some (.ref 91), some (vI v1), some (vI v2), some (vI v3), none, some (vI v5), some (vI v6), some (vI v7), none, none, none, none, none, none]) (S' := []) rfl ?_
        by_cases hc5 : r4 = 0
        · have h := if_T h hc5
          refine rz_B.ifF (fun hn => hn ((eq32 hr4 (by decide)).mpr hc5)) ?_
          obtain ⟨hk6, h⟩ := rz_g32_inv h
          refine rz_B.iinc rfl (by decide) rfl (L' := [some (.ref 91), some (vI v1), some (vI v2), some (vI v3), none, some (vI v5), some (vI v6), some (vI (v7 + 1)), none, none, none, none, none, none]) rfl ?_
          refine rz_B.go 1 (pc' := 142) (L' := [some (.ref 91), some (vI v1), some (vI v2), some (vI v3), none, some (vI v5), some (vI v6), some (vI (v7 + 1)), none, none, none, none, none, none]) (S' := []) rfl ?_
          refine rz_B.more (rg_le_ok (L := [some (.ref 91), some (vI v1), some (vI v2), some (vI v3), none, some (vI v5), some (vI v6), some (vI (v7 + 1)), none, none, none, none, none, none]) (by simp [rg_le])) ?_
          exact ih _ _ _ _ _ _ _ _ _ h hv1 hv2 hv3 hv5 hv6 hk6 hw4
        · have h := if_F h hc5
          refine rz_B.ifT (mt (eq32 hr4 (by decide)).mp hc5) ?_
          refine rz_B.more (rg_le_ok (L := [some (.ref 91), some (vI v1), some (vI v2), some (vI v3), none, some (vI v5), some (vI v6), some (vI v7), none, none, none, none, none, none]) (by simp [rg_le])) ?_
          exact cx203_gap_181 F _ _ _ _ _ _ _ _ _ h hv1 hv2 hv3 hv5 hv6 hv7 hw4
      · have h := if_F h hc3
        refine rz_B.ifT ((lt32 (by decide) hk2).mpr (Int.not_le.mp hc3)) ?_
        refine rz_B.more (rg_le_ok (L := [some (.ref 91), some (vI v1), some (vI v2), some (vI v3), none, some (vI v5), some (vI v6), some (vI v7), none, none, none, none, none, none]) (by simp [rg_le])) ?_
        exact cx203_gap_181 F _ _ _ _ _ _ _ _ _ h hv1 hv2 hv3 hv5 hv6 hv7 hw
    · have h := if_F h hc1
      refine rz_B.ifT ((lt32 (by decide) hv7).mpr (Int.not_le.mp hc1)) ?_
      refine rz_B.more (rg_le_ok (L := [some (.ref 91), some (vI v1), some (vI v2), some (vI v3), none, some (vI v5), some (vI v6), some (vI v7), none, none, none, none, none, none]) (by simp [rg_le])) ?_
      exact cx203_gap_181 F _ _ _ _ _ _ _ _ _ h hv1 hv2 hv3 hv5 hv6 hv7 hw
def x203_gap_109 (F : Nat) (v1 : Int) (v2 : Int) (v3 : Int) (v5 : Int) (A : rz_A) : Option (Int × rz_A) :=
  if 0 ≤ v5 then
    rz_g32 (v2 - v5) <|
    if 200 ≤ (v2 - v5) then
      rz_b (x148_far F (-5) A) fun r4 A4 =>
      some (r4, A4)
    else
      rz_g32 (v2 + 1) <|
      x203_gap_142 F F v1 v2 v3 v5 (A.1 91 54) (v2 + 1) A
  else
    rz_b (x148_far F (-5) A) fun r6 A6 =>
    some (r6, A6)
theorem cx203_gap_109 {d : Nat} (F : Nat) : ∀ (v1 : Int) (v2 : Int) (v3 : Int) (v5 : Int) (A : rz_A) (r : Int) (A' : rz_A), x203_gap_109 F v1 v2 v3 v5 A = some (r, A') → r32 v1 → r32 v2 → r32 v3 → r32 v5 → wf A → rz_B (d + 5) 203 109 [some (.ref 91), some (vI v1), some (vI v2), some (vI v3), none, some (vI v5), none, none, none, none, none, none, none, none] [] A (some (vI r)) A' (r32 r) := by
  intro v1 v2 v3 v5 A r A' h hv1 hv2 hv3 hv5 hw
  unfold x203_gap_109 at h
  refine rz_B.go 2 (pc' := if decide (Int32.ofInt v5 < Int32.ofInt 0) = true then 124 else 114) (L' := [some (.ref 91), some (vI v1), some (vI v2), some (vI v3), none, some (vI v5), none, none, none, none, none, none, none, none]) (S' := []) rfl ?_
  by_cases hc1 : 0 ≤ v5
  · have h := if_T h hc1
    refine rz_B.ifF (mt (lt32 hv5 (by decide)).mp (Int.not_lt.mpr hc1)) ?_
    refine rz_B.go 2 (pc' := 117) (L' := [some (.ref 91), some (vI v1), some (vI v2), some (vI v3), none, some (vI v5), none, none, none, none, none, none, none, none]) (S' := [vI v5, vI v2]) rfl ?_
    obtain ⟨hk2, h⟩ := rz_g32_inv h
    refine rz_B.isub rfl ?_
    refine rz_B.go 2 (pc' := if decide (Int32.ofInt (v2 - v5) < Int32.ofInt 200) = true then 131 else 124) (L' := [some (.ref 91), some (vI v1), some (vI v2), some (vI v3), none, some (vI v5), none, none, none, none, none, none, none, none]) (S' := []) rfl ?_
    by_cases hc3 : 200 ≤ (v2 - v5)
    · have h := if_T h hc3
      refine rz_B.ifF (mt (lt32 hk2 (by decide)).mp (Int.not_lt.mpr hc3)) ?_
      refine rz_B.go 2 (pc' := 127) (L' := [some (.ref 91), some (vI v1), some (vI v2), some (vI v3), none, some (vI v5), none, none, none, none, none, none, none, none]) (S' := [vI (-5), .ref 91]) rfl ?_
      obtain ⟨r4, A4, hf4, h⟩ := rz_b_inv h
      obtain ⟨hg4, hr4, hw4⟩ := cx148_far F (d := d + 3) hf4 (by decide) hw
      refine rz_B.call (d := d + 4) (as := [.ref 91, vI (-5)]) (rest := []) (w := some (vI r4)) rfl hg4 ?_
      cases h
      exact rz_B.ret rfl hr4 hw4
    · have h := if_F h hc3
      refine rz_B.ifT ((lt32 hk2 (by decide)).mpr (Int.not_le.mp hc3)) ?_
      refine rz_B.go 5 (pc' := 139) (L' := [some (.ref 91), some (vI v1), some (vI v2), some (vI v3), none, some (vI v5), some (vI (A.1 91 54)), none, none, none, none, none, none, none]) (S' := [vI 1, vI v2]) rfl ?_
      obtain ⟨hk5, h⟩ := rz_g32_inv h
      refine rz_B.iadd rfl ?_
      refine rz_B.go 1 (pc' := 142) (L' := [some (.ref 91), some (vI v1), some (vI v2), some (vI v3), none, some (vI v5), some (vI (A.1 91 54)), some (vI (v2 + 1)), none, none, none, none, none, none]) (S' := []) rfl ?_
      refine rz_B.more (rg_le_ok (L := [some (.ref 91), some (vI v1), some (vI v2), some (vI v3), none, some (vI v5), some (vI (A.1 91 54)), some (vI (v2 + 1)), none, none, none, none, none, none]) (by simp [rg_le])) ?_
      exact cx203_gap_142 F F _ _ _ _ _ _ _ _ _ h hv1 hv2 hv3 hv5 (hw 91 54).1 hk5 hw
  · have h := if_F h hc1
    refine rz_B.ifT ((lt32 hv5 (by decide)).mpr (Int.not_le.mp hc1)) ?_
    refine rz_B.go 2 (pc' := 127) (L' := [some (.ref 91), some (vI v1), some (vI v2), some (vI v3), none, some (vI v5), none, none, none, none, none, none, none, none]) (S' := [vI (-5), .ref 91]) rfl ?_
    obtain ⟨r6, A6, hf6, h⟩ := rz_b_inv h
    obtain ⟨hg6, hr6, hw6⟩ := cx148_far F (d := d + 3) hf6 (by decide) hw
    refine rz_B.call (d := d + 4) (as := [.ref 91, vI (-5)]) (rest := []) (w := some (vI r6)) rfl hg6 ?_
    cases h
    exact rz_B.ret rfl hr6 hw6
def x203_gap_74 (F : Nat) : Nat → Int → Int → Int → Int → rz_A → Option (Int × rz_A)
  | 0, _, _, _, _, _ => none
  | n + 1, v1, v2, v3, v5, A =>
    if 0 ≤ v5 then
      rz_g32 (v2 - v5) <|
      if (v2 - v5) < 200 then
        rz_b (x161_has F v1 v5 (A.1 91 0) A) fun r4 A4 =>
        if r4 = 0 then
          rz_g32 (v5 + (-1)) <|
          x203_gap_74 F n v1 v2 v3 (v5 + (-1)) A4
        else
          x203_gap_109 F v1 v2 v3 v5 A4
      else
        x203_gap_109 F v1 v2 v3 v5 A
    else
      x203_gap_109 F v1 v2 v3 v5 A
theorem cx203_gap_74 {d : Nat} (F : Nat) : ∀ (n : Nat) (v1 : Int) (v2 : Int) (v3 : Int) (v5 : Int) (A : rz_A) (r : Int) (A' : rz_A), x203_gap_74 F n v1 v2 v3 v5 A = some (r, A') → r32 v1 → r32 v2 → r32 v3 → r32 v5 → wf A → rz_B (d + 5) 203 74 [some (.ref 91), some (vI v1), some (vI v2), some (vI v3), none, some (vI v5), none, none, none, none, none, none, none, none] [] A (some (vI r)) A' (r32 r) := by
  intro n
  induction n with
  | zero => intro v1 v2 v3 v5 A r A' h; cases h
  | succ n ih =>
    intro v1 v2 v3 v5 A r A' h hv1 hv2 hv3 hv5 hw
    rw [x203_gap_74] at h
    refine rz_B.go 2 (pc' := if decide (Int32.ofInt v5 < Int32.ofInt 0) = true then 109 else 79) (L' := [some (.ref 91), some (vI v1), some (vI v2), some (vI v3), none, some (vI v5), none, none, none, none, none, none, none, none]) (S' := []) rfl ?_
    by_cases hc1 : 0 ≤ v5
    · have h := if_T h hc1
      refine rz_B.ifF (mt (lt32 hv5 (by decide)).mp (Int.not_lt.mpr hc1)) ?_
      refine rz_B.go 2 (pc' := 82) (L' := [some (.ref 91), some (vI v1), some (vI v2), some (vI v3), none, some (vI v5), none, none, none, none, none, none, none, none]) (S' := [vI v5, vI v2]) rfl ?_
      obtain ⟨hk2, h⟩ := rz_g32_inv h
      refine rz_B.isub rfl ?_
      refine rz_B.go 2 (pc' := if decide (Int32.ofInt 200 ≤ Int32.ofInt (v2 - v5)) = true then 109 else 89) (L' := [some (.ref 91), some (vI v1), some (vI v2), some (vI v3), none, some (vI v5), none, none, none, none, none, none, none, none]) (S' := []) rfl ?_
      by_cases hc3 : (v2 - v5) < 200
      · have h := if_T h hc3
        refine rz_B.ifF (mt (le32 (by decide) hk2).mp (Int.not_le.mpr hc3)) ?_
        refine rz_B.go 5 (pc' := 97) (L' := [some (.ref 91), some (vI v1), some (vI v2), some (vI v3), none, some (vI v5), none, none, none, none, none, none, none, none]) (S' := [vI (A.1 91 0), vI v5, vI v1, .ref 91]) rfl ?_
        obtain ⟨r4, A4, hf4, h⟩ := rz_b_inv h
        obtain ⟨hg4, hr4, hw4⟩ := cx161_has F (d := d + 0) hf4 hv1 hv5 (hw 91 0).1 hw
        refine rz_B.call (d := d + 4) (as := [.ref 91, vI v1, vI v5, vI (A.1 91 0)]) (rest := []) (w := some (vI r4)) rfl hg4 ?_
        refine rz_B.go 1 (pc' := if decide (¬ Int32.ofInt r4 = Int32.ofInt 0) = true then 109 else 103) (L' := [some (.ref 91), some (vI v1), some (vI v2), some (vI v3), none, some (vI v5), none, none, none, none, none, none, none, none]) (S' := []) rfl ?_
        by_cases hc5 : r4 = 0
        · have h := if_T h hc5
          refine rz_B.ifF (fun hn => hn ((eq32 hr4 (by decide)).mpr hc5)) ?_
          obtain ⟨hk6, h⟩ := rz_g32_inv h
          refine rz_B.iinc rfl (by decide) rfl (L' := [some (.ref 91), some (vI v1), some (vI v2), some (vI v3), none, some (vI (v5 + (-1))), none, none, none, none, none, none, none, none]) rfl ?_
          refine rz_B.go 1 (pc' := 74) (L' := [some (.ref 91), some (vI v1), some (vI v2), some (vI v3), none, some (vI (v5 + (-1))), none, none, none, none, none, none, none, none]) (S' := []) rfl ?_
          refine rz_B.more (rg_le_ok (L := [some (.ref 91), some (vI v1), some (vI v2), some (vI v3), none, some (vI (v5 + (-1))), none, none, none, none, none, none, none, none]) (by simp [rg_le])) ?_
          exact ih _ _ _ _ _ _ _ h hv1 hv2 hv3 hk6 hw4
        · have h := if_F h hc5
          refine rz_B.ifT (mt (eq32 hr4 (by decide)).mp hc5) ?_
          refine rz_B.more (rg_le_ok (L := [some (.ref 91), some (vI v1), some (vI v2), some (vI v3), none, some (vI v5), none, none, none, none, none, none, none, none]) (by simp [rg_le])) ?_
          exact cx203_gap_109 F _ _ _ _ _ _ _ h hv1 hv2 hv3 hv5 hw4
      · have h := if_F h hc3
        refine rz_B.ifT ((le32 (by decide) hk2).mpr (Int.not_lt.mp hc3)) ?_
        refine rz_B.more (rg_le_ok (L := [some (.ref 91), some (vI v1), some (vI v2), some (vI v3), none, some (vI v5), none, none, none, none, none, none, none, none]) (by simp [rg_le])) ?_
        exact cx203_gap_109 F _ _ _ _ _ _ _ h hv1 hv2 hv3 hv5 hw
    · have h := if_F h hc1
      refine rz_B.ifT ((lt32 hv5 (by decide)).mpr (Int.not_le.mp hc1)) ?_
      refine rz_B.more (rg_le_ok (L := [some (.ref 91), some (vI v1), some (vI v2), some (vI v3), none, some (vI v5), none, none, none, none, none, none, none, none]) (by simp [rg_le])) ?_
      exact cx203_gap_109 F _ _ _ _ _ _ _ h hv1 hv2 hv3 hv5 hw
/-- RiverGaugeModel.gap(III)I -/
def x203_gap (F : Nat) (a0 : Int) (a1 : Int) (a2 : Int) (A : rz_A) : Option (Int × rz_A) :=
  rz_b (x145_isPost F a0 A) fun r1 A1 =>
  if r1 = 0 then
    rz_b (x148_far F (-1) A1) fun r3 A3 =>
    some (r3, A3)
  else
    if 0 ≤ a2 then
      if 3 < a2 then
        rz_b (x148_far F (-2) A1) fun r6 A6 =>
        some (r6, A6)
      else
        rz_b (x147_times F a1 a1 A1) fun r7 A7 =>
        if r7 = 0 then
          rz_b (x161_has F a0 a1 (A7.1 91 0) A7) fun r9 A9 =>
          if r9 = 0 then
            rz_g32 (a1 - 1) <|
            x203_gap_74 F F a0 a1 a2 (a1 - 1) A9
          else
            rz_b (x148_far F (-3) A9) fun r12 A12 =>
            some (r12, A12)
        else
          rz_b (x148_far F r7 A7) fun r13 A13 =>
          some (r13, A13)
    else
      rz_b (x148_far F (-2) A1) fun r14 A14 =>
      some (r14, A14)
theorem cx203_gap (F : Nat) {d : Nat} {a0 : Int} {a1 : Int} {a2 : Int} {A : rz_A} {r : Int} {A' : rz_A} (h : x203_gap F a0 a1 a2 A = some (r, A')) (ha0 : r32 a0) (ha1 : r32 a1) (ha2 : r32 a2) (hw : wf A) : rg_Rn (d + 5) 203 [.ref 91, vI a0, vI a1, vI a2] (toM A) (some (vI r)) (toM A') ∧ (r32 r) ∧ wf A' := by
  show rz_B (d + 5) 203 0 [some (.ref 91), some (vI a0), some (vI a1), some (vI a2), none, none, none, none, none, none, none, none, none, none] [] A (some (vI r)) A' (r32 r)
  unfold x203_gap at h
  refine rz_B.go 2 (pc' := 2) (L' := [some (.ref 91), some (vI a0), some (vI a1), some (vI a2), none, none, none, none, none, none, none, none, none, none]) (S' := [vI a0, .ref 91]) rfl ?_
  obtain ⟨r1, A1, hf1, h⟩ := rz_b_inv h
  obtain ⟨hg1, hr1, hw1⟩ := cx145_isPost F (d := d + 4) hf1 ha0 hw
  refine rz_B.call (d := d + 4) (as := [.ref 91, vI a0]) (rest := []) (w := some (vI r1)) rfl hg1 ?_
  refine rz_B.go 1 (pc' := if decide (¬ Int32.ofInt r1 = Int32.ofInt 0) = true then 14 else 8) (L' := [some (.ref 91), some (vI a0), some (vI a1), some (vI a2), none, none, none, none, none, none, none, none, none, none]) (S' := []) rfl ?_
  by_cases hc2 : r1 = 0
  · have h := if_T h hc2
    refine rz_B.ifF (fun hn => hn ((eq32 hr1 (by decide)).mpr hc2)) ?_
    refine rz_B.go 2 (pc' := 10) (L' := [some (.ref 91), some (vI a0), some (vI a1), some (vI a2), none, none, none, none, none, none, none, none, none, none]) (S' := [vI (-1), .ref 91]) rfl ?_
    obtain ⟨r3, A3, hf3, h⟩ := rz_b_inv h
    obtain ⟨hg3, hr3, hw3⟩ := cx148_far F (d := d + 3) hf3 (by decide) hw1
    refine rz_B.call (d := d + 4) (as := [.ref 91, vI (-1)]) (rest := []) (w := some (vI r3)) rfl hg3 ?_
    cases h
    exact rz_B.ret rfl hr3 hw3
  · have h := if_F h hc2
    refine rz_B.ifT (mt (eq32 hr1 (by decide)).mp hc2) ?_
    refine rz_B.go 2 (pc' := if decide (Int32.ofInt a2 < Int32.ofInt 0) = true then 23 else 18) (L' := [some (.ref 91), some (vI a0), some (vI a1), some (vI a2), none, none, none, none, none, none, none, none, none, none]) (S' := []) rfl ?_
    by_cases hc4 : 0 ≤ a2
    · have h := if_T h hc4
      refine rz_B.ifF (mt (lt32 ha2 (by decide)).mp (Int.not_lt.mpr hc4)) ?_
      refine rz_B.go 3 (pc' := if decide (Int32.ofInt a2 ≤ Int32.ofInt 3) = true then 30 else 23) (L' := [some (.ref 91), some (vI a0), some (vI a1), some (vI a2), none, none, none, none, none, none, none, none, none, none]) (S' := []) rfl ?_
      by_cases hc5 : 3 < a2
      · have h := if_T h hc5
        refine rz_B.ifF (mt (le32 ha2 (by decide)).mp (Int.not_le.mpr hc5)) ?_
        refine rz_B.go 2 (pc' := 26) (L' := [some (.ref 91), some (vI a0), some (vI a1), some (vI a2), none, none, none, none, none, none, none, none, none, none]) (S' := [vI (-2), .ref 91]) rfl ?_
        obtain ⟨r6, A6, hf6, h⟩ := rz_b_inv h
        obtain ⟨hg6, hr6, hw6⟩ := cx148_far F (d := d + 3) hf6 (by decide) hw1
        refine rz_B.call (d := d + 4) (as := [.ref 91, vI (-2)]) (rest := []) (w := some (vI r6)) rfl hg6 ?_
        cases h
        exact rz_B.ret rfl hr6 hw6
      · have h := if_F h hc5
        refine rz_B.ifT ((le32 ha2 (by decide)).mpr (Int.not_lt.mp hc5)) ?_
        refine rz_B.go 2 (pc' := 32) (L' := [some (.ref 91), some (vI a0), some (vI a1), some (vI a2), none, none, none, none, none, none, none, none, none, none]) (S' := [vI a1, vI a1]) rfl ?_
        obtain ⟨r7, A7, hf7, h⟩ := rz_b_inv h
        obtain ⟨hg7, hr7, hw7⟩ := cx147_times F (d := d + 4) hf7 ha1 ha1 hw1
        refine rz_B.call (d := d + 4) (as := [vI a1, vI a1]) (rest := []) (w := some (vI r7)) rfl hg7 ?_
        refine rz_B.go 3 (pc' := if decide (Int32.ofInt r7 = Int32.ofInt 0) = true then 49 else 42) (L' := [some (.ref 91), some (vI a0), some (vI a1), some (vI a2), some (vI r7), none, none, none, none, none, none, none, none, none]) (S' := []) rfl ?_
        by_cases hc8 : r7 = 0
        · have h := if_T h hc8
          refine rz_B.ifT ((eq32 hr7 (by decide)).mpr hc8) ?_
          refine rz_B.go 5 (pc' := 56) (L' := [some (.ref 91), some (vI a0), some (vI a1), some (vI a2), some (vI r7), none, none, none, none, none, none, none, none, none]) (S' := [vI (A7.1 91 0), vI a1, vI a0, .ref 91]) rfl ?_
          obtain ⟨r9, A9, hf9, h⟩ := rz_b_inv h
          obtain ⟨hg9, hr9, hw9⟩ := cx161_has F (d := d + 0) hf9 ha0 ha1 (hw7 91 0).1 hw7
          refine rz_B.call (d := d + 4) (as := [.ref 91, vI a0, vI a1, vI (A7.1 91 0)]) (rest := []) (w := some (vI r9)) rfl hg9 ?_
          refine rz_B.go 1 (pc' := if decide (Int32.ofInt r9 = Int32.ofInt 0) = true then 69 else 62) (L' := [some (.ref 91), some (vI a0), some (vI a1), some (vI a2), some (vI r7), none, none, none, none, none, none, none, none, none]) (S' := []) rfl ?_
          by_cases hc10 : r9 = 0
          · have h := if_T h hc10
            refine rz_B.ifT ((eq32 hr9 (by decide)).mpr hc10) ?_
            refine rz_B.go 2 (pc' := 71) (L' := [some (.ref 91), some (vI a0), some (vI a1), some (vI a2), some (vI r7), none, none, none, none, none, none, none, none, none]) (S' := [vI 1, vI a1]) rfl ?_
            obtain ⟨hk11, h⟩ := rz_g32_inv h
            refine rz_B.isub rfl ?_
            refine rz_B.go 1 (pc' := 74) (L' := [some (.ref 91), some (vI a0), some (vI a1), some (vI a2), some (vI r7), some (vI (a1 - 1)), none, none, none, none, none, none, none, none]) (S' := []) rfl ?_
            refine rz_B.more (rg_le_ok (L := [some (.ref 91), some (vI a0), some (vI a1), some (vI a2), none, some (vI (a1 - 1)), none, none, none, none, none, none, none, none]) (by simp [rg_le])) ?_
            exact cx203_gap_74 F F _ _ _ _ _ _ _ h ha0 ha1 ha2 hk11 hw9
          · have h := if_F h hc10
            refine rz_B.ifF (mt (eq32 hr9 (by decide)).mp hc10) ?_
            refine rz_B.go 2 (pc' := 65) (L' := [some (.ref 91), some (vI a0), some (vI a1), some (vI a2), some (vI r7), none, none, none, none, none, none, none, none, none]) (S' := [vI (-3), .ref 91]) rfl ?_
            obtain ⟨r12, A12, hf12, h⟩ := rz_b_inv h
            obtain ⟨hg12, hr12, hw12⟩ := cx148_far F (d := d + 3) hf12 (by decide) hw9
            refine rz_B.call (d := d + 4) (as := [.ref 91, vI (-3)]) (rest := []) (w := some (vI r12)) rfl hg12 ?_
            cases h
            exact rz_B.ret rfl hr12 hw12
        · have h := if_F h hc8
          refine rz_B.ifF (mt (eq32 hr7 (by decide)).mp hc8) ?_
          refine rz_B.go 2 (pc' := 45) (L' := [some (.ref 91), some (vI a0), some (vI a1), some (vI a2), some (vI r7), none, none, none, none, none, none, none, none, none]) (S' := [vI r7, .ref 91]) rfl ?_
          obtain ⟨r13, A13, hf13, h⟩ := rz_b_inv h
          obtain ⟨hg13, hr13, hw13⟩ := cx148_far F (d := d + 3) hf13 hr7 hw7
          refine rz_B.call (d := d + 4) (as := [.ref 91, vI r7]) (rest := []) (w := some (vI r13)) rfl hg13 ?_
          cases h
          exact rz_B.ret rfl hr13 hw13
    · have h := if_F h hc4
      refine rz_B.ifT ((lt32 ha2 (by decide)).mpr (Int.not_le.mp hc4)) ?_
      refine rz_B.go 2 (pc' := 26) (L' := [some (.ref 91), some (vI a0), some (vI a1), some (vI a2), none, none, none, none, none, none, none, none, none, none]) (S' := [vI (-2), .ref 91]) rfl ?_
      obtain ⟨r14, A14, hf14, h⟩ := rz_b_inv h
      obtain ⟨hg14, hr14, hw14⟩ := cx148_far F (d := d + 3) hf14 (by decide) hw1
      refine rz_B.call (d := d + 4) (as := [.ref 91, vI (-2)]) (rest := []) (w := some (vI r14)) rfl hg14 ?_
      cases h
      exact rz_B.ret rfl hr14 hw14
def x205_peak_150 (F : Nat) (v5 : Int) (A : rz_A) : Option (Int × rz_A) :=
  if v5 < 0 then
    rz_b (x142_no F (-5) A) fun r2 A2 =>
    some (r2, A2)
  else
    some (v5, A)
theorem cx205_peak_150 {d : Nat} (F : Nat) : ∀ (v5 : Int) (A : rz_A) (r : Int) (A' : rz_A), x205_peak_150 F v5 A = some (r, A') → r32 v5 → wf A → rz_B (d + 9) 205 150 [some (.ref 91), none, none, none, none, some (vI v5), none] [] A (some (vI r)) A' (r32 r) := by
  intro v5 A r A' h hv5 hw
  unfold x205_peak_150 at h
  refine rz_B.go 2 (pc' := if decide (Int32.ofInt 0 ≤ Int32.ofInt v5) = true then 164 else 155) (L' := [some (.ref 91), none, none, none, none, some (vI v5), none]) (S' := []) rfl ?_
  by_cases hc1 : v5 < 0
  · have h := if_T h hc1
    refine rz_B.ifF (mt (le32 (by decide) hv5).mp (Int.not_le.mpr hc1)) ?_
    refine rz_B.go 2 (pc' := 158) (L' := [some (.ref 91), none, none, none, none, some (vI v5), none]) (S' := [vI (-5), .ref 91]) rfl ?_
    obtain ⟨r2, A2, hf2, h⟩ := rz_b_inv h
    obtain ⟨hg2, hr2, hw2⟩ := cx142_no F (d := d + 8) hf2 (by decide) hw
    refine rz_B.call (d := d + 8) (as := [.ref 91, vI (-5)]) (rest := []) (w := some (vI r2)) rfl hg2 ?_
    refine rz_B.go 1 (pc' := 166) (L' := [some (.ref 91), none, none, none, none, some (vI v5), none]) (S' := [vI r2]) rfl ?_
    cases h
    exact rz_B.ret rfl hr2 hw2
  · have h := if_F h hc1
    refine rz_B.ifT ((le32 (by decide) hv5).mpr (Int.not_lt.mp hc1)) ?_
    refine rz_B.go 1 (pc' := 166) (L' := [some (.ref 91), none, none, none, none, some (vI v5), none]) (S' := [vI v5]) rfl ?_
    cases h
    exact rz_B.ret rfl hv5 hw
def x205_peak_70 (F : Nat) : Nat → Int → Int → Int → Int → Int → Int → rz_A → Option (Int × rz_A)
  | 0, _, _, _, _, _, _, _ => none
  | n + 1, v1, v2, v3, v4, v5, v6, A =>
    if v6 < (A.1 91 3) then
      rz_gx v6 300 <|
      if (A.1 104 (v6).toNat) = v1 then
        if v2 ≤ (A.1 105 (v6).toNat) then
          if (A.1 105 (v6).toNat) ≤ v3 then
            rz_b (x188_flows F v1 (A.1 105 (v6).toNat) v4 A) fun r7 A7 =>
            if r7 = 0 then
              rz_g32 (v6 + 1) <|
              x205_peak_70 F n v1 v2 v3 v4 v5 (v6 + 1) A7
            else
              if v5 < (A7.1 91 78) then
                rz_g32 (v6 + 1) <|
                x205_peak_70 F n v1 v2 v3 v4 (A7.1 91 78) (v6 + 1) A7
              else
                rz_g32 (v6 + 1) <|
                x205_peak_70 F n v1 v2 v3 v4 v5 (v6 + 1) A7
          else
            rz_g32 (v6 + 1) <|
            x205_peak_70 F n v1 v2 v3 v4 v5 (v6 + 1) A
        else
          rz_g32 (v6 + 1) <|
          x205_peak_70 F n v1 v2 v3 v4 v5 (v6 + 1) A
      else
        rz_g32 (v6 + 1) <|
        x205_peak_70 F n v1 v2 v3 v4 v5 (v6 + 1) A
    else
      x205_peak_150 F v5 A
theorem cx205_peak_70 {d : Nat} (F : Nat) : ∀ (n : Nat) (v1 : Int) (v2 : Int) (v3 : Int) (v4 : Int) (v5 : Int) (v6 : Int) (A : rz_A) (r : Int) (A' : rz_A), x205_peak_70 F n v1 v2 v3 v4 v5 v6 A = some (r, A') → r32 v1 → r32 v2 → r32 v3 → r32 v4 → r32 v5 → r32 v6 → wf A → rz_B (d + 9) 205 70 [some (.ref 91), some (vI v1), some (vI v2), some (vI v3), some (vI v4), some (vI v5), some (vI v6)] [] A (some (vI r)) A' (r32 r) := by
  intro n
  induction n with
  | zero => intro v1 v2 v3 v4 v5 v6 A r A' h; cases h
  | succ n ih =>
    intro v1 v2 v3 v4 v5 v6 A r A' h hv1 hv2 hv3 hv4 hv5 hv6 hw
    rw [x205_peak_70] at h
    refine rz_B.go 4 (pc' := if decide (Int32.ofInt (A.1 91 3) ≤ Int32.ofInt v6) = true then 150 else 79) (L' := [some (.ref 91), some (vI v1), some (vI v2), some (vI v3), some (vI v4), some (vI v5), some (vI v6)]) (S' := []) rfl ?_
    by_cases hc1 : v6 < (A.1 91 3)
    · have h := if_T h hc1
      refine rz_B.ifF (mt (le32 (hw 91 3).1 hv6).mp (Int.not_le.mpr hc1)) ?_
      refine rz_B.go 3 (pc' := 85) (L' := [some (.ref 91), some (vI v1), some (vI v2), some (vI v3), some (vI v4), some (vI v5), some (vI v6)]) (S' := [vI v6, .ref 104]) rfl ?_
      obtain ⟨hi2, hj3, h⟩ := rz_gx_inv h
      refine rz_B.iald rfl rfl hi2 hj3 (by decide) ?_
      refine rz_B.go 2 (pc' := if decide (¬ Int32.ofInt (A.1 104 (v6).toNat) = Int32.ofInt v1) = true then 144 else 90) (L' := [some (.ref 91), some (vI v1), some (vI v2), some (vI v3), some (vI v4), some (vI v5), some (vI v6)]) (S' := []) rfl ?_
      by_cases hc4 : (A.1 104 (v6).toNat) = v1
      · have h := if_T h hc4
        refine rz_B.ifF (fun hn => hn ((eq32 (hw 104 (v6).toNat).1 hv1).mpr hc4)) ?_
        refine rz_B.go 3 (pc' := 96) (L' := [some (.ref 91), some (vI v1), some (vI v2), some (vI v3), some (vI v4), some (vI v5), some (vI v6)]) (S' := [vI v6, .ref 105]) rfl ?_
        refine rz_B.iald rfl rfl hi2 hj3 (by decide) ?_
        refine rz_B.go 2 (pc' := if decide (Int32.ofInt (A.1 105 (v6).toNat) < Int32.ofInt v2) = true then 144 else 101) (L' := [some (.ref 91), some (vI v1), some (vI v2), some (vI v3), some (vI v4), some (vI v5), some (vI v6)]) (S' := []) rfl ?_
        by_cases hc5 : v2 ≤ (A.1 105 (v6).toNat)
        · have h := if_T h hc5
          refine rz_B.ifF (mt (lt32 (hw 105 (v6).toNat).1 hv2).mp (Int.not_lt.mpr hc5)) ?_
          refine rz_B.go 3 (pc' := 107) (L' := [some (.ref 91), some (vI v1), some (vI v2), some (vI v3), some (vI v4), some (vI v5), some (vI v6)]) (S' := [vI v6, .ref 105]) rfl ?_
          refine rz_B.iald rfl rfl hi2 hj3 (by decide) ?_
          refine rz_B.go 2 (pc' := if decide (Int32.ofInt v3 < Int32.ofInt (A.1 105 (v6).toNat)) = true then 144 else 112) (L' := [some (.ref 91), some (vI v1), some (vI v2), some (vI v3), some (vI v4), some (vI v5), some (vI v6)]) (S' := []) rfl ?_
          by_cases hc6 : (A.1 105 (v6).toNat) ≤ v3
          · have h := if_T h hc6
            refine rz_B.ifF (mt (lt32 hv3 (hw 105 (v6).toNat).1).mp (Int.not_lt.mpr hc6)) ?_
            refine rz_B.go 5 (pc' := 120) (L' := [some (.ref 91), some (vI v1), some (vI v2), some (vI v3), some (vI v4), some (vI v5), some (vI v6)]) (S' := [vI v6, .ref 105, vI v1, .ref 91]) rfl ?_
            refine rz_B.iald rfl rfl hi2 hj3 (by decide) ?_
            refine rz_B.go 1 (pc' := 123) (L' := [some (.ref 91), some (vI v1), some (vI v2), some (vI v3), some (vI v4), some (vI v5), some (vI v6)]) (S' := [vI v4, vI (A.1 105 (v6).toNat), vI v1, .ref 91]) rfl ?_
            obtain ⟨r7, A7, hf7, h⟩ := rz_b_inv h
            obtain ⟨hg7, hr7, hw7⟩ := cx188_flows F (d := d + 0) hf7 hv1 (hw 105 (v6).toNat).1 hv4 hw
            refine rz_B.call (d := d + 8) (as := [.ref 91, vI v1, vI (A.1 105 (v6).toNat), vI v4]) (rest := []) (w := some (vI r7)) rfl hg7 ?_
            refine rz_B.go 1 (pc' := if decide (Int32.ofInt r7 = Int32.ofInt 0) = true then 144 else 129) (L' := [some (.ref 91), some (vI v1), some (vI v2), some (vI v3), some (vI v4), some (vI v5), some (vI v6)]) (S' := []) rfl ?_
            by_cases hc8 : r7 = 0
            · have h := if_T h hc8
              refine rz_B.ifT ((eq32 hr7 (by decide)).mpr hc8) ?_
              obtain ⟨hk9, h⟩ := rz_g32_inv h
              refine rz_B.iinc rfl (by decide) rfl (L' := [some (.ref 91), some (vI v1), some (vI v2), some (vI v3), some (vI v4), some (vI v5), some (vI (v6 + 1))]) rfl ?_
              refine rz_B.go 1 (pc' := 70) (L' := [some (.ref 91), some (vI v1), some (vI v2), some (vI v3), some (vI v4), some (vI v5), some (vI (v6 + 1))]) (S' := []) rfl ?_
              refine rz_B.more (rg_le_ok (L := [some (.ref 91), some (vI v1), some (vI v2), some (vI v3), some (vI v4), some (vI v5), some (vI (v6 + 1))]) (by simp [rg_le])) ?_
              exact ih _ _ _ _ _ _ _ _ _ h hv1 hv2 hv3 hv4 hv5 hk9 hw7
            · have h := if_F h hc8
              refine rz_B.ifF (mt (eq32 hr7 (by decide)).mp hc8) ?_
              refine rz_B.go 4 (pc' := if decide (Int32.ofInt (A7.1 91 78) ≤ Int32.ofInt v5) = true then 144 else 138) (L' := [some (.ref 91), some (vI v1), some (vI v2), some (vI v3), some (vI v4), some (vI v5), some (vI v6)]) (S' := []) rfl ?_
              by_cases hc10 : v5 < (A7.1 91 78)
              · have h := if_T h hc10
                refine rz_B.ifF (mt (le32 (hw7 91 78).1 hv5).mp (Int.not_le.mpr hc10)) ?_
                refine rz_B.go 3 (pc' := 144) (L' := [some (.ref 91), some (vI v1), some (vI v2), some (vI v3), some (vI v4), some (vI (A7.1 91 78)), some (vI v6)]) (S' := []) rfl ?_
                obtain ⟨hk11, h⟩ := rz_g32_inv h
                refine rz_B.iinc rfl (by decide) rfl (L' := [some (.ref 91), some (vI v1), some (vI v2), some (vI v3), some (vI v4), some (vI (A7.1 91 78)), some (vI (v6 + 1))]) rfl ?_
                refine rz_B.go 1 (pc' := 70) (L' := [some (.ref 91), some (vI v1), some (vI v2), some (vI v3), some (vI v4), some (vI (A7.1 91 78)), some (vI (v6 + 1))]) (S' := []) rfl ?_
                refine rz_B.more (rg_le_ok (L := [some (.ref 91), some (vI v1), some (vI v2), some (vI v3), some (vI v4), some (vI (A7.1 91 78)), some (vI (v6 + 1))]) (by simp [rg_le])) ?_
                exact ih _ _ _ _ _ _ _ _ _ h hv1 hv2 hv3 hv4 (hw7 91 78).1 hk11 hw7
              · have h := if_F h hc10
                refine rz_B.ifT ((le32 (hw7 91 78).1 hv5).mpr (Int.not_lt.mp hc10)) ?_
                obtain ⟨hk12, h⟩ := rz_g32_inv h
                refine rz_B.iinc rfl (by decide) rfl (L' := [some (.ref 91), some (vI v1), some (vI v2), some (vI v3), some (vI v4), some (vI v5), some (vI (v6 + 1))]) rfl ?_
                refine rz_B.go 1 (pc' := 70) (L' := [some (.ref 91), some (vI v1), some (vI v2), some (vI v3), some (vI v4), some (vI v5), some (vI (v6 + 1))]) (S' := []) rfl ?_
                refine rz_B.more (rg_le_ok (L := [some (.ref 91), some (vI v1), some (vI v2), some (vI v3), some (vI v4), some (vI v5), some (vI (v6 + 1))]) (by simp [rg_le])) ?_
                exact ih _ _ _ _ _ _ _ _ _ h hv1 hv2 hv3 hv4 hv5 hk12 hw7
          · have h := if_F h hc6
            refine rz_B.ifT ((lt32 hv3 (hw 105 (v6).toNat).1).mpr (Int.not_le.mp hc6)) ?_
            obtain ⟨hk13, h⟩ := rz_g32_inv h
            refine rz_B.iinc rfl (by decide) rfl (L' := [some (.ref 91), some (vI v1), some (vI v2), some (vI v3), some (vI v4), some (vI v5), some (vI (v6 + 1))]) rfl ?_
            refine rz_B.go 1 (pc' := 70) (L' := [some (.ref 91), some (vI v1), some (vI v2), some (vI v3), some (vI v4), some (vI v5), some (vI (v6 + 1))]) (S' := []) rfl ?_
            refine rz_B.more (rg_le_ok (L := [some (.ref 91), some (vI v1), some (vI v2), some (vI v3), some (vI v4), some (vI v5), some (vI (v6 + 1))]) (by simp [rg_le])) ?_
            exact ih _ _ _ _ _ _ _ _ _ h hv1 hv2 hv3 hv4 hv5 hk13 hw
        · have h := if_F h hc5
          refine rz_B.ifT ((lt32 (hw 105 (v6).toNat).1 hv2).mpr (Int.not_le.mp hc5)) ?_
          obtain ⟨hk14, h⟩ := rz_g32_inv h
          refine rz_B.iinc rfl (by decide) rfl (L' := [some (.ref 91), some (vI v1), some (vI v2), some (vI v3), some (vI v4), some (vI v5), some (vI (v6 + 1))]) rfl ?_
          refine rz_B.go 1 (pc' := 70) (L' := [some (.ref 91), some (vI v1), some (vI v2), some (vI v3), some (vI v4), some (vI v5), some (vI (v6 + 1))]) (S' := []) rfl ?_
          refine rz_B.more (rg_le_ok (L := [some (.ref 91), some (vI v1), some (vI v2), some (vI v3), some (vI v4), some (vI v5), some (vI (v6 + 1))]) (by simp [rg_le])) ?_
          exact ih _ _ _ _ _ _ _ _ _ h hv1 hv2 hv3 hv4 hv5 hk14 hw
      · have h := if_F h hc4
        refine rz_B.ifT (mt (eq32 (hw 104 (v6).toNat).1 hv1).mp hc4) ?_
        obtain ⟨hk15, h⟩ := rz_g32_inv h
        refine rz_B.iinc rfl (by decide) rfl (L' := [some (.ref 91), some (vI v1), some (vI v2), some (vI v3), some (vI v4), some (vI v5), some (vI (v6 + 1))]) rfl ?_
        refine rz_B.go 1 (pc' := 70) (L' := [some (.ref 91), some (vI v1), some (vI v2), some (vI v3), some (vI v4), some (vI v5), some (vI (v6 + 1))]) (S' := []) rfl ?_
        refine rz_B.more (rg_le_ok (L := [some (.ref 91), some (vI v1), some (vI v2), some (vI v3), some (vI v4), some (vI v5), some (vI (v6 + 1))]) (by simp [rg_le])) ?_
        exact ih _ _ _ _ _ _ _ _ _ h hv1 hv2 hv3 hv4 hv5 hk15 hw
    · have h := if_F h hc1
      refine rz_B.ifT ((le32 (hw 91 3).1 hv6).mpr (Int.not_lt.mp hc1)) ?_
      refine rz_B.more (rg_le_ok (L := [some (.ref 91), none, none, none, none, some (vI v5), none]) (by simp [rg_le])) ?_
      exact cx205_peak_150 F _ _ _ _ h hv5 hw
/-- RiverGaugeModel.peak(IIII)I -/
def x205_peak (F : Nat) (a0 : Int) (a1 : Int) (a2 : Int) (a3 : Int) (A : rz_A) : Option (Int × rz_A) :=
  rz_b (x145_isPost F a0 A) fun r1 A1 =>
  if r1 = 0 then
    rz_b (x142_no F (-1) A1) fun r3 A3 =>
    some (r3, A3)
  else
    if 0 ≤ a1 then
      if 0 ≤ a3 then
        if a2 < a1 then
          rz_b (x142_no F (-4) A1) fun r7 A7 =>
          some (r7, A7)
        else
          if a1 ≤ 9999 then
            if a2 ≤ 9999 then
              if 9999 < a3 then
                rz_b (x142_no F (-6) A1) fun r11 A11 =>
                some (r11, A11)
              else
                x205_peak_70 F F a0 a1 a2 a3 (-1) 0 A1
            else
              rz_b (x142_no F (-6) A1) fun r12 A12 =>
              some (r12, A12)
          else
            rz_b (x142_no F (-6) A1) fun r13 A13 =>
            some (r13, A13)
      else
        rz_b (x142_no F (-4) A1) fun r14 A14 =>
        some (r14, A14)
    else
      rz_b (x142_no F (-4) A1) fun r15 A15 =>
      some (r15, A15)
theorem cx205_peak (F : Nat) {d : Nat} {a0 : Int} {a1 : Int} {a2 : Int} {a3 : Int} {A : rz_A} {r : Int} {A' : rz_A} (h : x205_peak F a0 a1 a2 a3 A = some (r, A')) (ha0 : r32 a0) (ha1 : r32 a1) (ha2 : r32 a2) (ha3 : r32 a3) (hw : wf A) : rg_Rn (d + 9) 205 [.ref 91, vI a0, vI a1, vI a2, vI a3] (toM A) (some (vI r)) (toM A') ∧ (r32 r) ∧ wf A' := by
  show rz_B (d + 9) 205 0 [some (.ref 91), some (vI a0), some (vI a1), some (vI a2), some (vI a3), none, none] [] A (some (vI r)) A' (r32 r)
  unfold x205_peak at h
  refine rz_B.go 2 (pc' := 2) (L' := [some (.ref 91), some (vI a0), some (vI a1), some (vI a2), some (vI a3), none, none]) (S' := [vI a0, .ref 91]) rfl ?_
  obtain ⟨r1, A1, hf1, h⟩ := rz_b_inv h
  obtain ⟨hg1, hr1, hw1⟩ := cx145_isPost F (d := d + 8) hf1 ha0 hw
  refine rz_B.call (d := d + 8) (as := [.ref 91, vI a0]) (rest := []) (w := some (vI r1)) rfl hg1 ?_
  refine rz_B.go 1 (pc' := if decide (¬ Int32.ofInt r1 = Int32.ofInt 0) = true then 14 else 8) (L' := [some (.ref 91), some (vI a0), some (vI a1), some (vI a2), some (vI a3), none, none]) (S' := []) rfl ?_
  by_cases hc2 : r1 = 0
  · have h := if_T h hc2
    refine rz_B.ifF (fun hn => hn ((eq32 hr1 (by decide)).mpr hc2)) ?_
    refine rz_B.go 2 (pc' := 10) (L' := [some (.ref 91), some (vI a0), some (vI a1), some (vI a2), some (vI a3), none, none]) (S' := [vI (-1), .ref 91]) rfl ?_
    obtain ⟨r3, A3, hf3, h⟩ := rz_b_inv h
    obtain ⟨hg3, hr3, hw3⟩ := cx142_no F (d := d + 8) hf3 (by decide) hw1
    refine rz_B.call (d := d + 8) (as := [.ref 91, vI (-1)]) (rest := []) (w := some (vI r3)) rfl hg3 ?_
    cases h
    exact rz_B.ret rfl hr3 hw3
  · have h := if_F h hc2
    refine rz_B.ifT (mt (eq32 hr1 (by decide)).mp hc2) ?_
    refine rz_B.go 2 (pc' := if decide (Int32.ofInt a1 < Int32.ofInt 0) = true then 28 else 18) (L' := [some (.ref 91), some (vI a0), some (vI a1), some (vI a2), some (vI a3), none, none]) (S' := []) rfl ?_
    by_cases hc4 : 0 ≤ a1
    · have h := if_T h hc4
      refine rz_B.ifF (mt (lt32 ha1 (by decide)).mp (Int.not_lt.mpr hc4)) ?_
      refine rz_B.go 2 (pc' := if decide (Int32.ofInt a3 < Int32.ofInt 0) = true then 28 else 23) (L' := [some (.ref 91), some (vI a0), some (vI a1), some (vI a2), some (vI a3), none, none]) (S' := []) rfl ?_
      by_cases hc5 : 0 ≤ a3
      · have h := if_T h hc5
        refine rz_B.ifF (mt (lt32 ha3 (by decide)).mp (Int.not_lt.mpr hc5)) ?_
        refine rz_B.go 3 (pc' := if decide (Int32.ofInt a1 ≤ Int32.ofInt a2) = true then 35 else 28) (L' := [some (.ref 91), some (vI a0), some (vI a1), some (vI a2), some (vI a3), none, none]) (S' := []) rfl ?_
        by_cases hc6 : a2 < a1
        · have h := if_T h hc6
          refine rz_B.ifF (mt (le32 ha1 ha2).mp (Int.not_le.mpr hc6)) ?_
          refine rz_B.go 2 (pc' := 31) (L' := [some (.ref 91), some (vI a0), some (vI a1), some (vI a2), some (vI a3), none, none]) (S' := [vI (-4), .ref 91]) rfl ?_
          obtain ⟨r7, A7, hf7, h⟩ := rz_b_inv h
          obtain ⟨hg7, hr7, hw7⟩ := cx142_no F (d := d + 8) hf7 (by decide) hw1
          refine rz_B.call (d := d + 8) (as := [.ref 91, vI (-4)]) (rest := []) (w := some (vI r7)) rfl hg7 ?_
          cases h
          exact rz_B.ret rfl hr7 hw7
        · have h := if_F h hc6
          refine rz_B.ifT ((le32 ha1 ha2).mpr (Int.not_lt.mp hc6)) ?_
          refine rz_B.go 3 (pc' := if decide (Int32.ofInt 9999 < Int32.ofInt a1) = true then 57 else 42) (L' := [some (.ref 91), some (vI a0), some (vI a1), some (vI a2), some (vI a3), none, none]) (S' := []) rfl ?_
          by_cases hc8 : a1 ≤ 9999
          · have h := if_T h hc8
            refine rz_B.ifF (mt (lt32 (by decide) ha1).mp (Int.not_lt.mpr hc8)) ?_
            refine rz_B.go 3 (pc' := if decide (Int32.ofInt 9999 < Int32.ofInt a2) = true then 57 else 49) (L' := [some (.ref 91), some (vI a0), some (vI a1), some (vI a2), some (vI a3), none, none]) (S' := []) rfl ?_
            by_cases hc9 : a2 ≤ 9999
            · have h := if_T h hc9
              refine rz_B.ifF (mt (lt32 (by decide) ha2).mp (Int.not_lt.mpr hc9)) ?_
              refine rz_B.go 3 (pc' := if decide (Int32.ofInt a3 ≤ Int32.ofInt 9999) = true then 64 else 57) (L' := [some (.ref 91), some (vI a0), some (vI a1), some (vI a2), some (vI a3), none, none]) (S' := []) rfl ?_
              by_cases hc10 : 9999 < a3
              · have h := if_T h hc10
                refine rz_B.ifF (mt (le32 ha3 (by decide)).mp (Int.not_le.mpr hc10)) ?_
                refine rz_B.go 2 (pc' := 60) (L' := [some (.ref 91), some (vI a0), some (vI a1), some (vI a2), some (vI a3), none, none]) (S' := [vI (-6), .ref 91]) rfl ?_
                obtain ⟨r11, A11, hf11, h⟩ := rz_b_inv h
                obtain ⟨hg11, hr11, hw11⟩ := cx142_no F (d := d + 8) hf11 (by decide) hw1
                refine rz_B.call (d := d + 8) (as := [.ref 91, vI (-6)]) (rest := []) (w := some (vI r11)) rfl hg11 ?_
                cases h
                exact rz_B.ret rfl hr11 hw11
              · have h := if_F h hc10
                refine rz_B.ifT ((le32 ha3 (by decide)).mpr (Int.not_lt.mp hc10)) ?_
                refine rz_B.go 4 (pc' := 70) (L' := [some (.ref 91), some (vI a0), some (vI a1), some (vI a2), some (vI a3), some (vI (-1)), some (vI 0)]) (S' := []) rfl ?_
                refine rz_B.more (rg_le_ok (L := [some (.ref 91), some (vI a0), some (vI a1), some (vI a2), some (vI a3), some (vI (-1)), some (vI 0)]) (by simp [rg_le])) ?_
                exact cx205_peak_70 F F _ _ _ _ _ _ _ _ _ h ha0 ha1 ha2 ha3 (by decide) (by decide) hw1
            · have h := if_F h hc9
              refine rz_B.ifT ((lt32 (by decide) ha2).mpr (Int.not_le.mp hc9)) ?_
              refine rz_B.go 2 (pc' := 60) (L' := [some (.ref 91), some (vI a0), some (vI a1), some (vI a2), some (vI a3), none, none]) (S' := [vI (-6), .ref 91]) rfl ?_
              obtain ⟨r12, A12, hf12, h⟩ := rz_b_inv h
              obtain ⟨hg12, hr12, hw12⟩ := cx142_no F (d := d + 8) hf12 (by decide) hw1
              refine rz_B.call (d := d + 8) (as := [.ref 91, vI (-6)]) (rest := []) (w := some (vI r12)) rfl hg12 ?_
              cases h
              exact rz_B.ret rfl hr12 hw12
          · have h := if_F h hc8
            refine rz_B.ifT ((lt32 (by decide) ha1).mpr (Int.not_le.mp hc8)) ?_
            refine rz_B.go 2 (pc' := 60) (L' := [some (.ref 91), some (vI a0), some (vI a1), some (vI a2), some (vI a3), none, none]) (S' := [vI (-6), .ref 91]) rfl ?_
            obtain ⟨r13, A13, hf13, h⟩ := rz_b_inv h
            obtain ⟨hg13, hr13, hw13⟩ := cx142_no F (d := d + 8) hf13 (by decide) hw1
            refine rz_B.call (d := d + 8) (as := [.ref 91, vI (-6)]) (rest := []) (w := some (vI r13)) rfl hg13 ?_
            cases h
            exact rz_B.ret rfl hr13 hw13
      · have h := if_F h hc5
        refine rz_B.ifT ((lt32 ha3 (by decide)).mpr (Int.not_le.mp hc5)) ?_
        refine rz_B.go 2 (pc' := 31) (L' := [some (.ref 91), some (vI a0), some (vI a1), some (vI a2), some (vI a3), none, none]) (S' := [vI (-4), .ref 91]) rfl ?_
        obtain ⟨r14, A14, hf14, h⟩ := rz_b_inv h
        obtain ⟨hg14, hr14, hw14⟩ := cx142_no F (d := d + 8) hf14 (by decide) hw1
        refine rz_B.call (d := d + 8) (as := [.ref 91, vI (-4)]) (rest := []) (w := some (vI r14)) rfl hg14 ?_
        cases h
        exact rz_B.ret rfl hr14 hw14
    · have h := if_F h hc4
      refine rz_B.ifT ((lt32 ha1 (by decide)).mpr (Int.not_le.mp hc4)) ?_
      refine rz_B.go 2 (pc' := 31) (L' := [some (.ref 91), some (vI a0), some (vI a1), some (vI a2), some (vI a3), none, none]) (S' := [vI (-4), .ref 91]) rfl ?_
      obtain ⟨r15, A15, hf15, h⟩ := rz_b_inv h
      obtain ⟨hg15, hr15, hw15⟩ := cx142_no F (d := d + 8) hf15 (by decide) hw1
      refine rz_B.call (d := d + 8) (as := [.ref 91, vI (-4)]) (rest := []) (w := some (vI r15)) rfl hg15 ?_
      cases h
      exact rz_B.ret rfl hr15 hw15
def x206_often_137 (F : Nat) : Nat → Int → Int → Int → rz_A → Option (Int × rz_A)
  | 0, _, _, _, _ => none
  | n + 1, v3, v4, v5, A =>
    if v5 < 10 then
      rz_g32 (v4 + (rz_oI fAnd (rz_oI fShr v3 v5) 1)) <|
      rz_g32 (v5 + 1) <|
      x206_often_137 F n v3 (v4 + (rz_oI fAnd (rz_oI fShr v3 v5) 1)) (v5 + 1) A
    else
      some (v4, A)
theorem cx206_often_137 {d : Nat} (F : Nat) : ∀ (n : Nat) (v3 : Int) (v4 : Int) (v5 : Int) (A : rz_A) (r : Int) (A' : rz_A), x206_often_137 F n v3 v4 v5 A = some (r, A') → r32 v3 → r32 v4 → r32 v5 → wf A → rz_B (d + 9) 206 137 [none, none, none, some (vI v3), some (vI v4), some (vI v5)] [] A (some (vI r)) A' (r32 r) := by
  intro n
  induction n with
  | zero => intro v3 v4 v5 A r A' h; cases h
  | succ n ih =>
    intro v3 v4 v5 A r A' h hv3 hv4 hv5 hw
    rw [x206_often_137] at h
    refine rz_B.go 3 (pc' := if decide (Int32.ofInt 10 ≤ Int32.ofInt v5) = true then 161 else 144) (L' := [none, none, none, some (vI v3), some (vI v4), some (vI v5)]) (S' := []) rfl ?_
    by_cases hc1 : v5 < 10
    · have h := if_T h hc1
      refine rz_B.ifF (mt (le32 (by decide) hv5).mp (Int.not_le.mpr hc1)) ?_
      refine rz_B.go 3 (pc' := 149) (L' := [none, none, none, some (vI v3), some (vI v4), some (vI v5)]) (S' := [vI v5, vI v3, vI v4]) rfl ?_
      refine rz_B.oI fShr rfl ?_
      refine rz_B.go 1 (pc' := 151) (L' := [none, none, none, some (vI v3), some (vI v4), some (vI v5)]) (S' := [vI 1, vI (rz_oI fShr v3 v5), vI v4]) rfl ?_
      refine rz_B.oI fAnd rfl ?_
      obtain ⟨hk2, h⟩ := rz_g32_inv h
      refine rz_B.iadd rfl ?_
      refine rz_B.go 1 (pc' := 155) (L' := [none, none, none, some (vI v3), some (vI (v4 + (rz_oI fAnd (rz_oI fShr v3 v5) 1))), some (vI v5)]) (S' := []) rfl ?_
      obtain ⟨hk3, h⟩ := rz_g32_inv h
      refine rz_B.iinc rfl (by decide) rfl (L' := [none, none, none, some (vI v3), some (vI (v4 + (rz_oI fAnd (rz_oI fShr v3 v5) 1))), some (vI (v5 + 1))]) rfl ?_
      refine rz_B.go 1 (pc' := 137) (L' := [none, none, none, some (vI v3), some (vI (v4 + (rz_oI fAnd (rz_oI fShr v3 v5) 1))), some (vI (v5 + 1))]) (S' := []) rfl ?_
      refine rz_B.more (rg_le_ok (L := [none, none, none, some (vI v3), some (vI (v4 + (rz_oI fAnd (rz_oI fShr v3 v5) 1))), some (vI (v5 + 1))]) (by simp [rg_le])) ?_
      exact ih _ _ _ _ _ _ h hv3 hk2 hk3 hw
    · have h := if_F h hc1
      refine rz_B.ifT ((le32 (by decide) hv5).mpr (Int.not_lt.mp hc1)) ?_
      refine rz_B.go 1 (pc' := 163) (L' := [none, none, none, some (vI v3), some (vI v4), some (vI v5)]) (S' := [vI v4]) rfl ?_
      cases h
      exact rz_B.ret rfl hv4 hw
def x206_often_44 (F : Nat) : Nat → Int → Int → Int → Int → rz_A → Option (Int × rz_A)
  | 0, _, _, _, _, _ => none
  | n + 1, v1, v2, v3, v4, A =>
    if v4 < (A.1 91 3) then
      rz_gx v4 300 <|
      if (A.1 104 (v4).toNat) = v1 then
        rz_g32 ((A.1 105 (v4).toNat).tdiv 1000) <|
        if (rz_oI fAnd (rz_oI fShr v3 ((A.1 105 (v4).toNat).tdiv 1000)) 1) = 0 then
          rz_b (x188_flows F v1 (A.1 105 (v4).toNat) (A.1 91 0) A) fun r7 A7 =>
          if r7 = 0 then
            rz_g32 (v4 + 1) <|
            x206_often_44 F n v1 v2 v3 (v4 + 1) A7
          else
            if v2 ≤ (A7.1 91 78) then
              rz_g32 ((A7.1 105 (v4).toNat).tdiv 1000) <|
              rz_g32 (v4 + 1) <|
              x206_often_44 F n v1 v2 (rz_oI fOr v3 (rz_oI fShl 1 ((A7.1 105 (v4).toNat).tdiv 1000))) (v4 + 1) A7
            else
              rz_g32 (v4 + 1) <|
              x206_often_44 F n v1 v2 v3 (v4 + 1) A7
        else
          rz_g32 (v4 + 1) <|
          x206_often_44 F n v1 v2 v3 (v4 + 1) A
      else
        rz_g32 (v4 + 1) <|
        x206_often_44 F n v1 v2 v3 (v4 + 1) A
    else
      x206_often_137 F F v3 0 0 A
theorem cx206_often_44 {d : Nat} (F : Nat) : ∀ (n : Nat) (v1 : Int) (v2 : Int) (v3 : Int) (v4 : Int) (A : rz_A) (r : Int) (A' : rz_A), x206_often_44 F n v1 v2 v3 v4 A = some (r, A') → r32 v1 → r32 v2 → r32 v3 → r32 v4 → wf A → rz_B (d + 9) 206 44 [some (.ref 91), some (vI v1), some (vI v2), some (vI v3), some (vI v4), none] [] A (some (vI r)) A' (r32 r) := by
  intro n
  induction n with
  | zero => intro v1 v2 v3 v4 A r A' h; cases h
  | succ n ih =>
    intro v1 v2 v3 v4 A r A' h hv1 hv2 hv3 hv4 hw
    rw [x206_often_44] at h
    refine rz_B.go 4 (pc' := if decide (Int32.ofInt (A.1 91 3) ≤ Int32.ofInt v4) = true then 131 else 53) (L' := [some (.ref 91), some (vI v1), some (vI v2), some (vI v3), some (vI v4), none]) (S' := []) rfl ?_
    by_cases hc1 : v4 < (A.1 91 3)
    · have h := if_T h hc1
      refine rz_B.ifF (mt (le32 (hw 91 3).1 hv4).mp (Int.not_le.mpr hc1)) ?_
      refine rz_B.go 3 (pc' := 59) (L' := [some (.ref 91), some (vI v1), some (vI v2), some (vI v3), some (vI v4), none]) (S' := [vI v4, .ref 104]) rfl ?_
      obtain ⟨hi2, hj3, h⟩ := rz_gx_inv h
      refine rz_B.iald rfl rfl hi2 hj3 (by decide) ?_
      refine rz_B.go 2 (pc' := if decide (¬ Int32.ofInt (A.1 104 (v4).toNat) = Int32.ofInt v1) = true then 125 else 64) (L' := [some (.ref 91), some (vI v1), some (vI v2), some (vI v3), some (vI v4), none]) (S' := []) rfl ?_
      by_cases hc4 : (A.1 104 (v4).toNat) = v1
      · have h := if_T h hc4
        refine rz_B.ifF (fun hn => hn ((eq32 (hw 104 (v4).toNat).1 hv1).mpr hc4)) ?_
        refine rz_B.go 4 (pc' := 71) (L' := [some (.ref 91), some (vI v1), some (vI v2), some (vI v3), some (vI v4), none]) (S' := [vI v4, .ref 105, vI v3]) rfl ?_
        refine rz_B.iald rfl rfl hi2 hj3 (by decide) ?_
        refine rz_B.go 1 (pc' := 75) (L' := [some (.ref 91), some (vI v1), some (vI v2), some (vI v3), some (vI v4), none]) (S' := [vI 1000, vI (A.1 105 (v4).toNat), vI v3]) rfl ?_
        obtain ⟨hk5, h⟩ := rz_g32_inv h
        refine rz_B.idiv rfl (hw 105 (v4).toNat).1 (by decide) (by decide) ?_
        refine rz_B.oI fShr rfl ?_
        refine rz_B.go 1 (pc' := 78) (L' := [some (.ref 91), some (vI v1), some (vI v2), some (vI v3), some (vI v4), none]) (S' := [vI 1, vI (rz_oI fShr v3 ((A.1 105 (v4).toNat).tdiv 1000))]) rfl ?_
        refine rz_B.oI fAnd rfl ?_
        refine rz_B.go 1 (pc' := if decide (¬ Int32.ofInt (rz_oI fAnd (rz_oI fShr v3 ((A.1 105 (v4).toNat).tdiv 1000)) 1) = Int32.ofInt 0) = true then 125 else 82) (L' := [some (.ref 91), some (vI v1), some (vI v2), some (vI v3), some (vI v4), none]) (S' := []) rfl ?_
        by_cases hc6 : (rz_oI fAnd (rz_oI fShr v3 ((A.1 105 (v4).toNat).tdiv 1000)) 1) = 0
        · have h := if_T h hc6
          refine rz_B.ifF (fun hn => hn ((eq32 r32_oI (by decide)).mpr hc6)) ?_
          refine rz_B.go 5 (pc' := 90) (L' := [some (.ref 91), some (vI v1), some (vI v2), some (vI v3), some (vI v4), none]) (S' := [vI v4, .ref 105, vI v1, .ref 91]) rfl ?_
          refine rz_B.iald rfl rfl hi2 hj3 (by decide) ?_
          refine rz_B.go 2 (pc' := 95) (L' := [some (.ref 91), some (vI v1), some (vI v2), some (vI v3), some (vI v4), none]) (S' := [vI (A.1 91 0), vI (A.1 105 (v4).toNat), vI v1, .ref 91]) rfl ?_
          obtain ⟨r7, A7, hf7, h⟩ := rz_b_inv h
          obtain ⟨hg7, hr7, hw7⟩ := cx188_flows F (d := d + 0) hf7 hv1 (hw 105 (v4).toNat).1 (hw 91 0).1 hw
          refine rz_B.call (d := d + 8) (as := [.ref 91, vI v1, vI (A.1 105 (v4).toNat), vI (A.1 91 0)]) (rest := []) (w := some (vI r7)) rfl hg7 ?_
          refine rz_B.go 1 (pc' := if decide (Int32.ofInt r7 = Int32.ofInt 0) = true then 125 else 101) (L' := [some (.ref 91), some (vI v1), some (vI v2), some (vI v3), some (vI v4), none]) (S' := []) rfl ?_
          by_cases hc8 : r7 = 0
          · have h := if_T h hc8
            refine rz_B.ifT ((eq32 hr7 (by decide)).mpr hc8) ?_
            obtain ⟨hk9, h⟩ := rz_g32_inv h
            refine rz_B.iinc rfl (by decide) rfl (L' := [some (.ref 91), some (vI v1), some (vI v2), some (vI v3), some (vI (v4 + 1)), none]) rfl ?_
            refine rz_B.go 1 (pc' := 44) (L' := [some (.ref 91), some (vI v1), some (vI v2), some (vI v3), some (vI (v4 + 1)), none]) (S' := []) rfl ?_
            refine rz_B.more (rg_le_ok (L := [some (.ref 91), some (vI v1), some (vI v2), some (vI v3), some (vI (v4 + 1)), none]) (by simp [rg_le])) ?_
            exact ih _ _ _ _ _ _ _ h hv1 hv2 hv3 hk9 hw7
          · have h := if_F h hc8
            refine rz_B.ifF (mt (eq32 hr7 (by decide)).mp hc8) ?_
            refine rz_B.go 4 (pc' := if decide (Int32.ofInt (A7.1 91 78) < Int32.ofInt v2) = true then 125 else 109) (L' := [some (.ref 91), some (vI v1), some (vI v2), some (vI v3), some (vI v4), none]) (S' := []) rfl ?_
            by_cases hc10 : v2 ≤ (A7.1 91 78)
            · have h := if_T h hc10
              refine rz_B.ifF (mt (lt32 (hw7 91 78).1 hv2).mp (Int.not_lt.mpr hc10)) ?_
              refine rz_B.go 5 (pc' := 117) (L' := [some (.ref 91), some (vI v1), some (vI v2), some (vI v3), some (vI v4), none]) (S' := [vI v4, .ref 105, vI 1, vI v3]) rfl ?_
              refine rz_B.iald rfl rfl hi2 hj3 (by decide) ?_
              refine rz_B.go 1 (pc' := 121) (L' := [some (.ref 91), some (vI v1), some (vI v2), some (vI v3), some (vI v4), none]) (S' := [vI 1000, vI (A7.1 105 (v4).toNat), vI 1, vI v3]) rfl ?_
              obtain ⟨hk11, h⟩ := rz_g32_inv h
              refine rz_B.idiv rfl (hw7 105 (v4).toNat).1 (by decide) (by decide) ?_
              refine rz_B.oI fShl rfl ?_
              refine rz_B.oI fOr rfl ?_
              refine rz_B.go 1 (pc' := 125) (L' := [some (.ref 91), some (vI v1), some (vI v2), some (vI (rz_oI fOr v3 (rz_oI fShl 1 ((A7.1 105 (v4).toNat).tdiv 1000)))), some (vI v4), none]) (S' := []) rfl ?_
              obtain ⟨hk12, h⟩ := rz_g32_inv h
              refine rz_B.iinc rfl (by decide) rfl (L' := [some (.ref 91), some (vI v1), some (vI v2), some (vI (rz_oI fOr v3 (rz_oI fShl 1 ((A7.1 105 (v4).toNat).tdiv 1000)))), some (vI (v4 + 1)), none]) rfl ?_
              refine rz_B.go 1 (pc' := 44) (L' := [some (.ref 91), some (vI v1), some (vI v2), some (vI (rz_oI fOr v3 (rz_oI fShl 1 ((A7.1 105 (v4).toNat).tdiv 1000)))), some (vI (v4 + 1)), none]) (S' := []) rfl ?_
              refine rz_B.more (rg_le_ok (L := [some (.ref 91), some (vI v1), some (vI v2), some (vI (rz_oI fOr v3 (rz_oI fShl 1 ((A7.1 105 (v4).toNat).tdiv 1000)))), some (vI (v4 + 1)), none]) (by simp [rg_le])) ?_
              exact ih _ _ _ _ _ _ _ h hv1 hv2 r32_oI hk12 hw7
            · have h := if_F h hc10
              refine rz_B.ifT ((lt32 (hw7 91 78).1 hv2).mpr (Int.not_le.mp hc10)) ?_
              obtain ⟨hk13, h⟩ := rz_g32_inv h
              refine rz_B.iinc rfl (by decide) rfl (L' := [some (.ref 91), some (vI v1), some (vI v2), some (vI v3), some (vI (v4 + 1)), none]) rfl ?_
              refine rz_B.go 1 (pc' := 44) (L' := [some (.ref 91), some (vI v1), some (vI v2), some (vI v3), some (vI (v4 + 1)), none]) (S' := []) rfl ?_
              refine rz_B.more (rg_le_ok (L := [some (.ref 91), some (vI v1), some (vI v2), some (vI v3), some (vI (v4 + 1)), none]) (by simp [rg_le])) ?_
              exact ih _ _ _ _ _ _ _ h hv1 hv2 hv3 hk13 hw7
        · have h := if_F h hc6
          refine rz_B.ifT (mt (eq32 r32_oI (by decide)).mp hc6) ?_
          obtain ⟨hk14, h⟩ := rz_g32_inv h
          refine rz_B.iinc rfl (by decide) rfl (L' := [some (.ref 91), some (vI v1), some (vI v2), some (vI v3), some (vI (v4 + 1)), none]) rfl ?_
          refine rz_B.go 1 (pc' := 44) (L' := [some (.ref 91), some (vI v1), some (vI v2), some (vI v3), some (vI (v4 + 1)), none]) (S' := []) rfl ?_
          refine rz_B.more (rg_le_ok (L := [some (.ref 91), some (vI v1), some (vI v2), some (vI v3), some (vI (v4 + 1)), none]) (by simp [rg_le])) ?_
          exact ih _ _ _ _ _ _ _ h hv1 hv2 hv3 hk14 hw
      · have h := if_F h hc4
        refine rz_B.ifT (mt (eq32 (hw 104 (v4).toNat).1 hv1).mp hc4) ?_
        obtain ⟨hk15, h⟩ := rz_g32_inv h
        refine rz_B.iinc rfl (by decide) rfl (L' := [some (.ref 91), some (vI v1), some (vI v2), some (vI v3), some (vI (v4 + 1)), none]) rfl ?_
        refine rz_B.go 1 (pc' := 44) (L' := [some (.ref 91), some (vI v1), some (vI v2), some (vI v3), some (vI (v4 + 1)), none]) (S' := []) rfl ?_
        refine rz_B.more (rg_le_ok (L := [some (.ref 91), some (vI v1), some (vI v2), some (vI v3), some (vI (v4 + 1)), none]) (by simp [rg_le])) ?_
        exact ih _ _ _ _ _ _ _ h hv1 hv2 hv3 hk15 hw
    · have h := if_F h hc1
      refine rz_B.ifT ((le32 (hw 91 3).1 hv4).mpr (Int.not_lt.mp hc1)) ?_
      refine rz_B.go 4 (pc' := 137) (L' := [some (.ref 91), some (vI v1), some (vI v2), some (vI v3), some (vI 0), some (vI 0)]) (S' := []) rfl ?_
      refine rz_B.more (rg_le_ok (L := [none, none, none, some (vI v3), some (vI 0), some (vI 0)]) (by simp [rg_le])) ?_
      exact cx206_often_137 F F _ _ _ _ _ _ h hv3 (by decide) (by decide) hw
/-- RiverGaugeModel.often(II)I -/
def x206_often (F : Nat) (a0 : Int) (a1 : Int) (A : rz_A) : Option (Int × rz_A) :=
  rz_b (x145_isPost F a0 A) fun r1 A1 =>
  if r1 = 0 then
    rz_b (x142_no F (-1) A1) fun r3 A3 =>
    some (r3, A3)
  else
    if a1 < 0 then
      rz_b (x142_no F (-4) A1) fun r5 A5 =>
      some (r5, A5)
    else
      if 99999999 < a1 then
        rz_b (x142_no F (-6) A1) fun r7 A7 =>
        some (r7, A7)
      else
        x206_often_44 F F a0 a1 0 0 A1
theorem cx206_often (F : Nat) {d : Nat} {a0 : Int} {a1 : Int} {A : rz_A} {r : Int} {A' : rz_A} (h : x206_often F a0 a1 A = some (r, A')) (ha0 : r32 a0) (ha1 : r32 a1) (hw : wf A) : rg_Rn (d + 9) 206 [.ref 91, vI a0, vI a1] (toM A) (some (vI r)) (toM A') ∧ (r32 r) ∧ wf A' := by
  show rz_B (d + 9) 206 0 [some (.ref 91), some (vI a0), some (vI a1), none, none, none] [] A (some (vI r)) A' (r32 r)
  unfold x206_often at h
  refine rz_B.go 2 (pc' := 2) (L' := [some (.ref 91), some (vI a0), some (vI a1), none, none, none]) (S' := [vI a0, .ref 91]) rfl ?_
  obtain ⟨r1, A1, hf1, h⟩ := rz_b_inv h
  obtain ⟨hg1, hr1, hw1⟩ := cx145_isPost F (d := d + 8) hf1 ha0 hw
  refine rz_B.call (d := d + 8) (as := [.ref 91, vI a0]) (rest := []) (w := some (vI r1)) rfl hg1 ?_
  refine rz_B.go 1 (pc' := if decide (¬ Int32.ofInt r1 = Int32.ofInt 0) = true then 14 else 8) (L' := [some (.ref 91), some (vI a0), some (vI a1), none, none, none]) (S' := []) rfl ?_
  by_cases hc2 : r1 = 0
  · have h := if_T h hc2
    refine rz_B.ifF (fun hn => hn ((eq32 hr1 (by decide)).mpr hc2)) ?_
    refine rz_B.go 2 (pc' := 10) (L' := [some (.ref 91), some (vI a0), some (vI a1), none, none, none]) (S' := [vI (-1), .ref 91]) rfl ?_
    obtain ⟨r3, A3, hf3, h⟩ := rz_b_inv h
    obtain ⟨hg3, hr3, hw3⟩ := cx142_no F (d := d + 8) hf3 (by decide) hw1
    refine rz_B.call (d := d + 8) (as := [.ref 91, vI (-1)]) (rest := []) (w := some (vI r3)) rfl hg3 ?_
    cases h
    exact rz_B.ret rfl hr3 hw3
  · have h := if_F h hc2
    refine rz_B.ifT (mt (eq32 hr1 (by decide)).mp hc2) ?_
    refine rz_B.go 2 (pc' := if decide (Int32.ofInt 0 ≤ Int32.ofInt a1) = true then 25 else 18) (L' := [some (.ref 91), some (vI a0), some (vI a1), none, none, none]) (S' := []) rfl ?_
    by_cases hc4 : a1 < 0
    · have h := if_T h hc4
      refine rz_B.ifF (mt (le32 (by decide) ha1).mp (Int.not_le.mpr hc4)) ?_
      refine rz_B.go 2 (pc' := 21) (L' := [some (.ref 91), some (vI a0), some (vI a1), none, none, none]) (S' := [vI (-4), .ref 91]) rfl ?_
      obtain ⟨r5, A5, hf5, h⟩ := rz_b_inv h
      obtain ⟨hg5, hr5, hw5⟩ := cx142_no F (d := d + 8) hf5 (by decide) hw1
      refine rz_B.call (d := d + 8) (as := [.ref 91, vI (-4)]) (rest := []) (w := some (vI r5)) rfl hg5 ?_
      cases h
      exact rz_B.ret rfl hr5 hw5
    · have h := if_F h hc4
      refine rz_B.ifT ((le32 (by decide) ha1).mpr (Int.not_lt.mp hc4)) ?_
      refine rz_B.go 3 (pc' := if decide (Int32.ofInt a1 ≤ Int32.ofInt 99999999) = true then 39 else 32) (L' := [some (.ref 91), some (vI a0), some (vI a1), none, none, none]) (S' := []) rfl ?_
      by_cases hc6 : 99999999 < a1
      · have h := if_T h hc6
        refine rz_B.ifF (mt (le32 ha1 (by decide)).mp (Int.not_le.mpr hc6)) ?_
        refine rz_B.go 2 (pc' := 35) (L' := [some (.ref 91), some (vI a0), some (vI a1), none, none, none]) (S' := [vI (-6), .ref 91]) rfl ?_
        obtain ⟨r7, A7, hf7, h⟩ := rz_b_inv h
        obtain ⟨hg7, hr7, hw7⟩ := cx142_no F (d := d + 8) hf7 (by decide) hw1
        refine rz_B.call (d := d + 8) (as := [.ref 91, vI (-6)]) (rest := []) (w := some (vI r7)) rfl hg7 ?_
        cases h
        exact rz_B.ret rfl hr7 hw7
      · have h := if_F h hc6
        refine rz_B.ifT ((le32 ha1 (by decide)).mpr (Int.not_lt.mp hc6)) ?_
        refine rz_B.go 4 (pc' := 44) (L' := [some (.ref 91), some (vI a0), some (vI a1), some (vI 0), some (vI 0), none]) (S' := []) rfl ?_
        refine rz_B.more (rg_le_ok (L := [some (.ref 91), some (vI a0), some (vI a1), some (vI 0), some (vI 0), none]) (by simp [rg_le])) ?_
        exact cx206_often_44 F F _ _ _ _ _ _ _ h ha0 ha1 (by decide) (by decide) hw1
def x207_agree_529 (F : Nat) (v5 : Int) (v6 : Int) (v7 : Int) (v9 : Int) (v11 : Int) (A : rz_A) : Option (Int × rz_A) :=
  if v5 = 0 then
    some (v6, A)
  else
    if v5 = 1 then
      rz_gn v11 <|
      rz_g64 (v7.tdiv v11) <|
      some ((rz_oN (v7.tdiv v11)), A)
    else
      rz_gn v11 <|
      rz_g64 (v9.tdiv v11) <|
      some ((rz_oN (v9.tdiv v11)), A)
theorem cx207_agree_529 {d : Nat} (F : Nat) : ∀ (v5 : Int) (v6 : Int) (v7 : Int) (v9 : Int) (v11 : Int) (A : rz_A) (r : Int) (A' : rz_A), x207_agree_529 F v5 v6 v7 v9 v11 A = some (r, A') → r32 v5 → r32 v6 → r64 v7 → r64 v9 → r64 v11 → wf A → rz_B (d + 9) 207 529 [none, none, none, none, none, some (vI v5), some (vI v6), some (vL v7), none, some (vL v9), none, some (vL v11), none, none, none, none, none] [] A (some (vI r)) A' (r32 r) := by
  intro v5 v6 v7 v9 v11 A r A' h hv5 hv6 hv7 hv9 hv11 hw
  unfold x207_agree_529 at h
  refine rz_B.go 2 (pc' := if decide (¬ Int32.ofInt v5 = Int32.ofInt 0) = true then 539 else 534) (L' := [none, none, none, none, none, some (vI v5), some (vI v6), some (vL v7), none, some (vL v9), none, some (vL v11), none, none, none, none, none]) (S' := []) rfl ?_
  by_cases hc1 : v5 = 0
  · have h := if_T h hc1
    refine rz_B.ifF (fun hn => hn ((eq32 hv5 (by decide)).mpr hc1)) ?_
    refine rz_B.go 2 (pc' := 559) (L' := [none, none, none, none, none, some (vI v5), some (vI v6), some (vL v7), none, some (vL v9), none, some (vL v11), none, none, none, none, none]) (S' := [vI v6]) rfl ?_
    cases h
    exact rz_B.ret rfl hv6 hw
  · have h := if_F h hc1
    refine rz_B.ifT (mt (eq32 hv5 (by decide)).mp hc1) ?_
    refine rz_B.go 3 (pc' := if decide (¬ Int32.ofInt v5 = Int32.ofInt 1) = true then 553 else 545) (L' := [none, none, none, none, none, some (vI v5), some (vI v6), some (vL v7), none, some (vL v9), none, some (vL v11), none, none, none, none, none]) (S' := []) rfl ?_
    by_cases hc2 : v5 = 1
    · have h := if_T h hc2
      refine rz_B.ifF (fun hn => hn ((eq32 hv5 (by decide)).mpr hc2)) ?_
      refine rz_B.go 2 (pc' := 549) (L' := [none, none, none, none, none, some (vI v5), some (vI v6), some (vL v7), none, some (vL v9), none, some (vL v11), none, none, none, none, none]) (S' := [vL v11, vL v7]) rfl ?_
      obtain ⟨hz3, h⟩ := rz_gn_inv h
      obtain ⟨hk4, h⟩ := rz_g64_inv h
      refine rz_B.ldiv rfl hv7 hv11 hz3 ?_
      refine rz_B.go 1 (pc' := 558) (L' := [none, none, none, none, none, some (vI v5), some (vI v6), some (vL v7), none, some (vL v9), none, some (vL v11), none, none, none, none, none]) (S' := [vL (v7.tdiv v11)]) rfl ?_
      refine rz_B.l2n rfl ?_
      cases h
      exact rz_B.ret rfl r32_oN hw
    · have h := if_F h hc2
      refine rz_B.ifT (mt (eq32 hv5 (by decide)).mp hc2) ?_
      refine rz_B.go 2 (pc' := 557) (L' := [none, none, none, none, none, some (vI v5), some (vI v6), some (vL v7), none, some (vL v9), none, some (vL v11), none, none, none, none, none]) (S' := [vL v11, vL v9]) rfl ?_
      obtain ⟨hz5, h⟩ := rz_gn_inv h
      obtain ⟨hk6, h⟩ := rz_g64_inv h
      refine rz_B.ldiv rfl hv9 hv11 hz5 ?_
      refine rz_B.l2n rfl ?_
      cases h
      exact rz_B.ret rfl r32_oN hw
def x207_agree_504 (F : Nat) : Nat → Int → Int → Int → Int → Int → Int → rz_A → Option (Int × rz_A)
  | 0, _, _, _, _, _, _, _ => none
  | n + 1, v5, v6, v7, v9, v11, v13, A =>
    if v13 = 0 then
      x207_agree_529 F v5 v6 v7 v9 v11 A
    else
      rz_gn v13 <|
      rz_g64 (v11.tmod v13) <|
      x207_agree_504 F n v5 v6 v7 v9 v13 (v11.tmod v13) A
theorem cx207_agree_504 {d : Nat} (F : Nat) : ∀ (n : Nat) (v5 : Int) (v6 : Int) (v7 : Int) (v9 : Int) (v11 : Int) (v13 : Int) (A : rz_A) (r : Int) (A' : rz_A), x207_agree_504 F n v5 v6 v7 v9 v11 v13 A = some (r, A') → r32 v5 → r32 v6 → r64 v7 → r64 v9 → r64 v11 → r64 v13 → wf A → rz_B (d + 9) 207 504 [none, none, none, none, none, some (vI v5), some (vI v6), some (vL v7), none, some (vL v9), none, some (vL v11), none, some (vL v13), none, none, none] [] A (some (vI r)) A' (r32 r) := by
  intro n
  induction n with
  | zero => intro v5 v6 v7 v9 v11 v13 A r A' h; cases h
  | succ n ih =>
    intro v5 v6 v7 v9 v11 v13 A r A' h hv5 hv6 hv7 hv9 hv11 hv13 hw
    rw [x207_agree_504] at h
    refine rz_B.go 4 (pc' := if decide (lg_cmp (Int64.ofInt v13) (Int64.ofInt 0) = 0) = true then 529 else 511) (L' := [none, none, none, none, none, some (vI v5), some (vI v6), some (vL v7), none, some (vL v9), none, some (vL v11), none, some (vL v13), none, none, none]) (S' := []) rfl ?_
    by_cases hc1 : v13 = 0
    · have h := if_T h hc1
      refine rz_B.ifT ((cmp_eq hv13 (by decide)).mpr hc1) ?_
      refine rz_B.more (rg_le_ok (L := [none, none, none, none, none, some (vI v5), some (vI v6), some (vL v7), none, some (vL v9), none, some (vL v11), none, none, none, none, none]) (by simp [rg_le])) ?_
      exact cx207_agree_529 F _ _ _ _ _ _ _ _ h hv5 hv6 hv7 hv9 hv11 hw
    · have h := if_F h hc1
      refine rz_B.ifF (mt (cmp_eq hv13 (by decide)).mp hc1) ?_
      refine rz_B.go 2 (pc' := 515) (L' := [none, none, none, none, none, some (vI v5), some (vI v6), some (vL v7), none, some (vL v9), none, some (vL v11), none, some (vL v13), none, none, none]) (S' := [vL v13, vL v11]) rfl ?_
      obtain ⟨hz2, h⟩ := rz_gn_inv h
      obtain ⟨hk3, h⟩ := rz_g64_inv h
      refine rz_B.lrem rfl hv11 hv13 hz2 ?_
      refine rz_B.go 6 (pc' := 504) (L' := [none, none, none, none, none, some (vI v5), some (vI v6), some (vL v7), none, some (vL v9), none, some (vL v13), none, some (vL (v11.tmod v13)), none, some (vL (v11.tmod v13)), none]) (S' := []) rfl ?_
      refine rz_B.more (rg_le_ok (L := [none, none, none, none, none, some (vI v5), some (vI v6), some (vL v7), none, some (vL v9), none, some (vL v13), none, some (vL (v11.tmod v13)), none, none, none]) (by simp [rg_le])) ?_
      exact ih _ _ _ _ _ _ _ _ _ h hv5 hv6 hv7 hv9 hv13 hk3 hw
def x207_agree_484 (F : Nat) (v5 : Int) (v6 : Int) (v7 : Int) (v9 : Int) (A : rz_A) : Option (Int × rz_A) :=
  if v6 < 0 then
    rz_b (x142_no F (-5) A) fun r2 A2 =>
    some (r2, A2)
  else
    x207_agree_504 F F v5 v6 v7 v9 v7 v9 A
theorem cx207_agree_484 {d : Nat} (F : Nat) : ∀ (v5 : Int) (v6 : Int) (v7 : Int) (v9 : Int) (A : rz_A) (r : Int) (A' : rz_A), x207_agree_484 F v5 v6 v7 v9 A = some (r, A') → r32 v5 → r32 v6 → r64 v7 → r64 v9 → wf A → rz_B (d + 9) 207 484 [some (.ref 91), none, none, none, none, some (vI v5), some (vI v6), some (vL v7), none, some (vL v9), none, none, none, none, none, none, none] [] A (some (vI r)) A' (r32 r) := by
  intro v5 v6 v7 v9 A r A' h hv5 hv6 hv7 hv9 hw
  unfold x207_agree_484 at h
  refine rz_B.go 2 (pc' := if decide (Int32.ofInt 0 ≤ Int32.ofInt v6) = true then 496 else 489) (L' := [some (.ref 91), none, none, none, none, some (vI v5), some (vI v6), some (vL v7), none, some (vL v9), none, none, none, none, none, none, none]) (S' := []) rfl ?_
  by_cases hc1 : v6 < 0
  · have h := if_T h hc1
    refine rz_B.ifF (mt (le32 (by decide) hv6).mp (Int.not_le.mpr hc1)) ?_
    refine rz_B.go 2 (pc' := 492) (L' := [some (.ref 91), none, none, none, none, some (vI v5), some (vI v6), some (vL v7), none, some (vL v9), none, none, none, none, none, none, none]) (S' := [vI (-5), .ref 91]) rfl ?_
    obtain ⟨r2, A2, hf2, h⟩ := rz_b_inv h
    obtain ⟨hg2, hr2, hw2⟩ := cx142_no F (d := d + 8) hf2 (by decide) hw
    refine rz_B.call (d := d + 8) (as := [.ref 91, vI (-5)]) (rest := []) (w := some (vI r2)) rfl hg2 ?_
    cases h
    exact rz_B.ret rfl hr2 hw2
  · have h := if_F h hc1
    refine rz_B.ifT ((le32 (by decide) hv6).mpr (Int.not_lt.mp hc1)) ?_
    refine rz_B.go 4 (pc' := 504) (L' := [some (.ref 91), none, none, none, none, some (vI v5), some (vI v6), some (vL v7), none, some (vL v9), none, some (vL v7), none, some (vL v9), none, none, none]) (S' := []) rfl ?_
    refine rz_B.more (rg_le_ok (L := [none, none, none, none, none, some (vI v5), some (vI v6), some (vL v7), none, some (vL v9), none, some (vL v7), none, some (vL v9), none, none, none]) (by simp [rg_le])) ?_
    exact cx207_agree_504 F F _ _ _ _ _ _ _ _ _ h hv5 hv6 hv7 hv9 hv7 hv9 hw
def x207_agree_437 (F : Nat) (k311 : (Int → Int → Int → Int → Int → Int → Int → rz_A → Option (Int × rz_A))) (v3 : Int) (v4 : Int) (v5 : Int) (v6 : Int) (v7 : Int) (v9 : Int) (v11 : Int) (v12 : Int) (v14 : Int) (A : rz_A) : Option (Int × rz_A) :=
  if v14 = 0 then
    rz_g32 (v11 + 1) <|
    k311 v3 v4 v5 v6 v7 v9 (v11 + 1) A
  else
    if 0 ≤ v6 then
      rz_g64 (v12 * v9) <|
      rz_g64 (v7 * v14) <|
      if (v7 * v14) ≤ (v12 * v9) then
        rz_g32 (v11 + 1) <|
        k311 v3 v4 v5 v6 v7 v9 (v11 + 1) A
      else
        rz_g32 (v11 + 1) <|
        k311 v3 v4 v5 v11 v12 v14 (v11 + 1) A
    else
      rz_g32 (v11 + 1) <|
      k311 v3 v4 v5 v11 v12 v14 (v11 + 1) A
theorem cx207_agree_437 {d : Nat} (F : Nat) {k311 : (Int → Int → Int → Int → Int → Int → Int → rz_A → Option (Int × rz_A))} (hkk311 : ∀ (v3 : Int) (v4 : Int) (v5 : Int) (v6 : Int) (v7 : Int) (v9 : Int) (v11 : Int) (A : rz_A) (r : Int) (A' : rz_A), k311 v3 v4 v5 v6 v7 v9 v11 A = some (r, A') → r32 v3 → r32 v4 → r32 v5 → r32 v6 → r64 v7 → r64 v9 → r32 v11 → wf A → rz_B (d + 9) 207 311 [some (.ref 91), none, none, some (vI v3), some (vI v4), some (vI v5), some (vI v6), some (vL v7), none, some (vL v9), none, some (vI v11), none, none, none, none, none] [] A (some (vI r)) A' (r32 r)) : ∀ (v3 : Int) (v4 : Int) (v5 : Int) (v6 : Int) (v7 : Int) (v9 : Int) (v11 : Int) (v12 : Int) (v14 : Int) (A : rz_A) (r : Int) (A' : rz_A), x207_agree_437 F k311 v3 v4 v5 v6 v7 v9 v11 v12 v14 A = some (r, A') → r32 v3 → r32 v4 → r32 v5 → r32 v6 → r64 v7 → r64 v9 → r32 v11 → r64 v12 → r32 v14 → wf A → rz_B (d + 9) 207 437 [some (.ref 91), none, none, some (vI v3), some (vI v4), some (vI v5), some (vI v6), some (vL v7), none, some (vL v9), none, some (vI v11), some (vL v12), none, some (vI v14), none, none] [] A (some (vI r)) A' (r32 r) := by
  intro v3 v4 v5 v6 v7 v9 v11 v12 v14 A r A' h hv3 hv4 hv5 hv6 hv7 hv9 hv11 hv12 hv14 hw
  unfold x207_agree_437 at h
  refine rz_B.go 2 (pc' := if decide (Int32.ofInt v14 = Int32.ofInt 0) = true then 478 else 442) (L' := [some (.ref 91), none, none, some (vI v3), some (vI v4), some (vI v5), some (vI v6), some (vL v7), none, some (vL v9), none, some (vI v11), some (vL v12), none, some (vI v14), none, none]) (S' := []) rfl ?_
  by_cases hc1 : v14 = 0
  · have h := if_T h hc1
    refine rz_B.ifT ((eq32 hv14 (by decide)).mpr hc1) ?_
    obtain ⟨hk2, h⟩ := rz_g32_inv h
    refine rz_B.iinc rfl (by decide) rfl (L' := [some (.ref 91), none, none, some (vI v3), some (vI v4), some (vI v5), some (vI v6), some (vL v7), none, some (vL v9), none, some (vI (v11 + 1)), some (vL v12), none, some (vI v14), none, none]) rfl ?_
    refine rz_B.go 1 (pc' := 311) (L' := [some (.ref 91), none, none, some (vI v3), some (vI v4), some (vI v5), some (vI v6), some (vL v7), none, some (vL v9), none, some (vI (v11 + 1)), some (vL v12), none, some (vI v14), none, none]) (S' := []) rfl ?_
    refine rz_B.more (rg_le_ok (L := [some (.ref 91), none, none, some (vI v3), some (vI v4), some (vI v5), some (vI v6), some (vL v7), none, some (vL v9), none, some (vI (v11 + 1)), none, none, none, none, none]) (by simp [rg_le])) ?_
    exact hkk311 _ _ _ _ _ _ _ _ _ _ h hv3 hv4 hv5 hv6 hv7 hv9 hk2 hw
  · have h := if_F h hc1
    refine rz_B.ifF (mt (eq32 hv14 (by decide)).mp hc1) ?_
    refine rz_B.go 2 (pc' := if decide (Int32.ofInt v6 < Int32.ofInt 0) = true then 465 else 447) (L' := [some (.ref 91), none, none, some (vI v3), some (vI v4), some (vI v5), some (vI v6), some (vL v7), none, some (vL v9), none, some (vI v11), some (vL v12), none, some (vI v14), none, none]) (S' := []) rfl ?_
    by_cases hc3 : 0 ≤ v6
    · have h := if_T h hc3
      refine rz_B.ifF (mt (lt32 hv6 (by decide)).mp (Int.not_lt.mpr hc3)) ?_
      refine rz_B.go 2 (pc' := 451) (L' := [some (.ref 91), none, none, some (vI v3), some (vI v4), some (vI v5), some (vI v6), some (vL v7), none, some (vL v9), none, some (vI v11), some (vL v12), none, some (vI v14), none, none]) (S' := [vL v9, vL v12]) rfl ?_
      obtain ⟨hk4, h⟩ := rz_g64_inv h
      refine rz_B.lmul rfl ?_
      refine rz_B.go 2 (pc' := 456) (L' := [some (.ref 91), none, none, some (vI v3), some (vI v4), some (vI v5), some (vI v6), some (vL v7), none, some (vL v9), none, some (vI v11), some (vL v12), none, some (vI v14), none, none]) (S' := [vI v14, vL v7, vL (v12 * v9)]) rfl ?_
      refine rz_B.i2l rfl hv14 ?_
      obtain ⟨hk5, h⟩ := rz_g64_inv h
      refine rz_B.lmul rfl ?_
      refine rz_B.go 2 (pc' := if decide (lg_cmp (Int64.ofInt (v12 * v9)) (Int64.ofInt (v7 * v14)) < 0) = true then 465 else 462) (L' := [some (.ref 91), none, none, some (vI v3), some (vI v4), some (vI v5), some (vI v6), some (vL v7), none, some (vL v9), none, some (vI v11), some (vL v12), none, some (vI v14), none, none]) (S' := []) rfl ?_
      by_cases hc6 : (v7 * v14) ≤ (v12 * v9)
      · have h := if_T h hc6
        refine rz_B.ifF (mt (cmp_lt hk4 hk5).mp (Int.not_lt.mpr hc6)) ?_
        refine rz_B.go 1 (pc' := 478) (L' := [some (.ref 91), none, none, some (vI v3), some (vI v4), some (vI v5), some (vI v6), some (vL v7), none, some (vL v9), none, some (vI v11), some (vL v12), none, some (vI v14), none, none]) (S' := []) rfl ?_
        obtain ⟨hk7, h⟩ := rz_g32_inv h
        refine rz_B.iinc rfl (by decide) rfl (L' := [some (.ref 91), none, none, some (vI v3), some (vI v4), some (vI v5), some (vI v6), some (vL v7), none, some (vL v9), none, some (vI (v11 + 1)), some (vL v12), none, some (vI v14), none, none]) rfl ?_
        refine rz_B.go 1 (pc' := 311) (L' := [some (.ref 91), none, none, some (vI v3), some (vI v4), some (vI v5), some (vI v6), some (vL v7), none, some (vL v9), none, some (vI (v11 + 1)), some (vL v12), none, some (vI v14), none, none]) (S' := []) rfl ?_
        refine rz_B.more (rg_le_ok (L := [some (.ref 91), none, none, some (vI v3), some (vI v4), some (vI v5), some (vI v6), some (vL v7), none, some (vL v9), none, some (vI (v11 + 1)), none, none, none, none, none]) (by simp [rg_le])) ?_
        exact hkk311 _ _ _ _ _ _ _ _ _ _ h hv3 hv4 hv5 hv6 hv7 hv9 hk7 hw
      · have h := if_F h hc6
        refine rz_B.ifT ((cmp_lt hk4 hk5).mpr (Int.not_le.mp hc6)) ?_
        refine rz_B.go 5 (pc' := 475) (L' := [some (.ref 91), none, none, some (vI v3), some (vI v4), some (vI v5), some (vI v11), some (vL v12), none, some (vL v9), none, some (vI v11), some (vL v12), none, some (vI v14), none, none]) (S' := [vI v14]) rfl ?_
        refine rz_B.i2l rfl hv14 ?_
        refine rz_B.go 1 (pc' := 478) (L' := [some (.ref 91), none, none, some (vI v3), some (vI v4), some (vI v5), some (vI v11), some (vL v12), none, some (vL v14), none, some (vI v11), some (vL v12), none, some (vI v14), none, none]) (S' := []) rfl ?_
        obtain ⟨hk8, h⟩ := rz_g32_inv h
        refine rz_B.iinc rfl (by decide) rfl (L' := [some (.ref 91), none, none, some (vI v3), some (vI v4), some (vI v5), some (vI v11), some (vL v12), none, some (vL v14), none, some (vI (v11 + 1)), some (vL v12), none, some (vI v14), none, none]) rfl ?_
        refine rz_B.go 1 (pc' := 311) (L' := [some (.ref 91), none, none, some (vI v3), some (vI v4), some (vI v5), some (vI v11), some (vL v12), none, some (vL v14), none, some (vI (v11 + 1)), some (vL v12), none, some (vI v14), none, none]) (S' := []) rfl ?_
        refine rz_B.more (rg_le_ok (L := [some (.ref 91), none, none, some (vI v3), some (vI v4), some (vI v5), some (vI v11), some (vL v12), none, some (vL v14), none, some (vI (v11 + 1)), none, none, none, none, none]) (by simp [rg_le])) ?_
        exact hkk311 _ _ _ _ _ _ _ _ _ _ h hv3 hv4 hv5 hv11 hv12 (r64_of hv14) hk8 hw
    · have h := if_F h hc3
      refine rz_B.ifT ((lt32 hv6 (by decide)).mpr (Int.not_le.mp hc3)) ?_
      refine rz_B.go 5 (pc' := 475) (L' := [some (.ref 91), none, none, some (vI v3), some (vI v4), some (vI v5), some (vI v11), some (vL v12), none, some (vL v9), none, some (vI v11), some (vL v12), none, some (vI v14), none, none]) (S' := [vI v14]) rfl ?_
      refine rz_B.i2l rfl hv14 ?_
      refine rz_B.go 1 (pc' := 478) (L' := [some (.ref 91), none, none, some (vI v3), some (vI v4), some (vI v5), some (vI v11), some (vL v12), none, some (vL v14), none, some (vI v11), some (vL v12), none, some (vI v14), none, none]) (S' := []) rfl ?_
      obtain ⟨hk9, h⟩ := rz_g32_inv h
      refine rz_B.iinc rfl (by decide) rfl (L' := [some (.ref 91), none, none, some (vI v3), some (vI v4), some (vI v5), some (vI v11), some (vL v12), none, some (vL v14), none, some (vI (v11 + 1)), some (vL v12), none, some (vI v14), none, none]) rfl ?_
      refine rz_B.go 1 (pc' := 311) (L' := [some (.ref 91), none, none, some (vI v3), some (vI v4), some (vI v5), some (vI v11), some (vL v12), none, some (vL v14), none, some (vI (v11 + 1)), some (vL v12), none, some (vI v14), none, none]) (S' := []) rfl ?_
      refine rz_B.more (rg_le_ok (L := [some (.ref 91), none, none, some (vI v3), some (vI v4), some (vI v5), some (vI v11), some (vL v12), none, some (vL v14), none, some (vI (v11 + 1)), none, none, none, none, none]) (by simp [rg_le])) ?_
      exact hkk311 _ _ _ _ _ _ _ _ _ _ h hv3 hv4 hv5 hv11 hv12 (r64_of hv14) hk9 hw
def x207_agree_327 (F : Nat) (k311 : (Int → Int → Int → Int → Int → Int → Int → rz_A → Option (Int × rz_A))) : Nat → Int → Int → Int → Int → Int → Int → Int → Int → Int → Int → rz_A → Option (Int × rz_A)
  | 0, _, _, _, _, _, _, _, _, _, _, _ => none
  | n + 1, v3, v4, v5, v6, v7, v9, v11, v12, v14, v15, A =>
    rz_g32 (v4 - v3) <|
    if v15 ≤ (v4 - v3) then
      rz_gx v15 400 <|
      if 0 ≤ (A.1 147 (v15).toNat) then
        rz_g32 (v15 + v11) <|
        rz_gx (v15 + v11) 400 <|
        if (A.1 148 ((v15 + v11)).toNat) < 0 then
          rz_g32 (v15 + 1) <|
          x207_agree_327 F k311 n v3 v4 v5 v6 v7 v9 v11 v12 v14 (v15 + 1) A
        else
          if (A.1 148 ((v15 + v11)).toNat) < (A.1 147 (v15).toNat) then
            rz_g32 ((A.1 147 (v15).toNat) - (A.1 148 ((v15 + v11)).toNat)) <|
            rz_g64 (v12 + ((A.1 147 (v15).toNat) - (A.1 148 ((v15 + v11)).toNat))) <|
            rz_g32 (v14 + 1) <|
            rz_g32 (v15 + 1) <|
            x207_agree_327 F k311 n v3 v4 v5 v6 v7 v9 v11 (v12 + ((A.1 147 (v15).toNat) - (A.1 148 ((v15 + v11)).toNat))) (v14 + 1) (v15 + 1) A
          else
            rz_g32 ((A.1 148 ((v15 + v11)).toNat) - (A.1 147 (v15).toNat)) <|
            rz_g64 (v12 + ((A.1 148 ((v15 + v11)).toNat) - (A.1 147 (v15).toNat))) <|
            rz_g32 (v14 + 1) <|
            rz_g32 (v15 + 1) <|
            x207_agree_327 F k311 n v3 v4 v5 v6 v7 v9 v11 (v12 + ((A.1 148 ((v15 + v11)).toNat) - (A.1 147 (v15).toNat))) (v14 + 1) (v15 + 1) A
      else
        rz_g32 (v15 + 1) <|
        x207_agree_327 F k311 n v3 v4 v5 v6 v7 v9 v11 v12 v14 (v15 + 1) A
    else
      x207_agree_437 F k311 v3 v4 v5 v6 v7 v9 v11 v12 v14 A
theorem cx207_agree_327 {d : Nat} (F : Nat) {k311 : (Int → Int → Int → Int → Int → Int → Int → rz_A → Option (Int × rz_A))} (hkk311 : ∀ (v3 : Int) (v4 : Int) (v5 : Int) (v6 : Int) (v7 : Int) (v9 : Int) (v11 : Int) (A : rz_A) (r : Int) (A' : rz_A), k311 v3 v4 v5 v6 v7 v9 v11 A = some (r, A') → r32 v3 → r32 v4 → r32 v5 → r32 v6 → r64 v7 → r64 v9 → r32 v11 → wf A → rz_B (d + 9) 207 311 [some (.ref 91), none, none, some (vI v3), some (vI v4), some (vI v5), some (vI v6), some (vL v7), none, some (vL v9), none, some (vI v11), none, none, none, none, none] [] A (some (vI r)) A' (r32 r)) : ∀ (n : Nat) (v3 : Int) (v4 : Int) (v5 : Int) (v6 : Int) (v7 : Int) (v9 : Int) (v11 : Int) (v12 : Int) (v14 : Int) (v15 : Int) (A : rz_A) (r : Int) (A' : rz_A), x207_agree_327 F k311 n v3 v4 v5 v6 v7 v9 v11 v12 v14 v15 A = some (r, A') → r32 v3 → r32 v4 → r32 v5 → r32 v6 → r64 v7 → r64 v9 → r32 v11 → r64 v12 → r32 v14 → r32 v15 → wf A → rz_B (d + 9) 207 327 [some (.ref 91), none, none, some (vI v3), some (vI v4), some (vI v5), some (vI v6), some (vL v7), none, some (vL v9), none, some (vI v11), some (vL v12), none, some (vI v14), some (vI v15), none] [] A (some (vI r)) A' (r32 r) := by
  intro n
  induction n with
  | zero => intro v3 v4 v5 v6 v7 v9 v11 v12 v14 v15 A r A' h; cases h
  | succ n ih =>
    intro v3 v4 v5 v6 v7 v9 v11 v12 v14 v15 A r A' h hv3 hv4 hv5 hv6 hv7 hv9 hv11 hv12 hv14 hv15 hw
    rw [x207_agree_327] at h
    refine rz_B.go 3 (pc' := 332) (L' := [some (.ref 91), none, none, some (vI v3), some (vI v4), some (vI v5), some (vI v6), some (vL v7), none, some (vL v9), none, some (vI v11), some (vL v12), none, some (vI v14), some (vI v15), none]) (S' := [vI v3, vI v4, vI v15]) rfl ?_
    obtain ⟨hk1, h⟩ := rz_g32_inv h
    refine rz_B.isub rfl ?_
    refine rz_B.go 1 (pc' := if decide (Int32.ofInt (v4 - v3) < Int32.ofInt v15) = true then 437 else 336) (L' := [some (.ref 91), none, none, some (vI v3), some (vI v4), some (vI v5), some (vI v6), some (vL v7), none, some (vL v9), none, some (vI v11), some (vL v12), none, some (vI v14), some (vI v15), none]) (S' := []) rfl ?_
    by_cases hc2 : v15 ≤ (v4 - v3)
    · have h := if_T h hc2
      refine rz_B.ifF (mt (lt32 hk1 hv15).mp (Int.not_lt.mpr hc2)) ?_
      refine rz_B.go 3 (pc' := 342) (L' := [some (.ref 91), none, none, some (vI v3), some (vI v4), some (vI v5), some (vI v6), some (vL v7), none, some (vL v9), none, some (vI v11), some (vL v12), none, some (vI v14), some (vI v15), none]) (S' := [vI v15, .ref 147]) rfl ?_
      obtain ⟨hi3, hj4, h⟩ := rz_gx_inv h
      refine rz_B.iald rfl rfl hi3 hj4 (by decide) ?_
      refine rz_B.go 1 (pc' := if decide (Int32.ofInt (A.1 147 (v15).toNat) < Int32.ofInt 0) = true then 431 else 346) (L' := [some (.ref 91), none, none, some (vI v3), some (vI v4), some (vI v5), some (vI v6), some (vL v7), none, some (vL v9), none, some (vI v11), some (vL v12), none, some (vI v14), some (vI v15), none]) (S' := []) rfl ?_
      by_cases hc5 : 0 ≤ (A.1 147 (v15).toNat)
      · have h := if_T h hc5
        refine rz_B.ifF (mt (lt32 (hw 147 (v15).toNat).1 (by decide)).mp (Int.not_lt.mpr hc5)) ?_
        refine rz_B.go 4 (pc' := 354) (L' := [some (.ref 91), none, none, some (vI v3), some (vI v4), some (vI v5), some (vI v6), some (vL v7), none, some (vL v9), none, some (vI v11), some (vL v12), none, some (vI v14), some (vI v15), none]) (S' := [vI v11, vI v15, .ref 148]) rfl ?_
        obtain ⟨hk6, h⟩ := rz_g32_inv h
        refine rz_B.iadd rfl ?_
        obtain ⟨hi7, hj8, h⟩ := rz_gx_inv h
        refine rz_B.iald rfl rfl hi7 hj8 (by decide) ?_
        refine rz_B.go 1 (pc' := if decide (Int32.ofInt 0 ≤ Int32.ofInt (A.1 148 ((v15 + v11)).toNat)) = true then 362 else 359) (L' := [some (.ref 91), none, none, some (vI v3), some (vI v4), some (vI v5), some (vI v6), some (vL v7), none, some (vL v9), none, some (vI v11), some (vL v12), none, some (vI v14), some (vI v15), none]) (S' := []) rfl ?_
        by_cases hc9 : (A.1 148 ((v15 + v11)).toNat) < 0
        · have h := if_T h hc9
          refine rz_B.ifF (mt (le32 (by decide) (hw 148 ((v15 + v11)).toNat).1).mp (Int.not_le.mpr hc9)) ?_
          refine rz_B.go 1 (pc' := 431) (L' := [some (.ref 91), none, none, some (vI v3), some (vI v4), some (vI v5), some (vI v6), some (vL v7), none, some (vL v9), none, some (vI v11), some (vL v12), none, some (vI v14), some (vI v15), none]) (S' := []) rfl ?_
          obtain ⟨hk10, h⟩ := rz_g32_inv h
          refine rz_B.iinc rfl (by decide) rfl (L' := [some (.ref 91), none, none, some (vI v3), some (vI v4), some (vI v5), some (vI v6), some (vL v7), none, some (vL v9), none, some (vI v11), some (vL v12), none, some (vI v14), some (vI (v15 + 1)), none]) rfl ?_
          refine rz_B.go 1 (pc' := 327) (L' := [some (.ref 91), none, none, some (vI v3), some (vI v4), some (vI v5), some (vI v6), some (vL v7), none, some (vL v9), none, some (vI v11), some (vL v12), none, some (vI v14), some (vI (v15 + 1)), none]) (S' := []) rfl ?_
          refine rz_B.more (rg_le_ok (L := [some (.ref 91), none, none, some (vI v3), some (vI v4), some (vI v5), some (vI v6), some (vL v7), none, some (vL v9), none, some (vI v11), some (vL v12), none, some (vI v14), some (vI (v15 + 1)), none]) (by simp [rg_le])) ?_
          exact ih _ _ _ _ _ _ _ _ _ _ _ _ _ h hv3 hv4 hv5 hv6 hv7 hv9 hv11 hv12 hv14 hk10 hw
        · have h := if_F h hc9
          refine rz_B.ifT ((le32 (by decide) (hw 148 ((v15 + v11)).toNat).1).mpr (Int.not_lt.mp hc9)) ?_
          refine rz_B.go 4 (pc' := 370) (L' := [some (.ref 91), none, none, some (vI v3), some (vI v4), some (vI v5), some (vI v6), some (vL v7), none, some (vL v9), none, some (vI v11), some (vL v12), none, some (vI v14), some (vI v15), none]) (S' := [vI v15, .ref 147, vL v12]) rfl ?_
          refine rz_B.iald rfl rfl hi3 hj4 (by decide) ?_
          refine rz_B.go 4 (pc' := 379) (L' := [some (.ref 91), none, none, some (vI v3), some (vI v4), some (vI v5), some (vI v6), some (vL v7), none, some (vL v9), none, some (vI v11), some (vL v12), none, some (vI v14), some (vI v15), none]) (S' := [vI v11, vI v15, .ref 148, vI (A.1 147 (v15).toNat), vL v12]) rfl ?_
          refine rz_B.iadd rfl ?_
          refine rz_B.iald rfl rfl hi7 hj8 (by decide) ?_
          refine rz_B.go 1 (pc' := if decide (Int32.ofInt (A.1 147 (v15).toNat) ≤ Int32.ofInt (A.1 148 ((v15 + v11)).toNat)) = true then 406 else 384) (L' := [some (.ref 91), none, none, some (vI v3), some (vI v4), some (vI v5), some (vI v6), some (vL v7), none, some (vL v9), none, some (vI v11), some (vL v12), none, some (vI v14), some (vI v15), none]) (S' := [vL v12]) rfl ?_
          by_cases hc11 : (A.1 148 ((v15 + v11)).toNat) < (A.1 147 (v15).toNat)
          · have h := if_T h hc11
            refine rz_B.ifF (mt (le32 (hw 147 (v15).toNat).1 (hw 148 ((v15 + v11)).toNat).1).mp (Int.not_le.mpr hc11)) ?_
            refine rz_B.go 3 (pc' := 390) (L' := [some (.ref 91), none, none, some (vI v3), some (vI v4), some (vI v5), some (vI v6), some (vL v7), none, some (vL v9), none, some (vI v11), some (vL v12), none, some (vI v14), some (vI v15), none]) (S' := [vI v15, .ref 147, vL v12]) rfl ?_
            refine rz_B.iald rfl rfl hi3 hj4 (by decide) ?_
            refine rz_B.go 4 (pc' := 399) (L' := [some (.ref 91), none, none, some (vI v3), some (vI v4), some (vI v5), some (vI v6), some (vL v7), none, some (vL v9), none, some (vI v11), some (vL v12), none, some (vI v14), some (vI v15), none]) (S' := [vI v11, vI v15, .ref 148, vI (A.1 147 (v15).toNat), vL v12]) rfl ?_
            refine rz_B.iadd rfl ?_
            refine rz_B.iald rfl rfl hi7 hj8 (by decide) ?_
            obtain ⟨hk12, h⟩ := rz_g32_inv h
            refine rz_B.isub rfl ?_
            refine rz_B.i2l rfl hk12 ?_
            refine rz_B.go 1 (pc' := 425) (L' := [some (.ref 91), none, none, some (vI v3), some (vI v4), some (vI v5), some (vI v6), some (vL v7), none, some (vL v9), none, some (vI v11), some (vL v12), none, some (vI v14), some (vI v15), none]) (S' := [vL ((A.1 147 (v15).toNat) - (A.1 148 ((v15 + v11)).toNat)), vL v12]) rfl ?_
            obtain ⟨hk13, h⟩ := rz_g64_inv h
            refine rz_B.ladd rfl ?_
            refine rz_B.go 1 (pc' := 428) (L' := [some (.ref 91), none, none, some (vI v3), some (vI v4), some (vI v5), some (vI v6), some (vL v7), none, some (vL v9), none, some (vI v11), some (vL (v12 + ((A.1 147 (v15).toNat) - (A.1 148 ((v15 + v11)).toNat)))), none, some (vI v14), some (vI v15), none]) (S' := []) rfl ?_
            obtain ⟨hk14, h⟩ := rz_g32_inv h
            refine rz_B.iinc rfl (by decide) rfl (L' := [some (.ref 91), none, none, some (vI v3), some (vI v4), some (vI v5), some (vI v6), some (vL v7), none, some (vL v9), none, some (vI v11), some (vL (v12 + ((A.1 147 (v15).toNat) - (A.1 148 ((v15 + v11)).toNat)))), none, some (vI (v14 + 1)), some (vI v15), none]) rfl ?_
            obtain ⟨hk15, h⟩ := rz_g32_inv h
            refine rz_B.iinc rfl (by decide) rfl (L' := [some (.ref 91), none, none, some (vI v3), some (vI v4), some (vI v5), some (vI v6), some (vL v7), none, some (vL v9), none, some (vI v11), some (vL (v12 + ((A.1 147 (v15).toNat) - (A.1 148 ((v15 + v11)).toNat)))), none, some (vI (v14 + 1)), some (vI (v15 + 1)), none]) rfl ?_
            refine rz_B.go 1 (pc' := 327) (L' := [some (.ref 91), none, none, some (vI v3), some (vI v4), some (vI v5), some (vI v6), some (vL v7), none, some (vL v9), none, some (vI v11), some (vL (v12 + ((A.1 147 (v15).toNat) - (A.1 148 ((v15 + v11)).toNat)))), none, some (vI (v14 + 1)), some (vI (v15 + 1)), none]) (S' := []) rfl ?_
            refine rz_B.more (rg_le_ok (L := [some (.ref 91), none, none, some (vI v3), some (vI v4), some (vI v5), some (vI v6), some (vL v7), none, some (vL v9), none, some (vI v11), some (vL (v12 + ((A.1 147 (v15).toNat) - (A.1 148 ((v15 + v11)).toNat)))), none, some (vI (v14 + 1)), some (vI (v15 + 1)), none]) (by simp [rg_le])) ?_
            exact ih _ _ _ _ _ _ _ _ _ _ _ _ _ h hv3 hv4 hv5 hv6 hv7 hv9 hv11 hk13 hk14 hk15 hw
          · have h := if_F h hc11
            refine rz_B.ifT ((le32 (hw 147 (v15).toNat).1 (hw 148 ((v15 + v11)).toNat).1).mpr (Int.not_lt.mp hc11)) ?_
            refine rz_B.go 4 (pc' := 414) (L' := [some (.ref 91), none, none, some (vI v3), some (vI v4), some (vI v5), some (vI v6), some (vL v7), none, some (vL v9), none, some (vI v11), some (vL v12), none, some (vI v14), some (vI v15), none]) (S' := [vI v11, vI v15, .ref 148, vL v12]) rfl ?_
            refine rz_B.iadd rfl ?_
            refine rz_B.iald rfl rfl hi7 hj8 (by decide) ?_
            refine rz_B.go 3 (pc' := 422) (L' := [some (.ref 91), none, none, some (vI v3), some (vI v4), some (vI v5), some (vI v6), some (vL v7), none, some (vL v9), none, some (vI v11), some (vL v12), none, some (vI v14), some (vI v15), none]) (S' := [vI v15, .ref 147, vI (A.1 148 ((v15 + v11)).toNat), vL v12]) rfl ?_
            refine rz_B.iald rfl rfl hi3 hj4 (by decide) ?_
            obtain ⟨hk16, h⟩ := rz_g32_inv h
            refine rz_B.isub rfl ?_
            refine rz_B.i2l rfl hk16 ?_
            obtain ⟨hk17, h⟩ := rz_g64_inv h
            refine rz_B.ladd rfl ?_
            refine rz_B.go 1 (pc' := 428) (L' := [some (.ref 91), none, none, some (vI v3), some (vI v4), some (vI v5), some (vI v6), some (vL v7), none, some (vL v9), none, some (vI v11), some (vL (v12 + ((A.1 148 ((v15 + v11)).toNat) - (A.1 147 (v15).toNat)))), none, some (vI v14), some (vI v15), none]) (S' := []) rfl ?_
            obtain ⟨hk18, h⟩ := rz_g32_inv h
            refine rz_B.iinc rfl (by decide) rfl (L' := [some (.ref 91), none, none, some (vI v3), some (vI v4), some (vI v5), some (vI v6), some (vL v7), none, some (vL v9), none, some (vI v11), some (vL (v12 + ((A.1 148 ((v15 + v11)).toNat) - (A.1 147 (v15).toNat)))), none, some (vI (v14 + 1)), some (vI v15), none]) rfl ?_
            obtain ⟨hk19, h⟩ := rz_g32_inv h
            refine rz_B.iinc rfl (by decide) rfl (L' := [some (.ref 91), none, none, some (vI v3), some (vI v4), some (vI v5), some (vI v6), some (vL v7), none, some (vL v9), none, some (vI v11), some (vL (v12 + ((A.1 148 ((v15 + v11)).toNat) - (A.1 147 (v15).toNat)))), none, some (vI (v14 + 1)), some (vI (v15 + 1)), none]) rfl ?_
            refine rz_B.go 1 (pc' := 327) (L' := [some (.ref 91), none, none, some (vI v3), some (vI v4), some (vI v5), some (vI v6), some (vL v7), none, some (vL v9), none, some (vI v11), some (vL (v12 + ((A.1 148 ((v15 + v11)).toNat) - (A.1 147 (v15).toNat)))), none, some (vI (v14 + 1)), some (vI (v15 + 1)), none]) (S' := []) rfl ?_
            refine rz_B.more (rg_le_ok (L := [some (.ref 91), none, none, some (vI v3), some (vI v4), some (vI v5), some (vI v6), some (vL v7), none, some (vL v9), none, some (vI v11), some (vL (v12 + ((A.1 148 ((v15 + v11)).toNat) - (A.1 147 (v15).toNat)))), none, some (vI (v14 + 1)), some (vI (v15 + 1)), none]) (by simp [rg_le])) ?_
            exact ih _ _ _ _ _ _ _ _ _ _ _ _ _ h hv3 hv4 hv5 hv6 hv7 hv9 hv11 hk17 hk18 hk19 hw
      · have h := if_F h hc5
        refine rz_B.ifT ((lt32 (hw 147 (v15).toNat).1 (by decide)).mpr (Int.not_le.mp hc5)) ?_
        obtain ⟨hk20, h⟩ := rz_g32_inv h
        refine rz_B.iinc rfl (by decide) rfl (L' := [some (.ref 91), none, none, some (vI v3), some (vI v4), some (vI v5), some (vI v6), some (vL v7), none, some (vL v9), none, some (vI v11), some (vL v12), none, some (vI v14), some (vI (v15 + 1)), none]) rfl ?_
        refine rz_B.go 1 (pc' := 327) (L' := [some (.ref 91), none, none, some (vI v3), some (vI v4), some (vI v5), some (vI v6), some (vL v7), none, some (vL v9), none, some (vI v11), some (vL v12), none, some (vI v14), some (vI (v15 + 1)), none]) (S' := []) rfl ?_
        refine rz_B.more (rg_le_ok (L := [some (.ref 91), none, none, some (vI v3), some (vI v4), some (vI v5), some (vI v6), some (vL v7), none, some (vL v9), none, some (vI v11), some (vL v12), none, some (vI v14), some (vI (v15 + 1)), none]) (by simp [rg_le])) ?_
        exact ih _ _ _ _ _ _ _ _ _ _ _ _ _ h hv3 hv4 hv5 hv6 hv7 hv9 hv11 hv12 hv14 hk20 hw
    · have h := if_F h hc2
      refine rz_B.ifT ((lt32 hk1 hv15).mpr (Int.not_le.mp hc2)) ?_
      refine rz_B.more (rg_le_ok (L := [some (.ref 91), none, none, some (vI v3), some (vI v4), some (vI v5), some (vI v6), some (vL v7), none, some (vL v9), none, some (vI v11), some (vL v12), none, some (vI v14), none, none]) (by simp [rg_le])) ?_
      exact cx207_agree_437 F hkk311 _ _ _ _ _ _ _ _ _ _ _ _ h hv3 hv4 hv5 hv6 hv7 hv9 hv11 hv12 hv14 hw
def x207_agree_311 (F : Nat) : Nat → Int → Int → Int → Int → Int → Int → Int → rz_A → Option (Int × rz_A)
  | 0, _, _, _, _, _, _, _, _ => none
  | n + 1, v3, v4, v5, v6, v7, v9, v11, A =>
    if v11 < 21 then
      x207_agree_327 F (x207_agree_311 F n) F v3 v4 v5 v6 v7 v9 v11 0 0 0 A
    else
      x207_agree_484 F v5 v6 v7 v9 A
theorem cx207_agree_311 {d : Nat} (F : Nat) : ∀ (n : Nat) (v3 : Int) (v4 : Int) (v5 : Int) (v6 : Int) (v7 : Int) (v9 : Int) (v11 : Int) (A : rz_A) (r : Int) (A' : rz_A), x207_agree_311 F n v3 v4 v5 v6 v7 v9 v11 A = some (r, A') → r32 v3 → r32 v4 → r32 v5 → r32 v6 → r64 v7 → r64 v9 → r32 v11 → wf A → rz_B (d + 9) 207 311 [some (.ref 91), none, none, some (vI v3), some (vI v4), some (vI v5), some (vI v6), some (vL v7), none, some (vL v9), none, some (vI v11), none, none, none, none, none] [] A (some (vI r)) A' (r32 r) := by
  intro n
  induction n with
  | zero => intro v3 v4 v5 v6 v7 v9 v11 A r A' h; cases h
  | succ n ih =>
    intro v3 v4 v5 v6 v7 v9 v11 A r A' h hv3 hv4 hv5 hv6 hv7 hv9 hv11 hw
    rw [x207_agree_311] at h
    refine rz_B.go 3 (pc' := if decide (Int32.ofInt 21 ≤ Int32.ofInt v11) = true then 484 else 318) (L' := [some (.ref 91), none, none, some (vI v3), some (vI v4), some (vI v5), some (vI v6), some (vL v7), none, some (vL v9), none, some (vI v11), none, none, none, none, none]) (S' := []) rfl ?_
    by_cases hc1 : v11 < 21
    · have h := if_T h hc1
      refine rz_B.ifF (mt (le32 (by decide) hv11).mp (Int.not_le.mpr hc1)) ?_
      refine rz_B.go 6 (pc' := 327) (L' := [some (.ref 91), none, none, some (vI v3), some (vI v4), some (vI v5), some (vI v6), some (vL v7), none, some (vL v9), none, some (vI v11), some (vL 0), none, some (vI 0), some (vI 0), none]) (S' := []) rfl ?_
      refine rz_B.more (rg_le_ok (L := [some (.ref 91), none, none, some (vI v3), some (vI v4), some (vI v5), some (vI v6), some (vL v7), none, some (vL v9), none, some (vI v11), some (vL 0), none, some (vI 0), some (vI 0), none]) (by simp [rg_le])) ?_
      exact cx207_agree_327 F ih F _ _ _ _ _ _ _ _ _ _ _ _ _ h hv3 hv4 hv5 hv6 hv7 hv9 hv11 (by decide) (by decide) (by decide) hw
    · have h := if_F h hc1
      refine rz_B.ifT ((le32 (by decide) hv11).mpr (Int.not_lt.mp hc1)) ?_
      refine rz_B.more (rg_le_ok (L := [some (.ref 91), none, none, none, none, some (vI v5), some (vI v6), some (vL v7), none, some (vL v9), none, none, none, none, none, none, none]) (by simp [rg_le])) ?_
      exact cx207_agree_484 F _ _ _ _ _ _ _ h hv5 hv6 hv7 hv9 hw
def x207_agree_299 (F : Nat) (v3 : Int) (v4 : Int) (v5 : Int) (A : rz_A) : Option (Int × rz_A) :=
  x207_agree_311 F F v3 v4 v5 (-1) 0 1 0 A
theorem cx207_agree_299 {d : Nat} (F : Nat) : ∀ (v3 : Int) (v4 : Int) (v5 : Int) (A : rz_A) (r : Int) (A' : rz_A), x207_agree_299 F v3 v4 v5 A = some (r, A') → r32 v3 → r32 v4 → r32 v5 → wf A → rz_B (d + 9) 207 299 [some (.ref 91), none, none, some (vI v3), some (vI v4), some (vI v5), none, none, none, none, none, none, none, none, none, none, none] [] A (some (vI r)) A' (r32 r) := by
  intro v3 v4 v5 A r A' h hv3 hv4 hv5 hw
  unfold x207_agree_299 at h
  refine rz_B.go 8 (pc' := 311) (L' := [some (.ref 91), none, none, some (vI v3), some (vI v4), some (vI v5), some (vI (-1)), some (vL 0), none, some (vL 1), none, some (vI 0), none, none, none, none, none]) (S' := []) rfl ?_
  refine rz_B.more (rg_le_ok (L := [some (.ref 91), none, none, some (vI v3), some (vI v4), some (vI v5), some (vI (-1)), some (vL 0), none, some (vL 1), none, some (vI 0), none, none, none, none, none]) (by simp [rg_le])) ?_
  exact cx207_agree_311 F F _ _ _ _ _ _ _ _ _ _ h hv3 hv4 hv5 (by decide) (by decide) (by decide) (by decide) hw
def x207_agree_212 (F : Nat) : Nat → Int → Int → Int → Int → Int → rz_A → Option (Int × rz_A)
  | 0, _, _, _, _, _, _ => none
  | n + 1, v2, v3, v4, v5, v6, A =>
    if v6 < (A.1 91 3) then
      rz_gx v6 300 <|
      rz_g32 ((A.1 105 (v6).toNat) - v3) <|
      if (A.1 104 (v6).toNat) = v2 then
        if 0 ≤ ((A.1 105 (v6).toNat) - v3) then
          rz_g32 (v4 + 20) <|
          if (A.1 105 (v6).toNat) ≤ (v4 + 20) then
            rz_b (x188_flows F v2 (A.1 105 (v6).toNat) (A.1 91 0) A) fun r9 A9 =>
            if r9 = 0 then
              rz_g32 (v6 + 1) <|
              x207_agree_212 F n v2 v3 v4 v5 (v6 + 1) A9
            else
              rz_gx ((A.1 105 (v6).toNat) - v3) 400 <|
              rz_g32 (v6 + 1) <|
              x207_agree_212 F n v2 v3 v4 v5 (v6 + 1) (aI A9 148 (((A.1 105 (v6).toNat) - v3)).toNat (A9.1 91 78))
          else
            rz_g32 (v6 + 1) <|
            x207_agree_212 F n v2 v3 v4 v5 (v6 + 1) A
        else
          rz_g32 (v6 + 1) <|
          x207_agree_212 F n v2 v3 v4 v5 (v6 + 1) A
      else
        rz_g32 (v6 + 1) <|
        x207_agree_212 F n v2 v3 v4 v5 (v6 + 1) A
    else
      x207_agree_299 F v3 v4 v5 A
theorem cx207_agree_212 {d : Nat} (F : Nat) : ∀ (n : Nat) (v2 : Int) (v3 : Int) (v4 : Int) (v5 : Int) (v6 : Int) (A : rz_A) (r : Int) (A' : rz_A), x207_agree_212 F n v2 v3 v4 v5 v6 A = some (r, A') → r32 v2 → r32 v3 → r32 v4 → r32 v5 → r32 v6 → wf A → rz_B (d + 9) 207 212 [some (.ref 91), none, some (vI v2), some (vI v3), some (vI v4), some (vI v5), some (vI v6), none, none, none, none, none, none, none, none, none, none] [] A (some (vI r)) A' (r32 r) := by
  intro n
  induction n with
  | zero => intro v2 v3 v4 v5 v6 A r A' h; cases h
  | succ n ih =>
    intro v2 v3 v4 v5 v6 A r A' h hv2 hv3 hv4 hv5 hv6 hw
    rw [x207_agree_212] at h
    refine rz_B.go 4 (pc' := if decide (Int32.ofInt (A.1 91 3) ≤ Int32.ofInt v6) = true then 299 else 221) (L' := [some (.ref 91), none, some (vI v2), some (vI v3), some (vI v4), some (vI v5), some (vI v6), none, none, none, none, none, none, none, none, none, none]) (S' := []) rfl ?_
    by_cases hc1 : v6 < (A.1 91 3)
    · have h := if_T h hc1
      refine rz_B.ifF (mt (le32 (hw 91 3).1 hv6).mp (Int.not_le.mpr hc1)) ?_
      refine rz_B.go 3 (pc' := 227) (L' := [some (.ref 91), none, some (vI v2), some (vI v3), some (vI v4), some (vI v5), some (vI v6), none, none, none, none, none, none, none, none, none, none]) (S' := [vI v6, .ref 105]) rfl ?_
      obtain ⟨hi2, hj3, h⟩ := rz_gx_inv h
      refine rz_B.iald rfl rfl hi2 hj3 (by decide) ?_
      refine rz_B.go 1 (pc' := 229) (L' := [some (.ref 91), none, some (vI v2), some (vI v3), some (vI v4), some (vI v5), some (vI v6), none, none, none, none, none, none, none, none, none, none]) (S' := [vI v3, vI (A.1 105 (v6).toNat)]) rfl ?_
      obtain ⟨hk4, h⟩ := rz_g32_inv h
      refine rz_B.isub rfl ?_
      refine rz_B.go 4 (pc' := 238) (L' := [some (.ref 91), none, some (vI v2), some (vI v3), some (vI v4), some (vI v5), some (vI v6), some (vI ((A.1 105 (v6).toNat) - v3)), none, none, none, none, none, none, none, none, none]) (S' := [vI v6, .ref 104]) rfl ?_
      refine rz_B.iald rfl rfl hi2 hj3 (by decide) ?_
      refine rz_B.go 2 (pc' := if decide (¬ Int32.ofInt (A.1 104 (v6).toNat) = Int32.ofInt v2) = true then 293 else 243) (L' := [some (.ref 91), none, some (vI v2), some (vI v3), some (vI v4), some (vI v5), some (vI v6), some (vI ((A.1 105 (v6).toNat) - v3)), none, none, none, none, none, none, none, none, none]) (S' := []) rfl ?_
      by_cases hc5 : (A.1 104 (v6).toNat) = v2
      · have h := if_T h hc5
        refine rz_B.ifF (fun hn => hn ((eq32 (hw 104 (v6).toNat).1 hv2).mpr hc5)) ?_
        refine rz_B.go 2 (pc' := if decide (Int32.ofInt ((A.1 105 (v6).toNat) - v3) < Int32.ofInt 0) = true then 293 else 248) (L' := [some (.ref 91), none, some (vI v2), some (vI v3), some (vI v4), some (vI v5), some (vI v6), some (vI ((A.1 105 (v6).toNat) - v3)), none, none, none, none, none, none, none, none, none]) (S' := []) rfl ?_
        by_cases hc6 : 0 ≤ ((A.1 105 (v6).toNat) - v3)
        · have h := if_T h hc6
          refine rz_B.ifF (mt (lt32 hk4 (by decide)).mp (Int.not_lt.mpr hc6)) ?_
          refine rz_B.go 3 (pc' := 254) (L' := [some (.ref 91), none, some (vI v2), some (vI v3), some (vI v4), some (vI v5), some (vI v6), some (vI ((A.1 105 (v6).toNat) - v3)), none, none, none, none, none, none, none, none, none]) (S' := [vI v6, .ref 105]) rfl ?_
          refine rz_B.iald rfl rfl hi2 hj3 (by decide) ?_
          refine rz_B.go 2 (pc' := 259) (L' := [some (.ref 91), none, some (vI v2), some (vI v3), some (vI v4), some (vI v5), some (vI v6), some (vI ((A.1 105 (v6).toNat) - v3)), none, none, none, none, none, none, none, none, none]) (S' := [vI 20, vI v4, vI (A.1 105 (v6).toNat)]) rfl ?_
          obtain ⟨hk7, h⟩ := rz_g32_inv h
          refine rz_B.iadd rfl ?_
          refine rz_B.go 1 (pc' := if decide (Int32.ofInt (v4 + 20) < Int32.ofInt (A.1 105 (v6).toNat)) = true then 293 else 263) (L' := [some (.ref 91), none, some (vI v2), some (vI v3), some (vI v4), some (vI v5), some (vI v6), some (vI ((A.1 105 (v6).toNat) - v3)), none, none, none, none, none, none, none, none, none]) (S' := []) rfl ?_
          by_cases hc8 : (A.1 105 (v6).toNat) ≤ (v4 + 20)
          · have h := if_T h hc8
            refine rz_B.ifF (mt (lt32 hk7 (hw 105 (v6).toNat).1).mp (Int.not_lt.mpr hc8)) ?_
            refine rz_B.go 5 (pc' := 271) (L' := [some (.ref 91), none, some (vI v2), some (vI v3), some (vI v4), some (vI v5), some (vI v6), some (vI ((A.1 105 (v6).toNat) - v3)), none, none, none, none, none, none, none, none, none]) (S' := [vI v6, .ref 105, vI v2, .ref 91]) rfl ?_
            refine rz_B.iald rfl rfl hi2 hj3 (by decide) ?_
            refine rz_B.go 2 (pc' := 276) (L' := [some (.ref 91), none, some (vI v2), some (vI v3), some (vI v4), some (vI v5), some (vI v6), some (vI ((A.1 105 (v6).toNat) - v3)), none, none, none, none, none, none, none, none, none]) (S' := [vI (A.1 91 0), vI (A.1 105 (v6).toNat), vI v2, .ref 91]) rfl ?_
            obtain ⟨r9, A9, hf9, h⟩ := rz_b_inv h
            obtain ⟨hg9, hr9, hw9⟩ := cx188_flows F (d := d + 0) hf9 hv2 (hw 105 (v6).toNat).1 (hw 91 0).1 hw
            refine rz_B.call (d := d + 8) (as := [.ref 91, vI v2, vI (A.1 105 (v6).toNat), vI (A.1 91 0)]) (rest := []) (w := some (vI r9)) rfl hg9 ?_
            refine rz_B.go 1 (pc' := if decide (Int32.ofInt r9 = Int32.ofInt 0) = true then 293 else 282) (L' := [some (.ref 91), none, some (vI v2), some (vI v3), some (vI v4), some (vI v5), some (vI v6), some (vI ((A.1 105 (v6).toNat) - v3)), none, none, none, none, none, none, none, none, none]) (S' := []) rfl ?_
            by_cases hc10 : r9 = 0
            · have h := if_T h hc10
              refine rz_B.ifT ((eq32 hr9 (by decide)).mpr hc10) ?_
              obtain ⟨hk11, h⟩ := rz_g32_inv h
              refine rz_B.iinc rfl (by decide) rfl (L' := [some (.ref 91), none, some (vI v2), some (vI v3), some (vI v4), some (vI v5), some (vI (v6 + 1)), some (vI ((A.1 105 (v6).toNat) - v3)), none, none, none, none, none, none, none, none, none]) rfl ?_
              refine rz_B.go 1 (pc' := 212) (L' := [some (.ref 91), none, some (vI v2), some (vI v3), some (vI v4), some (vI v5), some (vI (v6 + 1)), some (vI ((A.1 105 (v6).toNat) - v3)), none, none, none, none, none, none, none, none, none]) (S' := []) rfl ?_
              refine rz_B.more (rg_le_ok (L := [some (.ref 91), none, some (vI v2), some (vI v3), some (vI v4), some (vI v5), some (vI (v6 + 1)), none, none, none, none, none, none, none, none, none, none]) (by simp [rg_le])) ?_
              exact ih _ _ _ _ _ _ _ _ h hv2 hv3 hv4 hv5 hk11 hw9
            · have h := if_F h hc10
              refine rz_B.ifF (mt (eq32 hr9 (by decide)).mp hc10) ?_
              refine rz_B.go 5 (pc' := 292) (L' := [some (.ref 91), none, some (vI v2), some (vI v3), some (vI v4), some (vI v5), some (vI v6), some (vI ((A.1 105 (v6).toNat) - v3)), none, none, none, none, none, none, none, none, none]) (S' := [vI (A9.1 91 78), vI ((A.1 105 (v6).toNat) - v3), .ref 148]) rfl ?_
              obtain ⟨hi12, hj13, h⟩ := rz_gx_inv h
              refine rz_B.iast rfl rfl hi12 hj13 (by decide) ?_
              have hw14 : wf (aI A9 148 (((A.1 105 (v6).toNat) - v3)).toNat (A9.1 91 78)) := wf_aI hw9 (hw9 91 78).1
              obtain ⟨hk15, h⟩ := rz_g32_inv h
              refine rz_B.iinc rfl (by decide) rfl (L' := [some (.ref 91), none, some (vI v2), some (vI v3), some (vI v4), some (vI v5), some (vI (v6 + 1)), some (vI ((A.1 105 (v6).toNat) - v3)), none, none, none, none, none, none, none, none, none]) rfl ?_
              refine rz_B.go 1 (pc' := 212) (L' := [some (.ref 91), none, some (vI v2), some (vI v3), some (vI v4), some (vI v5), some (vI (v6 + 1)), some (vI ((A.1 105 (v6).toNat) - v3)), none, none, none, none, none, none, none, none, none]) (S' := []) rfl ?_
              refine rz_B.more (rg_le_ok (L := [some (.ref 91), none, some (vI v2), some (vI v3), some (vI v4), some (vI v5), some (vI (v6 + 1)), none, none, none, none, none, none, none, none, none, none]) (by simp [rg_le])) ?_
              exact ih _ _ _ _ _ _ _ _ h hv2 hv3 hv4 hv5 hk15 hw14
          · have h := if_F h hc8
            refine rz_B.ifT ((lt32 hk7 (hw 105 (v6).toNat).1).mpr (Int.not_le.mp hc8)) ?_
            obtain ⟨hk16, h⟩ := rz_g32_inv h
            refine rz_B.iinc rfl (by decide) rfl (L' := [some (.ref 91), none, some (vI v2), some (vI v3), some (vI v4), some (vI v5), some (vI (v6 + 1)), some (vI ((A.1 105 (v6).toNat) - v3)), none, none, none, none, none, none, none, none, none]) rfl ?_
            refine rz_B.go 1 (pc' := 212) (L' := [some (.ref 91), none, some (vI v2), some (vI v3), some (vI v4), some (vI v5), some (vI (v6 + 1)), some (vI ((A.1 105 (v6).toNat) - v3)), none, none, none, none, none, none, none, none, none]) (S' := []) rfl ?_
            refine rz_B.more (rg_le_ok (L := [some (.ref 91), none, some (vI v2), some (vI v3), some (vI v4), some (vI v5), some (vI (v6 + 1)), none, none, none, none, none, none, none, none, none, none]) (by simp [rg_le])) ?_
            exact ih _ _ _ _ _ _ _ _ h hv2 hv3 hv4 hv5 hk16 hw
        · have h := if_F h hc6
          refine rz_B.ifT ((lt32 hk4 (by decide)).mpr (Int.not_le.mp hc6)) ?_
          obtain ⟨hk17, h⟩ := rz_g32_inv h
          refine rz_B.iinc rfl (by decide) rfl (L' := [some (.ref 91), none, some (vI v2), some (vI v3), some (vI v4), some (vI v5), some (vI (v6 + 1)), some (vI ((A.1 105 (v6).toNat) - v3)), none, none, none, none, none, none, none, none, none]) rfl ?_
          refine rz_B.go 1 (pc' := 212) (L' := [some (.ref 91), none, some (vI v2), some (vI v3), some (vI v4), some (vI v5), some (vI (v6 + 1)), some (vI ((A.1 105 (v6).toNat) - v3)), none, none, none, none, none, none, none, none, none]) (S' := []) rfl ?_
          refine rz_B.more (rg_le_ok (L := [some (.ref 91), none, some (vI v2), some (vI v3), some (vI v4), some (vI v5), some (vI (v6 + 1)), none, none, none, none, none, none, none, none, none, none]) (by simp [rg_le])) ?_
          exact ih _ _ _ _ _ _ _ _ h hv2 hv3 hv4 hv5 hk17 hw
      · have h := if_F h hc5
        refine rz_B.ifT (mt (eq32 (hw 104 (v6).toNat).1 hv2).mp hc5) ?_
        obtain ⟨hk18, h⟩ := rz_g32_inv h
        refine rz_B.iinc rfl (by decide) rfl (L' := [some (.ref 91), none, some (vI v2), some (vI v3), some (vI v4), some (vI v5), some (vI (v6 + 1)), some (vI ((A.1 105 (v6).toNat) - v3)), none, none, none, none, none, none, none, none, none]) rfl ?_
        refine rz_B.go 1 (pc' := 212) (L' := [some (.ref 91), none, some (vI v2), some (vI v3), some (vI v4), some (vI v5), some (vI (v6 + 1)), some (vI ((A.1 105 (v6).toNat) - v3)), none, none, none, none, none, none, none, none, none]) (S' := []) rfl ?_
        refine rz_B.more (rg_le_ok (L := [some (.ref 91), none, some (vI v2), some (vI v3), some (vI v4), some (vI v5), some (vI (v6 + 1)), none, none, none, none, none, none, none, none, none, none]) (by simp [rg_le])) ?_
        exact ih _ _ _ _ _ _ _ _ h hv2 hv3 hv4 hv5 hk18 hw
    · have h := if_F h hc1
      refine rz_B.ifT ((le32 (hw 91 3).1 hv6).mpr (Int.not_lt.mp hc1)) ?_
      refine rz_B.more (rg_le_ok (L := [some (.ref 91), none, none, some (vI v3), some (vI v4), some (vI v5), none, none, none, none, none, none, none, none, none, none, none]) (by simp [rg_le])) ?_
      exact cx207_agree_299 F _ _ _ _ _ _ h hv3 hv4 hv5 hw
def x207_agree_125 (F : Nat) : Nat → Int → Int → Int → Int → Int → Int → rz_A → Option (Int × rz_A)
  | 0, _, _, _, _, _, _, _ => none
  | n + 1, v1, v2, v3, v4, v5, v6, A =>
    if v6 < (A.1 91 3) then
      rz_gx v6 300 <|
      rz_g32 ((A.1 105 (v6).toNat) - v3) <|
      if (A.1 104 (v6).toNat) = v1 then
        if 0 ≤ ((A.1 105 (v6).toNat) - v3) then
          if (A.1 105 (v6).toNat) ≤ v4 then
            rz_b (x188_flows F v1 (A.1 105 (v6).toNat) (A.1 91 0) A) fun r8 A8 =>
            if r8 = 0 then
              rz_g32 (v6 + 1) <|
              x207_agree_125 F n v1 v2 v3 v4 v5 (v6 + 1) A8
            else
              rz_gx ((A.1 105 (v6).toNat) - v3) 400 <|
              rz_g32 (v6 + 1) <|
              x207_agree_125 F n v1 v2 v3 v4 v5 (v6 + 1) (aI A8 147 (((A.1 105 (v6).toNat) - v3)).toNat (A8.1 91 78))
          else
            rz_g32 (v6 + 1) <|
            x207_agree_125 F n v1 v2 v3 v4 v5 (v6 + 1) A
        else
          rz_g32 (v6 + 1) <|
          x207_agree_125 F n v1 v2 v3 v4 v5 (v6 + 1) A
      else
        rz_g32 (v6 + 1) <|
        x207_agree_125 F n v1 v2 v3 v4 v5 (v6 + 1) A
    else
      x207_agree_212 F F v2 v3 v4 v5 0 A
theorem cx207_agree_125 {d : Nat} (F : Nat) : ∀ (n : Nat) (v1 : Int) (v2 : Int) (v3 : Int) (v4 : Int) (v5 : Int) (v6 : Int) (A : rz_A) (r : Int) (A' : rz_A), x207_agree_125 F n v1 v2 v3 v4 v5 v6 A = some (r, A') → r32 v1 → r32 v2 → r32 v3 → r32 v4 → r32 v5 → r32 v6 → wf A → rz_B (d + 9) 207 125 [some (.ref 91), some (vI v1), some (vI v2), some (vI v3), some (vI v4), some (vI v5), some (vI v6), none, none, none, none, none, none, none, none, none, none] [] A (some (vI r)) A' (r32 r) := by
  intro n
  induction n with
  | zero => intro v1 v2 v3 v4 v5 v6 A r A' h; cases h
  | succ n ih =>
    intro v1 v2 v3 v4 v5 v6 A r A' h hv1 hv2 hv3 hv4 hv5 hv6 hw
    rw [x207_agree_125] at h
    refine rz_B.go 4 (pc' := if decide (Int32.ofInt (A.1 91 3) ≤ Int32.ofInt v6) = true then 209 else 134) (L' := [some (.ref 91), some (vI v1), some (vI v2), some (vI v3), some (vI v4), some (vI v5), some (vI v6), none, none, none, none, none, none, none, none, none, none]) (S' := []) rfl ?_
    by_cases hc1 : v6 < (A.1 91 3)
    · have h := if_T h hc1
      refine rz_B.ifF (mt (le32 (hw 91 3).1 hv6).mp (Int.not_le.mpr hc1)) ?_
      refine rz_B.go 3 (pc' := 140) (L' := [some (.ref 91), some (vI v1), some (vI v2), some (vI v3), some (vI v4), some (vI v5), some (vI v6), none, none, none, none, none, none, none, none, none, none]) (S' := [vI v6, .ref 105]) rfl ?_
      obtain ⟨hi2, hj3, h⟩ := rz_gx_inv h
      refine rz_B.iald rfl rfl hi2 hj3 (by decide) ?_
      refine rz_B.go 1 (pc' := 142) (L' := [some (.ref 91), some (vI v1), some (vI v2), some (vI v3), some (vI v4), some (vI v5), some (vI v6), none, none, none, none, none, none, none, none, none, none]) (S' := [vI v3, vI (A.1 105 (v6).toNat)]) rfl ?_
      obtain ⟨hk4, h⟩ := rz_g32_inv h
      refine rz_B.isub rfl ?_
      refine rz_B.go 4 (pc' := 151) (L' := [some (.ref 91), some (vI v1), some (vI v2), some (vI v3), some (vI v4), some (vI v5), some (vI v6), some (vI ((A.1 105 (v6).toNat) - v3)), none, none, none, none, none, none, none, none, none]) (S' := [vI v6, .ref 104]) rfl ?_
      refine rz_B.iald rfl rfl hi2 hj3 (by decide) ?_
      refine rz_B.go 2 (pc' := if decide (¬ Int32.ofInt (A.1 104 (v6).toNat) = Int32.ofInt v1) = true then 203 else 156) (L' := [some (.ref 91), some (vI v1), some (vI v2), some (vI v3), some (vI v4), some (vI v5), some (vI v6), some (vI ((A.1 105 (v6).toNat) - v3)), none, none, none, none, none, none, none, none, none]) (S' := []) rfl ?_
      by_cases hc5 : (A.1 104 (v6).toNat) = v1
      · have h := if_T h hc5
        refine rz_B.ifF (fun hn => hn ((eq32 (hw 104 (v6).toNat).1 hv1).mpr hc5)) ?_
        refine rz_B.go 2 (pc' := if decide (Int32.ofInt ((A.1 105 (v6).toNat) - v3) < Int32.ofInt 0) = true then 203 else 161) (L' := [some (.ref 91), some (vI v1), some (vI v2), some (vI v3), some (vI v4), some (vI v5), some (vI v6), some (vI ((A.1 105 (v6).toNat) - v3)), none, none, none, none, none, none, none, none, none]) (S' := []) rfl ?_
        by_cases hc6 : 0 ≤ ((A.1 105 (v6).toNat) - v3)
        · have h := if_T h hc6
          refine rz_B.ifF (mt (lt32 hk4 (by decide)).mp (Int.not_lt.mpr hc6)) ?_
          refine rz_B.go 3 (pc' := 167) (L' := [some (.ref 91), some (vI v1), some (vI v2), some (vI v3), some (vI v4), some (vI v5), some (vI v6), some (vI ((A.1 105 (v6).toNat) - v3)), none, none, none, none, none, none, none, none, none]) (S' := [vI v6, .ref 105]) rfl ?_
          refine rz_B.iald rfl rfl hi2 hj3 (by decide) ?_
          refine rz_B.go 2 (pc' := if decide (Int32.ofInt v4 < Int32.ofInt (A.1 105 (v6).toNat)) = true then 203 else 173) (L' := [some (.ref 91), some (vI v1), some (vI v2), some (vI v3), some (vI v4), some (vI v5), some (vI v6), some (vI ((A.1 105 (v6).toNat) - v3)), none, none, none, none, none, none, none, none, none]) (S' := []) rfl ?_
          by_cases hc7 : (A.1 105 (v6).toNat) ≤ v4
          · have h := if_T h hc7
            refine rz_B.ifF (mt (lt32 hv4 (hw 105 (v6).toNat).1).mp (Int.not_lt.mpr hc7)) ?_
            refine rz_B.go 5 (pc' := 181) (L' := [some (.ref 91), some (vI v1), some (vI v2), some (vI v3), some (vI v4), some (vI v5), some (vI v6), some (vI ((A.1 105 (v6).toNat) - v3)), none, none, none, none, none, none, none, none, none]) (S' := [vI v6, .ref 105, vI v1, .ref 91]) rfl ?_
            refine rz_B.iald rfl rfl hi2 hj3 (by decide) ?_
            refine rz_B.go 2 (pc' := 186) (L' := [some (.ref 91), some (vI v1), some (vI v2), some (vI v3), some (vI v4), some (vI v5), some (vI v6), some (vI ((A.1 105 (v6).toNat) - v3)), none, none, none, none, none, none, none, none, none]) (S' := [vI (A.1 91 0), vI (A.1 105 (v6).toNat), vI v1, .ref 91]) rfl ?_
            obtain ⟨r8, A8, hf8, h⟩ := rz_b_inv h
            obtain ⟨hg8, hr8, hw8⟩ := cx188_flows F (d := d + 0) hf8 hv1 (hw 105 (v6).toNat).1 (hw 91 0).1 hw
            refine rz_B.call (d := d + 8) (as := [.ref 91, vI v1, vI (A.1 105 (v6).toNat), vI (A.1 91 0)]) (rest := []) (w := some (vI r8)) rfl hg8 ?_
            refine rz_B.go 1 (pc' := if decide (Int32.ofInt r8 = Int32.ofInt 0) = true then 203 else 192) (L' := [some (.ref 91), some (vI v1), some (vI v2), some (vI v3), some (vI v4), some (vI v5), some (vI v6), some (vI ((A.1 105 (v6).toNat) - v3)), none, none, none, none, none, none, none, none, none]) (S' := []) rfl ?_
            by_cases hc9 : r8 = 0
            · have h := if_T h hc9
              refine rz_B.ifT ((eq32 hr8 (by decide)).mpr hc9) ?_
              obtain ⟨hk10, h⟩ := rz_g32_inv h
              refine rz_B.iinc rfl (by decide) rfl (L' := [some (.ref 91), some (vI v1), some (vI v2), some (vI v3), some (vI v4), some (vI v5), some (vI (v6 + 1)), some (vI ((A.1 105 (v6).toNat) - v3)), none, none, none, none, none, none, none, none, none]) rfl ?_
              refine rz_B.go 1 (pc' := 125) (L' := [some (.ref 91), some (vI v1), some (vI v2), some (vI v3), some (vI v4), some (vI v5), some (vI (v6 + 1)), some (vI ((A.1 105 (v6).toNat) - v3)), none, none, none, none, none, none, none, none, none]) (S' := []) rfl ?_
              refine rz_B.more (rg_le_ok (L := [some (.ref 91), some (vI v1), some (vI v2), some (vI v3), some (vI v4), some (vI v5), some (vI (v6 + 1)), none, none, none, none, none, none, none, none, none, none]) (by simp [rg_le])) ?_
              exact ih _ _ _ _ _ _ _ _ _ h hv1 hv2 hv3 hv4 hv5 hk10 hw8
            · have h := if_F h hc9
              refine rz_B.ifF (mt (eq32 hr8 (by decide)).mp hc9) ?_
              refine rz_B.go 5 (pc' := 202) (L' := [some (.ref 91), some (vI v1), some (vI v2), some (vI v3), some (vI v4), some (vI v5), some (vI v6), some (vI ((A.1 105 (v6).toNat) - v3)), none, none, none, none, none, none, none, none, none]) (S' := [vI (A8.1 91 78), vI ((A.1 105 (v6).toNat) - v3), .ref 147]) rfl ?_
              obtain ⟨hi11, hj12, h⟩ := rz_gx_inv h
              refine rz_B.iast rfl rfl hi11 hj12 (by decide) ?_
              have hw13 : wf (aI A8 147 (((A.1 105 (v6).toNat) - v3)).toNat (A8.1 91 78)) := wf_aI hw8 (hw8 91 78).1
              obtain ⟨hk14, h⟩ := rz_g32_inv h
              refine rz_B.iinc rfl (by decide) rfl (L' := [some (.ref 91), some (vI v1), some (vI v2), some (vI v3), some (vI v4), some (vI v5), some (vI (v6 + 1)), some (vI ((A.1 105 (v6).toNat) - v3)), none, none, none, none, none, none, none, none, none]) rfl ?_
              refine rz_B.go 1 (pc' := 125) (L' := [some (.ref 91), some (vI v1), some (vI v2), some (vI v3), some (vI v4), some (vI v5), some (vI (v6 + 1)), some (vI ((A.1 105 (v6).toNat) - v3)), none, none, none, none, none, none, none, none, none]) (S' := []) rfl ?_
              refine rz_B.more (rg_le_ok (L := [some (.ref 91), some (vI v1), some (vI v2), some (vI v3), some (vI v4), some (vI v5), some (vI (v6 + 1)), none, none, none, none, none, none, none, none, none, none]) (by simp [rg_le])) ?_
              exact ih _ _ _ _ _ _ _ _ _ h hv1 hv2 hv3 hv4 hv5 hk14 hw13
          · have h := if_F h hc7
            refine rz_B.ifT ((lt32 hv4 (hw 105 (v6).toNat).1).mpr (Int.not_le.mp hc7)) ?_
            obtain ⟨hk15, h⟩ := rz_g32_inv h
            refine rz_B.iinc rfl (by decide) rfl (L' := [some (.ref 91), some (vI v1), some (vI v2), some (vI v3), some (vI v4), some (vI v5), some (vI (v6 + 1)), some (vI ((A.1 105 (v6).toNat) - v3)), none, none, none, none, none, none, none, none, none]) rfl ?_
            refine rz_B.go 1 (pc' := 125) (L' := [some (.ref 91), some (vI v1), some (vI v2), some (vI v3), some (vI v4), some (vI v5), some (vI (v6 + 1)), some (vI ((A.1 105 (v6).toNat) - v3)), none, none, none, none, none, none, none, none, none]) (S' := []) rfl ?_
            refine rz_B.more (rg_le_ok (L := [some (.ref 91), some (vI v1), some (vI v2), some (vI v3), some (vI v4), some (vI v5), some (vI (v6 + 1)), none, none, none, none, none, none, none, none, none, none]) (by simp [rg_le])) ?_
            exact ih _ _ _ _ _ _ _ _ _ h hv1 hv2 hv3 hv4 hv5 hk15 hw
        · have h := if_F h hc6
          refine rz_B.ifT ((lt32 hk4 (by decide)).mpr (Int.not_le.mp hc6)) ?_
          obtain ⟨hk16, h⟩ := rz_g32_inv h
          refine rz_B.iinc rfl (by decide) rfl (L' := [some (.ref 91), some (vI v1), some (vI v2), some (vI v3), some (vI v4), some (vI v5), some (vI (v6 + 1)), some (vI ((A.1 105 (v6).toNat) - v3)), none, none, none, none, none, none, none, none, none]) rfl ?_
          refine rz_B.go 1 (pc' := 125) (L' := [some (.ref 91), some (vI v1), some (vI v2), some (vI v3), some (vI v4), some (vI v5), some (vI (v6 + 1)), some (vI ((A.1 105 (v6).toNat) - v3)), none, none, none, none, none, none, none, none, none]) (S' := []) rfl ?_
          refine rz_B.more (rg_le_ok (L := [some (.ref 91), some (vI v1), some (vI v2), some (vI v3), some (vI v4), some (vI v5), some (vI (v6 + 1)), none, none, none, none, none, none, none, none, none, none]) (by simp [rg_le])) ?_
          exact ih _ _ _ _ _ _ _ _ _ h hv1 hv2 hv3 hv4 hv5 hk16 hw
      · have h := if_F h hc5
        refine rz_B.ifT (mt (eq32 (hw 104 (v6).toNat).1 hv1).mp hc5) ?_
        obtain ⟨hk17, h⟩ := rz_g32_inv h
        refine rz_B.iinc rfl (by decide) rfl (L' := [some (.ref 91), some (vI v1), some (vI v2), some (vI v3), some (vI v4), some (vI v5), some (vI (v6 + 1)), some (vI ((A.1 105 (v6).toNat) - v3)), none, none, none, none, none, none, none, none, none]) rfl ?_
        refine rz_B.go 1 (pc' := 125) (L' := [some (.ref 91), some (vI v1), some (vI v2), some (vI v3), some (vI v4), some (vI v5), some (vI (v6 + 1)), some (vI ((A.1 105 (v6).toNat) - v3)), none, none, none, none, none, none, none, none, none]) (S' := []) rfl ?_
        refine rz_B.more (rg_le_ok (L := [some (.ref 91), some (vI v1), some (vI v2), some (vI v3), some (vI v4), some (vI v5), some (vI (v6 + 1)), none, none, none, none, none, none, none, none, none, none]) (by simp [rg_le])) ?_
        exact ih _ _ _ _ _ _ _ _ _ h hv1 hv2 hv3 hv4 hv5 hk17 hw
    · have h := if_F h hc1
      refine rz_B.ifT ((le32 (hw 91 3).1 hv6).mpr (Int.not_lt.mp hc1)) ?_
      refine rz_B.go 2 (pc' := 212) (L' := [some (.ref 91), some (vI v1), some (vI v2), some (vI v3), some (vI v4), some (vI v5), some (vI 0), none, none, none, none, none, none, none, none, none, none]) (S' := []) rfl ?_
      refine rz_B.more (rg_le_ok (L := [some (.ref 91), none, some (vI v2), some (vI v3), some (vI v4), some (vI v5), some (vI 0), none, none, none, none, none, none, none, none, none, none]) (by simp [rg_le])) ?_
      exact cx207_agree_212 F F _ _ _ _ _ _ _ _ h hv2 hv3 hv4 hv5 (by decide) hw
def x207_agree_92 (F : Nat) : Nat → Int → Int → Int → Int → Int → Int → rz_A → Option (Int × rz_A)
  | 0, _, _, _, _, _, _, _ => none
  | n + 1, v1, v2, v3, v4, v5, v6, A =>
    if v6 < 400 then
      rz_gx v6 400 <|
      rz_g32 (v6 + 1) <|
      x207_agree_92 F n v1 v2 v3 v4 v5 (v6 + 1) (aI (aI A 147 (v6).toNat (-1)) 148 (v6).toNat (-1))
    else
      x207_agree_125 F F v1 v2 v3 v4 v5 0 A
theorem cx207_agree_92 {d : Nat} (F : Nat) : ∀ (n : Nat) (v1 : Int) (v2 : Int) (v3 : Int) (v4 : Int) (v5 : Int) (v6 : Int) (A : rz_A) (r : Int) (A' : rz_A), x207_agree_92 F n v1 v2 v3 v4 v5 v6 A = some (r, A') → r32 v1 → r32 v2 → r32 v3 → r32 v4 → r32 v5 → r32 v6 → wf A → rz_B (d + 9) 207 92 [some (.ref 91), some (vI v1), some (vI v2), some (vI v3), some (vI v4), some (vI v5), some (vI v6), none, none, none, none, none, none, none, none, none, none] [] A (some (vI r)) A' (r32 r) := by
  intro n
  induction n with
  | zero => intro v1 v2 v3 v4 v5 v6 A r A' h; cases h
  | succ n ih =>
    intro v1 v2 v3 v4 v5 v6 A r A' h hv1 hv2 hv3 hv4 hv5 hv6 hw
    rw [x207_agree_92] at h
    refine rz_B.go 3 (pc' := if decide (Int32.ofInt 400 ≤ Int32.ofInt v6) = true then 122 else 100) (L' := [some (.ref 91), some (vI v1), some (vI v2), some (vI v3), some (vI v4), some (vI v5), some (vI v6), none, none, none, none, none, none, none, none, none, none]) (S' := []) rfl ?_
    by_cases hc1 : v6 < 400
    · have h := if_T h hc1
      refine rz_B.ifF (mt (le32 (by decide) hv6).mp (Int.not_le.mpr hc1)) ?_
      refine rz_B.go 4 (pc' := 107) (L' := [some (.ref 91), some (vI v1), some (vI v2), some (vI v3), some (vI v4), some (vI v5), some (vI v6), none, none, none, none, none, none, none, none, none, none]) (S' := [vI (-1), vI v6, .ref 147]) rfl ?_
      obtain ⟨hi2, hj3, h⟩ := rz_gx_inv h
      refine rz_B.iast rfl rfl hi2 hj3 (by decide) ?_
      have hw4 : wf (aI A 147 (v6).toNat (-1)) := wf_aI hw (by decide)
      refine rz_B.go 4 (pc' := 115) (L' := [some (.ref 91), some (vI v1), some (vI v2), some (vI v3), some (vI v4), some (vI v5), some (vI v6), none, none, none, none, none, none, none, none, none, none]) (S' := [vI (-1), vI v6, .ref 148]) rfl ?_
      refine rz_B.iast rfl rfl hi2 hj3 (by decide) ?_
      have hw5 : wf (aI (aI A 147 (v6).toNat (-1)) 148 (v6).toNat (-1)) := wf_aI hw4 (by decide)
      obtain ⟨hk6, h⟩ := rz_g32_inv h
      refine rz_B.iinc rfl (by decide) rfl (L' := [some (.ref 91), some (vI v1), some (vI v2), some (vI v3), some (vI v4), some (vI v5), some (vI (v6 + 1)), none, none, none, none, none, none, none, none, none, none]) rfl ?_
      refine rz_B.go 1 (pc' := 92) (L' := [some (.ref 91), some (vI v1), some (vI v2), some (vI v3), some (vI v4), some (vI v5), some (vI (v6 + 1)), none, none, none, none, none, none, none, none, none, none]) (S' := []) rfl ?_
      refine rz_B.more (rg_le_ok (L := [some (.ref 91), some (vI v1), some (vI v2), some (vI v3), some (vI v4), some (vI v5), some (vI (v6 + 1)), none, none, none, none, none, none, none, none, none, none]) (by simp [rg_le])) ?_
      exact ih _ _ _ _ _ _ _ _ _ h hv1 hv2 hv3 hv4 hv5 hk6 hw5
    · have h := if_F h hc1
      refine rz_B.ifT ((le32 (by decide) hv6).mpr (Int.not_lt.mp hc1)) ?_
      refine rz_B.go 2 (pc' := 125) (L' := [some (.ref 91), some (vI v1), some (vI v2), some (vI v3), some (vI v4), some (vI v5), some (vI 0), none, none, none, none, none, none, none, none, none, none]) (S' := []) rfl ?_
      refine rz_B.more (rg_le_ok (L := [some (.ref 91), some (vI v1), some (vI v2), some (vI v3), some (vI v4), some (vI v5), some (vI 0), none, none, none, none, none, none, none, none, none, none]) (by simp [rg_le])) ?_
      exact cx207_agree_125 F F _ _ _ _ _ _ _ _ _ h hv1 hv2 hv3 hv4 hv5 (by decide) hw
/-- RiverGaugeModel.agree(IIIII)I -/
def x207_agree (F : Nat) (a0 : Int) (a1 : Int) (a2 : Int) (a3 : Int) (a4 : Int) (A : rz_A) : Option (Int × rz_A) :=
  rz_b (x145_isPost F a0 A) fun r1 A1 =>
  if r1 = 0 then
    rz_b (x142_no F (-1) A1) fun r3 A3 =>
    some (r3, A3)
  else
    rz_b (x145_isPost F a1 A1) fun r4 A4 =>
    if r4 = 0 then
      rz_b (x142_no F (-1) A4) fun r6 A6 =>
      some (r6, A6)
    else
      if 0 ≤ a4 then
        if 2 < a4 then
          rz_b (x142_no F (-2) A4) fun r9 A9 =>
          some (r9, A9)
        else
          if 0 ≤ a2 then
            if a3 < a2 then
              rz_b (x142_no F (-4) A4) fun r12 A12 =>
              some (r12, A12)
            else
              if a2 ≤ 9999 then
                if a3 ≤ 9999 then
                  rz_g32 (a3 - a2) <|
                  if 299 < (a3 - a2) then
                    rz_b (x142_no F (-6) A4) fun r17 A17 =>
                    some (r17, A17)
                  else
                    x207_agree_92 F F a0 a1 a2 a3 a4 0 A4
                else
                  rz_b (x142_no F (-6) A4) fun r18 A18 =>
                  some (r18, A18)
              else
                rz_b (x142_no F (-6) A4) fun r19 A19 =>
                some (r19, A19)
          else
            rz_b (x142_no F (-4) A4) fun r20 A20 =>
            some (r20, A20)
      else
        rz_b (x142_no F (-2) A4) fun r21 A21 =>
        some (r21, A21)
theorem cx207_agree (F : Nat) {d : Nat} {a0 : Int} {a1 : Int} {a2 : Int} {a3 : Int} {a4 : Int} {A : rz_A} {r : Int} {A' : rz_A} (h : x207_agree F a0 a1 a2 a3 a4 A = some (r, A')) (ha0 : r32 a0) (ha1 : r32 a1) (ha2 : r32 a2) (ha3 : r32 a3) (ha4 : r32 a4) (hw : wf A) : rg_Rn (d + 9) 207 [.ref 91, vI a0, vI a1, vI a2, vI a3, vI a4] (toM A) (some (vI r)) (toM A') ∧ (r32 r) ∧ wf A' := by
  show rz_B (d + 9) 207 0 [some (.ref 91), some (vI a0), some (vI a1), some (vI a2), some (vI a3), some (vI a4), none, none, none, none, none, none, none, none, none, none, none] [] A (some (vI r)) A' (r32 r)
  unfold x207_agree at h
  refine rz_B.go 2 (pc' := 2) (L' := [some (.ref 91), some (vI a0), some (vI a1), some (vI a2), some (vI a3), some (vI a4), none, none, none, none, none, none, none, none, none, none, none]) (S' := [vI a0, .ref 91]) rfl ?_
  obtain ⟨r1, A1, hf1, h⟩ := rz_b_inv h
  obtain ⟨hg1, hr1, hw1⟩ := cx145_isPost F (d := d + 8) hf1 ha0 hw
  refine rz_B.call (d := d + 8) (as := [.ref 91, vI a0]) (rest := []) (w := some (vI r1)) rfl hg1 ?_
  refine rz_B.go 1 (pc' := if decide (Int32.ofInt r1 = Int32.ofInt 0) = true then 16 else 8) (L' := [some (.ref 91), some (vI a0), some (vI a1), some (vI a2), some (vI a3), some (vI a4), none, none, none, none, none, none, none, none, none, none, none]) (S' := []) rfl ?_
  by_cases hc2 : r1 = 0
  · have h := if_T h hc2
    refine rz_B.ifT ((eq32 hr1 (by decide)).mpr hc2) ?_
    refine rz_B.go 2 (pc' := 18) (L' := [some (.ref 91), some (vI a0), some (vI a1), some (vI a2), some (vI a3), some (vI a4), none, none, none, none, none, none, none, none, none, none, none]) (S' := [vI (-1), .ref 91]) rfl ?_
    obtain ⟨r3, A3, hf3, h⟩ := rz_b_inv h
    obtain ⟨hg3, hr3, hw3⟩ := cx142_no F (d := d + 8) hf3 (by decide) hw1
    refine rz_B.call (d := d + 8) (as := [.ref 91, vI (-1)]) (rest := []) (w := some (vI r3)) rfl hg3 ?_
    cases h
    exact rz_B.ret rfl hr3 hw3
  · have h := if_F h hc2
    refine rz_B.ifF (mt (eq32 hr1 (by decide)).mp hc2) ?_
    refine rz_B.go 2 (pc' := 10) (L' := [some (.ref 91), some (vI a0), some (vI a1), some (vI a2), some (vI a3), some (vI a4), none, none, none, none, none, none, none, none, none, none, none]) (S' := [vI a1, .ref 91]) rfl ?_
    obtain ⟨r4, A4, hf4, h⟩ := rz_b_inv h
    obtain ⟨hg4, hr4, hw4⟩ := cx145_isPost F (d := d + 8) hf4 ha1 hw1
    refine rz_B.call (d := d + 8) (as := [.ref 91, vI a1]) (rest := []) (w := some (vI r4)) rfl hg4 ?_
    refine rz_B.go 1 (pc' := if decide (¬ Int32.ofInt r4 = Int32.ofInt 0) = true then 22 else 16) (L' := [some (.ref 91), some (vI a0), some (vI a1), some (vI a2), some (vI a3), some (vI a4), none, none, none, none, none, none, none, none, none, none, none]) (S' := []) rfl ?_
    by_cases hc5 : r4 = 0
    · have h := if_T h hc5
      refine rz_B.ifF (fun hn => hn ((eq32 hr4 (by decide)).mpr hc5)) ?_
      refine rz_B.go 2 (pc' := 18) (L' := [some (.ref 91), some (vI a0), some (vI a1), some (vI a2), some (vI a3), some (vI a4), none, none, none, none, none, none, none, none, none, none, none]) (S' := [vI (-1), .ref 91]) rfl ?_
      obtain ⟨r6, A6, hf6, h⟩ := rz_b_inv h
      obtain ⟨hg6, hr6, hw6⟩ := cx142_no F (d := d + 8) hf6 (by decide) hw4
      refine rz_B.call (d := d + 8) (as := [.ref 91, vI (-1)]) (rest := []) (w := some (vI r6)) rfl hg6 ?_
      cases h
      exact rz_B.ret rfl hr6 hw6
    · have h := if_F h hc5
      refine rz_B.ifT (mt (eq32 hr4 (by decide)).mp hc5) ?_
      refine rz_B.go 2 (pc' := if decide (Int32.ofInt a4 < Int32.ofInt 0) = true then 33 else 27) (L' := [some (.ref 91), some (vI a0), some (vI a1), some (vI a2), some (vI a3), some (vI a4), none, none, none, none, none, none, none, none, none, none, none]) (S' := []) rfl ?_
      by_cases hc7 : 0 ≤ a4
      · have h := if_T h hc7
        refine rz_B.ifF (mt (lt32 ha4 (by decide)).mp (Int.not_lt.mpr hc7)) ?_
        refine rz_B.go 3 (pc' := if decide (Int32.ofInt a4 ≤ Int32.ofInt 2) = true then 40 else 33) (L' := [some (.ref 91), some (vI a0), some (vI a1), some (vI a2), some (vI a3), some (vI a4), none, none, none, none, none, none, none, none, none, none, none]) (S' := []) rfl ?_
        by_cases hc8 : 2 < a4
        · have h := if_T h hc8
          refine rz_B.ifF (mt (le32 ha4 (by decide)).mp (Int.not_le.mpr hc8)) ?_
          refine rz_B.go 2 (pc' := 36) (L' := [some (.ref 91), some (vI a0), some (vI a1), some (vI a2), some (vI a3), some (vI a4), none, none, none, none, none, none, none, none, none, none, none]) (S' := [vI (-2), .ref 91]) rfl ?_
          obtain ⟨r9, A9, hf9, h⟩ := rz_b_inv h
          obtain ⟨hg9, hr9, hw9⟩ := cx142_no F (d := d + 8) hf9 (by decide) hw4
          refine rz_B.call (d := d + 8) (as := [.ref 91, vI (-2)]) (rest := []) (w := some (vI r9)) rfl hg9 ?_
          cases h
          exact rz_B.ret rfl hr9 hw9
        · have h := if_F h hc8
          refine rz_B.ifT ((le32 ha4 (by decide)).mpr (Int.not_lt.mp hc8)) ?_
          refine rz_B.go 2 (pc' := if decide (Int32.ofInt a2 < Int32.ofInt 0) = true then 50 else 44) (L' := [some (.ref 91), some (vI a0), some (vI a1), some (vI a2), some (vI a3), some (vI a4), none, none, none, none, none, none, none, none, none, none, none]) (S' := []) rfl ?_
          by_cases hc10 : 0 ≤ a2
          · have h := if_T h hc10
            refine rz_B.ifF (mt (lt32 ha2 (by decide)).mp (Int.not_lt.mpr hc10)) ?_
            refine rz_B.go 3 (pc' := if decide (Int32.ofInt a2 ≤ Int32.ofInt a3) = true then 57 else 50) (L' := [some (.ref 91), some (vI a0), some (vI a1), some (vI a2), some (vI a3), some (vI a4), none, none, none, none, none, none, none, none, none, none, none]) (S' := []) rfl ?_
            by_cases hc11 : a3 < a2
            · have h := if_T h hc11
              refine rz_B.ifF (mt (le32 ha2 ha3).mp (Int.not_le.mpr hc11)) ?_
              refine rz_B.go 2 (pc' := 53) (L' := [some (.ref 91), some (vI a0), some (vI a1), some (vI a2), some (vI a3), some (vI a4), none, none, none, none, none, none, none, none, none, none, none]) (S' := [vI (-4), .ref 91]) rfl ?_
              obtain ⟨r12, A12, hf12, h⟩ := rz_b_inv h
              obtain ⟨hg12, hr12, hw12⟩ := cx142_no F (d := d + 8) hf12 (by decide) hw4
              refine rz_B.call (d := d + 8) (as := [.ref 91, vI (-4)]) (rest := []) (w := some (vI r12)) rfl hg12 ?_
              cases h
              exact rz_B.ret rfl hr12 hw12
            · have h := if_F h hc11
              refine rz_B.ifT ((le32 ha2 ha3).mpr (Int.not_lt.mp hc11)) ?_
              refine rz_B.go 3 (pc' := if decide (Int32.ofInt 9999 < Int32.ofInt a2) = true then 82 else 64) (L' := [some (.ref 91), some (vI a0), some (vI a1), some (vI a2), some (vI a3), some (vI a4), none, none, none, none, none, none, none, none, none, none, none]) (S' := []) rfl ?_
              by_cases hc13 : a2 ≤ 9999
              · have h := if_T h hc13
                refine rz_B.ifF (mt (lt32 (by decide) ha2).mp (Int.not_lt.mpr hc13)) ?_
                refine rz_B.go 3 (pc' := if decide (Int32.ofInt 9999 < Int32.ofInt a3) = true then 82 else 72) (L' := [some (.ref 91), some (vI a0), some (vI a1), some (vI a2), some (vI a3), some (vI a4), none, none, none, none, none, none, none, none, none, none, none]) (S' := []) rfl ?_
                by_cases hc14 : a3 ≤ 9999
                · have h := if_T h hc14
                  refine rz_B.ifF (mt (lt32 (by decide) ha3).mp (Int.not_lt.mpr hc14)) ?_
                  refine rz_B.go 2 (pc' := 75) (L' := [some (.ref 91), some (vI a0), some (vI a1), some (vI a2), some (vI a3), some (vI a4), none, none, none, none, none, none, none, none, none, none, none]) (S' := [vI a2, vI a3]) rfl ?_
                  obtain ⟨hk15, h⟩ := rz_g32_inv h
                  refine rz_B.isub rfl ?_
                  refine rz_B.go 2 (pc' := if decide (Int32.ofInt (a3 - a2) ≤ Int32.ofInt 299) = true then 89 else 82) (L' := [some (.ref 91), some (vI a0), some (vI a1), some (vI a2), some (vI a3), some (vI a4), none, none, none, none, none, none, none, none, none, none, none]) (S' := []) rfl ?_
                  by_cases hc16 : 299 < (a3 - a2)
                  · have h := if_T h hc16
                    refine rz_B.ifF (mt (le32 hk15 (by decide)).mp (Int.not_le.mpr hc16)) ?_
                    refine rz_B.go 2 (pc' := 85) (L' := [some (.ref 91), some (vI a0), some (vI a1), some (vI a2), some (vI a3), some (vI a4), none, none, none, none, none, none, none, none, none, none, none]) (S' := [vI (-6), .ref 91]) rfl ?_
                    obtain ⟨r17, A17, hf17, h⟩ := rz_b_inv h
                    obtain ⟨hg17, hr17, hw17⟩ := cx142_no F (d := d + 8) hf17 (by decide) hw4
                    refine rz_B.call (d := d + 8) (as := [.ref 91, vI (-6)]) (rest := []) (w := some (vI r17)) rfl hg17 ?_
                    cases h
                    exact rz_B.ret rfl hr17 hw17
                  · have h := if_F h hc16
                    refine rz_B.ifT ((le32 hk15 (by decide)).mpr (Int.not_lt.mp hc16)) ?_
                    refine rz_B.go 2 (pc' := 92) (L' := [some (.ref 91), some (vI a0), some (vI a1), some (vI a2), some (vI a3), some (vI a4), some (vI 0), none, none, none, none, none, none, none, none, none, none]) (S' := []) rfl ?_
                    refine rz_B.more (rg_le_ok (L := [some (.ref 91), some (vI a0), some (vI a1), some (vI a2), some (vI a3), some (vI a4), some (vI 0), none, none, none, none, none, none, none, none, none, none]) (by simp [rg_le])) ?_
                    exact cx207_agree_92 F F _ _ _ _ _ _ _ _ _ h ha0 ha1 ha2 ha3 ha4 (by decide) hw4
                · have h := if_F h hc14
                  refine rz_B.ifT ((lt32 (by decide) ha3).mpr (Int.not_le.mp hc14)) ?_
                  refine rz_B.go 2 (pc' := 85) (L' := [some (.ref 91), some (vI a0), some (vI a1), some (vI a2), some (vI a3), some (vI a4), none, none, none, none, none, none, none, none, none, none, none]) (S' := [vI (-6), .ref 91]) rfl ?_
                  obtain ⟨r18, A18, hf18, h⟩ := rz_b_inv h
                  obtain ⟨hg18, hr18, hw18⟩ := cx142_no F (d := d + 8) hf18 (by decide) hw4
                  refine rz_B.call (d := d + 8) (as := [.ref 91, vI (-6)]) (rest := []) (w := some (vI r18)) rfl hg18 ?_
                  cases h
                  exact rz_B.ret rfl hr18 hw18
              · have h := if_F h hc13
                refine rz_B.ifT ((lt32 (by decide) ha2).mpr (Int.not_le.mp hc13)) ?_
                refine rz_B.go 2 (pc' := 85) (L' := [some (.ref 91), some (vI a0), some (vI a1), some (vI a2), some (vI a3), some (vI a4), none, none, none, none, none, none, none, none, none, none, none]) (S' := [vI (-6), .ref 91]) rfl ?_
                obtain ⟨r19, A19, hf19, h⟩ := rz_b_inv h
                obtain ⟨hg19, hr19, hw19⟩ := cx142_no F (d := d + 8) hf19 (by decide) hw4
                refine rz_B.call (d := d + 8) (as := [.ref 91, vI (-6)]) (rest := []) (w := some (vI r19)) rfl hg19 ?_
                cases h
                exact rz_B.ret rfl hr19 hw19
          · have h := if_F h hc10
            refine rz_B.ifT ((lt32 ha2 (by decide)).mpr (Int.not_le.mp hc10)) ?_
            refine rz_B.go 2 (pc' := 53) (L' := [some (.ref 91), some (vI a0), some (vI a1), some (vI a2), some (vI a3), some (vI a4), none, none, none, none, none, none, none, none, none, none, none]) (S' := [vI (-4), .ref 91]) rfl ?_
            obtain ⟨r20, A20, hf20, h⟩ := rz_b_inv h
            obtain ⟨hg20, hr20, hw20⟩ := cx142_no F (d := d + 8) hf20 (by decide) hw4
            refine rz_B.call (d := d + 8) (as := [.ref 91, vI (-4)]) (rest := []) (w := some (vI r20)) rfl hg20 ?_
            cases h
            exact rz_B.ret rfl hr20 hw20
      · have h := if_F h hc7
        refine rz_B.ifT ((lt32 ha4 (by decide)).mpr (Int.not_le.mp hc7)) ?_
        refine rz_B.go 2 (pc' := 36) (L' := [some (.ref 91), some (vI a0), some (vI a1), some (vI a2), some (vI a3), some (vI a4), none, none, none, none, none, none, none, none, none, none, none]) (S' := [vI (-2), .ref 91]) rfl ?_
        obtain ⟨r21, A21, hf21, h⟩ := rz_b_inv h
        obtain ⟨hg21, hr21, hw21⟩ := cx142_no F (d := d + 8) hf21 (by decide) hw4
        refine rz_B.call (d := d + 8) (as := [.ref 91, vI (-2)]) (rest := []) (w := some (vI r21)) rfl hg21 ?_
        cases h
        exact rz_B.ret rfl hr21 hw21
