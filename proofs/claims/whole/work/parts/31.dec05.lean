set_option maxRecDepth 16384
/-- RiverGauge$Flows.mayDiffer(I)I -/
def x101_mayDiffer (F : Nat) (a0 : Int) (A : rz_A) : Option (Int × rz_A) :=
  rz_gx a0 60 <|
  rz_b (x77_share F (A.1 29 (a0).toNat) (A.1 30 (a0).toNat) 100 A) fun r3 A3 =>
  rz_g32 r3 <|
  some (r3, A3)
theorem cx101_mayDiffer (F : Nat) {d : Nat} {a0 : Int} {A : rz_A} {r : Int} {A' : rz_A} (h : x101_mayDiffer F a0 A = some (r, A')) (ha0 : r32 a0) (hw : wf A) : rg_Rn (d + 1) 101 [.ref 26, vI a0] (toM A) (some (vI r)) (toM A') ∧ (r32 r) ∧ wf A' := by
  show rz_B (d + 1) 101 0 [some (.ref 26), some (vI a0)] [] A (some (vI r)) A' (r32 r)
  unfold x101_mayDiffer at h
  refine rz_B.go 3 (pc' := 5) (L' := [some (.ref 26), some (vI a0)]) (S' := [vI a0, .ref 29]) rfl ?_
  obtain ⟨hi1, hj2, h⟩ := rz_gx_inv h
  refine rz_B.iald rfl rfl hi1 hj2 (by decide) ?_
  refine rz_B.i2l rfl (hw 29 (a0).toNat).1 ?_
  refine rz_B.go 3 (pc' := 12) (L' := [some (.ref 26), some (vI a0)]) (S' := [vI a0, .ref 30, vL (A.1 29 (a0).toNat)]) rfl ?_
  refine rz_B.iald rfl rfl hi1 hj2 (by decide) ?_
  refine rz_B.i2l rfl (hw 30 (a0).toNat).1 ?_
  refine rz_B.go 1 (pc' := 17) (L' := [some (.ref 26), some (vI a0)]) (S' := [vL 100, vL (A.1 30 (a0).toNat), vL (A.1 29 (a0).toNat)]) rfl ?_
  obtain ⟨r3, A3, hf3, h⟩ := rz_b_inv h
  obtain ⟨hg3, hr3, hw3⟩ := cx77_share F (d := d + 0) hf3 (r64_of (hw 29 (a0).toNat).1) (r64_of (hw 30 (a0).toNat).1) (by decide) hw
  refine rz_B.call (d := d + 0) (as := [vL (A.1 29 (a0).toNat), vL (A.1 30 (a0).toNat), vL 100]) (rest := []) (w := some (vL r3)) rfl hg3 ?_
  obtain ⟨hk4, h⟩ := rz_g32_inv h
  refine rz_B.l2i rfl ?_
  cases h
  exact rz_B.ret rfl hk4 hw3
def x100_findShifts_b_91 (F : Nat) (q : Nat) : Nat → Int → Int → Int → Int → Int → rz_A → Option (Unit × rz_A)
  | 0, _, _, _, _, _, _ => none
  | n + 1, v1, v4, v5, v6, v7, A =>
    if v7 ≤ 50 then
      rz_gx v4 300 <|
      rz_g32 ((A.1 54 (v4).toNat) + v7) <|
      rz_b (x80_flowBy_b F q ((A.1 54 (v4).toNat) + v7) (-2000) A) fun r5 A5 =>
      rz_g32 (v7 + 50) <|
      if v5 ≤ r5 then
        if r5 ≤ v6 then
          rz_g32 (2 * v1) <|
          rz_g32 ((v7 + 50).tdiv 64) <|
          rz_g32 ((2 * v1) + ((v7 + 50).tdiv 64)) <|
          rz_gx ((2 * v1) + ((v7 + 50).tdiv 64)) 16 <|
          rz_g32 ((v7 + 50).tmod 64) <|
          rz_g32 (v7 + 1) <|
          x100_findShifts_b_91 F q n v1 v4 v5 v6 (v7 + 1) (aL A5 68 (((2 * v1) + ((v7 + 50).tdiv 64))).toNat (rz_oL gOr (A5.2 68 (((2 * v1) + ((v7 + 50).tdiv 64))).toNat) (rz_oS gShl 1 ((v7 + 50).tmod 64))))
        else
          rz_g32 (v7 + 1) <|
          x100_findShifts_b_91 F q n v1 v4 v5 v6 (v7 + 1) A5
      else
        rz_g32 (v7 + 1) <|
        x100_findShifts_b_91 F q n v1 v4 v5 v6 (v7 + 1) A5
    else
      some ((), A)
/-- RiverGauge$Breaks.findShifts(ILRiverGauge$Points;)V -/
def x100_findShifts_b (F : Nat) (q : Nat) (a0 : Int) (A : rz_A) : Option (Unit × rz_A) :=
  rz_gx a0 8 <|
  rz_b (x39_placeOf F (A.1 67 (a0).toNat) A) fun r3 A3 =>
  rz_g32 (2 * a0) <|
  rz_gx (2 * a0) 16 <|
  rz_g32 ((2 * a0) + 1) <|
  rz_gx ((2 * a0) + 1) 16 <|
  if r3 < 0 then
    some ((), (aL (aL A3 68 ((2 * a0)).toNat 0) 68 (((2 * a0) + 1)).toNat 0))
  else
    rz_gx (A.1 67 (a0).toNat) 60 <|
    rz_b (x101_mayDiffer F (A.1 67 (a0).toNat) (aL (aL A3 68 ((2 * a0)).toNat 0) 68 (((2 * a0) + 1)).toNat 0)) fun r15 A15 =>
    rz_g32 ((A3.1 29 ((A.1 67 (a0).toNat)).toNat) - r15) <|
    rz_b (x101_mayDiffer F (A.1 67 (a0).toNat) A15) fun r17 A17 =>
    rz_g32 ((A15.1 29 ((A.1 67 (a0).toNat)).toNat) + r17) <|
    x100_findShifts_b_91 F q F a0 r3 ((A3.1 29 ((A.1 67 (a0).toNat)).toNat) - r15) ((A15.1 29 ((A.1 67 (a0).toNat)).toNat) + r17) (-50) A17
theorem cx100_findShifts_b_91_0 {d : Nat} (F : Nat) : ∀ (n : Nat) (v1 : Int) (v4 : Int) (v5 : Int) (v6 : Int) (v7 : Int) (A : rz_A) (r : Unit) (A' : rz_A), x100_findShifts_b_91 F 0 n v1 v4 v5 v6 v7 A = some (r, A') → r32 v1 → r32 v4 → r32 v5 → r32 v6 → r32 v7 → wf A → rz_B (d + 3) 100 91 [some (.ref 64), some (vI v1), some (.ref 69), none, some (vI v4), some (vI v5), some (vI v6), some (vI v7), none, none] [] A (none) A' (True) := by
  intro n
  induction n with
  | zero => intro v1 v4 v5 v6 v7 A r A' h; cases h
  | succ n ih =>
    intro v1 v4 v5 v6 v7 A r A' h hv1 hv4 hv5 hv6 hv7 hw
    rw [x100_findShifts_b_91] at h
    refine rz_B.go 3 (pc' := if decide (Int32.ofInt 50 < Int32.ofInt v7) = true then 171 else 98) (L' := [some (.ref 64), some (vI v1), some (.ref 69), none, some (vI v4), some (vI v5), some (vI v6), some (vI v7), none, none]) (S' := []) rfl ?_
    by_cases hc1 : v7 ≤ 50
    · have h := if_T h hc1
      refine rz_B.ifF (mt (lt32 (by decide) hv7).mp (Int.not_lt.mpr hc1)) ?_
      refine rz_B.go 5 (pc' := 108) (L' := [some (.ref 64), some (vI v1), some (.ref 69), none, some (vI v4), some (vI v5), some (vI v6), some (vI v7), none, none]) (S' := [vI v4, .ref 54, .ref 69]) rfl ?_
      obtain ⟨hi2, hj3, h⟩ := rz_gx_inv h
      refine rz_B.iald rfl rfl hi2 hj3 (by decide) ?_
      refine rz_B.go 1 (pc' := 111) (L' := [some (.ref 64), some (vI v1), some (.ref 69), none, some (vI v4), some (vI v5), some (vI v6), some (vI v7), none, none]) (S' := [vI v7, vI (A.1 54 (v4).toNat), .ref 69]) rfl ?_
      obtain ⟨hk4, h⟩ := rz_g32_inv h
      refine rz_B.iadd rfl ?_
      refine rz_B.go 1 (pc' := 115) (L' := [some (.ref 64), some (vI v1), some (.ref 69), none, some (vI v4), some (vI v5), some (vI v6), some (vI v7), none, none]) (S' := [vI (-2000), vI ((A.1 54 (v4).toNat) + v7), .ref 69]) rfl ?_
      obtain ⟨r5, A5, hf5, h⟩ := rz_b_inv h
      obtain ⟨hg5, hr5, hw5⟩ := cx80_flowBy_b_0 F (d := d + 0) hf5 hk4 (by decide) hw
      refine rz_B.call (d := d + 2) (as := [.ref 69, vI ((A.1 54 (v4).toNat) + v7), vI (-2000)]) (rest := []) (w := some (vI r5)) rfl hg5 ?_
      refine rz_B.go 3 (pc' := 124) (L' := [some (.ref 64), some (vI v1), some (.ref 69), none, some (vI v4), some (vI v5), some (vI v6), some (vI v7), some (vI r5), none]) (S' := [vI 50, vI v7]) rfl ?_
      obtain ⟨hk6, h⟩ := rz_g32_inv h
      refine rz_B.iadd rfl ?_
      refine rz_B.go 4 (pc' := if decide (Int32.ofInt r5 < Int32.ofInt v5) = true then 165 else 134) (L' := [some (.ref 64), some (vI v1), some (.ref 69), none, some (vI v4), some (vI v5), some (vI v6), some (vI v7), some (vI r5), some (vI (v7 + 50))]) (S' := []) rfl ?_
      by_cases hc7 : v5 ≤ r5
      · have h := if_T h hc7
        refine rz_B.ifF (mt (lt32 hr5 hv5).mp (Int.not_lt.mpr hc7)) ?_
        refine rz_B.go 3 (pc' := if decide (Int32.ofInt v6 < Int32.ofInt r5) = true then 165 else 141) (L' := [some (.ref 64), some (vI v1), some (.ref 69), none, some (vI v4), some (vI v5), some (vI v6), some (vI v7), some (vI r5), some (vI (v7 + 50))]) (S' := []) rfl ?_
        by_cases hc8 : r5 ≤ v6
        · have h := if_T h hc8
          refine rz_B.ifF (mt (lt32 hv6 hr5).mp (Int.not_lt.mpr hc8)) ?_
          refine rz_B.go 4 (pc' := 147) (L' := [some (.ref 64), some (vI v1), some (.ref 69), none, some (vI v4), some (vI v5), some (vI v6), some (vI v7), some (vI r5), some (vI (v7 + 50))]) (S' := [vI v1, vI 2, .ref 68]) rfl ?_
          obtain ⟨hk9, h⟩ := rz_g32_inv h
          refine rz_B.imul rfl ?_
          refine rz_B.go 2 (pc' := 152) (L' := [some (.ref 64), some (vI v1), some (.ref 69), none, some (vI v4), some (vI v5), some (vI v6), some (vI v7), some (vI r5), some (vI (v7 + 50))]) (S' := [vI 64, vI (v7 + 50), vI (2 * v1), .ref 68]) rfl ?_
          obtain ⟨hk10, h⟩ := rz_g32_inv h
          refine rz_B.idiv rfl hk6 (by decide) (by decide) ?_
          obtain ⟨hk11, h⟩ := rz_g32_inv h
          refine rz_B.iadd rfl ?_
          refine rz_B.go 1 (pc' := 155) (L' := [some (.ref 64), some (vI v1), some (.ref 69), none, some (vI v4), some (vI v5), some (vI v6), some (vI v7), some (vI r5), some (vI (v7 + 50))]) (S' := [vI ((2 * v1) + ((v7 + 50).tdiv 64)), .ref 68, vI ((2 * v1) + ((v7 + 50).tdiv 64)), .ref 68]) rfl ?_
          obtain ⟨hi12, hj13, h⟩ := rz_gx_inv h
          refine rz_B.lald rfl rfl hi12 hj13 (by decide) ?_
          refine rz_B.go 3 (pc' := 161) (L' := [some (.ref 64), some (vI v1), some (.ref 69), none, some (vI v4), some (vI v5), some (vI v6), some (vI v7), some (vI r5), some (vI (v7 + 50))]) (S' := [vI 64, vI (v7 + 50), vL 1, vL (A5.2 68 (((2 * v1) + ((v7 + 50).tdiv 64))).toNat), vI ((2 * v1) + ((v7 + 50).tdiv 64)), .ref 68]) rfl ?_
          obtain ⟨hk14, h⟩ := rz_g32_inv h
          refine rz_B.irem rfl hk6 (by decide) (by decide) ?_
          refine rz_B.oS gShl rfl ?_
          refine rz_B.oL gOr rfl ?_
          refine rz_B.last rfl rfl hi12 hj13 (by decide) ?_
          have hw15 : wf (aL A5 68 (((2 * v1) + ((v7 + 50).tdiv 64))).toNat (rz_oL gOr (A5.2 68 (((2 * v1) + ((v7 + 50).tdiv 64))).toNat) (rz_oS gShl 1 ((v7 + 50).tmod 64)))) := wf_aL hw5 r64_oL
          obtain ⟨hk16, h⟩ := rz_g32_inv h
          refine rz_B.iinc rfl (by decide) rfl (L' := [some (.ref 64), some (vI v1), some (.ref 69), none, some (vI v4), some (vI v5), some (vI v6), some (vI (v7 + 1)), some (vI r5), some (vI (v7 + 50))]) rfl ?_
          refine rz_B.go 1 (pc' := 91) (L' := [some (.ref 64), some (vI v1), some (.ref 69), none, some (vI v4), some (vI v5), some (vI v6), some (vI (v7 + 1)), some (vI r5), some (vI (v7 + 50))]) (S' := []) rfl ?_
          refine rz_B.more (rg_le_ok (L := [some (.ref 64), some (vI v1), some (.ref 69), none, some (vI v4), some (vI v5), some (vI v6), some (vI (v7 + 1)), none, none]) (by simp [rg_le])) ?_
          exact ih _ _ _ _ _ _ _ _ h hv1 hv4 hv5 hv6 hk16 hw15
        · have h := if_F h hc8
          refine rz_B.ifT ((lt32 hv6 hr5).mpr (Int.not_le.mp hc8)) ?_
          obtain ⟨hk17, h⟩ := rz_g32_inv h
          refine rz_B.iinc rfl (by decide) rfl (L' := [some (.ref 64), some (vI v1), some (.ref 69), none, some (vI v4), some (vI v5), some (vI v6), some (vI (v7 + 1)), some (vI r5), some (vI (v7 + 50))]) rfl ?_
          refine rz_B.go 1 (pc' := 91) (L' := [some (.ref 64), some (vI v1), some (.ref 69), none, some (vI v4), some (vI v5), some (vI v6), some (vI (v7 + 1)), some (vI r5), some (vI (v7 + 50))]) (S' := []) rfl ?_
          refine rz_B.more (rg_le_ok (L := [some (.ref 64), some (vI v1), some (.ref 69), none, some (vI v4), some (vI v5), some (vI v6), some (vI (v7 + 1)), none, none]) (by simp [rg_le])) ?_
          exact ih _ _ _ _ _ _ _ _ h hv1 hv4 hv5 hv6 hk17 hw5
      · have h := if_F h hc7
        refine rz_B.ifT ((lt32 hr5 hv5).mpr (Int.not_le.mp hc7)) ?_
        obtain ⟨hk18, h⟩ := rz_g32_inv h
        refine rz_B.iinc rfl (by decide) rfl (L' := [some (.ref 64), some (vI v1), some (.ref 69), none, some (vI v4), some (vI v5), some (vI v6), some (vI (v7 + 1)), some (vI r5), some (vI (v7 + 50))]) rfl ?_
        refine rz_B.go 1 (pc' := 91) (L' := [some (.ref 64), some (vI v1), some (.ref 69), none, some (vI v4), some (vI v5), some (vI v6), some (vI (v7 + 1)), some (vI r5), some (vI (v7 + 50))]) (S' := []) rfl ?_
        refine rz_B.more (rg_le_ok (L := [some (.ref 64), some (vI v1), some (.ref 69), none, some (vI v4), some (vI v5), some (vI v6), some (vI (v7 + 1)), none, none]) (by simp [rg_le])) ?_
        exact ih _ _ _ _ _ _ _ _ h hv1 hv4 hv5 hv6 hk18 hw5
    · have h := if_F h hc1
      refine rz_B.ifT ((lt32 (by decide) hv7).mpr (Int.not_le.mp hc1)) ?_
      cases h
      exact rz_B.ret rfl trivial hw
theorem cx100_findShifts_b_0 (F : Nat) {d : Nat} {a0 : Int} {A : rz_A} {r : Unit} {A' : rz_A} (h : x100_findShifts_b F 0 a0 A = some (r, A')) (ha0 : r32 a0) (hw : wf A) : rg_Rn (d + 3) 100 [.ref 64, vI a0, .ref 69] (toM A) (none) (toM A') ∧ (True) ∧ wf A' := by
  show rz_B (d + 3) 100 0 [some (.ref 64), some (vI a0), some (.ref 69), none, none, none, none, none, none, none] [] A (none) A' (True)
  unfold x100_findShifts_b at h
  refine rz_B.go 3 (pc' := 5) (L' := [some (.ref 64), some (vI a0), some (.ref 69), none, none, none, none, none, none, none]) (S' := [vI a0, .ref 67]) rfl ?_
  obtain ⟨hi1, hj2, h⟩ := rz_gx_inv h
  refine rz_B.iald rfl rfl hi1 hj2 (by decide) ?_
  refine rz_B.go 6 (pc' := 16) (L' := [some (.ref 64), some (vI a0), some (.ref 69), some (vI (A.1 67 (a0).toNat)), none, none, none, none, none, none]) (S' := [.ref 51, vI (A.1 67 (a0).toNat), .ref 26]) rfl ?_
  obtain ⟨r3, A3, hf3, h⟩ := rz_b_inv h
  obtain ⟨hg3, hr3, hw3⟩ := cx39_placeOf F (d := d + 0) hf3 (hw 67 (a0).toNat).1 hw
  refine rz_B.call (d := d + 2) (as := [.ref 26, vI (A.1 67 (a0).toNat), .ref 51]) (rest := []) (w := some (vI r3)) rfl hg3 ?_
  refine rz_B.go 5 (pc' := 27) (L' := [some (.ref 64), some (vI a0), some (.ref 69), some (vI (A.1 67 (a0).toNat)), some (vI r3), none, none, none, none, none]) (S' := [vI a0, vI 2, .ref 68]) rfl ?_
  obtain ⟨hk4, h⟩ := rz_g32_inv h
  refine rz_B.imul rfl ?_
  refine rz_B.go 1 (pc' := 29) (L' := [some (.ref 64), some (vI a0), some (.ref 69), some (vI (A.1 67 (a0).toNat)), some (vI r3), none, none, none, none, none]) (S' := [vL 0, vI (2 * a0), .ref 68]) rfl ?_
  obtain ⟨hi5, hj6, h⟩ := rz_gx_inv h
  refine rz_B.last rfl rfl hi5 hj6 (by decide) ?_
  have hw7 : wf (aL A3 68 ((2 * a0)).toNat 0) := wf_aL hw3 (by decide)
  refine rz_B.go 4 (pc' := 36) (L' := [some (.ref 64), some (vI a0), some (.ref 69), some (vI (A.1 67 (a0).toNat)), some (vI r3), none, none, none, none, none]) (S' := [vI a0, vI 2, .ref 68]) rfl ?_
  refine rz_B.imul rfl ?_
  refine rz_B.go 1 (pc' := 38) (L' := [some (.ref 64), some (vI a0), some (.ref 69), some (vI (A.1 67 (a0).toNat)), some (vI r3), none, none, none, none, none]) (S' := [vI 1, vI (2 * a0), .ref 68]) rfl ?_
  obtain ⟨hk8, h⟩ := rz_g32_inv h
  refine rz_B.iadd rfl ?_
  refine rz_B.go 1 (pc' := 40) (L' := [some (.ref 64), some (vI a0), some (.ref 69), some (vI (A.1 67 (a0).toNat)), some (vI r3), none, none, none, none, none]) (S' := [vL 0, vI ((2 * a0) + 1), .ref 68]) rfl ?_
  obtain ⟨hi9, hj10, h⟩ := rz_gx_inv h
  refine rz_B.last rfl rfl hi9 hj10 (by decide) ?_
  have hw11 : wf (aL (aL A3 68 ((2 * a0)).toNat 0) 68 (((2 * a0) + 1)).toNat 0) := wf_aL hw7 (by decide)
  refine rz_B.go 2 (pc' := if decide (Int32.ofInt 0 ≤ Int32.ofInt r3) = true then 47 else 46) (L' := [some (.ref 64), some (vI a0), some (.ref 69), some (vI (A.1 67 (a0).toNat)), some (vI r3), none, none, none, none, none]) (S' := []) rfl ?_
  by_cases hc12 : r3 < 0
  · have h := if_T h hc12
    refine rz_B.ifF (mt (le32 (by decide) hr3).mp (Int.not_le.mpr hc12)) ?_
    cases h
    exact rz_B.ret rfl trivial hw11
  · have h := if_F h hc12
    refine rz_B.ifT ((le32 (by decide) hr3).mpr (Int.not_lt.mp hc12)) ?_
    refine rz_B.go 4 (pc' := 55) (L' := [some (.ref 64), some (vI a0), some (.ref 69), some (vI (A.1 67 (a0).toNat)), some (vI r3), none, none, none, none, none]) (S' := [vI (A.1 67 (a0).toNat), .ref 29]) rfl ?_
    obtain ⟨hi13, hj14, h⟩ := rz_gx_inv h
    refine rz_B.iald rfl rfl hi13 hj14 (by decide) ?_
    refine rz_B.go 3 (pc' := 61) (L' := [some (.ref 64), some (vI a0), some (.ref 69), some (vI (A.1 67 (a0).toNat)), some (vI r3), none, none, none, none, none]) (S' := [vI (A.1 67 (a0).toNat), .ref 26, vI (A3.1 29 ((A.1 67 (a0).toNat)).toNat)]) rfl ?_
    obtain ⟨r15, A15, hf15, h⟩ := rz_b_inv h
    obtain ⟨hg15, hr15, hw15⟩ := cx101_mayDiffer F (d := d + 1) hf15 (hw 67 (a0).toNat).1 hw11
    refine rz_B.call (d := d + 2) (as := [.ref 26, vI (A.1 67 (a0).toNat)]) (rest := [vI (A3.1 29 ((A.1 67 (a0).toNat)).toNat)]) (w := some (vI r15)) rfl hg15 ?_
    obtain ⟨hk16, h⟩ := rz_g32_inv h
    refine rz_B.isub rfl ?_
    refine rz_B.go 5 (pc' := 75) (L' := [some (.ref 64), some (vI a0), some (.ref 69), some (vI (A.1 67 (a0).toNat)), some (vI r3), some (vI ((A3.1 29 ((A.1 67 (a0).toNat)).toNat) - r15)), none, none, none, none]) (S' := [vI (A.1 67 (a0).toNat), .ref 29]) rfl ?_
    refine rz_B.iald rfl rfl hi13 hj14 (by decide) ?_
    refine rz_B.go 3 (pc' := 81) (L' := [some (.ref 64), some (vI a0), some (.ref 69), some (vI (A.1 67 (a0).toNat)), some (vI r3), some (vI ((A3.1 29 ((A.1 67 (a0).toNat)).toNat) - r15)), none, none, none, none]) (S' := [vI (A.1 67 (a0).toNat), .ref 26, vI (A15.1 29 ((A.1 67 (a0).toNat)).toNat)]) rfl ?_
    obtain ⟨r17, A17, hf17, h⟩ := rz_b_inv h
    obtain ⟨hg17, hr17, hw17⟩ := cx101_mayDiffer F (d := d + 1) hf17 (hw 67 (a0).toNat).1 hw15
    refine rz_B.call (d := d + 2) (as := [.ref 26, vI (A.1 67 (a0).toNat)]) (rest := [vI (A15.1 29 ((A.1 67 (a0).toNat)).toNat)]) (w := some (vI r17)) rfl hg17 ?_
    obtain ⟨hk18, h⟩ := rz_g32_inv h
    refine rz_B.iadd rfl ?_
    refine rz_B.go 3 (pc' := 91) (L' := [some (.ref 64), some (vI a0), some (.ref 69), some (vI (A.1 67 (a0).toNat)), some (vI r3), some (vI ((A3.1 29 ((A.1 67 (a0).toNat)).toNat) - r15)), some (vI ((A15.1 29 ((A.1 67 (a0).toNat)).toNat) + r17)), some (vI (-50)), none, none]) (S' := []) rfl ?_
    refine rz_B.more (rg_le_ok (L := [some (.ref 64), some (vI a0), some (.ref 69), none, some (vI r3), some (vI ((A3.1 29 ((A.1 67 (a0).toNat)).toNat) - r15)), some (vI ((A15.1 29 ((A.1 67 (a0).toNat)).toNat) + r17)), some (vI (-50)), none, none]) (by simp [rg_le])) ?_
    exact cx100_findShifts_b_91_0 F F _ _ _ _ _ _ _ _ h ha0 hr3 hk16 hk18 (by decide) hw17
theorem cx100_findShifts_b_91_1 {d : Nat} (F : Nat) : ∀ (n : Nat) (v1 : Int) (v4 : Int) (v5 : Int) (v6 : Int) (v7 : Int) (A : rz_A) (r : Unit) (A' : rz_A), x100_findShifts_b_91 F 1 n v1 v4 v5 v6 v7 A = some (r, A') → r32 v1 → r32 v4 → r32 v5 → r32 v6 → r32 v7 → wf A → rz_B (d + 3) 100 91 [some (.ref 64), some (vI v1), some (.ref 72), none, some (vI v4), some (vI v5), some (vI v6), some (vI v7), none, none] [] A (none) A' (True) := by
  intro n
  induction n with
  | zero => intro v1 v4 v5 v6 v7 A r A' h; cases h
  | succ n ih =>
    intro v1 v4 v5 v6 v7 A r A' h hv1 hv4 hv5 hv6 hv7 hw
    rw [x100_findShifts_b_91] at h
    refine rz_B.go 3 (pc' := if decide (Int32.ofInt 50 < Int32.ofInt v7) = true then 171 else 98) (L' := [some (.ref 64), some (vI v1), some (.ref 72), none, some (vI v4), some (vI v5), some (vI v6), some (vI v7), none, none]) (S' := []) rfl ?_
    by_cases hc1 : v7 ≤ 50
    · have h := if_T h hc1
      refine rz_B.ifF (mt (lt32 (by decide) hv7).mp (Int.not_lt.mpr hc1)) ?_
      refine rz_B.go 5 (pc' := 108) (L' := [some (.ref 64), some (vI v1), some (.ref 72), none, some (vI v4), some (vI v5), some (vI v6), some (vI v7), none, none]) (S' := [vI v4, .ref 54, .ref 72]) rfl ?_
      obtain ⟨hi2, hj3, h⟩ := rz_gx_inv h
      refine rz_B.iald rfl rfl hi2 hj3 (by decide) ?_
      refine rz_B.go 1 (pc' := 111) (L' := [some (.ref 64), some (vI v1), some (.ref 72), none, some (vI v4), some (vI v5), some (vI v6), some (vI v7), none, none]) (S' := [vI v7, vI (A.1 54 (v4).toNat), .ref 72]) rfl ?_
      obtain ⟨hk4, h⟩ := rz_g32_inv h
      refine rz_B.iadd rfl ?_
      refine rz_B.go 1 (pc' := 115) (L' := [some (.ref 64), some (vI v1), some (.ref 72), none, some (vI v4), some (vI v5), some (vI v6), some (vI v7), none, none]) (S' := [vI (-2000), vI ((A.1 54 (v4).toNat) + v7), .ref 72]) rfl ?_
      obtain ⟨r5, A5, hf5, h⟩ := rz_b_inv h
      obtain ⟨hg5, hr5, hw5⟩ := cx80_flowBy_b_1 F (d := d + 0) hf5 hk4 (by decide) hw
      refine rz_B.call (d := d + 2) (as := [.ref 72, vI ((A.1 54 (v4).toNat) + v7), vI (-2000)]) (rest := []) (w := some (vI r5)) rfl hg5 ?_
      refine rz_B.go 3 (pc' := 124) (L' := [some (.ref 64), some (vI v1), some (.ref 72), none, some (vI v4), some (vI v5), some (vI v6), some (vI v7), some (vI r5), none]) (S' := [vI 50, vI v7]) rfl ?_
      obtain ⟨hk6, h⟩ := rz_g32_inv h
      refine rz_B.iadd rfl ?_
      refine rz_B.go 4 (pc' := if decide (Int32.ofInt r5 < Int32.ofInt v5) = true then 165 else 134) (L' := [some (.ref 64), some (vI v1), some (.ref 72), none, some (vI v4), some (vI v5), some (vI v6), some (vI v7), some (vI r5), some (vI (v7 + 50))]) (S' := []) rfl ?_
      by_cases hc7 : v5 ≤ r5
      · have h := if_T h hc7
        refine rz_B.ifF (mt (lt32 hr5 hv5).mp (Int.not_lt.mpr hc7)) ?_
        refine rz_B.go 3 (pc' := if decide (Int32.ofInt v6 < Int32.ofInt r5) = true then 165 else 141) (L' := [some (.ref 64), some (vI v1), some (.ref 72), none, some (vI v4), some (vI v5), some (vI v6), some (vI v7), some (vI r5), some (vI (v7 + 50))]) (S' := []) rfl ?_
        by_cases hc8 : r5 ≤ v6
        · have h := if_T h hc8
          refine rz_B.ifF (mt (lt32 hv6 hr5).mp (Int.not_lt.mpr hc8)) ?_
          refine rz_B.go 4 (pc' := 147) (L' := [some (.ref 64), some (vI v1), some (.ref 72), none, some (vI v4), some (vI v5), some (vI v6), some (vI v7), some (vI r5), some (vI (v7 + 50))]) (S' := [vI v1, vI 2, .ref 68]) rfl ?_
          obtain ⟨hk9, h⟩ := rz_g32_inv h
          refine rz_B.imul rfl ?_
          refine rz_B.go 2 (pc' := 152) (L' := [some (.ref 64), some (vI v1), some (.ref 72), none, some (vI v4), some (vI v5), some (vI v6), some (vI v7), some (vI r5), some (vI (v7 + 50))]) (S' := [vI 64, vI (v7 + 50), vI (2 * v1), .ref 68]) rfl ?_
          obtain ⟨hk10, h⟩ := rz_g32_inv h
          refine rz_B.idiv rfl hk6 (by decide) (by decide) ?_
          obtain ⟨hk11, h⟩ := rz_g32_inv h
          refine rz_B.iadd rfl ?_
          refine rz_B.go 1 (pc' := 155) (L' := [some (.ref 64), some (vI v1), some (.ref 72), none, some (vI v4), some (vI v5), some (vI v6), some (vI v7), some (vI r5), some (vI (v7 + 50))]) (S' := [vI ((2 * v1) + ((v7 + 50).tdiv 64)), .ref 68, vI ((2 * v1) + ((v7 + 50).tdiv 64)), .ref 68]) rfl ?_
          obtain ⟨hi12, hj13, h⟩ := rz_gx_inv h
          refine rz_B.lald rfl rfl hi12 hj13 (by decide) ?_
          refine rz_B.go 3 (pc' := 161) (L' := [some (.ref 64), some (vI v1), some (.ref 72), none, some (vI v4), some (vI v5), some (vI v6), some (vI v7), some (vI r5), some (vI (v7 + 50))]) (S' := [vI 64, vI (v7 + 50), vL 1, vL (A5.2 68 (((2 * v1) + ((v7 + 50).tdiv 64))).toNat), vI ((2 * v1) + ((v7 + 50).tdiv 64)), .ref 68]) rfl ?_
          obtain ⟨hk14, h⟩ := rz_g32_inv h
          refine rz_B.irem rfl hk6 (by decide) (by decide) ?_
          refine rz_B.oS gShl rfl ?_
          refine rz_B.oL gOr rfl ?_
          refine rz_B.last rfl rfl hi12 hj13 (by decide) ?_
          have hw15 : wf (aL A5 68 (((2 * v1) + ((v7 + 50).tdiv 64))).toNat (rz_oL gOr (A5.2 68 (((2 * v1) + ((v7 + 50).tdiv 64))).toNat) (rz_oS gShl 1 ((v7 + 50).tmod 64)))) := wf_aL hw5 r64_oL
          obtain ⟨hk16, h⟩ := rz_g32_inv h
          refine rz_B.iinc rfl (by decide) rfl (L' := [some (.ref 64), some (vI v1), some (.ref 72), none, some (vI v4), some (vI v5), some (vI v6), some (vI (v7 + 1)), some (vI r5), some (vI (v7 + 50))]) rfl ?_
          refine rz_B.go 1 (pc' := 91) (L' := [some (.ref 64), some (vI v1), some (.ref 72), none, some (vI v4), some (vI v5), some (vI v6), some (vI (v7 + 1)), some (vI r5), some (vI (v7 + 50))]) (S' := []) rfl ?_
          refine rz_B.more (rg_le_ok (L := [some (.ref 64), some (vI v1), some (.ref 72), none, some (vI v4), some (vI v5), some (vI v6), some (vI (v7 + 1)), none, none]) (by simp [rg_le])) ?_
          exact ih _ _ _ _ _ _ _ _ h hv1 hv4 hv5 hv6 hk16 hw15
        · have h := if_F h hc8
          refine rz_B.ifT ((lt32 hv6 hr5).mpr (Int.not_le.mp hc8)) ?_
          obtain ⟨hk17, h⟩ := rz_g32_inv h
          refine rz_B.iinc rfl (by decide) rfl (L' := [some (.ref 64), some (vI v1), some (.ref 72), none, some (vI v4), some (vI v5), some (vI v6), some (vI (v7 + 1)), some (vI r5), some (vI (v7 + 50))]) rfl ?_
          refine rz_B.go 1 (pc' := 91) (L' := [some (.ref 64), some (vI v1), some (.ref 72), none, some (vI v4), some (vI v5), some (vI v6), some (vI (v7 + 1)), some (vI r5), some (vI (v7 + 50))]) (S' := []) rfl ?_
          refine rz_B.more (rg_le_ok (L := [some (.ref 64), some (vI v1), some (.ref 72), none, some (vI v4), some (vI v5), some (vI v6), some (vI (v7 + 1)), none, none]) (by simp [rg_le])) ?_
          exact ih _ _ _ _ _ _ _ _ h hv1 hv4 hv5 hv6 hk17 hw5
      · have h := if_F h hc7
        refine rz_B.ifT ((lt32 hr5 hv5).mpr (Int.not_le.mp hc7)) ?_
        obtain ⟨hk18, h⟩ := rz_g32_inv h
        refine rz_B.iinc rfl (by decide) rfl (L' := [some (.ref 64), some (vI v1), some (.ref 72), none, some (vI v4), some (vI v5), some (vI v6), some (vI (v7 + 1)), some (vI r5), some (vI (v7 + 50))]) rfl ?_
        refine rz_B.go 1 (pc' := 91) (L' := [some (.ref 64), some (vI v1), some (.ref 72), none, some (vI v4), some (vI v5), some (vI v6), some (vI (v7 + 1)), some (vI r5), some (vI (v7 + 50))]) (S' := []) rfl ?_
        refine rz_B.more (rg_le_ok (L := [some (.ref 64), some (vI v1), some (.ref 72), none, some (vI v4), some (vI v5), some (vI v6), some (vI (v7 + 1)), none, none]) (by simp [rg_le])) ?_
        exact ih _ _ _ _ _ _ _ _ h hv1 hv4 hv5 hv6 hk18 hw5
    · have h := if_F h hc1
      refine rz_B.ifT ((lt32 (by decide) hv7).mpr (Int.not_le.mp hc1)) ?_
      cases h
      exact rz_B.ret rfl trivial hw
theorem cx100_findShifts_b_1 (F : Nat) {d : Nat} {a0 : Int} {A : rz_A} {r : Unit} {A' : rz_A} (h : x100_findShifts_b F 1 a0 A = some (r, A')) (ha0 : r32 a0) (hw : wf A) : rg_Rn (d + 3) 100 [.ref 64, vI a0, .ref 72] (toM A) (none) (toM A') ∧ (True) ∧ wf A' := by
  show rz_B (d + 3) 100 0 [some (.ref 64), some (vI a0), some (.ref 72), none, none, none, none, none, none, none] [] A (none) A' (True)
  unfold x100_findShifts_b at h
  refine rz_B.go 3 (pc' := 5) (L' := [some (.ref 64), some (vI a0), some (.ref 72), none, none, none, none, none, none, none]) (S' := [vI a0, .ref 67]) rfl ?_
  obtain ⟨hi1, hj2, h⟩ := rz_gx_inv h
  refine rz_B.iald rfl rfl hi1 hj2 (by decide) ?_
  refine rz_B.go 6 (pc' := 16) (L' := [some (.ref 64), some (vI a0), some (.ref 72), some (vI (A.1 67 (a0).toNat)), none, none, none, none, none, none]) (S' := [.ref 51, vI (A.1 67 (a0).toNat), .ref 26]) rfl ?_
  obtain ⟨r3, A3, hf3, h⟩ := rz_b_inv h
  obtain ⟨hg3, hr3, hw3⟩ := cx39_placeOf F (d := d + 0) hf3 (hw 67 (a0).toNat).1 hw
  refine rz_B.call (d := d + 2) (as := [.ref 26, vI (A.1 67 (a0).toNat), .ref 51]) (rest := []) (w := some (vI r3)) rfl hg3 ?_
  refine rz_B.go 5 (pc' := 27) (L' := [some (.ref 64), some (vI a0), some (.ref 72), some (vI (A.1 67 (a0).toNat)), some (vI r3), none, none, none, none, none]) (S' := [vI a0, vI 2, .ref 68]) rfl ?_
  obtain ⟨hk4, h⟩ := rz_g32_inv h
  refine rz_B.imul rfl ?_
  refine rz_B.go 1 (pc' := 29) (L' := [some (.ref 64), some (vI a0), some (.ref 72), some (vI (A.1 67 (a0).toNat)), some (vI r3), none, none, none, none, none]) (S' := [vL 0, vI (2 * a0), .ref 68]) rfl ?_
  obtain ⟨hi5, hj6, h⟩ := rz_gx_inv h
  refine rz_B.last rfl rfl hi5 hj6 (by decide) ?_
  have hw7 : wf (aL A3 68 ((2 * a0)).toNat 0) := wf_aL hw3 (by decide)
  refine rz_B.go 4 (pc' := 36) (L' := [some (.ref 64), some (vI a0), some (.ref 72), some (vI (A.1 67 (a0).toNat)), some (vI r3), none, none, none, none, none]) (S' := [vI a0, vI 2, .ref 68]) rfl ?_
  refine rz_B.imul rfl ?_
  refine rz_B.go 1 (pc' := 38) (L' := [some (.ref 64), some (vI a0), some (.ref 72), some (vI (A.1 67 (a0).toNat)), some (vI r3), none, none, none, none, none]) (S' := [vI 1, vI (2 * a0), .ref 68]) rfl ?_
  obtain ⟨hk8, h⟩ := rz_g32_inv h
  refine rz_B.iadd rfl ?_
  refine rz_B.go 1 (pc' := 40) (L' := [some (.ref 64), some (vI a0), some (.ref 72), some (vI (A.1 67 (a0).toNat)), some (vI r3), none, none, none, none, none]) (S' := [vL 0, vI ((2 * a0) + 1), .ref 68]) rfl ?_
  obtain ⟨hi9, hj10, h⟩ := rz_gx_inv h
  refine rz_B.last rfl rfl hi9 hj10 (by decide) ?_
  have hw11 : wf (aL (aL A3 68 ((2 * a0)).toNat 0) 68 (((2 * a0) + 1)).toNat 0) := wf_aL hw7 (by decide)
  refine rz_B.go 2 (pc' := if decide (Int32.ofInt 0 ≤ Int32.ofInt r3) = true then 47 else 46) (L' := [some (.ref 64), some (vI a0), some (.ref 72), some (vI (A.1 67 (a0).toNat)), some (vI r3), none, none, none, none, none]) (S' := []) rfl ?_
  by_cases hc12 : r3 < 0
  · have h := if_T h hc12
    refine rz_B.ifF (mt (le32 (by decide) hr3).mp (Int.not_le.mpr hc12)) ?_
    cases h
    exact rz_B.ret rfl trivial hw11
  · have h := if_F h hc12
    refine rz_B.ifT ((le32 (by decide) hr3).mpr (Int.not_lt.mp hc12)) ?_
    refine rz_B.go 4 (pc' := 55) (L' := [some (.ref 64), some (vI a0), some (.ref 72), some (vI (A.1 67 (a0).toNat)), some (vI r3), none, none, none, none, none]) (S' := [vI (A.1 67 (a0).toNat), .ref 29]) rfl ?_
    obtain ⟨hi13, hj14, h⟩ := rz_gx_inv h
    refine rz_B.iald rfl rfl hi13 hj14 (by decide) ?_
    refine rz_B.go 3 (pc' := 61) (L' := [some (.ref 64), some (vI a0), some (.ref 72), some (vI (A.1 67 (a0).toNat)), some (vI r3), none, none, none, none, none]) (S' := [vI (A.1 67 (a0).toNat), .ref 26, vI (A3.1 29 ((A.1 67 (a0).toNat)).toNat)]) rfl ?_
    obtain ⟨r15, A15, hf15, h⟩ := rz_b_inv h
    obtain ⟨hg15, hr15, hw15⟩ := cx101_mayDiffer F (d := d + 1) hf15 (hw 67 (a0).toNat).1 hw11
    refine rz_B.call (d := d + 2) (as := [.ref 26, vI (A.1 67 (a0).toNat)]) (rest := [vI (A3.1 29 ((A.1 67 (a0).toNat)).toNat)]) (w := some (vI r15)) rfl hg15 ?_
    obtain ⟨hk16, h⟩ := rz_g32_inv h
    refine rz_B.isub rfl ?_
    refine rz_B.go 5 (pc' := 75) (L' := [some (.ref 64), some (vI a0), some (.ref 72), some (vI (A.1 67 (a0).toNat)), some (vI r3), some (vI ((A3.1 29 ((A.1 67 (a0).toNat)).toNat) - r15)), none, none, none, none]) (S' := [vI (A.1 67 (a0).toNat), .ref 29]) rfl ?_
    refine rz_B.iald rfl rfl hi13 hj14 (by decide) ?_
    refine rz_B.go 3 (pc' := 81) (L' := [some (.ref 64), some (vI a0), some (.ref 72), some (vI (A.1 67 (a0).toNat)), some (vI r3), some (vI ((A3.1 29 ((A.1 67 (a0).toNat)).toNat) - r15)), none, none, none, none]) (S' := [vI (A.1 67 (a0).toNat), .ref 26, vI (A15.1 29 ((A.1 67 (a0).toNat)).toNat)]) rfl ?_
    obtain ⟨r17, A17, hf17, h⟩ := rz_b_inv h
    obtain ⟨hg17, hr17, hw17⟩ := cx101_mayDiffer F (d := d + 1) hf17 (hw 67 (a0).toNat).1 hw15
    refine rz_B.call (d := d + 2) (as := [.ref 26, vI (A.1 67 (a0).toNat)]) (rest := [vI (A15.1 29 ((A.1 67 (a0).toNat)).toNat)]) (w := some (vI r17)) rfl hg17 ?_
    obtain ⟨hk18, h⟩ := rz_g32_inv h
    refine rz_B.iadd rfl ?_
    refine rz_B.go 3 (pc' := 91) (L' := [some (.ref 64), some (vI a0), some (.ref 72), some (vI (A.1 67 (a0).toNat)), some (vI r3), some (vI ((A3.1 29 ((A.1 67 (a0).toNat)).toNat) - r15)), some (vI ((A15.1 29 ((A.1 67 (a0).toNat)).toNat) + r17)), some (vI (-50)), none, none]) (S' := []) rfl ?_
    refine rz_B.more (rg_le_ok (L := [some (.ref 64), some (vI a0), some (.ref 72), none, some (vI r3), some (vI ((A3.1 29 ((A.1 67 (a0).toNat)).toNat) - r15)), some (vI ((A15.1 29 ((A.1 67 (a0).toNat)).toNat) + r17)), some (vI (-50)), none, none]) (by simp [rg_le])) ?_
    exact cx100_findShifts_b_91_1 F F _ _ _ _ _ _ _ _ h ha0 hr3 hk16 hk18 (by decide) hw17
theorem cx100_findShifts_b_91_2 {d : Nat} (F : Nat) : ∀ (n : Nat) (v1 : Int) (v4 : Int) (v5 : Int) (v6 : Int) (v7 : Int) (A : rz_A) (r : Unit) (A' : rz_A), x100_findShifts_b_91 F 2 n v1 v4 v5 v6 v7 A = some (r, A') → r32 v1 → r32 v4 → r32 v5 → r32 v6 → r32 v7 → wf A → rz_B (d + 3) 100 91 [some (.ref 64), some (vI v1), some (.ref 75), none, some (vI v4), some (vI v5), some (vI v6), some (vI v7), none, none] [] A (none) A' (True) := by
  intro n
  induction n with
  | zero => intro v1 v4 v5 v6 v7 A r A' h; cases h
  | succ n ih =>
    intro v1 v4 v5 v6 v7 A r A' h hv1 hv4 hv5 hv6 hv7 hw
    rw [x100_findShifts_b_91] at h
    refine rz_B.go 3 (pc' := if decide (Int32.ofInt 50 < Int32.ofInt v7) = true then 171 else 98) (L' := [some (.ref 64), some (vI v1), some (.ref 75), none, some (vI v4), some (vI v5), some (vI v6), some (vI v7), none, none]) (S' := []) rfl ?_
    by_cases hc1 : v7 ≤ 50
    · have h := if_T h hc1
      refine rz_B.ifF (mt (lt32 (by decide) hv7).mp (Int.not_lt.mpr hc1)) ?_
      refine rz_B.go 5 (pc' := 108) (L' := [some (.ref 64), some (vI v1), some (.ref 75), none, some (vI v4), some (vI v5), some (vI v6), some (vI v7), none, none]) (S' := [vI v4, .ref 54, .ref 75]) rfl ?_
      obtain ⟨hi2, hj3, h⟩ := rz_gx_inv h
      refine rz_B.iald rfl rfl hi2 hj3 (by decide) ?_
      refine rz_B.go 1 (pc' := 111) (L' := [some (.ref 64), some (vI v1), some (.ref 75), none, some (vI v4), some (vI v5), some (vI v6), some (vI v7), none, none]) (S' := [vI v7, vI (A.1 54 (v4).toNat), .ref 75]) rfl ?_
      obtain ⟨hk4, h⟩ := rz_g32_inv h
      refine rz_B.iadd rfl ?_
      refine rz_B.go 1 (pc' := 115) (L' := [some (.ref 64), some (vI v1), some (.ref 75), none, some (vI v4), some (vI v5), some (vI v6), some (vI v7), none, none]) (S' := [vI (-2000), vI ((A.1 54 (v4).toNat) + v7), .ref 75]) rfl ?_
      obtain ⟨r5, A5, hf5, h⟩ := rz_b_inv h
      obtain ⟨hg5, hr5, hw5⟩ := cx80_flowBy_b_2 F (d := d + 0) hf5 hk4 (by decide) hw
      refine rz_B.call (d := d + 2) (as := [.ref 75, vI ((A.1 54 (v4).toNat) + v7), vI (-2000)]) (rest := []) (w := some (vI r5)) rfl hg5 ?_
      refine rz_B.go 3 (pc' := 124) (L' := [some (.ref 64), some (vI v1), some (.ref 75), none, some (vI v4), some (vI v5), some (vI v6), some (vI v7), some (vI r5), none]) (S' := [vI 50, vI v7]) rfl ?_
      obtain ⟨hk6, h⟩ := rz_g32_inv h
      refine rz_B.iadd rfl ?_
      refine rz_B.go 4 (pc' := if decide (Int32.ofInt r5 < Int32.ofInt v5) = true then 165 else 134) (L' := [some (.ref 64), some (vI v1), some (.ref 75), none, some (vI v4), some (vI v5), some (vI v6), some (vI v7), some (vI r5), some (vI (v7 + 50))]) (S' := []) rfl ?_
      by_cases hc7 : v5 ≤ r5
      · have h := if_T h hc7
        refine rz_B.ifF (mt (lt32 hr5 hv5).mp (Int.not_lt.mpr hc7)) ?_
        refine rz_B.go 3 (pc' := if decide (Int32.ofInt v6 < Int32.ofInt r5) = true then 165 else 141) (L' := [some (.ref 64), some (vI v1), some (.ref 75), none, some (vI v4), some (vI v5), some (vI v6), some (vI v7), some (vI r5), some (vI (v7 + 50))]) (S' := []) rfl ?_
        by_cases hc8 : r5 ≤ v6
        · have h := if_T h hc8
          refine rz_B.ifF (mt (lt32 hv6 hr5).mp (Int.not_lt.mpr hc8)) ?_
          refine rz_B.go 4 (pc' := 147) (L' := [some (.ref 64), some (vI v1), some (.ref 75), none, some (vI v4), some (vI v5), some (vI v6), some (vI v7), some (vI r5), some (vI (v7 + 50))]) (S' := [vI v1, vI 2, .ref 68]) rfl ?_
          obtain ⟨hk9, h⟩ := rz_g32_inv h
          refine rz_B.imul rfl ?_
          refine rz_B.go 2 (pc' := 152) (L' := [some (.ref 64), some (vI v1), some (.ref 75), none, some (vI v4), some (vI v5), some (vI v6), some (vI v7), some (vI r5), some (vI (v7 + 50))]) (S' := [vI 64, vI (v7 + 50), vI (2 * v1), .ref 68]) rfl ?_
          obtain ⟨hk10, h⟩ := rz_g32_inv h
          refine rz_B.idiv rfl hk6 (by decide) (by decide) ?_
          obtain ⟨hk11, h⟩ := rz_g32_inv h
          refine rz_B.iadd rfl ?_
          refine rz_B.go 1 (pc' := 155) (L' := [some (.ref 64), some (vI v1), some (.ref 75), none, some (vI v4), some (vI v5), some (vI v6), some (vI v7), some (vI r5), some (vI (v7 + 50))]) (S' := [vI ((2 * v1) + ((v7 + 50).tdiv 64)), .ref 68, vI ((2 * v1) + ((v7 + 50).tdiv 64)), .ref 68]) rfl ?_
          obtain ⟨hi12, hj13, h⟩ := rz_gx_inv h
          refine rz_B.lald rfl rfl hi12 hj13 (by decide) ?_
          refine rz_B.go 3 (pc' := 161) (L' := [some (.ref 64), some (vI v1), some (.ref 75), none, some (vI v4), some (vI v5), some (vI v6), some (vI v7), some (vI r5), some (vI (v7 + 50))]) (S' := [vI 64, vI (v7 + 50), vL 1, vL (A5.2 68 (((2 * v1) + ((v7 + 50).tdiv 64))).toNat), vI ((2 * v1) + ((v7 + 50).tdiv 64)), .ref 68]) rfl ?_
          obtain ⟨hk14, h⟩ := rz_g32_inv h
          refine rz_B.irem rfl hk6 (by decide) (by decide) ?_
          refine rz_B.oS gShl rfl ?_
          refine rz_B.oL gOr rfl ?_
          refine rz_B.last rfl rfl hi12 hj13 (by decide) ?_
          have hw15 : wf (aL A5 68 (((2 * v1) + ((v7 + 50).tdiv 64))).toNat (rz_oL gOr (A5.2 68 (((2 * v1) + ((v7 + 50).tdiv 64))).toNat) (rz_oS gShl 1 ((v7 + 50).tmod 64)))) := wf_aL hw5 r64_oL
          obtain ⟨hk16, h⟩ := rz_g32_inv h
          refine rz_B.iinc rfl (by decide) rfl (L' := [some (.ref 64), some (vI v1), some (.ref 75), none, some (vI v4), some (vI v5), some (vI v6), some (vI (v7 + 1)), some (vI r5), some (vI (v7 + 50))]) rfl ?_
          refine rz_B.go 1 (pc' := 91) (L' := [some (.ref 64), some (vI v1), some (.ref 75), none, some (vI v4), some (vI v5), some (vI v6), some (vI (v7 + 1)), some (vI r5), some (vI (v7 + 50))]) (S' := []) rfl ?_
          refine rz_B.more (rg_le_ok (L := [some (.ref 64), some (vI v1), some (.ref 75), none, some (vI v4), some (vI v5), some (vI v6), some (vI (v7 + 1)), none, none]) (by simp [rg_le])) ?_
          exact ih _ _ _ _ _ _ _ _ h hv1 hv4 hv5 hv6 hk16 hw15
        · have h := if_F h hc8
          refine rz_B.ifT ((lt32 hv6 hr5).mpr (Int.not_le.mp hc8)) ?_
          obtain ⟨hk17, h⟩ := rz_g32_inv h
          refine rz_B.iinc rfl (by decide) rfl (L' := [some (.ref 64), some (vI v1), some (.ref 75), none, some (vI v4), some (vI v5), some (vI v6), some (vI (v7 + 1)), some (vI r5), some (vI (v7 + 50))]) rfl ?_
          refine rz_B.go 1 (pc' := 91) (L' := [some (.ref 64), some (vI v1), some (.ref 75), none, some (vI v4), some (vI v5), some (vI v6), some (vI (v7 + 1)), some (vI r5), some (vI (v7 + 50))]) (S' := []) rfl ?_
          refine rz_B.more (rg_le_ok (L := [some (.ref 64), some (vI v1), some (.ref 75), none, some (vI v4), some (vI v5), some (vI v6), some (vI (v7 + 1)), none, none]) (by simp [rg_le])) ?_
          exact ih _ _ _ _ _ _ _ _ h hv1 hv4 hv5 hv6 hk17 hw5
      · have h := if_F h hc7
        refine rz_B.ifT ((lt32 hr5 hv5).mpr (Int.not_le.mp hc7)) ?_
        obtain ⟨hk18, h⟩ := rz_g32_inv h
        refine rz_B.iinc rfl (by decide) rfl (L' := [some (.ref 64), some (vI v1), some (.ref 75), none, some (vI v4), some (vI v5), some (vI v6), some (vI (v7 + 1)), some (vI r5), some (vI (v7 + 50))]) rfl ?_
        refine rz_B.go 1 (pc' := 91) (L' := [some (.ref 64), some (vI v1), some (.ref 75), none, some (vI v4), some (vI v5), some (vI v6), some (vI (v7 + 1)), some (vI r5), some (vI (v7 + 50))]) (S' := []) rfl ?_
        refine rz_B.more (rg_le_ok (L := [some (.ref 64), some (vI v1), some (.ref 75), none, some (vI v4), some (vI v5), some (vI v6), some (vI (v7 + 1)), none, none]) (by simp [rg_le])) ?_
        exact ih _ _ _ _ _ _ _ _ h hv1 hv4 hv5 hv6 hk18 hw5
    · have h := if_F h hc1
      refine rz_B.ifT ((lt32 (by decide) hv7).mpr (Int.not_le.mp hc1)) ?_
      cases h
      exact rz_B.ret rfl trivial hw
theorem cx100_findShifts_b_2 (F : Nat) {d : Nat} {a0 : Int} {A : rz_A} {r : Unit} {A' : rz_A} (h : x100_findShifts_b F 2 a0 A = some (r, A')) (ha0 : r32 a0) (hw : wf A) : rg_Rn (d + 3) 100 [.ref 64, vI a0, .ref 75] (toM A) (none) (toM A') ∧ (True) ∧ wf A' := by
  show rz_B (d + 3) 100 0 [some (.ref 64), some (vI a0), some (.ref 75), none, none, none, none, none, none, none] [] A (none) A' (True)
  unfold x100_findShifts_b at h
  refine rz_B.go 3 (pc' := 5) (L' := [some (.ref 64), some (vI a0), some (.ref 75), none, none, none, none, none, none, none]) (S' := [vI a0, .ref 67]) rfl ?_
  obtain ⟨hi1, hj2, h⟩ := rz_gx_inv h
  refine rz_B.iald rfl rfl hi1 hj2 (by decide) ?_
  refine rz_B.go 6 (pc' := 16) (L' := [some (.ref 64), some (vI a0), some (.ref 75), some (vI (A.1 67 (a0).toNat)), none, none, none, none, none, none]) (S' := [.ref 51, vI (A.1 67 (a0).toNat), .ref 26]) rfl ?_
  obtain ⟨r3, A3, hf3, h⟩ := rz_b_inv h
  obtain ⟨hg3, hr3, hw3⟩ := cx39_placeOf F (d := d + 0) hf3 (hw 67 (a0).toNat).1 hw
  refine rz_B.call (d := d + 2) (as := [.ref 26, vI (A.1 67 (a0).toNat), .ref 51]) (rest := []) (w := some (vI r3)) rfl hg3 ?_
  refine rz_B.go 5 (pc' := 27) (L' := [some (.ref 64), some (vI a0), some (.ref 75), some (vI (A.1 67 (a0).toNat)), some (vI r3), none, none, none, none, none]) (S' := [vI a0, vI 2, .ref 68]) rfl ?_
  obtain ⟨hk4, h⟩ := rz_g32_inv h
  refine rz_B.imul rfl ?_
  refine rz_B.go 1 (pc' := 29) (L' := [some (.ref 64), some (vI a0), some (.ref 75), some (vI (A.1 67 (a0).toNat)), some (vI r3), none, none, none, none, none]) (S' := [vL 0, vI (2 * a0), .ref 68]) rfl ?_
  obtain ⟨hi5, hj6, h⟩ := rz_gx_inv h
  refine rz_B.last rfl rfl hi5 hj6 (by decide) ?_
  have hw7 : wf (aL A3 68 ((2 * a0)).toNat 0) := wf_aL hw3 (by decide)
  refine rz_B.go 4 (pc' := 36) (L' := [some (.ref 64), some (vI a0), some (.ref 75), some (vI (A.1 67 (a0).toNat)), some (vI r3), none, none, none, none, none]) (S' := [vI a0, vI 2, .ref 68]) rfl ?_
  refine rz_B.imul rfl ?_
  refine rz_B.go 1 (pc' := 38) (L' := [some (.ref 64), some (vI a0), some (.ref 75), some (vI (A.1 67 (a0).toNat)), some (vI r3), none, none, none, none, none]) (S' := [vI 1, vI (2 * a0), .ref 68]) rfl ?_
  obtain ⟨hk8, h⟩ := rz_g32_inv h
  refine rz_B.iadd rfl ?_
  refine rz_B.go 1 (pc' := 40) (L' := [some (.ref 64), some (vI a0), some (.ref 75), some (vI (A.1 67 (a0).toNat)), some (vI r3), none, none, none, none, none]) (S' := [vL 0, vI ((2 * a0) + 1), .ref 68]) rfl ?_
  obtain ⟨hi9, hj10, h⟩ := rz_gx_inv h
  refine rz_B.last rfl rfl hi9 hj10 (by decide) ?_
  have hw11 : wf (aL (aL A3 68 ((2 * a0)).toNat 0) 68 (((2 * a0) + 1)).toNat 0) := wf_aL hw7 (by decide)
  refine rz_B.go 2 (pc' := if decide (Int32.ofInt 0 ≤ Int32.ofInt r3) = true then 47 else 46) (L' := [some (.ref 64), some (vI a0), some (.ref 75), some (vI (A.1 67 (a0).toNat)), some (vI r3), none, none, none, none, none]) (S' := []) rfl ?_
  by_cases hc12 : r3 < 0
  · have h := if_T h hc12
    refine rz_B.ifF (mt (le32 (by decide) hr3).mp (Int.not_le.mpr hc12)) ?_
    cases h
    exact rz_B.ret rfl trivial hw11
  · have h := if_F h hc12
    refine rz_B.ifT ((le32 (by decide) hr3).mpr (Int.not_lt.mp hc12)) ?_
    refine rz_B.go 4 (pc' := 55) (L' := [some (.ref 64), some (vI a0), some (.ref 75), some (vI (A.1 67 (a0).toNat)), some (vI r3), none, none, none, none, none]) (S' := [vI (A.1 67 (a0).toNat), .ref 29]) rfl ?_
    obtain ⟨hi13, hj14, h⟩ := rz_gx_inv h
    refine rz_B.iald rfl rfl hi13 hj14 (by decide) ?_
    refine rz_B.go 3 (pc' := 61) (L' := [some (.ref 64), some (vI a0), some (.ref 75), some (vI (A.1 67 (a0).toNat)), some (vI r3), none, none, none, none, none]) (S' := [vI (A.1 67 (a0).toNat), .ref 26, vI (A3.1 29 ((A.1 67 (a0).toNat)).toNat)]) rfl ?_
    obtain ⟨r15, A15, hf15, h⟩ := rz_b_inv h
    obtain ⟨hg15, hr15, hw15⟩ := cx101_mayDiffer F (d := d + 1) hf15 (hw 67 (a0).toNat).1 hw11
    refine rz_B.call (d := d + 2) (as := [.ref 26, vI (A.1 67 (a0).toNat)]) (rest := [vI (A3.1 29 ((A.1 67 (a0).toNat)).toNat)]) (w := some (vI r15)) rfl hg15 ?_
    obtain ⟨hk16, h⟩ := rz_g32_inv h
    refine rz_B.isub rfl ?_
    refine rz_B.go 5 (pc' := 75) (L' := [some (.ref 64), some (vI a0), some (.ref 75), some (vI (A.1 67 (a0).toNat)), some (vI r3), some (vI ((A3.1 29 ((A.1 67 (a0).toNat)).toNat) - r15)), none, none, none, none]) (S' := [vI (A.1 67 (a0).toNat), .ref 29]) rfl ?_
    refine rz_B.iald rfl rfl hi13 hj14 (by decide) ?_
    refine rz_B.go 3 (pc' := 81) (L' := [some (.ref 64), some (vI a0), some (.ref 75), some (vI (A.1 67 (a0).toNat)), some (vI r3), some (vI ((A3.1 29 ((A.1 67 (a0).toNat)).toNat) - r15)), none, none, none, none]) (S' := [vI (A.1 67 (a0).toNat), .ref 26, vI (A15.1 29 ((A.1 67 (a0).toNat)).toNat)]) rfl ?_
    obtain ⟨r17, A17, hf17, h⟩ := rz_b_inv h
    obtain ⟨hg17, hr17, hw17⟩ := cx101_mayDiffer F (d := d + 1) hf17 (hw 67 (a0).toNat).1 hw15
    refine rz_B.call (d := d + 2) (as := [.ref 26, vI (A.1 67 (a0).toNat)]) (rest := [vI (A15.1 29 ((A.1 67 (a0).toNat)).toNat)]) (w := some (vI r17)) rfl hg17 ?_
    obtain ⟨hk18, h⟩ := rz_g32_inv h
    refine rz_B.iadd rfl ?_
    refine rz_B.go 3 (pc' := 91) (L' := [some (.ref 64), some (vI a0), some (.ref 75), some (vI (A.1 67 (a0).toNat)), some (vI r3), some (vI ((A3.1 29 ((A.1 67 (a0).toNat)).toNat) - r15)), some (vI ((A15.1 29 ((A.1 67 (a0).toNat)).toNat) + r17)), some (vI (-50)), none, none]) (S' := []) rfl ?_
    refine rz_B.more (rg_le_ok (L := [some (.ref 64), some (vI a0), some (.ref 75), none, some (vI r3), some (vI ((A3.1 29 ((A.1 67 (a0).toNat)).toNat) - r15)), some (vI ((A15.1 29 ((A.1 67 (a0).toNat)).toNat) + r17)), some (vI (-50)), none, none]) (by simp [rg_le])) ?_
    exact cx100_findShifts_b_91_2 F F _ _ _ _ _ _ _ _ h ha0 hr3 hk16 hk18 (by decide) hw17
theorem cx100_findShifts_b_91_3 {d : Nat} (F : Nat) : ∀ (n : Nat) (v1 : Int) (v4 : Int) (v5 : Int) (v6 : Int) (v7 : Int) (A : rz_A) (r : Unit) (A' : rz_A), x100_findShifts_b_91 F 3 n v1 v4 v5 v6 v7 A = some (r, A') → r32 v1 → r32 v4 → r32 v5 → r32 v6 → r32 v7 → wf A → rz_B (d + 3) 100 91 [some (.ref 64), some (vI v1), some (.ref 78), none, some (vI v4), some (vI v5), some (vI v6), some (vI v7), none, none] [] A (none) A' (True) := by
  intro n
  induction n with
  | zero => intro v1 v4 v5 v6 v7 A r A' h; cases h
  | succ n ih =>
    intro v1 v4 v5 v6 v7 A r A' h hv1 hv4 hv5 hv6 hv7 hw
    rw [x100_findShifts_b_91] at h
    refine rz_B.go 3 (pc' := if decide (Int32.ofInt 50 < Int32.ofInt v7) = true then 171 else 98) (L' := [some (.ref 64), some (vI v1), some (.ref 78), none, some (vI v4), some (vI v5), some (vI v6), some (vI v7), none, none]) (S' := []) rfl ?_
    by_cases hc1 : v7 ≤ 50
    · have h := if_T h hc1
      refine rz_B.ifF (mt (lt32 (by decide) hv7).mp (Int.not_lt.mpr hc1)) ?_
      refine rz_B.go 5 (pc' := 108) (L' := [some (.ref 64), some (vI v1), some (.ref 78), none, some (vI v4), some (vI v5), some (vI v6), some (vI v7), none, none]) (S' := [vI v4, .ref 54, .ref 78]) rfl ?_
      obtain ⟨hi2, hj3, h⟩ := rz_gx_inv h
      refine rz_B.iald rfl rfl hi2 hj3 (by decide) ?_
      refine rz_B.go 1 (pc' := 111) (L' := [some (.ref 64), some (vI v1), some (.ref 78), none, some (vI v4), some (vI v5), some (vI v6), some (vI v7), none, none]) (S' := [vI v7, vI (A.1 54 (v4).toNat), .ref 78]) rfl ?_
      obtain ⟨hk4, h⟩ := rz_g32_inv h
      refine rz_B.iadd rfl ?_
      refine rz_B.go 1 (pc' := 115) (L' := [some (.ref 64), some (vI v1), some (.ref 78), none, some (vI v4), some (vI v5), some (vI v6), some (vI v7), none, none]) (S' := [vI (-2000), vI ((A.1 54 (v4).toNat) + v7), .ref 78]) rfl ?_
      obtain ⟨r5, A5, hf5, h⟩ := rz_b_inv h
      obtain ⟨hg5, hr5, hw5⟩ := cx80_flowBy_b_3 F (d := d + 0) hf5 hk4 (by decide) hw
      refine rz_B.call (d := d + 2) (as := [.ref 78, vI ((A.1 54 (v4).toNat) + v7), vI (-2000)]) (rest := []) (w := some (vI r5)) rfl hg5 ?_
      refine rz_B.go 3 (pc' := 124) (L' := [some (.ref 64), some (vI v1), some (.ref 78), none, some (vI v4), some (vI v5), some (vI v6), some (vI v7), some (vI r5), none]) (S' := [vI 50, vI v7]) rfl ?_
      obtain ⟨hk6, h⟩ := rz_g32_inv h
      refine rz_B.iadd rfl ?_
      refine rz_B.go 4 (pc' := if decide (Int32.ofInt r5 < Int32.ofInt v5) = true then 165 else 134) (L' := [some (.ref 64), some (vI v1), some (.ref 78), none, some (vI v4), some (vI v5), some (vI v6), some (vI v7), some (vI r5), some (vI (v7 + 50))]) (S' := []) rfl ?_
      by_cases hc7 : v5 ≤ r5
      · have h := if_T h hc7
        refine rz_B.ifF (mt (lt32 hr5 hv5).mp (Int.not_lt.mpr hc7)) ?_
        refine rz_B.go 3 (pc' := if decide (Int32.ofInt v6 < Int32.ofInt r5) = true then 165 else 141) (L' := [some (.ref 64), some (vI v1), some (.ref 78), none, some (vI v4), some (vI v5), some (vI v6), some (vI v7), some (vI r5), some (vI (v7 + 50))]) (S' := []) rfl ?_
        by_cases hc8 : r5 ≤ v6
        · have h := if_T h hc8
          refine rz_B.ifF (mt (lt32 hv6 hr5).mp (Int.not_lt.mpr hc8)) ?_
          refine rz_B.go 4 (pc' := 147) (L' := [some (.ref 64), some (vI v1), some (.ref 78), none, some (vI v4), some (vI v5), some (vI v6), some (vI v7), some (vI r5), some (vI (v7 + 50))]) (S' := [vI v1, vI 2, .ref 68]) rfl ?_
          obtain ⟨hk9, h⟩ := rz_g32_inv h
          refine rz_B.imul rfl ?_
          refine rz_B.go 2 (pc' := 152) (L' := [some (.ref 64), some (vI v1), some (.ref 78), none, some (vI v4), some (vI v5), some (vI v6), some (vI v7), some (vI r5), some (vI (v7 + 50))]) (S' := [vI 64, vI (v7 + 50), vI (2 * v1), .ref 68]) rfl ?_
          obtain ⟨hk10, h⟩ := rz_g32_inv h
          refine rz_B.idiv rfl hk6 (by decide) (by decide) ?_
          obtain ⟨hk11, h⟩ := rz_g32_inv h
          refine rz_B.iadd rfl ?_
          refine rz_B.go 1 (pc' := 155) (L' := [some (.ref 64), some (vI v1), some (.ref 78), none, some (vI v4), some (vI v5), some (vI v6), some (vI v7), some (vI r5), some (vI (v7 + 50))]) (S' := [vI ((2 * v1) + ((v7 + 50).tdiv 64)), .ref 68, vI ((2 * v1) + ((v7 + 50).tdiv 64)), .ref 68]) rfl ?_
          obtain ⟨hi12, hj13, h⟩ := rz_gx_inv h
          refine rz_B.lald rfl rfl hi12 hj13 (by decide) ?_
          refine rz_B.go 3 (pc' := 161) (L' := [some (.ref 64), some (vI v1), some (.ref 78), none, some (vI v4), some (vI v5), some (vI v6), some (vI v7), some (vI r5), some (vI (v7 + 50))]) (S' := [vI 64, vI (v7 + 50), vL 1, vL (A5.2 68 (((2 * v1) + ((v7 + 50).tdiv 64))).toNat), vI ((2 * v1) + ((v7 + 50).tdiv 64)), .ref 68]) rfl ?_
          obtain ⟨hk14, h⟩ := rz_g32_inv h
          refine rz_B.irem rfl hk6 (by decide) (by decide) ?_
          refine rz_B.oS gShl rfl ?_
          refine rz_B.oL gOr rfl ?_
          refine rz_B.last rfl rfl hi12 hj13 (by decide) ?_
          have hw15 : wf (aL A5 68 (((2 * v1) + ((v7 + 50).tdiv 64))).toNat (rz_oL gOr (A5.2 68 (((2 * v1) + ((v7 + 50).tdiv 64))).toNat) (rz_oS gShl 1 ((v7 + 50).tmod 64)))) := wf_aL hw5 r64_oL
          obtain ⟨hk16, h⟩ := rz_g32_inv h
          refine rz_B.iinc rfl (by decide) rfl (L' := [some (.ref 64), some (vI v1), some (.ref 78), none, some (vI v4), some (vI v5), some (vI v6), some (vI (v7 + 1)), some (vI r5), some (vI (v7 + 50))]) rfl ?_
          refine rz_B.go 1 (pc' := 91) (L' := [some (.ref 64), some (vI v1), some (.ref 78), none, some (vI v4), some (vI v5), some (vI v6), some (vI (v7 + 1)), some (vI r5), some (vI (v7 + 50))]) (S' := []) rfl ?_
          refine rz_B.more (rg_le_ok (L := [some (.ref 64), some (vI v1), some (.ref 78), none, some (vI v4), some (vI v5), some (vI v6), some (vI (v7 + 1)), none, none]) (by simp [rg_le])) ?_
          exact ih _ _ _ _ _ _ _ _ h hv1 hv4 hv5 hv6 hk16 hw15
        · have h := if_F h hc8
          refine rz_B.ifT ((lt32 hv6 hr5).mpr (Int.not_le.mp hc8)) ?_
          obtain ⟨hk17, h⟩ := rz_g32_inv h
          refine rz_B.iinc rfl (by decide) rfl (L' := [some (.ref 64), some (vI v1), some (.ref 78), none, some (vI v4), some (vI v5), some (vI v6), some (vI (v7 + 1)), some (vI r5), some (vI (v7 + 50))]) rfl ?_
          refine rz_B.go 1 (pc' := 91) (L' := [some (.ref 64), some (vI v1), some (.ref 78), none, some (vI v4), some (vI v5), some (vI v6), some (vI (v7 + 1)), some (vI r5), some (vI (v7 + 50))]) (S' := []) rfl ?_
          refine rz_B.more (rg_le_ok (L := [some (.ref 64), some (vI v1), some (.ref 78), none, some (vI v4), some (vI v5), some (vI v6), some (vI (v7 + 1)), none, none]) (by simp [rg_le])) ?_
          exact ih _ _ _ _ _ _ _ _ h hv1 hv4 hv5 hv6 hk17 hw5
      · have h := if_F h hc7
        refine rz_B.ifT ((lt32 hr5 hv5).mpr (Int.not_le.mp hc7)) ?_
        obtain ⟨hk18, h⟩ := rz_g32_inv h
        refine rz_B.iinc rfl (by decide) rfl (L' := [some (.ref 64), some (vI v1), some (.ref 78), none, some (vI v4), some (vI v5), some (vI v6), some (vI (v7 + 1)), some (vI r5), some (vI (v7 + 50))]) rfl ?_
        refine rz_B.go 1 (pc' := 91) (L' := [some (.ref 64), some (vI v1), some (.ref 78), none, some (vI v4), some (vI v5), some (vI v6), some (vI (v7 + 1)), some (vI r5), some (vI (v7 + 50))]) (S' := []) rfl ?_
        refine rz_B.more (rg_le_ok (L := [some (.ref 64), some (vI v1), some (.ref 78), none, some (vI v4), some (vI v5), some (vI v6), some (vI (v7 + 1)), none, none]) (by simp [rg_le])) ?_
        exact ih _ _ _ _ _ _ _ _ h hv1 hv4 hv5 hv6 hk18 hw5
    · have h := if_F h hc1
      refine rz_B.ifT ((lt32 (by decide) hv7).mpr (Int.not_le.mp hc1)) ?_
      cases h
      exact rz_B.ret rfl trivial hw
theorem cx100_findShifts_b_3 (F : Nat) {d : Nat} {a0 : Int} {A : rz_A} {r : Unit} {A' : rz_A} (h : x100_findShifts_b F 3 a0 A = some (r, A')) (ha0 : r32 a0) (hw : wf A) : rg_Rn (d + 3) 100 [.ref 64, vI a0, .ref 78] (toM A) (none) (toM A') ∧ (True) ∧ wf A' := by
  show rz_B (d + 3) 100 0 [some (.ref 64), some (vI a0), some (.ref 78), none, none, none, none, none, none, none] [] A (none) A' (True)
  unfold x100_findShifts_b at h
  refine rz_B.go 3 (pc' := 5) (L' := [some (.ref 64), some (vI a0), some (.ref 78), none, none, none, none, none, none, none]) (S' := [vI a0, .ref 67]) rfl ?_
  obtain ⟨hi1, hj2, h⟩ := rz_gx_inv h
  refine rz_B.iald rfl rfl hi1 hj2 (by decide) ?_
  refine rz_B.go 6 (pc' := 16) (L' := [some (.ref 64), some (vI a0), some (.ref 78), some (vI (A.1 67 (a0).toNat)), none, none, none, none, none, none]) (S' := [.ref 51, vI (A.1 67 (a0).toNat), .ref 26]) rfl ?_
  obtain ⟨r3, A3, hf3, h⟩ := rz_b_inv h
  obtain ⟨hg3, hr3, hw3⟩ := cx39_placeOf F (d := d + 0) hf3 (hw 67 (a0).toNat).1 hw
  refine rz_B.call (d := d + 2) (as := [.ref 26, vI (A.1 67 (a0).toNat), .ref 51]) (rest := []) (w := some (vI r3)) rfl hg3 ?_
  refine rz_B.go 5 (pc' := 27) (L' := [some (.ref 64), some (vI a0), some (.ref 78), some (vI (A.1 67 (a0).toNat)), some (vI r3), none, none, none, none, none]) (S' := [vI a0, vI 2, .ref 68]) rfl ?_
  obtain ⟨hk4, h⟩ := rz_g32_inv h
  refine rz_B.imul rfl ?_
  refine rz_B.go 1 (pc' := 29) (L' := [some (.ref 64), some (vI a0), some (.ref 78), some (vI (A.1 67 (a0).toNat)), some (vI r3), none, none, none, none, none]) (S' := [vL 0, vI (2 * a0), .ref 68]) rfl ?_
  obtain ⟨hi5, hj6, h⟩ := rz_gx_inv h
  refine rz_B.last rfl rfl hi5 hj6 (by decide) ?_
  have hw7 : wf (aL A3 68 ((2 * a0)).toNat 0) := wf_aL hw3 (by decide)
  refine rz_B.go 4 (pc' := 36) (L' := [some (.ref 64), some (vI a0), some (.ref 78), some (vI (A.1 67 (a0).toNat)), some (vI r3), none, none, none, none, none]) (S' := [vI a0, vI 2, .ref 68]) rfl ?_
  refine rz_B.imul rfl ?_
  refine rz_B.go 1 (pc' := 38) (L' := [some (.ref 64), some (vI a0), some (.ref 78), some (vI (A.1 67 (a0).toNat)), some (vI r3), none, none, none, none, none]) (S' := [vI 1, vI (2 * a0), .ref 68]) rfl ?_
  obtain ⟨hk8, h⟩ := rz_g32_inv h
  refine rz_B.iadd rfl ?_
  refine rz_B.go 1 (pc' := 40) (L' := [some (.ref 64), some (vI a0), some (.ref 78), some (vI (A.1 67 (a0).toNat)), some (vI r3), none, none, none, none, none]) (S' := [vL 0, vI ((2 * a0) + 1), .ref 68]) rfl ?_
  obtain ⟨hi9, hj10, h⟩ := rz_gx_inv h
  refine rz_B.last rfl rfl hi9 hj10 (by decide) ?_
  have hw11 : wf (aL (aL A3 68 ((2 * a0)).toNat 0) 68 (((2 * a0) + 1)).toNat 0) := wf_aL hw7 (by decide)
  refine rz_B.go 2 (pc' := if decide (Int32.ofInt 0 ≤ Int32.ofInt r3) = true then 47 else 46) (L' := [some (.ref 64), some (vI a0), some (.ref 78), some (vI (A.1 67 (a0).toNat)), some (vI r3), none, none, none, none, none]) (S' := []) rfl ?_
  by_cases hc12 : r3 < 0
  · have h := if_T h hc12
    refine rz_B.ifF (mt (le32 (by decide) hr3).mp (Int.not_le.mpr hc12)) ?_
    cases h
    exact rz_B.ret rfl trivial hw11
  · have h := if_F h hc12
    refine rz_B.ifT ((le32 (by decide) hr3).mpr (Int.not_lt.mp hc12)) ?_
    refine rz_B.go 4 (pc' := 55) (L' := [some (.ref 64), some (vI a0), some (.ref 78), some (vI (A.1 67 (a0).toNat)), some (vI r3), none, none, none, none, none]) (S' := [vI (A.1 67 (a0).toNat), .ref 29]) rfl ?_
    obtain ⟨hi13, hj14, h⟩ := rz_gx_inv h
    refine rz_B.iald rfl rfl hi13 hj14 (by decide) ?_
    refine rz_B.go 3 (pc' := 61) (L' := [some (.ref 64), some (vI a0), some (.ref 78), some (vI (A.1 67 (a0).toNat)), some (vI r3), none, none, none, none, none]) (S' := [vI (A.1 67 (a0).toNat), .ref 26, vI (A3.1 29 ((A.1 67 (a0).toNat)).toNat)]) rfl ?_
    obtain ⟨r15, A15, hf15, h⟩ := rz_b_inv h
    obtain ⟨hg15, hr15, hw15⟩ := cx101_mayDiffer F (d := d + 1) hf15 (hw 67 (a0).toNat).1 hw11
    refine rz_B.call (d := d + 2) (as := [.ref 26, vI (A.1 67 (a0).toNat)]) (rest := [vI (A3.1 29 ((A.1 67 (a0).toNat)).toNat)]) (w := some (vI r15)) rfl hg15 ?_
    obtain ⟨hk16, h⟩ := rz_g32_inv h
    refine rz_B.isub rfl ?_
    refine rz_B.go 5 (pc' := 75) (L' := [some (.ref 64), some (vI a0), some (.ref 78), some (vI (A.1 67 (a0).toNat)), some (vI r3), some (vI ((A3.1 29 ((A.1 67 (a0).toNat)).toNat) - r15)), none, none, none, none]) (S' := [vI (A.1 67 (a0).toNat), .ref 29]) rfl ?_
    refine rz_B.iald rfl rfl hi13 hj14 (by decide) ?_
    refine rz_B.go 3 (pc' := 81) (L' := [some (.ref 64), some (vI a0), some (.ref 78), some (vI (A.1 67 (a0).toNat)), some (vI r3), some (vI ((A3.1 29 ((A.1 67 (a0).toNat)).toNat) - r15)), none, none, none, none]) (S' := [vI (A.1 67 (a0).toNat), .ref 26, vI (A15.1 29 ((A.1 67 (a0).toNat)).toNat)]) rfl ?_
    obtain ⟨r17, A17, hf17, h⟩ := rz_b_inv h
    obtain ⟨hg17, hr17, hw17⟩ := cx101_mayDiffer F (d := d + 1) hf17 (hw 67 (a0).toNat).1 hw15
    refine rz_B.call (d := d + 2) (as := [.ref 26, vI (A.1 67 (a0).toNat)]) (rest := [vI (A15.1 29 ((A.1 67 (a0).toNat)).toNat)]) (w := some (vI r17)) rfl hg17 ?_
    obtain ⟨hk18, h⟩ := rz_g32_inv h
    refine rz_B.iadd rfl ?_
    refine rz_B.go 3 (pc' := 91) (L' := [some (.ref 64), some (vI a0), some (.ref 78), some (vI (A.1 67 (a0).toNat)), some (vI r3), some (vI ((A3.1 29 ((A.1 67 (a0).toNat)).toNat) - r15)), some (vI ((A15.1 29 ((A.1 67 (a0).toNat)).toNat) + r17)), some (vI (-50)), none, none]) (S' := []) rfl ?_
    refine rz_B.more (rg_le_ok (L := [some (.ref 64), some (vI a0), some (.ref 78), none, some (vI r3), some (vI ((A3.1 29 ((A.1 67 (a0).toNat)).toNat) - r15)), some (vI ((A15.1 29 ((A.1 67 (a0).toNat)).toNat) + r17)), some (vI (-50)), none, none]) (by simp [rg_le])) ?_
    exact cx100_findShifts_b_91_3 F F _ _ _ _ _ _ _ _ h ha0 hr3 hk16 hk18 (by decide) hw17
theorem cx100_findShifts_b_91_4 {d : Nat} (F : Nat) : ∀ (n : Nat) (v1 : Int) (v4 : Int) (v5 : Int) (v6 : Int) (v7 : Int) (A : rz_A) (r : Unit) (A' : rz_A), x100_findShifts_b_91 F 4 n v1 v4 v5 v6 v7 A = some (r, A') → r32 v1 → r32 v4 → r32 v5 → r32 v6 → r32 v7 → wf A → rz_B (d + 3) 100 91 [some (.ref 64), some (vI v1), some (.ref 81), none, some (vI v4), some (vI v5), some (vI v6), some (vI v7), none, none] [] A (none) A' (True) := by
  intro n
  induction n with
  | zero => intro v1 v4 v5 v6 v7 A r A' h; cases h
  | succ n ih =>
    intro v1 v4 v5 v6 v7 A r A' h hv1 hv4 hv5 hv6 hv7 hw
    rw [x100_findShifts_b_91] at h
    refine rz_B.go 3 (pc' := if decide (Int32.ofInt 50 < Int32.ofInt v7) = true then 171 else 98) (L' := [some (.ref 64), some (vI v1), some (.ref 81), none, some (vI v4), some (vI v5), some (vI v6), some (vI v7), none, none]) (S' := []) rfl ?_
    by_cases hc1 : v7 ≤ 50
    · have h := if_T h hc1
      refine rz_B.ifF (mt (lt32 (by decide) hv7).mp (Int.not_lt.mpr hc1)) ?_
      refine rz_B.go 5 (pc' := 108) (L' := [some (.ref 64), some (vI v1), some (.ref 81), none, some (vI v4), some (vI v5), some (vI v6), some (vI v7), none, none]) (S' := [vI v4, .ref 54, .ref 81]) rfl ?_
      obtain ⟨hi2, hj3, h⟩ := rz_gx_inv h
      refine rz_B.iald rfl rfl hi2 hj3 (by decide) ?_
      refine rz_B.go 1 (pc' := 111) (L' := [some (.ref 64), some (vI v1), some (.ref 81), none, some (vI v4), some (vI v5), some (vI v6), some (vI v7), none, none]) (S' := [vI v7, vI (A.1 54 (v4).toNat), .ref 81]) rfl ?_
      obtain ⟨hk4, h⟩ := rz_g32_inv h
      refine rz_B.iadd rfl ?_
      refine rz_B.go 1 (pc' := 115) (L' := [some (.ref 64), some (vI v1), some (.ref 81), none, some (vI v4), some (vI v5), some (vI v6), some (vI v7), none, none]) (S' := [vI (-2000), vI ((A.1 54 (v4).toNat) + v7), .ref 81]) rfl ?_
      obtain ⟨r5, A5, hf5, h⟩ := rz_b_inv h
      obtain ⟨hg5, hr5, hw5⟩ := cx80_flowBy_b_4 F (d := d + 0) hf5 hk4 (by decide) hw
      refine rz_B.call (d := d + 2) (as := [.ref 81, vI ((A.1 54 (v4).toNat) + v7), vI (-2000)]) (rest := []) (w := some (vI r5)) rfl hg5 ?_
      refine rz_B.go 3 (pc' := 124) (L' := [some (.ref 64), some (vI v1), some (.ref 81), none, some (vI v4), some (vI v5), some (vI v6), some (vI v7), some (vI r5), none]) (S' := [vI 50, vI v7]) rfl ?_
      obtain ⟨hk6, h⟩ := rz_g32_inv h
      refine rz_B.iadd rfl ?_
      refine rz_B.go 4 (pc' := if decide (Int32.ofInt r5 < Int32.ofInt v5) = true then 165 else 134) (L' := [some (.ref 64), some (vI v1), some (.ref 81), none, some (vI v4), some (vI v5), some (vI v6), some (vI v7), some (vI r5), some (vI (v7 + 50))]) (S' := []) rfl ?_
      by_cases hc7 : v5 ≤ r5
      · have h := if_T h hc7
        refine rz_B.ifF (mt (lt32 hr5 hv5).mp (Int.not_lt.mpr hc7)) ?_
        refine rz_B.go 3 (pc' := if decide (Int32.ofInt v6 < Int32.ofInt r5) = true then 165 else 141) (L' := [some (.ref 64), some (vI v1), some (.ref 81), none, some (vI v4), some (vI v5), some (vI v6), some (vI v7), some (vI r5), some (vI (v7 + 50))]) (S' := []) rfl ?_
        by_cases hc8 : r5 ≤ v6
        · have h := if_T h hc8
          refine rz_B.ifF (mt (lt32 hv6 hr5).mp (Int.not_lt.mpr hc8)) ?_
          refine rz_B.go 4 (pc' := 147) (L' := [some (.ref 64), some (vI v1), some (.ref 81), none, some (vI v4), some (vI v5), some (vI v6), some (vI v7), some (vI r5), some (vI (v7 + 50))]) (S' := [vI v1, vI 2, .ref 68]) rfl ?_
          obtain ⟨hk9, h⟩ := rz_g32_inv h
          refine rz_B.imul rfl ?_
          refine rz_B.go 2 (pc' := 152) (L' := [some (.ref 64), some (vI v1), some (.ref 81), none, some (vI v4), some (vI v5), some (vI v6), some (vI v7), some (vI r5), some (vI (v7 + 50))]) (S' := [vI 64, vI (v7 + 50), vI (2 * v1), .ref 68]) rfl ?_
          obtain ⟨hk10, h⟩ := rz_g32_inv h
          refine rz_B.idiv rfl hk6 (by decide) (by decide) ?_
          obtain ⟨hk11, h⟩ := rz_g32_inv h
          refine rz_B.iadd rfl ?_
          refine rz_B.go 1 (pc' := 155) (L' := [some (.ref 64), some (vI v1), some (.ref 81), none, some (vI v4), some (vI v5), some (vI v6), some (vI v7), some (vI r5), some (vI (v7 + 50))]) (S' := [vI ((2 * v1) + ((v7 + 50).tdiv 64)), .ref 68, vI ((2 * v1) + ((v7 + 50).tdiv 64)), .ref 68]) rfl ?_
          obtain ⟨hi12, hj13, h⟩ := rz_gx_inv h
          refine rz_B.lald rfl rfl hi12 hj13 (by decide) ?_
          refine rz_B.go 3 (pc' := 161) (L' := [some (.ref 64), some (vI v1), some (.ref 81), none, some (vI v4), some (vI v5), some (vI v6), some (vI v7), some (vI r5), some (vI (v7 + 50))]) (S' := [vI 64, vI (v7 + 50), vL 1, vL (A5.2 68 (((2 * v1) + ((v7 + 50).tdiv 64))).toNat), vI ((2 * v1) + ((v7 + 50).tdiv 64)), .ref 68]) rfl ?_
          obtain ⟨hk14, h⟩ := rz_g32_inv h
          refine rz_B.irem rfl hk6 (by decide) (by decide) ?_
          refine rz_B.oS gShl rfl ?_
          refine rz_B.oL gOr rfl ?_
          refine rz_B.last rfl rfl hi12 hj13 (by decide) ?_
          have hw15 : wf (aL A5 68 (((2 * v1) + ((v7 + 50).tdiv 64))).toNat (rz_oL gOr (A5.2 68 (((2 * v1) + ((v7 + 50).tdiv 64))).toNat) (rz_oS gShl 1 ((v7 + 50).tmod 64)))) := wf_aL hw5 r64_oL
          obtain ⟨hk16, h⟩ := rz_g32_inv h
          refine rz_B.iinc rfl (by decide) rfl (L' := [some (.ref 64), some (vI v1), some (.ref 81), none, some (vI v4), some (vI v5), some (vI v6), some (vI (v7 + 1)), some (vI r5), some (vI (v7 + 50))]) rfl ?_
          refine rz_B.go 1 (pc' := 91) (L' := [some (.ref 64), some (vI v1), some (.ref 81), none, some (vI v4), some (vI v5), some (vI v6), some (vI (v7 + 1)), some (vI r5), some (vI (v7 + 50))]) (S' := []) rfl ?_
          refine rz_B.more (rg_le_ok (L := [some (.ref 64), some (vI v1), some (.ref 81), none, some (vI v4), some (vI v5), some (vI v6), some (vI (v7 + 1)), none, none]) (by simp [rg_le])) ?_
          exact ih _ _ _ _ _ _ _ _ h hv1 hv4 hv5 hv6 hk16 hw15
        · have h := if_F h hc8
          refine rz_B.ifT ((lt32 hv6 hr5).mpr (Int.not_le.mp hc8)) ?_
          obtain ⟨hk17, h⟩ := rz_g32_inv h
          refine rz_B.iinc rfl (by decide) rfl (L' := [some (.ref 64), some (vI v1), some (.ref 81), none, some (vI v4), some (vI v5), some (vI v6), some (vI (v7 + 1)), some (vI r5), some (vI (v7 + 50))]) rfl ?_
          refine rz_B.go 1 (pc' := 91) (L' := [some (.ref 64), some (vI v1), some (.ref 81), none, some (vI v4), some (vI v5), some (vI v6), some (vI (v7 + 1)), some (vI r5), some (vI (v7 + 50))]) (S' := []) rfl ?_
          refine rz_B.more (rg_le_ok (L := [some (.ref 64), some (vI v1), some (.ref 81), none, some (vI v4), some (vI v5), some (vI v6), some (vI (v7 + 1)), none, none]) (by simp [rg_le])) ?_
          exact ih _ _ _ _ _ _ _ _ h hv1 hv4 hv5 hv6 hk17 hw5
      · have h := if_F h hc7
        refine rz_B.ifT ((lt32 hr5 hv5).mpr (Int.not_le.mp hc7)) ?_
        obtain ⟨hk18, h⟩ := rz_g32_inv h
        refine rz_B.iinc rfl (by decide) rfl (L' := [some (.ref 64), some (vI v1), some (.ref 81), none, some (vI v4), some (vI v5), some (vI v6), some (vI (v7 + 1)), some (vI r5), some (vI (v7 + 50))]) rfl ?_
        refine rz_B.go 1 (pc' := 91) (L' := [some (.ref 64), some (vI v1), some (.ref 81), none, some (vI v4), some (vI v5), some (vI v6), some (vI (v7 + 1)), some (vI r5), some (vI (v7 + 50))]) (S' := []) rfl ?_
        refine rz_B.more (rg_le_ok (L := [some (.ref 64), some (vI v1), some (.ref 81), none, some (vI v4), some (vI v5), some (vI v6), some (vI (v7 + 1)), none, none]) (by simp [rg_le])) ?_
        exact ih _ _ _ _ _ _ _ _ h hv1 hv4 hv5 hv6 hk18 hw5
    · have h := if_F h hc1
      refine rz_B.ifT ((lt32 (by decide) hv7).mpr (Int.not_le.mp hc1)) ?_
      cases h
      exact rz_B.ret rfl trivial hw
theorem cx100_findShifts_b_4 (F : Nat) {d : Nat} {a0 : Int} {A : rz_A} {r : Unit} {A' : rz_A} (h : x100_findShifts_b F 4 a0 A = some (r, A')) (ha0 : r32 a0) (hw : wf A) : rg_Rn (d + 3) 100 [.ref 64, vI a0, .ref 81] (toM A) (none) (toM A') ∧ (True) ∧ wf A' := by
  show rz_B (d + 3) 100 0 [some (.ref 64), some (vI a0), some (.ref 81), none, none, none, none, none, none, none] [] A (none) A' (True)
  unfold x100_findShifts_b at h
  refine rz_B.go 3 (pc' := 5) (L' := [some (.ref 64), some (vI a0), some (.ref 81), none, none, none, none, none, none, none]) (S' := [vI a0, .ref 67]) rfl ?_
  obtain ⟨hi1, hj2, h⟩ := rz_gx_inv h
  refine rz_B.iald rfl rfl hi1 hj2 (by decide) ?_
  refine rz_B.go 6 (pc' := 16) (L' := [some (.ref 64), some (vI a0), some (.ref 81), some (vI (A.1 67 (a0).toNat)), none, none, none, none, none, none]) (S' := [.ref 51, vI (A.1 67 (a0).toNat), .ref 26]) rfl ?_
  obtain ⟨r3, A3, hf3, h⟩ := rz_b_inv h
  obtain ⟨hg3, hr3, hw3⟩ := cx39_placeOf F (d := d + 0) hf3 (hw 67 (a0).toNat).1 hw
  refine rz_B.call (d := d + 2) (as := [.ref 26, vI (A.1 67 (a0).toNat), .ref 51]) (rest := []) (w := some (vI r3)) rfl hg3 ?_
  refine rz_B.go 5 (pc' := 27) (L' := [some (.ref 64), some (vI a0), some (.ref 81), some (vI (A.1 67 (a0).toNat)), some (vI r3), none, none, none, none, none]) (S' := [vI a0, vI 2, .ref 68]) rfl ?_
  obtain ⟨hk4, h⟩ := rz_g32_inv h
  refine rz_B.imul rfl ?_
  refine rz_B.go 1 (pc' := 29) (L' := [some (.ref 64), some (vI a0), some (.ref 81), some (vI (A.1 67 (a0).toNat)), some (vI r3), none, none, none, none, none]) (S' := [vL 0, vI (2 * a0), .ref 68]) rfl ?_
  obtain ⟨hi5, hj6, h⟩ := rz_gx_inv h
  refine rz_B.last rfl rfl hi5 hj6 (by decide) ?_
  have hw7 : wf (aL A3 68 ((2 * a0)).toNat 0) := wf_aL hw3 (by decide)
  refine rz_B.go 4 (pc' := 36) (L' := [some (.ref 64), some (vI a0), some (.ref 81), some (vI (A.1 67 (a0).toNat)), some (vI r3), none, none, none, none, none]) (S' := [vI a0, vI 2, .ref 68]) rfl ?_
  refine rz_B.imul rfl ?_
  refine rz_B.go 1 (pc' := 38) (L' := [some (.ref 64), some (vI a0), some (.ref 81), some (vI (A.1 67 (a0).toNat)), some (vI r3), none, none, none, none, none]) (S' := [vI 1, vI (2 * a0), .ref 68]) rfl ?_
  obtain ⟨hk8, h⟩ := rz_g32_inv h
  refine rz_B.iadd rfl ?_
  refine rz_B.go 1 (pc' := 40) (L' := [some (.ref 64), some (vI a0), some (.ref 81), some (vI (A.1 67 (a0).toNat)), some (vI r3), none, none, none, none, none]) (S' := [vL 0, vI ((2 * a0) + 1), .ref 68]) rfl ?_
  obtain ⟨hi9, hj10, h⟩ := rz_gx_inv h
  refine rz_B.last rfl rfl hi9 hj10 (by decide) ?_
  have hw11 : wf (aL (aL A3 68 ((2 * a0)).toNat 0) 68 (((2 * a0) + 1)).toNat 0) := wf_aL hw7 (by decide)
  refine rz_B.go 2 (pc' := if decide (Int32.ofInt 0 ≤ Int32.ofInt r3) = true then 47 else 46) (L' := [some (.ref 64), some (vI a0), some (.ref 81), some (vI (A.1 67 (a0).toNat)), some (vI r3), none, none, none, none, none]) (S' := []) rfl ?_
  by_cases hc12 : r3 < 0
  · have h := if_T h hc12
    refine rz_B.ifF (mt (le32 (by decide) hr3).mp (Int.not_le.mpr hc12)) ?_
    cases h
    exact rz_B.ret rfl trivial hw11
  · have h := if_F h hc12
    refine rz_B.ifT ((le32 (by decide) hr3).mpr (Int.not_lt.mp hc12)) ?_
    refine rz_B.go 4 (pc' := 55) (L' := [some (.ref 64), some (vI a0), some (.ref 81), some (vI (A.1 67 (a0).toNat)), some (vI r3), none, none, none, none, none]) (S' := [vI (A.1 67 (a0).toNat), .ref 29]) rfl ?_
    obtain ⟨hi13, hj14, h⟩ := rz_gx_inv h
    refine rz_B.iald rfl rfl hi13 hj14 (by decide) ?_
    refine rz_B.go 3 (pc' := 61) (L' := [some (.ref 64), some (vI a0), some (.ref 81), some (vI (A.1 67 (a0).toNat)), some (vI r3), none, none, none, none, none]) (S' := [vI (A.1 67 (a0).toNat), .ref 26, vI (A3.1 29 ((A.1 67 (a0).toNat)).toNat)]) rfl ?_
    obtain ⟨r15, A15, hf15, h⟩ := rz_b_inv h
    obtain ⟨hg15, hr15, hw15⟩ := cx101_mayDiffer F (d := d + 1) hf15 (hw 67 (a0).toNat).1 hw11
    refine rz_B.call (d := d + 2) (as := [.ref 26, vI (A.1 67 (a0).toNat)]) (rest := [vI (A3.1 29 ((A.1 67 (a0).toNat)).toNat)]) (w := some (vI r15)) rfl hg15 ?_
    obtain ⟨hk16, h⟩ := rz_g32_inv h
    refine rz_B.isub rfl ?_
    refine rz_B.go 5 (pc' := 75) (L' := [some (.ref 64), some (vI a0), some (.ref 81), some (vI (A.1 67 (a0).toNat)), some (vI r3), some (vI ((A3.1 29 ((A.1 67 (a0).toNat)).toNat) - r15)), none, none, none, none]) (S' := [vI (A.1 67 (a0).toNat), .ref 29]) rfl ?_
    refine rz_B.iald rfl rfl hi13 hj14 (by decide) ?_
    refine rz_B.go 3 (pc' := 81) (L' := [some (.ref 64), some (vI a0), some (.ref 81), some (vI (A.1 67 (a0).toNat)), some (vI r3), some (vI ((A3.1 29 ((A.1 67 (a0).toNat)).toNat) - r15)), none, none, none, none]) (S' := [vI (A.1 67 (a0).toNat), .ref 26, vI (A15.1 29 ((A.1 67 (a0).toNat)).toNat)]) rfl ?_
    obtain ⟨r17, A17, hf17, h⟩ := rz_b_inv h
    obtain ⟨hg17, hr17, hw17⟩ := cx101_mayDiffer F (d := d + 1) hf17 (hw 67 (a0).toNat).1 hw15
    refine rz_B.call (d := d + 2) (as := [.ref 26, vI (A.1 67 (a0).toNat)]) (rest := [vI (A15.1 29 ((A.1 67 (a0).toNat)).toNat)]) (w := some (vI r17)) rfl hg17 ?_
    obtain ⟨hk18, h⟩ := rz_g32_inv h
    refine rz_B.iadd rfl ?_
    refine rz_B.go 3 (pc' := 91) (L' := [some (.ref 64), some (vI a0), some (.ref 81), some (vI (A.1 67 (a0).toNat)), some (vI r3), some (vI ((A3.1 29 ((A.1 67 (a0).toNat)).toNat) - r15)), some (vI ((A15.1 29 ((A.1 67 (a0).toNat)).toNat) + r17)), some (vI (-50)), none, none]) (S' := []) rfl ?_
    refine rz_B.more (rg_le_ok (L := [some (.ref 64), some (vI a0), some (.ref 81), none, some (vI r3), some (vI ((A3.1 29 ((A.1 67 (a0).toNat)).toNat) - r15)), some (vI ((A15.1 29 ((A.1 67 (a0).toNat)).toNat) + r17)), some (vI (-50)), none, none]) (by simp [rg_le])) ?_
    exact cx100_findShifts_b_91_4 F F _ _ _ _ _ _ _ _ h ha0 hr3 hk16 hk18 (by decide) hw17
theorem cx100_findShifts_b_91_5 {d : Nat} (F : Nat) : ∀ (n : Nat) (v1 : Int) (v4 : Int) (v5 : Int) (v6 : Int) (v7 : Int) (A : rz_A) (r : Unit) (A' : rz_A), x100_findShifts_b_91 F 5 n v1 v4 v5 v6 v7 A = some (r, A') → r32 v1 → r32 v4 → r32 v5 → r32 v6 → r32 v7 → wf A → rz_B (d + 3) 100 91 [some (.ref 64), some (vI v1), some (.ref 84), none, some (vI v4), some (vI v5), some (vI v6), some (vI v7), none, none] [] A (none) A' (True) := by
  intro n
  induction n with
  | zero => intro v1 v4 v5 v6 v7 A r A' h; cases h
  | succ n ih =>
    intro v1 v4 v5 v6 v7 A r A' h hv1 hv4 hv5 hv6 hv7 hw
    rw [x100_findShifts_b_91] at h
    refine rz_B.go 3 (pc' := if decide (Int32.ofInt 50 < Int32.ofInt v7) = true then 171 else 98) (L' := [some (.ref 64), some (vI v1), some (.ref 84), none, some (vI v4), some (vI v5), some (vI v6), some (vI v7), none, none]) (S' := []) rfl ?_
    by_cases hc1 : v7 ≤ 50
    · have h := if_T h hc1
      refine rz_B.ifF (mt (lt32 (by decide) hv7).mp (Int.not_lt.mpr hc1)) ?_
      refine rz_B.go 5 (pc' := 108) (L' := [some (.ref 64), some (vI v1), some (.ref 84), none, some (vI v4), some (vI v5), some (vI v6), some (vI v7), none, none]) (S' := [vI v4, .ref 54, .ref 84]) rfl ?_
      obtain ⟨hi2, hj3, h⟩ := rz_gx_inv h
      refine rz_B.iald rfl rfl hi2 hj3 (by decide) ?_
      refine rz_B.go 1 (pc' := 111) (L' := [some (.ref 64), some (vI v1), some (.ref 84), none, some (vI v4), some (vI v5), some (vI v6), some (vI v7), none, none]) (S' := [vI v7, vI (A.1 54 (v4).toNat), .ref 84]) rfl ?_
      obtain ⟨hk4, h⟩ := rz_g32_inv h
      refine rz_B.iadd rfl ?_
      refine rz_B.go 1 (pc' := 115) (L' := [some (.ref 64), some (vI v1), some (.ref 84), none, some (vI v4), some (vI v5), some (vI v6), some (vI v7), none, none]) (S' := [vI (-2000), vI ((A.1 54 (v4).toNat) + v7), .ref 84]) rfl ?_
      obtain ⟨r5, A5, hf5, h⟩ := rz_b_inv h
      obtain ⟨hg5, hr5, hw5⟩ := cx80_flowBy_b_5 F (d := d + 0) hf5 hk4 (by decide) hw
      refine rz_B.call (d := d + 2) (as := [.ref 84, vI ((A.1 54 (v4).toNat) + v7), vI (-2000)]) (rest := []) (w := some (vI r5)) rfl hg5 ?_
      refine rz_B.go 3 (pc' := 124) (L' := [some (.ref 64), some (vI v1), some (.ref 84), none, some (vI v4), some (vI v5), some (vI v6), some (vI v7), some (vI r5), none]) (S' := [vI 50, vI v7]) rfl ?_
      obtain ⟨hk6, h⟩ := rz_g32_inv h
      refine rz_B.iadd rfl ?_
      refine rz_B.go 4 (pc' := if decide (Int32.ofInt r5 < Int32.ofInt v5) = true then 165 else 134) (L' := [some (.ref 64), some (vI v1), some (.ref 84), none, some (vI v4), some (vI v5), some (vI v6), some (vI v7), some (vI r5), some (vI (v7 + 50))]) (S' := []) rfl ?_
      by_cases hc7 : v5 ≤ r5
      · have h := if_T h hc7
        refine rz_B.ifF (mt (lt32 hr5 hv5).mp (Int.not_lt.mpr hc7)) ?_
        refine rz_B.go 3 (pc' := if decide (Int32.ofInt v6 < Int32.ofInt r5) = true then 165 else 141) (L' := [some (.ref 64), some (vI v1), some (.ref 84), none, some (vI v4), some (vI v5), some (vI v6), some (vI v7), some (vI r5), some (vI (v7 + 50))]) (S' := []) rfl ?_
        by_cases hc8 : r5 ≤ v6
        · have h := if_T h hc8
          refine rz_B.ifF (mt (lt32 hv6 hr5).mp (Int.not_lt.mpr hc8)) ?_
          refine rz_B.go 4 (pc' := 147) (L' := [some (.ref 64), some (vI v1), some (.ref 84), none, some (vI v4), some (vI v5), some (vI v6), some (vI v7), some (vI r5), some (vI (v7 + 50))]) (S' := [vI v1, vI 2, .ref 68]) rfl ?_
          obtain ⟨hk9, h⟩ := rz_g32_inv h
          refine rz_B.imul rfl ?_
          refine rz_B.go 2 (pc' := 152) (L' := [some (.ref 64), some (vI v1), some (.ref 84), none, some (vI v4), some (vI v5), some (vI v6), some (vI v7), some (vI r5), some (vI (v7 + 50))]) (S' := [vI 64, vI (v7 + 50), vI (2 * v1), .ref 68]) rfl ?_
          obtain ⟨hk10, h⟩ := rz_g32_inv h
          refine rz_B.idiv rfl hk6 (by decide) (by decide) ?_
          obtain ⟨hk11, h⟩ := rz_g32_inv h
          refine rz_B.iadd rfl ?_
          refine rz_B.go 1 (pc' := 155) (L' := [some (.ref 64), some (vI v1), some (.ref 84), none, some (vI v4), some (vI v5), some (vI v6), some (vI v7), some (vI r5), some (vI (v7 + 50))]) (S' := [vI ((2 * v1) + ((v7 + 50).tdiv 64)), .ref 68, vI ((2 * v1) + ((v7 + 50).tdiv 64)), .ref 68]) rfl ?_
          obtain ⟨hi12, hj13, h⟩ := rz_gx_inv h
          refine rz_B.lald rfl rfl hi12 hj13 (by decide) ?_
          refine rz_B.go 3 (pc' := 161) (L' := [some (.ref 64), some (vI v1), some (.ref 84), none, some (vI v4), some (vI v5), some (vI v6), some (vI v7), some (vI r5), some (vI (v7 + 50))]) (S' := [vI 64, vI (v7 + 50), vL 1, vL (A5.2 68 (((2 * v1) + ((v7 + 50).tdiv 64))).toNat), vI ((2 * v1) + ((v7 + 50).tdiv 64)), .ref 68]) rfl ?_
          obtain ⟨hk14, h⟩ := rz_g32_inv h
          refine rz_B.irem rfl hk6 (by decide) (by decide) ?_
          refine rz_B.oS gShl rfl ?_
          refine rz_B.oL gOr rfl ?_
          refine rz_B.last rfl rfl hi12 hj13 (by decide) ?_
          have hw15 : wf (aL A5 68 (((2 * v1) + ((v7 + 50).tdiv 64))).toNat (rz_oL gOr (A5.2 68 (((2 * v1) + ((v7 + 50).tdiv 64))).toNat) (rz_oS gShl 1 ((v7 + 50).tmod 64)))) := wf_aL hw5 r64_oL
          obtain ⟨hk16, h⟩ := rz_g32_inv h
          refine rz_B.iinc rfl (by decide) rfl (L' := [some (.ref 64), some (vI v1), some (.ref 84), none, some (vI v4), some (vI v5), some (vI v6), some (vI (v7 + 1)), some (vI r5), some (vI (v7 + 50))]) rfl ?_
          refine rz_B.go 1 (pc' := 91) (L' := [some (.ref 64), some (vI v1), some (.ref 84), none, some (vI v4), some (vI v5), some (vI v6), some (vI (v7 + 1)), some (vI r5), some (vI (v7 + 50))]) (S' := []) rfl ?_
          refine rz_B.more (rg_le_ok (L := [some (.ref 64), some (vI v1), some (.ref 84), none, some (vI v4), some (vI v5), some (vI v6), some (vI (v7 + 1)), none, none]) (by simp [rg_le])) ?_
          exact ih _ _ _ _ _ _ _ _ h hv1 hv4 hv5 hv6 hk16 hw15
        · have h := if_F h hc8
          refine rz_B.ifT ((lt32 hv6 hr5).mpr (Int.not_le.mp hc8)) ?_
          obtain ⟨hk17, h⟩ := rz_g32_inv h
          refine rz_B.iinc rfl (by decide) rfl (L' := [some (.ref 64), some (vI v1), some (.ref 84), none, some (vI v4), some (vI v5), some (vI v6), some (vI (v7 + 1)), some (vI r5), some (vI (v7 + 50))]) rfl ?_
          refine rz_B.go 1 (pc' := 91) (L' := [some (.ref 64), some (vI v1), some (.ref 84), none, some (vI v4), some (vI v5), some (vI v6), some (vI (v7 + 1)), some (vI r5), some (vI (v7 + 50))]) (S' := []) rfl ?_
          refine rz_B.more (rg_le_ok (L := [some (.ref 64), some (vI v1), some (.ref 84), none, some (vI v4), some (vI v5), some (vI v6), some (vI (v7 + 1)), none, none]) (by simp [rg_le])) ?_
          exact ih _ _ _ _ _ _ _ _ h hv1 hv4 hv5 hv6 hk17 hw5
      · have h := if_F h hc7
        refine rz_B.ifT ((lt32 hr5 hv5).mpr (Int.not_le.mp hc7)) ?_
        obtain ⟨hk18, h⟩ := rz_g32_inv h
        refine rz_B.iinc rfl (by decide) rfl (L' := [some (.ref 64), some (vI v1), some (.ref 84), none, some (vI v4), some (vI v5), some (vI v6), some (vI (v7 + 1)), some (vI r5), some (vI (v7 + 50))]) rfl ?_
        refine rz_B.go 1 (pc' := 91) (L' := [some (.ref 64), some (vI v1), some (.ref 84), none, some (vI v4), some (vI v5), some (vI v6), some (vI (v7 + 1)), some (vI r5), some (vI (v7 + 50))]) (S' := []) rfl ?_
        refine rz_B.more (rg_le_ok (L := [some (.ref 64), some (vI v1), some (.ref 84), none, some (vI v4), some (vI v5), some (vI v6), some (vI (v7 + 1)), none, none]) (by simp [rg_le])) ?_
        exact ih _ _ _ _ _ _ _ _ h hv1 hv4 hv5 hv6 hk18 hw5
    · have h := if_F h hc1
      refine rz_B.ifT ((lt32 (by decide) hv7).mpr (Int.not_le.mp hc1)) ?_
      cases h
      exact rz_B.ret rfl trivial hw
theorem cx100_findShifts_b_5 (F : Nat) {d : Nat} {a0 : Int} {A : rz_A} {r : Unit} {A' : rz_A} (h : x100_findShifts_b F 5 a0 A = some (r, A')) (ha0 : r32 a0) (hw : wf A) : rg_Rn (d + 3) 100 [.ref 64, vI a0, .ref 84] (toM A) (none) (toM A') ∧ (True) ∧ wf A' := by
  show rz_B (d + 3) 100 0 [some (.ref 64), some (vI a0), some (.ref 84), none, none, none, none, none, none, none] [] A (none) A' (True)
  unfold x100_findShifts_b at h
  refine rz_B.go 3 (pc' := 5) (L' := [some (.ref 64), some (vI a0), some (.ref 84), none, none, none, none, none, none, none]) (S' := [vI a0, .ref 67]) rfl ?_
  obtain ⟨hi1, hj2, h⟩ := rz_gx_inv h
  refine rz_B.iald rfl rfl hi1 hj2 (by decide) ?_
  refine rz_B.go 6 (pc' := 16) (L' := [some (.ref 64), some (vI a0), some (.ref 84), some (vI (A.1 67 (a0).toNat)), none, none, none, none, none, none]) (S' := [.ref 51, vI (A.1 67 (a0).toNat), .ref 26]) rfl ?_
  obtain ⟨r3, A3, hf3, h⟩ := rz_b_inv h
  obtain ⟨hg3, hr3, hw3⟩ := cx39_placeOf F (d := d + 0) hf3 (hw 67 (a0).toNat).1 hw
  refine rz_B.call (d := d + 2) (as := [.ref 26, vI (A.1 67 (a0).toNat), .ref 51]) (rest := []) (w := some (vI r3)) rfl hg3 ?_
  refine rz_B.go 5 (pc' := 27) (L' := [some (.ref 64), some (vI a0), some (.ref 84), some (vI (A.1 67 (a0).toNat)), some (vI r3), none, none, none, none, none]) (S' := [vI a0, vI 2, .ref 68]) rfl ?_
  obtain ⟨hk4, h⟩ := rz_g32_inv h
  refine rz_B.imul rfl ?_
  refine rz_B.go 1 (pc' := 29) (L' := [some (.ref 64), some (vI a0), some (.ref 84), some (vI (A.1 67 (a0).toNat)), some (vI r3), none, none, none, none, none]) (S' := [vL 0, vI (2 * a0), .ref 68]) rfl ?_
  obtain ⟨hi5, hj6, h⟩ := rz_gx_inv h
  refine rz_B.last rfl rfl hi5 hj6 (by decide) ?_
  have hw7 : wf (aL A3 68 ((2 * a0)).toNat 0) := wf_aL hw3 (by decide)
  refine rz_B.go 4 (pc' := 36) (L' := [some (.ref 64), some (vI a0), some (.ref 84), some (vI (A.1 67 (a0).toNat)), some (vI r3), none, none, none, none, none]) (S' := [vI a0, vI 2, .ref 68]) rfl ?_
  refine rz_B.imul rfl ?_
  refine rz_B.go 1 (pc' := 38) (L' := [some (.ref 64), some (vI a0), some (.ref 84), some (vI (A.1 67 (a0).toNat)), some (vI r3), none, none, none, none, none]) (S' := [vI 1, vI (2 * a0), .ref 68]) rfl ?_
  obtain ⟨hk8, h⟩ := rz_g32_inv h
  refine rz_B.iadd rfl ?_
  refine rz_B.go 1 (pc' := 40) (L' := [some (.ref 64), some (vI a0), some (.ref 84), some (vI (A.1 67 (a0).toNat)), some (vI r3), none, none, none, none, none]) (S' := [vL 0, vI ((2 * a0) + 1), .ref 68]) rfl ?_
  obtain ⟨hi9, hj10, h⟩ := rz_gx_inv h
  refine rz_B.last rfl rfl hi9 hj10 (by decide) ?_
  have hw11 : wf (aL (aL A3 68 ((2 * a0)).toNat 0) 68 (((2 * a0) + 1)).toNat 0) := wf_aL hw7 (by decide)
  refine rz_B.go 2 (pc' := if decide (Int32.ofInt 0 ≤ Int32.ofInt r3) = true then 47 else 46) (L' := [some (.ref 64), some (vI a0), some (.ref 84), some (vI (A.1 67 (a0).toNat)), some (vI r3), none, none, none, none, none]) (S' := []) rfl ?_
  by_cases hc12 : r3 < 0
  · have h := if_T h hc12
    refine rz_B.ifF (mt (le32 (by decide) hr3).mp (Int.not_le.mpr hc12)) ?_
    cases h
    exact rz_B.ret rfl trivial hw11
  · have h := if_F h hc12
    refine rz_B.ifT ((le32 (by decide) hr3).mpr (Int.not_lt.mp hc12)) ?_
    refine rz_B.go 4 (pc' := 55) (L' := [some (.ref 64), some (vI a0), some (.ref 84), some (vI (A.1 67 (a0).toNat)), some (vI r3), none, none, none, none, none]) (S' := [vI (A.1 67 (a0).toNat), .ref 29]) rfl ?_
    obtain ⟨hi13, hj14, h⟩ := rz_gx_inv h
    refine rz_B.iald rfl rfl hi13 hj14 (by decide) ?_
    refine rz_B.go 3 (pc' := 61) (L' := [some (.ref 64), some (vI a0), some (.ref 84), some (vI (A.1 67 (a0).toNat)), some (vI r3), none, none, none, none, none]) (S' := [vI (A.1 67 (a0).toNat), .ref 26, vI (A3.1 29 ((A.1 67 (a0).toNat)).toNat)]) rfl ?_
    obtain ⟨r15, A15, hf15, h⟩ := rz_b_inv h
    obtain ⟨hg15, hr15, hw15⟩ := cx101_mayDiffer F (d := d + 1) hf15 (hw 67 (a0).toNat).1 hw11
    refine rz_B.call (d := d + 2) (as := [.ref 26, vI (A.1 67 (a0).toNat)]) (rest := [vI (A3.1 29 ((A.1 67 (a0).toNat)).toNat)]) (w := some (vI r15)) rfl hg15 ?_
    obtain ⟨hk16, h⟩ := rz_g32_inv h
    refine rz_B.isub rfl ?_
    refine rz_B.go 5 (pc' := 75) (L' := [some (.ref 64), some (vI a0), some (.ref 84), some (vI (A.1 67 (a0).toNat)), some (vI r3), some (vI ((A3.1 29 ((A.1 67 (a0).toNat)).toNat) - r15)), none, none, none, none]) (S' := [vI (A.1 67 (a0).toNat), .ref 29]) rfl ?_
    refine rz_B.iald rfl rfl hi13 hj14 (by decide) ?_
    refine rz_B.go 3 (pc' := 81) (L' := [some (.ref 64), some (vI a0), some (.ref 84), some (vI (A.1 67 (a0).toNat)), some (vI r3), some (vI ((A3.1 29 ((A.1 67 (a0).toNat)).toNat) - r15)), none, none, none, none]) (S' := [vI (A.1 67 (a0).toNat), .ref 26, vI (A15.1 29 ((A.1 67 (a0).toNat)).toNat)]) rfl ?_
    obtain ⟨r17, A17, hf17, h⟩ := rz_b_inv h
    obtain ⟨hg17, hr17, hw17⟩ := cx101_mayDiffer F (d := d + 1) hf17 (hw 67 (a0).toNat).1 hw15
    refine rz_B.call (d := d + 2) (as := [.ref 26, vI (A.1 67 (a0).toNat)]) (rest := [vI (A15.1 29 ((A.1 67 (a0).toNat)).toNat)]) (w := some (vI r17)) rfl hg17 ?_
    obtain ⟨hk18, h⟩ := rz_g32_inv h
    refine rz_B.iadd rfl ?_
    refine rz_B.go 3 (pc' := 91) (L' := [some (.ref 64), some (vI a0), some (.ref 84), some (vI (A.1 67 (a0).toNat)), some (vI r3), some (vI ((A3.1 29 ((A.1 67 (a0).toNat)).toNat) - r15)), some (vI ((A15.1 29 ((A.1 67 (a0).toNat)).toNat) + r17)), some (vI (-50)), none, none]) (S' := []) rfl ?_
    refine rz_B.more (rg_le_ok (L := [some (.ref 64), some (vI a0), some (.ref 84), none, some (vI r3), some (vI ((A3.1 29 ((A.1 67 (a0).toNat)).toNat) - r15)), some (vI ((A15.1 29 ((A.1 67 (a0).toNat)).toNat) + r17)), some (vI (-50)), none, none]) (by simp [rg_le])) ?_
    exact cx100_findShifts_b_91_5 F F _ _ _ _ _ _ _ _ h ha0 hr3 hk16 hk18 (by decide) hw17
def x99_pick_101 (F : Nat) (v1 : Int) (v2 : Int) (A : rz_A) : Option (Unit × rz_A) :=
  rz_gx v2 8 <|
  some ((), (aI A 67 (v2).toNat v1))
theorem cx99_pick_101 {d : Nat} (F : Nat) : ∀ (v1 : Int) (v2 : Int) (A : rz_A) (r : Unit) (A' : rz_A), x99_pick_101 F v1 v2 A = some (r, A') → r32 v1 → r32 v2 → wf A → rz_B (d + 0) 99 101 [some (.ref 64), some (vI v1), some (vI v2), none] [] A (none) A' (True) := by
  intro v1 v2 A r A' h hv1 hv2 hw
  unfold x99_pick_101 at h
  refine rz_B.go 4 (pc' := 107) (L' := [some (.ref 64), some (vI v1), some (vI v2), none]) (S' := [vI v1, vI v2, .ref 67]) rfl ?_
  obtain ⟨hi1, hj2, h⟩ := rz_gx_inv h
  refine rz_B.iast rfl rfl hi1 hj2 (by decide) ?_
  have hw3 : wf (aI A 67 (v2).toNat v1) := wf_aI hw hv1
  cases h
  exact rz_B.ret rfl trivial hw3
def x99_pick_76 (F : Nat) : Nat → Int → Int → Int → rz_A → Option (Unit × rz_A)
  | 0, _, _, _, _ => none
  | n + 1, v1, v2, v3, A =>
    if v2 < v3 then
      rz_g32 (v3 - 1) <|
      rz_gx (v3 - 1) 8 <|
      rz_gx v3 8 <|
      rz_g32 (v3 + (-1)) <|
      x99_pick_76 F n v1 v2 (v3 + (-1)) (aI A 67 (v3).toNat (A.1 67 ((v3 - 1)).toNat))
    else
      x99_pick_101 F v1 v2 A
theorem cx99_pick_76 {d : Nat} (F : Nat) : ∀ (n : Nat) (v1 : Int) (v2 : Int) (v3 : Int) (A : rz_A) (r : Unit) (A' : rz_A), x99_pick_76 F n v1 v2 v3 A = some (r, A') → r32 v1 → r32 v2 → r32 v3 → wf A → rz_B (d + 0) 99 76 [some (.ref 64), some (vI v1), some (vI v2), some (vI v3)] [] A (none) A' (True) := by
  intro n
  induction n with
  | zero => intro v1 v2 v3 A r A' h; cases h
  | succ n ih =>
    intro v1 v2 v3 A r A' h hv1 hv2 hv3 hw
    rw [x99_pick_76] at h
    refine rz_B.go 3 (pc' := if decide (Int32.ofInt v3 ≤ Int32.ofInt v2) = true then 101 else 81) (L' := [some (.ref 64), some (vI v1), some (vI v2), some (vI v3)]) (S' := []) rfl ?_
    by_cases hc1 : v2 < v3
    · have h := if_T h hc1
      refine rz_B.ifF (mt (le32 hv3 hv2).mp (Int.not_le.mpr hc1)) ?_
      refine rz_B.go 7 (pc' := 92) (L' := [some (.ref 64), some (vI v1), some (vI v2), some (vI v3)]) (S' := [vI 1, vI v3, .ref 67, vI v3, .ref 67]) rfl ?_
      obtain ⟨hk2, h⟩ := rz_g32_inv h
      refine rz_B.isub rfl ?_
      obtain ⟨hi3, hj4, h⟩ := rz_gx_inv h
      refine rz_B.iald rfl rfl hi3 hj4 (by decide) ?_
      obtain ⟨hi5, hj6, h⟩ := rz_gx_inv h
      refine rz_B.iast rfl rfl hi5 hj6 (by decide) ?_
      have hw7 : wf (aI A 67 (v3).toNat (A.1 67 ((v3 - 1)).toNat)) := wf_aI hw (hw 67 ((v3 - 1)).toNat).1
      obtain ⟨hk8, h⟩ := rz_g32_inv h
      refine rz_B.iinc rfl (by decide) rfl (L' := [some (.ref 64), some (vI v1), some (vI v2), some (vI (v3 + (-1)))]) rfl ?_
      refine rz_B.go 1 (pc' := 76) (L' := [some (.ref 64), some (vI v1), some (vI v2), some (vI (v3 + (-1)))]) (S' := []) rfl ?_
      refine rz_B.more (rg_le_ok (L := [some (.ref 64), some (vI v1), some (vI v2), some (vI (v3 + (-1)))]) (by simp [rg_le])) ?_
      exact ih _ _ _ _ _ _ h hv1 hv2 hk8 hw7
    · have h := if_F h hc1
      refine rz_B.ifT ((le32 hv3 hv2).mpr (Int.not_lt.mp hc1)) ?_
      refine rz_B.more (rg_le_ok (L := [some (.ref 64), some (vI v1), some (vI v2), none]) (by simp [rg_le])) ?_
      exact cx99_pick_101 F _ _ _ _ _ h hv1 hv2 hw
def x99_pick_43 (F : Nat) (v1 : Int) (v2 : Int) (A : rz_A) : Option (Unit × rz_A) :=
  if 8 ≤ v2 then
    some ((), A)
  else
    if (A.1 64 6) < 8 then
      rz_g32 ((A.1 64 6) + 1) <|
      rz_g32 (((A.1 64 6) + 1) - 1) <|
      x99_pick_76 F F v1 v2 (((A.1 64 6) + 1) - 1) (aI A 64 6 ((A.1 64 6) + 1))
    else
      rz_g32 ((A.1 64 6) - 1) <|
      x99_pick_76 F F v1 v2 ((A.1 64 6) - 1) A
theorem cx99_pick_43 {d : Nat} (F : Nat) : ∀ (v1 : Int) (v2 : Int) (A : rz_A) (r : Unit) (A' : rz_A), x99_pick_43 F v1 v2 A = some (r, A') → r32 v1 → r32 v2 → wf A → rz_B (d + 0) 99 43 [some (.ref 64), some (vI v1), some (vI v2), none] [] A (none) A' (True) := by
  intro v1 v2 A r A' h hv1 hv2 hw
  unfold x99_pick_43 at h
  refine rz_B.go 3 (pc' := if decide (Int32.ofInt v2 < Int32.ofInt 8) = true then 50 else 49) (L' := [some (.ref 64), some (vI v1), some (vI v2), none]) (S' := []) rfl ?_
  by_cases hc1 : 8 ≤ v2
  · have h := if_T h hc1
    refine rz_B.ifF (mt (lt32 hv2 (by decide)).mp (Int.not_lt.mpr hc1)) ?_
    cases h
    exact rz_B.ret rfl trivial hw
  · have h := if_F h hc1
    refine rz_B.ifT ((lt32 hv2 (by decide)).mpr (Int.not_le.mp hc1)) ?_
    refine rz_B.go 4 (pc' := if decide (Int32.ofInt 8 ≤ Int32.ofInt (A.1 64 6)) = true then 69 else 59) (L' := [some (.ref 64), some (vI v1), some (vI v2), none]) (S' := []) rfl ?_
    by_cases hc2 : (A.1 64 6) < 8
    · have h := if_T h hc2
      refine rz_B.ifF (mt (le32 (by decide) (hw 64 6).1).mp (Int.not_le.mpr hc2)) ?_
      refine rz_B.go 4 (pc' := 65) (L' := [some (.ref 64), some (vI v1), some (vI v2), none]) (S' := [vI 1, vI (A.1 64 6), .ref 64]) rfl ?_
      obtain ⟨hk3, h⟩ := rz_g32_inv h
      refine rz_B.iadd rfl ?_
      refine rz_B.put 1 (pc' := 69) (L' := [some (.ref 64), some (vI v1), some (vI v2), none]) (S' := []) (c := 64) (k := 6) (x := ((A.1 64 6) + 1)) rfl ?_
      have hw4 : wf (aI A 64 6 ((A.1 64 6) + 1)) := wf_aI hw hk3
      refine rz_B.go 3 (pc' := 74) (L' := [some (.ref 64), some (vI v1), some (vI v2), none]) (S' := [vI 1, vI ((A.1 64 6) + 1)]) rfl ?_
      obtain ⟨hk5, h⟩ := rz_g32_inv h
      refine rz_B.isub rfl ?_
      refine rz_B.go 1 (pc' := 76) (L' := [some (.ref 64), some (vI v1), some (vI v2), some (vI (((A.1 64 6) + 1) - 1))]) (S' := []) rfl ?_
      refine rz_B.more (rg_le_ok (L := [some (.ref 64), some (vI v1), some (vI v2), some (vI (((A.1 64 6) + 1) - 1))]) (by simp [rg_le])) ?_
      exact cx99_pick_76 F F _ _ _ _ _ _ h hv1 hv2 hk5 hw4
    · have h := if_F h hc2
      refine rz_B.ifT ((le32 (by decide) (hw 64 6).1).mpr (Int.not_lt.mp hc2)) ?_
      refine rz_B.go 3 (pc' := 74) (L' := [some (.ref 64), some (vI v1), some (vI v2), none]) (S' := [vI 1, vI (A.1 64 6)]) rfl ?_
      obtain ⟨hk6, h⟩ := rz_g32_inv h
      refine rz_B.isub rfl ?_
      refine rz_B.go 1 (pc' := 76) (L' := [some (.ref 64), some (vI v1), some (vI v2), some (vI ((A.1 64 6) - 1))]) (S' := []) rfl ?_
      refine rz_B.more (rg_le_ok (L := [some (.ref 64), some (vI v1), some (vI v2), some (vI ((A.1 64 6) - 1))]) (by simp [rg_le])) ?_
      exact cx99_pick_76 F F _ _ _ _ _ _ h hv1 hv2 hk6 hw
def x99_pick_5 (F : Nat) : Nat → Int → Int → rz_A → Option (Unit × rz_A)
  | 0, _, _, _ => none
  | n + 1, v1, v2, A =>
    if 0 < v2 then
      rz_g32 (v2 - 1) <|
      rz_gx (v2 - 1) 8 <|
      rz_gx (A.1 67 ((v2 - 1)).toNat) 60 <|
      rz_gx v1 60 <|
      if (A.1 28 (v1).toNat) < (A.1 28 ((A.1 67 ((v2 - 1)).toNat)).toNat) then
        rz_g32 (v2 + (-1)) <|
        x99_pick_5 F n v1 (v2 + (-1)) A
      else
        x99_pick_43 F v1 v2 A
    else
      x99_pick_43 F v1 v2 A
theorem cx99_pick_5 {d : Nat} (F : Nat) : ∀ (n : Nat) (v1 : Int) (v2 : Int) (A : rz_A) (r : Unit) (A' : rz_A), x99_pick_5 F n v1 v2 A = some (r, A') → r32 v1 → r32 v2 → wf A → rz_B (d + 0) 99 5 [some (.ref 64), some (vI v1), some (vI v2), none] [] A (none) A' (True) := by
  intro n
  induction n with
  | zero => intro v1 v2 A r A' h; cases h
  | succ n ih =>
    intro v1 v2 A r A' h hv1 hv2 hw
    rw [x99_pick_5] at h
    refine rz_B.go 2 (pc' := if decide (Int32.ofInt v2 ≤ Int32.ofInt 0) = true then 43 else 9) (L' := [some (.ref 64), some (vI v1), some (vI v2), none]) (S' := []) rfl ?_
    by_cases hc1 : 0 < v2
    · have h := if_T h hc1
      refine rz_B.ifF (mt (le32 hv2 (by decide)).mp (Int.not_le.mpr hc1)) ?_
      refine rz_B.go 7 (pc' := 22) (L' := [some (.ref 64), some (vI v1), some (vI v2), none]) (S' := [vI 1, vI v2, .ref 67, .ref 28]) rfl ?_
      obtain ⟨hk2, h⟩ := rz_g32_inv h
      refine rz_B.isub rfl ?_
      obtain ⟨hi3, hj4, h⟩ := rz_gx_inv h
      refine rz_B.iald rfl rfl hi3 hj4 (by decide) ?_
      obtain ⟨hi5, hj6, h⟩ := rz_gx_inv h
      refine rz_B.iald rfl rfl hi5 hj6 (by decide) ?_
      refine rz_B.go 4 (pc' := 33) (L' := [some (.ref 64), some (vI v1), some (vI v2), none]) (S' := [vI v1, .ref 28, vI (A.1 28 ((A.1 67 ((v2 - 1)).toNat)).toNat)]) rfl ?_
      obtain ⟨hi7, hj8, h⟩ := rz_gx_inv h
      refine rz_B.iald rfl rfl hi7 hj8 (by decide) ?_
      refine rz_B.go 1 (pc' := if decide (Int32.ofInt (A.1 28 ((A.1 67 ((v2 - 1)).toNat)).toNat) ≤ Int32.ofInt (A.1 28 (v1).toNat)) = true then 43 else 37) (L' := [some (.ref 64), some (vI v1), some (vI v2), none]) (S' := []) rfl ?_
      by_cases hc9 : (A.1 28 (v1).toNat) < (A.1 28 ((A.1 67 ((v2 - 1)).toNat)).toNat)
      · have h := if_T h hc9
        refine rz_B.ifF (mt (le32 (hw 28 ((A.1 67 ((v2 - 1)).toNat)).toNat).1 (hw 28 (v1).toNat).1).mp (Int.not_le.mpr hc9)) ?_
        obtain ⟨hk10, h⟩ := rz_g32_inv h
        refine rz_B.iinc rfl (by decide) rfl (L' := [some (.ref 64), some (vI v1), some (vI (v2 + (-1))), none]) rfl ?_
        refine rz_B.go 1 (pc' := 5) (L' := [some (.ref 64), some (vI v1), some (vI (v2 + (-1))), none]) (S' := []) rfl ?_
        refine rz_B.more (rg_le_ok (L := [some (.ref 64), some (vI v1), some (vI (v2 + (-1))), none]) (by simp [rg_le])) ?_
        exact ih _ _ _ _ _ h hv1 hk10 hw
      · have h := if_F h hc9
        refine rz_B.ifT ((le32 (hw 28 ((A.1 67 ((v2 - 1)).toNat)).toNat).1 (hw 28 (v1).toNat).1).mpr (Int.not_lt.mp hc9)) ?_
        refine rz_B.more (rg_le_ok (L := [some (.ref 64), some (vI v1), some (vI v2), none]) (by simp [rg_le])) ?_
        exact cx99_pick_43 F _ _ _ _ _ h hv1 hv2 hw
    · have h := if_F h hc1
      refine rz_B.ifT ((le32 hv2 (by decide)).mpr (Int.not_lt.mp hc1)) ?_
      refine rz_B.more (rg_le_ok (L := [some (.ref 64), some (vI v1), some (vI v2), none]) (by simp [rg_le])) ?_
      exact cx99_pick_43 F _ _ _ _ _ h hv1 hv2 hw
/-- RiverGauge$Breaks.pick(I)V -/
def x99_pick (F : Nat) (a0 : Int) (A : rz_A) : Option (Unit × rz_A) :=
  x99_pick_5 F F a0 (A.1 64 6) A
theorem cx99_pick (F : Nat) {d : Nat} {a0 : Int} {A : rz_A} {r : Unit} {A' : rz_A} (h : x99_pick F a0 A = some (r, A')) (ha0 : r32 a0) (hw : wf A) : rg_Rn (d + 0) 99 [.ref 64, vI a0] (toM A) (none) (toM A') ∧ (True) ∧ wf A' := by
  show rz_B (d + 0) 99 0 [some (.ref 64), some (vI a0), none, none] [] A (none) A' (True)
  unfold x99_pick at h
  refine rz_B.go 3 (pc' := 5) (L' := [some (.ref 64), some (vI a0), some (vI (A.1 64 6)), none]) (S' := []) rfl ?_
  refine rz_B.more (rg_le_ok (L := [some (.ref 64), some (vI a0), some (vI (A.1 64 6)), none]) (by simp [rg_le])) ?_
  exact cx99_pick_5 F F _ _ _ _ _ h ha0 (hw 64 6).1 hw
def x98_gather_80 (F : Nat) : Nat → Int → Int → rz_A → Option (Int × rz_A)
  | 0, _, _, _ => none
  | n + 1, v1, v2, A =>
    if v2 < (A.1 64 6) then
      rz_gx v1 6 <|
      if v1 = 0 then
        rz_b (x100_findShifts_b F 0 v2 A) fun _ A5 =>
        rz_g32 (v2 + 1) <|
        x98_gather_80 F n v1 (v2 + 1) A5
      else
        if v1 = 1 then
          rz_b (x100_findShifts_b F 1 v2 A) fun _ A8 =>
          rz_g32 (v2 + 1) <|
          x98_gather_80 F n v1 (v2 + 1) A8
        else
          if v1 = 2 then
            rz_b (x100_findShifts_b F 2 v2 A) fun _ A11 =>
            rz_g32 (v2 + 1) <|
            x98_gather_80 F n v1 (v2 + 1) A11
          else
            if v1 = 3 then
              rz_b (x100_findShifts_b F 3 v2 A) fun _ A14 =>
              rz_g32 (v2 + 1) <|
              x98_gather_80 F n v1 (v2 + 1) A14
            else
              if v1 = 4 then
                rz_b (x100_findShifts_b F 4 v2 A) fun _ A17 =>
                rz_g32 (v2 + 1) <|
                x98_gather_80 F n v1 (v2 + 1) A17
              else
                  rz_b (x100_findShifts_b F 5 v2 A) fun _ A20 =>
                  rz_g32 (v2 + 1) <|
                  x98_gather_80 F n v1 (v2 + 1) A20
    else
      some (1, A)
theorem cx98_gather_80 {d : Nat} (F : Nat) : ∀ (n : Nat) (v1 : Int) (v2 : Int) (A : rz_A) (r : Int) (A' : rz_A), x98_gather_80 F n v1 v2 A = some (r, A') → r32 v1 → r32 v2 → wf A → rz_B (d + 4) 98 80 [some (.ref 64), some (vI v1), some (vI v2)] [] A (some (vI r)) A' (r32 r) := by
  intro n
  induction n with
  | zero => intro v1 v2 A r A' h; cases h
  | succ n ih =>
    intro v1 v2 A r A' h hv1 hv2 hw
    rw [x98_gather_80] at h
    refine rz_B.go 4 (pc' := if decide (Int32.ofInt (A.1 64 6) ≤ Int32.ofInt v2) = true then 105 else 88) (L' := [some (.ref 64), some (vI v1), some (vI v2)]) (S' := []) rfl ?_
    by_cases hc1 : v2 < (A.1 64 6)
    · have h := if_T h hc1
      refine rz_B.ifF (mt (le32 (hw 64 6).1 hv2).mp (Int.not_le.mpr hc1)) ?_
      refine rz_B.go 5 (pc' := 95) (L' := [some (.ref 64), some (vI v1), some (vI v2)]) (S' := [vI v1, .ref 65, vI v2, .ref 64]) rfl ?_
      obtain ⟨hi2, hj3, h⟩ := rz_gx_inv h
      by_cases hj4 : v1 = 0
      · have h := if_T h hj4
        refine rz_B.aald rfl (Or.inl rfl) rfl hi2 hj3 (by decide) (c' := 69) (by omega) ?_
        obtain ⟨_, A5, hf5, h⟩ := rz_b_inv h
        obtain ⟨hg5, hr5, hw5⟩ := cx100_findShifts_b_0 F (d := d + 0) hf5 hv2 hw
        refine rz_B.call (d := d + 3) (as := [.ref 64, vI v2, .ref 69]) (rest := []) (w := none) rfl hg5 ?_
        obtain ⟨hk6, h⟩ := rz_g32_inv h
        refine rz_B.iinc rfl (by decide) rfl (L' := [some (.ref 64), some (vI v1), some (vI (v2 + 1))]) rfl ?_
        refine rz_B.go 1 (pc' := 80) (L' := [some (.ref 64), some (vI v1), some (vI (v2 + 1))]) (S' := []) rfl ?_
        refine rz_B.more (rg_le_ok (L := [some (.ref 64), some (vI v1), some (vI (v2 + 1))]) (by simp [rg_le])) ?_
        exact ih _ _ _ _ _ h hv1 hk6 hw5
      · have h := if_F h hj4
        by_cases hj7 : v1 = 1
        · have h := if_T h hj7
          refine rz_B.aald rfl (Or.inl rfl) rfl hi2 hj3 (by decide) (c' := 72) (by omega) ?_
          obtain ⟨_, A8, hf8, h⟩ := rz_b_inv h
          obtain ⟨hg8, hr8, hw8⟩ := cx100_findShifts_b_1 F (d := d + 0) hf8 hv2 hw
          refine rz_B.call (d := d + 3) (as := [.ref 64, vI v2, .ref 72]) (rest := []) (w := none) rfl hg8 ?_
          obtain ⟨hk9, h⟩ := rz_g32_inv h
          refine rz_B.iinc rfl (by decide) rfl (L' := [some (.ref 64), some (vI v1), some (vI (v2 + 1))]) rfl ?_
          refine rz_B.go 1 (pc' := 80) (L' := [some (.ref 64), some (vI v1), some (vI (v2 + 1))]) (S' := []) rfl ?_
          refine rz_B.more (rg_le_ok (L := [some (.ref 64), some (vI v1), some (vI (v2 + 1))]) (by simp [rg_le])) ?_
          exact ih _ _ _ _ _ h hv1 hk9 hw8
        · have h := if_F h hj7
          by_cases hj10 : v1 = 2
          · have h := if_T h hj10
            refine rz_B.aald rfl (Or.inl rfl) rfl hi2 hj3 (by decide) (c' := 75) (by omega) ?_
            obtain ⟨_, A11, hf11, h⟩ := rz_b_inv h
            obtain ⟨hg11, hr11, hw11⟩ := cx100_findShifts_b_2 F (d := d + 0) hf11 hv2 hw
            refine rz_B.call (d := d + 3) (as := [.ref 64, vI v2, .ref 75]) (rest := []) (w := none) rfl hg11 ?_
            obtain ⟨hk12, h⟩ := rz_g32_inv h
            refine rz_B.iinc rfl (by decide) rfl (L' := [some (.ref 64), some (vI v1), some (vI (v2 + 1))]) rfl ?_
            refine rz_B.go 1 (pc' := 80) (L' := [some (.ref 64), some (vI v1), some (vI (v2 + 1))]) (S' := []) rfl ?_
            refine rz_B.more (rg_le_ok (L := [some (.ref 64), some (vI v1), some (vI (v2 + 1))]) (by simp [rg_le])) ?_
            exact ih _ _ _ _ _ h hv1 hk12 hw11
          · have h := if_F h hj10
            by_cases hj13 : v1 = 3
            · have h := if_T h hj13
              refine rz_B.aald rfl (Or.inl rfl) rfl hi2 hj3 (by decide) (c' := 78) (by omega) ?_
              obtain ⟨_, A14, hf14, h⟩ := rz_b_inv h
              obtain ⟨hg14, hr14, hw14⟩ := cx100_findShifts_b_3 F (d := d + 0) hf14 hv2 hw
              refine rz_B.call (d := d + 3) (as := [.ref 64, vI v2, .ref 78]) (rest := []) (w := none) rfl hg14 ?_
              obtain ⟨hk15, h⟩ := rz_g32_inv h
              refine rz_B.iinc rfl (by decide) rfl (L' := [some (.ref 64), some (vI v1), some (vI (v2 + 1))]) rfl ?_
              refine rz_B.go 1 (pc' := 80) (L' := [some (.ref 64), some (vI v1), some (vI (v2 + 1))]) (S' := []) rfl ?_
              refine rz_B.more (rg_le_ok (L := [some (.ref 64), some (vI v1), some (vI (v2 + 1))]) (by simp [rg_le])) ?_
              exact ih _ _ _ _ _ h hv1 hk15 hw14
            · have h := if_F h hj13
              by_cases hj16 : v1 = 4
              · have h := if_T h hj16
                refine rz_B.aald rfl (Or.inl rfl) rfl hi2 hj3 (by decide) (c' := 81) (by omega) ?_
                obtain ⟨_, A17, hf17, h⟩ := rz_b_inv h
                obtain ⟨hg17, hr17, hw17⟩ := cx100_findShifts_b_4 F (d := d + 0) hf17 hv2 hw
                refine rz_B.call (d := d + 3) (as := [.ref 64, vI v2, .ref 81]) (rest := []) (w := none) rfl hg17 ?_
                obtain ⟨hk18, h⟩ := rz_g32_inv h
                refine rz_B.iinc rfl (by decide) rfl (L' := [some (.ref 64), some (vI v1), some (vI (v2 + 1))]) rfl ?_
                refine rz_B.go 1 (pc' := 80) (L' := [some (.ref 64), some (vI v1), some (vI (v2 + 1))]) (S' := []) rfl ?_
                refine rz_B.more (rg_le_ok (L := [some (.ref 64), some (vI v1), some (vI (v2 + 1))]) (by simp [rg_le])) ?_
                exact ih _ _ _ _ _ h hv1 hk18 hw17
              · have h := if_F h hj16
                refine rz_B.aald rfl (Or.inl rfl) rfl hi2 hj3 (by decide) (c' := 84) (by omega) ?_
                obtain ⟨_, A20, hf20, h⟩ := rz_b_inv h
                obtain ⟨hg20, hr20, hw20⟩ := cx100_findShifts_b_5 F (d := d + 0) hf20 hv2 hw
                refine rz_B.call (d := d + 3) (as := [.ref 64, vI v2, .ref 84]) (rest := []) (w := none) rfl hg20 ?_
                obtain ⟨hk21, h⟩ := rz_g32_inv h
                refine rz_B.iinc rfl (by decide) rfl (L' := [some (.ref 64), some (vI v1), some (vI (v2 + 1))]) rfl ?_
                refine rz_B.go 1 (pc' := 80) (L' := [some (.ref 64), some (vI v1), some (vI (v2 + 1))]) (S' := []) rfl ?_
                refine rz_B.more (rg_le_ok (L := [some (.ref 64), some (vI v1), some (vI (v2 + 1))]) (by simp [rg_le])) ?_
                exact ih _ _ _ _ _ h hv1 hk21 hw20
    · have h := if_F h hc1
      refine rz_B.ifT ((le32 (hw 64 6).1 hv2).mpr (Int.not_lt.mp hc1)) ?_
      refine rz_B.go 1 (pc' := 106) (L' := [some (.ref 64), some (vI v1), some (vI v2)]) (S' := [vI 1]) rfl ?_
      cases h
      exact rz_B.ret rfl (by decide) hw
def x98_gather_57 (F : Nat) (v1 : Int) (A : rz_A) : Option (Int × rz_A) :=
  rz_gx v1 6 <|
  if v1 = 0 then
    if (A.1 69 0) = 0 then
      some (0, A)
    else
      if (A.1 64 6) = 0 then
        some (0, A)
      else
        x98_gather_80 F F v1 0 A
  else
    if v1 = 1 then
      if (A.1 72 0) = 0 then
        some (0, A)
      else
        if (A.1 64 6) = 0 then
          some (0, A)
        else
          x98_gather_80 F F v1 0 A
    else
      if v1 = 2 then
        if (A.1 75 0) = 0 then
          some (0, A)
        else
          if (A.1 64 6) = 0 then
            some (0, A)
          else
            x98_gather_80 F F v1 0 A
      else
        if v1 = 3 then
          if (A.1 78 0) = 0 then
            some (0, A)
          else
            if (A.1 64 6) = 0 then
              some (0, A)
            else
              x98_gather_80 F F v1 0 A
        else
          if v1 = 4 then
            if (A.1 81 0) = 0 then
              some (0, A)
            else
              if (A.1 64 6) = 0 then
                some (0, A)
              else
                x98_gather_80 F F v1 0 A
          else
              if (A.1 84 0) = 0 then
                some (0, A)
              else
                if (A.1 64 6) = 0 then
                  some (0, A)
                else
                  x98_gather_80 F F v1 0 A
theorem cx98_gather_57 {d : Nat} (F : Nat) : ∀ (v1 : Int) (A : rz_A) (r : Int) (A' : rz_A), x98_gather_57 F v1 A = some (r, A') → r32 v1 → wf A → rz_B (d + 4) 98 57 [some (.ref 64), some (vI v1), none] [] A (some (vI r)) A' (r32 r) := by
  intro v1 A r A' h hv1 hw
  unfold x98_gather_57 at h
  refine rz_B.go 3 (pc' := 62) (L' := [some (.ref 64), some (vI v1), none]) (S' := [vI v1, .ref 65]) rfl ?_
  obtain ⟨hi1, hj2, h⟩ := rz_gx_inv h
  by_cases hj3 : v1 = 0
  · have h := if_T h hj3
    refine rz_B.aald rfl (Or.inl rfl) rfl hi1 hj2 (by decide) (c' := 69) (by omega) ?_
    refine rz_B.go 2 (pc' := if decide (Int32.ofInt (A.1 69 0) = Int32.ofInt 0) = true then 76 else 69) (L' := [some (.ref 64), some (vI v1), none]) (S' := []) rfl ?_
    by_cases hc4 : (A.1 69 0) = 0
    · have h := if_T h hc4
      refine rz_B.ifT ((eq32 (hw 69 0).1 (by decide)).mpr hc4) ?_
      refine rz_B.go 1 (pc' := 77) (L' := [some (.ref 64), some (vI v1), none]) (S' := [vI 0]) rfl ?_
      cases h
      exact rz_B.ret rfl (by decide) hw
    · have h := if_F h hc4
      refine rz_B.ifF (mt (eq32 (hw 69 0).1 (by decide)).mp hc4) ?_
      refine rz_B.go 3 (pc' := if decide (¬ Int32.ofInt (A.1 64 6) = Int32.ofInt 0) = true then 78 else 76) (L' := [some (.ref 64), some (vI v1), none]) (S' := []) rfl ?_
      by_cases hc5 : (A.1 64 6) = 0
      · have h := if_T h hc5
        refine rz_B.ifF (fun hn => hn ((eq32 (hw 64 6).1 (by decide)).mpr hc5)) ?_
        refine rz_B.go 1 (pc' := 77) (L' := [some (.ref 64), some (vI v1), none]) (S' := [vI 0]) rfl ?_
        cases h
        exact rz_B.ret rfl (by decide) hw
      · have h := if_F h hc5
        refine rz_B.ifT (mt (eq32 (hw 64 6).1 (by decide)).mp hc5) ?_
        refine rz_B.go 2 (pc' := 80) (L' := [some (.ref 64), some (vI v1), some (vI 0)]) (S' := []) rfl ?_
        refine rz_B.more (rg_le_ok (L := [some (.ref 64), some (vI v1), some (vI 0)]) (by simp [rg_le])) ?_
        exact cx98_gather_80 F F _ _ _ _ _ h hv1 (by decide) hw
  · have h := if_F h hj3
    by_cases hj6 : v1 = 1
    · have h := if_T h hj6
      refine rz_B.aald rfl (Or.inl rfl) rfl hi1 hj2 (by decide) (c' := 72) (by omega) ?_
      refine rz_B.go 2 (pc' := if decide (Int32.ofInt (A.1 72 0) = Int32.ofInt 0) = true then 76 else 69) (L' := [some (.ref 64), some (vI v1), none]) (S' := []) rfl ?_
      by_cases hc7 : (A.1 72 0) = 0
      · have h := if_T h hc7
        refine rz_B.ifT ((eq32 (hw 72 0).1 (by decide)).mpr hc7) ?_
        refine rz_B.go 1 (pc' := 77) (L' := [some (.ref 64), some (vI v1), none]) (S' := [vI 0]) rfl ?_
        cases h
        exact rz_B.ret rfl (by decide) hw
      · have h := if_F h hc7
        refine rz_B.ifF (mt (eq32 (hw 72 0).1 (by decide)).mp hc7) ?_
        refine rz_B.go 3 (pc' := if decide (¬ Int32.ofInt (A.1 64 6) = Int32.ofInt 0) = true then 78 else 76) (L' := [some (.ref 64), some (vI v1), none]) (S' := []) rfl ?_
        by_cases hc8 : (A.1 64 6) = 0
        · have h := if_T h hc8
          refine rz_B.ifF (fun hn => hn ((eq32 (hw 64 6).1 (by decide)).mpr hc8)) ?_
          refine rz_B.go 1 (pc' := 77) (L' := [some (.ref 64), some (vI v1), none]) (S' := [vI 0]) rfl ?_
          cases h
          exact rz_B.ret rfl (by decide) hw
        · have h := if_F h hc8
          refine rz_B.ifT (mt (eq32 (hw 64 6).1 (by decide)).mp hc8) ?_
          refine rz_B.go 2 (pc' := 80) (L' := [some (.ref 64), some (vI v1), some (vI 0)]) (S' := []) rfl ?_
          refine rz_B.more (rg_le_ok (L := [some (.ref 64), some (vI v1), some (vI 0)]) (by simp [rg_le])) ?_
          exact cx98_gather_80 F F _ _ _ _ _ h hv1 (by decide) hw
    · have h := if_F h hj6
      by_cases hj9 : v1 = 2
      · have h := if_T h hj9
        refine rz_B.aald rfl (Or.inl rfl) rfl hi1 hj2 (by decide) (c' := 75) (by omega) ?_
        refine rz_B.go 2 (pc' := if decide (Int32.ofInt (A.1 75 0) = Int32.ofInt 0) = true then 76 else 69) (L' := [some (.ref 64), some (vI v1), none]) (S' := []) rfl ?_
        by_cases hc10 : (A.1 75 0) = 0
        · have h := if_T h hc10
          refine rz_B.ifT ((eq32 (hw 75 0).1 (by decide)).mpr hc10) ?_
          refine rz_B.go 1 (pc' := 77) (L' := [some (.ref 64), some (vI v1), none]) (S' := [vI 0]) rfl ?_
          cases h
          exact rz_B.ret rfl (by decide) hw
        · have h := if_F h hc10
          refine rz_B.ifF (mt (eq32 (hw 75 0).1 (by decide)).mp hc10) ?_
          refine rz_B.go 3 (pc' := if decide (¬ Int32.ofInt (A.1 64 6) = Int32.ofInt 0) = true then 78 else 76) (L' := [some (.ref 64), some (vI v1), none]) (S' := []) rfl ?_
          by_cases hc11 : (A.1 64 6) = 0
          · have h := if_T h hc11
            refine rz_B.ifF (fun hn => hn ((eq32 (hw 64 6).1 (by decide)).mpr hc11)) ?_
            refine rz_B.go 1 (pc' := 77) (L' := [some (.ref 64), some (vI v1), none]) (S' := [vI 0]) rfl ?_
            cases h
            exact rz_B.ret rfl (by decide) hw
          · have h := if_F h hc11
            refine rz_B.ifT (mt (eq32 (hw 64 6).1 (by decide)).mp hc11) ?_
            refine rz_B.go 2 (pc' := 80) (L' := [some (.ref 64), some (vI v1), some (vI 0)]) (S' := []) rfl ?_
            refine rz_B.more (rg_le_ok (L := [some (.ref 64), some (vI v1), some (vI 0)]) (by simp [rg_le])) ?_
            exact cx98_gather_80 F F _ _ _ _ _ h hv1 (by decide) hw
      · have h := if_F h hj9
        by_cases hj12 : v1 = 3
        · have h := if_T h hj12
          refine rz_B.aald rfl (Or.inl rfl) rfl hi1 hj2 (by decide) (c' := 78) (by omega) ?_
          refine rz_B.go 2 (pc' := if decide (Int32.ofInt (A.1 78 0) = Int32.ofInt 0) = true then 76 else 69) (L' := [some (.ref 64), some (vI v1), none]) (S' := []) rfl ?_
          by_cases hc13 : (A.1 78 0) = 0
          · have h := if_T h hc13
            refine rz_B.ifT ((eq32 (hw 78 0).1 (by decide)).mpr hc13) ?_
            refine rz_B.go 1 (pc' := 77) (L' := [some (.ref 64), some (vI v1), none]) (S' := [vI 0]) rfl ?_
            cases h
            exact rz_B.ret rfl (by decide) hw
          · have h := if_F h hc13
            refine rz_B.ifF (mt (eq32 (hw 78 0).1 (by decide)).mp hc13) ?_
            refine rz_B.go 3 (pc' := if decide (¬ Int32.ofInt (A.1 64 6) = Int32.ofInt 0) = true then 78 else 76) (L' := [some (.ref 64), some (vI v1), none]) (S' := []) rfl ?_
            by_cases hc14 : (A.1 64 6) = 0
            · have h := if_T h hc14
              refine rz_B.ifF (fun hn => hn ((eq32 (hw 64 6).1 (by decide)).mpr hc14)) ?_
              refine rz_B.go 1 (pc' := 77) (L' := [some (.ref 64), some (vI v1), none]) (S' := [vI 0]) rfl ?_
              cases h
              exact rz_B.ret rfl (by decide) hw
            · have h := if_F h hc14
              refine rz_B.ifT (mt (eq32 (hw 64 6).1 (by decide)).mp hc14) ?_
              refine rz_B.go 2 (pc' := 80) (L' := [some (.ref 64), some (vI v1), some (vI 0)]) (S' := []) rfl ?_
              refine rz_B.more (rg_le_ok (L := [some (.ref 64), some (vI v1), some (vI 0)]) (by simp [rg_le])) ?_
              exact cx98_gather_80 F F _ _ _ _ _ h hv1 (by decide) hw
        · have h := if_F h hj12
          by_cases hj15 : v1 = 4
          · have h := if_T h hj15
            refine rz_B.aald rfl (Or.inl rfl) rfl hi1 hj2 (by decide) (c' := 81) (by omega) ?_
            refine rz_B.go 2 (pc' := if decide (Int32.ofInt (A.1 81 0) = Int32.ofInt 0) = true then 76 else 69) (L' := [some (.ref 64), some (vI v1), none]) (S' := []) rfl ?_
            by_cases hc16 : (A.1 81 0) = 0
            · have h := if_T h hc16
              refine rz_B.ifT ((eq32 (hw 81 0).1 (by decide)).mpr hc16) ?_
              refine rz_B.go 1 (pc' := 77) (L' := [some (.ref 64), some (vI v1), none]) (S' := [vI 0]) rfl ?_
              cases h
              exact rz_B.ret rfl (by decide) hw
            · have h := if_F h hc16
              refine rz_B.ifF (mt (eq32 (hw 81 0).1 (by decide)).mp hc16) ?_
              refine rz_B.go 3 (pc' := if decide (¬ Int32.ofInt (A.1 64 6) = Int32.ofInt 0) = true then 78 else 76) (L' := [some (.ref 64), some (vI v1), none]) (S' := []) rfl ?_
              by_cases hc17 : (A.1 64 6) = 0
              · have h := if_T h hc17
                refine rz_B.ifF (fun hn => hn ((eq32 (hw 64 6).1 (by decide)).mpr hc17)) ?_
                refine rz_B.go 1 (pc' := 77) (L' := [some (.ref 64), some (vI v1), none]) (S' := [vI 0]) rfl ?_
                cases h
                exact rz_B.ret rfl (by decide) hw
              · have h := if_F h hc17
                refine rz_B.ifT (mt (eq32 (hw 64 6).1 (by decide)).mp hc17) ?_
                refine rz_B.go 2 (pc' := 80) (L' := [some (.ref 64), some (vI v1), some (vI 0)]) (S' := []) rfl ?_
                refine rz_B.more (rg_le_ok (L := [some (.ref 64), some (vI v1), some (vI 0)]) (by simp [rg_le])) ?_
                exact cx98_gather_80 F F _ _ _ _ _ h hv1 (by decide) hw
          · have h := if_F h hj15
            refine rz_B.aald rfl (Or.inl rfl) rfl hi1 hj2 (by decide) (c' := 84) (by omega) ?_
            refine rz_B.go 2 (pc' := if decide (Int32.ofInt (A.1 84 0) = Int32.ofInt 0) = true then 76 else 69) (L' := [some (.ref 64), some (vI v1), none]) (S' := []) rfl ?_
            by_cases hc19 : (A.1 84 0) = 0
            · have h := if_T h hc19
              refine rz_B.ifT ((eq32 (hw 84 0).1 (by decide)).mpr hc19) ?_
              refine rz_B.go 1 (pc' := 77) (L' := [some (.ref 64), some (vI v1), none]) (S' := [vI 0]) rfl ?_
              cases h
              exact rz_B.ret rfl (by decide) hw
            · have h := if_F h hc19
              refine rz_B.ifF (mt (eq32 (hw 84 0).1 (by decide)).mp hc19) ?_
              refine rz_B.go 3 (pc' := if decide (¬ Int32.ofInt (A.1 64 6) = Int32.ofInt 0) = true then 78 else 76) (L' := [some (.ref 64), some (vI v1), none]) (S' := []) rfl ?_
              by_cases hc20 : (A.1 64 6) = 0
              · have h := if_T h hc20
                refine rz_B.ifF (fun hn => hn ((eq32 (hw 64 6).1 (by decide)).mpr hc20)) ?_
                refine rz_B.go 1 (pc' := 77) (L' := [some (.ref 64), some (vI v1), none]) (S' := [vI 0]) rfl ?_
                cases h
                exact rz_B.ret rfl (by decide) hw
              · have h := if_F h hc20
                refine rz_B.ifT (mt (eq32 (hw 64 6).1 (by decide)).mp hc20) ?_
                refine rz_B.go 2 (pc' := 80) (L' := [some (.ref 64), some (vI v1), some (vI 0)]) (S' := []) rfl ?_
                refine rz_B.more (rg_le_ok (L := [some (.ref 64), some (vI v1), some (vI 0)]) (by simp [rg_le])) ?_
                exact cx98_gather_80 F F _ _ _ _ _ h hv1 (by decide) hw
def x98_gather_7 (F : Nat) : Nat → Int → Int → rz_A → Option (Int × rz_A)
  | 0, _, _, _ => none
  | n + 1, v1, v2, A =>
    if v2 < (A.1 26 0) then
      rz_gx v2 60 <|
      if (A.1 27 (v2).toNat) = v1 then
        rz_b (x39_placeOf F v2 A) fun r5 A5 =>
        if 0 ≤ r5 then
          rz_b (x99_pick F v2 A5) fun _ A7 =>
          rz_g32 (v2 + 1) <|
          x98_gather_7 F n v1 (v2 + 1) A7
        else
          rz_g32 (v2 + 1) <|
          x98_gather_7 F n v1 (v2 + 1) A5
      else
        rz_g32 (v2 + 1) <|
        x98_gather_7 F n v1 (v2 + 1) A
    else
      x98_gather_57 F v1 A
theorem cx98_gather_7 {d : Nat} (F : Nat) : ∀ (n : Nat) (v1 : Int) (v2 : Int) (A : rz_A) (r : Int) (A' : rz_A), x98_gather_7 F n v1 v2 A = some (r, A') → r32 v1 → r32 v2 → wf A → rz_B (d + 4) 98 7 [some (.ref 64), some (vI v1), some (vI v2)] [] A (some (vI r)) A' (r32 r) := by
  intro n
  induction n with
  | zero => intro v1 v2 A r A' h; cases h
  | succ n ih =>
    intro v1 v2 A r A' h hv1 hv2 hw
    rw [x98_gather_7] at h
    refine rz_B.go 5 (pc' := if decide (Int32.ofInt (A.1 26 0) ≤ Int32.ofInt v2) = true then 57 else 18) (L' := [some (.ref 64), some (vI v1), some (vI v2)]) (S' := []) rfl ?_
    by_cases hc1 : v2 < (A.1 26 0)
    · have h := if_T h hc1
      refine rz_B.ifF (mt (le32 (hw 26 0).1 hv2).mp (Int.not_le.mpr hc1)) ?_
      refine rz_B.go 4 (pc' := 26) (L' := [some (.ref 64), some (vI v1), some (vI v2)]) (S' := [vI v2, .ref 27]) rfl ?_
      obtain ⟨hi2, hj3, h⟩ := rz_gx_inv h
      refine rz_B.iald rfl rfl hi2 hj3 (by decide) ?_
      refine rz_B.go 2 (pc' := if decide (¬ Int32.ofInt (A.1 27 (v2).toNat) = Int32.ofInt v1) = true then 51 else 31) (L' := [some (.ref 64), some (vI v1), some (vI v2)]) (S' := []) rfl ?_
      by_cases hc4 : (A.1 27 (v2).toNat) = v1
      · have h := if_T h hc4
        refine rz_B.ifF (fun hn => hn ((eq32 (hw 27 (v2).toNat).1 hv1).mpr hc4)) ?_
        refine rz_B.go 5 (pc' := 40) (L' := [some (.ref 64), some (vI v1), some (vI v2)]) (S' := [.ref 51, vI v2, .ref 26]) rfl ?_
        obtain ⟨r5, A5, hf5, h⟩ := rz_b_inv h
        obtain ⟨hg5, hr5, hw5⟩ := cx39_placeOf F (d := d + 1) hf5 hv2 hw
        refine rz_B.call (d := d + 3) (as := [.ref 26, vI v2, .ref 51]) (rest := []) (w := some (vI r5)) rfl hg5 ?_
        refine rz_B.go 1 (pc' := if decide (Int32.ofInt r5 < Int32.ofInt 0) = true then 51 else 46) (L' := [some (.ref 64), some (vI v1), some (vI v2)]) (S' := []) rfl ?_
        by_cases hc6 : 0 ≤ r5
        · have h := if_T h hc6
          refine rz_B.ifF (mt (lt32 hr5 (by decide)).mp (Int.not_lt.mpr hc6)) ?_
          refine rz_B.go 2 (pc' := 48) (L' := [some (.ref 64), some (vI v1), some (vI v2)]) (S' := [vI v2, .ref 64]) rfl ?_
          obtain ⟨_, A7, hf7, h⟩ := rz_b_inv h
          obtain ⟨hg7, hr7, hw7⟩ := cx99_pick F (d := d + 3) hf7 hv2 hw5
          refine rz_B.call (d := d + 3) (as := [.ref 64, vI v2]) (rest := []) (w := none) rfl hg7 ?_
          obtain ⟨hk8, h⟩ := rz_g32_inv h
          refine rz_B.iinc rfl (by decide) rfl (L' := [some (.ref 64), some (vI v1), some (vI (v2 + 1))]) rfl ?_
          refine rz_B.go 1 (pc' := 7) (L' := [some (.ref 64), some (vI v1), some (vI (v2 + 1))]) (S' := []) rfl ?_
          refine rz_B.more (rg_le_ok (L := [some (.ref 64), some (vI v1), some (vI (v2 + 1))]) (by simp [rg_le])) ?_
          exact ih _ _ _ _ _ h hv1 hk8 hw7
        · have h := if_F h hc6
          refine rz_B.ifT ((lt32 hr5 (by decide)).mpr (Int.not_le.mp hc6)) ?_
          obtain ⟨hk9, h⟩ := rz_g32_inv h
          refine rz_B.iinc rfl (by decide) rfl (L' := [some (.ref 64), some (vI v1), some (vI (v2 + 1))]) rfl ?_
          refine rz_B.go 1 (pc' := 7) (L' := [some (.ref 64), some (vI v1), some (vI (v2 + 1))]) (S' := []) rfl ?_
          refine rz_B.more (rg_le_ok (L := [some (.ref 64), some (vI v1), some (vI (v2 + 1))]) (by simp [rg_le])) ?_
          exact ih _ _ _ _ _ h hv1 hk9 hw5
      · have h := if_F h hc4
        refine rz_B.ifT (mt (eq32 (hw 27 (v2).toNat).1 hv1).mp hc4) ?_
        obtain ⟨hk10, h⟩ := rz_g32_inv h
        refine rz_B.iinc rfl (by decide) rfl (L' := [some (.ref 64), some (vI v1), some (vI (v2 + 1))]) rfl ?_
        refine rz_B.go 1 (pc' := 7) (L' := [some (.ref 64), some (vI v1), some (vI (v2 + 1))]) (S' := []) rfl ?_
        refine rz_B.more (rg_le_ok (L := [some (.ref 64), some (vI v1), some (vI (v2 + 1))]) (by simp [rg_le])) ?_
        exact ih _ _ _ _ _ h hv1 hk10 hw
    · have h := if_F h hc1
      refine rz_B.ifT ((le32 (hw 26 0).1 hv2).mpr (Int.not_lt.mp hc1)) ?_
      refine rz_B.more (rg_le_ok (L := [some (.ref 64), some (vI v1), none]) (by simp [rg_le])) ?_
      exact cx98_gather_57 F _ _ _ _ h hv1 hw
/-- RiverGauge$Breaks.gather(I)Z -/
def x98_gather (F : Nat) (a0 : Int) (A : rz_A) : Option (Int × rz_A) :=
  x98_gather_7 F F a0 0 (aI A 64 6 0)
theorem cx98_gather (F : Nat) {d : Nat} {a0 : Int} {A : rz_A} {r : Int} {A' : rz_A} (h : x98_gather F a0 A = some (r, A')) (ha0 : r32 a0) (hw : wf A) : rg_Rn (d + 4) 98 [.ref 64, vI a0] (toM A) (some (vI r)) (toM A') ∧ (r32 r) ∧ wf A' := by
  show rz_B (d + 4) 98 0 [some (.ref 64), some (vI a0), none] [] A (some (vI r)) A' (r32 r)
  unfold x98_gather at h
  refine rz_B.put 3 (pc' := 5) (L' := [some (.ref 64), some (vI a0), none]) (S' := []) (c := 64) (k := 6) (x := 0) rfl ?_
  have hw1 : wf (aI A 64 6 0) := wf_aI hw (by decide)
  refine rz_B.go 2 (pc' := 7) (L' := [some (.ref 64), some (vI a0), some (vI 0)]) (S' := []) rfl ?_
  refine rz_B.more (rg_le_ok (L := [some (.ref 64), some (vI a0), some (vI 0)]) (by simp [rg_le])) ?_
  exact cx98_gather_7 F F _ _ _ _ _ h ha0 (by decide) hw1
/-- RiverGauge$Breaks.isRunStart(II)Z -/
def x105_isRunStart (F : Nat) (a0 : Int) (a1 : Int) (A : rz_A) : Option (Int × rz_A) :=
  if a1 = 0 then
    some (1, A)
  else
    rz_g32 (a1 - 1) <|
    if (rz_oI fAnd (rz_oI fShr a0 (a1 - 1)) 1) = 1 then
      some (1, A)
    else
      some (0, A)
theorem cx105_isRunStart (F : Nat) {d : Nat} {a0 : Int} {a1 : Int} {A : rz_A} {r : Int} {A' : rz_A} (h : x105_isRunStart F a0 a1 A = some (r, A')) (ha0 : r32 a0) (ha1 : r32 a1) (hw : wf A) : rg_Rn (d + 0) 105 [vI a0, vI a1] (toM A) (some (vI r)) (toM A') ∧ (r32 r) ∧ wf A' := by
  show rz_B (d + 0) 105 0 [some (vI a0), some (vI a1)] [] A (some (vI r)) A' (r32 r)
  unfold x105_isRunStart at h
  refine rz_B.go 2 (pc' := if decide (Int32.ofInt a1 = Int32.ofInt 0) = true then 15 else 4) (L' := [some (vI a0), some (vI a1)]) (S' := []) rfl ?_
  by_cases hc1 : a1 = 0
  · have h := if_T h hc1
    refine rz_B.ifT ((eq32 ha1 (by decide)).mpr hc1) ?_
    refine rz_B.go 2 (pc' := 20) (L' := [some (vI a0), some (vI a1)]) (S' := [vI 1]) rfl ?_
    cases h
    exact rz_B.ret rfl (by decide) hw
  · have h := if_F h hc1
    refine rz_B.ifF (mt (eq32 ha1 (by decide)).mp hc1) ?_
    refine rz_B.go 3 (pc' := 7) (L' := [some (vI a0), some (vI a1)]) (S' := [vI 1, vI a1, vI a0]) rfl ?_
    obtain ⟨hk2, h⟩ := rz_g32_inv h
    refine rz_B.isub rfl ?_
    refine rz_B.oI fShr rfl ?_
    refine rz_B.go 1 (pc' := 10) (L' := [some (vI a0), some (vI a1)]) (S' := [vI 1, vI (rz_oI fShr a0 (a1 - 1))]) rfl ?_
    refine rz_B.oI fAnd rfl ?_
    refine rz_B.go 2 (pc' := if decide (¬ Int32.ofInt (rz_oI fAnd (rz_oI fShr a0 (a1 - 1)) 1) = Int32.ofInt 1) = true then 19 else 15) (L' := [some (vI a0), some (vI a1)]) (S' := []) rfl ?_
    by_cases hc3 : (rz_oI fAnd (rz_oI fShr a0 (a1 - 1)) 1) = 1
    · have h := if_T h hc3
      refine rz_B.ifF (fun hn => hn ((eq32 r32_oI (by decide)).mpr hc3)) ?_
      refine rz_B.go 2 (pc' := 20) (L' := [some (vI a0), some (vI a1)]) (S' := [vI 1]) rfl ?_
      cases h
      exact rz_B.ret rfl (by decide) hw
    · have h := if_F h hc3
      refine rz_B.ifT (mt (eq32 r32_oI (by decide)).mp hc3) ?_
      refine rz_B.go 1 (pc' := 20) (L' := [some (vI a0), some (vI a1)]) (S' := [vI 0]) rfl ?_
      cases h
      exact rz_B.ret rfl (by decide) hw
def x104_allGo_39 (F : Nat) (k12 : (Int → Int → Int → Int → rz_A → Option (Int × rz_A))) (v1 : Int) (v2 : Int) (v4 : Int) (v6 : Int) (A : rz_A) : Option (Int × rz_A) :=
  rz_g32 (2 * v6) <|
  rz_gx (2 * v6) 16 <|
  rz_g32 ((2 * v6) + 1) <|
  rz_gx ((2 * v6) + 1) 16 <|
  if (rz_oL gOr (rz_oL gAnd v2 (A.2 68 ((2 * v6)).toNat)) (rz_oL gAnd v4 (A.2 68 (((2 * v6) + 1)).toNat))) = 0 then
    some (0, A)
  else
    rz_g32 (v6 + 1) <|
    k12 v1 (rz_oL gAnd v2 (A.2 68 ((2 * v6)).toNat)) (rz_oL gAnd v4 (A.2 68 (((2 * v6) + 1)).toNat)) (v6 + 1) A
theorem cx104_allGo_39 {d : Nat} (F : Nat) {k12 : (Int → Int → Int → Int → rz_A → Option (Int × rz_A))} (hkk12 : ∀ (v1 : Int) (v2 : Int) (v4 : Int) (v6 : Int) (A : rz_A) (r : Int) (A' : rz_A), k12 v1 v2 v4 v6 A = some (r, A') → r32 v1 → r64 v2 → r64 v4 → r32 v6 → wf A → rz_B (d + 1) 104 12 [some (.ref 64), some (vI v1), some (vL v2), none, some (vL v4), none, some (vI v6)] [] A (some (vI r)) A' (r32 r)) : ∀ (v1 : Int) (v2 : Int) (v4 : Int) (v6 : Int) (A : rz_A) (r : Int) (A' : rz_A), x104_allGo_39 F k12 v1 v2 v4 v6 A = some (r, A') → r32 v1 → r64 v2 → r64 v4 → r32 v6 → wf A → rz_B (d + 1) 104 39 [some (.ref 64), some (vI v1), some (vL v2), none, some (vL v4), none, some (vI v6)] [] A (some (vI r)) A' (r32 r) := by
  intro v1 v2 v4 v6 A r A' h hv1 hv2 hv4 hv6 hw
  unfold x104_allGo_39 at h
  refine rz_B.go 5 (pc' := 47) (L' := [some (.ref 64), some (vI v1), some (vL v2), none, some (vL v4), none, some (vI v6)]) (S' := [vI v6, vI 2, .ref 68, vL v2]) rfl ?_
  obtain ⟨hk1, h⟩ := rz_g32_inv h
  refine rz_B.imul rfl ?_
  obtain ⟨hi2, hj3, h⟩ := rz_gx_inv h
  refine rz_B.lald rfl rfl hi2 hj3 (by decide) ?_
  refine rz_B.oL gAnd rfl ?_
  refine rz_B.go 6 (pc' := 60) (L' := [some (.ref 64), some (vI v1), some (vL (rz_oL gAnd v2 (A.2 68 ((2 * v6)).toNat))), none, some (vL v4), none, some (vI v6)]) (S' := [vI v6, vI 2, .ref 68, vL v4]) rfl ?_
  refine rz_B.imul rfl ?_
  refine rz_B.go 1 (pc' := 62) (L' := [some (.ref 64), some (vI v1), some (vL (rz_oL gAnd v2 (A.2 68 ((2 * v6)).toNat))), none, some (vL v4), none, some (vI v6)]) (S' := [vI 1, vI (2 * v6), .ref 68, vL v4]) rfl ?_
  obtain ⟨hk4, h⟩ := rz_g32_inv h
  refine rz_B.iadd rfl ?_
  obtain ⟨hi5, hj6, h⟩ := rz_gx_inv h
  refine rz_B.lald rfl rfl hi5 hj6 (by decide) ?_
  refine rz_B.oL gAnd rfl ?_
  refine rz_B.go 3 (pc' := 70) (L' := [some (.ref 64), some (vI v1), some (vL (rz_oL gAnd v2 (A.2 68 ((2 * v6)).toNat))), none, some (vL (rz_oL gAnd v4 (A.2 68 (((2 * v6) + 1)).toNat))), none, some (vI v6)]) (S' := [vL (rz_oL gAnd v4 (A.2 68 (((2 * v6) + 1)).toNat)), vL (rz_oL gAnd v2 (A.2 68 ((2 * v6)).toNat))]) rfl ?_
  refine rz_B.oL gOr rfl ?_
  refine rz_B.go 3 (pc' := if decide (¬ lg_cmp (Int64.ofInt (rz_oL gOr (rz_oL gAnd v2 (A.2 68 ((2 * v6)).toNat)) (rz_oL gAnd v4 (A.2 68 (((2 * v6) + 1)).toNat)))) (Int64.ofInt 0) = 0) = true then 78 else 76) (L' := [some (.ref 64), some (vI v1), some (vL (rz_oL gAnd v2 (A.2 68 ((2 * v6)).toNat))), none, some (vL (rz_oL gAnd v4 (A.2 68 (((2 * v6) + 1)).toNat))), none, some (vI v6)]) (S' := []) rfl ?_
  by_cases hc7 : (rz_oL gOr (rz_oL gAnd v2 (A.2 68 ((2 * v6)).toNat)) (rz_oL gAnd v4 (A.2 68 (((2 * v6) + 1)).toNat))) = 0
  · have h := if_T h hc7
    refine rz_B.ifF (fun hn => hn ((cmp_eq r64_oL (by decide)).mpr hc7)) ?_
    refine rz_B.go 1 (pc' := 77) (L' := [some (.ref 64), some (vI v1), some (vL (rz_oL gAnd v2 (A.2 68 ((2 * v6)).toNat))), none, some (vL (rz_oL gAnd v4 (A.2 68 (((2 * v6) + 1)).toNat))), none, some (vI v6)]) (S' := [vI 0]) rfl ?_
    cases h
    exact rz_B.ret rfl (by decide) hw
  · have h := if_F h hc7
    refine rz_B.ifT (mt (cmp_eq r64_oL (by decide)).mp hc7) ?_
    obtain ⟨hk8, h⟩ := rz_g32_inv h
    refine rz_B.iinc rfl (by decide) rfl (L' := [some (.ref 64), some (vI v1), some (vL (rz_oL gAnd v2 (A.2 68 ((2 * v6)).toNat))), none, some (vL (rz_oL gAnd v4 (A.2 68 (((2 * v6) + 1)).toNat))), none, some (vI (v6 + 1))]) rfl ?_
    refine rz_B.go 1 (pc' := 12) (L' := [some (.ref 64), some (vI v1), some (vL (rz_oL gAnd v2 (A.2 68 ((2 * v6)).toNat))), none, some (vL (rz_oL gAnd v4 (A.2 68 (((2 * v6) + 1)).toNat))), none, some (vI (v6 + 1))]) (S' := []) rfl ?_
    refine rz_B.more (rg_le_ok (L := [some (.ref 64), some (vI v1), some (vL (rz_oL gAnd v2 (A.2 68 ((2 * v6)).toNat))), none, some (vL (rz_oL gAnd v4 (A.2 68 (((2 * v6) + 1)).toNat))), none, some (vI (v6 + 1))]) (by simp [rg_le])) ?_
    exact hkk12 _ _ _ _ _ _ _ h hv1 r64_oL r64_oL hk8 hw
def x104_allGo_12 (F : Nat) : Nat → Int → Int → Int → Int → rz_A → Option (Int × rz_A)
  | 0, _, _, _, _, _ => none
  | n + 1, v1, v2, v4, v6, A =>
    if v6 < (A.1 64 6) then
      rz_b (x105_isRunStart F v1 v6 A) fun r2 A2 =>
      if r2 = 0 then
        x104_allGo_39 F (x104_allGo_12 F n) v1 v2 v4 v6 A2
      else
        x104_allGo_39 F (x104_allGo_12 F n) v1 (-1) (-1) v6 A2
    else
      some (1, A)
theorem cx104_allGo_12 {d : Nat} (F : Nat) : ∀ (n : Nat) (v1 : Int) (v2 : Int) (v4 : Int) (v6 : Int) (A : rz_A) (r : Int) (A' : rz_A), x104_allGo_12 F n v1 v2 v4 v6 A = some (r, A') → r32 v1 → r64 v2 → r64 v4 → r32 v6 → wf A → rz_B (d + 1) 104 12 [some (.ref 64), some (vI v1), some (vL v2), none, some (vL v4), none, some (vI v6)] [] A (some (vI r)) A' (r32 r) := by
  intro n
  induction n with
  | zero => intro v1 v2 v4 v6 A r A' h; cases h
  | succ n ih =>
    intro v1 v2 v4 v6 A r A' h hv1 hv2 hv4 hv6 hw
    rw [x104_allGo_12] at h
    refine rz_B.go 4 (pc' := if decide (Int32.ofInt (A.1 64 6) ≤ Int32.ofInt v6) = true then 84 else 21) (L' := [some (.ref 64), some (vI v1), some (vL v2), none, some (vL v4), none, some (vI v6)]) (S' := []) rfl ?_
    by_cases hc1 : v6 < (A.1 64 6)
    · have h := if_T h hc1
      refine rz_B.ifF (mt (le32 (hw 64 6).1 hv6).mp (Int.not_le.mpr hc1)) ?_
      refine rz_B.go 2 (pc' := 24) (L' := [some (.ref 64), some (vI v1), some (vL v2), none, some (vL v4), none, some (vI v6)]) (S' := [vI v6, vI v1]) rfl ?_
      obtain ⟨r2, A2, hf2, h⟩ := rz_b_inv h
      obtain ⟨hg2, hr2, hw2⟩ := cx105_isRunStart F (d := d + 0) hf2 hv1 hv6 hw
      refine rz_B.call (d := d + 0) (as := [vI v1, vI v6]) (rest := []) (w := some (vI r2)) rfl hg2 ?_
      refine rz_B.go 1 (pc' := if decide (Int32.ofInt r2 = Int32.ofInt 0) = true then 39 else 30) (L' := [some (.ref 64), some (vI v1), some (vL v2), none, some (vL v4), none, some (vI v6)]) (S' := []) rfl ?_
      by_cases hc3 : r2 = 0
      · have h := if_T h hc3
        refine rz_B.ifT ((eq32 hr2 (by decide)).mpr hc3) ?_
        refine rz_B.more (rg_le_ok (L := [some (.ref 64), some (vI v1), some (vL v2), none, some (vL v4), none, some (vI v6)]) (by simp [rg_le])) ?_
        exact cx104_allGo_39 F ih _ _ _ _ _ _ _ h hv1 hv2 hv4 hv6 hw2
      · have h := if_F h hc3
        refine rz_B.ifF (mt (eq32 hr2 (by decide)).mp hc3) ?_
        refine rz_B.go 4 (pc' := 39) (L' := [some (.ref 64), some (vI v1), some (vL (-1)), none, some (vL (-1)), none, some (vI v6)]) (S' := []) rfl ?_
        refine rz_B.more (rg_le_ok (L := [some (.ref 64), some (vI v1), some (vL (-1)), none, some (vL (-1)), none, some (vI v6)]) (by simp [rg_le])) ?_
        exact cx104_allGo_39 F ih _ _ _ _ _ _ _ h hv1 (by decide) (by decide) hv6 hw2
    · have h := if_F h hc1
      refine rz_B.ifT ((le32 (hw 64 6).1 hv6).mpr (Int.not_lt.mp hc1)) ?_
      refine rz_B.go 1 (pc' := 85) (L' := [some (.ref 64), some (vI v1), some (vL v2), none, some (vL v4), none, some (vI v6)]) (S' := [vI 1]) rfl ?_
      cases h
      exact rz_B.ret rfl (by decide) hw
/-- RiverGauge$Breaks.allGo(I)Z -/
def x104_allGo (F : Nat) (a0 : Int) (A : rz_A) : Option (Int × rz_A) :=
  x104_allGo_12 F F a0 (-1) (-1) 0 A
theorem cx104_allGo (F : Nat) {d : Nat} {a0 : Int} {A : rz_A} {r : Int} {A' : rz_A} (h : x104_allGo F a0 A = some (r, A')) (ha0 : r32 a0) (hw : wf A) : rg_Rn (d + 1) 104 [.ref 64, vI a0] (toM A) (some (vI r)) (toM A') ∧ (r32 r) ∧ wf A' := by
  show rz_B (d + 1) 104 0 [some (.ref 64), some (vI a0), none, none, none, none, none] [] A (some (vI r)) A' (r32 r)
  unfold x104_allGo at h
  refine rz_B.go 6 (pc' := 12) (L' := [some (.ref 64), some (vI a0), some (vL (-1)), none, some (vL (-1)), none, some (vI 0)]) (S' := []) rfl ?_
  refine rz_B.more (rg_le_ok (L := [some (.ref 64), some (vI a0), some (vL (-1)), none, some (vL (-1)), none, some (vI 0)]) (by simp [rg_le])) ?_
  exact cx104_allGo_12 F F _ _ _ _ _ _ _ h ha0 (by decide) (by decide) (by decide) hw
def x102_search_88 (F : Nat) (A : rz_A) : Option (Int × rz_A) :=
  if 0 < (A.1 64 9) then
    some (1, A)
  else
    some (0, A)
theorem cx102_search_88 {d : Nat} (F : Nat) : ∀ (A : rz_A) (r : Int) (A' : rz_A), x102_search_88 F A = some (r, A') → wf A → rz_B (d + 2) 102 88 [some (.ref 64), none, none] [] A (some (vI r)) A' (r32 r) := by
  intro A r A' h hw
  unfold x102_search_88 at h
  refine rz_B.go 3 (pc' := if decide (Int32.ofInt (A.1 64 9) ≤ Int32.ofInt 0) = true then 99 else 95) (L' := [some (.ref 64), none, none]) (S' := []) rfl ?_
  by_cases hc1 : 0 < (A.1 64 9)
  · have h := if_T h hc1
    refine rz_B.ifF (mt (le32 (hw 64 9).1 (by decide)).mp (Int.not_le.mpr hc1)) ?_
    refine rz_B.go 2 (pc' := 100) (L' := [some (.ref 64), none, none]) (S' := [vI 1]) rfl ?_
    cases h
    exact rz_B.ret rfl (by decide) hw
  · have h := if_F h hc1
    refine rz_B.ifT ((le32 (hw 64 9).1 (by decide)).mpr (Int.not_lt.mp hc1)) ?_
    refine rz_B.go 1 (pc' := 100) (L' := [some (.ref 64), none, none]) (S' := [vI 0]) rfl ?_
    cases h
    exact rz_B.ret rfl (by decide) hw
def x102_search_13 (F : Nat) : Nat → Int → rz_A → Option (Int × rz_A)
  | 0, _, _ => none
  | n + 1, v1, A =>
    rz_g32 ((A.1 64 6) - 1) <|
    if v1 < (rz_oI fShl 1 ((A.1 64 6) - 1)) then
      rz_b (x103_bitCount F v1 A) fun r3 A3 =>
      if r3 ≤ (A3.1 64 8) then
        rz_b (x104_allGo F v1 A3) fun r5 A5 =>
        if r5 = 0 then
          rz_g32 (v1 + 1) <|
          x102_search_13 F n (v1 + 1) A5
        else
          if r3 < (A5.1 64 8) then
            rz_g32 (v1 + 1) <|
            x102_search_13 F n (v1 + 1) (aI (aI (aI (aI A5 64 8 r3) 64 9 0) 64 10 v1) 64 9 1)
          else
            rz_g32 ((A5.1 64 9) + 1) <|
            rz_g32 (v1 + 1) <|
            x102_search_13 F n (v1 + 1) (aI A5 64 9 ((A5.1 64 9) + 1))
      else
        rz_g32 (v1 + 1) <|
        x102_search_13 F n (v1 + 1) A3
    else
      x102_search_88 F A
theorem cx102_search_13 {d : Nat} (F : Nat) : ∀ (n : Nat) (v1 : Int) (A : rz_A) (r : Int) (A' : rz_A), x102_search_13 F n v1 A = some (r, A') → r32 v1 → wf A → rz_B (d + 2) 102 13 [some (.ref 64), some (vI v1), none] [] A (some (vI r)) A' (r32 r) := by
  intro n
  induction n with
  | zero => intro v1 A r A' h; cases h
  | succ n ih =>
    intro v1 A r A' h hv1 hw
    rw [x102_search_13] at h
    refine rz_B.go 5 (pc' := 20) (L' := [some (.ref 64), some (vI v1), none]) (S' := [vI 1, vI (A.1 64 6), vI 1, vI v1]) rfl ?_
    obtain ⟨hk1, h⟩ := rz_g32_inv h
    refine rz_B.isub rfl ?_
    refine rz_B.oI fShl rfl ?_
    refine rz_B.go 1 (pc' := if decide (Int32.ofInt (rz_oI fShl 1 ((A.1 64 6) - 1)) ≤ Int32.ofInt v1) = true then 88 else 25) (L' := [some (.ref 64), some (vI v1), none]) (S' := []) rfl ?_
    by_cases hc2 : v1 < (rz_oI fShl 1 ((A.1 64 6) - 1))
    · have h := if_T h hc2
      refine rz_B.ifF (mt (le32 r32_oI hv1).mp (Int.not_le.mpr hc2)) ?_
      refine rz_B.go 1 (pc' := 26) (L' := [some (.ref 64), some (vI v1), none]) (S' := [vI v1]) rfl ?_
      obtain ⟨r3, A3, hf3, h⟩ := rz_b_inv h
      obtain ⟨hg3, hr3, hw3⟩ := cx103_bitCount F (d := d + 1) hf3 hv1 hw
      refine rz_B.call (d := d + 1) (as := [vI v1]) (rest := []) (w := some (vI r3)) rfl hg3 ?_
      refine rz_B.go 5 (pc' := if decide (Int32.ofInt (A3.1 64 8) < Int32.ofInt r3) = true then 82 else 38) (L' := [some (.ref 64), some (vI v1), some (vI r3)]) (S' := []) rfl ?_
      by_cases hc4 : r3 ≤ (A3.1 64 8)
      · have h := if_T h hc4
        refine rz_B.ifF (mt (lt32 (hw3 64 8).1 hr3).mp (Int.not_lt.mpr hc4)) ?_
        refine rz_B.go 2 (pc' := 40) (L' := [some (.ref 64), some (vI v1), some (vI r3)]) (S' := [vI v1, .ref 64]) rfl ?_
        obtain ⟨r5, A5, hf5, h⟩ := rz_b_inv h
        obtain ⟨hg5, hr5, hw5⟩ := cx104_allGo F (d := d + 0) hf5 hv1 hw3
        refine rz_B.call (d := d + 1) (as := [.ref 64, vI v1]) (rest := []) (w := some (vI r5)) rfl hg5 ?_
        refine rz_B.go 1 (pc' := if decide (¬ Int32.ofInt r5 = Int32.ofInt 0) = true then 49 else 46) (L' := [some (.ref 64), some (vI v1), some (vI r3)]) (S' := []) rfl ?_
        by_cases hc6 : r5 = 0
        · have h := if_T h hc6
          refine rz_B.ifF (fun hn => hn ((eq32 hr5 (by decide)).mpr hc6)) ?_
          refine rz_B.go 1 (pc' := 82) (L' := [some (.ref 64), some (vI v1), some (vI r3)]) (S' := []) rfl ?_
          obtain ⟨hk7, h⟩ := rz_g32_inv h
          refine rz_B.iinc rfl (by decide) rfl (L' := [some (.ref 64), some (vI (v1 + 1)), some (vI r3)]) rfl ?_
          refine rz_B.go 1 (pc' := 13) (L' := [some (.ref 64), some (vI (v1 + 1)), some (vI r3)]) (S' := []) rfl ?_
          refine rz_B.more (rg_le_ok (L := [some (.ref 64), some (vI (v1 + 1)), none]) (by simp [rg_le])) ?_
          exact ih _ _ _ _ h hk7 hw5
        · have h := if_F h hc6
          refine rz_B.ifT (mt (eq32 hr5 (by decide)).mp hc6) ?_
          refine rz_B.go 4 (pc' := if decide (Int32.ofInt (A5.1 64 8) ≤ Int32.ofInt r3) = true then 72 else 57) (L' := [some (.ref 64), some (vI v1), some (vI r3)]) (S' := []) rfl ?_
          by_cases hc8 : r3 < (A5.1 64 8)
          · have h := if_T h hc8
            refine rz_B.ifF (mt (le32 (hw5 64 8).1 hr3).mp (Int.not_le.mpr hc8)) ?_
            refine rz_B.put 3 (pc' := 62) (L' := [some (.ref 64), some (vI v1), some (vI r3)]) (S' := []) (c := 64) (k := 8) (x := r3) rfl ?_
            have hw9 : wf (aI A5 64 8 r3) := wf_aI hw5 hr3
            refine rz_B.put 3 (pc' := 67) (L' := [some (.ref 64), some (vI v1), some (vI r3)]) (S' := []) (c := 64) (k := 9) (x := 0) rfl ?_
            have hw10 : wf (aI (aI A5 64 8 r3) 64 9 0) := wf_aI hw9 (by decide)
            refine rz_B.put 3 (pc' := 72) (L' := [some (.ref 64), some (vI v1), some (vI r3)]) (S' := []) (c := 64) (k := 10) (x := v1) rfl ?_
            have hw11 : wf (aI (aI (aI A5 64 8 r3) 64 9 0) 64 10 v1) := wf_aI hw10 hv1
            refine rz_B.put 6 (pc' := 82) (L' := [some (.ref 64), some (vI v1), some (vI r3)]) (S' := []) (c := 64) (k := 9) (x := 1) rfl ?_
            have hw12 : wf (aI (aI (aI (aI A5 64 8 r3) 64 9 0) 64 10 v1) 64 9 1) := wf_aI hw11 (by decide)
            obtain ⟨hk13, h⟩ := rz_g32_inv h
            refine rz_B.iinc rfl (by decide) rfl (L' := [some (.ref 64), some (vI (v1 + 1)), some (vI r3)]) rfl ?_
            refine rz_B.go 1 (pc' := 13) (L' := [some (.ref 64), some (vI (v1 + 1)), some (vI r3)]) (S' := []) rfl ?_
            refine rz_B.more (rg_le_ok (L := [some (.ref 64), some (vI (v1 + 1)), none]) (by simp [rg_le])) ?_
            exact ih _ _ _ _ h hk13 hw12
          · have h := if_F h hc8
            refine rz_B.ifT ((le32 (hw5 64 8).1 hr3).mpr (Int.not_lt.mp hc8)) ?_
            refine rz_B.go 4 (pc' := 78) (L' := [some (.ref 64), some (vI v1), some (vI r3)]) (S' := [vI 1, vI (A5.1 64 9), .ref 64]) rfl ?_
            obtain ⟨hk14, h⟩ := rz_g32_inv h
            refine rz_B.iadd rfl ?_
            refine rz_B.put 1 (pc' := 82) (L' := [some (.ref 64), some (vI v1), some (vI r3)]) (S' := []) (c := 64) (k := 9) (x := ((A5.1 64 9) + 1)) rfl ?_
            have hw15 : wf (aI A5 64 9 ((A5.1 64 9) + 1)) := wf_aI hw5 hk14
            obtain ⟨hk16, h⟩ := rz_g32_inv h
            refine rz_B.iinc rfl (by decide) rfl (L' := [some (.ref 64), some (vI (v1 + 1)), some (vI r3)]) rfl ?_
            refine rz_B.go 1 (pc' := 13) (L' := [some (.ref 64), some (vI (v1 + 1)), some (vI r3)]) (S' := []) rfl ?_
            refine rz_B.more (rg_le_ok (L := [some (.ref 64), some (vI (v1 + 1)), none]) (by simp [rg_le])) ?_
            exact ih _ _ _ _ h hk16 hw15
      · have h := if_F h hc4
        refine rz_B.ifT ((lt32 (hw3 64 8).1 hr3).mpr (Int.not_le.mp hc4)) ?_
        obtain ⟨hk17, h⟩ := rz_g32_inv h
        refine rz_B.iinc rfl (by decide) rfl (L' := [some (.ref 64), some (vI (v1 + 1)), some (vI r3)]) rfl ?_
        refine rz_B.go 1 (pc' := 13) (L' := [some (.ref 64), some (vI (v1 + 1)), some (vI r3)]) (S' := []) rfl ?_
        refine rz_B.more (rg_le_ok (L := [some (.ref 64), some (vI (v1 + 1)), none]) (by simp [rg_le])) ?_
        exact ih _ _ _ _ h hk17 hw3
    · have h := if_F h hc2
      refine rz_B.ifT ((le32 r32_oI hv1).mpr (Int.not_lt.mp hc2)) ?_
      refine rz_B.more (rg_le_ok (L := [some (.ref 64), none, none]) (by simp [rg_le])) ?_
      exact cx102_search_88 F _ _ _ h hw
/-- RiverGauge$Breaks.search()Z -/
def x102_search (F : Nat) (A : rz_A) : Option (Int × rz_A) :=
  x102_search_13 F F 0 (aI (aI A 64 8 8) 64 9 0)
theorem cx102_search (F : Nat) {d : Nat} {A : rz_A} {r : Int} {A' : rz_A} (h : x102_search F A = some (r, A')) (hw : wf A) : rg_Rn (d + 2) 102 [.ref 64] (toM A) (some (vI r)) (toM A') ∧ (r32 r) ∧ wf A' := by
  show rz_B (d + 2) 102 0 [some (.ref 64), none, none] [] A (some (vI r)) A' (r32 r)
  unfold x102_search at h
  refine rz_B.put 3 (pc' := 6) (L' := [some (.ref 64), none, none]) (S' := []) (c := 64) (k := 8) (x := 8) rfl ?_
  have hw1 : wf (aI A 64 8 8) := wf_aI hw (by decide)
  refine rz_B.put 3 (pc' := 11) (L' := [some (.ref 64), none, none]) (S' := []) (c := 64) (k := 9) (x := 0) rfl ?_
  have hw2 : wf (aI (aI A 64 8 8) 64 9 0) := wf_aI hw1 (by decide)
  refine rz_B.go 2 (pc' := 13) (L' := [some (.ref 64), some (vI 0), none]) (S' := []) rfl ?_
  refine rz_B.more (rg_le_ok (L := [some (.ref 64), some (vI 0), none]) (by simp [rg_le])) ?_
  exact cx102_search_13 F F _ _ _ _ h (by decide) hw2
/-- RiverGauge.breaks(II)I -/
def x97_breaks (F : Nat) (a0 : Int) (a1 : Int) (A : rz_A) : Option (Int × rz_A) :=
  rz_b (x5_has F a0 A) fun r1 A1 =>
  if r1 = 0 then
    rz_b (x1_refuse F (-1) A1) fun r3 A3 =>
    some (r3, A3)
  else
    if 0 ≤ a1 then
      if 3 < a1 then
        rz_b (x1_refuse F (-2) A1) fun r6 A6 =>
        some (r6, A6)
      else
        rz_b (x20_see F (A1.1 0 16) A1) fun _ A7 =>
        rz_b (x98_gather F a0 A7) fun r8 A8 =>
        if r8 = 0 then
          rz_b (x1_refuse F (-5) A8) fun r10 A10 =>
          some (r10, A10)
        else
          if a1 = 3 then
            some ((A8.1 64 6), A8)
          else
            rz_b (x102_search F A8) fun r12 A12 =>
            if r12 = 0 then
              some ((-9), A12)
            else
              if a1 = 0 then
                some ((A12.1 64 8), A12)
              else
                if a1 = 1 then
                  some ((A12.1 64 9), A12)
                else
                  some ((A12.1 64 10), A12)
    else
      rz_b (x1_refuse F (-2) A1) fun r16 A16 =>
      some (r16, A16)
theorem cx97_breaks (F : Nat) {d : Nat} {a0 : Int} {a1 : Int} {A : rz_A} {r : Int} {A' : rz_A} (h : x97_breaks F a0 a1 A = some (r, A')) (ha0 : r32 a0) (ha1 : r32 a1) (hw : wf A) : rg_Rn (d + 6) 97 [.ref 0, vI a0, vI a1] (toM A) (some (vI r)) (toM A') ∧ (r32 r) ∧ wf A' := by
  show rz_B (d + 6) 97 0 [some (.ref 0), some (vI a0), some (vI a1)] [] A (some (vI r)) A' (r32 r)
  unfold x97_breaks at h
  refine rz_B.go 3 (pc' := 5) (L' := [some (.ref 0), some (vI a0), some (vI a1)]) (S' := [vI a0, .ref 2]) rfl ?_
  obtain ⟨r1, A1, hf1, h⟩ := rz_b_inv h
  obtain ⟨hg1, hr1, hw1⟩ := cx5_has F (d := d + 5) hf1 ha0 hw
  refine rz_B.call (d := d + 5) (as := [.ref 2, vI a0]) (rest := []) (w := some (vI r1)) rfl hg1 ?_
  refine rz_B.go 1 (pc' := if decide (¬ Int32.ofInt r1 = Int32.ofInt 0) = true then 17 else 11) (L' := [some (.ref 0), some (vI a0), some (vI a1)]) (S' := []) rfl ?_
  by_cases hc2 : r1 = 0
  · have h := if_T h hc2
    refine rz_B.ifF (fun hn => hn ((eq32 hr1 (by decide)).mpr hc2)) ?_
    refine rz_B.go 2 (pc' := 13) (L' := [some (.ref 0), some (vI a0), some (vI a1)]) (S' := [vI (-1), .ref 0]) rfl ?_
    obtain ⟨r3, A3, hf3, h⟩ := rz_b_inv h
    obtain ⟨hg3, hr3, hw3⟩ := cx1_refuse F (d := d + 5) hf3 (by decide) hw1
    refine rz_B.call (d := d + 5) (as := [.ref 0, vI (-1)]) (rest := []) (w := some (vI r3)) rfl hg3 ?_
    cases h
    exact rz_B.ret rfl hr3 hw3
  · have h := if_F h hc2
    refine rz_B.ifT (mt (eq32 hr1 (by decide)).mp hc2) ?_
    refine rz_B.go 2 (pc' := if decide (Int32.ofInt a1 < Int32.ofInt 0) = true then 26 else 21) (L' := [some (.ref 0), some (vI a0), some (vI a1)]) (S' := []) rfl ?_
    by_cases hc4 : 0 ≤ a1
    · have h := if_T h hc4
      refine rz_B.ifF (mt (lt32 ha1 (by decide)).mp (Int.not_lt.mpr hc4)) ?_
      refine rz_B.go 3 (pc' := if decide (Int32.ofInt a1 ≤ Int32.ofInt 3) = true then 33 else 26) (L' := [some (.ref 0), some (vI a0), some (vI a1)]) (S' := []) rfl ?_
      by_cases hc5 : 3 < a1
      · have h := if_T h hc5
        refine rz_B.ifF (mt (le32 ha1 (by decide)).mp (Int.not_le.mpr hc5)) ?_
        refine rz_B.go 2 (pc' := 29) (L' := [some (.ref 0), some (vI a0), some (vI a1)]) (S' := [vI (-2), .ref 0]) rfl ?_
        obtain ⟨r6, A6, hf6, h⟩ := rz_b_inv h
        obtain ⟨hg6, hr6, hw6⟩ := cx1_refuse F (d := d + 5) hf6 (by decide) hw1
        refine rz_B.call (d := d + 5) (as := [.ref 0, vI (-2)]) (rest := []) (w := some (vI r6)) rfl hg6 ?_
        cases h
        exact rz_B.ret rfl hr6 hw6
      · have h := if_F h hc5
        refine rz_B.ifT ((le32 ha1 (by decide)).mpr (Int.not_lt.mp hc5)) ?_
        refine rz_B.go 4 (pc' := 41) (L' := [some (.ref 0), some (vI a0), some (vI a1)]) (S' := [vI (A1.1 0 16), .ref 51]) rfl ?_
        obtain ⟨_, A7, hf7, h⟩ := rz_b_inv h
        obtain ⟨hg7, hr7, hw7⟩ := cx20_see F (d := d + 0) hf7 (hw1 0 16).1 hw1
        refine rz_B.call (d := d + 5) (as := [.ref 51, vI (A1.1 0 16)]) (rest := []) (w := none) rfl hg7 ?_
        refine rz_B.go 3 (pc' := 49) (L' := [some (.ref 0), some (vI a0), some (vI a1)]) (S' := [vI a0, .ref 64]) rfl ?_
        obtain ⟨r8, A8, hf8, h⟩ := rz_b_inv h
        obtain ⟨hg8, hr8, hw8⟩ := cx98_gather F (d := d + 1) hf8 ha0 hw7
        refine rz_B.call (d := d + 5) (as := [.ref 64, vI a0]) (rest := []) (w := some (vI r8)) rfl hg8 ?_
        refine rz_B.go 1 (pc' := if decide (¬ Int32.ofInt r8 = Int32.ofInt 0) = true then 62 else 55) (L' := [some (.ref 0), some (vI a0), some (vI a1)]) (S' := []) rfl ?_
        by_cases hc9 : r8 = 0
        · have h := if_T h hc9
          refine rz_B.ifF (fun hn => hn ((eq32 hr8 (by decide)).mpr hc9)) ?_
          refine rz_B.go 2 (pc' := 58) (L' := [some (.ref 0), some (vI a0), some (vI a1)]) (S' := [vI (-5), .ref 0]) rfl ?_
          obtain ⟨r10, A10, hf10, h⟩ := rz_b_inv h
          obtain ⟨hg10, hr10, hw10⟩ := cx1_refuse F (d := d + 5) hf10 (by decide) hw8
          refine rz_B.call (d := d + 5) (as := [.ref 0, vI (-5)]) (rest := []) (w := some (vI r10)) rfl hg10 ?_
          cases h
          exact rz_B.ret rfl hr10 hw10
        · have h := if_F h hc9
          refine rz_B.ifT (mt (eq32 hr8 (by decide)).mp hc9) ?_
          refine rz_B.go 3 (pc' := if decide (¬ Int32.ofInt a1 = Int32.ofInt 3) = true then 75 else 67) (L' := [some (.ref 0), some (vI a0), some (vI a1)]) (S' := []) rfl ?_
          by_cases hc11 : a1 = 3
          · have h := if_T h hc11
            refine rz_B.ifF (fun hn => hn ((eq32 ha1 (by decide)).mpr hc11)) ?_
            refine rz_B.go 3 (pc' := 74) (L' := [some (.ref 0), some (vI a0), some (vI a1)]) (S' := [vI (A8.1 64 6)]) rfl ?_
            cases h
            exact rz_B.ret rfl (hw8 64 6).1 hw8
          · have h := if_F h hc11
            refine rz_B.ifT (mt (eq32 ha1 (by decide)).mp hc11) ?_
            refine rz_B.go 2 (pc' := 79) (L' := [some (.ref 0), some (vI a0), some (vI a1)]) (S' := [.ref 64]) rfl ?_
            obtain ⟨r12, A12, hf12, h⟩ := rz_b_inv h
            obtain ⟨hg12, hr12, hw12⟩ := cx102_search F (d := d + 3) hf12 hw8
            refine rz_B.call (d := d + 5) (as := [.ref 64]) (rest := []) (w := some (vI r12)) rfl hg12 ?_
            refine rz_B.go 1 (pc' := if decide (¬ Int32.ofInt r12 = Int32.ofInt 0) = true then 88 else 85) (L' := [some (.ref 0), some (vI a0), some (vI a1)]) (S' := []) rfl ?_
            by_cases hc13 : r12 = 0
            · have h := if_T h hc13
              refine rz_B.ifF (fun hn => hn ((eq32 hr12 (by decide)).mpr hc13)) ?_
              refine rz_B.go 1 (pc' := 87) (L' := [some (.ref 0), some (vI a0), some (vI a1)]) (S' := [vI (-9)]) rfl ?_
              cases h
              exact rz_B.ret rfl (by decide) hw12
            · have h := if_F h hc13
              refine rz_B.ifT (mt (eq32 hr12 (by decide)).mp hc13) ?_
              refine rz_B.go 2 (pc' := if decide (¬ Int32.ofInt a1 = Int32.ofInt 0) = true then 100 else 92) (L' := [some (.ref 0), some (vI a0), some (vI a1)]) (S' := []) rfl ?_
              by_cases hc14 : a1 = 0
              · have h := if_T h hc14
                refine rz_B.ifF (fun hn => hn ((eq32 ha1 (by decide)).mpr hc14)) ?_
                refine rz_B.go 3 (pc' := 99) (L' := [some (.ref 0), some (vI a0), some (vI a1)]) (S' := [vI (A12.1 64 8)]) rfl ?_
                cases h
                exact rz_B.ret rfl (hw12 64 8).1 hw12
              · have h := if_F h hc14
                refine rz_B.ifT (mt (eq32 ha1 (by decide)).mp hc14) ?_
                refine rz_B.go 3 (pc' := if decide (¬ Int32.ofInt a1 = Int32.ofInt 1) = true then 115 else 105) (L' := [some (.ref 0), some (vI a0), some (vI a1)]) (S' := []) rfl ?_
                by_cases hc15 : a1 = 1
                · have h := if_T h hc15
                  refine rz_B.ifF (fun hn => hn ((eq32 ha1 (by decide)).mpr hc15)) ?_
                  refine rz_B.go 4 (pc' := 122) (L' := [some (.ref 0), some (vI a0), some (vI a1)]) (S' := [vI (A12.1 64 9)]) rfl ?_
                  cases h
                  exact rz_B.ret rfl (hw12 64 9).1 hw12
                · have h := if_F h hc15
                  refine rz_B.ifT (mt (eq32 ha1 (by decide)).mp hc15) ?_
                  refine rz_B.go 3 (pc' := 122) (L' := [some (.ref 0), some (vI a0), some (vI a1)]) (S' := [vI (A12.1 64 10)]) rfl ?_
                  cases h
                  exact rz_B.ret rfl (hw12 64 10).1 hw12
    · have h := if_F h hc4
      refine rz_B.ifT ((lt32 ha1 (by decide)).mpr (Int.not_le.mp hc4)) ?_
      refine rz_B.go 2 (pc' := 29) (L' := [some (.ref 0), some (vI a0), some (vI a1)]) (S' := [vI (-2), .ref 0]) rfl ?_
      obtain ⟨r16, A16, hf16, h⟩ := rz_b_inv h
      obtain ⟨hg16, hr16, hw16⟩ := cx1_refuse F (d := d + 5) hf16 (by decide) hw1
      refine rz_B.call (d := d + 5) (as := [.ref 0, vI (-2)]) (rest := []) (w := some (vI r16)) rfl hg16 ?_
      cases h
      exact rz_B.ret rfl hr16 hw16
def x108_runGoesWith_47 (F : Nat) (k26 : (Int → Int → Int → Int → Int → rz_A → Option (Int × rz_A))) (v1 : Int) (v2 : Int) (v4 : Int) (v5 : Int) (v6 : Int) (A : rz_A) : Option (Int × rz_A) :=
  if v5 = v2 then
    rz_g32 (2 * v6) <|
    rz_g32 (v4.tdiv 64) <|
    rz_g32 ((2 * v6) + (v4.tdiv 64)) <|
    rz_gx ((2 * v6) + (v4.tdiv 64)) 16 <|
    rz_g32 (v4.tmod 64) <|
    if (rz_oL gAnd (rz_oS gShr (A.2 68 (((2 * v6) + (v4.tdiv 64))).toNat) (v4.tmod 64)) 1) = 0 then
      some (0, A)
    else
      rz_g32 (v6 + 1) <|
      k26 v1 v2 v4 v5 (v6 + 1) A
  else
    rz_g32 (v6 + 1) <|
    k26 v1 v2 v4 v5 (v6 + 1) A
theorem cx108_runGoesWith_47 {d : Nat} (F : Nat) {k26 : (Int → Int → Int → Int → Int → rz_A → Option (Int × rz_A))} (hkk26 : ∀ (v1 : Int) (v2 : Int) (v4 : Int) (v5 : Int) (v6 : Int) (A : rz_A) (r : Int) (A' : rz_A), k26 v1 v2 v4 v5 v6 A = some (r, A') → r32 v1 → r32 v2 → r32 v4 → r32 v5 → r32 v6 → wf A → rz_B (d + 1) 108 26 [some (.ref 64), some (vI v1), some (vI v2), none, some (vI v4), some (vI v5), some (vI v6)] [] A (some (vI r)) A' (r32 r)) : ∀ (v1 : Int) (v2 : Int) (v4 : Int) (v5 : Int) (v6 : Int) (A : rz_A) (r : Int) (A' : rz_A), x108_runGoesWith_47 F k26 v1 v2 v4 v5 v6 A = some (r, A') → r32 v1 → r32 v2 → r32 v4 → r32 v5 → r32 v6 → wf A → rz_B (d + 1) 108 47 [some (.ref 64), some (vI v1), some (vI v2), none, some (vI v4), some (vI v5), some (vI v6)] [] A (some (vI r)) A' (r32 r) := by
  intro v1 v2 v4 v5 v6 A r A' h hv1 hv2 hv4 hv5 hv6 hw
  unfold x108_runGoesWith_47 at h
  refine rz_B.go 3 (pc' := if decide (¬ Int32.ofInt v5 = Int32.ofInt v2) = true then 83 else 53) (L' := [some (.ref 64), some (vI v1), some (vI v2), none, some (vI v4), some (vI v5), some (vI v6)]) (S' := []) rfl ?_
  by_cases hc1 : v5 = v2
  · have h := if_T h hc1
    refine rz_B.ifF (fun hn => hn ((eq32 hv5 hv2).mpr hc1)) ?_
    refine rz_B.go 4 (pc' := 60) (L' := [some (.ref 64), some (vI v1), some (vI v2), none, some (vI v4), some (vI v5), some (vI v6)]) (S' := [vI v6, vI 2, .ref 68]) rfl ?_
    obtain ⟨hk2, h⟩ := rz_g32_inv h
    refine rz_B.imul rfl ?_
    refine rz_B.go 2 (pc' := 65) (L' := [some (.ref 64), some (vI v1), some (vI v2), none, some (vI v4), some (vI v5), some (vI v6)]) (S' := [vI 64, vI v4, vI (2 * v6), .ref 68]) rfl ?_
    obtain ⟨hk3, h⟩ := rz_g32_inv h
    refine rz_B.idiv rfl hv4 (by decide) (by decide) ?_
    obtain ⟨hk4, h⟩ := rz_g32_inv h
    refine rz_B.iadd rfl ?_
    obtain ⟨hi5, hj6, h⟩ := rz_gx_inv h
    refine rz_B.lald rfl rfl hi5 hj6 (by decide) ?_
    refine rz_B.go 2 (pc' := 72) (L' := [some (.ref 64), some (vI v1), some (vI v2), none, some (vI v4), some (vI v5), some (vI v6)]) (S' := [vI 64, vI v4, vL (A.2 68 (((2 * v6) + (v4.tdiv 64))).toNat)]) rfl ?_
    obtain ⟨hk7, h⟩ := rz_g32_inv h
    refine rz_B.irem rfl hv4 (by decide) (by decide) ?_
    refine rz_B.oS gShr rfl ?_
    refine rz_B.go 1 (pc' := 75) (L' := [some (.ref 64), some (vI v1), some (vI v2), none, some (vI v4), some (vI v5), some (vI v6)]) (S' := [vL 1, vL (rz_oS gShr (A.2 68 (((2 * v6) + (v4.tdiv 64))).toNat) (v4.tmod 64))]) rfl ?_
    refine rz_B.oL gAnd rfl ?_
    refine rz_B.go 3 (pc' := if decide (¬ lg_cmp (Int64.ofInt (rz_oL gAnd (rz_oS gShr (A.2 68 (((2 * v6) + (v4.tdiv 64))).toNat) (v4.tmod 64)) 1)) (Int64.ofInt 0) = 0) = true then 83 else 81) (L' := [some (.ref 64), some (vI v1), some (vI v2), none, some (vI v4), some (vI v5), some (vI v6)]) (S' := []) rfl ?_
    by_cases hc8 : (rz_oL gAnd (rz_oS gShr (A.2 68 (((2 * v6) + (v4.tdiv 64))).toNat) (v4.tmod 64)) 1) = 0
    · have h := if_T h hc8
      refine rz_B.ifF (fun hn => hn ((cmp_eq r64_oL (by decide)).mpr hc8)) ?_
      refine rz_B.go 1 (pc' := 82) (L' := [some (.ref 64), some (vI v1), some (vI v2), none, some (vI v4), some (vI v5), some (vI v6)]) (S' := [vI 0]) rfl ?_
      cases h
      exact rz_B.ret rfl (by decide) hw
    · have h := if_F h hc8
      refine rz_B.ifT (mt (cmp_eq r64_oL (by decide)).mp hc8) ?_
      obtain ⟨hk9, h⟩ := rz_g32_inv h
      refine rz_B.iinc rfl (by decide) rfl (L' := [some (.ref 64), some (vI v1), some (vI v2), none, some (vI v4), some (vI v5), some (vI (v6 + 1))]) rfl ?_
      refine rz_B.go 1 (pc' := 26) (L' := [some (.ref 64), some (vI v1), some (vI v2), none, some (vI v4), some (vI v5), some (vI (v6 + 1))]) (S' := []) rfl ?_
      refine rz_B.more (rg_le_ok (L := [some (.ref 64), some (vI v1), some (vI v2), none, some (vI v4), some (vI v5), some (vI (v6 + 1))]) (by simp [rg_le])) ?_
      exact hkk26 _ _ _ _ _ _ _ _ h hv1 hv2 hv4 hv5 hk9 hw
  · have h := if_F h hc1
    refine rz_B.ifT (mt (eq32 hv5 hv2).mp hc1) ?_
    obtain ⟨hk10, h⟩ := rz_g32_inv h
    refine rz_B.iinc rfl (by decide) rfl (L' := [some (.ref 64), some (vI v1), some (vI v2), none, some (vI v4), some (vI v5), some (vI (v6 + 1))]) rfl ?_
    refine rz_B.go 1 (pc' := 26) (L' := [some (.ref 64), some (vI v1), some (vI v2), none, some (vI v4), some (vI v5), some (vI (v6 + 1))]) (S' := []) rfl ?_
    refine rz_B.more (rg_le_ok (L := [some (.ref 64), some (vI v1), some (vI v2), none, some (vI v4), some (vI v5), some (vI (v6 + 1))]) (by simp [rg_le])) ?_
    exact hkk26 _ _ _ _ _ _ _ _ h hv1 hv2 hv4 hv5 hk10 hw
def x108_runGoesWith_26 (F : Nat) : Nat → Int → Int → Int → Int → Int → rz_A → Option (Int × rz_A)
  | 0, _, _, _, _, _, _ => none
  | n + 1, v1, v2, v4, v5, v6, A =>
    if v6 < (A.1 64 6) then
      rz_b (x105_isRunStart F v1 v6 A) fun r2 A2 =>
      if r2 = 0 then
        x108_runGoesWith_47 F (x108_runGoesWith_26 F n) v1 v2 v4 v5 v6 A2
      else
        rz_g32 (v5 + 1) <|
        x108_runGoesWith_47 F (x108_runGoesWith_26 F n) v1 v2 v4 (v5 + 1) v6 A2
    else
      some (1, A)
theorem cx108_runGoesWith_26 {d : Nat} (F : Nat) : ∀ (n : Nat) (v1 : Int) (v2 : Int) (v4 : Int) (v5 : Int) (v6 : Int) (A : rz_A) (r : Int) (A' : rz_A), x108_runGoesWith_26 F n v1 v2 v4 v5 v6 A = some (r, A') → r32 v1 → r32 v2 → r32 v4 → r32 v5 → r32 v6 → wf A → rz_B (d + 1) 108 26 [some (.ref 64), some (vI v1), some (vI v2), none, some (vI v4), some (vI v5), some (vI v6)] [] A (some (vI r)) A' (r32 r) := by
  intro n
  induction n with
  | zero => intro v1 v2 v4 v5 v6 A r A' h; cases h
  | succ n ih =>
    intro v1 v2 v4 v5 v6 A r A' h hv1 hv2 hv4 hv5 hv6 hw
    rw [x108_runGoesWith_26] at h
    refine rz_B.go 4 (pc' := if decide (Int32.ofInt (A.1 64 6) ≤ Int32.ofInt v6) = true then 89 else 35) (L' := [some (.ref 64), some (vI v1), some (vI v2), none, some (vI v4), some (vI v5), some (vI v6)]) (S' := []) rfl ?_
    by_cases hc1 : v6 < (A.1 64 6)
    · have h := if_T h hc1
      refine rz_B.ifF (mt (le32 (hw 64 6).1 hv6).mp (Int.not_le.mpr hc1)) ?_
      refine rz_B.go 2 (pc' := 38) (L' := [some (.ref 64), some (vI v1), some (vI v2), none, some (vI v4), some (vI v5), some (vI v6)]) (S' := [vI v6, vI v1]) rfl ?_
      obtain ⟨r2, A2, hf2, h⟩ := rz_b_inv h
      obtain ⟨hg2, hr2, hw2⟩ := cx105_isRunStart F (d := d + 0) hf2 hv1 hv6 hw
      refine rz_B.call (d := d + 0) (as := [vI v1, vI v6]) (rest := []) (w := some (vI r2)) rfl hg2 ?_
      refine rz_B.go 1 (pc' := if decide (Int32.ofInt r2 = Int32.ofInt 0) = true then 47 else 44) (L' := [some (.ref 64), some (vI v1), some (vI v2), none, some (vI v4), some (vI v5), some (vI v6)]) (S' := []) rfl ?_
      by_cases hc3 : r2 = 0
      · have h := if_T h hc3
        refine rz_B.ifT ((eq32 hr2 (by decide)).mpr hc3) ?_
        refine rz_B.more (rg_le_ok (L := [some (.ref 64), some (vI v1), some (vI v2), none, some (vI v4), some (vI v5), some (vI v6)]) (by simp [rg_le])) ?_
        exact cx108_runGoesWith_47 F ih _ _ _ _ _ _ _ _ h hv1 hv2 hv4 hv5 hv6 hw2
      · have h := if_F h hc3
        refine rz_B.ifF (mt (eq32 hr2 (by decide)).mp hc3) ?_
        obtain ⟨hk4, h⟩ := rz_g32_inv h
        refine rz_B.iinc rfl (by decide) rfl (L' := [some (.ref 64), some (vI v1), some (vI v2), none, some (vI v4), some (vI (v5 + 1)), some (vI v6)]) rfl ?_
        refine rz_B.more (rg_le_ok (L := [some (.ref 64), some (vI v1), some (vI v2), none, some (vI v4), some (vI (v5 + 1)), some (vI v6)]) (by simp [rg_le])) ?_
        exact cx108_runGoesWith_47 F ih _ _ _ _ _ _ _ _ h hv1 hv2 hv4 hk4 hv6 hw2
    · have h := if_F h hc1
      refine rz_B.ifT ((le32 (hw 64 6).1 hv6).mpr (Int.not_lt.mp hc1)) ?_
      refine rz_B.go 1 (pc' := 90) (L' := [some (.ref 64), some (vI v1), some (vI v2), none, some (vI v4), some (vI v5), some (vI v6)]) (S' := [vI 1]) rfl ?_
      cases h
      exact rz_B.ret rfl (by decide) hw
/-- RiverGauge$Breaks.runGoesWith(III)Z -/
def x108_runGoesWith (F : Nat) (a0 : Int) (a1 : Int) (a2 : Int) (A : rz_A) : Option (Int × rz_A) :=
  if (-50) ≤ a2 then
    if 50 < a2 then
      some (0, A)
    else
      rz_g32 (a2 + 50) <|
      x108_runGoesWith_26 F F a0 a1 (a2 + 50) (-1) 0 A
  else
    some (0, A)
theorem cx108_runGoesWith (F : Nat) {d : Nat} {a0 : Int} {a1 : Int} {a2 : Int} {A : rz_A} {r : Int} {A' : rz_A} (h : x108_runGoesWith F a0 a1 a2 A = some (r, A')) (ha0 : r32 a0) (ha1 : r32 a1) (ha2 : r32 a2) (hw : wf A) : rg_Rn (d + 1) 108 [.ref 64, vI a0, vI a1, vI a2] (toM A) (some (vI r)) (toM A') ∧ (r32 r) ∧ wf A' := by
  show rz_B (d + 1) 108 0 [some (.ref 64), some (vI a0), some (vI a1), some (vI a2), none, none, none] [] A (some (vI r)) A' (r32 r)
  unfold x108_runGoesWith at h
  refine rz_B.go 3 (pc' := if decide (Int32.ofInt a2 < Int32.ofInt (-50)) = true then 12 else 6) (L' := [some (.ref 64), some (vI a0), some (vI a1), some (vI a2), none, none, none]) (S' := []) rfl ?_
  by_cases hc1 : (-50) ≤ a2
  · have h := if_T h hc1
    refine rz_B.ifF (mt (lt32 ha2 (by decide)).mp (Int.not_lt.mpr hc1)) ?_
    refine rz_B.go 3 (pc' := if decide (Int32.ofInt a2 ≤ Int32.ofInt 50) = true then 14 else 12) (L' := [some (.ref 64), some (vI a0), some (vI a1), some (vI a2), none, none, none]) (S' := []) rfl ?_
    by_cases hc2 : 50 < a2
    · have h := if_T h hc2
      refine rz_B.ifF (mt (le32 ha2 (by decide)).mp (Int.not_le.mpr hc2)) ?_
      refine rz_B.go 1 (pc' := 13) (L' := [some (.ref 64), some (vI a0), some (vI a1), some (vI a2), none, none, none]) (S' := [vI 0]) rfl ?_
      cases h
      exact rz_B.ret rfl (by decide) hw
    · have h := if_F h hc2
      refine rz_B.ifT ((le32 ha2 (by decide)).mpr (Int.not_lt.mp hc2)) ?_
      refine rz_B.go 2 (pc' := 17) (L' := [some (.ref 64), some (vI a0), some (vI a1), some (vI a2), none, none, none]) (S' := [vI 50, vI a2]) rfl ?_
      obtain ⟨hk3, h⟩ := rz_g32_inv h
      refine rz_B.iadd rfl ?_
      refine rz_B.go 5 (pc' := 26) (L' := [some (.ref 64), some (vI a0), some (vI a1), some (vI a2), some (vI (a2 + 50)), some (vI (-1)), some (vI 0)]) (S' := []) rfl ?_
      refine rz_B.more (rg_le_ok (L := [some (.ref 64), some (vI a0), some (vI a1), none, some (vI (a2 + 50)), some (vI (-1)), some (vI 0)]) (by simp [rg_le])) ?_
      exact cx108_runGoesWith_26 F F _ _ _ _ _ _ _ _ h ha0 ha1 hk3 (by decide) (by decide) hw
  · have h := if_F h hc1
    refine rz_B.ifT ((lt32 ha2 (by decide)).mpr (Int.not_le.mp hc1)) ?_
    refine rz_B.go 1 (pc' := 13) (L' := [some (.ref 64), some (vI a0), some (vI a1), some (vI a2), none, none, none]) (S' := [vI 0]) rfl ?_
    cases h
    exact rz_B.ret rfl (by decide) hw
def x107_leastShift_2 (F : Nat) : Nat → Int → Int → rz_A → Option (Int × rz_A)
  | 0, _, _, _ => none
  | n + 1, v1, v2, A =>
    if v2 ≤ 50 then
      rz_g32 (-v2) <|
      rz_b (x108_runGoesWith F (A.1 64 10) v1 (-v2) A) fun r3 A3 =>
      if r3 = 0 then
        rz_b (x108_runGoesWith F (A3.1 64 10) v1 v2 A3) fun r5 A5 =>
        if r5 = 0 then
          rz_g32 (v2 + 1) <|
          x107_leastShift_2 F n v1 (v2 + 1) A5
        else
          some (v2, A5)
      else
        some ((-v2), A3)
    else
      some (0, A)
theorem cx107_leastShift_2 {d : Nat} (F : Nat) : ∀ (n : Nat) (v1 : Int) (v2 : Int) (A : rz_A) (r : Int) (A' : rz_A), x107_leastShift_2 F n v1 v2 A = some (r, A') → r32 v1 → r32 v2 → wf A → rz_B (d + 2) 107 2 [some (.ref 64), some (vI v1), some (vI v2)] [] A (some (vI r)) A' (r32 r) := by
  intro n
  induction n with
  | zero => intro v1 v2 A r A' h; cases h
  | succ n ih =>
    intro v1 v2 A r A' h hv1 hv2 hw
    rw [x107_leastShift_2] at h
    refine rz_B.go 3 (pc' := if decide (Int32.ofInt 50 < Int32.ofInt v2) = true then 46 else 8) (L' := [some (.ref 64), some (vI v1), some (vI v2)]) (S' := []) rfl ?_
    by_cases hc1 : v2 ≤ 50
    · have h := if_T h hc1
      refine rz_B.ifF (mt (lt32 (by decide) hv2).mp (Int.not_lt.mpr hc1)) ?_
      refine rz_B.go 5 (pc' := 15) (L' := [some (.ref 64), some (vI v1), some (vI v2)]) (S' := [vI v2, vI v1, vI (A.1 64 10), .ref 64]) rfl ?_
      obtain ⟨hk2, h⟩ := rz_g32_inv h
      refine rz_B.ineg rfl ?_
      obtain ⟨r3, A3, hf3, h⟩ := rz_b_inv h
      obtain ⟨hg3, hr3, hw3⟩ := cx108_runGoesWith F (d := d + 0) hf3 (hw 64 10).1 hv1 hk2 hw
      refine rz_B.call (d := d + 1) (as := [.ref 64, vI (A.1 64 10), vI v1, vI (-v2)]) (rest := []) (w := some (vI r3)) rfl hg3 ?_
      refine rz_B.go 1 (pc' := if decide (Int32.ofInt r3 = Int32.ofInt 0) = true then 25 else 22) (L' := [some (.ref 64), some (vI v1), some (vI v2)]) (S' := []) rfl ?_
      by_cases hc4 : r3 = 0
      · have h := if_T h hc4
        refine rz_B.ifT ((eq32 hr3 (by decide)).mpr hc4) ?_
        refine rz_B.go 5 (pc' := 32) (L' := [some (.ref 64), some (vI v1), some (vI v2)]) (S' := [vI v2, vI v1, vI (A3.1 64 10), .ref 64]) rfl ?_
        obtain ⟨r5, A5, hf5, h⟩ := rz_b_inv h
        obtain ⟨hg5, hr5, hw5⟩ := cx108_runGoesWith F (d := d + 0) hf5 (hw3 64 10).1 hv1 hv2 hw3
        refine rz_B.call (d := d + 1) (as := [.ref 64, vI (A3.1 64 10), vI v1, vI v2]) (rest := []) (w := some (vI r5)) rfl hg5 ?_
        refine rz_B.go 1 (pc' := if decide (Int32.ofInt r5 = Int32.ofInt 0) = true then 40 else 38) (L' := [some (.ref 64), some (vI v1), some (vI v2)]) (S' := []) rfl ?_
        by_cases hc6 : r5 = 0
        · have h := if_T h hc6
          refine rz_B.ifT ((eq32 hr5 (by decide)).mpr hc6) ?_
          obtain ⟨hk7, h⟩ := rz_g32_inv h
          refine rz_B.iinc rfl (by decide) rfl (L' := [some (.ref 64), some (vI v1), some (vI (v2 + 1))]) rfl ?_
          refine rz_B.go 1 (pc' := 2) (L' := [some (.ref 64), some (vI v1), some (vI (v2 + 1))]) (S' := []) rfl ?_
          refine rz_B.more (rg_le_ok (L := [some (.ref 64), some (vI v1), some (vI (v2 + 1))]) (by simp [rg_le])) ?_
          exact ih _ _ _ _ _ h hv1 hk7 hw5
        · have h := if_F h hc6
          refine rz_B.ifF (mt (eq32 hr5 (by decide)).mp hc6) ?_
          refine rz_B.go 1 (pc' := 39) (L' := [some (.ref 64), some (vI v1), some (vI v2)]) (S' := [vI v2]) rfl ?_
          cases h
          exact rz_B.ret rfl hv2 hw5
      · have h := if_F h hc4
        refine rz_B.ifF (mt (eq32 hr3 (by decide)).mp hc4) ?_
        refine rz_B.go 1 (pc' := 23) (L' := [some (.ref 64), some (vI v1), some (vI v2)]) (S' := [vI v2]) rfl ?_
        refine rz_B.ineg rfl ?_
        cases h
        exact rz_B.ret rfl hk2 hw3
    · have h := if_F h hc1
      refine rz_B.ifT ((lt32 (by decide) hv2).mpr (Int.not_le.mp hc1)) ?_
      refine rz_B.go 1 (pc' := 47) (L' := [some (.ref 64), some (vI v1), some (vI v2)]) (S' := [vI 0]) rfl ?_
      cases h
      exact rz_B.ret rfl (by decide) hw
/-- RiverGauge$Breaks.leastShift(I)I -/
def x107_leastShift (F : Nat) (a0 : Int) (A : rz_A) : Option (Int × rz_A) :=
  x107_leastShift_2 F F a0 0 A
theorem cx107_leastShift (F : Nat) {d : Nat} {a0 : Int} {A : rz_A} {r : Int} {A' : rz_A} (h : x107_leastShift F a0 A = some (r, A')) (ha0 : r32 a0) (hw : wf A) : rg_Rn (d + 2) 107 [.ref 64, vI a0] (toM A) (some (vI r)) (toM A') ∧ (r32 r) ∧ wf A' := by
  show rz_B (d + 2) 107 0 [some (.ref 64), some (vI a0), none] [] A (some (vI r)) A' (r32 r)
  unfold x107_leastShift at h
  refine rz_B.go 2 (pc' := 2) (L' := [some (.ref 64), some (vI a0), some (vI 0)]) (S' := []) rfl ?_
  refine rz_B.more (rg_le_ok (L := [some (.ref 64), some (vI a0), some (vI 0)]) (by simp [rg_le])) ?_
  exact cx107_leastShift_2 F F _ _ _ _ _ h ha0 (by decide) hw
/-- RiverGauge.shift(II)I -/
def x106_shift (F : Nat) (a0 : Int) (a1 : Int) (A : rz_A) : Option (Int × rz_A) :=
  rz_b (x5_has F a0 A) fun r1 A1 =>
  if r1 = 0 then
    rz_b (x10_refuseAsTold F (-1) A1) fun r3 A3 =>
    some (r3, A3)
  else
    rz_b (x20_see F (A1.1 0 16) A1) fun _ A4 =>
    rz_b (x98_gather F a0 A4) fun r5 A5 =>
    if r5 = 0 then
      rz_b (x10_refuseAsTold F (-5) A5) fun r7 A7 =>
      some (r7, A7)
    else
      rz_b (x102_search F A5) fun r8 A8 =>
      if r8 = 0 then
        rz_b (x10_refuseAsTold F (-3) A8) fun r10 A10 =>
        some (r10, A10)
      else
        if 0 ≤ a1 then
          if (A8.1 64 8) < a1 then
            rz_b (x10_refuseAsTold F (-1) A8) fun r13 A13 =>
            some (r13, A13)
          else
            rz_b (x107_leastShift F a1 A8) fun r14 A14 =>
            some (r14, A14)
        else
          rz_b (x10_refuseAsTold F (-1) A8) fun r15 A15 =>
          some (r15, A15)
theorem cx106_shift (F : Nat) {d : Nat} {a0 : Int} {a1 : Int} {A : rz_A} {r : Int} {A' : rz_A} (h : x106_shift F a0 a1 A = some (r, A')) (ha0 : r32 a0) (ha1 : r32 a1) (hw : wf A) : rg_Rn (d + 6) 106 [.ref 0, vI a0, vI a1] (toM A) (some (vI r)) (toM A') ∧ (r32 r) ∧ wf A' := by
  show rz_B (d + 6) 106 0 [some (.ref 0), some (vI a0), some (vI a1)] [] A (some (vI r)) A' (r32 r)
  unfold x106_shift at h
  refine rz_B.go 3 (pc' := 5) (L' := [some (.ref 0), some (vI a0), some (vI a1)]) (S' := [vI a0, .ref 2]) rfl ?_
  obtain ⟨r1, A1, hf1, h⟩ := rz_b_inv h
  obtain ⟨hg1, hr1, hw1⟩ := cx5_has F (d := d + 5) hf1 ha0 hw
  refine rz_B.call (d := d + 5) (as := [.ref 2, vI a0]) (rest := []) (w := some (vI r1)) rfl hg1 ?_
  refine rz_B.go 1 (pc' := if decide (¬ Int32.ofInt r1 = Int32.ofInt 0) = true then 17 else 11) (L' := [some (.ref 0), some (vI a0), some (vI a1)]) (S' := []) rfl ?_
  by_cases hc2 : r1 = 0
  · have h := if_T h hc2
    refine rz_B.ifF (fun hn => hn ((eq32 hr1 (by decide)).mpr hc2)) ?_
    refine rz_B.go 2 (pc' := 13) (L' := [some (.ref 0), some (vI a0), some (vI a1)]) (S' := [vI (-1), .ref 0]) rfl ?_
    obtain ⟨r3, A3, hf3, h⟩ := rz_b_inv h
    obtain ⟨hg3, hr3, hw3⟩ := cx10_refuseAsTold F (d := d + 4) hf3 (by decide) hw1
    refine rz_B.call (d := d + 5) (as := [.ref 0, vI (-1)]) (rest := []) (w := some (vI r3)) rfl hg3 ?_
    cases h
    exact rz_B.ret rfl hr3 hw3
  · have h := if_F h hc2
    refine rz_B.ifT (mt (eq32 hr1 (by decide)).mp hc2) ?_
    refine rz_B.go 4 (pc' := 25) (L' := [some (.ref 0), some (vI a0), some (vI a1)]) (S' := [vI (A1.1 0 16), .ref 51]) rfl ?_
    obtain ⟨_, A4, hf4, h⟩ := rz_b_inv h
    obtain ⟨hg4, hr4, hw4⟩ := cx20_see F (d := d + 0) hf4 (hw1 0 16).1 hw1
    refine rz_B.call (d := d + 5) (as := [.ref 51, vI (A1.1 0 16)]) (rest := []) (w := none) rfl hg4 ?_
    refine rz_B.go 3 (pc' := 33) (L' := [some (.ref 0), some (vI a0), some (vI a1)]) (S' := [vI a0, .ref 64]) rfl ?_
    obtain ⟨r5, A5, hf5, h⟩ := rz_b_inv h
    obtain ⟨hg5, hr5, hw5⟩ := cx98_gather F (d := d + 1) hf5 ha0 hw4
    refine rz_B.call (d := d + 5) (as := [.ref 64, vI a0]) (rest := []) (w := some (vI r5)) rfl hg5 ?_
    refine rz_B.go 1 (pc' := if decide (¬ Int32.ofInt r5 = Int32.ofInt 0) = true then 46 else 39) (L' := [some (.ref 0), some (vI a0), some (vI a1)]) (S' := []) rfl ?_
    by_cases hc6 : r5 = 0
    · have h := if_T h hc6
      refine rz_B.ifF (fun hn => hn ((eq32 hr5 (by decide)).mpr hc6)) ?_
      refine rz_B.go 2 (pc' := 42) (L' := [some (.ref 0), some (vI a0), some (vI a1)]) (S' := [vI (-5), .ref 0]) rfl ?_
      obtain ⟨r7, A7, hf7, h⟩ := rz_b_inv h
      obtain ⟨hg7, hr7, hw7⟩ := cx10_refuseAsTold F (d := d + 4) hf7 (by decide) hw5
      refine rz_B.call (d := d + 5) (as := [.ref 0, vI (-5)]) (rest := []) (w := some (vI r7)) rfl hg7 ?_
      cases h
      exact rz_B.ret rfl hr7 hw7
    · have h := if_F h hc6
      refine rz_B.ifT (mt (eq32 hr5 (by decide)).mp hc6) ?_
      refine rz_B.go 2 (pc' := 50) (L' := [some (.ref 0), some (vI a0), some (vI a1)]) (S' := [.ref 64]) rfl ?_
      obtain ⟨r8, A8, hf8, h⟩ := rz_b_inv h
      obtain ⟨hg8, hr8, hw8⟩ := cx102_search F (d := d + 3) hf8 hw5
      refine rz_B.call (d := d + 5) (as := [.ref 64]) (rest := []) (w := some (vI r8)) rfl hg8 ?_
      refine rz_B.go 1 (pc' := if decide (¬ Int32.ofInt r8 = Int32.ofInt 0) = true then 63 else 56) (L' := [some (.ref 0), some (vI a0), some (vI a1)]) (S' := []) rfl ?_
      by_cases hc9 : r8 = 0
      · have h := if_T h hc9
        refine rz_B.ifF (fun hn => hn ((eq32 hr8 (by decide)).mpr hc9)) ?_
        refine rz_B.go 2 (pc' := 59) (L' := [some (.ref 0), some (vI a0), some (vI a1)]) (S' := [vI (-3), .ref 0]) rfl ?_
        obtain ⟨r10, A10, hf10, h⟩ := rz_b_inv h
        obtain ⟨hg10, hr10, hw10⟩ := cx10_refuseAsTold F (d := d + 4) hf10 (by decide) hw8
        refine rz_B.call (d := d + 5) (as := [.ref 0, vI (-3)]) (rest := []) (w := some (vI r10)) rfl hg10 ?_
        cases h
        exact rz_B.ret rfl hr10 hw10
      · have h := if_F h hc9
        refine rz_B.ifT (mt (eq32 hr8 (by decide)).mp hc9) ?_
        refine rz_B.go 2 (pc' := if decide (Int32.ofInt a1 < Int32.ofInt 0) = true then 78 else 67) (L' := [some (.ref 0), some (vI a0), some (vI a1)]) (S' := []) rfl ?_
        by_cases hc11 : 0 ≤ a1
        · have h := if_T h hc11
          refine rz_B.ifF (mt (lt32 ha1 (by decide)).mp (Int.not_lt.mpr hc11)) ?_
          refine rz_B.go 5 (pc' := if decide (Int32.ofInt a1 ≤ Int32.ofInt (A8.1 64 8)) = true then 84 else 78) (L' := [some (.ref 0), some (vI a0), some (vI a1)]) (S' := []) rfl ?_
          by_cases hc12 : (A8.1 64 8) < a1
          · have h := if_T h hc12
            refine rz_B.ifF (mt (le32 ha1 (hw8 64 8).1).mp (Int.not_le.mpr hc12)) ?_
            refine rz_B.go 2 (pc' := 80) (L' := [some (.ref 0), some (vI a0), some (vI a1)]) (S' := [vI (-1), .ref 0]) rfl ?_
            obtain ⟨r13, A13, hf13, h⟩ := rz_b_inv h
            obtain ⟨hg13, hr13, hw13⟩ := cx10_refuseAsTold F (d := d + 4) hf13 (by decide) hw8
            refine rz_B.call (d := d + 5) (as := [.ref 0, vI (-1)]) (rest := []) (w := some (vI r13)) rfl hg13 ?_
            cases h
            exact rz_B.ret rfl hr13 hw13
          · have h := if_F h hc12
            refine rz_B.ifT ((le32 ha1 (hw8 64 8).1).mpr (Int.not_lt.mp hc12)) ?_
            refine rz_B.go 3 (pc' := 89) (L' := [some (.ref 0), some (vI a0), some (vI a1)]) (S' := [vI a1, .ref 64]) rfl ?_
            obtain ⟨r14, A14, hf14, h⟩ := rz_b_inv h
            obtain ⟨hg14, hr14, hw14⟩ := cx107_leastShift F (d := d + 3) hf14 ha1 hw8
            refine rz_B.call (d := d + 5) (as := [.ref 64, vI a1]) (rest := []) (w := some (vI r14)) rfl hg14 ?_
            cases h
            exact rz_B.ret rfl hr14 hw14
        · have h := if_F h hc11
          refine rz_B.ifT ((lt32 ha1 (by decide)).mpr (Int.not_le.mp hc11)) ?_
          refine rz_B.go 2 (pc' := 80) (L' := [some (.ref 0), some (vI a0), some (vI a1)]) (S' := [vI (-1), .ref 0]) rfl ?_
          obtain ⟨r15, A15, hf15, h⟩ := rz_b_inv h
          obtain ⟨hg15, hr15, hw15⟩ := cx10_refuseAsTold F (d := d + 4) hf15 (by decide) hw8
          refine rz_B.call (d := d + 5) (as := [.ref 0, vI (-1)]) (rest := []) (w := some (vI r15)) rfl hg15 ?_
          cases h
          exact rz_B.ret rfl hr15 hw15
/-- RiverGauge.put(I)I -/
def x109_put (F : Nat) (a0 : Int) (A : rz_A) : Option (Int × rz_A) :=
  if a0 < (-128) then
    rz_b (x1_refuse F (-4) A) fun r2 A2 =>
    some (r2, A2)
  else
    if a0 ≤ 127 then
      if 12 ≤ (A.1 64 4) then
        rz_b (x1_refuse F (-6) A) fun r5 A5 =>
        some (r5, A5)
      else
        rz_gx (A.1 64 4) 12 <|
        rz_g32 ((A.1 64 4) + 1) <|
        some (((A.1 64 4) + 1), (aI (aI A 66 ((A.1 64 4)).toNat a0) 64 4 ((A.1 64 4) + 1)))
    else
      rz_b (x1_refuse F (-6) A) fun r11 A11 =>
      some (r11, A11)
theorem cx109_put (F : Nat) {d : Nat} {a0 : Int} {A : rz_A} {r : Int} {A' : rz_A} (h : x109_put F a0 A = some (r, A')) (ha0 : r32 a0) (hw : wf A) : rg_Rn (d + 1) 109 [.ref 0, vI a0] (toM A) (some (vI r)) (toM A') ∧ (r32 r) ∧ wf A' := by
  show rz_B (d + 1) 109 0 [some (.ref 0), some (vI a0)] [] A (some (vI r)) A' (r32 r)
  unfold x109_put at h
  refine rz_B.go 3 (pc' := if decide (Int32.ofInt (-128) ≤ Int32.ofInt a0) = true then 13 else 6) (L' := [some (.ref 0), some (vI a0)]) (S' := []) rfl ?_
  by_cases hc1 : a0 < (-128)
  · have h := if_T h hc1
    refine rz_B.ifF (mt (le32 (by decide) ha0).mp (Int.not_le.mpr hc1)) ?_
    refine rz_B.go 2 (pc' := 9) (L' := [some (.ref 0), some (vI a0)]) (S' := [vI (-4), .ref 0]) rfl ?_
    obtain ⟨r2, A2, hf2, h⟩ := rz_b_inv h
    obtain ⟨hg2, hr2, hw2⟩ := cx1_refuse F (d := d + 0) hf2 (by decide) hw
    refine rz_B.call (d := d + 0) (as := [.ref 0, vI (-4)]) (rest := []) (w := some (vI r2)) rfl hg2 ?_
    cases h
    exact rz_B.ret rfl hr2 hw2
  · have h := if_F h hc1
    refine rz_B.ifT ((le32 (by decide) ha0).mpr (Int.not_lt.mp hc1)) ?_
    refine rz_B.go 3 (pc' := if decide (Int32.ofInt 127 < Int32.ofInt a0) = true then 31 else 19) (L' := [some (.ref 0), some (vI a0)]) (S' := []) rfl ?_
    by_cases hc3 : a0 ≤ 127
    · have h := if_T h hc3
      refine rz_B.ifF (mt (lt32 (by decide) ha0).mp (Int.not_lt.mpr hc3)) ?_
      refine rz_B.go 5 (pc' := if decide (Int32.ofInt (A.1 64 4) < Int32.ofInt 12) = true then 38 else 31) (L' := [some (.ref 0), some (vI a0)]) (S' := []) rfl ?_
      by_cases hc4 : 12 ≤ (A.1 64 4)
      · have h := if_T h hc4
        refine rz_B.ifF (mt (lt32 (hw 64 4).1 (by decide)).mp (Int.not_lt.mpr hc4)) ?_
        refine rz_B.go 2 (pc' := 34) (L' := [some (.ref 0), some (vI a0)]) (S' := [vI (-6), .ref 0]) rfl ?_
        obtain ⟨r5, A5, hf5, h⟩ := rz_b_inv h
        obtain ⟨hg5, hr5, hw5⟩ := cx1_refuse F (d := d + 0) hf5 (by decide) hw
        refine rz_B.call (d := d + 0) (as := [.ref 0, vI (-6)]) (rest := []) (w := some (vI r5)) rfl hg5 ?_
        cases h
        exact rz_B.ret rfl hr5 hw5
      · have h := if_F h hc4
        refine rz_B.ifT ((lt32 (hw 64 4).1 (by decide)).mpr (Int.not_le.mp hc4)) ?_
        refine rz_B.go 7 (pc' := 53) (L' := [some (.ref 0), some (vI a0)]) (S' := [vI a0, vI (A.1 64 4), .ref 66]) rfl ?_
        obtain ⟨hi6, hj7, h⟩ := rz_gx_inv h
        refine rz_B.iast rfl rfl hi6 hj7 (by decide) ?_
        have hw8 : wf (aI A 66 ((A.1 64 4)).toNat a0) := wf_aI hw ha0
        refine rz_B.go 5 (pc' := 63) (L' := [some (.ref 0), some (vI a0)]) (S' := [vI 1, vI (A.1 64 4), .ref 64]) rfl ?_
        obtain ⟨hk9, h⟩ := rz_g32_inv h
        refine rz_B.iadd rfl ?_
        refine rz_B.put 1 (pc' := 67) (L' := [some (.ref 0), some (vI a0)]) (S' := []) (c := 64) (k := 4) (x := ((A.1 64 4) + 1)) rfl ?_
        have hw10 : wf (aI (aI A 66 ((A.1 64 4)).toNat a0) 64 4 ((A.1 64 4) + 1)) := wf_aI hw8 hk9
        refine rz_B.go 3 (pc' := 74) (L' := [some (.ref 0), some (vI a0)]) (S' := [vI ((A.1 64 4) + 1)]) rfl ?_
        cases h
        exact rz_B.ret rfl hk9 hw10
    · have h := if_F h hc3
      refine rz_B.ifT ((lt32 (by decide) ha0).mpr (Int.not_le.mp hc3)) ?_
      refine rz_B.go 2 (pc' := 34) (L' := [some (.ref 0), some (vI a0)]) (S' := [vI (-6), .ref 0]) rfl ?_
      obtain ⟨r11, A11, hf11, h⟩ := rz_b_inv h
      obtain ⟨hg11, hr11, hw11⟩ := cx1_refuse F (d := d + 0) hf11 (by decide) hw
      refine rz_B.call (d := d + 0) (as := [.ref 0, vI (-6)]) (rest := []) (w := some (vI r11)) rfl hg11 ?_
      cases h
      exact rz_B.ret rfl hr11 hw11
def x111_firstWrong_85 (F : Nat) (v2 : Int) (A : rz_A) : Option (Int × rz_A) :=
  rz_g32 (v2 + 1) <|
  if (v2 + 1) < (A.1 64 4) then
    some ((v2 + 1), A)
  else
    some ((-9), A)
theorem cx111_firstWrong_85 {d : Nat} (F : Nat) : ∀ (v2 : Int) (A : rz_A) (r : Int) (A' : rz_A), x111_firstWrong_85 F v2 A = some (r, A') → r32 v2 → wf A → rz_B (d + 2) 111 85 [some (.ref 64), none, some (vI v2), none] [] A (some (vI r)) A' (r32 r) := by
  intro v2 A r A' h hv2 hw
  unfold x111_firstWrong_85 at h
  refine rz_B.go 4 (pc' := 91) (L' := [some (.ref 64), none, some (vI v2), none]) (S' := [vI 1, vI v2, vI (A.1 64 4)]) rfl ?_
  obtain ⟨hk1, h⟩ := rz_g32_inv h
  refine rz_B.iadd rfl ?_
  refine rz_B.go 1 (pc' := if decide (Int32.ofInt (A.1 64 4) ≤ Int32.ofInt (v2 + 1)) = true then 101 else 95) (L' := [some (.ref 64), none, some (vI v2), none]) (S' := []) rfl ?_
  by_cases hc2 : (v2 + 1) < (A.1 64 4)
  · have h := if_T h hc2
    refine rz_B.ifF (mt (le32 (hw 64 4).1 hk1).mp (Int.not_le.mpr hc2)) ?_
    refine rz_B.go 2 (pc' := 97) (L' := [some (.ref 64), none, some (vI v2), none]) (S' := [vI 1, vI v2]) rfl ?_
    refine rz_B.iadd rfl ?_
    refine rz_B.go 1 (pc' := 103) (L' := [some (.ref 64), none, some (vI v2), none]) (S' := [vI (v2 + 1)]) rfl ?_
    cases h
    exact rz_B.ret rfl hk1 hw
  · have h := if_F h hc2
    refine rz_B.ifT ((le32 (hw 64 4).1 hk1).mpr (Int.not_lt.mp hc2)) ?_
    refine rz_B.go 1 (pc' := 103) (L' := [some (.ref 64), none, some (vI v2), none]) (S' := [vI (-9)]) rfl ?_
    cases h
    exact rz_B.ret rfl (by decide) hw
def x111_firstWrong_43 (F : Nat) : Nat → Int → Int → Int → rz_A → Option (Int × rz_A)
  | 0, _, _, _, _ => none
  | n + 1, v1, v2, v3, A =>
    if v3 < v2 then
      rz_g32 (v3 + 1) <|
      if (v3 + 1) < (A.1 64 4) then
        rz_gx (v3 + 1) 12 <|
        rz_b (x108_runGoesWith F v1 v3 (A.1 66 ((v3 + 1)).toNat) A) fun r6 A6 =>
        if r6 = 0 then
          some ((v3 + 1), A6)
        else
          x111_firstWrong_43 F n v1 v2 (v3 + 1) A6
      else
        some ((v3 + 1), A)
    else
      x111_firstWrong_85 F v2 A
theorem cx111_firstWrong_43 {d : Nat} (F : Nat) : ∀ (n : Nat) (v1 : Int) (v2 : Int) (v3 : Int) (A : rz_A) (r : Int) (A' : rz_A), x111_firstWrong_43 F n v1 v2 v3 A = some (r, A') → r32 v1 → r32 v2 → r32 v3 → wf A → rz_B (d + 2) 111 43 [some (.ref 64), some (vI v1), some (vI v2), some (vI v3)] [] A (some (vI r)) A' (r32 r) := by
  intro n
  induction n with
  | zero => intro v1 v2 v3 A r A' h; cases h
  | succ n ih =>
    intro v1 v2 v3 A r A' h hv1 hv2 hv3 hw
    rw [x111_firstWrong_43] at h
    refine rz_B.go 3 (pc' := if decide (Int32.ofInt v2 ≤ Int32.ofInt v3) = true then 85 else 48) (L' := [some (.ref 64), some (vI v1), some (vI v2), some (vI v3)]) (S' := []) rfl ?_
    by_cases hc1 : v3 < v2
    · have h := if_T h hc1
      refine rz_B.ifF (mt (le32 hv2 hv3).mp (Int.not_le.mpr hc1)) ?_
      refine rz_B.go 2 (pc' := 50) (L' := [some (.ref 64), some (vI v1), some (vI v2), some (vI v3)]) (S' := [vI 1, vI v3]) rfl ?_
      obtain ⟨hk2, h⟩ := rz_g32_inv h
      refine rz_B.iadd rfl ?_
      refine rz_B.go 3 (pc' := if decide (Int32.ofInt (A.1 64 4) ≤ Int32.ofInt (v3 + 1)) = true then 75 else 58) (L' := [some (.ref 64), some (vI v1), some (vI v2), some (vI v3)]) (S' := []) rfl ?_
      by_cases hc3 : (v3 + 1) < (A.1 64 4)
      · have h := if_T h hc3
        refine rz_B.ifF (mt (le32 (hw 64 4).1 hk2).mp (Int.not_le.mpr hc3)) ?_
        refine rz_B.go 7 (pc' := 67) (L' := [some (.ref 64), some (vI v1), some (vI v2), some (vI v3)]) (S' := [vI 1, vI v3, .ref 66, vI v3, vI v1, .ref 64]) rfl ?_
        refine rz_B.iadd rfl ?_
        obtain ⟨hi4, hj5, h⟩ := rz_gx_inv h
        refine rz_B.iald rfl rfl hi4 hj5 (by decide) ?_
        obtain ⟨r6, A6, hf6, h⟩ := rz_b_inv h
        obtain ⟨hg6, hr6, hw6⟩ := cx108_runGoesWith F (d := d + 0) hf6 hv1 hv3 (hw 66 ((v3 + 1)).toNat).1 hw
        refine rz_B.call (d := d + 1) (as := [.ref 64, vI v1, vI v3, vI (A.1 66 ((v3 + 1)).toNat)]) (rest := []) (w := some (vI r6)) rfl hg6 ?_
        refine rz_B.go 1 (pc' := if decide (¬ Int32.ofInt r6 = Int32.ofInt 0) = true then 79 else 75) (L' := [some (.ref 64), some (vI v1), some (vI v2), some (vI v3)]) (S' := []) rfl ?_
        by_cases hc7 : r6 = 0
        · have h := if_T h hc7
          refine rz_B.ifF (fun hn => hn ((eq32 hr6 (by decide)).mpr hc7)) ?_
          refine rz_B.go 2 (pc' := 77) (L' := [some (.ref 64), some (vI v1), some (vI v2), some (vI v3)]) (S' := [vI 1, vI v3]) rfl ?_
          refine rz_B.iadd rfl ?_
          cases h
          exact rz_B.ret rfl hk2 hw6
        · have h := if_F h hc7
          refine rz_B.ifT (mt (eq32 hr6 (by decide)).mp hc7) ?_
          refine rz_B.iinc rfl (by decide) rfl (L' := [some (.ref 64), some (vI v1), some (vI v2), some (vI (v3 + 1))]) rfl ?_
          refine rz_B.go 1 (pc' := 43) (L' := [some (.ref 64), some (vI v1), some (vI v2), some (vI (v3 + 1))]) (S' := []) rfl ?_
          refine rz_B.more (rg_le_ok (L := [some (.ref 64), some (vI v1), some (vI v2), some (vI (v3 + 1))]) (by simp [rg_le])) ?_
          exact ih _ _ _ _ _ _ h hv1 hv2 hk2 hw6
      · have h := if_F h hc3
        refine rz_B.ifT ((le32 (hw 64 4).1 hk2).mpr (Int.not_lt.mp hc3)) ?_
        refine rz_B.go 2 (pc' := 77) (L' := [some (.ref 64), some (vI v1), some (vI v2), some (vI v3)]) (S' := [vI 1, vI v3]) rfl ?_
        refine rz_B.iadd rfl ?_
        cases h
        exact rz_B.ret rfl hk2 hw
    · have h := if_F h hc1
      refine rz_B.ifT ((le32 hv2 hv3).mpr (Int.not_lt.mp hc1)) ?_
      refine rz_B.more (rg_le_ok (L := [some (.ref 64), none, some (vI v2), none]) (by simp [rg_le])) ?_
      exact cx111_firstWrong_85 F _ _ _ _ h hv2 hw
/-- RiverGauge$Breaks.firstWrong()I -/
def x111_firstWrong (F : Nat) (A : rz_A) : Option (Int × rz_A) :=
  if (A.1 64 4) = 0 then
    some (0, A)
  else
    if 0 ≤ (A.1 66 0) then
      rz_g32 ((A.1 64 6) - 1) <|
      if (rz_oI fShl 1 ((A.1 64 6) - 1)) ≤ (A.1 66 0) then
        some (0, A)
      else
        rz_b (x103_bitCount F (A.1 66 0) A) fun r5 A5 =>
        rz_g32 (r5 + 1) <|
        x111_firstWrong_43 F F (A.1 66 0) (r5 + 1) 0 A5
    else
      some (0, A)
theorem cx111_firstWrong (F : Nat) {d : Nat} {A : rz_A} {r : Int} {A' : rz_A} (h : x111_firstWrong F A = some (r, A')) (hw : wf A) : rg_Rn (d + 2) 111 [.ref 64] (toM A) (some (vI r)) (toM A') ∧ (r32 r) ∧ wf A' := by
  show rz_B (d + 2) 111 0 [some (.ref 64), none, none, none] [] A (some (vI r)) A' (r32 r)
  unfold x111_firstWrong at h
  refine rz_B.go 3 (pc' := if decide (¬ Int32.ofInt (A.1 64 4) = Int32.ofInt 0) = true then 9 else 7) (L' := [some (.ref 64), none, none, none]) (S' := []) rfl ?_
  by_cases hc1 : (A.1 64 4) = 0
  · have h := if_T h hc1
    refine rz_B.ifF (fun hn => hn ((eq32 (hw 64 4).1 (by decide)).mpr hc1)) ?_
    refine rz_B.go 1 (pc' := 8) (L' := [some (.ref 64), none, none, none]) (S' := [vI 0]) rfl ?_
    cases h
    exact rz_B.ret rfl (by decide) hw
  · have h := if_F h hc1
    refine rz_B.ifT (mt (eq32 (hw 64 4).1 (by decide)).mp hc1) ?_
    refine rz_B.go 3 (pc' := 14) (L' := [some (.ref 64), none, none, none]) (S' := [vI 0, .ref 66]) rfl ?_
    refine rz_B.iald rfl rfl (by decide) (by decide) (by decide) ?_
    refine rz_B.go 3 (pc' := if decide (Int32.ofInt (A.1 66 0) < Int32.ofInt 0) = true then 32 else 20) (L' := [some (.ref 64), some (vI (A.1 66 0)), none, none]) (S' := []) rfl ?_
    by_cases hc2 : 0 ≤ (A.1 66 0)
    · have h := if_T h hc2
      refine rz_B.ifF (mt (lt32 (hw 66 0).1 (by decide)).mp (Int.not_lt.mpr hc2)) ?_
      refine rz_B.go 5 (pc' := 27) (L' := [some (.ref 64), some (vI (A.1 66 0)), none, none]) (S' := [vI 1, vI (A.1 64 6), vI 1, vI (A.1 66 0)]) rfl ?_
      obtain ⟨hk3, h⟩ := rz_g32_inv h
      refine rz_B.isub rfl ?_
      refine rz_B.oI fShl rfl ?_
      refine rz_B.go 1 (pc' := if decide (Int32.ofInt (A.1 66 0) < Int32.ofInt (rz_oI fShl 1 ((A.1 64 6) - 1))) = true then 34 else 32) (L' := [some (.ref 64), some (vI (A.1 66 0)), none, none]) (S' := []) rfl ?_
      by_cases hc4 : (rz_oI fShl 1 ((A.1 64 6) - 1)) ≤ (A.1 66 0)
      · have h := if_T h hc4
        refine rz_B.ifF (mt (lt32 (hw 66 0).1 r32_oI).mp (Int.not_lt.mpr hc4)) ?_
        refine rz_B.go 1 (pc' := 33) (L' := [some (.ref 64), some (vI (A.1 66 0)), none, none]) (S' := [vI 0]) rfl ?_
        cases h
        exact rz_B.ret rfl (by decide) hw
      · have h := if_F h hc4
        refine rz_B.ifT ((lt32 (hw 66 0).1 r32_oI).mpr (Int.not_le.mp hc4)) ?_
        refine rz_B.go 1 (pc' := 35) (L' := [some (.ref 64), some (vI (A.1 66 0)), none, none]) (S' := [vI (A.1 66 0)]) rfl ?_
        obtain ⟨r5, A5, hf5, h⟩ := rz_b_inv h
        obtain ⟨hg5, hr5, hw5⟩ := cx103_bitCount F (d := d + 1) hf5 (hw 66 0).1 hw
        refine rz_B.call (d := d + 1) (as := [vI (A.1 66 0)]) (rest := []) (w := some (vI r5)) rfl hg5 ?_
        refine rz_B.go 1 (pc' := 39) (L' := [some (.ref 64), some (vI (A.1 66 0)), none, none]) (S' := [vI 1, vI r5]) rfl ?_
        obtain ⟨hk6, h⟩ := rz_g32_inv h
        refine rz_B.iadd rfl ?_
        refine rz_B.go 3 (pc' := 43) (L' := [some (.ref 64), some (vI (A.1 66 0)), some (vI (r5 + 1)), some (vI 0)]) (S' := []) rfl ?_
        refine rz_B.more (rg_le_ok (L := [some (.ref 64), some (vI (A.1 66 0)), some (vI (r5 + 1)), some (vI 0)]) (by simp [rg_le])) ?_
        exact cx111_firstWrong_43 F F _ _ _ _ _ _ h (hw 66 0).1 hk6 (by decide) hw5
    · have h := if_F h hc2
      refine rz_B.ifT ((lt32 (hw 66 0).1 (by decide)).mpr (Int.not_le.mp hc2)) ?_
      refine rz_B.go 1 (pc' := 33) (L' := [some (.ref 64), some (vI (A.1 66 0)), none, none]) (S' := [vI 0]) rfl ?_
      cases h
      exact rz_B.ret rfl (by decide) hw
/-- RiverGauge.judge(I)I -/
def x110_judge (F : Nat) (a0 : Int) (A : rz_A) : Option (Int × rz_A) :=
  rz_b (x5_has F a0 A) fun r1 A1 =>
  if r1 = 0 then
    rz_b (x1_refuse F (-1) A1) fun r3 A3 =>
    some (r3, A3)
  else
    rz_b (x20_see F (A1.1 0 16) A1) fun _ A4 =>
    rz_b (x98_gather F a0 A4) fun r5 A5 =>
    if r5 = 0 then
      rz_b (x1_refuse F (-5) A5) fun r7 A7 =>
      some (r7, A7)
    else
      rz_b (x111_firstWrong F A5) fun r8 A8 =>
      some (r8, (aI A8 64 4 0))
theorem cx110_judge (F : Nat) {d : Nat} {a0 : Int} {A : rz_A} {r : Int} {A' : rz_A} (h : x110_judge F a0 A = some (r, A')) (ha0 : r32 a0) (hw : wf A) : rg_Rn (d + 6) 110 [.ref 0, vI a0] (toM A) (some (vI r)) (toM A') ∧ (r32 r) ∧ wf A' := by
  show rz_B (d + 6) 110 0 [some (.ref 0), some (vI a0), none] [] A (some (vI r)) A' (r32 r)
  unfold x110_judge at h
  refine rz_B.go 3 (pc' := 5) (L' := [some (.ref 0), some (vI a0), none]) (S' := [vI a0, .ref 2]) rfl ?_
  obtain ⟨r1, A1, hf1, h⟩ := rz_b_inv h
  obtain ⟨hg1, hr1, hw1⟩ := cx5_has F (d := d + 5) hf1 ha0 hw
  refine rz_B.call (d := d + 5) (as := [.ref 2, vI a0]) (rest := []) (w := some (vI r1)) rfl hg1 ?_
  refine rz_B.go 1 (pc' := if decide (¬ Int32.ofInt r1 = Int32.ofInt 0) = true then 17 else 11) (L' := [some (.ref 0), some (vI a0), none]) (S' := []) rfl ?_
  by_cases hc2 : r1 = 0
  · have h := if_T h hc2
    refine rz_B.ifF (fun hn => hn ((eq32 hr1 (by decide)).mpr hc2)) ?_
    refine rz_B.go 2 (pc' := 13) (L' := [some (.ref 0), some (vI a0), none]) (S' := [vI (-1), .ref 0]) rfl ?_
    obtain ⟨r3, A3, hf3, h⟩ := rz_b_inv h
    obtain ⟨hg3, hr3, hw3⟩ := cx1_refuse F (d := d + 5) hf3 (by decide) hw1
    refine rz_B.call (d := d + 5) (as := [.ref 0, vI (-1)]) (rest := []) (w := some (vI r3)) rfl hg3 ?_
    cases h
    exact rz_B.ret rfl hr3 hw3
  · have h := if_F h hc2
    refine rz_B.ifT (mt (eq32 hr1 (by decide)).mp hc2) ?_
    refine rz_B.go 4 (pc' := 25) (L' := [some (.ref 0), some (vI a0), none]) (S' := [vI (A1.1 0 16), .ref 51]) rfl ?_
    obtain ⟨_, A4, hf4, h⟩ := rz_b_inv h
    obtain ⟨hg4, hr4, hw4⟩ := cx20_see F (d := d + 0) hf4 (hw1 0 16).1 hw1
    refine rz_B.call (d := d + 5) (as := [.ref 51, vI (A1.1 0 16)]) (rest := []) (w := none) rfl hg4 ?_
    refine rz_B.go 3 (pc' := 33) (L' := [some (.ref 0), some (vI a0), none]) (S' := [vI a0, .ref 64]) rfl ?_
    obtain ⟨r5, A5, hf5, h⟩ := rz_b_inv h
    obtain ⟨hg5, hr5, hw5⟩ := cx98_gather F (d := d + 1) hf5 ha0 hw4
    refine rz_B.call (d := d + 5) (as := [.ref 64, vI a0]) (rest := []) (w := some (vI r5)) rfl hg5 ?_
    refine rz_B.go 1 (pc' := if decide (¬ Int32.ofInt r5 = Int32.ofInt 0) = true then 46 else 39) (L' := [some (.ref 0), some (vI a0), none]) (S' := []) rfl ?_
    by_cases hc6 : r5 = 0
    · have h := if_T h hc6
      refine rz_B.ifF (fun hn => hn ((eq32 hr5 (by decide)).mpr hc6)) ?_
      refine rz_B.go 2 (pc' := 42) (L' := [some (.ref 0), some (vI a0), none]) (S' := [vI (-5), .ref 0]) rfl ?_
      obtain ⟨r7, A7, hf7, h⟩ := rz_b_inv h
      obtain ⟨hg7, hr7, hw7⟩ := cx1_refuse F (d := d + 5) hf7 (by decide) hw5
      refine rz_B.call (d := d + 5) (as := [.ref 0, vI (-5)]) (rest := []) (w := some (vI r7)) rfl hg7 ?_
      cases h
      exact rz_B.ret rfl hr7 hw7
    · have h := if_F h hc6
      refine rz_B.ifT (mt (eq32 hr5 (by decide)).mp hc6) ?_
      refine rz_B.go 2 (pc' := 50) (L' := [some (.ref 0), some (vI a0), none]) (S' := [.ref 64]) rfl ?_
      obtain ⟨r8, A8, hf8, h⟩ := rz_b_inv h
      obtain ⟨hg8, hr8, hw8⟩ := cx111_firstWrong F (d := d + 3) hf8 hw5
      refine rz_B.call (d := d + 5) (as := [.ref 64]) (rest := []) (w := some (vI r8)) rfl hg8 ?_
      refine rz_B.put 5 (pc' := 62) (L' := [some (.ref 0), some (vI a0), some (vI r8)]) (S' := []) (c := 64) (k := 4) (x := 0) rfl ?_
      have hw9 : wf (aI A8 64 4 0) := wf_aI hw8 (by decide)
      refine rz_B.go 1 (pc' := 63) (L' := [some (.ref 0), some (vI a0), some (vI r8)]) (S' := [vI r8]) rfl ?_
      cases h
      exact rz_B.ret rfl hr8 hw9
/-- RiverGauge.beside(II)I -/
def x112_beside (F : Nat) (a0 : Int) (a1 : Int) (A : rz_A) : Option (Int × rz_A) :=
  rz_b (x5_has F a0 A) fun r1 A1 =>
  if r1 = 0 then
    rz_b (x10_refuseAsTold F (-1) A1) fun r3 A3 =>
    some (r3, A3)
  else
    if a1 = (-1) then
      rz_gx a0 6 <|
      some ((A1.1 5 (a0).toNat), (aI A1 5 (a0).toNat a1))
    else
      rz_b (x5_has F a1 A1) fun r8 A8 =>
      if r8 = 0 then
        rz_b (x10_refuseAsTold F (-1) A8) fun r10 A10 =>
        some (r10, A10)
      else
        if a1 = a0 then
          rz_b (x10_refuseAsTold F (-1) A8) fun r12 A12 =>
          some (r12, A12)
        else
          rz_gx a0 6 <|
          some ((A8.1 5 (a0).toNat), (aI A8 5 (a0).toNat a1))
theorem cx112_beside (F : Nat) {d : Nat} {a0 : Int} {a1 : Int} {A : rz_A} {r : Int} {A' : rz_A} (h : x112_beside F a0 a1 A = some (r, A')) (ha0 : r32 a0) (ha1 : r32 a1) (hw : wf A) : rg_Rn (d + 2) 112 [.ref 0, vI a0, vI a1] (toM A) (some (vI r)) (toM A') ∧ (r32 r) ∧ wf A' := by
  show rz_B (d + 2) 112 0 [some (.ref 0), some (vI a0), some (vI a1), none] [] A (some (vI r)) A' (r32 r)
  unfold x112_beside at h
  refine rz_B.go 3 (pc' := 5) (L' := [some (.ref 0), some (vI a0), some (vI a1), none]) (S' := [vI a0, .ref 2]) rfl ?_
  obtain ⟨r1, A1, hf1, h⟩ := rz_b_inv h
  obtain ⟨hg1, hr1, hw1⟩ := cx5_has F (d := d + 1) hf1 ha0 hw
  refine rz_B.call (d := d + 1) (as := [.ref 2, vI a0]) (rest := []) (w := some (vI r1)) rfl hg1 ?_
  refine rz_B.go 1 (pc' := if decide (¬ Int32.ofInt r1 = Int32.ofInt 0) = true then 17 else 11) (L' := [some (.ref 0), some (vI a0), some (vI a1), none]) (S' := []) rfl ?_
  by_cases hc2 : r1 = 0
  · have h := if_T h hc2
    refine rz_B.ifF (fun hn => hn ((eq32 hr1 (by decide)).mpr hc2)) ?_
    refine rz_B.go 2 (pc' := 13) (L' := [some (.ref 0), some (vI a0), some (vI a1), none]) (S' := [vI (-1), .ref 0]) rfl ?_
    obtain ⟨r3, A3, hf3, h⟩ := rz_b_inv h
    obtain ⟨hg3, hr3, hw3⟩ := cx10_refuseAsTold F (d := d + 0) hf3 (by decide) hw1
    refine rz_B.call (d := d + 1) (as := [.ref 0, vI (-1)]) (rest := []) (w := some (vI r3)) rfl hg3 ?_
    cases h
    exact rz_B.ret rfl hr3 hw3
  · have h := if_F h hc2
    refine rz_B.ifT (mt (eq32 hr1 (by decide)).mp hc2) ?_
    refine rz_B.go 3 (pc' := if decide (Int32.ofInt a1 = Int32.ofInt (-1)) = true then 44 else 22) (L' := [some (.ref 0), some (vI a0), some (vI a1), none]) (S' := []) rfl ?_
    by_cases hc4 : a1 = (-1)
    · have h := if_T h hc4
      refine rz_B.ifT ((eq32 ha1 (by decide)).mpr hc4) ?_
      refine rz_B.go 4 (pc' := 52) (L' := [some (.ref 0), some (vI a0), some (vI a1), none]) (S' := [vI a0, .ref 5]) rfl ?_
      obtain ⟨hi5, hj6, h⟩ := rz_gx_inv h
      refine rz_B.iald rfl rfl hi5 hj6 (by decide) ?_
      refine rz_B.go 6 (pc' := 63) (L' := [some (.ref 0), some (vI a0), some (vI a1), some (vI (A1.1 5 (a0).toNat))]) (S' := [vI a1, vI a0, .ref 5]) rfl ?_
      refine rz_B.iast rfl rfl hi5 hj6 (by decide) ?_
      have hw7 : wf (aI A1 5 (a0).toNat a1) := wf_aI hw1 ha1
      refine rz_B.go 1 (pc' := 65) (L' := [some (.ref 0), some (vI a0), some (vI a1), some (vI (A1.1 5 (a0).toNat))]) (S' := [vI (A1.1 5 (a0).toNat)]) rfl ?_
      cases h
      exact rz_B.ret rfl (hw1 5 (a0).toNat).1 hw7
    · have h := if_F h hc4
      refine rz_B.ifF (mt (eq32 ha1 (by decide)).mp hc4) ?_
      refine rz_B.go 3 (pc' := 27) (L' := [some (.ref 0), some (vI a0), some (vI a1), none]) (S' := [vI a1, .ref 2]) rfl ?_
      obtain ⟨r8, A8, hf8, h⟩ := rz_b_inv h
      obtain ⟨hg8, hr8, hw8⟩ := cx5_has F (d := d + 1) hf8 ha1 hw1
      refine rz_B.call (d := d + 1) (as := [.ref 2, vI a1]) (rest := []) (w := some (vI r8)) rfl hg8 ?_
      refine rz_B.go 1 (pc' := if decide (Int32.ofInt r8 = Int32.ofInt 0) = true then 38 else 33) (L' := [some (.ref 0), some (vI a0), some (vI a1), none]) (S' := []) rfl ?_
      by_cases hc9 : r8 = 0
      · have h := if_T h hc9
        refine rz_B.ifT ((eq32 hr8 (by decide)).mpr hc9) ?_
        refine rz_B.go 2 (pc' := 40) (L' := [some (.ref 0), some (vI a0), some (vI a1), none]) (S' := [vI (-1), .ref 0]) rfl ?_
        obtain ⟨r10, A10, hf10, h⟩ := rz_b_inv h
        obtain ⟨hg10, hr10, hw10⟩ := cx10_refuseAsTold F (d := d + 0) hf10 (by decide) hw8
        refine rz_B.call (d := d + 1) (as := [.ref 0, vI (-1)]) (rest := []) (w := some (vI r10)) rfl hg10 ?_
        cases h
        exact rz_B.ret rfl hr10 hw10
      · have h := if_F h hc9
        refine rz_B.ifF (mt (eq32 hr8 (by decide)).mp hc9) ?_
        refine rz_B.go 3 (pc' := if decide (¬ Int32.ofInt a1 = Int32.ofInt a0) = true then 44 else 38) (L' := [some (.ref 0), some (vI a0), some (vI a1), none]) (S' := []) rfl ?_
        by_cases hc11 : a1 = a0
        · have h := if_T h hc11
          refine rz_B.ifF (fun hn => hn ((eq32 ha1 ha0).mpr hc11)) ?_
          refine rz_B.go 2 (pc' := 40) (L' := [some (.ref 0), some (vI a0), some (vI a1), none]) (S' := [vI (-1), .ref 0]) rfl ?_
          obtain ⟨r12, A12, hf12, h⟩ := rz_b_inv h
          obtain ⟨hg12, hr12, hw12⟩ := cx10_refuseAsTold F (d := d + 0) hf12 (by decide) hw8
          refine rz_B.call (d := d + 1) (as := [.ref 0, vI (-1)]) (rest := []) (w := some (vI r12)) rfl hg12 ?_
          cases h
          exact rz_B.ret rfl hr12 hw12
        · have h := if_F h hc11
          refine rz_B.ifT (mt (eq32 ha1 ha0).mp hc11) ?_
          refine rz_B.go 4 (pc' := 52) (L' := [some (.ref 0), some (vI a0), some (vI a1), none]) (S' := [vI a0, .ref 5]) rfl ?_
          obtain ⟨hi13, hj14, h⟩ := rz_gx_inv h
          refine rz_B.iald rfl rfl hi13 hj14 (by decide) ?_
          refine rz_B.go 6 (pc' := 63) (L' := [some (.ref 0), some (vI a0), some (vI a1), some (vI (A8.1 5 (a0).toNat))]) (S' := [vI a1, vI a0, .ref 5]) rfl ?_
          refine rz_B.iast rfl rfl hi13 hj14 (by decide) ?_
          have hw15 : wf (aI A8 5 (a0).toNat a1) := wf_aI hw8 ha1
          refine rz_B.go 1 (pc' := 65) (L' := [some (.ref 0), some (vI a0), some (vI a1), some (vI (A8.1 5 (a0).toNat))]) (S' := [vI (A8.1 5 (a0).toNat)]) rfl ?_
          cases h
          exact rz_B.ret rfl (hw8 5 (a0).toNat).1 hw15
