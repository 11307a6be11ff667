set_option maxRecDepth 8000
section SPEC3
variable {t : Nat} {A : rz_A} {S : St} {as : List Value}
theorem np9_0 : rg_np (lz_yx 0) = 1 := by decide +kernel
theorem sp9_0 (hs : lz_shape 0 as) (hw : wf A) (hI : IV t A S) (ht : t < 512) : Go9 t 0 as A := by
  unfold lz_shape at hs
  rw [if_neg (by decide), np9_0] at hs
  obtain ⟨vs, rfl, hl⟩ := hs
  match vs, hl with
  | [v0], _ => exact go9_0 v0 hw hI ht
theorem np9_1 : rg_np (lz_yx 1) = 1 := by decide +kernel
theorem sp9_1 (hs : lz_shape 1 as) (hw : wf A) (hI : IV t A S) (ht : t < 512) : Go9 t 1 as A := by
  unfold lz_shape at hs
  rw [if_neg (by decide), np9_1] at hs
  obtain ⟨vs, rfl, hl⟩ := hs
  match vs, hl with
  | [v0], _ => exact go9_1 v0 hw hI ht
theorem np9_2 : rg_np (lz_yx 2) = 3 := by decide +kernel
theorem sp9_2 (hs : lz_shape 2 as) (hw : wf A) (hI : IV t A S) (ht : t < 512) : Go9 t 2 as A := by
  unfold lz_shape at hs
  rw [if_neg (by decide), np9_2] at hs
  obtain ⟨vs, rfl, hl⟩ := hs
  match vs, hl with
  | [v0, v1, v2], _ => exact go9_2 v0 v1 v2 hw hI ht
theorem np9_3 : rg_np (lz_yx 3) = 3 := by decide +kernel
theorem sp9_3 (hs : lz_shape 3 as) (hw : wf A) (hI : IV t A S) (ht : t < 512) : Go9 t 3 as A := by
  unfold lz_shape at hs
  rw [if_neg (by decide), np9_3] at hs
  obtain ⟨vs, rfl, hl⟩ := hs
  match vs, hl with
  | [v0, v1, v2], _ => exact go9_3 v0 v1 v2 hw hI ht
theorem np9_4 : rg_np (lz_yx 4) = 4 := by decide +kernel
theorem sp9_4 (hs : lz_shape 4 as) (hw : wf A) (hI : IV t A S) (ht : t < 512) : Go9 t 4 as A := by
  unfold lz_shape at hs
  rw [if_neg (by decide), np9_4] at hs
  obtain ⟨vs, rfl, hl⟩ := hs
  match vs, hl with
  | [v0, v1, v2, v3], _ => exact go9_4 v0 v1 v2 v3 hw hI ht
theorem np9_5 : rg_np (lz_yx 5) = 1 := by decide +kernel
theorem sp9_5 (hs : lz_shape 5 as) (hw : wf A) (hI : IV t A S) (ht : t < 512) : Go9 t 5 as A := by
  unfold lz_shape at hs
  rw [if_neg (by decide), np9_5] at hs
  obtain ⟨vs, rfl, hl⟩ := hs
  match vs, hl with
  | [v0], _ => exact go9_5 v0 hw hI ht
theorem np9_6 : rg_np (lz_yx 6) = 2 := by decide +kernel
theorem sp9_6 (hs : lz_shape 6 as) (hw : wf A) (hI : IV t A S) (ht : t < 512) : Go9 t 6 as A := by
  unfold lz_shape at hs
  rw [if_neg (by decide), np9_6] at hs
  obtain ⟨vs, rfl, hl⟩ := hs
  match vs, hl with
  | [v0, v1], _ => exact go9_6 v0 v1 hw hI ht
theorem np9_7 : rg_np (lz_yx 7) = 3 := by decide +kernel
theorem sp9_7 (hs : lz_shape 7 as) (hw : wf A) (hI : IV t A S) (ht : t < 512) : Go9 t 7 as A := by
  unfold lz_shape at hs
  rw [if_neg (by decide), np9_7] at hs
  obtain ⟨vs, rfl, hl⟩ := hs
  match vs, hl with
  | [v0, v1, v2], _ => exact go9_7 v0 v1 v2 hw hI ht
theorem np9_8 : rg_np (lz_yx 8) = 4 := by decide +kernel
theorem sp9_8 (hs : lz_shape 8 as) (hw : wf A) (hI : IV t A S) (ht : t < 512) : Go9 t 8 as A := by
  unfold lz_shape at hs
  rw [if_neg (by decide), np9_8] at hs
  obtain ⟨vs, rfl, hl⟩ := hs
  match vs, hl with
  | [v0, v1, v2, v3], _ => exact go9_8 v0 v1 v2 v3 hw hI ht
theorem np9_9 : rg_np (lz_yx 9) = 1 := by decide +kernel
theorem sp9_9 (hs : lz_shape 9 as) (hw : wf A) (hI : IV t A S) (ht : t < 512) : Go9 t 9 as A := by
  unfold lz_shape at hs
  rw [if_neg (by decide), np9_9] at hs
  obtain ⟨vs, rfl, hl⟩ := hs
  match vs, hl with
  | [v0], _ => exact go9_9 v0 hw hI ht
theorem np9_10 : rg_np (lz_yx 10) = 2 := by decide +kernel
theorem sp9_10 (hs : lz_shape 10 as) (hw : wf A) (hI : IV t A S) (ht : t < 512) : Go9 t 10 as A := by
  unfold lz_shape at hs
  rw [if_neg (by decide), np9_10] at hs
  obtain ⟨vs, rfl, hl⟩ := hs
  match vs, hl with
  | [v0, v1], _ => exact go9_10 v0 v1 hw hI ht
theorem sp9_11 (hs : lz_shape 11 as) (hw : wf A) (hI : IV t A S) (ht : t < 512) : Go9 t 11 as A := by
  unfold lz_shape at hs
  rw [if_pos rfl] at hs
  obtain ⟨a, v, rfl⟩ := hs
  exact go9_11 a v hw hI ht
theorem np9_12 : rg_np (lz_yx 12) = 2 := by decide +kernel
theorem sp9_12 (hs : lz_shape 12 as) (hw : wf A) (hI : IV t A S) (ht : t < 512) : Go9 t 12 as A := by
  unfold lz_shape at hs
  rw [if_neg (by decide), np9_12] at hs
  obtain ⟨vs, rfl, hl⟩ := hs
  match vs, hl with
  | [v0, v1], _ => exact go9_12 v0 v1 hw hI ht
theorem np9_13 : rg_np (lz_yx 13) = 2 := by decide +kernel
theorem sp9_13 (hs : lz_shape 13 as) (hw : wf A) (hI : IV t A S) (ht : t < 512) : Go9 t 13 as A := by
  unfold lz_shape at hs
  rw [if_neg (by decide), np9_13] at hs
  obtain ⟨vs, rfl, hl⟩ := hs
  match vs, hl with
  | [v0, v1], _ => exact go9_13 v0 v1 hw hI ht
theorem np9_14 : rg_np (lz_yx 14) = 2 := by decide +kernel
theorem sp9_14 (hs : lz_shape 14 as) (hw : wf A) (hI : IV t A S) (ht : t < 512) : Go9 t 14 as A := by
  unfold lz_shape at hs
  rw [if_neg (by decide), np9_14] at hs
  obtain ⟨vs, rfl, hl⟩ := hs
  match vs, hl with
  | [v0, v1], _ => exact go9_14 v0 v1 hw hI ht
theorem np9_15 : rg_np (lz_yx 15) = 3 := by decide +kernel
theorem sp9_15 (hs : lz_shape 15 as) (hw : wf A) (hI : IV t A S) (ht : t < 512) : Go9 t 15 as A := by
  unfold lz_shape at hs
  rw [if_neg (by decide), np9_15] at hs
  obtain ⟨vs, rfl, hl⟩ := hs
  match vs, hl with
  | [v0, v1, v2], _ => exact go9_15 v0 v1 v2 hw hI ht
theorem np9_16 : rg_np (lz_yx 16) = 5 := by decide +kernel
theorem sp9_16 (hs : lz_shape 16 as) (hw : wf A) (hI : IV t A S) (ht : t < 512) : Go9 t 16 as A := by
  unfold lz_shape at hs
  rw [if_neg (by decide), np9_16] at hs
  obtain ⟨vs, rfl, hl⟩ := hs
  match vs, hl with
  | [v0, v1, v2, v3, v4], _ => exact go9_16 v0 v1 v2 v3 v4 hw hI ht
theorem np9_17 : rg_np (lz_yx 17) = 3 := by decide +kernel
theorem sp9_17 (hs : lz_shape 17 as) (hw : wf A) (hI : IV t A S) (ht : t < 512) : Go9 t 17 as A := by
  unfold lz_shape at hs
  rw [if_neg (by decide), np9_17] at hs
  obtain ⟨vs, rfl, hl⟩ := hs
  match vs, hl with
  | [v0, v1, v2], _ => exact go9_17 v0 v1 v2 hw hI ht
theorem np9_18 : rg_np (lz_yx 18) = 5 := by decide +kernel
theorem sp9_18 (hs : lz_shape 18 as) (hw : wf A) (hI : IV t A S) (ht : t < 512) : Go9 t 18 as A := by
  unfold lz_shape at hs
  rw [if_neg (by decide), np9_18] at hs
  obtain ⟨vs, rfl, hl⟩ := hs
  match vs, hl with
  | [v0, v1, v2, v3, v4], _ => exact go9_18 v0 v1 v2 v3 v4 hw hI ht
theorem np9_19 : rg_np (lz_yx 19) = 4 := by decide +kernel
theorem sp9_19 (hs : lz_shape 19 as) (hw : wf A) (hI : IV t A S) (ht : t < 512) : Go9 t 19 as A := by
  unfold lz_shape at hs
  rw [if_neg (by decide), np9_19] at hs
  obtain ⟨vs, rfl, hl⟩ := hs
  match vs, hl with
  | [v0, v1, v2, v3], _ => exact go9_19 v0 v1 v2 v3 hw hI ht
theorem np9_20 : rg_np (lz_yx 20) = 4 := by decide +kernel
theorem sp9_20 (hs : lz_shape 20 as) (hw : wf A) (hI : IV t A S) (ht : t < 512) : Go9 t 20 as A := by
  unfold lz_shape at hs
  rw [if_neg (by decide), np9_20] at hs
  obtain ⟨vs, rfl, hl⟩ := hs
  match vs, hl with
  | [v0, v1, v2, v3], _ => exact go9_20 v0 v1 v2 v3 hw hI ht
theorem np9_21 : rg_np (lz_yx 21) = 2 := by decide +kernel
theorem sp9_21 (hs : lz_shape 21 as) (hw : wf A) (hI : IV t A S) (ht : t < 512) : Go9 t 21 as A := by
  unfold lz_shape at hs
  rw [if_neg (by decide), np9_21] at hs
  obtain ⟨vs, rfl, hl⟩ := hs
  match vs, hl with
  | [v0, v1], _ => exact go9_21 v0 v1 hw hI ht
theorem np9_22 : rg_np (lz_yx 22) = 2 := by decide +kernel
theorem sp9_22 (hs : lz_shape 22 as) (hw : wf A) (hI : IV t A S) (ht : t < 512) : Go9 t 22 as A := by
  unfold lz_shape at hs
  rw [if_neg (by decide), np9_22] at hs
  obtain ⟨vs, rfl, hl⟩ := hs
  match vs, hl with
  | [v0, v1], _ => exact go9_22 v0 v1 hw hI ht
theorem np9_23 : rg_np (lz_yx 23) = 1 := by decide +kernel
theorem sp9_23 (hs : lz_shape 23 as) (hw : wf A) (hI : IV t A S) (ht : t < 512) : Go9 t 23 as A := by
  unfold lz_shape at hs
  rw [if_neg (by decide), np9_23] at hs
  obtain ⟨vs, rfl, hl⟩ := hs
  match vs, hl with
  | [v0], _ => exact go9_23 v0 hw hI ht
theorem np9_24 : rg_np (lz_yx 24) = 1 := by decide +kernel
theorem sp9_24 (hs : lz_shape 24 as) (hw : wf A) (hI : IV t A S) (ht : t < 512) : Go9 t 24 as A := by
  unfold lz_shape at hs
  rw [if_neg (by decide), np9_24] at hs
  obtain ⟨vs, rfl, hl⟩ := hs
  match vs, hl with
  | [v0], _ => exact go9_24 v0 hw hI ht
theorem np9_25 : rg_np (lz_yx 25) = 2 := by decide +kernel
theorem sp9_25 (hs : lz_shape 25 as) (hw : wf A) (hI : IV t A S) (ht : t < 512) : Go9 t 25 as A := by
  unfold lz_shape at hs
  rw [if_neg (by decide), np9_25] at hs
  obtain ⟨vs, rfl, hl⟩ := hs
  match vs, hl with
  | [v0, v1], _ => exact go9_25 v0 v1 hw hI ht
theorem np9_26 : rg_np (lz_yx 26) = 3 := by decide +kernel
theorem sp9_26 (hs : lz_shape 26 as) (hw : wf A) (hI : IV t A S) (ht : t < 512) : Go9 t 26 as A := by
  unfold lz_shape at hs
  rw [if_neg (by decide), np9_26] at hs
  obtain ⟨vs, rfl, hl⟩ := hs
  match vs, hl with
  | [v0, v1, v2], _ => exact go9_26 v0 v1 v2 hw hI ht
theorem np9_27 : rg_np (lz_yx 27) = 4 := by decide +kernel
theorem sp9_27 (hs : lz_shape 27 as) (hw : wf A) (hI : IV t A S) (ht : t < 512) : Go9 t 27 as A := by
  unfold lz_shape at hs
  rw [if_neg (by decide), np9_27] at hs
  obtain ⟨vs, rfl, hl⟩ := hs
  match vs, hl with
  | [v0, v1, v2, v3], _ => exact go9_27 v0 v1 v2 v3 hw hI ht
theorem np9_28 : rg_np (lz_yx 28) = 2 := by decide +kernel
theorem sp9_28 (hs : lz_shape 28 as) (hw : wf A) (hI : IV t A S) (ht : t < 512) : Go9 t 28 as A := by
  unfold lz_shape at hs
  rw [if_neg (by decide), np9_28] at hs
  obtain ⟨vs, rfl, hl⟩ := hs
  match vs, hl with
  | [v0, v1], _ => exact go9_28 v0 v1 hw hI ht
theorem np9_29 : rg_np (lz_yx 29) = 5 := by decide +kernel
theorem sp9_29 (hs : lz_shape 29 as) (hw : wf A) (hI : IV t A S) (ht : t < 512) : Go9 t 29 as A := by
  unfold lz_shape at hs
  rw [if_neg (by decide), np9_29] at hs
  obtain ⟨vs, rfl, hl⟩ := hs
  match vs, hl with
  | [v0, v1, v2, v3, v4], _ => exact go9_29 v0 v1 v2 v3 v4 hw hI ht
theorem np9_30 : rg_np (lz_yx 30) = 1 := by decide +kernel
theorem sp9_30 (hs : lz_shape 30 as) (hw : wf A) (hI : IV t A S) (ht : t < 512) : Go9 t 30 as A := by
  unfold lz_shape at hs
  rw [if_neg (by decide), np9_30] at hs
  obtain ⟨vs, rfl, hl⟩ := hs
  match vs, hl with
  | [v0], _ => exact go9_30 v0 hw hI ht
theorem np9_31 : rg_np (lz_yx 31) = 2 := by decide +kernel
theorem sp9_31 (hs : lz_shape 31 as) (hw : wf A) (hI : IV t A S) (ht : t < 512) : Go9 t 31 as A := by
  unfold lz_shape at hs
  rw [if_neg (by decide), np9_31] at hs
  obtain ⟨vs, rfl, hl⟩ := hs
  match vs, hl with
  | [v0, v1], _ => exact go9_31 v0 v1 hw hI ht
theorem np9_32 : rg_np (lz_yx 32) = 2 := by decide +kernel
theorem sp9_32 (hs : lz_shape 32 as) (hw : wf A) (hI : IV t A S) (ht : t < 512) : Go9 t 32 as A := by
  unfold lz_shape at hs
  rw [if_neg (by decide), np9_32] at hs
  obtain ⟨vs, rfl, hl⟩ := hs
  match vs, hl with
  | [v0, v1], _ => exact go9_32 v0 v1 hw hI ht
theorem np9_33 : rg_np (lz_yx 33) = 0 := by decide +kernel
theorem sp9_33 (hs : lz_shape 33 as) (hw : wf A) (hI : IV t A S) (ht : t < 512) : Go9 t 33 as A := by
  unfold lz_shape at hs
  rw [if_neg (by decide), np9_33] at hs
  obtain ⟨vs, rfl, hl⟩ := hs
  match vs, hl with
  | [], _ => exact go9_33 hw hI ht
theorem np9_34 : rg_np (lz_yx 34) = 1 := by decide +kernel
theorem sp9_34 (hs : lz_shape 34 as) (hw : wf A) (hI : IV t A S) (ht : t < 512) : Go9 t 34 as A := by
  unfold lz_shape at hs
  rw [if_neg (by decide), np9_34] at hs
  obtain ⟨vs, rfl, hl⟩ := hs
  match vs, hl with
  | [v0], _ => exact go9_34 v0 hw hI ht
theorem np9_35 : rg_np (lz_yx 35) = 1 := by decide +kernel
theorem sp9_35 (hs : lz_shape 35 as) (hw : wf A) (hI : IV t A S) (ht : t < 512) : Go9 t 35 as A := by
  unfold lz_shape at hs
  rw [if_neg (by decide), np9_35] at hs
  obtain ⟨vs, rfl, hl⟩ := hs
  match vs, hl with
  | [v0], _ => exact go9_35 v0 hw hI ht
theorem spec3 (t k : Nat) (as : List Value) (M : rg_M) (ht : t < 512) (hk : k < 36) (hs : lz_shape k as) (hI : Inv9 t M) : ∃ (f1 f2 : Nat) (r : Int32) (M1 M2 : rg_M), rg_exec f1 60 (lz_yx k) 0 (rg_ent (lz_yx k) (.ref 0 :: as)) [] M = some (some (.int r), M1) ∧ rg_exec f2 60 (lz_ym k) 0 (rg_ent (lz_ym k) (.ref 91 :: as)) [] M1 = some (some (.int r), M2) ∧ Inv9 (t + 1) M2 := by
  obtain ⟨A, S, rfl, hw, hV⟩ := hI
  match k, hk, hs with
  | 0, _, hs => exact sp9_0 hs hw hV ht
  | 1, _, hs => exact sp9_1 hs hw hV ht
  | 2, _, hs => exact sp9_2 hs hw hV ht
  | 3, _, hs => exact sp9_3 hs hw hV ht
  | 4, _, hs => exact sp9_4 hs hw hV ht
  | 5, _, hs => exact sp9_5 hs hw hV ht
  | 6, _, hs => exact sp9_6 hs hw hV ht
  | 7, _, hs => exact sp9_7 hs hw hV ht
  | 8, _, hs => exact sp9_8 hs hw hV ht
  | 9, _, hs => exact sp9_9 hs hw hV ht
  | 10, _, hs => exact sp9_10 hs hw hV ht
  | 11, _, hs => exact sp9_11 hs hw hV ht
  | 12, _, hs => exact sp9_12 hs hw hV ht
  | 13, _, hs => exact sp9_13 hs hw hV ht
  | 14, _, hs => exact sp9_14 hs hw hV ht
  | 15, _, hs => exact sp9_15 hs hw hV ht
  | 16, _, hs => exact sp9_16 hs hw hV ht
  | 17, _, hs => exact sp9_17 hs hw hV ht
  | 18, _, hs => exact sp9_18 hs hw hV ht
  | 19, _, hs => exact sp9_19 hs hw hV ht
  | 20, _, hs => exact sp9_20 hs hw hV ht
  | 21, _, hs => exact sp9_21 hs hw hV ht
  | 22, _, hs => exact sp9_22 hs hw hV ht
  | 23, _, hs => exact sp9_23 hs hw hV ht
  | 24, _, hs => exact sp9_24 hs hw hV ht
  | 25, _, hs => exact sp9_25 hs hw hV ht
  | 26, _, hs => exact sp9_26 hs hw hV ht
  | 27, _, hs => exact sp9_27 hs hw hV ht
  | 28, _, hs => exact sp9_28 hs hw hV ht
  | 29, _, hs => exact sp9_29 hs hw hV ht
  | 30, _, hs => exact sp9_30 hs hw hV ht
  | 31, _, hs => exact sp9_31 hs hw hV ht
  | 32, _, hs => exact sp9_32 hs hw hV ht
  | 33, _, hs => exact sp9_33 hs hw hV ht
  | 34, _, hs => exact sp9_34 hs hw hV ht
  | 35, _, hs => exact sp9_35 hs hw hV ht
  | k + 36, h, _ => exact absurd h (by omega)
theorem spec_of (h0 : Inv9 0 rg_M0) : rg_Spec Inv9 := ⟨h0, fun t M h => by
  obtain ⟨A, S, e, hw, hV⟩ := h
  exact ⟨A, S, e, hw, hV.up⟩, spec3⟩
end SPEC3
