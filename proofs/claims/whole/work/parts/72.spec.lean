set_option maxRecDepth 8000
section SPEC
variable {t : Nat} {A : rz_A} {S : St}
def Inv9 (t : Nat) (M : rg_M) : Prop := ∃ A S, M = toM A ∧ wf A ∧ IV t A S
theorem IV.up (h : IV t A S) : IV (t + 1) A S := ⟨h.1.up, h.2.1.up, h.2.2.mono⟩
def Go9 (t k : Nat) (as : List Value) (A : rz_A) : Prop := ∃ (f1 f2 : Nat) (r : Int32) (M1 M2 : rg_M), rg_exec f1 60 (lz_yx k) 0 (rg_ent (lz_yx k) (.ref 0 :: as)) [] (toM A) = some (some (.int r), M1) ∧ rg_exec f2 60 (lz_ym k) 0 (rg_ent (lz_ym k) (.ref 91 :: as)) [] M1 = some (some (.int r), M2) ∧ Inv9 (t + 1) M2
theorem go9_0 (v0 : Int32) (hw : wf A) (hI : IV t A S) (ht : t < 512) : Go9 t 0 [.int v0] A := by
  obtain ⟨r, A1, A2, S', e1, e2, h⟩ := pr0 (a0 := v0.toInt) hI ht
  obtain ⟨⟨f1, c1⟩, _, w1⟩ := cx0_go 1000 (d := 59) e1 (r32_toInt v0) hw
  obtain ⟨⟨f2, c2⟩, _, w2⟩ := cx141_go 1000 (d := 59) e2 (r32_toInt v0) w1
  have el : ([vI v0.toInt] : List Value) = [.int v0] := by simp only [vI, vL, Int32.ofInt_toInt, Int64.ofInt_toInt]
  exact ⟨f1, f2, Int32.ofInt r, toM A1, toM A2, by rw [← el]; exact c1, by rw [← el]; exact c2, A2, S', rfl, w2, h⟩
theorem go9_1 (v0 : Int32) (hw : wf A) (hI : IV t A S) (ht : t < 512) : Go9 t 1 [.int v0] A := by
  obtain ⟨r, A1, A2, S', e1, e2, h⟩ := pr1 (a0 := v0.toInt) hI ht
  obtain ⟨⟨f1, c1⟩, _, w1⟩ := cx2_post 1000 (d := 59) e1 (r32_toInt v0) hw
  obtain ⟨⟨f2, c2⟩, _, w2⟩ := cx143_post 1000 (d := 59) e2 (r32_toInt v0) w1
  have el : ([vI v0.toInt] : List Value) = [.int v0] := by simp only [vI, vL, Int32.ofInt_toInt, Int64.ofInt_toInt]
  exact ⟨f1, f2, Int32.ofInt r, toM A1, toM A2, by rw [← el]; exact c1, by rw [← el]; exact c2, A2, S', rfl, w2, h⟩
theorem go9_2 (v0 v1 v2 : Int32) (hw : wf A) (hI : IV t A S) (ht : t < 512) : Go9 t 2 [.int v0, .int v1, .int v2] A := by
  obtain ⟨r, A1, A2, S', e1, e2, h⟩ := pr2 (a0 := v0.toInt) (a1 := v1.toInt) (a2 := v2.toInt) hI ht
  obtain ⟨⟨f1, c1⟩, _, w1⟩ := cx4_moved 1000 (d := 59) e1 (r32_toInt v0) (r32_toInt v1) (r32_toInt v2) hw
  obtain ⟨⟨f2, c2⟩, _, w2⟩ := cx144_moved 1000 (d := 59) e2 (r32_toInt v0) (r32_toInt v1) (r32_toInt v2) w1
  have el : ([vI v0.toInt, vI v1.toInt, vI v2.toInt] : List Value) = [.int v0, .int v1, .int v2] := by simp only [vI, vL, Int32.ofInt_toInt, Int64.ofInt_toInt]
  exact ⟨f1, f2, Int32.ofInt r, toM A1, toM A2, by rw [← el]; exact c1, by rw [← el]; exact c2, A2, S', rfl, w2, h⟩
theorem go9_3 (v0 v1 v2 : Int32) (hw : wf A) (hI : IV t A S) (ht : t < 512) : Go9 t 3 [.int v0, .int v1, .int v2] A := by
  obtain ⟨r, A1, A2, S', e1, e2, h⟩ := pr3 (a0 := v0.toInt) (a1 := v1.toInt) (a2 := v2.toInt) hI ht
  obtain ⟨⟨f1, c1⟩, _, w1⟩ := cx8_zeroAt 1000 (d := 58) e1 (r32_toInt v0) (r32_toInt v1) (r32_toInt v2) hw
  obtain ⟨⟨f2, c2⟩, _, w2⟩ := cx146_zeroAt 1000 (d := 58) e2 (r32_toInt v0) (r32_toInt v1) (r32_toInt v2) w1
  have el : ([vI v0.toInt, vI v1.toInt, vI v2.toInt] : List Value) = [.int v0, .int v1, .int v2] := by simp only [vI, vL, Int32.ofInt_toInt, Int64.ofInt_toInt]
  exact ⟨f1, f2, Int32.ofInt r, toM A1, toM A2, by rw [← el]; exact c1, by rw [← el]; exact c2, A2, S', rfl, w2, h⟩
theorem go9_4 (v0 v1 v2 v3 : Int32) (hw : wf A) (hI : IV t A S) (ht : t < 512) : Go9 t 4 [.int v0, .int v1, .int v2, .int v3] A := by
  obtain ⟨r, A1, A2, S', e1, e2, h⟩ := pr4 (a0 := v0.toInt) (a1 := v1.toInt) (a2 := v2.toInt) (a3 := v3.toInt) hI ht
  obtain ⟨⟨f1, c1⟩, _, w1⟩ := cx12_height 1000 (d := 58) e1 (r32_toInt v0) (r32_toInt v1) (r32_toInt v2) (r32_toInt v3) hw
  obtain ⟨⟨f2, c2⟩, _, w2⟩ := cx150_height 1000 (d := 59) e2 (r32_toInt v0) (r32_toInt v1) (r32_toInt v2) (r32_toInt v3) w1
  have el : ([vI v0.toInt, vI v1.toInt, vI v2.toInt, vI v3.toInt] : List Value) = [.int v0, .int v1, .int v2, .int v3] := by simp only [vI, vL, Int32.ofInt_toInt, Int64.ofInt_toInt]
  exact ⟨f1, f2, Int32.ofInt r, toM A1, toM A2, by rw [← el]; exact c1, by rw [← el]; exact c2, A2, S', rfl, w2, h⟩
theorem go9_5 (v0 : Int32) (hw : wf A) (hI : IV t A S) (ht : t < 512) : Go9 t 5 [.int v0] A := by
  obtain ⟨r, A1, A2, S', e1, e2, h⟩ := pr5 (a0 := v0.toInt) hI ht
  obtain ⟨⟨f1, c1⟩, _, w1⟩ := cx15_strike 1000 (d := 59) e1 (r32_toInt v0) hw
  obtain ⟨⟨f2, c2⟩, _, w2⟩ := cx151_strike 1000 (d := 59) e2 (r32_toInt v0) w1
  have el : ([vI v0.toInt] : List Value) = [.int v0] := by simp only [vI, vL, Int32.ofInt_toInt, Int64.ofInt_toInt]
  exact ⟨f1, f2, Int32.ofInt r, toM A1, toM A2, by rw [← el]; exact c1, by rw [← el]; exact c2, A2, S', rfl, w2, h⟩
theorem go9_6 (v0 v1 : Int32) (hw : wf A) (hI : IV t A S) (ht : t < 512) : Go9 t 6 [.int v0, .int v1] A := by
  obtain ⟨r, A1, A2, S', e1, e2, h⟩ := pr6 (a0 := v0.toInt) (a1 := v1.toInt) hI ht
  obtain ⟨⟨f1, c1⟩, _, w1⟩ := cx18_isStruck 1000 (d := 54) e1 (r32_toInt v0) (r32_toInt v1) hw
  obtain ⟨⟨f2, c2⟩, _, w2⟩ := cx152_isStruck 1000 (d := 57) e2 (r32_toInt v0) (r32_toInt v1) w1
  have el : ([vI v0.toInt, vI v1.toInt] : List Value) = [.int v0, .int v1] := by simp only [vI, vL, Int32.ofInt_toInt, Int64.ofInt_toInt]
  exact ⟨f1, f2, Int32.ofInt r, toM A1, toM A2, by rw [← el]; exact c1, by rw [← el]; exact c2, A2, S', rfl, w2, h⟩
theorem go9_7 (v0 v1 v2 : Int32) (hw : wf A) (hI : IV t A S) (ht : t < 512) : Go9 t 7 [.int v0, .int v1, .int v2] A := by
  obtain ⟨r, A1, A2, S', e1, e2, h⟩ := pr7 (a0 := v0.toInt) (a1 := v1.toInt) (a2 := v2.toInt) hI ht
  obtain ⟨⟨f1, c1⟩, _, w1⟩ := cx31_heightAt 1000 (d := 54) e1 (r32_toInt v0) (r32_toInt v1) (r32_toInt v2) hw
  obtain ⟨⟨f2, c2⟩, _, w2⟩ := cx160_heightAt 1000 (d := 55) e2 (r32_toInt v0) (r32_toInt v1) (r32_toInt v2) w1
  have el : ([vI v0.toInt, vI v1.toInt, vI v2.toInt] : List Value) = [.int v0, .int v1, .int v2] := by simp only [vI, vL, Int32.ofInt_toInt, Int64.ofInt_toInt]
  exact ⟨f1, f2, Int32.ofInt r, toM A1, toM A2, by rw [← el]; exact c1, by rw [← el]; exact c2, A2, S', rfl, w2, h⟩
theorem go9_8 (v0 v1 v2 v3 : Int32) (hw : wf A) (hI : IV t A S) (ht : t < 512) : Go9 t 8 [.int v0, .int v1, .int v2, .int v3] A := by
  obtain ⟨r, A1, A2, S', e1, e2, h⟩ := pr8 (a0 := v0.toInt) (a1 := v1.toInt) (a2 := v2.toInt) (a3 := v3.toInt) hI ht
  obtain ⟨⟨f1, c1⟩, _, w1⟩ := cx34_measure 1000 (d := 59) e1 (r32_toInt v0) (r32_toInt v1) (r32_toInt v2) (r32_toInt v3) hw
  obtain ⟨⟨f2, c2⟩, _, w2⟩ := cx163_measure 1000 (d := 59) e2 (r32_toInt v0) (r32_toInt v1) (r32_toInt v2) (r32_toInt v3) w1
  have el : ([vI v0.toInt, vI v1.toInt, vI v2.toInt, vI v3.toInt] : List Value) = [.int v0, .int v1, .int v2, .int v3] := by simp only [vI, vL, Int32.ofInt_toInt, Int64.ofInt_toInt]
  exact ⟨f1, f2, Int32.ofInt r, toM A1, toM A2, by rw [← el]; exact c1, by rw [← el]; exact c2, A2, S', rfl, w2, h⟩
theorem go9_9 (v0 : Int32) (hw : wf A) (hI : IV t A S) (ht : t < 512) : Go9 t 9 [.int v0] A := by
  obtain ⟨r, A1, A2, S', e1, e2, h⟩ := pr9 (a0 := v0.toInt) hI ht
  obtain ⟨⟨f1, c1⟩, _, w1⟩ := cx36_drop 1000 (d := 59) e1 (r32_toInt v0) hw
  obtain ⟨⟨f2, c2⟩, _, w2⟩ := cx164_drop 1000 (d := 59) e2 (r32_toInt v0) w1
  have el : ([vI v0.toInt] : List Value) = [.int v0] := by simp only [vI, vL, Int32.ofInt_toInt, Int64.ofInt_toInt]
  exact ⟨f1, f2, Int32.ofInt r, toM A1, toM A2, by rw [← el]; exact c1, by rw [← el]; exact c2, A2, S', rfl, w2, h⟩
theorem go9_10 (v0 v1 : Int32) (hw : wf A) (hI : IV t A S) (ht : t < 512) : Go9 t 10 [.int v0, .int v1] A := by
  obtain ⟨r, A1, A2, S', e1, e2, h⟩ := pr10 (a0 := v0.toInt) (a1 := v1.toInt) hI ht
  obtain ⟨⟨f1, c1⟩, _, w1⟩ := cx38_counts 1000 (d := 54) e1 (r32_toInt v0) (r32_toInt v1) hw
  obtain ⟨⟨f2, c2⟩, _, w2⟩ := cx165_counts 1000 (d := 54) e2 (r32_toInt v0) (r32_toInt v1) w1
  have el : ([vI v0.toInt, vI v1.toInt] : List Value) = [.int v0, .int v1] := by simp only [vI, vL, Int32.ofInt_toInt, Int64.ofInt_toInt]
  exact ⟨f1, f2, Int32.ofInt r, toM A1, toM A2, by rw [← el]; exact c1, by rw [← el]; exact c2, A2, S', rfl, w2, h⟩
theorem go9_11 (v0 : Int32) (v1 : Int64) (hw : wf A) (hI : IV t A S) (ht : t < 512) : Go9 t 11 [.int v0, .long v1] A := by
  obtain ⟨r, A1, A2, S', e1, e2, h⟩ := pr11 (a0 := v0.toInt) (a1 := v1.toInt) hI ht
  obtain ⟨⟨f1, c1⟩, _, w1⟩ := cx40_feed 1000 (d := 59) e1 (r32_toInt v0) (r64_toInt v1) hw
  obtain ⟨⟨f2, c2⟩, _, w2⟩ := cx167_feed 1000 (d := 59) e2 (r32_toInt v0) (r64_toInt v1) w1
  have el : ([vI v0.toInt, vL v1.toInt] : List Value) = [.int v0, .long v1] := by simp only [vI, vL, Int32.ofInt_toInt, Int64.ofInt_toInt]
  exact ⟨f1, f2, Int32.ofInt r, toM A1, toM A2, by rw [← el]; exact c1, by rw [← el]; exact c2, A2, S', rfl, w2, h⟩
theorem go9_12 (v0 v1 : Int32) (hw : wf A) (hI : IV t A S) (ht : t < 512) : Go9 t 12 [.int v0, .int v1] A := by
  obtain ⟨r, A1, A2, S', e1, e2, h⟩ := pr12 (a0 := v0.toInt) (a1 := v1.toInt) hI ht
  obtain ⟨⟨f1, c1⟩, _, w1⟩ := cx42_standard 1000 (d := 22) e1 (r32_toInt v0) (r32_toInt v1) hw
  obtain ⟨⟨f2, c2⟩, _, w2⟩ := cx168_standard 1000 (d := 55) e2 (r32_toInt v0) (r32_toInt v1) w1
  have el : ([vI v0.toInt, vI v1.toInt] : List Value) = [.int v0, .int v1] := by simp only [vI, vL, Int32.ofInt_toInt, Int64.ofInt_toInt]
  exact ⟨f1, f2, Int32.ofInt r, toM A1, toM A2, by rw [← el]; exact c1, by rw [← el]; exact c2, A2, S', rfl, w2, h⟩
theorem go9_13 (v0 v1 : Int32) (hw : wf A) (hI : IV t A S) (ht : t < 512) : Go9 t 13 [.int v0, .int v1] A := by
  obtain ⟨r, A1, A2, S', e1, e2, h⟩ := pr13 (a0 := v0.toInt) (a1 := v1.toInt) hI ht
  obtain ⟨⟨f1, c1⟩, _, w1⟩ := cx64_low 1000 (d := 58) e1 (r32_toInt v0) (r32_toInt v1) hw
  obtain ⟨⟨f2, c2⟩, _, w2⟩ := cx177_low 1000 (d := 58) e2 (r32_toInt v0) (r32_toInt v1) w1
  have el : ([vI v0.toInt, vI v1.toInt] : List Value) = [.int v0, .int v1] := by simp only [vI, vL, Int32.ofInt_toInt, Int64.ofInt_toInt]
  exact ⟨f1, f2, Int32.ofInt r, toM A1, toM A2, by rw [← el]; exact c1, by rw [← el]; exact c2, A2, S', rfl, w2, h⟩
theorem go9_14 (v0 v1 : Int32) (hw : wf A) (hI : IV t A S) (ht : t < 512) : Go9 t 14 [.int v0, .int v1] A := by
  obtain ⟨r, A1, A2, S', e1, e2, h⟩ := pr14 (a0 := v0.toInt) (a1 := v1.toInt) hI ht
  obtain ⟨⟨f1, c1⟩, _, w1⟩ := cx65_stretch 1000 (d := 59) e1 (r32_toInt v0) (r32_toInt v1) hw
  obtain ⟨⟨f2, c2⟩, _, w2⟩ := cx178_stretch 1000 (d := 59) e2 (r32_toInt v0) (r32_toInt v1) w1
  have el : ([vI v0.toInt, vI v1.toInt] : List Value) = [.int v0, .int v1] := by simp only [vI, vL, Int32.ofInt_toInt, Int64.ofInt_toInt]
  exact ⟨f1, f2, Int32.ofInt r, toM A1, toM A2, by rw [← el]; exact c1, by rw [← el]; exact c2, A2, S', rfl, w2, h⟩
theorem go9_15 (v0 v1 v2 : Int32) (hw : wf A) (hI : IV t A S) (ht : t < 512) : Go9 t 15 [.int v0, .int v1, .int v2] A := by
  obtain ⟨r, A1, A2, S', e1, e2, h⟩ := pr15 (a0 := v0.toInt) (a1 := v1.toInt) (a2 := v2.toInt) hI ht
  obtain ⟨⟨f1, c1⟩, _, w1⟩ := cx68_points 1000 (d := 54) e1 (r32_toInt v0) (r32_toInt v1) (r32_toInt v2) hw
  obtain ⟨⟨f2, c2⟩, _, w2⟩ := cx179_points 1000 (d := 52) e2 (r32_toInt v0) (r32_toInt v1) (r32_toInt v2) w1
  have el : ([vI v0.toInt, vI v1.toInt, vI v2.toInt] : List Value) = [.int v0, .int v1, .int v2] := by simp only [vI, vL, Int32.ofInt_toInt, Int64.ofInt_toInt]
  exact ⟨f1, f2, Int32.ofInt r, toM A1, toM A2, by rw [← el]; exact c1, by rw [← el]; exact c2, A2, S', rfl, w2, h⟩
theorem go9_16 (v0 v1 v2 v3 v4 : Int32) (hw : wf A) (hI : IV t A S) (ht : t < 512) : Go9 t 16 [.int v0, .int v1, .int v2, .int v3, .int v4] A := by
  obtain ⟨r, A1, A2, S', e1, e2, h⟩ := pr16 (a0 := v0.toInt) (a1 := v1.toInt) (a2 := v2.toInt) (a3 := v3.toInt) (a4 := v4.toInt) hI ht
  obtain ⟨⟨f1, c1⟩, _, w1⟩ := cx78_point 1000 (d := 54) e1 (r32_toInt v0) (r32_toInt v1) (r32_toInt v2) (r32_toInt v3) (r32_toInt v4) hw
  obtain ⟨⟨f2, c2⟩, _, w2⟩ := cx183_point 1000 (d := 52) e2 (r32_toInt v0) (r32_toInt v1) (r32_toInt v2) (r32_toInt v3) (r32_toInt v4) w1
  have el : ([vI v0.toInt, vI v1.toInt, vI v2.toInt, vI v3.toInt, vI v4.toInt] : List Value) = [.int v0, .int v1, .int v2, .int v3, .int v4] := by simp only [vI, vL, Int32.ofInt_toInt, Int64.ofInt_toInt]
  exact ⟨f1, f2, Int32.ofInt r, toM A1, toM A2, by rw [← el]; exact c1, by rw [← el]; exact c2, A2, S', rfl, w2, h⟩
theorem go9_17 (v0 v1 v2 : Int32) (hw : wf A) (hI : IV t A S) (ht : t < 512) : Go9 t 17 [.int v0, .int v1, .int v2] A := by
  obtain ⟨r, A1, A2, S', e1, e2, h⟩ := pr17 (a0 := v0.toInt) (a1 := v1.toInt) (a2 := v2.toInt) hI ht
  obtain ⟨⟨f1, c1⟩, _, w1⟩ := cx79_flowAt 1000 (d := 54) e1 (r32_toInt v0) (r32_toInt v1) (r32_toInt v2) hw
  obtain ⟨⟨f2, c2⟩, _, w2⟩ := cx184_flowAt 1000 (d := 52) e2 (r32_toInt v0) (r32_toInt v1) (r32_toInt v2) w1
  have el : ([vI v0.toInt, vI v1.toInt, vI v2.toInt] : List Value) = [.int v0, .int v1, .int v2] := by simp only [vI, vL, Int32.ofInt_toInt, Int64.ofInt_toInt]
  exact ⟨f1, f2, Int32.ofInt r, toM A1, toM A2, by rw [← el]; exact c1, by rw [← el]; exact c2, A2, S', rfl, w2, h⟩
theorem go9_18 (v0 v1 v2 v3 v4 : Int32) (hw : wf A) (hI : IV t A S) (ht : t < 512) : Go9 t 18 [.int v0, .int v1, .int v2, .int v3, .int v4] A := by
  obtain ⟨r, A1, A2, S', e1, e2, h⟩ := pr18 (a0 := v0.toInt) (a1 := v1.toInt) (a2 := v2.toInt) (a3 := v3.toInt) (a4 := v4.toInt) hI ht
  obtain ⟨⟨f1, c1⟩, _, w1⟩ := cx82_under 1000 (d := 59) e1 (r32_toInt v0) (r32_toInt v1) (r32_toInt v2) (r32_toInt v3) (r32_toInt v4) hw
  obtain ⟨⟨f2, c2⟩, _, w2⟩ := cx186_under 1000 (d := 59) e2 (r32_toInt v0) (r32_toInt v1) (r32_toInt v2) (r32_toInt v3) (r32_toInt v4) w1
  have el : ([vI v0.toInt, vI v1.toInt, vI v2.toInt, vI v3.toInt, vI v4.toInt] : List Value) = [.int v0, .int v1, .int v2, .int v3, .int v4] := by simp only [vI, vL, Int32.ofInt_toInt, Int64.ofInt_toInt]
  exact ⟨f1, f2, Int32.ofInt r, toM A1, toM A2, by rw [← el]; exact c1, by rw [← el]; exact c2, A2, S', rfl, w2, h⟩
theorem go9_19 (v0 v1 v2 v3 : Int32) (hw : wf A) (hI : IV t A S) (ht : t < 512) : Go9 t 19 [.int v0, .int v1, .int v2, .int v3] A := by
  obtain ⟨r, A1, A2, S', e1, e2, h⟩ := pr19 (a0 := v0.toInt) (a1 := v1.toInt) (a2 := v2.toInt) (a3 := v3.toInt) hI ht
  obtain ⟨⟨f1, c1⟩, _, w1⟩ := cx84_flowOf 1000 (d := 54) e1 (r32_toInt v0) (r32_toInt v1) (r32_toInt v2) (r32_toInt v3) hw
  obtain ⟨⟨f2, c2⟩, _, w2⟩ := cx187_flowOf 1000 (d := 51) e2 (r32_toInt v0) (r32_toInt v1) (r32_toInt v2) (r32_toInt v3) w1
  have el : ([vI v0.toInt, vI v1.toInt, vI v2.toInt, vI v3.toInt] : List Value) = [.int v0, .int v1, .int v2, .int v3] := by simp only [vI, vL, Int32.ofInt_toInt, Int64.ofInt_toInt]
  exact ⟨f1, f2, Int32.ofInt r, toM A1, toM A2, by rw [← el]; exact c1, by rw [← el]; exact c2, A2, S', rfl, w2, h⟩
theorem go9_20 (v0 v1 v2 v3 : Int32) (hw : wf A) (hI : IV t A S) (ht : t < 512) : Go9 t 20 [.int v0, .int v1, .int v2, .int v3] A := by
  obtain ⟨r, A1, A2, S', e1, e2, h⟩ := pr20 (a0 := v0.toInt) (a1 := v1.toInt) (a2 := v2.toInt) (a3 := v3.toInt) hI ht
  obtain ⟨⟨f1, c1⟩, _, w1⟩ := cx94_base 1000 (d := 59) e1 (r32_toInt v0) (r32_toInt v1) (r32_toInt v2) (r32_toInt v3) hw
  obtain ⟨⟨f2, c2⟩, _, w2⟩ := cx190_base 1000 (d := 59) e2 (r32_toInt v0) (r32_toInt v1) (r32_toInt v2) (r32_toInt v3) w1
  have el : ([vI v0.toInt, vI v1.toInt, vI v2.toInt, vI v3.toInt] : List Value) = [.int v0, .int v1, .int v2, .int v3] := by simp only [vI, vL, Int32.ofInt_toInt, Int64.ofInt_toInt]
  exact ⟨f1, f2, Int32.ofInt r, toM A1, toM A2, by rw [← el]; exact c1, by rw [← el]; exact c2, A2, S', rfl, w2, h⟩
theorem go9_21 (v0 v1 : Int32) (hw : wf A) (hI : IV t A S) (ht : t < 512) : Go9 t 21 [.int v0, .int v1] A := by
  obtain ⟨r, A1, A2, S', e1, e2, h⟩ := pr21 (a0 := v0.toInt) (a1 := v1.toInt) hI ht
  obtain ⟨⟨f1, c1⟩, _, w1⟩ := cx97_breaks 1000 (d := 54) e1 (r32_toInt v0) (r32_toInt v1) hw
  obtain ⟨⟨f2, c2⟩, _, w2⟩ := cx191_breaks 1000 (d := 53) e2 (r32_toInt v0) (r32_toInt v1) w1
  have el : ([vI v0.toInt, vI v1.toInt] : List Value) = [.int v0, .int v1] := by simp only [vI, vL, Int32.ofInt_toInt, Int64.ofInt_toInt]
  exact ⟨f1, f2, Int32.ofInt r, toM A1, toM A2, by rw [← el]; exact c1, by rw [← el]; exact c2, A2, S', rfl, w2, h⟩
theorem go9_22 (v0 v1 : Int32) (hw : wf A) (hI : IV t A S) (ht : t < 512) : Go9 t 22 [.int v0, .int v1] A := by
  obtain ⟨r, A1, A2, S', e1, e2, h⟩ := pr22 (a0 := v0.toInt) (a1 := v1.toInt) hI ht
  obtain ⟨⟨f1, c1⟩, _, w1⟩ := cx106_shift 1000 (d := 54) e1 (r32_toInt v0) (r32_toInt v1) hw
  obtain ⟨⟨f2, c2⟩, _, w2⟩ := cx199_shift 1000 (d := 53) e2 (r32_toInt v0) (r32_toInt v1) w1
  have el : ([vI v0.toInt, vI v1.toInt] : List Value) = [.int v0, .int v1] := by simp only [vI, vL, Int32.ofInt_toInt, Int64.ofInt_toInt]
  exact ⟨f1, f2, Int32.ofInt r, toM A1, toM A2, by rw [← el]; exact c1, by rw [← el]; exact c2, A2, S', rfl, w2, h⟩
theorem go9_23 (v0 : Int32) (hw : wf A) (hI : IV t A S) (ht : t < 512) : Go9 t 23 [.int v0] A := by
  obtain ⟨r, A1, A2, S', e1, e2, h⟩ := pr23 (a0 := v0.toInt) hI ht
  obtain ⟨⟨f1, c1⟩, _, w1⟩ := cx109_put 1000 (d := 59) e1 (r32_toInt v0) hw
  obtain ⟨⟨f2, c2⟩, _, w2⟩ := cx200_put 1000 (d := 59) e2 (r32_toInt v0) w1
  have el : ([vI v0.toInt] : List Value) = [.int v0] := by simp only [vI, vL, Int32.ofInt_toInt, Int64.ofInt_toInt]
  exact ⟨f1, f2, Int32.ofInt r, toM A1, toM A2, by rw [← el]; exact c1, by rw [← el]; exact c2, A2, S', rfl, w2, h⟩
theorem go9_24 (v0 : Int32) (hw : wf A) (hI : IV t A S) (ht : t < 512) : Go9 t 24 [.int v0] A := by
  obtain ⟨r, A1, A2, S', e1, e2, h⟩ := pr24 (a0 := v0.toInt) hI ht
  obtain ⟨⟨f1, c1⟩, _, w1⟩ := cx110_judge 1000 (d := 54) e1 (r32_toInt v0) hw
  obtain ⟨⟨f2, c2⟩, _, w2⟩ := cx201_judge 1000 (d := 53) e2 (r32_toInt v0) w1
  have el : ([vI v0.toInt] : List Value) = [.int v0] := by simp only [vI, vL, Int32.ofInt_toInt, Int64.ofInt_toInt]
  exact ⟨f1, f2, Int32.ofInt r, toM A1, toM A2, by rw [← el]; exact c1, by rw [← el]; exact c2, A2, S', rfl, w2, h⟩
theorem go9_25 (v0 v1 : Int32) (hw : wf A) (hI : IV t A S) (ht : t < 512) : Go9 t 25 [.int v0, .int v1] A := by
  obtain ⟨r, A1, A2, S', e1, e2, h⟩ := pr25 (a0 := v0.toInt) (a1 := v1.toInt) hI ht
  obtain ⟨⟨f1, c1⟩, _, w1⟩ := cx112_beside 1000 (d := 58) e1 (r32_toInt v0) (r32_toInt v1) hw
  obtain ⟨⟨f2, c2⟩, _, w2⟩ := cx202_beside 1000 (d := 58) e2 (r32_toInt v0) (r32_toInt v1) w1
  have el : ([vI v0.toInt, vI v1.toInt] : List Value) = [.int v0, .int v1] := by simp only [vI, vL, Int32.ofInt_toInt, Int64.ofInt_toInt]
  exact ⟨f1, f2, Int32.ofInt r, toM A1, toM A2, by rw [← el]; exact c1, by rw [← el]; exact c2, A2, S', rfl, w2, h⟩
theorem go9_26 (v0 v1 v2 : Int32) (hw : wf A) (hI : IV t A S) (ht : t < 512) : Go9 t 26 [.int v0, .int v1, .int v2] A := by
  obtain ⟨r, A1, A2, S', e1, e2, h⟩ := pr26 (a0 := v0.toInt) (a1 := v1.toInt) (a2 := v2.toInt) hI ht
  obtain ⟨⟨f1, c1⟩, _, w1⟩ := cx113_gap 1000 (d := 54) e1 (r32_toInt v0) (r32_toInt v1) (r32_toInt v2) hw
  obtain ⟨⟨f2, c2⟩, _, w2⟩ := cx203_gap 1000 (d := 55) e2 (r32_toInt v0) (r32_toInt v1) (r32_toInt v2) w1
  have el : ([vI v0.toInt, vI v1.toInt, vI v2.toInt] : List Value) = [.int v0, .int v1, .int v2] := by simp only [vI, vL, Int32.ofInt_toInt, Int64.ofInt_toInt]
  exact ⟨f1, f2, Int32.ofInt r, toM A1, toM A2, by rw [← el]; exact c1, by rw [← el]; exact c2, A2, S', rfl, w2, h⟩
theorem go9_27 (v0 v1 v2 v3 : Int32) (hw : wf A) (hI : IV t A S) (ht : t < 512) : Go9 t 27 [.int v0, .int v1, .int v2, .int v3] A := by
  obtain ⟨r, A1, A2, S', e1, e2, h⟩ := pr27 (a0 := v0.toInt) (a1 := v1.toInt) (a2 := v2.toInt) (a3 := v3.toInt) hI ht
  obtain ⟨⟨f1, c1⟩, _, w1⟩ := cx120_peak 1000 (d := 54) e1 (r32_toInt v0) (r32_toInt v1) (r32_toInt v2) (r32_toInt v3) hw
  obtain ⟨⟨f2, c2⟩, _, w2⟩ := cx205_peak 1000 (d := 51) e2 (r32_toInt v0) (r32_toInt v1) (r32_toInt v2) (r32_toInt v3) w1
  have el : ([vI v0.toInt, vI v1.toInt, vI v2.toInt, vI v3.toInt] : List Value) = [.int v0, .int v1, .int v2, .int v3] := by simp only [vI, vL, Int32.ofInt_toInt, Int64.ofInt_toInt]
  exact ⟨f1, f2, Int32.ofInt r, toM A1, toM A2, by rw [← el]; exact c1, by rw [← el]; exact c2, A2, S', rfl, w2, h⟩
theorem go9_28 (v0 v1 : Int32) (hw : wf A) (hI : IV t A S) (ht : t < 512) : Go9 t 28 [.int v0, .int v1] A := by
  obtain ⟨r, A1, A2, S', e1, e2, h⟩ := pr28 (a0 := v0.toInt) (a1 := v1.toInt) hI ht
  obtain ⟨⟨f1, c1⟩, _, w1⟩ := cx122_often 1000 (d := 54) e1 (r32_toInt v0) (r32_toInt v1) hw
  obtain ⟨⟨f2, c2⟩, _, w2⟩ := cx206_often 1000 (d := 51) e2 (r32_toInt v0) (r32_toInt v1) w1
  have el : ([vI v0.toInt, vI v1.toInt] : List Value) = [.int v0, .int v1] := by simp only [vI, vL, Int32.ofInt_toInt, Int64.ofInt_toInt]
  exact ⟨f1, f2, Int32.ofInt r, toM A1, toM A2, by rw [← el]; exact c1, by rw [← el]; exact c2, A2, S', rfl, w2, h⟩
theorem go9_29 (v0 v1 v2 v3 v4 : Int32) (hw : wf A) (hI : IV t A S) (ht : t < 512) : Go9 t 29 [.int v0, .int v1, .int v2, .int v3, .int v4] A := by
  obtain ⟨r, A1, A2, S', e1, e2, h⟩ := pr29 (a0 := v0.toInt) (a1 := v1.toInt) (a2 := v2.toInt) (a3 := v3.toInt) (a4 := v4.toInt) hI ht
  obtain ⟨⟨f1, c1⟩, _, w1⟩ := cx123_agree 1000 (d := 53) e1 (r32_toInt v0) (r32_toInt v1) (r32_toInt v2) (r32_toInt v3) (r32_toInt v4) hw
  obtain ⟨⟨f2, c2⟩, _, w2⟩ := cx207_agree 1000 (d := 51) e2 (r32_toInt v0) (r32_toInt v1) (r32_toInt v2) (r32_toInt v3) (r32_toInt v4) w1
  have el : ([vI v0.toInt, vI v1.toInt, vI v2.toInt, vI v3.toInt, vI v4.toInt] : List Value) = [.int v0, .int v1, .int v2, .int v3, .int v4] := by simp only [vI, vL, Int32.ofInt_toInt, Int64.ofInt_toInt]
  exact ⟨f1, f2, Int32.ofInt r, toM A1, toM A2, by rw [← el]; exact c1, by rw [← el]; exact c2, A2, S', rfl, w2, h⟩
theorem go9_30 (v0 : Int32) (hw : wf A) (hI : IV t A S) (ht : t < 512) : Go9 t 30 [.int v0] A := by
  obtain ⟨r, A1, A2, S', e1, e2, h⟩ := pr30 (a0 := v0.toInt) hI ht
  obtain ⟨⟨f1, c1⟩, _, w1⟩ := cx128_next 1000 (d := 54) e1 (r32_toInt v0) hw
  obtain ⟨⟨f2, c2⟩, _, w2⟩ := cx208_next 1000 (d := 53) e2 (r32_toInt v0) w1
  have el : ([vI v0.toInt] : List Value) = [.int v0] := by simp only [vI, vL, Int32.ofInt_toInt, Int64.ofInt_toInt]
  exact ⟨f1, f2, Int32.ofInt r, toM A1, toM A2, by rw [← el]; exact c1, by rw [← el]; exact c2, A2, S', rfl, w2, h⟩
theorem go9_31 (v0 v1 : Int32) (hw : wf A) (hI : IV t A S) (ht : t < 512) : Go9 t 31 [.int v0, .int v1] A := by
  obtain ⟨r, A1, A2, S', e1, e2, h⟩ := pr31 (a0 := v0.toInt) (a1 := v1.toInt) hI ht
  obtain ⟨⟨f1, c1⟩, _, w1⟩ := cx132_publish 1000 (d := 54) e1 (r32_toInt v0) (r32_toInt v1) hw
  obtain ⟨⟨f2, c2⟩, _, w2⟩ := cx209_publish 1000 (d := 51) e2 (r32_toInt v0) (r32_toInt v1) w1
  have el : ([vI v0.toInt, vI v1.toInt] : List Value) = [.int v0, .int v1] := by simp only [vI, vL, Int32.ofInt_toInt, Int64.ofInt_toInt]
  exact ⟨f1, f2, Int32.ofInt r, toM A1, toM A2, by rw [← el]; exact c1, by rw [← el]; exact c2, A2, S', rfl, w2, h⟩
theorem go9_32 (v0 v1 : Int32) (hw : wf A) (hI : IV t A S) (ht : t < 512) : Go9 t 32 [.int v0, .int v1] A := by
  obtain ⟨r, A1, A2, S', e1, e2, h⟩ := pr32 (a0 := v0.toInt) (a1 := v1.toInt) hI ht
  obtain ⟨⟨f1, c1⟩, _, w1⟩ := cx135_published 1000 (d := 54) e1 (r32_toInt v0) (r32_toInt v1) hw
  obtain ⟨⟨f2, c2⟩, _, w2⟩ := cx210_published 1000 (d := 51) e2 (r32_toInt v0) (r32_toInt v1) w1
  have el : ([vI v0.toInt, vI v1.toInt] : List Value) = [.int v0, .int v1] := by simp only [vI, vL, Int32.ofInt_toInt, Int64.ofInt_toInt]
  exact ⟨f1, f2, Int32.ofInt r, toM A1, toM A2, by rw [← el]; exact c1, by rw [← el]; exact c2, A2, S', rfl, w2, h⟩
theorem go9_33 (hw : wf A) (hI : IV t A S) (ht : t < 512) : Go9 t 33 [] A := by
  obtain ⟨r, A1, A2, S', e1, e2, h⟩ := pr33 hI ht
  obtain ⟨⟨f1, c1⟩, _, w1⟩ := cx137_mend 1000 (d := 54) e1 hw
  obtain ⟨⟨f2, c2⟩, _, w2⟩ := cx211_mend 1000 (d := 51) e2 w1
  have el : ([] : List Value) = [] := by simp only [vI, vL, Int32.ofInt_toInt, Int64.ofInt_toInt]
  exact ⟨f1, f2, Int32.ofInt r, toM A1, toM A2, by rw [← el]; exact c1, by rw [← el]; exact c2, A2, S', rfl, w2, h⟩
theorem go9_34 (v0 : Int32) (hw : wf A) (hI : IV t A S) (ht : t < 512) : Go9 t 34 [.int v0] A := by
  obtain ⟨r, A1, A2, S', e1, e2, h⟩ := pr34 (a0 := v0.toInt) hI ht
  obtain ⟨⟨f1, c1⟩, _, w1⟩ := cx139_limit 1000 (d := 59) e1 (r32_toInt v0) hw
  obtain ⟨⟨f2, c2⟩, _, w2⟩ := cx212_limit 1000 (d := 59) e2 (r32_toInt v0) w1
  have el : ([vI v0.toInt] : List Value) = [.int v0] := by simp only [vI, vL, Int32.ofInt_toInt, Int64.ofInt_toInt]
  exact ⟨f1, f2, Int32.ofInt r, toM A1, toM A2, by rw [← el]; exact c1, by rw [← el]; exact c2, A2, S', rfl, w2, h⟩
theorem go9_35 (v0 : Int32) (hw : wf A) (hI : IV t A S) (ht : t < 512) : Go9 t 35 [.int v0] A := by
  obtain ⟨r, A1, A2, S', e1, e2, h⟩ := pr35 (a0 := v0.toInt) hI ht
  obtain ⟨⟨f1, c1⟩, _, w1⟩ := cx140_count 1000 (d := 60) e1 (r32_toInt v0) hw
  obtain ⟨⟨f2, c2⟩, _, w2⟩ := cx213_count 1000 (d := 60) e2 (r32_toInt v0) w1
  have el : ([vI v0.toInt] : List Value) = [.int v0] := by simp only [vI, vL, Int32.ofInt_toInt, Int64.ofInt_toInt]
  exact ⟨f1, f2, Int32.ofInt r, toM A1, toM A2, by rw [← el]; exact c1, by rw [← el]; exact c2, A2, S', rfl, w2, h⟩
end SPEC
