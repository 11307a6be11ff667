/-! the law's own words (the skeleton's), and its loop -/
/-! THE CLAIM OUT OF ONE WALK OF THE LAW'S BODY. Your part is whole_start (and what it stands on); all else here is the same for every law, but numbers. -/
def R_law : String := "RiverGaugeLaw"
def lw_P (b : Addr) (xs : List Int32) (args : Array Value) (s : State) : Prop := args = #[.ref b] ∧ s.IntsAt b xs ∧ xs.length ≤ 3072 ∧ (Jvm.Cond.and given_1 narrow_1).before args s = true
def lw_Q (_ : Array Value) (s : State) (o : Outcome) (t : State) : Prop := o = .returned (some (.int 1)) ∧ Framed s o t [] 600000 7302250
def lw_Z (below : List Frame) (a : Array Value) (s : State) : State → Prop := fun t => ∃ o, t.status = .running ∧ Ended t below o ∧ lw_Q a s o t
/-- the law's own end, with 1 on the stack, nothing written that was there before, its room as the claim has it -/
theorem lw_ret {p : Program} {l : Launch} {e : Env} {s : State} {m : MethodId} {below : List Frame} {meth : Method} {c : Code} {b : Nat} (hx : p.tables.exec = Jvm.exec) (hb : c.code = code) (hr : meth.sig.returnType = ret) (hlocks : meth.locks = false) {pc : Nat} {H : Heap} {ls : Array Slot} (hdg : decode code pc = .ok (.ireturn, 1)) : W p l e room_1 s m #[Value.ref b] below meth c H [] 600000 7302250 (lw_Z below #[Value.ref b] s) (F0 m pc ls [.int 1]) := by
  intro T hT X
  obtain ⟨fs, hret, hrun, hended, hW, hframe⟩ := X.leave (v := some (.int 1)) (hlocks := hlocks) (fun h => by rw [hr] at h; cases h)
  have hmeth' : T.vm.method? m = some meth := X.method'
  refine ⟨T.setFrames fs, ?_, .returned (some (.int 1)), hrun, hended, rfl, ⟨_, rfl⟩, hW, hframe⟩
  jvm_step X.here [X.here.top, hx, hb, hdg, hmeth', hr, ret, narrow_b1]
  (try refine ⟨rfl, ?_⟩); (try refine ⟨rfl, ?_⟩)
  first | (intro acts; rw [hret _ acts rfl rfl rfl]) | rw [hret _ _ rfl rfl rfl]
  exact Steps.refl _
/-- what holds at the law's entry: the machine, the code, the tables' words (any of lw_tbl by 'hts w (by decide +kernel)'), the script of L ints xs at the cell b, what the Statement gives of the start (any of its parts by flat_of_before) -/
def lw_At (p : Program) (s : State) (m : MethodId) (meth : Method) (c : Code) (b L : Nat) (xs : Nat → Int32) : Prop :=
  p.tables.exec = Jvm.exec ∧ c.code = code ∧ meth.sig.returnType = ret ∧ c.maxLocals = 4 ∧ s.vm.findClass R_law = some m.cls ∧ (∀ w ∈ lw_tbl, w.before #[Value.ref b] s = true) ∧ va_X b L xs s s.heap ∧ b < s.heap.size ∧ meth.locks = false ∧ (Jvm.Cond.and given_1 narrow_1).before #[Value.ref b] s = true
theorem lz_at {t : List lz_I} (h : t.all (fun e => decide (decode code e.1 = .ok e.2)) = true) {j pc n : Nat} {i : Instr} (hj : t[j]? = some (pc, i, n)) : decode code pc = .ok (i, n) := by
  have := List.all_eq_true.mp h _ (List.mem_of_getElem? hj)
  simp only [decide_eq_true_eq] at this
  exact this
def lz_offs : Array Int := #[159, 182, 205, 248, 291, 344, 367, 400, 443, 496, 519, 552, 615, 648, 681, 714, 757, 820, 863, 926, 979, 1032, 1065, 1098, 1121, 1144, 1177, 1220, 1273, 1306, 1369, 1392, 1425, 1458, 1471, 1494]
theorem lz_offs_ok : (List.range 36).all (fun k => decide ((lz_offs[k]?).map (fun o => (33 : Int) + o) = some (((lz_row k).1 : Nat) : Int))) = true := by decide +kernel
section LAWLOOP2
variable {p : Program} {l : Launch} {e : Env} {s : State} {m : MethodId} {below : List Frame} {meth : Method} {c : Code} {nc ns : Nat}
variable {b L : Nat} {xs : Nat → Int32} {dC : Nat → ClassId} {dI : Nat → Nat → Nat} {ρ : Nat → Nat} {cA : Nat → ClassId} {Inv : Nat → rg_M → Prop}
theorem lz_loop (C0 : lz_Cx p s m c b L xs dC dI ρ cA) (hSp : rg_Spec Inv) (hr : meth.sig.returnType = ret) (hlocks : meth.locks = false) (hL : L ≤ 3072) (hnc : nc ≤ 600000) (hns : ns ≤ 7302250) : ∀ (n t : Nat) (M : rg_M) (H : Heap) (locs : List Loc) (ls : Array Slot), L < 6 * (t + n) → 6 * t ≤ 3078 → Inv t M → lv_has ls 4 [(0, .ref b), (1, .ref (ρ 0)), (2, .ref (ρ 91)), (3, .int (nI (6 * t)))] → va_P (dC, dI) rg_classes (rg_w ρ cA M) H → va_S (fun q => s.heap.size ≤ q) s.heap H locs → W p l e room_1 s m #[Value.ref b] below meth c H locs nc ns (lw_Z below #[Value.ref b] s) (F0 m 18 ls []) := by
  obtain ⟨hx, hb, hml, hown, hts, hK, hX, hbl, hN, hSx, hρ⟩ := id C0
  have hbA : ¬ (s.heap.size ≤ b) := Nat.not_le.mpr hbl
  have hsub : (nI L - (Int8.ofInt 6).toInt32).toInt = (L : Int) - 6 := by
    have h1 : (Int8.ofInt 6).toInt32 = nI 6 := by decide
    rw [h1]
    exact pk_sub_toInt (by omega) (by decide)
  intro n
  induction n with
  | zero =>
    intro t M H locs ls ht ht2 hI hl hP hS
    refine lv_iload_n hx hb (lz_at lz_dh (j := 10) rfl) rfl (lv_at hl 3 rfl) ?_
    refine lv_aload_n hx hb (lz_at lz_dh (j := 11) rfl) rfl (lv_at hl 0 rfl) ?_
    refine va_slen hx hb hX hbl hbA hS (lz_at lz_dh (j := 12) rfl) ?_
    refine lv_bipush hx hb (lz_at lz_dh (j := 13) rfl) rfl ?_
    refine lv_isub hx hb (lz_at lz_dh (j := 14) rfl) ?_
    refine lv_icmp_gt (tgt := 1556) hx hb (lz_at lz_dh (j := 15) rfl) (by decide) (fun _ => ?_) (fun hc => ?_)
    · refine lv_iconst hx hb (lz_at lz_dt (j := 2) rfl) rfl ?_
      refine va_forget hS.2.2 ?_
      refine W.widen hnc hns ?_
      exact lw_ret hx hb hr hlocks (lz_at lz_dt (j := 3) rfl)
    · exfalso
      apply hc
      rw [Int32.lt_iff_toInt_lt]
      have h9 := hsub
      have h8 := nI_toInt (n := 6 * t) (by omega)
      show (nI L - (Int8.ofInt 6).toInt32).toInt < (nI (6 * t)).toInt
      omega
  | succ n ih =>
    intro t M H locs ls ht ht2 hI hl hP hS
    refine lv_iload_n hx hb (lz_at lz_dh (j := 10) rfl) rfl (lv_at hl 3 rfl) ?_
    refine lv_aload_n hx hb (lz_at lz_dh (j := 11) rfl) rfl (lv_at hl 0 rfl) ?_
    refine va_slen hx hb hX hbl hbA hS (lz_at lz_dh (j := 12) rfl) ?_
    refine lv_bipush hx hb (lz_at lz_dh (j := 13) rfl) rfl ?_
    refine lv_isub hx hb (lz_at lz_dh (j := 14) rfl) ?_
    refine lv_icmp_gt (tgt := 1556) hx hb (lz_at lz_dh (j := 15) rfl) (by decide) (fun _ => ?_) (fun hc => ?_)
    · refine lv_iconst hx hb (lz_at lz_dt (j := 2) rfl) rfl ?_
      refine va_forget hS.2.2 ?_
      refine W.widen hnc hns ?_
      exact lw_ret hx hb hr hlocks (lz_at lz_dt (j := 3) rfl)
    · have h8 := nI_toInt (n := 6 * t) (by omega)
      have h6 : 6 * t + 6 ≤ L := by
        have h9 : ¬ (nI L - (Int8.ofInt 6).toInt32).toInt < (nI (6 * t)).toInt := fun h => hc (Int32.lt_iff_toInt_lt.mpr h)
        omega
      have hlast : ∀ (M2 : rg_M) (H1 : Heap) (locs1 : List Loc), Inv (t + 1) M2 → va_P (dC, dI) rg_classes (rg_w ρ cA M2) H1 → va_S (fun q => s.heap.size ≤ q) s.heap H1 locs1 → W p l e room_1 s m #[Value.ref b] below meth c H1 locs1 nc ns (lw_Z below #[Value.ref b] s) (F0 m 1550 ls []) := by
        intro M2 H1 locs1 hI2 hP2 hS2
        refine lv_iinc (v := nI (6 * (t + 1))) (lv' := [(3, .int (nI (6 * (t + 1)))), (0, .ref b), (1, .ref (ρ 0)), (2, .ref (ρ 91))]) hx hb (lz_at lz_dt (j := 0) rfl) hl (k := 3) rfl ?_ (by decide) rfl (fun ls' hl' => ?_)
        · have h1 : Int32.ofInt 6 = nI 6 := by decide
          rw [h1, nI_add]
          rfl
        · refine lv_goto (tgt := 18) hx hb (lz_at lz_dt (j := 1) rfl) (by decide) ?_
          exact ih (t + 1) M2 H1 locs1 ls' (by omega) (by omega) hI2 (lv_sub hl' [1, 2, 3, 0] rfl) hP2 hS2
      have hin0 : ∀ j : Nat, j < 6 → vp_in (nI (6 * t + j)) L := fun j hj => vp_in_nI (by omega) (by omega)
      refine lv_aload_n hx hb (lz_at lz_dh (j := 16) rfl) rfl (lv_at hl 0 rfl) ?_
      refine lv_iload_n hx hb (lz_at lz_dh (j := 17) rfl) rfl (lv_at hl 3 rfl) ?_
      refine va_sld hx hb hX hbl hbA hS (hin0 0 (by omega)) (lz_at lz_dh (j := 18) rfl) ?_
      refine lv_bipush hx hb (lz_at lz_dh (j := 19) rfl) rfl ?_
      refine lv_iand hx hb (lz_at lz_dh (j := 20) rfl) ?_
      obtain ⟨j, hj, ej⟩ := pk_andE (xs (nI (6 * t)).toNatClampNeg) (m := (Int8.ofInt 63).toInt32) 6 (by decide)
      rw [ej]
      have hjt := nI_toInt (n := j) (by omega)
      by_cases hj36 : j < 36
      · have ho := List.all_eq_true.mp lz_offs_ok j (List.mem_range.mpr hj36)
        simp only [decide_eq_true_eq] at ho
        cases ho2 : lz_offs[j]? with
        | none => rw [ho2] at ho; cases ho
        | some off =>
          rw [ho2] at ho
          refine lv_tableIn (off := off) (tgt := (lz_row j).1) hx hb (lz_at lz_dh (j := 21) rfl) (by rw [hjt]; omega) (by rw [hjt]; omega) ?_ (Option.some.inj ho) ?_
          · rw [hjt]
            show lz_offs[((j : Int) - 0).toNat]? = some off
            rw [show ((j : Int) - 0).toNat = j by omega]
            exact ho2
          · refine lz_one C0 hSp (by omega) hI hj36 hl ?_ hP hS hnc hns hlast
            intro i hi
            simp only [List.mem_cons, List.not_mem_nil, or_false] at hi
            have h1 : Int32.ofInt 1 = nI 1 := by decide
            have h2 : Int32.ofInt 2 = nI 2 := by decide
            have h3 : Int32.ofInt 3 = nI 3 := by decide
            have h4 : Int32.ofInt 4 = nI 4 := by decide
            have h5 : Int32.ofInt 5 = nI 5 := by decide
            rcases hi with rfl | rfl | rfl | rfl | rfl
            · rw [h1, nI_add]; exact hin0 1 (by omega)
            · rw [h2, nI_add]; exact hin0 2 (by omega)
            · rw [h3, nI_add]; exact hin0 3 (by omega)
            · rw [h4, nI_add]; exact hin0 4 (by omega)
            · rw [h5, nI_add]; exact hin0 5 (by omega)
      · exact lv_tableOut (tgt := 1550) hx hb (lz_at lz_dh (j := 21) rfl) (Or.inr (by rw [hjt]; omega)) (by decide) (hlast M H locs (hSp.2.1 t M hI) hP hS)
end LAWLOOP2
