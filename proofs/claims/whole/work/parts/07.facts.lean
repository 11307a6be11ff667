theorem rg_lays {C : String} {T : u_T} {N : Nat} {p : List Nat} (h : (List.range N).all (fun k => decide (lw_tbl[p.getD k 0]? = some (u_lay C T k)) && goodWord (u_lay C T k)) = true) : ∀ w ∈ u_ws C T N, w ∈ rg_tbl := by
  intro w hw
  obtain ⟨k, hk, rfl⟩ := List.mem_map.mp hw
  have h1 := List.all_eq_true.mp h k hk
  simp only [Bool.and_eq_true, decide_eq_true_eq] at h1
  exact rg_tbl_mem h1.1 h1.2
theorem rg_in0 : ∀ w ∈ u_ws "RiverGauge" rg_T0 17, w ∈ rg_tbl := rg_lays rg_il0
theorem rg_in1 : ∀ w ∈ u_ws "RiverGauge$Posts" rg_T1 11, w ∈ rg_tbl := rg_lays rg_il1
theorem rg_in2 : ∀ w ∈ u_ws "RiverGauge$Heights" rg_T2 9, w ∈ rg_tbl := rg_lays rg_il2
theorem rg_in3 : ∀ w ∈ u_ws "RiverGauge$Flows" rg_T3 7, w ∈ rg_tbl := rg_lays rg_il3
theorem rg_in4 : ∀ w ∈ u_ws "RiverGauge$Covers" rg_T4 7, w ∈ rg_tbl := rg_lays rg_il4
theorem rg_in5 : ∀ w ∈ u_ws "RiverGauge$Tape" rg_T5 5, w ∈ rg_tbl := rg_lays rg_il5
theorem rg_in6 : ∀ w ∈ u_ws "RiverGauge$Standards" rg_T6 8, w ∈ rg_tbl := rg_lays rg_il6
theorem rg_in7 : ∀ w ∈ u_ws "RiverGauge$View" rg_T7 11, w ∈ rg_tbl := rg_lays rg_il7
theorem rg_in8 : ∀ w ∈ u_ws "RiverGauge$Rating" rg_T8 17, w ∈ rg_tbl := rg_lays rg_il8
theorem rg_in9 : ∀ w ∈ u_ws "RiverGauge$Points" rg_T9 3, w ∈ rg_tbl := rg_lays rg_il9
theorem rg_in10 : ∀ w ∈ u_ws "RiverGauge$Breaks" rg_T10 11, w ∈ rg_tbl := rg_lays rg_il10
theorem rg_in11 : ∀ w ∈ u_ws "RiverGauge$Gaps" rg_T11 5, w ∈ rg_tbl := rg_lays rg_il11
theorem rg_in12 : ∀ w ∈ u_ws "RiverGaugeModel" rg_T12 89, w ∈ rg_tbl := rg_lays rg_il12
def rg_cwA : Nat → Prop
  | 0 => True
  | k + 1 => Cond.code (rg_name k) (rg_bytes k) (rg_maxL k) (rg_ret k) ∈ lw_tbl ∧ rg_cwA k
theorem rg_cwA_ok : rg_cwA 214 := ⟨rg_cw213, rg_cw212, rg_cw211, rg_cw210, rg_cw209, rg_cw208, rg_cw207, rg_cw206, rg_cw205, rg_cw204, rg_cw203, rg_cw202, rg_cw201, rg_cw200, rg_cw199, rg_cw198, rg_cw197, rg_cw196, rg_cw195, rg_cw194, rg_cw193, rg_cw192, rg_cw191, rg_cw190, rg_cw189, rg_cw188, rg_cw187, rg_cw186, rg_cw185, rg_cw184, rg_cw183, rg_cw182, rg_cw181, rg_cw180, rg_cw179, rg_cw178, rg_cw177, rg_cw176, rg_cw175, rg_cw174, rg_cw173, rg_cw172, rg_cw171, rg_cw170, rg_cw169, rg_cw168, rg_cw167, rg_cw166, rg_cw165, rg_cw164, rg_cw163, rg_cw162, rg_cw161, rg_cw160, rg_cw159, rg_cw158, rg_cw157, rg_cw156, rg_cw155, rg_cw154, rg_cw153, rg_cw152, rg_cw151, rg_cw150, rg_cw149, rg_cw148, rg_cw147, rg_cw146, rg_cw145, rg_cw144, rg_cw143, rg_cw142, rg_cw141, rg_cw140, rg_cw139, rg_cw138, rg_cw137, rg_cw136, rg_cw135, rg_cw134, rg_cw133, rg_cw132, rg_cw131, rg_cw130, rg_cw129, rg_cw128, rg_cw127, rg_cw126, rg_cw125, rg_cw124, rg_cw123, rg_cw122, rg_cw121, rg_cw120, rg_cw119, rg_cw118, rg_cw117, rg_cw116, rg_cw115, rg_cw114, rg_cw113, rg_cw112, rg_cw111, rg_cw110, rg_cw109, rg_cw108, rg_cw107, rg_cw106, rg_cw105, rg_cw104, rg_cw103, rg_cw102, rg_cw101, rg_cw100, rg_cw99, rg_cw98, rg_cw97, rg_cw96, rg_cw95, rg_cw94, rg_cw93, rg_cw92, rg_cw91, rg_cw90, rg_cw89, rg_cw88, rg_cw87, rg_cw86, rg_cw85, rg_cw84, rg_cw83, rg_cw82, rg_cw81, rg_cw80, rg_cw79, rg_cw78, rg_cw77, rg_cw76, rg_cw75, rg_cw74, rg_cw73, rg_cw72, rg_cw71, rg_cw70, rg_cw69, rg_cw68, rg_cw67, rg_cw66, rg_cw65, rg_cw64, rg_cw63, rg_cw62, rg_cw61, rg_cw60, rg_cw59, rg_cw58, rg_cw57, rg_cw56, rg_cw55, rg_cw54, rg_cw53, rg_cw52, rg_cw51, rg_cw50, rg_cw49, rg_cw48, rg_cw47, rg_cw46, rg_cw45, rg_cw44, rg_cw43, rg_cw42, rg_cw41, rg_cw40, rg_cw39, rg_cw38, rg_cw37, rg_cw36, rg_cw35, rg_cw34, rg_cw33, rg_cw32, rg_cw31, rg_cw30, rg_cw29, rg_cw28, rg_cw27, rg_cw26, rg_cw25, rg_cw24, rg_cw23, rg_cw22, rg_cw21, rg_cw20, rg_cw19, rg_cw18, rg_cw17, rg_cw16, rg_cw15, rg_cw14, rg_cw13, rg_cw12, rg_cw11, rg_cw10, rg_cw9, rg_cw8, rg_cw7, rg_cw6, rg_cw5, rg_cw4, rg_cw3, rg_cw2, rg_cw1, rg_cw0, trivial⟩
theorem rg_cw_get : ∀ n, rg_cwA n → ∀ y, y < n → Cond.code (rg_name y) (rg_bytes y) (rg_maxL y) (rg_ret y) ∈ lw_tbl
  | 0, _, y, h => absurd h (Nat.not_lt_zero y)
  | n + 1, h, y, hy => by
    by_cases e : y = n
    · subst e; exact h.1
    · exact rg_cw_get n h.2 y (by omega)
theorem rg_cls {ci N : Nat} {C : String} {T : u_T} (h : rg_classes[ci]? = some (C, T, N)) : (∀ w ∈ u_ws C T N, w ∈ rg_tbl) ∧ ∃ ty : Nat → FieldType, rg_tyL[ci]? = some ty ∧ (∀ k, k < N → parseFieldDescriptor (T k).2.2.1 = some (ty k)) ∧ (∀ a, a < N → ∀ b, b < N → a ≠ b → (T a).2.1 ≠ (T b).2.1) := by
  match ci, h with
  | 0, h => cases h; exact ⟨rg_in0, _, rfl, rg_tyok0, rg_nm0⟩
  | 1, h => cases h; exact ⟨rg_in1, _, rfl, rg_tyok1, rg_nm1⟩
  | 2, h => cases h; exact ⟨rg_in2, _, rfl, rg_tyok2, rg_nm2⟩
  | 3, h => cases h; exact ⟨rg_in3, _, rfl, rg_tyok3, rg_nm3⟩
  | 4, h => cases h; exact ⟨rg_in4, _, rfl, rg_tyok4, rg_nm4⟩
  | 5, h => cases h; exact ⟨rg_in5, _, rfl, rg_tyok5, rg_nm5⟩
  | 6, h => cases h; exact ⟨rg_in6, _, rfl, rg_tyok6, rg_nm6⟩
  | 7, h => cases h; exact ⟨rg_in7, _, rfl, rg_tyok7, rg_nm7⟩
  | 8, h => cases h; exact ⟨rg_in8, _, rfl, rg_tyok8, rg_nm8⟩
  | 9, h => cases h; exact ⟨rg_in9, _, rfl, rg_tyok9, rg_nm9⟩
  | 10, h => cases h; exact ⟨rg_in10, _, rfl, rg_tyok10, rg_nm10⟩
  | 11, h => cases h; exact ⟨rg_in11, _, rfl, rg_tyok11, rg_nm11⟩
  | 12, h => cases h; exact ⟨rg_in12, _, rfl, rg_tyok12, rg_nm12⟩
  | ci + 13, h => cases h
theorem rg_row {y : Nat} (h : y < 214) : rg_rok (rg_mr y) = true := by
  have hl : y < rg_mt.length := by rw [rg_mt_len]; exact h
  have e : rg_mr y = rg_mt[y] := by unfold rg_mr; rw [List.getD_eq_getElem?_getD, List.getElem?_eq_getElem hl]; rfl
  have key : ∀ k, k * 26 ≤ y → y < k * 26 + 26 → ((rg_mt.drop (k * 26)).take 26).all rg_rok = true → rg_rok (rg_mr y) = true := by
    intro k h1 h2 h3
    refine List.all_eq_true.mp h3 _ (List.mem_of_getElem? (i := y - k * 26) ?_)
    rw [List.getElem?_take, if_pos (by omega), List.getElem?_drop, show k * 26 + (y - k * 26) = y by omega, List.getElem?_eq_getElem hl, e]
  by_cases g0 : y < 26
  · exact key 0 (by omega) (by omega) rg_mt_ok0
  by_cases g1 : y < 52
  · exact key 1 (by omega) (by omega) rg_mt_ok1
  by_cases g2 : y < 78
  · exact key 2 (by omega) (by omega) rg_mt_ok2
  by_cases g3 : y < 104
  · exact key 3 (by omega) (by omega) rg_mt_ok3
  by_cases g4 : y < 130
  · exact key 4 (by omega) (by omega) rg_mt_ok4
  by_cases g5 : y < 156
  · exact key 5 (by omega) (by omega) rg_mt_ok5
  by_cases g6 : y < 182
  · exact key 6 (by omega) (by omega) rg_mt_ok6
  by_cases g7 : y < 208
  · exact key 7 (by omega) (by omega) rg_mt_ok7
  by_cases g8 : y < 234
  · exact key 8 (by omega) (by omega) rg_mt_ok8
  omega
/-- what a method's row gives -/
theorem rg_row_spec {y : Nat} (h : y < 214) : Cond.code (rg_name y) (rg_bytes y) (rg_maxL y) (rg_ret y) ∈ rg_tbl ∧ Cond.initialized (rg_name y).cls ∈ rg_tbl ∧ rg_on.getD (rg_own y) "" = (rg_name y).cls ∧ ((rg_name y).cls ≠ "java/lang/invoke/MethodHandle" ∧ (rg_name y).cls ≠ "java/lang/invoke/VarHandle" ∧ (parseMethodDescriptor (rg_name y).desc).map (fun d => d.parameters.length) = some (rg_np y)) ∧ plainFor (rg_name y) = true ∧ rg_maxL y ≤ 45 ∧ ((rg_mr y).2.2.2.2.1.2.2 = 1 → Cond.static (rg_name y) ∈ rg_tbl) ∧ ((rg_mr y).2.2.2.2.1.2.2 = 0 → Cond.instanceMethod (rg_name y) ∈ rg_tbl ∧ Cond.selects (rg_name y).cls (rg_name y) (rg_name y) ∈ rg_tbl ∧ (rg_own y = 15 ∧ (rg_name y).cls = "java/lang/String" ∨ (rg_classes[rg_own y]?).map (fun q => q.1) = some (rg_name y).cls)) := by
  have hr := rg_row h
  unfold rg_rok at hr
  simp only [Bool.and_eq_true, decide_eq_true_eq] at hr
  obtain ⟨⟨⟨⟨⟨⟨⟨a2, a3⟩, a4⟩, a5⟩, a6⟩, a7⟩, a8⟩, a9⟩ := hr
  have a1 : Cond.code (rg_name y) (rg_bytes y) (rg_maxL y) (rg_ret y) ∈ rg_tbl := List.mem_filter.mpr ⟨rg_cw_get _ rg_cwA_ok y h, rfl⟩
  have a8' : plainFor (rg_name y) = true := by
    simp only [Bool.or_eq_true, Bool.and_eq_true, beq_iff_eq] at a8
    rcases a8 with a8 | ⟨a8, e8⟩
    · exact plainFor_of_name a8
    · have h9 := rg_mf_ok _ (List.contains_iff_mem.mp a8)
      unfold plainFor
      rw [show (rg_name y).cls = "java/lang/Math" from e8]
      rw [Bool.or_eq_true]
      exact Or.inr h9
  refine ⟨a1, rg_tbl_mem a3 rfl, ?_, ⟨a5, a6, a7⟩, a8', a9, fun e => ?_, fun e => ?_⟩
  · show rg_on.getD (rg_mr y).2.2.2.2.1.1 "" = _
    rw [List.getD_eq_getElem?_getD, a4]; rfl
  · rw [if_pos e] at a2
    exact rg_tbl_mem (of_decide_eq_true a2) rfl
  · rw [if_neg (by rw [e]; decide)] at a2
    simp only [Bool.and_eq_true, Bool.or_eq_true, decide_eq_true_eq] at a2
    exact ⟨rg_tbl_mem a2.1.1 rfl, rg_tbl_mem a2.1.2 rfl, a2.2⟩
theorem rg_okc_get : ∀ (ts : List (List (Nat × Instr × Nat))) (rs : List rg_MR), rg_okc ts rs → ∀ (y : Nat) (t : List (Nat × Instr × Nat)) (r : rg_MR), ts[y]? = some t → rs[y]? = some r → t.all (fun e => decide (decode r.2.1 e.1 = .ok e.2)) = true
  | [], _, _, y, t, r, h, _ => by simp at h
  | _ :: _, [], _, y, t, r, _, h => by simp at h
  | a :: ts, b :: rs, h, 0, t, r, h1, h2 => by
    simp at h1 h2
    subst h1; subst h2
    exact h.1
  | a :: ts, b :: rs, h, y + 1, t, r, h1, h2 => rg_okc_get ts rs h.2 y t r (by simpa using h1) (by simpa using h2)
theorem rg_fetch_ok {y pc n : Nat} {i : Instr} (h : rg_fetch y pc = some (i, n)) : y < 214 ∧ decode (rg_bytes y) pc = .ok (i, n) := by
  unfold rg_fetch at h
  cases ht : rg_code[y]? with
  | none => rw [ht] at h; cases h
  | some t =>
    rw [ht] at h
    have hy : y < 214 := by rw [← rg_code_len]; exact (List.getElem?_eq_some_iff.mp ht).1
    have hl : y < rg_mt.length := by rw [rg_mt_len]; exact hy
    have e : rg_mt[y]? = some (rg_mr y) := by unfold rg_mr; rw [List.getD_eq_getElem?_getD, List.getElem?_eq_getElem hl]; rfl
    have ha := rg_okc_get rg_code rg_mt rg_okc_all y t _ ht e
    have h2 := List.all_eq_true.mp ha (pc, i, n) (rg_lk h)
    simp only [decide_eq_true_eq] at h2
    exact ⟨hy, h2⟩
theorem rg_getD {α : Type} {l : List (List α)} {o : Nat} {t : List α} (h : l[o]? = some t) : l.getD o [] = t := by rw [List.getD_eq_getElem?_getD, h]; rfl
theorem rg_fld_ok {o i ci k z : Nat} (h : rg_fld o i = some (ci, k, z)) : ∃ (C : String) (T : u_T) (N : Nat), rg_classes[ci]? = some (C, T, N) ∧ k < N ∧ (T k).1 = C ∧ Cond.fieldLink (rg_on.getD o "") i C (T k).2.1 (T k).2.2.1 ∈ rg_tbl := by
  unfold rg_fld at h
  cases ht : rg_fl[o]? with
  | none => rw [ht] at h; cases h
  | some t =>
    rw [ht] at h
    have ho : o < 17 := by have := (List.getElem?_eq_some_iff.mp ht).1; simpa [rg_fl] using this
    have h1 := List.all_eq_true.mp rg_fl_ok o (List.mem_range.mpr ho)
    rw [rg_getD ht] at h1
    have h2 := List.all_eq_true.mp h1 _ (rg_lk h)
    unfold rg_flok at h2
    cases hc : rg_classes[ci]? with
    | none => simp only [hc] at h2; cases h2
    | some q =>
      obtain ⟨C, T, N⟩ := q
      simp only [hc, Bool.and_eq_true, decide_eq_true_eq] at h2
      exact ⟨C, T, N, rfl, h2.1.1, h2.1.2, rg_tbl_mem h2.2 rfl⟩
theorem rg_cst_ok {o i z : Nat} {v : Int32} (h : rg_cst o i = some (v, z)) : Cond.constant (rg_on.getD o "") i v ∈ rg_tbl := by
  unfold rg_cst at h
  cases ht : rg_cs[o]? with
  | none => rw [ht] at h; cases h
  | some t =>
    rw [ht] at h
    have ho : o < 17 := by have := (List.getElem?_eq_some_iff.mp ht).1; simpa [rg_cs] using this
    have h1 := List.all_eq_true.mp rg_cs_ok o (List.mem_range.mpr ho)
    rw [rg_getD ht] at h1
    have h2 := List.all_eq_true.mp h1 _ (rg_lk h)
    simp only [decide_eq_true_eq] at h2
    exact rg_tbl_mem h2 rfl
theorem rg_cstL_ok {o i z : Nat} {v : Int64} (h : rg_cstL o i = some (v, z)) : Cond.constantLong (rg_on.getD o "") i v ∈ rg_tbl := by
  unfold rg_cstL at h
  cases ht : rg_cl[o]? with
  | none => rw [ht] at h; cases h
  | some t =>
    rw [ht] at h
    have ho : o < 17 := by have := (List.getElem?_eq_some_iff.mp ht).1; simpa [rg_cl] using this
    have h1 := List.all_eq_true.mp rg_cl_ok o (List.mem_range.mpr ho)
    rw [rg_getD ht] at h1
    have h2 := List.all_eq_true.mp h1 _ (rg_lk h)
    simp only [decide_eq_true_eq] at h2
    exact rg_tbl_mem h2 rfl
theorem rg_inv_ok {o i k y z : Nat} (h : rg_inv o i = some (k, y, z)) : y < 214 ∧ (k = 0 → (rg_mr y).2.2.2.2.1.2.2 = 0 ∧ Cond.methodLink (rg_on.getD o "") i (rg_name y) ∈ rg_tbl) ∧ (k = 1 → (rg_mr y).2.2.2.2.1.2.2 = 1 ∧ Cond.methodLink (rg_on.getD o "") i (rg_name y) ∈ rg_tbl) ∧ (k = 2 → (rg_mr y).2.2.2.2.1.2.2 = 1 ∧ Cond.methodLinkNest (rg_on.getD o "") i (rg_name y) "RiverGauge" ∈ lw_tbl) := by
  unfold rg_inv at h
  cases ht : rg_iv[o]? with
  | none => rw [ht] at h; cases h
  | some t =>
    rw [ht] at h
    have ho : o < 17 := by have := (List.getElem?_eq_some_iff.mp ht).1; simpa [rg_iv] using this
    have h1 := List.all_eq_true.mp rg_iv_ok o (List.mem_range.mpr ho)
    rw [rg_getD ht] at h1
    have h2 := List.all_eq_true.mp h1 _ (rg_lk h)
    unfold rg_ivok at h2
    simp only [Bool.and_eq_true, decide_eq_true_eq] at h2
    refine ⟨h2.1, fun e => ?_, fun e => ?_, fun e => ?_⟩
    · subst e
      have h3 := h2.2
      simp only [Bool.and_eq_true, decide_eq_true_eq] at h3
      exact ⟨h3.1, rg_tbl_mem h3.2 rfl⟩
    · subst e
      have h3 := h2.2
      simp only [Bool.and_eq_true, decide_eq_true_eq] at h3
      exact ⟨h3.1, rg_tbl_mem h3.2 rfl⟩
    · subst e
      have h3 := h2.2
      simp only [Bool.and_eq_true, decide_eq_true_eq] at h3
      exact ⟨h3.1, List.mem_of_getElem? h3.2⟩
theorem rg_sh_ok {c ci k z : Nat} {ks : List Nat} {C : String} {T : u_T} {N : Nat} {ty : Nat → FieldType} (h : rg_shapes[c]? = some (.inl (ci, ks))) (hc : rg_classes[ci]? = some (C, T, N)) (ht : rg_tyL[ci]? = some ty) (hk : ks[k]? = some z) : ks.length = N ∧ rg_slok T ty k z = true := by
  have h1 := List.all_eq_true.mp rg_shapes_ok _ (List.mem_of_getElem? h)
  simp only [rg_shok, hc, ht, Bool.and_eq_true, decide_eq_true_eq] at h1
  refine ⟨h1.1, ?_⟩
  have hkl := (List.getElem?_eq_some_iff.mp hk).1
  have h2 := List.all_eq_true.mp h1.2 k (List.mem_range.mpr (by rw [← h1.1]; exact hkl))
  rw [List.getD_eq_getElem?_getD, hk] at h2
  exact h2
