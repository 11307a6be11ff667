/-! what the tables' words say of the machine's tables -/
theorem rg_lk {α : Type} {l : List (Nat × α)} {i : Nat} {r : α} (h : l.lookup i = some r) : (i, r) ∈ l := by
  induction l with
  | nil => cases h
  | cons a l ih =>
    obtain ⟨j, b⟩ := a
    rw [List.lookup_cons] at h
    by_cases e : i = j
    · subst e
      simp at h
      subst h
      exact List.mem_cons_self
    · have : (i == j) = false := by simp [e]
      rw [this] at h
      exact List.mem_cons_of_mem _ (ih h)
def rg_tbl : List Cond := lw_tbl.filter goodWord
theorem rg_tbl_mem {i : Nat} {w : Cond} (h : lw_tbl[i]? = some w) (hg : goodWord w = true) : w ∈ rg_tbl := List.mem_filter.mpr ⟨List.mem_of_getElem? h, hg⟩
/-- a method's row: its words -/
def rg_rok (r : rg_MR) : Bool :=
  decide (lw_tbl[r.2.2.2.2.2.1]? = some (Cond.code r.1 r.2.1 r.2.2.1 r.2.2.2.1)) &&
  (if r.2.2.2.2.1.2.2 = 1 then decide (lw_tbl[r.2.2.2.2.2.2.1]? = some (Cond.static r.1)) else decide (lw_tbl[r.2.2.2.2.2.2.1]? = some (Cond.instanceMethod r.1)) && decide (lw_tbl[r.2.2.2.2.2.2.2.1]? = some (Cond.selects r.1.cls r.1 r.1)) && decide ((rg_classes[r.2.2.2.2.1.1]?).map (fun q => q.1) = some r.1.cls)) &&
  decide (lw_tbl[r.2.2.2.2.2.2.2.2]? = some (Cond.initialized r.1.cls)) &&
  decide (rg_on[r.2.2.2.2.1.1]? = some r.1.cls) &&
  decide (r.1.cls ≠ "java/lang/invoke/MethodHandle") && decide (r.1.cls ≠ "java/lang/invoke/VarHandle") &&
  decide ((parseMethodDescriptor r.1.desc).map (fun d => d.parameters.length) = some r.2.2.2.2.1.2.1) &&
  plainName r.1.cls && decide (r.2.2.1 ≤ 45)
set_option maxRecDepth 100000 in
theorem rg_mt_ok : rg_mt.all rg_rok = true := by decide +kernel
def rg_flok (o : Nat) (e : Nat × Nat × Nat × Nat) : Bool := match rg_classes[e.2.1]? with
  | some (C, T, N) => decide (e.2.2.1 < N) && decide ((T e.2.2.1).1 = C) && decide (lw_tbl[e.2.2.2]? = some (Cond.fieldLink (rg_on.getD o "") e.1 C (T e.2.2.1).2.1 (T e.2.2.1).2.2.1))
  | none => false
set_option maxRecDepth 100000 in
theorem rg_fl_ok : (List.range 15).all (fun o => (rg_fl.getD o []).all (rg_flok o)) = true := by decide +kernel
def rg_ivok (o : Nat) (e : Nat × Nat × Nat × Nat) : Bool :=
  decide (e.2.2.1 < 206) &&
  (match e.2.1 with
  | 0 => decide ((rg_mr e.2.2.1).2.2.2.2.1.2.2 = 0) && decide (lw_tbl[e.2.2.2]? = some (Cond.methodLink (rg_on.getD o "") e.1 (rg_name e.2.2.1)))
  | 1 => decide ((rg_mr e.2.2.1).2.2.2.2.1.2.2 = 1) && decide (lw_tbl[e.2.2.2]? = some (Cond.methodLink (rg_on.getD o "") e.1 (rg_name e.2.2.1)))
  | _ => decide ((rg_mr e.2.2.1).2.2.2.2.1.2.2 = 1) && decide (lw_tbl[e.2.2.2]? = some (Cond.methodLinkNest (rg_on.getD o "") e.1 (rg_name e.2.2.1) "RiverGauge")))
set_option maxRecDepth 100000 in
theorem rg_iv_ok : (List.range 15).all (fun o => (rg_iv.getD o []).all (rg_ivok o)) = true := by decide +kernel
set_option maxRecDepth 100000 in
theorem rg_cs_ok : (List.range 15).all (fun o => (rg_cs.getD o []).all (fun e => decide (lw_tbl[e.2.2]? = some (Cond.constant (rg_on.getD o "") e.1 e.2.1)))) = true := by decide +kernel
set_option maxRecDepth 100000 in
theorem rg_cl_ok : (List.range 15).all (fun o => (rg_cl.getD o []).all (fun e => decide (lw_tbl[e.2.2]? = some (Cond.constantLong (rg_on.getD o "") e.1 e.2.1)))) = true := by decide +kernel
def rg_slok (T : u_T) (ty : Nat → FieldType) (k z : Nat) : Bool := match z with
  | 0 => decide (ty k = .int) && !(T k).2.2.2
  | 1 => decide (ty k = .boolean) && !(T k).2.2.2
  | 2 => decide (ty k = .long) && !(T k).2.2.2
  | _ => true
def rg_shok : rg_Sh → Bool
  | .inl (ci, ks) => match rg_classes[ci]?, rg_tyL[ci]? with
    | some (_, T, N), some ty => decide (ks.length = N) && (List.range N).all (fun k => rg_slok T ty k (ks.getD k 0))
    | _, _ => false
  | .inr (t, _, _, _) => decide (t < 4)
set_option maxRecDepth 100000 in
theorem rg_shapes_ok : rg_shapes.all rg_shok = true := by decide +kernel
theorem rg_shapes_len : rg_shapes.length = 149 := by decide +kernel
theorem rg_mt_len : rg_mt.length = 206 := by decide +kernel
theorem rg_code_len : rg_code.length = 206 := by decide +kernel
set_option maxRecDepth 100000 in
theorem rg_in0 : ∀ w ∈ u_ws "RiverGauge" rg_T0 17, w ∈ rg_tbl := by decide +kernel
set_option maxRecDepth 100000 in
theorem rg_in1 : ∀ w ∈ u_ws "RiverGauge$Posts" rg_T1 11, w ∈ rg_tbl := by decide +kernel
set_option maxRecDepth 100000 in
theorem rg_in2 : ∀ w ∈ u_ws "RiverGauge$Heights" rg_T2 9, w ∈ rg_tbl := by decide +kernel
set_option maxRecDepth 100000 in
theorem rg_in3 : ∀ w ∈ u_ws "RiverGauge$Flows" rg_T3 7, w ∈ rg_tbl := by decide +kernel
set_option maxRecDepth 100000 in
theorem rg_in4 : ∀ w ∈ u_ws "RiverGauge$Covers" rg_T4 7, w ∈ rg_tbl := by decide +kernel
set_option maxRecDepth 100000 in
theorem rg_in5 : ∀ w ∈ u_ws "RiverGauge$Tape" rg_T5 5, w ∈ rg_tbl := by decide +kernel
set_option maxRecDepth 100000 in
theorem rg_in6 : ∀ w ∈ u_ws "RiverGauge$Standards" rg_T6 8, w ∈ rg_tbl := by decide +kernel
set_option maxRecDepth 100000 in
theorem rg_in7 : ∀ w ∈ u_ws "RiverGauge$View" rg_T7 11, w ∈ rg_tbl := by decide +kernel
set_option maxRecDepth 100000 in
theorem rg_in8 : ∀ w ∈ u_ws "RiverGauge$Rating" rg_T8 17, w ∈ rg_tbl := by decide +kernel
set_option maxRecDepth 100000 in
theorem rg_in9 : ∀ w ∈ u_ws "RiverGauge$Points" rg_T9 3, w ∈ rg_tbl := by decide +kernel
set_option maxRecDepth 100000 in
theorem rg_in10 : ∀ w ∈ u_ws "RiverGauge$Breaks" rg_T10 11, w ∈ rg_tbl := by decide +kernel
set_option maxRecDepth 100000 in
theorem rg_in11 : ∀ w ∈ u_ws "RiverGauge$Gaps" rg_T11 5, w ∈ rg_tbl := by decide +kernel
set_option maxRecDepth 100000 in
theorem rg_in12 : ∀ w ∈ u_ws "RiverGaugeModel" rg_T12 89, w ∈ rg_tbl := by decide +kernel
theorem rg_cls {ci N : Nat} {C : String} {T : u_T} (h : rg_classes[ci]? = some (C, T, N)) : (∀ w ∈ u_ws C T N, w ∈ rg_tbl) ∧ ∃ ty : Nat → FieldType, rg_tyL[ci]? = some ty ∧ (∀ k, k < N → parseFieldDescriptor (T k).2.2.1 = some (ty k)) ∧ (∀ a, a < N → ∀ b, b < N → a ≠ b → (T a).2.1 ≠ (T b).2.1) := by
  match ci, h with
  | 0, h => cases h; exact ⟨rg_in0, _, rfl, rg_tyok0, rg_nm0⟩
  | 1, h => cases h; exact ⟨rg_in1, _, rfl, rg_tyok1, rg_nm1⟩
  | 2, h => cases h; exact ⟨rg_in2, _, rfl, rg_tyok2, rg_nm2⟩
  | 3, h => cases h; exact ⟨rg_in3, _, rfl, rg_tyok3, rg_nm3⟩
  | 4, h => cases h; exact ⟨rg_in4, _, rfl, rg_tyok4, rg_nm4⟩
  | 5, h => cases h; exact ⟨rg_in5, _, rfl, rg_tyok5, rg_nm5⟩
  | 6, h => cases h; exact ⟨rg_in6, _, rfl, rg_tyok6, rg_nm6⟩
  | 7, h => cases h; exact ⟨rg_in7, _, rfl, rg_tyok7, rg_nm7⟩
  | 8, h => cases h; exact ⟨rg_in8, _, rfl, rg_tyok8, rg_nm8⟩
  | 9, h => cases h; exact ⟨rg_in9, _, rfl, rg_tyok9, rg_nm9⟩
  | 10, h => cases h; exact ⟨rg_in10, _, rfl, rg_tyok10, rg_nm10⟩
  | 11, h => cases h; exact ⟨rg_in11, _, rfl, rg_tyok11, rg_nm11⟩
  | 12, h => cases h; exact ⟨rg_in12, _, rfl, rg_tyok12, rg_nm12⟩
  | ci + 13, h => cases h
theorem rg_row {y : Nat} (h : y < 206) : rg_rok (rg_mr y) = true := by
  have hl : y < rg_mt.length := by rw [rg_mt_len]; exact h
  have e : rg_mr y = rg_mt[y] := by unfold rg_mr; rw [List.getD_eq_getElem?_getD, List.getElem?_eq_getElem hl]; rfl
  rw [e]
  exact List.all_eq_true.mp rg_mt_ok _ (List.getElem_mem hl)
/-- what a method's row gives -/
theorem rg_row_spec {y : Nat} (h : y < 206) : Cond.code (rg_name y) (rg_bytes y) (rg_maxL y) (rg_ret y) ∈ rg_tbl ∧ Cond.initialized (rg_name y).cls ∈ rg_tbl ∧ rg_on.getD (rg_own y) "" = (rg_name y).cls ∧ ((rg_name y).cls ≠ "java/lang/invoke/MethodHandle" ∧ (rg_name y).cls ≠ "java/lang/invoke/VarHandle" ∧ (parseMethodDescriptor (rg_name y).desc).map (fun d => d.parameters.length) = some (rg_np y)) ∧ plainName (rg_name y).cls = true ∧ rg_maxL y ≤ 45 ∧ ((rg_mr y).2.2.2.2.1.2.2 = 1 → Cond.static (rg_name y) ∈ rg_tbl) ∧ ((rg_mr y).2.2.2.2.1.2.2 = 0 → Cond.instanceMethod (rg_name y) ∈ rg_tbl ∧ Cond.selects (rg_name y).cls (rg_name y) (rg_name y) ∈ rg_tbl ∧ (rg_classes[rg_own y]?).map (fun q => q.1) = some (rg_name y).cls) := by
  have hr := rg_row h
  unfold rg_rok at hr
  simp only [Bool.and_eq_true, decide_eq_true_eq] at hr
  obtain ⟨⟨⟨⟨⟨⟨⟨⟨a1, a2⟩, a3⟩, a4⟩, a5⟩, a6⟩, a7⟩, a8⟩, a9⟩ := hr
  refine ⟨rg_tbl_mem a1 rfl, rg_tbl_mem a3 rfl, ?_, ⟨a5, a6, a7⟩, a8, a9, fun e => ?_, fun e => ?_⟩
  · show rg_on.getD (rg_mr y).2.2.2.2.1.1 "" = _
    rw [List.getD_eq_getElem?_getD, a4]; rfl
  · rw [if_pos e] at a2
    exact rg_tbl_mem (of_decide_eq_true a2) rfl
  · rw [if_neg (by rw [e]; decide)] at a2
    simp only [Bool.and_eq_true, decide_eq_true_eq] at a2
    exact ⟨rg_tbl_mem a2.1.1 rfl, rg_tbl_mem a2.1.2 rfl, a2.2⟩
theorem rg_okc_get : ∀ (ts : List (List (Nat × Instr × Nat))) (rs : List rg_MR), rg_okc ts rs → ∀ (y : Nat) (t : List (Nat × Instr × Nat)) (r : rg_MR), ts[y]? = some t → rs[y]? = some r → t.all (fun e => decide (decode r.2.1 e.1 = .ok e.2)) = true
  | [], _, _, y, t, r, h, _ => by simp at h
  | _ :: _, [], _, y, t, r, _, h => by simp at h
  | a :: ts, b :: rs, h, 0, t, r, h1, h2 => by
    simp at h1 h2
    subst h1; subst h2
    exact h.1
  | a :: ts, b :: rs, h, y + 1, t, r, h1, h2 => rg_okc_get ts rs h.2 y t r (by simpa using h1) (by simpa using h2)
theorem rg_fetch_ok {y pc n : Nat} {i : Instr} (h : rg_fetch y pc = some (i, n)) : y < 206 ∧ decode (rg_bytes y) pc = .ok (i, n) := by
  unfold rg_fetch at h
  cases ht : rg_code[y]? with
  | none => rw [ht] at h; cases h
  | some t =>
    rw [ht] at h
    have hy : y < 206 := by rw [← rg_code_len]; exact (List.getElem?_eq_some_iff.mp ht).1
    have hl : y < rg_mt.length := by rw [rg_mt_len]; exact hy
    have e : rg_mt[y]? = some (rg_mr y) := by unfold rg_mr; rw [List.getD_eq_getElem?_getD, List.getElem?_eq_getElem hl]; rfl
    have ha := rg_okc_get rg_code rg_mt rg_okc_all y t _ ht e
    exact ⟨hy, of_decide_eq_true (List.all_eq_true.mp ha _ (rg_lk h))⟩
theorem rg_getD {α : Type} {l : List (List α)} {o : Nat} {t : List α} (h : l[o]? = some t) : l.getD o [] = t := by rw [List.getD_eq_getElem?_getD, h]; rfl
theorem rg_fld_ok {o i ci k z : Nat} (h : rg_fld o i = some (ci, k, z)) : ∃ (C : String) (T : u_T) (N : Nat), rg_classes[ci]? = some (C, T, N) ∧ k < N ∧ (T k).1 = C ∧ Cond.fieldLink (rg_on.getD o "") i C (T k).2.1 (T k).2.2.1 ∈ rg_tbl := by
  unfold rg_fld at h
  cases ht : rg_fl[o]? with
  | none => rw [ht] at h; cases h
  | some t =>
    rw [ht] at h
    have ho : o < 15 := by have := (List.getElem?_eq_some_iff.mp ht).1; simpa [rg_fl] using this
    have h1 := List.all_eq_true.mp rg_fl_ok o (List.mem_range.mpr ho)
    rw [rg_getD ht] at h1
    have h2 := List.all_eq_true.mp h1 _ (rg_lk h)
    unfold rg_flok at h2
    cases hc : rg_classes[ci]? with
    | none => simp only [hc] at h2; cases h2
    | some q =>
      obtain ⟨C, T, N⟩ := q
      simp only [hc, Bool.and_eq_true, decide_eq_true_eq] at h2
      exact ⟨C, T, N, rfl, h2.1.1, h2.1.2, rg_tbl_mem h2.2 rfl⟩
theorem rg_cst_ok {o i z : Nat} {v : Int32} (h : rg_cst o i = some (v, z)) : Cond.constant (rg_on.getD o "") i v ∈ rg_tbl := by
  unfold rg_cst at h
  cases ht : rg_cs[o]? with
  | none => rw [ht] at h; cases h
  | some t =>
    rw [ht] at h
    have ho : o < 15 := by have := (List.getElem?_eq_some_iff.mp ht).1; simpa [rg_cs] using this
    have h1 := List.all_eq_true.mp rg_cs_ok o (List.mem_range.mpr ho)
    rw [rg_getD ht] at h1
    exact rg_tbl_mem (of_decide_eq_true (List.all_eq_true.mp h1 _ (rg_lk h))) rfl
theorem rg_cstL_ok {o i z : Nat} {v : Int64} (h : rg_cstL o i = some (v, z)) : Cond.constantLong (rg_on.getD o "") i v ∈ rg_tbl := by
  unfold rg_cstL at h
  cases ht : rg_cl[o]? with
  | none => rw [ht] at h; cases h
  | some t =>
    rw [ht] at h
    have ho : o < 15 := by have := (List.getElem?_eq_some_iff.mp ht).1; simpa [rg_cl] using this
    have h1 := List.all_eq_true.mp rg_cl_ok o (List.mem_range.mpr ho)
    rw [rg_getD ht] at h1
    exact rg_tbl_mem (of_decide_eq_true (List.all_eq_true.mp h1 _ (rg_lk h))) rfl
theorem rg_inv_ok {o i k y z : Nat} (h : rg_inv o i = some (k, y, z)) : y < 206 ∧ (k = 0 → (rg_mr y).2.2.2.2.1.2.2 = 0 ∧ Cond.methodLink (rg_on.getD o "") i (rg_name y) ∈ rg_tbl) ∧ (k = 1 → (rg_mr y).2.2.2.2.1.2.2 = 1 ∧ Cond.methodLink (rg_on.getD o "") i (rg_name y) ∈ rg_tbl) ∧ (k = 2 → (rg_mr y).2.2.2.2.1.2.2 = 1 ∧ Cond.methodLinkNest (rg_on.getD o "") i (rg_name y) "RiverGauge" ∈ lw_tbl) := by
  unfold rg_inv at h
  cases ht : rg_iv[o]? with
  | none => rw [ht] at h; cases h
  | some t =>
    rw [ht] at h
    have ho : o < 15 := by have := (List.getElem?_eq_some_iff.mp ht).1; simpa [rg_iv] using this
    have h1 := List.all_eq_true.mp rg_iv_ok o (List.mem_range.mpr ho)
    rw [rg_getD ht] at h1
    have h2 := List.all_eq_true.mp h1 _ (rg_lk h)
    unfold rg_ivok at h2
    simp only [Bool.and_eq_true, decide_eq_true_eq] at h2
    refine ⟨h2.1, fun e => ?_, fun e => ?_, fun e => ?_⟩
    · subst e
      have h3 := h2.2
      simp only [Bool.and_eq_true, decide_eq_true_eq] at h3
      exact ⟨h3.1, rg_tbl_mem h3.2 rfl⟩
    · subst e
      have h3 := h2.2
      simp only [Bool.and_eq_true, decide_eq_true_eq] at h3
      exact ⟨h3.1, rg_tbl_mem h3.2 rfl⟩
    · subst e
      have h3 := h2.2
      simp only [Bool.and_eq_true, decide_eq_true_eq] at h3
      exact ⟨h3.1, List.mem_of_getElem? h3.2⟩
theorem rg_sh_ok {c ci k z : Nat} {ks : List Nat} {C : String} {T : u_T} {N : Nat} {ty : Nat → FieldType} (h : rg_shapes[c]? = some (.inl (ci, ks))) (hc : rg_classes[ci]? = some (C, T, N)) (ht : rg_tyL[ci]? = some ty) (hk : ks[k]? = some z) : ks.length = N ∧ rg_slok T ty k z = true := by
  have h1 := List.all_eq_true.mp rg_shapes_ok _ (List.mem_of_getElem? h)
  simp only [rg_shok, hc, ht, Bool.and_eq_true, decide_eq_true_eq] at h1
  refine ⟨h1.1, ?_⟩
  have hkl := (List.getElem?_eq_some_iff.mp hk).1
  have h2 := List.all_eq_true.mp h1.2 k (List.mem_range.mpr (by rw [← h1.1]; exact hkl))
  rw [List.getD_eq_getElem?_getD, hk] at h2
  exact h2
