/-! the machine's cells in a heap: addresses ρ, classes of arrays cA -/
def rg_cv (ρ : Nat → Nat) (v : Value) : Value := match v with
  | .ref c => .ref (ρ c)
  | v => v
theorem rg_cv_cat (ρ : Nat → Nat) (v : Value) : (rg_cv ρ v).category = v.category := by cases v <;> rfl
def rg_fs (ρ : Nat → Nat) (M : rg_M) (c : Nat) (ks : List Nat) : List Value := ks.mapIdx (fun k z => rg_cv ρ (rg_slot M c k z))
def rg_row3 (ρ : Nat → Nat) (M : rg_M) (c t b st : Nat) : (Nat → Int32) ⊕ (Nat → Int64) ⊕ (Nat → UInt32) ⊕ (Nat → UInt64) ⊕ (Nat → Option Nat) := match t with
  | 0 => .inl (M.1 c)
  | 1 => .inr (.inl (M.2 c))
  | _ => .inr (.inr (.inr (.inr (fun i => some (ρ (b + st * i))))))
def rg_ce (ρ : Nat → Nat) (cA : Nat → ClassId) (M : rg_M) (c : Nat) (sh : rg_Sh) : va_E := match sh with
  | .inl (ci, ks) => .inr (ci, rg_fs ρ M c ks)
  | .inr (t, n, b, st) => .inl (cA t, n, rg_row3 ρ M c t b st)
def rg_w (ρ : Nat → Nat) (cA : Nat → ClassId) (M : rg_M) : va_W := rg_shapes.mapIdx (fun c sh => (ρ c, rg_ce ρ cA M c sh))
section RGW
variable {ρ : Nat → Nat} {cA : Nat → ClassId} {M M' : rg_M} {A : Nat → Prop}
theorem rg_w_get {c : Nat} {sh : rg_Sh} (h : rg_shapes[c]? = some sh) : (rg_w ρ cA M)[c]? = some (ρ c, rg_ce ρ cA M c sh) := by
  unfold rg_w
  rw [List.getElem?_mapIdx, h]
  rfl
theorem rg_slot_congr {c : Nat} (h1 : M'.1 c = M.1 c) (h2 : M'.2 c = M.2 c) (k z : Nat) : rg_slot M' c k z = rg_slot M c k z := by
  match z with
  | 0 => simp [rg_slot, h1]
  | 1 => simp [rg_slot, h1]
  | 2 => simp [rg_slot, h2]
  | r + 3 => rfl
theorem rg_ce_congr {c : Nat} {sh : rg_Sh} (h1 : M'.1 c = M.1 c) (h2 : M'.2 c = M.2 c) : rg_ce ρ cA M' c sh = rg_ce ρ cA M c sh := by
  match sh with
  | .inl (ci, ks) =>
    have e : (fun (k z : Nat) => rg_cv ρ (rg_slot M' c k z)) = (fun (k z : Nat) => rg_cv ρ (rg_slot M c k z)) := by
      funext k z
      rw [rg_slot_congr h1 h2]
    simp only [rg_ce, rg_fs, e]
  | .inr (0, n, b, st) => simp only [rg_ce, rg_row3, h1]
  | .inr (1, n, b, st) => simp only [rg_ce, rg_row3, h2]
  | .inr (t + 2, n, b, st) => rfl
theorem rg_w_set {c : Nat} {sh : rg_Sh} {e : va_E} (h : rg_shapes[c]? = some sh) (he : rg_ce ρ cA M' c sh = e) (ho : ∀ a, a ≠ c → M'.1 a = M.1 a ∧ M'.2 a = M.2 a) : (rg_w ρ cA M).set c (ρ c, e) = rg_w ρ cA M' := by
  apply List.ext_getElem?
  intro i
  by_cases hi : i = c
  · subst hi
    have hl : i < (rg_w ρ cA M).length := by unfold rg_w; rw [List.length_mapIdx]; exact (List.getElem?_eq_some_iff.mp h).1
    rw [List.getElem?_set_self hl, rg_w_get h, he]
  · rw [List.getElem?_set_ne (Ne.symm hi)]
    unfold rg_w
    rw [List.getElem?_mapIdx, List.getElem?_mapIdx]
    cases rg_shapes[i]? with
    | none => rfl
    | some s => simp only [Option.map_some]; rw [rg_ce_congr (ho i hi).1 (ho i hi).2]
theorem rg_w_at {k : Nat} {q : Nat × va_E} (h : (rg_w ρ cA M)[k]? = some q) : k < 149 ∧ q.1 = ρ k := by
  unfold rg_w at h
  rw [List.getElem?_mapIdx] at h
  cases hs : rg_shapes[k]? with
  | none => rw [hs] at h; cases h
  | some s =>
    rw [hs] at h
    cases h
    exact ⟨by rw [← rg_shapes_len]; exact (List.getElem?_eq_some_iff.mp hs).1, rfl⟩
theorem rg_D (hinj : ∀ a b, a < 149 → b < 149 → ρ a = ρ b → a = b) (hA : ∀ a, a < 149 → A (ρ a)) (M : rg_M) : va_D A (rg_w ρ cA M) := by
  refine ⟨fun i j p q hp hq e => ?_, fun k q hk => ?_⟩
  · obtain ⟨h1, e1⟩ := rg_w_at hp
    obtain ⟨h2, e2⟩ := rg_w_at hq
    exact hinj i j h1 h2 (by rw [← e1, ← e2]; exact e)
  · obtain ⟨h1, e1⟩ := rg_w_at hk
    rw [e1]
    exact hA k h1
theorem rg_fs_setI {c k z : Nat} {ks : List Nat} {x : Int32} (hk : ks[k]? = some z) (hz : z = 0 ∨ z = 1) : (rg_fs ρ M c ks).set k (.int x) = rg_fs ρ (rg_wI M c k x) c ks := by
  apply List.ext_getElem?
  intro i
  have hl : k < (rg_fs ρ M c ks).length := by unfold rg_fs; rw [List.length_mapIdx]; exact (List.getElem?_eq_some_iff.mp hk).1
  by_cases hi : i = k
  · subst hi
    rw [List.getElem?_set_self hl]
    unfold rg_fs
    rw [List.getElem?_mapIdx, hk]
    rcases hz with rfl | rfl <;> simp [rg_slot, rg_cv, rg_wI, upd]
  · rw [List.getElem?_set_ne (Ne.symm hi)]
    unfold rg_fs
    rw [List.getElem?_mapIdx, List.getElem?_mapIdx]
    cases ks[i]? with
    | none => rfl
    | some w =>
      match w with
      | 0 => simp [rg_slot, rg_wI, upd, hi]
      | 1 => simp [rg_slot, rg_wI, upd, hi]
      | 2 => simp [rg_slot, rg_wI]
      | r + 3 => rfl
theorem rg_fs_setL {c k : Nat} {ks : List Nat} {x : Int64} (hk : ks[k]? = some 2) : (rg_fs ρ M c ks).set k (.long x) = rg_fs ρ (rg_wL M c k x) c ks := by
  apply List.ext_getElem?
  intro i
  have hl : k < (rg_fs ρ M c ks).length := by unfold rg_fs; rw [List.length_mapIdx]; exact (List.getElem?_eq_some_iff.mp hk).1
  by_cases hi : i = k
  · subst hi
    rw [List.getElem?_set_self hl]
    unfold rg_fs
    rw [List.getElem?_mapIdx, hk]
    simp [rg_slot, rg_cv, rg_wL, vp_updL]
  · rw [List.getElem?_set_ne (Ne.symm hi)]
    unfold rg_fs
    rw [List.getElem?_mapIdx, List.getElem?_mapIdx]
    cases ks[i]? with
    | none => rfl
    | some w =>
      match w with
      | 0 => simp [rg_slot, rg_wL]
      | 1 => simp [rg_slot, rg_wL]
      | 2 => simp [rg_slot, rg_wL, vp_updL, hi]
      | r + 3 => rfl
end RGW
/-! locals -/
def rg_loc (ρ : Nat → Nat) (n : Nat) (L : rg_Ls) (ls : Array Slot) : Prop := L.length = n ∧ ls.size = n ∧ lv_wf ls ∧ ∀ (i : Nat) (v : Value), L[i]? = some (some v) → ls[i]? = some (.val (rg_cv ρ v))
def rg_lv (ρ : Nat → Nat) (L : rg_Ls) : List (Nat × Value) := (L.mapIdx (fun i o => (i, o))).filterMap (fun q => q.2.map (fun v => (q.1, rg_cv ρ v)))
theorem rg_lv_mem {ρ : Nat → Nat} {L : rg_Ls} {q : Nat × Value} : q ∈ rg_lv ρ L ↔ ∃ v, L[q.1]? = some (some v) ∧ q.2 = rg_cv ρ v := by
  unfold rg_lv
  rw [List.mem_filterMap]
  constructor
  · rintro ⟨⟨i, o⟩, h1, h2⟩
    obtain ⟨k, hk⟩ := List.getElem?_of_mem h1
    rw [List.getElem?_mapIdx] at hk
    cases hL : L[k]? with
    | none => rw [hL] at hk; cases hk
    | some o' =>
      rw [hL] at hk
      simp only [Option.map_some, Option.some.injEq, Prod.mk.injEq] at hk
      obtain ⟨rfl, rfl⟩ := hk
      cases o' with
      | none => cases h2
      | some v =>
        simp only [Option.map_some, Option.some.injEq] at h2
        subst h2
        exact ⟨v, hL, rfl⟩
  · rintro ⟨v, h1, h2⟩
    refine ⟨(q.1, some v), List.mem_of_getElem? (i := q.1) (by rw [List.getElem?_mapIdx, h1]; rfl), ?_⟩
    simp only [Option.map_some, Option.some.injEq]
    rw [← h2]
theorem rg_loc_has {ρ : Nat → Nat} {n : Nat} {L : rg_Ls} {ls : Array Slot} (h : rg_loc ρ n L ls) : lv_has ls n (rg_lv ρ L) := by
  refine ⟨h.2.1, h.2.2.1, fun q hq => ?_⟩
  obtain ⟨v, h1, h2⟩ := rg_lv_mem.mp hq
  rw [h2]
  exact h.2.2.2 _ _ h1
theorem rg_clr_len (L : rg_Ls) (i : Nat) : (rg_clr L i).length = L.length := by
  match i with
  | 0 => rfl
  | j + 1 =>
    simp only [rg_clr]
    split
    · split <;> simp
    · rfl
theorem rg_clr_get {L : rg_Ls} {i j : Nat} {w : Value} (h : (rg_clr L i)[j]? = some (some w)) : L[j]? = some (some w) ∧ (j + 1 = i → w.category ≠ 2) := by
  match i with
  | 0 => exact ⟨h, fun e => by omega⟩
  | k + 1 =>
    simp only [rg_clr] at h
    split at h
    · rename_i v hv
      split at h
      · rename_i hc
        by_cases e : j = k
        · subst e
          rw [List.getElem?_set] at h
          simp at h
        · rw [List.getElem?_set_ne (Ne.symm e)] at h
          exact ⟨h, fun e2 => by omega⟩
      · rename_i hc
        refine ⟨h, fun e => ?_⟩
        have e2 : j = k := by omega
        subst e2
        rw [hv] at h
        cases h
        exact hc
    · rename_i hv
      refine ⟨h, fun e => ?_⟩
      have e2 : j = k := by omega
      subst e2
      exact absurd h (hv w)
theorem rg_loc_st1 {ρ : Nat → Nat} {n i : Nat} {L : rg_Ls} {ls ls' : Array Slot} {v : Value} (h : rg_loc ρ n L ls) (h' : lv_has ls' n ((i, rg_cv ρ v) :: (rg_lv ρ L).filter (fun q => !(q.1 == i) && !(q.1 + 1 == i && q.2.category == 2)))) : rg_loc ρ n (rg_st1 L i v) ls' := by
  refine ⟨by unfold rg_st1; rw [List.length_set, rg_clr_len]; exact h.1, h'.1, h'.2.1, fun j w hj => ?_⟩
  unfold rg_st1 at hj
  by_cases e : j = i
  · subst e
    rw [List.getElem?_set] at hj
    simp only [if_true] at hj
    split at hj
    · cases hj
      exact h'.2.2 (j, rg_cv ρ v) List.mem_cons_self
    · cases hj
  · rw [List.getElem?_set_ne (Ne.symm e)] at hj
    obtain ⟨h1, h2⟩ := rg_clr_get hj
    refine h'.2.2 (j, rg_cv ρ w) (List.mem_cons_of_mem _ (List.mem_filter.mpr ⟨rg_lv_mem.mpr ⟨w, h1, rfl⟩, ?_⟩))
    simp only [rg_cv_cat, Bool.and_eq_true, Bool.not_eq_true', beq_eq_false_iff_ne, ne_eq, Bool.and_eq_false_iff]
    refine ⟨e, ?_⟩
    by_cases e3 : j + 1 = i
    · exact Or.inr (h2 e3)
    · exact Or.inl e3
theorem rg_loc_st2 {ρ : Nat → Nat} {n i : Nat} {L : rg_Ls} {ls ls' : Array Slot} {v : Value} (h : rg_loc ρ n L ls) (h' : lv_has ls' n ((i, rg_cv ρ v) :: (rg_lv ρ L).filter (fun q => !(q.1 == i) && (!(q.1 == i + 1) && !(q.1 + 1 == i && q.2.category == 2))))) : rg_loc ρ n (rg_st2 L i v) ls' := by
  refine ⟨by unfold rg_st2; rw [List.length_set, List.length_set, rg_clr_len]; exact h.1, h'.1, h'.2.1, fun j w hj => ?_⟩
  unfold rg_st2 at hj
  by_cases e1 : j = i + 1
  · subst e1
    rw [List.getElem?_set] at hj
    simp only [if_true] at hj
    split at hj <;> cases hj
  · rw [List.getElem?_set_ne (Ne.symm e1)] at hj
    by_cases e : j = i
    · subst e
      rw [List.getElem?_set] at hj
      simp only [if_true] at hj
      split at hj
      · cases hj
        exact h'.2.2 (j, rg_cv ρ v) List.mem_cons_self
      · cases hj
    · rw [List.getElem?_set_ne (Ne.symm e)] at hj
      obtain ⟨h1, h2⟩ := rg_clr_get hj
      refine h'.2.2 (j, rg_cv ρ w) (List.mem_cons_of_mem _ (List.mem_filter.mpr ⟨rg_lv_mem.mpr ⟨w, h1, rfl⟩, ?_⟩))
      simp only [rg_cv_cat, Bool.and_eq_true, Bool.not_eq_true', beq_eq_false_iff_ne, ne_eq, Bool.and_eq_false_iff]
      refine ⟨e, e1, ?_⟩
      by_cases e3 : j + 1 = i
      · exact Or.inr (h2 e3)
      · exact Or.inl e3
theorem rg_ld_get {L : rg_Ls} {i : Nat} {v : Value} (h : rg_ld L i = some v) : L[i]? = some (some v) := by
  unfold rg_ld at h
  split at h
  · rename_i o ho
    rw [ho, h]
  · cases h
theorem rg_loc_ld {ρ : Nat → Nat} {n i : Nat} {L : rg_Ls} {ls : Array Slot} {v : Value} (h : rg_loc ρ n L ls) (hl : rg_ld L i = some v) : ls[i]? = some (.val (rg_cv ρ v)) := h.2.2.2 i v (rg_ld_get hl)
/-- the entry's locals -/
theorem rg_args_len (ρ : Nat → Nat) : ∀ as : List Value, (∀ v ∈ as, v.category = 2 → ∃ x, v = .long x) → (lg_sl (as.map (rg_cv ρ))).length = (rg_args as).length
  | [], _ => rfl
  | v :: r, h => by
    have ih := rg_args_len ρ r (fun v hv => h v (List.mem_cons_of_mem _ hv))
    cases v <;> simp_all [rg_args, lg_sl, rg_cv, Value.category] <;> omega
theorem rg_args_get (ρ : Nat → Nat) : ∀ (as : List Value) (k i : Nat) (v : Value), (∀ v ∈ as, v.category = 2 → ∃ x, v = .long x) → (rg_args as)[i]? = some (some v) → (k + i, rg_cv ρ v) ∈ lv_args k (as.map (rg_cv ρ))
  | [], _, _, _, _, h => by simp [rg_args] at h
  | w :: r, k, i, v, hc, h => by
    have hr : ∀ v ∈ r, v.category = 2 → ∃ x, v = .long x := fun v hv => hc v (List.mem_cons_of_mem _ hv)
    by_cases hw : w.category = 2
    · obtain ⟨x, rfl⟩ := hc w List.mem_cons_self hw
      simp only [rg_args] at h
      simp only [List.map_cons, lv_args, rg_cv_cat, hw, if_true]
      match i with
      | 0 => simp at h; subst h; exact List.mem_cons_self
      | 1 => simp at h
      | i + 2 =>
        simp at h
        have := rg_args_get ρ r (k + 2) i v hr h
        rw [show k + 2 + i = k + (i + 2) by omega] at this
        exact List.mem_cons_of_mem _ this
    · have e : rg_args (w :: r) = some w :: rg_args r := by cases w <;> first | rfl | (exact absurd rfl hw)
      rw [e] at h
      simp only [List.map_cons, lv_args, rg_cv_cat, hw, if_false]
      match i with
      | 0 => simp at h; subst h; exact List.mem_cons_self
      | i + 1 =>
        simp at h
        have := rg_args_get ρ r (k + 1) i v hr h
        rw [show k + 1 + i = k + (i + 1) by omega] at this
        exact List.mem_cons_of_mem _ this
