/-! the first memory: what the constructors leave, seen by the machine of the methods -/
def rg_M0 : rg_M := (fun c k => match rc_m[c]? with
  | some (.inl (_, fs)) => (match fs[k]? with
    | some (.int x) => x
    | _ => 0)
  | _ => 0, fun c k => match rc_m[c]? with
  | some (.inl (_, fs)) => (match fs[k]? with
    | some (.long x) => x
    | _ => 0)
  | _ => 0)
def rc_slok (z : Nat) (v : Value) : Bool := match z, v with
  | 0, .int _ => true
  | 1, .int _ => true
  | 2, .long _ => true
  | r + 3, .ref c => decide (c = r) && decide (r < 149)
  | _, _ => false
def rc_like (x : rc_Cell) (sh : rg_Sh) : Bool := match x, sh with
  | .inl (ci, fs), .inl (ci2, ks) => decide (ci = ci2) && decide (fs.length = ks.length) && (ks.zip fs).all (fun q => rc_slok q.1 q.2)
  | .inr (t, n, rs), .inr (t2, n2, b2, st) => decide (t = t2) && decide (n = n2) && (decide (t < 2) || (List.range n).all (fun i => decide (rs.getD i none = some (b2 + st * i)) && decide (b2 + st * i < 149)))
  | _, _ => false
set_option maxRecDepth 100000 in
theorem rc_like_ok : (rc_m.zip rg_shapes).all (fun q => rc_like q.1 q.2) = true := by decide +kernel
theorem rc_slok_eq {z c k : Nat} {v : Value} {r ρ : Nat → Nat} {ci : Nat} {fs : List Value} (hρ : ∀ c, c < 149 → ρ c = r c) (h : rc_slok z v = true) (hm : rc_m[c]? = some (.inl (ci, fs))) (hv : fs[k]? = some v) : rg_cv r v = rg_cv ρ (rg_slot rg_M0 c k z) := by
  unfold rc_slok at h
  split at h
  · simp only [rg_slot, rg_M0, hm, hv, rg_cv]
  · simp only [rg_slot, rg_M0, hm, hv, rg_cv]
  · simp only [rg_slot, rg_M0, hm, hv, rg_cv]
  · simp only [Bool.and_eq_true, decide_eq_true_eq] at h
    obtain ⟨rfl, h2⟩ := h
    simp only [rg_slot, rg_cv]
    rw [hρ _ h2]
  · cases h
theorem rc_ex {α : Type} {l : List α} {c : Nat} (h : c < l.length) : ∃ x, l[c]? = some x := ⟨l[c], List.getElem?_eq_getElem h⟩
theorem rc_arrV {cB : ClassId} {n : Nat} {f g : Nat → Value} (h : ∀ j, j < n → f j = g j) : arrV cB n f = arrV cB n g := by
  unfold arrV
  have e : (fun j : Fin n => f j.val) = (fun j : Fin n => g j.val) := funext fun j => h j.val j.2
  rw [e]
theorem rc_first {D : va_G} {b : Nat} {ρ : Nat → Nat} {cA : Nat → ClassId} {H : Heap} (hρ : ∀ c, c < 149 → ρ c = rc_r b c) (hP : va_P D rg_classes (rc_w b cA rc_m) H) : va_P D rg_classes (rg_w ρ cA rg_M0) H := by
  intro c q hq
  obtain ⟨hc, hq1⟩ := rg_w_at hq
  have hlm : c < rc_m.length := by rw [rc_m_len]; exact hc
  have hls : c < rg_shapes.length := by rw [rg_shapes_len]; exact hc
  obtain ⟨x, hm⟩ := rc_ex hlm
  obtain ⟨sh, hs⟩ := rc_ex hls
  have hz : (rc_m.zip rg_shapes)[c]? = some (x, sh) := by rw [List.getElem?_zip_eq_some]; exact ⟨hm, hs⟩
  have hl := List.all_eq_true.mp rc_like_ok _ (List.mem_of_getElem? hz)
  have hp := hP c _ (rc_w_get hm)
  rw [rg_w_get hs] at hq
  cases hq
  simp only at hl
  unfold rc_like at hl
  split at hl
  · rename_i ci fs ci2 ks
    simp only [Bool.and_eq_true, decide_eq_true_eq] at hl
    obtain ⟨⟨rfl, hlen⟩, hall⟩ := hl
    have e : fs.map (rg_cv (rc_r b)) = rg_fs ρ rg_M0 c ks := by
      apply List.ext_getElem?
      intro k
      unfold rg_fs
      rw [List.getElem?_map, List.getElem?_mapIdx]
      by_cases hk : k < ks.length
      · have hk2 : k < fs.length := by omega
        have h1 : ks[k]? = some ks[k] := List.getElem?_eq_getElem hk
        have h2 : fs[k]? = some fs[k] := List.getElem?_eq_getElem hk2
        have h3 : (ks.zip fs)[k]? = some (ks[k], fs[k]) := by rw [List.getElem?_zip_eq_some]; exact ⟨h1, h2⟩
        have h4 := List.all_eq_true.mp hall _ (List.mem_of_getElem? h3)
        rw [h1, h2]
        simp only [Option.map_some]
        rw [rc_slok_eq hρ h4 hm h2]
      · rw [List.getElem?_eq_none (by omega), List.getElem?_eq_none (by omega)]
        rfl
    rw [hρ c hc]
    show va_at D rg_classes (rc_r b c, .inr (ci, rg_fs ρ rg_M0 c ks)) H
    rw [← e]
    exact hp
  · rename_i t n rs t2 n2 b2 st
    simp only [Bool.and_eq_true, Bool.or_eq_true, decide_eq_true_eq] at hl
    obtain ⟨⟨rfl, rfl⟩, hall⟩ := hl
    match t, hm, hp, hall with
    | 0, hm, hp, hall =>
      have e : (rg_M0.1 c) = (fun _ => 0) := by funext k; simp only [rg_M0, hm]
      rw [hρ c hc]
      show va_at D rg_classes (rc_r b c, .inl (cA 0, n, .inl (rg_M0.1 c))) H
      rw [e]
      exact hp
    | 1, hm, hp, hall =>
      have e : (rg_M0.2 c) = (fun _ => 0) := by funext k; simp only [rg_M0, hm]
      rw [hρ c hc]
      show va_at D rg_classes (rc_r b c, .inl (cA 1, n, .inr (.inl (rg_M0.2 c)))) H
      rw [e]
      exact hp
    | t + 2, hm, hp, hall =>
      have hall2 : ∀ i, i < n → rs.getD i none = some (b2 + st * i) ∧ b2 + st * i < 149 := by
        rcases hall with h | h
        · omega
        · intro i hi
          have h9 := List.all_eq_true.mp h i (List.mem_range.mpr hi)
          simp only [Bool.and_eq_true, decide_eq_true_eq] at h9
          exact h9
      have hp2 : H[rc_r b c]? = some (vp_cell (cA (t + 2)) (n, .inr (.inr (.inr (.inr (fun i => (rs.getD i none).map (rc_r b))))))) := hp
      rw [hρ c hc]
      show H[rc_r b c]? = some (vp_cell (cA (t + 2)) (n, .inr (.inr (.inr (.inr (fun i => some (ρ (b2 + st * i))))))))
      rw [hp2, vp_cell_q, vp_cell_q]
      rw [rc_arrV (f := fun j => va_rf ((fun i => (rs.getD i none).map (rc_r b)) j)) (g := fun j => va_rf ((fun i => some (ρ (b2 + st * i))) j))]
      intro j hj
      show va_rf ((rs.getD j none).map (rc_r b)) = _
      rw [(hall2 j hj).1]
      show va_rf (some (rc_r b (b2 + st * j))) = va_rf (some (ρ (b2 + st * j)))
      rw [hρ _ (hall2 j hj).2]
  · cases hl
