/-! the law's loop, out of the pure specification -/
/-- THE PURE SPECIFICATION: an invariant of the memory that holds at first, and under which each call answers alike on both sides, and keeps it -/
def rg_Spec (Inv : Nat → rg_M → Prop) : Prop := Inv 0 rg_M0 ∧ (∀ (t : Nat) (M : rg_M), Inv t M → Inv (t + 1) M) ∧ ∀ (t k : Nat) (as : List Value) (M : rg_M), t < 512 → k < 36 → lz_shape k as → Inv t M → ∃ (f1 f2 : Nat) (r : Int32) (M1 M2 : rg_M), rg_exec f1 60 (lz_yx k) 0 (rg_ent (lz_yx k) (.ref 0 :: as)) [] M = some (some (.int r), M1) ∧ rg_exec f2 60 (lz_ym k) 0 (rg_ent (lz_ym k) (.ref 91 :: as)) [] M1 = some (some (.int r), M2) ∧ Inv (t + 1) M2
def lz_ok (k : Nat) : Bool :=
  decide (lz_lin (lz_s1 k) (lz_row k).1 = some (lz_row k).2.2.1.1) &&
  decide ((lz_kk k)[(lz_row k).2.1]? = some ((lz_row k).2.2.1.1, .invokevirtual (lz_row k).2.2.1.2.1, 3)) &&
  decide (lz_lin (lz_s2 k) ((lz_row k).2.2.1.1 + 3) = some (lz_row k).2.2.2.2.1.1) &&
  decide ((lz_kk k)[(lz_row k).2.1 + 1 + (lz_row k).2.2.2.1]? = some ((lz_row k).2.2.2.2.1.1, .invokevirtual (lz_row k).2.2.2.2.1.2.1, 3)) &&
  decide ((lz_kk k)[(lz_row k).2.1 + 1 + (lz_row k).2.2.2.1 + 1]? = some ((lz_row k).2.2.2.2.2.1, .if_icmp .eq (lz_row k).2.2.2.2.2.2, 3)) &&
  decide ((lz_row k).2.2.2.2.2.1 = (lz_row k).2.2.2.2.1.1 + 3) &&
  decide (((lz_row k).2.2.2.2.2.1 : Int) + (lz_row k).2.2.2.2.2.2 = ((1550 : Nat) : Int)) &&
  decide (lw_tbl[(lz_row k).2.2.1.2.2.2]? = some (Cond.methodLink "RiverGaugeLaw" (lz_row k).2.2.1.2.1 (rg_name (lz_yx k)))) &&
  decide (lw_tbl[(lz_row k).2.2.2.2.1.2.2.2]? = some (Cond.methodLink "RiverGaugeLaw" (lz_row k).2.2.2.2.1.2.1 (rg_name (lz_ym k)))) &&
  decide ((rg_mr (lz_yx k)).2.2.2.2.1.2.2 = 0) && decide ((rg_mr (lz_ym k)).2.2.2.2.1.2.2 = 0) && decide (rg_own (lz_yx k) = 0) && decide (rg_own (lz_ym k) = 12) && decide (rg_np (lz_yx k) = rg_np (lz_ym k)) && decide (rg_np (lz_yx k) + 2 ≤ rg_maxL (lz_yx k) + (if k = 11 then 0 else 1)) && decide (rg_np (lz_ym k) + 2 ≤ rg_maxL (lz_ym k) + (if k = 11 then 0 else 1)) && decide (k ≠ 11 ∨ rg_np (lz_yx k) = 2)
set_option maxRecDepth 100000 in
theorem lz_ok_all : (List.range 36).all lz_ok = true := by decide +kernel
theorem lz_isI0 : rg_isI 0 0 = true := by decide +kernel
theorem lz_isI91 : rg_isI 91 12 = true := by decide +kernel
theorem lz_kd {k : Nat} (hk : k < 36) : (lz_kk k).all (fun e => decide (decode code e.1 = .ok e.2)) = true := by
  match k, hk with
  | 0, _ => exact lz_d0
  | 1, _ => exact lz_d1
  | 2, _ => exact lz_d2
  | 3, _ => exact lz_d3
  | 4, _ => exact lz_d4
  | 5, _ => exact lz_d5
  | 6, _ => exact lz_d6
  | 7, _ => exact lz_d7
  | 8, _ => exact lz_d8
  | 9, _ => exact lz_d9
  | 10, _ => exact lz_d10
  | 11, _ => exact lz_d11
  | 12, _ => exact lz_d12
  | 13, _ => exact lz_d13
  | 14, _ => exact lz_d14
  | 15, _ => exact lz_d15
  | 16, _ => exact lz_d16
  | 17, _ => exact lz_d17
  | 18, _ => exact lz_d18
  | 19, _ => exact lz_d19
  | 20, _ => exact lz_d20
  | 21, _ => exact lz_d21
  | 22, _ => exact lz_d22
  | 23, _ => exact lz_d23
  | 24, _ => exact lz_d24
  | 25, _ => exact lz_d25
  | 26, _ => exact lz_d26
  | 27, _ => exact lz_d27
  | 28, _ => exact lz_d28
  | 29, _ => exact lz_d29
  | 30, _ => exact lz_d30
  | 31, _ => exact lz_d31
  | 32, _ => exact lz_d32
  | 33, _ => exact lz_d33
  | 34, _ => exact lz_d34
  | 35, _ => exact lz_d35
  | k + 36, h => exact absurd h (by omega)
theorem lz_shape_len {k : Nat} {as : List Value} (hs : lz_shape k as) (hk : k ≠ 11 ∨ rg_np (lz_yx k) = 2) : as.length = rg_np (lz_yx k) ∧ ∀ c, (rg_args (.ref c :: as)).length + (if k = 11 then 0 else 1) = rg_np (lz_yx k) + 2 := by
  unfold lz_shape at hs
  split at hs
  · rename_i h11
    obtain ⟨a, v, rfl⟩ := hs
    have h2 : rg_np (lz_yx k) = 2 := by
      rcases hk with h | h
      · exact absurd h11 h
      · exact h
    rw [if_pos h11, h2]
    exact ⟨rfl, fun c => rfl⟩
  · rename_i h11
    obtain ⟨vs, rfl, hl⟩ := hs
    rw [if_neg h11]
    refine ⟨by rw [List.length_map]; exact hl, fun c => ?_⟩
    have e : ∀ vs : List Int32, (rg_args (vs.map Value.int)).length = vs.length := by
      intro vs
      induction vs with
      | nil => rfl
      | cons a t ih => simp only [List.map_cons, rg_args, List.length_cons, ih]
    simp only [rg_args, List.length_cons, e]
    omega
section LAWLOOP
variable {p : Program} {l : Launch} {e : Env} {s : State} {m : MethodId} {below : List Frame} {meth : Method} {c : Code} {H : Heap} {locs : List Loc} {nc ns : Nat} {Q : State → Prop}
variable {b L : Nat} {xs : Nat → Int32} {dC : Nat → ClassId} {dI : Nat → Nat → Nat} {ρ : Nat → Nat} {cA : Nat → ClassId} {ls : Array Slot} {iv : Int32} {M : rg_M} {Inv : Nat → rg_M → Prop}
/-- one call of the law, on both sides -/
theorem lz_one (C0 : lz_Cx p s m c b L xs dC dI ρ cA) (hSp : rg_Spec Inv) {t : Nat} (ht : t < 512) (hI : Inv t M) {k : Nat} (hk : k < 36) (hl : lv_has ls 4 [(0, .ref b), (1, .ref (ρ 0)), (2, .ref (ρ 91)), (3, .int iv)]) (hin : ∀ j ∈ [1, 2, 3, 4, 5], vp_in (iv + Int32.ofInt j) L) (hP : va_P (dC, dI) rg_classes (rg_w ρ cA M) H) (hS : va_S (fun q => s.heap.size ≤ q) s.heap H locs) (hnc : nc ≤ 600000) (hns : ns ≤ 7302250)
    (kk : ∀ (M2 : rg_M) (H1 : Heap) (locs1 : List Loc), Inv (t + 1) M2 → va_P (dC, dI) rg_classes (rg_w ρ cA M2) H1 → va_S (fun q => s.heap.size ≤ q) s.heap H1 locs1 → W p l e room_1 s m #[Value.ref b] below meth c H1 locs1 nc ns Q (F0 m 1550 ls [])) : W p l e room_1 s m #[Value.ref b] below meth c H locs nc ns Q (F0 m (lz_row k).1 ls []) := by
  obtain ⟨as, Rd, hsh, hnum, hruns, hRd⟩ := lz_lays xs iv hk
  have hok := List.all_eq_true.mp lz_ok_all k (List.mem_range.mpr hk)
  unfold lz_ok at hok
  simp only [Bool.and_eq_true, decide_eq_true_eq] at hok
  obtain ⟨⟨⟨⟨⟨⟨⟨⟨⟨⟨⟨⟨⟨⟨⟨⟨a1, a2⟩, a3⟩, a4⟩, a5⟩, a6⟩, a7⟩, a8⟩, a9⟩, a10⟩, a11⟩, a12⟩, a13⟩, a14⟩, a15⟩, a16⟩, a17⟩ := hok
  have hkd := lz_kd hk
  have hdec : ∀ (j pc : Nat) (i : Instr) (n : Nat), (lz_kk k)[j]? = some (pc, i, n) → decode code pc = .ok (i, n) := by
    intro j pc i n hj
    have := List.all_eq_true.mp hkd _ (List.mem_of_getElem? hj)
    simp only [decide_eq_true_eq] at this
    exact this
  have hd1 : (lz_s1 k).all (fun e => decide (decode code e.1 = .ok e.2)) = true := List.all_eq_true.mpr fun x hx => List.all_eq_true.mp hkd x (List.mem_of_mem_take hx)
  have hd2 : (lz_s2 k).all (fun e => decide (decode code e.1 = .ok e.2)) = true := List.all_eq_true.mpr fun x hx => List.all_eq_true.mp hkd x (List.mem_of_mem_drop (List.mem_of_mem_take hx))
  have hRv : ∀ x ∈ Rd, vp_in x L := fun x hx => by
    obtain ⟨j, hj, rfl⟩ := hRd x hx
    exact hin j hj
  obtain ⟨f1, f2, r, M1, M2, he1, he2, hI2⟩ := hSp.2.2 t k as M ht hk hsh hI
  obtain ⟨hlen, hargs⟩ := lz_shape_len hsh a17
  obtain ⟨hx, hb, hml, hown, hts, hK, hX, hbl, hN, hSx, hρ⟩ := id C0
  have hbA : ¬ (s.heap.size ≤ b) := Nat.not_le.mpr hbl
  have hrun1 := (hruns r).1
  have hrun2 := (hruns r).2
  have hmap : ∀ (r0 : List Value), (as.reverse ++ r0).map (rg_cv (lz_t b (ρ 0) (ρ 91))) = as.reverse ++ r0.map (rg_cv (lz_t b (ρ 0) (ρ 91))) := by
    intro r0
    rw [List.map_append, List.map_reverse, lz_num_map hnum]
  refine lz_so hx hb hown hts hX hbl hbA hS hl (lz_s1 k) _ _ [] _ _ hd1 a1 hrun1 hRv ?_
  rw [hmap]
  refine lz_call C0 (cx := 0) (rest := []) hnum he1 (by have := hargs 0; omega) (rg_tbl_mem a8 rfl) a10 hlen (by rw [a12]; exact lz_isI0) (by rw [a12]; decide) (by decide) (hdec _ _ _ _ a2) hl.1 hP hS hnc hns (fun H1 locs1 hP1 hS1 => ?_)
  refine lz_so hx hb hown hts hX hbl hbA hS1 hl (lz_s2 k) _ _ [.int r] _ _ hd2 a3 hrun2 hRv ?_
  rw [hmap]
  refine lz_call C0 (cx := 91) (rest := [.int r]) hnum he2 (by have := hargs 91; omega) (rg_tbl_mem a9 rfl) a11 (by rw [← a14]; exact hlen) (by rw [a13]; exact lz_isI91) (by rw [a13]; decide) (Nat.le_of_ble_eq_true rfl) (hdec _ _ _ _ a4) hl.1 hP1 hS1 hnc hns (fun H2 locs2 hP2 hS2 => ?_)
  rw [← a6]
  exact lv_icmp_eq hx hb (hdec _ _ _ _ a5) a7 (fun _ => kk M2 H2 locs2 hI2 hP2 hS2) (fun hne => absurd rfl hne)
end LAWLOOP
