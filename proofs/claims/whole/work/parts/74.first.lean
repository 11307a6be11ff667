set_option maxRecDepth 100000
def A9 : rz_A := (fun c k => (rg_M0.1 c k).toInt, fun c k => (rg_M0.2 c k).toInt)
theorem A9_M : rg_M0 = toM A9 := by
  refine Prod.ext (funext fun c => funext fun k => ?_) (funext fun c => funext fun k => ?_)
  · show rg_M0.1 c k = Int32.ofInt (rg_M0.1 c k).toInt
    rw [Int32.ofInt_toInt]
  · show rg_M0.2 c k = Int64.ofInt (rg_M0.2 c k).toInt
    rw [Int64.ofInt_toInt]
theorem A9_wf : wf A9 := fun c k => ⟨r32_toInt _, r64_toInt _⟩
/-! rows: what the shapes call an array holds zeros -/
def sh_ar (o : Option rg_Sh) : Bool := match o with
  | some (.inr _) => true
  | _ => false
theorem m0_ar (c : Nat) (h : sh_ar (rg_shapes[c]?) = true) : A9.1 c = fun _ => 0 := by
  have hk : ∃ y, rg_shapes[c]? = some (.inr y) := by
    revert h
    generalize rg_shapes[c]? = o
    intro h
    cases o with
    | none => cases h
    | some x => cases x with
      | inl y => cases h
      | inr y => exact ⟨y, rfl⟩
  obtain ⟨y, hs⟩ := hk
  have hls : c < rg_shapes.length := (List.getElem?_eq_some_iff.mp hs).1
  have hlm : c < rc_m.length := by rw [rc_m_len]; rw [rg_shapes_len] at hls; exact hls
  obtain ⟨x, hm⟩ := rc_ex hlm
  have hz : (rc_m.zip rg_shapes)[c]? = some (x, .inr y) := by rw [List.getElem?_zip_eq_some]; exact ⟨hm, hs⟩
  have hl := List.all_eq_true.mp rc_like_ok _ (List.mem_of_getElem? hz)
  refine funext fun k => ?_
  have e : rg_M0.1 c k = 0 := by
    cases x with
    | inl z => obtain ⟨z1, z2⟩ := z; cases hl
    | inr z => simp only [rg_M0, hm]
  show (rg_M0.1 c k).toInt = 0
  rw [e]
  rfl
/-! slots: their first values, by one look at what the constructors leave -/
def c9 (x : rc_Cell) (l : List (Nat × Nat)) : Bool := match x with
  | .inl (_, fs) => l.all (fun q => match fs[q.1]? with
    | some (.int v) => Nat.beq v.toBitVec.toNat q.2
    | _ => false)
  | .inr _ => l.isEmpty
def tb9 : List (List (Nat × Nat)) := [[(14, 0), (15, 5), (16, 0)], [], [(0, 0), (1, 0)], [], [], [], [], [], [], [], [], [], [], [], [], [], [], [], [(0, 0), (1, 0)], [], [], [], [], [], [], [], [(0, 0)], [], [], [], [], [], [], [(0, 0)], [], [], [], [], [], [], [(1, 0)], [], [], [(0, 0)], [], [], [], [], [], [], [], [(4, 0), (5, 0)], [], [], [], [], [(12, 0)], [], [], [], [], [], [], [], [(4, 0)], [], [], [], [], [(0, 0)], [], [], [(0, 0)], [], [], [(0, 0)], [], [], [(0, 0)], [], [], [(0, 0)], [], [], [(0, 0)], [], [], [], [], [], [], [(0, 0), (1, 0), (2, 0), (3, 0), (4, 0), (5, 0), (6, 0), (7, 0), (8, 0), (9, 0), (10, 5), (11, 0), (62, 4294967295), (66, 0)], [], [], [], [], [], [], [], [], [], [], [], [], [], [], [], [], [], [], [], [], [], [], [], [], [], [], [], [], [], [], [], [], [], [], [], [], [], [], [], [], [], [], [], [], [], [], [], [], [], [], [], [], [], [], [], [], []]
theorem c9_ok : (rc_m.zip tb9).all (fun q => c9 q.1 q.2) = true := by decide +kernel
def has9 (c k n : Nat) : Bool := match tb9[c]? with
  | some l => l.any (fun q => Nat.beq q.1 k && Nat.beq q.2 n)
  | none => false
theorem m0_nat (c k n : Nat) (h : has9 c k n = true) : (rg_M0.1 c k).toBitVec.toNat = n := by
  have hk : ∃ l, tb9[c]? = some l ∧ (k, n) ∈ l := by
    unfold has9 at h
    revert h
    generalize tb9[c]? = o
    intro h
    cases o with
    | none => cases h
    | some l =>
      refine ⟨l, rfl, ?_⟩
      obtain ⟨q, hq, h2⟩ := List.any_eq_true.mp h
      simp only [Bool.and_eq_true, Nat.beq_eq] at h2
      obtain ⟨rfl, rfl⟩ := h2
      exact hq
  obtain ⟨l, hs, hq⟩ := hk
  have hl9 : tb9.length = 149 := by decide +kernel
  have hls : c < tb9.length := (List.getElem?_eq_some_iff.mp hs).1
  have hlm : c < rc_m.length := by rw [rc_m_len]; rw [hl9] at hls; exact hls
  obtain ⟨x, hm⟩ := rc_ex hlm
  have hz : (rc_m.zip tb9)[c]? = some (x, l) := by rw [List.getElem?_zip_eq_some]; exact ⟨hm, hs⟩
  have hl := List.all_eq_true.mp c9_ok _ (List.mem_of_getElem? hz)
  cases x with
  | inr z =>
    have hl : l.isEmpty = true := hl
    rw [List.isEmpty_iff] at hl
    rw [hl] at hq
    exact absurd hq List.not_mem_nil
  | inl z =>
    obtain ⟨z1, fs⟩ := z
    have h3 := List.all_eq_true.mp (show l.all _ = true from hl) _ hq
    simp only at h3
    simp only [rg_M0, hm]
    split at h3
    · rename_i v hv
      rw [hv]
      exact Nat.beq_eq.mp h3
    · cases h3
theorem m0_int (c k n : Nat) (h : has9 c k n = true) : A9.1 c k = if 2 * n < 4294967296 then (n : Int) else (n : Int) - 4294967296 := by
  show (rg_M0.1 c k).toBitVec.toInt = _
  have e := m0_nat c k n h
  rw [BitVec.toInt_eq_toNat_cond, e]
  rfl
theorem m0_0 (c k : Nat) (h : has9 c k 0 = true) : A9.1 c k = 0 := (m0_int c k 0 h).trans (by decide)
theorem m0_5 (c k : Nat) (h : has9 c k 5 = true) : A9.1 c k = 5 := (m0_int c k 5 h).trans (by decide)
theorem m0_m (c k : Nat) (h : has9 c k 4294967295 = true) : A9.1 c k = -1 := (m0_int c k 4294967295 h).trans (by decide)
def S9 : St := (fun _ => 0, fun i _ _ => bif Nat.beq i 1 then 5 else 0)
theorem c9b (n : Int) (h : 0 ≤ n) : (0 : Int) ≤ 0 ∧ (0 : Int) ≤ n := ⟨Int.le_refl 0, h⟩
theorem S9_ok : OK 0 S9 := OK.of ⟨(c9b 9999 (by decide)),
  (show (0 : Int) ≤ 5 ∧ (5 : Int) ≤ 100 by decide),
  (Nat.zero_le _),
  (Nat.zero_le _),
  (Nat.zero_le _),
  (Nat.zero_le _),
  (Nat.zero_le _),
  (Nat.zero_le _),
  (Nat.zero_le _),
  (Nat.zero_le _),
  (Nat.zero_le _),
  (fun i h => absurd h (Nat.not_lt_zero i)),
  (fun i h => absurd h (Nat.not_lt_zero i)),
  (fun i h => absurd h (Nat.not_lt_zero i)),
  (fun _ _ => c9b 8 (by decide)),
  (fun _ _ _ _ => c9b 9999 (by decide)),
  (fun _ _ => c9b 8 (by decide)),
  (fun _ _ _ _ => ⟨⟨show (-9999 : Int) ≤ 0 by decide, show (0 : Int) ≤ 99999 by decide⟩, c9b 99999 (by decide)⟩),
  (fun p i _ h => absurd (show (i : Int) + 1 < 0 from h) (by omega)),
  (fun i h => absurd h (Nat.not_lt_zero i)),
  (fun i h => absurd h (Nat.not_lt_zero i)),
  (fun i h => absurd h (Nat.not_lt_zero i)),
  (fun i h => absurd h (Nat.not_lt_zero i)),
  (fun i h => absurd h (Nat.not_lt_zero i)),
  (fun i _ h => absurd h (Nat.not_lt_zero i)),
  (fun i h => absurd h (Nat.not_lt_zero i)),
  (fun i h => absurd h (Nat.not_lt_zero i)),
  (fun i h => absurd h (Nat.not_lt_zero i)),
  (fun _ => c9b 0 (by decide))⟩
theorem S9_rc : RC A9 S9 := RC.of ⟨(m0_0 0 16 (by decide +kernel)),
  (m0_5 0 15 (by decide +kernel)),
  (m0_0 2 0 (by decide +kernel)),
  (m0_0 2 1 (by decide +kernel)),
  (m0_0 18 0 (by decide +kernel)),
  (m0_0 26 0 (by decide +kernel)),
  (m0_0 33 0 (by decide +kernel)),
  (m0_0 43 0 (by decide +kernel)),
  (m0_0 0 14 (by decide +kernel)),
  (m0_0 40 1 (by decide +kernel)),
  (m0_0 64 4 (by decide +kernel)),
  (m0_ar 3 (by decide +kernel)),
  (m0_ar 4 (by decide +kernel)),
  (m0_ar 5 (by decide +kernel)),
  (m0_ar 6 (by decide +kernel)),
  (m0_ar 8 (by decide +kernel)),
  (m0_ar 9 (by decide +kernel)),
  (m0_ar 10 (by decide +kernel)),
  (m0_ar 11 (by decide +kernel)),
  (m0_ar 12 (by decide +kernel)),
  (m0_ar 13 (by decide +kernel)),
  (m0_0 69 0 (by decide +kernel)),
  (m0_0 72 0 (by decide +kernel)),
  (m0_0 75 0 (by decide +kernel)),
  (m0_0 78 0 (by decide +kernel)),
  (m0_0 81 0 (by decide +kernel)),
  (m0_0 84 0 (by decide +kernel)),
  (m0_ar 70 (by decide +kernel)),
  (m0_ar 73 (by decide +kernel)),
  (m0_ar 76 (by decide +kernel)),
  (m0_ar 79 (by decide +kernel)),
  (m0_ar 82 (by decide +kernel)),
  (m0_ar 85 (by decide +kernel)),
  (m0_ar 71 (by decide +kernel)),
  (m0_ar 74 (by decide +kernel)),
  (m0_ar 77 (by decide +kernel)),
  (m0_ar 80 (by decide +kernel)),
  (m0_ar 83 (by decide +kernel)),
  (m0_ar 86 (by decide +kernel)),
  (m0_ar 14 (by decide +kernel)),
  (m0_ar 15 (by decide +kernel)),
  (m0_ar 16 (by decide +kernel)),
  (m0_ar 17 (by decide +kernel)),
  (m0_ar 19 (by decide +kernel)),
  (m0_ar 20 (by decide +kernel)),
  (m0_ar 21 (by decide +kernel)),
  (m0_ar 22 (by decide +kernel)),
  (m0_ar 23 (by decide +kernel)),
  (fun i h => absurd h (Nat.not_lt_zero i)),
  (m0_0 18 1 (by decide +kernel)),
  (m0_ar 27 (by decide +kernel)),
  (m0_ar 28 (by decide +kernel)),
  (m0_ar 29 (by decide +kernel)),
  (m0_ar 30 (by decide +kernel)),
  (m0_ar 31 (by decide +kernel)),
  (fun i h => absurd h (Nat.not_lt_zero i)),
  (m0_ar 34 (by decide +kernel)),
  (m0_ar 35 (by decide +kernel)),
  (m0_ar 36 (by decide +kernel)),
  (m0_ar 37 (by decide +kernel)),
  (m0_ar 38 (by decide +kernel)),
  (m0_ar 39 (by decide +kernel)),
  (m0_ar 44 (by decide +kernel)),
  (m0_ar 45 (by decide +kernel)),
  (m0_ar 46 (by decide +kernel)),
  (m0_ar 47 (by decide +kernel)),
  (fun s _ h => absurd h (Nat.not_lt_zero s)),
  (m0_ar 88 (by decide +kernel)),
  (m0_ar 89 (by decide +kernel)),
  (m0_ar 90 (by decide +kernel)),
  (m0_ar 41 (by decide +kernel)),
  (m0_ar 66 (by decide +kernel)),
  (fun i _ => congrFun (m0_ar 1 (by decide +kernel)) _),
  (fun i h => absurd h (Nat.not_lt_zero i)),
  (fun i j _ h => absurd h (Nat.not_lt_zero j)),
  (fun i h => absurd h (Nat.not_lt_zero i))⟩
theorem S9_rm : RM A9 S9 := RM.of ⟨(m0_0 91 0 (by decide +kernel)),
  (m0_0 91 1 (by decide +kernel)),
  (m0_0 91 2 (by decide +kernel)),
  (m0_0 91 3 (by decide +kernel)),
  (m0_0 91 4 (by decide +kernel)),
  (m0_0 91 5 (by decide +kernel)),
  (m0_0 91 6 (by decide +kernel)),
  (m0_0 91 7 (by decide +kernel)),
  (m0_0 91 8 (by decide +kernel)),
  (m0_0 91 9 (by decide +kernel)),
  (m0_5 91 10 (by decide +kernel)),
  (m0_ar 92 (by decide +kernel)),
  (m0_ar 93 (by decide +kernel)),
  (m0_ar 94 (by decide +kernel)),
  (m0_ar 95 (by decide +kernel)),
  (m0_ar 96 (by decide +kernel)),
  (fun _ _ _ _ => congrFun (m0_ar 97 (by decide +kernel)) _),
  (fun _ _ _ _ => congrFun (m0_ar 98 (by decide +kernel)) _),
  (fun _ _ _ _ => congrFun (m0_ar 99 (by decide +kernel)) _),
  (m0_ar 100 (by decide +kernel)),
  (m0_ar 101 (by decide +kernel)),
  (m0_ar 102 (by decide +kernel)),
  (m0_ar 103 (by decide +kernel)),
  (m0_ar 104 (by decide +kernel)),
  (m0_ar 105 (by decide +kernel)),
  (m0_ar 106 (by decide +kernel)),
  (m0_ar 107 (by decide +kernel)),
  (m0_ar 108 (by decide +kernel)),
  (m0_ar 109 (by decide +kernel)),
  (m0_ar 110 (by decide +kernel)),
  (m0_ar 111 (by decide +kernel)),
  (m0_ar 112 (by decide +kernel)),
  (m0_ar 113 (by decide +kernel)),
  (m0_ar 114 (by decide +kernel)),
  (m0_ar 115 (by decide +kernel)),
  (m0_ar 116 (by decide +kernel)),
  (m0_ar 117 (by decide +kernel)),
  (m0_ar 118 (by decide +kernel)),
  (m0_ar 119 (by decide +kernel)),
  (m0_ar 120 (by decide +kernel)),
  (m0_ar 121 (by decide +kernel)),
  (m0_ar 122 (by decide +kernel)),
  (m0_ar 123 (by decide +kernel)),
  (m0_ar 124 (by decide +kernel)),
  (m0_ar 125 (by decide +kernel)),
  (fun s _ h => absurd h (Nat.not_lt_zero s)),
  (m0_ar 127 (by decide +kernel)),
  (m0_ar 128 (by decide +kernel)),
  (m0_ar 129 (by decide +kernel)),
  (m0_ar 130 (by decide +kernel)),
  (m0_ar 131 (by decide +kernel)),
  (fun i _ => congrFun (m0_ar 132 (by decide +kernel)) _)⟩
theorem S9_ci : CI A9 S9 0 := by
  have e1 := m0_0 51 5 (by decide +kernel)
  have e2 := m0_0 51 4 (by decide +kernel)
  have e3 := m0_0 56 12 (by decide +kernel)
  have no : A9.1 51 5 = 1 → False := fun h => by rw [e1] at h; exact absurd h (by decide)
  refine CI.of ⟨Or.inl e1, fun h => (no h).elim, ?_, ?_, fun h => (no h).elim⟩
  · rw [e2]; exact c9b 0 (by decide)
  · rw [e2, e3]; exact Int.le_refl 0
theorem S9_mi : MI A9 S9 0 := by
  have e1 := m0_0 91 11 (by decide +kernel)
  have e2 := m0_0 91 66 (by decide +kernel)
  have e3 := m0_m 91 62 (by decide +kernel)
  refine MI.of ⟨?_, ?_, fun h => ?_⟩
  · rw [e1]; exact c9b 0 (by decide)
  · rw [e1, e2]; exact Int.le_refl 0
  · rw [e3] at h; exact absurd h (by decide)
theorem first9 : Inv9 0 rg_M0 := ⟨A9, S9, A9_M, A9_wf, ⟨S9_rc, S9_ci⟩, ⟨S9_rm, S9_mi⟩, S9_ok⟩
theorem spec9 : rg_Spec Inv9 := spec_of first9
