/-! what the pieces of the law lay on the stack (printed by wip/whole/gen5.py) -/
abbrev lz_R : Type := Nat × Nat × (Nat × Nat × Nat × Nat) × Nat × (Nat × Nat × Nat × Nat) × Nat × Int
def lz_row (k : Nat) : lz_R := lz_tab.getD k (0, 0, (0, 0, 0, 0), 0, (0, 0, 0, 0), 0, 0)
def lz_kk (k : Nat) : List lz_I := lz_ks.getD k []
def lz_s1 (k : Nat) : List lz_I := (lz_kk k).take (lz_row k).2.1
def lz_s2 (k : Nat) : List lz_I := ((lz_kk k).drop ((lz_row k).2.1 + 1)).take (lz_row k).2.2.2.1
/-- the class's method and the reference's -/
def lz_yx (k : Nat) : Nat := (lz_row k).2.2.1.2.2.1
def lz_ym (k : Nat) : Nat := (lz_row k).2.2.2.2.1.2.2.1
/-- the arguments of a call -/
def lz_shape (k : Nat) (as : List Value) : Prop := if k = 11 then ∃ (a : Int32) (v : Int64), as = [.int a, .long v] else ∃ vs : List Int32, as = vs.map Value.int ∧ vs.length = rg_np (lz_yx k)
def lz_lay (xs : Nat → Int32) (iv : Int32) (k : Nat) (as : List Value) (Rd : List Int32) : Prop := lz_shape k as ∧ as.all lz_num = true ∧ (∀ r : Int32, lz_run xs iv (lz_s1 k) [] = some (as.reverse ++ [.ref 1], Rd) ∧ lz_run xs iv (lz_s2 k) [.int r] = some (as.reverse ++ [.ref 2, .int r], Rd)) ∧ ∀ x ∈ Rd, ∃ j ∈ [1, 2, 3, 4, 5], x = iv + Int32.ofInt j
theorem lz_lay0 (xs : Nat → Int32) (iv : Int32) : ∃ as Rd, lz_lay xs iv 0 as Rd := by
  refine ⟨[.int (xs (iv + Int32.ofInt 1).toNatClampNeg)], [iv + Int32.ofInt 1], by rw [lz_shape, if_neg (by decide)]; exact ⟨[(xs (iv + Int32.ofInt 1).toNatClampNeg)], rfl, rfl⟩, rfl, fun r => ⟨rfl, rfl⟩, ?_⟩
  intro x hx
  simp only [List.mem_cons, List.not_mem_nil, or_false] at hx
  subst hx
  exact ⟨1, by decide, rfl⟩
theorem lz_lay1 (xs : Nat → Int32) (iv : Int32) : ∃ as Rd, lz_lay xs iv 1 as Rd := by
  refine ⟨[.int (xs (iv + Int32.ofInt 1).toNatClampNeg)], [iv + Int32.ofInt 1], by rw [lz_shape, if_neg (by decide)]; exact ⟨[(xs (iv + Int32.ofInt 1).toNatClampNeg)], rfl, rfl⟩, rfl, fun r => ⟨rfl, rfl⟩, ?_⟩
  intro x hx
  simp only [List.mem_cons, List.not_mem_nil, or_false] at hx
  subst hx
  exact ⟨1, by decide, rfl⟩
theorem lz_lay2 (xs : Nat → Int32) (iv : Int32) : ∃ as Rd, lz_lay xs iv 2 as Rd := by
  refine ⟨[.int (xs (iv + Int32.ofInt 1).toNatClampNeg), .int (xs (iv + Int32.ofInt 2).toNatClampNeg), .int (xs (iv + Int32.ofInt 3).toNatClampNeg)], [iv + Int32.ofInt 1, iv + Int32.ofInt 2, iv + Int32.ofInt 3], by rw [lz_shape, if_neg (by decide)]; exact ⟨[(xs (iv + Int32.ofInt 1).toNatClampNeg), (xs (iv + Int32.ofInt 2).toNatClampNeg), (xs (iv + Int32.ofInt 3).toNatClampNeg)], rfl, rfl⟩, rfl, fun r => ⟨rfl, rfl⟩, ?_⟩
  intro x hx
  simp only [List.mem_cons, List.not_mem_nil, or_false] at hx
  rcases hx with rfl | rfl | rfl
  · exact ⟨1, by decide, rfl⟩
  · exact ⟨2, by decide, rfl⟩
  · exact ⟨3, by decide, rfl⟩
theorem lz_lay3 (xs : Nat → Int32) (iv : Int32) : ∃ as Rd, lz_lay xs iv 3 as Rd := by
  refine ⟨[.int (xs (iv + Int32.ofInt 1).toNatClampNeg), .int (xs (iv + Int32.ofInt 2).toNatClampNeg), .int (xs (iv + Int32.ofInt 3).toNatClampNeg)], [iv + Int32.ofInt 1, iv + Int32.ofInt 2, iv + Int32.ofInt 3], by rw [lz_shape, if_neg (by decide)]; exact ⟨[(xs (iv + Int32.ofInt 1).toNatClampNeg), (xs (iv + Int32.ofInt 2).toNatClampNeg), (xs (iv + Int32.ofInt 3).toNatClampNeg)], rfl, rfl⟩, rfl, fun r => ⟨rfl, rfl⟩, ?_⟩
  intro x hx
  simp only [List.mem_cons, List.not_mem_nil, or_false] at hx
  rcases hx with rfl | rfl | rfl
  · exact ⟨1, by decide, rfl⟩
  · exact ⟨2, by decide, rfl⟩
  · exact ⟨3, by decide, rfl⟩
theorem lz_lay4 (xs : Nat → Int32) (iv : Int32) : ∃ as Rd, lz_lay xs iv 4 as Rd := by
  refine ⟨[.int (xs (iv + Int32.ofInt 1).toNatClampNeg), .int (xs (iv + Int32.ofInt 2).toNatClampNeg), .int (xs (iv + Int32.ofInt 3).toNatClampNeg), .int (xs (iv + Int32.ofInt 4).toNatClampNeg)], [iv + Int32.ofInt 1, iv + Int32.ofInt 2, iv + Int32.ofInt 3, iv + Int32.ofInt 4], by rw [lz_shape, if_neg (by decide)]; exact ⟨[(xs (iv + Int32.ofInt 1).toNatClampNeg), (xs (iv + Int32.ofInt 2).toNatClampNeg), (xs (iv + Int32.ofInt 3).toNatClampNeg), (xs (iv + Int32.ofInt 4).toNatClampNeg)], rfl, rfl⟩, rfl, fun r => ⟨rfl, rfl⟩, ?_⟩
  intro x hx
  simp only [List.mem_cons, List.not_mem_nil, or_false] at hx
  rcases hx with rfl | rfl | rfl | rfl
  · exact ⟨1, by decide, rfl⟩
  · exact ⟨2, by decide, rfl⟩
  · exact ⟨3, by decide, rfl⟩
  · exact ⟨4, by decide, rfl⟩
theorem lz_lay5 (xs : Nat → Int32) (iv : Int32) : ∃ as Rd, lz_lay xs iv 5 as Rd := by
  refine ⟨[.int (xs (iv + Int32.ofInt 1).toNatClampNeg)], [iv + Int32.ofInt 1], by rw [lz_shape, if_neg (by decide)]; exact ⟨[(xs (iv + Int32.ofInt 1).toNatClampNeg)], rfl, rfl⟩, rfl, fun r => ⟨rfl, rfl⟩, ?_⟩
  intro x hx
  simp only [List.mem_cons, List.not_mem_nil, or_false] at hx
  subst hx
  exact ⟨1, by decide, rfl⟩
theorem lz_lay6 (xs : Nat → Int32) (iv : Int32) : ∃ as Rd, lz_lay xs iv 6 as Rd := by
  refine ⟨[.int (xs (iv + Int32.ofInt 1).toNatClampNeg), .int (xs (iv + Int32.ofInt 2).toNatClampNeg)], [iv + Int32.ofInt 1, iv + Int32.ofInt 2], by rw [lz_shape, if_neg (by decide)]; exact ⟨[(xs (iv + Int32.ofInt 1).toNatClampNeg), (xs (iv + Int32.ofInt 2).toNatClampNeg)], rfl, rfl⟩, rfl, fun r => ⟨rfl, rfl⟩, ?_⟩
  intro x hx
  simp only [List.mem_cons, List.not_mem_nil, or_false] at hx
  rcases hx with rfl | rfl
  · exact ⟨1, by decide, rfl⟩
  · exact ⟨2, by decide, rfl⟩
theorem lz_lay7 (xs : Nat → Int32) (iv : Int32) : ∃ as Rd, lz_lay xs iv 7 as Rd := by
  refine ⟨[.int (xs (iv + Int32.ofInt 1).toNatClampNeg), .int (xs (iv + Int32.ofInt 2).toNatClampNeg), .int (xs (iv + Int32.ofInt 3).toNatClampNeg)], [iv + Int32.ofInt 1, iv + Int32.ofInt 2, iv + Int32.ofInt 3], by rw [lz_shape, if_neg (by decide)]; exact ⟨[(xs (iv + Int32.ofInt 1).toNatClampNeg), (xs (iv + Int32.ofInt 2).toNatClampNeg), (xs (iv + Int32.ofInt 3).toNatClampNeg)], rfl, rfl⟩, rfl, fun r => ⟨rfl, rfl⟩, ?_⟩
  intro x hx
  simp only [List.mem_cons, List.not_mem_nil, or_false] at hx
  rcases hx with rfl | rfl | rfl
  · exact ⟨1, by decide, rfl⟩
  · exact ⟨2, by decide, rfl⟩
  · exact ⟨3, by decide, rfl⟩
theorem lz_lay8 (xs : Nat → Int32) (iv : Int32) : ∃ as Rd, lz_lay xs iv 8 as Rd := by
  refine ⟨[.int (xs (iv + Int32.ofInt 1).toNatClampNeg), .int (xs (iv + Int32.ofInt 2).toNatClampNeg), .int (xs (iv + Int32.ofInt 3).toNatClampNeg), .int (xs (iv + Int32.ofInt 4).toNatClampNeg)], [iv + Int32.ofInt 1, iv + Int32.ofInt 2, iv + Int32.ofInt 3, iv + Int32.ofInt 4], by rw [lz_shape, if_neg (by decide)]; exact ⟨[(xs (iv + Int32.ofInt 1).toNatClampNeg), (xs (iv + Int32.ofInt 2).toNatClampNeg), (xs (iv + Int32.ofInt 3).toNatClampNeg), (xs (iv + Int32.ofInt 4).toNatClampNeg)], rfl, rfl⟩, rfl, fun r => ⟨rfl, rfl⟩, ?_⟩
  intro x hx
  simp only [List.mem_cons, List.not_mem_nil, or_false] at hx
  rcases hx with rfl | rfl | rfl | rfl
  · exact ⟨1, by decide, rfl⟩
  · exact ⟨2, by decide, rfl⟩
  · exact ⟨3, by decide, rfl⟩
  · exact ⟨4, by decide, rfl⟩
theorem lz_lay9 (xs : Nat → Int32) (iv : Int32) : ∃ as Rd, lz_lay xs iv 9 as Rd := by
  refine ⟨[.int (xs (iv + Int32.ofInt 1).toNatClampNeg)], [iv + Int32.ofInt 1], by rw [lz_shape, if_neg (by decide)]; exact ⟨[(xs (iv + Int32.ofInt 1).toNatClampNeg)], rfl, rfl⟩, rfl, fun r => ⟨rfl, rfl⟩, ?_⟩
  intro x hx
  simp only [List.mem_cons, List.not_mem_nil, or_false] at hx
  subst hx
  exact ⟨1, by decide, rfl⟩
theorem lz_lay10 (xs : Nat → Int32) (iv : Int32) : ∃ as Rd, lz_lay xs iv 10 as Rd := by
  refine ⟨[.int (xs (iv + Int32.ofInt 1).toNatClampNeg), .int (xs (iv + Int32.ofInt 2).toNatClampNeg)], [iv + Int32.ofInt 1, iv + Int32.ofInt 2], by rw [lz_shape, if_neg (by decide)]; exact ⟨[(xs (iv + Int32.ofInt 1).toNatClampNeg), (xs (iv + Int32.ofInt 2).toNatClampNeg)], rfl, rfl⟩, rfl, fun r => ⟨rfl, rfl⟩, ?_⟩
  intro x hx
  simp only [List.mem_cons, List.not_mem_nil, or_false] at hx
  rcases hx with rfl | rfl
  · exact ⟨1, by decide, rfl⟩
  · exact ⟨2, by decide, rfl⟩
theorem lz_lay11 (xs : Nat → Int32) (iv : Int32) : ∃ as Rd, lz_lay xs iv 11 as Rd := by
  refine ⟨[.int (xs (iv + Int32.ofInt 1).toNatClampNeg), .long (((xs (iv + Int32.ofInt 2).toNatClampNeg).toInt64 <<< ((Int8.ofInt 32).toInt32.toInt64 &&& 63)) ||| ((xs (iv + Int32.ofInt 3).toNatClampNeg).toInt64 &&& 4294967295))], [iv + Int32.ofInt 1, iv + Int32.ofInt 2, iv + Int32.ofInt 3], by rw [lz_shape, if_pos rfl]; exact ⟨_, _, rfl⟩, rfl, fun r => ⟨rfl, rfl⟩, ?_⟩
  intro x hx
  simp only [List.mem_cons, List.not_mem_nil, or_false] at hx
  rcases hx with rfl | rfl | rfl
  · exact ⟨1, by decide, rfl⟩
  · exact ⟨2, by decide, rfl⟩
  · exact ⟨3, by decide, rfl⟩
theorem lz_lay12 (xs : Nat → Int32) (iv : Int32) : ∃ as Rd, lz_lay xs iv 12 as Rd := by
  refine ⟨[.int (xs (iv + Int32.ofInt 1).toNatClampNeg), .int (xs (iv + Int32.ofInt 2).toNatClampNeg)], [iv + Int32.ofInt 1, iv + Int32.ofInt 2], by rw [lz_shape, if_neg (by decide)]; exact ⟨[(xs (iv + Int32.ofInt 1).toNatClampNeg), (xs (iv + Int32.ofInt 2).toNatClampNeg)], rfl, rfl⟩, rfl, fun r => ⟨rfl, rfl⟩, ?_⟩
  intro x hx
  simp only [List.mem_cons, List.not_mem_nil, or_false] at hx
  rcases hx with rfl | rfl
  · exact ⟨1, by decide, rfl⟩
  · exact ⟨2, by decide, rfl⟩
theorem lz_lay13 (xs : Nat → Int32) (iv : Int32) : ∃ as Rd, lz_lay xs iv 13 as Rd := by
  refine ⟨[.int (xs (iv + Int32.ofInt 1).toNatClampNeg), .int (xs (iv + Int32.ofInt 2).toNatClampNeg)], [iv + Int32.ofInt 1, iv + Int32.ofInt 2], by rw [lz_shape, if_neg (by decide)]; exact ⟨[(xs (iv + Int32.ofInt 1).toNatClampNeg), (xs (iv + Int32.ofInt 2).toNatClampNeg)], rfl, rfl⟩, rfl, fun r => ⟨rfl, rfl⟩, ?_⟩
  intro x hx
  simp only [List.mem_cons, List.not_mem_nil, or_false] at hx
  rcases hx with rfl | rfl
  · exact ⟨1, by decide, rfl⟩
  · exact ⟨2, by decide, rfl⟩
theorem lz_lay14 (xs : Nat → Int32) (iv : Int32) : ∃ as Rd, lz_lay xs iv 14 as Rd := by
  refine ⟨[.int (xs (iv + Int32.ofInt 1).toNatClampNeg), .int (xs (iv + Int32.ofInt 2).toNatClampNeg)], [iv + Int32.ofInt 1, iv + Int32.ofInt 2], by rw [lz_shape, if_neg (by decide)]; exact ⟨[(xs (iv + Int32.ofInt 1).toNatClampNeg), (xs (iv + Int32.ofInt 2).toNatClampNeg)], rfl, rfl⟩, rfl, fun r => ⟨rfl, rfl⟩, ?_⟩
  intro x hx
  simp only [List.mem_cons, List.not_mem_nil, or_false] at hx
  rcases hx with rfl | rfl
  · exact ⟨1, by decide, rfl⟩
  · exact ⟨2, by decide, rfl⟩
theorem lz_lay15 (xs : Nat → Int32) (iv : Int32) : ∃ as Rd, lz_lay xs iv 15 as Rd := by
  refine ⟨[.int (xs (iv + Int32.ofInt 1).toNatClampNeg), .int (xs (iv + Int32.ofInt 2).toNatClampNeg), .int (xs (iv + Int32.ofInt 3).toNatClampNeg)], [iv + Int32.ofInt 1, iv + Int32.ofInt 2, iv + Int32.ofInt 3], by rw [lz_shape, if_neg (by decide)]; exact ⟨[(xs (iv + Int32.ofInt 1).toNatClampNeg), (xs (iv + Int32.ofInt 2).toNatClampNeg), (xs (iv + Int32.ofInt 3).toNatClampNeg)], rfl, rfl⟩, rfl, fun r => ⟨rfl, rfl⟩, ?_⟩
  intro x hx
  simp only [List.mem_cons, List.not_mem_nil, or_false] at hx
  rcases hx with rfl | rfl | rfl
  · exact ⟨1, by decide, rfl⟩
  · exact ⟨2, by decide, rfl⟩
  · exact ⟨3, by decide, rfl⟩
theorem lz_lay16 (xs : Nat → Int32) (iv : Int32) : ∃ as Rd, lz_lay xs iv 16 as Rd := by
  refine ⟨[.int (xs (iv + Int32.ofInt 1).toNatClampNeg), .int (xs (iv + Int32.ofInt 2).toNatClampNeg), .int (xs (iv + Int32.ofInt 3).toNatClampNeg), .int (xs (iv + Int32.ofInt 4).toNatClampNeg), .int (xs (iv + Int32.ofInt 5).toNatClampNeg)], [iv + Int32.ofInt 1, iv + Int32.ofInt 2, iv + Int32.ofInt 3, iv + Int32.ofInt 4, iv + Int32.ofInt 5], by rw [lz_shape, if_neg (by decide)]; exact ⟨[(xs (iv + Int32.ofInt 1).toNatClampNeg), (xs (iv + Int32.ofInt 2).toNatClampNeg), (xs (iv + Int32.ofInt 3).toNatClampNeg), (xs (iv + Int32.ofInt 4).toNatClampNeg), (xs (iv + Int32.ofInt 5).toNatClampNeg)], rfl, rfl⟩, rfl, fun r => ⟨rfl, rfl⟩, ?_⟩
  intro x hx
  simp only [List.mem_cons, List.not_mem_nil, or_false] at hx
  rcases hx with rfl | rfl | rfl | rfl | rfl
  · exact ⟨1, by decide, rfl⟩
  · exact ⟨2, by decide, rfl⟩
  · exact ⟨3, by decide, rfl⟩
  · exact ⟨4, by decide, rfl⟩
  · exact ⟨5, by decide, rfl⟩
theorem lz_lay17 (xs : Nat → Int32) (iv : Int32) : ∃ as Rd, lz_lay xs iv 17 as Rd := by
  refine ⟨[.int (xs (iv + Int32.ofInt 1).toNatClampNeg), .int (xs (iv + Int32.ofInt 2).toNatClampNeg), .int (xs (iv + Int32.ofInt 3).toNatClampNeg)], [iv + Int32.ofInt 1, iv + Int32.ofInt 2, iv + Int32.ofInt 3], by rw [lz_shape, if_neg (by decide)]; exact ⟨[(xs (iv + Int32.ofInt 1).toNatClampNeg), (xs (iv + Int32.ofInt 2).toNatClampNeg), (xs (iv + Int32.ofInt 3).toNatClampNeg)], rfl, rfl⟩, rfl, fun r => ⟨rfl, rfl⟩, ?_⟩
  intro x hx
  simp only [List.mem_cons, List.not_mem_nil, or_false] at hx
  rcases hx with rfl | rfl | rfl
  · exact ⟨1, by decide, rfl⟩
  · exact ⟨2, by decide, rfl⟩
  · exact ⟨3, by decide, rfl⟩
theorem lz_lay18 (xs : Nat → Int32) (iv : Int32) : ∃ as Rd, lz_lay xs iv 18 as Rd := by
  refine ⟨[.int (xs (iv + Int32.ofInt 1).toNatClampNeg), .int (xs (iv + Int32.ofInt 2).toNatClampNeg), .int (xs (iv + Int32.ofInt 3).toNatClampNeg), .int (xs (iv + Int32.ofInt 4).toNatClampNeg), .int (xs (iv + Int32.ofInt 5).toNatClampNeg)], [iv + Int32.ofInt 1, iv + Int32.ofInt 2, iv + Int32.ofInt 3, iv + Int32.ofInt 4, iv + Int32.ofInt 5], by rw [lz_shape, if_neg (by decide)]; exact ⟨[(xs (iv + Int32.ofInt 1).toNatClampNeg), (xs (iv + Int32.ofInt 2).toNatClampNeg), (xs (iv + Int32.ofInt 3).toNatClampNeg), (xs (iv + Int32.ofInt 4).toNatClampNeg), (xs (iv + Int32.ofInt 5).toNatClampNeg)], rfl, rfl⟩, rfl, fun r => ⟨rfl, rfl⟩, ?_⟩
  intro x hx
  simp only [List.mem_cons, List.not_mem_nil, or_false] at hx
  rcases hx with rfl | rfl | rfl | rfl | rfl
  · exact ⟨1, by decide, rfl⟩
  · exact ⟨2, by decide, rfl⟩
  · exact ⟨3, by decide, rfl⟩
  · exact ⟨4, by decide, rfl⟩
  · exact ⟨5, by decide, rfl⟩
theorem lz_lay19 (xs : Nat → Int32) (iv : Int32) : ∃ as Rd, lz_lay xs iv 19 as Rd := by
  refine ⟨[.int (xs (iv + Int32.ofInt 1).toNatClampNeg), .int (xs (iv + Int32.ofInt 2).toNatClampNeg), .int (xs (iv + Int32.ofInt 3).toNatClampNeg), .int (xs (iv + Int32.ofInt 4).toNatClampNeg)], [iv + Int32.ofInt 1, iv + Int32.ofInt 2, iv + Int32.ofInt 3, iv + Int32.ofInt 4], by rw [lz_shape, if_neg (by decide)]; exact ⟨[(xs (iv + Int32.ofInt 1).toNatClampNeg), (xs (iv + Int32.ofInt 2).toNatClampNeg), (xs (iv + Int32.ofInt 3).toNatClampNeg), (xs (iv + Int32.ofInt 4).toNatClampNeg)], rfl, rfl⟩, rfl, fun r => ⟨rfl, rfl⟩, ?_⟩
  intro x hx
  simp only [List.mem_cons, List.not_mem_nil, or_false] at hx
  rcases hx with rfl | rfl | rfl | rfl
  · exact ⟨1, by decide, rfl⟩
  · exact ⟨2, by decide, rfl⟩
  · exact ⟨3, by decide, rfl⟩
  · exact ⟨4, by decide, rfl⟩
theorem lz_lay20 (xs : Nat → Int32) (iv : Int32) : ∃ as Rd, lz_lay xs iv 20 as Rd := by
  refine ⟨[.int (xs (iv + Int32.ofInt 1).toNatClampNeg), .int (xs (iv + Int32.ofInt 2).toNatClampNeg), .int (xs (iv + Int32.ofInt 3).toNatClampNeg), .int (xs (iv + Int32.ofInt 4).toNatClampNeg)], [iv + Int32.ofInt 1, iv + Int32.ofInt 2, iv + Int32.ofInt 3, iv + Int32.ofInt 4], by rw [lz_shape, if_neg (by decide)]; exact ⟨[(xs (iv + Int32.ofInt 1).toNatClampNeg), (xs (iv + Int32.ofInt 2).toNatClampNeg), (xs (iv + Int32.ofInt 3).toNatClampNeg), (xs (iv + Int32.ofInt 4).toNatClampNeg)], rfl, rfl⟩, rfl, fun r => ⟨rfl, rfl⟩, ?_⟩
  intro x hx
  simp only [List.mem_cons, List.not_mem_nil, or_false] at hx
  rcases hx with rfl | rfl | rfl | rfl
  · exact ⟨1, by decide, rfl⟩
  · exact ⟨2, by decide, rfl⟩
  · exact ⟨3, by decide, rfl⟩
  · exact ⟨4, by decide, rfl⟩
theorem lz_lay21 (xs : Nat → Int32) (iv : Int32) : ∃ as Rd, lz_lay xs iv 21 as Rd := by
  refine ⟨[.int (xs (iv + Int32.ofInt 1).toNatClampNeg), .int (xs (iv + Int32.ofInt 2).toNatClampNeg)], [iv + Int32.ofInt 1, iv + Int32.ofInt 2], by rw [lz_shape, if_neg (by decide)]; exact ⟨[(xs (iv + Int32.ofInt 1).toNatClampNeg), (xs (iv + Int32.ofInt 2).toNatClampNeg)], rfl, rfl⟩, rfl, fun r => ⟨rfl, rfl⟩, ?_⟩
  intro x hx
  simp only [List.mem_cons, List.not_mem_nil, or_false] at hx
  rcases hx with rfl | rfl
  · exact ⟨1, by decide, rfl⟩
  · exact ⟨2, by decide, rfl⟩
theorem lz_lay22 (xs : Nat → Int32) (iv : Int32) : ∃ as Rd, lz_lay xs iv 22 as Rd := by
  refine ⟨[.int (xs (iv + Int32.ofInt 1).toNatClampNeg), .int (xs (iv + Int32.ofInt 2).toNatClampNeg)], [iv + Int32.ofInt 1, iv + Int32.ofInt 2], by rw [lz_shape, if_neg (by decide)]; exact ⟨[(xs (iv + Int32.ofInt 1).toNatClampNeg), (xs (iv + Int32.ofInt 2).toNatClampNeg)], rfl, rfl⟩, rfl, fun r => ⟨rfl, rfl⟩, ?_⟩
  intro x hx
  simp only [List.mem_cons, List.not_mem_nil, or_false] at hx
  rcases hx with rfl | rfl
  · exact ⟨1, by decide, rfl⟩
  · exact ⟨2, by decide, rfl⟩
theorem lz_lay23 (xs : Nat → Int32) (iv : Int32) : ∃ as Rd, lz_lay xs iv 23 as Rd := by
  refine ⟨[.int (xs (iv + Int32.ofInt 1).toNatClampNeg)], [iv + Int32.ofInt 1], by rw [lz_shape, if_neg (by decide)]; exact ⟨[(xs (iv + Int32.ofInt 1).toNatClampNeg)], rfl, rfl⟩, rfl, fun r => ⟨rfl, rfl⟩, ?_⟩
  intro x hx
  simp only [List.mem_cons, List.not_mem_nil, or_false] at hx
  subst hx
  exact ⟨1, by decide, rfl⟩
theorem lz_lay24 (xs : Nat → Int32) (iv : Int32) : ∃ as Rd, lz_lay xs iv 24 as Rd := by
  refine ⟨[.int (xs (iv + Int32.ofInt 1).toNatClampNeg)], [iv + Int32.ofInt 1], by rw [lz_shape, if_neg (by decide)]; exact ⟨[(xs (iv + Int32.ofInt 1).toNatClampNeg)], rfl, rfl⟩, rfl, fun r => ⟨rfl, rfl⟩, ?_⟩
  intro x hx
  simp only [List.mem_cons, List.not_mem_nil, or_false] at hx
  subst hx
  exact ⟨1, by decide, rfl⟩
theorem lz_lay25 (xs : Nat → Int32) (iv : Int32) : ∃ as Rd, lz_lay xs iv 25 as Rd := by
  refine ⟨[.int (xs (iv + Int32.ofInt 1).toNatClampNeg), .int (xs (iv + Int32.ofInt 2).toNatClampNeg)], [iv + Int32.ofInt 1, iv + Int32.ofInt 2], by rw [lz_shape, if_neg (by decide)]; exact ⟨[(xs (iv + Int32.ofInt 1).toNatClampNeg), (xs (iv + Int32.ofInt 2).toNatClampNeg)], rfl, rfl⟩, rfl, fun r => ⟨rfl, rfl⟩, ?_⟩
  intro x hx
  simp only [List.mem_cons, List.not_mem_nil, or_false] at hx
  rcases hx with rfl | rfl
  · exact ⟨1, by decide, rfl⟩
  · exact ⟨2, by decide, rfl⟩
theorem lz_lay26 (xs : Nat → Int32) (iv : Int32) : ∃ as Rd, lz_lay xs iv 26 as Rd := by
  refine ⟨[.int (xs (iv + Int32.ofInt 1).toNatClampNeg), .int (xs (iv + Int32.ofInt 2).toNatClampNeg), .int (xs (iv + Int32.ofInt 3).toNatClampNeg)], [iv + Int32.ofInt 1, iv + Int32.ofInt 2, iv + Int32.ofInt 3], by rw [lz_shape, if_neg (by decide)]; exact ⟨[(xs (iv + Int32.ofInt 1).toNatClampNeg), (xs (iv + Int32.ofInt 2).toNatClampNeg), (xs (iv + Int32.ofInt 3).toNatClampNeg)], rfl, rfl⟩, rfl, fun r => ⟨rfl, rfl⟩, ?_⟩
  intro x hx
  simp only [List.mem_cons, List.not_mem_nil, or_false] at hx
  rcases hx with rfl | rfl | rfl
  · exact ⟨1, by decide, rfl⟩
  · exact ⟨2, by decide, rfl⟩
  · exact ⟨3, by decide, rfl⟩
theorem lz_lay27 (xs : Nat → Int32) (iv : Int32) : ∃ as Rd, lz_lay xs iv 27 as Rd := by
  refine ⟨[.int (xs (iv + Int32.ofInt 1).toNatClampNeg), .int (xs (iv + Int32.ofInt 2).toNatClampNeg), .int (xs (iv + Int32.ofInt 3).toNatClampNeg), .int (xs (iv + Int32.ofInt 4).toNatClampNeg)], [iv + Int32.ofInt 1, iv + Int32.ofInt 2, iv + Int32.ofInt 3, iv + Int32.ofInt 4], by rw [lz_shape, if_neg (by decide)]; exact ⟨[(xs (iv + Int32.ofInt 1).toNatClampNeg), (xs (iv + Int32.ofInt 2).toNatClampNeg), (xs (iv + Int32.ofInt 3).toNatClampNeg), (xs (iv + Int32.ofInt 4).toNatClampNeg)], rfl, rfl⟩, rfl, fun r => ⟨rfl, rfl⟩, ?_⟩
  intro x hx
  simp only [List.mem_cons, List.not_mem_nil, or_false] at hx
  rcases hx with rfl | rfl | rfl | rfl
  · exact ⟨1, by decide, rfl⟩
  · exact ⟨2, by decide, rfl⟩
  · exact ⟨3, by decide, rfl⟩
  · exact ⟨4, by decide, rfl⟩
theorem lz_lay28 (xs : Nat → Int32) (iv : Int32) : ∃ as Rd, lz_lay xs iv 28 as Rd := by
  refine ⟨[.int (xs (iv + Int32.ofInt 1).toNatClampNeg), .int (xs (iv + Int32.ofInt 2).toNatClampNeg)], [iv + Int32.ofInt 1, iv + Int32.ofInt 2], by rw [lz_shape, if_neg (by decide)]; exact ⟨[(xs (iv + Int32.ofInt 1).toNatClampNeg), (xs (iv + Int32.ofInt 2).toNatClampNeg)], rfl, rfl⟩, rfl, fun r => ⟨rfl, rfl⟩, ?_⟩
  intro x hx
  simp only [List.mem_cons, List.not_mem_nil, or_false] at hx
  rcases hx with rfl | rfl
  · exact ⟨1, by decide, rfl⟩
  · exact ⟨2, by decide, rfl⟩
theorem lz_lay29 (xs : Nat → Int32) (iv : Int32) : ∃ as Rd, lz_lay xs iv 29 as Rd := by
  refine ⟨[.int (xs (iv + Int32.ofInt 1).toNatClampNeg), .int (xs (iv + Int32.ofInt 2).toNatClampNeg), .int (xs (iv + Int32.ofInt 3).toNatClampNeg), .int (xs (iv + Int32.ofInt 4).toNatClampNeg), .int (xs (iv + Int32.ofInt 5).toNatClampNeg)], [iv + Int32.ofInt 1, iv + Int32.ofInt 2, iv + Int32.ofInt 3, iv + Int32.ofInt 4, iv + Int32.ofInt 5], by rw [lz_shape, if_neg (by decide)]; exact ⟨[(xs (iv + Int32.ofInt 1).toNatClampNeg), (xs (iv + Int32.ofInt 2).toNatClampNeg), (xs (iv + Int32.ofInt 3).toNatClampNeg), (xs (iv + Int32.ofInt 4).toNatClampNeg), (xs (iv + Int32.ofInt 5).toNatClampNeg)], rfl, rfl⟩, rfl, fun r => ⟨rfl, rfl⟩, ?_⟩
  intro x hx
  simp only [List.mem_cons, List.not_mem_nil, or_false] at hx
  rcases hx with rfl | rfl | rfl | rfl | rfl
  · exact ⟨1, by decide, rfl⟩
  · exact ⟨2, by decide, rfl⟩
  · exact ⟨3, by decide, rfl⟩
  · exact ⟨4, by decide, rfl⟩
  · exact ⟨5, by decide, rfl⟩
theorem lz_lay30 (xs : Nat → Int32) (iv : Int32) : ∃ as Rd, lz_lay xs iv 30 as Rd := by
  refine ⟨[.int (xs (iv + Int32.ofInt 1).toNatClampNeg)], [iv + Int32.ofInt 1], by rw [lz_shape, if_neg (by decide)]; exact ⟨[(xs (iv + Int32.ofInt 1).toNatClampNeg)], rfl, rfl⟩, rfl, fun r => ⟨rfl, rfl⟩, ?_⟩
  intro x hx
  simp only [List.mem_cons, List.not_mem_nil, or_false] at hx
  subst hx
  exact ⟨1, by decide, rfl⟩
theorem lz_lay31 (xs : Nat → Int32) (iv : Int32) : ∃ as Rd, lz_lay xs iv 31 as Rd := by
  refine ⟨[.int (xs (iv + Int32.ofInt 1).toNatClampNeg), .int (xs (iv + Int32.ofInt 2).toNatClampNeg)], [iv + Int32.ofInt 1, iv + Int32.ofInt 2], by rw [lz_shape, if_neg (by decide)]; exact ⟨[(xs (iv + Int32.ofInt 1).toNatClampNeg), (xs (iv + Int32.ofInt 2).toNatClampNeg)], rfl, rfl⟩, rfl, fun r => ⟨rfl, rfl⟩, ?_⟩
  intro x hx
  simp only [List.mem_cons, List.not_mem_nil, or_false] at hx
  rcases hx with rfl | rfl
  · exact ⟨1, by decide, rfl⟩
  · exact ⟨2, by decide, rfl⟩
theorem lz_lay32 (xs : Nat → Int32) (iv : Int32) : ∃ as Rd, lz_lay xs iv 32 as Rd := by
  refine ⟨[.int (xs (iv + Int32.ofInt 1).toNatClampNeg), .int (xs (iv + Int32.ofInt 2).toNatClampNeg)], [iv + Int32.ofInt 1, iv + Int32.ofInt 2], by rw [lz_shape, if_neg (by decide)]; exact ⟨[(xs (iv + Int32.ofInt 1).toNatClampNeg), (xs (iv + Int32.ofInt 2).toNatClampNeg)], rfl, rfl⟩, rfl, fun r => ⟨rfl, rfl⟩, ?_⟩
  intro x hx
  simp only [List.mem_cons, List.not_mem_nil, or_false] at hx
  rcases hx with rfl | rfl
  · exact ⟨1, by decide, rfl⟩
  · exact ⟨2, by decide, rfl⟩
theorem lz_lay33 (xs : Nat → Int32) (iv : Int32) : ∃ as Rd, lz_lay xs iv 33 as Rd := by
  refine ⟨[], [], by rw [lz_shape, if_neg (by decide)]; exact ⟨[], rfl, rfl⟩, rfl, fun r => ⟨rfl, rfl⟩, ?_⟩
  intro x hx
  cases hx
theorem lz_lay34 (xs : Nat → Int32) (iv : Int32) : ∃ as Rd, lz_lay xs iv 34 as Rd := by
  refine ⟨[.int (xs (iv + Int32.ofInt 1).toNatClampNeg)], [iv + Int32.ofInt 1], by rw [lz_shape, if_neg (by decide)]; exact ⟨[(xs (iv + Int32.ofInt 1).toNatClampNeg)], rfl, rfl⟩, rfl, fun r => ⟨rfl, rfl⟩, ?_⟩
  intro x hx
  simp only [List.mem_cons, List.not_mem_nil, or_false] at hx
  subst hx
  exact ⟨1, by decide, rfl⟩
theorem lz_lay35 (xs : Nat → Int32) (iv : Int32) : ∃ as Rd, lz_lay xs iv 35 as Rd := by
  refine ⟨[.int (xs (iv + Int32.ofInt 1).toNatClampNeg)], [iv + Int32.ofInt 1], by rw [lz_shape, if_neg (by decide)]; exact ⟨[(xs (iv + Int32.ofInt 1).toNatClampNeg)], rfl, rfl⟩, rfl, fun r => ⟨rfl, rfl⟩, ?_⟩
  intro x hx
  simp only [List.mem_cons, List.not_mem_nil, or_false] at hx
  subst hx
  exact ⟨1, by decide, rfl⟩
theorem lz_lays (xs : Nat → Int32) (iv : Int32) {k : Nat} (hk : k < 36) : ∃ as Rd, lz_lay xs iv k as Rd := by
  match k, hk with
  | 0, _ => exact lz_lay0 xs iv
  | 1, _ => exact lz_lay1 xs iv
  | 2, _ => exact lz_lay2 xs iv
  | 3, _ => exact lz_lay3 xs iv
  | 4, _ => exact lz_lay4 xs iv
  | 5, _ => exact lz_lay5 xs iv
  | 6, _ => exact lz_lay6 xs iv
  | 7, _ => exact lz_lay7 xs iv
  | 8, _ => exact lz_lay8 xs iv
  | 9, _ => exact lz_lay9 xs iv
  | 10, _ => exact lz_lay10 xs iv
  | 11, _ => exact lz_lay11 xs iv
  | 12, _ => exact lz_lay12 xs iv
  | 13, _ => exact lz_lay13 xs iv
  | 14, _ => exact lz_lay14 xs iv
  | 15, _ => exact lz_lay15 xs iv
  | 16, _ => exact lz_lay16 xs iv
  | 17, _ => exact lz_lay17 xs iv
  | 18, _ => exact lz_lay18 xs iv
  | 19, _ => exact lz_lay19 xs iv
  | 20, _ => exact lz_lay20 xs iv
  | 21, _ => exact lz_lay21 xs iv
  | 22, _ => exact lz_lay22 xs iv
  | 23, _ => exact lz_lay23 xs iv
  | 24, _ => exact lz_lay24 xs iv
  | 25, _ => exact lz_lay25 xs iv
  | 26, _ => exact lz_lay26 xs iv
  | 27, _ => exact lz_lay27 xs iv
  | 28, _ => exact lz_lay28 xs iv
  | 29, _ => exact lz_lay29 xs iv
  | 30, _ => exact lz_lay30 xs iv
  | 31, _ => exact lz_lay31 xs iv
  | 32, _ => exact lz_lay32 xs iv
  | 33, _ => exact lz_lay33 xs iv
  | 34, _ => exact lz_lay34 xs iv
  | 35, _ => exact lz_lay35 xs iv
  | k + 36, h => exact absurd h (by omega)
