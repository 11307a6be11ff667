/-! The memory in whole numbers, and the machine's rules over it: 'rz_B d y pc L S A v A' ok': from this point the run comes to v and the memory A', and ok holds. -/
abbrev rz_A : Type := (Nat → Nat → Int) × (Nat → Nat → Int)
abbrev r32 (x : Int) : Prop := -2147483648 ≤ x ∧ x ≤ 2147483647
abbrev r64 (x : Int) : Prop := -9223372036854775808 ≤ x ∧ x ≤ 9223372036854775807
def toM (A : rz_A) : rg_M := (fun c k => Int32.ofInt (A.1 c k), fun c k => Int64.ofInt (A.2 c k))
def aI (A : rz_A) (c k : Nat) (v : Int) : rz_A := (fun a => if a = c then (fun b => if b = k then v else A.1 c b) else A.1 a, A.2)
def aL (A : rz_A) (c k : Nat) (v : Int) : rz_A := (A.1, fun a => if a = c then (fun b => if b = k then v else A.2 c b) else A.2 a)
def aC (A : rz_A) (a b sp dp n : Nat) : rz_A := (fun c => if c = b then (fun k => if dp ≤ k ∧ k < dp + n then A.1 a (sp + (k - dp)) else A.1 b k) else A.1 c, A.2)
def wf (A : rz_A) : Prop := ∀ c k, r32 (A.1 c k) ∧ r64 (A.2 c k)
abbrev vI (x : Int) : Value := .int (Int32.ofInt x)
abbrev vL (x : Int) : Value := .long (Int64.ofInt x)
theorem toM_aI (A : rz_A) (c k : Nat) (v : Int) : toM (aI A c k v) = rg_wI (toM A) c k (Int32.ofInt v) := by
  unfold toM aI rg_wI upd
  refine Prod.ext ?_ rfl
  funext a b
  simp only
  by_cases h : a = c
  · subst h
    simp only [if_true]
    by_cases h2 : b = k <;> simp [h2]
  · simp [h]
theorem toM_aL (A : rz_A) (c k : Nat) (v : Int) : toM (aL A c k v) = rg_wL (toM A) c k (Int64.ofInt v) := by
  unfold toM aL rg_wL vp_updL
  refine Prod.ext rfl ?_
  funext a b
  simp only
  by_cases h : a = c
  · subst h
    simp only [if_true]
    by_cases h2 : b = k <;> simp [h2]
  · simp [h]
theorem toM_aC (A : rz_A) (a b sp dp n : Nat) : toM (aC A a b sp dp n) = rg_wC (toM A) a b sp dp n := by
  unfold toM aC rg_wC va_cpy
  refine Prod.ext ?_ rfl
  funext c k
  simp only
  by_cases h : c = b
  · subst h
    simp only [if_true]
    by_cases h2 : dp ≤ k ∧ k < dp + n <;> simp [h2]
  · simp [h]
theorem wf_aI {A : rz_A} {c k : Nat} {v : Int} (h : wf A) (hv : r32 v) : wf (aI A c k v) := by
  intro a b
  refine ⟨?_, (h a b).2⟩
  show r32 ((if a = c then (fun b => if b = k then v else A.1 c b) else A.1 a) b)
  by_cases e : a = c
  · rw [if_pos e]
    show r32 (if b = k then v else A.1 c b)
    by_cases e2 : b = k
    · rw [if_pos e2]; exact hv
    · rw [if_neg e2]; exact (h c b).1
  · rw [if_neg e]; exact (h a b).1
theorem wf_aL {A : rz_A} {c k : Nat} {v : Int} (h : wf A) (hv : r64 v) : wf (aL A c k v) := by
  intro a b
  refine ⟨(h a b).1, ?_⟩
  show r64 ((if a = c then (fun b => if b = k then v else A.2 c b) else A.2 a) b)
  by_cases e : a = c
  · rw [if_pos e]
    show r64 (if b = k then v else A.2 c b)
    by_cases e2 : b = k
    · rw [if_pos e2]; exact hv
    · rw [if_neg e2]; exact (h c b).2
  · rw [if_neg e]; exact (h a b).2
theorem wf_aC {A : rz_A} {a b sp dp n : Nat} (h : wf A) : wf (aC A a b sp dp n) := by
  intro c k
  refine ⟨?_, (h c k).2⟩
  show r32 ((if c = b then (fun k => if dp ≤ k ∧ k < dp + n then A.1 a (sp + (k - dp)) else A.1 b k) else A.1 c) k)
  by_cases e : c = b
  · rw [if_pos e]
    show r32 (if dp ≤ k ∧ k < dp + n then A.1 a (sp + (k - dp)) else A.1 b k)
    by_cases e2 : dp ≤ k ∧ k < dp + n
    · rw [if_pos e2]; exact (h _ _).1
    · rw [if_neg e2]; exact (h _ _).1
  · rw [if_neg e]; exact (h c k).1
/-! guards of the pure functions -/
def rz_g32 {α : Type} (x : Int) (o : Option α) : Option α := if r32 x then o else none
def rz_g64 {α : Type} (x : Int) (o : Option α) : Option α := if r64 x then o else none
def rz_gx {α : Type} (i : Int) (n : Nat) (o : Option α) : Option α := if 0 ≤ i ∧ i < (n : Int) then o else none
def rz_gn {α : Type} (x : Int) (o : Option α) : Option α := if x = 0 then none else o
def rz_gz {α : Type} (x : Int) (o : Option α) : Option α := if x = 0 ∨ x = 1 then o else none
def rz_gp {α : Type} (p : Prop) [Decidable p] (o : Option α) : Option α := if p then o else none
def rz_b {α β : Type} (x : Option (α × rz_A)) (k : α → rz_A → Option β) : Option β := match x with
  | none => none
  | some (r, A) => k r A
theorem rz_g32_inv {α : Type} {x : Int} {o : Option α} {q : α} (h : rz_g32 x o = some q) : r32 x ∧ o = some q := by
  unfold rz_g32 at h
  by_cases c : r32 x
  · rw [if_pos c] at h; exact ⟨c, h⟩
  · rw [if_neg c] at h; cases h
theorem rz_g64_inv {α : Type} {x : Int} {o : Option α} {q : α} (h : rz_g64 x o = some q) : r64 x ∧ o = some q := by
  unfold rz_g64 at h
  by_cases c : r64 x
  · rw [if_pos c] at h; exact ⟨c, h⟩
  · rw [if_neg c] at h; cases h
theorem rz_gx_inv {α : Type} {i : Int} {n : Nat} {o : Option α} {q : α} (h : rz_gx i n o = some q) : 0 ≤ i ∧ i < (n : Int) ∧ o = some q := by
  unfold rz_gx at h
  by_cases c : 0 ≤ i ∧ i < (n : Int)
  · rw [if_pos c] at h; exact ⟨c.1, c.2, h⟩
  · rw [if_neg c] at h; cases h
theorem rz_gn_inv {α : Type} {x : Int} {o : Option α} {q : α} (h : rz_gn x o = some q) : ¬ x = 0 ∧ o = some q := by
  unfold rz_gn at h
  by_cases c : x = 0
  · rw [if_pos c] at h; cases h
  · rw [if_neg c] at h; exact ⟨c, h⟩
theorem rz_gz_inv {α : Type} {x : Int} {o : Option α} {q : α} (h : rz_gz x o = some q) : (x = 0 ∨ x = 1) ∧ o = some q := by
  unfold rz_gz at h
  by_cases c : x = 0 ∨ x = 1
  · rw [if_pos c] at h; exact ⟨c, h⟩
  · rw [if_neg c] at h; cases h
theorem rz_gp_inv {α : Type} {p : Prop} [Decidable p] {o : Option α} {q : α} (h : rz_gp p o = some q) : p ∧ o = some q := by
  unfold rz_gp at h
  by_cases c : p
  · rw [if_pos c] at h; exact ⟨c, h⟩
  · rw [if_neg c] at h; cases h
theorem rz_b_inv {α β : Type} {x : Option (α × rz_A)} {k : α → rz_A → Option β} {q : β} (h : rz_b x k = some q) : ∃ r A, x = some (r, A) ∧ k r A = some q := by
  cases x with
  | none => cases h
  | some p => exact ⟨p.1, p.2, rfl, h⟩
theorem if_T {α : Type} {c : Prop} [Decidable c] {a b : Option α} {q : α} (h : (if c then a else b) = some q) (hc : c) : a = some q := by rw [if_pos hc] at h; exact h
theorem if_F {α : Type} {c : Prop} [Decidable c] {a b : Option α} {q : α} (h : (if c then a else b) = some q) (hc : ¬ c) : b = some q := by rw [if_neg hc] at h; exact h
/-! numbers -/
theorem i32_to {x : Int} (h : r32 x) : (Int32.ofInt x).toInt = x := Int32.toInt_ofInt_of_le (by omega) (by omega)
theorem i64_to {x : Int} (h : r64 x) : (Int64.ofInt x).toInt = x := Int64.toInt_ofInt_of_le (by omega) (by omega)
theorem lt32 {x y : Int} (hx : r32 x) (hy : r32 y) : Int32.ofInt x < Int32.ofInt y ↔ x < y := by rw [Int32.lt_iff_toInt_lt, i32_to hx, i32_to hy]
theorem le32 {x y : Int} (hx : r32 x) (hy : r32 y) : Int32.ofInt x ≤ Int32.ofInt y ↔ x ≤ y := by rw [Int32.le_iff_toInt_le, i32_to hx, i32_to hy]
theorem eq32 {x y : Int} (hx : r32 x) (hy : r32 y) : Int32.ofInt x = Int32.ofInt y ↔ x = y := by rw [← Int32.toInt_inj, i32_to hx, i32_to hy]
theorem lt64 {x y : Int} (hx : r64 x) (hy : r64 y) : Int64.ofInt x < Int64.ofInt y ↔ x < y := by rw [Int64.lt_iff_toInt_lt, i64_to hx, i64_to hy]
theorem eq64 {x y : Int} (hx : r64 x) (hy : r64 y) : Int64.ofInt x = Int64.ofInt y ↔ x = y := by rw [← Int64.toInt_inj, i64_to hx, i64_to hy]
theorem r64_of {x : Int} (h : r32 x) : r64 x := by omega
theorem cmp_v {x y : Int} (hx : r64 x) (hy : r64 y) : lg_cmp (Int64.ofInt x) (Int64.ofInt y) = if y < x then 1 else if x = y then 0 else -1 := by
  unfold lg_cmp
  simp only [gt_iff_lt, lt64 hy hx, eq64 hx hy]
theorem cmp_lt {x y : Int} (hx : r64 x) (hy : r64 y) : lg_cmp (Int64.ofInt x) (Int64.ofInt y) < 0 ↔ x < y := by
  rw [cmp_v hx hy]
  by_cases h : y < x
  · rw [if_pos h]; exact ⟨fun h2 => absurd h2 (by decide), fun h2 => by omega⟩
  · rw [if_neg h]
    by_cases h2 : x = y
    · rw [if_pos h2]; exact ⟨fun h3 => absurd h3 (by decide), fun h3 => by omega⟩
    · rw [if_neg h2]; exact ⟨fun _ => by omega, fun _ => by decide⟩
theorem cmp_gt {x y : Int} (hx : r64 x) (hy : r64 y) : 0 < lg_cmp (Int64.ofInt x) (Int64.ofInt y) ↔ y < x := by
  rw [cmp_v hx hy]
  by_cases h : y < x
  · rw [if_pos h]; exact ⟨fun _ => h, fun _ => by decide⟩
  · rw [if_neg h]
    by_cases h2 : x = y
    · rw [if_pos h2]; exact ⟨fun h3 => absurd h3 (by decide), fun h3 => by omega⟩
    · rw [if_neg h2]; exact ⟨fun h3 => absurd h3 (by decide), fun h3 => by omega⟩
theorem cmp_eq {x y : Int} (hx : r64 x) (hy : r64 y) : lg_cmp (Int64.ofInt x) (Int64.ofInt y) = 0 ↔ x = y := by
  rw [cmp_v hx hy]
  by_cases h : y < x
  · rw [if_pos h]; exact ⟨fun h3 => absurd h3 (by decide), fun h3 => by omega⟩
  · rw [if_neg h]
    by_cases h2 : x = y
    · rw [if_pos h2]; exact ⟨fun _ => h2, fun _ => rfl⟩
    · rw [if_neg h2]; exact ⟨fun h3 => absurd h3 (by decide), fun h3 => by omega⟩
theorem cmp_le {x y : Int} (hx : r64 x) (hy : r64 y) : lg_cmp (Int64.ofInt x) (Int64.ofInt y) ≤ 0 ↔ x ≤ y := by
  rw [← Int32.not_lt, cmp_gt hx hy]; omega
theorem cmp_ge {x y : Int} (hx : r64 x) (hy : r64 y) : 0 ≤ lg_cmp (Int64.ofInt x) (Int64.ofInt y) ↔ y ≤ x := by
  rw [← Int32.not_lt, cmp_lt hx hy]; omega
theorem rg_in_ix {i : Int} {n : Nat} (h0 : 0 ≤ i) (h1 : i < (n : Int)) (hn : n ≤ 2147483647) : rg_in (Int32.ofInt i) n = true ∧ (Int32.ofInt i).toNatClampNeg = i.toNat := by
  have e := i32_to (x := i) (by omega)
  have e2 : (Int32.ofInt i).toNatClampNeg = i.toNat := by
    unfold Int32.toNatClampNeg; rw [e]
  refine ⟨?_, e2⟩
  unfold rg_in
  rw [e2]
  simp only [Bool.and_eq_true, decide_eq_true_eq]
  refine ⟨?_, by omega⟩
  have := (le32 (x := 0) (y := i) (by omega) (by omega)).mpr h0
  exact this
theorem i32_div {x y : Int} (hx : r32 x) (hy : r32 y) : Int32.ofInt (x.tdiv y) = Int32.ofInt x / Int32.ofInt y := Int32.ofInt_tdiv (by have : Int32.minValue.toInt = -2147483648 := rfl; omega) (by have : Int32.maxValue.toInt = 2147483647 := rfl; omega) (by have : Int32.minValue.toInt = -2147483648 := rfl; omega) (by have : Int32.maxValue.toInt = 2147483647 := rfl; omega)
theorem i64_div {x y : Int} (hx : r64 x) (hy : r64 y) : Int64.ofInt (x.tdiv y) = Int64.ofInt x / Int64.ofInt y := Int64.ofInt_tdiv (by have : Int64.minValue.toInt = -9223372036854775808 := rfl; omega) (by have : Int64.maxValue.toInt = 9223372036854775807 := rfl; omega) (by have : Int64.minValue.toInt = -9223372036854775808 := rfl; omega) (by have : Int64.maxValue.toInt = 9223372036854775807 := rfl; omega)
theorem tmod_eq (x y : Int) : x.tmod y = x - x.tdiv y * y := by
  have := Int.mul_tdiv_add_tmod x y
  rw [Int.mul_comm] at this
  omega
theorem i32_rem {x y : Int} (hx : r32 x) (hy : r32 y) : Int32.ofInt (x.tmod y) = Int32.ofInt x - Int32.ofInt x / Int32.ofInt y * Int32.ofInt y := by
  rw [tmod_eq, Int32.ofInt_sub, Int32.ofInt_mul, i32_div hx hy]
theorem i64_rem {x y : Int} (hx : r64 x) (hy : r64 y) : Int64.ofInt (x.tmod y) = Int64.ofInt x - Int64.ofInt x / Int64.ofInt y * Int64.ofInt y := by
  rw [tmod_eq, Int64.ofInt_sub, Int64.ofInt_mul, i64_div hx hy]
theorem i32_wide {x : Int} (h : r32 x) : (Int32.ofInt x).toInt64 = Int64.ofInt x := Int32.toInt64_ofInt (by have : Int32.minValue.toInt = -2147483648 := rfl; omega) (by have : Int32.maxValue.toInt = 2147483647 := rfl; omega)
/-- operations that are kept as they are -/
def rz_oI (f : Int32 → Int32 → Int32) (x y : Int) : Int := (f (Int32.ofInt x) (Int32.ofInt y)).toInt
def rz_oL (f : Int64 → Int64 → Int64) (x y : Int) : Int := (f (Int64.ofInt x) (Int64.ofInt y)).toInt
def rz_oS (f : Int64 → Int32 → Int64) (x y : Int) : Int := (f (Int64.ofInt x) (Int32.ofInt y)).toInt
def rz_o1 (f : Int32 → Int32) (x : Int) : Int := (f (Int32.ofInt x)).toInt
def rz_oN (x : Int) : Int := (Int64.ofInt x).toInt32.toInt
def fAnd (x y : Int32) : Int32 := x &&& y
def fOr (x y : Int32) : Int32 := x ||| y
def fXor (x y : Int32) : Int32 := x ^^^ y
def fShl (x y : Int32) : Int32 := x <<< (y &&& 31)
def fShr (x y : Int32) : Int32 := x >>> (y &&& 31)
def fUshr (x y : Int32) : Int32 := (x.toUInt32 >>> (y.toUInt32 &&& Int32.toUInt32 31)).toInt32
def fChr (x : Int32) : Int32 := (x.toUInt32 % 65536).toInt32
def fByte (x : Int32) : Int32 := x.toInt8.toInt32
def gAnd (x y : Int64) : Int64 := x &&& y
def gOr (x y : Int64) : Int64 := x ||| y
def gShl (x : Int64) (y : Int32) : Int64 := x <<< (y.toInt64 &&& 63)
def gShr (x : Int64) (y : Int32) : Int64 := x >>> (y.toInt64 &&& 63)
theorem r32_toInt (x : Int32) : r32 x.toInt := by
  have h1 := Int32.le_toInt x
  have h2 := Int32.toInt_lt x
  constructor <;> omega
theorem r64_toInt (x : Int64) : r64 x.toInt := by
  have h1 := Int64.le_toInt x
  have h2 := Int64.toInt_lt x
  constructor <;> omega
theorem r32_oI {f : Int32 → Int32 → Int32} {x y : Int} : r32 (rz_oI f x y) := r32_toInt _
theorem r64_oL {f : Int64 → Int64 → Int64} {x y : Int} : r64 (rz_oL f x y) := r64_toInt _
theorem r64_oS {f : Int64 → Int32 → Int64} {x y : Int} : r64 (rz_oS f x y) := r64_toInt _
theorem r32_o1 {f : Int32 → Int32} {x : Int} : r32 (rz_o1 f x) := r32_toInt _
theorem r32_oN {x : Int} : r32 (rz_oN x) := r32_toInt _
def rz_letN (j : Nat) : Int := (rg_lets.getD j 0).toInt
theorem r32_letN {j : Nat} : r32 (rz_letN j) := r32_toInt _
/-! the rules -/
def rz_B (d y pc : Nat) (L : rg_Ls) (S : List Value) (A : rz_A) (v : Option Value) (A' : rz_A) (ok : Prop) : Prop := rg_At d y pc L S (toM A) (v, toM A') ∧ ok ∧ wf A'
section BRULES
variable {d y pc pc' : Nat} {L L' : rg_Ls} {S S' r : List Value} {A A' A1 : rz_A} {v : Option Value} {ok : Prop} {x z i : Int} {c k n : Nat}
theorem rz_B.go (n : Nat) (h : rg_go d y n (pc, L, S, toM A) = some (pc', L', S', toM A)) (kk : rz_B d y pc' L' S' A v A' ok) : rz_B d y pc L S A v A' ok := ⟨rg_At.go n h kk.1, kk.2⟩
theorem rz_B.put (n : Nat) (h : rg_go d y n (pc, L, S, toM A) = some (pc', L', S', rg_wI (toM A) c k (Int32.ofInt x))) (kk : rz_B d y pc' L' S' (aI A c k x) v A' ok) : rz_B d y pc L S A v A' ok := by
  refine ⟨rg_At.go n h ?_, kk.2⟩
  rw [← toM_aI]
  exact kk.1
theorem rz_B.putL (n : Nat) (h : rg_go d y n (pc, L, S, toM A) = some (pc', L', S', rg_wL (toM A) c k (Int64.ofInt x))) (kk : rz_B d y pc' L' S' (aL A c k x) v A' ok) : rz_B d y pc L S A v A' ok := by
  refine ⟨rg_At.go n h ?_, kk.2⟩
  rw [← toM_aL]
  exact kk.1
/-- steps to a point, and the point's stack, locals by equality -/
theorem rz_B.via (n : Nat) {L1 : rg_Ls} {S1 : List Value} (h : rg_go d y n (pc, L, S, toM A) = some (pc', L1, S1, toM A)) (hL : L1 = L') (hS : S1 = S') (kk : rz_B d y pc' L' S' A v A' ok) : rz_B d y pc L S A v A' ok := by
  subst hL; subst hS
  exact ⟨rg_At.go n h kk.1, kk.2⟩
theorem rz_B.ret (h : rg_step d y pc L S (toM A) = some (.inr (.inr v))) (ho : ok) (hw : wf A) : rz_B d y pc L S A v A ok := ⟨rg_At.ret h, ho, hw⟩
theorem rz_B.call {y' : Nat} {as rest : List Value} {w : Option Value} (h : rg_step (d + 1) y pc L S (toM A) = some (.inr (.inl (y', as, rest)))) (hr : rg_Rn d y' as (toM A) w (toM A1)) (kk : rz_B (d + 1) y (pc + 3) L (w.toList ++ rest) A1 v A' ok) : rz_B (d + 1) y pc L S A v A' ok := ⟨rg_At.call h hr kk.1, kk.2⟩
theorem rz_B.ifT {p : Prop} [Decidable p] {a b : Nat} (h : p) (kk : rz_B d y a L S A v A' ok) : rz_B d y (if decide p = true then a else b) L S A v A' ok := ⟨rg_At.ifT h kk.1, kk.2⟩
theorem rz_B.ifF {p : Prop} [Decidable p] {a b : Nat} (h : ¬ p) (kk : rz_B d y b L S A v A' ok) : rz_B d y (if decide p = true then a else b) L S A v A' ok := ⟨rg_At.ifF h kk.1, kk.2⟩
theorem rz_B.more (h : rg_Le L L') (kk : rz_B d y pc L S A v A' ok) : rz_B d y pc L' S A v A' ok := ⟨rg_At.more h kk.1, kk.2⟩
theorem rz_B.iald {b st : Nat} (hf : rg_fetch y pc = some (.iaload, 1)) (hs : rg_shapes[c]? = some (.inr (0, k, b, st))) (h0 : 0 ≤ i) (h1 : i < (k : Int)) (hk : k ≤ 2147483647) (kk : rz_B d y (pc + 1) L (vI (A.1 c i.toNat) :: r) A v A' ok) : rz_B d y pc L (vI i :: .ref c :: r) A v A' ok := by
  obtain ⟨e1, e2⟩ := rg_in_ix h0 h1 hk
  refine ⟨rg_At.iald hf hs e1 ?_, kk.2⟩
  rw [e2]
  exact kk.1
theorem rz_B.lald {b st : Nat} (hf : rg_fetch y pc = some (.laload, 1)) (hs : rg_shapes[c]? = some (.inr (1, k, b, st))) (h0 : 0 ≤ i) (h1 : i < (k : Int)) (hk : k ≤ 2147483647) (kk : rz_B d y (pc + 1) L (vL (A.2 c i.toNat) :: r) A v A' ok) : rz_B d y pc L (vI i :: .ref c :: r) A v A' ok := by
  obtain ⟨e1, e2⟩ := rg_in_ix h0 h1 hk
  refine ⟨rg_At.lald hf hs e1 ?_, kk.2⟩
  rw [e2]
  exact kk.1
theorem rz_B.iast {b st : Nat} (hf : rg_fetch y pc = some (.iastore, 1)) (hs : rg_shapes[c]? = some (.inr (0, k, b, st))) (h0 : 0 ≤ i) (h1 : i < (k : Int)) (hk : k ≤ 2147483647) (kk : rz_B d y (pc + 1) L r (aI A c i.toNat x) v A' ok) : rz_B d y pc L (vI x :: vI i :: .ref c :: r) A v A' ok := by
  obtain ⟨e1, e2⟩ := rg_in_ix h0 h1 hk
  refine ⟨rg_At.iast hf hs e1 ?_, kk.2⟩
  rw [e2, ← toM_aI]
  exact kk.1
theorem rz_B.last {b st : Nat} (hf : rg_fetch y pc = some (.lastore, 1)) (hs : rg_shapes[c]? = some (.inr (1, k, b, st))) (h0 : 0 ≤ i) (h1 : i < (k : Int)) (hk : k ≤ 2147483647) (kk : rz_B d y (pc + 1) L r (aL A c i.toNat x) v A' ok) : rz_B d y pc L (vL x :: vI i :: .ref c :: r) A v A' ok := by
  obtain ⟨e1, e2⟩ := rg_in_ix h0 h1 hk
  refine ⟨rg_At.last hf hs e1 ?_, kk.2⟩
  rw [e2, ← toM_aL]
  exact kk.1
theorem rz_B.aald {t b st : Nat} {c' : Nat} (hf : rg_fetch y pc = some (.aaload, 1)) (ht : t = 2 ∨ t = 3) (hs : rg_shapes[c]? = some (.inr (t, k, b, st))) (h0 : 0 ≤ i) (h1 : i < (k : Int)) (hk : k ≤ 2147483647) (hc : b + st * i.toNat = c') (kk : rz_B d y (pc + 1) L (.ref c' :: r) A v A' ok) : rz_B d y pc L (vI i :: .ref c :: r) A v A' ok := by
  obtain ⟨e1, e2⟩ := rg_in_ix h0 h1 hk
  refine ⟨rg_At.aald hf ht hs e1 ?_, kk.2⟩
  rw [e2, hc]
  exact kk.1
theorem rz_B.bald (hf : rg_fetch y pc = some (.baload, 1)) (h0 : 0 ≤ i) (h1 : i < (13 : Int)) (kk : rz_B d y (pc + 1) L (vI (rz_letN i.toNat) :: r) A v A' ok) : rz_B d y pc L (vI i :: .ref 150 :: r) A v A' ok := by
  obtain ⟨e1, e2⟩ := rg_in_ix (n := 13) h0 h1 (by decide)
  refine ⟨rg_At.step ?_ kk.1, kk.2⟩
  have e3 : (150 = rg_stv ∧ rg_in (Int32.ofInt i) 13 = true) := ⟨rfl, e1⟩
  simp only [rg_step, hf, rg_op, rg_bald, if_pos e3, rg_ln, if_true, rg_nx, e2, rz_letN, vI, Int32.ofInt_toInt]
theorem rz_B.iadd (hf : rg_fetch y pc = some (.iadd, 1)) (kk : rz_B d y (pc + 1) L (vI (x + z) :: r) A v A' ok) : rz_B d y pc L (vI z :: vI x :: r) A v A' ok := by
  refine ⟨rg_At.step ?_ kk.1, kk.2⟩
  simp only [rg_step, hf, rg_op, rg_i2, rg_ln, rg_nx, if_true, vI, Int32.ofInt_add]
theorem rz_B.isub (hf : rg_fetch y pc = some (.isub, 1)) (kk : rz_B d y (pc + 1) L (vI (x - z) :: r) A v A' ok) : rz_B d y pc L (vI z :: vI x :: r) A v A' ok := by
  refine ⟨rg_At.step ?_ kk.1, kk.2⟩
  simp only [rg_step, hf, rg_op, rg_i2, rg_ln, rg_nx, if_true, vI, Int32.ofInt_sub]
theorem rz_B.imul (hf : rg_fetch y pc = some (.imul, 1)) (kk : rz_B d y (pc + 1) L (vI (x * z) :: r) A v A' ok) : rz_B d y pc L (vI z :: vI x :: r) A v A' ok := by
  refine ⟨rg_At.step ?_ kk.1, kk.2⟩
  simp only [rg_step, hf, rg_op, rg_i2, rg_ln, rg_nx, if_true, vI, Int32.ofInt_mul]
theorem rz_B.ineg (hf : rg_fetch y pc = some (.ineg, 1)) (kk : rz_B d y (pc + 1) L (vI (-x) :: r) A v A' ok) : rz_B d y pc L (vI x :: r) A v A' ok := by
  refine ⟨rg_At.step ?_ kk.1, kk.2⟩
  simp only [rg_step, hf, rg_op, rg_i1, rg_ln, rg_nx, if_true, vI, Int32.ofInt_neg]
theorem rz_B.lneg (hf : rg_fetch y pc = some (.lneg, 1)) (kk : rz_B d y (pc + 1) L (vL (-x) :: r) A v A' ok) : rz_B d y pc L (vL x :: r) A v A' ok := by
  refine ⟨rg_At.step ?_ kk.1, kk.2⟩
  simp only [rg_step, hf, rg_op, rg_l1, rg_ln, rg_nx, if_true, vL, Int64.ofInt_neg]
theorem rz_B.ladd (hf : rg_fetch y pc = some (.ladd, 1)) (kk : rz_B d y (pc + 1) L (vL (x + z) :: r) A v A' ok) : rz_B d y pc L (vL z :: vL x :: r) A v A' ok := by
  refine ⟨rg_At.step ?_ kk.1, kk.2⟩
  simp only [rg_step, hf, rg_op, rg_l2, rg_ln, rg_nx, if_true, vL, Int64.ofInt_add]
theorem rz_B.lsub (hf : rg_fetch y pc = some (.lsub, 1)) (kk : rz_B d y (pc + 1) L (vL (x - z) :: r) A v A' ok) : rz_B d y pc L (vL z :: vL x :: r) A v A' ok := by
  refine ⟨rg_At.step ?_ kk.1, kk.2⟩
  simp only [rg_step, hf, rg_op, rg_l2, rg_ln, rg_nx, if_true, vL, Int64.ofInt_sub]
theorem rz_B.lmul (hf : rg_fetch y pc = some (.lmul, 1)) (kk : rz_B d y (pc + 1) L (vL (x * z) :: r) A v A' ok) : rz_B d y pc L (vL z :: vL x :: r) A v A' ok := by
  refine ⟨rg_At.step ?_ kk.1, kk.2⟩
  simp only [rg_step, hf, rg_op, rg_l2, rg_ln, rg_nx, if_true, vL, Int64.ofInt_mul]
theorem rz_B.iinc {j : Nat} (hf : rg_fetch y pc = some (.iinc j z, n)) (hn : n = 3 ∨ n = 6) (hl : rg_ld L j = some (vI x)) (hL : rg_st1 L j (vI (x + z)) = L') (kk : rz_B d y (pc + n) L' S A v A' ok) : rz_B d y pc L S A v A' ok := by
  subst hL
  refine ⟨rg_At.step ?_ kk.1, kk.2⟩
  simp only [rg_step, hf, rg_op, rg_iinc, hl, if_pos hn, rg_nx, vI, Int32.ofInt_add]
theorem ofInt_ne0 (hx : r32 x) (h : ¬ x = 0) : ¬ Int32.ofInt x = 0 := fun e => h ((eq32 (y := 0) hx (by omega)).mp e)
theorem ofInt_ne0L (hx : r64 x) (h : ¬ x = 0) : ¬ Int64.ofInt x = 0 := fun e => h ((eq64 (y := 0) hx (by omega)).mp e)
theorem rz_B.idiv (hf : rg_fetch y pc = some (.idiv, 1)) (hx : r32 x) (hz : r32 z) (h0 : ¬ z = 0) (kk : rz_B d y (pc + 1) L (vI (x.tdiv z) :: r) A v A' ok) : rz_B d y pc L (vI z :: vI x :: r) A v A' ok := by
  refine ⟨rg_At.step ?_ kk.1, kk.2⟩
  have h1 := ofInt_ne0 hz h0
  simp only [rg_step, hf, rg_op, rg_dv2, h1, if_false, rg_ln, rg_nx, if_true, vI, i32_div hx hz]
theorem rz_B.irem (hf : rg_fetch y pc = some (.irem, 1)) (hx : r32 x) (hz : r32 z) (h0 : ¬ z = 0) (kk : rz_B d y (pc + 1) L (vI (x.tmod z) :: r) A v A' ok) : rz_B d y pc L (vI z :: vI x :: r) A v A' ok := by
  refine ⟨rg_At.step ?_ kk.1, kk.2⟩
  have h1 := ofInt_ne0 hz h0
  simp only [rg_step, hf, rg_op, rg_dv2, h1, if_false, rg_ln, rg_nx, if_true, vI, i32_rem hx hz]
theorem rz_B.ldiv (hf : rg_fetch y pc = some (.ldiv, 1)) (hx : r64 x) (hz : r64 z) (h0 : ¬ z = 0) (kk : rz_B d y (pc + 1) L (vL (x.tdiv z) :: r) A v A' ok) : rz_B d y pc L (vL z :: vL x :: r) A v A' ok := by
  refine ⟨rg_At.step ?_ kk.1, kk.2⟩
  have h1 := ofInt_ne0L hz h0
  simp only [rg_step, hf, rg_op, rg_e2, h1, if_false, rg_ln, rg_nx, if_true, vL, i64_div hx hz]
theorem rz_B.lrem (hf : rg_fetch y pc = some (.lrem, 1)) (hx : r64 x) (hz : r64 z) (h0 : ¬ z = 0) (kk : rz_B d y (pc + 1) L (vL (x.tmod z) :: r) A v A' ok) : rz_B d y pc L (vL z :: vL x :: r) A v A' ok := by
  refine ⟨rg_At.step ?_ kk.1, kk.2⟩
  have h1 := ofInt_ne0L hz h0
  simp only [rg_step, hf, rg_op, rg_e2, h1, if_false, rg_ln, rg_nx, if_true, vL, i64_rem hx hz]
theorem rz_B.i2l (hf : rg_fetch y pc = some (.i2l, 1)) (hx : r32 x) (kk : rz_B d y (pc + 1) L (vL x :: r) A v A' ok) : rz_B d y pc L (vI x :: r) A v A' ok := by
  refine ⟨rg_At.step ?_ kk.1, kk.2⟩
  simp only [rg_step, hf, rg_op, rg_i1, rg_ln, rg_nx, if_true, vL, i32_wide hx]
theorem rz_B.l2i (hf : rg_fetch y pc = some (.l2i, 1)) (kk : rz_B d y (pc + 1) L (vI x :: r) A v A' ok) : rz_B d y pc L (vL x :: r) A v A' ok := by
  refine ⟨rg_At.step ?_ kk.1, kk.2⟩
  simp only [rg_step, hf, rg_op, rg_l1, rg_ln, rg_nx, if_true, vI, Int64.toInt32_ofInt]
theorem rz_B.l2n (hf : rg_fetch y pc = some (.l2i, 1)) (kk : rz_B d y (pc + 1) L (vI (rz_oN x) :: r) A v A' ok) : rz_B d y pc L (vL x :: r) A v A' ok := by
  refine ⟨rg_At.step ?_ kk.1, kk.2⟩
  simp only [rg_step, hf, rg_op, rg_l1, rg_ln, rg_nx, if_true, vI, rz_oN, Int32.ofInt_toInt]
theorem rz_B.oI (f : Int32 → Int32 → Int32) (h : rg_step d y pc L (vI z :: vI x :: r) (toM A) = some (.inl (pc + 1, L, .int (f (Int32.ofInt x) (Int32.ofInt z)) :: r, toM A))) (kk : rz_B d y (pc + 1) L (vI (rz_oI f x z) :: r) A v A' ok) : rz_B d y pc L (vI z :: vI x :: r) A v A' ok := by
  refine ⟨rg_At.step h ?_, kk.2⟩
  have h9 := kk.1
  simp only [vI, rz_oI, Int32.ofInt_toInt] at h9
  exact h9
theorem rz_B.oL (f : Int64 → Int64 → Int64) (h : rg_step d y pc L (vL z :: vL x :: r) (toM A) = some (.inl (pc + 1, L, .long (f (Int64.ofInt x) (Int64.ofInt z)) :: r, toM A))) (kk : rz_B d y (pc + 1) L (vL (rz_oL f x z) :: r) A v A' ok) : rz_B d y pc L (vL z :: vL x :: r) A v A' ok := by
  refine ⟨rg_At.step h ?_, kk.2⟩
  have h9 := kk.1
  simp only [vL, rz_oL, Int64.ofInt_toInt] at h9
  exact h9
theorem rz_B.oS (f : Int64 → Int32 → Int64) (h : rg_step d y pc L (vI z :: vL x :: r) (toM A) = some (.inl (pc + 1, L, .long (f (Int64.ofInt x) (Int32.ofInt z)) :: r, toM A))) (kk : rz_B d y (pc + 1) L (vL (rz_oS f x z) :: r) A v A' ok) : rz_B d y pc L (vI z :: vL x :: r) A v A' ok := by
  refine ⟨rg_At.step h ?_, kk.2⟩
  have h9 := kk.1
  simp only [vL, rz_oS, Int64.ofInt_toInt] at h9
  exact h9
theorem rz_B.o1 (f : Int32 → Int32) (h : rg_step d y pc L (vI x :: r) (toM A) = some (.inl (pc + 1, L, .int (f (Int32.ofInt x)) :: r, toM A))) (kk : rz_B d y (pc + 1) L (vI (rz_o1 f x) :: r) A v A' ok) : rz_B d y pc L (vI x :: r) A v A' ok := by
  refine ⟨rg_At.step h ?_, kk.2⟩
  have h9 := kk.1
  simp only [vI, rz_o1, Int32.ofInt_toInt] at h9
  exact h9
theorem rz_B.zret (hf : rg_fetch y pc = some (.ireturn, 1)) (hr : rg_ret y = some .boolean) (hv : x = 0 ∨ x = 1) (ho : ok) (hw : wf A) : rz_B d y pc L [vI x] A (some (vI x)) A ok := by
  refine ⟨rg_At.zret hf hr ?_, ho, hw⟩
  rcases hv with rfl | rfl
  · exact Or.inl rfl
  · exact Or.inr rfl
theorem rz_B.tswO {dflt lo hi : Int} {offs : Array Int} (hf : rg_fetch y pc = some (.tableswitch dflt lo hi offs, n)) (hx : r32 x) (ho : x < lo ∨ hi < x) (ht : 0 ≤ (pc : Int) + dflt) (hp : rg_tgt pc dflt = pc') (kk : rz_B d y pc' L r A v A' ok) : rz_B d y pc L (vI x :: r) A v A' ok := by
  subst hp
  refine ⟨rg_At.step ?_ kk.1, kk.2⟩
  have e := i32_to hx
  simp only [rg_step, hf, rg_op, rg_tsw, e, if_pos ho, rg_jp, if_pos ht, rg_nx]
theorem rz_B.tswI {dflt lo hi off : Int} {offs : Array Int} (hf : rg_fetch y pc = some (.tableswitch dflt lo hi offs, n)) (hx : r32 x) (ho : ¬ (x < lo ∨ hi < x)) (hof : offs[(x - lo).toNat]? = some off) (ht : 0 ≤ (pc : Int) + off) (hp : rg_tgt pc off = pc') (kk : rz_B d y pc' L r A v A' ok) : rz_B d y pc L (vI x :: r) A v A' ok := by
  subst hp
  refine ⟨rg_At.step ?_ kk.1, kk.2⟩
  have e := i32_to hx
  simp only [rg_step, hf, rg_op, rg_tsw, e, if_neg ho, hof, rg_jp, if_pos ht, rg_nx]
theorem rz_B.cpy {a b na nb xa za xb zb : Nat} {sp dp m : Int} (hf : rg_fetch y pc = some (.invokestatic 42, 3)) (hsa : rg_shapes[a]? = some (.inr (0, na, xa, za))) (hsb : rg_shapes[b]? = some (.inr (0, nb, xb, zb))) (hla : na ≤ 10000) (hlb : nb ≤ 10000) (hh : 0 ≤ sp ∧ 0 ≤ dp ∧ 0 ≤ m ∧ sp + m ≤ (na : Int) ∧ dp + m ≤ (nb : Int)) (h1 : r32 sp) (h2 : r32 dp) (h3 : r32 m) (hy : rg_own y = 6 ∧ rg_sum r ≤ 8) (kk : rz_B (d + 1) y (pc + 3) L r (aC A a b sp.toNat dp.toNat m.toNat) v A' ok) : rz_B (d + 1) y pc L (vI m :: vI dp :: .ref b :: vI sp :: .ref a :: r) A v A' ok := by
  obtain ⟨g1, g2, g3, g4, g5⟩ := hh
  refine ⟨rg_At.step ?_ kk.1, kk.2⟩
  have e1 : (Int32.ofInt sp).toNatClampNeg = sp.toNat := by unfold Int32.toNatClampNeg; rw [i32_to h1]
  have e2 : (Int32.ofInt dp).toNatClampNeg = dp.toNat := by unfold Int32.toNatClampNeg; rw [i32_to h2]
  have e3 : (Int32.ofInt m).toNatClampNeg = m.toNat := by unfold Int32.toNatClampNeg; rw [i32_to h3]
  have z1 : (0 : Int32) ≤ Int32.ofInt sp := (le32 (x := 0) (by omega) h1).mpr g1
  have z2 : (0 : Int32) ≤ Int32.ofInt dp := (le32 (x := 0) (by omega) h2).mpr g2
  have z3 : (0 : Int32) ≤ Int32.ofInt m := (le32 (x := 0) (by omega) h3).mpr g3
  have hc : 1 ≤ d + 1 ∧ 3 = 3 ∧ rg_sum r ≤ 8 ∧ 0 ≤ Int32.ofInt sp ∧ 0 ≤ Int32.ofInt dp ∧ 0 ≤ Int32.ofInt m ∧ sp.toNat + m.toNat ≤ na ∧ dp.toNat + m.toNat ≤ nb := ⟨by omega, rfl, hy.2, z1, z2, z3, by omega, by omega⟩
  simp only [rg_step, hf, rg_op, hy.1, and_self, if_true, rg_cpy, hsa, hsb, e1, e2, e3, rg_nx, toM_aC]
  rw [if_pos (by first | exact hc | (refine ⟨by omega, trivial, hy.2, z1, z2, z3, by omega, by omega⟩))]
end BRULES
