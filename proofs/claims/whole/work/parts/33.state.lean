/-! THE STATE in whole numbers: what both sides hold. Class and reference are each held against functions of it. -/
abbrev St : Type := (Nat → Nat) × (Nat → Nat → Nat → Int)
abbrev St.now (S : St) : Int := S.2 0 0 0
abbrev St.limit (S : St) : Int := S.2 1 0 0
abbrev St.nP (S : St) : Nat := S.1 2
abbrev St.nZ (S : St) : Nat := S.1 3
abbrev St.nH (S : St) : Nat := S.1 4
abbrev St.nF (S : St) : Nat := S.1 5
abbrev St.nU (S : St) : Nat := S.1 6
abbrev St.nS (S : St) : Nat := S.1 7
abbrev St.nB (S : St) : Nat := S.1 8
abbrev St.nT (S : St) : Nat := S.1 9
abbrev St.nR (S : St) : Nat := S.1 10
abbrev St.zero (S : St) : Nat → Int := S.2 11 0
abbrev St.low (S : St) : Nat → Int := S.2 12 0
abbrev St.beside (S : St) : Nat → Int := S.2 13 0
abbrev St.stN (S : St) : Nat → Int := S.2 14 0
abbrev St.stF (S : St) : Nat → Nat → Int := S.2 15
abbrev St.bN (S : St) : Nat → Int := S.2 16 0
abbrev St.bH (S : St) : Nat → Nat → Int := S.2 17
abbrev St.bF (S : St) : Nat → Nat → Int := S.2 18
abbrev St.zP (S : St) : Nat → Int := S.2 19 0
abbrev St.zZ (S : St) : Nat → Int := S.2 20 0
abbrev St.zF (S : St) : Nat → Int := S.2 21 0
abbrev St.zK (S : St) : Nat → Int := S.2 22 0
abbrev St.hP (S : St) : Nat → Int := S.2 23 0
abbrev St.hT (S : St) : Nat → Int := S.2 24 0
abbrev St.hK (S : St) : Nat → Int := S.2 25 0
abbrev St.hR (S : St) : Nat → Int := S.2 26 0
abbrev St.hKn (S : St) : Nat → Int := S.2 27 0
abbrev St.hS (S : St) : Nat → Int := S.2 28 0
abbrev St.fP (S : St) : Nat → Int := S.2 29 0
abbrev St.fT (S : St) : Nat → Int := S.2 30 0
abbrev St.fN (S : St) : Nat → Int := S.2 31 0
abbrev St.fW (S : St) : Nat → Int := S.2 32 0
abbrev St.fKn (S : St) : Nat → Int := S.2 33 0
abbrev St.fS (S : St) : Nat → Int := S.2 34 0
abbrev St.uP (S : St) : Nat → Int := S.2 35 0
abbrev St.uK (S : St) : Nat → Int := S.2 36 0
abbrev St.uF (S : St) : Nat → Int := S.2 37 0
abbrev St.uT (S : St) : Nat → Int := S.2 38 0
abbrev St.uM (S : St) : Nat → Int := S.2 39 0
abbrev St.uKn (S : St) : Nat → Int := S.2 40 0
abbrev St.sP (S : St) : Nat → Int := S.2 41 0
abbrev St.sD (S : St) : Nat → Int := S.2 42 0
abbrev St.sT (S : St) : Nat → Int := S.2 43 0
abbrev St.sN (S : St) : Nat → Int := S.2 44 0
abbrev St.st (S : St) : Nat → Nat → Int := S.2 45
abbrev St.pP (S : St) : Nat → Int := S.2 46 0
abbrev St.pT (S : St) : Nat → Int := S.2 47 0
abbrev St.pF (S : St) : Nat → Int := S.2 48 0
abbrev St.tB (S : St) : Nat → Int := S.2 49 0
abbrev St.rB (S : St) : Nat → Int := S.2 50 0
abbrev St.ref (S : St) : Nat → Int := S.2 51 0
abbrev up (f : Nat → Int) (k : Nat) (v : Int) : Nat → Int := fun b => if b = k then v else f b
abbrev up2 (f : Nat → Nat → Int) (p k : Nat) (v : Int) : Nat → Nat → Int := fun a => if a = p then up (f p) k v else f a
theorem up_same {f : Nat → Int} {k : Nat} {v : Int} : up f k v k = v := if_pos rfl
theorem up_ne {f : Nat → Int} {k j : Nat} {v : Int} (h : j ≠ k) : up f k v j = f j := if_neg h
/-- how many of the first n hold -/
def cntN (P : Nat → Bool) : Nat → Nat
  | 0 => 0
  | n + 1 => cntN P n + if P n then 1 else 0
theorem cntN_le (P : Nat → Bool) : ∀ n, cntN P n ≤ n
  | 0 => Nat.le_refl 0
  | n + 1 => by have := cntN_le P n; unfold cntN; split <;> omega
theorem cntN_congr {P Q : Nat → Bool} : ∀ {n : Nat}, (∀ i, i < n → P i = Q i) → cntN P n = cntN Q n
  | 0, _ => rfl
  | n + 1, h => by unfold cntN; rw [cntN_congr (n := n) (fun i hi => h i (by omega)), h n (by omega)]
/-! a TEXT's types: true for what holds or not, false for a number -/
def tyStep (x : Int) (s : List Bool) : Option (List Bool) :=
  if -13 ≤ x then some (false :: s) else
  if x = -20 then (match s with
    | true :: s => some (true :: s)
    | _ => none) else
  if x = -21 ∨ x = -22 then (match s with
    | true :: true :: s => some (true :: s)
    | _ => none) else
  if x = -23 ∨ x = -24 ∨ x = -25 then (match s with
    | false :: false :: s => some (true :: s)
    | _ => none) else
  if x = -26 ∨ x = -27 ∨ x = -28 then (match s with
    | false :: false :: s => some (false :: s)
    | _ => none) else none
def tyN (f : Nat → Int) : Nat → Option (List Bool)
  | 0 => some []
  | n + 1 => match tyN f n with
    | none => none
    | some s => tyStep (f n) s
/-- the bounds of a state, after t calls -/
def OK (t : Nat) (S : St) : Prop := (0 ≤ S.now ∧ S.now ≤ 9999) ∧ (0 ≤ S.limit ∧ S.limit ≤ 100) ∧ (S.nP ≤ 6) ∧ (S.nZ ≤ 60) ∧ (S.nH ≤ 300) ∧ (S.nF ≤ 60) ∧ (S.nU ≤ 40) ∧ (S.nS ≤ 20) ∧ (S.nB ≤ 40) ∧ (S.nT ≤ 60) ∧ (S.nR ≤ 12) ∧ (∀ p, p < S.nP → -999 ≤ S.zero p ∧ S.zero p ≤ 999) ∧ (∀ p, p < S.nP → -2000 ≤ S.low p ∧ S.low p ≤ 9999) ∧ (∀ p, p < S.nP → -1 ≤ S.beside p ∧ S.beside p < S.nP) ∧ (∀ p, p < 6 → 0 ≤ S.stN p ∧ S.stN p ≤ 8) ∧ (∀ p i : Nat, p < 6 → (i : Int) < S.stN p → 0 ≤ S.stF p i ∧ S.stF p i ≤ 9999) ∧ (∀ p, p < 6 → 0 ≤ S.bN p ∧ S.bN p ≤ 8) ∧ (∀ p i : Nat, p < 6 → (i : Int) < S.bN p → (-9999 ≤ S.bH p i ∧ S.bH p i ≤ 99999) ∧ 0 ≤ S.bF p i ∧ S.bF p i ≤ 99999) ∧ (∀ p i : Nat, p < 6 → (i : Int) + 1 < S.bN p → S.bH p i < S.bH p (i + 1) ∧ S.bF p i ≤ S.bF p (i + 1)) ∧ (∀ i, i < S.nZ → (0 ≤ S.zP i ∧ S.zP i < S.nP) ∧ (-999 ≤ S.zZ i ∧ S.zZ i ≤ 999) ∧ (0 ≤ S.zF i ∧ S.zF i ≤ 9999) ∧ 0 ≤ S.zK i ∧ S.zK i ≤ 9999) ∧ (∀ i, i < S.nH → (0 ≤ S.hP i ∧ S.hP i < S.nP) ∧ (0 ≤ S.hT i ∧ S.hT i ≤ 9999) ∧ (0 ≤ S.hK i ∧ S.hK i ≤ 1) ∧ (-1 ≤ S.hR i ∧ S.hR i ≤ 9999) ∧ (0 ≤ S.hKn i ∧ S.hKn i ≤ 9999) ∧ (-1 ≤ S.hS i ∧ S.hS i ≤ 9999) ∧ (0 ≤ S.hS i → 0 ≤ S.hR i)) ∧ (∀ i, i < S.nF → (0 ≤ S.fP i ∧ S.fP i < S.nP) ∧ (0 ≤ S.fT i ∧ S.fT i ≤ 9999) ∧ (0 ≤ S.fN i ∧ S.fN i ≤ 99999) ∧ (0 ≤ S.fW i ∧ S.fW i ≤ 99) ∧ (0 ≤ S.fKn i ∧ S.fKn i ≤ 9999) ∧ -1 ≤ S.fS i ∧ S.fS i ≤ 9999) ∧ (∀ i, i < S.nU → (0 ≤ S.uP i ∧ S.uP i < S.nP) ∧ (0 ≤ S.uK i ∧ S.uK i ≤ 1) ∧ (0 ≤ S.uF i ∧ S.uF i ≤ S.uT i ∧ S.uT i ≤ 9999) ∧ (0 ≤ S.uM i ∧ S.uM i ≤ 99) ∧ 0 ≤ S.uKn i ∧ S.uKn i ≤ 9999) ∧ (∀ i, i < S.nS → (0 ≤ S.sP i ∧ S.sP i ≤ 2) ∧ (0 ≤ S.sD i ∧ S.sD i ≤ 200) ∧ (0 ≤ S.sT i ∧ S.sT i ≤ 9999) ∧ (0 ≤ S.sN i ∧ S.sN i ≤ 60) ∧ tyN (S.st i) (S.sN i).toNat = some [true]) ∧ (∀ i j : Nat, i < S.nS → (j : Int) < S.sN i → -28 ≤ S.st i j ∧ S.st i j ≤ 99999) ∧ (∀ i, i < S.nB → (0 ≤ S.pP i ∧ S.pP i < S.nP) ∧ (0 ≤ S.pT i ∧ S.pT i ≤ 9999) ∧ 0 ≤ S.pF i ∧ S.pF i ≤ 99999999) ∧ (∀ i, i < S.nT → 0 ≤ S.tB i ∧ S.tB i ≤ 255) ∧ (∀ i, i < S.nR → -128 ≤ S.rB i ∧ S.rB i ≤ 127) ∧ (∀ i, 0 ≤ S.ref i ∧ S.ref i ≤ t)
theorem OK.of {t : Nat} {S : St} (h : (0 ≤ S.now ∧ S.now ≤ 9999) ∧ (0 ≤ S.limit ∧ S.limit ≤ 100) ∧ (S.nP ≤ 6) ∧ (S.nZ ≤ 60) ∧ (S.nH ≤ 300) ∧ (S.nF ≤ 60) ∧ (S.nU ≤ 40) ∧ (S.nS ≤ 20) ∧ (S.nB ≤ 40) ∧ (S.nT ≤ 60) ∧ (S.nR ≤ 12) ∧ (∀ p, p < S.nP → -999 ≤ S.zero p ∧ S.zero p ≤ 999) ∧ (∀ p, p < S.nP → -2000 ≤ S.low p ∧ S.low p ≤ 9999) ∧ (∀ p, p < S.nP → -1 ≤ S.beside p ∧ S.beside p < S.nP) ∧ (∀ p, p < 6 → 0 ≤ S.stN p ∧ S.stN p ≤ 8) ∧ (∀ p i : Nat, p < 6 → (i : Int) < S.stN p → 0 ≤ S.stF p i ∧ S.stF p i ≤ 9999) ∧ (∀ p, p < 6 → 0 ≤ S.bN p ∧ S.bN p ≤ 8) ∧ (∀ p i : Nat, p < 6 → (i : Int) < S.bN p → (-9999 ≤ S.bH p i ∧ S.bH p i ≤ 99999) ∧ 0 ≤ S.bF p i ∧ S.bF p i ≤ 99999) ∧ (∀ p i : Nat, p < 6 → (i : Int) + 1 < S.bN p → S.bH p i < S.bH p (i + 1) ∧ S.bF p i ≤ S.bF p (i + 1)) ∧ (∀ i, i < S.nZ → (0 ≤ S.zP i ∧ S.zP i < S.nP) ∧ (-999 ≤ S.zZ i ∧ S.zZ i ≤ 999) ∧ (0 ≤ S.zF i ∧ S.zF i ≤ 9999) ∧ 0 ≤ S.zK i ∧ S.zK i ≤ 9999) ∧ (∀ i, i < S.nH → (0 ≤ S.hP i ∧ S.hP i < S.nP) ∧ (0 ≤ S.hT i ∧ S.hT i ≤ 9999) ∧ (0 ≤ S.hK i ∧ S.hK i ≤ 1) ∧ (-1 ≤ S.hR i ∧ S.hR i ≤ 9999) ∧ (0 ≤ S.hKn i ∧ S.hKn i ≤ 9999) ∧ (-1 ≤ S.hS i ∧ S.hS i ≤ 9999) ∧ (0 ≤ S.hS i → 0 ≤ S.hR i)) ∧ (∀ i, i < S.nF → (0 ≤ S.fP i ∧ S.fP i < S.nP) ∧ (0 ≤ S.fT i ∧ S.fT i ≤ 9999) ∧ (0 ≤ S.fN i ∧ S.fN i ≤ 99999) ∧ (0 ≤ S.fW i ∧ S.fW i ≤ 99) ∧ (0 ≤ S.fKn i ∧ S.fKn i ≤ 9999) ∧ -1 ≤ S.fS i ∧ S.fS i ≤ 9999) ∧ (∀ i, i < S.nU → (0 ≤ S.uP i ∧ S.uP i < S.nP) ∧ (0 ≤ S.uK i ∧ S.uK i ≤ 1) ∧ (0 ≤ S.uF i ∧ S.uF i ≤ S.uT i ∧ S.uT i ≤ 9999) ∧ (0 ≤ S.uM i ∧ S.uM i ≤ 99) ∧ 0 ≤ S.uKn i ∧ S.uKn i ≤ 9999) ∧ (∀ i, i < S.nS → (0 ≤ S.sP i ∧ S.sP i ≤ 2) ∧ (0 ≤ S.sD i ∧ S.sD i ≤ 200) ∧ (0 ≤ S.sT i ∧ S.sT i ≤ 9999) ∧ (0 ≤ S.sN i ∧ S.sN i ≤ 60) ∧ tyN (S.st i) (S.sN i).toNat = some [true]) ∧ (∀ i j : Nat, i < S.nS → (j : Int) < S.sN i → -28 ≤ S.st i j ∧ S.st i j ≤ 99999) ∧ (∀ i, i < S.nB → (0 ≤ S.pP i ∧ S.pP i < S.nP) ∧ (0 ≤ S.pT i ∧ S.pT i ≤ 9999) ∧ 0 ≤ S.pF i ∧ S.pF i ≤ 99999999) ∧ (∀ i, i < S.nT → 0 ≤ S.tB i ∧ S.tB i ≤ 255) ∧ (∀ i, i < S.nR → -128 ≤ S.rB i ∧ S.rB i ≤ 127) ∧ (∀ i, 0 ≤ S.ref i ∧ S.ref i ≤ t)) : OK t S := h
theorem OK.now {t : Nat} {S : St} (h : OK t S) : 0 ≤ S.now ∧ S.now ≤ 9999 := h.1
theorem OK.limit {t : Nat} {S : St} (h : OK t S) : 0 ≤ S.limit ∧ S.limit ≤ 100 := h.2.1
theorem OK.nP {t : Nat} {S : St} (h : OK t S) : S.nP ≤ 6 := h.2.2.1
theorem OK.nZ {t : Nat} {S : St} (h : OK t S) : S.nZ ≤ 60 := h.2.2.2.1
theorem OK.nH {t : Nat} {S : St} (h : OK t S) : S.nH ≤ 300 := h.2.2.2.2.1
theorem OK.nF {t : Nat} {S : St} (h : OK t S) : S.nF ≤ 60 := h.2.2.2.2.2.1
theorem OK.nU {t : Nat} {S : St} (h : OK t S) : S.nU ≤ 40 := h.2.2.2.2.2.2.1
theorem OK.nS {t : Nat} {S : St} (h : OK t S) : S.nS ≤ 20 := h.2.2.2.2.2.2.2.1
theorem OK.nB {t : Nat} {S : St} (h : OK t S) : S.nB ≤ 40 := h.2.2.2.2.2.2.2.2.1
theorem OK.nT {t : Nat} {S : St} (h : OK t S) : S.nT ≤ 60 := h.2.2.2.2.2.2.2.2.2.1
theorem OK.nR {t : Nat} {S : St} (h : OK t S) : S.nR ≤ 12 := h.2.2.2.2.2.2.2.2.2.2.1
theorem OK.zero {t : Nat} {S : St} (h : OK t S) : ∀ p, p < S.nP → -999 ≤ S.zero p ∧ S.zero p ≤ 999 := h.2.2.2.2.2.2.2.2.2.2.2.1
theorem OK.low {t : Nat} {S : St} (h : OK t S) : ∀ p, p < S.nP → -2000 ≤ S.low p ∧ S.low p ≤ 9999 := h.2.2.2.2.2.2.2.2.2.2.2.2.1
theorem OK.beside {t : Nat} {S : St} (h : OK t S) : ∀ p, p < S.nP → -1 ≤ S.beside p ∧ S.beside p < S.nP := h.2.2.2.2.2.2.2.2.2.2.2.2.2.1
theorem OK.stN {t : Nat} {S : St} (h : OK t S) : ∀ p, p < 6 → 0 ≤ S.stN p ∧ S.stN p ≤ 8 := h.2.2.2.2.2.2.2.2.2.2.2.2.2.2.1
theorem OK.stF {t : Nat} {S : St} (h : OK t S) : ∀ p i : Nat, p < 6 → (i : Int) < S.stN p → 0 ≤ S.stF p i ∧ S.stF p i ≤ 9999 := h.2.2.2.2.2.2.2.2.2.2.2.2.2.2.2.1
theorem OK.bN {t : Nat} {S : St} (h : OK t S) : ∀ p, p < 6 → 0 ≤ S.bN p ∧ S.bN p ≤ 8 := h.2.2.2.2.2.2.2.2.2.2.2.2.2.2.2.2.1
theorem OK.b {t : Nat} {S : St} (h : OK t S) : ∀ p i : Nat, p < 6 → (i : Int) < S.bN p → (-9999 ≤ S.bH p i ∧ S.bH p i ≤ 99999) ∧ 0 ≤ S.bF p i ∧ S.bF p i ≤ 99999 := h.2.2.2.2.2.2.2.2.2.2.2.2.2.2.2.2.2.1
theorem OK.bs {t : Nat} {S : St} (h : OK t S) : ∀ p i : Nat, p < 6 → (i : Int) + 1 < S.bN p → S.bH p i < S.bH p (i + 1) ∧ S.bF p i ≤ S.bF p (i + 1) := h.2.2.2.2.2.2.2.2.2.2.2.2.2.2.2.2.2.2.1
theorem OK.z {t : Nat} {S : St} (h : OK t S) : ∀ i, i < S.nZ → (0 ≤ S.zP i ∧ S.zP i < S.nP) ∧ (-999 ≤ S.zZ i ∧ S.zZ i ≤ 999) ∧ (0 ≤ S.zF i ∧ S.zF i ≤ 9999) ∧ 0 ≤ S.zK i ∧ S.zK i ≤ 9999 := h.2.2.2.2.2.2.2.2.2.2.2.2.2.2.2.2.2.2.2.1
theorem OK.h {t : Nat} {S : St} (h : OK t S) : ∀ i, i < S.nH → (0 ≤ S.hP i ∧ S.hP i < S.nP) ∧ (0 ≤ S.hT i ∧ S.hT i ≤ 9999) ∧ (0 ≤ S.hK i ∧ S.hK i ≤ 1) ∧ (-1 ≤ S.hR i ∧ S.hR i ≤ 9999) ∧ (0 ≤ S.hKn i ∧ S.hKn i ≤ 9999) ∧ (-1 ≤ S.hS i ∧ S.hS i ≤ 9999) ∧ (0 ≤ S.hS i → 0 ≤ S.hR i) := h.2.2.2.2.2.2.2.2.2.2.2.2.2.2.2.2.2.2.2.2.1
theorem OK.f {t : Nat} {S : St} (h : OK t S) : ∀ i, i < S.nF → (0 ≤ S.fP i ∧ S.fP i < S.nP) ∧ (0 ≤ S.fT i ∧ S.fT i ≤ 9999) ∧ (0 ≤ S.fN i ∧ S.fN i ≤ 99999) ∧ (0 ≤ S.fW i ∧ S.fW i ≤ 99) ∧ (0 ≤ S.fKn i ∧ S.fKn i ≤ 9999) ∧ -1 ≤ S.fS i ∧ S.fS i ≤ 9999 := h.2.2.2.2.2.2.2.2.2.2.2.2.2.2.2.2.2.2.2.2.2.1
theorem OK.u {t : Nat} {S : St} (h : OK t S) : ∀ i, i < S.nU → (0 ≤ S.uP i ∧ S.uP i < S.nP) ∧ (0 ≤ S.uK i ∧ S.uK i ≤ 1) ∧ (0 ≤ S.uF i ∧ S.uF i ≤ S.uT i ∧ S.uT i ≤ 9999) ∧ (0 ≤ S.uM i ∧ S.uM i ≤ 99) ∧ 0 ≤ S.uKn i ∧ S.uKn i ≤ 9999 := h.2.2.2.2.2.2.2.2.2.2.2.2.2.2.2.2.2.2.2.2.2.2.1
theorem OK.s {t : Nat} {S : St} (h : OK t S) : ∀ i, i < S.nS → (0 ≤ S.sP i ∧ S.sP i ≤ 2) ∧ (0 ≤ S.sD i ∧ S.sD i ≤ 200) ∧ (0 ≤ S.sT i ∧ S.sT i ≤ 9999) ∧ (0 ≤ S.sN i ∧ S.sN i ≤ 60) ∧ tyN (S.st i) (S.sN i).toNat = some [true] := h.2.2.2.2.2.2.2.2.2.2.2.2.2.2.2.2.2.2.2.2.2.2.2.1
theorem OK.sv {t : Nat} {S : St} (h : OK t S) : ∀ i j : Nat, i < S.nS → (j : Int) < S.sN i → -28 ≤ S.st i j ∧ S.st i j ≤ 99999 := h.2.2.2.2.2.2.2.2.2.2.2.2.2.2.2.2.2.2.2.2.2.2.2.2.1
theorem OK.p {t : Nat} {S : St} (h : OK t S) : ∀ i, i < S.nB → (0 ≤ S.pP i ∧ S.pP i < S.nP) ∧ (0 ≤ S.pT i ∧ S.pT i ≤ 9999) ∧ 0 ≤ S.pF i ∧ S.pF i ≤ 99999999 := h.2.2.2.2.2.2.2.2.2.2.2.2.2.2.2.2.2.2.2.2.2.2.2.2.2.1
theorem OK.tB {t : Nat} {S : St} (h : OK t S) : ∀ i, i < S.nT → 0 ≤ S.tB i ∧ S.tB i ≤ 255 := h.2.2.2.2.2.2.2.2.2.2.2.2.2.2.2.2.2.2.2.2.2.2.2.2.2.2.1
theorem OK.rB {t : Nat} {S : St} (h : OK t S) : ∀ i, i < S.nR → -128 ≤ S.rB i ∧ S.rB i ≤ 127 := h.2.2.2.2.2.2.2.2.2.2.2.2.2.2.2.2.2.2.2.2.2.2.2.2.2.2.2.1
theorem OK.ref {t : Nat} {S : St} (h : OK t S) : ∀ i, 0 ≤ S.ref i ∧ S.ref i ≤ t := h.2.2.2.2.2.2.2.2.2.2.2.2.2.2.2.2.2.2.2.2.2.2.2.2.2.2.2.2
theorem OK.mono {t : Nat} {S : St} (h : OK t S) : OK (t + 1) S := (OK.of ⟨(OK.now h :), (OK.limit h :), (OK.nP h :), (OK.nZ h :), (OK.nH h :), (OK.nF h :), (OK.nU h :), (OK.nS h :), (OK.nB h :), (OK.nT h :), (OK.nR h :), (OK.zero h :), (OK.low h :), (OK.beside h :), (OK.stN h :), (OK.stF h :), (OK.bN h :), (OK.b h :), (OK.bs h :), (OK.z h :), (OK.h h :), (OK.f h :), (OK.u h :), (OK.s h :), (OK.sv h :), (OK.p h :), (OK.tB h :), (OK.rB h :), (fun i => ⟨(h.ref i).1, by have := (h.ref i).2; omega⟩)⟩)
/-- class: the rows hold the state -/
def RC (A : rz_A) (S : St) : Prop := (A.1 0 16 = S.now) ∧ (A.1 0 15 = S.limit) ∧ (A.1 2 0 = S.nP) ∧ (A.1 2 1 = S.nZ) ∧ (A.1 18 0 = S.nH) ∧ (A.1 26 0 = S.nF) ∧ (A.1 33 0 = S.nU) ∧ (A.1 43 0 = S.nS) ∧ (A.1 0 14 = S.nB) ∧ (A.1 40 1 = S.nT) ∧ (A.1 64 4 = S.nR) ∧ (A.1 3 = S.zero) ∧ (A.1 4 = S.low) ∧ (A.1 5 = S.beside) ∧ (A.1 6 = S.stN) ∧ (A.1 8 = S.stF 0) ∧ (A.1 9 = S.stF 1) ∧ (A.1 10 = S.stF 2) ∧ (A.1 11 = S.stF 3) ∧ (A.1 12 = S.stF 4) ∧ (A.1 13 = S.stF 5) ∧ (A.1 69 0 = S.bN 0) ∧ (A.1 72 0 = S.bN 1) ∧ (A.1 75 0 = S.bN 2) ∧ (A.1 78 0 = S.bN 3) ∧ (A.1 81 0 = S.bN 4) ∧ (A.1 84 0 = S.bN 5) ∧ (A.1 70 = S.bH 0) ∧ (A.1 73 = S.bH 1) ∧ (A.1 76 = S.bH 2) ∧ (A.1 79 = S.bH 3) ∧ (A.1 82 = S.bH 4) ∧ (A.1 85 = S.bH 5) ∧ (A.1 71 = S.bF 0) ∧ (A.1 74 = S.bF 1) ∧ (A.1 77 = S.bF 2) ∧ (A.1 80 = S.bF 3) ∧ (A.1 83 = S.bF 4) ∧ (A.1 86 = S.bF 5) ∧ (A.1 14 = S.zP) ∧ (A.1 15 = S.zZ) ∧ (A.1 16 = S.zF) ∧ (A.1 17 = S.zK) ∧ (A.1 19 = S.hP) ∧ (A.1 20 = S.hT) ∧ (A.1 21 = S.hK) ∧ (A.1 22 = S.hR) ∧ (A.1 23 = S.hKn) ∧ (∀ i, i < S.nH → A.1 24 i = if S.hS i < 0 then 2147483647 else S.hS i) ∧ (A.1 18 1 = cntN (fun i => decide (0 ≤ S.hS i)) S.nH) ∧ (A.1 27 = S.fP) ∧ (A.1 28 = S.fT) ∧ (A.1 29 = S.fN) ∧ (A.1 30 = S.fW) ∧ (A.1 31 = S.fKn) ∧ (∀ i, i < S.nF → A.1 32 i = if S.fS i < 0 then 2147483647 else S.fS i) ∧ (A.1 34 = S.uP) ∧ (A.1 35 = S.uK) ∧ (A.1 36 = S.uF) ∧ (A.1 37 = S.uT) ∧ (A.1 38 = S.uM) ∧ (A.1 39 = S.uKn) ∧ (A.1 44 = S.sP) ∧ (A.1 45 = S.sD) ∧ (A.1 46 = S.sT) ∧ (A.1 47 = S.sN) ∧ (∀ s i : Nat, s < S.nS → (i : Int) < S.sN s → A.1 48 (60 * s + i) = S.st s i) ∧ (A.1 88 = S.pP) ∧ (A.1 89 = S.pT) ∧ (A.1 90 = S.pF) ∧ (A.1 41 = S.tB) ∧ (A.1 66 = S.rB) ∧ (∀ i, i < 6 → A.1 1 i = S.ref i) ∧ (∀ i, i < S.nH → 0 ≤ A.1 25 i ∧ A.1 25 i < S.nH) ∧ (∀ i j, i < j → j < S.nH → S.hP (A.1 25 i).toNat * 16384 + S.hT (A.1 25 i).toNat < S.hP (A.1 25 j).toNat * 16384 + S.hT (A.1 25 j).toNat ∨ (S.hP (A.1 25 i).toNat * 16384 + S.hT (A.1 25 i).toNat = S.hP (A.1 25 j).toNat * 16384 + S.hT (A.1 25 j).toNat ∧ A.1 25 i < A.1 25 j)) ∧ (∀ h, h < S.nH → ∃ i, i < S.nH ∧ A.1 25 i = (h : Int))
theorem RC.of {A : rz_A} {S : St} (h : (A.1 0 16 = S.now) ∧ (A.1 0 15 = S.limit) ∧ (A.1 2 0 = S.nP) ∧ (A.1 2 1 = S.nZ) ∧ (A.1 18 0 = S.nH) ∧ (A.1 26 0 = S.nF) ∧ (A.1 33 0 = S.nU) ∧ (A.1 43 0 = S.nS) ∧ (A.1 0 14 = S.nB) ∧ (A.1 40 1 = S.nT) ∧ (A.1 64 4 = S.nR) ∧ (A.1 3 = S.zero) ∧ (A.1 4 = S.low) ∧ (A.1 5 = S.beside) ∧ (A.1 6 = S.stN) ∧ (A.1 8 = S.stF 0) ∧ (A.1 9 = S.stF 1) ∧ (A.1 10 = S.stF 2) ∧ (A.1 11 = S.stF 3) ∧ (A.1 12 = S.stF 4) ∧ (A.1 13 = S.stF 5) ∧ (A.1 69 0 = S.bN 0) ∧ (A.1 72 0 = S.bN 1) ∧ (A.1 75 0 = S.bN 2) ∧ (A.1 78 0 = S.bN 3) ∧ (A.1 81 0 = S.bN 4) ∧ (A.1 84 0 = S.bN 5) ∧ (A.1 70 = S.bH 0) ∧ (A.1 73 = S.bH 1) ∧ (A.1 76 = S.bH 2) ∧ (A.1 79 = S.bH 3) ∧ (A.1 82 = S.bH 4) ∧ (A.1 85 = S.bH 5) ∧ (A.1 71 = S.bF 0) ∧ (A.1 74 = S.bF 1) ∧ (A.1 77 = S.bF 2) ∧ (A.1 80 = S.bF 3) ∧ (A.1 83 = S.bF 4) ∧ (A.1 86 = S.bF 5) ∧ (A.1 14 = S.zP) ∧ (A.1 15 = S.zZ) ∧ (A.1 16 = S.zF) ∧ (A.1 17 = S.zK) ∧ (A.1 19 = S.hP) ∧ (A.1 20 = S.hT) ∧ (A.1 21 = S.hK) ∧ (A.1 22 = S.hR) ∧ (A.1 23 = S.hKn) ∧ (∀ i, i < S.nH → A.1 24 i = if S.hS i < 0 then 2147483647 else S.hS i) ∧ (A.1 18 1 = cntN (fun i => decide (0 ≤ S.hS i)) S.nH) ∧ (A.1 27 = S.fP) ∧ (A.1 28 = S.fT) ∧ (A.1 29 = S.fN) ∧ (A.1 30 = S.fW) ∧ (A.1 31 = S.fKn) ∧ (∀ i, i < S.nF → A.1 32 i = if S.fS i < 0 then 2147483647 else S.fS i) ∧ (A.1 34 = S.uP) ∧ (A.1 35 = S.uK) ∧ (A.1 36 = S.uF) ∧ (A.1 37 = S.uT) ∧ (A.1 38 = S.uM) ∧ (A.1 39 = S.uKn) ∧ (A.1 44 = S.sP) ∧ (A.1 45 = S.sD) ∧ (A.1 46 = S.sT) ∧ (A.1 47 = S.sN) ∧ (∀ s i : Nat, s < S.nS → (i : Int) < S.sN s → A.1 48 (60 * s + i) = S.st s i) ∧ (A.1 88 = S.pP) ∧ (A.1 89 = S.pT) ∧ (A.1 90 = S.pF) ∧ (A.1 41 = S.tB) ∧ (A.1 66 = S.rB) ∧ (∀ i, i < 6 → A.1 1 i = S.ref i) ∧ (∀ i, i < S.nH → 0 ≤ A.1 25 i ∧ A.1 25 i < S.nH) ∧ (∀ i j, i < j → j < S.nH → S.hP (A.1 25 i).toNat * 16384 + S.hT (A.1 25 i).toNat < S.hP (A.1 25 j).toNat * 16384 + S.hT (A.1 25 j).toNat ∨ (S.hP (A.1 25 i).toNat * 16384 + S.hT (A.1 25 i).toNat = S.hP (A.1 25 j).toNat * 16384 + S.hT (A.1 25 j).toNat ∧ A.1 25 i < A.1 25 j)) ∧ (∀ h, h < S.nH → ∃ i, i < S.nH ∧ A.1 25 i = (h : Int))) : RC A S := h
theorem RC.now {A : rz_A} {S : St} (h : RC A S) : A.1 0 16 = S.now := h.1
theorem RC.limit {A : rz_A} {S : St} (h : RC A S) : A.1 0 15 = S.limit := h.2.1
theorem RC.nP {A : rz_A} {S : St} (h : RC A S) : A.1 2 0 = S.nP := h.2.2.1
theorem RC.nZ {A : rz_A} {S : St} (h : RC A S) : A.1 2 1 = S.nZ := h.2.2.2.1
theorem RC.nH {A : rz_A} {S : St} (h : RC A S) : A.1 18 0 = S.nH := h.2.2.2.2.1
theorem RC.nF {A : rz_A} {S : St} (h : RC A S) : A.1 26 0 = S.nF := h.2.2.2.2.2.1
theorem RC.nU {A : rz_A} {S : St} (h : RC A S) : A.1 33 0 = S.nU := h.2.2.2.2.2.2.1
theorem RC.nS {A : rz_A} {S : St} (h : RC A S) : A.1 43 0 = S.nS := h.2.2.2.2.2.2.2.1
theorem RC.nB {A : rz_A} {S : St} (h : RC A S) : A.1 0 14 = S.nB := h.2.2.2.2.2.2.2.2.1
theorem RC.nT {A : rz_A} {S : St} (h : RC A S) : A.1 40 1 = S.nT := h.2.2.2.2.2.2.2.2.2.1
theorem RC.nR {A : rz_A} {S : St} (h : RC A S) : A.1 64 4 = S.nR := h.2.2.2.2.2.2.2.2.2.2.1
theorem RC.zero {A : rz_A} {S : St} (h : RC A S) : A.1 3 = S.zero := h.2.2.2.2.2.2.2.2.2.2.2.1
theorem RC.low {A : rz_A} {S : St} (h : RC A S) : A.1 4 = S.low := h.2.2.2.2.2.2.2.2.2.2.2.2.1
theorem RC.beside {A : rz_A} {S : St} (h : RC A S) : A.1 5 = S.beside := h.2.2.2.2.2.2.2.2.2.2.2.2.2.1
theorem RC.stN {A : rz_A} {S : St} (h : RC A S) : A.1 6 = S.stN := h.2.2.2.2.2.2.2.2.2.2.2.2.2.2.1
theorem RC.stF0 {A : rz_A} {S : St} (h : RC A S) : A.1 8 = S.stF 0 := h.2.2.2.2.2.2.2.2.2.2.2.2.2.2.2.1
theorem RC.stF1 {A : rz_A} {S : St} (h : RC A S) : A.1 9 = S.stF 1 := h.2.2.2.2.2.2.2.2.2.2.2.2.2.2.2.2.1
theorem RC.stF2 {A : rz_A} {S : St} (h : RC A S) : A.1 10 = S.stF 2 := h.2.2.2.2.2.2.2.2.2.2.2.2.2.2.2.2.2.1
theorem RC.stF3 {A : rz_A} {S : St} (h : RC A S) : A.1 11 = S.stF 3 := h.2.2.2.2.2.2.2.2.2.2.2.2.2.2.2.2.2.2.1
theorem RC.stF4 {A : rz_A} {S : St} (h : RC A S) : A.1 12 = S.stF 4 := h.2.2.2.2.2.2.2.2.2.2.2.2.2.2.2.2.2.2.2.1
theorem RC.stF5 {A : rz_A} {S : St} (h : RC A S) : A.1 13 = S.stF 5 := h.2.2.2.2.2.2.2.2.2.2.2.2.2.2.2.2.2.2.2.2.1
theorem RC.bN0 {A : rz_A} {S : St} (h : RC A S) : A.1 69 0 = S.bN 0 := h.2.2.2.2.2.2.2.2.2.2.2.2.2.2.2.2.2.2.2.2.2.1
theorem RC.bN1 {A : rz_A} {S : St} (h : RC A S) : A.1 72 0 = S.bN 1 := h.2.2.2.2.2.2.2.2.2.2.2.2.2.2.2.2.2.2.2.2.2.2.1
theorem RC.bN2 {A : rz_A} {S : St} (h : RC A S) : A.1 75 0 = S.bN 2 := h.2.2.2.2.2.2.2.2.2.2.2.2.2.2.2.2.2.2.2.2.2.2.2.1
theorem RC.bN3 {A : rz_A} {S : St} (h : RC A S) : A.1 78 0 = S.bN 3 := h.2.2.2.2.2.2.2.2.2.2.2.2.2.2.2.2.2.2.2.2.2.2.2.2.1
theorem RC.bN4 {A : rz_A} {S : St} (h : RC A S) : A.1 81 0 = S.bN 4 := h.2.2.2.2.2.2.2.2.2.2.2.2.2.2.2.2.2.2.2.2.2.2.2.2.2.1
theorem RC.bN5 {A : rz_A} {S : St} (h : RC A S) : A.1 84 0 = S.bN 5 := h.2.2.2.2.2.2.2.2.2.2.2.2.2.2.2.2.2.2.2.2.2.2.2.2.2.2.1
theorem RC.bH0 {A : rz_A} {S : St} (h : RC A S) : A.1 70 = S.bH 0 := h.2.2.2.2.2.2.2.2.2.2.2.2.2.2.2.2.2.2.2.2.2.2.2.2.2.2.2.1
theorem RC.bH1 {A : rz_A} {S : St} (h : RC A S) : A.1 73 = S.bH 1 := h.2.2.2.2.2.2.2.2.2.2.2.2.2.2.2.2.2.2.2.2.2.2.2.2.2.2.2.2.1
theorem RC.bH2 {A : rz_A} {S : St} (h : RC A S) : A.1 76 = S.bH 2 := h.2.2.2.2.2.2.2.2.2.2.2.2.2.2.2.2.2.2.2.2.2.2.2.2.2.2.2.2.2.1
theorem RC.bH3 {A : rz_A} {S : St} (h : RC A S) : A.1 79 = S.bH 3 := h.2.2.2.2.2.2.2.2.2.2.2.2.2.2.2.2.2.2.2.2.2.2.2.2.2.2.2.2.2.2.1
theorem RC.bH4 {A : rz_A} {S : St} (h : RC A S) : A.1 82 = S.bH 4 := h.2.2.2.2.2.2.2.2.2.2.2.2.2.2.2.2.2.2.2.2.2.2.2.2.2.2.2.2.2.2.2.1
theorem RC.bH5 {A : rz_A} {S : St} (h : RC A S) : A.1 85 = S.bH 5 := h.2.2.2.2.2.2.2.2.2.2.2.2.2.2.2.2.2.2.2.2.2.2.2.2.2.2.2.2.2.2.2.2.1
theorem RC.bF0 {A : rz_A} {S : St} (h : RC A S) : A.1 71 = S.bF 0 := h.2.2.2.2.2.2.2.2.2.2.2.2.2.2.2.2.2.2.2.2.2.2.2.2.2.2.2.2.2.2.2.2.2.1
theorem RC.bF1 {A : rz_A} {S : St} (h : RC A S) : A.1 74 = S.bF 1 := h.2.2.2.2.2.2.2.2.2.2.2.2.2.2.2.2.2.2.2.2.2.2.2.2.2.2.2.2.2.2.2.2.2.2.1
theorem RC.bF2 {A : rz_A} {S : St} (h : RC A S) : A.1 77 = S.bF 2 := h.2.2.2.2.2.2.2.2.2.2.2.2.2.2.2.2.2.2.2.2.2.2.2.2.2.2.2.2.2.2.2.2.2.2.2.1
theorem RC.bF3 {A : rz_A} {S : St} (h : RC A S) : A.1 80 = S.bF 3 := h.2.2.2.2.2.2.2.2.2.2.2.2.2.2.2.2.2.2.2.2.2.2.2.2.2.2.2.2.2.2.2.2.2.2.2.2.1
theorem RC.bF4 {A : rz_A} {S : St} (h : RC A S) : A.1 83 = S.bF 4 := h.2.2.2.2.2.2.2.2.2.2.2.2.2.2.2.2.2.2.2.2.2.2.2.2.2.2.2.2.2.2.2.2.2.2.2.2.2.1
theorem RC.bF5 {A : rz_A} {S : St} (h : RC A S) : A.1 86 = S.bF 5 := h.2.2.2.2.2.2.2.2.2.2.2.2.2.2.2.2.2.2.2.2.2.2.2.2.2.2.2.2.2.2.2.2.2.2.2.2.2.2.1
theorem RC.zP {A : rz_A} {S : St} (h : RC A S) : A.1 14 = S.zP := h.2.2.2.2.2.2.2.2.2.2.2.2.2.2.2.2.2.2.2.2.2.2.2.2.2.2.2.2.2.2.2.2.2.2.2.2.2.2.2.1
theorem RC.zZ {A : rz_A} {S : St} (h : RC A S) : A.1 15 = S.zZ := h.2.2.2.2.2.2.2.2.2.2.2.2.2.2.2.2.2.2.2.2.2.2.2.2.2.2.2.2.2.2.2.2.2.2.2.2.2.2.2.2.1
theorem RC.zF {A : rz_A} {S : St} (h : RC A S) : A.1 16 = S.zF := h.2.2.2.2.2.2.2.2.2.2.2.2.2.2.2.2.2.2.2.2.2.2.2.2.2.2.2.2.2.2.2.2.2.2.2.2.2.2.2.2.2.1
theorem RC.zK {A : rz_A} {S : St} (h : RC A S) : A.1 17 = S.zK := h.2.2.2.2.2.2.2.2.2.2.2.2.2.2.2.2.2.2.2.2.2.2.2.2.2.2.2.2.2.2.2.2.2.2.2.2.2.2.2.2.2.2.1
theorem RC.hP {A : rz_A} {S : St} (h : RC A S) : A.1 19 = S.hP := h.2.2.2.2.2.2.2.2.2.2.2.2.2.2.2.2.2.2.2.2.2.2.2.2.2.2.2.2.2.2.2.2.2.2.2.2.2.2.2.2.2.2.2.1
theorem RC.hT {A : rz_A} {S : St} (h : RC A S) : A.1 20 = S.hT := h.2.2.2.2.2.2.2.2.2.2.2.2.2.2.2.2.2.2.2.2.2.2.2.2.2.2.2.2.2.2.2.2.2.2.2.2.2.2.2.2.2.2.2.2.1
theorem RC.hK {A : rz_A} {S : St} (h : RC A S) : A.1 21 = S.hK := h.2.2.2.2.2.2.2.2.2.2.2.2.2.2.2.2.2.2.2.2.2.2.2.2.2.2.2.2.2.2.2.2.2.2.2.2.2.2.2.2.2.2.2.2.2.1
theorem RC.hR {A : rz_A} {S : St} (h : RC A S) : A.1 22 = S.hR := h.2.2.2.2.2.2.2.2.2.2.2.2.2.2.2.2.2.2.2.2.2.2.2.2.2.2.2.2.2.2.2.2.2.2.2.2.2.2.2.2.2.2.2.2.2.2.1
theorem RC.hKn {A : rz_A} {S : St} (h : RC A S) : A.1 23 = S.hKn := h.2.2.2.2.2.2.2.2.2.2.2.2.2.2.2.2.2.2.2.2.2.2.2.2.2.2.2.2.2.2.2.2.2.2.2.2.2.2.2.2.2.2.2.2.2.2.2.1
theorem RC.hS {A : rz_A} {S : St} (h : RC A S) : ∀ i, i < S.nH → A.1 24 i = if S.hS i < 0 then 2147483647 else S.hS i := h.2.2.2.2.2.2.2.2.2.2.2.2.2.2.2.2.2.2.2.2.2.2.2.2.2.2.2.2.2.2.2.2.2.2.2.2.2.2.2.2.2.2.2.2.2.2.2.2.1
theorem RC.hSm {A : rz_A} {S : St} (h : RC A S) : A.1 18 1 = cntN (fun i => decide (0 ≤ S.hS i)) S.nH := h.2.2.2.2.2.2.2.2.2.2.2.2.2.2.2.2.2.2.2.2.2.2.2.2.2.2.2.2.2.2.2.2.2.2.2.2.2.2.2.2.2.2.2.2.2.2.2.2.2.1
theorem RC.fP {A : rz_A} {S : St} (h : RC A S) : A.1 27 = S.fP := h.2.2.2.2.2.2.2.2.2.2.2.2.2.2.2.2.2.2.2.2.2.2.2.2.2.2.2.2.2.2.2.2.2.2.2.2.2.2.2.2.2.2.2.2.2.2.2.2.2.2.1
theorem RC.fT {A : rz_A} {S : St} (h : RC A S) : A.1 28 = S.fT := h.2.2.2.2.2.2.2.2.2.2.2.2.2.2.2.2.2.2.2.2.2.2.2.2.2.2.2.2.2.2.2.2.2.2.2.2.2.2.2.2.2.2.2.2.2.2.2.2.2.2.2.1
theorem RC.fN {A : rz_A} {S : St} (h : RC A S) : A.1 29 = S.fN := h.2.2.2.2.2.2.2.2.2.2.2.2.2.2.2.2.2.2.2.2.2.2.2.2.2.2.2.2.2.2.2.2.2.2.2.2.2.2.2.2.2.2.2.2.2.2.2.2.2.2.2.2.1
theorem RC.fW {A : rz_A} {S : St} (h : RC A S) : A.1 30 = S.fW := h.2.2.2.2.2.2.2.2.2.2.2.2.2.2.2.2.2.2.2.2.2.2.2.2.2.2.2.2.2.2.2.2.2.2.2.2.2.2.2.2.2.2.2.2.2.2.2.2.2.2.2.2.2.1
theorem RC.fKn {A : rz_A} {S : St} (h : RC A S) : A.1 31 = S.fKn := h.2.2.2.2.2.2.2.2.2.2.2.2.2.2.2.2.2.2.2.2.2.2.2.2.2.2.2.2.2.2.2.2.2.2.2.2.2.2.2.2.2.2.2.2.2.2.2.2.2.2.2.2.2.2.1
theorem RC.fS {A : rz_A} {S : St} (h : RC A S) : ∀ i, i < S.nF → A.1 32 i = if S.fS i < 0 then 2147483647 else S.fS i := h.2.2.2.2.2.2.2.2.2.2.2.2.2.2.2.2.2.2.2.2.2.2.2.2.2.2.2.2.2.2.2.2.2.2.2.2.2.2.2.2.2.2.2.2.2.2.2.2.2.2.2.2.2.2.2.1
theorem RC.uP {A : rz_A} {S : St} (h : RC A S) : A.1 34 = S.uP := h.2.2.2.2.2.2.2.2.2.2.2.2.2.2.2.2.2.2.2.2.2.2.2.2.2.2.2.2.2.2.2.2.2.2.2.2.2.2.2.2.2.2.2.2.2.2.2.2.2.2.2.2.2.2.2.2.1
theorem RC.uK {A : rz_A} {S : St} (h : RC A S) : A.1 35 = S.uK := h.2.2.2.2.2.2.2.2.2.2.2.2.2.2.2.2.2.2.2.2.2.2.2.2.2.2.2.2.2.2.2.2.2.2.2.2.2.2.2.2.2.2.2.2.2.2.2.2.2.2.2.2.2.2.2.2.2.1
theorem RC.uF {A : rz_A} {S : St} (h : RC A S) : A.1 36 = S.uF := h.2.2.2.2.2.2.2.2.2.2.2.2.2.2.2.2.2.2.2.2.2.2.2.2.2.2.2.2.2.2.2.2.2.2.2.2.2.2.2.2.2.2.2.2.2.2.2.2.2.2.2.2.2.2.2.2.2.2.1
theorem RC.uT {A : rz_A} {S : St} (h : RC A S) : A.1 37 = S.uT := h.2.2.2.2.2.2.2.2.2.2.2.2.2.2.2.2.2.2.2.2.2.2.2.2.2.2.2.2.2.2.2.2.2.2.2.2.2.2.2.2.2.2.2.2.2.2.2.2.2.2.2.2.2.2.2.2.2.2.2.1
theorem RC.uM {A : rz_A} {S : St} (h : RC A S) : A.1 38 = S.uM := h.2.2.2.2.2.2.2.2.2.2.2.2.2.2.2.2.2.2.2.2.2.2.2.2.2.2.2.2.2.2.2.2.2.2.2.2.2.2.2.2.2.2.2.2.2.2.2.2.2.2.2.2.2.2.2.2.2.2.2.2.1
theorem RC.uKn {A : rz_A} {S : St} (h : RC A S) : A.1 39 = S.uKn := h.2.2.2.2.2.2.2.2.2.2.2.2.2.2.2.2.2.2.2.2.2.2.2.2.2.2.2.2.2.2.2.2.2.2.2.2.2.2.2.2.2.2.2.2.2.2.2.2.2.2.2.2.2.2.2.2.2.2.2.2.2.1
theorem RC.sP {A : rz_A} {S : St} (h : RC A S) : A.1 44 = S.sP := h.2.2.2.2.2.2.2.2.2.2.2.2.2.2.2.2.2.2.2.2.2.2.2.2.2.2.2.2.2.2.2.2.2.2.2.2.2.2.2.2.2.2.2.2.2.2.2.2.2.2.2.2.2.2.2.2.2.2.2.2.2.2.1
theorem RC.sD {A : rz_A} {S : St} (h : RC A S) : A.1 45 = S.sD := h.2.2.2.2.2.2.2.2.2.2.2.2.2.2.2.2.2.2.2.2.2.2.2.2.2.2.2.2.2.2.2.2.2.2.2.2.2.2.2.2.2.2.2.2.2.2.2.2.2.2.2.2.2.2.2.2.2.2.2.2.2.2.2.1
theorem RC.sT {A : rz_A} {S : St} (h : RC A S) : A.1 46 = S.sT := h.2.2.2.2.2.2.2.2.2.2.2.2.2.2.2.2.2.2.2.2.2.2.2.2.2.2.2.2.2.2.2.2.2.2.2.2.2.2.2.2.2.2.2.2.2.2.2.2.2.2.2.2.2.2.2.2.2.2.2.2.2.2.2.2.1
theorem RC.sN {A : rz_A} {S : St} (h : RC A S) : A.1 47 = S.sN := h.2.2.2.2.2.2.2.2.2.2.2.2.2.2.2.2.2.2.2.2.2.2.2.2.2.2.2.2.2.2.2.2.2.2.2.2.2.2.2.2.2.2.2.2.2.2.2.2.2.2.2.2.2.2.2.2.2.2.2.2.2.2.2.2.2.1
theorem RC.st {A : rz_A} {S : St} (h : RC A S) : ∀ s i : Nat, s < S.nS → (i : Int) < S.sN s → A.1 48 (60 * s + i) = S.st s i := h.2.2.2.2.2.2.2.2.2.2.2.2.2.2.2.2.2.2.2.2.2.2.2.2.2.2.2.2.2.2.2.2.2.2.2.2.2.2.2.2.2.2.2.2.2.2.2.2.2.2.2.2.2.2.2.2.2.2.2.2.2.2.2.2.2.2.1
theorem RC.pP {A : rz_A} {S : St} (h : RC A S) : A.1 88 = S.pP := h.2.2.2.2.2.2.2.2.2.2.2.2.2.2.2.2.2.2.2.2.2.2.2.2.2.2.2.2.2.2.2.2.2.2.2.2.2.2.2.2.2.2.2.2.2.2.2.2.2.2.2.2.2.2.2.2.2.2.2.2.2.2.2.2.2.2.2.1
theorem RC.pT {A : rz_A} {S : St} (h : RC A S) : A.1 89 = S.pT := h.2.2.2.2.2.2.2.2.2.2.2.2.2.2.2.2.2.2.2.2.2.2.2.2.2.2.2.2.2.2.2.2.2.2.2.2.2.2.2.2.2.2.2.2.2.2.2.2.2.2.2.2.2.2.2.2.2.2.2.2.2.2.2.2.2.2.2.2.1
theorem RC.pF {A : rz_A} {S : St} (h : RC A S) : A.1 90 = S.pF := h.2.2.2.2.2.2.2.2.2.2.2.2.2.2.2.2.2.2.2.2.2.2.2.2.2.2.2.2.2.2.2.2.2.2.2.2.2.2.2.2.2.2.2.2.2.2.2.2.2.2.2.2.2.2.2.2.2.2.2.2.2.2.2.2.2.2.2.2.2.1
theorem RC.tB {A : rz_A} {S : St} (h : RC A S) : A.1 41 = S.tB := h.2.2.2.2.2.2.2.2.2.2.2.2.2.2.2.2.2.2.2.2.2.2.2.2.2.2.2.2.2.2.2.2.2.2.2.2.2.2.2.2.2.2.2.2.2.2.2.2.2.2.2.2.2.2.2.2.2.2.2.2.2.2.2.2.2.2.2.2.2.2.1
theorem RC.rB {A : rz_A} {S : St} (h : RC A S) : A.1 66 = S.rB := h.2.2.2.2.2.2.2.2.2.2.2.2.2.2.2.2.2.2.2.2.2.2.2.2.2.2.2.2.2.2.2.2.2.2.2.2.2.2.2.2.2.2.2.2.2.2.2.2.2.2.2.2.2.2.2.2.2.2.2.2.2.2.2.2.2.2.2.2.2.2.2.1
theorem RC.ref {A : rz_A} {S : St} (h : RC A S) : ∀ i, i < 6 → A.1 1 i = S.ref i := h.2.2.2.2.2.2.2.2.2.2.2.2.2.2.2.2.2.2.2.2.2.2.2.2.2.2.2.2.2.2.2.2.2.2.2.2.2.2.2.2.2.2.2.2.2.2.2.2.2.2.2.2.2.2.2.2.2.2.2.2.2.2.2.2.2.2.2.2.2.2.2.2.1
theorem RC.ordR {A : rz_A} {S : St} (h : RC A S) : ∀ i, i < S.nH → 0 ≤ A.1 25 i ∧ A.1 25 i < S.nH := h.2.2.2.2.2.2.2.2.2.2.2.2.2.2.2.2.2.2.2.2.2.2.2.2.2.2.2.2.2.2.2.2.2.2.2.2.2.2.2.2.2.2.2.2.2.2.2.2.2.2.2.2.2.2.2.2.2.2.2.2.2.2.2.2.2.2.2.2.2.2.2.2.2.1
theorem RC.ordS {A : rz_A} {S : St} (h : RC A S) : ∀ i j, i < j → j < S.nH → S.hP (A.1 25 i).toNat * 16384 + S.hT (A.1 25 i).toNat < S.hP (A.1 25 j).toNat * 16384 + S.hT (A.1 25 j).toNat ∨ (S.hP (A.1 25 i).toNat * 16384 + S.hT (A.1 25 i).toNat = S.hP (A.1 25 j).toNat * 16384 + S.hT (A.1 25 j).toNat ∧ A.1 25 i < A.1 25 j) := h.2.2.2.2.2.2.2.2.2.2.2.2.2.2.2.2.2.2.2.2.2.2.2.2.2.2.2.2.2.2.2.2.2.2.2.2.2.2.2.2.2.2.2.2.2.2.2.2.2.2.2.2.2.2.2.2.2.2.2.2.2.2.2.2.2.2.2.2.2.2.2.2.2.2.1
theorem RC.ordA {A : rz_A} {S : St} (h : RC A S) : ∀ h, h < S.nH → ∃ i, i < S.nH ∧ A.1 25 i = (h : Int) := h.2.2.2.2.2.2.2.2.2.2.2.2.2.2.2.2.2.2.2.2.2.2.2.2.2.2.2.2.2.2.2.2.2.2.2.2.2.2.2.2.2.2.2.2.2.2.2.2.2.2.2.2.2.2.2.2.2.2.2.2.2.2.2.2.2.2.2.2.2.2.2.2.2.2.2
/-- the reference's own words for the steps of a TEXT -/
def mst (x : Int) : Int :=
  if 0 ≤ x then x else
  if x = -1 then -4 else if x = -2 then -13 else if x = -3 then -18 else if x = -4 then -11 else if x = -5 then -1 else if x = -6 then -2 else if x = -7 then -7 else if x = -8 then -8 else if x = -9 then -14 else if x = -10 then -6 else if x = -11 then -23 else if x = -12 then -24 else if x = -13 then -9 else
  if x = -20 then -42 else if x = -21 then -41 else if x = -22 then -40 else if x = -23 then -43 else if x = -24 then -44 else if x = -25 then -45 else if x = -26 then -46 else if x = -27 then -47 else -48
/-- reference: the rows hold the state -/
def RM (A : rz_A) (S : St) : Prop := (A.1 91 0 = S.now) ∧ (A.1 91 1 = S.nP) ∧ (A.1 91 2 = S.nZ) ∧ (A.1 91 3 = S.nH) ∧ (A.1 91 4 = S.nF) ∧ (A.1 91 5 = S.nS) ∧ (A.1 91 6 = S.nU) ∧ (A.1 91 7 = S.nB) ∧ (A.1 91 8 = S.nT) ∧ (A.1 91 9 = S.nR) ∧ (A.1 91 10 = S.limit) ∧ (A.1 92 = S.zero) ∧ (A.1 93 = S.low) ∧ (A.1 94 = S.beside) ∧ (A.1 95 = S.stN) ∧ (A.1 96 = S.bN) ∧ (∀ p i, p < 6 → i < 8 → A.1 97 (8 * p + i) = S.stF p i) ∧ (∀ p i, p < 6 → i < 8 → A.1 98 (8 * p + i) = S.bH p i) ∧ (∀ p i, p < 6 → i < 8 → A.1 99 (8 * p + i) = S.bF p i) ∧ (A.1 100 = S.zP) ∧ (A.1 101 = S.zZ) ∧ (A.1 102 = S.zF) ∧ (A.1 103 = S.zK) ∧ (A.1 104 = S.hP) ∧ (A.1 105 = S.hT) ∧ (A.1 106 = S.hK) ∧ (A.1 107 = S.hR) ∧ (A.1 108 = S.hKn) ∧ (A.1 109 = S.hS) ∧ (A.1 110 = S.fP) ∧ (A.1 111 = S.fT) ∧ (A.1 112 = S.fN) ∧ (A.1 113 = S.fW) ∧ (A.1 114 = S.fKn) ∧ (A.1 115 = S.fS) ∧ (A.1 116 = S.uP) ∧ (A.1 117 = S.uK) ∧ (A.1 118 = S.uF) ∧ (A.1 119 = S.uT) ∧ (A.1 120 = S.uM) ∧ (A.1 121 = S.uKn) ∧ (A.1 122 = S.sP) ∧ (A.1 123 = S.sD) ∧ (A.1 124 = S.sT) ∧ (A.1 125 = S.sN) ∧ (∀ s i : Nat, s < S.nS → (i : Int) < S.sN s → A.1 126 (130 * s + i) = mst (S.st s i)) ∧ (A.1 127 = S.pP) ∧ (A.1 128 = S.pT) ∧ (A.1 129 = S.pF) ∧ (A.1 130 = S.tB) ∧ (A.1 131 = S.rB) ∧ (∀ i, i < 6 → A.1 132 (i + 1) = S.ref i)
theorem RM.of {A : rz_A} {S : St} (h : (A.1 91 0 = S.now) ∧ (A.1 91 1 = S.nP) ∧ (A.1 91 2 = S.nZ) ∧ (A.1 91 3 = S.nH) ∧ (A.1 91 4 = S.nF) ∧ (A.1 91 5 = S.nS) ∧ (A.1 91 6 = S.nU) ∧ (A.1 91 7 = S.nB) ∧ (A.1 91 8 = S.nT) ∧ (A.1 91 9 = S.nR) ∧ (A.1 91 10 = S.limit) ∧ (A.1 92 = S.zero) ∧ (A.1 93 = S.low) ∧ (A.1 94 = S.beside) ∧ (A.1 95 = S.stN) ∧ (A.1 96 = S.bN) ∧ (∀ p i, p < 6 → i < 8 → A.1 97 (8 * p + i) = S.stF p i) ∧ (∀ p i, p < 6 → i < 8 → A.1 98 (8 * p + i) = S.bH p i) ∧ (∀ p i, p < 6 → i < 8 → A.1 99 (8 * p + i) = S.bF p i) ∧ (A.1 100 = S.zP) ∧ (A.1 101 = S.zZ) ∧ (A.1 102 = S.zF) ∧ (A.1 103 = S.zK) ∧ (A.1 104 = S.hP) ∧ (A.1 105 = S.hT) ∧ (A.1 106 = S.hK) ∧ (A.1 107 = S.hR) ∧ (A.1 108 = S.hKn) ∧ (A.1 109 = S.hS) ∧ (A.1 110 = S.fP) ∧ (A.1 111 = S.fT) ∧ (A.1 112 = S.fN) ∧ (A.1 113 = S.fW) ∧ (A.1 114 = S.fKn) ∧ (A.1 115 = S.fS) ∧ (A.1 116 = S.uP) ∧ (A.1 117 = S.uK) ∧ (A.1 118 = S.uF) ∧ (A.1 119 = S.uT) ∧ (A.1 120 = S.uM) ∧ (A.1 121 = S.uKn) ∧ (A.1 122 = S.sP) ∧ (A.1 123 = S.sD) ∧ (A.1 124 = S.sT) ∧ (A.1 125 = S.sN) ∧ (∀ s i : Nat, s < S.nS → (i : Int) < S.sN s → A.1 126 (130 * s + i) = mst (S.st s i)) ∧ (A.1 127 = S.pP) ∧ (A.1 128 = S.pT) ∧ (A.1 129 = S.pF) ∧ (A.1 130 = S.tB) ∧ (A.1 131 = S.rB) ∧ (∀ i, i < 6 → A.1 132 (i + 1) = S.ref i)) : RM A S := h
theorem RM.now {A : rz_A} {S : St} (h : RM A S) : A.1 91 0 = S.now := h.1
theorem RM.nP {A : rz_A} {S : St} (h : RM A S) : A.1 91 1 = S.nP := h.2.1
theorem RM.nZ {A : rz_A} {S : St} (h : RM A S) : A.1 91 2 = S.nZ := h.2.2.1
theorem RM.nH {A : rz_A} {S : St} (h : RM A S) : A.1 91 3 = S.nH := h.2.2.2.1
theorem RM.nF {A : rz_A} {S : St} (h : RM A S) : A.1 91 4 = S.nF := h.2.2.2.2.1
theorem RM.nS {A : rz_A} {S : St} (h : RM A S) : A.1 91 5 = S.nS := h.2.2.2.2.2.1
theorem RM.nU {A : rz_A} {S : St} (h : RM A S) : A.1 91 6 = S.nU := h.2.2.2.2.2.2.1
theorem RM.nB {A : rz_A} {S : St} (h : RM A S) : A.1 91 7 = S.nB := h.2.2.2.2.2.2.2.1
theorem RM.nT {A : rz_A} {S : St} (h : RM A S) : A.1 91 8 = S.nT := h.2.2.2.2.2.2.2.2.1
theorem RM.nR {A : rz_A} {S : St} (h : RM A S) : A.1 91 9 = S.nR := h.2.2.2.2.2.2.2.2.2.1
theorem RM.limit {A : rz_A} {S : St} (h : RM A S) : A.1 91 10 = S.limit := h.2.2.2.2.2.2.2.2.2.2.1
theorem RM.zero {A : rz_A} {S : St} (h : RM A S) : A.1 92 = S.zero := h.2.2.2.2.2.2.2.2.2.2.2.1
theorem RM.low {A : rz_A} {S : St} (h : RM A S) : A.1 93 = S.low := h.2.2.2.2.2.2.2.2.2.2.2.2.1
theorem RM.beside {A : rz_A} {S : St} (h : RM A S) : A.1 94 = S.beside := h.2.2.2.2.2.2.2.2.2.2.2.2.2.1
theorem RM.stN {A : rz_A} {S : St} (h : RM A S) : A.1 95 = S.stN := h.2.2.2.2.2.2.2.2.2.2.2.2.2.2.1
theorem RM.bN {A : rz_A} {S : St} (h : RM A S) : A.1 96 = S.bN := h.2.2.2.2.2.2.2.2.2.2.2.2.2.2.2.1
theorem RM.stF {A : rz_A} {S : St} (h : RM A S) : ∀ p i, p < 6 → i < 8 → A.1 97 (8 * p + i) = S.stF p i := h.2.2.2.2.2.2.2.2.2.2.2.2.2.2.2.2.1
theorem RM.bH {A : rz_A} {S : St} (h : RM A S) : ∀ p i, p < 6 → i < 8 → A.1 98 (8 * p + i) = S.bH p i := h.2.2.2.2.2.2.2.2.2.2.2.2.2.2.2.2.2.1
theorem RM.bF {A : rz_A} {S : St} (h : RM A S) : ∀ p i, p < 6 → i < 8 → A.1 99 (8 * p + i) = S.bF p i := h.2.2.2.2.2.2.2.2.2.2.2.2.2.2.2.2.2.2.1
theorem RM.zP {A : rz_A} {S : St} (h : RM A S) : A.1 100 = S.zP := h.2.2.2.2.2.2.2.2.2.2.2.2.2.2.2.2.2.2.2.1
theorem RM.zZ {A : rz_A} {S : St} (h : RM A S) : A.1 101 = S.zZ := h.2.2.2.2.2.2.2.2.2.2.2.2.2.2.2.2.2.2.2.2.1
theorem RM.zF {A : rz_A} {S : St} (h : RM A S) : A.1 102 = S.zF := h.2.2.2.2.2.2.2.2.2.2.2.2.2.2.2.2.2.2.2.2.2.1
theorem RM.zK {A : rz_A} {S : St} (h : RM A S) : A.1 103 = S.zK := h.2.2.2.2.2.2.2.2.2.2.2.2.2.2.2.2.2.2.2.2.2.2.1
theorem RM.hP {A : rz_A} {S : St} (h : RM A S) : A.1 104 = S.hP := h.2.2.2.2.2.2.2.2.2.2.2.2.2.2.2.2.2.2.2.2.2.2.2.1
theorem RM.hT {A : rz_A} {S : St} (h : RM A S) : A.1 105 = S.hT := h.2.2.2.2.2.2.2.2.2.2.2.2.2.2.2.2.2.2.2.2.2.2.2.2.1
theorem RM.hK {A : rz_A} {S : St} (h : RM A S) : A.1 106 = S.hK := h.2.2.2.2.2.2.2.2.2.2.2.2.2.2.2.2.2.2.2.2.2.2.2.2.2.1
theorem RM.hR {A : rz_A} {S : St} (h : RM A S) : A.1 107 = S.hR := h.2.2.2.2.2.2.2.2.2.2.2.2.2.2.2.2.2.2.2.2.2.2.2.2.2.2.1
theorem RM.hKn {A : rz_A} {S : St} (h : RM A S) : A.1 108 = S.hKn := h.2.2.2.2.2.2.2.2.2.2.2.2.2.2.2.2.2.2.2.2.2.2.2.2.2.2.2.1
theorem RM.hS {A : rz_A} {S : St} (h : RM A S) : A.1 109 = S.hS := h.2.2.2.2.2.2.2.2.2.2.2.2.2.2.2.2.2.2.2.2.2.2.2.2.2.2.2.2.1
theorem RM.fP {A : rz_A} {S : St} (h : RM A S) : A.1 110 = S.fP := h.2.2.2.2.2.2.2.2.2.2.2.2.2.2.2.2.2.2.2.2.2.2.2.2.2.2.2.2.2.1
theorem RM.fT {A : rz_A} {S : St} (h : RM A S) : A.1 111 = S.fT := h.2.2.2.2.2.2.2.2.2.2.2.2.2.2.2.2.2.2.2.2.2.2.2.2.2.2.2.2.2.2.1
theorem RM.fN {A : rz_A} {S : St} (h : RM A S) : A.1 112 = S.fN := h.2.2.2.2.2.2.2.2.2.2.2.2.2.2.2.2.2.2.2.2.2.2.2.2.2.2.2.2.2.2.2.1
theorem RM.fW {A : rz_A} {S : St} (h : RM A S) : A.1 113 = S.fW := h.2.2.2.2.2.2.2.2.2.2.2.2.2.2.2.2.2.2.2.2.2.2.2.2.2.2.2.2.2.2.2.2.1
theorem RM.fKn {A : rz_A} {S : St} (h : RM A S) : A.1 114 = S.fKn := h.2.2.2.2.2.2.2.2.2.2.2.2.2.2.2.2.2.2.2.2.2.2.2.2.2.2.2.2.2.2.2.2.2.1
theorem RM.fS {A : rz_A} {S : St} (h : RM A S) : A.1 115 = S.fS := h.2.2.2.2.2.2.2.2.2.2.2.2.2.2.2.2.2.2.2.2.2.2.2.2.2.2.2.2.2.2.2.2.2.2.1
theorem RM.uP {A : rz_A} {S : St} (h : RM A S) : A.1 116 = S.uP := h.2.2.2.2.2.2.2.2.2.2.2.2.2.2.2.2.2.2.2.2.2.2.2.2.2.2.2.2.2.2.2.2.2.2.2.1
theorem RM.uK {A : rz_A} {S : St} (h : RM A S) : A.1 117 = S.uK := h.2.2.2.2.2.2.2.2.2.2.2.2.2.2.2.2.2.2.2.2.2.2.2.2.2.2.2.2.2.2.2.2.2.2.2.2.1
theorem RM.uF {A : rz_A} {S : St} (h : RM A S) : A.1 118 = S.uF := h.2.2.2.2.2.2.2.2.2.2.2.2.2.2.2.2.2.2.2.2.2.2.2.2.2.2.2.2.2.2.2.2.2.2.2.2.2.1
theorem RM.uT {A : rz_A} {S : St} (h : RM A S) : A.1 119 = S.uT := h.2.2.2.2.2.2.2.2.2.2.2.2.2.2.2.2.2.2.2.2.2.2.2.2.2.2.2.2.2.2.2.2.2.2.2.2.2.2.1
theorem RM.uM {A : rz_A} {S : St} (h : RM A S) : A.1 120 = S.uM := h.2.2.2.2.2.2.2.2.2.2.2.2.2.2.2.2.2.2.2.2.2.2.2.2.2.2.2.2.2.2.2.2.2.2.2.2.2.2.2.1
theorem RM.uKn {A : rz_A} {S : St} (h : RM A S) : A.1 121 = S.uKn := h.2.2.2.2.2.2.2.2.2.2.2.2.2.2.2.2.2.2.2.2.2.2.2.2.2.2.2.2.2.2.2.2.2.2.2.2.2.2.2.2.1
theorem RM.sP {A : rz_A} {S : St} (h : RM A S) : A.1 122 = S.sP := h.2.2.2.2.2.2.2.2.2.2.2.2.2.2.2.2.2.2.2.2.2.2.2.2.2.2.2.2.2.2.2.2.2.2.2.2.2.2.2.2.2.1
theorem RM.sD {A : rz_A} {S : St} (h : RM A S) : A.1 123 = S.sD := h.2.2.2.2.2.2.2.2.2.2.2.2.2.2.2.2.2.2.2.2.2.2.2.2.2.2.2.2.2.2.2.2.2.2.2.2.2.2.2.2.2.2.1
theorem RM.sT {A : rz_A} {S : St} (h : RM A S) : A.1 124 = S.sT := h.2.2.2.2.2.2.2.2.2.2.2.2.2.2.2.2.2.2.2.2.2.2.2.2.2.2.2.2.2.2.2.2.2.2.2.2.2.2.2.2.2.2.2.1
theorem RM.sN {A : rz_A} {S : St} (h : RM A S) : A.1 125 = S.sN := h.2.2.2.2.2.2.2.2.2.2.2.2.2.2.2.2.2.2.2.2.2.2.2.2.2.2.2.2.2.2.2.2.2.2.2.2.2.2.2.2.2.2.2.2.1
theorem RM.st {A : rz_A} {S : St} (h : RM A S) : ∀ s i : Nat, s < S.nS → (i : Int) < S.sN s → A.1 126 (130 * s + i) = mst (S.st s i) := h.2.2.2.2.2.2.2.2.2.2.2.2.2.2.2.2.2.2.2.2.2.2.2.2.2.2.2.2.2.2.2.2.2.2.2.2.2.2.2.2.2.2.2.2.2.1
theorem RM.pP {A : rz_A} {S : St} (h : RM A S) : A.1 127 = S.pP := h.2.2.2.2.2.2.2.2.2.2.2.2.2.2.2.2.2.2.2.2.2.2.2.2.2.2.2.2.2.2.2.2.2.2.2.2.2.2.2.2.2.2.2.2.2.2.1
theorem RM.pT {A : rz_A} {S : St} (h : RM A S) : A.1 128 = S.pT := h.2.2.2.2.2.2.2.2.2.2.2.2.2.2.2.2.2.2.2.2.2.2.2.2.2.2.2.2.2.2.2.2.2.2.2.2.2.2.2.2.2.2.2.2.2.2.2.1
theorem RM.pF {A : rz_A} {S : St} (h : RM A S) : A.1 129 = S.pF := h.2.2.2.2.2.2.2.2.2.2.2.2.2.2.2.2.2.2.2.2.2.2.2.2.2.2.2.2.2.2.2.2.2.2.2.2.2.2.2.2.2.2.2.2.2.2.2.2.1
theorem RM.tB {A : rz_A} {S : St} (h : RM A S) : A.1 130 = S.tB := h.2.2.2.2.2.2.2.2.2.2.2.2.2.2.2.2.2.2.2.2.2.2.2.2.2.2.2.2.2.2.2.2.2.2.2.2.2.2.2.2.2.2.2.2.2.2.2.2.2.1
theorem RM.rB {A : rz_A} {S : St} (h : RM A S) : A.1 131 = S.rB := h.2.2.2.2.2.2.2.2.2.2.2.2.2.2.2.2.2.2.2.2.2.2.2.2.2.2.2.2.2.2.2.2.2.2.2.2.2.2.2.2.2.2.2.2.2.2.2.2.2.2.1
theorem RM.ref {A : rz_A} {S : St} (h : RM A S) : ∀ i, i < 6 → A.1 132 (i + 1) = S.ref i := h.2.2.2.2.2.2.2.2.2.2.2.2.2.2.2.2.2.2.2.2.2.2.2.2.2.2.2.2.2.2.2.2.2.2.2.2.2.2.2.2.2.2.2.2.2.2.2.2.2.2.2
/-! a run that comes to an answer and a memory -/
def Ret {α : Type} (x : Option (α × rz_A)) (r : α) (P : rz_A → Prop) : Prop := ∃ A1, x = some (r, A1) ∧ P A1
section RET
variable {α β : Type} {x : Int} {n : Nat} {o : Option α} {r : α} {A : rz_A} {P Q : rz_A → Prop} {k : α → rz_A → Option (β × rz_A)} {b : β}
theorem Ret.mk (h : P A) : Ret (some (r, A)) r P := ⟨A, rfl, h⟩
theorem Ret.of {y : Option (α × rz_A)} (h : Ret y r P) (hq : ∀ A1, P A1 → Q A1) : Ret y r Q := ⟨h.choose, h.choose_spec.1, hq _ h.choose_spec.2⟩
theorem Ret.eq {y : Option (α × rz_A)} {r' : α} (h : Ret y r P) (e : r = r') : Ret y r' P := e ▸ h
theorem Ret.bind {y : Option (α × rz_A)} {Q : rz_A → Prop} (h : Ret y r Q) (hk : ∀ A1, y = some (r, A1) → Q A1 → Ret (k r A1) b P) : Ret (rz_b y k) b P := by
  obtain ⟨A1, e, q⟩ := h
  obtain ⟨A2, e2, p⟩ := hk A1 e q
  refine ⟨A2, ?_, p⟩
  rw [e]
  exact e2
theorem rz_b_some : rz_b (some (r, A)) k = k r A := Eq.trans rfl rfl
theorem g32p (h : r32 x) : rz_g32 x o = o := if_pos h
theorem g64p (h : r64 x) : rz_g64 x o = o := if_pos h
theorem gxp (h0 : 0 ≤ x) (h1 : x < (n : Int)) : rz_gx x n o = o := if_pos ⟨h0, h1⟩
theorem gnp (h : ¬ x = 0) : rz_gn x o = o := if_neg h
theorem gzp (h : x = 0 ∨ x = 1) : rz_gz x o = o := if_pos h
theorem gpp {p : Prop} [Decidable p] (h : p) : rz_gp p o = o := if_pos h
theorem Ret.ite {c : Prop} [Decidable c] {x y : Option (α × rz_A)} (h1 : c → Ret x r P) (h2 : ¬ c → Ret y r P) : Ret (if c then x else y) r P := by
  by_cases hc : c
  · rw [if_pos hc]; exact h1 hc
  · rw [if_neg hc]; exact h2 hc
theorem Ret.g32 {y : Option (α × rz_A)} (h : r32 x) (k : Ret y r P) : Ret (rz_g32 x y) r P := by rw [g32p h]; exact k
theorem Ret.g64 {y : Option (α × rz_A)} (h : r64 x) (k : Ret y r P) : Ret (rz_g64 x y) r P := by rw [g64p h]; exact k
theorem Ret.gx {y : Option (α × rz_A)} (h0 : 0 ≤ x) (h1 : x < (n : Int)) (k : Ret y r P) : Ret (rz_gx x n y) r P := by rw [gxp h0 h1]; exact k
theorem Ret.gn {y : Option (α × rz_A)} (h : ¬ x = 0) (k : Ret y r P) : Ret (rz_gn x y) r P := by rw [gnp h]; exact k
theorem Ret.gz {y : Option (α × rz_A)} (h : x = 0 ∨ x = 1) (k : Ret y r P) : Ret (rz_gz x y) r P := by rw [gzp h]; exact k
theorem Ret.gp {p : Prop} [Decidable p] {y : Option (α × rz_A)} (h : p) (k : Ret y r P) : Ret (rz_gp p y) r P := by rw [gpp h]; exact k
theorem Ret.bs {r' : α} {A' : rz_A} {k : α → rz_A → Option (β × rz_A)} {y : Option (α × rz_A)} (h : y = some (r', A')) (kk : Ret (k r' A') b P) : Ret (rz_b y k) b P := by rw [h]; exact kk
end RET
/-! a refused call -/
def St.no (S : St) (i : Nat) : Int × St := (-(i : Int) - 1, (S.1, (fun c => if c = 51 then (fun _ => (up S.ref i (S.ref i + 1))) else S.2 c)))
def St.far (S : St) (i : Nat) : Int × St := (1000000001 + (i : Int), (S.no i).2)
theorem OK.no {t : Nat} {S : St} (h : OK t S) (i : Nat) : OK (t + 1) (S.no i).2 := by
  have key : ∀ j, 0 ≤ up S.ref i (S.ref i + 1) j ∧ up S.ref i (S.ref i + 1) j ≤ ((t + 1 : Nat) : Int) := fun j => by
    have h1 := h.ref j
    have h2 := h.ref i
    unfold up
    split <;> omega
  exact (OK.of ⟨(OK.now h :), (OK.limit h :), (OK.nP h :), (OK.nZ h :), (OK.nH h :), (OK.nF h :), (OK.nU h :), (OK.nS h :), (OK.nB h :), (OK.nT h :), (OK.nR h :), (OK.zero h :), (OK.low h :), (OK.beside h :), (OK.stN h :), (OK.stF h :), (OK.bN h :), (OK.b h :), (OK.bs h :), (OK.z h :), (OK.h h :), (OK.f h :), (OK.u h :), (OK.s h :), (OK.sv h :), (OK.p h :), (OK.tB h :), (OK.rB h :), (key)⟩)
theorem RC.no {A : rz_A} {S : St} (h : RC A S) {i : Nat} (hi : i < 6) : RC (aI A 1 i (A.1 1 i + 1)) (S.no i).2 := by
  have key : ∀ j, j < 6 → (if j = i then A.1 1 i + 1 else A.1 1 j) = up S.ref i (S.ref i + 1) j := fun j hj => by
    have h1 := h.ref i hi
    have h2 := h.ref j hj
    unfold up
    split <;> omega
  exact (RC.of ⟨(RC.now h :), (RC.limit h :), (RC.nP h :), (RC.nZ h :), (RC.nH h :), (RC.nF h :), (RC.nU h :), (RC.nS h :), (RC.nB h :), (RC.nT h :), (RC.nR h :), (RC.zero h :), (RC.low h :), (RC.beside h :), (RC.stN h :), (RC.stF0 h :), (RC.stF1 h :), (RC.stF2 h :), (RC.stF3 h :), (RC.stF4 h :), (RC.stF5 h :), (RC.bN0 h :), (RC.bN1 h :), (RC.bN2 h :), (RC.bN3 h :), (RC.bN4 h :), (RC.bN5 h :), (RC.bH0 h :), (RC.bH1 h :), (RC.bH2 h :), (RC.bH3 h :), (RC.bH4 h :), (RC.bH5 h :), (RC.bF0 h :), (RC.bF1 h :), (RC.bF2 h :), (RC.bF3 h :), (RC.bF4 h :), (RC.bF5 h :), (RC.zP h :), (RC.zZ h :), (RC.zF h :), (RC.zK h :), (RC.hP h :), (RC.hT h :), (RC.hK h :), (RC.hR h :), (RC.hKn h :), (RC.hS h :), (RC.hSm h :), (RC.fP h :), (RC.fT h :), (RC.fN h :), (RC.fW h :), (RC.fKn h :), (RC.fS h :), (RC.uP h :), (RC.uK h :), (RC.uF h :), (RC.uT h :), (RC.uM h :), (RC.uKn h :), (RC.sP h :), (RC.sD h :), (RC.sT h :), (RC.sN h :), (RC.st h :), (RC.pP h :), (RC.pT h :), (RC.pF h :), (RC.tB h :), (RC.rB h :), (key), (RC.ordR h :), (RC.ordS h :), (RC.ordA h :)⟩)
theorem RM.no {A : rz_A} {S : St} (h : RM A S) {i : Nat} (hi : i < 6) : RM (aI A 132 (i + 1) (A.1 132 (i + 1) + 1)) (S.no i).2 := by
  have key : ∀ j, j < 6 → (if j + 1 = i + 1 then A.1 132 (i + 1) + 1 else A.1 132 (j + 1)) = up S.ref i (S.ref i + 1) j := fun j hj => by
    have h1 := h.ref i hi
    have h2 := h.ref j hj
    unfold up
    split <;> split <;> omega
  exact (RM.of ⟨(RM.now h :), (RM.nP h :), (RM.nZ h :), (RM.nH h :), (RM.nF h :), (RM.nS h :), (RM.nU h :), (RM.nB h :), (RM.nT h :), (RM.nR h :), (RM.limit h :), (RM.zero h :), (RM.low h :), (RM.beside h :), (RM.stN h :), (RM.bN h :), (RM.stF h :), (RM.bH h :), (RM.bF h :), (RM.zP h :), (RM.zZ h :), (RM.zF h :), (RM.zK h :), (RM.hP h :), (RM.hT h :), (RM.hK h :), (RM.hR h :), (RM.hKn h :), (RM.hS h :), (RM.fP h :), (RM.fT h :), (RM.fN h :), (RM.fW h :), (RM.fKn h :), (RM.fS h :), (RM.uP h :), (RM.uK h :), (RM.uF h :), (RM.uT h :), (RM.uM h :), (RM.uKn h :), (RM.sP h :), (RM.sD h :), (RM.sT h :), (RM.sN h :), (RM.st h :), (RM.pP h :), (RM.pT h :), (RM.pF h :), (RM.tB h :), (RM.rB h :), (key)⟩)
def rc_rows : List Nat := [1, 3, 4, 5, 6, 8, 9, 10, 11, 12, 13, 14, 15, 16, 17, 19, 20, 21, 22, 23, 24, 25, 27, 28, 29, 30, 31, 32, 34, 35, 36, 37, 38, 39, 41, 44, 45, 46, 47, 48, 66, 70, 71, 73, 74, 76, 77, 79, 80, 82, 83, 85, 86, 88, 89, 90]
def rc_slots : List (Nat × Nat) := [(0, 14), (0, 15), (0, 16), (2, 0), (2, 1), (18, 0), (18, 1), (26, 0), (33, 0), (40, 1), (43, 0), (64, 4), (69, 0), (72, 0), (75, 0), (78, 0), (81, 0), (84, 0)]
def rc_okf (cs : List Nat) (fs : List (Nat × Nat)) : Bool := rc_rows.all (fun c => decide (c ∉ cs) && fs.all (fun x => decide (x.1 ≠ c))) && rc_slots.all (fun x => decide (x.1 ∉ cs) && decide (x ∉ fs))
theorem rc_fr {A A' : rz_A} {S : St} {cs : List Nat} {fs : List (Nat × Nat)} (h : RC A S) (fr : Fr cs fs A A') (hc : rc_okf cs fs = true) : RC A' S := by
  unfold rc_okf at hc
  simp only [Bool.and_eq_true] at hc
  have kr : ∀ c, c ∈ rc_rows → A'.1 c = A.1 c := fun c hm => by
    have g := List.all_eq_true.mp hc.1 c hm
    simp only [Bool.and_eq_true, decide_eq_true_eq] at g
    refine funext fun k => (fr c k g.1 (fun hx => ?_)).1
    have g2 := List.all_eq_true.mp g.2 (c, k) hx
    simp at g2
  have ks : ∀ c k, (c, k) ∈ rc_slots → A'.1 c k = A.1 c k := fun c k hm => by
    have g := List.all_eq_true.mp hc.2 (c, k) hm
    simp only [Bool.and_eq_true, decide_eq_true_eq] at g
    exact (fr c k g.1 g.2).1
  exact RC.of ⟨(ks 0 16 (by decide)).trans (RC.now h), (ks 0 15 (by decide)).trans (RC.limit h), (ks 2 0 (by decide)).trans (RC.nP h), (ks 2 1 (by decide)).trans (RC.nZ h), (ks 18 0 (by decide)).trans (RC.nH h), (ks 26 0 (by decide)).trans (RC.nF h), (ks 33 0 (by decide)).trans (RC.nU h), (ks 43 0 (by decide)).trans (RC.nS h), (ks 0 14 (by decide)).trans (RC.nB h), (ks 40 1 (by decide)).trans (RC.nT h), (ks 64 4 (by decide)).trans (RC.nR h), (kr 3 (by decide)).trans (RC.zero h), (kr 4 (by decide)).trans (RC.low h), (kr 5 (by decide)).trans (RC.beside h), (kr 6 (by decide)).trans (RC.stN h), (kr 8 (by decide)).trans (RC.stF0 h), (kr 9 (by decide)).trans (RC.stF1 h), (kr 10 (by decide)).trans (RC.stF2 h), (kr 11 (by decide)).trans (RC.stF3 h), (kr 12 (by decide)).trans (RC.stF4 h), (kr 13 (by decide)).trans (RC.stF5 h), (ks 69 0 (by decide)).trans (RC.bN0 h), (ks 72 0 (by decide)).trans (RC.bN1 h), (ks 75 0 (by decide)).trans (RC.bN2 h), (ks 78 0 (by decide)).trans (RC.bN3 h), (ks 81 0 (by decide)).trans (RC.bN4 h), (ks 84 0 (by decide)).trans (RC.bN5 h), (kr 70 (by decide)).trans (RC.bH0 h), (kr 73 (by decide)).trans (RC.bH1 h), (kr 76 (by decide)).trans (RC.bH2 h), (kr 79 (by decide)).trans (RC.bH3 h), (kr 82 (by decide)).trans (RC.bH4 h), (kr 85 (by decide)).trans (RC.bH5 h), (kr 71 (by decide)).trans (RC.bF0 h), (kr 74 (by decide)).trans (RC.bF1 h), (kr 77 (by decide)).trans (RC.bF2 h), (kr 80 (by decide)).trans (RC.bF3 h), (kr 83 (by decide)).trans (RC.bF4 h), (kr 86 (by decide)).trans (RC.bF5 h), (kr 14 (by decide)).trans (RC.zP h), (kr 15 (by decide)).trans (RC.zZ h), (kr 16 (by decide)).trans (RC.zF h), (kr 17 (by decide)).trans (RC.zK h), (kr 19 (by decide)).trans (RC.hP h), (kr 20 (by decide)).trans (RC.hT h), (kr 21 (by decide)).trans (RC.hK h), (kr 22 (by decide)).trans (RC.hR h), (kr 23 (by decide)).trans (RC.hKn h), (by rw [kr 24 (by decide)]; exact RC.hS h), (ks 18 1 (by decide)).trans (RC.hSm h), (kr 27 (by decide)).trans (RC.fP h), (kr 28 (by decide)).trans (RC.fT h), (kr 29 (by decide)).trans (RC.fN h), (kr 30 (by decide)).trans (RC.fW h), (kr 31 (by decide)).trans (RC.fKn h), (by rw [kr 32 (by decide)]; exact RC.fS h), (kr 34 (by decide)).trans (RC.uP h), (kr 35 (by decide)).trans (RC.uK h), (kr 36 (by decide)).trans (RC.uF h), (kr 37 (by decide)).trans (RC.uT h), (kr 38 (by decide)).trans (RC.uM h), (kr 39 (by decide)).trans (RC.uKn h), (kr 44 (by decide)).trans (RC.sP h), (kr 45 (by decide)).trans (RC.sD h), (kr 46 (by decide)).trans (RC.sT h), (kr 47 (by decide)).trans (RC.sN h), (by rw [kr 48 (by decide)]; exact RC.st h), (kr 88 (by decide)).trans (RC.pP h), (kr 89 (by decide)).trans (RC.pT h), (kr 90 (by decide)).trans (RC.pF h), (kr 41 (by decide)).trans (RC.tB h), (kr 66 (by decide)).trans (RC.rB h), (by rw [kr 1 (by decide)]; exact RC.ref h), (by rw [kr 25 (by decide)]; exact RC.ordR h), (by rw [kr 25 (by decide)]; exact RC.ordS h), (by rw [kr 25 (by decide)]; exact RC.ordA h)⟩
def rm_rows : List Nat := [92, 93, 94, 95, 96, 97, 98, 99, 100, 101, 102, 103, 104, 105, 106, 107, 108, 109, 110, 111, 112, 113, 114, 115, 116, 117, 118, 119, 120, 121, 122, 123, 124, 125, 126, 127, 128, 129, 130, 131, 132]
def rm_slots : List (Nat × Nat) := [(91, 0), (91, 1), (91, 2), (91, 3), (91, 4), (91, 5), (91, 6), (91, 7), (91, 8), (91, 9), (91, 10)]
def rm_okf (cs : List Nat) (fs : List (Nat × Nat)) : Bool := rm_rows.all (fun c => decide (c ∉ cs) && fs.all (fun x => decide (x.1 ≠ c))) && rm_slots.all (fun x => decide (x.1 ∉ cs) && decide (x ∉ fs))
theorem rm_fr {A A' : rz_A} {S : St} {cs : List Nat} {fs : List (Nat × Nat)} (h : RM A S) (fr : Fr cs fs A A') (hc : rm_okf cs fs = true) : RM A' S := by
  unfold rm_okf at hc
  simp only [Bool.and_eq_true] at hc
  have kr : ∀ c, c ∈ rm_rows → A'.1 c = A.1 c := fun c hm => by
    have g := List.all_eq_true.mp hc.1 c hm
    simp only [Bool.and_eq_true, decide_eq_true_eq] at g
    refine funext fun k => (fr c k g.1 (fun hx => ?_)).1
    have g2 := List.all_eq_true.mp g.2 (c, k) hx
    simp at g2
  have ks : ∀ c k, (c, k) ∈ rm_slots → A'.1 c k = A.1 c k := fun c k hm => by
    have g := List.all_eq_true.mp hc.2 (c, k) hm
    simp only [Bool.and_eq_true, decide_eq_true_eq] at g
    exact (fr c k g.1 g.2).1
  exact RM.of ⟨(ks 91 0 (by decide)).trans (RM.now h), (ks 91 1 (by decide)).trans (RM.nP h), (ks 91 2 (by decide)).trans (RM.nZ h), (ks 91 3 (by decide)).trans (RM.nH h), (ks 91 4 (by decide)).trans (RM.nF h), (ks 91 5 (by decide)).trans (RM.nS h), (ks 91 6 (by decide)).trans (RM.nU h), (ks 91 7 (by decide)).trans (RM.nB h), (ks 91 8 (by decide)).trans (RM.nT h), (ks 91 9 (by decide)).trans (RM.nR h), (ks 91 10 (by decide)).trans (RM.limit h), (kr 92 (by decide)).trans (RM.zero h), (kr 93 (by decide)).trans (RM.low h), (kr 94 (by decide)).trans (RM.beside h), (kr 95 (by decide)).trans (RM.stN h), (kr 96 (by decide)).trans (RM.bN h), (by rw [kr 97 (by decide)]; exact RM.stF h), (by rw [kr 98 (by decide)]; exact RM.bH h), (by rw [kr 99 (by decide)]; exact RM.bF h), (kr 100 (by decide)).trans (RM.zP h), (kr 101 (by decide)).trans (RM.zZ h), (kr 102 (by decide)).trans (RM.zF h), (kr 103 (by decide)).trans (RM.zK h), (kr 104 (by decide)).trans (RM.hP h), (kr 105 (by decide)).trans (RM.hT h), (kr 106 (by decide)).trans (RM.hK h), (kr 107 (by decide)).trans (RM.hR h), (kr 108 (by decide)).trans (RM.hKn h), (kr 109 (by decide)).trans (RM.hS h), (kr 110 (by decide)).trans (RM.fP h), (kr 111 (by decide)).trans (RM.fT h), (kr 112 (by decide)).trans (RM.fN h), (kr 113 (by decide)).trans (RM.fW h), (kr 114 (by decide)).trans (RM.fKn h), (kr 115 (by decide)).trans (RM.fS h), (kr 116 (by decide)).trans (RM.uP h), (kr 117 (by decide)).trans (RM.uK h), (kr 118 (by decide)).trans (RM.uF h), (kr 119 (by decide)).trans (RM.uT h), (kr 120 (by decide)).trans (RM.uM h), (kr 121 (by decide)).trans (RM.uKn h), (kr 122 (by decide)).trans (RM.sP h), (kr 123 (by decide)).trans (RM.sD h), (kr 124 (by decide)).trans (RM.sT h), (kr 125 (by decide)).trans (RM.sN h), (by rw [kr 126 (by decide)]; exact RM.st h), (kr 127 (by decide)).trans (RM.pP h), (kr 128 (by decide)).trans (RM.pT h), (kr 129 (by decide)).trans (RM.pF h), (kr 130 (by decide)).trans (RM.tB h), (kr 131 (by decide)).trans (RM.rB h), (by rw [kr 132 (by decide)]; exact RM.ref h)⟩
