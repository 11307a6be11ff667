/-! THE STATE in whole numbers: what both sides hold. Class and reference are each held against functions of it. -/
structure St where
  now : Int
  limit : Int
  nP : Nat
  nZ : Nat
  nH : Nat
  nF : Nat
  nU : Nat
  nS : Nat
  nB : Nat
  nT : Nat
  nR : Nat
  zero : Nat → Int
  low : Nat → Int
  beside : Nat → Int
  stN : Nat → Int
  stF : Nat → Nat → Int
  bN : Nat → Int
  bH : Nat → Nat → Int
  bF : Nat → Nat → Int
  zP : Nat → Int
  zZ : Nat → Int
  zF : Nat → Int
  zK : Nat → Int
  hP : Nat → Int
  hT : Nat → Int
  hK : Nat → Int
  hR : Nat → Int
  hKn : Nat → Int
  hS : Nat → Int
  fP : Nat → Int
  fT : Nat → Int
  fN : Nat → Int
  fW : Nat → Int
  fKn : Nat → Int
  fS : Nat → Int
  uP : Nat → Int
  uK : Nat → Int
  uF : Nat → Int
  uT : Nat → Int
  uM : Nat → Int
  uKn : Nat → Int
  sP : Nat → Int
  sD : Nat → Int
  sT : Nat → Int
  sN : Nat → Int
  st : Nat → Nat → Int
  pP : Nat → Int
  pT : Nat → Int
  pF : Nat → Int
  tB : Nat → Int
  rB : Nat → Int
  ref : Nat → Int
abbrev up (f : Nat → Int) (k : Nat) (v : Int) : Nat → Int := fun b => if b = k then v else f b
abbrev up2 (f : Nat → Nat → Int) (p k : Nat) (v : Int) : Nat → Nat → Int := fun a => if a = p then up (f p) k v else f a
theorem up_same {f : Nat → Int} {k : Nat} {v : Int} : up f k v k = v := if_pos rfl
theorem up_ne {f : Nat → Int} {k j : Nat} {v : Int} (h : j ≠ k) : up f k v j = f j := if_neg h
/-- how many of the first n hold -/
def cntN (P : Nat → Bool) : Nat → Nat
  | 0 => 0
  | n + 1 => cntN P n + if P n then 1 else 0
theorem cntN_le (P : Nat → Bool) : ∀ n, cntN P n ≤ n
  | 0 => Nat.le_refl 0
  | n + 1 => by have := cntN_le P n; unfold cntN; split <;> omega
theorem cntN_congr {P Q : Nat → Bool} : ∀ {n : Nat}, (∀ i, i < n → P i = Q i) → cntN P n = cntN Q n
  | 0, _ => rfl
  | n + 1, h => by unfold cntN; rw [cntN_congr (n := n) (fun i hi => h i (by omega)), h n (by omega)]
/-! a TEXT's types: true for what holds or not, false for a number -/
def tyStep (x : Int) (s : List Bool) : Option (List Bool) :=
  if -13 ≤ x then some (false :: s) else
  if x = -20 then (match s with
    | true :: s => some (true :: s)
    | _ => none) else
  if x = -21 ∨ x = -22 then (match s with
    | true :: true :: s => some (true :: s)
    | _ => none) else
  if x = -23 ∨ x = -24 ∨ x = -25 then (match s with
    | false :: false :: s => some (true :: s)
    | _ => none) else
  if x = -26 ∨ x = -27 ∨ x = -28 then (match s with
    | false :: false :: s => some (false :: s)
    | _ => none) else none
def tyRun : List Int → List Bool → Option (List Bool)
  | [], s => some s
  | x :: l, s => match tyStep x s with
    | none => none
    | some s' => tyRun l s'
def progOf (f : Nat → Int) (n : Int) : List Int := (List.range n.toNat).map f
/-- the bounds of a state, after t calls -/
structure OK (t : Nat) (S : St) : Prop where
  now : 0 ≤ S.now ∧ S.now ≤ 9999
  limit : 0 ≤ S.limit ∧ S.limit ≤ 100
  nP : S.nP ≤ 6
  nZ : S.nZ ≤ 60
  nH : S.nH ≤ 300
  nF : S.nF ≤ 60
  nU : S.nU ≤ 40
  nS : S.nS ≤ 20
  nB : S.nB ≤ 40
  nT : S.nT ≤ 60
  nR : S.nR ≤ 12
  zero : ∀ p, p < S.nP → -999 ≤ S.zero p ∧ S.zero p ≤ 999
  low : ∀ p, p < S.nP → -2000 ≤ S.low p ∧ S.low p ≤ 9999
  beside : ∀ p, p < S.nP → -1 ≤ S.beside p ∧ S.beside p < S.nP
  stN : ∀ p, p < 6 → 0 ≤ S.stN p ∧ S.stN p ≤ 8
  stF : ∀ p i : Nat, p < 6 → (i : Int) < S.stN p → 0 ≤ S.stF p i ∧ S.stF p i ≤ 9999
  bN : ∀ p, p < 6 → 0 ≤ S.bN p ∧ S.bN p ≤ 8
  b : ∀ p i : Nat, p < 6 → (i : Int) < S.bN p → (-9999 ≤ S.bH p i ∧ S.bH p i ≤ 99999) ∧ 0 ≤ S.bF p i ∧ S.bF p i ≤ 99999
  bs : ∀ p i : Nat, p < 6 → (i : Int) + 1 < S.bN p → S.bH p i < S.bH p (i + 1) ∧ S.bF p i ≤ S.bF p (i + 1)
  z : ∀ i, i < S.nZ → (0 ≤ S.zP i ∧ S.zP i < S.nP) ∧ (-999 ≤ S.zZ i ∧ S.zZ i ≤ 999) ∧ (0 ≤ S.zF i ∧ S.zF i ≤ 9999) ∧ 0 ≤ S.zK i ∧ S.zK i ≤ 9999
  h : ∀ i, i < S.nH → (0 ≤ S.hP i ∧ S.hP i < S.nP) ∧ (0 ≤ S.hT i ∧ S.hT i ≤ 9999) ∧ (0 ≤ S.hK i ∧ S.hK i ≤ 1) ∧ (-1 ≤ S.hR i ∧ S.hR i ≤ 9999) ∧ (0 ≤ S.hKn i ∧ S.hKn i ≤ 9999) ∧ (-1 ≤ S.hS i ∧ S.hS i ≤ 9999) ∧ (0 ≤ S.hS i → 0 ≤ S.hR i)
  f : ∀ i, i < S.nF → (0 ≤ S.fP i ∧ S.fP i < S.nP) ∧ (0 ≤ S.fT i ∧ S.fT i ≤ 9999) ∧ (0 ≤ S.fN i ∧ S.fN i ≤ 99999) ∧ (0 ≤ S.fW i ∧ S.fW i ≤ 99) ∧ (0 ≤ S.fKn i ∧ S.fKn i ≤ 9999) ∧ -1 ≤ S.fS i ∧ S.fS i ≤ 9999
  u : ∀ i, i < S.nU → (0 ≤ S.uP i ∧ S.uP i < S.nP) ∧ (0 ≤ S.uK i ∧ S.uK i ≤ 1) ∧ (0 ≤ S.uF i ∧ S.uF i ≤ S.uT i ∧ S.uT i ≤ 9999) ∧ (0 ≤ S.uM i ∧ S.uM i ≤ 99) ∧ 0 ≤ S.uKn i ∧ S.uKn i ≤ 9999
  s : ∀ i, i < S.nS → (0 ≤ S.sP i ∧ S.sP i ≤ 2) ∧ (0 ≤ S.sD i ∧ S.sD i ≤ 200) ∧ (0 ≤ S.sT i ∧ S.sT i ≤ 9999) ∧ (0 ≤ S.sN i ∧ S.sN i ≤ 60) ∧ tyRun (progOf (S.st i) (S.sN i)) [] = some [true]
  sv : ∀ i j : Nat, i < S.nS → (j : Int) < S.sN i → -28 ≤ S.st i j ∧ S.st i j ≤ 99999
  p : ∀ i, i < S.nB → (0 ≤ S.pP i ∧ S.pP i < S.nP) ∧ (0 ≤ S.pT i ∧ S.pT i ≤ 9999) ∧ 0 ≤ S.pF i ∧ S.pF i ≤ 99999999
  tB : ∀ i, i < S.nT → 0 ≤ S.tB i ∧ S.tB i ≤ 255
  rB : ∀ i, i < S.nR → -128 ≤ S.rB i ∧ S.rB i ≤ 127
  ref : ∀ i, 0 ≤ S.ref i ∧ S.ref i ≤ t
theorem OK.mono {t : Nat} {S : St} (h : OK t S) : OK (t + 1) S := { h with ref := fun i => ⟨(h.ref i).1, by have := (h.ref i).2; omega⟩ }
/-- class: the rows hold the state -/
structure RC (A : rz_A) (S : St) : Prop where
  now : A.1 0 16 = S.now
  limit : A.1 0 15 = S.limit
  nP : A.1 2 0 = S.nP
  nZ : A.1 2 1 = S.nZ
  nH : A.1 18 0 = S.nH
  nF : A.1 26 0 = S.nF
  nU : A.1 33 0 = S.nU
  nS : A.1 43 0 = S.nS
  nB : A.1 0 14 = S.nB
  nT : A.1 40 1 = S.nT
  nR : A.1 64 4 = S.nR
  zero : A.1 3 = S.zero
  low : A.1 4 = S.low
  beside : A.1 5 = S.beside
  stN : A.1 6 = S.stN
  stF0 : A.1 8 = S.stF 0
  stF1 : A.1 9 = S.stF 1
  stF2 : A.1 10 = S.stF 2
  stF3 : A.1 11 = S.stF 3
  stF4 : A.1 12 = S.stF 4
  stF5 : A.1 13 = S.stF 5
  bN0 : A.1 69 0 = S.bN 0
  bN1 : A.1 72 0 = S.bN 1
  bN2 : A.1 75 0 = S.bN 2
  bN3 : A.1 78 0 = S.bN 3
  bN4 : A.1 81 0 = S.bN 4
  bN5 : A.1 84 0 = S.bN 5
  bH0 : A.1 70 = S.bH 0
  bH1 : A.1 73 = S.bH 1
  bH2 : A.1 76 = S.bH 2
  bH3 : A.1 79 = S.bH 3
  bH4 : A.1 82 = S.bH 4
  bH5 : A.1 85 = S.bH 5
  bF0 : A.1 71 = S.bF 0
  bF1 : A.1 74 = S.bF 1
  bF2 : A.1 77 = S.bF 2
  bF3 : A.1 80 = S.bF 3
  bF4 : A.1 83 = S.bF 4
  bF5 : A.1 86 = S.bF 5
  zP : A.1 14 = S.zP
  zZ : A.1 15 = S.zZ
  zF : A.1 16 = S.zF
  zK : A.1 17 = S.zK
  hP : A.1 19 = S.hP
  hT : A.1 20 = S.hT
  hK : A.1 21 = S.hK
  hR : A.1 22 = S.hR
  hKn : A.1 23 = S.hKn
  hS : ∀ i, i < S.nH → A.1 24 i = if S.hS i < 0 then 2147483647 else S.hS i
  hSm : A.1 18 1 = cntN (fun i => decide (0 ≤ S.hS i)) S.nH
  fP : A.1 27 = S.fP
  fT : A.1 28 = S.fT
  fN : A.1 29 = S.fN
  fW : A.1 30 = S.fW
  fKn : A.1 31 = S.fKn
  fS : ∀ i, i < S.nF → A.1 32 i = if S.fS i < 0 then 2147483647 else S.fS i
  uP : A.1 34 = S.uP
  uK : A.1 35 = S.uK
  uF : A.1 36 = S.uF
  uT : A.1 37 = S.uT
  uM : A.1 38 = S.uM
  uKn : A.1 39 = S.uKn
  sP : A.1 44 = S.sP
  sD : A.1 45 = S.sD
  sT : A.1 46 = S.sT
  sN : A.1 47 = S.sN
  st : ∀ s i : Nat, s < S.nS → (i : Int) < S.sN s → A.1 48 (60 * s + i) = S.st s i
  pP : A.1 88 = S.pP
  pT : A.1 89 = S.pT
  pF : A.1 90 = S.pF
  tB : A.1 41 = S.tB
  rB : A.1 66 = S.rB
  ref : ∀ i, i < 6 → A.1 1 i = S.ref i
  /- the order of the heights -/
  ordR : ∀ i, i < S.nH → 0 ≤ A.1 25 i ∧ A.1 25 i < S.nH
  ordS : ∀ i j, i < j → j < S.nH → S.hP (A.1 25 i).toNat * 16384 + S.hT (A.1 25 i).toNat < S.hP (A.1 25 j).toNat * 16384 + S.hT (A.1 25 j).toNat ∨ (S.hP (A.1 25 i).toNat * 16384 + S.hT (A.1 25 i).toNat = S.hP (A.1 25 j).toNat * 16384 + S.hT (A.1 25 j).toNat ∧ A.1 25 i < A.1 25 j)
  ordA : ∀ h, h < S.nH → ∃ i, i < S.nH ∧ A.1 25 i = (h : Int)
/-- the reference's own words for the steps of a TEXT -/
def mst (x : Int) : Int :=
  if 0 ≤ x then x else
  if x = -1 then -4 else if x = -2 then -13 else if x = -3 then -18 else if x = -4 then -11 else if x = -5 then -1 else if x = -6 then -2 else if x = -7 then -7 else if x = -8 then -8 else if x = -9 then -14 else if x = -10 then -6 else if x = -11 then -23 else if x = -12 then -24 else if x = -13 then -9 else
  if x = -20 then -42 else if x = -21 then -41 else if x = -22 then -40 else if x = -23 then -43 else if x = -24 then -44 else if x = -25 then -45 else if x = -26 then -46 else if x = -27 then -47 else -48
/-- reference: the rows hold the state -/
structure RM (A : rz_A) (S : St) : Prop where
  now : A.1 91 0 = S.now
  nP : A.1 91 1 = S.nP
  nZ : A.1 91 2 = S.nZ
  nH : A.1 91 3 = S.nH
  nF : A.1 91 4 = S.nF
  nS : A.1 91 5 = S.nS
  nU : A.1 91 6 = S.nU
  nB : A.1 91 7 = S.nB
  nT : A.1 91 8 = S.nT
  nR : A.1 91 9 = S.nR
  limit : A.1 91 10 = S.limit
  zero : A.1 92 = S.zero
  low : A.1 93 = S.low
  beside : A.1 94 = S.beside
  stN : A.1 95 = S.stN
  bN : A.1 96 = S.bN
  stF : ∀ p i, p < 6 → i < 8 → A.1 97 (8 * p + i) = S.stF p i
  bH : ∀ p i, p < 6 → i < 8 → A.1 98 (8 * p + i) = S.bH p i
  bF : ∀ p i, p < 6 → i < 8 → A.1 99 (8 * p + i) = S.bF p i
  zP : A.1 100 = S.zP
  zZ : A.1 101 = S.zZ
  zF : A.1 102 = S.zF
  zK : A.1 103 = S.zK
  hP : A.1 104 = S.hP
  hT : A.1 105 = S.hT
  hK : A.1 106 = S.hK
  hR : A.1 107 = S.hR
  hKn : A.1 108 = S.hKn
  hS : A.1 109 = S.hS
  fP : A.1 110 = S.fP
  fT : A.1 111 = S.fT
  fN : A.1 112 = S.fN
  fW : A.1 113 = S.fW
  fKn : A.1 114 = S.fKn
  fS : A.1 115 = S.fS
  uP : A.1 116 = S.uP
  uK : A.1 117 = S.uK
  uF : A.1 118 = S.uF
  uT : A.1 119 = S.uT
  uM : A.1 120 = S.uM
  uKn : A.1 121 = S.uKn
  sP : A.1 122 = S.sP
  sD : A.1 123 = S.sD
  sT : A.1 124 = S.sT
  sN : A.1 125 = S.sN
  st : ∀ s i : Nat, s < S.nS → (i : Int) < S.sN s → A.1 126 (130 * s + i) = mst (S.st s i)
  pP : A.1 127 = S.pP
  pT : A.1 128 = S.pT
  pF : A.1 129 = S.pF
  tB : A.1 130 = S.tB
  rB : A.1 131 = S.rB
  ref : ∀ i, i < 6 → A.1 132 (i + 1) = S.ref i
/-! a run that comes to an answer and a memory -/
def Ret {α : Type} (x : Option (α × rz_A)) (r : α) (P : rz_A → Prop) : Prop := ∃ A1, x = some (r, A1) ∧ P A1
section RET
variable {α β : Type} {x : Int} {n : Nat} {o : Option α} {r : α} {A : rz_A} {P Q : rz_A → Prop} {k : α → rz_A → Option (β × rz_A)} {b : β}
theorem Ret.mk (h : P A) : Ret (some (r, A)) r P := ⟨A, rfl, h⟩
theorem Ret.of {y : Option (α × rz_A)} (h : Ret y r P) (hq : ∀ A1, P A1 → Q A1) : Ret y r Q := ⟨h.choose, h.choose_spec.1, hq _ h.choose_spec.2⟩
theorem Ret.eq {y : Option (α × rz_A)} {r' : α} (h : Ret y r P) (e : r = r') : Ret y r' P := e ▸ h
theorem Ret.bind {y : Option (α × rz_A)} {Q : rz_A → Prop} (h : Ret y r Q) (hk : ∀ A1, y = some (r, A1) → Q A1 → Ret (k r A1) b P) : Ret (rz_b y k) b P := by
  obtain ⟨A1, e, q⟩ := h
  obtain ⟨A2, e2, p⟩ := hk A1 e q
  refine ⟨A2, ?_, p⟩
  rw [e]
  exact e2
theorem rz_b_some : rz_b (some (r, A)) k = k r A := rfl
theorem g32p (h : r32 x) : rz_g32 x o = o := if_pos h
theorem g64p (h : r64 x) : rz_g64 x o = o := if_pos h
theorem gxp (h0 : 0 ≤ x) (h1 : x < (n : Int)) : rz_gx x n o = o := if_pos ⟨h0, h1⟩
theorem gnp (h : ¬ x = 0) : rz_gn x o = o := if_neg h
theorem gzp (h : x = 0 ∨ x = 1) : rz_gz x o = o := if_pos h
theorem gpp {p : Prop} [Decidable p] (h : p) : rz_gp p o = o := if_pos h
theorem Ret.ite {c : Prop} [Decidable c] {x y : Option (α × rz_A)} (h1 : c → Ret x r P) (h2 : ¬ c → Ret y r P) : Ret (if c then x else y) r P := by
  by_cases hc : c
  · rw [if_pos hc]; exact h1 hc
  · rw [if_neg hc]; exact h2 hc
theorem Ret.g32 {y : Option (α × rz_A)} (h : r32 x) (k : Ret y r P) : Ret (rz_g32 x y) r P := by rw [g32p h]; exact k
theorem Ret.g64 {y : Option (α × rz_A)} (h : r64 x) (k : Ret y r P) : Ret (rz_g64 x y) r P := by rw [g64p h]; exact k
theorem Ret.gx {y : Option (α × rz_A)} (h0 : 0 ≤ x) (h1 : x < (n : Int)) (k : Ret y r P) : Ret (rz_gx x n y) r P := by rw [gxp h0 h1]; exact k
theorem Ret.gn {y : Option (α × rz_A)} (h : ¬ x = 0) (k : Ret y r P) : Ret (rz_gn x y) r P := by rw [gnp h]; exact k
theorem Ret.gz {y : Option (α × rz_A)} (h : x = 0 ∨ x = 1) (k : Ret y r P) : Ret (rz_gz x y) r P := by rw [gzp h]; exact k
theorem Ret.gp {p : Prop} [Decidable p] {y : Option (α × rz_A)} (h : p) (k : Ret y r P) : Ret (rz_gp p y) r P := by rw [gpp h]; exact k
theorem Ret.bs {r' : α} {A' : rz_A} {k : α → rz_A → Option (β × rz_A)} {y : Option (α × rz_A)} (h : y = some (r', A')) (kk : Ret (k r' A') b P) : Ret (rz_b y k) b P := by rw [h]; exact kk
end RET
/-- down the branches of a run -/
macro "wk" : tactic => `(tactic| repeat' (first | refine Ret.g32 (by omega) ?_ | refine Ret.gx (by omega) (by omega) ?_ | refine Ret.g64 (by omega) ?_ | refine Ret.gn (by omega) ?_ | refine Ret.ite (fun _ => ?_) (fun _ => ?_)))
/-- the specification's own branches -/
macro "sd" : tactic => `(tactic| simp (disch := omega) only [if_pos, if_neg])
/-- guards fall by the bounds that stand -/
macro "gd" : tactic => `(tactic| simp (disch := omega) only [g32p, g64p, gxp, gnp, gzp, rz_b_some, Int.toNat_natCast])
macro "gdi" : tactic => `(tactic| simp (disch := omega) only [g32p, g64p, gxp, gnp, gzp, rz_b_some, Int.toNat_natCast, if_pos, if_neg])
/-! a refused call -/
def St.no (S : St) (i : Nat) : Int × St := (-(i : Int) - 1, { S with ref := up S.ref i (S.ref i + 1) })
def St.far (S : St) (i : Nat) : Int × St := (1000000001 + (i : Int), (S.no i).2)
theorem OK.no {t : Nat} {S : St} (h : OK t S) (i : Nat) : OK (t + 1) (S.no i).2 := by
  have key : ∀ j, 0 ≤ up S.ref i (S.ref i + 1) j ∧ up S.ref i (S.ref i + 1) j ≤ ((t + 1 : Nat) : Int) := fun j => by
    have h1 := h.ref j
    have h2 := h.ref i
    unfold up
    split <;> omega
  exact { h with ref := key }
theorem RC.no {A : rz_A} {S : St} (h : RC A S) {i : Nat} (hi : i < 6) : RC (aI A 1 i (A.1 1 i + 1)) (S.no i).2 := by
  have key : ∀ j, j < 6 → (if j = i then A.1 1 i + 1 else A.1 1 j) = up S.ref i (S.ref i + 1) j := fun j hj => by
    have h1 := h.ref i hi
    have h2 := h.ref j hj
    unfold up
    split <;> omega
  exact { h with ref := key }
theorem RM.no {A : rz_A} {S : St} (h : RM A S) {i : Nat} (hi : i < 6) : RM (aI A 132 (i + 1) (A.1 132 (i + 1) + 1)) (S.no i).2 := by
  have key : ∀ j, j < 6 → (if j + 1 = i + 1 then A.1 132 (i + 1) + 1 else A.1 132 (j + 1)) = up S.ref i (S.ref i + 1) j := fun j hj => by
    have h1 := h.ref i hi
    have h2 := h.ref j hj
    unfold up
    split <;> split <;> omega
  exact { h with ref := key }
