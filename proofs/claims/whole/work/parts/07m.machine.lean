/-! A PURE MACHINE over the cells of rg_shapes: memory, one instruction (rg_op), a method's run (rg_exec). In its values '.ref c' is the cell c. -/
abbrev rg_M : Type := (Nat → Nat → Int32) × (Nat → Nat → Int64)
abbrev rg_Ls : Type := List (Option Value)
def rg_wI (M : rg_M) (c k : Nat) (x : Int32) : rg_M := (fun a => if a = c then upd (M.1 c) k x else M.1 a, M.2)
def rg_wL (M : rg_M) (c k : Nat) (x : Int64) : rg_M := (M.1, fun a => if a = c then vp_updL (M.2 c) k x else M.2 a)
def rg_wC (M : rg_M) (a b sp dp n : Nat) : rg_M := (fun c => if c = b then va_cpy (M.1 a) (M.1 b) sp dp n else M.1 c, M.2)
/-- the String of the letters: the cell behind the last -/
def rg_str : Nat := 149
/-- its bytes -/
def rg_stv : Nat := 150
def rg_lets : List Int32 := [100, 109, 114, 107, 97, 98, 103, 104, 110, 102, 119, 120, 105]
/-- a slot's value -/
def rg_slot (M : rg_M) (c k z : Nat) : Value := match z with
  | 0 => .int (M.1 c k)
  | 1 => .int (M.1 c k)
  | 2 => .long (M.2 c k)
  | r + 3 => .ref r
def rg_ld (L : rg_Ls) (i : Nat) : Option Value := match L[i]? with
  | some v => v
  | none => none
def rg_clr (L : rg_Ls) (i : Nat) : rg_Ls := match i with
  | 0 => L
  | j + 1 => match L[j]? with
    | some (some v) => if v.category = 2 then L.set j none else L
    | _ => L
def rg_st1 (L : rg_Ls) (i : Nat) (v : Value) : rg_Ls := (rg_clr L i).set i (some v)
def rg_st2 (L : rg_Ls) (i : Nat) (v : Value) : rg_Ls := ((rg_clr L i).set i (some v)).set (i + 1) none
abbrev rg_O : Type := Option ((Nat × rg_Ls × List Value × rg_M) ⊕ ((Nat × List Value × List Value) ⊕ Option Value))
def rg_nx (pc : Nat) (L : rg_Ls) (S : List Value) (M : rg_M) : rg_O := some (.inl (pc, L, S, M))
def rg_ln (a b : Nat) (x : rg_O) : rg_O := if a = b then x else none
def rg_c1 (c : ClassFile.Cond) (x : Int32) : Bool := match c with
  | .eq => decide (x = 0)
  | .ne => decide (¬ x = 0)
  | .lt => decide (x < 0)
  | .ge => decide (0 ≤ x)
  | .gt => decide (0 < x)
  | .le => decide (x ≤ 0)
def rg_c2 (c : ClassFile.Cond) (x y : Int32) : Bool := match c with
  | .eq => decide (x = y)
  | .ne => decide (¬ x = y)
  | .lt => decide (x < y)
  | .ge => decide (y ≤ x)
  | .gt => decide (y < x)
  | .le => decide (x ≤ y)
def rg_tgt (pc : Nat) (off : Int) : Nat := ((pc : Int) + off).toNat
def rg_jp (pc : Nat) (off : Int) (L : rg_Ls) (S : List Value) (M : rg_M) : rg_O := if 0 ≤ (pc : Int) + off then rg_nx (rg_tgt pc off) L S M else none
def rg_i2 (f : Int32 → Int32 → Int32) (n pc : Nat) (L : rg_Ls) (S : List Value) (M : rg_M) : rg_O := match S with
  | .int y :: .int x :: r => rg_ln n 1 (rg_nx (pc + 1) L (.int (f x y) :: r) M)
  | _ => none
def rg_dv2 (f : Int32 → Int32 → Int32) (n pc : Nat) (L : rg_Ls) (S : List Value) (M : rg_M) : rg_O := match S with
  | .int y :: .int x :: r => if y = 0 then none else rg_ln n 1 (rg_nx (pc + 1) L (.int (f x y) :: r) M)
  | _ => none
def rg_l2 (f : Int64 → Int64 → Int64) (n pc : Nat) (L : rg_Ls) (S : List Value) (M : rg_M) : rg_O := match S with
  | .long y :: .long x :: r => rg_ln n 1 (rg_nx (pc + 1) L (.long (f x y) :: r) M)
  | _ => none
def rg_e2 (f : Int64 → Int64 → Int64) (n pc : Nat) (L : rg_Ls) (S : List Value) (M : rg_M) : rg_O := match S with
  | .long y :: .long x :: r => if y = 0 then none else rg_ln n 1 (rg_nx (pc + 1) L (.long (f x y) :: r) M)
  | _ => none
def rg_s2 (f : Int64 → Int32 → Int64) (n pc : Nat) (L : rg_Ls) (S : List Value) (M : rg_M) : rg_O := match S with
  | .int y :: .long x :: r => rg_ln n 1 (rg_nx (pc + 1) L (.long (f x y) :: r) M)
  | _ => none
def rg_i1 (f : Int32 → Value) (n pc : Nat) (L : rg_Ls) (S : List Value) (M : rg_M) : rg_O := match S with
  | .int x :: r => rg_ln n 1 (rg_nx (pc + 1) L (f x :: r) M)
  | _ => none
def rg_l1 (f : Int64 → Value) (n pc : Nat) (L : rg_Ls) (S : List Value) (M : rg_M) : rg_O := match S with
  | .long x :: r => rg_ln n 1 (rg_nx (pc + 1) L (f x :: r) M)
  | _ => none
def rg_loadI (i len n pc : Nat) (L : rg_Ls) (S : List Value) (M : rg_M) : rg_O := match rg_ld L i with
  | some (.int x) => rg_ln n len (rg_nx (pc + len) L (.int x :: S) M)
  | _ => none
def rg_loadL (i len n pc : Nat) (L : rg_Ls) (S : List Value) (M : rg_M) : rg_O := match rg_ld L i with
  | some (.long x) => rg_ln n len (rg_nx (pc + len) L (.long x :: S) M)
  | _ => none
def rg_loadA (i len n pc : Nat) (L : rg_Ls) (S : List Value) (M : rg_M) : rg_O := match rg_ld L i with
  | some (.ref x) => rg_ln n len (rg_nx (pc + len) L (.ref x :: S) M)
  | _ => none
def rg_storI (i len n pc : Nat) (L : rg_Ls) (S : List Value) (M : rg_M) : rg_O := match S with
  | .int x :: r => if i < L.length then rg_ln n len (rg_nx (pc + len) (rg_st1 L i (.int x)) r M) else none
  | _ => none
def rg_storA (i len n pc : Nat) (L : rg_Ls) (S : List Value) (M : rg_M) : rg_O := match S with
  | .ref x :: r => if i < L.length then rg_ln n len (rg_nx (pc + len) (rg_st1 L i (.ref x)) r M) else none
  | _ => none
def rg_storL (i len n pc : Nat) (L : rg_Ls) (S : List Value) (M : rg_M) : rg_O := match S with
  | .long x :: r => if i + 1 < L.length then rg_ln n len (rg_nx (pc + len) (rg_st2 L i (.long x)) r M) else none
  | _ => none
def rg_push (v : Value) (len n pc : Nat) (L : rg_Ls) (S : List Value) (M : rg_M) : rg_O := rg_ln n len (rg_nx (pc + len) L (v :: S) M)
def rg_if1 (c : ClassFile.Cond) (off : Int) (n pc : Nat) (L : rg_Ls) (S : List Value) (M : rg_M) : rg_O := match S with
  | .int x :: r => rg_ln n 3 (if 0 ≤ (pc : Int) + off then rg_nx (if rg_c1 c x then rg_tgt pc off else pc + 3) L r M else none)
  | _ => none
def rg_if2 (c : ClassFile.Cond) (off : Int) (n pc : Nat) (L : rg_Ls) (S : List Value) (M : rg_M) : rg_O := match S with
  | .int y :: .int x :: r => rg_ln n 3 (if 0 ≤ (pc : Int) + off then rg_nx (if rg_c2 c x y then rg_tgt pc off else pc + 3) L r M else none)
  | _ => none
def rg_getf (o i n pc : Nat) (L : rg_Ls) (S : List Value) (M : rg_M) : rg_O := match S with
  | .ref c :: r => match rg_fld o i, rg_shapes[c]? with
    | some (ci, k, _), some (.inl (ci2, ks)) => if ci2 = ci then (match ks[k]? with
      | some z => rg_ln n 3 (rg_nx (pc + 3) L (rg_slot M c k z :: r) M)
      | none => none) else none
    | _, _ => none
  | _ => none
def rg_putf (o i n pc : Nat) (L : rg_Ls) (S : List Value) (M : rg_M) : rg_O := match S with
  | v :: .ref c :: r => match rg_fld o i, rg_shapes[c]? with
    | some (ci, k, _), some (.inl (ci2, ks)) => if ci2 = ci then (match ks[k]?, v with
      | some 0, .int x => rg_ln n 3 (rg_nx (pc + 3) L r (rg_wI M c k x))
      | some 1, .int x => if x = 0 ∨ x = 1 then rg_ln n 3 (rg_nx (pc + 3) L r (rg_wI M c k x)) else none
      | some 2, .long x => rg_ln n 3 (rg_nx (pc + 3) L r (rg_wL M c k x))
      | _, _ => none) else none
    | _, _ => none
  | _ => none
/-- the index is in the row -/
def rg_in (i : Int32) (n : Nat) : Bool := decide (0 ≤ i) && decide (i.toNatClampNeg < n)
def rg_iald (n pc : Nat) (L : rg_Ls) (S : List Value) (M : rg_M) : rg_O := match S with
  | .int i :: .ref c :: r => match rg_shapes[c]? with
    | some (.inr (0, k, _, _)) => if rg_in i k then rg_ln n 1 (rg_nx (pc + 1) L (.int (M.1 c i.toNatClampNeg) :: r) M) else none
    | _ => none
  | _ => none
def rg_lald (n pc : Nat) (L : rg_Ls) (S : List Value) (M : rg_M) : rg_O := match S with
  | .int i :: .ref c :: r => match rg_shapes[c]? with
    | some (.inr (1, k, _, _)) => if rg_in i k then rg_ln n 1 (rg_nx (pc + 1) L (.long (M.2 c i.toNatClampNeg) :: r) M) else none
    | _ => none
  | _ => none
def rg_aald (n pc : Nat) (L : rg_Ls) (S : List Value) (M : rg_M) : rg_O := match S with
  | .int i :: .ref c :: r => match rg_shapes[c]? with
    | some (.inr (2, k, b, st)) => if rg_in i k then rg_ln n 1 (rg_nx (pc + 1) L (.ref (b + st * i.toNatClampNeg) :: r) M) else none
    | some (.inr (3, k, b, st)) => if rg_in i k then rg_ln n 1 (rg_nx (pc + 1) L (.ref (b + st * i.toNatClampNeg) :: r) M) else none
    | _ => none
  | _ => none
def rg_iast (n pc : Nat) (L : rg_Ls) (S : List Value) (M : rg_M) : rg_O := match S with
  | .int x :: .int i :: .ref c :: r => match rg_shapes[c]? with
    | some (.inr (0, k, _, _)) => if rg_in i k then rg_ln n 1 (rg_nx (pc + 1) L r (rg_wI M c i.toNatClampNeg x)) else none
    | _ => none
  | _ => none
def rg_last (n pc : Nat) (L : rg_Ls) (S : List Value) (M : rg_M) : rg_O := match S with
  | .long x :: .int i :: .ref c :: r => match rg_shapes[c]? with
    | some (.inr (1, k, _, _)) => if rg_in i k then rg_ln n 1 (rg_nx (pc + 1) L r (rg_wL M c i.toNatClampNeg x)) else none
    | _ => none
  | _ => none
def rg_alen (n pc : Nat) (L : rg_Ls) (S : List Value) (M : rg_M) : rg_O := match S with
  | .ref c :: r => match rg_shapes[c]? with
    | some (.inr (0, k, _, _)) => rg_ln n 1 (rg_nx (pc + 1) L (.int (nI k) :: r) M)
    | none => if c = rg_stv then rg_ln n 1 (rg_nx (pc + 1) L (.int 13 :: r) M) else none
    | _ => none
  | _ => none
/-- the String's own fields, by String's code -/
def rg_getS (i n pc : Nat) (L : rg_Ls) (S : List Value) (M : rg_M) : rg_O := match S with
  | .ref c :: r => if c = rg_str ∧ i = 9 then rg_ln n 3 (rg_nx (pc + 3) L (.ref rg_stv :: r) M) else if c = rg_str ∧ i = 15 then rg_ln n 3 (rg_nx (pc + 3) L (.int 0 :: r) M) else none
  | _ => none
def rg_bald (n pc : Nat) (L : rg_Ls) (S : List Value) (M : rg_M) : rg_O := match S with
  | .int i :: .ref c :: r => if c = rg_stv ∧ rg_in i 13 = true then rg_ln n 1 (rg_nx (pc + 1) L (.int (rg_lets.getD i.toNatClampNeg 0) :: r) M) else none
  | _ => none
def rg_tsw (dflt lo hi : Int) (offs : Array Int) (pc : Nat) (L : rg_Ls) (S : List Value) (M : rg_M) : rg_O := match S with
  | .int x :: r => if x.toInt < lo ∨ hi < x.toInt then rg_jp pc dflt L r M else (match offs[(x.toInt - lo).toNat]? with
    | some off => rg_jp pc off L r M
    | none => none)
  | _ => none
/-- the words of a stack -/
def rg_sum (S : List Value) : Nat := (S.map fun v => v.category).sum
/-- the locals of a call -/
def rg_args : List Value → rg_Ls
  | [] => []
  | .long x :: r => some (.long x) :: none :: rg_args r
  | v :: r => some v :: rg_args r
def rg_ent (y : Nat) (as : List Value) : rg_Ls := rg_args as ++ List.replicate (rg_maxL y - (rg_args as).length) none
def rg_okv (v : Value) : Bool := match v with
  | .int _ => true
  | .long _ => true
  | .ref _ => true
  | _ => false
def rg_call (y : Nat) (as rest : List Value) : rg_O := if rg_sum rest ≤ 8 ∧ (rg_args as).length ≤ rg_maxL y ∧ as.all rg_okv = true then some (.inr (.inl (y, as, rest))) else none
def rg_isI (c o : Nat) : Bool := if o = 15 then decide (c = rg_str) else match rg_shapes[c]? with
  | some (.inl (ci, _)) => decide (ci = o)
  | _ => false
def rg_invV (o i n : Nat) (S : List Value) : rg_O := match rg_inv o i with
  | some (0, y, _) => match S.drop (rg_np y) with
    | .ref c :: rest => if n = 3 ∧ rg_isI c (rg_own y) = true ∧ rg_np y ≤ S.length then rg_call y (.ref c :: (S.take (rg_np y)).reverse) rest else none
    | _ => none
  | _ => none
def rg_invS (o i n : Nat) (S : List Value) : rg_O := match rg_inv o i with
  | some (k, y, _) => if n = 3 ∧ (k = 1 ∨ k = 2) ∧ rg_np y ≤ S.length then rg_call y (S.take (rg_np y)).reverse (S.drop (rg_np y)) else none
  | none => none
def rg_dup2 (n pc : Nat) (L : rg_Ls) (S : List Value) (M : rg_M) : rg_O := match S with
  | .long x :: r => rg_ln n 1 (rg_nx (pc + 1) L (.long x :: .long x :: r) M)
  | a :: b :: r => if a.category = 1 ∧ b.category = 1 then rg_ln n 1 (rg_nx (pc + 1) L (a :: b :: a :: b :: r) M) else none
  | _ => none
def rg_dup (n pc : Nat) (L : rg_Ls) (S : List Value) (M : rg_M) : rg_O := match S with
  | a :: r => if a.category = 1 then rg_ln n 1 (rg_nx (pc + 1) L (a :: a :: r) M) else none
  | _ => none
def rg_dupx1 (n pc : Nat) (L : rg_Ls) (S : List Value) (M : rg_M) : rg_O := match S with
  | a :: b :: r => if a.category = 1 ∧ b.category = 1 then rg_ln n 1 (rg_nx (pc + 1) L (a :: b :: a :: r) M) else none
  | _ => none
def rg_dupx2 (n pc : Nat) (L : rg_Ls) (S : List Value) (M : rg_M) : rg_O := match S with
  | a :: b :: d :: r => if a.category = 1 ∧ b.category = 1 ∧ d.category = 1 then rg_ln n 1 (rg_nx (pc + 1) L (a :: b :: d :: a :: r) M) else none
  | _ => none
def rg_pop (n pc : Nat) (L : rg_Ls) (S : List Value) (M : rg_M) : rg_O := match S with
  | a :: r => if a.category = 1 then rg_ln n 1 (rg_nx (pc + 1) L r M) else none
  | _ => none
def rg_iret (rt : Option FieldType) (n : Nat) (S : List Value) : rg_O := match S, rt with
  | [.int x], some .int => rg_ln n 1 (some (.inr (.inr (some (.int x)))))
  | [.int x], some .boolean => if x = 0 ∨ x = 1 then rg_ln n 1 (some (.inr (.inr (some (.int x))))) else none
  | [.int x], some .byte => if x.toInt8.toInt32 = x then rg_ln n 1 (some (.inr (.inr (some (.int x))))) else none
  | _, _ => none
def rg_lret (rt : Option FieldType) (n : Nat) (S : List Value) : rg_O := match S, rt with
  | [.long x], some .long => rg_ln n 1 (some (.inr (.inr (some (.long x)))))
  | _, _ => none
def rg_aret (rt : Option FieldType) (n : Nat) (S : List Value) : rg_O := match S, rt with
  | [.ref x], some (.array .int) => rg_ln n 1 (some (.inr (.inr (some (.ref x)))))
  | _, _ => none
def rg_vret (rt : Option FieldType) (n : Nat) (S : List Value) : rg_O := match S, rt with
  | [], none => rg_ln n 1 (some (.inr (.inr none)))
  | _, _ => none
def rg_iinc (i : Nat) (x : Int) (n pc : Nat) (L : rg_Ls) (S : List Value) (M : rg_M) : rg_O := match rg_ld L i with
  | some (.int v) => if n = 3 ∨ n = 6 then rg_nx (pc + n) (rg_st1 L i (.int (v + Int32.ofInt x))) S M else none
  | _ => none
def rg_ldcI (o i len n pc : Nat) (L : rg_Ls) (S : List Value) (M : rg_M) : rg_O := match rg_cst o i with
  | some (v, _) => rg_push (.int v) len n pc L S M
  | none => if o = 5 ∧ i = 59 ∧ len = 2 then rg_push (.ref rg_str) len n pc L S M else none
def rg_ldcL (o i n pc : Nat) (L : rg_Ls) (S : List Value) (M : rg_M) : rg_O := match rg_cstL o i with
  | some (v, _) => rg_push (.long v) 3 n pc L S M
  | none => none
/-- System.arraycopy between two rows of ints -/
def rg_cpy (d n pc : Nat) (L : rg_Ls) (S : List Value) (M : rg_M) : rg_O := match S with
  | .int k :: .int dp :: .ref b :: .int sp :: .ref a :: r => match rg_shapes[a]?, rg_shapes[b]? with
    | some (.inr (0, na, _, _)), some (.inr (0, nb, _, _)) => if 1 ≤ d ∧ n = 3 ∧ rg_sum r ≤ 8 ∧ 0 ≤ sp ∧ 0 ≤ dp ∧ 0 ≤ k ∧ sp.toNatClampNeg + k.toNatClampNeg ≤ na ∧ dp.toNatClampNeg + k.toNatClampNeg ≤ nb then rg_nx (pc + 3) L r (rg_wC M a b sp.toNatClampNeg dp.toNatClampNeg k.toNatClampNeg) else none
    | _, _ => none
  | _ => none
/-- one instruction: o the class, rt the answer's type, d the frames that are left -/
def rg_op (o : Nat) (rt : Option FieldType) (d : Nat) (i : Instr) (n pc : Nat) (L : rg_Ls) (S : List Value) (M : rg_M) : rg_O := match i with
  | .aload_n k => rg_loadA k 1 n pc L S M
  | .aload k => rg_loadA k 2 n pc L S M
  | .iload_n k => rg_loadI k 1 n pc L S M
  | .iload k => rg_loadI k 2 n pc L S M
  | .lload_n k => rg_loadL k 1 n pc L S M
  | .lload k => rg_loadL k 2 n pc L S M
  | .istore_n k => rg_storI k 1 n pc L S M
  | .istore k => rg_storI k 2 n pc L S M
  | .lstore_n k => rg_storL k 1 n pc L S M
  | .lstore k => rg_storL k 2 n pc L S M
  | .astore_n k => rg_storA k 1 n pc L S M
  | .astore k => rg_storA k 2 n pc L S M
  | .iinc k x => rg_iinc k x n pc L S M
  | .iconst k => rg_push (.int (Int32.ofInt k)) 1 n pc L S M
  | .lconst k => rg_push (.long (Int64.ofNat k)) 1 n pc L S M
  | .bipush k => rg_push (.int (Int8.ofInt k).toInt32) 2 n pc L S M
  | .sipush k => rg_push (.int (Int16.ofInt k).toInt32) 3 n pc L S M
  | .ldc k => rg_ldcI o k 2 n pc L S M
  | .ldc_w k => rg_ldcI o k 3 n pc L S M
  | .ldc2_w k => rg_ldcL o k n pc L S M
  | .iadd => rg_i2 (fun x y => x + y) n pc L S M
  | .isub => rg_i2 (fun x y => x - y) n pc L S M
  | .imul => rg_i2 (fun x y => x * y) n pc L S M
  | .iand => rg_i2 (fun x y => x &&& y) n pc L S M
  | .ior => rg_i2 (fun x y => x ||| y) n pc L S M
  | .ixor => rg_i2 (fun x y => x ^^^ y) n pc L S M
  | .ishl => rg_i2 (fun x y => x <<< (y &&& 31)) n pc L S M
  | .ishr => rg_i2 (fun x y => x >>> (y &&& 31)) n pc L S M
  | .iushr => rg_i2 (fun x y => (x.toUInt32 >>> (y.toUInt32 &&& Int32.toUInt32 31)).toInt32) n pc L S M
  | .idiv => rg_dv2 (fun x y => x / y) n pc L S M
  | .irem => rg_dv2 (fun x y => x - x / y * y) n pc L S M
  | .ineg => rg_i1 (fun x => .int (-x)) n pc L S M
  | .i2l => rg_i1 (fun x => .long x.toInt64) n pc L S M
  | .i2c => rg_i1 (fun x => .int (x.toUInt32 % 65536).toInt32) n pc L S M
  | .l2i => rg_l1 (fun x => .int x.toInt32) n pc L S M
  | .lneg => rg_l1 (fun x => .long (-x)) n pc L S M
  | .ladd => rg_l2 (fun x y => x + y) n pc L S M
  | .lsub => rg_l2 (fun x y => x - y) n pc L S M
  | .lmul => rg_l2 (fun x y => x * y) n pc L S M
  | .land => rg_l2 (fun x y => x &&& y) n pc L S M
  | .lor => rg_l2 (fun x y => x ||| y) n pc L S M
  | .ldiv => rg_e2 (fun x y => x / y) n pc L S M
  | .lrem => rg_e2 (fun x y => x - x / y * y) n pc L S M
  | .lshl => rg_s2 (fun x y => x <<< (y.toInt64 &&& 63)) n pc L S M
  | .lshr => rg_s2 (fun x y => x >>> (y.toInt64 &&& 63)) n pc L S M
  | .lcmp => match S with
    | .long y :: .long x :: r => rg_ln n 1 (rg_nx (pc + 1) L (.int (lg_cmp x y) :: r) M)
    | _ => none
  | .dup => rg_dup n pc L S M
  | .dup_x1 => rg_dupx1 n pc L S M
  | .dup_x2 => rg_dupx2 n pc L S M
  | .dup2 => rg_dup2 n pc L S M
  | .pop => rg_pop n pc L S M
  | .goto off => rg_ln n 3 (rg_jp pc off L S M)
  | .ifCond c off => rg_if1 c off n pc L S M
  | .if_icmp c off => rg_if2 c off n pc L S M
  | .tableswitch dflt lo hi offs => rg_tsw dflt lo hi offs pc L S M
  | .getfield k => if o = 15 then rg_getS k n pc L S M else rg_getf o k n pc L S M
  | .getstatic k => if o = 15 ∧ k = 38 then rg_push (.int 1) 3 n pc L S M else none
  | .baload => rg_bald n pc L S M
  | .i2b => rg_i1 (fun x => .int x.toInt8.toInt32) n pc L S M
  | .putfield k => rg_putf o k n pc L S M
  | .iaload => rg_iald n pc L S M
  | .laload => rg_lald n pc L S M
  | .aaload => rg_aald n pc L S M
  | .iastore => rg_iast n pc L S M
  | .lastore => rg_last n pc L S M
  | .arraylength => rg_alen n pc L S M
  | .invokevirtual k => rg_invV o k n S
  | .invokestatic k => if o = 6 ∧ k = 42 then rg_cpy d n pc L S M else rg_invS o k n S
  | .ireturn => rg_iret rt n S
  | .lreturn => rg_lret rt n S
  | .areturn => rg_aret rt n S
  | .return_ => rg_vret rt n S
  | _ => none
def rg_step (d y pc : Nat) (L : rg_Ls) (S : List Value) (M : rg_M) : rg_O := match rg_fetch y pc with
  | some (i, n) => rg_op (rg_own y) (rg_ret y) d i n pc L S M
  | none => none
/-- a method's run: f bounds the steps, d the depth -/
def rg_exec : Nat → Nat → Nat → Nat → rg_Ls → List Value → rg_M → Option (Option Value × rg_M)
  | 0, _, _, _, _, _, _ => none
  | f + 1, d, y, pc, L, S, M => match rg_step d y pc L S M with
    | none => none
    | some (.inl (pc', L', S', M')) => rg_exec f d y pc' L' S' M'
    | some (.inr (.inr r)) => some (r, M)
    | some (.inr (.inl (y', as, rest))) => match d with
      | 0 => none
      | d' + 1 => match rg_exec f d' y' 0 (rg_ent y' as) [] M with
        | none => none
        | some (r, M') => rg_exec f (d' + 1) y (pc + 3) L (r.toList ++ rest) M'
