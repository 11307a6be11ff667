/-! a pure machine of the constructors: cells come one behind another, the cell c at the address b + c -/
abbrev rc_Cell : Type := (Nat × List Value) ⊕ (Nat × Nat × List (Option Nat))
abbrev rc_C : Type := List rc_Cell
def rc_r (b c : Nat) : Nat := b + c
def rc_one (x : rc_Cell) : Nat := match x with
  | .inl (_, fs) => fs.length
  | .inr (_, n, _) => n
def rc_sz (C : rc_C) : Nat := (C.map rc_one).sum
def rc_row (b t : Nat) (rs : List (Option Nat)) : (Nat → Int32) ⊕ (Nat → Int64) ⊕ (Nat → UInt32) ⊕ (Nat → UInt64) ⊕ (Nat → Option Nat) := match t with
  | 0 => .inl (fun _ => 0)
  | 1 => .inr (.inl (fun _ => 0))
  | _ => .inr (.inr (.inr (.inr (fun i => (rs.getD i none).map (rc_r b)))))
def rc_ce (b : Nat) (cA : Nat → ClassId) (x : rc_Cell) : va_E := match x with
  | .inl (ci, fs) => .inr (ci, fs.map (rg_cv (rc_r b)))
  | .inr (t, n, rs) => .inl (cA t, n, rc_row b t rs)
def rc_w (b : Nat) (cA : Nat → ClassId) (C : rc_C) : va_W := C.mapIdx (fun c x => (rc_r b c, rc_ce b cA x))
def rc_new (ci : Nat) : List Value := match rg_classes[ci]?, rg_tyL[ci]? with
  | some (_, _, N), some ty => (List.range N).map (fun k => defaultValue (ty k))
  | _, _ => []
abbrev rc_O : Type := Option ((Nat × rg_Ls × List Value × rc_C) ⊕ ((Nat × List Value × List Value) ⊕ Unit))
def rc_lk (t : List (List (Nat × Nat × Nat))) (o i : Nat) : Option (Nat × Nat) := match t[o]? with
  | some r => r.lookup i
  | none => none
def rc_inv (o i : Nat) : Option (Nat × Nat × Nat) := match rc_iv[o]? with
  | some r => r.lookup i
  | none => none
def rc_fetch (y pc : Nat) : Option (Instr × Nat) := match rc_code[y]? with
  | some t => t.lookup pc
  | none => none
def rc_nx (pc : Nat) (L : rg_Ls) (S : List Value) (C : rc_C) : rc_O := some (.inl (pc, L, S, C))
/-- a value that a field of this type may hold -/
def rc_fit (ty : FieldType) (v : Value) : Bool := match ty, v with
  | .int, .int _ => true
  | .boolean, .int x => decide (x = 0 ∨ x = 1)
  | .long, .long _ => true
  | .object _, .ref _ => true
  | .array _, .ref _ => true
  | _, _ => false
def rc_put (o i n pc : Nat) (L : rg_Ls) (S : List Value) (C : rc_C) : rc_O := match S with
  | v :: .ref c :: r => match rg_fld o i, C[c]? with
    | some (ci, k, _), some (.inl (ci2, fs)) => if ci2 = ci ∧ ci = o ∧ n = 3 ∧ k < fs.length ∧ rc_fit ((rg_tyL.getD ci (fun _ => .int)) k) v = true then rc_nx (pc + 3) L r (C.set c (.inl (ci, fs.set k v))) else none
    | _, _ => none
  | _ => none
def rc_get (o i n pc : Nat) (L : rg_Ls) (S : List Value) (C : rc_C) : rc_O := match S with
  | .ref c :: r => match rg_fld o i, C[c]? with
    | some (ci, k, _), some (.inl (ci2, fs)) => if ci2 = ci ∧ n = 3 then (match fs[k]? with
      | some v => rc_nx (pc + 3) L (v :: r) C
      | none => none) else none
    | _, _ => none
  | _ => none
def rc_arr (t n pc : Nat) (L : rg_Ls) (S : List Value) (C : rc_C) : rc_O := match S with
  | .int k :: r => if 0 ≤ k ∧ k.toNatClampNeg ≤ 5000 ∧ n = 2 then rc_nx (pc + 2) L (.ref C.length :: r) (C ++ [.inr (t, k.toNatClampNeg, [])]) else none
  | _ => none
def rc_push (v : Value) (len n pc : Nat) (L : rg_Ls) (S : List Value) (C : rc_C) : rc_O := if n = len then rc_nx (pc + len) L (v :: S) C else none
def rc_ldA (i len n pc : Nat) (L : rg_Ls) (S : List Value) (C : rc_C) : rc_O := match rg_ld L i with
  | some (.ref x) => if n = len then rc_nx (pc + len) L (.ref x :: S) C else none
  | _ => none
def rc_ldI (i len n pc : Nat) (L : rg_Ls) (S : List Value) (C : rc_C) : rc_O := match rg_ld L i with
  | some (.int x) => if n = len then rc_nx (pc + len) L (.int x :: S) C else none
  | _ => none
def rc_op (o : Nat) (i : Instr) (n pc : Nat) (L : rg_Ls) (S : List Value) (C : rc_C) : rc_O := match i with
  | .aload_n k => rc_ldA k 1 n pc L S C
  | .aload k => rc_ldA k 2 n pc L S C
  | .iload_n k => rc_ldI k 1 n pc L S C
  | .iconst k => rc_push (.int (Int32.ofInt k)) 1 n pc L S C
  | .lconst k => rc_push (.long (Int64.ofNat k)) 1 n pc L S C
  | .bipush k => rc_push (.int (Int8.ofInt k).toInt32) 2 n pc L S C
  | .sipush k => rc_push (.int (Int16.ofInt k).toInt32) 3 n pc L S C
  | .dup => match S with
    | .ref a :: r => if n = 1 then rc_nx (pc + 1) L (.ref a :: .ref a :: r) C else none
    | _ => none
  | .istore_n k => match S with
    | .int x :: r => if n = 1 ∧ (k : Nat) < L.length then rc_nx (pc + 1) (rg_st1 L k (.int x)) r C else none
    | _ => none
  | .iinc k x => match rg_ld L k with
    | some (.int v) => if n = 3 then rc_nx (pc + 3) (rg_st1 L k (.int (v + Int32.ofInt x))) S C else none
    | _ => none
  | .if_icmp .ge off => match S with
    | .int z :: .int x :: r => if n = 3 ∧ 0 ≤ (pc : Int) + off then rc_nx (if z ≤ x then rg_tgt pc off else pc + 3) L r C else none
    | _ => none
  | .goto off => if n = 3 ∧ 0 ≤ (pc : Int) + off then rc_nx (rg_tgt pc off) L S C else none
  | .putfield k => rc_put o k n pc L S C
  | .getfield k => rc_get o k n pc L S C
  | .new k => match rc_lk rc_nl o k with
    | some (ci, _) => if n = 3 then rc_nx (pc + 3) L (.ref C.length :: S) (C ++ [.inl (ci, rc_new ci)]) else none
    | none => none
  | .newarray .int => rc_arr 0 n pc L S C
  | .newarray .long => rc_arr 1 n pc L S C
  | .anewarray k => match S with
    | .int z :: r => if o = 10 ∧ k = 9 ∧ n = 3 ∧ 0 ≤ z ∧ z.toNatClampNeg ≤ 5000 then rc_nx (pc + 3) L (.ref C.length :: r) (C ++ [.inr (2, z.toNatClampNeg, List.replicate z.toNatClampNeg none)]) else none
    | _ => none
  | .multianewarray k 2 => match S with
    | .int z :: .int x :: r => if o = 1 ∧ k = 31 ∧ n = 4 ∧ 0 ≤ z ∧ z.toNatClampNeg ≤ 5000 ∧ 0 ≤ x ∧ x.toNatClampNeg ≤ 5000 then rc_nx (pc + 4) L (.ref C.length :: r) (C ++ (.inr (3, x.toNatClampNeg, (List.range x.toNatClampNeg).map (fun i => some (C.length + 1 + i))) :: List.replicate x.toNatClampNeg (.inr (0, z.toNatClampNeg, [])))) else none
    | _ => none
  | .aastore => match S with
    | .ref v :: .int i :: .ref a :: r => match C[a]?, C[v]? with
      | some (.inr (2, k, rs)), some (.inl (9, fs)) => if n = 1 ∧ rg_in i k = true ∧ i.toNatClampNeg < rs.length then rc_nx (pc + 1) L r (C.set a (.inr (2, k, rs.set i.toNatClampNeg (some v)))) else none
      | _, _ => none
    | _ => none
  | .invokespecial k => match rc_inv o k with
    | some (2, _, _) => match S with
      | .ref _ :: r => if n = 3 ∧ rg_sum r ≤ 8 then rc_nx (pc + 3) L r C else none
      | _ => none
    | some (_, y, _) => match S.drop (rc_np y) with
      | .ref c :: rest => if n = 3 ∧ rc_np y ≤ S.length ∧ rg_sum rest ≤ 8 ∧ (rg_args (.ref c :: (S.take (rc_np y)).reverse)).length ≤ rc_maxL y ∧ (S.take (rc_np y)).all rg_okv = true then some (.inr (.inl (y, .ref c :: (S.take (rc_np y)).reverse, rest))) else none
      | _ => none
    | none => none
  | .return_ => match S with
    | [] => if n = 1 then some (.inr (.inr ())) else none
    | _ => none
  | _ => none
def rc_ent (y : Nat) (as : List Value) : rg_Ls := rg_args as ++ List.replicate (rc_maxL y - (rg_args as).length) none
def rc_exec : Nat → Nat → Nat → Nat → rg_Ls → List Value → rc_C → Option rc_C
  | 0, _, _, _, _, _, _ => none
  | f + 1, d, y, pc, L, S, C => match rc_fetch y pc with
    | none => none
    | some (i, n) => match rc_op y i n pc L S C with
      | none => none
      | some (.inl (pc', L', S', C')) => rc_exec f d y pc' L' S' C'
      | some (.inr (.inr ())) => some C
      | some (.inr (.inl (y', as, rest))) => match d with
        | d' + 2 => match rc_exec f (d' + 1) y' 0 (rc_ent y' as) [] C with
          | none => none
          | some C' => rc_exec f (d' + 2) y (pc + 3) L rest C'
        | _ => none
/-- the cells when both objects are made -/
def rc_x : rc_C := (rc_exec 400 8 0 0 (rc_ent 0 [.ref 0]) [] [.inl (0, rc_new 0)]).getD []
def rc_m : rc_C := (rc_exec 400 8 12 0 (rc_ent 12 [.ref rc_x.length]) [] (rc_x ++ [.inl (12, rc_new 12)])).getD []
theorem rc_x_ok : rc_exec 400 8 0 0 (rc_ent 0 [.ref 0]) [] [.inl (0, rc_new 0)] = some rc_x := by
  have h : (rc_exec 400 8 0 0 (rc_ent 0 [.ref 0]) [] [.inl (0, rc_new 0)]).isSome = true := by decide +kernel
  obtain ⟨C, hC⟩ := Option.isSome_iff_exists.mp h
  unfold rc_x
  rw [hC]
  rfl
theorem rc_m_ok : rc_exec 400 8 12 0 (rc_ent 12 [.ref rc_x.length]) [] (rc_x ++ [.inl (12, rc_new 12)]) = some rc_m := by
  have h : (rc_exec 400 8 12 0 (rc_ent 12 [.ref rc_x.length]) [] (rc_x ++ [.inl (12, rc_new 12)])).isSome = true := by decide +kernel
  obtain ⟨C, hC⟩ := Option.isSome_iff_exists.mp h
  unfold rc_m
  rw [hC]
  rfl
theorem rc_x_len : rc_x.length = 91 := by decide +kernel
theorem rc_m_len : rc_m.length = 149 := by decide +kernel
