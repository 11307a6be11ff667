/-! rows of the tables -/
/-- the row of a method -/
def rg_mr (y : Nat) : rg_MR := rg_mt.getD y (⟨"", "", ""⟩, ByteArray.mk #[], 0, none, (0, 0, 0), (0, 0, 0, 0))
def rg_name (y : Nat) : MethodName := (rg_mr y).1
def rg_bytes (y : Nat) : ByteArray := (rg_mr y).2.1
def rg_maxL (y : Nat) : Nat := (rg_mr y).2.2.1
def rg_ret (y : Nat) : Option FieldType := (rg_mr y).2.2.2.1
def rg_own (y : Nat) : Nat := (rg_mr y).2.2.2.2.1.1
def rg_np (y : Nat) : Nat := (rg_mr y).2.2.2.2.1.2.1
def rg_fetch (y pc : Nat) : Option (Instr × Nat) := match rg_code[y]? with
  | some t => t.lookup pc
  | none => none
def rg_fld (o i : Nat) : Option (Nat × Nat × Nat) := match rg_fl[o]? with
  | some t => t.lookup i
  | none => none
def rg_inv (o i : Nat) : Option (Nat × Nat × Nat) := match rg_iv[o]? with
  | some t => t.lookup i
  | none => none
def rg_cst (o i : Nat) : Option (Int32 × Nat) := match rg_cs[o]? with
  | some t => t.lookup i
  | none => none
def rg_cstL (o i : Nat) : Option (Int64 × Nat) := match rg_cl[o]? with
  | some t => t.lookup i
  | none => none
