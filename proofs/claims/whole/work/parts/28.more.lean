/-! more locals do no harm -/
def rg_rp (L' : rg_Ls) (o : (Nat × rg_Ls × List Value × rg_M) ⊕ ((Nat × List Value × List Value) ⊕ Option Value)) : (Nat × rg_Ls × List Value × rg_M) ⊕ ((Nat × List Value × List Value) ⊕ Option Value) := match o with
  | .inl (p, _, S, M) => .inl (p, L', S, M)
  | .inr z => .inr z
section MOL
variable {f : Int32 → Int32 → Int32} {g : Int64 → Int64 → Int64} {s2 : Int64 → Int32 → Int64} {i1 : Int32 → Value} {l1 : Int64 → Value} {v : Value} {cd : ClassFile.Cond} {off lo hi : Int} {offs : Array Int} {k k2 k3 n pc : Nat} {L L' : rg_Ls} {S : List Value} {M : rg_M}
theorem rg_mo_ln {a b : Nat} {x : rg_O} (h : x.map (rg_rp L') = x.map (rg_rp L')) : rg_ln a b (x.map (rg_rp L')) = (rg_ln a b x).map (rg_rp L') := by
  unfold rg_ln
  split <;> rfl
theorem mo_i2 : rg_i2 f n pc L' S M = (rg_i2 f n pc L S M).map (rg_rp L') := by
  unfold rg_i2
  (try unfold rg_push)
  (try unfold rg_jp)
  (try unfold rg_ln)
  (try unfold rg_nx)
  (repeat' split) <;> first | rfl | (simp_all [rg_rp])
theorem mo_dv2 : rg_dv2 f n pc L' S M = (rg_dv2 f n pc L S M).map (rg_rp L') := by
  unfold rg_dv2
  (try unfold rg_push)
  (try unfold rg_jp)
  (try unfold rg_ln)
  (try unfold rg_nx)
  (repeat' split) <;> first | rfl | (simp_all [rg_rp])
theorem mo_l2 : rg_l2 g n pc L' S M = (rg_l2 g n pc L S M).map (rg_rp L') := by
  unfold rg_l2
  (try unfold rg_push)
  (try unfold rg_jp)
  (try unfold rg_ln)
  (try unfold rg_nx)
  (repeat' split) <;> first | rfl | (simp_all [rg_rp])
theorem mo_e2 : rg_e2 g n pc L' S M = (rg_e2 g n pc L S M).map (rg_rp L') := by
  unfold rg_e2
  (try unfold rg_push)
  (try unfold rg_jp)
  (try unfold rg_ln)
  (try unfold rg_nx)
  (repeat' split) <;> first | rfl | (simp_all [rg_rp])
theorem mo_s2 : rg_s2 s2 n pc L' S M = (rg_s2 s2 n pc L S M).map (rg_rp L') := by
  unfold rg_s2
  (try unfold rg_push)
  (try unfold rg_jp)
  (try unfold rg_ln)
  (try unfold rg_nx)
  (repeat' split) <;> first | rfl | (simp_all [rg_rp])
theorem mo_i1 : rg_i1 i1 n pc L' S M = (rg_i1 i1 n pc L S M).map (rg_rp L') := by
  unfold rg_i1
  (try unfold rg_push)
  (try unfold rg_jp)
  (try unfold rg_ln)
  (try unfold rg_nx)
  (repeat' split) <;> first | rfl | (simp_all [rg_rp])
theorem mo_l1 : rg_l1 l1 n pc L' S M = (rg_l1 l1 n pc L S M).map (rg_rp L') := by
  unfold rg_l1
  (try unfold rg_push)
  (try unfold rg_jp)
  (try unfold rg_ln)
  (try unfold rg_nx)
  (repeat' split) <;> first | rfl | (simp_all [rg_rp])
theorem mo_push : rg_push v k n pc L' S M = (rg_push v k n pc L S M).map (rg_rp L') := by
  unfold rg_push
  (try unfold rg_push)
  (try unfold rg_jp)
  (try unfold rg_ln)
  (try unfold rg_nx)
  (repeat' split) <;> first | rfl | (simp_all [rg_rp])
theorem mo_if1 : rg_if1 cd off n pc L' S M = (rg_if1 cd off n pc L S M).map (rg_rp L') := by
  unfold rg_if1
  (try unfold rg_push)
  (try unfold rg_jp)
  (try unfold rg_ln)
  (try unfold rg_nx)
  (repeat' split) <;> first | rfl | (simp_all [rg_rp])
theorem mo_if2 : rg_if2 cd off n pc L' S M = (rg_if2 cd off n pc L S M).map (rg_rp L') := by
  unfold rg_if2
  (try unfold rg_push)
  (try unfold rg_jp)
  (try unfold rg_ln)
  (try unfold rg_nx)
  (repeat' split) <;> first | rfl | (simp_all [rg_rp])
theorem mo_getf : rg_getf k k2 n pc L' S M = (rg_getf k k2 n pc L S M).map (rg_rp L') := by
  unfold rg_getf
  (try unfold rg_push)
  (try unfold rg_jp)
  (try unfold rg_ln)
  (try unfold rg_nx)
  (repeat' split) <;> first | rfl | (simp_all [rg_rp])
theorem mo_putf : rg_putf k k2 n pc L' S M = (rg_putf k k2 n pc L S M).map (rg_rp L') := by
  unfold rg_putf
  (try unfold rg_push)
  (try unfold rg_jp)
  (try unfold rg_ln)
  (try unfold rg_nx)
  (repeat' split) <;> first | rfl | (simp_all [rg_rp])
theorem mo_getS : rg_getS k n pc L' S M = (rg_getS k n pc L S M).map (rg_rp L') := by
  unfold rg_getS
  (try unfold rg_push)
  (try unfold rg_jp)
  (try unfold rg_ln)
  (try unfold rg_nx)
  (repeat' split) <;> first | rfl | (simp_all [rg_rp])
theorem mo_bald : rg_bald n pc L' S M = (rg_bald n pc L S M).map (rg_rp L') := by
  unfold rg_bald
  (try unfold rg_push)
  (try unfold rg_jp)
  (try unfold rg_ln)
  (try unfold rg_nx)
  (repeat' split) <;> first | rfl | (simp_all [rg_rp])
theorem mo_iald : rg_iald n pc L' S M = (rg_iald n pc L S M).map (rg_rp L') := by
  unfold rg_iald
  (try unfold rg_push)
  (try unfold rg_jp)
  (try unfold rg_ln)
  (try unfold rg_nx)
  (repeat' split) <;> first | rfl | (simp_all [rg_rp])
theorem mo_lald : rg_lald n pc L' S M = (rg_lald n pc L S M).map (rg_rp L') := by
  unfold rg_lald
  (try unfold rg_push)
  (try unfold rg_jp)
  (try unfold rg_ln)
  (try unfold rg_nx)
  (repeat' split) <;> first | rfl | (simp_all [rg_rp])
theorem mo_aald : rg_aald n pc L' S M = (rg_aald n pc L S M).map (rg_rp L') := by
  unfold rg_aald
  (try unfold rg_push)
  (try unfold rg_jp)
  (try unfold rg_ln)
  (try unfold rg_nx)
  (repeat' split) <;> first | rfl | (simp_all [rg_rp])
theorem mo_iast : rg_iast n pc L' S M = (rg_iast n pc L S M).map (rg_rp L') := by
  unfold rg_iast
  (try unfold rg_push)
  (try unfold rg_jp)
  (try unfold rg_ln)
  (try unfold rg_nx)
  (repeat' split) <;> first | rfl | (simp_all [rg_rp])
theorem mo_last : rg_last n pc L' S M = (rg_last n pc L S M).map (rg_rp L') := by
  unfold rg_last
  (try unfold rg_push)
  (try unfold rg_jp)
  (try unfold rg_ln)
  (try unfold rg_nx)
  (repeat' split) <;> first | rfl | (simp_all [rg_rp])
theorem mo_alen : rg_alen n pc L' S M = (rg_alen n pc L S M).map (rg_rp L') := by
  unfold rg_alen
  (try unfold rg_push)
  (try unfold rg_jp)
  (try unfold rg_ln)
  (try unfold rg_nx)
  (repeat' split) <;> first | rfl | (simp_all [rg_rp])
theorem mo_jp : rg_jp pc off L' S M = (rg_jp pc off L S M).map (rg_rp L') := by
  unfold rg_jp
  (try unfold rg_push)
  (try unfold rg_jp)
  (try unfold rg_ln)
  (try unfold rg_nx)
  (repeat' split) <;> first | rfl | (simp_all [rg_rp])
theorem mo_dup : rg_dup n pc L' S M = (rg_dup n pc L S M).map (rg_rp L') := by
  unfold rg_dup
  (try unfold rg_push)
  (try unfold rg_jp)
  (try unfold rg_ln)
  (try unfold rg_nx)
  (repeat' split) <;> first | rfl | (simp_all [rg_rp])
theorem mo_dupx1 : rg_dupx1 n pc L' S M = (rg_dupx1 n pc L S M).map (rg_rp L') := by
  unfold rg_dupx1
  (try unfold rg_push)
  (try unfold rg_jp)
  (try unfold rg_ln)
  (try unfold rg_nx)
  (repeat' split) <;> first | rfl | (simp_all [rg_rp])
theorem mo_dupx2 : rg_dupx2 n pc L' S M = (rg_dupx2 n pc L S M).map (rg_rp L') := by
  unfold rg_dupx2
  (try unfold rg_push)
  (try unfold rg_jp)
  (try unfold rg_ln)
  (try unfold rg_nx)
  (repeat' split) <;> first | rfl | (simp_all [rg_rp])
theorem mo_dup2 : rg_dup2 n pc L' S M = (rg_dup2 n pc L S M).map (rg_rp L') := by
  unfold rg_dup2
  (try unfold rg_push)
  (try unfold rg_jp)
  (try unfold rg_ln)
  (try unfold rg_nx)
  (repeat' split) <;> first | rfl | (simp_all [rg_rp])
theorem mo_pop : rg_pop n pc L' S M = (rg_pop n pc L S M).map (rg_rp L') := by
  unfold rg_pop
  (try unfold rg_push)
  (try unfold rg_jp)
  (try unfold rg_ln)
  (try unfold rg_nx)
  (repeat' split) <;> first | rfl | (simp_all [rg_rp])
theorem mo_cpy : rg_cpy k n pc L' S M = (rg_cpy k n pc L S M).map (rg_rp L') := by
  unfold rg_cpy
  (try unfold rg_push)
  (try unfold rg_jp)
  (try unfold rg_ln)
  (try unfold rg_nx)
  (repeat' split) <;> first | rfl | (simp_all [rg_rp])
theorem mo_ldcI : rg_ldcI k k2 k3 n pc L' S M = (rg_ldcI k k2 k3 n pc L S M).map (rg_rp L') := by
  unfold rg_ldcI
  (try unfold rg_push)
  (try unfold rg_jp)
  (try unfold rg_ln)
  (try unfold rg_nx)
  (repeat' split) <;> first | rfl | (simp_all [rg_rp])
theorem mo_ldcL : rg_ldcL k k2 n pc L' S M = (rg_ldcL k k2 n pc L S M).map (rg_rp L') := by
  unfold rg_ldcL
  (try unfold rg_push)
  (try unfold rg_jp)
  (try unfold rg_ln)
  (try unfold rg_nx)
  (repeat' split) <;> first | rfl | (simp_all [rg_rp])
theorem mo_tsw : rg_tsw off lo hi offs pc L' S M = (rg_tsw off lo hi offs pc L S M).map (rg_rp L') := by
  unfold rg_tsw
  (try unfold rg_push)
  (try unfold rg_jp)
  (try unfold rg_ln)
  (try unfold rg_nx)
  (repeat' split) <;> first | rfl | (simp_all [rg_rp])
end MOL
/-- the outcomes go together -/
def rg_Lo (o o' : (Nat × rg_Ls × List Value × rg_M) ⊕ ((Nat × List Value × List Value) ⊕ Option Value)) : Prop := match o with
  | .inl (p, L1, S1, M1) => ∃ L2, o' = .inl (p, L2, S1, M1) ∧ rg_Le L1 L2
  | .inr z => o' = .inr z
theorem rg_Lo_rp {L L' : rg_Ls} {o : (Nat × rg_Ls × List Value × rg_M) ⊕ ((Nat × List Value × List Value) ⊕ Option Value)} (hle : rg_Le L L') (ho : ∀ p L1 S1 M1, o = .inl (p, L1, S1, M1) → L1 = L) : rg_Lo o (rg_rp L' o) := by
  match o, ho with
  | .inl (p, L1, S1, M1), ho =>
    have := ho _ _ _ _ rfl
    subst this
    exact ⟨L', rfl, hle⟩
  | .inr z, _ => rfl
theorem rg_mo_of {x x' : rg_O} {L L' : rg_Ls} {o : (Nat × rg_Ls × List Value × rg_M) ⊕ ((Nat × List Value × List Value) ⊕ Option Value)} (hle : rg_Le L L') (e : x' = x.map (rg_rp L')) (e0 : x = x.map (rg_rp L)) (h : x = some o) : ∃ o', x' = some o' ∧ rg_Lo o o' := by
  refine ⟨rg_rp L' o, by rw [e, h]; rfl, rg_Lo_rp hle ?_⟩
  intro p L1 S1 M1 ho
  subst ho
  rw [h] at e0
  cases e0
  rfl
theorem rg_Le.rfl' {L : rg_Ls} : rg_Le L L := ⟨rfl, fun _ _ h => h⟩
set_option maxHeartbeats 4000000 in
theorem rg_op_more {o : Nat} {rt : Option FieldType} {d : Nat} {i : Instr} {n pc : Nat} {L L' : rg_Ls} {S : List Value} {M : rg_M} {q : (Nat × rg_Ls × List Value × rg_M) ⊕ ((Nat × List Value × List Value) ⊕ Option Value)} (hle : rg_Le L L') (h : rg_op o rt d i n pc L S M = some q) : ∃ q', rg_op o rt d i n pc L' S M = some q' ∧ rg_Lo q q' := by
  have ldA : ∀ (k len : Nat), rg_loadA k len n pc L S M = some q → ∃ q', rg_loadA k len n pc L' S M = some q' ∧ rg_Lo q q' := by
    intro k len h
    unfold rg_loadA at h ⊢
    split at h
    · rename_i hx
      obtain ⟨h1, h2⟩ := rg_ln_inv h
      subst h1
      cases h2
      rw [hle.ld hx]
      exact ⟨_, by simp [rg_ln, rg_nx], _, rfl, hle⟩
    · cases h
  have ldI : ∀ (k len : Nat), rg_loadI k len n pc L S M = some q → ∃ q', rg_loadI k len n pc L' S M = some q' ∧ rg_Lo q q' := by
    intro k len h
    unfold rg_loadI at h ⊢
    split at h
    · rename_i hx
      obtain ⟨h1, h2⟩ := rg_ln_inv h
      subst h1
      cases h2
      rw [hle.ld hx]
      exact ⟨_, by simp [rg_ln, rg_nx], _, rfl, hle⟩
    · cases h
  have ldL : ∀ (k len : Nat), rg_loadL k len n pc L S M = some q → ∃ q', rg_loadL k len n pc L' S M = some q' ∧ rg_Lo q q' := by
    intro k len h
    unfold rg_loadL at h ⊢
    split at h
    · rename_i hx
      obtain ⟨h1, h2⟩ := rg_ln_inv h
      subst h1
      cases h2
      rw [hle.ld hx]
      exact ⟨_, by simp [rg_ln, rg_nx], _, rfl, hle⟩
    · cases h
  have stI : ∀ (k len : Nat), rg_storI k len n pc L S M = some q → ∃ q', rg_storI k len n pc L' S M = some q' ∧ rg_Lo q q' := by
    intro k len h
    unfold rg_storI at h ⊢
    split at h
    · split at h
      · rename_i hi
        obtain ⟨h1, h2⟩ := rg_ln_inv h
        subst h1
        cases h2
        rw [if_pos (by rw [← hle.1]; exact hi)]
        exact ⟨_, by unfold rg_ln rg_nx; rw [if_pos rfl], _, rfl, hle.st1 _ _⟩
      · cases h
    · cases h
  have stA : ∀ (k len : Nat), rg_storA k len n pc L S M = some q → ∃ q', rg_storA k len n pc L' S M = some q' ∧ rg_Lo q q' := by
    intro k len h
    unfold rg_storA at h ⊢
    split at h
    · split at h
      · rename_i hi
        obtain ⟨h1, h2⟩ := rg_ln_inv h
        subst h1
        cases h2
        rw [if_pos (by rw [← hle.1]; exact hi)]
        exact ⟨_, by unfold rg_ln rg_nx; rw [if_pos rfl], _, rfl, hle.st1 _ _⟩
      · cases h
    · cases h
  have stL : ∀ (k len : Nat), rg_storL k len n pc L S M = some q → ∃ q', rg_storL k len n pc L' S M = some q' ∧ rg_Lo q q' := by
    intro k len h
    unfold rg_storL at h ⊢
    split at h
    · split at h
      · rename_i hi
        obtain ⟨h1, h2⟩ := rg_ln_inv h
        subst h1
        cases h2
        rw [if_pos (by rw [← hle.1]; exact hi)]
        exact ⟨_, by unfold rg_ln rg_nx; rw [if_pos rfl], _, rfl, hle.st2 _ _⟩
      · cases h
    · cases h
  have same : ∀ x : rg_O, x = some q → (∀ p L1 S1 M1, q ≠ .inl (p, L1, S1, M1)) → ∃ q', x = some q' ∧ rg_Lo q q' := by
    intro x hx hne
    refine ⟨q, hx, ?_⟩
    match q, hne with
    | .inl (p, L1, S1, M1), hne => exact absurd rfl (hne p L1 S1 M1)
    | .inr z, _ => rfl
  cases i with
  | aload_n k => exact ldA k 1 h
  | aload k => exact ldA k 2 h
  | iload_n k => exact ldI k 1 h
  | iload k => exact ldI k 2 h
  | lload_n k => exact ldL k 1 h
  | lload k => exact ldL k 2 h
  | istore_n k => exact stI k 1 h
  | istore k => exact stI k 2 h
  | lstore_n k => exact stL k 1 h
  | lstore k => exact stL k 2 h
  | astore_n k => exact stA k 1 h
  | astore k => exact stA k 2 h
  | iinc k x =>
    simp only [rg_op, rg_iinc] at h ⊢
    split at h
    · rename_i hx
      split at h
      · rename_i hn
        cases h
        rw [hle.ld hx]
        simp only
        rw [if_pos hn]
        exact ⟨_, rfl, _, rfl, hle.st1 _ _⟩
      · cases h
    · cases h
  | iconst k => exact rg_mo_of hle mo_push mo_push h
  | lconst k => exact rg_mo_of hle mo_push mo_push h
  | bipush k => exact rg_mo_of hle mo_push mo_push h
  | sipush k => exact rg_mo_of hle mo_push mo_push h
  | ldc k => exact rg_mo_of hle mo_ldcI mo_ldcI h
  | ldc_w k => exact rg_mo_of hle mo_ldcI mo_ldcI h
  | ldc2_w k => exact rg_mo_of hle mo_ldcL mo_ldcL h
  | iadd => exact rg_mo_of hle mo_i2 mo_i2 h
  | isub => exact rg_mo_of hle mo_i2 mo_i2 h
  | imul => exact rg_mo_of hle mo_i2 mo_i2 h
  | iand => exact rg_mo_of hle mo_i2 mo_i2 h
  | ior => exact rg_mo_of hle mo_i2 mo_i2 h
  | ixor => exact rg_mo_of hle mo_i2 mo_i2 h
  | ishl => exact rg_mo_of hle mo_i2 mo_i2 h
  | ishr => exact rg_mo_of hle mo_i2 mo_i2 h
  | iushr => exact rg_mo_of hle mo_i2 mo_i2 h
  | idiv => exact rg_mo_of hle mo_dv2 mo_dv2 h
  | irem => exact rg_mo_of hle mo_dv2 mo_dv2 h
  | ineg => exact rg_mo_of hle mo_i1 mo_i1 h
  | i2l => exact rg_mo_of hle mo_i1 mo_i1 h
  | i2c => exact rg_mo_of hle mo_i1 mo_i1 h
  | i2b => exact rg_mo_of hle mo_i1 mo_i1 h
  | l2i => exact rg_mo_of hle mo_l1 mo_l1 h
  | lneg => exact rg_mo_of hle mo_l1 mo_l1 h
  | ladd => exact rg_mo_of hle mo_l2 mo_l2 h
  | lsub => exact rg_mo_of hle mo_l2 mo_l2 h
  | lmul => exact rg_mo_of hle mo_l2 mo_l2 h
  | land => exact rg_mo_of hle mo_l2 mo_l2 h
  | lor => exact rg_mo_of hle mo_l2 mo_l2 h
  | ldiv => exact rg_mo_of hle mo_e2 mo_e2 h
  | lrem => exact rg_mo_of hle mo_e2 mo_e2 h
  | lshl => exact rg_mo_of hle mo_s2 mo_s2 h
  | lshr => exact rg_mo_of hle mo_s2 mo_s2 h
  | lcmp =>
    simp only [rg_op] at h ⊢
    split at h
    · obtain ⟨h1, h2⟩ := rg_ln_inv h
      subst h1
      cases h2
      exact ⟨_, rfl, _, rfl, hle⟩
    · cases h
  | dup => exact rg_mo_of hle mo_dup mo_dup h
  | dup_x1 => exact rg_mo_of hle mo_dupx1 mo_dupx1 h
  | dup_x2 => exact rg_mo_of hle mo_dupx2 mo_dupx2 h
  | dup2 => exact rg_mo_of hle mo_dup2 mo_dup2 h
  | pop => exact rg_mo_of hle mo_pop mo_pop h
  | goto off =>
    simp only [rg_op] at h ⊢
    obtain ⟨h1, h2⟩ := rg_ln_inv h
    subst h1
    obtain ⟨q', g1, g2⟩ := rg_mo_of hle mo_jp mo_jp h2
    exact ⟨q', by unfold rg_ln; rw [if_pos rfl]; exact g1, g2⟩
  | ifCond cd off => exact rg_mo_of hle mo_if1 mo_if1 h
  | if_icmp cd off => exact rg_mo_of hle mo_if2 mo_if2 h
  | tableswitch dflt lo hi offs => exact rg_mo_of hle mo_tsw mo_tsw h
  | getfield k =>
    simp only [rg_op] at h ⊢
    split at h
    · rename_i hc
      rw [if_pos hc]
      exact rg_mo_of hle mo_getS mo_getS h
    · rename_i hc
      rw [if_neg hc]
      exact rg_mo_of hle mo_getf mo_getf h
  | getstatic k =>
    simp only [rg_op] at h ⊢
    split at h
    · rename_i hc
      rw [if_pos hc]
      exact rg_mo_of hle mo_push mo_push h
    · cases h
  | putfield k => exact rg_mo_of hle mo_putf mo_putf h
  | iaload => exact rg_mo_of hle mo_iald mo_iald h
  | laload => exact rg_mo_of hle mo_lald mo_lald h
  | aaload => exact rg_mo_of hle mo_aald mo_aald h
  | baload => exact rg_mo_of hle mo_bald mo_bald h
  | iastore => exact rg_mo_of hle mo_iast mo_iast h
  | lastore => exact rg_mo_of hle mo_last mo_last h
  | arraylength => exact rg_mo_of hle mo_alen mo_alen h
  | invokevirtual k =>
    refine same _ h ?_
    intro p L1 S1 M1 e
    subst e
    simp only [rg_op, rg_invV, rg_call] at h
    (repeat' split at h) <;> cases h
  | invokestatic k =>
    simp only [rg_op] at h ⊢
    split at h
    · rename_i hc
      rw [if_pos hc]
      exact rg_mo_of hle mo_cpy mo_cpy h
    · rename_i hc
      rw [if_neg hc]
      refine same _ h ?_
      intro p L1 S1 M1 e
      subst e
      simp only [rg_invS, rg_call] at h
      (repeat' split at h) <;> cases h
  | ireturn =>
    refine same _ h ?_
    intro p L1 S1 M1 e
    subst e
    simp only [rg_op, rg_iret, rg_ln] at h
    (repeat' split at h) <;> cases h
  | lreturn =>
    refine same _ h ?_
    intro p L1 S1 M1 e
    subst e
    simp only [rg_op, rg_lret, rg_ln] at h
    (repeat' split at h) <;> cases h
  | areturn =>
    refine same _ h ?_
    intro p L1 S1 M1 e
    subst e
    simp only [rg_op, rg_aret, rg_ln] at h
    (repeat' split at h) <;> cases h
  | return_ =>
    refine same _ h ?_
    intro p L1 S1 M1 e
    subst e
    simp only [rg_op, rg_vret, rg_ln] at h
    (repeat' split at h) <;> cases h
  | _ => cases h
theorem rg_exec_more : ∀ (f d y pc : Nat) (L L' : rg_Ls) (S : List Value) (M : rg_M) (x : Option Value × rg_M), rg_Le L L' → rg_exec f d y pc L S M = some x → rg_exec f d y pc L' S M = some x := by
  intro f
  induction f with
  | zero => intro d y pc L L' S M x _ h; cases h
  | succ f ih =>
    intro d y pc L L' S M x hle h
    rw [rg_exec] at h ⊢
    cases hs : rg_step d y pc L S M with
    | none => rw [hs] at h; cases h
    | some o =>
      rw [hs] at h
      have key : ∃ o', rg_step d y pc L' S M = some o' ∧ rg_Lo o o' := by
        unfold rg_step at hs ⊢
        split at hs
        · exact rg_op_more hle hs
        · cases hs
      obtain ⟨o', e1, e2⟩ := key
      rw [e1]
      match o, h, e2 with
      | .inl (pc', L1, S1, M1), h, e2 =>
        obtain ⟨L2, rfl, hle2⟩ := e2
        exact ih _ _ _ _ _ _ _ _ hle2 h
      | .inr (.inr r), h, e2 =>
        cases e2
        exact h
      | .inr (.inl (y', as, rest)), h, e2 =>
        cases e2
        cases d with
        | zero => cases h
        | succ d' =>
          cases he : rg_exec f d' y' 0 (rg_ent y' as) [] M with
          | none => simp only [he] at h; cases h
          | some q =>
            simp only [he] at h ⊢
            exact ih _ _ _ _ _ _ _ _ hle h
theorem rg_At.more {d y pc : Nat} {L L' : rg_Ls} {S : List Value} {M : rg_M} {res : Option Value × rg_M} (h : rg_Le L L') (k : rg_At d y pc L S M res) : rg_At d y pc L' S M res := by
  obtain ⟨f, hf⟩ := k
  exact ⟨f, rg_exec_more _ _ _ _ _ _ _ _ _ h hf⟩
/-- for lists that are written out -/
def rg_le : rg_Ls → rg_Ls → Prop
  | [], [] => True
  | none :: t, _ :: t' => rg_le t t'
  | some v :: t, some v' :: t' => v = v' ∧ rg_le t t'
  | _, _ => False
theorem rg_le_ok : ∀ {L L' : rg_Ls}, rg_le L L' → rg_Le L L'
  | [], [], _ => ⟨rfl, fun i v h => by simp at h⟩
  | [], _ :: _, h => by cases h
  | none :: t, [], h => by cases h
  | some _ :: t, [], h => by cases h
  | some _ :: t, none :: t', h => by cases h
  | none :: t, o :: t', h => by
    have ih := rg_le_ok (L := t) (L' := t') (by simpa [rg_le] using h)
    refine ⟨by simp [ih.1], fun i v hi => ?_⟩
    cases i with
    | zero => simp at hi
    | succ i => simpa using ih.2 i v (by simpa using hi)
  | some v0 :: t, some v1 :: t', h => by
    obtain ⟨rfl, h⟩ := h
    have ih := rg_le_ok (L := t) (L' := t') h
    refine ⟨by simp [ih.1], fun i v hi => ?_⟩
    cases i with
    | zero => simpa using hi
    | succ i => simpa using ih.2 i v (by simpa using hi)
