/-! a constructor's whole run, and the first memory -/
theorem rc_m0 {C : rc_C} : C.length ≤ C.length ∧ rc_sz C ≤ rc_sz C := ⟨Nat.le_refl _, Nat.le_refl _⟩
theorem rc_mA {C D : rc_C} : C.length ≤ (C ++ D).length ∧ rc_sz C ≤ rc_sz (C ++ D) := ⟨by rw [List.length_append]; exact Nat.le_add_right _ _, by rw [rc_sz_app]; exact Nat.le_add_right _ _⟩
theorem rc_mS {C : rc_C} {c : Nat} {x0 x : rc_Cell} (h : C[c]? = some x0) (he : rc_one x = rc_one x0) : C.length ≤ (C.set c x).length ∧ rc_sz C ≤ rc_sz (C.set c x) := ⟨by rw [List.length_set]; exact Nat.le_refl _, by rw [rc_sz_set h he]; exact Nat.le_refl _⟩
theorem rc_op_mono {y n pc pc' : Nat} {i : Instr} {L L' : rg_Ls} {S S' : List Value} {C C1 : rc_C} (h : rc_op y i n pc L S C = some (.inl (pc', L', S', C1))) : C.length ≤ C1.length ∧ rc_sz C ≤ rc_sz C1 := by
  cases i with
  | aload_n k => simp only [rc_op, rc_ldA, rc_nx] at h; split at h <;> (try split at h) <;> cases h; exact rc_m0
  | aload k => simp only [rc_op, rc_ldA, rc_nx] at h; split at h <;> (try split at h) <;> cases h; exact rc_m0
  | iload_n k => simp only [rc_op, rc_ldI, rc_nx] at h; split at h <;> (try split at h) <;> cases h; exact rc_m0
  | iconst k => simp only [rc_op, rc_push, rc_nx] at h; split at h <;> cases h; exact rc_m0
  | lconst k => simp only [rc_op, rc_push, rc_nx] at h; split at h <;> cases h; exact rc_m0
  | bipush k => simp only [rc_op, rc_push, rc_nx] at h; split at h <;> cases h; exact rc_m0
  | sipush k => simp only [rc_op, rc_push, rc_nx] at h; split at h <;> cases h; exact rc_m0
  | dup => simp only [rc_op, rc_nx] at h; split at h <;> (try split at h) <;> cases h; exact rc_m0
  | istore_n k => simp only [rc_op, rc_nx] at h; split at h <;> (try split at h) <;> cases h; exact rc_m0
  | iinc k x => simp only [rc_op, rc_nx] at h; split at h <;> (try split at h) <;> cases h; exact rc_m0
  | if_icmp cd off =>
    cases cd with
    | ge => simp only [rc_op, rc_nx] at h; split at h <;> (try split at h) <;> cases h; exact rc_m0
    | _ => cases h
  | goto off => simp only [rc_op, rc_nx] at h; split at h <;> cases h; exact rc_m0
  | putfield k =>
    simp only [rc_op, rc_put, rc_nx] at h
    split at h
    · split at h
      · rename_i hs
        split at h
        · cases h
          exact rc_mS hs (by simp [rc_one])
        · cases h
      · cases h
    · cases h
  | getfield k =>
    simp only [rc_op, rc_get, rc_nx] at h
    split at h
    · split at h
      · split at h
        · split at h <;> cases h
          exact rc_m0
        · cases h
      · cases h
    · cases h
  | new k =>
    simp only [rc_op, rc_nx] at h
    split at h
    · split at h <;> cases h
      exact rc_mA
    · cases h
  | newarray t =>
    cases t with
    | int => simp only [rc_op, rc_arr, rc_nx] at h; split at h <;> (try split at h) <;> cases h; exact rc_mA
    | long => simp only [rc_op, rc_arr, rc_nx] at h; split at h <;> (try split at h) <;> cases h; exact rc_mA
    | _ => cases h
  | anewarray k => simp only [rc_op, rc_nx] at h; split at h <;> (try split at h) <;> cases h; exact rc_mA
  | multianewarray k dm =>
    match dm, h with
    | 2, h => simp only [rc_op, rc_nx] at h; split at h <;> (try split at h) <;> cases h; exact rc_mA
    | 0, h => cases h
    | 1, h => cases h
    | dm + 3, h => cases h
  | aastore =>
    simp only [rc_op, rc_nx] at h
    split at h
    · split at h
      · rename_i hs hv
        split at h <;> cases h
        exact rc_mS hs rfl
      · cases h
    · cases h
  | invokespecial k =>
    simp only [rc_op, rc_nx] at h
    split at h
    · split at h <;> (try split at h) <;> cases h
      exact rc_m0
    · split at h <;> (try split at h) <;> cases h
    · cases h
  | return_ => simp only [rc_op] at h; split at h <;> (try split at h) <;> cases h
  | _ => cases h
theorem rc_mono2 {f d y pc : Nat} {L : rg_Ls} {S : List Value} {C C' : rc_C} (h : rc_exec f d y pc L S C = some C') : C.length ≤ C'.length ∧ rc_sz C ≤ rc_sz C' := rc_mono f d y pc L S C C' h (fun _ _ _ _ _ _ _ _ _ _ _ _ h2 => rc_op_mono h2)
theorem rc_exec_lt {f d y pc : Nat} {L : rg_Ls} {S : List Value} {C C' : rc_C} (h : rc_exec f d y pc L S C = some C') : y < 13 := by
  cases f with
  | zero => cases h
  | succ f =>
    cases hf : rc_fetch y pc with
    | none => simp [rc_exec, hf] at h
    | some q => exact (rc_fetch_ok (i := q.1) (n := q.2) hf).1
theorem rc_ent_loc {ρ : Nat → Nat} {y : Nat} {as : List Value} (h : (rg_args as).length ≤ rc_maxL y) (hok : as.all rg_okv = true) : rg_loc ρ (rc_maxL y) (rc_ent y as) ((lg_sl (as.map (rg_cv ρ)) ++ List.replicate (rc_maxL y - (lg_sl (as.map (rg_cv ρ))).length) Slot.unset).toArray) := by
  have hc : ∀ v ∈ as, v.category = 2 → ∃ x, v = .long x := by
    intro v hv hv2
    have h1 := List.all_eq_true.mp hok v hv
    cases v <;> first | exact ⟨_, rfl⟩ | (simp [rg_okv] at h1; done) | (simp [Value.category] at hv2; done)
  have hl := lv_entry (as.map (rg_cv ρ)) (n := rc_maxL y) (by rw [rg_args_len ρ as hc]; exact h)
  refine ⟨by unfold rc_ent; rw [List.length_append, List.length_replicate]; omega, hl.1, hl.2.1, fun i v hi => ?_⟩
  unfold rc_ent at hi
  by_cases hlt : i < (rg_args as).length
  · rw [List.getElem?_append_left hlt] at hi
    have h2 := rg_args_get ρ as 0 i v hc hi
    rw [Nat.zero_add] at h2
    exact hl.2.2 _ h2
  · rw [List.getElem?_append_right (by omega)] at hi
    have := List.mem_of_getElem? hi
    rw [List.mem_replicate] at this
    cases this.2
/-- THE CONSTRUCTORS' MACHINE IS SOUND -/
theorem rc_sound (l : Launch) (dC : Nat → ClassId) (dI : Nat → Nat → Nat) (b : Nat) (cA : Nat → ClassId) : ∀ (f d y pc : Nat) (L : rg_Ls) (S : List Value) (C C' : rc_C), rc_exec f (d + 1) y pc L S C = some C' → ∀ (p : Program) (e : Env) (R : Room) (s : State) (m : MethodId) (args : Array Value) (below : List Frame) (meth : Method) (c : Code) (n0 z0 : Nat), rc_Cx p R s m args meth c dC dI b cA y (d + 1) → meth.sig.returnType = none → meth.locks = false → R.cells = C'.length - n0 → R.slots = rc_sz C' - z0 → ∀ (Qc : Array Value → State → Outcome → State → Prop), (∀ t : State, s.WarmedH t.vm → t.heap.size = b + C'.length → va_P (dC, dI) rg_classes (rc_w b cA C') t.heap → va_F (fun q => b ≤ q) s t → Qc args s (.returned none) t) → rc_G p l e R s m args below meth c dC dI b cA (rc_maxL y) n0 z0 (MQ below Qc args s (C'.length - n0) (rc_sz C' - z0) (fun q => b ≤ q)) pc L S C := by
  intro f
  induction f with
  | zero => intro d y pc L S C C' h; cases h
  | succ f ih =>
    intro d y pc L S C C' h p e R s m args below meth c n0 z0 hC hr hlocks hRc hRs Qc hq
    have hmet : ∀ (d y : Nat) (as : List Value) (C C' : rc_C), rc_exec f (d + 1) y 0 (rc_ent y as) [] C = some C' → (rg_args as).length ≤ rc_maxL y → as.all rg_okv = true → rc_Met l dC dI b cA (d + 1) y as C C' := by
      intro d y as C C' he hargs hok
      have hy := rc_exec_lt he
      obtain ⟨r1, r2, r3, r4, r5, r6, r7, r8⟩ := rc_row_spec hy
      refine Met.ofW (cc := rc_bytes y) (maxL := rc_maxL y) (ret := none) r6 rfl ?_
      intro p e s m args below meth c s₁ B hml hv
      obtain ⟨rfl, hsz, hP, hK, hN, hV⟩ := hv
      have hts := atoms_spec (ws := rc_ws y) B.pre
      rw [lg_entry_eq]
      have hin : meth.name = "<init>" := by rw [(name_of_methodNamed B.named B.method).1]; exact r8
      have k2 := ih d y 0 (rc_ent y as) [] C C' he p e ({ frames := d + 1, cells := C'.length - C.length, slots := rc_sz C' - rc_sz C, locals := 64 * (d + 1) }) s m _ below meth c C.length (rc_sz C) ⟨B.exec, B.bytes, hml, findClass_of_methodNamed B.named, fun w hw => hts w (List.mem_cons_of_mem _ hw), hK, Nat.le_refl _, Nat.le_refl _, hN, hV, hy, hin, by omega⟩ B.returns B.notSynchronized rfl rfl (rg_Qx none (fun t => t.heap.size = b + C'.length ∧ va_P (dC, dI) rg_classes (rc_w b cA C') t.heap) (fun q => b ≤ q)) (fun t hW hz hP hF => ⟨⟨rfl, hz, hP⟩, hF⟩) _ _ _ (rc_ent_loc hargs hok) hsz hP va_S.rf (Nat.le_refl _) (Nat.le_refl _)
      rw [Nat.sub_self, Nat.sub_self] at k2
      exact k2
    simp only [rc_exec] at h
    split at h
    · cases h
    · rename_i i n hf
      obtain ⟨hy, hdg⟩ := rc_fetch_ok hf
      split at h
      · cases h
      · rename_i pc' L' S' C1 ho
        obtain ⟨-, hso⟩ := rc_so_op (l := l) (e := e) (below := below) (n0 := n0) (z0 := z0) hC (by omega) hdg ho
        obtain ⟨g1, g2⟩ := rc_mono2 h
        exact hso _ (by rw [hRc]; omega) (by rw [hRs]; omega) (ih d y pc' L' S' C1 C' h p e R s m args below meth c n0 z0 hC hr hlocks hRc hRs Qc hq)
      · rename_i ho
        have hso := rc_so_op (l := l) (e := e) (below := below) (n0 := n0) (z0 := z0) hC (by omega) hdg ho
        cases h
        exact hso hr hlocks Qc hq
      · rename_i y' as rest ho
        have hso := rc_so_op (l := l) (e := e) (below := below) (n0 := n0) (z0 := z0) hC (by omega) hdg ho
        cases d with
        | zero => cases h
        | succ d' =>
          simp only at h
          split at h
          · cases h
          · rename_i C1 he
            obtain ⟨g1, g2⟩ := rc_mono2 he
            obtain ⟨g3, g4⟩ := rc_mono2 h
            exact hso.2 (d' + 1) rfl C1 g1 g2 (hmet d' y' as C C1 he hso.1.1 hso.1.2) _ (by rw [hRc]; omega) (by rw [hRs]; omega) (ih (d' + 1) y (pc + 3) L rest C1 C' h p e R s m args below meth c n0 z0 hC hr hlocks hRc hRs Qc hq)
/-- a constructor's contract out of its run -/
theorem rc_met (l : Launch) (dC : Nat → ClassId) (dI : Nat → Nat → Nat) (b : Nat) (cA : Nat → ClassId) {f d y : Nat} {as : List Value} {C C' : rc_C} (he : rc_exec f (d + 1) y 0 (rc_ent y as) [] C = some C') (hargs : (rg_args as).length ≤ rc_maxL y) (hok : as.all rg_okv = true) : rc_Met l dC dI b cA (d + 1) y as C C' := by
  have hy := rc_exec_lt he
  obtain ⟨r1, r2, r3, r4, r5, r6, r7, r8⟩ := rc_row_spec hy
  refine Met.ofW (cc := rc_bytes y) (maxL := rc_maxL y) (ret := none) r6 rfl ?_
  intro p e s m args below meth c s₁ B hml hv
  obtain ⟨rfl, hsz, hP, hK, hN, hV⟩ := hv
  have hts := atoms_spec (ws := rc_ws y) B.pre
  rw [lg_entry_eq]
  have hin : meth.name = "<init>" := by rw [(name_of_methodNamed B.named B.method).1]; exact r8
  have k2 := rc_sound l dC dI b cA f d y 0 (rc_ent y as) [] C C' he p e ({ frames := d + 1, cells := C'.length - C.length, slots := rc_sz C' - rc_sz C, locals := 64 * (d + 1) }) s m _ below meth c C.length (rc_sz C) ⟨B.exec, B.bytes, hml, findClass_of_methodNamed B.named, fun w hw => hts w (List.mem_cons_of_mem _ hw), hK, Nat.le_refl _, Nat.le_refl _, hN, hV, hy, hin, by omega⟩ B.returns B.notSynchronized rfl rfl (rg_Qx none (fun t => t.heap.size = b + C'.length ∧ va_P (dC, dI) rg_classes (rc_w b cA C') t.heap) (fun q => b ≤ q)) (fun t hW hz hP hF => ⟨⟨rfl, hz, hP⟩, hF⟩) _ _ _ (rc_ent_loc hargs hok) hsz hP va_S.rf (Nat.le_refl _) (Nat.le_refl _)
  rw [Nat.sub_self, Nat.sub_self] at k2
  exact k2
