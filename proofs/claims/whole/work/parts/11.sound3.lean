/-! soundness of a whole run -/
section SND
variable {p : Program} {l : Launch} {e : Env} {R : Room} {s : State} {m : MethodId} {args : Array Value} {below : List Frame} {meth : Method} {c : Code}
variable {dC : Nat → ClassId} {dI : Nat → Nat → Nat} {ρ : Nat → Nat} {cA : Nat → ClassId} {y d n pc : Nat} {L : rg_Ls} {S : List Value} {M : rg_M}
variable {o : (Nat × rg_Ls × List Value × rg_M) ⊕ ((Nat × List Value × List Value) ⊕ Option Value)}
set_option maxHeartbeats 4000000 in
theorem rg_so_op {i : Instr} (hC : rg_Cx p R s m args c dC dI ρ cA y d) (hdg : decode (rg_bytes y) pc = .ok (i, n)) (h : rg_op (rg_own y) (rg_ret y) d i n pc L S M = some o) : rg_Sd p l e R s m args below meth c dC dI ρ cA y d pc L S M o := by
  have hx := hC.1
  have hb := hC.2.1
  cases i with
  | aload_n k => exact rg_so_loadA (fun hn x rest ls H locs Q hl k' => by subst hn; exact lv_aload_n hx hb hdg rfl hl k') h
  | aload k => exact rg_so_loadA (fun hn x rest ls H locs Q hl k' => by subst hn; exact lv_aload hx hb hdg hl k') h
  | iload_n k => exact rg_so_loadI (fun hn x rest ls H locs Q hl k' => by subst hn; exact lv_iload_n hx hb hdg rfl hl k') h
  | iload k => exact rg_so_loadI (fun hn x rest ls H locs Q hl k' => by subst hn; exact lv_iload hx hb hdg hl k') h
  | lload_n k => exact rg_so_loadL (fun hn x rest ls H locs Q hl k' => by subst hn; exact lv_lload_n hx hb hdg rfl hl k') h
  | lload k => exact rg_so_loadL (fun hn x rest ls H locs Q hl k' => by subst hn; exact lv_lload hx hb hdg hl k') h
  | istore_n k => exact rg_so_storI (fun hn x rest ls H locs Q lv hl hi k' => by subst hn; exact lv_istore_n hx hb hdg rfl hl hi rfl k') h
  | istore k => exact rg_so_storI (fun hn x rest ls H locs Q lv hl hi k' => by subst hn; exact lv_istore hx hb hdg hl hi rfl k') h
  | lstore_n k => exact rg_so_storL (fun hn x rest ls H locs Q lv hl hi k' => by subst hn; exact lv_lstore_n hx hb hdg rfl hl hi rfl k') h
  | lstore k => exact rg_so_storL (fun hn x rest ls H locs Q lv hl hi k' => by subst hn; exact lv_lstore hx hb hdg hl hi rfl k') h
  | astore_n k => exact rg_so_storA (fun hn x rest ls H locs Q lv hl hi k' => by subst hn; exact lv_astore_n hx hb hdg rfl hl hi rfl k') h
  | astore k => exact rg_so_storA (fun hn x rest ls H locs Q lv hl hi k' => by subst hn; exact lv_astore hx hb hdg hl hi rfl k') h
  | iinc k x => exact rg_so_iinc hx hb hdg h
  | iconst k => exact rg_so_push (fun hn rest ls H locs Q k' => by subst hn; exact lv_iconst hx hb hdg rfl k') h
  | lconst k => exact rg_so_push (fun hn rest ls H locs Q k' => by subst hn; exact lv_lconst hx hb hdg rfl k') h
  | bipush k => exact rg_so_push (fun hn rest ls H locs Q k' => by subst hn; exact lv_bipush hx hb hdg rfl k') h
  | sipush k => exact rg_so_push (fun hn rest ls H locs Q k' => by subst hn; exact lv_sipush hx hb hdg rfl k') h
  | ldc k => exact rg_so_ldc hC hdg h
  | ldc_w k => exact rg_so_ldcw hC hdg h
  | ldc2_w k => exact rg_so_ldcL hC hdg h
  | iadd => exact rg_so_i2 (fun hn x z rest ls H locs Q k => by subst hn; exact lv_iadd hx hb hdg k) h
  | isub => exact rg_so_i2 (fun hn x z rest ls H locs Q k => by subst hn; exact lv_isub hx hb hdg k) h
  | imul => exact rg_so_i2 (fun hn x z rest ls H locs Q k => by subst hn; exact lv_imul hx hb hdg k) h
  | iand => exact rg_so_i2 (fun hn x z rest ls H locs Q k => by subst hn; exact lv_iand hx hb hdg k) h
  | ior => exact rg_so_i2 (fun hn x z rest ls H locs Q k => by subst hn; exact lv_ior hx hb hdg k) h
  | ixor => exact rg_so_i2 (fun hn x z rest ls H locs Q k => by subst hn; exact lv_ixor hx hb hdg k) h
  | ishl => exact rg_so_i2 (fun hn x z rest ls H locs Q k => by subst hn; exact lv_ishl hx hb hdg k) h
  | ishr => exact rg_so_i2 (fun hn x z rest ls H locs Q k => by subst hn; exact lv_ishr hx hb hdg k) h
  | iushr => exact rg_so_i2 (fun hn x z rest ls H locs Q k => by subst hn; exact lv_iushr hx hb hdg rfl k) h
  | idiv => exact rg_so_d2 (fun hn x z rest ls H locs Q hz k => by subst hn; exact lv_idiv hx hb hdg hz k) h
  | irem => exact rg_so_d2 (fun hn x z rest ls H locs Q hz k => by subst hn; exact lv_irem hx hb hdg hz k) h
  | ineg => exact rg_so_i1 (fun hn x rest ls H locs Q k => by subst hn; exact lv_ineg hx hb hdg k) h
  | i2l => exact rg_so_i1 (fun hn x rest ls H locs Q k => by subst hn; exact lv_i2l hx hb hdg rfl k) h
  | i2c => exact rg_so_i1 (fun hn x rest ls H locs Q k => by subst hn; exact lv_i2c hx hb hdg rfl k) h
  | i2b => exact rg_so_i1 (fun hn x rest ls H locs Q k => by subst hn; exact lv_i2b hx hb hdg rfl k) h
  | l2i => exact rg_so_l1 (fun hn x rest ls H locs Q k => by subst hn; exact lv_l2i hx hb hdg rfl k) h
  | lneg => exact rg_so_l1 (fun hn x rest ls H locs Q k => by subst hn; exact lv_lneg hx hb hdg k) h
  | ladd => exact rg_so_l2 (fun hn x z rest ls H locs Q k => by subst hn; exact lv_ladd hx hb hdg k) h
  | lsub => exact rg_so_l2 (fun hn x z rest ls H locs Q k => by subst hn; exact lv_lsub hx hb hdg k) h
  | lmul => exact rg_so_l2 (fun hn x z rest ls H locs Q k => by subst hn; exact lv_lmul hx hb hdg k) h
  | land => exact rg_so_l2 (fun hn x z rest ls H locs Q k => by subst hn; exact lv_land hx hb hdg k) h
  | lor => exact rg_so_l2 (fun hn x z rest ls H locs Q k => by subst hn; exact lv_lor hx hb hdg k) h
  | ldiv => exact rg_so_e2 (fun hn x z rest ls H locs Q hz k => by subst hn; exact lv_ldiv hx hb hdg hz k) h
  | lrem => exact rg_so_e2 (fun hn x z rest ls H locs Q hz k => by subst hn; exact lv_lrem hx hb hdg hz k) h
  | lshl => exact rg_so_s2 (fun hn x z rest ls H locs Q k => by subst hn; exact lv_lshl hx hb hdg rfl k) h
  | lshr => exact rg_so_s2 (fun hn x z rest ls H locs Q k => by subst hn; exact lv_lshr hx hb hdg rfl k) h
  | lcmp =>
    simp only [rg_op] at h
    split at h
    · obtain ⟨h1, h2⟩ := rg_ln_inv h
      subst h1
      cases h2
      intro Q k ls H locs hL hP hS
      exact W.lcmp hx hb hdg (k ls H locs hL hP hS)
    · cases h
  | dup => exact rg_so_dup hx hb hdg h
  | dup_x1 => exact rg_so_dupx1 hx hb hdg h
  | dup_x2 => exact rg_so_dupx2 hx hb hdg h
  | dup2 => exact rg_so_dup2 hx hb hdg h
  | pop => exact rg_so_pop hx hb hdg h
  | goto off =>
    simp only [rg_op] at h
    obtain ⟨h1, h2⟩ := rg_ln_inv h
    subst h1
    exact rg_so_jp (fun rest ls H locs Q ht k => lv_goto hx hb hdg ht k) h2
  | ifCond cd off => exact rg_so_if1 hx hb hdg h
  | if_icmp cd off => exact rg_so_if2 hx hb hdg h
  | tableswitch dflt lo hi offs => exact rg_so_tsw hx hb hdg h
  | getfield k =>
    simp only [rg_op] at h
    split at h
    · rename_i h15
      exact rg_so_getS hC h15 hdg h
    · exact rg_so_getf hC hdg h
  | getstatic k =>
    simp only [rg_op] at h
    split at h
    · rename_i h15
      obtain ⟨h15, hk⟩ := h15
      subst hk
      exact rg_so_gets hC h15 hdg h
    · cases h
  | putfield k => exact rg_so_putf hC hdg h
  | iaload => exact rg_so_iald hC hdg h
  | laload => exact rg_so_lald hC hdg h
  | aaload => exact rg_so_aald hC hdg h
  | baload => exact rg_so_bald hC hdg h
  | iastore => exact rg_so_iast hC hdg h
  | lastore => exact rg_so_last hC hdg h
  | arraylength => exact rg_so_alen hC hdg h
  | invokevirtual k => exact rg_so_invV hC hdg h
  | invokestatic k =>
    simp only [rg_op] at h
    split at h
    · rename_i h6
      obtain ⟨h6, hk⟩ := h6
      subst hk
      exact rg_so_cpy hC h6 hdg h
    · exact rg_so_invS hC hdg h
  | ireturn => exact rg_so_iret hC hdg h
  | lreturn => exact rg_so_lret hC hdg h
  | areturn => exact rg_so_aret hC hdg h
  | return_ => exact rg_so_vret hC hdg h
  | _ => cases h
theorem rg_so_step (hC : rg_Cx p R s m args c dC dI ρ cA y d) (h : rg_step d y pc L S M = some o) : rg_Sd p l e R s m args below meth c dC dI ρ cA y d pc L S M o := by
  unfold rg_step at h
  split at h
  · rename_i i n hf
    exact rg_so_op hC (rg_fetch_ok hf).2 h
  · cases h
end SND
theorem rg_exec_lt {f d y pc : Nat} {L : rg_Ls} {S : List Value} {M : rg_M} {x : Option Value × rg_M} (h : rg_exec f d y pc L S M = some x) : y < 214 := by
  cases f with
  | zero => cases h
  | succ f =>
    cases hf : rg_fetch y pc with
    | none => simp [rg_exec, rg_step, hf] at h
    | some q => exact (rg_fetch_ok (i := q.1) (n := q.2) hf).1
theorem rg_ent_loc {ρ : Nat → Nat} {y : Nat} {as : List Value} (h : (rg_args as).length ≤ rg_maxL y) (hok : as.all rg_okv = true) : rg_loc ρ (rg_maxL y) (rg_ent y as) ((lg_sl (as.map (rg_cv ρ)) ++ List.replicate (rg_maxL y - (lg_sl (as.map (rg_cv ρ))).length) Slot.unset).toArray) := by
  have hc : ∀ v ∈ as, v.category = 2 → ∃ x, v = .long x := by
    intro v hv hv2
    have h1 := List.all_eq_true.mp hok v hv
    cases v <;> first | exact ⟨_, rfl⟩ | (simp [rg_okv] at h1; done) | (simp [Value.category] at hv2; done)
  have hl := lv_entry (as.map (rg_cv ρ)) (n := rg_maxL y) (by rw [rg_args_len ρ as hc]; exact h)
  refine ⟨by unfold rg_ent; rw [List.length_append, List.length_replicate]; omega, hl.1, hl.2.1, fun i v hi => ?_⟩
  unfold rg_ent at hi
  by_cases hlt : i < (rg_args as).length
  · rw [List.getElem?_append_left hlt] at hi
    have h2 := rg_args_get ρ as 0 i v hc hi
    rw [Nat.zero_add] at h2
    exact hl.2.2 _ h2
  · rw [List.getElem?_append_right (by omega)] at hi
    have := List.mem_of_getElem? hi
    rw [List.mem_replicate] at this
    cases this.2
/-- THE MACHINE IS SOUND: what it comes to, the method comes to -/
theorem rg_sound (l : Launch) (dC : Nat → ClassId) (dI : Nat → Nat → Nat) (ρ : Nat → Nat) (cA : Nat → ClassId) (hinj : ∀ a b, a < 149 → b < 149 → ρ a = ρ b → a = b) : ∀ (f d y pc : Nat) (L : rg_Ls) (S : List Value) (M : rg_M) (r : Option Value) (M' : rg_M), rg_exec f d y pc L S M = some (r, M') → ∀ (p : Program) (e : Env) (R : Room) (s : State) (m : MethodId) (args : Array Value) (below : List Frame) (meth : Method) (c : Code), rg_Cx p R s m args c dC dI ρ cA y d → meth.sig.returnType = rg_ret y → meth.locks = false → ∀ (Qc : Array Value → State → Outcome → State → Prop), (∀ t : State, s.WarmedH t.vm → va_P (dC, dI) rg_classes (rg_w ρ cA M') t.heap → va_F (rg_A ρ s.heap.size) s t → Qc args s (.returned (r.map (rg_cv ρ))) t) → rg_G p l e R s m args below meth c dC dI ρ cA (rg_maxL y) (MQ below Qc args s 0 0 (rg_A ρ s.heap.size)) pc L S M := by
  intro f
  induction f with
  | zero => intro d y pc L S M r M' h; cases h
  | succ f ih =>
    intro d y pc L S M r M' h p e R s m args below meth c hC hr hlocks Qc hq
    have hmet : ∀ (d y : Nat) (as : List Value) (M : rg_M) (r : Option Value) (M' : rg_M), rg_exec f d y 0 (rg_ent y as) [] M = some (r, M') → (rg_args as).length ≤ rg_maxL y → as.all rg_okv = true → rg_Met l dC dI ρ cA d y as M r M' := by
      intro d y as M r M' he hargs hok sz
      have hy := rg_exec_lt he
      refine va_MetF (cc := rg_bytes y) (maxL := rg_maxL y) (ret := rg_ret y) (rg_row_spec hy).2.2.2.2.1 rfl ?_
      intro p e s m args below meth c s₁ B hml hv
      obtain ⟨rfl, hsz, hP, hK, hN, hSx⟩ := hv
      subst hsz
      have hts := atoms_spec (ws := rg_ws y) B.pre
      rw [lg_entry_eq]
      exact ih d y 0 (rg_ent y as) [] M r M' he p e _ s m _ below meth c ⟨B.exec, B.bytes, hml, findClass_of_methodNamed B.named, fun w hw => hts w (List.mem_cons_of_mem _ hw), hK, fun M => rg_D hinj (fun a ha => Or.inl ⟨a, ha, rfl⟩) M, Nat.le_refl _, Nat.le_refl _, hN, hSx, hy⟩ B.returns B.notSynchronized _ (fun t hW hP hF => ⟨⟨rfl, hP⟩, hF⟩) _ _ _ (rg_ent_loc hargs hok) hP va_S.rf
    cases hs : rg_step d y pc L S M with
    | none => simp [rg_exec, hs] at h
    | some o =>
      have hso := rg_so_step (l := l) (e := e) (below := below) (meth := meth) hC hs
      match o, hs, hso with
      | .inl (pc', L', S', M1), hs, hso =>
        simp only [rg_exec, hs] at h
        exact hso _ (ih d y pc' L' S' M1 r M' h p e R s m args below meth c hC hr hlocks Qc hq)
      | .inr (.inr r1), hs, hso =>
        simp only [rg_exec, hs, Option.some.injEq, Prod.mk.injEq] at h
        obtain ⟨rfl, rfl⟩ := h
        exact hso hr hlocks Qc hq
      | .inr (.inl (y', as, rest)), hs, hso =>
        cases d with
        | zero => simp [rg_exec, hs] at h
        | succ d' =>
          cases he : rg_exec f d' y' 0 (rg_ent y' as) [] M with
          | none => simp [rg_exec, hs, he] at h
          | some q =>
            obtain ⟨r1, M1⟩ := q
            simp only [rg_exec, hs, he] at h
            exact hso.2 d' rfl r1 M1 (hmet d' y' as M r1 M1 he hso.1.1 hso.1.2) _ (ih (d' + 1) y (pc + 3) L (r1.toList ++ rest) M1 r M' h p e R s m args below meth c hC hr hlocks Qc hq)
/-- a method's contract out of its run -/
theorem rg_met (l : Launch) (dC : Nat → ClassId) (dI : Nat → Nat → Nat) (ρ : Nat → Nat) (cA : Nat → ClassId) (hinj : ∀ a b, a < 149 → b < 149 → ρ a = ρ b → a = b) {f d y : Nat} {as : List Value} {M : rg_M} {r : Option Value} {M' : rg_M} (he : rg_exec f d y 0 (rg_ent y as) [] M = some (r, M')) (hargs : (rg_args as).length ≤ rg_maxL y) (hok : as.all rg_okv = true) : rg_Met l dC dI ρ cA d y as M r M' := by
  intro sz
  have hy := rg_exec_lt he
  refine va_MetF (cc := rg_bytes y) (maxL := rg_maxL y) (ret := rg_ret y) (rg_row_spec hy).2.2.2.2.1 rfl ?_
  intro p e s m args below meth c s₁ B hml hv
  obtain ⟨rfl, hsz, hP, hK, hN, hSx⟩ := hv
  subst hsz
  have hts := atoms_spec (ws := rg_ws y) B.pre
  rw [lg_entry_eq]
  exact rg_sound l dC dI ρ cA hinj f d y 0 (rg_ent y as) [] M r M' he p e _ s m _ below meth c ⟨B.exec, B.bytes, hml, findClass_of_methodNamed B.named, fun w hw => hts w (List.mem_cons_of_mem _ hw), hK, fun M => rg_D hinj (fun a ha => Or.inl ⟨a, ha, rfl⟩) M, Nat.le_refl _, Nat.le_refl _, hN, hSx, hy⟩ B.returns B.notSynchronized _ (fun t hW hP hF => ⟨⟨rfl, hP⟩, hF⟩) _ _ _ (rg_ent_loc hargs hok) hP va_S.rf
