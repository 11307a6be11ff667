/-! soundness of the constructors' machine: calls, and a whole run -/
theorem rc_iv_k : (List.range 13).all (fun o => (rc_iv.getD o []).all (fun e => decide (e.2.1 ≤ 2))) = true := by decide +kernel
theorem rc_iv_kinds {o i k y z : Nat} (h : rc_inv o i = some (k, y, z)) : k ≤ 2 := by
  unfold rc_inv at h
  cases ht : rc_iv[o]? with
  | none => rw [ht] at h; cases h
  | some t =>
    rw [ht] at h
    have ho : o < 13 := by have := (List.getElem?_eq_some_iff.mp ht).1; simpa [rc_iv] using this
    have h1 := List.all_eq_true.mp rc_iv_k o (List.mem_range.mpr ho)
    rw [rg_getD ht] at h1
    have h2 := List.all_eq_true.mp h1 _ (rg_lk h)
    simp only [decide_eq_true_eq] at h2
    exact h2
section CSND
variable {p : Program} {l : Launch} {e : Env} {R : Room} {s : State} {m : MethodId} {args : Array Value} {below : List Frame} {meth : Method} {c : Code}
variable {dC : Nat → ClassId} {dI : Nat → Nat → Nat} {b : Nat} {cA : Nat → ClassId} {y d n pc n0 z0 : Nat} {L : rg_Ls} {S : List Value} {C : rc_C}
variable {o : (Nat × rg_Ls × List Value × rc_C) ⊕ ((Nat × List Value × List Value) ⊕ Unit)}
theorem rc_callx {H : Heap} {locs : List Loc} {cells slots mc ms : Nat} {Q : State → Prop} {ls : Array Slot} {st0 rest : List Value} {B : State → Prop} {A0 A1 free : Nat → Prop} {a : Array Value} {H0 : Heap} (hr : va_Run p l e R s m args below meth c H locs cells slots mc ms (F0 m pc ls st0) rest (rg_Qx none B A1 a) free) (hS : va_S A0 H0 H locs) (hA : ∀ q, q < H.size → A1 q → A0 q) (hf : ∀ q, free q → A0 q)
    (kk : ∀ (t : State) (H1 : Heap) (locs1 : List Loc), t.heap = H1 → s.vm.Alike t.vm → B t → va_S A0 H0 H1 locs1 → W p l e R s m args below meth c H1 locs1 (cells + mc) (slots + ms) Q (F0 m (pc + 3) ls rest)) : W p l e R s m args below meth c H locs cells slots Q (F0 m pc ls st0) := by
  intro T hT X
  obtain ⟨v, st₀, t, T', L, h0, X', hL, e1, e2, ⟨⟨hv, hb⟩, hz, hk⟩, st⟩ := hr T hT X
  cases hv
  rw [h0] at hz hk
  obtain ⟨t2, a1, b1⟩ := kk t T'.heap (locs ++ L) e1.symm (by rw [← e2]; exact X'.warmed.alike) hb
    ⟨Nat.le_trans hS.1 (by rw [e1]; exact hz), fun q h1 h2 => by rw [e1, hk q (Nat.lt_of_lt_of_le h1 hS.1) (fun z => h2 (hA q (Nat.lt_of_lt_of_le h1 hS.1) z))]; exact hS.2.1 q h1 h2, fun q hq => by
      rcases List.mem_append.mp hq with h | h
      · exact hS.2.2 q h
      · exact hf _ (hL q h)⟩ T' rfl X'
  exact ⟨t2, st t2 a1, b1⟩
theorem rc_pre_at {H : Heap} {U : State} (hK : va_K (dC, dI) rg_classes (rg_tys cA) s) (hN : rc_N s) (hV : rc_V s) (hz : H.size = b + C.length) (hP : va_P (dC, dI) rg_classes (rc_w b cA C) H) (hU : U.heap = H) (hW : s.WarmedH U.vm) : rc_Pre dC dI b cA C U :=
  ⟨by rw [hU]; exact hz, by rw [hU]; exact hP, va_K.moved hW.alike hK, fun o i y z h => va_Nw.warmM hW (hN o i y z h), rc_V.moved hW.alike hV⟩
theorem rc_so_inv {i : Nat} (hC : rc_Cx p R s m args meth c dC dI b cA y d) (hd1 : 1 ≤ d) (hdg : decode (rc_bytes y) pc = .ok (.invokespecial i, n)) (h : rc_op y (.invokespecial i) n pc L S C = some o) : rc_Sd p l e R s m args below meth c dC dI b cA n0 z0 y d pc L S C o := by
  obtain ⟨hx, hb, hml, hown, hts, hK, hfr, hlo, hN, hV, hy, hinit, hbs⟩ := hC
  have hon := (rc_row_spec hy).2.2.2.1
  simp only [rc_op] at h
  split at h
  · rename_i y0 z hi
    split at h
    · rename_i a r
      split at h
      · rename_i hcond
        obtain ⟨hn, hs8⟩ := hcond
        subst hn
        cases h
        obtain ⟨-, -, -, hlink⟩ := rc_iv_spec hi
        have hl := hlink (by decide)
        rw [hon] at hl
        refine ⟨⟨Nat.le_refl _, Nat.le_refl _⟩, fun Q _ _ kk ls H locs hL hz hP hS g1 g2 => ?_⟩
        refine W.objInit hx hb hown (hts _ hl) (hts _ rc_wO1) (hts _ rc_wO2) rfl (by rw [hml]; exact hL.2.1) rfl hdg (by omega) ?_ ?_
        · show 2 * (F0 m pc ls _).monitorRoom + ((r.map (rg_cv (rc_r b))).map fun v => v.category).sum + 12 ≤ R.locals
          have h9 := lv_room (m := m) (pc := pc) (ls := ls) (rest := (Value.ref a :: r).map (rg_cv (rc_r b))) (st := r.map (rg_cv (rc_r b))) (by rw [rg_sum_map]; exact hs8)
          omega
        · exact kk ls H locs hL hz hP hS g1 g2
      · cases h
    · cases h
  · rename_i kd y' z hne hi
    split at h
    · rename_i a rest hdrop
      split at h
      · rename_i hcond
        obtain ⟨h3, hlen, hs8, hargs, hok⟩ := hcond
        subst h3
        cases h
        have hokA : (Value.ref a :: (S.take (rc_np y')).reverse).all rg_okv = true := by
          simp only [List.all_cons, List.all_reverse, Bool.and_eq_true]
          exact ⟨rfl, hok⟩
        obtain ⟨hy', hk0, hk1, hk2⟩ := rc_iv_spec hi
        refine ⟨⟨hargs, hokA⟩, fun d' hd C' hm1 hm2 hM Q hc1 hc2 k ls H locs hL hz hP hS g1 g2 => ?_⟩
        subst hd
        obtain ⟨r1, r2, r3, r4, r5, r6, r7, r8⟩ := rc_row_spec hy'
        have hS' : S = S.take (rc_np y') ++ .ref a :: rest := by rw [← hdrop]; exact (List.take_append_drop _ _).symm
        have hn : ((S.take (rc_np y')).reverse.map (rg_cv (rc_r b))).length = rc_np y' := by rw [List.length_map, List.length_reverse, List.length_take]; omega
        have hst : (F0 m pc ls (S.map (rg_cv (rc_r b)))).stack = ((S.take (rc_np y')).reverse.map (rg_cv (rc_r b))).reverse ++ .ref (rc_r b a) :: rest.map (rg_cv (rc_r b)) := by
          show S.map (rg_cv (rc_r b)) = _
          rw [← List.map_reverse, List.reverse_reverse]
          conv => lhs; rw [hS']
          rw [List.map_append]
          rfl
        have hroom : d' + 1 ≤ R.frames ∧ 8 + (rc_maxL y' + 11) + 64 * d' ≤ R.locals := ⟨hfr, by omega⟩
        have hcs : C.length - n0 + (C'.length - C.length) = C'.length - n0 ∧ rc_sz C - z0 + (rc_sz C' - rc_sz C) = rc_sz C' - z0 := by omega
        have hfc : C.length - n0 + (C'.length - C.length) ≤ R.cells ∧ rc_sz C - z0 + (rc_sz C' - rc_sz C) ≤ R.slots := by rw [hcs.1, hcs.2]; exact ⟨hc1, hc2⟩
        have fin : ∀ (t : State) (H1 : Heap) (locs1 : List Loc), t.heap = H1 → s.vm.Alike t.vm → (t.heap.size = b + C'.length ∧ va_P (dC, dI) rg_classes (rc_w b cA C') t.heap) → va_S (fun q => b ≤ q) s.heap H1 locs1 → W p l e R s m args below meth c H1 locs1 (C.length - n0 + (C'.length - C.length)) (rc_sz C - z0 + (rc_sz C' - rc_sz C)) Q (F0 m (pc + 3) ls (rest.map (rg_cv (rc_r b)))) := by
          intro t H1 locs1 ht _ hB hS1
          rw [hcs.1, hcs.2]
          exact k ls H1 locs1 hL (by rw [← ht]; exact hB.1) (by rw [← ht]; exact hB.2) hS1 (by omega) (by omega)
        have hkd : kd = 0 ∨ kd = 1 ∨ 2 ≤ kd := by omega
        rcases hkd with rfl | rfl | hkd
        · have hl := hk0 rfl
          rw [hon] at hl
          exact rc_callx (rest := rest.map (rg_cv (rc_r b))) (va_runI (own := (rc_name y).cls) (b := rc_r b a) (As := (S.take (rc_np y')).reverse.map (rg_cv (rc_r b))) (rest := rest.map (rg_cv (rc_r b))) (n := rc_np y') ⟨hx, hb, hml, hown, hts⟩ hM ⟨callB_of (rc_np y') hts (rc_good hy') rfl rfl rfl (hts _ r2) (hts _ hl) r5 hroom, r8, hts _ r1⟩ ⟨rc_blind, fun U hU hW => ⟨rfl, rc_pre_at hK hN hV hz hP hU hW⟩⟩ rfl hn hL.2.1 hst (lv_room (by rw [rg_sum_map]; exact hs8)) hdg hfc) hS (fun q _ hq => hq) (fun q hq => hq) fin
        · have hl := hN _ _ _ _ (hk1 rfl)
          rw [hon] at hl
          exact rc_callx (rest := rest.map (rg_cv (rc_r b))) (va_runIN (own := (rc_name y).cls) (b := rc_r b a) (As := (S.take (rc_np y')).reverse.map (rg_cv (rc_r b))) (rest := rest.map (rg_cv (rc_r b))) (n := rc_np y') ⟨hx, hb, hml, hown, hts⟩ hM ⟨va_cnB (rc_np y') hts (rc_good hy') rfl rfl rfl hl (hts _ r2) r5 hroom, r8, hts _ r1⟩ ⟨rc_blind, fun U hU hW => ⟨rfl, rc_pre_at hK hN hV hz hP hU hW⟩⟩ rfl hn hL.2.1 hst (lv_room (by rw [rg_sum_map]; exact hs8)) hdg hfc) hS (fun q _ hq => hq) (fun q hq => hq) fin
        · exfalso
          have hkk := rc_iv_kinds hi
          have : kd = 2 := by omega
          subst this
          first | exact hne rfl | exact hne _ rfl | exact hne y' z rfl | exact hne _ _ rfl | (simp at hne)
      · cases h
    · cases h
  · cases h
end CSND
section CSND
variable {p : Program} {l : Launch} {e : Env} {R : Room} {s : State} {m : MethodId} {args : Array Value} {below : List Frame} {meth : Method} {c : Code}
variable {dC : Nat → ClassId} {dI : Nat → Nat → Nat} {b : Nat} {cA : Nat → ClassId} {y d n pc n0 z0 : Nat} {L : rg_Ls} {S : List Value} {C : rc_C}
variable {o : (Nat × rg_Ls × List Value × rc_C) ⊕ ((Nat × List Value × List Value) ⊕ Unit)}
theorem rc_so_op {i : Instr} (hC : rc_Cx p R s m args meth c dC dI b cA y d) (hd1 : 1 ≤ d) (hdg : decode (rc_bytes y) pc = .ok (i, n)) (h : rc_op y i n pc L S C = some o) : rc_Sd p l e R s m args below meth c dC dI b cA n0 z0 y d pc L S C o := by
  have hx := hC.1
  have hb := hC.2.1
  cases i with
  | aload_n k => exact rc_so_ldA (fun hn x rest ls H locs ce sl Q hl k' => by subst hn; exact lv_aload_n hx hb hdg rfl hl k') h
  | aload k => exact rc_so_ldA (fun hn x rest ls H locs ce sl Q hl k' => by subst hn; exact lv_aload hx hb hdg hl k') h
  | iload_n k => exact rc_so_ldI (fun hn x rest ls H locs ce sl Q hl k' => by subst hn; exact lv_iload_n hx hb hdg rfl hl k') h
  | iconst k => exact rc_so_push (fun hn rest ls H locs ce sl Q k' => by subst hn; exact lv_iconst hx hb hdg rfl k') h
  | lconst k => exact rc_so_push (fun hn rest ls H locs ce sl Q k' => by subst hn; exact lv_lconst hx hb hdg rfl k') h
  | bipush k => exact rc_so_push (fun hn rest ls H locs ce sl Q k' => by subst hn; exact lv_bipush hx hb hdg rfl k') h
  | sipush k => exact rc_so_push (fun hn rest ls H locs ce sl Q k' => by subst hn; exact lv_sipush hx hb hdg rfl k') h
  | dup =>
    simp only [rc_op] at h
    split at h
    · split at h
      · rename_i hn
        subst hn
        cases h
        exact ⟨⟨Nat.le_refl _, Nat.le_refl _⟩, fun Q _ _ k ls H locs hL hz hP hS g1 g2 => lv_dup hx hb hdg rfl (k ls H locs hL hz hP hS g1 g2)⟩
      · cases h
    · cases h
  | istore_n k =>
    simp only [rc_op] at h
    split at h
    · split at h
      · rename_i hn
        obtain ⟨hn, hi⟩ := hn
        subst hn
        cases h
        exact ⟨⟨Nat.le_refl _, Nat.le_refl _⟩, fun Q _ _ kk ls H locs hL hz hP hS g1 g2 => lv_istore_n hx hb hdg rfl (rg_loc_has hL) (by rw [← hL.1]; exact hi) rfl (fun ls' h' => kk ls' H locs (rg_loc_st1 hL h') hz hP hS g1 g2)⟩
      · cases h
    · cases h
  | iinc k x =>
    simp only [rc_op] at h
    split at h
    · rename_i v hv
      split at h
      · rename_i hn
        subst hn
        cases h
        refine ⟨⟨Nat.le_refl _, Nat.le_refl _⟩, fun Q _ _ kk ls H locs hL hz hP hS g1 g2 => ?_⟩
        have hg := rg_ld_get hv
        have hi : k < rc_maxL y := by rw [← hL.1]; exact (List.getElem?_eq_some_iff.mp hg).1
        obtain ⟨j, hj⟩ := List.getElem?_of_mem (rg_lv_mem (ρ := rc_r b) (q := (k, .int v)).mpr ⟨.int v, hg, rfl⟩)
        exact lv_iinc hx hb hdg (rg_loc_has hL) hj rfl hi rfl (fun ls' h' => kk ls' H locs (rg_loc_st1 hL h') hz hP hS g1 g2)
      · cases h
    · cases h
  | if_icmp cd off =>
    cases cd with
    | ge =>
      simp only [rc_op] at h
      split at h
      · rename_i z x r
        split at h
        · rename_i hn
          obtain ⟨hn, h0⟩ := hn
          subst hn
          cases h
          refine ⟨⟨Nat.le_refl _, Nat.le_refl _⟩, fun Q _ _ kk ls H locs hL hz hP hS g1 g2 => ?_⟩
          have k1 := kk ls H locs hL hz hP hS g1 g2
          refine lv_icmp_ge hx hb hdg (rg_tgt_eq h0) (fun hc => ?_) (fun hc => ?_)
          · rw [if_pos hc] at k1; exact k1
          · rw [if_neg hc] at k1; exact k1
        · cases h
      · cases h
    | _ => cases h
  | goto off =>
    simp only [rc_op] at h
    split at h
    · rename_i hn
      obtain ⟨hn, h0⟩ := hn
      subst hn
      cases h
      exact ⟨⟨Nat.le_refl _, Nat.le_refl _⟩, fun Q _ _ k ls H locs hL hz hP hS g1 g2 => lv_goto hx hb hdg (rg_tgt_eq h0) (k ls H locs hL hz hP hS g1 g2)⟩
    · cases h
  | putfield k => exact rc_so_put hC hdg h
  | getfield k => exact rc_so_get hC hdg h
  | new k => exact rc_so_new hC hdg h
  | newarray t =>
    cases t with
    | int => exact rc_so_arr .int hC hdg (Or.inl ⟨rfl, rfl⟩) h
    | long => exact rc_so_arr .long hC hdg (Or.inr ⟨rfl, rfl⟩) h
    | _ => cases h
  | anewarray k => exact rc_so_anew hC hdg h
  | multianewarray k dm =>
    match dm with
    | 2 => exact rc_so_multi hC hdg h
    | 0 => cases h
    | 1 => cases h
    | dm + 3 => cases h
  | aastore => exact rc_so_ast hC hdg h
  | invokespecial k => exact rc_so_inv hC hd1 hdg h
  | return_ =>
    simp only [rc_op] at h
    split at h
    · split at h
      · rename_i hn
        subst hn
        cases h
        intro hr hlocks Qc hq ls H locs hL hz hP hS g1 g2
        exact W.vret hx hb hr (fun t ht hW => hq t hW (by rw [ht]; exact hz) (by rw [ht]; exact hP) (hS.F ht)) hS.2.2 hdg hlocks
      · cases h
    · cases h
  | _ => cases h
end CSND
theorem rc_mono : ∀ (f d y pc : Nat) (L : rg_Ls) (S : List Value) (C C' : rc_C), rc_exec f d y pc L S C = some C' → (∀ (y pc n : Nat) (i : Instr) (L : rg_Ls) (S : List Value) (C : rc_C) (pc' : Nat) (L' : rg_Ls) (S' : List Value) (C1 : rc_C), rc_fetch y pc = some (i, n) → rc_op y i n pc L S C = some (.inl (pc', L', S', C1)) → C.length ≤ C1.length ∧ rc_sz C ≤ rc_sz C1) → C.length ≤ C'.length ∧ rc_sz C ≤ rc_sz C' := by
  intro f
  induction f with
  | zero => intro d y pc L S C C' h; cases h
  | succ f ih =>
    intro d y pc L S C C' h hst
    simp only [rc_exec] at h
    split at h
    · cases h
    · rename_i i n hf
      split at h
      · cases h
      · rename_i pc' L' S' C1 ho
        have h1 := hst _ _ _ _ _ _ _ _ _ _ _ hf ho
        have h2 := ih _ _ _ _ _ _ _ h hst
        omega
      · cases h
        exact ⟨Nat.le_refl _, Nat.le_refl _⟩
      · rename_i y' as rest ho
        split at h
        · rename_i d'
          split at h
          · cases h
          · rename_i C1 he
            have h1 := ih _ _ _ _ _ _ _ he hst
            have h2 := ih _ _ _ _ _ _ _ h hst
            omega
        · cases h
