/-! soundness of the constructors' machine, second half -/
theorem rc_AA.moved {u U : State} (hvm : u.vm.Alike U.vm) (h : (Cond.arrayOver (.array .int)).before #[] u = true) : (Cond.arrayOver (.array .int)).before #[] U = true := by
  obtain ⟨comp, c, k, h1, h2, h3, h4, h5⟩ := arrayOverA_spec h
  obtain ⟨k', hk', he⟩ := hvm.2.2 _ _ h3
  have hi : (U.vm.classes.findIdx? fun (x : Class) => match x.kind with | .array component _ => component == comp | _ => false) = some c := by
    rw [hvm.findIdx?_eq _ (fun _ => rfl)]
    exact h2
  have hkind : k'.kind = .array comp (.array .int) := by rw [he]; exact h4
  have f1 : U.vm.findClass (FieldType.array .int).toString = some comp := by rw [hvm.findClass]; exact h1
  have f2 : U.vm.findClass ("[" ++ (FieldType.array .int).toString) = some c := by rw [hvm.findClass]; exact h5
  unfold Cond.before Cond.holds
  simp only [Cond.value]
  rw [f1, Option.bind_some]
  refine (congrArg (fun o : Option Nat => (o.bind (fun c => (U.vm.classes[c]?).map fun (k : Class) => match k.kind with | .array _ ty => decide (ty = FieldType.array .int) && decide (U.vm.findClass ("[" ++ (FieldType.array .int).toString) = some c) | _ => false) == some true)) hi).trans ?_
  simp [hk', hkind, f2]
theorem rc_V.moved {u U : State} (hvm : u.vm.Alike U.vm) (h : rc_V u) : rc_V U := ⟨va_AO.moved hvm h.1, rc_AA.moved hvm h.2⟩
theorem rc_blind {av : List Value} {dC : Nat → ClassId} {dI : Nat → Nat → Nat} {b : Nat} {cA : Nat → ClassId} {C : rc_C} : FrameBlind (va_Pc av (rc_Pre dC dI b cA C)) := by
  intro a U g mk q
  obtain ⟨q0, q1, q2, q3, q4, q5⟩ := q
  exact ⟨q0, q1, q2, va_K.moved (u := U) (U := U.calling g mk a) (Vm.Alike.refl U.vm) q3, fun o i y z h => va_Nw.same rfl (u := U) (U := U.calling g mk a) rfl (q4 o i y z h), rc_V.moved (u := U) (U := U.calling g mk a) (Vm.Alike.refl U.vm) q5⟩
theorem rc_good {y : Nat} (hy : y < 13) : GoodIn rg_tbl (rc_ws y) := fun w hw => by
  rcases List.mem_cons.mp hw with rfl | hw
  · exact ⟨rc_cw hy, good_of_word rfl⟩
  · exact ⟨hw, good_of_word (List.mem_filter.mp hw).2⟩
theorem rc_nl_spec {o i ci z : Nat} (h : rc_lk rc_nl o i = some (ci, z)) : ci < 13 ∧ Cond.classLink (rg_on.getD o "") i (rc_name ci).cls ∈ rg_tbl := by
  unfold rc_lk at h
  cases ht : rc_nl[o]? with
  | none => rw [ht] at h; cases h
  | some t =>
    rw [ht] at h
    have ho : o < 13 := by have := (List.getElem?_eq_some_iff.mp ht).1; simpa [rc_nl] using this
    have h1 := List.all_eq_true.mp rc_nl_ok o (List.mem_range.mpr ho)
    rw [rg_getD ht] at h1
    have h2 := List.all_eq_true.mp h1 _ (rg_lk h)
    simp only [Bool.and_eq_true, decide_eq_true_eq] at h2
    obtain ⟨T, N, hc, -⟩ := (rc_row_spec h2.2).2.2.1
    rw [hc] at h2
    exact ⟨h2.2, rg_tbl_mem h2.1.symm rfl⟩
theorem rc_iv_spec {o i k y z : Nat} (h : rc_inv o i = some (k, y, z)) : y < 13 ∧ (k = 0 → Cond.methodLink (rg_on.getD o "") i (rc_name y) ∈ rg_tbl) ∧ (k = 1 → Cond.methodLinkNest (rg_on.getD o "") i (rc_name y) "RiverGauge" ∈ lw_tbl) ∧ (2 ≤ k → Cond.methodLink (rg_on.getD o "") i objectInit ∈ rg_tbl) := by
  unfold rc_inv at h
  cases ht : rc_iv[o]? with
  | none => rw [ht] at h; cases h
  | some t =>
    rw [ht] at h
    have ho : o < 13 := by have := (List.getElem?_eq_some_iff.mp ht).1; simpa [rc_iv] using this
    have h1 := List.all_eq_true.mp rc_iv_ok o (List.mem_range.mpr ho)
    rw [rg_getD ht] at h1
    have h2 := List.all_eq_true.mp h1 _ (rg_lk h)
    simp only [Bool.and_eq_true, decide_eq_true_eq] at h2
    refine ⟨h2.1, fun e => ?_, fun e => ?_, fun e => ?_⟩
    · subst e
      have h3 := h2.2
      simp only [decide_eq_true_eq] at h3
      exact rg_tbl_mem h3 rfl
    · subst e
      have h3 := h2.2
      simp only [decide_eq_true_eq] at h3
      exact List.mem_of_getElem? h3
    · obtain ⟨k, rfl⟩ : ∃ j, k = j + 2 := ⟨k - 2, by omega⟩
      have h3 := h2.2
      simp only [decide_eq_true_eq] at h3
      exact rg_tbl_mem h3 rfl
theorem rc_dv (r : Nat → Nat) (t : FieldType) : rg_cv r (defaultValue t) = defaultValue t := by cases t <;> rfl
theorem rc_new_spec {ci N : Nat} {C : String} {T : u_T} {ty : Nat → FieldType} (hc : rg_classes[ci]? = some (C, T, N)) (hty : rg_tyL[ci]? = some ty) (r : Nat → Nat) : (rc_new ci).length = N ∧ ∀ j, j < N → defaultValue (ty j) = vp_V ((rc_new ci).map (rg_cv r)) j := by
  unfold rc_new
  rw [hc, hty]
  refine ⟨by simp, fun j hj => ?_⟩
  unfold vp_V
  rw [List.getD_eq_getElem?_getD, List.getElem?_map, List.getElem?_map, List.getElem?_range hj]
  simp [rc_dv]
section CSND
variable {p : Program} {l : Launch} {e : Env} {R : Room} {s : State} {m : MethodId} {args : Array Value} {below : List Frame} {meth : Method} {c : Code}
variable {dC : Nat → ClassId} {dI : Nat → Nat → Nat} {b : Nat} {cA : Nat → ClassId} {y d n pc n0 z0 : Nat} {L : rg_Ls} {S : List Value} {C : rc_C}
variable {o : (Nat × rg_Ls × List Value × rc_C) ⊕ ((Nat × List Value × List Value) ⊕ Unit)}
/-- one cell more -/
theorem rc_one_more {x : rc_Cell} {len : Nat} {Q : State → Prop} {ls : Array Slot} {H H1 : Heap} {locs : List Loc} {r : List Value} (kk : rc_G p l e R s m args below meth c dC dI b cA (rc_maxL y) n0 z0 Q (pc + len) L (.ref C.length :: r) (C ++ [x])) (hL : rg_loc (rc_r b) (rc_maxL y) L ls) (hz : H.size = b + C.length) (hP : va_P (dC, dI) rg_classes (rc_w b cA C) H) (hS : va_S (fun q => b ≤ q) s.heap H locs) (g1 : n0 ≤ C.length) (g2 : z0 ≤ rc_sz C) (o1 : ∀ q, q < H.size → H1[q]? = H[q]?) (z1 : H1.size = H.size + 1) (e1 : va_at (dC, dI) rg_classes (H.size, rc_ce b cA x) H1) : W p l e R s m args below meth c H1 locs (C.length - n0 + 1) (rc_sz C - z0 + rc_one x) Q (F0 m (pc + len) ls (.ref H.size :: r.map (rg_cv (rc_r b)))) := by
  have hsz : rc_sz (C ++ [x]) = rc_sz C + rc_one x := by rw [rc_sz_app, rc_sz_one]
  have k2 := kk ls H1 locs hL (by rw [List.length_append, z1, hz]; rfl) (by
    rw [rc_w_app]
    have := rc_P_push hP o1 e1
    rw [hz] at this
    exact this) (rc_S_grow hS (by omega) o1) (by rw [List.length_append]; omega) (by rw [hsz]; omega)
  rw [List.length_append, hsz] at k2
  simp only [List.length_cons, List.length_nil, List.map_cons, rg_cv, rc_r] at k2
  rw [← hz] at k2
  have e2 : C.length + (0 + 1) - n0 = C.length - n0 + 1 := by omega
  have e3 : rc_sz C + rc_one x - z0 = rc_sz C - z0 + rc_one x := by omega
  rw [e2, e3] at k2
  exact k2
theorem rc_so_new {i : Nat} (hC : rc_Cx p R s m args meth c dC dI b cA y d) (hdg : decode (rc_bytes y) pc = .ok (.new i, n)) (h : rc_op y (.new i) n pc L S C = some o) : rc_Sd p l e R s m args below meth c dC dI b cA n0 z0 y d pc L S C o := by
  obtain ⟨hx, hb, -, hown, hts, hK, -, -, -, -, hy, hinit, -⟩ := hC
  have hon := (rc_row_spec hy).2.2.2.1
  simp only [rc_op] at h
  split at h
  · rename_i ci z hl
    split at h
    · rename_i hn
      subst hn
      cases h
      obtain ⟨hci, hlink⟩ := rc_nl_spec hl
      rw [hon] at hlink
      obtain ⟨-, hini, ⟨T, N, hc, hinst⟩, -⟩ := rc_row_spec hci
      obtain ⟨hin, ty, hty, htyok, hnm⟩ := rg_cls hc
      obtain ⟨hlen, hfs⟩ := rc_new_spec hc hty (rc_r b)
      have hone : rc_one (.inl (ci, rc_new ci)) = N := hlen
      have hsz : rc_sz (C ++ [.inl (ci, rc_new ci)]) = rc_sz C + N := by rw [rc_sz_app, rc_sz_one, hone]
      refine ⟨⟨by rw [List.length_append]; exact Nat.le_add_right _ _, by rw [hsz]; exact Nat.le_add_right _ _⟩, fun Q hc1 hc2 kk ls H locs hL hz hP hS g1 g2 => ?_⟩
      rw [List.length_append] at hc1
      rw [hsz] at hc2
      simp only [List.length_cons, List.length_nil] at hc1
      have hKn := hK.1 ci _ hc
      refine W.newcK hx hb hown (hts _ hlink) (hts _ hinst) (hts _ hini) rfl hdg (by omega) (by omega) hKn.2.1 rfl fun H1 kC hkC e1 z1 o1 => ?_
      have k3 := rc_one_more (H1 := H1) kk hL hz hP hS g1 g2 o1 z1 ⟨_, hc, (u_born ty hts hin hKn hkC e1 htyok).to hfs⟩
      rw [hone] at k3
      exact k3
    · cases h
  · cases h
theorem rc_so_anew {i : Nat} (hC : rc_Cx p R s m args meth c dC dI b cA y d) (hdg : decode (rc_bytes y) pc = .ok (.anewarray i, n)) (h : rc_op y (.anewarray i) n pc L S C = some o) : rc_Sd p l e R s m args below meth c dC dI b cA n0 z0 y d pc L S C o := by
  obtain ⟨hx, hb, -, hown, hts, hK, -, -, -, hV, hy, hinit, -⟩ := hC
  have hon := (rc_row_spec hy).2.2.2.1
  simp only [rc_op] at h
  split at h
  · rename_i z r
    split at h
    · rename_i hcond
      obtain ⟨h10, h9, hn, hz0, hz5⟩ := hcond
      subst h10
      subst h9
      subst hn
      cases h
      have hcl : (rc_name 10).cls = "RiverGauge$Breaks" := hon.symm
      rw [hcl] at hown
      have hsz : rc_sz (C ++ [.inr (2, z.toNatClampNeg, List.replicate z.toNatClampNeg none)]) = rc_sz C + z.toNatClampNeg := by rw [rc_sz_app, rc_sz_one]; rfl
      refine ⟨⟨by rw [List.length_append]; exact Nat.le_add_right _ _, by rw [hsz]; exact Nat.le_add_right _ _⟩, fun Q hc1 hc2 kk ls H locs hL hz hP hS g1 g2 => ?_⟩
      rw [List.length_append] at hc1
      rw [hsz] at hc2
      simp only [List.length_cons, List.length_nil] at hc1
      refine W.anew hx hb hown (hts _ rc_wA6) (va_AO.use hV.1) rfl hdg rfl (Int32.not_lt.mpr hz0) (by omega) (by omega) (by omega) fun cB kA comp f1 f2 f3 f4 => ?_
      have hcB : cB = cA 2 := by
        obtain ⟨_, _, _, _, _, h9⟩ := (hK.2 2 _ rfl).2
        exact Option.some.inj (f1.symm.trans h9)
      subst hcB
      refine rc_one_more kk hL hz hP hS g1 g2 (fun q hq => by rw [Array.getElem?_push, if_neg (Nat.ne_of_lt hq)]) (by rw [Array.size_push]) ?_
      show (H.push _)[H.size]? = some (vp_cell (cA 2) (z.toNatClampNeg, .inr (.inr (.inr (.inr (fun i => ((List.replicate z.toNatClampNeg none).getD i none).map (rc_r b)))))))
      rw [Array.getElem?_push_size, vp_cell_q, arrV_new]
      congr 2
      funext j
      have e9 : ((List.replicate z.toNatClampNeg (none : Option Nat)).getD j none) = none := by
        rw [List.getD_eq_getElem?_getD, List.getElem?_replicate]
        split <;> rfl
      rw [e9]
      rfl
    · cases h
  · cases h
theorem rc_w_rows (b : Nat) (cA : Nat → ClassId) (K : Nat) : ∀ (k : Nat) (C : rc_C), rc_w b cA (C ++ List.replicate k (.inr (0, K, []))) = rc_w b cA C ++ (List.range k).map (fun j => (b + C.length + j, .inl (cA 0, K, .inl (fun _ => 0))))
  | 0, C => by simp
  | k + 1, C => by
    have e : C ++ List.replicate (k + 1) (.inr (0, K, [])) = (C ++ List.replicate k (.inr (0, K, []))) ++ [(.inr (0, K, []) : rc_Cell)] := by
      rw [List.replicate_succ', List.append_assoc]
    rw [e, rc_w_app, rc_w_rows b cA K k C, List.range_succ, List.map_append, List.append_assoc]
    congr 2
    simp only [List.length_append, List.length_replicate, List.map_cons, List.map_nil, rc_r]
    rw [show b + C.length + k = b + (C.length + k) by omega]
    rfl
theorem rc_sz_rep (K : Nat) : ∀ k, rc_sz (List.replicate k (.inr (0, K, []))) = k * K
  | 0 => by simp [rc_sz]
  | k + 1 => by
    rw [List.replicate_succ, Nat.succ_mul]
    have := rc_sz_rep K k
    unfold rc_sz at this ⊢
    rw [List.map_cons, List.sum_cons, this]
    show K + k * K = _
    omega
theorem rc_so_multi {i : Nat} (hC : rc_Cx p R s m args meth c dC dI b cA y d) (hdg : decode (rc_bytes y) pc = .ok (.multianewarray i 2, n)) (h : rc_op y (.multianewarray i 2) n pc L S C = some o) : rc_Sd p l e R s m args below meth c dC dI b cA n0 z0 y d pc L S C o := by
  obtain ⟨hx, hb, -, hown, hts, hK, -, -, -, hV, hy, hinit, -⟩ := hC
  have hon := (rc_row_spec hy).2.2.2.1
  simp only [rc_op] at h
  split at h
  · rename_i z x r
    split at h
    · rename_i hcond
      obtain ⟨h1, h31, hn, hz0, hz5, hx0, hx5⟩ := hcond
      subst h1
      subst h31
      subst hn
      cases h
      have hcl : (rc_name 1).cls = "RiverGauge$Posts" := hon.symm
      rw [hcl] at hown
      generalize hN : x.toNatClampNeg = N at hx5 ⊢
      generalize hKz : z.toNatClampNeg = Kz at hz5 ⊢
      have eC : C ++ (.inr (3, N, (List.range N).map (fun i => some (C.length + 1 + i))) :: List.replicate N (.inr (0, Kz, []))) = (C ++ [.inr (3, N, (List.range N).map (fun i => some (C.length + 1 + i)))]) ++ List.replicate N (.inr (0, Kz, [])) := by rw [List.append_assoc]; rfl
      rw [eC]
      generalize hx3 : (.inr (3, N, (List.range N).map (fun i => some (C.length + 1 + i))) : rc_Cell) = x3
      have hone : rc_one x3 = N := by rw [← hx3]; rfl
      have hsz : rc_sz ((C ++ [x3]) ++ List.replicate N (.inr (0, Kz, []))) = rc_sz C + N + N * Kz := by rw [rc_sz_app, rc_sz_app, rc_sz_one, hone, rc_sz_rep]
      have hlen : ((C ++ [x3]) ++ List.replicate N (.inr (0, Kz, []) : rc_Cell)).length = C.length + 1 + N := by simp; omega
      refine ⟨⟨by rw [hlen]; omega, by rw [hsz]; omega⟩, fun Q hc1 hc2 kk ls H locs hL hz hP hS g1 g2 => ?_⟩
      rw [hlen] at hc1
      rw [hsz] at hc2
      refine mm_W hx hb hown (hts _ rc_wA5) hV.2 (hts _ rc_wA1) (Int32.not_lt.mpr hx0) (Int32.not_lt.mpr hz0) (by rw [hN]; omega) (by rw [hKz]; omega) (by rw [hN]; omega) (by rw [hN, hKz]; omega) hdg ?_
      rw [hN, hKz]
      intro cG cI H1 f1 f2 z1 o1 e1 e2
      have hcG : cG = cA 3 := Option.some.inj (f1.symm.trans (hK.2 3 _ rfl).2)
      have hcI : cI = cA 0 := Option.some.inj (f2.symm.trans (hK.2 0 _ rfl).2)
      subst hcG
      subst hcI
      have hS1 : va_S (fun q => b ≤ q) s.heap H1 (locs ++ (List.range N).map fun j => ⟨H.size, j⟩) := by
        have h9 := rc_S_grow hS (H1 := H1) (by omega) o1
        refine ⟨h9.1, h9.2.1, fun q hq => ?_⟩
        rcases List.mem_append.mp hq with hq | hq
        · exact h9.2.2 q hq
        · obtain ⟨j, -, rfl⟩ := List.mem_map.mp hq
          show b ≤ H.size
          omega
      have hP1 : va_P (dC, dI) rg_classes (rc_w b cA ((C ++ [x3]) ++ List.replicate N (.inr (0, Kz, [])))) H1 := by
        rw [rc_w_rows, rc_w_app]
        refine va_P.app (va_P.app (hP.kept (fun k x hx => o1 x.1 ((hP k x hx).lt))) ?_) ?_
        · intro k q hq
          have hk : k < 1 := (List.getElem?_eq_some_iff.mp hq).1
          rw [show k = 0 by omega] at hq
          cases hq
          subst hx3
          show H1[b + C.length]? = some (vp_cell (cA 3) (N, .inr (.inr (.inr (.inr (fun i => (((List.range N).map (fun i => some (C.length + 1 + i))).getD i none).map (rc_r b)))))))
          rw [← hz, e1, vp_cell_q]
          unfold mm_O arrV
          congr 2
          refine congrArg Array.ofFn (funext fun j => ?_)
          have hj := j.2
          show mm_f H.size N j.val = va_rf (((List.map (fun i => some (C.length + 1 + i)) (List.range N)).getD j.val none).map (rc_r b))
          rw [List.getD_eq_getElem?_getD, List.getElem?_map, List.getElem?_range hj]
          simp only [mm_f, hj, if_true, Option.map_some, Option.getD_some, va_rf, rc_r]
          rw [hz, show b + C.length + 1 + j.val = b + (C.length + 1 + j.val) by omega]
        · intro k q hq
          rw [List.getElem?_map] at hq
          by_cases hk : k < N
          · rw [List.getElem?_range hk] at hq
            cases hq
            show H1[b + (C ++ [x3]).length + k]? = some (vp_cell (cA 0) (Kz, .inl (fun _ => 0)))
            rw [List.length_append, show b + (C.length + [x3].length) + k = H.size + 1 + k by simp; omega, e2 k hk]
            rfl
          · rw [List.getElem?_eq_none (by rw [List.length_range]; omega)] at hq
            cases hq
      have k2 := kk ls H1 _ hL (by rw [hlen, z1, hz]; omega) hP1 hS1 (by rw [hlen]; omega) (by rw [hsz]; omega)
      rw [hlen, hsz] at k2
      simp only [List.map_cons, rg_cv, rc_r] at k2
      rw [← hz] at k2
      have e3 : C.length + 1 + N - n0 = C.length - n0 + 1 + N := by omega
      have e4 : rc_sz C + N + N * Kz - z0 = rc_sz C - z0 + N + N * Kz := by omega
      rw [e3, e4] at k2
      exact k2
    · cases h
  · cases h
theorem rc_so_ast (hC : rc_Cx p R s m args meth c dC dI b cA y d) (hdg : decode (rc_bytes y) pc = .ok (.aastore, n)) (h : rc_op y .aastore n pc L S C = some o) : rc_Sd p l e R s m args below meth c dC dI b cA n0 z0 y d pc L S C o := by
  obtain ⟨hx, hb, -, hown, hts, hK, -, -, -, hV, hy, hinit, -⟩ := hC
  simp only [rc_op] at h
  split at h
  · rename_i v i a r
    split at h
    · rename_i k rs fs hsa hsv
      split at h
      · rename_i hcond
        obtain ⟨hn, hi, hrs⟩ := hcond
        subst hn
        cases h
        have hset : rc_sz (C.set a (.inr (2, k, rs.set i.toNatClampNeg (some v)))) = rc_sz C := rc_sz_set hsa rfl
        refine ⟨⟨by rw [List.length_set]; exact Nat.le_refl _, by rw [hset]; exact Nat.le_refl _⟩, fun Q _ _ kk ls H locs hL hz hP hS g1 g2 => ?_⟩
        refine rc_W_ast hx hb hK hP (rc_D b cA C) hS a 2 v 9 (r := ("RiverGauge$Points", rg_T9, 3)) (rc_w_get hsa) rfl (rc_w_get hsv) rfl (rg_in_vp hi) hdg (fun H1 locs1 hz1 hP1 hS1 => ?_)
        have hP2 : va_P (dC, dI) rg_classes (rc_w b cA (C.set a (.inr (2, k, rs.set i.toNatClampNeg (some v))))) H1 := by
          rw [← rc_w_set hsa]
          have e9 : va_up (fun j => (rs.getD j none).map (rc_r b)) i.toNatClampNeg (some (rc_r b v)) = (fun j => ((rs.set i.toNatClampNeg (some v)).getD j none).map (rc_r b)) := by
            funext j
            by_cases hj : j = i.toNatClampNeg
            · subst hj
              rw [va_up_self, List.getD_eq_getElem?_getD, List.getElem?_set_self hrs]
              rfl
            · rw [va_up_ne _ _ hj, List.getD_eq_getElem?_getD, List.getD_eq_getElem?_getD, List.getElem?_set_ne (Ne.symm hj)]
          rw [e9] at hP1
          exact hP1
        have k2 := kk ls H1 locs1 hL (by rw [List.length_set, hz1]; exact hz) hP2 hS1 (by rw [List.length_set]; exact g1) (by rw [hset]; exact g2)
        rw [List.length_set, hset] at k2
        exact k2
      · cases h
    · cases h
  · cases h
end CSND
