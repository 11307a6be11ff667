/-! soundness, second half: constants, copies, returns, calls; then a whole run -/
theorem rg_sum_map (ρ : Nat → Nat) : ∀ S : List Value, ((S.map (rg_cv ρ)).map fun v => v.category).sum = rg_sum S
  | [] => rfl
  | v :: r => by
    have ih := rg_sum_map ρ r
    unfold rg_sum at ih ⊢
    simp only [List.map_cons, List.sum_cons, rg_cv_cat, ih]
theorem rg_wA1 : Cond.methodLink "RiverGauge$Standards" 42 arraycopyName ∈ rg_tbl := rg_tbl_mem (i := 885) (by decide +kernel) rfl
theorem rg_wA2 : Cond.static arraycopyName ∈ rg_tbl := rg_tbl_mem (i := 886) (by decide +kernel) rfl
theorem rg_wA3 : Cond.native arraycopyName ∈ rg_tbl := rg_tbl_mem (i := 887) (by decide +kernel) rfl
theorem rg_wA4 : Cond.initialized "java/lang/System" ∈ rg_tbl := rg_tbl_mem (i := 83) (by decide +kernel) rfl
theorem rg_good {y : Nat} (hy : y < 214) : GoodIn rg_tbl (rg_ws y) := fun w hw => by
  rcases List.mem_cons.mp hw with rfl | hw
  · exact ⟨(rg_row_spec hy).1, good_of_word rfl⟩
  · exact ⟨hw, good_of_word (List.mem_filter.mp hw).2⟩
theorem rg_blind {av : List Value} {dC : Nat → ClassId} {dI : Nat → Nat → Nat} {ρ : Nat → Nat} {cA : Nat → ClassId} {M : rg_M} {sz : Nat} : FrameBlind (va_Pc av (rg_Pre dC dI ρ cA M sz)) := by
  intro a U g mk q
  obtain ⟨q0, q1, q2, q3, q4, q5, q6, q7⟩ := q
  exact ⟨q0, q1, q2, va_K.moved (u := U) (U := U.calling g mk a) (Vm.Alike.refl U.vm) q3, fun o i y z h => va_Nw.same rfl (u := U) (U := U.calling g mk a) rfl (q4 o i y z h), vk_R.same (u := U) (U := U.calling g mk a) rfl q5, vk_S.moved (u := U) (U := U.calling g mk a) (Vm.Alike.refl U.vm) q6, va_Z.moved (u := U) (U := U.calling g mk a) (Vm.Alike.refl U.vm) q7⟩
theorem rg_A_mono {ρ : Nat → Nat} {a b : Nat} (h : a ≤ b) {q : Nat} (hq : rg_A ρ b q) : rg_A ρ a q := by
  rcases hq with hq | hq
  · exact Or.inl hq
  · exact Or.inr (Nat.le_trans h hq)
section SND
variable {p : Program} {l : Launch} {e : Env} {R : Room} {s : State} {m : MethodId} {args : Array Value} {below : List Frame} {meth : Method} {c : Code}
variable {dC : Nat → ClassId} {dI : Nat → Nat → Nat} {ρ : Nat → Nat} {cA : Nat → ClassId} {y d n pc : Nat} {L : rg_Ls} {S : List Value} {M : rg_M}
variable {o : (Nat × rg_Ls × List Value × rg_M) ⊕ ((Nat × List Value × List Value) ⊕ Option Value)}
theorem rg_pre_at {H : Heap} {locs : List Loc} {U : State} (hK : va_K (dC, dI) rg_classes (rg_tys cA) s) (hN : rg_N s) (hSx : rg_Sx ρ (rg_A ρ s.heap.size) s s.heap) (hP : va_P (dC, dI) rg_classes (rg_w ρ cA M) H) (hS : va_S (rg_A ρ s.heap.size) s.heap H locs) (hU : U.heap = H) (hW : s.WarmedH U.vm) : rg_Pre dC dI ρ cA M H.size U := by
  refine ⟨by rw [hU], by rw [hU]; exact hP, va_K.moved hW.alike hK, fun o i y z h => va_Nw.warmM hW (hN o i y z h), vk_R.warm hW hSx.1, ?_, ?_⟩
  · rw [hU]
    exact vk_S.narrow (vk_S.moved hW.alike (vk_S.kept hSx.2.1 hS.2.1)) (fun q hq => rg_A_mono hS.1 hq)
  · rw [hU]
    exact va_Z.narrow (va_Z.moved hW.alike (va_Z.kept hSx.2.2 hS.2.1)) (fun q hq => rg_A_mono hS.1 hq)
theorem rg_callx {H : Heap} {locs : List Loc} {Q : State → Prop} {ls : Array Slot} {st0 rest : List Value} {r : Option Value} {B : State → Prop} {A0 A1 free : Nat → Prop} {a : Array Value} {H0 : Heap} (hr : va_Run p l e R s m args below meth c H locs 0 0 0 0 (F0 m pc ls st0) rest (rg_Qx r B A1 a) free) (hS : va_S A0 H0 H locs) (hA : ∀ q, q < H.size → A1 q → A0 q) (hf : ∀ q, free q → A0 q)
    (kk : ∀ (t : State) (H1 : Heap) (locs1 : List Loc), t.heap = H1 → B t → va_S A0 H0 H1 locs1 → W p l e R s m args below meth c H1 locs1 0 0 Q (F0 m (pc + 3) ls (r.toList ++ rest))) : W p l e R s m args below meth c H locs 0 0 Q (F0 m pc ls st0) := by
  intro T hT X
  obtain ⟨v, st₀, t, T', L, h0, X', hL, e1, e2, ⟨⟨hv, hb⟩, hz, hk⟩, st⟩ := hr T hT X
  cases hv
  rw [h0] at hz hk
  obtain ⟨t2, a1, b1⟩ := kk t T'.heap (locs ++ L) e1.symm hb
    ⟨Nat.le_trans hS.1 (by rw [e1]; exact hz), fun q h1 h2 => by rw [e1, hk q (Nat.lt_of_lt_of_le h1 hS.1) (fun z => h2 (hA q (Nat.lt_of_lt_of_le h1 hS.1) z))]; exact hS.2.1 q h1 h2, fun q hq => by
      rcases List.mem_append.mp hq with h | h
      · exact hS.2.2 q h
      · exact hf _ (hL q h)⟩ T' rfl X'
  exact ⟨t2, st t2 a1, b1⟩
theorem rg_so_ldcL {i : Nat} (hC : rg_Cx p R s m args c dC dI ρ cA y d) (hdg : decode (rg_bytes y) pc = .ok (.ldc2_w i, n)) (h : rg_ldcL (rg_own y) i n pc L S M = some o) : rg_Sd p l e R s m args below meth c dC dI ρ cA y d pc L S M o := by
  obtain ⟨hx, hb, -, hown, hts, hK, hD, -, -, -, -, hy⟩ := hC
  have hon := (rg_row_spec hy).2.2.1
  unfold rg_ldcL at h
  split at h
  · rename_i v z hv
    have hw := rg_cstL_ok hv
    rw [hon] at hw
    exact rg_so_push (fun hn rest ls H locs Q k => by subst hn; exact lv_ldc2 hx hb hown (hts _ hw) hdg k) h
  · cases h
theorem rg_so_ldc {i : Nat} (hC : rg_Cx p R s m args c dC dI ρ cA y d) (hdg : decode (rg_bytes y) pc = .ok (.ldc i, n)) (h : rg_ldcI (rg_own y) i 2 n pc L S M = some o) : rg_Sd p l e R s m args below meth c dC dI ρ cA y d pc L S M o := by
  obtain ⟨hx, hb, -, hown, hts, hK, hD, -, -, -, hSx, hy⟩ := hC
  have hon := (rg_row_spec hy).2.2.1
  unfold rg_ldcI at h
  split at h
  · rename_i v z hv
    have hw := rg_cst_ok hv
    rw [hon] at hw
    exact rg_so_push (fun hn rest ls H locs Q k => by subst hn; exact lv_ldc hx hb hown (hts _ hw) hdg k) h
  · split at h
    · rename_i hc
      obtain ⟨h5, h59, -⟩ := hc
      rw [h5] at hon
      have hcl : (rg_name y).cls = "RiverGauge$Tape" := hon.symm
      rw [hcl] at hown
      subst h59
      exact rg_so_push (fun hn rest ls H locs Q k => by subst hn; exact va_ldcS hx hb hown hSx.1 hdg k) h
    · cases h
theorem rg_so_ldcw {i : Nat} (hC : rg_Cx p R s m args c dC dI ρ cA y d) (hdg : decode (rg_bytes y) pc = .ok (.ldc_w i, n)) (h : rg_ldcI (rg_own y) i 3 n pc L S M = some o) : rg_Sd p l e R s m args below meth c dC dI ρ cA y d pc L S M o := by
  obtain ⟨hx, hb, -, hown, hts, hK, hD, -, -, -, hSx, hy⟩ := hC
  have hon := (rg_row_spec hy).2.2.1
  unfold rg_ldcI at h
  split at h
  · rename_i v z hv
    have hw := rg_cst_ok hv
    rw [hon] at hw
    exact rg_so_push (fun hn rest ls H locs Q k => by subst hn; exact lv_ldcw hx hb hown (hts _ hw) hdg k) h
  · split at h
    · rename_i hc
      exact absurd hc.2.2 (by decide)
    · cases h
theorem rg_so_cpy (hC : rg_Cx p R s m args c dC dI ρ cA y d) (h6 : rg_own y = 6) (hdg : decode (rg_bytes y) pc = .ok (.invokestatic 42, n)) (h : rg_cpy d n pc L S M = some o) : rg_Sd p l e R s m args below meth c dC dI ρ cA y d pc L S M o := by
  obtain ⟨hx, hb, hml, hown, hts, hK, hD, hfr, hlo, -, hSx, hy⟩ := hC
  have hon := (rg_row_spec hy).2.2.1
  rw [h6] at hon
  have hcl : (rg_name y).cls = "RiverGauge$Standards" := hon.symm
  rw [hcl] at hown
  unfold rg_cpy at h
  split at h
  · rename_i k dp b sp a r
    split at h
    · rename_i na b1 st1 nb b2 st2 hsa hsb
      split at h
      · rename_i hc
        obtain ⟨c1, c2, c3, c4, c5, c6, c7, c8⟩ := hc
        subst c2
        cases h
        intro Q kk ls H locs hL hP hS
        refine va_copyi hx hb (by rw [hml, hL.2.1]) hown (hts _ rg_wA1) (hts _ rg_wA3) (hts _ rg_wA2) (hts _ rg_wA4) hK hP (hD M) hS a b 0 0 (rg_w_get hsa) (rg_w_get hsb) rfl rfl rfl (Int32.not_lt.mpr c4) (Int32.not_lt.mpr c5) (Int32.not_lt.mpr c6) c7 c8 (fun _ _ => rfl) (Nat.le_trans c1 hfr) ?_ hdg (fun H1 locs1 hP1 _ hS1 => kk ls H1 locs1 hL ?_ hS1)
        · rw [rg_sum_map]
          have : nativeFrameWords "java/lang/System" "arraycopy" 5 = 7 := by decide
          omega
        · exact rg_P_set (M' := rg_wC M a b sp.toNatClampNeg dp.toNatClampNeg k.toNatClampNeg) hsb hP1 (by simp [rg_ce, rg_row3, rg_wC]) (fun q hq => ⟨by simp [rg_wC, hq], rfl⟩)
      · cases h
    · cases h
  · cases h
theorem rg_so_iret (hC : rg_Cx p R s m args c dC dI ρ cA y d) (hdg : decode (rg_bytes y) pc = .ok (.ireturn, n)) (h : rg_iret (rg_ret y) n S = some o) : rg_Sd p l e R s m args below meth c dC dI ρ cA y d pc L S M o := by
  obtain ⟨hx, hb, -⟩ := hC
  unfold rg_iret at h
  split at h
  · rename_i x hrt
    obtain ⟨h1, h2⟩ := rg_ln_inv h
    subst h1
    cases h2
    intro hr hlocks Qc hq ls H locs hL hP hS
    rw [hrt] at hr
    exact W.iret hx hb hr (fun t ht hW => hq t hW (by rw [ht]; exact hP) (hS.F ht)) hS.2.2 hdg hlocks
  · rename_i x hrt
    split at h
    · rename_i h01
      obtain ⟨h1, h2⟩ := rg_ln_inv h
      subst h1
      cases h2
      intro hr hlocks Qc hq ls H locs hL hP hS
      rw [hrt] at hr
      exact W.zret hx hb hr (by rcases h01 with rfl | rfl <;> rfl) (fun t ht hW => hq t hW (by rw [ht]; exact hP) (hS.F ht)) hS.2.2 hdg hlocks
    · cases h
  · rename_i x hrt
    split at h
    · rename_i h01
      obtain ⟨h1, h2⟩ := rg_ln_inv h
      subst h1
      cases h2
      intro hr hlocks Qc hq ls H locs hL hP hS
      rw [hrt] at hr
      exact W.zret hx hb hr (by show Value.int x.toInt8.toInt32 = .int x; rw [h01]) (fun t ht hW => hq t hW (by rw [ht]; exact hP) (hS.F ht)) hS.2.2 hdg hlocks
    · cases h
  · cases h
theorem rg_so_lret (hC : rg_Cx p R s m args c dC dI ρ cA y d) (hdg : decode (rg_bytes y) pc = .ok (.lreturn, n)) (h : rg_lret (rg_ret y) n S = some o) : rg_Sd p l e R s m args below meth c dC dI ρ cA y d pc L S M o := by
  obtain ⟨hx, hb, -⟩ := hC
  unfold rg_lret at h
  split at h
  · rename_i x hrt
    obtain ⟨h1, h2⟩ := rg_ln_inv h
    subst h1
    cases h2
    intro hr hlocks Qc hq ls H locs hL hP hS
    rw [hrt] at hr
    exact W.lret hx hb hr (fun t ht hW => hq t hW (by rw [ht]; exact hP) (hS.F ht)) hS.2.2 hdg hlocks
  · cases h
theorem rg_so_aret (hC : rg_Cx p R s m args c dC dI ρ cA y d) (hdg : decode (rg_bytes y) pc = .ok (.areturn, n)) (h : rg_aret (rg_ret y) n S = some o) : rg_Sd p l e R s m args below meth c dC dI ρ cA y d pc L S M o := by
  obtain ⟨hx, hb, -⟩ := hC
  unfold rg_aret at h
  split at h
  · rename_i x hrt
    obtain ⟨h1, h2⟩ := rg_ln_inv h
    subst h1
    cases h2
    intro hr hlocks Qc hq ls H locs hL hP hS
    rw [hrt] at hr
    exact W.aret hx hb hr (Or.inr ⟨_, rfl⟩) (Or.inr ⟨_, rfl⟩) (fun t ht hW => hq t hW (by rw [ht]; exact hP) (hS.F ht)) hS.2.2 hdg hlocks
  · cases h
theorem rg_so_vret (hC : rg_Cx p R s m args c dC dI ρ cA y d) (hdg : decode (rg_bytes y) pc = .ok (.return_, n)) (h : rg_vret (rg_ret y) n S = some o) : rg_Sd p l e R s m args below meth c dC dI ρ cA y d pc L S M o := by
  obtain ⟨hx, hb, -⟩ := hC
  unfold rg_vret at h
  split at h
  · rename_i hrt
    obtain ⟨h1, h2⟩ := rg_ln_inv h
    subst h1
    cases h2
    intro hr hlocks Qc hq ls H locs hL hP hS
    rw [hrt] at hr
    exact W.vret hx hb hr (fun t ht hW => hq t hW (by rw [ht]; exact hP) (hS.F ht)) hS.2.2 hdg hlocks
  · cases h
theorem rg_callB {i y' d' : Nat} (hy' : y' < 214) (hts : ∀ w ∈ rg_tbl, w.before args s = true) (hl : Cond.methodLink (rg_name y).cls i (rg_name y') ∈ rg_tbl) (hfr : d' + 1 ≤ R.frames) (hlo : 64 * (d' + 1) ≤ R.locals) : CallB R s args (rg_name y).cls i (rg_name y') (rg_bytes y') (rg_maxL y') (rg_ret y') (rg_ws y') ({ frames := d', cells := 0, slots := 0, locals := 64 * d' }) 0 0 (rg_np y') := by
  obtain ⟨r1, r2, r3, r4, r5, r6, r7, r8⟩ := rg_row_spec hy'
  exact callB_of (rg_np y') hts (rg_good hy') rfl rfl rfl (hts _ r2) (hts _ hl) r4 ⟨hfr, by show 8 + (rg_maxL y' + 11) + 64 * d' ≤ R.locals; omega⟩
theorem rg_ret_map (r : Option Value) (rest : List Value) : (r.toList ++ rest).map (rg_cv ρ) = (r.map (rg_cv ρ)).toList ++ rest.map (rg_cv ρ) := by cases r <;> rfl
theorem rg_so_invV {i : Nat} (hC : rg_Cx p R s m args c dC dI ρ cA y d) (hdg : decode (rg_bytes y) pc = .ok (.invokevirtual i, n)) (h : rg_invV (rg_own y) i n S = some o) : rg_Sd p l e R s m args below meth c dC dI ρ cA y d pc L S M o := by
  obtain ⟨hx, hb, hml, hown, hts, hK, hD, hfr, hlo, hN, hSx, hy⟩ := hC
  have hon := (rg_row_spec hy).2.2.1
  unfold rg_invV at h
  split at h
  · rename_i y' z hi
    split at h
    · rename_i a rest hdrop
      split at h
      · rename_i hcond
        obtain ⟨h3, hI, hlen⟩ := hcond
        subst h3
        unfold rg_call at h
        split at h
        · rename_i hc2
          cases h
          obtain ⟨hs8, hargs, hok⟩ := hc2
          obtain ⟨hy', hi0, -, -⟩ := rg_inv_ok hi
          obtain ⟨hst, hlink⟩ := hi0 rfl
          rw [hon] at hlink
          obtain ⟨w1, w2, w3⟩ := (rg_row_spec hy').2.2.2.2.2.2.2 hst
          refine ⟨⟨hargs, hok⟩, fun d' hd r M' hM Q k ls H locs hL hP hS => ?_⟩
          subst hd
          have hrecv : ∃ cell : Cell, H[ρ a]? = some cell ∧ cell.vm.isStatics = false ∧ s.vm.findClass (rg_name y').cls = some cell.cls := by
            unfold rg_isI at hI
            split at hI
            · rename_i h15
              have ha : a = rg_str := of_decide_eq_true hI
              subst ha
              have hcl : (rg_name y').cls = "java/lang/String" := by
                have h9 := (rg_row_spec hy').2.2.1
                rw [h15] at h9
                exact h9.symm
              rw [hcl]
              exact vk_recv (i := 0) hSx.2.1 (by decide) hS
            · rename_i h15
              split at hI
              · rename_i ci ks hsh
                have hci : ci = rg_own y' := of_decide_eq_true hI
                rw [hci] at hsh
                rcases w3 with ⟨w3, -⟩ | w3
                · exact absurd w3 h15
                · obtain ⟨q, hq, hqc⟩ : ∃ q, rg_classes[rg_own y']? = some q ∧ q.1 = (rg_name y').cls := by
                    cases hq : rg_classes[rg_own y']? with
                    | none => rw [hq] at w3; cases w3
                    | some q => rw [hq] at w3; exact ⟨q, rfl, Option.some.inj w3⟩
                  have hrecv := va_recv hK hP hq (rg_w_get hsh)
                  rw [hqc] at hrecv
                  exact hrecv
              · cases hI
          have hS' : S = S.take (rg_np y') ++ .ref a :: rest := by rw [← hdrop]; exact (List.take_append_drop _ _).symm
          refine rg_callx (r := r.map (rg_cv ρ)) (rest := rest.map (rg_cv ρ)) (va_runV (own := (rg_name y).cls) (C := (rg_name y').cls) (b := ρ a) (As := (S.take (rg_np y')).reverse.map (rg_cv ρ)) (rest := rest.map (rg_cv ρ)) (n := rg_np y') ⟨hx, hb, hml, hown, hts⟩ (hM H.size) ⟨rg_callB hy' hts hlink hfr hlo, hts _ w1, hts _ w2⟩ ⟨rg_blind, hrecv, fun U hU hW => ⟨rfl, rg_pre_at hK hN hSx hP hS hU hW⟩⟩ rfl ?_ hL.2.1 ?_ (lv_room (by rw [rg_sum_map]; exact hs8)) hdg ⟨Nat.zero_le _, Nat.zero_le _⟩) hS (fun q _ hq => rg_A_mono hS.1 hq) (fun q hq => rg_A_mono hS.1 hq) (fun t H1 locs1 ht hB hS1 => ?_)
          · rw [List.length_map, List.length_reverse, List.length_take]; omega
          · show S.map (rg_cv ρ) = _
            rw [← List.map_reverse, List.reverse_reverse]
            conv => lhs; rw [hS']
            rw [List.map_append]
            rfl
          · rw [← rg_ret_map]
            exact k ls H1 locs1 hL (by rw [← ht]; exact hB) hS1
        · cases h
      · cases h
    · cases h
  · cases h
theorem rg_so_invS {i : Nat} (hC : rg_Cx p R s m args c dC dI ρ cA y d) (hdg : decode (rg_bytes y) pc = .ok (.invokestatic i, n)) (h : rg_invS (rg_own y) i n S = some o) : rg_Sd p l e R s m args below meth c dC dI ρ cA y d pc L S M o := by
  obtain ⟨hx, hb, hml, hown, hts, hK, hD, hfr, hlo, hN, hSx, hy⟩ := hC
  have hon := (rg_row_spec hy).2.2.1
  unfold rg_invS at h
  split at h
  · rename_i kd y' z hi
    split at h
    · rename_i hcond
      obtain ⟨h3, hkd, hlen⟩ := hcond
      subst h3
      unfold rg_call at h
      split at h
      · rename_i hc2
        cases h
        obtain ⟨hs8, hargs, hok⟩ := hc2
        obtain ⟨hy', -, hi1, hi2⟩ := rg_inv_ok hi
        refine ⟨⟨hargs, hok⟩, fun d' hd r M' hM Q k ls H locs hL hP hS => ?_⟩
        subst hd
        have hS' : S = S.take (rg_np y') ++ S.drop (rg_np y') := (List.take_append_drop _ _).symm
        have hn : ((S.take (rg_np y')).reverse.map (rg_cv ρ)).length = rg_np y' := by rw [List.length_map, List.length_reverse, List.length_take]; omega
        have hst : S.map (rg_cv ρ) = ((S.take (rg_np y')).reverse.map (rg_cv ρ)).reverse ++ (S.drop (rg_np y')).map (rg_cv ρ) := by
          rw [← List.map_reverse, List.reverse_reverse, ← List.map_append, ← hS']
        have hk : ∀ (t : State) (H1 : Heap) (locs1 : List Loc), t.heap = H1 → va_P (dC, dI) rg_classes (rg_w ρ cA M') t.heap → va_S (rg_A ρ s.heap.size) s.heap H1 locs1 → W p l e R s m args below meth c H1 locs1 0 0 Q (F0 m (pc + 3) ls ((r.map (rg_cv ρ)).toList ++ (S.drop (rg_np y')).map (rg_cv ρ))) := fun t H1 locs1 ht hB hS1 => by
          rw [← rg_ret_map]
          exact k ls H1 locs1 hL (by rw [← ht]; exact hB) hS1
        rcases hkd with rfl | rfl
        · obtain ⟨hst1, hlink⟩ := hi1 rfl
          rw [hon] at hlink
          have hstat := (rg_row_spec hy').2.2.2.2.2.2.1 hst1
          exact rg_callx (r := r.map (rg_cv ρ)) (rest := (S.drop (rg_np y')).map (rg_cv ρ)) (va_runS (own := (rg_name y).cls) (As := (S.take (rg_np y')).reverse.map (rg_cv ρ)) (rest := (S.drop (rg_np y')).map (rg_cv ρ)) (n := rg_np y') ⟨hx, hb, hml, hown, hts⟩ (hM H.size) ⟨rg_callB hy' hts hlink hfr hlo, hts _ hstat⟩ ⟨rg_blind, fun U hU hW => ⟨rfl, rg_pre_at hK hN hSx hP hS hU hW⟩⟩ rfl hn hL.2.1 hst (lv_room (by rw [rg_sum_map]; exact hs8)) hdg ⟨Nat.zero_le _, Nat.zero_le _⟩) hS (fun q _ hq => rg_A_mono hS.1 hq) (fun q hq => rg_A_mono hS.1 hq) hk
        · obtain ⟨hst1, -⟩ := hi2 rfl
          have hlink := hN _ _ _ _ hi
          rw [hon] at hlink
          have hstat := (rg_row_spec hy').2.2.2.2.2.2.1 hst1
          obtain ⟨r1, r2, r3, r4, r5, r6, r7, r8⟩ := rg_row_spec hy'
          exact rg_callx (r := r.map (rg_cv ρ)) (rest := (S.drop (rg_np y')).map (rg_cv ρ)) (va_runSN (own := (rg_name y).cls) (As := (S.take (rg_np y')).reverse.map (rg_cv ρ)) (rest := (S.drop (rg_np y')).map (rg_cv ρ)) (n := rg_np y') ⟨hx, hb, hml, hown, hts⟩ (hM H.size) ⟨va_cnB (rg_np y') hts (rg_good hy') rfl rfl rfl hlink (hts _ r2) r4 ⟨hfr, by show 8 + (rg_maxL y' + 11) + 64 * d' ≤ R.locals; omega⟩, hts _ hstat, trivial⟩ ⟨rg_blind, fun U hU hW => ⟨rfl, rg_pre_at hK hN hSx hP hS hU hW⟩⟩ rfl hn hL.2.1 hst (lv_room (by rw [rg_sum_map]; exact hs8)) hdg ⟨Nat.zero_le _, Nat.zero_le _⟩) hS (fun q _ hq => rg_A_mono hS.1 hq) (fun q hq => rg_A_mono hS.1 hq) hk
      · cases h
    · cases h
  · cases h
end SND
