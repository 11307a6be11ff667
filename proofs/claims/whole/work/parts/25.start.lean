/-! the law's start: the classes, the String, both objects -/
theorem lz_sz_ok : rc_sz rc_m ≤ 7302250 ∧ rc_sz rc_x ≤ rc_sz rc_m := by decide +kernel
theorem lz_szx : rc_sz [.inl (0, rc_new 0)] ≤ rc_sz rc_x := (rc_mono2 rc_x_ok).2
theorem lz_szm : rc_sz (rc_x ++ [.inl (12, rc_new 12)]) ≤ rc_sz rc_m := (rc_mono2 rc_m_ok).2
theorem lz_w7 : Cond.classLink "RiverGaugeLaw" 7 "RiverGauge" ∈ rg_tbl := rg_tbl_mem (i := 85) (by decide +kernel) rfl
theorem lz_w10 : Cond.classLink "RiverGaugeLaw" 10 "RiverGaugeModel" ∈ rg_tbl := rg_tbl_mem (i := 1230) (by decide +kernel) rfl
theorem lz_w9 : Cond.methodLink "RiverGaugeLaw" 9 (rc_name 0) ∈ rg_tbl := rg_tbl_mem (i := 87) (by decide +kernel) rfl
theorem lz_w12 : Cond.methodLink "RiverGaugeLaw" 12 (rc_name 12) ∈ rg_tbl := rg_tbl_mem (i := 1232) (by decide +kernel) rfl
theorem lz_wZ : Cond.laysStatic "java/lang/String" "COMPACT_STRINGS" "Z" ∈ lw_tbl := by
  have h : lw_tbl.any (fun w => decide (w = Cond.laysStatic "java/lang/String" "COMPACT_STRINGS" "Z")) = true := by decide +kernel
  obtain ⟨w, hw, e⟩ := List.any_eq_true.mp h
  have := of_decide_eq_true e
  subst this
  exact hw
theorem lz_wI : Cond.initialized "java/lang/String" ∈ lw_tbl := by
  have h : lw_tbl.any (fun w => decide (w = Cond.initialized "java/lang/String")) = true := by decide +kernel
  obtain ⟨w, hw, e⟩ := List.any_eq_true.mp h
  have := of_decide_eq_true e
  subst this
  exact hw
theorem lz_wS : Cond.stringRef "RiverGauge$Tape" 59 "dmrkabghnfwxi" ∈ lw_tbl := by
  have h : lw_tbl.any (fun w => decide (w = Cond.stringRef "RiverGauge$Tape" 59 "dmrkabghnfwxi")) = true := by decide +kernel
  obtain ⟨w, hw, e⟩ := List.any_eq_true.mp h
  have := of_decide_eq_true e
  subst this
  exact hw
/-- the String of the letters, as the Statement has it -/
theorem lz_string {b : Nat} {s : State} (hts : ∀ w ∈ lw_tbl, w.before #[Value.ref b] s = true) (hgv : (Jvm.Cond.and given_1 narrow_1).before #[Value.ref b] s = true) : ∃ aS aV : Nat, vk_R "RiverGauge$Tape" 59 "dmrkabghnfwxi" aS s ∧ vk_S 1 [13] [rg_lets] (fun _ => aS) (fun _ => aV) (fun q => s.heap.size ≤ q) s s.heap ∧ va_Z "java/lang/String" "COMPACT_STRINGS" "Z" (.int 1) (fun q => s.heap.size ≤ q) s s.heap := by
  have hs := flat_of_before _ hgv
  have hA : ∀ a : Nat, a < s.heap.size → ¬ (fun q => s.heap.size ≤ q) a := fun a ha => Nat.not_le.mpr ha
  obtain ⟨adK, adV, h1, h2⟩ := vk_Sof (args := #[Value.ref b]) (s := s) (N := 1) (tm := fun _ => Term.string "RiverGauge$Tape" 59) (len := [13]) (byt := [rg_lets]) (A := fun q => s.heap.size ≤ q) (fun i hi => by
      have : i = 0 := by omega
      subst this
      decide) (fun i hi => hs _ (by decide +kernel)) (fun i hi => hs _ (by decide +kernel)) (fun i hi => hs _ (by decide +kernel)) (fun i hi => by
      have : i = 0 := by omega
      subst this
      exact hs _ (by decide +kernel)) (fun i hi j hj => by
      have : i = 0 := by omega
      subst this
      have hj2 : j < 13 := hj
      match j, hj2 with
      | 0, _ => exact hs _ (by decide +kernel)
      | 1, _ => exact hs _ (by decide +kernel)
      | 2, _ => exact hs _ (by decide +kernel)
      | 3, _ => exact hs _ (by decide +kernel)
      | 4, _ => exact hs _ (by decide +kernel)
      | 5, _ => exact hs _ (by decide +kernel)
      | 6, _ => exact hs _ (by decide +kernel)
      | 7, _ => exact hs _ (by decide +kernel)
      | 8, _ => exact hs _ (by decide +kernel)
      | 9, _ => exact hs _ (by decide +kernel)
      | 10, _ => exact hs _ (by decide +kernel)
      | 11, _ => exact hs _ (by decide +kernel)
      | 12, _ => exact hs _ (by decide +kernel)
      | j + 13, h => exact absurd h (by omega)) (fun i j hi hj hne => absurd (by omega) hne) hA
  refine ⟨adK 0, adV 0, vk_R.of (hts _ lz_wS) (h2 0 (by decide)), ?_, va_Zof (hts _ lz_wZ) (hts _ lz_wI) (va_eqi (hs _ (by decide +kernel))) hA⟩
  refine ⟨fun i hi => ?_, fun i j hi hj _ => by omega⟩
  have : i = 0 := by omega
  subst this
  exact h1.1 0 (by decide)
theorem lz_classes {b : Nat} {s : State} (hts : ∀ w ∈ lw_tbl, w.before #[Value.ref b] s = true) : ∃ (dC : Nat → ClassId) (dI : Nat → Nat → Nat) (cA : Nat → ClassId), va_K (dC, dI) rg_classes (rg_tys cA) s := by
  have htr : ∀ w ∈ rg_tbl, w.before #[Value.ref b] s = true := fun w hw => hts w (List.mem_filter.mp hw).1
  have h : ∀ k : Nat, ∃ q : ClassId × (Nat → Nat), ∀ r : vw_C, rg_classes[k]? = some r → u_Kn s r.1 r.2.1 r.2.2 q.1 q.2 := by
    intro k
    by_cases hk : k < 13
    · obtain ⟨T, N, hc, hinst⟩ := (rc_row_spec hk).2.2.1
      obtain ⟨cC, iS, hKn⟩ := u_known (C := (rc_name k).cls) (T := T) (N := N) htr (rg_cls hc).1 (htr _ hinst)
      refine ⟨(cC, iS), fun r hr => ?_⟩
      rw [hc] at hr
      cases hr
      exact hKn
    · refine ⟨(0, fun _ => 0), fun r hr => ?_⟩
      have h9 := (List.getElem?_eq_some_iff.mp hr).1
      exact absurd h9 hk
  obtain ⟨cI, kI, qI, i1, i2, i3⟩ := Cond.arrayClass_spec (htr _ rc_wA1)
  obtain ⟨cL, kL, qL, j1, j2, j3⟩ := Cond.arrayClass_spec (htr _ rc_wA2)
  obtain ⟨pP, cP, kP, p1, p2, p3, p4, p5⟩ := Cond.arrayOver_spec (hts _ rc_wA3)
  obtain ⟨pG, cG, kG, g1, g2, g3, g4, g5⟩ := arrayOverA_spec (hts _ rc_wA4)
  refine ⟨fun k => (Classical.choose (h k)).1, fun k => (Classical.choose (h k)).2, fun k => match k with | 0 => cI | 1 => cL | 2 => cP | _ => cG, fun k r hr => Classical.choose_spec (h k) r hr, fun k q hq => ?_⟩
  match k, hq with
  | 0, hq => cases hq; exact ⟨fun n z => ⟨fun k h => (by cases h), kI, i2, qI, i3⟩, i1⟩
  | 1, hq => cases hq; exact ⟨fun n z => ⟨fun k h => (by cases h), kL, j2, qL, j3⟩, j1⟩
  | 2, hq => cases hq; exact ⟨fun n z => ⟨fun k h => (by cases h), kP, p3, pP, p4⟩, kP, pP, p3, p4, p1, p5⟩
  | 3, hq => cases hq; exact ⟨fun n z => ⟨fun k h => (by cases h), kG, g3, pG, g4⟩, g5⟩
  | k + 4, hq => cases hq
section LAWNEW
variable {p : Program} {l : Launch} {e : Env} {s : State} {m : MethodId} {below : List Frame} {meth : Method} {c : Code} {Q : State → Prop}
variable {b : Nat} {dC : Nat → ClassId} {dI : Nat → Nat → Nat} {cA : Nat → ClassId}
/-- the law makes an object, and its constructor runs -/
theorem lz_make (hx : p.tables.exec = Jvm.exec) (hb : c.code = code) (hml : c.maxLocals = 4) (hown : s.vm.findClass "RiverGaugeLaw" = some m.cls) (hts : ∀ w ∈ rg_tbl, w.before #[Value.ref b] s = true) (hK : va_K (dC, dI) rg_classes (rg_tys cA) s) (hN : rc_N s) (hV : rc_V s) {y i1 i2 f pc : Nat} {C C' : rc_C} (hy : y < 13) (hlk1 : Cond.classLink "RiverGaugeLaw" i1 (rc_name y).cls ∈ rg_tbl) (hlk2 : Cond.methodLink "RiverGaugeLaw" i2 (rc_name y) ∈ rg_tbl) (hnp : rc_np y = 0) (hmx : 1 ≤ rc_maxL y) (he : rc_exec f 8 y 0 (rc_ent y [.ref C.length]) [] (C ++ [.inl (y, rc_new y)]) = some C') (hd1 : decode code pc = .ok (.new i1, 3)) (hd2 : decode code (pc + 3) = .ok (.dup, 1)) (hd3 : decode code (pc + 4) = .ok (.invokespecial i2, 3))
    {H : Heap} {locs : List Loc} {ls : Array Slot} (hls : ls.size = 4) (hz : H.size = s.heap.size + C.length) (hP : va_P (dC, dI) rg_classes (rc_w s.heap.size cA C) H) (hS : va_S (fun q => s.heap.size ≤ q) s.heap H locs) (hc1 : C'.length ≤ 600000) (hc2 : rc_sz C' ≤ 7302250)
    (k : ∀ (H1 : Heap) (locs1 : List Loc), H1.size = s.heap.size + C'.length → va_P (dC, dI) rg_classes (rc_w s.heap.size cA C') H1 → va_S (fun q => s.heap.size ≤ q) s.heap H1 locs1 → W p l e room_1 s m #[Value.ref b] below meth c H1 locs1 C'.length (rc_sz C') Q (F0 m (pc + 7) ls [.ref (s.heap.size + C.length)])) : W p l e room_1 s m #[Value.ref b] below meth c H locs C.length (rc_sz C) Q (F0 m pc ls []) := by
  obtain ⟨r1, r2, ⟨T, N, hc, hinst⟩, r4, r5, r6, r7, r8⟩ := rc_row_spec hy
  obtain ⟨hin, ty, hty, htyok, hnm⟩ := rg_cls hc
  obtain ⟨hlen, hfs⟩ := rc_new_spec hc hty (rc_r s.heap.size)
  have hone : rc_one (.inl (y, rc_new y)) = N := hlen
  have hsz : rc_sz (C ++ [.inl (y, rc_new y)]) = rc_sz C + N := by rw [rc_sz_app, rc_sz_one, hone]
  have hln : (C ++ [.inl (y, rc_new y)] : rc_C).length = C.length + 1 := by simp
  obtain ⟨m1, m2⟩ := rc_mono2 he
  rw [hln] at m1
  rw [hsz] at m2
  have hKn := hK.1 y _ hc
  refine W.newcK hx hb hown (hts _ hlk1) (hts _ hinst) (hts _ r2) rfl hd1 (by show _ ≤ 600000; omega) (by show _ ≤ 7302250; omega) hKn.2.1 rfl fun H1 kC hkC e1 z1 o1 => ?_
  have hP1 : va_P (dC, dI) rg_classes (rc_w s.heap.size cA (C ++ [.inl (y, rc_new y)])) H1 := by
    rw [rc_w_app]
    have h9 := rc_P_push (e0 := rc_ce s.heap.size cA (.inl (y, rc_new y))) hP o1 ⟨_, hc, (u_born ty hts hin hKn hkC e1 htyok).to hfs⟩
    rw [hz] at h9
    exact h9
  have hS1 := rc_S_grow hS (H1 := H1) (by omega) o1
  refine lv_dup hx hb hd2 rfl ?_
  have hM := rc_met l dC dI s.heap.size cA (d := 7) he (by simpa [rg_args] using hmx) rfl
  refine rc_callx (rest := [.ref H.size]) (va_runI (own := "RiverGaugeLaw") (b := H.size) (As := []) (rest := [.ref H.size]) (n := rc_np y) ⟨hx, hb, hml, hown, hts⟩ hM ⟨callB_of (rc_np y) hts (rc_good hy) rfl rfl rfl (hts _ r2) (hts _ hlk2) r5 ⟨by show 8 + 1 ≤ 2048; omega, by show 8 + (rc_maxL y + 11) + 64 * 8 ≤ 84000; omega⟩, r8, hts _ r1⟩ ⟨rc_blind, fun U hU hW => ⟨?_, rc_pre_at hK hN hV (by rw [z1, hz, hln]; omega) hP1 hU hW⟩⟩ rfl hnp.symm hls rfl (lv_room (Nat.le_of_ble_eq_true rfl)) hd3 ⟨?_, ?_⟩) hS1 (fun q _ hq => hq) (fun q hq => hq) (fun t H2 locs2 ht _ hB hS2 => ?_)
  · show _ = _
    rw [hz]
    rfl
  · show C.length + 1 + (C'.length - (C ++ [.inl (y, rc_new y)] : rc_C).length) ≤ 600000
    rw [hln]
    omega
  · show rc_sz C + N + (rc_sz C' - rc_sz (C ++ [.inl (y, rc_new y)])) ≤ 7302250
    rw [hsz]
    omega
  · have k2 := k H2 locs2 (by rw [← ht]; exact hB.1) (by rw [← ht]; exact hB.2) hS2
    rw [hz]
    rw [hln, hsz]
    have q1 : C.length + 1 + (C'.length - (C.length + 1)) = C'.length := by omega
    have q2 : rc_sz C + N + (rc_sz C' - (rc_sz C + N)) = rc_sz C' := by omega
    rw [q1, q2]
    exact k2
end LAWNEW
