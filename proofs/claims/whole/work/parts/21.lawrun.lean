/-! the law between its calls, and one call of it -/
def lz_op (xs : Nat → Int32) (iv : Int32) (i : Instr) (n : Nat) (S : List Value) : Option (List Value × List Int32) := match i with
  | .aload_n k => if n = 1 ∧ k.val < 3 then some (.ref k.val :: S, []) else none
  | .iload_n k => if n = 1 ∧ k.val = 3 then some (.int iv :: S, []) else none
  | .iconst k => if n = 1 then some (.int (Int32.ofInt k) :: S, []) else none
  | .bipush k => if n = 2 then some (.int (Int8.ofInt k).toInt32 :: S, []) else none
  | .ldc2_w k => if n = 3 ∧ k = 61 then some (.long 4294967295 :: S, []) else none
  | .iadd => match S with
    | .int z :: .int x :: r => if n = 1 then some (.int (x + z) :: r, []) else none
    | _ => none
  | .iaload => match S with
    | .int x :: .ref 0 :: r => if n = 1 then some (.int (xs x.toNatClampNeg) :: r, [x]) else none
    | _ => none
  | .i2l => match S with
    | .int x :: r => if n = 1 then some (.long x.toInt64 :: r, []) else none
    | _ => none
  | .lshl => match S with
    | .int z :: .long x :: r => if n = 1 then some (.long (x <<< (z.toInt64 &&& 63)) :: r, []) else none
    | _ => none
  | .land => match S with
    | .long z :: .long x :: r => if n = 1 then some (.long (x &&& z) :: r, []) else none
    | _ => none
  | .lor => match S with
    | .long z :: .long x :: r => if n = 1 then some (.long (x ||| z) :: r, []) else none
    | _ => none
  | _ => none
def lz_run (xs : Nat → Int32) (iv : Int32) : List lz_I → List Value → Option (List Value × List Int32)
  | [], S => some (S, [])
  | (_, i, n) :: t, S => match lz_op xs iv i n S with
    | none => none
    | some (S1, R1) => match lz_run xs iv t S1 with
      | none => none
      | some (S2, R2) => some (S2, R1 ++ R2)
def lz_lin : List lz_I → Nat → Option Nat
  | [], pc => some pc
  | (q, _, n) :: t, pc => if q = pc then lz_lin t (pc + n) else none
def lz_t (b ax am : Nat) (c : Nat) : Nat := match c with
  | 0 => b
  | 1 => ax
  | _ => am
theorem lz_wL : Cond.constantLong "RiverGaugeLaw" 61 4294967295 ∈ lw_tbl := by
  have h : lw_tbl.any (fun w => decide (w = Cond.constantLong "RiverGaugeLaw" 61 4294967295)) = true := by decide +kernel
  obtain ⟨w, hw, e⟩ := List.any_eq_true.mp h
  have := of_decide_eq_true e
  subst this
  exact hw
section LAWRUN
variable {p : Program} {l : Launch} {e : Env} {R : Room} {s : State} {m : MethodId} {args : Array Value} {below : List Frame} {meth : Method} {c : Code} {H : Heap} {locs : List Loc} {nc ns : Nat} {Q : State → Prop}
variable {A : Nat → Prop} {b L ax am : Nat} {xs : Nat → Int32} {ls : Array Slot} {iv : Int32}
set_option maxHeartbeats 1000000 in
theorem lz_so_op (hx : p.tables.exec = Jvm.exec) (hb : c.code = code) (hown : s.vm.findClass "RiverGaugeLaw" = some m.cls) (hts : ∀ w ∈ rg_tbl, w.before args s = true) (hX : va_X b L xs s s.heap) (hbl : b < s.heap.size) (hbA : ¬ A b) (hS : va_S A s.heap H locs) (hl : lv_has ls 4 [(0, .ref b), (1, .ref ax), (2, .ref am), (3, .int iv)]) {i : Instr} {n pc : Nat} {S S1 : List Value} {R1 : List Int32} (hdg : decode code pc = .ok (i, n)) (h : lz_op xs iv i n S = some (S1, R1)) (hR : ∀ x ∈ R1, vp_in x L) (k : W p l e R s m args below meth c H locs nc ns Q (F0 m (pc + n) ls (S1.map (rg_cv (lz_t b ax am))))) : W p l e R s m args below meth c H locs nc ns Q (F0 m pc ls (S.map (rg_cv (lz_t b ax am)))) := by
  cases i with
  | aload_n q =>
    simp only [lz_op] at h
    split at h
    · rename_i hc
      obtain ⟨rfl, hq⟩ := hc
      cases h
      obtain ⟨q, hq4⟩ := q
      simp only at hq
      have h3 : q = 0 ∨ q = 1 ∨ q = 2 := by omega
      rcases h3 with rfl | rfl | rfl
      · exact lv_aload_n hx hb hdg rfl (lv_at hl 0 rfl) k
      · exact lv_aload_n hx hb hdg rfl (lv_at hl 1 rfl) k
      · exact lv_aload_n hx hb hdg rfl (lv_at hl 2 rfl) k
    · cases h
  | iload_n q =>
    simp only [lz_op] at h
    split at h
    · rename_i hc
      obtain ⟨rfl, hq⟩ := hc
      cases h
      exact lv_iload_n hx hb hdg hq (lv_at hl 3 rfl) k
    · cases h
  | iconst q =>
    simp only [lz_op] at h
    split at h
    · rename_i hn
      subst hn
      cases h
      exact lv_iconst hx hb hdg rfl k
    · cases h
  | bipush q =>
    simp only [lz_op] at h
    split at h
    · rename_i hn
      subst hn
      cases h
      exact lv_bipush hx hb hdg rfl k
    · cases h
  | ldc2_w q =>
    simp only [lz_op] at h
    split at h
    · rename_i hn
      obtain ⟨rfl, rfl⟩ := hn
      cases h
      exact lv_ldc2 hx hb hown (hts _ (List.mem_filter.mpr ⟨lz_wL, rfl⟩)) hdg k
    · cases h
  | iadd =>
    simp only [lz_op] at h
    split at h
    · split at h
      · rename_i hn
        subst hn
        cases h
        exact lv_iadd hx hb hdg k
      · cases h
    · cases h
  | iaload =>
    simp only [lz_op] at h
    split at h
    · split at h
      · rename_i hn
        subst hn
        cases h
        exact va_sld hx hb hX hbl hbA hS (hR _ List.mem_cons_self) hdg k
      · cases h
    · cases h
  | i2l =>
    simp only [lz_op] at h
    split at h
    · split at h
      · rename_i hn
        subst hn
        cases h
        exact lv_i2l hx hb hdg rfl k
      · cases h
    · cases h
  | lshl =>
    simp only [lz_op] at h
    split at h
    · split at h
      · rename_i hn
        subst hn
        cases h
        exact lv_lshl hx hb hdg rfl k
      · cases h
    · cases h
  | land =>
    simp only [lz_op] at h
    split at h
    · split at h
      · rename_i hn
        subst hn
        cases h
        exact lv_land hx hb hdg k
      · cases h
    · cases h
  | lor =>
    simp only [lz_op] at h
    split at h
    · split at h
      · rename_i hn
        subst hn
        cases h
        exact lv_lor hx hb hdg k
      · cases h
    · cases h
  | _ => cases h
theorem lz_so (hx : p.tables.exec = Jvm.exec) (hb : c.code = code) (hown : s.vm.findClass "RiverGaugeLaw" = some m.cls) (hts : ∀ w ∈ rg_tbl, w.before args s = true) (hX : va_X b L xs s s.heap) (hbl : b < s.heap.size) (hbA : ¬ A b) (hS : va_S A s.heap H locs) (hl : lv_has ls 4 [(0, .ref b), (1, .ref ax), (2, .ref am), (3, .int iv)]) : ∀ (t : List lz_I) (pc pc' : Nat) (S S' : List Value) (R' : List Int32), t.all (fun e => decide (decode code e.1 = .ok e.2)) = true → lz_lin t pc = some pc' → lz_run xs iv t S = some (S', R') → (∀ x ∈ R', vp_in x L) → W p l e R s m args below meth c H locs nc ns Q (F0 m pc' ls (S'.map (rg_cv (lz_t b ax am)))) → W p l e R s m args below meth c H locs nc ns Q (F0 m pc ls (S.map (rg_cv (lz_t b ax am)))) := by
  intro t
  induction t with
  | nil =>
    intro pc pc' S S' R' _ h1 h2 _ k
    cases h1
    cases h2
    exact k
  | cons a t ih =>
    obtain ⟨q, i, n⟩ := a
    intro pc pc' S S' R' hd h1 h2 hR k
    simp only [List.all_cons, Bool.and_eq_true, decide_eq_true_eq] at hd
    simp only [lz_lin] at h1
    split at h1
    · rename_i hq
      subst hq
      simp only [lz_run] at h2
      split at h2
      · cases h2
      · rename_i S1 R1 ho
        split at h2
        · cases h2
        · rename_i S2 R2 hr
          cases h2
          exact lz_so_op hx hb hown hts hX hbl hbA hS hl hd.1 ho (fun x hx => hR x (List.mem_append_left _ hx)) (ih _ _ _ _ _ hd.2 h1 hr (fun x hx => hR x (List.mem_append_right _ hx)) k)
    · cases h1
theorem lz_callx {pc : Nat} {st0 rest : List Value} {r : Option Value} {B : State → Prop} {A0 A1 free : Nat → Prop} {a : Array Value} {H0 : Heap} (hr : va_Run p l e R s m args below meth c H locs nc ns 0 0 (F0 m pc ls st0) rest (rg_Qx r B A1 a) free) (hS : va_S A0 H0 H locs) (hA : ∀ q, q < H.size → A1 q → A0 q) (hf : ∀ q, free q → A0 q)
    (kk : ∀ (t : State) (H1 : Heap) (locs1 : List Loc), t.heap = H1 → B t → va_S A0 H0 H1 locs1 → W p l e R s m args below meth c H1 locs1 nc ns Q (F0 m (pc + 3) ls (r.toList ++ rest))) : W p l e R s m args below meth c H locs nc ns Q (F0 m pc ls st0) := by
  intro T hT X
  obtain ⟨v, st₀, t, T', L, h0, X', hL, e1, e2, ⟨⟨hv, hb⟩, hz, hk⟩, st⟩ := hr T hT X
  cases hv
  rw [h0] at hz hk
  obtain ⟨t2, a1, b1⟩ := kk t T'.heap (locs ++ L) e1.symm hb
    ⟨Nat.le_trans hS.1 (by rw [e1]; exact hz), fun q h1 h2 => by rw [e1, hk q (Nat.lt_of_lt_of_le h1 hS.1) (fun z => h2 (hA q (Nat.lt_of_lt_of_le h1 hS.1) z))]; exact hS.2.1 q h1 h2, fun q hq => by
      rcases List.mem_append.mp hq with h | h
      · exact hS.2.2 q h
      · exact hf _ (hL q h)⟩ T' rfl X'
  exact ⟨t2, st t2 a1, b1⟩
end LAWRUN
/-- values without references -/
def lz_num (v : Value) : Bool := match v with
  | .int _ => true
  | .long _ => true
  | _ => false
theorem lz_num_map {as : List Value} (h : as.all lz_num = true) (r : Nat → Nat) : as.map (rg_cv r) = as := by
  induction as with
  | nil => rfl
  | cons v t ih =>
    simp only [List.all_cons, Bool.and_eq_true] at h
    rw [List.map_cons, ih h.2]
    cases v <;> first | rfl | (simp [lz_num] at h)
theorem lz_num_ok {as : List Value} (h : as.all lz_num = true) : as.all rg_okv = true := by
  rw [List.all_eq_true] at h ⊢
  intro v hv
  have := h v hv
  cases v <;> first | rfl | (simp [lz_num] at this)
/-- what holds all through the law -/
def lz_Cx (p : Program) (s : State) (m : MethodId) (c : Code) (b L : Nat) (xs : Nat → Int32) (dC : Nat → ClassId) (dI : Nat → Nat → Nat) (ρ : Nat → Nat) (cA : Nat → ClassId) : Prop :=
  p.tables.exec = Jvm.exec ∧ c.code = code ∧ c.maxLocals = 4 ∧ s.vm.findClass "RiverGaugeLaw" = some m.cls ∧ (∀ w ∈ rg_tbl, w.before #[Value.ref b] s = true) ∧ va_K (dC, dI) rg_classes (rg_tys cA) s ∧ va_X b L xs s s.heap ∧ b < s.heap.size ∧ rg_N s ∧ rg_Sx ρ (fun q => s.heap.size ≤ q) s s.heap ∧ (∀ q, q < 149 → ρ q = s.heap.size + q)
section LAWCALL
variable {p : Program} {l : Launch} {e : Env} {s : State} {m : MethodId} {below : List Frame} {meth : Method} {c : Code} {H : Heap} {locs : List Loc} {nc ns : Nat} {Q : State → Prop}
variable {b L : Nat} {xs : Nat → Int32} {dC : Nat → ClassId} {dI : Nat → Nat → Nat} {ρ : Nat → Nat} {cA : Nat → ClassId} {ls : Array Slot} {iv : Int32} {M : rg_M}
/-- a call of the law -/
theorem lz_call (C0 : lz_Cx p s m c b L xs dC dI ρ cA) {f y i pc cx : Nat} {as rest : List Value} {r : Option Value} {M1 : rg_M} (hnum : as.all lz_num = true) (he : rg_exec f 60 y 0 (rg_ent y (.ref cx :: as)) [] M = some (r, M1)) (hargs : (rg_args (.ref cx :: as)).length ≤ rg_maxL y) (hlink : Cond.methodLink "RiverGaugeLaw" i (rg_name y) ∈ rg_tbl) (hinst : (rg_mr y).2.2.2.2.1.2.2 = 0) (hnp : as.length = rg_np y) (hI : rg_isI cx (rg_own y) = true) (h15 : rg_own y ≠ 15) (hs8 : rg_sum rest ≤ 8) (hdg : decode code pc = .ok (.invokevirtual i, 3)) (hls : ls.size = 4) (hP : va_P (dC, dI) rg_classes (rg_w ρ cA M) H) (hS : va_S (fun q => s.heap.size ≤ q) s.heap H locs) (hnc : nc ≤ 600000) (hns : ns ≤ 7302250)
    (k : ∀ (H1 : Heap) (locs1 : List Loc), va_P (dC, dI) rg_classes (rg_w ρ cA M1) H1 → va_S (fun q => s.heap.size ≤ q) s.heap H1 locs1 → W p l e room_1 s m #[Value.ref b] below meth c H1 locs1 nc ns Q (F0 m (pc + 3) ls ((r.map (rg_cv ρ)).toList ++ rest))) : W p l e room_1 s m #[Value.ref b] below meth c H locs nc ns Q (F0 m pc ls (as.reverse ++ .ref (ρ cx) :: rest)) := by
  obtain ⟨hx, hb, hml, hown, hts, hK, hX, hbl, hN, hSx, hρ⟩ := C0
  have hy := rg_exec_lt he
  have hinj : ∀ a b, a < 149 → b < 149 → ρ a = ρ b → a = b := by
    intro a b' ha hb' hab
    rw [hρ a ha, hρ b' hb'] at hab
    omega
  have hok : (Value.ref cx :: as).all rg_okv = true := by
    simp only [List.all_cons, Bool.and_eq_true]
    exact ⟨rfl, lz_num_ok hnum⟩
  have hM := rg_met l dC dI ρ cA hinj he hargs hok H.size
  obtain ⟨r1, r2, r3, r4, r5, r6, r7, r8⟩ := rg_row_spec hy
  obtain ⟨w1, w2, w3⟩ := r8 hinst
  have hAm : ∀ q, rg_A ρ H.size q → s.heap.size ≤ q := by
    rintro q (⟨c9, h9, rfl⟩ | h9)
    · rw [hρ c9 h9]; omega
    · exact Nat.le_trans hS.1 h9
  have hrecv : ∃ cell : Cell, H[ρ cx]? = some cell ∧ cell.vm.isStatics = false ∧ s.vm.findClass (rg_name y).cls = some cell.cls := by
    unfold rg_isI at hI
    rw [if_neg h15] at hI
    split at hI
    · rename_i ci ks hsh
      have hci : ci = rg_own y := of_decide_eq_true hI
      rw [hci] at hsh
      rcases w3 with ⟨w3, -⟩ | w3
      · exact absurd w3 h15
      · obtain ⟨q, hq, hqc⟩ : ∃ q, rg_classes[rg_own y]? = some q ∧ q.1 = (rg_name y).cls := by
          cases hq : rg_classes[rg_own y]? with
          | none => rw [hq] at w3; cases w3
          | some q => rw [hq] at w3; exact ⟨q, rfl, Option.some.inj w3⟩
        have hrecv := va_recv hK hP hq (rg_w_get hsh)
        rw [hqc] at hrecv
        exact hrecv
    · cases hI
  have hpre : ∀ U : State, U.heap = H → s.WarmedH U.vm → va_Pc ((Value.ref cx :: as).map (rg_cv ρ)) (rg_Pre dC dI ρ cA M H.size) (Value.ref (ρ cx) :: as).toArray U := by
    intro U hU hW
    refine ⟨by rw [List.map_cons, lz_num_map hnum]; rfl, by rw [hU], by rw [hU]; exact hP, va_K.moved hW.alike hK, fun o i y z h => va_Nw.warmM hW (hN o i y z h), vk_R.warm hW hSx.1, ?_, ?_⟩
    · rw [hU]
      exact vk_S.narrow (vk_S.moved hW.alike (vk_S.kept hSx.2.1 hS.2.1)) hAm
    · rw [hU]
      exact va_Z.narrow (va_Z.moved hW.alike (va_Z.kept hSx.2.2 hS.2.1)) hAm
  exact lz_callx (r := r.map (rg_cv ρ)) (rest := rest) (va_runV (own := "RiverGaugeLaw") (C := (rg_name y).cls) (b := ρ cx) (As := as) (rest := rest) (n := rg_np y) ⟨hx, hb, hml, hown, hts⟩ hM ⟨callB_of (rg_np y) hts (rg_good hy) rfl rfl rfl (hts _ r2) (hts _ hlink) r4 ⟨by show 60 + 1 ≤ 2048; omega, by show 8 + (rg_maxL y + 11) + 64 * 60 ≤ 84000; omega⟩, hts _ w1, hts _ w2⟩ ⟨rg_blind, hrecv, hpre⟩ rfl hnp hls rfl (lv_room hs8) hdg ⟨hnc, hns⟩) hS (fun q _ hq => hAm q hq) (fun q hq => hAm q hq) (fun t H1 locs1 ht hB hS1 => k H1 locs1 (by rw [← ht]; exact hB) hS1)
end LAWCALL
