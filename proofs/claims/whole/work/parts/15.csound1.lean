/-! soundness of the constructors' machine -/
theorem rc_fetch_ok {y pc n : Nat} {i : Instr} (h : rc_fetch y pc = some (i, n)) : y < 13 ∧ decode (rc_bytes y) pc = .ok (i, n) := by
  have key : ∀ (ts : List (List (Nat × Instr × Nat))) (rs : List rc_MR), rc_okc ts rs → ∀ (y : Nat) (t : List (Nat × Instr × Nat)) (r : rc_MR), ts[y]? = some t → rs[y]? = some r → t.all (fun e => decide (decode r.2.1 e.1 = .ok e.2)) = true := by
    intro ts
    induction ts with
    | nil => intro rs _ y t r h1; simp at h1
    | cons a ts ih =>
      intro rs h y t r h1 h2
      cases rs with
      | nil => simp at h2
      | cons b rs =>
        cases y with
        | zero => simp at h1 h2; subst h1; subst h2; exact h.1
        | succ y => exact ih rs h.2 y t r (by simpa using h1) (by simpa using h2)
  unfold rc_fetch at h
  cases ht : rc_code[y]? with
  | none => rw [ht] at h; cases h
  | some t =>
    rw [ht] at h
    have hy : y < 13 := by have := (List.getElem?_eq_some_iff.mp ht).1; simpa [rc_code] using this
    have hl : y < rc_mt.length := by simpa [rc_mt] using hy
    have e : rc_mt[y]? = some (rc_mr y) := by unfold rc_mr; rw [List.getD_eq_getElem?_getD, List.getElem?_eq_getElem hl]; rfl
    have ha := key rc_code rc_mt rc_okc_all y t _ ht e
    have h2 := List.all_eq_true.mp ha (pc, i, n) (rg_lk h)
    simp only [decide_eq_true_eq] at h2
    exact ⟨hy, h2⟩
theorem rc_cw {y : Nat} (h : y < 13) : Cond.code (rc_name y) (rc_bytes y) (rc_maxL y) none ∈ rg_tbl := by
  refine List.mem_filter.mpr ⟨?_, rfl⟩
  match y, h with
  | 0, _ => exact rc_cw0
  | 1, _ => exact rc_cw1
  | 2, _ => exact rc_cw2
  | 3, _ => exact rc_cw3
  | 4, _ => exact rc_cw4
  | 5, _ => exact rc_cw5
  | 6, _ => exact rc_cw6
  | 7, _ => exact rc_cw7
  | 8, _ => exact rc_cw8
  | 9, _ => exact rc_cw9
  | 10, _ => exact rc_cw10
  | 11, _ => exact rc_cw11
  | 12, _ => exact rc_cw12
theorem rc_row_spec {y : Nat} (h : y < 13) : Cond.instanceMethod (rc_name y) ∈ rg_tbl ∧ Cond.initialized (rc_name y).cls ∈ rg_tbl ∧ (∃ T N, rg_classes[y]? = some ((rc_name y).cls, T, N) ∧ Cond.instantiable (rc_name y).cls N ∈ rg_tbl) ∧ rg_on.getD y "" = (rc_name y).cls ∧ ((rc_name y).cls ≠ "java/lang/invoke/MethodHandle" ∧ (rc_name y).cls ≠ "java/lang/invoke/VarHandle" ∧ (parseMethodDescriptor (rc_name y).desc).map (fun d => d.parameters.length) = some (rc_np y)) ∧ plainName (rc_name y).cls = true ∧ rc_maxL y ≤ 45 ∧ (rc_name y).name = "<init>" := by
  have hr := List.all_eq_true.mp rc_mt_ok y (List.mem_range.mpr h)
  unfold rc_rok at hr
  simp only [Bool.and_eq_true, decide_eq_true_eq] at hr
  obtain ⟨⟨⟨⟨⟨⟨⟨⟨⟨⟨a1, a2⟩, a3⟩, a4⟩, a5⟩, a6⟩, a7⟩, a8⟩, a9⟩, a10⟩, a11⟩ := hr
  refine ⟨rg_tbl_mem a1 rfl, rg_tbl_mem a2 rfl, ?_, a5, ⟨a6, a7, a8⟩, a9, a10, a11⟩
  cases hc : rg_classes[y]? with
  | none => rw [hc] at a4; cases a4
  | some q =>
    obtain ⟨C, T, N⟩ := q
    rw [hc] at a3 a4
    have e : C = (rc_name y).cls := Option.some.inj a4
    subst e
    exact ⟨T, N, rfl, rg_tbl_mem a3.symm rfl⟩
def rc_N (U : State) : Prop := ∀ (own : String) (i : Nat) (y : MethodName) (h : String), Cond.methodLinkNest own i y h ∈ lw_tbl → va_Nw (.methodLinkNest own i y h) U
def rc_V (U : State) : Prop := va_AO "RiverGauge$Points" U ∧ (Cond.arrayOver (.array .int)).before #[] U = true
def rc_Pre (dC : Nat → ClassId) (dI : Nat → Nat → Nat) (b : Nat) (cA : Nat → ClassId) (C : rc_C) (U : State) : Prop :=
  U.heap.size = b + C.length ∧ va_P (dC, dI) rg_classes (rc_w b cA C) U.heap ∧ va_K (dC, dI) rg_classes (rg_tys cA) U ∧ rc_N U ∧ rc_V U
abbrev rc_ws (y : Nat) : List Cond := Cond.code (rc_name y) (rc_bytes y) (rc_maxL y) none :: rg_tbl
def rc_Met (l : Launch) (dC : Nat → ClassId) (dI : Nat → Nat → Nat) (b : Nat) (cA : Nat → ClassId) (d y : Nat) (as : List Value) (C C' : rc_C) : Prop :=
  Met l (rc_name y) (rc_ws y) ({ frames := d, cells := C'.length - C.length, slots := rc_sz C' - rc_sz C, locals := 64 * d }) (va_Pc (as.map (rg_cv (rc_r b))) (rc_Pre dC dI b cA C)) (rg_Qx none (fun t => t.heap.size = b + C'.length ∧ va_P (dC, dI) rg_classes (rc_w b cA C') t.heap) (fun q => b ≤ q)) (C'.length - C.length) (rc_sz C' - rc_sz C) (fun q => b ≤ q)
def rc_Cx (p : Program) (R : Room) (s : State) (m : MethodId) (args : Array Value) (meth : Method) (c : Code) (dC : Nat → ClassId) (dI : Nat → Nat → Nat) (b : Nat) (cA : Nat → ClassId) (y d : Nat) : Prop :=
  p.tables.exec = Jvm.exec ∧ c.code = rc_bytes y ∧ c.maxLocals = rc_maxL y ∧ s.vm.findClass (rc_name y).cls = some m.cls ∧ (∀ w ∈ rg_tbl, w.before args s = true) ∧ va_K (dC, dI) rg_classes (rg_tys cA) s ∧ d ≤ R.frames ∧ 64 * d ≤ R.locals ∧ rc_N s ∧ rc_V s ∧ y < 13 ∧ meth.name = "<init>" ∧ b ≤ s.heap.size
def rc_G (p : Program) (l : Launch) (e : Env) (R : Room) (s : State) (m : MethodId) (args : Array Value) (below : List Frame) (meth : Method) (c : Code) (dC : Nat → ClassId) (dI : Nat → Nat → Nat) (b : Nat) (cA : Nat → ClassId) (nL n0 z0 : Nat) (Q : State → Prop) (pc : Nat) (L : rg_Ls) (S : List Value) (C : rc_C) : Prop :=
  ∀ (ls : Array Slot) (H : Heap) (locs : List Loc), rg_loc (rc_r b) nL L ls → H.size = b + C.length → va_P (dC, dI) rg_classes (rc_w b cA C) H → va_S (fun q => b ≤ q) s.heap H locs → n0 ≤ C.length → z0 ≤ rc_sz C → W p l e R s m args below meth c H locs (C.length - n0) (rc_sz C - z0) Q (F0 m pc ls (S.map (rg_cv (rc_r b))))
/-- what an outcome owes -/
def rc_Sd (p : Program) (l : Launch) (e : Env) (R : Room) (s : State) (m : MethodId) (args : Array Value) (below : List Frame) (meth : Method) (c : Code) (dC : Nat → ClassId) (dI : Nat → Nat → Nat) (b : Nat) (cA : Nat → ClassId) (n0 z0 y d pc : Nat) (L : rg_Ls) (S : List Value) (C : rc_C) (o : (Nat × rg_Ls × List Value × rc_C) ⊕ ((Nat × List Value × List Value) ⊕ Unit)) : Prop := match o with
  | .inl (pc', L', S', C') => (C.length ≤ C'.length ∧ rc_sz C ≤ rc_sz C') ∧ ∀ Q, C'.length - n0 ≤ R.cells → rc_sz C' - z0 ≤ R.slots → rc_G p l e R s m args below meth c dC dI b cA (rc_maxL y) n0 z0 Q pc' L' S' C' → rc_G p l e R s m args below meth c dC dI b cA (rc_maxL y) n0 z0 Q pc L S C
  | .inr (.inr _) => meth.sig.returnType = none → meth.locks = false → ∀ (Qc : Array Value → State → Outcome → State → Prop), (∀ t : State, s.WarmedH t.vm → t.heap.size = b + C.length → va_P (dC, dI) rg_classes (rc_w b cA C) t.heap → va_F (fun q => b ≤ q) s t → Qc args s (.returned none) t) → rc_G p l e R s m args below meth c dC dI b cA (rc_maxL y) n0 z0 (MQ below Qc args s (C.length - n0) (rc_sz C - z0) (fun q => b ≤ q)) pc L S C
  | .inr (.inl (y', as, rest)) => ((rg_args as).length ≤ rc_maxL y' ∧ as.all rg_okv = true) ∧ ∀ (d' : Nat), d = d' + 1 → ∀ (C' : rc_C), C.length ≤ C'.length → rc_sz C ≤ rc_sz C' → rc_Met l dC dI b cA d' y' as C C' → ∀ Q, C'.length - n0 ≤ R.cells → rc_sz C' - z0 ≤ R.slots → rc_G p l e R s m args below meth c dC dI b cA (rc_maxL y) n0 z0 Q (pc + 3) L rest C' → rc_G p l e R s m args below meth c dC dI b cA (rc_maxL y) n0 z0 Q pc L S C
theorem rc_sz_app (C D : rc_C) : rc_sz (C ++ D) = rc_sz C + rc_sz D := by unfold rc_sz; rw [List.map_append, List.sum_append]
theorem rc_w_app (b : Nat) (cA : Nat → ClassId) (C : rc_C) (x : rc_Cell) : rc_w b cA (C ++ [x]) = rc_w b cA C ++ [(rc_r b C.length, rc_ce b cA x)] := by
  unfold rc_w
  rw [List.mapIdx_append]
  simp
theorem rc_w_get {b : Nat} {cA : Nat → ClassId} {C : rc_C} {c : Nat} {x : rc_Cell} (h : C[c]? = some x) : (rc_w b cA C)[c]? = some (rc_r b c, rc_ce b cA x) := by
  unfold rc_w
  rw [List.getElem?_mapIdx, h]
  rfl
theorem rc_w_set {b : Nat} {cA : Nat → ClassId} {C : rc_C} {c : Nat} {x0 x : rc_Cell} (h : C[c]? = some x0) : (rc_w b cA C).set c (rc_r b c, rc_ce b cA x) = rc_w b cA (C.set c x) := by
  apply List.ext_getElem?
  intro i
  have hl := (List.getElem?_eq_some_iff.mp h).1
  by_cases hi : i = c
  · subst hi
    have hl2 : i < (rc_w b cA C).length := by unfold rc_w; rw [List.length_mapIdx]; exact hl
    rw [List.getElem?_set_self hl2, rc_w_get (List.getElem?_set_self hl)]
  · rw [List.getElem?_set_ne (Ne.symm hi)]
    unfold rc_w
    rw [List.getElem?_mapIdx, List.getElem?_mapIdx, List.getElem?_set_ne (Ne.symm hi)]
theorem rc_w_at {b : Nat} {cA : Nat → ClassId} {C : rc_C} {k : Nat} {q : Nat × va_E} (h : (rc_w b cA C)[k]? = some q) : k < C.length ∧ q.1 = b + k := by
  unfold rc_w at h
  rw [List.getElem?_mapIdx] at h
  cases hs : C[k]? with
  | none => rw [hs] at h; cases h
  | some x =>
    rw [hs] at h
    cases h
    exact ⟨(List.getElem?_eq_some_iff.mp hs).1, rfl⟩
theorem rc_D (b : Nat) (cA : Nat → ClassId) (C : rc_C) : va_D (fun q => b ≤ q) (rc_w b cA C) := by
  refine ⟨fun i j p q hp hq e => ?_, fun k q hk => ?_⟩
  · have h1 := (rc_w_at hp).2
    have h2 := (rc_w_at hq).2
    omega
  · have h1 := (rc_w_at hk).2
    show b ≤ q.1
    omega
theorem rc_sz_set {C : rc_C} {c : Nat} {x0 x : rc_Cell} (h : C[c]? = some x0) (he : rc_one x = rc_one x0) : rc_sz (C.set c x) = rc_sz C := by
  unfold rc_sz
  congr 1
  apply List.ext_getElem?
  intro i
  rw [List.getElem?_map, List.getElem?_map]
  by_cases hi : i = c
  · subst hi
    rw [List.getElem?_set_self (List.getElem?_eq_some_iff.mp h).1, h]
    simp [he]
  · rw [List.getElem?_set_ne (Ne.symm hi)]
theorem rc_sz_one (x : rc_Cell) : rc_sz [x] = rc_one x := by simp [rc_sz]
theorem rc_fit_ok {ty : FieldType} {v : Value} (h : rc_fit ty v = true) (r : Nat → Nat) : narrow ty (rg_cv r v) = rg_cv r v ∧ fits ty (rg_cv r v) = true := by
  unfold rc_fit at h
  split at h
  · exact ⟨rfl, rfl⟩
  · have h2 := of_decide_eq_true h
    rcases h2 with rfl | rfl <;> exact ⟨rfl, rfl⟩
  · exact ⟨rfl, rfl⟩
  · exact ⟨rfl, rfl⟩
  · exact ⟨rfl, rfl⟩
  · cases h
section CROW
variable {p : Program} {l : Launch} {e : Env} {R : Room} {s : State} {m : MethodId} {args : Array Value} {below : List Frame} {meth : Method} {c : Code} {H : Heap} {locs : List Loc} {cells slots : Nat} {Q : State → Prop}
variable {cc : ByteArray} {pc : Nat} {ls : Array Slot} {rest : List Value} {D : va_G} {cl : List vw_C} {A : Nat → Prop} {a : Nat} {tys : List (ClassId × FieldType)} {ws : va_W} {H0 : Heap}
/-- putfield, the heap's size in sight -/
theorem rc_W_put (hexec : p.tables.exec = Jvm.exec) (hb : c.code = cc) {own C : String} {T : u_T} {N ci index : Nat} {Ts : List Cond} (hts : ∀ w ∈ Ts, w.before args s = true) (hin : ∀ w ∈ u_ws C T N, w ∈ Ts) (ty0 : Nat → FieldType) (hty : ∀ k, k < N → parseFieldDescriptor (T k).2.2.1 = some (ty0 k)) (hnm : ∀ a, a < N → ∀ b, b < N → a ≠ b → (T a).2.1 ≠ (T b).2.1) (hown : s.vm.findClass own = some m.cls) (hK : va_K D cl tys s) (hP : va_P D cl ws H) (hD : va_D A ws) (hS0 : va_S A H0 H locs) (q0 : Nat) {fs : List Value} (he : ws[q0]? = some (a, .inr (ci, fs))) (hc : cl[ci]? = some (C, T, N)) (k : Nat) (hk : k < N) (hlink : (Cond.fieldLink own index (T k).1 (T k).2.1 (T k).2.2.1).before args s = true) (hfin : (T k).2.2.2 = false ∨ (T k).2.2.2 = true ∧ meth.name = "<init>" ∧ (T k).1 = own) {v : Value} (hn : narrow (ty0 k) v = v) (hfit : fits (ty0 k) v = true) (hl : k < fs.length)
    (hdg : decode cc pc = .ok (.putfield index, 3)) (kk : ∀ (H1 : Heap) (locs1 : List Loc), H1.size = H.size → va_P D cl (ws.set q0 (a, .inr (ci, fs.set k v))) H1 → va_S A H0 H1 locs1 → W p l e R s m args below meth c H1 locs1 cells slots Q (F0 m (pc + 3) ls rest)) : W p l e R s m args below meth c H locs cells slots Q (F0 m pc ls (v :: .ref a :: rest)) := by
  have hap := va_apart (own := own) hts hin ty0 hty hnm hK hc
  obtain ⟨r, h1, cell, q1, q2, q3, q4⟩ := hP q0 _ he
  have hr : r = (C, T, N) := Option.some.inj (h1.symm.trans hc)
  subst hr
  obtain ⟨hS, hfc, kC, hkC, hkind⟩ := hK.1 ci _ hc
  obtain ⟨cf, kf, fi, f, hi, hsl⟩ := hS k hk
  have hlay := hts _ (hin _ (u_in_lay hk))
  have hd := hty k hk
  have hst := (u_facts hfc hkC (u_lays hts hin hk) hi).1
  have go : ∀ H' : Heap, H'[a]? = some (cell.setSlot f.slot v) → H'.size = H.size → (∀ q, q ≠ a → H'[q]? = H[q]?) → W p l e R s m args below meth c H' (locs ++ [⟨a, f.slot⟩]) cells slots Q (F0 m (pc + 3) ls rest) := by
    intro H' e1 e2 e3
    rw [hsl] at e1 ⊢
    exact kk H' _ e2 (hP.set hD he ⟨_, hc, t_OB.to (V := updV (vp_V fs) k v) ⟨_, e1, q2, q3, t_set q4 hap hk v⟩ (fun j _ => vp_updV_set hl v j)⟩ e3) (hS0.put e2 e3 (hD.2 q0 _ he))
  rcases hfin with hfin | ⟨hfin, hin2, hdecl⟩
  · unfold u_lay at hlay
    rw [if_neg (by rw [hfin]; decide)] at hlay
    have h6 := u_store hfc hkC hkind hlay hi hd hn hfit
    exact W.putK hexec hb (f := f) ⟨hown, hlink, ⟨_, _, _, hi⟩, hst⟩ (by rw [q2]; exact h6) q1 q3 (by rw [hsl]; exact k2_hasslot (q4 k hk)) rfl rfl hdg go
  · unfold u_lay at hlay
    rw [if_pos hfin] at hlay
    have hcf : m.cls = cf := by
      obtain ⟨_, _, c', _, _, _, -, -, hf', -, -, -, hown2, -⟩ := Cond.laysFinal_spec hlay
      have e1 : c' = cf := by have := hi.symm.trans hf'; simp at this; exact this.1.symm
      rw [hdecl] at hown2
      rw [← e1]; exact Option.some.inj (hown.symm.trans hown2)
    have h6 := u_fits hfc hkC hkind (Or.inr hlay) hi hd hn hfit
    exact W.putFinK hexec hb hown hlink hi hst hcf hin2 (by rw [q2]; exact h6) q1 q3 (by rw [hsl]; exact k2_hasslot (q4 k hk)) rfl rfl hdg go
/-- aastore of an object, the heap's size in sight -/
theorem rc_W_ast (hexec : p.tables.exec = Jvm.exec) (hb : c.code = cc) (hK : va_K D cl tys s) (hP : va_P D cl ws H) (hD : va_D A ws) (hS : va_S A H0 H locs) (q0 t0 qk ci : Nat) {cB : ClassId} {r : vw_C} {n v : Nat} {vs : List Value} {f : Nat → Option Nat} (ha : ws[q0]? = some (a, .inl (cB, n, .inr (.inr (.inr (.inr f)))))) (ht : tys[t0]? = some (cB, .object r.1)) (hv : ws[qk]? = some (v, .inr (ci, vs))) (hc : cl[ci]? = some r) {i : Int32} (hin : vp_in i n) (hdg : decode cc pc = .ok (.aastore, 1))
    (kk : ∀ (H1 : Heap) (locs1 : List Loc), H1.size = H.size → va_P D cl (ws.set q0 (a, .inl (cB, n, .inr (.inr (.inr (.inr (va_up f i.toNatClampNeg (some v)))))))) H1 → va_S A H0 H1 locs1 → W p l e R s m args below meth c H1 locs1 cells slots Q (F0 m (pc + 1) ls rest)) : W p l e R s m args below meth c H locs cells slots Q (F0 m pc ls (.ref v :: .int i :: .ref a :: rest)) := by
  have hlt : i.toNatClampNeg < n := Nat.not_le.mp fun q => hin (Or.inr q)
  have h0 : ¬ i < 0 := fun q => hin (Or.inl q)
  obtain ⟨r', hr', cellV, g1, g2, g3, -⟩ := hP qk _ hv
  have hcls := (hK.1 ci r hc).2
  obtain ⟨kA, comp, k1, k2, k3, -⟩ := (hK.2 t0 _ ht).2
  have hcomp : comp = D.1 ci := Option.some.inj (k3.symm.trans hcls.1)
  subst hcomp
  obtain ⟨kC, hkC, -⟩ := hcls.2
  refine W.aast hexec hb (hP q0 _ ha) (fun q h => by cases h) (fun h => by cases h) k1 k2 rfl hkC ⟨h0, by show _ < (arrV _ _ _).slots.size; rw [arrV_size]; exact hlt⟩ g1 (fun q h => by rw [g3] at h; cases h) (by rw [g2]; exact hkC) (by rw [g2]; exact va_assign hcls) rfl rfl hdg fun H1 e z oq => ?_
  refine kk H1 _ z (hP.set hD ha ?_ oq) (hS.put z oq (hD.2 q0 _ ha))
  show H1[a]? = some (vp_cell _ _)
  rw [e]
  rw [vp_cell_q, vp_cell_q, arrV_store]
  congr 2
  funext q
  by_cases hq : q = i.toNatClampNeg
  · subst hq
    simp [updV, va_up, va_rf]
  · simp [updV, va_up, hq]
/-- a cell at the heap's end -/
theorem rc_P_push {e0 : va_E} {H1 : Heap} (hP : va_P D cl ws H) (h1 : ∀ q, q < H.size → H1[q]? = H[q]?) (h2 : va_at D cl (H.size, e0) H1) : va_P D cl (ws ++ [(H.size, e0)]) H1 := by
  refine (hP.kept (fun k x hx => h1 x.1 ((hP k x hx).lt))).app (fun k x hx => ?_)
  have hz : k < 1 := (List.getElem?_eq_some_iff.mp hx).1
  rw [show k = 0 by omega] at hx
  cases hx
  exact h2
theorem rc_S_grow {H1 : Heap} (hS : va_S A H0 H locs) (hz : H.size ≤ H1.size) (h1 : ∀ q, q < H.size → H1[q]? = H[q]?) : va_S A H0 H1 locs := ⟨Nat.le_trans hS.1 hz, fun x g1 g2 => (h1 x (Nat.lt_of_lt_of_le g1 hS.1)).trans (hS.2.1 x g1 g2), hS.2.2⟩
end CROW
section CSND
variable {p : Program} {l : Launch} {e : Env} {R : Room} {s : State} {m : MethodId} {args : Array Value} {below : List Frame} {meth : Method} {c : Code}
variable {dC : Nat → ClassId} {dI : Nat → Nat → Nat} {b : Nat} {cA : Nat → ClassId} {y d n pc n0 z0 : Nat} {L : rg_Ls} {S : List Value} {C : rc_C}
variable {o : (Nat × rg_Ls × List Value × rc_C) ⊕ ((Nat × List Value × List Value) ⊕ Unit)}
theorem rc_so_push {v : Value} {len : Nat} (row : n = len → ∀ (rest : List Value) (ls : Array Slot) (H : Heap) (locs : List Loc) (ce sl : Nat) (Q : State → Prop), W p l e R s m args below meth c H locs ce sl Q (F0 m (pc + len) ls (rg_cv (rc_r b) v :: rest)) → W p l e R s m args below meth c H locs ce sl Q (F0 m pc ls rest)) (h : rc_push v len n pc L S C = some o) : rc_Sd p l e R s m args below meth c dC dI b cA n0 z0 y d pc L S C o := by
  unfold rc_push at h
  split at h
  · rename_i hn
    cases h
    exact ⟨⟨Nat.le_refl _, Nat.le_refl _⟩, fun Q _ _ k ls H locs hL hz hP hS g1 g2 => row hn _ _ _ _ _ _ _ (k ls H locs hL hz hP hS g1 g2)⟩
  · cases h
theorem rc_so_ldA {i len : Nat} (row : n = len → ∀ (x : Nat) (rest : List Value) (ls : Array Slot) (H : Heap) (locs : List Loc) (ce sl : Nat) (Q : State → Prop), ls[i]? = some (.val (.ref x)) → W p l e R s m args below meth c H locs ce sl Q (F0 m (pc + len) ls (.ref x :: rest)) → W p l e R s m args below meth c H locs ce sl Q (F0 m pc ls rest)) (h : rc_ldA i len n pc L S C = some o) : rc_Sd p l e R s m args below meth c dC dI b cA n0 z0 y d pc L S C o := by
  unfold rc_ldA at h
  split at h
  · rename_i hx
    split at h
    · rename_i hn
      cases h
      exact ⟨⟨Nat.le_refl _, Nat.le_refl _⟩, fun Q _ _ k ls H locs hL hz hP hS g1 g2 => row hn _ _ _ _ _ _ _ _ (rg_loc_ld hL hx) (k ls H locs hL hz hP hS g1 g2)⟩
    · cases h
  · cases h
theorem rc_so_ldI {i len : Nat} (row : n = len → ∀ (x : Int32) (rest : List Value) (ls : Array Slot) (H : Heap) (locs : List Loc) (ce sl : Nat) (Q : State → Prop), ls[i]? = some (.val (.int x)) → W p l e R s m args below meth c H locs ce sl Q (F0 m (pc + len) ls (.int x :: rest)) → W p l e R s m args below meth c H locs ce sl Q (F0 m pc ls rest)) (h : rc_ldI i len n pc L S C = some o) : rc_Sd p l e R s m args below meth c dC dI b cA n0 z0 y d pc L S C o := by
  unfold rc_ldI at h
  split at h
  · rename_i hx
    split at h
    · rename_i hn
      cases h
      exact ⟨⟨Nat.le_refl _, Nat.le_refl _⟩, fun Q _ _ k ls H locs hL hz hP hS g1 g2 => row hn _ _ _ _ _ _ _ _ (rg_loc_ld hL hx) (k ls H locs hL hz hP hS g1 g2)⟩
    · cases h
  · cases h
theorem rc_so_get {i : Nat} (hC : rc_Cx p R s m args meth c dC dI b cA y d) (hdg : decode (rc_bytes y) pc = .ok (.getfield i, n)) (h : rc_get y i n pc L S C = some o) : rc_Sd p l e R s m args below meth c dC dI b cA n0 z0 y d pc L S C o := by
  obtain ⟨hx, hb, -, hown, hts, hK, -, -, -, -, hy, -, -⟩ := hC
  have hon := (rc_row_spec hy).2.2.2.1
  unfold rc_get at h
  split at h
  · rename_i a r
    split at h
    · rename_i ci k z ci2 fs hf hs
      split at h
      · rename_i hci
        obtain ⟨hci, hn⟩ := hci
        subst hci
        subst hn
        split at h
        · rename_i v hv
          cases h
          obtain ⟨C', T, N, hc, hk, hT, hl⟩ := rg_fld_ok hf
          rw [hon] at hl
          refine ⟨⟨Nat.le_refl _, Nat.le_refl _⟩, fun Q _ _ kk ls H locs hL hz hP hS g1 g2 => ?_⟩
          refine va_get (own := (rc_name y).cls) (ref := C') (C := C') (T := T) (N := N) (ci := ci2) (v := rg_cv (rc_r b) v) hx hb hts (rg_cls hc).1 hown hK hP a (rc_w_get hs) hc k hk (hts _ hl) (fun x hx => by rw [hT] at hx; exact hx) ?_ hdg (kk ls H locs hL hz hP hS g1 g2)
          rw [List.getElem?_map, hv]
          rfl
        · cases h
      · cases h
    · cases h
  · cases h
theorem rc_so_put {i : Nat} (hC : rc_Cx p R s m args meth c dC dI b cA y d) (hdg : decode (rc_bytes y) pc = .ok (.putfield i, n)) (h : rc_put y i n pc L S C = some o) : rc_Sd p l e R s m args below meth c dC dI b cA n0 z0 y d pc L S C o := by
  obtain ⟨hx, hb, -, hown, hts, hK, -, -, -, -, hy, hinit, -⟩ := hC
  have hon := (rc_row_spec hy).2.2.2.1
  obtain ⟨T', N', hcy, -⟩ := (rc_row_spec hy).2.2.1
  unfold rc_put at h
  split at h
  · rename_i v a r
    split at h
    · rename_i ci k z ci2 fs hf hs
      split at h
      · rename_i hcond
        obtain ⟨hci, hcy2, hn, hkf, hfit⟩ := hcond
        subst hci
        subst hn
        cases h
        obtain ⟨C', T, N, hc, hk, hT, hl⟩ := rg_fld_ok hf
        rw [hon] at hl
        obtain ⟨hin, ty, hty, htyok, hnm⟩ := rg_cls hc
        have hd := htyok k hk
        have ety : (rg_tyL.getD ci2 (fun _ => .int)) = ty := by rw [List.getD_eq_getElem?_getD, hty]; rfl
        rw [ety] at hfit
        obtain ⟨hnar, hfits⟩ := rc_fit_ok hfit (rc_r b)
        have hdecl : (T k).1 = (rc_name y).cls := by
          rw [hT]
          rw [hcy2, hcy] at hc
          cases hc
          rfl
        have hset : rc_sz (C.set a (.inl (ci2, fs.set k v))) = rc_sz C := rc_sz_set hs (by simp [rc_one])
        refine ⟨⟨by rw [List.length_set]; exact Nat.le_refl _, by rw [hset]; exact Nat.le_refl _⟩, fun Q _ _ kk ls H locs hL hz hP hS g1 g2 => ?_⟩
        have fin : ∀ (H1 : Heap) (locs1 : List Loc), H1.size = H.size → va_P (dC, dI) rg_classes ((rc_w b cA C).set a (rc_r b a, .inr (ci2, (fs.map (rg_cv (rc_r b))).set k (rg_cv (rc_r b) v)))) H1 → va_S (fun q => b ≤ q) s.heap H1 locs1 → W p l e R s m args below meth c H1 locs1 (C.length - n0) (rc_sz C - z0) Q (F0 m (pc + 3) ls (r.map (rg_cv (rc_r b)))) := by
          intro H1 locs1 hz1 hP1 hS1
          have k2 := kk ls H1 locs1 hL (by rw [List.length_set, hz1]; exact hz) (by rw [← rc_w_set hs]; rw [← List.map_set] at hP1; exact hP1) hS1 (by rw [List.length_set]; exact g1) (by rw [hset]; exact g2)
          rw [List.length_set, hset] at k2
          exact k2
        have hfin : (T k).2.2.2 = false ∨ (T k).2.2.2 = true ∧ meth.name = "<init>" ∧ (T k).1 = (rc_name y).cls := by
          cases hfin : (T k).2.2.2 with
          | false => exact Or.inl rfl
          | true => exact Or.inr ⟨rfl, hinit, hdecl⟩
        exact rc_W_put (own := (rc_name y).cls) (C := C') (T := T) (N := N) (ci := ci2) (v := rg_cv (rc_r b) v) hx hb hts hin ty htyok hnm hown hK hP (rc_D b cA C) hS a (rc_w_get hs) hc k hk (by rw [hT]; exact hts _ hl) hfin hnar hfits (by rw [List.length_map]; exact hkf) hdg fin
      · cases h
    · cases h
  · cases h
theorem rc_so_arr {t : Nat} (at_ : ArrayType) (hC : rc_Cx p R s m args meth c dC dI b cA y d) (hdg : decode (rc_bytes y) pc = .ok (.newarray at_, n)) (hat : t = 0 ∧ at_ = .int ∨ t = 1 ∧ at_ = .long) (h : rc_arr t n pc L S C = some o) : rc_Sd p l e R s m args below meth c dC dI b cA n0 z0 y d pc L S C o := by
  obtain ⟨hx, hb, -, hown, hts, hK, -, -, -, -, hy, hinit, -⟩ := hC
  unfold rc_arr at h
  split at h
  · rename_i k r
    split at h
    · rename_i hcond
      obtain ⟨hk0, hk5, hn⟩ := hcond
      subst hn
      cases h
      have hsz : rc_sz (C ++ [.inr (t, k.toNatClampNeg, [])]) = rc_sz C + k.toNatClampNeg := by rw [rc_sz_app, rc_sz_one]; rfl
      refine ⟨⟨by rw [List.length_append]; exact Nat.le_add_right _ _, by rw [hsz]; exact Nat.le_add_right _ _⟩, fun Q hc1 hc2 kk ls H locs hL hz hP hS g1 g2 => ?_⟩
      rw [List.length_append] at hc1
      rw [hsz] at hc2
      simp only [List.length_cons, List.length_nil] at hc1
      have fin : ∀ (H1 : Heap) (cB : ClassId), cB = cA t → (∀ q, q < H.size → H1[q]? = H[q]?) → H1.size = H.size + 1 → va_at (dC, dI) rg_classes (H.size, .inl (cA t, k.toNatClampNeg, rc_row b t [])) H1 → W p l e R s m args below meth c H1 locs (C.length - n0 + 1) (rc_sz C - z0 + k.toNatClampNeg) Q (F0 m (pc + 2) ls (.ref H.size :: r.map (rg_cv (rc_r b)))) := by
        intro H1 cB _ o1 z1 e1
        have k2 := kk ls H1 locs hL (by rw [List.length_append, z1, hz]; rfl) (by
          rw [rc_w_app]
          have := rc_P_push hP o1 e1
          rw [hz] at this
          exact this) (rc_S_grow hS (by omega) o1) (by rw [List.length_append]; omega) (by rw [hsz]; omega)
        rw [List.length_append, hsz] at k2
        simp only [List.length_cons, List.length_nil, List.map_cons, rg_cv, rc_r] at k2
        rw [← hz] at k2
        have e2 : C.length + (0 + 1) - n0 = C.length - n0 + 1 := by omega
        have e3 : rc_sz C + k.toNatClampNeg - z0 = rc_sz C - z0 + k.toNatClampNeg := by omega
        rw [e2, e3] at k2
        exact k2
      rcases hat with ⟨rfl, rfl⟩ | ⟨rfl, rfl⟩
      · refine va_newaK (atype := .int) hx hb (hts _ rc_wA1) rfl hdg rfl (Int32.not_lt.mpr hk0) rfl (by show k.toNatClampNeg * 4 ≤ 536870912; omega) (by omega) (by omega) rfl fun H1 cB e1 z1 o1 hAr hNm => ?_
        have hcB : cB = cA 0 := Option.some.inj (hNm.symm.trans (hK.2 0 _ rfl).2)
        subst hcB
        exact fin H1 _ rfl o1 z1 e1
      · refine va_newaK (atype := .long) hx hb (hts _ rc_wA2) rfl hdg rfl (Int32.not_lt.mpr hk0) rfl (by show k.toNatClampNeg * 8 ≤ 536870912; omega) (by omega) (by omega) rfl fun H1 cB e1 z1 o1 hAr hNm => ?_
        have hcB : cB = cA 1 := Option.some.inj (hNm.symm.trans (hK.2 1 _ rfl).2)
        subst hcB
        exact fin H1 _ rfl o1 z1 e1
    · cases h
  · cases h
end CSND
