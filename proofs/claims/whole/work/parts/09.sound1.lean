/-! soundness, first half: the words of it, and each instruction that goes on -/
abbrev rg_tys (cA : Nat → ClassId) : List (ClassId × FieldType) := [(cA 0, .int), (cA 1, .long), (cA 2, .object "RiverGauge$Points"), (cA 3, .array .int)]
/-- the machine's cells, and what comes behind the heap -/
def rg_A (ρ : Nat → Nat) (sz : Nat) : Nat → Prop := fun q => (∃ c, c < 149 ∧ q = ρ c) ∨ sz ≤ q
/-- links between nest mates -/
def rg_N (U : State) : Prop := ∀ o i y z : Nat, rg_inv o i = some (2, y, z) → va_Nw (.methodLinkNest (rg_on.getD o "") i (rg_name y) "RiverGauge") U
/-- the String of the letters -/
def rg_Sx (ρ : Nat → Nat) (A : Nat → Prop) (U : State) (H : Heap) : Prop := vk_R "RiverGauge$Tape" 59 "dmrkabghnfwxi" (ρ 149) U ∧ vk_S 1 [13] [rg_lets] (fun _ => ρ 149) (fun _ => ρ 150) A U H ∧ va_Z "java/lang/String" "COMPACT_STRINGS" "Z" (.int 1) A U H
def rg_Pre (dC : Nat → ClassId) (dI : Nat → Nat → Nat) (ρ : Nat → Nat) (cA : Nat → ClassId) (M : rg_M) (sz : Nat) (U : State) : Prop :=
  U.heap.size = sz ∧ va_P (dC, dI) rg_classes (rg_w ρ cA M) U.heap ∧ va_K (dC, dI) rg_classes (rg_tys cA) U ∧ rg_N U ∧ rg_Sx ρ (rg_A ρ sz) U U.heap
def rg_Qx (r : Option Value) (B : State → Prop) (A : Nat → Prop) : Array Value → State → Outcome → State → Prop := fun _ st oc t => (oc = .returned r ∧ B t) ∧ va_F A st t
abbrev rg_ws (y : Nat) : List Cond := Cond.code (rg_name y) (rg_bytes y) (rg_maxL y) (rg_ret y) :: rg_tbl
/-- a method's contract: from the memory M with these arguments it comes to M', and answers r -/
def rg_Met (l : Launch) (dC : Nat → ClassId) (dI : Nat → Nat → Nat) (ρ : Nat → Nat) (cA : Nat → ClassId) (d y : Nat) (as : List Value) (M : rg_M) (r : Option Value) (M' : rg_M) : Prop :=
  ∀ sz : Nat, Met l (rg_name y) (rg_ws y) ({ frames := d, cells := 0, slots := 0, locals := 64 * d }) (va_Pc (as.map (rg_cv ρ)) (rg_Pre dC dI ρ cA M sz)) (rg_Qx (r.map (rg_cv ρ)) (fun t => va_P (dC, dI) rg_classes (rg_w ρ cA M') t.heap) (rg_A ρ sz)) 0 0 (rg_A ρ sz)
def rg_Cx (p : Program) (R : Room) (s : State) (m : MethodId) (args : Array Value) (c : Code) (dC : Nat → ClassId) (dI : Nat → Nat → Nat) (ρ : Nat → Nat) (cA : Nat → ClassId) (y d : Nat) : Prop :=
  p.tables.exec = Jvm.exec ∧ c.code = rg_bytes y ∧ c.maxLocals = rg_maxL y ∧ s.vm.findClass (rg_name y).cls = some m.cls ∧ (∀ w ∈ rg_tbl, w.before args s = true) ∧ va_K (dC, dI) rg_classes (rg_tys cA) s ∧ (∀ M, va_D (rg_A ρ s.heap.size) (rg_w ρ cA M)) ∧ d ≤ R.frames ∧ 64 * d ≤ R.locals ∧ rg_N s ∧ rg_Sx ρ (rg_A ρ s.heap.size) s s.heap ∧ y < 214
def rg_G (p : Program) (l : Launch) (e : Env) (R : Room) (s : State) (m : MethodId) (args : Array Value) (below : List Frame) (meth : Method) (c : Code) (dC : Nat → ClassId) (dI : Nat → Nat → Nat) (ρ : Nat → Nat) (cA : Nat → ClassId) (nL : Nat) (Q : State → Prop) (pc : Nat) (L : rg_Ls) (S : List Value) (M : rg_M) : Prop :=
  ∀ (ls : Array Slot) (H : Heap) (locs : List Loc), rg_loc ρ nL L ls → va_P (dC, dI) rg_classes (rg_w ρ cA M) H → va_S (rg_A ρ s.heap.size) s.heap H locs → W p l e R s m args below meth c H locs 0 0 Q (F0 m pc ls (S.map (rg_cv ρ)))
/-- what an outcome of an instruction owes -/
def rg_Sd (p : Program) (l : Launch) (e : Env) (R : Room) (s : State) (m : MethodId) (args : Array Value) (below : List Frame) (meth : Method) (c : Code) (dC : Nat → ClassId) (dI : Nat → Nat → Nat) (ρ : Nat → Nat) (cA : Nat → ClassId) (y d pc : Nat) (L : rg_Ls) (S : List Value) (M : rg_M) (o : (Nat × rg_Ls × List Value × rg_M) ⊕ ((Nat × List Value × List Value) ⊕ Option Value)) : Prop := match o with
  | .inl (pc', L', S', M') => ∀ Q, rg_G p l e R s m args below meth c dC dI ρ cA (rg_maxL y) Q pc' L' S' M' → rg_G p l e R s m args below meth c dC dI ρ cA (rg_maxL y) Q pc L S M
  | .inr (.inr r) => meth.sig.returnType = rg_ret y → meth.locks = false → ∀ Qc : Array Value → State → Outcome → State → Prop, (∀ t : State, s.WarmedH t.vm → va_P (dC, dI) rg_classes (rg_w ρ cA M) t.heap → va_F (rg_A ρ s.heap.size) s t → Qc args s (.returned (r.map (rg_cv ρ))) t) → rg_G p l e R s m args below meth c dC dI ρ cA (rg_maxL y) (MQ below Qc args s 0 0 (rg_A ρ s.heap.size)) pc L S M
  | .inr (.inl (y', as, rest)) => ((rg_args as).length ≤ rg_maxL y' ∧ as.all rg_okv = true) ∧ ∀ (d' : Nat), d = d' + 1 → ∀ (r : Option Value) (M' : rg_M), rg_Met l dC dI ρ cA d' y' as M r M' → ∀ Q, rg_G p l e R s m args below meth c dC dI ρ cA (rg_maxL y) Q (pc + 3) L (r.toList ++ rest) M' → rg_G p l e R s m args below meth c dC dI ρ cA (rg_maxL y) Q pc L S M
theorem rg_ln_inv {a b : Nat} {x : rg_O} {o : (Nat × rg_Ls × List Value × rg_M) ⊕ ((Nat × List Value × List Value) ⊕ Option Value)} (h : rg_ln a b x = some o) : a = b ∧ x = some o := by
  unfold rg_ln at h
  split at h
  · exact ⟨by assumption, h⟩
  · cases h
theorem rg_in_vp {i : Int32} {n : Nat} (h : rg_in i n = true) : vp_in i n := by
  unfold rg_in at h
  simp only [Bool.and_eq_true, decide_eq_true_eq] at h
  rintro (h1 | h1)
  · exact absurd h.1 (by rw [Int32.not_le]; exact h1)
  · omega
theorem rg_P_set {ρ : Nat → Nat} {cA : Nat → ClassId} {M M' : rg_M} {D : va_G} {cl : List vw_C} {H1 : Heap} {c : Nat} {sh : rg_Sh} {e : va_E} (h : rg_shapes[c]? = some sh) (hP1 : va_P D cl ((rg_w ρ cA M).set c (ρ c, e)) H1) (he : rg_ce ρ cA M' c sh = e) (ho : ∀ a, a ≠ c → M'.1 a = M.1 a ∧ M'.2 a = M.2 a) : va_P D cl (rg_w ρ cA M') H1 := by
  rw [← rg_w_set h he ho]
  exact hP1
section SND
variable {p : Program} {l : Launch} {e : Env} {R : Room} {s : State} {m : MethodId} {args : Array Value} {below : List Frame} {meth : Method} {c : Code}
variable {dC : Nat → ClassId} {dI : Nat → Nat → Nat} {ρ : Nat → Nat} {cA : Nat → ClassId} {y d n pc : Nat} {L : rg_Ls} {S : List Value} {M : rg_M}
variable {o : (Nat × rg_Ls × List Value × rg_M) ⊕ ((Nat × List Value × List Value) ⊕ Option Value)}
theorem rg_so_i2 {f : Int32 → Int32 → Int32} (row : n = 1 → ∀ (x z : Int32) (rest : List Value) (ls : Array Slot) (H : Heap) (locs : List Loc) (Q : State → Prop), W p l e R s m args below meth c H locs 0 0 Q (F0 m (pc + 1) ls (.int (f x z) :: rest)) → W p l e R s m args below meth c H locs 0 0 Q (F0 m pc ls (.int z :: .int x :: rest))) (h : rg_i2 f n pc L S M = some o) : rg_Sd p l e R s m args below meth c dC dI ρ cA y d pc L S M o := by
  unfold rg_i2 at h
  split at h
  · obtain ⟨h1, h2⟩ := rg_ln_inv h
    cases h2
    intro Q k ls H locs hL hP hS
    exact row h1 _ _ _ _ _ _ _ (k ls H locs hL hP hS)
  · cases h
theorem rg_so_d2 {f : Int32 → Int32 → Int32} (row : n = 1 → ∀ (x z : Int32) (rest : List Value) (ls : Array Slot) (H : Heap) (locs : List Loc) (Q : State → Prop), ¬ z = 0 → W p l e R s m args below meth c H locs 0 0 Q (F0 m (pc + 1) ls (.int (f x z) :: rest)) → W p l e R s m args below meth c H locs 0 0 Q (F0 m pc ls (.int z :: .int x :: rest))) (h : rg_dv2 f n pc L S M = some o) : rg_Sd p l e R s m args below meth c dC dI ρ cA y d pc L S M o := by
  unfold rg_dv2 at h
  split at h
  · split at h
    · cases h
    · rename_i hz
      obtain ⟨h1, h2⟩ := rg_ln_inv h
      cases h2
      intro Q k ls H locs hL hP hS
      exact row h1 _ _ _ _ _ _ _ hz (k ls H locs hL hP hS)
  · cases h
theorem rg_so_l2 {f : Int64 → Int64 → Int64} (row : n = 1 → ∀ (x z : Int64) (rest : List Value) (ls : Array Slot) (H : Heap) (locs : List Loc) (Q : State → Prop), W p l e R s m args below meth c H locs 0 0 Q (F0 m (pc + 1) ls (.long (f x z) :: rest)) → W p l e R s m args below meth c H locs 0 0 Q (F0 m pc ls (.long z :: .long x :: rest))) (h : rg_l2 f n pc L S M = some o) : rg_Sd p l e R s m args below meth c dC dI ρ cA y d pc L S M o := by
  unfold rg_l2 at h
  split at h
  · obtain ⟨h1, h2⟩ := rg_ln_inv h
    cases h2
    intro Q k ls H locs hL hP hS
    exact row h1 _ _ _ _ _ _ _ (k ls H locs hL hP hS)
  · cases h
theorem rg_so_e2 {f : Int64 → Int64 → Int64} (row : n = 1 → ∀ (x z : Int64) (rest : List Value) (ls : Array Slot) (H : Heap) (locs : List Loc) (Q : State → Prop), ¬ z = 0 → W p l e R s m args below meth c H locs 0 0 Q (F0 m (pc + 1) ls (.long (f x z) :: rest)) → W p l e R s m args below meth c H locs 0 0 Q (F0 m pc ls (.long z :: .long x :: rest))) (h : rg_e2 f n pc L S M = some o) : rg_Sd p l e R s m args below meth c dC dI ρ cA y d pc L S M o := by
  unfold rg_e2 at h
  split at h
  · split at h
    · cases h
    · rename_i hz
      obtain ⟨h1, h2⟩ := rg_ln_inv h
      cases h2
      intro Q k ls H locs hL hP hS
      exact row h1 _ _ _ _ _ _ _ hz (k ls H locs hL hP hS)
  · cases h
theorem rg_so_s2 {f : Int64 → Int32 → Int64} (row : n = 1 → ∀ (x : Int64) (z : Int32) (rest : List Value) (ls : Array Slot) (H : Heap) (locs : List Loc) (Q : State → Prop), W p l e R s m args below meth c H locs 0 0 Q (F0 m (pc + 1) ls (.long (f x z) :: rest)) → W p l e R s m args below meth c H locs 0 0 Q (F0 m pc ls (.int z :: .long x :: rest))) (h : rg_s2 f n pc L S M = some o) : rg_Sd p l e R s m args below meth c dC dI ρ cA y d pc L S M o := by
  unfold rg_s2 at h
  split at h
  · obtain ⟨h1, h2⟩ := rg_ln_inv h
    cases h2
    intro Q k ls H locs hL hP hS
    exact row h1 _ _ _ _ _ _ _ (k ls H locs hL hP hS)
  · cases h
theorem rg_so_i1 {f : Int32 → Value} (row : n = 1 → ∀ (x : Int32) (rest : List Value) (ls : Array Slot) (H : Heap) (locs : List Loc) (Q : State → Prop), W p l e R s m args below meth c H locs 0 0 Q (F0 m (pc + 1) ls (rg_cv ρ (f x) :: rest)) → W p l e R s m args below meth c H locs 0 0 Q (F0 m pc ls (.int x :: rest))) (h : rg_i1 f n pc L S M = some o) : rg_Sd p l e R s m args below meth c dC dI ρ cA y d pc L S M o := by
  unfold rg_i1 at h
  split at h
  · obtain ⟨h1, h2⟩ := rg_ln_inv h
    cases h2
    intro Q k ls H locs hL hP hS
    exact row h1 _ _ _ _ _ _ (k ls H locs hL hP hS)
  · cases h
theorem rg_so_l1 {f : Int64 → Value} (row : n = 1 → ∀ (x : Int64) (rest : List Value) (ls : Array Slot) (H : Heap) (locs : List Loc) (Q : State → Prop), W p l e R s m args below meth c H locs 0 0 Q (F0 m (pc + 1) ls (rg_cv ρ (f x) :: rest)) → W p l e R s m args below meth c H locs 0 0 Q (F0 m pc ls (.long x :: rest))) (h : rg_l1 f n pc L S M = some o) : rg_Sd p l e R s m args below meth c dC dI ρ cA y d pc L S M o := by
  unfold rg_l1 at h
  split at h
  · obtain ⟨h1, h2⟩ := rg_ln_inv h
    cases h2
    intro Q k ls H locs hL hP hS
    exact row h1 _ _ _ _ _ _ (k ls H locs hL hP hS)
  · cases h
theorem rg_so_push {v : Value} {len : Nat} (row : n = len → ∀ (rest : List Value) (ls : Array Slot) (H : Heap) (locs : List Loc) (Q : State → Prop), W p l e R s m args below meth c H locs 0 0 Q (F0 m (pc + len) ls (rg_cv ρ v :: rest)) → W p l e R s m args below meth c H locs 0 0 Q (F0 m pc ls rest)) (h : rg_push v len n pc L S M = some o) : rg_Sd p l e R s m args below meth c dC dI ρ cA y d pc L S M o := by
  unfold rg_push at h
  obtain ⟨h1, h2⟩ := rg_ln_inv h
  cases h2
  intro Q k ls H locs hL hP hS
  exact row h1 _ _ _ _ _ (k ls H locs hL hP hS)
theorem rg_so_loadI {i len : Nat} (row : n = len → ∀ (x : Int32) (rest : List Value) (ls : Array Slot) (H : Heap) (locs : List Loc) (Q : State → Prop), ls[i]? = some (.val (.int x)) → W p l e R s m args below meth c H locs 0 0 Q (F0 m (pc + len) ls (.int x :: rest)) → W p l e R s m args below meth c H locs 0 0 Q (F0 m pc ls rest)) (h : rg_loadI i len n pc L S M = some o) : rg_Sd p l e R s m args below meth c dC dI ρ cA y d pc L S M o := by
  unfold rg_loadI at h
  split at h
  · rename_i hx
    obtain ⟨h1, h2⟩ := rg_ln_inv h
    cases h2
    intro Q k ls H locs hL hP hS
    exact row h1 _ _ _ _ _ _ (rg_loc_ld hL hx) (k ls H locs hL hP hS)
  · cases h
theorem rg_so_loadL {i len : Nat} (row : n = len → ∀ (x : Int64) (rest : List Value) (ls : Array Slot) (H : Heap) (locs : List Loc) (Q : State → Prop), ls[i]? = some (.val (.long x)) → W p l e R s m args below meth c H locs 0 0 Q (F0 m (pc + len) ls (.long x :: rest)) → W p l e R s m args below meth c H locs 0 0 Q (F0 m pc ls rest)) (h : rg_loadL i len n pc L S M = some o) : rg_Sd p l e R s m args below meth c dC dI ρ cA y d pc L S M o := by
  unfold rg_loadL at h
  split at h
  · rename_i hx
    obtain ⟨h1, h2⟩ := rg_ln_inv h
    cases h2
    intro Q k ls H locs hL hP hS
    exact row h1 _ _ _ _ _ _ (rg_loc_ld hL hx) (k ls H locs hL hP hS)
  · cases h
theorem rg_so_loadA {i len : Nat} (row : n = len → ∀ (x : Nat) (rest : List Value) (ls : Array Slot) (H : Heap) (locs : List Loc) (Q : State → Prop), ls[i]? = some (.val (.ref x)) → W p l e R s m args below meth c H locs 0 0 Q (F0 m (pc + len) ls (.ref x :: rest)) → W p l e R s m args below meth c H locs 0 0 Q (F0 m pc ls rest)) (h : rg_loadA i len n pc L S M = some o) : rg_Sd p l e R s m args below meth c dC dI ρ cA y d pc L S M o := by
  unfold rg_loadA at h
  split at h
  · rename_i hx
    obtain ⟨h1, h2⟩ := rg_ln_inv h
    cases h2
    intro Q k ls H locs hL hP hS
    exact row h1 _ _ _ _ _ _ (rg_loc_ld hL hx) (k ls H locs hL hP hS)
  · cases h
theorem rg_so_storI {i len : Nat} (row : n = len → ∀ (x : Int32) (rest : List Value) (ls : Array Slot) (H : Heap) (locs : List Loc) (Q : State → Prop) (lv : List (Nat × Value)), lv_has ls (rg_maxL y) lv → i < rg_maxL y → (∀ ls' : Array Slot, lv_has ls' (rg_maxL y) ((i, Value.int x) :: lv.filter (fun q => !(q.1 == i) && !(q.1 + 1 == i && q.2.category == 2))) → W p l e R s m args below meth c H locs 0 0 Q (F0 m (pc + len) ls' rest)) → W p l e R s m args below meth c H locs 0 0 Q (F0 m pc ls (.int x :: rest))) (h : rg_storI i len n pc L S M = some o) : rg_Sd p l e R s m args below meth c dC dI ρ cA y d pc L S M o := by
  unfold rg_storI at h
  split at h
  · split at h
    · rename_i hi
      obtain ⟨h1, h2⟩ := rg_ln_inv h
      cases h2
      intro Q k ls H locs hL hP hS
      exact row h1 _ _ _ _ _ _ _ (rg_loc_has hL) (by rw [← hL.1]; exact hi) (fun ls' h' => k ls' H locs (rg_loc_st1 hL h') hP hS)
    · cases h
  · cases h
theorem rg_so_storA {i len : Nat} (row : n = len → ∀ (x : Nat) (rest : List Value) (ls : Array Slot) (H : Heap) (locs : List Loc) (Q : State → Prop) (lv : List (Nat × Value)), lv_has ls (rg_maxL y) lv → i < rg_maxL y → (∀ ls' : Array Slot, lv_has ls' (rg_maxL y) ((i, Value.ref x) :: lv.filter (fun q => !(q.1 == i) && !(q.1 + 1 == i && q.2.category == 2))) → W p l e R s m args below meth c H locs 0 0 Q (F0 m (pc + len) ls' rest)) → W p l e R s m args below meth c H locs 0 0 Q (F0 m pc ls (.ref x :: rest))) (h : rg_storA i len n pc L S M = some o) : rg_Sd p l e R s m args below meth c dC dI ρ cA y d pc L S M o := by
  unfold rg_storA at h
  split at h
  · split at h
    · rename_i hi
      obtain ⟨h1, h2⟩ := rg_ln_inv h
      cases h2
      intro Q k ls H locs hL hP hS
      exact row h1 _ _ _ _ _ _ _ (rg_loc_has hL) (by rw [← hL.1]; exact hi) (fun ls' h' => k ls' H locs (rg_loc_st1 hL h') hP hS)
    · cases h
  · cases h
theorem rg_so_storL {i len : Nat} (row : n = len → ∀ (x : Int64) (rest : List Value) (ls : Array Slot) (H : Heap) (locs : List Loc) (Q : State → Prop) (lv : List (Nat × Value)), lv_has ls (rg_maxL y) lv → i + 1 < rg_maxL y → (∀ ls' : Array Slot, lv_has ls' (rg_maxL y) ((i, Value.long x) :: lv.filter (fun q => !(q.1 == i) && (!(q.1 == i + 1) && !(q.1 + 1 == i && q.2.category == 2)))) → W p l e R s m args below meth c H locs 0 0 Q (F0 m (pc + len) ls' rest)) → W p l e R s m args below meth c H locs 0 0 Q (F0 m pc ls (.long x :: rest))) (h : rg_storL i len n pc L S M = some o) : rg_Sd p l e R s m args below meth c dC dI ρ cA y d pc L S M o := by
  unfold rg_storL at h
  split at h
  · split at h
    · rename_i hi
      obtain ⟨h1, h2⟩ := rg_ln_inv h
      cases h2
      intro Q k ls H locs hL hP hS
      exact row h1 _ _ _ _ _ _ _ (rg_loc_has hL) (by rw [← hL.1]; exact hi) (fun ls' h' => k ls' H locs (rg_loc_st2 hL h') hP hS)
    · cases h
  · cases h
theorem rg_tgt_eq {off : Int} (h : 0 ≤ (pc : Int) + off) : (pc : Int) + off = ((rg_tgt pc off : Nat) : Int) := (Int.toNat_of_nonneg h).symm
theorem rg_so_jp {off : Int} (row : ∀ (rest : List Value) (ls : Array Slot) (H : Heap) (locs : List Loc) (Q : State → Prop), (pc : Int) + off = ((rg_tgt pc off : Nat) : Int) → W p l e R s m args below meth c H locs 0 0 Q (F0 m (rg_tgt pc off) ls rest) → W p l e R s m args below meth c H locs 0 0 Q (F0 m pc ls rest)) (h : rg_jp pc off L S M = some o) : rg_Sd p l e R s m args below meth c dC dI ρ cA y d pc L S M o := by
  unfold rg_jp at h
  split at h
  · rename_i h0
    cases h
    intro Q k ls H locs hL hP hS
    exact row _ _ _ _ _ (rg_tgt_eq h0) (k ls H locs hL hP hS)
  · cases h
theorem rg_so_if1 {cd : ClassFile.Cond} {off : Int} (hx : p.tables.exec = Jvm.exec) {cc : ByteArray} (hb : c.code = cc) (hdg : decode cc pc = .ok (.ifCond cd off, n)) (h : rg_if1 cd off n pc L S M = some o) : rg_Sd p l e R s m args below meth c dC dI ρ cA y d pc L S M o := by
  unfold rg_if1 at h
  split at h
  · rename_i x r
    obtain ⟨h1, h2⟩ := rg_ln_inv h
    subst h1
    split at h2
    · rename_i h0
      cases h2
      intro Q k ls H locs hL hP hS
      have k1 := k ls H locs hL hP hS
      have ht := rg_tgt_eq h0
      show W p l e R s m args below meth c H locs 0 0 Q (F0 m pc ls (.int x :: r.map (rg_cv ρ)))
      cases cd with
      | eq => exact lv_if_eq hx hb hdg ht (fun hc => by simpa [rg_c1, hc] using k1) (fun hc => by simpa [rg_c1, hc] using k1)
      | ne => exact lv_if_ne hx hb hdg ht (fun hc => by simpa [rg_c1, hc] using k1) (fun hc => by simpa [rg_c1, hc] using k1)
      | lt => exact lv_if_lt hx hb hdg ht (fun hc => by simpa [rg_c1, hc] using k1) (fun hc => by simpa only [rg_c1, hc, decide_false, if_false, Bool.false_eq_true] using k1)
      | ge => exact lv_if_ge hx hb hdg ht (fun hc => by simpa [rg_c1, hc] using k1) (fun hc => by simpa only [rg_c1, hc, decide_false, if_false, Bool.false_eq_true] using k1)
      | gt => exact lv_if_gt hx hb hdg ht (fun hc => by simpa [rg_c1, hc] using k1) (fun hc => by simpa only [rg_c1, hc, decide_false, if_false, Bool.false_eq_true] using k1)
      | le => exact lv_if_le hx hb hdg ht (fun hc => by simpa [rg_c1, hc] using k1) (fun hc => by simpa only [rg_c1, hc, decide_false, if_false, Bool.false_eq_true] using k1)
    · cases h2
  · cases h
theorem rg_so_if2 {cd : ClassFile.Cond} {off : Int} (hx : p.tables.exec = Jvm.exec) {cc : ByteArray} (hb : c.code = cc) (hdg : decode cc pc = .ok (.if_icmp cd off, n)) (h : rg_if2 cd off n pc L S M = some o) : rg_Sd p l e R s m args below meth c dC dI ρ cA y d pc L S M o := by
  unfold rg_if2 at h
  split at h
  · rename_i z x r
    obtain ⟨h1, h2⟩ := rg_ln_inv h
    subst h1
    split at h2
    · rename_i h0
      cases h2
      intro Q k ls H locs hL hP hS
      have k1 := k ls H locs hL hP hS
      have ht := rg_tgt_eq h0
      show W p l e R s m args below meth c H locs 0 0 Q (F0 m pc ls (.int z :: .int x :: r.map (rg_cv ρ)))
      cases cd with
      | eq => exact lv_icmp_eq hx hb hdg ht (fun hc => by simpa [rg_c2, hc] using k1) (fun hc => by simpa [rg_c2, hc] using k1)
      | ne => exact lv_icmp_ne hx hb hdg ht (fun hc => by simpa [rg_c2, hc] using k1) (fun hc => by simpa [rg_c2, hc] using k1)
      | lt => exact lv_icmp_lt hx hb hdg ht (fun hc => by simpa [rg_c2, hc] using k1) (fun hc => by simpa only [rg_c2, hc, decide_false, if_false, Bool.false_eq_true] using k1)
      | ge => exact lv_icmp_ge hx hb hdg ht (fun hc => by simpa [rg_c2, hc] using k1) (fun hc => by simpa only [rg_c2, hc, decide_false, if_false, Bool.false_eq_true] using k1)
      | gt => exact lv_icmp_gt hx hb hdg ht (fun hc => by simpa [rg_c2, hc] using k1) (fun hc => by simpa only [rg_c2, hc, decide_false, if_false, Bool.false_eq_true] using k1)
      | le => exact lv_icmp_le hx hb hdg ht (fun hc => by simpa [rg_c2, hc] using k1) (fun hc => by simpa only [rg_c2, hc, decide_false, if_false, Bool.false_eq_true] using k1)
    · cases h2
  · cases h
theorem rg_so_tsw {dflt lo hi : Int} {offs : Array Int} (hx : p.tables.exec = Jvm.exec) {cc : ByteArray} (hb : c.code = cc) (hdg : decode cc pc = .ok (.tableswitch dflt lo hi offs, n)) (h : rg_tsw dflt lo hi offs pc L S M = some o) : rg_Sd p l e R s m args below meth c dC dI ρ cA y d pc L S M o := by
  unfold rg_tsw at h
  split at h
  · rename_i x r
    split at h
    · rename_i hout
      unfold rg_jp at h
      split at h
      · rename_i h0
        cases h
        intro Q k ls H locs hL hP hS
        exact lv_tableOut hx hb hdg hout (rg_tgt_eq h0) (k ls H locs hL hP hS)
      · cases h
    · rename_i hout
      split at h
      · rename_i off ho
        unfold rg_jp at h
        split at h
        · rename_i h0
          cases h
          intro Q k ls H locs hL hP hS
          exact lv_tableIn hx hb hdg (fun q => hout (Or.inl q)) (fun q => hout (Or.inr q)) ho (rg_tgt_eq h0) (k ls H locs hL hP hS)
        · cases h
      · cases h
  · cases h
theorem rg_so_iinc {i : Nat} {x : Int} (hx : p.tables.exec = Jvm.exec) {cc : ByteArray} (hb : c.code = cc) (hdg : decode cc pc = .ok (.iinc i x, n)) (h : rg_iinc i x n pc L S M = some o) : rg_Sd p l e R s m args below meth c dC dI ρ cA y d pc L S M o := by
  unfold rg_iinc at h
  split at h
  · rename_i v hv
    split at h
    · rename_i hn
      cases h
      intro Q k ls H locs hL hP hS
      have hg := rg_ld_get hv
      have hi : i < rg_maxL y := by rw [← hL.1]; exact (List.getElem?_eq_some_iff.mp hg).1
      obtain ⟨j, hj⟩ := List.getElem?_of_mem (rg_lv_mem (ρ := ρ) (q := (i, .int v)).mpr ⟨.int v, hg, rfl⟩)
      rcases hn with rfl | rfl
      · exact lv_iinc hx hb hdg (rg_loc_has hL) hj rfl hi rfl (fun ls' h' => k ls' H locs (rg_loc_st1 hL h') hP hS)
      · exact lv_iincW hx hb hdg (rg_loc_has hL) hj rfl hi rfl (fun ls' h' => k ls' H locs (rg_loc_st1 hL h') hP hS)
    · cases h
  · cases h
theorem rg_so_dup (hx : p.tables.exec = Jvm.exec) {cc : ByteArray} (hb : c.code = cc) (hdg : decode cc pc = .ok (.dup, n)) (h : rg_dup n pc L S M = some o) : rg_Sd p l e R s m args below meth c dC dI ρ cA y d pc L S M o := by
  unfold rg_dup at h
  split at h
  · split at h
    · rename_i hc
      obtain ⟨h1, h2⟩ := rg_ln_inv h
      subst h1
      cases h2
      intro Q k ls H locs hL hP hS
      exact lv_dup hx hb hdg (by rw [rg_cv_cat]; exact hc) (k ls H locs hL hP hS)
    · cases h
  · cases h
theorem rg_so_pop (hx : p.tables.exec = Jvm.exec) {cc : ByteArray} (hb : c.code = cc) (hdg : decode cc pc = .ok (.pop, n)) (h : rg_pop n pc L S M = some o) : rg_Sd p l e R s m args below meth c dC dI ρ cA y d pc L S M o := by
  unfold rg_pop at h
  split at h
  · split at h
    · rename_i hc
      obtain ⟨h1, h2⟩ := rg_ln_inv h
      subst h1
      cases h2
      intro Q k ls H locs hL hP hS
      exact lv_pop hx hb hdg (by rw [rg_cv_cat]; exact hc) (k ls H locs hL hP hS)
    · cases h
  · cases h
theorem rg_so_dupx1 (hx : p.tables.exec = Jvm.exec) {cc : ByteArray} (hb : c.code = cc) (hdg : decode cc pc = .ok (.dup_x1, n)) (h : rg_dupx1 n pc L S M = some o) : rg_Sd p l e R s m args below meth c dC dI ρ cA y d pc L S M o := by
  unfold rg_dupx1 at h
  split at h
  · split at h
    · rename_i hc
      obtain ⟨h1, h2⟩ := rg_ln_inv h
      subst h1
      cases h2
      intro Q k ls H locs hL hP hS
      exact lv_dup_x1 hx hb hdg (by rw [rg_cv_cat]; exact hc.1) (by rw [rg_cv_cat]; exact hc.2) (k ls H locs hL hP hS)
    · cases h
  · cases h
theorem rg_so_dupx2 (hx : p.tables.exec = Jvm.exec) {cc : ByteArray} (hb : c.code = cc) (hdg : decode cc pc = .ok (.dup_x2, n)) (h : rg_dupx2 n pc L S M = some o) : rg_Sd p l e R s m args below meth c dC dI ρ cA y d pc L S M o := by
  unfold rg_dupx2 at h
  split at h
  · split at h
    · rename_i hc
      obtain ⟨h1, h2⟩ := rg_ln_inv h
      subst h1
      cases h2
      intro Q k ls H locs hL hP hS
      exact lv_dup_x2 hx hb hdg (by rw [rg_cv_cat]; exact hc.1) (by rw [rg_cv_cat]; exact hc.2.1) (by rw [rg_cv_cat]; exact hc.2.2) (k ls H locs hL hP hS)
    · cases h
  · cases h
theorem rg_so_dup2 (hx : p.tables.exec = Jvm.exec) {cc : ByteArray} (hb : c.code = cc) (hdg : decode cc pc = .ok (.dup2, n)) (h : rg_dup2 n pc L S M = some o) : rg_Sd p l e R s m args below meth c dC dI ρ cA y d pc L S M o := by
  unfold rg_dup2 at h
  split at h
  · obtain ⟨h1, h2⟩ := rg_ln_inv h
    subst h1
    cases h2
    intro Q k ls H locs hL hP hS
    exact lv_dup2_2 hx hb hdg rfl (k ls H locs hL hP hS)
  · split at h
    · rename_i hc
      obtain ⟨h1, h2⟩ := rg_ln_inv h
      subst h1
      cases h2
      intro Q k ls H locs hL hP hS
      exact lv_dup2_11 hx hb hdg (by rw [rg_cv_cat]; exact hc.1) (by rw [rg_cv_cat]; exact hc.2) (k ls H locs hL hP hS)
    · cases h
  · cases h
theorem rg_so_getf {i : Nat} (hC : rg_Cx p R s m args c dC dI ρ cA y d) (hdg : decode (rg_bytes y) pc = .ok (.getfield i, n)) (h : rg_getf (rg_own y) i n pc L S M = some o) : rg_Sd p l e R s m args below meth c dC dI ρ cA y d pc L S M o := by
  obtain ⟨hx, hb, -, hown, hts, hK, -, -, -, -, -, hy⟩ := hC
  have hon := (rg_row_spec hy).2.2.1
  unfold rg_getf at h
  split at h
  · rename_i a r
    split at h
    · rename_i ci k z ci2 ks hf hs
      split at h
      · rename_i hci
        subst hci
        split at h
        · rename_i w hw
          obtain ⟨h1, h2⟩ := rg_ln_inv h
          subst h1
          cases h2
          obtain ⟨C, T, N, hc, hk, hT, hl⟩ := rg_fld_ok hf
          rw [hon] at hl
          intro Q kk ls H locs hL hP hS
          refine va_get (own := (rg_name y).cls) (ref := C) (C := C) (T := T) (N := N) (ci := ci2) (v := rg_cv ρ (rg_slot M a k w)) hx hb hts (rg_cls hc).1 hown hK hP a (rg_w_get hs) hc k hk (hts _ hl) (fun x hx => by rw [hT] at hx; exact hx) ?_ hdg (kk ls H locs hL hP hS)
          unfold rg_fs
          rw [List.getElem?_mapIdx, hw]
          rfl
        · cases h
      · cases h
    · cases h
  · cases h
theorem rg_so_putf {i : Nat} (hC : rg_Cx p R s m args c dC dI ρ cA y d) (hdg : decode (rg_bytes y) pc = .ok (.putfield i, n)) (h : rg_putf (rg_own y) i n pc L S M = some o) : rg_Sd p l e R s m args below meth c dC dI ρ cA y d pc L S M o := by
  obtain ⟨hx, hb, -, hown, hts, hK, hD, -, -, -, -, hy⟩ := hC
  have hon := (rg_row_spec hy).2.2.1
  unfold rg_putf at h
  split at h
  · rename_i v a r
    split at h
    · rename_i ci k z ci2 ks hf hs
      split at h
      · rename_i hci
        subst hci
        obtain ⟨C, T, N, hc, hk, hT, hl⟩ := rg_fld_ok hf
        rw [hon] at hl
        obtain ⟨hin, ty, hty, htyok, hnm⟩ := rg_cls hc
        split at h
        · rename_i x hw
          obtain ⟨h1, h2⟩ := rg_ln_inv h
          subst h1
          cases h2
          obtain ⟨hlen, hsl⟩ := rg_sh_ok hs hc hty hw
          simp only [rg_slok, Bool.and_eq_true, decide_eq_true_eq, Bool.not_eq_true'] at hsl
          have hd := htyok k hk
          rw [hsl.1] at hd
          intro Q kk ls H locs hL hP hS
          refine va_put (own := (rg_name y).cls) (ref := C) (C := C) (T := T) (N := N) (ci := ci2) (v := .int x) (ty := .int) hx hb hts hin ty htyok hnm hown hK hP (hD M) hS a (rg_w_get hs) hc k hk (hts _ hl) (fun x hx => by rw [hT] at hx; exact hx) hsl.2 hd rfl rfl (by unfold rg_fs; rw [List.length_mapIdx, hlen]; exact hk) hdg (fun H1 locs1 hP1 _ hS1 => kk ls H1 locs1 hL ?_ hS1)
          rw [rg_fs_setI hw (Or.inl rfl)] at hP1
          exact rg_P_set (M' := rg_wI M a k x) hs hP1 rfl (fun q hq => ⟨by simp [rg_wI, hq], rfl⟩)
        · rename_i x hw
          split at h
          · rename_i h01
            obtain ⟨h1, h2⟩ := rg_ln_inv h
            subst h1
            cases h2
            obtain ⟨hlen, hsl⟩ := rg_sh_ok hs hc hty hw
            simp only [rg_slok, Bool.and_eq_true, decide_eq_true_eq, Bool.not_eq_true'] at hsl
            have hd := htyok k hk
            rw [hsl.1] at hd
            intro Q kk ls H locs hL hP hS
            refine va_put (own := (rg_name y).cls) (ref := C) (C := C) (T := T) (N := N) (ci := ci2) (v := .int x) (ty := .boolean) hx hb hts hin ty htyok hnm hown hK hP (hD M) hS a (rg_w_get hs) hc k hk (hts _ hl) (fun x hx => by rw [hT] at hx; exact hx) hsl.2 hd (by rcases h01 with rfl | rfl <;> rfl) (by rcases h01 with rfl | rfl <;> rfl) (by unfold rg_fs; rw [List.length_mapIdx, hlen]; exact hk) hdg (fun H1 locs1 hP1 _ hS1 => kk ls H1 locs1 hL ?_ hS1)
            rw [rg_fs_setI hw (Or.inr rfl)] at hP1
            exact rg_P_set (M' := rg_wI M a k x) hs hP1 rfl (fun q hq => ⟨by simp [rg_wI, hq], rfl⟩)
          · cases h
        · rename_i x hw
          obtain ⟨h1, h2⟩ := rg_ln_inv h
          subst h1
          cases h2
          obtain ⟨hlen, hsl⟩ := rg_sh_ok hs hc hty hw
          simp only [rg_slok, Bool.and_eq_true, decide_eq_true_eq, Bool.not_eq_true'] at hsl
          have hd := htyok k hk
          rw [hsl.1] at hd
          intro Q kk ls H locs hL hP hS
          refine va_put (own := (rg_name y).cls) (ref := C) (C := C) (T := T) (N := N) (ci := ci2) (v := .long x) (ty := .long) hx hb hts hin ty htyok hnm hown hK hP (hD M) hS a (rg_w_get hs) hc k hk (hts _ hl) (fun x hx => by rw [hT] at hx; exact hx) hsl.2 hd rfl rfl (by unfold rg_fs; rw [List.length_mapIdx, hlen]; exact hk) hdg (fun H1 locs1 hP1 _ hS1 => kk ls H1 locs1 hL ?_ hS1)
          rw [rg_fs_setL hw] at hP1
          exact rg_P_set (M' := rg_wL M a k x) hs hP1 rfl (fun q hq => ⟨rfl, by simp [rg_wL, hq]⟩)
        · cases h
      · cases h
    · cases h
  · cases h
theorem rg_so_iald (hC : rg_Cx p R s m args c dC dI ρ cA y d) (hdg : decode (rg_bytes y) pc = .ok (.iaload, n)) (h : rg_iald n pc L S M = some o) : rg_Sd p l e R s m args below meth c dC dI ρ cA y d pc L S M o := by
  obtain ⟨hx, hb, -, hown, hts, hK, hD, -, -, -, -, hy⟩ := hC
  unfold rg_iald at h
  split at h
  · split at h
    · rename_i hs
      split at h
      · rename_i hi
        obtain ⟨h1, h2⟩ := rg_ln_inv h
        subst h1
        cases h2
        intro Q kk ls H locs hL hP hS
        exact va_iald hx hb hK hP _ 0 (rg_w_get hs) rfl (rg_in_vp hi) hdg (kk ls H locs hL hP hS)
      · cases h
    · cases h
  · cases h
theorem rg_so_lald (hC : rg_Cx p R s m args c dC dI ρ cA y d) (hdg : decode (rg_bytes y) pc = .ok (.laload, n)) (h : rg_lald n pc L S M = some o) : rg_Sd p l e R s m args below meth c dC dI ρ cA y d pc L S M o := by
  obtain ⟨hx, hb, -, hown, hts, hK, hD, -, -, -, -, hy⟩ := hC
  unfold rg_lald at h
  split at h
  · split at h
    · rename_i hs
      split at h
      · rename_i hi
        obtain ⟨h1, h2⟩ := rg_ln_inv h
        subst h1
        cases h2
        intro Q kk ls H locs hL hP hS
        exact va_lald hx hb hK hP _ 1 (rg_w_get hs) rfl (rg_in_vp hi) hdg (kk ls H locs hL hP hS)
      · cases h
    · cases h
  · cases h
theorem rg_W_aald {H : Heap} {locs : List Loc} {Q : State → Prop} {cc : ByteArray} {ls : Array Slot} {rest : List Value} {ws : va_W} {a : Nat} {D : va_G} {cl : List vw_C} {tys : List (ClassId × FieldType)} (hexec : p.tables.exec = Jvm.exec) (hb : c.code = cc) (hK : va_K D cl tys s) (hP : va_P D cl ws H) (q0 t0 : Nat) {cB : ClassId} {ty : FieldType} (hty : ty.isReference = true) {k : Nat} {f : Nat → Option Nat} (ha : ws[q0]? = some (a, .inl (cB, k, .inr (.inr (.inr (.inr f)))))) (ht : tys[t0]? = some (cB, ty)) {i : Int32} (hin : vp_in i k) (hdg : decode cc pc = .ok (.aaload, 1))
    (kk : W p l e R s m args below meth c H locs 0 0 Q (F0 m (pc + 1) ls (va_rf (f i.toNatClampNeg) :: rest))) : W p l e R s m args below meth c H locs 0 0 Q (F0 m pc ls (.int i :: .ref a :: rest)) := by
  have hlt : i.toNatClampNeg < k := Nat.not_le.mp fun q => hin (Or.inr q)
  exact W.aald (v := va_rf (f i.toNatClampNeg)) (ty := ty) hexec hb (hP q0 _ ha) ((hK.2 t0 _ ht).1 k (fun j => va_rf (f j))) hty (fun q => by cases q) (by show ¬ (i < 0 ∨ (arrV _ _ _).slots.size ≤ _); rw [arrV_size]; exact hin) (by show (arrV _ _ _).slots[_]? = _; rw [arrV_read _ _ hlt]) rfl rfl hdg kk
theorem rg_so_aald (hC : rg_Cx p R s m args c dC dI ρ cA y d) (hdg : decode (rg_bytes y) pc = .ok (.aaload, n)) (h : rg_aald n pc L S M = some o) : rg_Sd p l e R s m args below meth c dC dI ρ cA y d pc L S M o := by
  obtain ⟨hx, hb, -, hown, hts, hK, hD, -, -, -, -, hy⟩ := hC
  unfold rg_aald at h
  split at h
  · split at h
    · rename_i hs
      split at h
      · rename_i hi
        obtain ⟨h1, h2⟩ := rg_ln_inv h
        subst h1
        cases h2
        intro Q kk ls H locs hL hP hS
        exact rg_W_aald hx hb hK hP _ 2 rfl (rg_w_get hs) rfl (rg_in_vp hi) hdg (kk ls H locs hL hP hS)
      · cases h
    · rename_i hs
      split at h
      · rename_i hi
        obtain ⟨h1, h2⟩ := rg_ln_inv h
        subst h1
        cases h2
        intro Q kk ls H locs hL hP hS
        exact rg_W_aald hx hb hK hP _ 3 rfl (rg_w_get hs) rfl (rg_in_vp hi) hdg (kk ls H locs hL hP hS)
      · cases h
    · cases h
  · cases h
theorem rg_so_iast (hC : rg_Cx p R s m args c dC dI ρ cA y d) (hdg : decode (rg_bytes y) pc = .ok (.iastore, n)) (h : rg_iast n pc L S M = some o) : rg_Sd p l e R s m args below meth c dC dI ρ cA y d pc L S M o := by
  obtain ⟨hx, hb, -, hown, hts, hK, hD, -, -, -, -, hy⟩ := hC
  unfold rg_iast at h
  split at h
  · rename_i x i a r
    split at h
    · rename_i hs
      split at h
      · rename_i hi
        obtain ⟨h1, h2⟩ := rg_ln_inv h
        subst h1
        cases h2
        intro Q kk ls H locs hL hP hS
        refine va_iast hx hb hK hP (hD M) hS _ 0 (rg_w_get hs) rfl (rg_in_vp hi) hdg (fun H1 locs1 hP1 _ hS1 => kk ls H1 locs1 hL ?_ hS1)
        exact rg_P_set (M' := rg_wI M a i.toNatClampNeg x) hs hP1 (by simp [rg_ce, rg_row3, rg_wI]) (fun q hq => ⟨by simp [rg_wI, hq], rfl⟩)
      · cases h
    · cases h
  · cases h
theorem rg_so_last (hC : rg_Cx p R s m args c dC dI ρ cA y d) (hdg : decode (rg_bytes y) pc = .ok (.lastore, n)) (h : rg_last n pc L S M = some o) : rg_Sd p l e R s m args below meth c dC dI ρ cA y d pc L S M o := by
  obtain ⟨hx, hb, -, hown, hts, hK, hD, -, -, -, -, hy⟩ := hC
  unfold rg_last at h
  split at h
  · rename_i x i a r
    split at h
    · rename_i hs
      split at h
      · rename_i hi
        obtain ⟨h1, h2⟩ := rg_ln_inv h
        subst h1
        cases h2
        intro Q kk ls H locs hL hP hS
        refine va_last hx hb hK hP (hD M) hS _ 1 (rg_w_get hs) rfl (rg_in_vp hi) hdg (fun H1 locs1 hP1 _ hS1 => kk ls H1 locs1 hL ?_ hS1)
        exact rg_P_set (M' := rg_wL M a i.toNatClampNeg x) hs hP1 (by simp [rg_ce, rg_row3, rg_wL]) (fun q hq => ⟨rfl, by simp [rg_wL, hq]⟩)
      · cases h
    · cases h
  · cases h
theorem rg_so_alen (hC : rg_Cx p R s m args c dC dI ρ cA y d) (hdg : decode (rg_bytes y) pc = .ok (.arraylength, n)) (h : rg_alen n pc L S M = some o) : rg_Sd p l e R s m args below meth c dC dI ρ cA y d pc L S M o := by
  obtain ⟨hx, hb, -, hown, hts, hK, hD, -, -, -, hSx, hy⟩ := hC
  unfold rg_alen at h
  split at h
  · split at h
    · rename_i hs
      obtain ⟨h1, h2⟩ := rg_ln_inv h
      subst h1
      cases h2
      intro Q kk ls H locs hL hP hS
      exact va_alen hx hb hK hP _ 0 (rg_w_get hs) rfl rfl hdg (kk ls H locs hL hP hS)
    · split at h
      · rename_i hc
        subst hc
        obtain ⟨h1, h2⟩ := rg_ln_inv h
        subst h1
        cases h2
        intro Q kk ls H locs hL hP hS
        exact va_tlen hx hb (hSx.2.1.1 0 (by decide)).2.2.2 hS rfl hdg (kk ls H locs hL hP hS)
      · cases h
    · cases h
  · cases h
theorem rg_so_bald (hC : rg_Cx p R s m args c dC dI ρ cA y d) (hdg : decode (rg_bytes y) pc = .ok (.baload, n)) (h : rg_bald n pc L S M = some o) : rg_Sd p l e R s m args below meth c dC dI ρ cA y d pc L S M o := by
  obtain ⟨hx, hb, -, hown, hts, hK, hD, -, -, -, hSx, hy⟩ := hC
  unfold rg_bald at h
  split at h
  · split at h
    · rename_i hc
      obtain ⟨hc, hi⟩ := hc
      subst hc
      obtain ⟨h1, h2⟩ := rg_ln_inv h
      subst h1
      cases h2
      intro Q kk ls H locs hL hP hS
      exact va_tb hx hb (hSx.2.1.1 0 (by decide)).2.2.2 hS (rg_in_vp hi) rfl hdg (kk ls H locs hL hP hS)
    · cases h
  · cases h
theorem rg_wS1 : Cond.fieldLink "java/lang/String" 9 "java/lang/String" "value" "[B" ∈ rg_tbl := rg_tbl_mem (i := 1805) (by decide +kernel) rfl
theorem rg_wS2 : Cond.fieldLink "java/lang/String" 15 "java/lang/String" "coder" "B" ∈ rg_tbl := rg_tbl_mem (i := 1804) (by decide +kernel) rfl
theorem rg_wS3 : Cond.fieldLink "java/lang/String" 38 "java/lang/String" "COMPACT_STRINGS" "Z" ∈ rg_tbl := rg_tbl_mem (i := 807) (by decide +kernel) rfl
theorem rg_so_getS {i : Nat} (hC : rg_Cx p R s m args c dC dI ρ cA y d) (h15 : rg_own y = 15) (hdg : decode (rg_bytes y) pc = .ok (.getfield i, n)) (h : rg_getS i n pc L S M = some o) : rg_Sd p l e R s m args below meth c dC dI ρ cA y d pc L S M o := by
  obtain ⟨hx, hb, -, hown, hts, hK, hD, -, -, -, hSx, hy⟩ := hC
  have hon := (rg_row_spec hy).2.2.1
  rw [h15] at hon
  have hcl : (rg_name y).cls = "java/lang/String" := hon.symm
  rw [hcl] at hown
  unfold rg_getS at h
  split at h
  · split at h
    · rename_i hc
      obtain ⟨hc, hi⟩ := hc
      subst hc
      subst hi
      obtain ⟨h1, h2⟩ := rg_ln_inv h
      subst h1
      cases h2
      intro Q kk ls H locs hL hP hS
      exact vk_getf hx hb (hSx.2.1.1 0 (by decide)).2.2.1 hS hown (hts _ rg_wS1) (fun _ h9 => h9) hdg (kk ls H locs hL hP hS)
    · split at h
      · rename_i hc
        obtain ⟨hc, hi⟩ := hc
        subst hc
        subst hi
        obtain ⟨h1, h2⟩ := rg_ln_inv h
        subst h1
        cases h2
        intro Q kk ls H locs hL hP hS
        exact vk_getf hx hb (hSx.2.1.1 0 (by decide)).2.1 hS hown (hts _ rg_wS2) (fun _ h9 => h9) hdg (kk ls H locs hL hP hS)
      · cases h
  · cases h
theorem rg_so_gets (hC : rg_Cx p R s m args c dC dI ρ cA y d) (h15 : rg_own y = 15) (hdg : decode (rg_bytes y) pc = .ok (.getstatic 38, n)) (h : rg_push (.int 1) 3 n pc L S M = some o) : rg_Sd p l e R s m args below meth c dC dI ρ cA y d pc L S M o := by
  obtain ⟨hx, hb, -, hown, hts, hK, hD, -, -, -, hSx, hy⟩ := hC
  have hon := (rg_row_spec hy).2.2.1
  rw [h15] at hon
  have hcl : (rg_name y).cls = "java/lang/String" := hon.symm
  rw [hcl] at hown
  unfold rg_push at h
  obtain ⟨h1, h2⟩ := rg_ln_inv h
  subst h1
  cases h2
  intro Q kk ls H locs hL hP hS
  exact va_gets hx hb hSx.2.2 hS hown (hts _ rg_wS3) (fun _ h9 => h9) hdg (kk ls H locs hL hP hS)
end SND
