/-! new int[n][k]: the outer row at the heap's end, the inner ones behind it (over the machine's own 'make') -/
def mm_f (h i j : Nat) : Value := if j < i then .ref (h + 1 + j) else .null
def mm_O (g : ClassId) (N h i : Nat) : Cell := arrV g N (mm_f h i)
def mm_I (q : ClassId) (K : Nat) : Cell := arrV q K (fun _ => .int 0)
theorem mm_O_0 (g : ClassId) (N h : Nat) : mm_O g N h 0 = { cls := g, slots := Array.replicate N .null, vm := .none } := by
  rw [arrV_new]
  exact congrArg (arrV g N) (funext fun j => by simp [mm_f])
theorem mm_O_s (g : ClassId) (N h i : Nat) : (mm_O g N h i).setSlot i (.ref (h + 1 + i)) = mm_O g N h (i + 1) := by
  unfold mm_O
  rw [arrV_store]
  refine congrArg (arrV g N) (funext fun j => ?_)
  unfold updV mm_f
  by_cases e : j = i
  · subst e; simp
  · rw [if_neg e]
    by_cases h2 : j < i
    · rw [if_pos h2, if_pos (by omega)]
    · rw [if_neg h2, if_neg (by omega)]
theorem mm_I_eq (q : ClassId) (K : Nat) : mm_I q K = { cls := q, slots := Array.replicate K (.int 0), vm := .none } := (arrV_new q K (.int 0)).symm
/-- the state when i inner rows are made -/
def mm_S (s : State) (g q : ClassId) (N K : Nat) : Nat → State
  | 0 => s.pushCell (mm_O g N s.heap.size 0)
  | i + 1 => ((mm_S s g q N K i).pushCell (mm_I q K)).setCell s.heap.size (mm_O g N s.heap.size (i + 1))
theorem mm_sz (g : ClassId) (N h i : Nat) : (mm_O g N h i).slots.size = N := arrV_size _ _ _
theorem mm_szI (q : ClassId) (K : Nat) : (mm_I q K).slots.size = K := arrV_size _ _ _
theorem mm_facts (s : State) (g q : ClassId) (N K : Nat) : ∀ i, (mm_S s g q N K i).heap.size = s.heap.size + 1 + i ∧ (mm_S s g q N K i).heap[s.heap.size]? = some (mm_O g N s.heap.size i) ∧ (mm_S s g q N K i).vm = s.vm ∧ (mm_S s g q N K i).slotsUsed = s.slotsUsed + N + i * K
  | 0 => ⟨by simp [mm_S], by simp [mm_S], rfl, by simp [mm_S, mm_sz]⟩
  | i + 1 => by
    obtain ⟨a, b, d, u⟩ := mm_facts s g q N K i
    have hlt : s.heap.size < (mm_S s g q N K i).heap.size := by omega
    have hb' : ((mm_S s g q N K i).pushCell (mm_I q K)).heap[s.heap.size]? = some (mm_O g N s.heap.size i) := by rw [State.heap_pushCell_of_lt (h := hlt)]; exact b
    refine ⟨?_, State.heap_setCell_self hb', by simp [mm_S, d], ?_⟩
    · simp [mm_S, State.setCell, a]; omega
    · simp [mm_S, u, mm_szI, Nat.succ_mul]; omega
theorem mm_setTop (s : State) (f : JFrame) (g q : ClassId) (N K : Nat) : ∀ i, mm_S (s.setTop f) g q N K i = (mm_S s g q N K i).setTop f
  | 0 => rfl
  | i + 1 => by simp only [mm_S, mm_setTop s f g q N K i, State.heap_setTop, State.pushCell_setTop, State.setCell_setTop]
theorem mm_old (s : State) (g q : ClassId) (N K : Nat) {a : Nat} (ha : a < s.heap.size) : ∀ i, (mm_S s g q N K i).heap[a]? = s.heap[a]?
  | 0 => State.heap_pushCell_of_lt _ _ ha
  | i + 1 => by
    have f1 := (mm_facts s g q N K i).1
    have hlt : a < (mm_S s g q N K i).heap.size := by omega
    show (((mm_S s g q N K i).pushCell (mm_I q K)).setCell s.heap.size _).heap[a]? = _
    rw [State.heap_setCell_other (Nat.ne_of_gt ha), State.heap_pushCell_of_lt (h := hlt)]
    exact mm_old s g q N K ha i
theorem mm_inner (s : State) (g q : ClassId) (N K : Nat) : ∀ i j, j < i → (mm_S s g q N K i).heap[s.heap.size + 1 + j]? = some (mm_I q K)
  | 0, _, h => absurd h (Nat.not_lt_zero _)
  | i + 1, j, h => by
    have f1 := (mm_facts s g q N K i).1
    show (((mm_S s g q N K i).pushCell (mm_I q K)).setCell s.heap.size _).heap[s.heap.size + 1 + j]? = _
    rw [State.heap_setCell_other (show s.heap.size ≠ s.heap.size + 1 + j by omega)]
    by_cases hj : j < i
    · have hlt : s.heap.size + 1 + j < (mm_S s g q N K i).heap.size := by omega
      rw [State.heap_pushCell_of_lt (h := hlt)]
      exact mm_inner s g q N K i j hj
    · have e : j = i := by omega
      subst e
      rw [← f1]
      exact State.heap_pushCell_size _ _
section MMW
variable {E : CtlPost} {e : Env} {d : Bool} {acts : List Action} {s : State}
theorem mm_newArray {c comp : ClassId} {k : Class} {type : FieldType} {len : Nat} {init : Value} (hk : s.vm.classes[c]? = some k) (hkind : k.kind = .array comp type) (hlimit : ¬ len > e.platform.arrayLengthLimit) (hheap : ¬ len * componentBytes type > e.platform.maxHeapBytes) (hfit : fits type init = true) (hdef : init.isDefault = true) {Q : Addr → Pre} (h1 : s.heap.size < e.platform.maxCells) (h2 : s.slotsUsed + len ≤ e.platform.maxSlots)
    (hq : Q s.heap.size d acts (s.pushCell { cls := c, slots := Array.replicate len init, vm := .none })) : wp (Jvm.newArray c len init) Q E e d acts s := by
  have hfits : ∀ i v, (Array.replicate len init)[i]? = some v → s.fitsSlot c .none i v = true := by
    intro i v hv
    rw [Array.getElem?_replicate] at hv
    split at hv
    · cases hv
      simp [State.fitsSlot, State.slotType?, hk, hkind, hfit]
    · cases hv
  have hda : allocActs (Array.replicate len init) s.heap.size acts = acts := by
    unfold allocActs
    rw [if_pos]
    rw [Array.all_replicate]
    split <;> simp [hdef]
  simp only [Jvm.newArray, Jvm.arrayFits, wp_bind', W.ask, W.ite, hlimit, if_false, wp_pure', W.theClass, hk, hkind, hheap, W.alloc, W.stop, Option.some.injEq, exists_eq_left', Array.size_replicate, hda]
  rw [if_neg (by omega)]
  exact ⟨h1, h2, hfits, hq⟩
theorem mm_row {q cc : ClassId} {kc : Class} {k : Int32} (hkc : s.vm.classes[q]? = some kc) (hkindc : kc.kind = .array cc .int) (hm : ¬ k < 0) (hl2 : ¬ k.toNatClampNeg > e.platform.arrayLengthLimit) (hh2 : ¬ k.toNatClampNeg * componentBytes .int > e.platform.maxHeapBytes) (h1 : s.heap.size < e.platform.maxCells) (h2 : s.slotsUsed + k.toNatClampNeg ≤ e.platform.maxSlots)
    {Q : Addr → Pre} (hq : Q s.heap.size d acts (s.pushCell (mm_I q k.toNatClampNeg))) : wp (multianewarray.make q [k]) Q E e d acts s := by
  rw [multianewarray.make]
  simp only [wp_bind', W.ite, hm, if_false, wp_pure', W.theClass, hkc, hkindc, Option.some.injEq, exists_eq_left']
  refine mm_newArray hkc hkindc hl2 hh2 rfl rfl h1 h2 ?_
  rw [mm_I_eq] at hq
  exact hq
theorem mm_make {g q cc : ClassId} {kg kc : Class} {n k : Int32} (hkg : s.vm.classes[g]? = some kg) (hkindg : kg.kind = .array q (.array .int)) (hkc : s.vm.classes[q]? = some kc) (hkindc : kc.kind = .array cc .int) (hn : ¬ n < 0) (hm : ¬ k < 0)
    (hl1 : ¬ n.toNatClampNeg > e.platform.arrayLengthLimit) (hh1 : ¬ n.toNatClampNeg * componentBytes (.array .int) > e.platform.maxHeapBytes) (hl2 : ¬ k.toNatClampNeg > e.platform.arrayLengthLimit) (hh2 : ¬ k.toNatClampNeg * componentBytes .int > e.platform.maxHeapBytes)
    (hc : s.heap.size + 1 + n.toNatClampNeg ≤ e.platform.maxCells) (hs : s.slotsUsed + n.toNatClampNeg + n.toNatClampNeg * k.toNatClampNeg ≤ e.platform.maxSlots)
    {Q : Addr → Pre} (hq : ∀ d' acts', Q s.heap.size d' acts' (mm_S s g q n.toNatClampNeg k.toNatClampNeg n.toNatClampNeg)) : wp (multianewarray.make g [n, k]) Q E e d acts s := by
  have hfind : ([k].find? (· < 0)) = none := by simp [hm]
  generalize hN : n.toNatClampNeg = N at hl1 hh1 hc hs hq
  generalize hK : k.toNatClampNeg = K at hl2 hh2 hs hq
  rw [multianewarray.make]
  simp only [wp_bind', W.ite, hn, if_false, wp_pure', W.theClass, hkg, hkindg, Option.some.injEq, exists_eq_left', hN]
  refine mm_newArray hkg hkindg hl1 hh1 rfl rfl (by omega) (by have := Nat.zero_le (N * K); omega) ?_
  rw [← mm_O_0 g N s.heap.size]
  simp only [hfind]
  rw [ite_self, wp_bind', Std.Legacy.Range.forIn_eq_forIn_range']
  have hsz : ([:N] : Std.Legacy.Range).size = N := by simp [Std.Legacy.Range.size]
  rw [hsz]
  show wp (forIn (List.range' 0 N 1) PUnit.unit _) _ E e d acts _
  refine wp_forIn_inv (fun rest s' => ∃ i, i ≤ N ∧ rest = List.range' i (N - i) ∧ s' = mm_S s g q N K i) _ _ ⟨0, Nat.zero_le _, rfl, rfl⟩ ?_ ?_
  · rintro x rest s' d' acts' Q' ⟨i, hi, hl, rfl⟩ hnext
    have hlt : i < N := by
      by_cases h : i < N
      · exact h
      · rw [show N - i = 0 by omega] at hl; simp at hl
    rw [show N - i = (N - (i + 1)) + 1 by omega, List.range'_succ] at hl
    obtain ⟨hxi, hrest⟩ := List.cons.inj hl
    subst hxi
    obtain ⟨f1, f2, f3, f4⟩ := mm_facts s g q N K x
    have hmul : x * K + K ≤ N * K := by
      have := Nat.mul_le_mul_right K (show x + 1 ≤ N from hlt)
      rw [Nat.succ_mul] at this
      exact this
    simp only [wp_bind']
    refine mm_row (k := k) (by rw [f3]; exact hkc) hkindc hm (by rw [hK]; exact hl2) (by rw [hK]; exact hh2) (by rw [f1]; omega) (by rw [f4, hK]; omega) ?_
    rw [hK]
    have hlt0 : s.heap.size < (mm_S s g q N K x).heap.size := by rw [f1]; omega
    simp only [wp_bind', W.writeLoc, wp_pure']
    refine ⟨mm_O g N s.heap.size x, by rw [State.heap_pushCell_of_lt (h := hlt0)]; exact f2, (fun h => by cases h), by rw [mm_sz]; exact hlt, ?_, hnext _ _ _ ⟨x + 1, hlt, hrest, ?_⟩⟩
    · show State.fitsSlot _ g .none x _ = true
      simp [State.fitsSlot, State.slotType?, f3, hkg, hkindg, fits]
    · rw [f1, mm_O_s]; rfl
  · rintro s' d' acts' ⟨i, hi, hl, rfl⟩
    have hiN : i = N := by
      by_cases h : i < N
      · rw [show N - i = (N - (i + 1)) + 1 by omega, List.range'_succ] at hl; cases hl
      · omega
    subst hiN
    simp only [wp_pure']
    exact hq _ _
end MMW
section MMS
variable {p : Program} {l : Launch} {e : Env} {R : Room} {s : State} {m : MethodId} {args : Array Value} {below : List Frame} {meth : Method} {c : Code} {T : State} {locs : List Loc} {cells slots : Nat}
theorem mm_stand (X : Stand p l e R s m args below meth c T locs cells slots) (g q : ClassId) (N K : Nat) : ∀ i, Stand p l e R s m args below meth c (mm_S T g q N K i) (locs ++ (List.range i).map fun j => ⟨T.heap.size, j⟩) (cells + 1 + i) (slots + N + i * K)
  | 0 => by
    have h := X.pushed (mm_O g N T.heap.size 0)
    rw [mm_sz] at h
    simpa [mm_S] using h
  | i + 1 => by
    have Xi := mm_stand X g q N K i
    obtain ⟨f1, f2, f3, f4⟩ := mm_facts T g q N K i
    have hlt0 : T.heap.size < (mm_S T g q N K i).heap.size := by rw [f1]; omega
    have hcell : ((mm_S T g q N K i).pushCell (mm_I q K)).heap[T.heap.size]? = some (mm_O g N T.heap.size i) := by rw [State.heap_pushCell_of_lt (h := hlt0)]; exact f2
    have h := (Xi.pushed (mm_I q K)).stored hcell i (.ref (T.heap.size + 1 + i))
    rw [mm_szI, mm_O_s] at h
    have e2 : (locs ++ (List.range (i + 1)).map fun j => (⟨T.heap.size, j⟩ : Loc)) = (locs ++ (List.range i).map fun j => (⟨T.heap.size, j⟩ : Loc)) ++ [⟨T.heap.size, i⟩] := by simp [List.range_succ, List.append_assoc]
    have e3 : slots + N + (i + 1) * K = slots + N + i * K + K := by rw [Nat.succ_mul]; omega
    rw [e2, e3]
    exact h
theorem mm_over {t : FieldType} (h : (Cond.arrayOver (.array t)).before args s = true) : ∃ comp c k, s.vm.findClass (FieldType.array t).toString = some comp ∧ s.vm.classes[c]? = some k ∧ k.kind = .array comp (.array t) ∧ s.vm.findClass ("[" ++ (FieldType.array t).toString) = some c := by
  obtain ⟨comp, c, k, h1, h2, h3, h4, h5⟩ := arrayOverA_spec h
  exact ⟨comp, c, k, h1, h3, h4, h5⟩
theorem mm_step (X : Stand p l e R s m args below meth c T locs cells slots) (hexec : p.tables.exec = Jvm.exec) {own : String} {index : Nat} (hown : s.vm.findClass own = some m.cls) (hclink : (Cond.classLink own index "[[I").before args s = true) (hover : (Cond.arrayOver (.array .int)).before args s = true) (harr : (Cond.arrayClass .int).before args s = true)
    {g : JFrame} (hg : g.method = m) (hdg : decode c.code g.pc = .ok (.multianewarray index 2, 4)) {n k : Int32} {rest : List Value} (hstack : g.stack = .int k :: .int n :: rest) (hn : ¬ n < 0) (hk : ¬ k < 0) (hb1 : n.toNatClampNeg * 4 ≤ 536870912) (hb2 : k.toNatClampNeg * 4 ≤ 536870912)
    (hcells : cells + (1 + n.toNatClampNeg) ≤ R.cells) (hslots : slots + (n.toNatClampNeg + n.toNatClampNeg * k.toNatClampNeg) ≤ R.slots) :
    ∃ (vm₁ : Vm) (cG cI : ClassId), s.WarmedH vm₁ ∧ s.vm.findClass "[[I" = some cG ∧ s.vm.findClass "[I" = some cI ∧ Stand p l e R s m args below meth c (mm_S (T.setVm vm₁) cG cI n.toNatClampNeg k.toNatClampNeg n.toNatClampNeg) (locs ++ (List.range n.toNatClampNeg).map fun j => ⟨T.heap.size, j⟩) (cells + 1 + n.toNatClampNeg) (slots + n.toNatClampNeg + n.toNatClampNeg * k.toNatClampNeg) ∧
      ∀ target, Steps p.tables e below ((mm_S (T.setVm vm₁) cG cI n.toNatClampNeg k.toNatClampNeg n.toNatClampNeg).setTop { g with pc := g.pc + 4, stack := .ref T.heap.size :: rest }) target → Steps p.tables e below (T.setTop g) target := by
  subst hg
  have hpl : e.platform.magicAccessors = ({} : Platform).magicAccessors := by rw [X.admits.platform]
  obtain ⟨comp, cA, kA, hcomp, hkA, hkindA, hnameA⟩ := mm_over hover
  obtain ⟨comp', kC, cc, hcomp', hkC, hkindC⟩ := Cond.arrayClass_spec harr
  have ecomp : comp' = comp := Option.some.inj (hcomp'.symm.trans hcomp)
  subst ecomp
  obtain ⟨c0, hfc0, hcl⟩ := Cond.classLink_spec hown hclink e.platform hpl
  have ec : cA = c0 := Option.some.inj (hnameA.symm.trans hfc0)
  subst ec
  obtain ⟨hg₁, hwarm₁, hready₁⟩ := State.classEntry (e := e) X.warmed hcl
  generalize T.vm.noted g.method.cls index (.cls cA) = vm₁ at hg₁ hwarm₁ hready₁
  have hal : s.vm.Alike vm₁ := hwarm₁.alike
  obtain ⟨kA₁, hkA₁, heA⟩ := hal.2.2 _ _ hkA
  obtain ⟨kC₁, hkC₁, heC⟩ := hal.2.2 _ _ hkC
  have hkindA₁ : kA₁.kind = .array comp' (.array .int) := by rw [heA]; exact hkindA
  have hkindC₁ : kC₁.kind = .array cc .int := by rw [heC]; exact hkindC
  have X₁ := X.noted hwarm₁
  obtain ⟨hr1, hr2⟩ := X.roomAbove hcells hslots
  have XF := mm_stand X₁ cA comp' n.toNatClampNeg k.toNatClampNeg n.toNatClampNeg
  refine ⟨vm₁, cA, comp', hwarm₁, hnameA, hcomp, XF, fun target hrest => ?_⟩
  have hl1 : ¬ n.toNatClampNeg > e.platform.arrayLengthLimit := by rw [Launch.admits_arrayLengthLimit X.admits]; omega
  have hh1 : ¬ n.toNatClampNeg * componentBytes (.array .int) > e.platform.maxHeapBytes := by rw [Launch.admits_maxHeapBytes X.admits]; show ¬ n.toNatClampNeg * 4 > 536870912; omega
  have hl2 : ¬ k.toNatClampNeg > e.platform.arrayLengthLimit := by rw [Launch.admits_arrayLengthLimit X.admits]; omega
  have hh2 : ¬ k.toNatClampNeg * componentBytes .int > e.platform.maxHeapBytes := by rw [Launch.admits_maxHeapBytes X.admits]; show ¬ k.toNatClampNeg * 4 > 536870912; omega
  jvm_step X.here [hexec, hdg]
  simp only [multianewarray.sem, wp_bind', W.resolveClassAt_links (State.method?_setTop g X.here.top) hg₁]
  rw [W.popN, if_neg (by decide)]
  refine ⟨g, State.topJava?_setTop' (s := T.setVm vm₁) g X.here.top, [.int n, .int k], rest, rfl, hstack, ?_⟩
  simp only [List.mapM_cons, List.mapM_nil, wp_bind', wp_pure']
  refine mm_make (kg := kA₁) (kc := kC₁) (q := comp') (cc := cc) hkA₁ hkindA₁ hkC₁ hkindC₁ hn hk hl1 hh1 hl2 hh2 (by show T.heap.size + 1 + _ ≤ _; omega) (by show T.slotsUsed + _ + _ ≤ _; omega) (fun d' acts' => ?_)
  have eS : ((T.setTop g).setVm vm₁).setTop { g with stack := rest } = (T.setVm vm₁).setTop { g with stack := rest } := by
    show ((T.setVm vm₁).setTop g).setTop _ = _
    rw [State.setTop_setTop]
  rw [eS, mm_setTop]
  simp only [wp_bind', W.mark, W.pushRef, State.topJava?_setTop' _ XF.here.top, Option.some.injEq, exists_eq_left', State.setTop_setTop, State.heap_setTop]
  intro acts
  simp [jvm, XF.here.top]
  exact hrest
/-- new int[n][k] as a row of the walk -/
theorem mm_W {H : Heap} {Q : State → Prop} {cc : ByteArray} {pc : Nat} {ls : Array Slot} {rest : List Value} (hexec : p.tables.exec = Jvm.exec) (hb : c.code = cc) {own : String} {index : Nat} (hown : s.vm.findClass own = some m.cls) (hclink : (Cond.classLink own index "[[I").before args s = true) (hover : (Cond.arrayOver (.array .int)).before args s = true) (harr : (Cond.arrayClass .int).before args s = true)
    {n k : Int32} (hn : ¬ n < 0) (hk : ¬ k < 0) (hb1 : n.toNatClampNeg * 4 ≤ 536870912) (hb2 : k.toNatClampNeg * 4 ≤ 536870912) (hcells : cells + (1 + n.toNatClampNeg) ≤ R.cells) (hslots : slots + (n.toNatClampNeg + n.toNatClampNeg * k.toNatClampNeg) ≤ R.slots) (hdg : decode cc pc = .ok (.multianewarray index 2, 4))
    (kk : ∀ (cG cI : ClassId) (H1 : Heap), s.vm.findClass "[[I" = some cG → s.vm.findClass "[I" = some cI → H1.size = H.size + 1 + n.toNatClampNeg → (∀ q, q < H.size → H1[q]? = H[q]?) → H1[H.size]? = some (mm_O cG n.toNatClampNeg H.size n.toNatClampNeg) → (∀ j, j < n.toNatClampNeg → H1[H.size + 1 + j]? = some (mm_I cI k.toNatClampNeg)) →
      W p l e R s m args below meth c H1 (locs ++ (List.range n.toNatClampNeg).map fun j => ⟨H.size, j⟩) (cells + 1 + n.toNatClampNeg) (slots + n.toNatClampNeg + n.toNatClampNeg * k.toNatClampNeg) Q (F0 m (pc + 4) ls (.ref H.size :: rest))) : W p l e R s m args below meth c H locs cells slots Q (F0 m pc ls (.int k :: .int n :: rest)) := by
  intro T hT X
  subst hT
  subst hb
  obtain ⟨vm₁, cG, cI, -, f1, f2, X', st⟩ := mm_step X hexec hown hclink hover harr (g := F0 m pc ls (.int k :: .int n :: rest)) rfl hdg rfl hn hk hb1 hb2 hcells hslots
  obtain ⟨g1, g2, -, -⟩ := mm_facts (T.setVm vm₁) cG cI n.toNatClampNeg k.toNatClampNeg n.toNatClampNeg
  obtain ⟨t, a1, b1⟩ := kk cG cI _ f1 f2 g1 (fun q hq => mm_old (T.setVm vm₁) cG cI n.toNatClampNeg k.toNatClampNeg hq _) g2 (fun j hj => mm_inner (T.setVm vm₁) cG cI n.toNatClampNeg k.toNatClampNeg _ j hj) _ rfl X'
  exact ⟨t, st t a1, b1⟩
end MMS
