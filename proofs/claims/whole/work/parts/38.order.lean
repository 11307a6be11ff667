set_option maxRecDepth 8000
/-! the heights in their order -/
def Vw.ky (V : Vw) (h : Nat) : Int := V.hP h * 16384 + V.hT h
def Vw.wStep (V : Vw) (p u k : Int) (acc : Int) (h : Nat) : Int := if V.hP h = p ∧ V.hT h = u ∧ V.hKn h ≤ k ∧ 0 ≤ V.hR h ∧ ¬ (0 ≤ acc ∧ V.hK h < V.hK acc.toNat) ∧ ¬ V.told h k ∧ V.byStd h k = 0 then (h : Int) else acc
theorem Vw.wAcc_fold (V : Vw) (p u k : Int) : ∀ n, V.wAcc p u k n = (List.range n).foldl (V.wStep p u k) (-1)
  | 0 => rfl
  | n + 1 => by
    rw [List.range_succ, List.foldl_append, ← Vw.wAcc_fold V p u k n]
    rfl
def Vw.wO (V : Vw) (o : Nat → Nat) (p u k : Int) : Nat → Int
  | 0 => -1
  | n + 1 => V.wStep p u k (V.wO o p u k n) (o n)
theorem Vw.wO_fold (V : Vw) (o : Nat → Nat) (p u k : Int) : ∀ n, V.wO o p u k n = ((List.range n).map o).foldl (V.wStep p u k) (-1)
  | 0 => rfl
  | n + 1 => by
    rw [List.range_succ, List.map_append, List.foldl_append, ← Vw.wO_fold V o p u k n]
    rfl
theorem fold_filter {f : Int → Nat → Int} {q : Nat → Bool} (h : ∀ a x, q x = false → f a x = a) : ∀ (l : List Nat) (a : Int), l.foldl f a = (l.filter q).foldl f a
  | [], _ => rfl
  | x :: l, a => by
    cases e : q x with
    | true =>
      rw [List.filter_cons_of_pos (by rw [e])]
      exact fold_filter h l (f a x)
    | false =>
      rw [List.filter_cons_of_neg (by rw [e]; decide)]
      show l.foldl f (f a x) = _
      rw [h a x e]
      exact fold_filter h l a
theorem sorted_ext : ∀ {l1 l2 : List Nat}, l1.Pairwise (fun a b => a < b) → l2.Pairwise (fun a b => a < b) → (∀ x, x ∈ l1 ↔ x ∈ l2) → l1 = l2
  | [], [], _, _, _ => rfl
  | [], b :: l2, _, _, h => absurd ((h b).mpr List.mem_cons_self) (by simp)
  | a :: l1, [], _, _, h => absurd ((h a).mp List.mem_cons_self) (by simp)
  | a :: l1, b :: l2, h1, h2, h => by
    have p1 := List.pairwise_cons.mp h1
    have p2 := List.pairwise_cons.mp h2
    have e : a = b := by
      rcases List.mem_cons.mp ((h a).mp List.mem_cons_self) with g | g
      · exact g
      · rcases List.mem_cons.mp ((h b).mpr List.mem_cons_self) with g' | g'
        · exact g'.symm
        · have := p2.1 a g; have := p1.1 b g'; omega
    subst e
    have : l1 = l2 := sorted_ext p1.2 p2.2 (fun x => ⟨fun hx => by
      rcases List.mem_cons.mp ((h x).mp (List.mem_cons_of_mem _ hx)) with g | g
      · have := p1.1 x hx; omega
      · exact g, fun hx => by
      rcases List.mem_cons.mp ((h x).mpr (List.mem_cons_of_mem _ hx)) with g | g
      · have := p2.1 x hx; omega
      · exact g⟩)
    rw [this]
def Ord (V : Vw) (o : Nat → Nat) : Prop := (∀ i, i < V.nH → o i < V.nH) ∧ (∀ i j, i < j → j < V.nH → V.ky (o i) < V.ky (o j) ∨ (V.ky (o i) = V.ky (o j) ∧ o i < o j)) ∧ (∀ h, h < V.nH → ∃ i, i < V.nH ∧ o i = h)
theorem Ord.of {V : Vw} {o : Nat → Nat} (h : (∀ i, i < V.nH → o i < V.nH) ∧ (∀ i j, i < j → j < V.nH → V.ky (o i) < V.ky (o j) ∨ (V.ky (o i) = V.ky (o j) ∧ o i < o j)) ∧ (∀ h, h < V.nH → ∃ i, i < V.nH ∧ o i = h)) : Ord V o := h
theorem Ord.r {V : Vw} {o : Nat → Nat} (h : Ord V o) : ∀ i, i < V.nH → o i < V.nH := h.1
theorem Ord.s {V : Vw} {o : Nat → Nat} (h : Ord V o) : ∀ i j, i < j → j < V.nH → V.ky (o i) < V.ky (o j) ∨ (V.ky (o i) = V.ky (o j) ∧ o i < o j) := h.2.1
theorem Ord.a {V : Vw} {o : Nat → Nat} (h : Ord V o) : ∀ h, h < V.nH → ∃ i, i < V.nH ∧ o i = h := h.2.2
theorem Vw.wO_which {V : Vw} {o : Nat → Nat} (h : Ord V o) (p u k : Int) : V.wO o p u k V.nH = V.which p u k := by
  unfold Vw.which
  rw [V.wO_fold, V.wAcc_fold]
  have hq : ∀ (a : Int) (x : Nat), decide (V.hP x = p ∧ V.hT x = u) = false → V.wStep p u k a x = a := by
    intro a x hx
    unfold Vw.wStep
    rw [if_neg (fun hh => of_decide_eq_false hx ⟨hh.1, hh.2.1⟩)]
  rw [fold_filter hq, fold_filter hq (List.range V.nH)]
  congr 1
  refine sorted_ext ?_ ?_ ?_
  · rw [List.pairwise_filter, List.pairwise_map]
    refine List.Pairwise.imp_of_mem ?_ List.pairwise_lt_range
    intro i j hi hj hij h1 h2
    have hj' : j < V.nH := List.mem_range.mp hj
    have e1 := of_decide_eq_true h1
    have e2 := of_decide_eq_true h2
    rcases h.s i j hij hj' with g | g
    · unfold Vw.ky at g
      rw [e1.1, e1.2, e2.1, e2.2] at g
      omega
    · exact g.2
  · rw [List.pairwise_filter]
    refine List.Pairwise.imp ?_ List.pairwise_lt_range
    intro i j hij _ _
    exact hij
  · intro x
    rw [List.mem_filter, List.mem_filter, List.mem_map, List.mem_range]
    constructor
    · rintro ⟨⟨i, hi, rfl⟩, hx⟩
      exact ⟨h.r i (List.mem_range.mp hi), hx⟩
    · rintro ⟨hx, hq⟩
      obtain ⟨i, hi, rfl⟩ := h.a x hx
      exact ⟨⟨i, List.mem_range.mpr hi, rfl⟩, hq⟩
theorem Vw.wO_mem {V : Vw} {o : Nat → Nat} {p u k : Int} : ∀ n, 0 ≤ V.wO o p u k n → ∃ m, m < n ∧ V.wO o p u k n = (o m : Int) ∧ V.hP (o m) = p ∧ V.hT (o m) = u
  | 0, h => absurd h (by show ¬ (0 : Int) ≤ -1; omega)
  | n + 1, h => by
    unfold Vw.wO Vw.wStep at h ⊢
    split at h
    · rename_i hc
      rw [if_pos hc]
      exact ⟨n, by omega, rfl, hc.1, hc.2.1⟩
    · rename_i hc
      rw [if_neg hc]
      obtain ⟨m, hm, e⟩ := Vw.wO_mem n h
      exact ⟨m, by omega, e⟩
/-- the one ahead: the latest that may stand ahead -/
theorem Vw.aAcc_char (V : Vw) (h : Nat) (k : Int) : ∀ n : Nat, (V.aAcc h k n < 0 → ∀ i, i < n → ¬ V.elig h k i) ∧ (0 ≤ V.aAcc h k n → V.elig h k (V.aAcc h k n).toNat ∧ ∀ i, i < n → V.elig h k i → V.hT i < V.hT (V.aAcc h k n).toNat ∨ (V.hT i = V.hT (V.aAcc h k n).toNat ∧ i ≤ (V.aAcc h k n).toNat))
  | 0 => ⟨fun _ i hi => absurd hi (Nat.not_lt_zero i), fun h => absurd h (by show ¬ (0 : Int) ≤ -1; omega)⟩
  | n + 1 => by
    have ih := Vw.aAcc_char V h k n
    have hb := V.aAcc_b h k n
    unfold Vw.aAcc
    by_cases hc : V.elig h k n ∧ (V.aAcc h k n < 0 ∨ V.hT (V.aAcc h k n).toNat ≤ V.hT n)
    · rw [if_pos hc]
      refine ⟨fun hh => by omega, fun _ => ?_⟩
      rw [Int.toNat_natCast]
      refine ⟨hc.1, fun i hi he => ?_⟩
      by_cases e : i = n
      · subst e; exact Or.inr ⟨rfl, Nat.le_refl _⟩
      · by_cases h0 : V.aAcc h k n < 0
        · exact absurd he (ih.1 h0 i (by omega))
        · have g := (ih.2 (by omega)).2 i (by omega) he
          have g2 : V.hT (V.aAcc h k n).toNat ≤ V.hT n := by omega
          omega
    · rw [if_neg hc]
      refine ⟨fun hh i hi => ?_, fun hh => ⟨(ih.2 hh).1, fun i hi he => ?_⟩⟩
      · by_cases e : i = n
        · subst e
          exact fun he => hc ⟨he, Or.inl hh⟩
        · exact ih.1 hh i (by omega)
      · by_cases e : i = n
        · subst e
          have : ¬ V.hT (V.aAcc h k i).toNat ≤ V.hT i := fun g => hc ⟨he, Or.inr g⟩
          omega
        · exact (ih.2 hh).2 i (by omega) he
theorem Vw.ahead_eq {V : Vw} {h g : Nat} {k : Int} (hg : g < V.nH) (he : V.elig h k g) (hm : ∀ i, i < V.nH → V.elig h k i → V.hT i < V.hT g ∨ (V.hT i = V.hT g ∧ i ≤ g)) : V.ahead h k = g := by
  have hb := V.aAcc_b h k V.nH
  have c := V.aAcc_char h k V.nH
  unfold Vw.ahead
  by_cases h0 : V.aAcc h k V.nH < 0
  · exact absurd he (c.1 h0 g hg)
  · have c2 := c.2 (by omega)
    have g1 := c2.2 g hg he
    have g2 := hm (V.aAcc h k V.nH).toNat (by omega) c2.1
    omega
theorem Vw.ahead_none {V : Vw} {h : Nat} {k : Int} (hm : ∀ i, i < V.nH → ¬ V.elig h k i) : V.ahead h k = -1 := by
  have hb := V.aAcc_b h k V.nH
  have c := V.aAcc_char h k V.nH
  unfold Vw.ahead
  by_cases h0 : V.aAcc h k V.nH < 0
  · omega
  · exact absurd (c.2 (by omega)).1 (hm _ (by omega))
