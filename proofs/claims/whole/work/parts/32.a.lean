/-! which cells a run leaves as they are: all but the rows cs and the fields fs -/
def Fr (cs : List Nat) (fs : List (Nat × Nat)) (A A' : rz_A) : Prop := ∀ c k, c ∉ cs → (c, k) ∉ fs → A'.1 c k = A.1 c k ∧ A'.2 c k = A.2 c k
section FRAME
variable {cs cs' : List Nat} {fs fs' : List (Nat × Nat)} {A A' B : rz_A} {c k : Nat} {v : Int}
theorem Fr.rfl : Fr cs fs A A := fun _ _ _ _ => ⟨Eq.refl _, Eq.refl _⟩
theorem Fr.trans (h : Fr cs fs A A') (g : Fr cs fs A' B) : Fr cs fs A B := fun c k h1 h2 => ⟨(g c k h1 h2).1.trans (h c k h1 h2).1, (g c k h1 h2).2.trans (h c k h1 h2).2⟩
theorem Fr.mono (h : Fr cs fs A A') (h1 : cs.all (fun x => decide (x ∈ cs')) = true) (h2 : fs.all (fun x => decide (x ∈ fs')) = true) : Fr cs' fs' A A' := by
  intro c k g1 g2
  refine h c k (fun hc => g1 ?_) (fun hc => g2 ?_)
  · simpa using List.all_eq_true.mp h1 c hc
  · simpa using List.all_eq_true.mp h2 (c, k) hc
theorem Fr.aI (h : Fr cs fs A A') (hc : c ∈ cs ∨ (c, k) ∈ fs) : Fr cs fs A (aI A' c k v) := by
  intro a b g1 g2
  refine ⟨?_, (h a b g1 g2).2⟩
  show (if a = c then (fun b => if b = k then v else A'.1 c b) else A'.1 a) b = _
  by_cases e : a = c
  · subst e
    rw [if_pos (Eq.refl a)]
    show (if b = k then v else A'.1 a b) = _
    by_cases e2 : b = k
    · subst e2
      rcases hc with hc | hc
      · exact absurd hc g1
      · exact absurd hc g2
    · rw [if_neg e2]; exact (h a b g1 g2).1
  · rw [if_neg e]; exact (h a b g1 g2).1
theorem Fr.aL (h : Fr cs fs A A') (hc : c ∈ cs ∨ (c, k) ∈ fs) : Fr cs fs A (aL A' c k v) := by
  intro a b g1 g2
  refine ⟨(h a b g1 g2).1, ?_⟩
  show (if a = c then (fun b => if b = k then v else A'.2 c b) else A'.2 a) b = _
  by_cases e : a = c
  · subst e
    rw [if_pos (Eq.refl a)]
    show (if b = k then v else A'.2 a b) = _
    by_cases e2 : b = k
    · subst e2
      rcases hc with hc | hc
      · exact absurd hc g1
      · exact absurd hc g2
    · rw [if_neg e2]; exact (h a b g1 g2).2
  · rw [if_neg e]; exact (h a b g1 g2).2
theorem Fr.aC {a b sp dp n : Nat} (h : Fr cs fs A A') (hc : b ∈ cs) : Fr cs fs A (aC A' a b sp dp n) := by
  intro c k g1 g2
  refine ⟨?_, (h c k g1 g2).2⟩
  show (if c = b then (fun k => if dp ≤ k ∧ k < dp + n then A'.1 a (sp + (k - dp)) else A'.1 b k) else A'.1 c) k = _
  by_cases e : c = b
  · subst e; exact absurd hc g1
  · rw [if_neg e]; exact (h c k g1 g2).1
/-- a whole row is left -/
theorem Fr.row (h : Fr cs fs A A') (h1 : cs.all (fun x => decide (x ≠ c)) = true) (h2 : fs.all (fun x => decide (x.1 ≠ c)) = true) : A'.1 c = A.1 c ∧ A'.2 c = A.2 c := by
  have g1 : c ∉ cs := fun hc => by simpa using List.all_eq_true.mp h1 c hc
  have g2 : ∀ k, (c, k) ∉ fs := fun k hc => by simpa using List.all_eq_true.mp h2 (c, k) hc
  exact ⟨funext fun k => (h c k g1 (g2 k)).1, funext fun k => (h c k g1 (g2 k)).2⟩
theorem Fr.slot (h : Fr cs fs A A') (h1 : decide (c ∉ cs) = true) (h2 : decide ((c, k) ∉ fs) = true) : A'.1 c k = A.1 c k ∧ A'.2 c k = A.2 c k := h c k (of_decide_eq_true h1) (of_decide_eq_true h2)
end FRAME
