set_option maxRecDepth 8000
/-! a view in the making: the first i heights of the order are seen -/
abbrev Vw.el0 (V : Vw) (h : Nat) (k : Int) : Prop := V.hKn h ≤ k ∧ 0 ≤ V.hR h ∧ ¬ V.told h k
/-- the bounds that a view needs -/
def VB (V : Vw) : Prop := (∀ h, h < V.nH → 0 ≤ V.hP h ∧ V.hP h < 6) ∧ (∀ h, h < V.nH → 0 ≤ V.hT h ∧ V.hT h ≤ 9999)
theorem VB.of {V : Vw} (h : (∀ h, h < V.nH → 0 ≤ V.hP h ∧ V.hP h < 6) ∧ (∀ h, h < V.nH → 0 ≤ V.hT h ∧ V.hT h ≤ 9999)) : VB V := h
theorem VB.p {V : Vw} (h : VB V) : ∀ h, h < V.nH → 0 ≤ V.hP h ∧ V.hP h < 6 := h.1
theorem VB.u {V : Vw} (h : VB V) : ∀ h, h < V.nH → 0 ≤ V.hT h ∧ V.hT h ≤ 9999 := h.2
def SeeV (key : Nat → Int) (lev : Nat → Int) (knd : Nat → Int) (n : Nat) (V : Vw) (k : Int) (o : Nat → Nat) (i : Nat) : Prop := (n ≤ i) ∧ (∀ x y, x < y → y < n → key x < key y) ∧ (∀ x, x < n → ∃ p u : Int, (0 ≤ p ∧ p < 6) ∧ (0 ≤ u ∧ u ≤ 9999) ∧ key x = p * 16384 + u ∧ 0 ≤ V.wO o p u k i ∧ lev x = V.hR (V.wO o p u k i).toNat + V.zeroOf p u k ∧ knd x = V.hK (V.wO o p u k i).toNat) ∧ (∀ p u : Int, 0 ≤ p → p < 6 → 0 ≤ u → u ≤ 9999 → 0 ≤ V.wO o p u k i → ∃ x, x < n ∧ key x = p * 16384 + u)
theorem SeeV.of {key : Nat → Int} {lev : Nat → Int} {knd : Nat → Int} {n : Nat} {V : Vw} {k : Int} {o : Nat → Nat} {i : Nat} (h : (n ≤ i) ∧ (∀ x y, x < y → y < n → key x < key y) ∧ (∀ x, x < n → ∃ p u : Int, (0 ≤ p ∧ p < 6) ∧ (0 ≤ u ∧ u ≤ 9999) ∧ key x = p * 16384 + u ∧ 0 ≤ V.wO o p u k i ∧ lev x = V.hR (V.wO o p u k i).toNat + V.zeroOf p u k ∧ knd x = V.hK (V.wO o p u k i).toNat) ∧ (∀ p u : Int, 0 ≤ p → p < 6 → 0 ≤ u → u ≤ 9999 → 0 ≤ V.wO o p u k i → ∃ x, x < n ∧ key x = p * 16384 + u)) : SeeV key lev knd n V k o i := h
theorem SeeV.le {key : Nat → Int} {lev : Nat → Int} {knd : Nat → Int} {n : Nat} {V : Vw} {k : Int} {o : Nat → Nat} {i : Nat} (h : SeeV key lev knd n V k o i) : n ≤ i := h.1
theorem SeeV.sort {key : Nat → Int} {lev : Nat → Int} {knd : Nat → Int} {n : Nat} {V : Vw} {k : Int} {o : Nat → Nat} {i : Nat} (h : SeeV key lev knd n V k o i) : ∀ x y, x < y → y < n → key x < key y := h.2.1
theorem SeeV.snd {key : Nat → Int} {lev : Nat → Int} {knd : Nat → Int} {n : Nat} {V : Vw} {k : Int} {o : Nat → Nat} {i : Nat} (h : SeeV key lev knd n V k o i) : ∀ x, x < n → ∃ p u : Int, (0 ≤ p ∧ p < 6) ∧ (0 ≤ u ∧ u ≤ 9999) ∧ key x = p * 16384 + u ∧ 0 ≤ V.wO o p u k i ∧ lev x = V.hR (V.wO o p u k i).toNat + V.zeroOf p u k ∧ knd x = V.hK (V.wO o p u k i).toNat := h.2.2.1
theorem SeeV.cmp {key : Nat → Int} {lev : Nat → Int} {knd : Nat → Int} {n : Nat} {V : Vw} {k : Int} {o : Nat → Nat} {i : Nat} (h : SeeV key lev knd n V k o i) : ∀ p u : Int, 0 ≤ p → p < 6 → 0 ≤ u → u ≤ 9999 → 0 ≤ V.wO o p u k i → ∃ x, x < n ∧ key x = p * 16384 + u := h.2.2.2
section SEEV
variable {key lev knd : Nat → Int} {n i : Nat} {V : Vw} {k v : Int} {o : Nat → Nat}
theorem Vw.wO_s (V : Vw) (o : Nat → Nat) (p u k : Int) (i : Nat) : V.wO o p u k (i + 1) = V.wStep p u k (V.wO o p u k i) (o i) := rfl
theorem Vw.wStep_ne {V : Vw} {p u k acc : Int} {h : Nat} (hn : ¬ (V.hP h = p ∧ V.hT h = u)) : V.wStep p u k acc h = acc := by
  unfold Vw.wStep
  rw [if_neg (fun hh => hn ⟨hh.1, hh.2.1⟩)]
theorem Vw.wStep_no {V : Vw} {p u k acc : Int} {h : Nat} (hn : ¬ (V.el0 h k ∧ V.byStd h k = 0)) : V.wStep p u k acc h = acc := by
  unfold Vw.wStep
  rw [if_neg (fun hh => hn ⟨⟨hh.2.2.1, hh.2.2.2.1, hh.2.2.2.2.2.1⟩, hh.2.2.2.2.2.2⟩)]
theorem Vw.wStep_yes {V : Vw} {k acc : Int} {h : Nat} (hy : V.el0 h k ∧ V.byStd h k = 0) : V.wStep (V.hP h) (V.hT h) k acc h = if 0 ≤ acc ∧ V.hK h < V.hK acc.toNat then acc else (h : Int) := by
  unfold Vw.wStep
  by_cases hc : 0 ≤ acc ∧ V.hK h < V.hK acc.toNat
  · rw [if_neg (fun hh => hh.2.2.2.2.1 hc), if_pos hc]
  · rw [if_pos ⟨rfl, rfl, hy.1.1, hy.1.2.1, hc, hy.1.2.2, hy.2⟩, if_neg hc]
theorem SeeV.skip (h : SeeV key lev knd n V k o i) (hn : ¬ (V.el0 (o i) k ∧ V.byStd (o i) k = 0)) : SeeV key lev knd n V k o (i + 1) := by
  have e : ∀ p u, V.wO o p u k (i + 1) = V.wO o p u k i := fun p u => by rw [V.wO_s]; exact Vw.wStep_no hn
  refine SeeV.of ⟨by have := h.le; omega, h.sort, fun x hx => ?_, fun p u h1 h2 h3 h4 h5 => ?_⟩
  · obtain ⟨p, u, g⟩ := h.snd x hx
    refine ⟨p, u, ?_⟩
    rw [e]
    exact g
  · rw [e] at h5
    exact h.cmp p u h1 h2 h3 h4 h5
theorem SeeV.key_le (h : SeeV key lev knd n V k o i) (hB : VB V) (hO : Ord V o) (hi : i < V.nH) {x : Nat} (hx : x < n) : key x ≤ V.ky (o i) := by
  obtain ⟨p, u, h1, h2, h3, h4, _⟩ := h.snd x hx
  obtain ⟨m, hm, e1, e2, e3⟩ := Vw.wO_mem i h4
  have g := hO.s m i hm hi
  have : key x = V.ky (o m) := by unfold Vw.ky; rw [e2, e3]; exact h3
  omega
/-- what is kept takes the place of one of the same TIME -/
theorem SeeV.over (h : SeeV key lev knd n V k o i) (hB : VB V) (hO : Ord V o) (hi : i < V.nH) (hy : V.el0 (o i) k ∧ V.byStd (o i) k = 0) (h0 : 0 < n) (hs : key (n - 1) = V.ky (o i)) : (V.hK (o i) < knd (n - 1) → SeeV key lev knd n V k o (i + 1)) ∧ (¬ V.hK (o i) < knd (n - 1) → SeeV (up key (n - 1) (V.ky (o i))) (up lev (n - 1) (V.hR (o i) + V.zeroOf (V.hP (o i)) (V.hT (o i)) k)) (up knd (n - 1) (V.hK (o i))) n V k o (i + 1)) := by
  have bp := hB.p (o i) (hO.r i hi)
  have bu := hB.u (o i) (hO.r i hi)
  obtain ⟨p, u, h1, h2, h3, h4, h5, h6⟩ := h.snd (n - 1) (by omega)
  have ek : V.hP (o i) * 16384 + V.hT (o i) = p * 16384 + u := by rw [← h3, hs]; rfl
  have ep : p = V.hP (o i) := by omega
  have eu : u = V.hT (o i) := by omega
  subst ep
  subst eu
  have eo : ∀ p u, ¬ (V.hP (o i) = p ∧ V.hT (o i) = u) → V.wO o p u k (i + 1) = V.wO o p u k i := fun p u hn => by rw [V.wO_s]; exact Vw.wStep_ne hn
  have es : V.wO o (V.hP (o i)) (V.hT (o i)) k (i + 1) = _ := (V.wO_s o _ _ k i).trans (Vw.wStep_yes hy)
  have kx : ∀ x, x < n → x ≠ n - 1 → ∀ p u, key x = p * 16384 + u → (0 ≤ u ∧ u ≤ 9999) → ¬ (V.hP (o i) = p ∧ V.hT (o i) = u) := by
    intro x hx hne p u hk hu hh
    have := h.sort x (n - 1) (by omega) (by omega)
    rw [hs] at this
    unfold Vw.ky at this
    rw [hh.1, hh.2] at this
    omega
  refine ⟨fun hc => ?_, fun hc => ?_⟩
  · have e : ∀ p u, V.wO o p u k (i + 1) = V.wO o p u k i := fun p u => by
      by_cases hpu : V.hP (o i) = p ∧ V.hT (o i) = u
      · obtain ⟨rfl, rfl⟩ := hpu
        rw [es, if_pos ⟨h4, by rw [← h6]; exact hc⟩]
      · exact eo p u hpu
    refine SeeV.of ⟨by have := h.le; omega, h.sort, fun x hx => ?_, fun p u g1 g2 g3 g4 g5 => ?_⟩
    · obtain ⟨p, u, g⟩ := h.snd x hx
      refine ⟨p, u, ?_⟩
      rw [e]
      exact g
    · rw [e] at g5
      exact h.cmp p u g1 g2 g3 g4 g5
  · rw [if_neg (fun hh => hc (by rw [h6]; exact hh.2))] at es
    have hkey : up key (n - 1) (V.ky (o i)) = key := by
      funext x
      unfold up
      split
      · rename_i e; rw [e, hs]
      · rfl
    rw [hkey]
    refine SeeV.of ⟨by have := h.le; omega, h.sort, fun x hx => ?_, fun p u g1 g2 g3 g4 g5 => ?_⟩
    · by_cases hx1 : x = n - 1
      · subst hx1
        refine ⟨V.hP (o i), V.hT (o i), bp, bu, h3, ?_, ?_, ?_⟩
        · rw [es]; omega
        · rw [es, up_same, Int.toNat_natCast]
        · rw [es, up_same, Int.toNat_natCast]
      · obtain ⟨p, u, g1, g2, g3, g4, g5, g6⟩ := h.snd x hx
        refine ⟨p, u, g1, g2, g3, ?_⟩
        rw [eo p u (kx x hx hx1 p u g3 g2), up_ne hx1, up_ne hx1]
        exact ⟨g4, g5, g6⟩
    · by_cases hpu : V.hP (o i) = p ∧ V.hT (o i) = u
      · exact ⟨n - 1, by omega, by rw [hs]; unfold Vw.ky; rw [hpu.1, hpu.2]⟩
      · rw [eo p u hpu] at g5
        exact h.cmp p u g1 g2 g3 g4 g5
/-- what is kept comes behind all -/
theorem SeeV.app (h : SeeV key lev knd n V k o i) (hB : VB V) (hO : Ord V o) (hi : i < V.nH) (hy : V.el0 (o i) k ∧ V.byStd (o i) k = 0) (hs : ¬ (0 < n ∧ key (n - 1) = V.ky (o i))) : SeeV (up key n (V.ky (o i))) (up lev n (V.hR (o i) + V.zeroOf (V.hP (o i)) (V.hT (o i)) k)) (up knd n (V.hK (o i))) (n + 1) V k o (i + 1) := by
  have bp := hB.p (o i) (hO.r i hi)
  have bu := hB.u (o i) (hO.r i hi)
  have hlt : ∀ x, x < n → key x < V.ky (o i) := by
    intro x hx
    have h1 := h.key_le hB hO hi hx
    by_cases hx1 : x = n - 1
    · by_cases e : key x = V.ky (o i)
      · exact absurd ⟨by omega, by rw [← hx1]; exact e⟩ hs
      · omega
    · have h2 := h.sort x (n - 1) (by omega) (by omega)
      have h3 := h.key_le hB hO hi (x := n - 1) (by omega)
      omega
  have eo : ∀ p u, ¬ (V.hP (o i) = p ∧ V.hT (o i) = u) → V.wO o p u k (i + 1) = V.wO o p u k i := fun p u hn => by rw [V.wO_s]; exact Vw.wStep_ne hn
  have hneg : ¬ 0 ≤ V.wO o (V.hP (o i)) (V.hT (o i)) k i := fun hh => by
    obtain ⟨x, hx, e⟩ := h.cmp _ _ bp.1 bp.2 bu.1 bu.2 hh
    have := hlt x hx
    unfold Vw.ky at this
    omega
  have es : V.wO o (V.hP (o i)) (V.hT (o i)) k (i + 1) = (o i : Int) := by
    rw [V.wO_s, Vw.wStep_yes hy, if_neg (fun hh => hneg hh.1)]
  refine SeeV.of ⟨by have := h.le; omega, fun x y hxy hyn => ?_, fun x hx => ?_, fun p u g1 g2 g3 g4 g5 => ?_⟩
  · by_cases e : y = n
    · subst e
      rw [up_same, up_ne (by omega)]
      exact hlt x hxy
    · rw [up_ne e, up_ne (by omega)]
      exact h.sort x y hxy (by omega)
  · by_cases e : x = n
    · subst e
      refine ⟨V.hP (o i), V.hT (o i), bp, bu, by rw [up_same]; rfl, ?_, ?_, ?_⟩
      · rw [es]; omega
      · rw [es, up_same, Int.toNat_natCast]
      · rw [es, up_same, Int.toNat_natCast]
    · obtain ⟨p, u, g1, g2, g3, g4, g5, g6⟩ := h.snd x (by omega)
      have hpu : ¬ (V.hP (o i) = p ∧ V.hT (o i) = u) := fun hh => by
        have := hlt x (by omega)
        unfold Vw.ky at this
        rw [hh.1, hh.2] at this
        omega
      refine ⟨p, u, g1, g2, ?_⟩
      rw [eo p u hpu, up_ne e, up_ne e, up_ne e]
      exact ⟨g3, g4, g5, g6⟩
  · by_cases hpu : V.hP (o i) = p ∧ V.hT (o i) = u
    · exact ⟨n, by omega, by rw [up_same]; unfold Vw.ky; rw [hpu.1, hpu.2]⟩
    · rw [eo p u hpu] at g5
      obtain ⟨x, hx, e⟩ := h.cmp p u g1 g2 g3 g4 g5
      exact ⟨x, by omega, by rw [up_ne (by omega)]; exact e⟩
/-- the one ahead, as the order is gone through -/
def AhV (V : Vw) (k : Int) (o : Nat → Nat) (i : Nat) (v : Int) : Prop := (-1 ≤ v ∧ v < V.nH) ∧ (0 ≤ v → ∃ j, j < i ∧ (o j : Int) = v ∧ V.el0 (o j) k ∧ ∀ m, j < m → m < i → ¬ V.el0 (o m) k) ∧ (v < 0 → ∀ j, j < i → V.el0 (o j) k → ∃ m, j < m ∧ m < i ∧ V.hP (o j) < V.hP (o m))
theorem AhV.of {V : Vw} {k : Int} {o : Nat → Nat} {i : Nat} {v : Int} (h : (-1 ≤ v ∧ v < V.nH) ∧ (0 ≤ v → ∃ j, j < i ∧ (o j : Int) = v ∧ V.el0 (o j) k ∧ ∀ m, j < m → m < i → ¬ V.el0 (o m) k) ∧ (v < 0 → ∀ j, j < i → V.el0 (o j) k → ∃ m, j < m ∧ m < i ∧ V.hP (o j) < V.hP (o m))) : AhV V k o i v := h
theorem AhV.vb {V : Vw} {k : Int} {o : Nat → Nat} {i : Nat} {v : Int} (h : AhV V k o i v) : -1 ≤ v ∧ v < V.nH := h.1
theorem AhV.vp {V : Vw} {k : Int} {o : Nat → Nat} {i : Nat} {v : Int} (h : AhV V k o i v) : 0 ≤ v → ∃ j, j < i ∧ (o j : Int) = v ∧ V.el0 (o j) k ∧ ∀ m, j < m → m < i → ¬ V.el0 (o m) k := h.2.1
theorem AhV.vn {V : Vw} {k : Int} {o : Nat → Nat} {i : Nat} {v : Int} (h : AhV V k o i v) : v < 0 → ∀ j, j < i → V.el0 (o j) k → ∃ m, j < m ∧ m < i ∧ V.hP (o j) < V.hP (o m) := h.2.2
theorem AhV.first (h : AhV V k o i v) (hB : VB V) (hO : Ord V o) (hi : i < V.nH) : (if 0 ≤ v ∧ ¬ V.hP v.toNat = V.hP (o i) then -1 else v) = V.ahead (o i) k := by
  have hT := hB.u
  have early : ∀ g, g < V.nH → V.elig (o i) k g → ∃ j, j < i ∧ o j = g := by
    intro g hg he
    obtain ⟨j, hj, rfl⟩ := hO.a g hg
    refine ⟨j, ?_, rfl⟩
    obtain ⟨e1, _, _, _, e5⟩ := he
    by_cases hji : j < i
    · exact hji
    · by_cases e : j = i
      · subst e; omega
      · have g2 := hO.s i j (by omega) hj
        unfold Vw.ky at g2
        omega
  have hbi := hT (o i) (hO.r i hi)
  by_cases h0 : 0 ≤ v
  · obtain ⟨j, hj, e1, e2, e3⟩ := h.vp h0
    have ev : v.toNat = o j := by omega
    rw [ev]
    have hjn : j < V.nH := by omega
    have hbj := hT (o j) (hO.r j hjn)
    have gji := hO.s j i hj hi
    unfold Vw.ky at gji
    have lateq : ∀ j', j' < i → V.el0 (o j') k → V.ky (o j') < V.ky (o j) ∨ (V.ky (o j') = V.ky (o j) ∧ o j' ≤ o j) := by
      intro j' hj' he
      by_cases hlt : j < j'
      · exact absurd he (e3 j' hlt hj')
      · by_cases e : j' = j
        · subst e; exact Or.inr ⟨rfl, Nat.le_refl _⟩
        · rcases hO.s j' j (by omega) hjn with g | g
          · exact Or.inl g
          · exact Or.inr ⟨g.1, by omega⟩
    by_cases hp : V.hP (o j) = V.hP (o i)
    · rw [if_neg (fun hh => hh.2 hp)]
      rw [← e1]
      refine (Vw.ahead_eq (hO.r j hjn) ⟨hp, e2.1, e2.2.1, e2.2.2, by omega⟩ (fun g hg he => ?_)).symm
      obtain ⟨j', hj', rfl⟩ := early g hg he
      have g1 := lateq j' hj' ⟨he.2.1, he.2.2.1, he.2.2.2.1⟩
      have g2 := he.1
      unfold Vw.ky at g1
      omega
    · rw [if_pos ⟨h0, hp⟩]
      refine (Vw.ahead_none (fun g hg he => ?_)).symm
      obtain ⟨j', hj', rfl⟩ := early g hg he
      have g1 := lateq j' hj' ⟨he.2.1, he.2.2.1, he.2.2.2.1⟩
      have g2 := he.1
      have hbj' := hT (o j') (hO.r j' (by omega))
      unfold Vw.ky at g1
      omega
  · rw [if_neg (fun hh => h0 hh.1)]
    have hvb := h.vb
    have : v = -1 := by omega
    rw [this]
    refine (Vw.ahead_none (fun g hg he => ?_)).symm
    obtain ⟨j', hj', rfl⟩ := early g hg he
    obtain ⟨m, hm1, hm2, hm3⟩ := h.vn (by omega) j' hj' ⟨he.2.1, he.2.2.1, he.2.2.2.1⟩
    have g2 := he.1
    have g3 := hO.s m i hm2 hi
    have hbm := hT (o m) (hO.r m (by omega))
    unfold Vw.ky at g3
    omega
theorem AhV.yes (h : AhV V k o i v) (hO : Ord V o) (hi : i < V.nH) (he : V.el0 (o i) k) : AhV V k o (i + 1) (o i) := by
  have := hO.r i hi
  refine AhV.of ⟨⟨by omega, by omega⟩, fun _ => ⟨i, by omega, rfl, he, fun m h1 h2 => by omega⟩, fun hh => by omega⟩
theorem AhV.no (h : AhV V k o i v) (hB : VB V) (hO : Ord V o) (hi : i < V.nH) (he : ¬ V.el0 (o i) k) : AhV V k o (i + 1) (if 0 ≤ v ∧ ¬ V.hP v.toNat = V.hP (o i) then -1 else v) := by
  have hvb := h.vb
  have hT := hB.u
  by_cases hc : 0 ≤ v ∧ ¬ V.hP v.toNat = V.hP (o i)
  · rw [if_pos hc]
    refine AhV.of ⟨⟨by omega, by omega⟩, fun hh => by omega, fun _ j hj hel => ?_⟩
    obtain ⟨jv, hjv, e1, e2, e3⟩ := h.vp hc.1
    have ev : v.toNat = o jv := by omega
    rw [ev] at hc
    have hj2 : j < i := by
      by_cases e : j = i
      · subst e; exact absurd hel he
      · omega
    have hjle : j ≤ jv := by
      by_cases hlt : jv < j
      · exact absurd hel (e3 j hlt hj2)
      · omega
    refine ⟨i, hj2, by omega, ?_⟩
    have g1 := hO.s jv i hjv hi
    have b1 := hT (o jv) (hO.r jv (by omega))
    have b2 := hT (o i) (hO.r i hi)
    have b3 := hT (o j) (hO.r j (by omega))
    unfold Vw.ky at g1
    by_cases e : j = jv
    · subst e; omega
    · have g2 := hO.s j jv (by omega) (by omega)
      unfold Vw.ky at g2
      omega
  · rw [if_neg hc]
    refine AhV.of ⟨hvb, fun hh => ?_, fun hh j hj hel => ?_⟩
    · obtain ⟨j, hj, e1, e2, e3⟩ := h.vp hh
      refine ⟨j, by omega, e1, e2, fun m h1 h2 => ?_⟩
      by_cases e : m = i
      · subst e; exact he
      · exact e3 m h1 (by omega)
    · by_cases e : j = i
      · subst e; exact absurd hel he
      · obtain ⟨m, g1, g2, g3⟩ := h.vn hh j (by omega) hel
        exact ⟨m, g1, by omega, g3⟩
end SEEV
