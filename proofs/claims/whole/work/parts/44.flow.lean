set_option maxRecDepth 8000
/-! FLOW AT -/
def segI (h : Nat → Int) (v : Int) : Nat → Nat
  | 0 => 0
  | m + 1 => if segI h v m = m ∧ h (m + 1) ≤ v then m + 1 else segI h v m
def Seg (h : Nat → Int) (v : Int) (m i : Nat) : Prop := i ≤ m ∧ (∀ j, 1 ≤ j → j ≤ i → h j ≤ v) ∧ (i = m ∨ v < h (i + 1))
theorem segI_ok {h : Nat → Int} {v : Int} : ∀ m, Seg h v m (segI h v m)
  | 0 => ⟨Nat.le_refl _, fun j h1 h2 => by have h3 : j ≤ 0 := h2; omega, Or.inl rfl⟩
  | m + 1 => by
    obtain ⟨g1, g2, g3⟩ := segI_ok (h := h) (v := v) m
    unfold segI
    by_cases c : segI h v m = m ∧ h (m + 1) ≤ v
    · rw [if_pos c]
      refine ⟨Nat.le_refl _, fun j h1 h2 => ?_, Or.inl rfl⟩
      by_cases e : j = m + 1
      · rw [e]; exact c.2
      · exact g2 j h1 (by omega)
    · rw [if_neg c]
      refine ⟨by omega, g2, Or.inr ?_⟩
      rcases g3 with g | g
      · have : ¬ h (m + 1) ≤ v := fun hh => c ⟨g, hh⟩
        rw [g]; omega
      · exact g
theorem Seg.uniq {h : Nat → Int} {v : Int} {m i j : Nat} (h1 : Seg h v m i) (h2 : Seg h v m j) : i = j := by
  obtain ⟨a1, a2, a3⟩ := h1
  obtain ⟨b1, b2, b3⟩ := h2
  by_cases c1 : i < j
  · have := b2 (i + 1) (by omega) (by omega)
    omega
  · by_cases c2 : j < i
    · have := a2 (j + 1) (by omega) (by omega)
      omega
    · omega
def capF (x : Int) : Int := if 99999999 < x then 99999999 else x
def linF (h f : Nat → Int) (v : Int) (i : Nat) : Int := f i + ((f (i + 1) - f i) * (v - h i)).tdiv (h (i + 1) - h i)
def atF (h f : Nat → Int) (n : Nat) (low v : Int) : Int :=
  if v < h 0 then (if h 0 ≤ low then f 0 else if v ≤ low then 0 else (f 0 * (v - low)).tdiv (h 0 - low)) else if n = 1 then f 0 else capF (linF h f v (segI h v (n - 2)))
def HF (g : Nat → Int) (f : Nat → Int) (n : Nat) : Prop := (1 ≤ n) ∧ (∀ i, i + 1 < n → g i < g (i + 1) ∧ f i ≤ f (i + 1)) ∧ (∀ i, i < n → -9999 ≤ g i ∧ g i ≤ 99999) ∧ (∀ i, i < n → 0 ≤ f i ∧ f i ≤ 99999)
theorem HF.of {g : Nat → Int} {f : Nat → Int} {n : Nat} (h : (1 ≤ n) ∧ (∀ i, i + 1 < n → g i < g (i + 1) ∧ f i ≤ f (i + 1)) ∧ (∀ i, i < n → -9999 ≤ g i ∧ g i ≤ 99999) ∧ (∀ i, i < n → 0 ≤ f i ∧ f i ≤ 99999)) : HF g f n := h
theorem HF.pos {g : Nat → Int} {f : Nat → Int} {n : Nat} (h : HF g f n) : 1 ≤ n := h.1
theorem HF.sort {g : Nat → Int} {f : Nat → Int} {n : Nat} (h : HF g f n) : ∀ i, i + 1 < n → g i < g (i + 1) ∧ f i ≤ f (i + 1) := h.2.1
theorem HF.hb {g : Nat → Int} {f : Nat → Int} {n : Nat} (h : HF g f n) : ∀ i, i < n → -9999 ≤ g i ∧ g i ≤ 99999 := h.2.2.1
theorem HF.fb {g : Nat → Int} {f : Nat → Int} {n : Nat} (h : HF g f n) : ∀ i, i < n → 0 ≤ f i ∧ f i ≤ 99999 := h.2.2.2
theorem tdiv_b {x y : Int} (hx : 0 ≤ x) (hy : 0 < y) : 0 ≤ x.tdiv y ∧ x.tdiv y ≤ x := by
  rw [Int.tdiv_eq_ediv_of_nonneg hx]
  exact ⟨Int.ediv_nonneg hx (by omega), Int.ediv_le_self _ hx⟩
theorem mul_nb {a b m n : Int} (ha : 0 ≤ a) (ha2 : a ≤ m) (hb : 0 ≤ b) (hb2 : b ≤ n) : 0 ≤ a * b ∧ a * b ≤ m * n := ⟨Int.mul_nonneg ha hb, Int.mul_le_mul ha2 hb2 hb (by omega)⟩
theorem linF_b {h f : Nat → Int} {n i : Nat} {v : Int} (hf : HF h f n) (hi : i + 1 < n) (hv : h i ≤ v) (hv2 : v ≤ 200000) : (0 ≤ (f (i + 1) - f i) * (v - h i) ∧ (f (i + 1) - f i) * (v - h i) ≤ 99999 * 220000) ∧ (0 ≤ ((f (i + 1) - f i) * (v - h i)).tdiv (h (i + 1) - h i) ∧ ((f (i + 1) - f i) * (v - h i)).tdiv (h (i + 1) - h i) ≤ 99999 * 220000) := by
  have s1 := hf.sort i hi
  have b1 := hf.hb i (by omega)
  have b2 := hf.hb (i + 1) hi
  have f1 := hf.fb i (by omega)
  have f2 := hf.fb (i + 1) hi
  have m1 := mul_nb (a := f (i + 1) - f i) (b := v - h i) (m := 99999) (n := 220000) (by omega) (by omega) (by omega) (by omega)
  have m2 := tdiv_b (x := (f (i + 1) - f i) * (v - h i)) (y := h (i + 1) - h i) m1.1 (by omega)
  exact ⟨m1, m2.1, by omega⟩
theorem below_b {h f : Nat → Int} {n : Nat} {low v : Int} (hf : HF h f n) (h1 : v < h 0) (h2 : low < h 0) (h3 : low < v) (hl : -2000 ≤ low) : (0 ≤ f 0 * (v - low) ∧ f 0 * (v - low) ≤ 99999 * 110000) ∧ (0 ≤ (f 0 * (v - low)).tdiv (h 0 - low) ∧ (f 0 * (v - low)).tdiv (h 0 - low) ≤ f 0) := by
  have b1 := hf.hb 0 hf.pos
  have f1 := hf.fb 0 hf.pos
  have m1 := mul_nb (a := f 0) (b := v - low) (m := 99999) (n := 110000) (by omega) (by omega) (by omega) (by omega)
  have m2 := tdiv_b (x := f 0 * (v - low)) (y := h 0 - low) m1.1 (by omega)
  refine ⟨m1, m2.1, ?_⟩
  rw [Int.tdiv_eq_ediv_of_nonneg m1.1]
  refine Int.ediv_le_of_le_mul (by omega) ?_
  exact Int.mul_le_mul_of_nonneg_left (by omega) (by omega)
theorem capF_b {x : Int} (h : 0 ≤ x) : 0 ≤ capF x ∧ capF x ≤ 99999999 := by
  unfold capF
  split <;> omega
theorem seg_le {h f : Nat → Int} {n i m : Nat} {v : Int} (hs : Seg h v m i) (h0 : h 0 ≤ v) : h i ≤ v := by
  by_cases e : i = 0
  · rw [e]; exact h0
  · exact hs.2.1 i (by omega) (Nat.le_refl _)
theorem atF_b {h f : Nat → Int} {n : Nat} {low v : Int} (hf : HF h f n) (hl : -2000 ≤ low) (hv2 : v ≤ 200000) : 0 ≤ atF h f n low v ∧ atF h f n low v ≤ 99999999 := by
  have hp := hf.pos
  have f1 := hf.fb 0 hp
  unfold atF
  by_cases c1 : v < h 0
  · rw [if_pos c1]
    by_cases c2 : h 0 ≤ low
    · rw [if_pos c2]; omega
    · rw [if_neg c2]
      by_cases c3 : v ≤ low
      · rw [if_pos c3]; omega
      · rw [if_neg c3]
        have := below_b hf c1 (by omega) (by omega) hl
        omega
  · rw [if_neg c1]
    by_cases c2 : n = 1
    · rw [if_pos c2]; omega
    · rw [if_neg c2]
      have hs := segI_ok (h := h) (v := v) (n - 2)
      have := linF_b hf (i := segI h v (n - 2)) (by have := hs.1; omega) (seg_le (f := f) (n := n) hs (by omega)) hv2
      have f2 := hf.fb (segI h v (n - 2)) (by have := hs.1; omega)
      refine capF_b ?_
      unfold linF
      omega
/-- the value on a POINT, or between, however the place was sought -/
theorem lin_hit {h f : Nat → Int} {n i : Nat} {v : Int} (hf : HF h f n) (hi : i < n) (hv : h i = v) (h0 : h 0 ≤ v) (hn : n ≠ 1) (h1 : ∀ j, 1 ≤ j → j ≤ i → h j ≤ v) (h2 : i + 1 < n → v < h (i + 1)) : capF (linF h f v (segI h v (n - 2))) = f i := by
  have fi := hf.fb i hi
  by_cases c : i + 1 < n
  · have e : segI h v (n - 2) = i := Seg.uniq (segI_ok (n - 2)) ⟨by omega, h1, Or.inr (h2 c)⟩
    rw [e]
    unfold linF capF
    rw [hv, show v - v = 0 by omega, Int.mul_zero, Int.zero_tdiv]
    split <;> omega
  · have e : segI h v (n - 2) = n - 2 := Seg.uniq (segI_ok (n - 2)) ⟨Nat.le_refl _, fun j a b => h1 j a (by omega), Or.inl rfl⟩
    have ei : i = n - 2 + 1 := by omega
    have s1 := hf.sort (n - 2) (by omega)
    have e2 : ((f (n - 2 + 1) - f (n - 2)) * (v - h (n - 2))).tdiv (h (n - 2 + 1) - h (n - 2)) = f (n - 2 + 1) - f (n - 2) := by
      rw [← hv, ei]
      exact Int.mul_tdiv_cancel _ (by omega)
    rw [e]
    unfold linF capF
    rw [e2, ← ei]
    split <;> omega
theorem lin_mid {h : Nat → Int} {n i : Nat} {v : Int} (hi : i < n) (hn : n ≠ 1) (h1 : ∀ j, 1 ≤ j → j ≤ i → h j ≤ v) (h2 : i + 1 < n → v < h (i + 1)) : segI h v (n - 2) = if i = n - 1 then i - 1 else i := by
  by_cases c : i = n - 1
  · rw [if_pos c]
    exact Seg.uniq (segI_ok (n - 2)) ⟨by omega, fun j a b => h1 j a (by omega), Or.inl (by omega)⟩
  · rw [if_neg c]
    exact Seg.uniq (segI_ok (n - 2)) ⟨by omega, h1, Or.inr (h2 (by omega))⟩
theorem shareC {F : Nat} {A : rz_A} {a b c : Int} (hc : 0 < c) (h1 : r64 (a * b)) (h2 : r64 ((a * b).tdiv c)) : x77_share F a b c A = some ((a * b).tdiv c, A) := by
  unfold x77_share
  rw [if_neg (by omega), g64p h1, gnp (by omega), g64p h2]
theorem minC {F : Nat} {A : rz_A} {a : Int} : x28_min F a 99999999 A = some (capF a, A) := by
  unfold x28_min capF
  by_cases h : a < 99999999
  · repeat' split
    all_goals first | rfl | (exfalso; omega)
  · by_cases h2 : a = 99999999
    · subst h2
      repeat' split
      all_goals first | rfl | (exfalso; omega)
    · repeat' split
      all_goals first | rfl | (exfalso; omega)
section FLOW_c
variable {F : Nat} {A : rz_A} {h f : Nat → Int} {n : Nat} {low v : Int}
theorem fby_c_71 (hf : HF h f n) (hn : n ≤ 60) (eh : ∀ i, i < n → A.1 58 i = h i) (ef : ∀ i, i < n → A.1 59 i = f i) (hv2 : v ≤ 200000) {i : Nat} (hi : i + 1 < n) (hiv : h i ≤ v) : x80_flowBy_c_71 F v i A = some (capF (linF h f v i), A) := by
  have s1 := hf.sort i hi
  have b1 := hf.hb i (by omega)
  have b2 := hf.hb (i + 1) hi
  have f1 := hf.fb i (by omega)
  have f2 := hf.fb (i + 1) hi
  have hl := linF_b hf hi hiv hv2
  have e1 : ((i : Int) + 1).toNat = i + 1 := by omega
  have hc := capF_b (x := linF h f v i) (by unfold linF; omega)
  unfold x80_flowBy_c_71
  rw [g32p (by omega), gxp (by omega) (by omega), gxp (by omega) (by omega), e1, Int.toNat_natCast, eh i (by omega), eh (i + 1) hi, ef i (by omega), ef (i + 1) hi, g32p (by omega), g32p (by omega), g32p (by omega), shareC (by omega) (by omega) (by omega)]
  simp only [rz_b_some]
  rw [ef i (by omega), g64p (by omega), minC]
  simp only [rz_b_some]
  unfold linF at hc ⊢
  rw [g32p (by omega)]
theorem fby_c_43 (hf : HF h f n) (hn : n ≤ 60) (h2 : 2 ≤ n) (e0 : A.1 57 0 = n) (eh : ∀ i, i < n → A.1 58 i = h i) (ef : ∀ i, i < n → A.1 59 i = f i) (hv2 : v ≤ 200000) (h0 : h 0 ≤ v) : ∀ (m i : Nat), i ≤ n - 2 → n < m + i → (∀ j, 1 ≤ j → j ≤ i → h j ≤ v) → x80_flowBy_c_43 F m v i A = some (capF (linF h f v (segI h v (n - 2))), A) := by
  intro m
  induction m with
  | zero => intro i h3 h4; omega
  | succ m ih =>
    intro i h3 h4 h5
    have hiv : h i ≤ v := by
      by_cases e : i = 0
      · rw [e]; exact h0
      · exact h5 i (by omega) (Nat.le_refl _)
    have stop : (i = n - 2 ∨ v < h (i + 1)) → x80_flowBy_c_71 F v i A = some (capF (linF h f v (segI h v (n - 2))), A) := by
      intro hs
      have e : segI h v (n - 2) = i := Seg.uniq (segI_ok (n - 2)) ⟨h3, h5, hs⟩
      rw [e]
      exact fby_c_71 hf hn eh ef hv2 (by omega) hiv
    have e1 : ((i : Int) + 1).toNat = i + 1 := by omega
    unfold x80_flowBy_c_43
    rw [e0, g32p (by omega)]
    by_cases c : i < n - 2
    · rw [if_pos (by omega), g32p (by omega), gxp (by omega) (by omega), e1, eh (i + 1) (by omega)]
      by_cases c2 : h (i + 1) ≤ v
      · rw [if_pos c2, show (i : Int) + 1 = ((i + 1 : Nat) : Int) by omega]
        refine ih (i + 1) (by omega) (by omega) (fun j a b => ?_)
        by_cases e : j = i + 1
        · rw [e]; exact c2
        · exact h5 j a (by omega)
      · rw [if_neg c2]
        exact stop (Or.inr (by omega))
    · rw [if_neg (by omega)]
      exact stop (Or.inl (by omega))
theorem fby_c (hf : HF h f n) (hn : n ≤ 60) (hF : 1000 ≤ F) (e0 : A.1 57 0 = n) (eh : ∀ i, i < n → A.1 58 i = h i) (ef : ∀ i, i < n → A.1 59 i = f i) (hl : -2000 ≤ low ∧ low ≤ 9999) (hv : -20000 ≤ v ∧ v ≤ 200000) : x80_flowBy_c F v low A = some (atF h f n low v, A) := by
  have hp := hf.pos
  have b1 := hf.hb 0 hp
  have f1 := hf.fb 0 hp
  unfold x80_flowBy_c atF
  rw [e0, eh 0 hp, if_neg (by omega)]
  by_cases c1 : v < h 0
  · rw [if_pos c1, if_pos c1]
    unfold x81_flowBelow_c
    rw [eh 0 hp, ef 0 hp]
    by_cases c2 : h 0 ≤ low
    · rw [if_pos c2, if_pos c2]
      rfl
    · rw [if_neg c2, if_neg c2]
      by_cases c3 : v ≤ low
      · rw [if_pos c3, if_pos c3]
        rfl
      · have hb := below_b hf c1 (by omega) (by omega) hl.1
        rw [if_neg c3, if_neg c3, g32p (by omega), g32p (by omega), shareC (by omega) (by omega) (by omega)]
        simp only [rz_b_some]
        rw [g32p (by omega)]
        rfl
  · rw [if_neg c1, if_neg c1]
    by_cases c2 : n = 1
    · rw [if_pos (by omega), if_pos c2, ef 0 hp]
    · rw [if_neg (by omega), if_neg c2]
      exact fby_c_43 hf hn (by omega) e0 eh ef hv.2 (by omega) F 0 (by omega) (by omega) (fun j a b => by omega)
end FLOW_c
section ALONG_p
variable {F : Nat} {A : rz_A} {h f : Nat → Int} {n o : Nat} {low v : Int}
theorem alo_p_139 (hf : HF h f n) (hn : o + n ≤ 60) (eh : ∀ i, i < n → A.1 137 (o + i) = h i) (ef : ∀ i, i < n → A.1 138 (o + i) = f i) (hv2 : v ≤ 200000) {i : Nat} (hi : i + 1 < n) (hiv : h i ≤ v) : x185_along_p_139 F v ((o : Int) + i) A = some (capF (linF h f v i), A) := by
  have s1 := hf.sort i hi
  have b1 := hf.hb i (by omega)
  have b2 := hf.hb (i + 1) hi
  have f1 := hf.fb i (by omega)
  have f2 := hf.fb (i + 1) hi
  have hl := linF_b hf hi hiv hv2
  have e1 : ((o : Int) + i).toNat = o + i := by omega
  have e2 : ((o : Int) + i + 1).toNat = o + (i + 1) := by omega
  unfold x185_along_p_139
  rw [e1, e2, eh i (by omega), eh (i + 1) hi, ef i (by omega), ef (i + 1) hi]
  rw [gxp (by omega) (by omega), g32p (by omega), gxp (by omega) (by omega), g32p (by omega), g32p (by omega), g64p (by omega), g32p (by omega), gnp (by omega), g64p (by omega), g64p (by omega)]
  unfold linF capF
  split
  · rfl
  · rw [g32p (by omega)]
theorem alo_p_77 (hf : HF h f n) (hn : o + n ≤ 60) (eh : ∀ i, i < n → A.1 137 (o + i) = h i) (ef : ∀ i, i < n → A.1 138 (o + i) = f i) (hv2 : v ≤ 200000) (h0 : h 0 ≤ v) : ∀ (m i : Nat), i < n → n < m + i → (∀ j, 1 ≤ j → j ≤ i → h j ≤ v) → x185_along_p_77 F m o n v ((o : Int) + i) A = some (if n = 1 then f 0 else capF (linF h f v (segI h v (n - 2))), A) := by
  intro m
  induction m with
  | zero => intro i h3 h4; omega
  | succ m ih =>
    intro i h3 h4 h5
    have hiv : h i ≤ v := by
      by_cases e : i = 0
      · rw [e]; exact h0
      · exact h5 i (by omega) (Nat.le_refl _)
    have e1 : ((o : Int) + i).toNat = o + i := by omega
    have e2 : ((o : Int) + i + 1).toNat = o + (i + 1) := by omega
    have stop : (i + 1 < n → v < h (i + 1)) → x185_along_p_105 F o n v ((o : Int) + i) A = some (if n = 1 then f 0 else capF (linF h f v (segI h v (n - 2))), A) := by
      intro hs
      unfold x185_along_p_105
      rw [gxp (by omega) (by omega), e1, eh i h3, ef i h3]
      by_cases c1 : n = 1
      · have ei : i = 0 := by omega
        rw [if_pos c1, ei]
        split
        · rfl
        · rw [if_pos (by omega)]
      · rw [if_neg c1]
        by_cases c2 : h i = v
        · rw [if_pos c2, lin_hit hf h3 c2 h0 c1 h5 hs]
        · rw [if_neg c2, if_neg (by omega), g32p (by omega), g32p (by omega), lin_mid h3 c1 h5 hs]
          by_cases c3 : i = n - 1
          · have s1 := hf.sort (i - 1) (by omega)
            rw [show i - 1 + 1 = i by omega] at s1
            rw [if_pos (by omega), g32p (by omega), if_pos c3, show (o : Int) + i + (-1) = (o : Int) + ((i - 1 : Nat) : Int) by omega]
            exact alo_p_139 hf hn eh ef hv2 (by omega) (by omega)
          · rw [if_neg (by omega), if_neg c3]
            exact alo_p_139 hf hn eh ef hv2 (by omega) hiv
    unfold x185_along_p_77
    rw [g32p (by omega), g32p (by omega)]
    by_cases c : i + 1 < n
    · rw [if_pos (by omega), gxp (by omega) (by omega), e2, eh (i + 1) c]
      by_cases c2 : h (i + 1) ≤ v
      · rw [if_pos c2, show (o : Int) + i + 1 = (o : Int) + ((i + 1 : Nat) : Int) by omega]
        refine ih (i + 1) c (by omega) (fun j a b => ?_)
        by_cases e : j = i + 1
        · rw [e]; exact c2
        · exact h5 j a (by omega)
      · rw [if_neg c2]
        exact stop (fun _ => by omega)
    · rw [if_neg (by omega)]
      exact stop (fun hh => absurd hh c)
theorem alo_p (hf : HF h f n) (hn : o + n ≤ 60) (hF : 1000 ≤ F) (eh : ∀ i, i < n → A.1 137 (o + i) = h i) (ef : ∀ i, i < n → A.1 138 (o + i) = f i) (hl : -2000 ≤ low ∧ low ≤ 9999) (hv : -20000 ≤ v ∧ v ≤ 200000) : x185_along_p F o n low v A = some (atF h f n low v, aI A 91 76 (if h (n - 1) < v then 1 else 0)) := by
  have hp := hf.pos
  have b1 := hf.hb 0 hp
  have f1 := hf.fb 0 hp
  have e1 : ((o : Int) + n - 1).toNat = o + (n - 1) := by omega
  have eo : A.1 137 o = h 0 := eh 0 hp
  have eg : A.1 138 o = f 0 := ef 0 hp
  have fin : ∀ w : Int, (if v < h 0 then (if h 0 ≤ low then some (f 0, aI A 91 76 w) else if v ≤ low then some (0, aI A 91 76 w) else rz_g32 (v - low) <| rz_g64 (f 0 * (v - low)) <| rz_g32 (h 0 - low) <| rz_gn (h 0 - low) <| rz_g64 ((f 0 * (v - low)).tdiv (h 0 - low)) <| rz_g32 ((f 0 * (v - low)).tdiv (h 0 - low)) <| some ((f 0 * (v - low)).tdiv (h 0 - low), aI A 91 76 w)) else x185_along_p_77 F F o n v o (aI A 91 76 w)) = some (atF h f n low v, aI A 91 76 w) := by
    intro w
    unfold atF
    by_cases c1 : v < h 0
    · rw [if_pos c1, if_pos c1]
      by_cases c2 : h 0 ≤ low
      · rw [if_pos c2, if_pos c2]
      · rw [if_neg c2, if_neg c2]
        by_cases c3 : v ≤ low
        · rw [if_pos c3, if_pos c3]
        · have hb := below_b hf c1 (by omega) (by omega) hl.1
          rw [if_neg c3, if_neg c3, g32p (by omega), g64p (by omega), g32p (by omega), gnp (by omega), g64p (by omega), g32p (by omega)]
    · rw [if_neg c1, if_neg c1]
      have := alo_p_77 (F := F) (A := aI A 91 76 w) hf hn eh ef hv.2 (by omega) F 0 hp (by omega) (fun j a b => by omega)
      rw [show (o : Int) + ((0 : Nat) : Int) = (o : Int) by omega] at this
      exact this
  unfold x185_along_p
  rw [g32p (by omega), g32p (by omega), gxp (by omega) (by omega), e1, eh (n - 1) (by omega), Int.toNat_natCast, eo, eg]
  by_cases c : h (n - 1) < v
  · rw [if_pos c, gxp (by omega) (by omega), if_pos c]
    exact fin 1
  · rw [if_neg c, gxp (by omega) (by omega), if_neg c]
    exact fin 0
end ALONG_p
