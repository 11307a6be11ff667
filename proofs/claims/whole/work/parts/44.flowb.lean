set_option maxRecDepth 8000
section FLOW_b
variable {F : Nat} {A : rz_A} {h f : Nat → Int} {n q : Nat} {low v : Int}
theorem fby_b_71 (hf : HF h f n) (hn : n ≤ 8) (eh : ∀ i, i < n → A.1 (70 + 3 * q) i = h i) (ef : ∀ i, i < n → A.1 (71 + 3 * q) i = f i) (hv2 : v ≤ 200000) {i : Nat} (hi : i + 1 < n) (hiv : h i ≤ v) : x80_flowBy_b_71 F q v i A = some (capF (linF h f v i), A) := by
  have s1 := hf.sort i hi
  have b1 := hf.hb i (by omega)
  have b2 := hf.hb (i + 1) hi
  have f1 := hf.fb i (by omega)
  have f2 := hf.fb (i + 1) hi
  have hl := linF_b hf hi hiv hv2
  have e1 : ((i : Int) + 1).toNat = i + 1 := by omega
  have hc := capF_b (x := linF h f v i) (by unfold linF; omega)
  unfold x80_flowBy_b_71
  rw [g32p (by omega), gxp (by omega) (by omega), gxp (by omega) (by omega), e1, Int.toNat_natCast, eh i (by omega), eh (i + 1) hi, ef i (by omega), ef (i + 1) hi, g32p (by omega), g32p (by omega), g32p (by omega), shareC (by omega) (by omega) (by omega)]
  simp only [rz_b_some]
  rw [ef i (by omega), g64p (by omega), minC]
  simp only [rz_b_some]
  unfold linF at hc ⊢
  rw [g32p (by omega)]
theorem fby_b_43 (hf : HF h f n) (hn : n ≤ 8) (h2 : 2 ≤ n) (e0 : A.1 (69 + 3 * q) 0 = n) (eh : ∀ i, i < n → A.1 (70 + 3 * q) i = h i) (ef : ∀ i, i < n → A.1 (71 + 3 * q) i = f i) (hv2 : v ≤ 200000) (h0 : h 0 ≤ v) : ∀ (m i : Nat), i ≤ n - 2 → n < m + i → (∀ j, 1 ≤ j → j ≤ i → h j ≤ v) → x80_flowBy_b_43 F q m v i A = some (capF (linF h f v (segI h v (n - 2))), A) := by
  intro m
  induction m with
  | zero => intro i h3 h4; omega
  | succ m ih =>
    intro i h3 h4 h5
    have hiv : h i ≤ v := by
      by_cases e : i = 0
      · rw [e]; exact h0
      · exact h5 i (by omega) (Nat.le_refl _)
    have stop : (i = n - 2 ∨ v < h (i + 1)) → x80_flowBy_b_71 F q v i A = some (capF (linF h f v (segI h v (n - 2))), A) := by
      intro hs
      have e : segI h v (n - 2) = i := Seg.uniq (segI_ok (n - 2)) ⟨h3, h5, hs⟩
      rw [e]
      exact fby_b_71 hf hn eh ef hv2 (by omega) hiv
    have e1 : ((i : Int) + 1).toNat = i + 1 := by omega
    unfold x80_flowBy_b_43
    rw [e0, g32p (by omega)]
    by_cases c : i < n - 2
    · rw [if_pos (by omega), g32p (by omega), gxp (by omega) (by omega), e1, eh (i + 1) (by omega)]
      by_cases c2 : h (i + 1) ≤ v
      · rw [if_pos c2, show (i : Int) + 1 = ((i + 1 : Nat) : Int) by omega]
        refine ih (i + 1) (by omega) (by omega) (fun j a b => ?_)
        by_cases e : j = i + 1
        · rw [e]; exact c2
        · exact h5 j a (by omega)
      · rw [if_neg c2]
        exact stop (Or.inr (by omega))
    · rw [if_neg (by omega)]
      exact stop (Or.inl (by omega))
theorem fby_b (hf : HF h f n) (hn : n ≤ 8) (hF : 1000 ≤ F) (e0 : A.1 (69 + 3 * q) 0 = n) (eh : ∀ i, i < n → A.1 (70 + 3 * q) i = h i) (ef : ∀ i, i < n → A.1 (71 + 3 * q) i = f i) (hl : -2000 ≤ low ∧ low ≤ 9999) (hv : -20000 ≤ v ∧ v ≤ 200000) : x80_flowBy_b F q v low A = some (atF h f n low v, A) := by
  have hp := hf.pos
  have b1 := hf.hb 0 hp
  have f1 := hf.fb 0 hp
  unfold x80_flowBy_b atF
  rw [e0, eh 0 hp, if_neg (by omega)]
  by_cases c1 : v < h 0
  · rw [if_pos c1, if_pos c1]
    unfold x81_flowBelow_b
    rw [eh 0 hp, ef 0 hp]
    by_cases c2 : h 0 ≤ low
    · rw [if_pos c2, if_pos c2]
      rfl
    · rw [if_neg c2, if_neg c2]
      by_cases c3 : v ≤ low
      · rw [if_pos c3, if_pos c3]
        rfl
      · have hb := below_b hf c1 (by omega) (by omega) hl.1
        rw [if_neg c3, if_neg c3, g32p (by omega), g32p (by omega), shareC (by omega) (by omega) (by omega)]
        simp only [rz_b_some]
        rw [g32p (by omega)]
        rfl
  · rw [if_neg c1, if_neg c1]
    by_cases c2 : n = 1
    · rw [if_pos (by omega), if_pos c2, ef 0 hp]
    · rw [if_neg (by omega), if_neg c2]
      exact fby_b_43 hf hn (by omega) e0 eh ef hv.2 (by omega) F 0 (by omega) (by omega) (fun j a b => by omega)
end FLOW_b
section ALONG_q
variable {F : Nat} {A : rz_A} {h f : Nat → Int} {n o : Nat} {low v : Int}
theorem alo_q_139 (hf : HF h f n) (hn : o + n ≤ 48) (eh : ∀ i, i < n → A.1 98 (o + i) = h i) (ef : ∀ i, i < n → A.1 99 (o + i) = f i) (hv2 : v ≤ 200000) {i : Nat} (hi : i + 1 < n) (hiv : h i ≤ v) : x185_along_q_139 F v ((o : Int) + i) A = some (capF (linF h f v i), A) := by
  have s1 := hf.sort i hi
  have b1 := hf.hb i (by omega)
  have b2 := hf.hb (i + 1) hi
  have f1 := hf.fb i (by omega)
  have f2 := hf.fb (i + 1) hi
  have hl := linF_b hf hi hiv hv2
  have e1 : ((o : Int) + i).toNat = o + i := by omega
  have e2 : ((o : Int) + i + 1).toNat = o + (i + 1) := by omega
  unfold x185_along_q_139
  rw [e1, e2, eh i (by omega), eh (i + 1) hi, ef i (by omega), ef (i + 1) hi]
  rw [gxp (by omega) (by omega), g32p (by omega), gxp (by omega) (by omega), g32p (by omega), g32p (by omega), g64p (by omega), g32p (by omega), gnp (by omega), g64p (by omega), g64p (by omega)]
  unfold linF capF
  split
  · rfl
  · rw [g32p (by omega)]
theorem alo_q_77 (hf : HF h f n) (hn : o + n ≤ 48) (eh : ∀ i, i < n → A.1 98 (o + i) = h i) (ef : ∀ i, i < n → A.1 99 (o + i) = f i) (hv2 : v ≤ 200000) (h0 : h 0 ≤ v) : ∀ (m i : Nat), i < n → n < m + i → (∀ j, 1 ≤ j → j ≤ i → h j ≤ v) → x185_along_q_77 F m o n v ((o : Int) + i) A = some (if n = 1 then f 0 else capF (linF h f v (segI h v (n - 2))), A) := by
  intro m
  induction m with
  | zero => intro i h3 h4; omega
  | succ m ih =>
    intro i h3 h4 h5
    have hiv : h i ≤ v := by
      by_cases e : i = 0
      · rw [e]; exact h0
      · exact h5 i (by omega) (Nat.le_refl _)
    have e1 : ((o : Int) + i).toNat = o + i := by omega
    have e2 : ((o : Int) + i + 1).toNat = o + (i + 1) := by omega
    have stop : (i + 1 < n → v < h (i + 1)) → x185_along_q_105 F o n v ((o : Int) + i) A = some (if n = 1 then f 0 else capF (linF h f v (segI h v (n - 2))), A) := by
      intro hs
      unfold x185_along_q_105
      rw [gxp (by omega) (by omega), e1, eh i h3, ef i h3]
      by_cases c1 : n = 1
      · have ei : i = 0 := by omega
        rw [if_pos c1, ei]
        split
        · rfl
        · rw [if_pos (by omega)]
      · rw [if_neg c1]
        by_cases c2 : h i = v
        · rw [if_pos c2, lin_hit hf h3 c2 h0 c1 h5 hs]
        · rw [if_neg c2, if_neg (by omega), g32p (by omega), g32p (by omega), lin_mid h3 c1 h5 hs]
          by_cases c3 : i = n - 1
          · have s1 := hf.sort (i - 1) (by omega)
            rw [show i - 1 + 1 = i by omega] at s1
            rw [if_pos (by omega), g32p (by omega), if_pos c3, show (o : Int) + i + (-1) = (o : Int) + ((i - 1 : Nat) : Int) by omega]
            exact alo_q_139 hf hn eh ef hv2 (by omega) (by omega)
          · rw [if_neg (by omega), if_neg c3]
            exact alo_q_139 hf hn eh ef hv2 (by omega) hiv
    unfold x185_along_q_77
    rw [g32p (by omega), g32p (by omega)]
    by_cases c : i + 1 < n
    · rw [if_pos (by omega), gxp (by omega) (by omega), e2, eh (i + 1) c]
      by_cases c2 : h (i + 1) ≤ v
      · rw [if_pos c2, show (o : Int) + i + 1 = (o : Int) + ((i + 1 : Nat) : Int) by omega]
        refine ih (i + 1) c (by omega) (fun j a b => ?_)
        by_cases e : j = i + 1
        · rw [e]; exact c2
        · exact h5 j a (by omega)
      · rw [if_neg c2]
        exact stop (fun _ => by omega)
    · rw [if_neg (by omega)]
      exact stop (fun hh => absurd hh c)
theorem alo_q (hf : HF h f n) (hn : o + n ≤ 48) (hF : 1000 ≤ F) (eh : ∀ i, i < n → A.1 98 (o + i) = h i) (ef : ∀ i, i < n → A.1 99 (o + i) = f i) (hl : -2000 ≤ low ∧ low ≤ 9999) (hv : -20000 ≤ v ∧ v ≤ 200000) : x185_along_q F o n low v A = some (atF h f n low v, aI A 91 76 (if h (n - 1) < v then 1 else 0)) := by
  have hp := hf.pos
  have b1 := hf.hb 0 hp
  have f1 := hf.fb 0 hp
  have e1 : ((o : Int) + n - 1).toNat = o + (n - 1) := by omega
  have eo : A.1 98 o = h 0 := eh 0 hp
  have eg : A.1 99 o = f 0 := ef 0 hp
  have fin : ∀ w : Int, (if v < h 0 then (if h 0 ≤ low then some (f 0, aI A 91 76 w) else if v ≤ low then some (0, aI A 91 76 w) else rz_g32 (v - low) <| rz_g64 (f 0 * (v - low)) <| rz_g32 (h 0 - low) <| rz_gn (h 0 - low) <| rz_g64 ((f 0 * (v - low)).tdiv (h 0 - low)) <| rz_g32 ((f 0 * (v - low)).tdiv (h 0 - low)) <| some ((f 0 * (v - low)).tdiv (h 0 - low), aI A 91 76 w)) else x185_along_q_77 F F o n v o (aI A 91 76 w)) = some (atF h f n low v, aI A 91 76 w) := by
    intro w
    unfold atF
    by_cases c1 : v < h 0
    · rw [if_pos c1, if_pos c1]
      by_cases c2 : h 0 ≤ low
      · rw [if_pos c2, if_pos c2]
      · rw [if_neg c2, if_neg c2]
        by_cases c3 : v ≤ low
        · rw [if_pos c3, if_pos c3]
        · have hb := below_b hf c1 (by omega) (by omega) hl.1
          rw [if_neg c3, if_neg c3, g32p (by omega), g64p (by omega), g32p (by omega), gnp (by omega), g64p (by omega), g32p (by omega)]
    · rw [if_neg c1, if_neg c1]
      have := alo_q_77 (F := F) (A := aI A 91 76 w) hf hn eh ef hv.2 (by omega) F 0 hp (by omega) (fun j a b => by omega)
      rw [show (o : Int) + ((0 : Nat) : Int) = (o : Int) by omega] at this
      exact this
  unfold x185_along_q
  rw [g32p (by omega), g32p (by omega), gxp (by omega) (by omega), e1, eh (n - 1) (by omega), Int.toNat_natCast, eo, eg]
  by_cases c : h (n - 1) < v
  · rw [if_pos c, gxp (by omega) (by omega), if_pos c]
    exact fin 1
  · rw [if_neg c, gxp (by omega) (by omega), if_neg c]
    exact fin 0
end ALONG_q
