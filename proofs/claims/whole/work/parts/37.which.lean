set_option maxRecDepth 8000
/-! which HEIGHT stands at a POST and a TIME -/
abbrev Vw.told (V : Vw) (i : Nat) (k : Int) : Prop := 0 ≤ V.hS i ∧ V.hS i ≤ k
abbrev Vw.elig (V : Vw) (h : Nat) (k : Int) (i : Nat) : Prop := V.hP i = V.hP h ∧ V.hKn i ≤ k ∧ 0 ≤ V.hR i ∧ ¬ V.told i k ∧ (V.hT i < V.hT h ∨ (V.hT i = V.hT h ∧ i < h))
def Vw.aAcc (V : Vw) (h : Nat) (k : Int) : Nat → Int
  | 0 => -1
  | n + 1 => if V.elig h k n ∧ (V.aAcc h k n < 0 ∨ V.hT (V.aAcc h k n).toNat ≤ V.hT n) then (n : Int) else V.aAcc h k n
def Vw.ahead (V : Vw) (h : Nat) (k : Int) : Int := V.aAcc h k V.nH
/-- the letters of a HEIGHT that may be struck -/
def Vw.strikeL (V : Vw) (h : Nat) (a : Int) (j : Nat) : Int :=
  if j = 0 then (V.hT h).tdiv 96 else if j = 1 then (V.hT h).tmod 96 else if j = 2 then V.hR h else if j = 3 then V.hK h else
  if j = 4 then (if a < 0 then 0 else if V.hR a.toNat < V.hR h then V.hR h - V.hR a.toNat else V.hR a.toNat - V.hR h) else if j = 5 then (if a < 0 then 9999 else V.hT h - V.hT a.toNat) else 0
def Vw.byStd (V : Vw) (h : Nat) (k : Int) : Int := if V.hR h < 0 then 0 else if V.inForce 0 ((V.hT h).tdiv 96) k < 0 then 0 else V.says (V.inForce 0 ((V.hT h).tdiv 96) k).toNat (V.strikeL h (V.ahead h k))
def Vw.wAcc (V : Vw) (p u k : Int) : Nat → Int
  | 0 => -1
  | n + 1 => if V.hP n = p ∧ V.hT n = u ∧ V.hKn n ≤ k ∧ 0 ≤ V.hR n ∧ ¬ (0 ≤ V.wAcc p u k n ∧ V.hK n < V.hK (V.wAcc p u k n).toNat) ∧ ¬ V.told n k ∧ V.byStd n k = 0 then (n : Int) else V.wAcc p u k n
def Vw.which (V : Vw) (p u k : Int) : Int := V.wAcc p u k V.nH
def Vw.lvl (V : Vw) (p u k : Int) : Int := V.hR (V.which p u k).toNat + V.zeroOf p u k
theorem Vw.says01 (V : Vw) (s : Nat) (L : Nat → Int) : V.says s L = 0 ∨ V.says s L = 1 := by unfold Vw.says; split <;> simp
theorem Vw.byStd01 (V : Vw) (h : Nat) (k : Int) : V.byStd h k = 0 ∨ V.byStd h k = 1 := by
  unfold Vw.byStd
  split
  · exact Or.inl rfl
  · split
    · exact Or.inl rfl
    · exact V.says01 _ _
section WHICH
variable {t F : Nat} {A : rz_A} {S : St} {a b c d e p u k q dy x : Int}
theorem tdiv96 (h : 0 ≤ u) : u.tdiv 96 = u / 96 := Int.tdiv_eq_ediv_of_nonneg h
theorem tmod96 (h : 0 ≤ u) : u.tmod 96 = u % 96 := Int.tmod_eq_emod_of_nonneg h
theorem Vw.aAcc_b (V : Vw) (h : Nat) (k : Int) : ∀ n : Nat, V.aAcc h k n < n ∧ -1 ≤ V.aAcc h k n
  | 0 => by unfold Vw.aAcc; omega
  | n + 1 => by
    have ih := Vw.aAcc_b V h k n
    unfold Vw.aAcc
    split <;> omega
theorem Vw.wAcc_b (V : Vw) (p u k : Int) : ∀ n : Nat, V.wAcc p u k n < n ∧ -1 ≤ V.wAcc p u k n
  | 0 => by unfold Vw.wAcc; omega
  | n + 1 => by
    have ih := Vw.wAcc_b V p u k n
    unfold Vw.wAcc
    split <;> omega
theorem aAcc_s (S : St) (h : Nat) (k : Int) (n : Nat) : S.vw.aAcc h k (n + 1) = if (S.hP n = S.hP h ∧ S.hKn n ≤ k ∧ 0 ≤ S.hR n ∧ ¬ (0 ≤ S.hS n ∧ S.hS n ≤ k) ∧ (S.hT n < S.hT h ∨ (S.hT n = S.hT h ∧ n < h))) ∧ (S.vw.aAcc h k n < 0 ∨ S.hT (S.vw.aAcc h k n).toNat ≤ S.hT n) then (n : Int) else S.vw.aAcc h k n := rfl
theorem wAcc_s (S : St) (p u k : Int) (n : Nat) : S.vw.wAcc p u k (n + 1) = if S.hP n = p ∧ S.hT n = u ∧ S.hKn n ≤ k ∧ 0 ≤ S.hR n ∧ ¬ (0 ≤ S.vw.wAcc p u k n ∧ S.hK n < S.hK (S.vw.wAcc p u k n).toNat) ∧ ¬ (0 ≤ S.hS n ∧ S.hS n ≤ k) ∧ S.vw.byStd n k = 0 then (n : Int) else S.vw.wAcc p u k n := rfl
theorem toldM1 (h : RM A S) (hO : OK t S) {i : Nat} (hi : i < S.nH) (ht : 0 ≤ S.hS i ∧ S.hS i ≤ k) : x153_isTold F i k A = some (1, A) := by
  have h1 := hO.nH
  unfold x153_isTold
  rw [h.hS, Int.toNat_natCast, gxp (by omega) (by omega), if_pos ht.1, if_pos ht.2]
theorem toldM0 (h : RM A S) (hO : OK t S) {i : Nat} (hi : i < S.nH) (ht : ¬ (0 ≤ S.hS i ∧ S.hS i ≤ k)) : x153_isTold F i k A = some (0, A) := by
  have h1 := hO.nH
  unfold x153_isTold
  rw [h.hS, Int.toNat_natCast, gxp (by omega) (by omega)]
  split
  · rw [if_neg (by omega)]
  · rfl
theorem aheadM_loop (h : RM A S) (hO : OK t S) {g : Nat} (hg : g < S.nH) : ∀ (n i : Nat), i ≤ S.nH → S.nH < n + i → x156_ahead_5 F n g k (S.vw.aAcc g k i) i A = some (S.vw.aAcc g k S.nH, A) := by
  have h1 := hO.nH
  intro n
  induction n with
  | zero => intro i hi hn; omega
  | succ n ih =>
    intro i hi hn
    have hb := S.vw.aAcc_b g k i
    unfold x156_ahead_5 x156_ahead_105
    simp only [h.nH, h.hP, h.hT, h.hKn, h.hR, Int.toNat_natCast]
    by_cases hl : i < S.nH
    · have ih' := ih (i + 1) (by omega) (by omega)
      rw [if_pos (by omega), gxp (by omega) (by omega), gxp (by omega) (by omega)]
      rw [aAcc_s] at ih'
      have g32 : r32 ((i : Int) + 1) := by omega
      simp only [g32p g32]
      by_cases c1 : S.hP i = S.hP g ∧ S.hKn i ≤ k ∧ 0 ≤ S.hR i
      · rw [if_pos c1.1, if_pos c1.2.1, if_pos c1.2.2]
        by_cases c2 : 0 ≤ S.hS i ∧ S.hS i ≤ k
        · rw [if_neg (fun hh => hh.1.2.2.2.1 c2)] at ih'
          rw [toldM1 h hO hl c2]
          simp only [rz_b_some]
          rw [if_neg (by decide)]
          exact ih'
        · rw [toldM0 h hO hl c2]
          simp only [rz_b_some, if_true, h.hT]
          by_cases c3 : S.hT i < S.hT g ∨ (S.hT i = S.hT g ∧ i < g)
          · have c4 : S.hP i = S.hP g ∧ S.hKn i ≤ k ∧ 0 ≤ S.hR i ∧ ¬ (0 ≤ S.hS i ∧ S.hS i ≤ k) ∧ (S.hT i < S.hT g ∨ (S.hT i = S.hT g ∧ i < g)) := ⟨c1.1, c1.2.1, c1.2.2, c2, c3⟩
            rw [if_pos (by omega)]
            have key : (if 0 ≤ S.vw.aAcc g k i then rz_gx (i : Int) 300 (rz_gx (S.vw.aAcc g k i) 300 (if S.hT (S.vw.aAcc g k i).toNat ≤ S.hT i then x156_ahead_5 F n g k i ((i : Int) + 1) A else x156_ahead_5 F n g k (S.vw.aAcc g k i) ((i : Int) + 1) A)) else x156_ahead_5 F n g k i ((i : Int) + 1) A) = some (S.vw.aAcc g k S.nH, A) := by
              by_cases c5 : 0 ≤ S.vw.aAcc g k i
              · rw [if_pos c5, gxp (by omega) (by omega), gxp (by omega) (by omega)]
                by_cases c6 : S.hT (S.vw.aAcc g k i).toNat ≤ S.hT i
                · rw [if_pos ⟨c4, Or.inr c6⟩] at ih'
                  rw [if_pos c6]
                  exact ih'
                · rw [if_neg (fun hh => by rcases hh.2 with h9 | h9 <;> omega)] at ih'
                  rw [if_neg c6]
                  exact ih'
              · rw [if_pos ⟨c4, Or.inl (by omega)⟩] at ih'
                rw [if_neg c5]
                exact ih'
            by_cases c7 : S.hT i = S.hT g
            · rw [if_pos c7, if_neg (by omega)]
              exact key
            · rw [if_neg c7]
              exact key
          · rw [if_neg (fun hh => c3 hh.1.2.2.2.2)] at ih'
            by_cases c8 : S.hT i ≤ S.hT g
            · rw [if_pos c8, if_pos (by omega), if_pos (by omega)]
              exact ih'
            · rw [if_neg c8]
              exact ih'
      · rw [if_neg (fun hh => c1 ⟨hh.1.1, hh.1.2.1, hh.1.2.2.1⟩)] at ih'
        by_cases c2 : S.hP i = S.hP g
        · rw [if_pos c2]
          by_cases c3 : S.hKn i ≤ k
          · rw [if_pos c3, if_neg (fun hh => c1 ⟨c2, c3, hh⟩)]
            exact ih'
          · rw [if_neg c3]
            exact ih'
        · rw [if_neg c2]
          exact ih'
    · have e : i = S.nH := by omega
      subst e
      rw [if_neg (by omega)]
theorem aheadM (h : RM A S) (hO : OK t S) (hF : 1000 ≤ F) {g : Nat} (hg : g < S.nH) : x156_ahead F g k A = some (S.vw.ahead g k, A) := by
  have h1 := hO.nH
  unfold x156_ahead
  exact aheadM_loop h hO hg F 0 (by omega) (by omega)
/-- the letters laid, by the reference -/
theorem laysM_loop (hu : 0 ≤ u ∧ u ≤ 9999) : ∀ (n i : Nat) (A : rz_A), i ≤ 26 → 26 < n + i → (∀ j, j < i → A.2 133 j = 0) → Ret (x157_lays_2 F n u i A) () (fun A1 => ∀ j, j < 26 → A1.2 133 j = if j = 3 then u.tdiv 96 else if j = 12 then u.tmod 96 else 0) := by
  have e1 := tdiv96 hu.1
  have e2 := tmod96 hu.1
  intro n
  induction n with
  | zero => intro i A hi hn; omega
  | succ n ih =>
    intro i A hi hn hz
    unfold x157_lays_2 x157_lays_21
    by_cases hl : i < 26
    · rw [if_pos (by omega), gxp (by omega) (by omega), g32p (by omega), Int.toNat_natCast]
      refine ih (i + 1) _ (by omega) (by omega) (fun j hj => ?_)
      show (if j = i then (0 : Int) else A.2 133 j) = 0
      split
      · rfl
      · exact hz j (by omega)
    · rw [if_neg (by omega), g32p (by omega), g32p (by omega)]
      refine Ret.mk (fun j hj => ?_)
      show (if j = 12 then u.tmod 96 else if j = 3 then u.tdiv 96 else A.2 133 j) = _
      by_cases h3 : j = 3
      · subst h3; rfl
      · by_cases h12 : j = 12
        · subst h12; rfl
        · rw [if_neg h12, if_neg h3, if_neg h3, if_neg h12]
          exact hz j (by omega)
theorem laysM (hF : 1000 ≤ F) (hu : 0 ≤ u ∧ u ≤ 9999) : Ret (x157_lays F u A) () (fun A1 => ∀ j, j < 26 → A1.2 133 j = if j = 3 then u.tdiv 96 else if j = 12 then u.tmod 96 else 0) := by
  unfold x157_lays
  exact laysM_loop hu F 0 A (by omega) (by omega) (fun j hj => absurd hj (Nat.not_lt_zero j))
theorem lettersC_loop (hu : 0 ≤ u ∧ u ≤ 9999) : ∀ (n i : Nat) (A : rz_A), i ≤ 13 → 13 < n + i → (∀ j, j < i → A.1 49 j = 0) → Ret (x23_lettersOf_2 F n u i A) () (fun A1 => ∀ j, j < 13 → A1.1 49 j = if j = 0 then u.tdiv 96 else if j = 1 then u.tmod 96 else 0) := by
  have e1 := tdiv96 hu.1
  have e2 := tmod96 hu.1
  intro n
  induction n with
  | zero => intro i A hi hn; omega
  | succ n ih =>
    intro i A hi hn hz
    unfold x23_lettersOf_2 x23_lettersOf_21
    by_cases hl : i < 13
    · rw [if_pos (by omega), gxp (by omega) (by omega), g32p (by omega), Int.toNat_natCast]
      refine ih (i + 1) _ (by omega) (by omega) (fun j hj => ?_)
      show (if j = i then (0 : Int) else A.1 49 j) = 0
      split
      · rfl
      · exact hz j (by omega)
    · rw [if_neg (by omega), g32p (by omega), g32p (by omega)]
      refine Ret.mk (fun j hj => ?_)
      show (if j = 1 then u.tmod 96 else if j = 0 then u.tdiv 96 else A.1 49 j) = _
      by_cases h3 : j = 0
      · subst h3; rfl
      · by_cases h12 : j = 1
        · subst h12; rfl
        · rw [if_neg h12, if_neg h3, if_neg h3, if_neg h12]
          exact hz j (by omega)
theorem lettersC (hF : 1000 ≤ F) (hu : 0 ≤ u ∧ u ≤ 9999) : Ret (x23_lettersOf F u A) () (fun A1 => ∀ j, j < 13 → A1.1 49 j = if j = 0 then u.tdiv 96 else if j = 1 then u.tmod 96 else 0) := by
  unfold x23_lettersOf
  exact lettersC_loop hu F 0 A (by omega) (by omega) (fun j hj => absurd hj (Nat.not_lt_zero j))
theorem strikeL_b (hO : OK t S) {h : Nat} (hh : h < S.nH) (ha : a < S.nH) : ∀ j, j < 13 → -1000000000 ≤ S.vw.strikeL h a j ∧ S.vw.strikeL h a j ≤ 1000000000 := by
  intro j hj
  have h1 := hO.h h hh
  have e1 := tdiv96 h1.2.1.1
  have e2 := tmod96 h1.2.1.1
  unfold Vw.strikeL
  show -1000000000 ≤ (if j = 0 then (S.hT h).tdiv 96 else if j = 1 then (S.hT h).tmod 96 else if j = 2 then S.hR h else if j = 3 then S.hK h else if j = 4 then (if a < 0 then 0 else if S.hR a.toNat < S.hR h then S.hR h - S.hR a.toNat else S.hR a.toNat - S.hR h) else if j = 5 then (if a < 0 then 9999 else S.hT h - S.hT a.toNat) else 0) ∧ (if j = 0 then (S.hT h).tdiv 96 else if j = 1 then (S.hT h).tmod 96 else if j = 2 then S.hR h else if j = 3 then S.hK h else if j = 4 then (if a < 0 then 0 else if S.hR a.toNat < S.hR h then S.hR h - S.hR a.toNat else S.hR a.toNat - S.hR h) else if j = 5 then (if a < 0 then 9999 else S.hT h - S.hT a.toNat) else 0) ≤ 1000000000
  by_cases h0 : a < 0
  · simp only [h0, if_true]
    repeat' split
    all_goals omega
  · have h2 := hO.h a.toNat (by omega)
    simp only [h0, if_false]
    repeat' split
    all_goals omega
end WHICH
