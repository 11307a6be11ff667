set_option maxRecDepth 8000
/-! what a view is made from -/
abbrev Vw : Type := (Nat) × (Nat → Int) × (Nat → Int) × (Nat → Int) × (Nat → Int) × (Nat → Int) × (Nat → Int) × (Nat) × (Nat → Int) × (Nat → Int) × (Nat → Int) × (Nat → Int) × (Nat → Int) × (Nat) × (Nat → Int) × (Nat → Int) × (Nat → Int) × (Nat → Int) × (Nat → Nat → Int)
abbrev Vw.nH (S : Vw) : Nat := S.1
abbrev Vw.hP (S : Vw) : Nat → Int := S.2.1
abbrev Vw.hT (S : Vw) : Nat → Int := S.2.2.1
abbrev Vw.hK (S : Vw) : Nat → Int := S.2.2.2.1
abbrev Vw.hR (S : Vw) : Nat → Int := S.2.2.2.2.1
abbrev Vw.hKn (S : Vw) : Nat → Int := S.2.2.2.2.2.1
abbrev Vw.hS (S : Vw) : Nat → Int := S.2.2.2.2.2.2.1
abbrev Vw.nZ (S : Vw) : Nat := S.2.2.2.2.2.2.2.1
abbrev Vw.zero (S : Vw) : Nat → Int := S.2.2.2.2.2.2.2.2.1
abbrev Vw.zP (S : Vw) : Nat → Int := S.2.2.2.2.2.2.2.2.2.1
abbrev Vw.zZ (S : Vw) : Nat → Int := S.2.2.2.2.2.2.2.2.2.2.1
abbrev Vw.zF (S : Vw) : Nat → Int := S.2.2.2.2.2.2.2.2.2.2.2.1
abbrev Vw.zK (S : Vw) : Nat → Int := S.2.2.2.2.2.2.2.2.2.2.2.2.1
abbrev Vw.nS (S : Vw) : Nat := S.2.2.2.2.2.2.2.2.2.2.2.2.2.1
abbrev Vw.sP (S : Vw) : Nat → Int := S.2.2.2.2.2.2.2.2.2.2.2.2.2.2.1
abbrev Vw.sD (S : Vw) : Nat → Int := S.2.2.2.2.2.2.2.2.2.2.2.2.2.2.2.1
abbrev Vw.sT (S : Vw) : Nat → Int := S.2.2.2.2.2.2.2.2.2.2.2.2.2.2.2.2.1
abbrev Vw.sN (S : Vw) : Nat → Int := S.2.2.2.2.2.2.2.2.2.2.2.2.2.2.2.2.2.1
abbrev Vw.st (S : Vw) : Nat → Nat → Int := S.2.2.2.2.2.2.2.2.2.2.2.2.2.2.2.2.2.2
def St.vw (S : St) : Vw := ⟨S.nH, S.hP, S.hT, S.hK, S.hR, S.hKn, S.hS, S.nZ, S.zero, S.zP, S.zZ, S.zF, S.zK, S.nS, S.sP, S.sD, S.sT, S.sN, S.st⟩
/-- the zero: the latest from which it is known, and its value -/
def Vw.zAcc (V : Vw) (p u k : Int) : Nat → Int × Int
  | 0 => (-1, V.zero p.toNat)
  | n + 1 => if V.zP n = p ∧ V.zK n ≤ k ∧ V.zF n ≤ u ∧ (V.zAcc p u k n).1 ≤ V.zF n then (V.zF n, V.zZ n) else V.zAcc p u k n
def Vw.zeroOf (V : Vw) (p u k : Int) : Int := (V.zAcc p u k V.nZ).2
/-- the standard in force -/
def Vw.fAcc (V : Vw) (q dy k : Int) : Nat → Int
  | 0 => -1
  | n + 1 => if V.sP n = q ∧ V.sD n ≤ dy ∧ V.sT n ≤ k ∧ (V.fAcc q dy k n < 0 ∨ V.sD (V.fAcc q dy k n).toNat ≤ V.sD n) then (n : Int) else V.fAcc q dy k n
def Vw.inForce (V : Vw) (q dy k : Int) : Int := V.fAcc q dy k V.nS
section VW
variable {t F : Nat} {A : rz_A} {S : St} {a b c d e p u k q dy : Int}
theorem Vw.zAcc_low (V : Vw) (hz : ∀ i, i < V.nZ → 0 ≤ V.zF i) : ∀ n, n ≤ V.nZ → -1 ≤ (V.zAcc p u k n).1
  | 0, _ => by show (-1 : Int) ≤ -1; omega
  | n + 1, hn => by
    have ih := Vw.zAcc_low V hz n (by omega)
    have := hz n (by omega)
    unfold Vw.zAcc
    split
    · show -1 ≤ V.zF n; omega
    · exact ih
theorem zAcc_s (S : St) (p u k : Int) (i : Nat) : S.vw.zAcc p u k (i + 1) = if S.zP i = p ∧ S.zK i ≤ k ∧ S.zF i ≤ u ∧ (S.vw.zAcc p u k i).1 ≤ S.zF i then (S.zF i, S.zZ i) else S.vw.zAcc p u k i := rfl
theorem fAcc_s (S : St) (q dy k : Int) (i : Nat) : S.vw.fAcc q dy k (i + 1) = if S.sP i = q ∧ S.sD i ≤ dy ∧ S.sT i ≤ k ∧ (S.vw.fAcc q dy k i < 0 ∨ S.sD (S.vw.fAcc q dy k i).toNat ≤ S.sD i) then (i : Int) else S.vw.fAcc q dy k i := rfl
theorem zeroC_loop (h : RC A S) (hO : OK t S) : ∀ (n i : Nat), i ≤ S.nZ → S.nZ < n + i → x11_zeroOf_14 F n p u k (S.vw.zAcc p u k i).2 (S.vw.zAcc p u k i).1 i A = some ((S.vw.zAcc p u k S.nZ).2, A) := by
  have h1 := hO.nZ
  intro n
  induction n with
  | zero => intro i hi hn; omega
  | succ n ih =>
    intro i hi hn
    unfold x11_zeroOf_14
    simp only [h.nZ, h.zP, h.zK, h.zF, h.zZ, Int.toNat_natCast]
    by_cases hl : i < S.nZ
    · have ih' := ih (i + 1) (by omega) (by omega)
      have g32 : r32 ((i : Int) + 1) := by omega
      simp only [g32p g32]
      rw [if_pos (by omega), gxp (by omega) (by omega)]
      rw [zAcc_s] at ih'
      rw [show ((i + 1 : Nat) : Int) = (i : Int) + 1 from rfl] at ih'
      by_cases c1 : S.zP i = p ∧ S.zK i ≤ k ∧ S.zF i ≤ u ∧ (S.vw.zAcc p u k i).1 ≤ S.zF i
      · rw [if_pos c1] at ih'
        rw [if_pos c1.1, if_pos c1.2.1, if_pos c1.2.2.1, if_pos c1.2.2.2]
        exact ih'
      · rw [if_neg c1] at ih'
        repeat' split
        all_goals first | with_reducible exact ih' | (exfalso; omega)
    · have e : i = S.nZ := by omega
      subst e
      rw [if_neg (by omega)]
theorem zeroC (h : RC A S) (hO : OK t S) (hF : 1000 ≤ F) (hp : S.isP p) : x11_zeroOf F p u k A = some (S.vw.zeroOf p u k, A) := by
  have h1 := hO.nZ
  have h2 := hO.nP
  unfold x11_zeroOf
  rw [gxp (by omega) (by omega), h.zero]
  exact zeroC_loop h hO F 0 (by omega) (by omega)
theorem zeroM_loop (h : RM A S) (hO : OK t S) (hp : S.isP p) : ∀ (n i : Nat) (j : Int), i ≤ S.nZ → S.nZ < n + i → (j < 0 → S.vw.zAcc p u k i = (-1, S.zero p.toNat)) → (0 ≤ j → j < i ∧ S.vw.zAcc p u k i = (S.zF j.toNat, S.zZ j.toNat)) → x149_zeroOf_6 F n p u k j i A = some ((S.vw.zAcc p u k S.nZ).2, A) := by
  have h1 := hO.nZ
  have h2 := hO.nP
  intro n
  induction n with
  | zero => intro i j hi hn; omega
  | succ n ih =>
    intro i j hi hn hj1 hj2
    unfold x149_zeroOf_6 x149_zeroOf_80
    simp only [h.nZ, h.zP, h.zK, h.zF, h.zZ, h.zero, Int.toNat_natCast]
    by_cases hl : i < S.nZ
    · have hz := hO.z i hl
      have g32 : r32 ((i : Int) + 1) := by omega
      simp only [g32p g32]
      rw [if_pos (by omega), gxp (by omega) (by omega)]
      have ih1 := ih (i + 1) i (by omega) (by omega)
      have ih2 := ih (i + 1) j (by omega) (by omega)
      rw [zAcc_s] at ih1 ih2
      rw [show ((i + 1 : Nat) : Int) = (i : Int) + 1 from rfl] at ih1 ih2
      by_cases c1 : S.zP i = p ∧ S.zK i ≤ k ∧ S.zF i ≤ u ∧ (S.vw.zAcc p u k i).1 ≤ S.zF i
      · rw [if_pos c1] at ih1
        have g := ih1 (fun hh => by omega) (fun _ => ⟨by omega, by rw [Int.toNat_natCast]⟩)
        rw [if_pos c1.1, if_pos c1.2.1, if_pos c1.2.2.1]
        by_cases hj : 0 ≤ j
        · have e := (hj2 hj).2
          rw [if_pos hj, gxp (by omega) (by have := (hj2 hj).1; omega), if_pos (by have := c1.2.2.2; rw [e] at this; exact this)]
          exact g
        · rw [if_neg hj]
          exact g
      · rw [if_neg c1] at ih2
        have g := ih2 (fun hh => hj1 hh) (fun hh => ⟨by have := (hj2 hh).1; omega, (hj2 hh).2⟩)
        by_cases c2 : S.zP i = p ∧ S.zK i ≤ k ∧ S.zF i ≤ u
        · rw [if_pos c2.1, if_pos c2.2.1, if_pos c2.2.2]
          by_cases hj : 0 ≤ j
          · have e := (hj2 hj).2
            rw [if_pos hj, gxp (by omega) (by have := (hj2 hj).1; omega), if_neg (fun hh => c1 ⟨c2.1, c2.2.1, c2.2.2, by rw [e]; exact hh⟩)]
            exact g
          · have e := hj1 (by omega)
            exact absurd ⟨c2.1, c2.2.1, c2.2.2, by rw [e]; show (-1 : Int) ≤ S.zF i; omega⟩ c1
        · repeat' split
          all_goals first | with_reducible exact g | (exfalso; omega)
    · have e : i = S.nZ := by omega
      subst e
      rw [if_neg (by omega)]
      by_cases hj : 0 ≤ j
      · rw [if_neg (by omega), gxp (by omega) (by have := (hj2 hj).1; omega), (hj2 hj).2]
      · rw [if_pos (by omega), gxp (by omega) (by omega), hj1 (by omega)]
theorem zeroM (h : RM A S) (hO : OK t S) (hF : 1000 ≤ F) (hp : S.isP p) : x149_zeroOf F p u k A = some (S.vw.zeroOf p u k, A) := by
  have h1 := hO.nZ
  unfold x149_zeroOf
  exact zeroM_loop h hO hp F 0 (-1) (by omega) (by omega) (fun _ => rfl) (fun hh => by omega)
theorem Vw.fAcc_lt (V : Vw) : ∀ n : Nat, V.fAcc q dy k n < n ∧ -1 ≤ V.fAcc q dy k n
  | 0 => by unfold Vw.fAcc; omega
  | n + 1 => by
    have ih := Vw.fAcc_lt V n
    unfold Vw.fAcc
    split <;> omega
theorem forceC_loop (h : RC A S) (hO : OK t S) : ∀ (n i : Nat), i ≤ S.nS → S.nS < n + i → x22_inForce_6 F n q dy k (S.vw.fAcc q dy k i) i A = some (S.vw.fAcc q dy k S.nS, A) := by
  have h1 := hO.nS
  intro n
  induction n with
  | zero => intro i hi hn; omega
  | succ n ih =>
    intro i hi hn
    have hb := S.vw.fAcc_lt (q := q) (dy := dy) (k := k) i
    unfold x22_inForce_6
    simp only [h.nS, h.sP, h.sD, h.sT, Int.toNat_natCast]
    by_cases hl : i < S.nS
    · have ih' := ih (i + 1) (by omega) (by omega)
      have g32 : r32 ((i : Int) + 1) := by omega
      simp only [g32p g32]
      rw [if_pos (by omega), gxp (by omega) (by omega)]
      rw [fAcc_s] at ih'
      rw [show ((i + 1 : Nat) : Int) = (i : Int) + 1 from rfl] at ih'
      by_cases c1 : S.sP i = q ∧ S.sD i ≤ dy ∧ S.sT i ≤ k
      · rw [if_pos c1.1, if_pos c1.2.1, if_pos c1.2.2]
        by_cases c2 : 0 ≤ S.vw.fAcc q dy k i
        · rw [if_pos c2, gxp (by omega) (by omega)]
          by_cases c3 : S.sD (S.vw.fAcc q dy k i).toNat ≤ S.sD i
          · rw [if_pos ⟨c1.1, c1.2.1, c1.2.2, Or.inr c3⟩] at ih'
            rw [if_pos c3]
            exact ih'
          · rw [if_neg (by omega)] at ih'
            rw [if_neg c3]
            exact ih'
        · rw [if_pos ⟨c1.1, c1.2.1, c1.2.2, Or.inl (by omega)⟩] at ih'
          rw [if_neg c2]
          exact ih'
      · rw [if_neg (by omega)] at ih'
        repeat' split
        all_goals first | with_reducible exact ih' | (exfalso; omega)
    · have e : i = S.nS := by omega
      subst e
      rw [if_neg (by omega)]
theorem forceC (h : RC A S) (hO : OK t S) (hF : 1000 ≤ F) : x22_inForce F q dy k A = some (S.vw.inForce q dy k, A) := by
  have h1 := hO.nS
  unfold x22_inForce
  exact forceC_loop h hO F 0 (by omega) (by omega)
theorem forceM_loop (h : RM A S) (hO : OK t S) : ∀ (n i : Nat), i ≤ S.nS → S.nS < n + i → x155_inForce_6 F n q dy k (S.vw.fAcc q dy k i) i A = some (S.vw.fAcc q dy k S.nS, A) := by
  have h1 := hO.nS
  intro n
  induction n with
  | zero => intro i hi hn; omega
  | succ n ih =>
    intro i hi hn
    have hb := S.vw.fAcc_lt (q := q) (dy := dy) (k := k) i
    unfold x155_inForce_6
    simp only [h.nS, h.sP, h.sD, h.sT, Int.toNat_natCast]
    by_cases hl : i < S.nS
    · have ih' := ih (i + 1) (by omega) (by omega)
      have g32 : r32 ((i : Int) + 1) := by omega
      simp only [g32p g32]
      rw [if_pos (by omega), gxp (by omega) (by omega)]
      rw [fAcc_s] at ih'
      rw [show ((i + 1 : Nat) : Int) = (i : Int) + 1 from rfl] at ih'
      by_cases c1 : S.sP i = q ∧ S.sD i ≤ dy ∧ S.sT i ≤ k
      · rw [if_pos c1.1, if_pos c1.2.2, if_pos c1.2.1]
        by_cases c2 : 0 ≤ S.vw.fAcc q dy k i
        · rw [if_pos c2, gxp (by omega) (by omega)]
          by_cases c3 : S.sD (S.vw.fAcc q dy k i).toNat ≤ S.sD i
          · rw [if_pos ⟨c1.1, c1.2.1, c1.2.2, Or.inr c3⟩] at ih'
            rw [if_pos c3]
            exact ih'
          · rw [if_neg (by omega)] at ih'
            rw [if_neg c3]
            exact ih'
        · rw [if_pos ⟨c1.1, c1.2.1, c1.2.2, Or.inl (by omega)⟩] at ih'
          rw [if_neg c2]
          exact ih'
      · rw [if_neg (by omega)] at ih'
        repeat' split
        all_goals first | with_reducible exact ih' | (exfalso; omega)
    · have e : i = S.nS := by omega
      subst e
      rw [if_neg (by omega)]
theorem forceM (h : RM A S) (hO : OK t S) (hF : 1000 ≤ F) : x155_inForce F q dy k A = some (S.vw.inForce q dy k, A) := by
  have h1 := hO.nS
  unfold x155_inForce
  exact forceM_loop h hO F 0 (by omega) (by omega)
end VW
