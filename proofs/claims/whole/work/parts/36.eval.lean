set_option maxRecDepth 8000
/-! a TEXT reckoned -/
def holdV (v : Int) : Int := if v < -1000000000 then -1000000000 else if 1000000000 < v then 1000000000 else v
theorem holdV_b (v : Int) : -1000000000 ≤ holdV v ∧ holdV v ≤ 1000000000 := by
  unfold holdV
  repeat' split
  all_goals omega
def joinV (x a b : Int) : Int :=
  if x = -28 then holdV (a * b) else if x = -27 then holdV (a - b) else if x = -26 then holdV (a + b) else
  if x = -25 then (if b < a then 1 else 0) else if x = -24 then (if a = b then 1 else 0) else if x = -23 then (if a < b then 1 else 0) else
  if x = -21 then (if a = 0 then 0 else if b = 0 then 0 else 1) else (if a = 0 then (if b = 0 then 0 else 1) else 1)
def evS (L : Nat → Int) (x : Int) (e : (Nat → Int) × Nat) : (Nat → Int) × Nat :=
  if 0 ≤ x then (up e.1 e.2 x, e.2 + 1) else if -13 ≤ x then (up e.1 e.2 (L (-1 - x).toNat), e.2 + 1) else
  if x = -20 then (up e.1 (e.2 - 1) (1 - e.1 (e.2 - 1)), e.2) else (up e.1 (e.2 - 2) (joinV x (e.1 (e.2 - 2)) (e.1 (e.2 - 1))), e.2 - 1)
def evN (L : Nat → Int) (f : Nat → Int) : Nat → (Nat → Int) × Nat
  | 0 => (fun _ => 0, 0)
  | n + 1 => evS L (f n) (evN L f n)
def stOK (f : Nat → Int) : List Bool → Prop
  | [] => True
  | b :: s => (if b = true then f s.length = 0 ∨ f s.length = 1 else -1000000000 ≤ f s.length ∧ f s.length ≤ 1000000000) ∧ stOK f s
theorem stOK_bd {f : Nat → Int} {b1 b2 : Bool} {r : List Bool} (h : stOK f (b1 :: b2 :: r)) : (-1000000000 ≤ f (r.length + 1) ∧ f (r.length + 1) ≤ 1000000000) ∧ -1000000000 ≤ f r.length ∧ f r.length ≤ 1000000000 := by
  obtain ⟨h1, h2, _⟩ := h
  constructor
  · have e : (b2 :: r).length = r.length + 1 := rfl
    rw [e] at h1
    split at h1
    · omega
    · exact h1
  · split at h2
    · omega
    · exact h2
theorem stOK_up {f : Nat → Int} {k : Nat} {v : Int} : ∀ s : List Bool, s.length ≤ k → stOK f s → stOK (up f k v) s
  | [], _, _ => trivial
  | b :: s, hl, h => by
    have hl2 : s.length + 1 ≤ k := hl
    refine ⟨?_, stOK_up s (by omega) h.2⟩
    have e : up f k v s.length = f s.length := up_ne (by omega)
    rw [e]
    exact h.1
theorem tyStep_cases {x : Int} {s s' : List Bool} (h : tyStep x s = some s') : (-13 ≤ x ∧ s' = false :: s) ∨ (x = -20 ∧ ∃ r, s = true :: r ∧ s' = true :: r) ∨ ((x = -21 ∨ x = -22) ∧ ∃ r, s = true :: true :: r ∧ s' = true :: r) ∨ ((x = -23 ∨ x = -24 ∨ x = -25) ∧ ∃ r, s = false :: false :: r ∧ s' = true :: r) ∨ ((x = -26 ∨ x = -27 ∨ x = -28) ∧ ∃ r, s = false :: false :: r ∧ s' = false :: r) := by
  unfold tyStep at h
  split at h
  · cases h; exact Or.inl ⟨by assumption, rfl⟩
  · split at h
    · refine Or.inr (Or.inl ⟨by assumption, ?_⟩)
      split at h
      · cases h; exact ⟨_, rfl, rfl⟩
      · cases h
    · split at h
      · refine Or.inr (Or.inr (Or.inl ⟨by assumption, ?_⟩))
        split at h
        · cases h; exact ⟨_, rfl, rfl⟩
        · cases h
      · split at h
        · refine Or.inr (Or.inr (Or.inr (Or.inl ⟨by assumption, ?_⟩)))
          split at h
          · cases h; exact ⟨_, rfl, rfl⟩
          · cases h
        · split at h
          · refine Or.inr (Or.inr (Or.inr (Or.inr ⟨by assumption, ?_⟩)))
            split at h
            · cases h; exact ⟨_, rfl, rfl⟩
            · cases h
          · cases h
theorem tyN_s {f : Nat → Int} {n : Nat} {s : List Bool} (h : tyN f (n + 1) = some s) : ∃ r, tyN f n = some r ∧ tyStep (f n) r = some s := by
  unfold tyN at h
  cases e : tyN f n with
  | none => rw [e] at h; cases h
  | some r => rw [e] at h; exact ⟨r, rfl, h⟩
theorem tyN_pre {f : Nat → Int} : ∀ {n : Nat} {s : List Bool}, tyN f n = some s → ∀ i, i ≤ n → ∃ r, tyN f i = some r
  | 0, s, h, i, hi => by
    have : i = 0 := by omega
    subst this
    exact ⟨s, h⟩
  | n + 1, s, h, i, hi => by
    by_cases e : i = n + 1
    · subst e; exact ⟨s, h⟩
    · obtain ⟨r, h1, h2⟩ := tyN_s h
      exact tyN_pre h1 i (by omega)
theorem tyN_len {f : Nat → Int} : ∀ {n : Nat} {s : List Bool}, tyN f n = some s → s.length ≤ n
  | 0, s, h => by cases h; exact Nat.le_refl 0
  | n + 1, s, h => by
    obtain ⟨r, h1, h2⟩ := tyN_s h
    have ih := tyN_len h1
    rcases tyStep_cases h2 with ⟨_, rfl⟩ | ⟨_, r', rfl, rfl⟩ | ⟨_, r', rfl, rfl⟩ | ⟨_, r', rfl, rfl⟩ | ⟨_, r', rfl, rfl⟩
    all_goals simp only [List.length_cons] at ih ⊢
    all_goals omega
theorem joinV_log {x a b : Int} (h : x = -21 ∨ x = -22 ∨ x = -23 ∨ x = -24 ∨ x = -25) : joinV x a b = 0 ∨ joinV x a b = 1 := by
  unfold joinV
  repeat' split
  all_goals omega
theorem joinV_num {x a b : Int} (h : x = -26 ∨ x = -27 ∨ x = -28) : -1000000000 ≤ joinV x a b ∧ joinV x a b ≤ 1000000000 := by
  unfold joinV
  have h1 := holdV_b (a * b)
  have h2 := holdV_b (a - b)
  have h3 := holdV_b (a + b)
  split
  · exact h1
  · split
    · exact h2
    · rw [if_pos (by omega)]; exact h3
theorem evN_s (L f : Nat → Int) (n : Nat) : evN L f (n + 1) = evS L (f n) (evN L f n) := rfl
/-- the pile of a TEXT that is typed -/
theorem ev_ok {L f : Nat → Int} {n : Nat} (hL : ∀ j, j < 13 → -1000000000 ≤ L j ∧ L j ≤ 1000000000) (hf : ∀ i, i < n → -28 ≤ f i ∧ f i ≤ 99999) : ∀ {i : Nat} {s : List Bool}, i ≤ n → tyN f i = some s → (evN L f i).2 = s.length ∧ stOK (evN L f i).1 s := by
  intro i
  induction i with
  | zero => intro s hi h; cases h; exact ⟨rfl, trivial⟩
  | succ i ih =>
    intro s hi h
    obtain ⟨r, h1, h2⟩ := tyN_s h
    obtain ⟨e1, e2⟩ := ih (by omega) h1
    have hb := hf i (by omega)
    rw [evN_s]
    generalize evN L f i = e at e1 e2 ⊢
    generalize f i = x at h2 hb ⊢
    unfold evS
    rcases tyStep_cases h2 with ⟨hx, rfl⟩ | ⟨hx, r', rfl, rfl⟩ | ⟨hx, r', rfl, rfl⟩ | ⟨hx, r', rfl, rfl⟩ | ⟨hx, r', rfl, rfl⟩
    · by_cases h0 : 0 ≤ x
      · rw [if_pos h0]
        refine ⟨by show e.2 + 1 = r.length + 1; omega, ?_, stOK_up r (by show r.length ≤ e.2; omega) e2⟩
        rw [if_neg (by decide)]
        have : up e.1 e.2 x r.length = x := by rw [← e1]; exact up_same
        show -1000000000 ≤ up e.1 e.2 x r.length ∧ up e.1 e.2 x r.length ≤ 1000000000
        rw [this]
        omega
      · rw [if_neg h0, if_pos hx]
        refine ⟨by show e.2 + 1 = r.length + 1; omega, ?_, stOK_up r (by show r.length ≤ e.2; omega) e2⟩
        rw [if_neg (by decide)]
        have : up e.1 e.2 (L (-1 - x).toNat) r.length = L (-1 - x).toNat := by rw [← e1]; exact up_same
        show -1000000000 ≤ up e.1 e.2 (L (-1 - x).toNat) r.length ∧ up e.1 e.2 (L (-1 - x).toNat) r.length ≤ 1000000000
        rw [this]
        exact hL _ (by omega)
    · rw [if_neg (by omega), if_neg (by omega), if_pos hx]
      have e1' : e.2 = r'.length + 1 := e1
      have g1 := e2.1
      rw [if_pos rfl] at g1
      refine ⟨e1', ?_, stOK_up r' (by show r'.length ≤ e.2 - 1; omega) e2.2⟩
      rw [if_pos rfl]
      have : up e.1 (e.2 - 1) (1 - e.1 (e.2 - 1)) r'.length = 1 - e.1 r'.length := by
        rw [show e.2 - 1 = r'.length by omega]; exact up_same
      show up e.1 (e.2 - 1) (1 - e.1 (e.2 - 1)) r'.length = 0 ∨ up e.1 (e.2 - 1) (1 - e.1 (e.2 - 1)) r'.length = 1
      rw [this]
      omega
    all_goals
      rw [if_neg (by omega), if_neg (by omega), if_neg (by omega)]
      have e1' : e.2 = r'.length + 1 + 1 := e1
      refine ⟨by show e.2 - 1 = r'.length + 1; omega, ?_, stOK_up r' (by show r'.length ≤ e.2 - 2; omega) e2.2.2⟩
      have : up e.1 (e.2 - 2) (joinV x (e.1 (e.2 - 2)) (e.1 (e.2 - 1))) r'.length = joinV x (e.1 (e.2 - 2)) (e.1 (e.2 - 1)) := by
        rw [show r'.length = e.2 - 2 by omega]; exact up_same
    · rw [if_pos rfl]
      show up e.1 (e.2 - 2) (joinV x (e.1 (e.2 - 2)) (e.1 (e.2 - 1))) r'.length = 0 ∨ up e.1 (e.2 - 2) (joinV x (e.1 (e.2 - 2)) (e.1 (e.2 - 1))) r'.length = 1
      rw [this]
      exact joinV_log (by omega)
    · rw [if_pos rfl]
      show up e.1 (e.2 - 2) (joinV x (e.1 (e.2 - 2)) (e.1 (e.2 - 1))) r'.length = 0 ∨ up e.1 (e.2 - 2) (joinV x (e.1 (e.2 - 2)) (e.1 (e.2 - 1))) r'.length = 1
      rw [this]
      exact joinV_log (by omega)
    · rw [if_neg (by decide)]
      show -1000000000 ≤ up e.1 (e.2 - 2) (joinV x (e.1 (e.2 - 2)) (e.1 (e.2 - 1))) r'.length ∧ up e.1 (e.2 - 2) (joinV x (e.1 (e.2 - 2)) (e.1 (e.2 - 1))) r'.length ≤ 1000000000
      rw [this]
      exact joinV_num (by omega)
/-- what a standard says -/
def Vw.says (V : Vw) (s : Nat) (L : Nat → Int) : Int := if (evN L (V.st s) (V.sN s).toNat).1 0 = 0 then 0 else 1
section EVAL
variable {t F : Nat} {A : rz_A} {S : St} {a b c d e p u k q dy x : Int}
theorem heldC : x27_held F a A = some (holdV a, A) := by
  have h := holdV_b a
  unfold x27_held x28_min x29_max
  unfold holdV at h ⊢
  by_cases h1 : 1000000000 ≤ a
  · rw [if_pos h1]
    simp only [rz_b_some]
    rw [if_neg (by omega)]
    simp only [rz_b_some]
    rw [g32p (by omega), if_neg (by omega)]
    by_cases h2 : 1000000000 < a
    · rw [if_pos h2]
    · rw [if_neg h2, show a = 1000000000 by omega]
  · rw [if_neg h1]
    simp only [rz_b_some]
    by_cases h2 : a ≤ -1000000000
    · rw [if_pos h2]
      simp only [rz_b_some]
      rw [g32p (by omega)]
      by_cases h3 : a < -1000000000
      · rw [if_pos h3]
      · rw [if_neg h3, if_neg (by omega), show a = -1000000000 by omega]
    · rw [if_neg h2]
      simp only [rz_b_some]
      rw [g32p (by omega), if_neg (by omega), if_neg (by omega)]
theorem mul_b {a b : Int} (ha : -1000000000 ≤ a ∧ a ≤ 1000000000) (hb : -1000000000 ≤ b ∧ b ≤ 1000000000) : r64 (a * b) := by
  have h1 : a.natAbs ≤ 1000000000 := by omega
  have h2 : b.natAbs ≤ 1000000000 := by omega
  have h3 := Nat.mul_le_mul h1 h2
  rw [← Int.natAbs_mul] at h3
  omega
theorem joinedC (ha : -1000000000 ≤ a ∧ a ≤ 1000000000) (hb : -1000000000 ≤ b ∧ b ≤ 1000000000) : x26_joined F x a b A = some (joinV x a b, A) := by
  have h1 := mul_b ha hb
  unfold x26_joined joinV
  simp only [heldC]
  split
  · rw [g64p h1, rz_b_some]
  · split
    · rw [g64p (by omega), rz_b_some]
    · split
      · rw [g64p (by omega), rz_b_some]
      · repeat' split
        all_goals rfl
theorem heldM : x159_held F a A = some (holdV a, A) := by
  unfold x159_held holdV
  repeat' split
  all_goals rfl
theorem RC_50 {j : Nat} {v : Int} (h : RC A S) : RC (aI A 50 j v) S := (RC.of ⟨(RC.now h :), (RC.limit h :), (RC.nP h :), (RC.nZ h :), (RC.nH h :), (RC.nF h :), (RC.nU h :), (RC.nS h :), (RC.nB h :), (RC.nT h :), (RC.nR h :), (RC.zero h :), (RC.low h :), (RC.beside h :), (RC.stN h :), (RC.stF0 h :), (RC.stF1 h :), (RC.stF2 h :), (RC.stF3 h :), (RC.stF4 h :), (RC.stF5 h :), (RC.bN0 h :), (RC.bN1 h :), (RC.bN2 h :), (RC.bN3 h :), (RC.bN4 h :), (RC.bN5 h :), (RC.bH0 h :), (RC.bH1 h :), (RC.bH2 h :), (RC.bH3 h :), (RC.bH4 h :), (RC.bH5 h :), (RC.bF0 h :), (RC.bF1 h :), (RC.bF2 h :), (RC.bF3 h :), (RC.bF4 h :), (RC.bF5 h :), (RC.zP h :), (RC.zZ h :), (RC.zF h :), (RC.zK h :), (RC.hP h :), (RC.hT h :), (RC.hK h :), (RC.hR h :), (RC.hKn h :), (RC.hS h :), (RC.hSm h :), (RC.fP h :), (RC.fT h :), (RC.fN h :), (RC.fW h :), (RC.fKn h :), (RC.fS h :), (RC.uP h :), (RC.uK h :), (RC.uF h :), (RC.uT h :), (RC.uM h :), (RC.uKn h :), (RC.sP h :), (RC.sD h :), (RC.sT h :), (RC.sN h :), (RC.st h :), (RC.pP h :), (RC.pT h :), (RC.pF h :), (RC.tB h :), (RC.rB h :), (RC.ref h :), (RC.ordR h :), (RC.ordS h :), (RC.ordA h :)⟩)
/-- a standard's TEXT, by the class -/
theorem holdsC_loop (hO : OK t S) {s : Nat} (hs : s < S.nS) {L : Nat → Int} (hL : ∀ j, j < 13 → -1000000000 ≤ L j ∧ L j ≤ 1000000000) : ∀ (n i : Nat) (A : rz_A), RC A S → (∀ j, j < 13 → A.1 49 j = L j) → (∀ j, j < (evN L (S.st s) i).2 → A.1 50 j = (evN L (S.st s) i).1 j) → i ≤ (S.sN s).toNat → (S.sN s).toNat < n + i → Ret (x25_holds_10 F n s ((s : Int) * 60) (evN L (S.st s) i).2 ((s : Int) * 60 + i) A) (S.vw.says s L) (fun _ => True) := by
  have hS := hO.s s hs
  have hv := hO.sv s
  have hn := hO.nS
  have hf : ∀ i, i < (S.sN s).toNat → -28 ≤ S.st s i ∧ S.st s i ≤ 99999 := fun i hi => hv i hs (by omega)
  intro n
  induction n with
  | zero => intro i A h h1 h2 h3 h4; omega
  | succ n ih =>
    intro i A h hLt hpile hi hn2
    obtain ⟨ty, hty⟩ := tyN_pre hS.2.2.2.2 i hi
    obtain ⟨e1, e2⟩ := ev_ok hL hf hi hty
    have hlen := tyN_len hty
    unfold x25_holds_10
    rw [gxp (by omega) (by omega), h.sN, Int.toNat_natCast, g32p (by omega)]
    by_cases hl : i < (S.sN s).toNat
    · rw [if_pos (by omega), gxp (by omega) (by omega)]
      have hx : A.1 48 ((s : Int) * 60 + i).toNat = S.st s i := by
        rw [show ((s : Int) * 60 + i).toNat = 60 * s + i by omega]
        exact h.st s i hs (by omega)
      simp only [hx]
      obtain ⟨ty', hty'⟩ := tyN_pre hS.2.2.2.2 (i + 1) (by omega)
      obtain ⟨r0, g1, g2⟩ := tyN_s hty'
      rw [hty] at g1
      cases g1
      have hb := hf i hl
      have ihn := fun A' => ih (i + 1) A'
      rw [evN_s] at ihn
      generalize S.st s i = x at hx g2 hb ihn ⊢
      generalize evN L (S.st s) i = ee at hpile e1 e2 ihn ⊢
      unfold evS at ihn
      have e49 : ∀ (j : Nat) (v : Int), (aI A 50 j v).1 49 = A.1 49 := fun _ _ => rfl
      have hup : ∀ (k j : Nat) (v : Int), (aI A 50 k v).1 50 j = up (A.1 50) k v j := fun _ _ _ => rfl
      have hcast : ((s : Int) * 60 + i) + 1 = (s : Int) * 60 + ((i + 1 : Nat) : Int) := by omega
      rcases tyStep_cases g2 with ⟨hx1, rfl⟩ | ⟨hx1, r', rfl, rfl⟩ | ⟨hx1, r', rfl, rfl⟩ | ⟨hx1, r', rfl, rfl⟩ | ⟨hx1, r', rfl, rfl⟩
      · rw [if_pos hx1, if_neg (by omega)]
        by_cases h0 : 0 ≤ x
        · rw [if_pos h0, gxp (by omega) (by omega), g32p (by omega), g32p (by omega), Int.toNat_natCast, hcast]
          rw [if_pos h0] at ihn
          refine ihn _ (RC_50 h) hLt (fun j hj => ?_) (by omega) (by omega)
          rw [hup]
          have hj' : j < ee.2 + 1 := hj
          show up (A.1 50) ee.2 x j = up ee.1 ee.2 x j
          unfold up
          split
          · rfl
          · exact hpile j (by omega)
        · have hlt := hLt (-1 - x).toNat (by omega)
          rw [if_neg h0, g32p (by omega), gxp (by omega) (by omega), gxp (by omega) (by omega), g32p (by omega), g32p (by omega), Int.toNat_natCast, hcast, hlt]
          rw [if_neg h0, if_pos hx1] at ihn
          refine ihn _ (RC_50 h) hLt (fun j hj => ?_) (by omega) (by omega)
          rw [hup]
          have hj' : j < ee.2 + 1 := hj
          show up (A.1 50) ee.2 (L (-1 - x).toNat) j = up ee.1 ee.2 (L (-1 - x).toNat) j
          unfold up
          split
          · rfl
          · exact hpile j (by omega)
      · rw [if_neg (by omega), if_pos hx1]
        have e1' : ee.2 = r'.length + 1 := e1
        have hz := e2.1
        rw [if_pos rfl] at hz
        have hp1 := hpile (ee.2 - 1) (by omega)
        have ht : ((ee.2 : Int) - 1).toNat = ee.2 - 1 := by omega
        have hp2 : ee.1 (ee.2 - 1) = ee.1 r'.length := by rw [show ee.2 - 1 = r'.length by omega]
        rw [if_neg (by omega), g32p (by omega), gxp (by omega) (by omega), ht, hp1, g32p (by omega), g32p (by omega), hcast]
        rw [if_neg (by omega), if_neg (by omega), if_pos hx1] at ihn
        refine ihn _ (RC_50 h) hLt (fun j hj => ?_) (by omega) (by omega)
        rw [hup]
        have hj' : j < ee.2 := hj
        show up (A.1 50) (ee.2 - 1) (1 - ee.1 (ee.2 - 1)) j = up ee.1 (ee.2 - 1) (1 - ee.1 (ee.2 - 1)) j
        unfold up
        split
        · rfl
        · exact hpile j hj'
      all_goals
        rw [if_neg (by omega), if_neg (by omega)]
        have e1' : ee.2 = r'.length + 1 + 1 := e1
        have hp1 := hpile (ee.2 - 1) (by omega)
        have hp2 := hpile (ee.2 - 2) (by omega)
        have t1 : ((ee.2 : Int) + (-1)).toNat = ee.2 - 1 := by omega
        have t2 : ((ee.2 : Int) + (-1) - 1).toNat = ee.2 - 2 := by omega
        have bb := stOK_bd e2
        have l1 : ee.2 - 1 = r'.length + 1 := by omega
        have l2 : ee.2 - 2 = r'.length := by omega
        have b1 : -1000000000 ≤ ee.1 (ee.2 - 1) ∧ ee.1 (ee.2 - 1) ≤ 1000000000 := by rw [l1]; exact bb.1
        have b2 : -1000000000 ≤ ee.1 (ee.2 - 2) ∧ ee.1 (ee.2 - 2) ≤ 1000000000 := by rw [l2]; exact bb.2
        rw [if_neg (by omega), g32p (by omega), g32p (by omega), gxp (by omega) (by omega), gxp (by omega) (by omega), t1, t2, hp1, hp2, joinedC b2 b1]
        simp only [rz_b_some]
        rw [g32p (by omega), hcast]
        rw [if_neg (by omega), if_neg (by omega), if_neg (by omega)] at ihn
        have ec : (ee.2 : Int) + (-1) = ((ee.2 - 1 : Nat) : Int) := by omega
        rw [ec]
        refine ihn _ (RC_50 h) hLt (fun j hj => ?_) (by omega) (by omega)
        rw [hup]
        have hj' : j < ee.2 - 1 := hj
        show up (A.1 50) (ee.2 - 2) (joinV x (ee.1 (ee.2 - 2)) (ee.1 (ee.2 - 1))) j = up ee.1 (ee.2 - 2) (joinV x (ee.1 (ee.2 - 2)) (ee.1 (ee.2 - 1))) j
        unfold up
        split
        · rfl
        · exact hpile j (by omega)
    · have ei : i = (S.sN s).toNat := by omega
      subst ei
      rw [if_neg (by omega)]
      have hT := hS.2.2.2.2
      rw [hty] at hT
      cases hT
      have e0 : (evN L (S.st s) (S.sN s).toNat).2 = 1 := e1
      have hp := hpile 0 (by omega)
      unfold x25_holds_158 Vw.says
      rw [if_pos (by omega), hp]
      show Ret _ (if (evN L (S.st s) (S.sN s).toNat).1 0 = 0 then (0 : Int) else 1) _
      split
      · exact Ret.mk trivial
      · exact Ret.mk trivial
theorem holdsC (h : RC A S) (hO : OK t S) (hF : 1000 ≤ F) {s : Nat} (hs : s < S.nS) {L : Nat → Int} (hL : ∀ j, j < 13 → -1000000000 ≤ L j ∧ L j ≤ 1000000000) (hA : ∀ j, j < 13 → A.1 49 j = L j) : Ret (x25_holds F s A) (S.vw.says s L) (fun _ => True) := by
  have hn := hO.nS
  have hS := hO.s s hs
  unfold x25_holds
  rw [g32p (by omega)]
  have := holdsC_loop (F := F) hO hs hL F 0 A h hA (fun j hj => absurd hj (Nat.not_lt_zero j)) (by omega) (by omega)
  rw [show (s : Int) * 60 + ((0 : Nat) : Int) = (s : Int) * 60 by omega] at this
  exact this
end EVAL
