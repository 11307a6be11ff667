set_option maxRecDepth 8000
/-! sets of BREAKS -/
def bcs (v : Int) : Nat → Int
  | 0 => 0
  | y + 1 => bcs v y + bitE v y
theorem bcs_s (v : Int) (y : Nat) : bcs v (y + 1) = bcs v y + bitE v y := rfl
theorem bcs_ok : ∀ n, n < 128 → (rz_bc (Int32.ofInt ((n : Nat) : Int))).toInt = bcs n 8 ∧ 0 ≤ bcs n 8 ∧ bcs n 8 ≤ 7 := by decide +kernel
theorem bit_hi : ∀ n, n < 128 → ∀ y, y < 8 → n < 2 ^ y → bitE ((n : Nat) : Int) y = 0 := by decide +kernel
theorem shl_ok : ∀ k, k < 8 → rz_oI fShl 1 ((k : Nat) : Int) = ((2 ^ k : Nat) : Int) := by decide +kernel
theorem bcs_le (v : Int) : ∀ {y : Nat} (x : Nat), x ≤ y → y ≤ 8 → bcs v x ≤ bcs v y := by
  intro y
  induction y with
  | zero => intro x hx _; have : x = 0 := by omega
            subst this; omega
  | succ y ih =>
    intro x hx hy
    by_cases e : x = y + 1
    · subst e; omega
    · have h1 := ih x (by omega) (by omega)
      have h2 := bitE_01 v (y := y) (by omega)
      rw [bcs_s]
      omega
theorem bcs_hi {n m : Nat} (hn : n < 128) (hm : n < 2 ^ m) : ∀ y, m ≤ y → y ≤ 8 → bcs n y = bcs n m := by
  intro y
  induction y with
  | zero => intro h _; have : m = 0 := by omega
            subst this; rfl
  | succ y ih =>
    intro h1 h2
    by_cases e : m = y + 1
    · subst e; rfl
    · have hp : 2 ^ m ≤ 2 ^ y := Nat.pow_le_pow_right (by omega) (by omega)
      rw [bcs_s, ih (by omega) (by omega), bit_hi n hn y (by omega) (by omega)]
      omega
noncomputable def St.shF (S : St) (p : Int) (a b : Nat) : Nat → Nat → Int
  | 0, _ => 99
  | n + 1, i => if S.rgo p (-(i : Int)) a b = true then -(i : Int) else if S.rgo p i a b = true then (i : Int) else S.shF p a b n (i + 1)
noncomputable def St.sh (S : St) (p : Int) (a b : Nat) : Int := S.shF p a b 51 0
theorem shF_99 (S : St) (p : Int) (a b : Nat) : ∀ n i : Nat, i + n = 51 → (S.shF p a b n i = 99 ↔ ∀ k : Nat, i ≤ k → k < 51 → S.rgo p (-(k : Int)) a b = false ∧ S.rgo p k a b = false) ∧ -50 ≤ S.shF p a b n i ∧ S.shF p a b n i ≤ 99
  | 0, i, h => ⟨⟨fun _ k h1 h2 => by omega, fun _ => rfl⟩, by show -50 ≤ (99 : Int); omega, by show (99 : Int) ≤ 99; omega⟩
  | n + 1, i, h => by
    obtain ⟨ih, ih2⟩ := shF_99 S p a b n (i + 1) (by omega)
    unfold St.shF
    by_cases c1 : S.rgo p (-(i : Int)) a b = true
    · rw [if_pos c1]
      refine ⟨⟨fun hh => by omega, fun hh => ?_⟩, by omega, by omega⟩
      have := (hh i (Nat.le_refl _) (by omega)).1
      rw [c1] at this; cases this
    · rw [if_neg c1]
      by_cases c2 : S.rgo p i a b = true
      · rw [if_pos c2]
        refine ⟨⟨fun hh => by omega, fun hh => ?_⟩, by omega, by omega⟩
        have := (hh i (Nat.le_refl _) (by omega)).2
        rw [c2] at this; cases this
      · rw [if_neg c2]
        refine ⟨⟨fun hh k h1 h2 => ?_, fun hh => ih.mpr (fun k h1 h2 => hh k (by omega) h2)⟩, ih2⟩
        by_cases e : k = i
        · rw [e]
          exact ⟨by simpa using c1, by simpa using c2⟩
        · exact ih.mp hh k (by omega) h2
theorem sh_99 (S : St) (p : Int) (a b : Nat) : S.sh p a b = 99 ↔ ∀ s : Int, -50 ≤ s → s ≤ 50 → S.rgB p s a (b + 1 - a) = false := by
  rw [St.sh, (shF_99 S p a b 51 0 (by omega)).1]
  constructor
  · intro h s h1 h2
    by_cases c : 0 ≤ s
    · have := (h s.toNat (by omega) (by omega)).2
      unfold St.rgo at this
      rw [show ((s.toNat : Nat) : Int) = s by omega, decide_eq_true ⟨h1, h2⟩, Bool.true_and] at this
      exact this
    · have := (h (-s).toNat (by omega) (by omega)).1
      unfold St.rgo at this
      rw [show -(((-s).toNat : Nat) : Int) = s by omega, decide_eq_true ⟨h1, h2⟩, Bool.true_and] at this
      exact this
  · intro h k _ h2
    unfold St.rgo
    rw [h (-(k : Int)) (by omega) (by omega), h k (by omega) (by omega)]
    exact ⟨Bool.and_false _, Bool.and_false _⟩
theorem sh_mono (S : St) (p : Int) {a i : Nat} (ha : a ≤ i) (h : S.sh p a i = 99) : S.sh p a (i + 1) = 99 := by
  rw [sh_99] at h ⊢
  intro s h1 h2
  have := h s h1 h2
  rw [show i + 1 + 1 - a = (i + 1 - a) + 1 by omega]
  show (S.rgB p s a (i + 1 - a) && _) = false
  rw [this]; rfl
noncomputable def St.gaF (S : St) (p set : Int) (m : Nat) : Nat → Nat → Nat → Bool
  | 0, _, _ => true
  | n + 1, a, b => if b + 1 < m ∧ bitE set b = 0 then S.gaF p set m n a (b + 1) else if S.sh p a b = 99 then false else S.gaF p set m n (b + 1) (b + 1)
theorem gaF_no (S : St) (p set : Int) (m : Nat) : ∀ (n a i : Nat), i + n = m → 0 < n → a ≤ i → S.sh p a i = 99 → S.gaF p set m n a i = false
  | 0, a, i, _, h, _, _ => absurd h (by omega)
  | n + 1, a, i, h, _, ha, hE => by
    unfold St.gaF
    by_cases c : i + 1 < m ∧ bitE set i = 0
    · rw [if_pos c]
      exact gaF_no S p set m n a (i + 1) (by omega) (by omega) (by omega) (sh_mono S p ha hE)
    · rw [if_neg c, if_pos hE]
/-! runs: those whose count of breaks ahead is r -/
noncomputable def St.rw' (S : St) (p set : Int) (m : Nat) (r s : Int) : Bool := decide (-50 ≤ s ∧ s ≤ 50 ∧ ∀ i, i < m → bcs set i = r → S.gs p i s = true)
/-- a run from a to b -/
def Run (set : Int) (m : Nat) (a : Nat) (b : Nat) : Prop := (a ≤ b) ∧ (b < m) ∧ (∀ i, a ≤ i → i ≤ b → bcs set i = bcs set b) ∧ (∀ i, i < a → bcs set i < bcs set b)
theorem Run.of {set : Int} {m : Nat} {a : Nat} {b : Nat} (h : (a ≤ b) ∧ (b < m) ∧ (∀ i, a ≤ i → i ≤ b → bcs set i = bcs set b) ∧ (∀ i, i < a → bcs set i < bcs set b)) : Run set m a b := h
theorem Run.ab {set : Int} {m : Nat} {a : Nat} {b : Nat} (h : Run set m a b) : a ≤ b := h.1
theorem Run.bm {set : Int} {m : Nat} {a : Nat} {b : Nat} (h : Run set m a b) : b < m := h.2.1
theorem Run.inn {set : Int} {m : Nat} {a : Nat} {b : Nat} (h : Run set m a b) : ∀ i, a ≤ i → i ≤ b → bcs set i = bcs set b := h.2.2.1
theorem Run.ahd {set : Int} {m : Nat} {a : Nat} {b : Nat} (h : Run set m a b) : ∀ i, i < a → bcs set i < bcs set b := h.2.2.2
theorem Run.rgo {S : St} {p set s : Int} {m a b : Nat} (h : Run set m a b) (hm : m ≤ 8) (he : ¬ (b + 1 < m ∧ bitE set b = 0)) : S.rgo p s a b = S.rw' p set m (bcs set b) s := by
  unfold St.rgo St.rw'
  have hab := h.ab
  rw [Bool.eq_iff_iff, Bool.and_eq_true, decide_eq_true_eq, rgB_all, decide_eq_true_eq]
  constructor
  · rintro ⟨h1, h2⟩
    refine ⟨h1.1, h1.2, fun i hi hr => h2 i ?_ ?_⟩
    · by_cases c : a ≤ i
      · exact c
      · have := h.ahd i (by omega); omega
    · by_cases c : i ≤ b
      · omega
      · have hb := bitE_01 set (y := b) (by have := h.bm; omega)
        have h5 := bcs_le set (y := i) (b + 1) (by omega) (by omega)
        rw [bcs_s] at h5
        have : bitE set b ≠ 0 := fun hh => he ⟨by omega, hh⟩
        omega
  · rintro ⟨h1, h2, h3⟩
    exact ⟨⟨h1, h2⟩, fun j h4 h5 => h3 j (by have := h.bm; omega) (h.inn j h4 (by omega))⟩
theorem Run.more {set : Int} {m a b : Nat} (h : Run set m a b) (hc : b + 1 < m ∧ bitE set b = 0) : Run set m a (b + 1) ∧ bcs set (b + 1) = bcs set b := by
  have e : bcs set (b + 1) = bcs set b := by rw [bcs_s, hc.2]; omega
  refine ⟨Run.of ⟨by have := h.ab; omega, hc.1, fun i h1 h2 => ?_, fun i hi => by rw [e]; exact h.ahd i hi⟩, e⟩
  rw [e]
  by_cases c : i = b + 1
  · rw [c, e]
  · exact h.inn i h1 (by omega)
theorem Run.new {set : Int} {m a b : Nat} (h : Run set m a b) (hm : m ≤ 8) (hb : b + 1 < m) (hc : bitE set b ≠ 0) : Run set m (b + 1) (b + 1) ∧ bcs set (b + 1) = bcs set b + 1 := by
  have h1 := bitE_01 set (y := b) (by omega)
  have e : bcs set (b + 1) = bcs set b + 1 := by rw [bcs_s]; omega
  refine ⟨Run.of ⟨Nat.le_refl _, hb, fun i h1 h2 => by rw [show i = b + 1 by omega], fun i hi => ?_⟩, e⟩
  have := bcs_le set (y := b) i (by omega) (by omega)
  omega
/-! the fewest -/
noncomputable def St.sk (S : St) (p : Int) : Nat → Int × Int × Int
  | 0 => (99, 0, 0)
  | n + 1 => if bcs n 8 ≤ (S.sk p n).1 ∧ S.gaF p n (S.pkm p) (S.pkm p) 0 0 = true then (if bcs n 8 < (S.sk p n).1 then (bcs n 8, 1, (n : Int)) else ((S.sk p n).1, (S.sk p n).2.1 + 1, (S.sk p n).2.2)) else S.sk p n
theorem sk_s (S : St) (p : Int) (n : Nat) : S.sk p (n + 1) = if bcs n 8 ≤ (S.sk p n).1 ∧ S.gaF p n (S.pkm p) (S.pkm p) 0 0 = true then (if bcs n 8 < (S.sk p n).1 then (bcs n 8, 1, (n : Int)) else ((S.sk p n).1, (S.sk p n).2.1 + 1, (S.sk p n).2.2)) else S.sk p n := rfl
theorem sk_b (S : St) (p : Int) : ∀ n, n ≤ 128 → (0 ≤ (S.sk p n).2.1 ∧ (S.sk p n).2.1 ≤ n) ∧ (((S.sk p n).1 = 99 ∧ (S.sk p n).2.1 = 0) ∨ ((0 ≤ (S.sk p n).1 ∧ (S.sk p n).1 ≤ 7) ∧ 0 < (S.sk p n).2.1 ∧ (0 ≤ (S.sk p n).2.2 ∧ (S.sk p n).2.2 < n) ∧ bcs (S.sk p n).2.2 8 = (S.sk p n).1 ∧ S.gaF p (S.sk p n).2.2 (S.pkm p) (S.pkm p) 0 0 = true))
  | 0, _ => ⟨⟨by show (0 : Int) ≤ 0; omega, by show (0 : Int) ≤ ((0 : Nat) : Int); omega⟩, Or.inl ⟨rfl, rfl⟩⟩
  | n + 1, hn => by
    obtain ⟨h1, h2⟩ := sk_b S p n (by omega)
    have hb := bcs_ok n (by omega)
    rw [sk_s]
    by_cases c : bcs n 8 ≤ (S.sk p n).1 ∧ S.gaF p n (S.pkm p) (S.pkm p) 0 0 = true
    · rw [if_pos c]
      by_cases c2 : bcs n 8 < (S.sk p n).1
      · rw [if_pos c2]
        exact ⟨⟨by show (0 : Int) ≤ 1; omega, by show (1 : Int) ≤ ((n + 1 : Nat) : Int); omega⟩, Or.inr ⟨⟨hb.2.1, hb.2.2⟩, by show (0 : Int) < 1; omega, ⟨by show (0 : Int) ≤ (n : Int); omega, by show (n : Int) < ((n + 1 : Nat) : Int); omega⟩, rfl, c.2⟩⟩
      · rw [if_neg c2]
        rcases h2 with h2 | h2
        · omega
        · exact ⟨⟨by show 0 ≤ (S.sk p n).2.1 + 1; omega, by show (S.sk p n).2.1 + 1 ≤ ((n + 1 : Nat) : Int); omega⟩, Or.inr ⟨h2.1, by show 0 < (S.sk p n).2.1 + 1; omega, ⟨h2.2.2.1.1, by have := h2.2.2.1.2; show (S.sk p n).2.2 < ((n + 1 : Nat) : Int); omega⟩, h2.2.2.2⟩⟩
    · rw [if_neg c]
      refine ⟨⟨h1.1, by omega⟩, ?_⟩
      rcases h2 with h2 | h2
      · exact Or.inl h2
      · exact Or.inr ⟨h2.1, h2.2.1, ⟨h2.2.2.1.1, by have := h2.2.2.1.2; omega⟩, h2.2.2.2⟩
section RUNS
variable {t t' F : Nat} {A A0 A' : rz_A} {S : St} {p u k a b v w s set : Int} {cs : List Nat} {fs : List (Nat × Nat)} {i j q m : Nat}
/-! the class's -/
theorem startsC {i : Nat} (hi : i < 9) : x105_isRunStart F set i A = some (if i = 0 ∨ bitE set (i - 1) = 1 then 1 else 0, A) := by
  unfold x105_isRunStart
  by_cases e : i = 0
  · rw [if_pos (by omega), if_pos (Or.inl e)]
  · have e1 : (i : Int) - 1 = ((i - 1 : Nat) : Int) := by omega
    rw [if_neg (by omega), g32p (by omega), e1]
    have e2 : rz_oI fAnd (rz_oI fShr set ((i - 1 : Nat) : Int)) 1 = bitE set (i - 1) := rfl
    rw [e2]
    by_cases c : bitE set (i - 1) = 1
    · rw [if_pos c, if_pos (Or.inr c)]
    · rw [if_neg c, if_neg (fun hh => by rcases hh with h9 | h9; exact e h9; exact c h9)]
theorem allGoC (hq : (m : Int) = A.1 64 6) (hm : m ≤ 8) (hB : ∀ i, i < m → BtC A S p i) : ∀ (n a i : Nat) (v2 v4 : Int), i ≤ m → m < n + i → a ≤ i → (i < m → ((i = 0 ∨ bitE set (i - 1) = 1) ↔ a = i)) → (a < i → (∀ z, z < 64 → LB v2 z = S.rgB p ((z : Int) - 50) a (i - a)) ∧ ∀ z, z < 64 → LB v4 z = (decide (z < 37) && S.rgB p ((z : Int) + 14) a (i - a))) → x104_allGo_12 F n set v2 v4 i A = some (if S.gaF p set m (m - i) a i = true then 1 else 0, A) := by
  intro n
  induction n with
  | zero => intro a i v2 v4 h1 h2; omega
  | succ n ih =>
    intro a i v2 v4 h1 h2 h3 h4 h5
    unfold x104_allGo_12
    rw [← hq]
    by_cases hi : i < m
    · rw [if_pos (by omega), startsC (by omega)]
      simp only [rz_b_some]
      obtain ⟨bt0, bt1⟩ := hB i hi
      have t1 : (2 * (i : Int)).toNat = 2 * i := by omega
      have t2 : (2 * (i : Int) + 1).toNat = 2 * i + 1 := by omega
      have key : ∀ w2 w4 : Int, (∀ z, z < 64 → LB w2 z = S.rgB p ((z : Int) - 50) a (i - a)) → (∀ z, z < 64 → LB w4 z = ((decide (a = i) || decide (z < 37)) && S.rgB p ((z : Int) + 14) a (i - a))) → x104_allGo_39 F (x104_allGo_12 F n) set w2 w4 i A = some (if S.gaF p set m (m - i) a i = true then 1 else 0, A) := by
        intro w2 w4 hw2 hw4
        have r1 : ∀ s, S.rgB p s a (i + 1 - a) = (S.rgB p s a (i - a) && S.gs p i s) := fun s => by
          rw [show i + 1 - a = (i - a) + 1 by omega]
          show (S.rgB p s a (i - a) && S.gs p (a + (i - a)) s) = _
          rw [show a + (i - a) = i by omega]
        have n2 : ∀ z, z < 64 → LB (rz_oL gAnd w2 (A.2 68 (2 * i))) z = S.rgB p ((z : Int) - 50) a (i + 1 - a) := fun z hz => by
          rw [LB_and, hw2 z hz, bt0 z hz, r1]
        have n4 : ∀ z, z < 64 → LB (rz_oL gAnd w4 (A.2 68 (2 * i + 1))) z = (decide (z < 37) && S.rgB p ((z : Int) + 14) a (i + 1 - a)) := fun z hz => by
          rw [LB_and, hw4 z hz, bt1 z hz, r1]
          cases decide (a = i) <;> cases decide (z < 37) <;> cases S.rgB p ((z : Int) + 14) a (i - a) <;> cases S.gs p i ((z : Int) + 14) <;> rfl
        have hz99 : (rz_oL gOr (rz_oL gAnd w2 (A.2 68 (2 * i))) (rz_oL gAnd w4 (A.2 68 (2 * i + 1))) = 0) ↔ S.sh p a i = 99 := by
          rw [LB_none, sh_99]
          constructor
          · intro h s s1 s2
            by_cases c : s < 14
            · have := (h (s + 50).toNat (by omega)).1
              rw [n2 _ (by omega), show (((s + 50).toNat : Nat) : Int) - 50 = s by omega] at this
              exact this
            · have := (h (s - 14).toNat (by omega)).2
              rw [n4 _ (by omega), show (((s - 14).toNat : Nat) : Int) + 14 = s by omega, decide_eq_true (by omega : (s - 14).toNat < 37), Bool.true_and] at this
              exact this
          · intro h z hz
            refine ⟨by rw [n2 z hz]; exact h _ (by omega) (by omega), ?_⟩
            rw [n4 z hz]
            by_cases c : z < 37
            · rw [h _ (by omega) (by omega), Bool.and_false]
            · rw [decide_eq_false c, Bool.false_and]
        unfold x104_allGo_39
        rw [g32p (by omega), gxp (by omega) (by omega), g32p (by omega), gxp (by omega) (by omega), t1, t2]
        by_cases c : S.sh p a i = 99
        · rw [if_pos (hz99.mpr c), gaF_no S p set m (m - i) a i (by omega) (by omega) h3 c, if_neg (by decide)]
        · rw [if_neg (fun hh => c (hz99.mp hh)), g32p (by omega), show (i : Int) + 1 = ((i + 1 : Nat) : Int) by omega]
          have hb01 := bitE_01 set (y := i) (by omega)
          rw [show m - i = (m - (i + 1)) + 1 by omega]
          unfold St.gaF
          by_cases c2 : i + 1 < m ∧ bitE set i = 0
          · rw [if_pos c2]
            exact ih a (i + 1) _ _ (by omega) (by omega) (by omega) (fun _ => ⟨fun hh => by
              rcases hh with h9 | h9
              · omega
              · rw [show i + 1 - 1 = i by omega] at h9; omega, fun hh => by omega⟩) (fun _ => ⟨n2, n4⟩)
          · rw [if_neg c2, if_neg c]
            exact ih (i + 1) (i + 1) _ _ (by omega) (by omega) (Nat.le_refl _) (fun hlt => ⟨fun _ => rfl, fun _ => Or.inr (by
              rw [show i + 1 - 1 = i by omega]
              by_cases c3 : bitE set i = 0
              · exact absurd ⟨hlt, c3⟩ c2
              · omega)⟩) (fun hh => by omega)
      by_cases c : i = 0 ∨ bitE set (i - 1) = 1
      · have ea := (h4 hi).mp c
        rw [if_pos c, if_neg (by decide)]
        refine key (-1) (-1) (fun z hz => ?_) (fun z hz => ?_)
        · rw [LB_m1 z hz, ea, Nat.sub_self]; rfl
        · rw [LB_m1 z hz, decide_eq_true ea, ea, Nat.sub_self]; rfl
      · have hne : a ≠ i := fun hh => c ((h4 hi).mpr hh)
        obtain ⟨k1, k2⟩ := h5 (by omega)
        rw [if_neg c, if_pos rfl]
        refine key v2 v4 k1 (fun z hz => ?_)
        rw [k2 z hz, decide_eq_false hne, Bool.false_or]
    · have e : i = m := by omega
      rw [if_neg (by omega), e, Nat.sub_self]
      rfl
theorem allC (hq : (m : Int) = A.1 64 6) (hm : m ≤ 8) (hF : 1000 ≤ F) (hB : ∀ i, i < m → BtC A S p i) : x104_allGo F set A = some (if S.gaF p set m m 0 0 = true then 1 else 0, A) := by
  unfold x104_allGo
  exact allGoC (F := F) hq hm hB F 0 0 (-1) (-1) (by omega) (by omega) (by omega) (fun _ => ⟨fun _ => rfl, fun _ => Or.inl rfl⟩) (fun hh => by omega)
/-- the class's search, up to a set -/
def SkC (A : rz_A) (z : Int × Int × Int) : Prop := A.1 64 8 = (if z.1 = 99 then 8 else z.1) ∧ A.1 64 9 = z.2.1 ∧ (z.1 ≠ 99 → A.1 64 10 = z.2.2)
theorem SN_64 (h : SN A S k t) (hj : j = 8 ∨ j = 9 ∨ j = 10) : SN (aI A 64 j v) S k t := h.fr (Fr.aI (cs := []) (fs := [(64, 8), (64, 9), (64, 10)]) Fr.rfl (Or.inr (by rcases hj with rfl | rfl | rfl <;> decide))) (by decide) (by decide)
theorem searchC_loop (hm : 0 < S.pkm p ∧ S.pkm p ≤ 8) (hF : 1000 ≤ F) : ∀ (n z : Nat) (A : rz_A), SN A S k t → A.1 64 6 = S.pkm p → (∀ i, i < S.pkm p → BtC A S p i) → SkC A (S.sk p z) → z ≤ 2 ^ (S.pkm p - 1) → 2 ^ (S.pkm p - 1) < n + z → Ret (x102_search_13 F n z A) (if (S.sk p (2 ^ (S.pkm p - 1))).1 = 99 then 0 else 1) (fun A1 => SN A1 S k t ∧ A1.1 64 6 = S.pkm p ∧ (∀ i, i < S.pkm p → BtC A1 S p i) ∧ SkC A1 (S.sk p (2 ^ (S.pkm p - 1)))) := by
  have hpow : 2 ^ (S.pkm p - 1) ≤ 2 ^ 7 := Nat.pow_le_pow_right (by omega) (by omega)
  have h128 : 2 ^ 7 = 128 := rfl
  have hsh := shl_ok (S.pkm p - 1) (by omega)
  rw [show ((S.pkm p - 1 : Nat) : Int) = (S.pkm p : Int) - 1 by omega] at hsh
  generalize 2 ^ (S.pkm p - 1) = N at *
  intro n
  induction n with
  | zero => intro z A _ _ _ _ h1 h2; omega
  | succ n ih =>
    intro z A hS h6 hB hK h1 h2
    obtain ⟨k8, k9, k10⟩ := hK
    have hsb := sk_b S p z (by omega)
    unfold x102_search_13
    rw [h6, g32p (by omega), hsh]
    by_cases hz : z < N
    · obtain ⟨b1, b2, b3⟩ := bcs_ok z (by omega)
      have g32 : r32 ((z : Int) + 1) := by omega
      have hcast : (z : Int) + 1 = ((z + 1 : Nat) : Int) := by omega
      unfold x103_bitCount
      simp only [g32p g32]
      simp only [hcast]
      rw [if_pos (by omega), b1]
      simp only [rz_b_some]
      rw [k8]
      have ih' := ih (z + 1)
      rw [sk_s] at ih'
      have skip : ¬ (bcs z 8 ≤ (S.sk p z).1 ∧ S.gaF p z (S.pkm p) (S.pkm p) 0 0 = true) → Ret (x102_search_13 F n ((z + 1 : Nat) : Int) A) (if (S.sk p N).1 = 99 then 0 else 1) (fun A1 => SN A1 S k t ∧ A1.1 64 6 = S.pkm p ∧ (∀ i, i < S.pkm p → BtC A1 S p i) ∧ SkC A1 (S.sk p N)) := by
        intro hn
        rw [if_neg hn] at ih'
        exact ih' A hS h6 hB ⟨k8, k9, k10⟩ (by omega) (by omega)
      by_cases c1 : bcs z 8 ≤ (S.sk p z).1
      · rw [if_pos (by split <;> omega), allC h6.symm hm.2 hF hB]
        simp only [rz_b_some]
        by_cases c2 : S.gaF p z (S.pkm p) (S.pkm p) 0 0 = true
        · rw [if_pos ⟨c1, c2⟩] at ih'
          rw [if_pos c2, if_neg (by decide), k8]
          by_cases c3 : bcs z 8 < (S.sk p z).1
          · rw [if_pos c3] at ih'
            rw [if_pos (by split <;> omega)]
            refine ih' _ (SN_64 (SN_64 (SN_64 (SN_64 hS (Or.inl rfl)) (Or.inr (Or.inl rfl))) (Or.inr (Or.inr rfl))) (Or.inr (Or.inl rfl))) h6 hB ⟨?_, rfl, fun _ => rfl⟩ (by omega) (by omega)
            show bcs z 8 = if bcs z 8 = 99 then 8 else bcs z 8
            rw [if_neg (by omega)]
          · rw [if_neg c3] at ih'
            have hne : (S.sk p z).1 ≠ 99 := fun hh => by omega
            rw [if_neg (by split <;> omega), k9, g32p (by omega)]
            refine ih' _ (SN_64 hS (Or.inr (Or.inl rfl))) h6 hB ⟨k8, rfl, fun _ => k10 hne⟩ (by omega) (by omega)
        · rw [if_neg c2, if_pos rfl]
          exact skip (fun hh => c2 hh.2)
      · rw [if_neg (by split <;> omega)]
        exact skip (fun hh => c1 hh.1)
    · have e : z = N := by omega
      subst e
      rw [if_neg (by omega)]
      unfold x102_search_88
      rw [k9]
      rcases hsb.2 with h9 | h9
      · rw [if_neg (by omega), if_pos h9.1]
        exact Ret.mk ⟨hS, h6, hB, k8, k9, k10⟩
      · rw [if_pos h9.2.1, if_neg (by omega)]
        exact Ret.mk ⟨hS, h6, hB, k8, k9, k10⟩
noncomputable def St.skV (S : St) (p : Int) : Int × Int × Int := S.sk p (2 ^ (S.pkm p - 1))
theorem searchC (h : SN A S k t) (hm : 0 < S.pkm p ∧ S.pkm p ≤ 8) (hF : 1000 ≤ F) (h6 : A.1 64 6 = S.pkm p) (hB : ∀ i, i < S.pkm p → BtC A S p i) : Ret (x102_search F A) (if (S.skV p).1 = 99 then 0 else 1) (fun A1 => SN A1 S k t ∧ A1.1 64 6 = S.pkm p ∧ (∀ i, i < S.pkm p → BtC A1 S p i) ∧ SkC A1 (S.skV p)) := by
  have hpow : 2 ^ (S.pkm p - 1) ≤ 2 ^ 7 := Nat.pow_le_pow_right (by omega) (by omega)
  have h128 : 2 ^ 7 = 128 := rfl
  unfold x102_search
  exact searchC_loop (F := F) hm hF F 0 _ (SN_64 (SN_64 h (Or.inl rfl)) (Or.inr (Or.inl rfl))) h6 hB ⟨rfl, rfl, fun hh => absurd rfl hh⟩ (Nat.zero_le _) (by omega)
theorem runC_loop (hq : (m : Int) = A.1 64 6) (hm : m ≤ 8) (hB : ∀ i, i < m → BtC A S p i) {r : Int} {z : Nat} (hz : z ≤ 100) : ∀ (n i : Nat), i ≤ m → m < n + i → (∀ x, x < i → bcs set x = r → S.gs p x ((z : Int) - 50) = true) → x108_runGoesWith_26 F n set r z (if i = 0 then -1 else bcs set (i - 1)) i A = some (if ∀ x, x < m → bcs set x = r → S.gs p x ((z : Int) - 50) = true then 1 else 0, A) := by
  intro n
  induction n with
  | zero => intro i h1 h2; omega
  | succ n ih =>
    intro i h1 h2 h3
    unfold x108_runGoesWith_26
    rw [← hq]
    by_cases hi : i < m
    · rw [if_pos (by omega), startsC (by omega)]
      simp only [rz_b_some]
      obtain ⟨bt0, bt1⟩ := hB i hi
      have hb8 := bcs_le set (y := 8) i (by omega) (by omega)
      have hcnt : (if i = 0 then -1 else bcs set (i - 1)) + (if i = 0 ∨ bitE set (i - 1) = 1 then 1 else 0) = bcs set i := by
        by_cases e : i = 0
        · rw [if_pos e, if_pos (Or.inl e), e]; rfl
        · have h9 : bcs set i = bcs set (i - 1) + bitE set (i - 1) := by
            rw [← bcs_s, show i - 1 + 1 = i by omega]
          have := bitE_01 set (y := i - 1) (by omega)
          rw [if_neg e]
          by_cases c : bitE set (i - 1) = 1
          · rw [if_pos (Or.inr c)]; omega
          · rw [if_neg (fun hh => by rcases hh with h10 | h10; exact e h10; exact c h10)]; omega
      have ih' := ih (i + 1) (by omega) (by omega)
      rw [if_neg (by omega : ¬ i + 1 = 0), show i + 1 - 1 = i by omega] at ih'
      have e64 : (z : Int).tdiv 64 = ((z / 64 : Nat) : Int) := by rw [Int.tdiv_eq_ediv_of_nonneg (by omega)]; omega
      have m64 : (z : Int).tmod 64 = ((z % 64 : Nat) : Int) := by rw [Int.tmod_eq_emod_of_nonneg (by omega)]; omega
      have eidx : (2 * (i : Int) + ((z / 64 : Nat) : Int)).toNat = 2 * i + z / 64 := by omega
      have hlt : z % 64 < 64 := Nat.mod_lt _ (by omega)
      have hbit : LB (A.2 68 (2 * i + z / 64)) (z % 64) = S.gs p i ((z : Int) - 50) := by
        by_cases c : z < 64
        · rw [show 2 * i + z / 64 = 2 * i by omega, show z % 64 = z by omega]
          exact bt0 z c
        · rw [show 2 * i + z / 64 = 2 * i + 1 by omega, bt1 (z % 64) hlt, decide_eq_true (by omega : z % 64 < 37), Bool.true_and, show ((z % 64 : Nat) : Int) + 14 = (z : Int) - 50 by omega]
      have body : x108_runGoesWith_47 F (x108_runGoesWith_26 F n) set r z (bcs set i) i A = some (if ∀ x, x < m → bcs set x = r → S.gs p x ((z : Int) - 50) = true then 1 else 0, A) := by
        unfold x108_runGoesWith_47
        by_cases c1 : bcs set i = r
        · rw [if_pos c1, e64, m64, g32p (by omega), g32p (by omega), g32p (by omega), gxp (by omega) (by omega), g32p (by omega), eidx]
          by_cases c2 : S.gs p i ((z : Int) - 50) = true
          · rw [if_neg (fun hh => by
              have := (LB_test _ _ hlt).mp hh
              rw [hbit, c2] at this; cases this), g32p (by omega), show (i : Int) + 1 = ((i + 1 : Nat) : Int) by omega]
            exact ih' (fun x hx he => by
              by_cases e : x = i
              · rw [e]; exact c2
              · exact h3 x (by omega) he)
          · rw [if_pos ((LB_test _ _ hlt).mpr (by rw [hbit]; simpa using c2)), if_neg (fun hh => c2 (hh i hi c1))]
        · rw [if_neg c1, g32p (by omega), show (i : Int) + 1 = ((i + 1 : Nat) : Int) by omega]
          exact ih' (fun x hx he => by
            by_cases e : x = i
            · rw [e] at he; exact absurd he c1
            · exact h3 x (by omega) he)
      by_cases c : i = 0 ∨ bitE set (i - 1) = 1
      · rw [if_pos c] at hcnt
        rw [if_pos c, if_neg (by decide), hcnt]
        have hb0 := bcs_le set (y := i) 0 (by omega) (by omega)
        have hb00 : bcs set 0 = 0 := rfl
        have hbb : bcs set 8 ≤ 8 := by
          have := bitE_01 set (y := 0) (by omega); have := bitE_01 set (y := 1) (by omega); have := bitE_01 set (y := 2) (by omega); have := bitE_01 set (y := 3) (by omega); have := bitE_01 set (y := 4) (by omega); have := bitE_01 set (y := 5) (by omega); have := bitE_01 set (y := 6) (by omega); have := bitE_01 set (y := 7) (by omega)
          simp only [bcs_s]
          omega
        rw [g32p (by omega)]
        exact body
      · rw [if_neg c, Int.add_zero] at hcnt
        rw [if_neg c, if_pos rfl, hcnt]
        exact body
    · have e : i = m := by omega
      subst e
      rw [if_neg (by omega), if_pos h3]
theorem runC (hq : (m : Int) = A.1 64 6) (hm : m ≤ 8) (hF : 1000 ≤ F) (hB : ∀ i, i < m → BtC A S p i) {r : Int} : x108_runGoesWith F set r s A = some (if S.rw' p set m r s = true then 1 else 0, A) := by
  unfold x108_runGoesWith St.rw'
  by_cases c1 : -50 ≤ s
  · rw [if_pos c1]
    by_cases c2 : 50 < s
    · rw [if_pos c2, decide_eq_false (fun hh => by have := hh.2.1; omega), if_neg (by decide)]
    · have h3 := runC_loop (F := F) (set := set) (r := r) (z := (s + 50).toNat) hq hm hB (by omega) F 0 (by omega) (by omega) (fun x hx => absurd hx (Nat.not_lt_zero x))
      rw [show (((s + 50).toNat : Nat) : Int) = s + 50 by omega, show s + 50 - 50 = s by omega] at h3
      rw [if_neg c2, g32p (by omega)]
      have h4 : x108_runGoesWith_26 F F set r (s + 50) (-1) 0 A = _ := h3
      rw [h4]
      by_cases c3 : ∀ x, x < m → bcs set x = r → S.gs p x s = true
      · rw [if_pos c3, decide_eq_true ⟨c1, by omega, c3⟩, if_pos rfl]
      · rw [if_neg c3, decide_eq_false (fun hh => c3 hh.2.2), if_neg (by decide)]
  · rw [if_neg c1, decide_eq_false (fun hh => c1 hh.1), if_neg (by decide)]
end RUNS
