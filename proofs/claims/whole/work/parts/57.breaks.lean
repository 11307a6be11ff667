set_option maxRecDepth 8000
noncomputable def St.svF (S : St) (p set : Int) (m : Nat) : Nat → Nat → Int → Nat → Int
  | 0, _, _, _ => 0
  | n + 1, a, left, b => if b + 1 < m ∧ bitE set b = 0 then S.svF p set m n a left (b + 1) else if left = 0 then S.sh p a b else S.svF p set m n (b + 1) (left - 1) (b + 1)
theorem svF_run {S : St} {p set r : Int} {m : Nat} (hm : m ≤ 8) (hr : r ≤ bcs set (m - 1)) : ∀ (n a b : Nat) (left : Int), b + n = m → 0 < n → Run set m a b → left = r - bcs set b → 0 ≤ left → S.gaF p set m n a b = true → ∃ a' b', Run set m a' b' ∧ ¬ (b' + 1 < m ∧ bitE set b' = 0) ∧ bcs set b' = r ∧ S.svF p set m n a left b = S.sh p a' b' ∧ S.sh p a' b' ≠ 99
  | 0, _, _, _, _, h, _, _, _, _ => absurd h (by omega)
  | n + 1, a, b, left, hb, _, hR, hl, h0, hg => by
    unfold St.gaF at hg
    unfold St.svF
    by_cases c : b + 1 < m ∧ bitE set b = 0
    · rw [if_pos c] at hg ⊢
      obtain ⟨k1, k2⟩ := hR.more c
      exact svF_run hm hr n a (b + 1) left (by omega) (by omega) k1 (by rw [k2]; exact hl) h0 hg
    · rw [if_neg c] at hg ⊢
      by_cases c2 : S.sh p a b = 99
      · rw [if_pos c2] at hg; cases hg
      · rw [if_neg c2] at hg
        by_cases c3 : left = 0
        · rw [if_pos c3]
          exact ⟨a, b, hR, c, by omega, rfl, c2⟩
        · rw [if_neg c3]
          by_cases c4 : b + 1 < m
          · obtain ⟨k1, k2⟩ := hR.new hm c4 (fun hh => c ⟨c4, hh⟩)
            exact svF_run hm hr n (b + 1) (b + 1) (left - 1) (by omega) (by omega) k1 (by omega) (by omega) hg
          · have : b = m - 1 := by omega
            rw [this] at hl
            omega
section BREAKS
variable {t t' F : Nat} {A A0 A' : rz_A} {S : St} {p u k a b v w s set r : Int} {cs : List Nat} {fs : List (Nat × Nat)} {i j q m : Nat}
theorem run00 (hm : 0 < m) : Run set m 0 0 := Run.of ⟨Nat.le_refl _, hm, fun i h1 h2 => by rw [show i = 0 by omega], fun i hi => absurd hi (Nat.not_lt_zero i)⟩
theorem skV_b (hm : 0 < S.pkm p ∧ S.pkm p ≤ 8) : (0 ≤ (S.skV p).2.1 ∧ (S.skV p).2.1 ≤ 128) ∧ (((S.skV p).1 = 99 ∧ (S.skV p).2.1 = 0) ∨ ((0 ≤ (S.skV p).1 ∧ (S.skV p).1 ≤ 7) ∧ 0 < (S.skV p).2.1 ∧ (0 ≤ (S.skV p).2.2 ∧ (S.skV p).2.2 < 128) ∧ bcs (S.skV p).2.2 (S.pkm p - 1) = (S.skV p).1 ∧ S.gaF p (S.skV p).2.2 (S.pkm p) (S.pkm p) 0 0 = true)) := by
  have hpow : 2 ^ (S.pkm p - 1) ≤ 2 ^ 7 := Nat.pow_le_pow_right (by omega) (by omega)
  have h128 : 2 ^ 7 = 128 := rfl
  obtain ⟨h1, h2⟩ := sk_b S p (2 ^ (S.pkm p - 1)) (by omega)
  refine ⟨⟨h1.1, by have := h1.2; show (S.sk p (2 ^ (S.pkm p - 1))).2.1 ≤ 128; omega⟩, ?_⟩
  rcases h2 with h2 | ⟨k1, k2, k3, k4, k5⟩
  · exact Or.inl h2
  · refine Or.inr ⟨k1, k2, ⟨k3.1, by have := k3.2; show (S.sk p (2 ^ (S.pkm p - 1))).2.2 < 128; omega⟩, ?_, k5⟩
    have e1 : (((S.sk p (2 ^ (S.pkm p - 1))).2.2.toNat : Nat) : Int) = (S.sk p (2 ^ (S.pkm p - 1))).2.2 := by omega
    have := bcs_hi (n := (S.sk p (2 ^ (S.pkm p - 1))).2.2.toNat) (m := S.pkm p - 1) (by omega) (by omega) 8 (by omega) (by omega)
    rw [e1] at this
    show bcs (S.sk p (2 ^ (S.pkm p - 1))).2.2 (S.pkm p - 1) = (S.sk p (2 ^ (S.pkm p - 1))).1
    rw [← this]
    exact k4
/-! breaks -/
abbrev St.nob (S : St) (p : Int) : Prop := S.bN p.toNat = 0 ∨ S.pkm p = 0
noncomputable def St.brV (S : St) (p w : Int) : Int := if w = 3 then (S.pkm p : Int) else if (S.skV p).1 = 99 then -9 else if w = 0 then (S.skV p).1 else if w = 1 then (S.skV p).2.1 else (S.skV p).2.2
noncomputable def St.breaks (S : St) (p w : Int) : Int × St := if S.isP p then (if w < 0 then S.no 1 else if 3 < w then S.no 1 else if S.nob p then S.no 4 else (S.brV p w, S)) else S.no 0
theorem gathC (h : SN A S S.now t) (hO : OK t S) (hF : 1000 ≤ F) (hp : S.isP p) : Ret (x98_gather F p A) (if S.nob p then 0 else 1) (fun A1 => SN A1 S S.now t ∧ S.pkOK p ∧ A1.1 64 6 = S.pkm p ∧ (¬ S.nob p → ∀ i, i < S.pkm p → BtC A1 S p i)) := by
  have h2 := hO.nP
  have := gatherC (F := F) h hO hF (q := p.toNat) (by omega)
  rw [show ((p.toNat : Nat) : Int) = p by omega] at this
  exact this
theorem breaksC (h : DC A S t) (hO : OK t S) (ht : t < 512) (hF : 1000 ≤ F) : Ret (x97_breaks F p w A) (S.breaks p w).1 (fun A1 => DC A1 (S.breaks p w).2 (t + 1)) := by
  unfold x97_breaks St.breaks
  by_cases hp : S.isP p
  · rw [hasC1 h.1 hp, if_pos hp]
    simp only [rz_b_some]
    rw [if_neg (by decide)]
    by_cases w0 : w < 0
    · rw [if_neg (by omega), if_pos w0]
      exact lk1 h.up hO ht (by decide) (by decide)
    · rw [if_pos (by omega), if_neg w0]
      by_cases w1 : 3 < w
      · rw [if_pos w1, if_pos w1]
        exact lk1 h.up hO ht (by decide) (by decide)
      · rw [if_neg w1, if_neg w1, h.1.now]
        refine Ret.bind (seeSN h hO ht hF hO.now) (fun A1 e1 hS => ?_)
        refine Ret.bind (gathC hS hO.mono hF hp) (fun A2 e2 hA => ?_)
        obtain ⟨k1, k2, k3, k4⟩ := hA
        by_cases c : S.nob p
        · rw [if_pos c, if_pos rfl, if_pos c]
          exact lk1 k1.dc hO ht (by decide) (by decide)
        · have hle := k2.le
          have hm : 0 < S.pkm p ∧ S.pkm p ≤ 8 := ⟨by by_cases e : S.pkm p = 0; exact absurd (Or.inr e) c; omega, hle⟩
          rw [if_neg c, if_neg (by decide), if_neg c, k3]
          unfold St.brV
          by_cases w3 : w = 3
          · rw [if_pos w3, if_pos w3]
            exact Ret.mk k1.dc
          · rw [if_neg w3, if_neg w3]
            refine Ret.bind (searchC k1 hm hF k3 (k4 c)) (fun A3 e3 hA3 => ?_)
            obtain ⟨d1, d2, d3, d4, d5, d6⟩ := hA3
            by_cases c2 : (S.skV p).1 = 99
            · rw [if_pos c2, if_pos rfl, if_pos c2]
              exact Ret.mk d1.dc
            · rw [if_neg c2] at d4
              rw [if_neg c2, if_neg (by decide), if_neg c2, d4, d5, d6 c2]
              by_cases w4 : w = 0
              · rw [if_pos w4, if_pos w4]
                exact Ret.mk d1.dc
              · rw [if_neg w4, if_neg w4]
                by_cases w5 : w = 1
                · rw [if_pos w5, if_pos w5]
                  exact Ret.mk d1.dc
                · rw [if_neg w5, if_neg w5]
                  exact Ret.mk d1.dc
  · rw [hasC0 h.1 hp, if_neg hp]
    simp only [rz_b_some]
    rw [if_pos (by decide)]
    exact lk1 h.up hO ht (by decide) (by decide)
/-! the reference's tries -/
theorem shiftOfM_loop (hO : OK t S) (hF : 1000 ≤ F) (hq : q < 6) (hn : S.bN q ≠ 0) (hP : S.pkOK q) {a b : Nat} (hab : a ≤ b) (hb : b < S.pkm q) : ∀ (n z x : Nat) (A : rz_A), DM A S t' → PkM A S q (S.pkm q) (S.pkg q) → Fr [] [(91, 76)] A0 A → x + z = 51 → z < n → Ret (x195_shiftOf_3 F n q a b x A) (S.shF q a b z x) (fun A1 => DM A1 S t' ∧ PkM A1 S q (S.pkm q) (S.pkg q) ∧ Fr [] [(91, 76)] A0 A1) := by
  intro n
  induction n with
  | zero => intro z x A _ _ _ h1 h2; omega
  | succ n ih =>
    intro z x A h hA hfr h1 h2
    unfold x195_shiftOf_3
    cases z with
    | zero =>
      rw [if_neg (by omega)]
      exact Ret.mk ⟨h, hA, hfr⟩
    | succ z =>
      unfold St.shF
      rw [if_pos (by omega), g32p (by omega)]
      refine Ret.bind (goesM (s := -(x : Int)) h hA hO hF hq rfl hn hP hab hb) (fun B eB hB => ?_)
      by_cases c1 : S.rgo q (-(x : Int)) a b = true
      · rw [if_pos c1, if_neg (by decide), if_pos c1]
        exact Ret.mk ⟨hB.1, hB.2.1, hfr.trans hB.2.2⟩
      · rw [if_neg c1, if_pos rfl, if_neg c1]
        refine Ret.bind (goesM (s := (x : Int)) hB.1 hB.2.1 hO hF hq rfl hn hP hab hb) (fun C eC hC => ?_)
        by_cases c2 : S.rgo q x a b = true
        · rw [if_pos c2, if_neg (by decide), if_pos c2]
          exact Ret.mk ⟨hC.1, hC.2.1, (hfr.trans hB.2.2).trans hC.2.2⟩
        · rw [if_neg c2, if_pos rfl, if_neg c2, g32p (by omega), show (x : Int) + 1 = ((x + 1 : Nat) : Int) by omega]
          exact ih z (x + 1) C hC.1 hC.2.1 ((hfr.trans hB.2.2).trans hC.2.2) (by omega) (by omega)
/-- the reference's SHIFTS of runs -/
def TrM (A : rz_A) (S : St) (p : Int) (m x y : Nat) : Prop := ∀ a b, a ≤ b → b < m → (a < x ∨ (a = x ∧ b < y)) → A.1 146 (8 * a + b) = S.sh p a b
theorem DM_146 {j : Nat} (h : DM A S t) : DM (aI A 146 j v) S t := ⟨rm_fr h.1 (Fr.aI (cs := [146]) (fs := []) Fr.rfl (Or.inl (by decide))) (by decide), h.2.fr (Fr.aI (cs := [146]) (fs := []) Fr.rfl (Or.inl (by decide))) (by decide)⟩
theorem tries12M (hO : OK t S) (hF : 1000 ≤ F) (hq : q < 6) (hn : S.bN q ≠ 0) (hP : S.pkOK q) {k2 : Int → Int → rz_A → Option (Unit × rz_A)} {Q : rz_A → Prop} {a : Nat} (ha : a < S.pkm q) (fin : ∀ A, DM A S t' → PkM A S q (S.pkm q) (S.pkg q) → TrM A S q (S.pkm q) (a + 1) 0 → Ret (k2 q ((a : Int) + 1) A) () Q) : ∀ (n b : Nat) (A : rz_A), DM A S t' → PkM A S q (S.pkm q) (S.pkg q) → TrM A S q (S.pkm q) a b → a ≤ b → b ≤ S.pkm q → S.pkm q < n + b → Ret (x194_tries_12 F k2 n q a b A) () Q := by
  have hle := hP.le
  intro n
  induction n with
  | zero => intro b A _ _ _ h1 h2 h3; omega
  | succ n ih =>
    intro b A h hA hT h1 h2 h3
    unfold x194_tries_12
    rw [hA.1]
    by_cases hb : b < S.pkm q
    · rw [if_pos (by omega), g32p (by omega), g32p (by omega)]
      unfold x195_shiftOf
      refine Ret.bind (shiftOfM_loop (F := F) (A0 := A) hO hF hq hn hP h1 hb F 51 0 A h hA Fr.rfl (by omega) (by omega)) (fun B eB hB => ?_)
      have q146 : B.1 146 = A.1 146 := (hB.2.2.row (c := 146) (by decide) (by decide)).1
      have eidx : (8 * (a : Int) + b).toNat = 8 * a + b := by omega
      rw [gxp (by omega) (by omega), g32p (by omega), eidx, show (b : Int) + 1 = ((b + 1 : Nat) : Int) by omega]
      refine ih (b + 1) _ (DM_146 hB.1) hB.2.1 (fun a' b' d1 d2 d3 => ?_) (by omega) (by omega) (by omega)
      show (if 8 * a' + b' = 8 * a + b then S.sh q a b else B.1 146 (8 * a' + b')) = S.sh q a' b'
      by_cases c : a' = a ∧ b' = b
      · rw [if_pos (by rw [c.1, c.2]), c.1, c.2]
      · rw [if_neg (by omega), q146]
        exact hT a' b' d1 d2 (by omega)
    · have eb : b = S.pkm q := by omega
      rw [if_neg (by omega), g32p (by omega)]
      exact fin A h hA (fun a' b' d1 d2 d3 => hT a' b' d1 d2 (by omega))
theorem tries2M (hO : OK t S) (hF : 1000 ≤ F) (hq : q < 6) (hn : S.bN q ≠ 0) (hP : S.pkOK q) : ∀ (n a : Nat) (A : rz_A), DM A S t' → PkM A S q (S.pkm q) (S.pkg q) → TrM A S q (S.pkm q) a 0 → a ≤ S.pkm q → S.pkm q < n + a → Ret (x194_tries_2 F n q a A) () (fun A1 => DM A1 S t' ∧ PkM A1 S q (S.pkm q) (S.pkg q) ∧ TrM A1 S q (S.pkm q) (S.pkm q) 0) := by
  have hle := hP.le
  intro n
  induction n with
  | zero => intro a A _ _ _ h1 h2; omega
  | succ n ih =>
    intro a A h hA hT h1 h2
    unfold x194_tries_2
    rw [hA.1]
    by_cases ha : a < S.pkm q
    · rw [if_pos (by omega)]
      refine tries12M (F := F) hO hF hq hn hP ha (fun B hB1 hB2 hB3 => ?_) F a A h hA (fun a' b' d1 d2 d3 => hT a' b' d1 d2 (by omega)) (Nat.le_refl _) (by omega) (by omega)
      rw [show (a : Int) + 1 = ((a + 1 : Nat) : Int) by omega]
      exact ih (a + 1) B hB1 hB2 hB3 (by omega) (by omega)
    · have ea : a = S.pkm q := by omega
      rw [if_neg (by omega)]
      rw [ea] at hT
      exact Ret.mk ⟨h, hA, hT⟩
theorem goesAllM (hA : A.1 91 80 = m) (hm : m ≤ 8) (hT : TrM A S p m m 0) : ∀ (n a b : Nat), a ≤ b → b ≤ m → m < n + b → x198_goesAll_4 F n set a b A = some (if S.gaF p set m (m - b) a b = true then 1 else 0, A) := by
  intro n
  induction n with
  | zero => intro a b h1 h2 h3; omega
  | succ n ih =>
    intro a b h1 h2 h3
    unfold x198_goesAll_4
    rw [hA]
    by_cases hb : b < m
    · have ebit : rz_oI fAnd (rz_oI fShr set (b : Int)) 1 = bitE set b := rfl
      have eidx : (8 * (a : Int) + b).toNat = 8 * a + b := by omega
      rw [if_pos (by omega), g32p (by omega), show m - b = (m - (b + 1)) + 1 by omega, show (b : Int) + 1 = ((b + 1 : Nat) : Int) by omega, ebit]
      unfold St.gaF
      have test : (rz_g32 (8 * (a : Int)) <| rz_g32 (8 * (a : Int) + b) <| rz_gx (8 * (a : Int) + b) 64 <| if A.1 146 (8 * (a : Int) + b).toNat = 99 then some ((0 : Int), A) else x198_goesAll_4 F n set ((b + 1 : Nat) : Int) ((b + 1 : Nat) : Int) A) = some (if (if S.sh p a b = 99 then false else S.gaF p set m (m - (b + 1)) (b + 1) (b + 1)) = true then 1 else 0, A) := by
        rw [g32p (by omega), g32p (by omega), gxp (by omega) (by omega), eidx, hT a b h1 hb (Or.inl (by omega))]
        by_cases c : S.sh p a b = 99
        · rw [if_pos c, if_pos c, if_neg (by decide)]
        · rw [if_neg c, if_neg c]
          exact ih (b + 1) (b + 1) (Nat.le_refl _) (by omega) (by omega)
      by_cases c1 : b + 1 < m
      · rw [if_pos (by omega)]
        by_cases c2 : bitE set b = 0
        · rw [if_pos c2, if_pos (show b + 1 < m ∧ bitE set b = 0 from ⟨c1, c2⟩)]
          exact ih a (b + 1) (by omega) (by omega) (by omega)
        · rw [if_neg c2, if_neg (show ¬ (b + 1 < m ∧ bitE set b = 0) from fun hh => c2 hh.2)]
          exact test
      · rw [if_neg (by omega), if_neg (show ¬ (b + 1 < m ∧ bitE set b = 0) from fun hh => c1 hh.1)]
        exact test
    · have eb : b = m := by omega
      rw [if_neg (by omega), eb, Nat.sub_self]
      rfl
theorem bitsM_loop (hs : 0 ≤ bcs set 8) : ∀ (n y : Nat), y ≤ 8 → 8 < n + y → x197_bits_4 F n set (bcs set y) y A = some (bcs set 8, A) := by
  have h8 : ∀ y, y ≤ 8 → 0 ≤ bcs set y ∧ bcs set y ≤ y := by
    intro y
    induction y with
    | zero => intro _; show (0 : Int) ≤ 0 ∧ (0 : Int) ≤ ((0 : Nat) : Int); omega
    | succ y ih =>
      intro hy
      have := ih (by omega)
      have := bitE_01 set (y := y) (by omega)
      rw [bcs_s]
      omega
  intro n
  induction n with
  | zero => intro y h1 h2; omega
  | succ n ih =>
    intro y h1 h2
    unfold x197_bits_4
    by_cases hy : y < 8
    · have e : rz_oI fAnd (rz_oI fShr set (y : Int)) 1 = bitE set y := rfl
      have hb := bitE_01 set (y := y) (by omega)
      have h9 := h8 y h1
      rw [if_pos (by omega), e, g32p (by omega), g32p (by omega), ← bcs_s, show (y : Int) + 1 = ((y + 1 : Nat) : Int) by omega]
      exact ih (y + 1) (by omega) (by omega)
    · have e : y = 8 := by omega
      rw [if_neg (by omega), e]
theorem bitsM (hF : 1000 ≤ F) (hs : 0 ≤ bcs set 8) : x197_bits F set A = some (bcs set 8, A) := by
  unfold x197_bits
  exact bitsM_loop hs F 0 (by omega) (by omega)
def SkM (A : rz_A) (z : Int × Int × Int) : Prop := A.1 91 84 = z.1 ∧ A.1 91 85 = z.2.1 ∧ A.1 91 86 = z.2.2
theorem DM_91 (h : DM A S t) (hj : j = 84 ∨ j = 85 ∨ j = 86) : DM (aI A 91 j v) S t := ⟨rm_fr h.1 (Fr.aI (cs := []) (fs := [(91, 84), (91, 85), (91, 86)]) Fr.rfl (Or.inr (by rcases hj with rfl | rfl | rfl <;> decide))) (by decide), h.2.fr (Fr.aI (cs := []) (fs := [(91, 84), (91, 85), (91, 86)]) Fr.rfl (Or.inr (by rcases hj with rfl | rfl | rfl <;> decide))) (by decide)⟩
theorem seeks23M (hm : 0 < S.pkm p ∧ S.pkm p ≤ 8) (hF : 1000 ≤ F) : ∀ (n z : Nat) (A : rz_A), DM A S t' → A.1 91 80 = S.pkm p → TrM A S p (S.pkm p) (S.pkm p) 0 → SkM A (S.sk p z) → z ≤ 2 ^ (S.pkm p - 1) → 2 ^ (S.pkm p - 1) < n + z → Ret (x193_seeks_23 F n z A) () (fun A1 => DM A1 S t' ∧ A1.1 91 80 = S.pkm p ∧ TrM A1 S p (S.pkm p) (S.pkm p) 0 ∧ SkM A1 (S.skV p)) := by
  have hpow : 2 ^ (S.pkm p - 1) ≤ 2 ^ 7 := Nat.pow_le_pow_right (by omega) (by omega)
  have h128 : 2 ^ 7 = 128 := rfl
  have hsh := shl_ok (S.pkm p - 1) (by omega)
  rw [show ((S.pkm p - 1 : Nat) : Int) = (S.pkm p : Int) - 1 by omega] at hsh
  unfold St.skV
  generalize 2 ^ (S.pkm p - 1) = N at *
  intro n
  induction n with
  | zero => intro z A _ _ _ _ h1 h2; omega
  | succ n ih =>
    intro z A h h6 hT hK h1 h2
    obtain ⟨k8, k9, k10⟩ := hK
    have hsb := sk_b S p z (by omega)
    unfold x193_seeks_23
    rw [h6, g32p (by omega), hsh]
    by_cases hz : z < N
    · obtain ⟨b1, b2, b3⟩ := bcs_ok z (by omega)
      have g32 : r32 ((z : Int) + 1) := by omega
      have hcast : (z : Int) + 1 = ((z + 1 : Nat) : Int) := by omega
      simp only [g32p g32]
      simp only [hcast]
      rw [if_pos (by omega), bitsM hF b2]
      simp only [rz_b_some]
      rw [k8]
      have ih' := ih (z + 1)
      rw [sk_s] at ih'
      have skip : ¬ (bcs z 8 ≤ (S.sk p z).1 ∧ S.gaF p z (S.pkm p) (S.pkm p) 0 0 = true) → Ret (x193_seeks_23 F n ((z + 1 : Nat) : Int) A) () (fun A1 => DM A1 S t' ∧ A1.1 91 80 = S.pkm p ∧ TrM A1 S p (S.pkm p) (S.pkm p) 0 ∧ SkM A1 (S.sk p N)) := by
        intro hn
        rw [if_neg hn] at ih'
        exact ih' A h h6 hT ⟨k8, k9, k10⟩ (by omega) (by omega)
      by_cases c1 : bcs z 8 ≤ (S.sk p z).1
      · rw [if_pos c1]
        unfold x198_goesAll
        have hga := goesAllM (F := F) (set := (z : Int)) h6 hm.2 hT F 0 0 (Nat.le_refl _) (by omega) (by omega)
        have hga' : x198_goesAll_4 F F z 0 0 A = some (if S.gaF p z (S.pkm p) (S.pkm p) 0 0 = true then 1 else 0, A) := hga
        rw [hga']
        simp only [rz_b_some]
        by_cases c2 : S.gaF p z (S.pkm p) (S.pkm p) 0 0 = true
        · rw [if_pos ⟨c1, c2⟩] at ih'
          rw [if_pos c2, if_neg (by decide), bitsM hF b2]
          simp only [rz_b_some]
          rw [k8]
          by_cases c3 : bcs z 8 < (S.sk p z).1
          · rw [if_pos c3] at ih'
            rw [if_pos c3, bitsM hF b2]
            simp only [rz_b_some]
            exact ih' _ (DM_91 (DM_91 (DM_91 (DM_91 h (Or.inl rfl)) (Or.inr (Or.inl rfl))) (Or.inr (Or.inr rfl))) (Or.inr (Or.inl rfl))) h6 hT ⟨rfl, rfl, rfl⟩ (by omega) (by omega)
          · rw [if_neg c3] at ih'
            rw [if_neg c3, k9, g32p (by omega)]
            exact ih' _ (DM_91 h (Or.inr (Or.inl rfl))) h6 hT ⟨k8, rfl, k10⟩ (by omega) (by omega)
        · rw [if_neg c2, if_pos rfl]
          exact skip (fun hh => c2 hh.2)
      · rw [if_neg c1]
        exact skip (fun hh => c1 hh.1)
    · have e : z = N := by omega
      subst e
      rw [if_neg (by omega)]
      exact Ret.mk ⟨h, h6, hT, k8, k9, k10⟩
theorem seeksM (h : DM A S t') (hO : OK t S) (hF : 1000 ≤ F) (hp : S.isP p) (hn : ¬ S.nob p) (hP : S.pkOK p) (hA : PkM A S p (S.pkm p) (S.pkg p)) : Ret (x193_seeks F p A) () (fun A1 => DM A1 S t' ∧ A1.1 91 80 = S.pkm p ∧ TrM A1 S p (S.pkm p) (S.pkm p) 0 ∧ SkM A1 (S.skV p)) := by
  have h2 := hO.nP
  have hle := hP.le
  have hm : 0 < S.pkm p ∧ S.pkm p ≤ 8 := ⟨by by_cases e : S.pkm p = 0; exact absurd (Or.inr e) hn; omega, hle⟩
  have hpow : 2 ^ (S.pkm p - 1) ≤ 2 ^ 7 := Nat.pow_le_pow_right (by omega) (by omega)
  have h128 : 2 ^ 7 = 128 := rfl
  have ep : ((p.toNat : Nat) : Int) = p := by omega
  unfold x193_seeks x194_tries
  have htr := tries2M (F := F) (t' := t') (q := p.toNat) hO hF (by omega) (fun hh => hn (Or.inl hh)) (by rw [ep]; exact hP) F 0 A h (by rw [ep]; exact hA) (fun a b _ _ d => by omega) (by omega) (by rw [ep]; omega)
  rw [ep] at htr
  refine Ret.bind htr (fun B eB hB => ?_)
  exact seeks23M (F := F) hm hF F 0 _ (DM_91 (DM_91 (DM_91 hB.1 (Or.inl rfl)) (Or.inr (Or.inl rfl))) (Or.inr (Or.inr rfl))) hB.2.1.1 hB.2.2 ⟨rfl, rfl, rfl⟩ (Nat.zero_le _) (by omega)
theorem breaksM (h : DM A S t) (hO : OK t S) (ht : t < 512) (hF : 1000 ≤ F) : Ret (x191_breaks F p w A) (S.breaks p w).1 (fun A1 => DM A1 (S.breaks p w).2 (t + 1)) := by
  have h2 := hO.nP
  unfold x191_breaks St.breaks
  by_cases hp : S.isP p
  · rw [hasM1 h.1 hp, if_pos hp]
    simp only [rz_b_some]
    rw [if_neg (by decide)]
    by_cases w0 : w < 0
    · rw [if_neg (by omega), if_pos w0]
      exact lm1 h.up hO ht (by decide) (by decide)
    · rw [if_pos (by omega), if_neg w0]
      by_cases w1 : 3 < w
      · rw [if_pos w1, if_pos w1]
        exact lm1 h.up hO ht (by decide) (by decide)
      · rw [if_neg w1, if_neg w1]
        refine Ret.bind (gathersM (p := p) h.up hO hF) (fun A2 e2 hA => ?_)
        obtain ⟨k1, k2, k3⟩ := hA
        rw [gxp (by omega) (by omega), k1.1.bN, k3.1]
        by_cases c1 : S.bN p.toNat = 0
        · rw [if_pos c1, if_pos (Or.inl c1)]
          exact lm1 k1 hO ht (by decide) (by decide)
        · rw [if_neg c1]
          by_cases c2 : S.pkm p = 0
          · rw [if_pos (by omega), if_pos (Or.inr c2)]
            exact lm1 k1 hO ht (by decide) (by decide)
          · have c : ¬ S.nob p := fun hh => by rcases hh with h9 | h9; exact c1 h9; exact c2 h9
            rw [if_neg (by omega), if_neg c]
            unfold St.brV
            by_cases w3 : w = 3
            · rw [if_pos w3, if_pos w3]
              exact Ret.mk k1
            · rw [if_neg w3, if_neg w3]
              refine Ret.bind (seeksM k1 hO hF hp c k2 k3) (fun A3 e3 hA3 => ?_)
              obtain ⟨d1, d2, d3, d4, d5, d6⟩ := hA3
              rw [d4, d5, d6]
              by_cases c3 : (S.skV p).1 = 99
              · rw [if_pos c3, if_pos c3]
                exact Ret.mk d1
              · rw [if_neg c3, if_neg c3]
                by_cases w4 : w = 0
                · rw [if_pos w4, if_pos w4]
                  exact Ret.mk d1
                · rw [if_neg w4, if_neg w4]
                  by_cases w5 : w = 1
                  · rw [if_pos w5, if_pos w5]
                    exact Ret.mk d1
                  · rw [if_neg w5, if_neg w5]
                    exact Ret.mk d1
  · rw [hasM0 h.1 hp, if_neg hp]
    simp only [rz_b_some]
    rw [if_pos (by decide)]
    exact lm1 h.up hO ht (by decide) (by decide)
/-! shift -/
noncomputable def St.svV (S : St) (p r : Int) : Int := S.svF p (S.skV p).2.2 (S.pkm p) (S.pkm p) 0 r 0
noncomputable def St.shift (S : St) (p r : Int) : Int × St := if S.isP p then (if S.nob p then S.far 4 else if (S.skV p).1 = 99 then S.far 2 else if r < 0 then S.far 0 else if (S.skV p).1 < r then S.far 0 else (S.svV p r, S)) else S.far 0
theorem leastC_loop (hq : (m : Int) = A.1 64 6) (hm : m ≤ 8) (hF : 1000 ≤ F) (hB : ∀ i, i < m → BtC A S p i) {a b : Nat} (hR : Run set m a b) (he : ¬ (b + 1 < m ∧ bitE set b = 0)) (h10 : A.1 64 10 = set) : ∀ (n z x : Nat), x + z = 51 → z < n → S.shF p a b z x ≠ 99 → x107_leastShift_2 F n (bcs set b) x A = some (S.shF p a b z x, A) := by
  intro n
  induction n with
  | zero => intro z x h1 h2; omega
  | succ n ih =>
    intro z x h1 h2 h3
    cases z with
    | zero => exact absurd rfl h3
    | succ z =>
      unfold x107_leastShift_2
      unfold St.shF at h3 ⊢
      rw [if_pos (by omega), g32p (by omega), h10, runC hq hm hF hB, ← hR.rgo hm he]
      simp only [rz_b_some]
      by_cases c1 : S.rgo p (-(x : Int)) a b = true
      · rw [if_pos c1, if_neg (by decide), if_pos c1]
      · rw [if_neg c1] at h3
        rw [if_neg c1, if_pos rfl, if_neg c1, h10, runC hq hm hF hB, ← hR.rgo hm he]
        simp only [rz_b_some]
        by_cases c2 : S.rgo p x a b = true
        · rw [if_pos c2, if_neg (by decide), if_pos c2]
        · rw [if_neg c2] at h3
          rw [if_neg c2, if_pos rfl, if_neg c2, g32p (by omega), show (x : Int) + 1 = ((x + 1 : Nat) : Int) by omega]
          exact ih z (x + 1) (by omega) (by omega) h3
theorem shiftC' (h : DC A S t) (hO : OK t S) (ht : t < 512) (hF : 1000 ≤ F) : Ret (x106_shift F p r A) (S.shift p r).1 (fun A1 => DC A1 (S.shift p r).2 (t + 1)) := by
  unfold x106_shift St.shift
  by_cases hp : S.isP p
  · rw [hasC1 h.1 hp, if_pos hp]
    simp only [rz_b_some]
    rw [if_neg (by decide), h.1.now]
    refine Ret.bind (seeSN h hO ht hF hO.now) (fun A1 e1 hS => ?_)
    refine Ret.bind (gathC hS hO.mono hF hp) (fun A2 e2 hA => ?_)
    obtain ⟨k1, k2, k3, k4⟩ := hA
    by_cases c : S.nob p
    · rw [if_pos c, if_pos rfl, if_pos c]
      exact lk2 k1.dc hO ht (by decide) (by decide)
    · have hle := k2.le
      have hm : 0 < S.pkm p ∧ S.pkm p ≤ 8 := ⟨by by_cases e : S.pkm p = 0; exact absurd (Or.inr e) c; omega, hle⟩
      rw [if_neg c, if_neg (by decide), if_neg c]
      refine Ret.bind (searchC k1 hm hF k3 (k4 c)) (fun A3 e3 hA3 => ?_)
      obtain ⟨d1, d2, d3, d4, d5, d6⟩ := hA3
      by_cases c2 : (S.skV p).1 = 99
      · rw [if_pos c2, if_pos rfl, if_pos c2]
        exact lk2 d1.dc hO ht (by decide) (by decide)
      · rw [if_neg c2] at d4
        rw [if_neg c2, if_neg (by decide), if_neg c2, d4]
        by_cases r0 : r < 0
        · rw [if_neg (by omega), if_pos r0]
          exact lk2 d1.dc hO ht (by decide) (by decide)
        · rw [if_pos (by omega), if_neg r0]
          by_cases r1 : (S.skV p).1 < r
          · rw [if_pos r1, if_pos r1]
            exact lk2 d1.dc hO ht (by decide) (by decide)
          · rw [if_neg r1, if_neg r1]
            have hsb := (skV_b (S := S) (p := p) hm).2
            rcases hsb with h9 | ⟨z1, z2, z3, z4, z5⟩
            · exact absurd h9.1 c2
            · obtain ⟨a', b', y1, y2, y3, y4, y5⟩ := svF_run (S := S) (p := p) (set := (S.skV p).2.2) (r := r) hm.2 (by rw [z4]; omega) (S.pkm p) 0 0 r (by omega) hm.1 (run00 hm.1) (by show r = r - 0; omega) (by omega) z5
              have h8 := leastC_loop (F := F) d2.symm hm.2 hF d3 y1 y2 (d6 c2) F 51 0 (by omega) (by omega) y5
              rw [y3] at h8
              unfold x107_leastShift
              have h8' : x107_leastShift_2 F F r 0 A3 = some (S.sh p a' b', A3) := h8
              rw [h8']
              simp only [rz_b_some]
              have ev : S.svV p r = S.sh p a' b' := y4
              rw [ev]
              exact Ret.mk d1.dc
  · rw [hasC0 h.1 hp, if_neg hp]
    simp only [rz_b_some]
    rw [if_pos (by decide)]
    exact lk2 h.up hO ht (by decide) (by decide)
theorem shift89M (hA : A.1 91 80 = m) (hm : m ≤ 8) (hT : TrM A S p m m 0) (h86 : A.1 91 86 = set) (hr : r ≤ bcs set (m - 1)) : ∀ (n z a b : Nat) (left : Int), b + z = m → 0 < z → z < n → a ≤ b → Run set m a b → left = r - bcs set b → 0 ≤ left → left ≤ 100 → x199_shift_89 F n a left b A = some (S.svF p set m z a left b, A) := by
  intro n
  induction n with
  | zero => intro z a b left h1 h2 h3; omega
  | succ n ih =>
    intro z a b left h1 h2 h3 h4 hR hl h0 h100
    cases z with
    | zero => omega
    | succ z =>
      have ebit : rz_oI fAnd (rz_oI fShr set (b : Int)) 1 = bitE set b := rfl
      have eidx : (8 * (a : Int) + b).toNat = 8 * a + b := by omega
      unfold x199_shift_89
      unfold St.svF
      rw [hA, if_pos (by omega), g32p (by omega), h86, ebit, show (b : Int) + 1 = ((b + 1 : Nat) : Int) by omega]
      have test : ¬ (b + 1 < m ∧ bitE set b = 0) → (rz_g32 (left + (-1)) <| if left = 0 then (rz_g32 (8 * (a : Int)) <| rz_g32 (8 * (a : Int) + b) <| rz_gx (8 * (a : Int) + b) 64 <| some (A.1 146 (8 * (a : Int) + b).toNat, A)) else x199_shift_89 F n ((b + 1 : Nat) : Int) (left + (-1)) ((b + 1 : Nat) : Int) A) = some (if left = 0 then S.sh p a b else S.svF p set m z (b + 1) (left - 1) (b + 1), A) := by
        intro hc
        rw [g32p (by omega)]
        by_cases c : left = 0
        · rw [if_pos c, if_pos c, g32p (by omega), g32p (by omega), gxp (by omega) (by omega), eidx, hT a b h4 (by omega) (Or.inl (by omega))]
        · rw [if_neg c, if_neg c, show left + (-1) = left - 1 by omega]
          by_cases c4 : b + 1 < m
          · obtain ⟨k1, k2⟩ := hR.new hm c4 (fun hh => hc ⟨c4, hh⟩)
            exact ih z (b + 1) (b + 1) (left - 1) (by omega) (by omega) (by omega) (Nat.le_refl _) k1 (by omega) (by omega) (by omega)
          · have : b = m - 1 := by omega
            rw [this] at hl
            omega
      by_cases c1 : b + 1 < m
      · rw [if_pos (by omega)]
        by_cases c2 : bitE set b = 0
        · rw [if_pos c2, if_pos (show b + 1 < m ∧ bitE set b = 0 from ⟨c1, c2⟩)]
          obtain ⟨k1, k2⟩ := hR.more ⟨c1, c2⟩
          exact ih z a (b + 1) left (by omega) (by omega) (by omega) (by omega) k1 (by rw [k2]; exact hl) h0 h100
        · rw [if_neg c2, if_neg (show ¬ (b + 1 < m ∧ bitE set b = 0) from fun hh => c2 hh.2)]
          exact test (fun hh => c2 hh.2)
      · rw [if_neg (by omega), if_neg (show ¬ (b + 1 < m ∧ bitE set b = 0) from fun hh => c1 hh.1)]
        exact test (fun hh => c1 hh.1)
theorem shiftM' (h : DM A S t) (hO : OK t S) (ht : t < 512) (hF : 1000 ≤ F) : Ret (x199_shift F p r A) (S.shift p r).1 (fun A1 => DM A1 (S.shift p r).2 (t + 1)) := by
  have h2 := hO.nP
  unfold x199_shift St.shift
  by_cases hp : S.isP p
  · rw [hasM1 h.1 hp, if_pos hp]
    simp only [rz_b_some]
    rw [if_neg (by decide)]
    refine Ret.bind (gathersM (p := p) h.up hO hF) (fun A2 e2 hA => ?_)
    obtain ⟨k1, k2, k3⟩ := hA
    rw [gxp (by omega) (by omega), k1.1.bN, k3.1]
    by_cases c1 : S.bN p.toNat = 0
    · rw [if_pos c1, if_pos (Or.inl c1)]
      exact lm2 k1 hO ht (by decide) (by decide)
    · rw [if_neg c1]
      by_cases c2 : S.pkm p = 0
      · rw [if_pos (by omega), if_pos (Or.inr c2)]
        exact lm2 k1 hO ht (by decide) (by decide)
      · have c : ¬ S.nob p := fun hh => by rcases hh with h9 | h9; exact c1 h9; exact c2 h9
        have hle := k2.le
        have hm : 0 < S.pkm p ∧ S.pkm p ≤ 8 := ⟨by omega, hle⟩
        rw [if_neg (by omega), if_neg c]
        refine Ret.bind (seeksM k1 hO hF hp c k2 k3) (fun A3 e3 hA3 => ?_)
        obtain ⟨d1, d2, d3, d4, d5, d6⟩ := hA3
        rw [d4]
        by_cases c3 : (S.skV p).1 = 99
        · rw [if_pos c3, if_pos c3]
          exact lm2 d1 hO ht (by decide) (by decide)
        · rw [if_neg c3, if_neg c3]
          by_cases r0 : r < 0
          · rw [if_neg (by omega), if_pos r0]
            exact lm2 d1 hO ht (by decide) (by decide)
          · rw [if_pos (by omega), if_neg r0]
            by_cases r1 : (S.skV p).1 < r
            · rw [if_pos r1, if_pos r1]
              exact lm2 d1 hO ht (by decide) (by decide)
            · rw [if_neg r1, if_neg r1]
              have hsb := (skV_b (S := S) (p := p) hm).2
              rcases hsb with h9 | ⟨z1, z2, z3, z4, z5⟩
              · exact absurd h9.1 c3
              · have h8 := shift89M (F := F) (r := r) d2 hm.2 d3 d6 (by rw [z4]; omega) F (S.pkm p) 0 0 r (by omega) hm.1 (by omega) (Nat.le_refl _) (run00 hm.1) (by show r = r - 0; omega) (by omega) (by omega)
                have h8' : x199_shift_89 F F 0 r 0 A3 = some (S.svV p r, A3) := h8
                rw [h8']
                exact Ret.mk d1
  · rw [hasM0 h.1 hp, if_neg hp]
    simp only [rz_b_some]
    rw [if_pos (by decide)]
    exact lm2 h.up hO ht (by decide) (by decide)
end BREAKS
