set_option maxRecDepth 8000
/-! the greatest that divides both -/
def euc : Nat → Int → Int → Option Int
  | 0, _, _ => none
  | n + 1, a, b => if b = 0 then some a else euc n b (a.tmod b)
theorem euc_le {g : Int} : ∀ {n m : Nat} {a b : Int}, n ≤ m → euc n a b = some g → euc m a b = some g
  | 0, _, _, _, _, h => by cases h
  | n + 1, 0, _, _, h, _ => absurd h (by omega)
  | n + 1, m + 1, a, b, hm, h => by
    unfold euc at h ⊢
    by_cases c : b = 0
    · rw [if_pos c] at h ⊢; exact h
    · rw [if_neg c] at h ⊢
      exact euc_le (by omega) h
theorem euc_ok : ∀ (k : Nat) (a b : Int), 0 ≤ a → 0 ≤ b → b < 2 ^ k → ∃ g, euc (2 * k + 1) a b = some g
  | 0, a, b, _, h1, h2 => by
    have : b = 0 := by
      have h3 : (2 : Int) ^ 0 = 1 := rfl
      omega
    exact ⟨a, by unfold euc; rw [if_pos this]⟩
  | k + 1, a, b, h0, h1, h2 => by
    show ∃ g, euc (2 * k + 1 + 1 + 1) a b = some g
    unfold euc
    by_cases c : b = 0
    · exact ⟨a, by rw [if_pos c]⟩
    · rw [if_neg c]
      have e1 : a.tmod b = a % b := Int.tmod_eq_emod_of_nonneg h0
      have r0 := Int.emod_nonneg a c
      have r1 := Int.emod_lt_of_pos a (by omega : 0 < b)
      unfold euc
      rw [e1]
      by_cases c2 : a % b = 0
      · exact ⟨b, by rw [if_pos c2]⟩
      · rw [if_neg c2]
        have e2 : b.tmod (a % b) = b % (a % b) := Int.tmod_eq_emod_of_nonneg h1
        have q0 := Int.emod_nonneg b c2
        have q1 := Int.emod_lt_of_pos b (by omega : 0 < a % b)
        rw [e2]
        have hd := Int.mul_ediv_add_emod b (a % b)
        have hq : 1 ≤ b / (a % b) := by
          rw [Int.le_ediv_iff_mul_le (by omega)]
          omega
        have hm : (a % b) * 1 ≤ (a % b) * (b / (a % b)) := Int.mul_le_mul_of_nonneg_left hq (by omega)
        have hp : (2 : Int) ^ (k + 1) = 2 ^ k * 2 := Int.pow_succ 2 k
        exact euc_ok k _ _ r0 q0 (by omega)
theorem euc_pos : ∀ {n : Nat} {a b g : Int}, 0 ≤ a → 0 ≤ b → ¬ (a = 0 ∧ b = 0) → euc n a b = some g → 1 ≤ g
  | 0, _, _, _, _, _, _, h => by cases h
  | n + 1, a, b, g, h0, h1, h2, h => by
    unfold euc at h
    by_cases c : b = 0
    · rw [if_pos c] at h
      cases h
      omega
    · rw [if_neg c] at h
      have e1 : a.tmod b = a % b := Int.tmod_eq_emod_of_nonneg h0
      rw [e1] at h
      exact euc_pos h1 (Int.emod_nonneg a c) (fun hh => c hh.1) h
/-! AGREE -/
abbrev St.fo (S : St) (p u : Int) : Int := S.flOf p u S.now
abbrev St.ab (S : St) (o q f : Int) (l i : Nat) : Prop := 0 ≤ S.fo o (f + i) ∧ 0 ≤ S.fo q (f + i + l)
def St.aS (S : St) (o q f : Int) (l : Nat) : Nat → Int
  | 0 => 0
  | i + 1 => S.aS o q f l i + if S.ab o q f l i then absV (S.fo o (f + i) - S.fo q (f + i + l)) else 0
def St.aC (S : St) (o q f : Int) (l : Nat) : Nat → Int
  | 0 => 0
  | i + 1 => S.aC o q f l i + if S.ab o q f l i then 1 else 0
def St.ag (S : St) (o q f : Int) (m : Nat) : Nat → Int × Int × Int
  | 0 => (-1, 0, 1)
  | l + 1 => if 0 < S.aC o q f l m ∧ ((S.ag o q f m l).1 < 0 ∨ S.aS o q f l m * (S.ag o q f m l).2.2 < (S.ag o q f m l).2.1 * S.aC o q f l m) then ((l : Int), S.aS o q f l m, S.aC o q f l m) else S.ag o q f m l
def St.agV (S : St) (o q f e : Int) : Int × Int × Int := S.ag o q f (e - f + 1).toNat 21
def St.agG (S : St) (o q f e : Int) : Int := match euc 40 (S.agV o q f e).2.1 (S.agV o q f e).2.2 with
  | some g => g
  | none => 1
def St.agree (S : St) (o q f e w : Int) : Int × St := if S.isP o then (if S.isP q then (if w < 0 then S.no 1 else if 2 < w then S.no 1 else if f < 0 then S.no 3 else if e < f then S.no 3 else if 9999 < e then S.no 5 else if 300 ≤ e - f then S.no 5 else if (S.agV o q f e).1 < 0 then S.no 4 else (if w = 0 then (S.agV o q f e).1 else if w = 1 then rz_oN ((S.agV o q f e).2.1.tdiv (S.agG o q f e)) else rz_oN ((S.agV o q f e).2.2.tdiv (S.agG o q f e)), S)) else S.no 0) else S.no 0
section AGREE
variable {t t' F : Nat} {A A0 A' : rz_A} {S : St} {V : Vw} {p u k a b l v w o q f e : Int} {cs : List Nat} {fs : List (Nat × Nat)} {i : Nat}
theorem aS_b (hO : OK t S) (o q f : Int) (l : Nat) : ∀ i : Nat, (0 ≤ S.aS o q f l i ∧ S.aS o q f l i ≤ 100000000 * i) ∧ 0 ≤ S.aC o q f l i ∧ S.aC o q f l i ≤ i
  | 0 => by show ((0 : Int) ≤ 0 ∧ (0 : Int) ≤ 100000000 * ((0 : Nat) : Int)) ∧ (0 : Int) ≤ 0 ∧ (0 : Int) ≤ ((0 : Nat) : Int); omega
  | i + 1 => by
    have ih := aS_b hO o q f l i
    have b1 := flOf_b (p := o) (u := f + i) (k := S.now) hO
    have b2 := flOf_b (p := q) (u := f + i + l) (k := S.now) hO
    unfold St.aS St.aC
    by_cases c : S.ab o q f l i
    · rw [if_pos c, if_pos c]
      have c1 : 0 ≤ S.flOf o (f + i) S.now ∧ 0 ≤ S.flOf q (f + i + l) S.now := c
      have : 0 ≤ absV (S.fo o (f + i) - S.fo q (f + i + l)) ∧ absV (S.fo o (f + i) - S.fo q (f + i + l)) ≤ 100000000 := by
        show 0 ≤ absV (S.flOf o (f + i) S.now - S.flOf q (f + i + l) S.now) ∧ absV (S.flOf o (f + i) S.now - S.flOf q (f + i + l) S.now) ≤ 100000000
        unfold absV
        split <;> omega
      omega
    · rw [if_neg c, if_neg c]
      omega
theorem aS_s (S : St) (o q f : Int) (l i : Nat) : S.aS o q f l (i + 1) = S.aS o q f l i + if S.ab o q f l i then absV (S.fo o (f + i) - S.fo q (f + i + l)) else 0 := rfl
theorem aC_s (S : St) (o q f : Int) (l i : Nat) : S.aC o q f l (i + 1) = S.aC o q f l i + if S.ab o q f l i then 1 else 0 := rfl
theorem ag_b (hO : OK t S) (o q f : Int) {m : Nat} (hm : m ≤ 300) : ∀ l : Nat, (-1 ≤ (S.ag o q f m l).1 ∧ (S.ag o q f m l).1 < l) ∧ (0 ≤ (S.ag o q f m l).2.1 ∧ (S.ag o q f m l).2.1 ≤ 30000000000) ∧ 1 ≤ (S.ag o q f m l).2.2 ∧ (S.ag o q f m l).2.2 ≤ 300
  | 0 => by show (-1 ≤ (-1 : Int) ∧ (-1 : Int) < ((0 : Nat) : Int)) ∧ (0 ≤ (0 : Int) ∧ (0 : Int) ≤ 30000000000) ∧ 1 ≤ (1 : Int) ∧ (1 : Int) ≤ 300; omega
  | l + 1 => by
    have ih := ag_b hO o q f hm l
    have hb := aS_b hO o q f l m
    unfold St.ag
    split
    · rename_i hc
      show (-1 ≤ (l : Int) ∧ (l : Int) < ((l + 1 : Nat) : Int)) ∧ (0 ≤ S.aS o q f l m ∧ S.aS o q f l m ≤ 30000000000) ∧ 1 ≤ S.aC o q f l m ∧ S.aC o q f l m ≤ 300
      omega
    · omega
theorem agG_ok (hO : OK t S) (hm : e - f < 300) : euc 40 (S.agV o q f e).2.1 (S.agV o q f e).2.2 = some (S.agG o q f e) ∧ 1 ≤ S.agG o q f e := by
  have hb := ag_b hO o q f (m := (e - f + 1).toNat) (by omega) 21
  have hb2 : (0 ≤ (S.agV o q f e).2.1 ∧ (S.agV o q f e).2.1 ≤ 30000000000) ∧ 1 ≤ (S.agV o q f e).2.2 ∧ (S.agV o q f e).2.2 ≤ 300 := hb.2
  have hp : (2 : Int) ^ 9 = 512 := by decide
  obtain ⟨g, hg⟩ := euc_ok 9 (S.agV o q f e).2.1 (S.agV o q f e).2.2 (by omega) (by omega) (by omega)
  have hg2 := euc_le (m := 40) (by decide) hg
  have e1 : S.agG o q f e = g := by unfold St.agG; rw [hg2]
  rw [e1]
  exact ⟨hg2, euc_pos (by omega) (by omega) (by omega) hg2⟩
theorem gcdC : ∀ (n m : Nat) (i : Nat) (a b g : Int), m ≤ n → i + m ≤ 100 → 0 ≤ a → 0 ≤ b → b ≤ 1000000000000 → euc m a b = some g → x127_commonDivisor_9 F n a b i A = some (g, A) := by
  intro n
  induction n with
  | zero =>
    intro m i a b g h1 h2 h3 h4 h5 h6
    have : m = 0 := by omega
    subst this
    cases h6
  | succ n ih =>
    intro m i a b g h1 h2 h3 h4 h5 h6
    cases m with
    | zero => cases h6
    | succ m =>
      unfold x127_commonDivisor_9
      unfold euc at h6
      rw [if_pos (by omega)]
      by_cases c : b = 0
      · rw [if_pos c] at h6 ⊢
        cases h6
        rfl
      · have e1 : a.tmod b = a % b := Int.tmod_eq_emod_of_nonneg h3
        have r0 := Int.emod_nonneg a c
        have r1 := Int.emod_lt_of_pos a (by omega : 0 < b)
        rw [if_neg c] at h6 ⊢
        rw [e1] at h6 ⊢
        rw [gnp c, g64p (by omega), g32p (by omega), show (i : Int) + 1 = ((i + 1 : Nat) : Int) by omega]
        exact ih m (i + 1) b (a % b) g (by omega) (by omega) h4 r0 (by omega) h6
theorem gcdM {w y z x : Int} : ∀ (n m : Nat) (a b g : Int), m ≤ n → 0 ≤ a → 0 ≤ b → b ≤ 1000000000000 → euc m a b = some g → x207_agree_504 F n w y z x a b A = x207_agree_529 F w y z x g A := by
  intro n
  induction n with
  | zero =>
    intro m a b g h1 h3 h4 h5 h6
    have : m = 0 := by omega
    subst this
    cases h6
  | succ n ih =>
    intro m a b g h1 h3 h4 h5 h6
    cases m with
    | zero => cases h6
    | succ m =>
      unfold x207_agree_504
      unfold euc at h6
      by_cases c : b = 0
      · rw [if_pos c] at h6 ⊢
        cases h6
        rfl
      · have e1 : a.tmod b = a % b := Int.tmod_eq_emod_of_nonneg h3
        have r0 := Int.emod_nonneg a c
        have r1 := Int.emod_lt_of_pos a (by omega : 0 < b)
        rw [if_neg c] at h6 ⊢
        rw [e1] at h6 ⊢
        rw [gnp c, g64p (by omega)]
        exact ih m b (a % b) g (by omega) h4 r0 (by omega) h6
/-- all that is rated at a place is its FLOW OF -/
def Rt (A : rz_A) (S : St) (x : Nat) : Prop := ∀ p u : Int, 0 ≤ p → p < 6 → 0 ≤ u → u ≤ 9999 → A.1 53 x = p * 16384 + u → A.1 63 x = S.fo p u
theorem SN_63 {j : Nat} (h : SN A S k t) : SN (aI A 63 j v) S k t := h.fr (Fr.aI (cs := [63]) (fs := []) Fr.rfl (Or.inl (by decide))) (by decide) (by decide)
theorem rateAllC_loop (hO : OK t S) (hF : 1000 ≤ F) (hp : 0 ≤ p ∧ p < 6) (ha : 0 ≤ a) (hb : b ≤ 9999) {st : Nat} (hst : Plc A0 (p * 16384 + a) st) {G : Nat → Prop} : ∀ (n x : Nat) (A : rz_A), SN A S S.now t → A.1 53 = A0.1 53 → A.1 51 10 = A0.1 51 10 → st ≤ x → (x : Int) ≤ A0.1 51 10 → A0.1 51 10 < n + x → (∀ y, (G y ∨ (st ≤ y ∧ y < x)) → (y : Int) < A0.1 51 10 → Rt A S y) → Ret (x125_rateAll_21 F n (p * 16384 + b) x A) () (fun A1 => SN A1 S S.now t ∧ A1.1 53 = A0.1 53 ∧ A1.1 51 10 = A0.1 51 10 ∧ ∀ y, (G y ∨ (st ≤ y ∧ A0.1 53 y ≤ p * 16384 + b)) → (y : Int) < A0.1 51 10 → Rt A1 S y) := by
  have hnH := hO.nH
  intro n
  induction n with
  | zero => intro x A hS h1 h2 h3 h4 h5; omega
  | succ n ih =>
    intro x A hS h1 h2 h3 h4 h5 h6
    have hv := hS.view
    have hn := hv.n
    have hn2 : A.1 51 10 ≤ S.nH := hn.2
    have stop : (∀ y : Nat, x ≤ y → (y : Int) < A.1 51 10 → p * 16384 + b < A.1 53 y) → Ret (some ((), A)) () (fun A1 => SN A1 S S.now t ∧ A1.1 53 = A0.1 53 ∧ A1.1 51 10 = A0.1 51 10 ∧ ∀ y, (G y ∨ (st ≤ y ∧ A0.1 53 y ≤ p * 16384 + b)) → (y : Int) < A0.1 51 10 → Rt A1 S y) := by
      intro hend
      refine Ret.mk ⟨hS, h1, h2, fun y hy hy2 => h6 y ?_ hy2⟩
      rcases hy with hy | hy
      · exact Or.inl hy
      · by_cases c : y < x
        · exact Or.inr ⟨hy.1, c⟩
        · have := hend y (by omega) (by omega)
          rw [h1] at this
          omega
    unfold x125_rateAll_21
    by_cases c1 : (x : Int) < A.1 51 10
    · rw [if_pos c1, gxp (by omega) (by omega), Int.toNat_natCast]
      by_cases c2 : A.1 53 x ≤ p * 16384 + b
      · rw [if_pos c2]
        have hge := hst.2.2 x h3 (by rw [← h2]; exact c1)
        rw [← h1] at hge
        obtain ⟨u, g1, g2, g3, g4, g5⟩ := view_at hv hp ha hb c1 hge c2
        refine Ret.bind (rateC (F := F) (r := (x : Int)) hS hO hF hO.now ⟨by omega, c1⟩ g3 (by rw [Int.toNat_natCast]; exact g4) (by rw [Int.toNat_natCast]; exact g5)) (fun A5 e5 hA => ?_)
        have fr := wx85_rate F e5
        have q53 : A5.1 53 = A.1 53 := (fr.row (c := 53) (by decide) (by decide)).1
        have q63 : A5.1 63 = A.1 63 := (fr.row (c := 63) (by decide) (by decide)).1
        have q10 : A5.1 51 10 = A.1 51 10 := (fr.slot (c := 51) (k := 10) (by decide) (by decide)).1
        rw [g32p (by omega), show (x : Int) + 1 = ((x + 1 : Nat) : Int) by omega]
        refine ih (x + 1) _ (SN_63 hA.1) (q53.trans h1) (q10.trans h2) (by omega) (by omega) (by omega) (fun y hy hy2 => ?_)
        intro p' u' d1 d2 d3 d4 d5
        have d6 : A.1 53 y = p' * 16384 + u' := by
          rw [← q53]; exact d5
        show (if y = x then S.flOf p u S.now else A5.1 63 y) = S.flOf p' u' S.now
        by_cases ey : y = x
        · rw [if_pos ey]
          rw [ey] at d6
          have : p' = p := by omega
          have : u' = u := by omega
          subst p' u'
          rfl
        · rw [if_neg ey, q63]
          refine h6 y ?_ hy2 p' u' d1 d2 d3 d4 d6
          rcases hy with hy | hy
          · exact Or.inl hy
          · exact Or.inr ⟨hy.1, by omega⟩
      · rw [if_neg c2]
        exact stop (fun y hy1 hy2 => by
          by_cases ey : y = x
          · rw [ey]; omega
          · have := hv.sort x y (by omega) hy2; omega)
    · rw [if_neg c1]
      exact stop (fun y hy1 hy2 => by omega)
theorem rateAllC (h : SN A S S.now t) (hO : OK t S) (hF : 1000 ≤ F) (hp : 0 ≤ p ∧ p < 6) (ha : 0 ≤ a ∧ a ≤ 9999) (hb : 0 ≤ b ∧ b ≤ 9999) {G : Nat → Prop} (hG : ∀ y : Nat, G y → (y : Int) < A.1 51 10 → Rt A S y) : Ret (x125_rateAll F p a b A) () (fun A1 => SN A1 S S.now t ∧ A1.1 53 = A.1 53 ∧ A1.1 51 10 = A.1 51 10 ∧ ∀ y : Nat, (G y ∨ (p * 16384 + a ≤ A.1 53 y ∧ A.1 53 y ≤ p * 16384 + b)) → (y : Int) < A.1 51 10 → Rt A1 S y) := by
  have hnH := hO.nH
  have hn := h.view.n
  have hn2 : A.1 51 10 ≤ S.nH := hn.2
  unfold x125_rateAll
  rw [keyC hp (by omega)]
  simp only [rz_b_some]
  rw [keyC hp (by omega)]
  simp only [rz_b_some]
  obtain ⟨st, e1, e2⟩ := firstC (F := F) (v := p * 16384 + a) h.view hnH hF
  rw [e1]
  simp only [rz_b_some]
  have hle := e2.1
  refine Ret.of (rateAllC_loop (F := F) (G := G) hO hF hp ha.1 hb.2 e2 F st A h rfl rfl (Nat.le_refl _) hle (by omega) (fun y hy hy2 => ?_)) (fun A1 hA => ⟨hA.1, hA.2.1, hA.2.2.1, fun y hy hy2 => hA.2.2.2 y ?_ hy2⟩)
  · rcases hy with hy | hy
    · exact hG y hy hy2
    · omega
  · rcases hy with hy | hy
    · exact Or.inl hy
    · refine Or.inr ⟨?_, hy.2⟩
      by_cases c : y < st
      · have := e2.2.1 y c; omega
      · omega
/-- what a LAG's loop goes through -/
theorem cmpC_in (hv : View A S.vw S.now) (hO : OK t S) {k46 : Int → Int → Int → Int → Int → Int → Int → rz_A → Option (Unit × rz_A)} {Q : rz_A → Prop} {v1 v3 v6 v8 v10 v12 wt : Int} : ∀ (n th : Nat), (th : Int) ≤ A.1 51 10 → A.1 51 10 < n + th → (∀ y : Nat, y < th → A.1 53 y < wt) → (∀ r : Nat, Plc A wt r → Ret (x126_compareBy_123 F k46 v1 v3 v6 v8 v10 r v12 wt A) () Q) → Ret (x126_compareBy_90 F k46 n v1 v3 v6 v8 v10 th v12 wt A) () Q := by
  have hnH := hO.nH
  have hn := hv.n
  have hn2 : A.1 51 10 ≤ S.nH := hn.2
  intro n
  induction n with
  | zero => intro th h1 h2; omega
  | succ n ih =>
    intro th h1 h2 h3 hk
    unfold x126_compareBy_90
    by_cases c1 : (th : Int) < A.1 51 10
    · rw [if_pos c1, gxp (by omega) (by omega), Int.toNat_natCast]
      by_cases c2 : A.1 53 th < wt
      · rw [if_pos c2, g32p (by omega), show (th : Int) + 1 = ((th + 1 : Nat) : Int) by omega]
        refine ih (th + 1) (by omega) (by omega) (fun y hy => ?_) hk
        by_cases ey : y = th
        · rw [ey]; exact c2
        · exact h3 y (by omega)
      · rw [if_neg c2]
        refine hk th ⟨h1, h3, fun y hy hy2 => ?_⟩
        by_cases ey : y = th
        · rw [ey]; omega
        · have := hv.sort th y (by omega) hy2; omega
    · rw [if_neg c1]
      exact hk th ⟨h1, h3, fun y hy hy2 => by omega⟩
theorem cmpC_loop (hv : View A S.vw S.now) (hO : OK t S) (hF : 1000 ≤ F) (ho : 0 ≤ o ∧ o < 6) (hq : 0 ≤ q ∧ q < 6) (hf : 0 ≤ f ∧ f ≤ e ∧ e ≤ 9999) (he : e - f < 300) {l : Nat} (hl : l ≤ 20) (hR1 : ∀ y : Nat, (y : Int) < A.1 51 10 → o * 16384 + f ≤ A.1 53 y → A.1 53 y ≤ o * 16384 + e → Rt A S y) (hR2 : ∀ y : Nat, (y : Int) < A.1 51 10 → q * 16384 + f ≤ A.1 53 y → A.1 53 y ≤ q * 16384 + e + 20 → Rt A S y) {Q : rz_A → Prop} (fin : Ret (x126_compareBy_218 F l (S.aS o q f l (e - f + 1).toNat) (S.aC o q f l (e - f + 1).toNat) A) () Q) : ∀ (n x th T : Nat), (x : Int) ≤ A.1 51 10 → A.1 51 10 < n + x → (T : Int) ≤ e - f + 1 → (th : Int) ≤ A.1 51 10 → (∀ y : Nat, y < th → A.1 53 y < q * 16384 + (f + T + l)) → (∀ y : Nat, y < x → A.1 53 y < o * 16384 + f + T) → (∀ y : Nat, x ≤ y → (y : Int) < A.1 51 10 → o * 16384 + f + T ≤ A.1 53 y) → Ret (x126_compareBy_46 F n l q (S.aS o q f l T) (S.aC o q f l T) (o * 16384 + e) th x A) () Q := by
  have hnH := hO.nH
  have hn := hv.n
  have hn2 : A.1 51 10 ≤ S.nH := hn.2
  intro n
  induction n with
  | zero => intro x th T h1 h2; omega
  | succ n ih =>
    intro x th T h1 h2 h3 h4 h5 h6 h7
    have hsb := aS_b hO o q f l
    have noent : ∀ U : Nat, T ≤ U → (U : Int) ≤ e - f + 1 → (∀ y : Nat, x ≤ y → (y : Int) < A.1 51 10 → o * 16384 + f + U ≤ A.1 53 y) → S.aS o q f l U = S.aS o q f l T ∧ S.aC o q f l U = S.aC o q f l T := by
      intro U
      induction U with
      | zero => intro hU _ _; have : T = 0 := by omega
                subst this; exact ⟨rfl, rfl⟩
      | succ U ihU =>
        intro hU hU2 hy
        by_cases eU : T = U + 1
        · subst eU; exact ⟨rfl, rfl⟩
        · have ih2 := ihU (by omega) (by omega) (fun y hy1 hy2 => by have := hy y hy1 hy2; omega)
          have hno : ¬ S.ab o q f l U := fun hh => by
            have hw := (flOf_n (S := S) (p := o) (u := f + U) (k := S.now) hh.1).1
            obtain ⟨y, e1, e2⟩ := hv.cmp o (f + U) ho.1 ho.2 (by omega) (by omega) hw
            by_cases c : y < x
            · have := h6 y c; omega
            · have := hy y (by omega) e1; omega
          rw [aS_s, aC_s, if_neg hno, if_neg hno]
          omega
    have stop : (∀ y : Nat, x ≤ y → (y : Int) < A.1 51 10 → o * 16384 + e < A.1 53 y) → Ret (x126_compareBy_218 F l (S.aS o q f l T) (S.aC o q f l T) A) () Q := by
      intro hend
      have := noent (e - f + 1).toNat (by omega) (by omega) (fun y hy1 hy2 => by have := hend y hy1 hy2; omega)
      rw [this.1, this.2] at fin
      exact fin
    unfold x126_compareBy_46
    by_cases c1 : (x : Int) < A.1 51 10
    · rw [if_pos c1, gxp (by omega) (by omega), Int.toNat_natCast]
      by_cases c2 : A.1 53 x ≤ o * 16384 + e
      · rw [if_pos c2]
        have hge := h7 x (Nat.le_refl _) c1
        obtain ⟨u, g1, g2, g3, g4, g5⟩ := view_at (a := f) (b := e) hv ho hf.1 hf.2.2 c1 (by omega) c2
        have ek := tdiv_key ho (u := u) (by omega)
        have hi := noent (u - f).toNat (by omega) (by omega) (fun y hy1 hy2 => by
          by_cases ey : y = x
          · rw [ey]; omega
          · have := hv.sort x y (by omega) hy2; omega)
        have eu : f + (((u - f).toNat : Nat) : Int) = u := by omega
        unfold x87_timeOf
        rw [gxp (by omega) (by omega), Int.toNat_natCast, g4, ek.2, g32p (by omega)]
        simp only [rz_b_some]
        rw [g32p (by omega), keyC hq (by omega)]
        simp only [rz_b_some]
        refine cmpC_in (F := F) hv hO F th h4 (by omega) (fun y hy => by have := h5 y hy; omega) (fun r hr => ?_)
        have hb1 := hsb T
        have ih' := ih (x + 1) r ((u - f).toNat + 1) (by omega) (by omega) (by omega) hr.1 (fun y hy => by have := hr.2.1 y hy; omega) (fun y hy => by
          by_cases ey : y = x
          · rw [ey]; omega
          · have := h6 y (by omega); omega) (fun y hy1 hy2 => by have := hv.sort x y (by omega) hy2; omega)
        rw [aS_s, aC_s, hi.1, hi.2] at ih'
        have hab : S.ab o q f l (u - f).toNat ↔ (0 ≤ S.fo o u ∧ 0 ≤ S.fo q (u + l)) := by
          unfold St.ab
          rw [eu]
        have hrx : A.1 63 x = S.fo o u := hR1 x c1 (by omega) c2 o u ho.1 ho.2 (by omega) (by omega) g4
        have bo : -1 ≤ S.fo o u ∧ S.fo o u ≤ 99999999 := flOf_b hO
        have bq : -1 ≤ S.fo q (u + l) ∧ S.fo q (u + l) ≤ 99999999 := flOf_b hO
        unfold x126_compareBy_123
        have g32 : r32 ((x : Int) + 1) := by omega
        have hcast : (x : Int) + 1 = ((x + 1 : Nat) : Int) := by omega
        simp only [g32p g32]
        simp only [hcast]
        have skip : ¬ (0 ≤ S.fo o u ∧ 0 ≤ S.fo q (u + l)) → Ret (x126_compareBy_46 F n l q (S.aS o q f l T) (S.aC o q f l T) (o * 16384 + e) r ((x + 1 : Nat) : Int) A) () Q := by
          intro hn
          rw [if_neg (fun hh => hn (hab.mp hh)), if_neg (fun hh => hn (hab.mp hh)), Int.add_zero, Int.add_zero] at ih'
          exact ih'
        by_cases d1 : (r : Int) < A.1 51 10
        · rw [if_pos d1, gxp (by omega) (by omega), Int.toNat_natCast]
          by_cases d2 : A.1 53 r = q * 16384 + (u + l)
          · rw [if_pos d2, gxp (by omega) (by omega), Int.toNat_natCast, hrx]
            obtain ⟨p', u', z1, z2, z3, z4, z5⟩ := hv.snd r d1
            have ep : p' = q := by omega
            have eu' : u' = u + l := by omega
            subst ep
            subst eu'
            have hrr : A.1 63 r = S.fo p' (u + l) := hR2 r d1 (by omega) (by omega) p' (u + l) hq.1 hq.2 (by omega) (by omega) d2
            rw [hrr]
            by_cases d3 : 0 ≤ S.fo o u
            · rw [if_pos d3]
              by_cases d4 : 0 ≤ S.fo p' (u + l)
              · rw [if_pos d4, g32p (by omega), absC (by omega)]
                simp only [rz_b_some]
                rw [if_pos (hab.mpr ⟨d3, d4⟩), if_pos (hab.mpr ⟨d3, d4⟩), eu] at ih'
                have hav : absV (S.fo o u - S.fo p' (u + l)) = if S.fo o u - S.fo p' (u + l) < 0 then -(S.fo o u - S.fo p' (u + l)) else S.fo o u - S.fo p' (u + l) := rfl
                rw [← hav, g64p (by rw [hav]; split <;> omega), g64p (by omega)]
                exact ih'
              · rw [if_neg d4]
                exact skip (fun hh => d4 hh.2)
            · rw [if_neg d3]
              exact skip (fun hh => d3 hh.1)
          · rw [if_neg d2]
            refine skip (fun hh => d2 ?_)
            have hw := flOf_n (S := S) (p := q) (u := u + l) (k := S.now) hh.2
            have hwp := which_p hO hw.1
            obtain ⟨y, e1, e2⟩ := hv.cmp q (u + l) hq.1 hq.2 hwp.2.1 hwp.2.2 hw.1
            by_cases c : y < r
            · have := hr.2.1 y c; omega
            · by_cases ey : y = r
              · rw [← ey]; exact e2
              · have z1 := hv.sort r y (by omega) e1
                have z2 := hr.2.2 r (Nat.le_refl _) d1
                omega
        · rw [if_neg d1]
          refine skip (fun hh => ?_)
          have hw := flOf_n (S := S) (p := q) (u := u + l) (k := S.now) hh.2
          have hwp := which_p hO hw.1
          obtain ⟨y, e1, e2⟩ := hv.cmp q (u + l) hq.1 hq.2 hwp.2.1 hwp.2.2 hw.1
          have := hr.2.1 y (by omega)
          omega
      · rw [if_neg c2]
        exact stop (fun y hy1 hy2 => by
          by_cases ey : y = x
          · rw [ey]; omega
          · have := hv.sort x y (by omega) hy2; omega)
    · rw [if_neg c1]
      exact stop (fun y hy1 hy2 => by omega)
end AGREE
