set_option maxRecDepth 8000
/-! counting -/
theorem cntN_skip {P : Nat → Bool} {T : Nat} : ∀ {U : Nat}, T ≤ U → (∀ i, T ≤ i → i < U → P i = false) → cntN P U = cntN P T
  | 0, h, _ => by have : T = 0 := by omega
                  rw [this]
  | U + 1, h, h1 => by
    by_cases e : T = U + 1
    · rw [e]
    · show cntN P U + (if P U then 1 else 0) = _
      rw [h1 U (by omega) (by omega), cntN_skip (by omega) (fun i a b => h1 i a (by omega))]
      rfl
theorem cntN_rem {P : Nat → Bool} {k : Nat} (hk : P k = true) : ∀ {m : Nat}, k < m → cntN P m = cntN (fun u => P u && decide (u ≠ k)) m + 1
  | 0, h => absurd h (Nat.not_lt_zero k)
  | m + 1, h => by
    show cntN P m + (if P m then 1 else 0) = cntN (fun u => P u && decide (u ≠ k)) m + (if (P m && decide (m ≠ k)) then 1 else 0) + 1
    by_cases e : k = m
    · subst e
      have : cntN P k = cntN (fun u => P u && decide (u ≠ k)) k := cntN_congr (fun i hi => by
        show P i = (P i && decide (i ≠ k))
        rw [decide_eq_true (by omega : i ≠ k), Bool.and_true])
      rw [this, hk, decide_eq_false (by omega : ¬ k ≠ k)]
      rfl
    · have ih := cntN_rem hk (m := m) (by omega)
      rw [decide_eq_true (by omega : m ≠ k), Bool.and_true]
      omega
theorem cntN_zero {P : Nat → Bool} {m : Nat} (h : ∀ i, i < m → P i = false) : cntN P m = 0 := by
  have := cntN_skip (P := P) (T := 0) (U := m) (by omega) (fun i _ hi => h i hi)
  rw [this]
  rfl
/-- two counts that match one another -/
theorem cnt_bij {f : Nat → Nat} {m : Nat} {Q : Nat → Bool} : ∀ (n : Nat) (P : Nat → Bool), (∀ h, h < n → Q h = true → f h < m ∧ P (f h) = true) → (∀ h h', h < n → h' < n → Q h = true → Q h' = true → f h = f h' → h = h') → (∀ u, u < m → P u = true → ∃ h, h < n ∧ Q h = true ∧ f h = u) → cntN Q n = cntN P m
  | 0, P, _, _, h3 => by
    rw [cntN_zero (P := P) (m := m) (fun i hi => by
      cases e : P i with
      | false => rfl
      | true =>
        obtain ⟨h, hh, _⟩ := h3 i hi e
        exact absurd hh (Nat.not_lt_zero h))]
    rfl
  | n + 1, P, h1, h2, h3 => by
    show cntN Q n + (if Q n then 1 else 0) = _
    cases e : Q n with
    | false =>
      have := cnt_bij (f := f) (m := m) (Q := Q) n P (fun h hh hq => h1 h (by omega) hq) (fun h h' a b => h2 h h' (by omega) (by omega)) (fun u hu hp => by
        obtain ⟨h, hh, hq, hf⟩ := h3 u hu hp
        refine ⟨h, ?_, hq, hf⟩
        by_cases e2 : h = n
        · rw [e2, e] at hq; cases hq
        · omega)
      rw [this]
      rfl
    | true =>
      obtain ⟨g1, g2⟩ := h1 n (by omega) e
      have := cnt_bij (f := f) (m := m) (Q := Q) n (fun u => P u && decide (u ≠ f n)) (fun h hh hq => by
        obtain ⟨a1, a2⟩ := h1 h (by omega) hq
        refine ⟨a1, ?_⟩
        show (P (f h) && decide (f h ≠ f n)) = true
        rw [a2, decide_eq_true (show f h ≠ f n from fun hf => by have := h2 h n (by omega) (by omega) hq e hf; omega)]
        rfl) (fun h h' a b => h2 h h' (by omega) (by omega)) (fun u hu hp => by
        have hp2 : (P u && decide (u ≠ f n)) = true := hp
        rw [Bool.and_eq_true, decide_eq_true_eq] at hp2
        obtain ⟨h, hh, hq, hf⟩ := h3 u hu hp2.1
        refine ⟨h, ?_, hq, hf⟩
        by_cases e2 : h = n
        · rw [e2] at hf; exact absurd hf.symm hp2.2
        · omega)
      rw [this, cntN_rem g2 g1]
      rfl
/-- HEIGHTS strictly between -/
abbrev St.bt (S : St) (p lo hi : Int) (u : Nat) : Bool := decide (0 ≤ S.vw.which p u S.now ∧ lo < S.vw.lvl p u S.now ∧ S.vw.lvl p u S.now < hi)
def St.cntB (S : St) (p lo hi : Int) : Nat := cntN (S.bt p lo hi) 10000
abbrev St.bq (S : St) (p lo hi : Int) (g : Nat) : Bool := decide (S.hP g = p ∧ S.vw.which p (S.hT g) S.now = (g : Int) ∧ lo < S.vw.lvl p (S.hT g) S.now ∧ S.vw.lvl p (S.hT g) S.now < hi)
section NEXT
variable {t t' F : Nat} {A A0 A' : rz_A} {S : St} {V : Vw} {p u k a b l v w lo hi : Int} {cs : List Nat} {fs : List (Nat × Nat)} {i : Nat}
theorem cntB_eq (hO : OK t S) : cntN (S.bq p lo hi) S.nH = S.cntB p lo hi := by
  refine cnt_bij (f := fun g => (S.hT g).toNat) S.nH (S.bt p lo hi) (fun g hg hq => ?_) (fun g g' h1 h2 q1 q2 hf => ?_) (fun u hu hp => ?_)
  · have hb := hO.h g hg
    have q := of_decide_eq_true hq
    refine ⟨by show (S.hT g).toNat < 10000; omega, decide_eq_true ?_⟩
    rw [show (((fun g => (S.hT g).toNat) g : Nat) : Int) = S.hT g from by show (((S.hT g).toNat : Nat) : Int) = S.hT g; omega]
    exact ⟨by omega, q.2.2⟩
  · have q3 := of_decide_eq_true q1
    have q4 := of_decide_eq_true q2
    have b1 := hO.h g h1
    have b2 := hO.h g' h2
    have hf' : (S.hT g).toNat = (S.hT g').toNat := hf
    have e : S.hT g = S.hT g' := by omega
    have h5 := q3.2.1
    rw [e, q4.2.1] at h5
    omega
  · have q := of_decide_eq_true hp
    have hwb : S.vw.which p u S.now < S.nH := (S.vw.wAcc_b p u S.now S.nH).1
    have hpu := wAcc_p S.vw p u S.now S.nH q.1
    have e1 : S.hP (S.vw.which p u S.now).toNat = p := hpu.1
    have e2 : S.hT (S.vw.which p u S.now).toNat = u := hpu.2
    refine ⟨(S.vw.which p u S.now).toNat, by omega, decide_eq_true ?_, by show (S.hT (S.vw.which p u S.now).toNat).toNat = u; omega⟩
    rw [e2]
    exact ⟨e1, by omega, q.2⟩
theorem betweenC_loop (hv : View A S.vw S.now) (hO : OK t S) (hp : 0 ≤ p ∧ p < 6) : ∀ (n x T : Nat), (x : Int) ≤ A.1 51 10 → A.1 51 10 < n + x → T ≤ 10000 → (∀ y : Nat, y < x → A.1 53 y < p * 16384 + T) → (∀ y : Nat, x ≤ y → (y : Int) < A.1 51 10 → p * 16384 + T ≤ A.1 53 y) → x130_heightsBetween_26 F n lo hi (cntN (S.bt p lo hi) T) (p * 16384 + 9999) x A = some ((S.cntB p lo hi : Int), A) := by
  have hnH := hO.nH
  have hn := hv.n
  have hn2 : A.1 51 10 ≤ S.nH := hn.2
  intro n
  induction n with
  | zero => intro x T h1 h2; omega
  | succ n ih =>
    intro x T h1 h2 h3 h4 h5
    have hle := cntN_le (S.bt p lo hi) T
    have noent : ∀ U : Nat, T ≤ U → U ≤ 10000 → (∀ y : Nat, x ≤ y → (y : Int) < A.1 51 10 → p * 16384 + U ≤ A.1 53 y) → cntN (S.bt p lo hi) U = cntN (S.bt p lo hi) T := by
      intro U hU hU2 hy
      refine cntN_skip hU (fun i g1 g2 => decide_eq_false (fun hh => ?_))
      obtain ⟨y, e1, e2⟩ := hv.cmp p i hp.1 hp.2 (by omega) (by omega) hh.1
      by_cases c : y < x
      · have := h4 y c; omega
      · have := hy y (by omega) e1; omega
    unfold x130_heightsBetween_26
    by_cases c1 : (x : Int) < A.1 51 10
    · rw [if_pos c1, gxp (by omega) (by omega), Int.toNat_natCast]
      by_cases c2 : A.1 53 x ≤ p * 16384 + 9999
      · rw [if_pos c2]
        have hge := h5 x (Nat.le_refl _) c1
        obtain ⟨u, g1, g2, g3, g4, g5⟩ := view_at (a := 0) (b := 9999) hv hp (by omega) (by omega) c1 (by omega) c2
        have eu : ((u.toNat : Nat) : Int) = u := by omega
        have g32 : r32 ((x : Int) + 1) := by omega
        have hcast : (x : Int) + 1 = ((x + 1 : Nat) : Int) := by omega
        have h7 := noent u.toNat (by omega) (by omega) (fun y hy1 hy2 => by
          by_cases e : y = x
          · rw [e]; omega
          · have := hv.sort x y (by omega) hy2; omega)
        have ih' := ih (x + 1) (u.toNat + 1) (by omega) (by omega) (by omega) (fun y hy => by
          by_cases e : y = x
          · rw [e]; omega
          · have := h4 y (by omega); omega) (fun y hy1 hy2 => by
          have := hv.sort x y (by omega) hy2; omega)
        rw [show cntN (S.bt p lo hi) (u.toNat + 1) = cntN (S.bt p lo hi) u.toNat + if S.bt p lo hi u.toNat then 1 else 0 from rfl, h7] at ih'
        simp only [g32p g32]
        simp only [hcast]
        rw [g5]
        have hbt : S.bt p lo hi u.toNat = decide (0 ≤ S.vw.which p u S.now ∧ lo < S.vw.lvl p u S.now ∧ S.vw.lvl p u S.now < hi) := by
          unfold St.bt
          rw [eu]
        rw [hbt] at ih'
        by_cases c3 : lo < S.vw.lvl p u S.now
        · rw [if_pos c3]
          by_cases c4 : S.vw.lvl p u S.now < hi
          · rw [if_pos (decide_eq_true ⟨g3, c3, c4⟩)] at ih'
            rw [if_pos c4, g32p (by omega)]
            exact ih'
          · rw [if_neg (by simp [c4])] at ih'
            rw [if_neg c4]
            exact ih'
        · rw [if_neg (by simp [c3])] at ih'
          rw [if_neg c3]
          exact ih'
      · rw [if_neg c2]
        have h7 := noent 10000 (by omega) (by omega) (fun y hy1 hy2 => by
          by_cases e : y = x
          · rw [e]; omega
          · have := hv.sort x y (by omega) hy2; omega)
        unfold St.cntB
        rw [h7]
    · rw [if_neg c1]
      have h7 := noent 10000 (by omega) (by omega) (fun y hy1 hy2 => by omega)
      unfold St.cntB
      rw [h7]
theorem betweenC (hv : View A S.vw S.now) (hO : OK t S) (hF : 1000 ≤ F) (hp : 0 ≤ p ∧ p < 6) : x130_heightsBetween F p lo hi A = some ((S.cntB p lo hi : Int), A) := by
  have hnH := hO.nH
  have hn := hv.n
  have hn2 : A.1 51 10 ≤ S.nH := hn.2
  unfold x130_heightsBetween
  rw [keyC hp (by omega)]
  simp only [rz_b_some]
  rw [keyC hp (by omega)]
  simp only [rz_b_some]
  obtain ⟨st, e1, e2⟩ := firstC (F := F) (v := p * 16384 + 0) hv hnH hF
  rw [e1]
  simp only [rz_b_some]
  have hle := e2.1
  have := betweenC_loop (F := F) (lo := lo) (hi := hi) hv hO hp F st 0 hle (by omega) (by omega) (fun y hy => by have := e2.2.1 y hy; omega) (fun y h1 h2 => by have := e2.2.2 y h1 h2; omega)
  exact this
/-- the middle, cut down -/
def fd2 (x : Int) : Int := if rz_oI fXor x 2 < 0 then (if x.tdiv 2 * 2 = x then x.tdiv 2 else x.tdiv 2 - 1) else x.tdiv 2
theorem fd2C {x : Int} (hx : -1000000 ≤ x ∧ x ≤ 1000000) : x131_floorDiv F x 2 A = some (fd2 x, A) := by
  have h1 : -1000000 ≤ x.tdiv 2 ∧ x.tdiv 2 ≤ 1000000 := by
    by_cases hx0 : 0 ≤ x
    · rw [Int.tdiv_eq_ediv_of_nonneg hx0]
      omega
    · have e : x.tdiv 2 = -((-x).tdiv 2) := by rw [Int.neg_tdiv, Int.neg_neg]
      rw [e, Int.tdiv_eq_ediv_of_nonneg (by omega)]
      omega
  unfold x131_floorDiv fd2
  rw [gnp (by decide), g32p (by omega)]
  split
  · rw [g32p (by omega)]
    split
    · rfl
    · rw [g32p (by omega)]
  · rfl
def nxA (P : Pt) (c : Nat → Int) : Nat → Int × Nat
  | 0 => (-1, 0)
  | i + 1 => if (nxA P c i).1 < (P.h (i + 1) - P.h i) * c i then ((P.h (i + 1) - P.h i) * c i, i) else nxA P c i
abbrev St.nc (S : St) (p : Int) : Nat → Int := fun i => (S.cntB p ((curve S.vw S.fl p 0 9999 S.now).1.h i) ((curve S.vw S.fl p 0 9999 S.now).1.h (i + 1)) : Int)
abbrev St.np (S : St) (p : Int) : Pt := (curve S.vw S.fl p 0 9999 S.now).1
def St.nxV (S : St) (p : Int) : Int := fd2 ((S.np p).h (nxA (S.np p) (S.nc p) ((S.np p).n - 1)).2 + (S.np p).h ((nxA (S.np p) (S.nc p) ((S.np p).n - 1)).2 + 1))
def St.next (S : St) (p : Int) : Int × St := if S.isP p then (if (S.np p).n < 2 then S.far 4 else (S.nxV p, S)) else S.far 0
theorem nxA_b (hO : OK t S) {c : Nat} (hc : PtOK (S.np p) c) : ∀ i, i < (S.np p).n → -1 ≤ (nxA (S.np p) (S.nc p) i).1 ∧ (nxA (S.np p) (S.nc p) i).1 ≤ 1000000000 ∧ (nxA (S.np p) (S.nc p) i).2 ≤ i ∧ (1 ≤ i → (nxA (S.np p) (S.nc p) i).2 < i)
  | 0, _ => by show (-1 : Int) ≤ -1 ∧ (-1 : Int) ≤ 1000000000 ∧ 0 ≤ 0 ∧ (1 ≤ 0 → 0 < 0); omega
  | i + 1, hi => by
    have ih := nxA_b hO hc i (by omega)
    have s1 := hc.sort i (i + 1) (by omega) hi
    have b1 := hc.hb i (by omega)
    have b2 := hc.hb (i + 1) hi
    have hle := cntN_le (S.bt p ((S.np p).h i) ((S.np p).h (i + 1))) 10000
    have hnc : S.nc p i = ((cntN (S.bt p ((S.np p).h i) ((S.np p).h (i + 1))) 10000 : Nat) : Int) := rfl
    have m1 := mul_nb (a := (S.np p).h (i + 1) - (S.np p).h i) (b := S.nc p i) (m := 22000) (n := 10000) (by omega) (by omega) (by omega) (by omega)
    unfold nxA
    by_cases c1 : (nxA (S.np p) (S.nc p) i).1 < ((S.np p).h (i + 1) - (S.np p).h i) * S.nc p i
    · rw [if_pos c1]
      exact ⟨by show -1 ≤ ((S.np p).h (i + 1) - (S.np p).h i) * S.nc p i; omega, by show ((S.np p).h (i + 1) - (S.np p).h i) * S.nc p i ≤ 1000000000; omega, by show i ≤ i + 1; omega, fun _ => by show i < i + 1; omega⟩
    · rw [if_neg c1]
      refine ⟨ih.1, ih.2.1, by omega, fun _ => by omega⟩
theorem worthC_loop (hS : SN A S S.now t) (hO : OK t S) (hF : 1000 ≤ F) (hp : 0 ≤ p ∧ p < 6) {c : Nat} (hc : PtOK (S.np p) c) (hc6 : c ≤ 60) (hC : CvC A (S.np p)) (h2 : 2 ≤ (S.np p).n) : ∀ (n i : Nat) (mid : Int), i < (S.np p).n → (S.np p).n < n + i → (1 ≤ i → mid = fd2 ((S.np p).h (nxA (S.np p) (S.nc p) i).2 + (S.np p).h ((nxA (S.np p) (S.nc p) i).2 + 1))) → x129_worthMeasuring_10 F n p (nxA (S.np p) (S.nc p) i).1 mid i A = some (S.nxV p, A) := by
  have hle := hc.le
  intro n
  induction n with
  | zero => intro i mid h3 h4; omega
  | succ n ih =>
    intro i mid h3 h4 h5
    have e0 : A.1 57 0 = ((S.np p).n : Int) := hC.1
    unfold x129_worthMeasuring_10
    rw [g32p (by omega), e0]
    by_cases hi : i + 1 < (S.np p).n
    · have e1 : ((i : Int) + 1).toNat = i + 1 := by omega
      have s1 := hc.sort i (i + 1) (by omega) hi
      have b1 := hc.hb i (by omega)
      have b2 := hc.hb (i + 1) hi
      have hnb := nxA_b hO hc i (by omega)
      have hle2 := cntN_le (S.bt p ((S.np p).h i) ((S.np p).h (i + 1))) 10000
      have hnc : S.nc p i = ((cntN (S.bt p ((S.np p).h i) ((S.np p).h (i + 1))) 10000 : Nat) : Int) := rfl
      have m1 := mul_nb (a := (S.np p).h (i + 1) - (S.np p).h i) (b := S.nc p i) (m := 22000) (n := 10000) (by omega) (by omega) (by omega) (by omega)
      rw [if_pos (by omega), gxp (by omega) (by omega), gxp (by omega) (by omega), e1, Int.toNat_natCast, hC.2.1 i (by omega), hC.2.1 (i + 1) hi, g32p (by omega), betweenC hS.view hO hF hp]
      simp only [rz_b_some]
      have hnc2 : ((S.cntB p ((S.np p).h i) ((S.np p).h (i + 1)) : Nat) : Int) = S.nc p i := rfl
      have ih' := ih (i + 1)
      rw [show nxA (S.np p) (S.nc p) (i + 1) = if (nxA (S.np p) (S.nc p) i).1 < ((S.np p).h (i + 1) - (S.np p).h i) * S.nc p i then (((S.np p).h (i + 1) - (S.np p).h i) * S.nc p i, i) else nxA (S.np p) (S.nc p) i from rfl] at ih'
      rw [hnc2, g64p (by omega), show (i : Int) + 1 = ((i + 1 : Nat) : Int) by omega]
      by_cases c1 : (nxA (S.np p) (S.nc p) i).1 < ((S.np p).h (i + 1) - (S.np p).h i) * S.nc p i
      · rw [if_pos c1] at ih'
        rw [if_pos c1, g32p (by omega), fd2C (by omega)]
        simp only [rz_b_some]
        exact ih' _ hi (by omega) (fun _ => rfl)
      · rw [if_neg c1] at ih'
        rw [if_neg c1]
        refine ih' _ hi (by omega) (fun _ => ?_)
        refine h5 ?_
        by_cases e : i = 0
        · rw [e] at c1 hnb m1
          have h9 : (nxA (S.np p) (S.nc p) 0).1 = -1 := rfl
          omega
        · omega
    · rw [if_neg (by omega)]
      have ei : i = (S.np p).n - 1 := by omega
      rw [h5 (by omega)]
      unfold St.nxV
      rw [← ei]
theorem nextC (h : DC A S t) (hO : OK t S) (ht : t < 512) (hF : 1000 ≤ F) : Ret (x128_next F p A) (S.next p).1 (fun A1 => DC A1 (S.next p).2 (t + 1)) := by
  have h2 := hO.nP
  unfold x128_next St.next
  by_cases hp : S.isP p
  · rw [hasC1 h.1 hp, if_pos hp]
    simp only [rz_b_some]
    rw [if_neg (by decide), h.1.now]
    obtain ⟨c, hc1, hc2, hc3⟩ := curve_ok hO p 0 9999 S.now
    have hle : (S.np p).n ≤ c := hc2.le
    refine Ret.bind (seeSN h hO ht hF hO.now) (fun A1 e1 hS => ?_)
    refine Ret.bind (drawC (p := p) (a := 0) (b := 9999) hS hO.mono hF hO.now (by omega)) (fun A2 e2 hA => ?_)
    have hn : A2.1 57 0 = ((S.np p).n : Int) := hA.2.1.1
    rw [hn]
    by_cases c1 : (S.np p).n < 2
    · rw [if_pos (by omega), if_pos c1]
      exact lk2 hA.1.dc hO ht (by decide) (by decide)
    · rw [if_neg (by omega), if_neg c1]
      unfold x129_worthMeasuring
      have := worthC_loop (F := F) hA.1 hO.mono hF (by omega) hc2 hc1 hA.2.1 (by omega) F 0 0 (by omega) (by omega) (fun hh => by omega)
      have this2 : x129_worthMeasuring_10 F F p (-1) 0 0 A2 = some (S.nxV p, A2) := this
      rw [this2]
      exact Ret.mk hA.1.dc
  · rw [hasC0 h.1 hp, if_neg hp]
    simp only [rz_b_some]
    rw [if_pos (by decide)]
    exact lk2 h.up hO ht (by decide) (by decide)
theorem CvM.fr {P : Pt} (h : CvM A P) (fr : Fr cs fs A A') (hc : fr_okf [137, 138] [(91, 67)] cs fs = true) : CvM A' P := by
  have e4 := (fr_rows fr hc (c := 137) (by decide)).1
  have e5 := (fr_rows fr hc (c := 138) (by decide)).1
  have s1 := fr_slots fr hc (c := 91) (j := 67) (by decide)
  unfold CvM at h ⊢
  rw [e4, e5, s1]
  exact h
theorem countM_loop (hO : OK t S) (hF : 1000 ≤ F) (hp : S.isP p) {k52 : Int → Int → Int → Int → rz_A → Option (Int × rz_A)} {R : Int} {Q : rz_A → Prop} {v2 v4 : Int} {j : Nat} {P : Pt} {c : Nat} (hc : PtOK P c) (hc6 : c ≤ 60) (hj : j + 1 < P.n) (fin : ∀ A, DM A S t → CvM A P → Ret (x208_next_168 F k52 p v2 v4 j (S.cntB p (P.h j) (P.h (j + 1)) : Nat) A) R Q) : ∀ (n i : Nat) (A : rz_A), DM A S t → CvM A P → i ≤ S.nH → S.nH < n + i → Ret (x208_next_69 F k52 n p v2 v4 j (cntN (S.bq p (P.h j) (P.h (j + 1))) i) i A) R Q := by
  have hnH := hO.nH
  have hle := hc.le
  intro n
  induction n with
  | zero => intro i A h hC h1 h2; omega
  | succ n ih =>
    intro i A h hC h1 h2
    have hcl := cntN_le (S.bq p (P.h j) (P.h (j + 1))) i
    unfold x208_next_69
    rw [h.1.nH]
    by_cases hi : i < S.nH
    · have g32 : r32 ((i : Int) + 1) := by omega
      have hcast : (i : Int) + 1 = ((i + 1 : Nat) : Int) := by omega
      have e1 : ((j : Int) + 1).toNat = j + 1 := by omega
      simp only [g32p g32]
      simp only [hcast]
      have ih' := ih (i + 1)
      rw [show cntN (S.bq p (P.h j) (P.h (j + 1))) (i + 1) = cntN (S.bq p (P.h j) (P.h (j + 1))) i + if S.bq p (P.h j) (P.h (j + 1)) i then 1 else 0 from rfl] at ih'
      rw [if_pos (by omega), gxp (by omega) (by omega), Int.toNat_natCast, h.1.hP, h.1.hT, h.1.now]
      have skip : ∀ B, DM B S t → CvM B P → S.bq p (P.h j) (P.h (j + 1)) i = false → Ret (x208_next_69 F k52 n p v2 v4 j (cntN (S.bq p (P.h j) (P.h (j + 1))) i) ((i + 1 : Nat) : Int) B) R Q := by
        intro B hB hCB hn
        rw [if_neg (by rw [hn]; decide)] at ih'
        exact ih' B hB hCB (by omega) (by omega)
      by_cases c1 : S.hP i = p
      · rw [if_pos c1]
        refine Ret.bind (whichM (p := p) (u := S.hT i) (k := S.now) h.1 hO hF) (fun B eB _ => ?_)
        have frB := wx162_which F eB
        have hdB : DM B S t := ⟨rm_fr h.1 frB (by decide), h.2.fr frB (by decide)⟩
        have hCB := hC.fr frB (by decide)
        by_cases c2 : S.vw.which p (S.hT i) S.now = (i : Int)
        · rw [if_pos c2, hdB.1.hT, hdB.1.now]
          refine Ret.bind (hasM (u := S.hT i) (k := S.now) hdB.1 hO hF hp) (fun D eD hD => ?_)
          have frD := wx161_has F eD
          have hdD : DM D S t := ⟨rm_fr hdB.1 frD (by decide), hdB.2.fr frD (by decide)⟩
          have hCD := hCB.fr frD (by decide)
          rw [if_neg (by omega), gxp (by omega) (by omega), Int.toNat_natCast, e1, hCD.2.1 j (by omega), hCD.2.1 (j + 1) hj, hD (by omega)]
          by_cases c3 : P.h j < S.vw.lvl p (S.hT i) S.now
          · rw [if_pos c3, g32p (by omega), gxp (by omega) (by omega)]
            by_cases c4 : S.vw.lvl p (S.hT i) S.now < P.h (j + 1)
            · rw [if_pos c4, g32p (by omega)]
              rw [if_pos (decide_eq_true ⟨c1, c2, c3, c4⟩)] at ih'
              exact ih' D hdD hCD (by omega) (by omega)
            · rw [if_neg c4]
              exact skip D hdD hCD (decide_eq_false (fun hh => c4 hh.2.2.2))
          · rw [if_neg c3]
            exact skip D hdD hCD (decide_eq_false (fun hh => c3 hh.2.2.1))
        · rw [if_neg c2]
          exact skip B hdB hCB (decide_eq_false (fun hh => c2 hh.2.1))
      · rw [if_neg c1]
        exact skip A h hC (decide_eq_false (fun hh => c1 hh.1))
    · have e : i = S.nH := by omega
      subst e
      rw [if_neg (by omega), cntB_eq hO]
      exact fin A h hC
theorem worthM_loop (hO : OK t S) (hF : 1000 ≤ F) (hp : S.isP p) {c : Nat} (hc : PtOK (S.np p) c) (hc6 : c ≤ 60) (h2 : 2 ≤ (S.np p).n) : ∀ (n i : Nat) (A : rz_A), DM A S t → CvM A (S.np p) → i < (S.np p).n → (S.np p).n < n + i → Ret (x208_next_52 F n p (nxA (S.np p) (S.nc p) i).1 (nxA (S.np p) (S.nc p) i).2 i A) (S.nxV p) (fun A1 => DM A1 S t) := by
  have hle := hc.le
  have hnH := hO.nH
  intro n
  induction n with
  | zero => intro i A h hC h3 h4; omega
  | succ n ih =>
    intro i A h hC h3 h4
    have e0 : A.1 91 67 = ((S.np p).n : Int) := hC.1
    unfold x208_next_52
    rw [g32p (by omega), e0]
    by_cases hi : i + 1 < (S.np p).n
    · have e1 : ((i : Int) + 1).toNat = i + 1 := by omega
      have s1 := hc.sort i (i + 1) (by omega) hi
      have b1 := hc.hb i (by omega)
      have b2 := hc.hb (i + 1) hi
      have hle2 := cntN_le (S.bt p ((S.np p).h i) ((S.np p).h (i + 1))) 10000
      have hnc : S.nc p i = ((cntN (S.bt p ((S.np p).h i) ((S.np p).h (i + 1))) 10000 : Nat) : Int) := rfl
      have m1 := mul_nb (a := (S.np p).h (i + 1) - (S.np p).h i) (b := S.nc p i) (m := 22000) (n := 10000) (by omega) (by omega) (by omega) (by omega)
      have ih' := ih (i + 1)
      rw [show nxA (S.np p) (S.nc p) (i + 1) = if (nxA (S.np p) (S.nc p) i).1 < ((S.np p).h (i + 1) - (S.np p).h i) * S.nc p i then (((S.np p).h (i + 1) - (S.np p).h i) * S.nc p i, i) else nxA (S.np p) (S.nc p) i from rfl] at ih'
      rw [if_pos (by omega)]
      have key := countM_loop (F := F) (k52 := x208_next_52 F n) (R := S.nxV p) (Q := fun A1 => DM A1 S t) (v2 := (nxA (S.np p) (S.nc p) i).1) (v4 := ((nxA (S.np p) (S.nc p) i).2 : Int)) (j := i) hO hF hp hc hc6 hi (fun B hB hCB => by
        unfold x208_next_168
        have hnc2 : ((S.cntB p ((S.np p).h i) ((S.np p).h (i + 1)) : Nat) : Int) = S.nc p i := rfl
        rw [g32p (by omega), gxp (by omega) (by omega), gxp (by omega) (by omega), e1, Int.toNat_natCast, hCB.2.1 i (by omega), hCB.2.1 (i + 1) hi, hnc2, g32p (by omega), g64p (by omega), show (i : Int) + 1 = ((i + 1 : Nat) : Int) by omega]
        by_cases c1 : (nxA (S.np p) (S.nc p) i).1 < ((S.np p).h (i + 1) - (S.np p).h i) * S.nc p i
        · rw [if_neg (by omega)]
          rw [if_pos c1] at ih'
          exact ih' B hB hCB hi (by omega)
        · rw [if_pos (by omega)]
          rw [if_neg c1] at ih'
          exact ih' B hB hCB hi (by omega)) F 0 A h hC (by omega) (by omega)
      exact key
    · rw [if_neg (by omega)]
      have ei : i = (S.np p).n - 1 := by omega
      have hnb := nxA_b hO hc i (by omega)
      have hlt := hnb.2.2.2 (by omega)
      have e1 : (((nxA (S.np p) (S.nc p) i).2 : Int) + 1).toNat = (nxA (S.np p) (S.nc p) i).2 + 1 := by omega
      have b1 := hc.hb (nxA (S.np p) (S.nc p) i).2 (by omega)
      have b2 := hc.hb ((nxA (S.np p) (S.nc p) i).2 + 1) (by omega)
      unfold x208_next_215
      rw [gxp (by omega) (by omega), g32p (by omega), gxp (by omega) (by omega), Int.toNat_natCast, e1, hC.2.1 _ (by omega), hC.2.1 _ (by omega), g32p (by omega), fd2C (by omega)]
      simp only [rz_b_some]
      unfold St.nxV
      rw [← ei]
      exact Ret.mk h
theorem nextM (h : DM A S t) (hO : OK t S) (ht : t < 512) (hF : 1000 ≤ F) : Ret (x208_next F p A) (S.next p).1 (fun A1 => DM A1 (S.next p).2 (t + 1)) := by
  have h2 := hO.nP
  unfold x208_next St.next
  by_cases hp : S.isP p
  · rw [hasM1 h.1 hp, if_pos hp]
    simp only [rz_b_some]
    rw [if_neg (by decide), h.1.now]
    obtain ⟨c, hc1, hc2, hc3⟩ := curve_ok hO p 0 9999 S.now
    have hle : (S.np p).n ≤ c := hc2.le
    refine Ret.bind (makesM (p := p) (a := 0) (b := 9999) (k := S.now) h.1 h.2 hO hF (by omega)) (fun A2 e2 hA => ?_)
    have hd : DM A2 S t := ⟨hA.1, hA.2.1⟩
    have hn : A2.1 91 67 = ((S.np p).n : Int) := hA.2.2.1.1
    rw [hn]
    by_cases c1 : (S.np p).n < 2
    · rw [if_pos (by omega), if_pos c1]
      exact lm2 hd.up hO ht (by decide) (by decide)
    · rw [if_neg (by omega), if_neg c1]
      exact Ret.of (worthM_loop (F := F) hO hF hp hc2 hc1 (by omega) F 0 A2 hd hA.2.2.1 (by omega) (by omega)) (fun A3 hA3 => hA3.up)
  · rw [hasM0 h.1 hp, if_neg hp]
    simp only [rz_b_some]
    rw [if_pos (by decide)]
    exact lm2 h.up hO ht (by decide) (by decide)
end NEXT
