set_option maxRecDepth 8000
/-! STRETCHES -/
def St.stA (S : St) (p : Nat) (u : Int) : Nat → Int
  | 0 => 0
  | i + 1 => if S.stF p i ≤ u ∧ S.stA p u i < S.stF p i then S.stF p i else S.stA p u i
def St.stB (S : St) (p : Nat) (u : Int) : Nat → Int
  | 0 => 9999
  | i + 1 => if u < S.stF p i ∧ S.stF p i ≤ S.stB p u i then S.stF p i - 1 else S.stB p u i
abbrev St.sA (S : St) (p u : Int) : Int := S.stA p.toNat u (S.stN p.toNat).toNat
abbrev St.sB (S : St) (p u : Int) : Int := S.stB p.toNat u (S.stN p.toNat).toNat
section RATE
variable {t F : Nat} {A A0 A' : rz_A} {S : St} {V : Vw} {p u k a b l v : Int} {cs : List Nat} {fs : List (Nat × Nat)}
theorem stF_row (h : RC A S) {p : Nat} (hp : p < 6) : A.1 (8 + p) = S.stF p := by
  match p, hp with
  | 0, _ => exact h.stF0
  | 1, _ => exact h.stF1
  | 2, _ => exact h.stF2
  | 3, _ => exact h.stF3
  | 4, _ => exact h.stF4
  | 5, _ => exact h.stF5
  | p + 6, hp => exact absurd hp (by omega)
theorem start_step {p n : Nat} (hp : p < 6) {s i : Int} : x70_stretchStart_5 F (n + 1) p u s i A = (rz_gx (p : Int) 6 <| if i < (A.1 6 p) then (rz_gx i 8 <| if A.1 (8 + p) i.toNat ≤ u then (if s < A.1 (8 + p) i.toNat then (rz_g32 (i + 1) <| x70_stretchStart_5 F n p u (A.1 (8 + p) i.toNat) (i + 1) A) else (rz_g32 (i + 1) <| x70_stretchStart_5 F n p u s (i + 1) A)) else (rz_g32 (i + 1) <| x70_stretchStart_5 F n p u s (i + 1) A)) else some (s, A)) := by
  match p, hp with
  | 0, _ => rfl
  | 1, _ => rfl
  | 2, _ => rfl
  | 3, _ => rfl
  | 4, _ => rfl
  | 5, _ => rfl
  | p + 6, hp => exact absurd hp (by omega)
theorem end_step {p n : Nat} (hp : p < 6) {s i : Int} : x71_stretchEnd_7 F (n + 1) p u s i A = (rz_gx (p : Int) 6 <| if i < (A.1 6 p) then (rz_gx i 8 <| if u < A.1 (8 + p) i.toNat then (if A.1 (8 + p) i.toNat ≤ s then (rz_g32 (A.1 (8 + p) i.toNat - 1) <| rz_g32 (i + 1) <| x71_stretchEnd_7 F n p u (A.1 (8 + p) i.toNat - 1) (i + 1) A) else (rz_g32 (i + 1) <| x71_stretchEnd_7 F n p u s (i + 1) A)) else (rz_g32 (i + 1) <| x71_stretchEnd_7 F n p u s (i + 1) A)) else some (s, A)) := by
  match p, hp with
  | 0, _ => rfl
  | 1, _ => rfl
  | 2, _ => rfl
  | 3, _ => rfl
  | 4, _ => rfl
  | 5, _ => rfl
  | p + 6, hp => exact absurd hp (by omega)
theorem startC_loop (h : RC A S) (hO : OK t S) {p : Nat} (hp : p < 6) : ∀ (n i : Nat), i ≤ (S.stN p).toNat → (S.stN p).toNat < n + i → x70_stretchStart_5 F n p u (S.stA p u i) i A = some (S.stA p u (S.stN p).toNat, A) := by
  have hb := hO.stN p hp
  intro n
  induction n with
  | zero => intro i h1 h2; omega
  | succ n ih =>
    intro i h1 h2
    rw [start_step hp, gxp (by omega) (by omega), h.stN, stF_row h hp, Int.toNat_natCast]
    by_cases hi : i < (S.stN p).toNat
    · have hf := hO.stF p i hp (by omega)
      have ih' := ih (i + 1) (by omega) (by omega)
      rw [show S.stA p u (i + 1) = if S.stF p i ≤ u ∧ S.stA p u i < S.stF p i then S.stF p i else S.stA p u i from rfl] at ih'
      have g32 : r32 ((i : Int) + 1) := by omega
      simp only [g32p g32]
      rw [if_pos (by omega), gxp (by omega) (by omega), show (i : Int) + 1 = ((i + 1 : Nat) : Int) by omega]
      by_cases c1 : S.stF p i ≤ u
      · rw [if_pos c1]
        by_cases c2 : S.stA p u i < S.stF p i
        · rw [if_pos c2]
          rw [if_pos ⟨c1, c2⟩] at ih'
          exact ih'
        · rw [if_neg c2]
          rw [if_neg (fun hh => c2 hh.2)] at ih'
          exact ih'
      · rw [if_neg c1]
        rw [if_neg (fun hh => c1 hh.1)] at ih'
        exact ih'
    · have e : i = (S.stN p).toNat := by omega
      rw [if_neg (by omega), e]
theorem endC_loop (h : RC A S) (hO : OK t S) {p : Nat} (hp : p < 6) : ∀ (n i : Nat), i ≤ (S.stN p).toNat → (S.stN p).toNat < n + i → x71_stretchEnd_7 F n p u (S.stB p u i) i A = some (S.stB p u (S.stN p).toNat, A) := by
  have hb := hO.stN p hp
  intro n
  induction n with
  | zero => intro i h1 h2; omega
  | succ n ih =>
    intro i h1 h2
    rw [end_step hp, gxp (by omega) (by omega), h.stN, stF_row h hp, Int.toNat_natCast]
    by_cases hi : i < (S.stN p).toNat
    · have hf := hO.stF p i hp (by omega)
      have ih' := ih (i + 1) (by omega) (by omega)
      rw [show S.stB p u (i + 1) = if u < S.stF p i ∧ S.stF p i ≤ S.stB p u i then S.stF p i - 1 else S.stB p u i from rfl] at ih'
      have g32 : r32 ((i : Int) + 1) := by omega
      have g32b : r32 (S.stF p i - 1) := by omega
      simp only [g32p g32, g32p g32b]
      rw [if_pos (by omega), gxp (by omega) (by omega), show (i : Int) + 1 = ((i + 1 : Nat) : Int) by omega]
      by_cases c1 : u < S.stF p i
      · rw [if_pos c1]
        by_cases c2 : S.stF p i ≤ S.stB p u i
        · rw [if_pos c2]
          rw [if_pos ⟨c1, c2⟩] at ih'
          exact ih'
        · rw [if_neg c2]
          rw [if_neg (fun hh => c2 hh.2)] at ih'
          exact ih'
      · rw [if_neg c1]
        rw [if_neg (fun hh => c1 hh.1)] at ih'
        exact ih'
    · have e : i = (S.stN p).toNat := by omega
      rw [if_neg (by omega), e]
theorem startC (h : RC A S) (hO : OK t S) (hF : 1000 ≤ F) (hp : 0 ≤ p ∧ p < 6) : x70_stretchStart F p u A = some (S.sA p u, A) := by
  have hb := hO.stN p.toNat (by omega)
  unfold x70_stretchStart
  have := startC_loop (F := F) (u := u) h hO (p := p.toNat) (by omega) F 0 (by omega) (by omega)
  rw [show ((p.toNat : Nat) : Int) = p by omega] at this
  exact this
theorem endC (h : RC A S) (hO : OK t S) (hF : 1000 ≤ F) (hp : 0 ≤ p ∧ p < 6) : x71_stretchEnd F p u A = some (S.sB p u, A) := by
  have hb := hO.stN p.toNat (by omega)
  unfold x71_stretchEnd
  have := endC_loop (F := F) (u := u) h hO (p := p.toNat) (by omega) F 0 (by omega) (by omega)
  rw [show ((p.toNat : Nat) : Int) = p by omega] at this
  exact this
theorem drawAtC (h : SN A S k t) (hO : OK t S) (hF : 1000 ≤ F) (hk : 0 ≤ k ∧ k ≤ 9999) (hp : 0 ≤ p ∧ p < 6) : Ret (x69_drawAt F p u A) () (fun A1 => SN A1 S k t ∧ CvC A1 (curve S.vw S.fl p (S.sA p u) (S.sB p u) k).1 ∧ A1.1 56 8 = (curve S.vw S.fl p (S.sA p u) (S.sB p u) k).2) := by
  unfold x69_drawAt
  rw [startC h.rc hO hF hp]
  simp only [rz_b_some]
  rw [endC h.rc hO hF hp]
  simp only [rz_b_some]
  exact Ret.bind (drawC h hO hF hk hp.1) (fun A1 _ hA => Ret.mk hA)
theorem makesAtM_loop (h : RM A S) (hI : MI A S t) (hO : OK t S) (hF : 1000 ≤ F) {p : Nat} (hp : p < 6) : ∀ (n i : Nat), i ≤ (S.stN p).toNat → (S.stN p).toNat < n + i → Ret (x181_makes_11 F n p u k (S.stA p u i) (S.stB p u i) i A) () (fun A1 => RM A1 S ∧ MI A1 S t ∧ CvM A1 (curve S.vw S.fl p (S.sA p u) (S.sB p u) k).1 ∧ A1.1 91 68 = (curve S.vw S.fl p (S.sA p u) (S.sB p u) k).2) := by
  have hb := hO.stN p hp
  intro n
  induction n with
  | zero => intro i h1 h2; omega
  | succ n ih =>
    intro i h1 h2
    unfold x181_makes_11
    rw [gxp (by omega) (by omega), h.stN, Int.toNat_natCast]
    by_cases hi : i < (S.stN p).toNat
    · have hf := hO.stF p i hp (by omega)
      have ih' := ih (i + 1) (by omega) (by omega)
      rw [show S.stA p u (i + 1) = if S.stF p i ≤ u ∧ S.stA p u i < S.stF p i then S.stF p i else S.stA p u i from rfl, show S.stB p u (i + 1) = if u < S.stF p i ∧ S.stF p i ≤ S.stB p u i then S.stF p i - 1 else S.stB p u i from rfl] at ih'
      have e1 : (8 * (p : Int) + i).toNat = 8 * p + i := by omega
      rw [if_pos (by omega), g32p (by omega), g32p (by omega), gxp (by omega) (by omega), e1, h.stF p i hp (by omega)]
      have e2 : (i : Int) + 1 = ((i + 1 : Nat) : Int) := by omega
      have g32 : r32 ((i : Int) + 1) := by omega
      unfold x181_makes_53
      simp only [g32p g32]
      simp only [e2]
      by_cases c1 : S.stF p i ≤ u
      · rw [if_neg (fun hh : u < S.stF p i ∧ S.stF p i ≤ S.stB p u i => by omega)] at ih'
        rw [if_pos c1]
        by_cases c2 : S.stA p u i < S.stF p i
        · rw [if_pos ⟨c1, c2⟩] at ih'
          rw [if_pos c2, if_neg (by omega)]
          exact ih'
        · rw [if_neg (fun hh : S.stF p i ≤ u ∧ S.stA p u i < S.stF p i => c2 hh.2)] at ih'
          rw [if_neg c2, if_neg (by omega)]
          exact ih'
      · rw [if_neg (fun hh : S.stF p i ≤ u ∧ S.stA p u i < S.stF p i => c1 hh.1)] at ih'
        rw [if_neg c1, if_pos (by omega), g32p (by omega)]
        by_cases c2 : S.stF p i ≤ S.stB p u i
        · rw [if_pos ⟨by omega, c2⟩] at ih'
          rw [if_pos (by omega)]
          exact ih'
        · rw [if_neg (fun hh => c2 hh.2)] at ih'
          rw [if_neg (by omega)]
          exact ih'
    · have e : i = (S.stN p).toNat := by omega
      rw [if_neg (by omega), e]
      unfold x181_makes_80
      refine Ret.bind (makesM (p := (p : Int)) (a := S.stA p u (S.stN p).toNat) (b := S.stB p u (S.stN p).toNat) (k := k) h hI hO hF (by omega)) (fun A1 _ hA => Ret.mk ?_)
      have ep : ((p : Int)).toNat = p := Int.toNat_natCast p
      unfold St.sA St.sB
      rw [ep]
      exact hA
theorem makesAtM (h : RM A S) (hI : MI A S t) (hO : OK t S) (hF : 1000 ≤ F) (hp : 0 ≤ p ∧ p < 6) : Ret (x181_makes F p u k A) () (fun A1 => RM A1 S ∧ MI A1 S t ∧ CvM A1 (curve S.vw S.fl p (S.sA p u) (S.sB p u) k).1 ∧ A1.1 91 68 = (curve S.vw S.fl p (S.sA p u) (S.sB p u) k).2) := by
  have hb := hO.stN p.toNat (by omega)
  unfold x181_makes
  have := makesAtM_loop (F := F) (u := u) (k := k) h hI hO hF (p := p.toNat) (by omega) F 0 (by omega) (by omega)
  rw [show ((p.toNat : Nat) : Int) = p by omega] at this
  exact this
/-! ICE and WEED -/
def St.hAt (S : St) (q u : Int) (i : Nat) : Int := if q = 0 then S.uM i else if S.uF i = S.uT i then S.uM i else (S.uM i * (u - S.uF i)).tdiv (S.uT i - S.uF i)
abbrev St.onU (S : St) (q p u k : Int) (i : Nat) : Prop := S.uK i = q ∧ S.uP i = p ∧ S.uKn i ≤ k ∧ S.uF i ≤ u ∧ u ≤ S.uT i
def St.gAcc (S : St) (q p u k : Int) : Nat → Int
  | 0 => -1
  | i + 1 => if S.onU q p u k i then (if S.gAcc q p u k i < S.hAt q u i then S.hAt q u i else S.gAcc q p u k i) else S.gAcc q p u k i
theorem gAcc_s (S : St) (q p u k : Int) (i : Nat) : S.gAcc q p u k (i + 1) = if S.onU q p u k i then (if S.gAcc q p u k i < S.hAt q u i then S.hAt q u i else S.gAcc q p u k i) else S.gAcc q p u k i := rfl
variable {q : Int}
theorem hAt_b (hO : OK t S) {i : Nat} (hi : i < S.nU) (hu : S.uF i ≤ u ∧ u ≤ S.uT i) : 0 ≤ S.hAt q u i ∧ S.hAt q u i ≤ 99 := by
  have hb := hO.u i hi
  unfold St.hAt
  split
  · omega
  · split
    · omega
    · have m1 := mul_nb (a := S.uM i) (b := u - S.uF i) (m := 99) (n := S.uT i - S.uF i) (by omega) (by omega) (by omega) (by omega)
      rw [Int.tdiv_eq_ediv_of_nonneg m1.1]
      exact ⟨Int.ediv_nonneg m1.1 (by omega), Int.ediv_le_of_le_mul (by omega) m1.2⟩
theorem gAcc_b (hO : OK t S) (q p u k : Int) : ∀ i, i ≤ S.nU → -1 ≤ S.gAcc q p u k i ∧ S.gAcc q p u k i ≤ 99
  | 0, _ => by show (-1 : Int) ≤ -1 ∧ (-1 : Int) ≤ 99; omega
  | i + 1, hi => by
    have ih := gAcc_b hO q p u k i (by omega)
    rw [gAcc_s]
    split
    · rename_i hc
      have := hAt_b (q := q) hO (i := i) (by omega) hc.2.2.2
      split <;> omega
    · exact ih
theorem hunC (h : RC A S) (hO : OK t S) {i : Nat} (hi : i < S.nU) (hc : S.onU q p u k i) : x89_hundredthsAt F i u A = some (S.hAt q u i, A) := by
  have h1 := hO.nU
  have hb := hO.u i hi
  have hh := hAt_b (q := q) hO hi hc.2.2.2
  unfold x89_hundredthsAt
  rw [gxp (by omega) (by omega), Int.toNat_natCast, h.uK, h.uM, h.uF, h.uT, hc.1]
  unfold St.hAt at hh ⊢
  by_cases c1 : q = 0
  · rw [if_pos c1, if_pos c1]
  · rw [if_neg c1] at hh ⊢
    rw [if_neg c1]
    by_cases c2 : S.uF i = S.uT i
    · rw [if_pos c2, if_pos c2]
    · rw [if_neg c2] at hh ⊢
      have m1 := mul_nb (a := S.uM i) (b := u - S.uF i) (m := 99) (n := 9999) (by omega) (by omega) (by omega) (by omega)
      rw [if_neg c2, g32p (by omega), g32p (by omega), shareC (by omega) (by omega) (by omega)]
      simp only [rz_b_some]
      rw [g32p (by omega)]
theorem greatC_loop (h : RC A S) (hO : OK t S) : ∀ (n i : Nat), i ≤ S.nU → S.nU < n + i → x88_greatest_6 F n q p u k (S.gAcc q p u k i) i A = some (S.gAcc q p u k S.nU, A) := by
  have h1 := hO.nU
  intro n
  induction n with
  | zero => intro i h1 h2; omega
  | succ n ih =>
    intro i h1 h2
    unfold x88_greatest_6
    rw [h.nU]
    by_cases hi : i < S.nU
    · have ih' := ih (i + 1) (by omega) (by omega)
      rw [gAcc_s] at ih'
      have e2 : (i : Int) + 1 = ((i + 1 : Nat) : Int) := by omega
      have g32 : r32 ((i : Int) + 1) := by omega
      simp only [g32p g32]
      simp only [e2]
      rw [if_pos (by omega), gxp (by omega) (by omega), Int.toNat_natCast, h.uK, h.uP, h.uKn, h.uF, h.uT]
      by_cases hc : S.onU q p u k i
      · rw [if_pos hc.1, if_pos hc.2.1, if_pos hc.2.2.1, if_pos hc.2.2.2.1, if_pos hc.2.2.2.2, hunC h hO hi hc]
        simp only [rz_b_some]
        rw [maxC]
        simp only [rz_b_some]
        rw [if_pos hc] at ih'
        exact ih'
      · rw [if_neg hc] at ih'
        repeat' split
        all_goals first | exact ih' | (exfalso; exact hc ⟨by assumption, by assumption, by assumption, by assumption, by assumption⟩)
    · have e : i = S.nU := by omega
      rw [if_neg (by omega), e]
theorem greatC (h : RC A S) (hO : OK t S) (hF : 1000 ≤ F) : x88_greatest F q p u k A = some (S.gAcc q p u k S.nU, A) := by
  have h1 := hO.nU
  unfold x88_greatest
  exact greatC_loop h hO F 0 (by omega) (by omega)
theorem hunM_loop (hO : OK t S) {w0 : Int} : ∀ (n i : Nat) (A : rz_A), RM A S → Fr [] [(91, 77)] A0 A → A.1 91 77 = (if 0 ≤ S.gAcc q p u k i then 1 else w0) → i ≤ S.nU → S.nU < n + i → Ret (x189_hundredths_6 F n p q u k (if S.gAcc q p u k i < 0 then 0 else S.gAcc q p u k i) i A) (if S.gAcc q p u k S.nU < 0 then 0 else S.gAcc q p u k S.nU) (fun A1 => Fr [] [(91, 77)] A0 A1 ∧ A1.1 91 77 = (if 0 ≤ S.gAcc q p u k S.nU then 1 else w0)) := by
  have hnU := hO.nU
  intro n
  induction n with
  | zero => intro i A _ _ _ h1 h2; omega
  | succ n ih =>
    intro i A h hfr hun h1 h2
    unfold x189_hundredths_6
    rw [h.nU]
    by_cases hi : i < S.nU
    · have ih' := ih (i + 1)
      rw [gAcc_s] at ih'
      have e2 : (i : Int) + 1 = ((i + 1 : Nat) : Int) := by omega
      have g32 : r32 ((i : Int) + 1) := by omega
      have hb := hO.u i hi
      have hg := gAcc_b hO q p u k i (by omega)
      simp only [g32p g32]
      simp only [e2]
      rw [if_pos (by omega), gxp (by omega) (by omega), Int.toNat_natCast, h.uK, h.uP, h.uKn, h.uF, h.uT, h.uM]
      by_cases hc : S.onU q p u k i
      · have hh := hAt_b (q := q) hO hi hc.2.2.2
        rw [if_pos hc] at ih'
        rw [if_pos hc.2.1, if_pos hc.1, if_pos hc.2.2.1, if_pos hc.2.2.2.1, if_neg (by have := hc.2.2.2.2; omega)]
        have fin : ∀ w, w = S.hAt q u i → Ret (if (if S.gAcc q p u k i < 0 then 0 else S.gAcc q p u k i) < w then x189_hundredths_6 F n p q u k w ((i + 1 : Nat) : Int) (aI A 91 77 1) else x189_hundredths_6 F n p q u k (if S.gAcc q p u k i < 0 then 0 else S.gAcc q p u k i) ((i + 1 : Nat) : Int) (aI A 91 77 1)) (if S.gAcc q p u k S.nU < 0 then 0 else S.gAcc q p u k S.nU) (fun A1 => Fr [] [(91, 77)] A0 A1 ∧ A1.1 91 77 = (if 0 ≤ S.gAcc q p u k S.nU then 1 else w0)) := by
          intro w hw
          subst hw
          have ih2 := ih' (aI A 91 77 1) (rm_fr h (Fr.aI (cs := []) (fs := [(91, 77)]) Fr.rfl (Or.inr (by decide))) (by decide)) (Fr.aI hfr (Or.inr (by decide)))
          by_cases c1 : S.gAcc q p u k i < S.hAt q u i
          · rw [if_pos c1] at ih2
            have ih3 := ih2 (by rw [if_pos hh.1]; rfl) (by omega) (by omega)
            rw [if_neg (by omega : ¬ S.hAt q u i < 0)] at ih3
            by_cases c2 : (if S.gAcc q p u k i < 0 then 0 else S.gAcc q p u k i) < S.hAt q u i
            · rw [if_pos c2]
              exact ih3
            · rw [if_neg c2]
              have e0 : S.hAt q u i = (if S.gAcc q p u k i < 0 then 0 else S.gAcc q p u k i) := by
                split at c2
                · rw [if_pos (by assumption)]; omega
                · omega
              rw [e0] at ih3
              exact ih3
          · rw [if_neg c1] at ih2
            have ih3 := ih2 (by rw [if_pos (by omega)]; rfl) (by omega) (by omega)
            rw [if_neg (by split <;> omega)]
            exact ih3
        by_cases c1 : q = 0
        · rw [if_pos c1]
          exact fin _ (by unfold St.hAt; rw [if_pos c1])
        · rw [if_neg c1]
          by_cases c2 : S.uF i = S.uT i
          · rw [if_pos c2]
            exact fin _ (by unfold St.hAt; rw [if_neg c1, if_pos c2])
          · have m1 := mul_nb (a := S.uM i) (b := u - S.uF i) (m := 99) (n := 9999) (by omega) (by have := hc.2.2.2; omega) (by have := hc.2.2.2; omega) (by have := hc.2.2.2; omega)
            have eh : (S.uM i * (u - S.uF i)).tdiv (S.uT i - S.uF i) = S.hAt q u i := by unfold St.hAt; rw [if_neg c1, if_neg c2]
            have hu := hc.2.2.2
            rw [if_neg c2, eh, g32p (by omega), g32p (by omega), g32p (by omega), gnp (by omega), g32p (by omega)]
            exact fin _ rfl
      · rw [if_neg hc] at ih'
        have ih2 := ih' A h hfr hun (by omega) (by omega)
        by_cases d1 : S.uP i = p
        · rw [if_pos d1]
          by_cases d2 : S.uK i = q
          · rw [if_pos d2]
            by_cases d3 : S.uKn i ≤ k
            · rw [if_pos d3]
              by_cases d4 : S.uF i ≤ u
              · rw [if_pos d4, if_pos (by
                  by_cases d5 : S.uT i < u
                  · exact d5
                  · exact absurd ⟨d2, d1, d3, d4, by omega⟩ hc)]
                exact ih2
              · rw [if_neg d4]
                exact ih2
            · rw [if_neg d3]
              exact ih2
          · rw [if_neg d2]
            exact ih2
        · rw [if_neg d1]
          exact ih2
    · have e : i = S.nU := by omega
      subst e
      rw [if_neg (by omega)]
      exact Ret.mk ⟨hfr, hun⟩
theorem hunM (h : RM A S) (hO : OK t S) (hF : 1000 ≤ F) : Ret (x189_hundredths F p q u k A) (if S.gAcc q p u k S.nU < 0 then 0 else S.gAcc q p u k S.nU) (fun A1 => Fr [] [(91, 77)] A A1 ∧ A1.1 91 77 = (if 0 ≤ S.gAcc q p u k S.nU then 1 else A.1 91 77)) := by
  have h1 := hO.nU
  unfold x189_hundredths
  exact hunM_loop (F := F) (A0 := A) (q := q) (p := p) (u := u) (k := k) (w0 := A.1 91 77) hO F 0 A h Fr.rfl rfl (by omega) (by omega)
/-! FLOW OF -/
def lessV (f g : Int) : Int := if g ≤ 0 then f else f - (f * g).tdiv 100
theorem lessV_b {f g : Int} (hf : 0 ≤ f ∧ f ≤ 99999999) (hg : -1 ≤ g ∧ g ≤ 99) : 0 ≤ lessV f g ∧ lessV f g ≤ 99999999 := by
  unfold lessV
  split
  · exact hf
  · have m1 := mul_nb (a := f) (b := g) (m := f) (n := 100) (by omega) (by omega) (by omega) (by omega)
    rw [Int.tdiv_eq_ediv_of_nonneg m1.1]
    have h1 : f * g / 100 ≤ f := Int.ediv_le_of_le_mul (by omega) m1.2
    have h2 := Int.ediv_nonneg m1.1 (by omega : (0 : Int) ≤ 100)
    omega
theorem lessC (hf : 0 ≤ a ∧ a ≤ 99999999) (hg : -1 ≤ b ∧ b ≤ 99) : x90_less F a b A = some (lessV a b, A) := by
  have hb := lessV_b hf hg
  unfold x90_less lessV at *
  by_cases c : b ≤ 0
  · rw [if_pos c, if_pos c]
  · have m1 := mul_nb (a := a) (b := b) (m := 99999999) (n := 100) (by omega) (by omega) (by omega) (by omega)
    have m2 := tdiv_b (x := a * b) (y := 100) m1.1 (by omega)
    rw [if_neg c] at hb
    rw [if_neg c, if_neg c, shareC (by omega) (by omega) (by omega)]
    simp only [rz_b_some]
    rw [g32p (by omega), g32p (by omega)]
abbrev St.crv (S : St) (p u k : Int) : Pt × Int := curve S.vw S.fl p (S.sA p u) (S.sB p u) k
def St.flAt (S : St) (p u k l : Int) : Int := atF (S.crv p u k).1.h (flw (S.crv p u k).1) (S.crv p u k).1.n (S.low p.toNat) l
def St.flOf (S : St) (p u k : Int) : Int := if S.vw.which p u k < 0 then -1 else if (S.crv p u k).1.n = 0 then -1 else lessV (lessV (S.flAt p u k (S.vw.lvl p u k)) (S.gAcc 0 p u k S.nU)) (S.gAcc 1 p u k S.nU)
def St.bey (S : St) (p u k : Int) : Int := if (S.crv p u k).1.h ((S.crv p u k).1.n - 1) < S.vw.lvl p u k then 1 else 0
def cap100 (x : Int) : Int := if 100 < x then 100 else x
def St.wrg (S : St) (p u k : Int) : Int := cap100 (if S.bey p u k = 1 then 2 * (S.crv p u k).2 + 10 else (S.crv p u k).2)
theorem hf_of {P : Pt} {c : Nat} (h : PtOK P c) (hn : P.n ≠ 0) : HF P.h (flw P) P.n := by
  refine HF.of ⟨by omega, fun i hi => ⟨h.sort i (i + 1) (by omega) hi, flw_mono h hi⟩, fun i hi => ?_, fun i hi => flw_b h hi⟩
  have := h.hb i hi
  omega
theorem wAcc_p (V : Vw) (p u k : Int) : ∀ n, 0 ≤ V.wAcc p u k n → V.hP (V.wAcc p u k n).toNat = p ∧ V.hT (V.wAcc p u k n).toNat = u
  | 0, h => by have h2 : (0 : Int) ≤ -1 := h; omega
  | n + 1, h => by
    unfold Vw.wAcc at h ⊢
    split at h
    · rename_i hc
      rw [if_pos hc, Int.toNat_natCast]
      exact ⟨hc.1, hc.2.1⟩
    · rename_i hc
      rw [if_neg hc]
      exact wAcc_p V p u k n h
theorem which_p (hO : OK t S) (hw : 0 ≤ S.vw.which p u k) : S.isP p ∧ 0 ≤ u ∧ u ≤ 9999 := by
  have hwb := (S.vw.wAcc_b p u k S.nH).1
  have hwb1 : S.vw.which p u k < S.nH := hwb
  have h1 := wAcc_p S.vw p u k S.nH hw
  have hb := hO.h (S.vw.which p u k).toNat (by omega)
  have e1 : S.hP (S.vw.which p u k).toNat = p := h1.1
  have e2 : S.hT (S.vw.which p u k).toNat = u := h1.2
  rw [e1, e2] at hb
  exact ⟨hb.1, hb.2.1⟩
theorem flOf_b (hO : OK t S) : -1 ≤ S.flOf p u k ∧ S.flOf p u k ≤ 99999999 := by
  unfold St.flOf
  by_cases c1 : S.vw.which p u k < 0
  · rw [if_pos c1]; omega
  · rw [if_neg c1]
    by_cases c2 : (S.crv p u k).1.n = 0
    · rw [if_pos c2]; omega
    · rw [if_neg c2]
      obtain ⟨c, h1, h2, h3⟩ := curve_ok hO p (S.sA p u) (S.sB p u) k
      have hp := which_p hO (by omega : 0 ≤ S.vw.which p u k)
      have hl := lvl_b hO hp.1 (by omega : 0 ≤ S.vw.which p u k)
      have hlow := hO.low p.toNat (by have := hp.1; omega)
      have h4 := atF_b (v := S.vw.lvl p u k) (low := S.low p.toNat) (hf_of h2 c2) (by omega) (by omega)
      have g0 := gAcc_b hO 0 p u k S.nU (Nat.le_refl _)
      have g1 := gAcc_b hO 1 p u k S.nU (Nat.le_refl _)
      have h5 : 0 ≤ lessV (lessV (S.flAt p u k (S.vw.lvl p u k)) (S.gAcc 0 p u k S.nU)) (S.gAcc 1 p u k S.nU) ∧ lessV (lessV (S.flAt p u k (S.vw.lvl p u k)) (S.gAcc 0 p u k S.nU)) (S.gAcc 1 p u k S.nU) ≤ 99999999 := lessV_b (lessV_b h4 g0) g1
      omega
theorem tdiv_key (hp : 0 ≤ p ∧ p < 6) (hu : 0 ≤ u ∧ u ≤ 9999) : (p * 16384 + u).tdiv 16384 = p ∧ (p * 16384 + u).tmod 16384 = u := by
  rw [Int.tdiv_eq_ediv_of_nonneg (by omega), Int.tmod_eq_emod_of_nonneg (by omega)]
  omega
theorem cvC_at {P : Pt} {c : Nat} (h : CvC A P) (hO : PtOK P c) (hc : c ≤ 60) (hn : P.n ≠ 0) (hF : 1000 ≤ F) (hl : -2000 ≤ l ∧ l ≤ 9999) (hv : -20000 ≤ v ∧ v ≤ 200000) : x80_flowBy_c F v l A = some (atF P.h (flw P) P.n l v, A) := by
  have := hO.le
  exact fby_c (hf_of hO hn) (by omega) hF h.1 h.2.1 h.2.2 hl hv
theorem cvM_at {P : Pt} {c : Nat} (h : CvM A P) (hO : PtOK P c) (hc : c ≤ 60) (hn : P.n ≠ 0) (hF : 1000 ≤ F) (hl : -2000 ≤ l ∧ l ≤ 9999) (hv : -20000 ≤ v ∧ v ≤ 200000) : x185_along_p F 0 P.n l v A = some (atF P.h (flw P) P.n l v, aI A 91 76 (if P.h (P.n - 1) < v then 1 else 0)) := by
  have := hO.le
  have e : ∀ i, (0 : Nat) + i = i := fun i => by omega
  exact alo_p (o := 0) (hf_of hO hn) (by omega) hF (fun i hi => by rw [e]; exact h.2.1 i hi) (fun i hi => by rw [e]; exact h.2.2 i hi) hl hv
/-- FLOW OF by the class, at a place of its view -/
theorem rateC (h : SN A S k t) (hO : OK t S) (hF : 1000 ≤ F) (hk : 0 ≤ k ∧ k ≤ 9999) {r : Int} (hr : 0 ≤ r ∧ r < A.1 51 10) (hw : 0 ≤ S.vw.which p u k) (hk1 : A.1 53 r.toNat = p * 16384 + u) (hk2 : A.1 54 r.toNat = S.vw.lvl p u k) : Ret (x85_rate F r A) (S.flOf p u k) (fun A1 => SN A1 S k t ∧ CvC A1 (S.crv p u k).1 ∧ A1.1 56 8 = (S.crv p u k).2) := by
  have hn := h.view.n
  have hn2 : A.1 51 10 ≤ S.nH := hn.2
  have hnH := hO.nH
  have hnP := hO.nP
  have hp := which_p hO hw
  have hp6 : 0 ≤ p ∧ p < 6 := by have := hp.1; omega
  have hl := lvl_b hO hp.1 hw
  have hlow := hO.low p.toNat (by have := hp.1; omega)
  have ek := tdiv_key hp6 hp.2
  unfold x85_rate
  rw [if_pos hr.1, if_neg (by omega)]
  unfold x86_postOf
  rw [gxp (by omega) (by omega), hk1, ek.1, g32p (by omega)]
  simp only [rz_b_some]
  unfold x87_timeOf
  rw [gxp (by omega) (by omega), hk1, ek.2, g32p (by omega)]
  simp only [rz_b_some]
  rw [startC h.rc hO hF hp6]
  simp only [rz_b_some]
  rw [endC h.rc hO hF hp6]
  simp only [rz_b_some]
  refine Ret.bind (drawC h hO hF hk hp6.1) (fun A1 e1 hA => ?_)
  obtain ⟨hS1, hC1, hW1⟩ := hA
  obtain ⟨c, hc1, hc2, hc3⟩ := curve_ok hO p (S.sA p u) (S.sB p u) k
  have q54 : A1.1 54 = A.1 54 := ((wx72_draw F e1).row (c := 54) (by decide) (by decide)).1
  rw [gxp (by omega) (by omega), gxp (by omega) (by omega), q54, hk2, hS1.rc.low]
  unfold St.flOf
  rw [if_neg (by omega : ¬ S.vw.which p u k < 0)]
  by_cases c0 : (S.crv p u k).1.n = 0
  · rw [if_pos c0]
    have e0 : A1.1 57 0 = 0 := by rw [hC1.1]; exact congrArg Nat.cast c0
    unfold x80_flowBy_c
    rw [if_pos e0]
    simp only [rz_b_some]
    rw [if_pos (by omega)]
    exact Ret.mk ⟨hS1, hC1, hW1⟩
  · have hab := atF_b (v := S.vw.lvl p u k) (low := S.low p.toNat) (hf_of hc2 c0) (by omega) (by omega)
    have g0 := gAcc_b hO 0 p u k S.nU (Nat.le_refl _)
    have g1 := gAcc_b hO 1 p u k S.nU (Nat.le_refl _)
    rw [if_neg c0, cvC_at hC1 hc2 hc1 c0 hF (by omega) (by omega)]
    simp only [rz_b_some]
    rw [if_neg (by omega), hS1.k3, greatC hS1.rc hO hF]
    simp only [rz_b_some]
    rw [lessC hab g0]
    simp only [rz_b_some]
    rw [hS1.k3, greatC hS1.rc hO hF]
    simp only [rz_b_some]
    rw [lessC (lessV_b hab g0) g1]
    simp only [rz_b_some]
    exact Ret.mk ⟨hS1, hC1, hW1⟩
theorem beyC (hC : CvC A (S.crv p u k).1) (hO : OK t S) (h0 : (S.crv p u k).1.n ≠ 0) {r : Int} (hr : 0 ≤ r ∧ r < 300) (hk2 : A.1 54 r.toNat = S.vw.lvl p u k) : x92_beyond F r A = some (S.bey p u k, A) := by
  obtain ⟨c, hc1, hc2, hc3⟩ := curve_ok hO p (S.sA p u) (S.sB p u) k
  have hle := hc2.le
  have hle2 : (S.crv p u k).1.n ≤ c := hle
  have e1 : (((S.crv p u k).1.n : Int) - 1).toNat = (S.crv p u k).1.n - 1 := by omega
  unfold x92_beyond
  rw [gxp (by omega) (by omega), hk2]
  unfold x93_isBeyond_c St.bey
  rw [hC.1, if_pos (by omega), g32p (by omega), gxp (by omega) (by omega), e1, hC.2.1 _ (by omega)]
  by_cases c1 : (S.crv p u k).1.h ((S.crv p u k).1.n - 1) < S.vw.lvl p u k
  · rw [if_pos c1, if_pos c1]
    simp only [rz_b_some]
    rw [if_neg (by decide)]
  · rw [if_neg c1, if_neg c1]
    simp only [rz_b_some]
    rw [if_pos (by decide)]
theorem wrgC (hC : CvC A (S.crv p u k).1) (hW : A.1 56 8 = (S.crv p u k).2) (hO : OK t S) (h0 : (S.crv p u k).1.n ≠ 0) {r : Int} (hr : 0 ≤ r ∧ r < 300) (hk2 : A.1 54 r.toNat = S.vw.lvl p u k) : x91_howWrong F r A = some (S.wrg p u k, A) := by
  obtain ⟨c, hc1, hc2, hc3⟩ := curve_ok hO p (S.sA p u) (S.sB p u) k
  have hc3' : 0 ≤ (S.crv p u k).2 ∧ (S.crv p u k).2 ≤ 99 := hc3
  have hmin : ∀ x : Int, x61_min F x 100 A = some (cap100 x, A) := fun x => by
    unfold x61_min cap100
    split
    · rw [if_neg (by omega)]
    · rw [if_pos (by omega)]
  unfold x91_howWrong
  rw [beyC hC hO h0 hr hk2]
  simp only [rz_b_some]
  unfold St.wrg
  rw [hW]
  by_cases c1 : S.bey p u k = 1
  · rw [if_pos c1, if_pos c1, g32p (by omega), g32p (by omega), hmin]
    rfl
  · rw [if_neg c1, if_neg c1, hmin]
    rfl
/-- FLOW OF by the reference -/
theorem flowsM (h : RM A S) (hI : MI A S t) (hO : OK t S) (hF : 1000 ≤ F) (hp : S.isP p) : Ret (x188_flows F p u k A) (if S.flOf p u k < 0 then 0 else 1) (fun A1 => RM A1 S ∧ MI A1 S t ∧ (0 ≤ S.flOf p u k → A1.1 91 78 = S.flOf p u k ∧ A1.1 91 79 = S.wrg p u k ∧ A1.1 91 76 = S.bey p u k ∧ A1.1 91 77 = (if 0 ≤ S.gAcc 0 p u k S.nU ∨ 0 ≤ S.gAcc 1 p u k S.nU then 1 else 0))) := by
  have hnP := hO.nP
  have hp6 : 0 ≤ p ∧ p < 6 := by omega
  unfold x188_flows
  refine Ret.bind (hasM (u := u) (k := k) h hO hF hp) (fun A1 e1 hA1 => ?_)
  have fr1 := wx161_has F e1
  have hR1 := rm_fr h fr1 (by decide)
  have hI1 := hI.fr fr1 (by decide)
  by_cases c1 : S.vw.which p u k < 0
  · have e0 : S.flOf p u k = -1 := by unfold St.flOf; rw [if_pos c1]
    rw [if_pos c1, if_pos rfl, e0, if_pos (by decide)]
    exact Ret.mk ⟨hR1, hI1, fun hh => by omega⟩
  · rw [if_neg c1, if_neg (by decide)]
    refine Ret.bind (makesAtM (u := u) (k := k) hR1 hI1 hO hF hp6) (fun A3 e3 hA3 => ?_)
    obtain ⟨hR3, hI3, hC3, hW3⟩ := hA3
    obtain ⟨c, hc1, hc2, hc3⟩ := curve_ok hO p (S.sA p u) (S.sB p u) k
    have hle : (S.crv p u k).1.n ≤ c := hc2.le
    rw [hC3.1]
    by_cases c2 : (S.crv p u k).1.n = 0
    · have e0 : S.flOf p u k = -1 := by unfold St.flOf; rw [if_neg c1, if_pos c2]
      have c2i : (((S.crv p u k).1.n : Nat) : Int) = 0 := by omega
      rw [if_pos c2i, e0, if_pos (by decide)]
      exact Ret.mk ⟨hR3, hI3, fun hh => by omega⟩
    · have hl := lvl_b hO hp (by omega : 0 ≤ S.vw.which p u k)
      have hlow := hO.low p.toNat (by omega)
      have hab := atF_b (v := S.vw.lvl p u k) (low := S.low p.toNat) (hf_of hc2 c2) (by omega) (by omega)
      have g0 := gAcc_b hO 0 p u k S.nU (Nat.le_refl _)
      have g1 := gAcc_b hO 1 p u k S.nU (Nat.le_refl _)
      have hb1 := lessV_b hab g0
      have hb2 := lessV_b hb1 g1
      have ef : S.flOf p u k = lessV (lessV (S.flAt p u k (S.vw.lvl p u k)) (S.gAcc 0 p u k S.nU)) (S.gAcc 1 p u k S.nU) := by unfold St.flOf; rw [if_neg c1, if_neg c2]
      have c2i : ¬ (((S.crv p u k).1.n : Nat) : Int) = 0 := by omega
      rw [if_neg c2i, gxp (by omega) (by omega), hA1 (by omega), hR3.low, cvM_at hC3 hc2 hc1 c2 hF (by omega) (by omega)]
      simp only [rz_b_some]
      have fr4 : Fr [] [(91, 76)] A3 (aI A3 91 76 (if (S.crv p u k).1.h ((S.crv p u k).1.n - 1) < S.vw.lvl p u k then 1 else 0)) := Fr.aI Fr.rfl (Or.inr (by decide))
      have hbey : (aI A3 91 76 (if (S.crv p u k).1.h ((S.crv p u k).1.n - 1) < S.vw.lvl p u k then 1 else 0)).1 91 76 = S.bey p u k := rfl
      have hwr : (aI A3 91 76 (if (S.crv p u k).1.h ((S.crv p u k).1.n - 1) < S.vw.lvl p u k then 1 else 0)).1 91 68 = (S.crv p u k).2 := hW3
      have hR4 := rm_fr hR3 fr4 (by decide)
      have hI4 := hI3.fr fr4 (by decide)
      have hc3' : 0 ≤ (S.crv p u k).2 ∧ (S.crv p u k).2 ≤ 99 := hc3
      generalize hB : aI A3 91 76 (if (S.crv p u k).1.h ((S.crv p u k).1.n - 1) < S.vw.lvl p u k then 1 else 0) = B at *
      have fin : ∀ C, Fr [] [(91, 79)] B C → C.1 91 79 = S.wrg p u k → Ret (x188_flows_103 F p u k (S.flAt p u k (S.vw.lvl p u k)) C) (if S.flOf p u k < 0 then 0 else 1) (fun A1 => RM A1 S ∧ MI A1 S t ∧ (0 ≤ S.flOf p u k → A1.1 91 78 = S.flOf p u k ∧ A1.1 91 79 = S.wrg p u k ∧ A1.1 91 76 = S.bey p u k ∧ A1.1 91 77 = (if 0 ≤ S.gAcc 0 p u k S.nU ∨ 0 ≤ S.gAcc 1 p u k S.nU then 1 else 0))) := by
        intro C frC hC79
        have hRC := rm_fr hR4 frC (by decide)
        have hIC := hI4.fr frC (by decide)
        have hC76 : C.1 91 76 = S.bey p u k := ((frC.slot (c := 91) (k := 76) (by decide) (by decide)).1).trans hbey
        have frD : Fr [] [(91, 77)] C (aI C 91 77 0) := Fr.aI Fr.rfl (Or.inr (by decide))
        have less0 : ∀ f g : Int, (f - (f * (if g < 0 then 0 else g)).tdiv 100) = lessV f g := by
          intro f g
          unfold lessV
          by_cases d1 : g < 0
          · rw [if_pos d1, if_pos (by omega), Int.mul_zero]; simp
          · rw [if_neg d1]
            by_cases d2 : g ≤ 0
            · rw [if_pos d2, show g = 0 by omega, Int.mul_zero]; simp
            · rw [if_neg d2]
        unfold x188_flows_103
        refine Ret.bind (hunM (q := 0) (p := p) (u := u) (k := k) (rm_fr hRC frD (by decide)) hO hF) (fun D eD hD => ?_)
        have hRD := rm_fr (rm_fr hRC frD (by decide)) hD.1 (by decide)
        have hID := (hIC.fr frD (by decide)).fr hD.1 (by decide)
        have hx1 := less0 (S.flAt p u k (S.vw.lvl p u k)) (S.gAcc 0 p u k S.nU)
        have hm1 := mul_nb (a := S.flAt p u k (S.vw.lvl p u k)) (b := if S.gAcc 0 p u k S.nU < 0 then 0 else S.gAcc 0 p u k S.nU) (m := 99999999) (n := 99) hab.1 hab.2 (by split <;> omega) (by split <;> omega)
        have hm2 := tdiv_b (x := S.flAt p u k (S.vw.lvl p u k) * (if S.gAcc 0 p u k S.nU < 0 then 0 else S.gAcc 0 p u k S.nU)) (y := 100) hm1.1 (by omega)
        have hab' : 0 ≤ S.flAt p u k (S.vw.lvl p u k) ∧ S.flAt p u k (S.vw.lvl p u k) ≤ 99999999 := hab
        have hb1' : 0 ≤ lessV (S.flAt p u k (S.vw.lvl p u k)) (S.gAcc 0 p u k S.nU) ∧ lessV (S.flAt p u k (S.vw.lvl p u k)) (S.gAcc 0 p u k S.nU) ≤ 99999999 := hb1
        rw [hx1, g64p (by omega), g64p (by omega), g32p (by omega), g32p (by omega)]
        refine Ret.bind (hunM (q := 1) (p := p) (u := u) (k := k) hRD hO hF) (fun E eE hE => ?_)
        have hRE := rm_fr hRD hE.1 (by decide)
        have hIE := hID.fr hE.1 (by decide)
        have hx2 := less0 (lessV (S.flAt p u k (S.vw.lvl p u k)) (S.gAcc 0 p u k S.nU)) (S.gAcc 1 p u k S.nU)
        have hm3 := mul_nb (a := lessV (S.flAt p u k (S.vw.lvl p u k)) (S.gAcc 0 p u k S.nU)) (b := if S.gAcc 1 p u k S.nU < 0 then 0 else S.gAcc 1 p u k S.nU) (m := 99999999) (n := 99) hb1'.1 hb1'.2 (by split <;> omega) (by split <;> omega)
        have hm4 := tdiv_b (x := lessV (S.flAt p u k (S.vw.lvl p u k)) (S.gAcc 0 p u k S.nU) * (if S.gAcc 1 p u k S.nU < 0 then 0 else S.gAcc 1 p u k S.nU)) (y := 100) hm3.1 (by omega)
        have hb2' : 0 ≤ lessV (lessV (S.flAt p u k (S.vw.lvl p u k)) (S.gAcc 0 p u k S.nU)) (S.gAcc 1 p u k S.nU) ∧ lessV (lessV (S.flAt p u k (S.vw.lvl p u k)) (S.gAcc 0 p u k S.nU)) (S.gAcc 1 p u k S.nU) ≤ 99999999 := hb2
        rw [hx2, g64p (by omega), g64p (by omega), g32p (by omega), g32p (by omega), ef, if_neg (by omega)]
        have frG : Fr [] [(91, 78)] E (aI E 91 78 (lessV (lessV (S.flAt p u k (S.vw.lvl p u k)) (S.gAcc 0 p u k S.nU)) (S.gAcc 1 p u k S.nU))) := Fr.aI Fr.rfl (Or.inr (by decide))
        refine Ret.mk ⟨rm_fr hRE frG (by decide), hIE.fr frG (by decide), fun _ => ⟨rfl, ?_, ?_, ?_⟩⟩
        · have z1 : E.1 91 79 = D.1 91 79 := (hE.1.slot (c := 91) (k := 79) (by decide) (by decide)).1
          have z2 : D.1 91 79 = C.1 91 79 := (hD.1.slot (c := 91) (k := 79) (by decide) (by decide)).1
          exact (z1.trans z2).trans hC79
        · have z1 : E.1 91 76 = D.1 91 76 := (hE.1.slot (c := 91) (k := 76) (by decide) (by decide)).1
          have z2 : D.1 91 76 = C.1 91 76 := (hD.1.slot (c := 91) (k := 76) (by decide) (by decide)).1
          exact (z1.trans z2).trans hC76
        · have z1 : E.1 91 77 = _ := hE.2
          have z2 : D.1 91 77 = (if 0 ≤ S.gAcc 0 p u k S.nU then 1 else 0) := hD.2
          show E.1 91 77 = _
          rw [z1, z2]
          repeat' split
          all_goals first | rfl | (exfalso; omega)
      have hflat : atF (S.crv p u k).1.h (flw (S.crv p u k).1) (S.crv p u k).1.n (S.low p.toNat) (S.vw.lvl p u k) = S.flAt p u k (S.vw.lvl p u k) := rfl
      rw [hbey, hwr]
      have wr0 : S.wrg p u k = cap100 (if S.bey p u k = 1 then 2 * (S.crv p u k).2 + 10 else (S.crv p u k).2) := rfl
      have b01 : S.bey p u k = 0 ∨ S.bey p u k = 1 := by unfold St.bey; split <;> simp
      by_cases c3 : S.bey p u k = 0
      · rw [if_neg (by omega)] at wr0
        rw [if_pos c3]
        by_cases c4 : 100 < (S.crv p u k).2
        · rw [if_pos c4]
          refine fin _ (Fr.aI (Fr.aI Fr.rfl (Or.inr (by decide))) (Or.inr (by decide))) ?_
          rw [wr0]; unfold cap100; rw [if_pos c4]; rfl
        · rw [if_neg c4]
          refine fin _ (Fr.aI Fr.rfl (Or.inr (by decide))) ?_
          rw [wr0]; unfold cap100; rw [if_neg c4]; rfl
      · rw [if_pos (by omega)] at wr0
        rw [if_neg c3, g32p (by omega), g32p (by omega)]
        by_cases c4 : 100 < 2 * (S.crv p u k).2 + 10
        · rw [if_pos c4]
          refine fin _ (Fr.aI (Fr.aI Fr.rfl (Or.inr (by decide))) (Or.inr (by decide))) ?_
          rw [wr0]; unfold cap100; rw [if_pos c4]; rfl
        · rw [if_neg c4]
          refine fin _ (Fr.aI Fr.rfl (Or.inr (by decide))) ?_
          rw [wr0]; unfold cap100; rw [if_neg c4]; rfl
end RATE
