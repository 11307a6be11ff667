set_option maxRecDepth 8000
/-! bits of a long -/
def lb (x : Int64) (i : Nat) : Bool := x.toBitVec.getLsbD i
abbrev LB (v : Int) (i : Nat) : Bool := lb (Int64.ofInt v) i
theorem lb_ext {x y : Int64} (h : ∀ i, i < 64 → lb x i = lb y i) : x = y := Int64.toBitVec_inj.mp (BitVec.eq_of_getLsbD_eq (fun i hi => h i hi))
theorem LB_or (v w : Int) (i : Nat) : LB (rz_oL gOr v w) i = (LB v i || LB w i) := by
  unfold LB rz_oL gOr lb
  rw [Int64.ofInt_toInt, Int64.toBitVec_or, BitVec.getLsbD_or]
theorem LB_and (v w : Int) (i : Nat) : LB (rz_oL gAnd v w) i = (LB v i && LB w i) := by
  unfold LB rz_oL gAnd lb
  rw [Int64.ofInt_toInt, Int64.toBitVec_and, BitVec.getLsbD_and]
theorem LB_m1 : ∀ i, i < 64 → LB (-1) i = true := by decide +kernel
theorem LB_0 : ∀ i, i < 64 → LB 0 i = false := by decide +kernel
theorem LB_1 : ∀ i, i < 64 → LB 1 i = decide (i = 0) := by decide +kernel
theorem lb_sm : ∀ n, n < 64 → (((Int32.ofInt ((n : Nat) : Int)).toInt64 &&& 63).toBitVec.smod 64).toNat = n := by decide +kernel
theorem LB_shl (z : Nat) (hz : z < 64) {i : Nat} (hi : i < 64) : LB (rz_oS gShl 1 z) i = decide (i = z) := by
  unfold LB rz_oS gShl
  rw [Int64.ofInt_toInt]
  show (Int64.ofInt 1 <<< ((Int32.ofInt (z : Int)).toInt64 &&& 63)).toBitVec.getLsbD i = _
  rw [Int64.toBitVec_shiftLeft]
  show ((Int64.ofInt 1).toBitVec <<< (((Int32.ofInt (z : Int)).toInt64 &&& 63).toBitVec.smod 64).toNat).getLsbD i = _
  rw [lb_sm z hz, BitVec.getLsbD_shiftLeft]
  have h1 := LB_1 (i - z) (by omega)
  unfold LB lb at h1
  rw [h1, decide_eq_true hi, Bool.true_and]
  by_cases c : i < z
  · rw [decide_eq_true c, decide_eq_false (by omega : ¬ i = z)]
    rfl
  · rw [decide_eq_false c]
    by_cases c2 : i = z
    · rw [decide_eq_true c2, decide_eq_true (by omega : i - z = 0)]
      rfl
    · rw [decide_eq_false c2, decide_eq_false (by omega : ¬ i - z = 0)]
      rfl
theorem LB_shr0 (v : Int) (z : Nat) (hz : z < 64) : LB (rz_oS gShr v z) 0 = LB v z := by
  unfold LB rz_oS gShr
  rw [Int64.ofInt_toInt]
  show (Int64.ofInt v >>> ((Int32.ofInt (z : Int)).toInt64 &&& 63)).toBitVec.getLsbD 0 = _
  rw [Int64.toBitVec_shiftRight]
  show ((Int64.ofInt v).toBitVec.sshiftRight (((Int32.ofInt (z : Int)).toInt64 &&& 63).toBitVec.smod 64).toNat).getLsbD 0 = _
  rw [lb_sm z hz, BitVec.getLsbD_sshiftRight]
  simp [hz]
  rfl
/-- is a bit of a long 0 -/
theorem LB_test (v : Int) (z : Nat) (hz : z < 64) : (rz_oL gAnd (rz_oS gShr v z) 1 = 0) ↔ LB v z = false := by
  have key : Int64.ofInt (rz_oL gAnd (rz_oS gShr v z) 1) = Int64.ofInt (if LB v z = true then 1 else 0) := by
    refine lb_ext (fun i hi => ?_)
    have h1 : lb (Int64.ofInt (rz_oL gAnd (rz_oS gShr v z) 1)) i = (LB (rz_oS gShr v z) i && LB 1 i) := LB_and _ _ i
    rw [h1, LB_1 i hi]
    by_cases e : i = 0
    · subst e
      rw [LB_shr0 v z hz, decide_eq_true rfl, Bool.and_true]
      cases h2 : LB v z
      · rw [if_neg (by decide)]
        exact (LB_0 0 (by omega)).symm
      · rw [if_pos rfl]
        exact (LB_1 0 (by omega)).symm
    · rw [decide_eq_false e, Bool.and_false]
      split
      · have := LB_1 i hi
        rw [decide_eq_false e] at this
        exact this.symm
      · exact (LB_0 i hi).symm
  have h3 : rz_oL gAnd (rz_oS gShr v z) 1 = (Int64.ofInt (rz_oL gAnd (rz_oS gShr v z) 1)).toInt := by
    unfold rz_oL
    rw [Int64.ofInt_toInt]
  rw [h3, key]
  cases LB v z
  · exact ⟨fun _ => rfl, fun _ => by decide⟩
  · exact ⟨fun h => absurd h (by decide), fun h => by cases h⟩
theorem LB_none (v w : Int) : (rz_oL gOr v w = 0) ↔ ∀ i, i < 64 → LB v i = false ∧ LB w i = false := by
  have h3 : rz_oL gOr v w = (gOr (Int64.ofInt v) (Int64.ofInt w)).toInt := rfl
  constructor
  · intro h i hi
    have h4 := LB_or v w i
    rw [h, LB_0 i hi] at h4
    have h5 := h4.symm
    rw [Bool.or_eq_false_iff] at h5
    exact h5
  · intro h
    have e : gOr (Int64.ofInt v) (Int64.ofInt w) = Int64.ofInt 0 := by
      refine lb_ext (fun i hi => ?_)
      obtain ⟨g1, g2⟩ := h i hi
      have h6 := LB_or v w i
      unfold LB rz_oL at h6
      rw [Int64.ofInt_toInt] at h6
      rw [h6]
      have h7 : lb (Int64.ofInt v) i = false := g1
      have h8 : lb (Int64.ofInt w) i = false := g2
      rw [h7, h8]
      exact (LB_0 i hi).symm
    rw [h3, e]
    decide
/-! whether a FLOW goes with a SHIFT -/
def St.wd (S : St) (f : Nat) : Int := (S.fN f * S.fW f).tdiv 100
def St.atB (S : St) (p v : Int) : Int := atF (S.bH p.toNat) (S.bF p.toNat) (S.bN p.toNat).toNat (-2000) v
noncomputable def St.gs (S : St) (p : Int) (j : Nat) (s : Int) : Bool := decide (S.fN (S.pkg p j) - S.wd (S.pkg p j) ≤ S.atB p (S.vw.lvl p (S.fT (S.pkg p j)) S.now + s) ∧ S.atB p (S.vw.lvl p (S.fT (S.pkg p j)) S.now + s) ≤ S.fN (S.pkg p j) + S.wd (S.pkg p j))
/-- all of a run -/
noncomputable def St.rgB (S : St) (p s : Int) (a : Nat) : Nat → Bool
  | 0 => true
  | n + 1 => S.rgB p s a n && S.gs p (a + n) s
theorem rgB_all (S : St) (p s : Int) (a : Nat) : ∀ n, S.rgB p s a n = true ↔ ∀ j, a ≤ j → j < a + n → S.gs p j s = true
  | 0 => ⟨fun _ j h1 h2 => by omega, fun _ => rfl⟩
  | n + 1 => by
    show (S.rgB p s a n && S.gs p (a + n) s) = true ↔ _
    rw [Bool.and_eq_true, rgB_all S p s a n]
    constructor
    · intro h j h1 h2
      by_cases e : j = a + n
      · rw [e]; exact h.2
      · exact h.1 j h1 (by omega)
    · intro h
      exact ⟨fun j h1 h2 => h j h1 (by omega), h (a + n) (by omega) (by omega)⟩
section GOES
variable {t t' F : Nat} {A A0 A' : rz_A} {S : St} {p u k a b v w s : Int} {cs : List Nat} {fs : List (Nat × Nat)} {i j : Nat}
theorem wd_b (hO : OK t S) {f : Nat} (hf : f < S.nF) : (0 ≤ S.fN f * S.fW f ∧ S.fN f * S.fW f ≤ 99999 * 99) ∧ 0 ≤ S.wd f ∧ S.wd f ≤ S.fN f := by
  have hb := hO.f f hf
  have m1 := mul_nb (a := S.fN f) (b := S.fW f) (m := 99999) (n := 99) (by omega) (by omega) (by omega) (by omega)
  have m2 := mul_nb (a := S.fN f) (b := S.fW f) (m := S.fN f) (n := 100) (by omega) (by omega) (by omega) (by omega)
  refine ⟨m1, ?_⟩
  unfold St.wd
  rw [Int.tdiv_eq_ediv_of_nonneg m1.1]
  exact ⟨Int.ediv_nonneg m1.1 (by omega), Int.ediv_le_of_le_mul (by omega) m2.2⟩
theorem hf_base (hO : OK t S) {q : Nat} (hq : q < 6) (hn : S.bN q ≠ 0) : HF (S.bH q) (S.bF q) (S.bN q).toNat := by
  have h1 := hO.bN q hq
  refine HF.of ⟨by omega, fun i hi => hO.bs q i hq (by omega), fun i hi => ?_, fun i hi => ?_⟩
  · exact (hO.b q i hq (by omega)).1
  · exact (hO.b q i hq (by omega)).2
theorem base_row (h : RC A S) {q : Nat} (hq : q < 6) : A.1 (69 + 3 * q) 0 = S.bN q ∧ A.1 (70 + 3 * q) = S.bH q ∧ A.1 (71 + 3 * q) = S.bF q := by
  match q, hq with
  | 0, _ => exact ⟨h.bN0, h.bH0, h.bF0⟩
  | 1, _ => exact ⟨h.bN1, h.bH1, h.bF1⟩
  | 2, _ => exact ⟨h.bN2, h.bH2, h.bF2⟩
  | 3, _ => exact ⟨h.bN3, h.bH3, h.bF3⟩
  | 4, _ => exact ⟨h.bN4, h.bH4, h.bF4⟩
  | 5, _ => exact ⟨h.bN5, h.bH5, h.bF5⟩
  | q + 6, hq => exact absurd hq (by omega)
theorem atB_C (h : RC A S) (hO : OK t S) (hF : 1000 ≤ F) {q : Nat} (hq : q < 6) (hn : S.bN q ≠ 0) (hv : -20000 ≤ v ∧ v ≤ 200000) : x80_flowBy_b F q v (-2000) A = some (S.atB q v, A) := by
  have h1 := hO.bN q hq
  have hr := base_row h hq
  have := fby_b (F := F) (A := A) (q := q) (low := -2000) (v := v) (hf_base hO hq hn) (by omega) hF (by rw [hr.1]; omega) (fun i hi => by rw [hr.2.1]) (fun i hi => by rw [hr.2.2]) (by omega) hv
  rw [this]
  unfold St.atB
  rw [Int.toNat_natCast]
theorem atB_M (h : RM A S) (hO : OK t S) (hF : 1000 ≤ F) {q : Nat} (hq : q < 6) (hn : S.bN q ≠ 0) (hv : -20000 ≤ v ∧ v ≤ 200000) : ∃ z, x185_along_q F (8 * (q : Int)) (S.bN q) (-2000) v A = some (S.atB q v, aI A 91 76 z) := by
  have h1 := hO.bN q hq
  have := alo_q (F := F) (A := A) (o := 8 * q) (low := -2000) (v := v) (hf_base hO hq hn) (by omega) hF (fun i hi => h.bH q i hq (by omega)) (fun i hi => h.bF q i hq (by omega)) (by omega) hv
  rw [show ((8 * q : Nat) : Int) = 8 * (q : Int) by omega, show (((S.bN q).toNat : Nat) : Int) = S.bN q by omega] at this
  have e : S.atB q v = atF (S.bH q) (S.bF q) (S.bN q).toNat (-2000) v := by
    unfold St.atB
    rw [Int.toNat_natCast]
  rw [e]
  exact ⟨_, this⟩
theorem pik_in (hP : S.pkOK p) (hj : j < S.pkm p) : S.pkg p j < S.nF ∧ S.fP (S.pkg p j) = p ∧ inF S.vw S.fl S.now (S.pkg p j) := by
  have := hP.mem j hj
  exact ⟨this.1, this.2.1, this.2.2⟩
theorem pik_lvl (hO : OK t S) (hP : S.pkOK p) (hj : j < S.pkm p) : -1000 ≤ S.vw.lvl p (S.fT (S.pkg p j)) S.now ∧ S.vw.lvl p (S.fT (S.pkg p j)) S.now ≤ 10998 := by
  obtain ⟨h1, h2, h3⟩ := pik_in hP hj
  have hb := hO.f _ h1
  have h4 : 0 ≤ S.vw.which (S.fP (S.pkg p j)) (S.fT (S.pkg p j)) S.now := h3.2.2
  have := lvl_b hO hb.1 h4
  rw [h2] at this
  exact this
/-! the class's -/
def BtC (A : rz_A) (S : St) (p : Int) (j : Nat) : Prop := (∀ i, i < 64 → LB (A.2 68 (2 * j)) i = S.gs p j ((i : Int) - 50)) ∧ ∀ i, i < 64 → LB (A.2 68 (2 * j + 1)) i = (decide (i < 37) && S.gs p j ((i : Int) + 14))
theorem SN_68 {j : Nat} (h : SN A S k t) : SN (aL A 68 j v) S k t := h.fr (Fr.aL (cs := [68]) (fs := []) Fr.rfl (Or.inl (by decide))) (by decide) (by decide)
theorem shiftsC_loop (hO : OK t S) (hF : 1000 ≤ F) {q : Nat} (hq : q < 6) (hn : S.bN q ≠ 0) (hP : S.pkOK q) (hj : j < S.pkm q) {r lo hi : Int} (hlo : lo = S.fN (S.pkg q j) - S.wd (S.pkg q j)) (hhi : hi = S.fN (S.pkg q j) + S.wd (S.pkg q j)) : ∀ (n : Nat) (z : Nat) (A : rz_A), SN A S S.now t → Fr [68] [] A0 A → (∀ c, c ≠ 2 * j → c ≠ 2 * j + 1 → A.2 68 c = A0.2 68 c) → z ≤ 101 → 101 < n + z → 0 ≤ r ∧ r < A.1 51 10 → A.1 54 r.toNat = S.vw.lvl q (S.fT (S.pkg q j)) S.now → (∀ i, i < 64 → LB (A.2 68 (2 * j)) i = (decide (i < z) && S.gs q j ((i : Int) - 50))) → (∀ i, i < 64 → LB (A.2 68 (2 * j + 1)) i = (decide (i + 64 < z) && S.gs q j ((i : Int) + 14))) → Ret (x100_findShifts_b_91 F q n j r lo hi ((z : Int) - 50) A) () (fun A1 => SN A1 S S.now t ∧ Fr [68] [] A0 A1 ∧ (∀ c, c ≠ 2 * j → c ≠ 2 * j + 1 → A1.2 68 c = A0.2 68 c) ∧ BtC A1 S q j) := by
  have hnH := hO.nH
  have hl := pik_lvl hO hP hj
  have hle := hP.le
  intro n
  induction n with
  | zero => intro z A _ _ _ h1 h2; omega
  | succ n ih =>
    intro z A hS hfr hot h1 h2 hr h54 hb0 hb1
    have hnn := hS.view.n
    have hn2 : A.1 51 10 ≤ S.nH := hnn.2
    unfold x100_findShifts_b_91
    by_cases hz : z ≤ 100
    · have g32 : r32 ((z : Int) - 50 + 1) := by omega
      have hcast : (z : Int) - 50 + 1 = ((z + 1 : Nat) : Int) - 50 := by omega
      have e50 : (z : Int) - 50 + 50 = z := by omega
      rw [if_pos (by omega), gxp (by omega) (by omega), h54, g32p (by omega), atB_C hS.rc hO hF hq hn (by omega)]
      simp only [rz_b_some]
      have hgs : S.gs q j ((z : Int) - 50) = decide (lo ≤ S.atB q (S.vw.lvl q (S.fT (S.pkg q j)) S.now + ((z : Int) - 50)) ∧ S.atB q (S.vw.lvl q (S.fT (S.pkg q j)) S.now + ((z : Int) - 50)) ≤ hi) := by
        rw [hlo, hhi]; rfl
      simp only [g32p g32]
      simp only [hcast, e50]
      rw [g32p (by omega)]
      have step0 : S.gs q j ((z : Int) - 50) = false → Ret (x100_findShifts_b_91 F q n j r lo hi (((z + 1 : Nat) : Int) - 50) A) () (fun A1 => SN A1 S S.now t ∧ Fr [68] [] A0 A1 ∧ (∀ c, c ≠ 2 * j → c ≠ 2 * j + 1 → A1.2 68 c = A0.2 68 c) ∧ BtC A1 S q j) := by
        intro hg
        refine ih (z + 1) A hS hfr hot (by omega) (by omega) hr h54 (fun i hi => ?_) (fun i hi => ?_)
        · rw [hb0 i hi]
          by_cases e : i = z
          · rw [e, decide_eq_false (by omega : ¬ z < z), decide_eq_true (by omega : z < z + 1), hg]; rfl
          · rw [show decide (i < z + 1) = decide (i < z) from decide_eq_decide.mpr (by omega)]
        · rw [hb1 i hi]
          by_cases e : i + 64 = z
          · rw [e, decide_eq_false (by omega : ¬ z < z), decide_eq_true (by omega : z < z + 1), show (i : Int) + 14 = (z : Int) - 50 by omega, hg]; rfl
          · rw [show decide (i + 64 < z + 1) = decide (i + 64 < z) from decide_eq_decide.mpr (by omega)]
      by_cases c1 : lo ≤ S.atB q (S.vw.lvl q (S.fT (S.pkg q j)) S.now + ((z : Int) - 50))
      · rw [if_pos c1]
        by_cases c2 : S.atB q (S.vw.lvl q (S.fT (S.pkg q j)) S.now + ((z : Int) - 50)) ≤ hi
        · have hg : S.gs q j ((z : Int) - 50) = true := by rw [hgs]; exact decide_eq_true ⟨c1, c2⟩
          have e64 : (z : Int).tdiv 64 = ((z / 64 : Nat) : Int) := by rw [Int.tdiv_eq_ediv_of_nonneg (by omega)]; omega
          have m64 : (z : Int).tmod 64 = ((z % 64 : Nat) : Int) := by rw [Int.tmod_eq_emod_of_nonneg (by omega)]; omega
          rw [if_pos c2, e64, m64, g32p (by omega), g32p (by omega), g32p (by omega), gxp (by omega) (by omega), g32p (by omega)]
          have eidx : (2 * (j : Int) + ((z / 64 : Nat) : Int)).toNat = 2 * j + z / 64 := by omega
          rw [eidx]
          have hlt : z % 64 < 64 := Nat.mod_lt _ (by omega)
          refine ih (z + 1) _ (SN_68 hS) (Fr.aL hfr (Or.inl (by decide))) (fun c hc1 hc2 => ?_) (by omega) (by omega) hr h54 (fun i hi => ?_) (fun i hi => ?_)
          · show (if c = 2 * j + z / 64 then _ else A.2 68 c) = _
            rw [if_neg (by omega)]
            exact hot c hc1 hc2
          · show LB (if 2 * j = 2 * j + z / 64 then _ else A.2 68 (2 * j)) i = _
            by_cases c3 : z < 64
            · rw [if_pos (by omega), show 2 * j + z / 64 = 2 * j by omega, LB_or, hb0 i hi, LB_shl _ hlt hi]
              by_cases e : i = z
              · rw [decide_eq_true (by omega : i = z % 64), Bool.or_true, e, decide_eq_true (by omega : z < z + 1), hg]; rfl
              · rw [decide_eq_false (by omega : ¬ i = z % 64), Bool.or_false, show decide (i < z + 1) = decide (i < z) from decide_eq_decide.mpr (by omega)]
            · rw [if_neg (by omega), hb0 i hi, show decide (i < z + 1) = decide (i < z) from decide_eq_decide.mpr (by omega)]
          · show LB (if 2 * j + 1 = 2 * j + z / 64 then _ else A.2 68 (2 * j + 1)) i = _
            by_cases c3 : z < 64
            · rw [if_neg (by omega), hb1 i hi, decide_eq_false (by omega : ¬ i + 64 < z), decide_eq_false (by omega : ¬ i + 64 < z + 1)]
            · rw [if_pos (by omega), show 2 * j + z / 64 = 2 * j + 1 by omega, LB_or, hb1 i hi, LB_shl _ hlt hi]
              by_cases e : i + 64 = z
              · rw [decide_eq_true (by omega : i = z % 64), Bool.or_true, e, decide_eq_true (by omega : z < z + 1), show (i : Int) + 14 = (z : Int) - 50 by omega, hg]; rfl
              · rw [decide_eq_false (by omega : ¬ i = z % 64), Bool.or_false, show decide (i + 64 < z + 1) = decide (i + 64 < z) from decide_eq_decide.mpr (by omega)]
        · rw [if_neg c2]
          exact step0 (by rw [hgs]; exact decide_eq_false (fun hh => c2 hh.2))
      · rw [if_neg c1]
        exact step0 (by rw [hgs]; exact decide_eq_false (fun hh => c1 hh.1))
    · have ez : z = 101 := by omega
      subst ez
      rw [if_neg (by omega)]
      refine Ret.mk ⟨hS, hfr, hot, fun i hi => ?_, fun i hi => ?_⟩
      · rw [hb0 i hi, decide_eq_true (by omega : i < 101), Bool.true_and]
      · rw [hb1 i hi, show decide (i + 64 < 101) = decide (i < 37) from decide_eq_decide.mpr (by omega)]
theorem mayC (h : RC A S) (hO : OK t S) {f : Nat} (hf : f < S.nF) : x101_mayDiffer F f A = some (S.wd f, A) := by
  have hnF := hO.nF
  have hw := wd_b hO hf
  have hb := hO.f f hf
  unfold x101_mayDiffer
  have e : (S.fN f * S.fW f).tdiv 100 = S.wd f := rfl
  rw [gxp (by omega) (by omega), Int.toNat_natCast, h.fN, h.fW, shareC (by omega) (by omega) (by rw [e]; omega)]
  simp only [rz_b_some]
  rw [e, g32p (by omega)]
theorem shiftsC (h : SN A S S.now t) (hO : OK t S) (hF : 1000 ≤ F) {q : Nat} (hq : q < 6) (hn : S.bN q ≠ 0) (hP : S.pkOK q) (hj : j < S.pkm q) (hA : PkC A (S.pkm q) (S.pkg q)) : Ret (x100_findShifts_b F q j A) () (fun A1 => SN A1 S S.now t ∧ Fr [68] [] A A1 ∧ (∀ c, c ≠ 2 * j → c ≠ 2 * j + 1 → A1.2 68 c = A.2 68 c) ∧ BtC A1 S q j) := by
  have hnF := hO.nF
  have hle := hP.le
  obtain ⟨h1, h2, h3⟩ := pik_in hP hj
  have hw := wd_b hO h1
  have hb := hO.f _ h1
  obtain ⟨r, e1, e2⟩ := placeC (F := F) h.rc hO h.view hF hO.now h1
  unfold x100_findShifts_b
  rw [gxp (by omega) (by omega), Int.toNat_natCast, hA.2 j hj, e1]
  simp only [rz_b_some]
  rw [g32p (by omega), gxp (by omega) (by omega), g32p (by omega), gxp (by omega) (by omega)]
  have t1 : (2 * (j : Int)).toNat = 2 * j := by omega
  have t2 : (2 * (j : Int) + 1).toNat = 2 * j + 1 := by omega
  rw [t1, t2, Int.toNat_natCast]
  rcases e2 with g | g
  · exact absurd h3 g.2
  · rw [if_neg (by omega), gxp (by omega) (by omega)]
    have hS2 : SN (aL (aL A 68 (2 * j) 0) 68 (2 * j + 1) 0) S S.now t := SN_68 (SN_68 h)
    rw [mayC hS2.rc hO h1]
    simp only [rz_b_some]
    have q29 : (aL (aL A 68 (2 * j) 0) 68 (2 * j + 1) 0).1 29 = S.fN := hS2.rc.fN
    rw [h.rc.fN, q29, g32p (by omega), mayC hS2.rc hO h1]
    simp only [rz_b_some]
    rw [g32p (by omega)]
    have hlv : A.1 54 r.toNat = S.vw.lvl q (S.fT (S.pkg q j)) S.now := by
      rw [g.2.2.2.2, h2]
    have := shiftsC_loop (F := F) (A0 := A) (r := r) hO hF hq hn hP hj rfl rfl F 0 _ hS2 (Fr.aL (Fr.aL Fr.rfl (Or.inl (by decide))) (Or.inl (by decide))) (fun c hc1 hc2 => by
      show (if c = 2 * j + 1 then (0 : Int) else if c = 2 * j then 0 else A.2 68 c) = _
      rw [if_neg hc2, if_neg hc1]) (by omega) (by omega) ⟨g.1, g.2.1⟩ hlv (fun i hi => by
      show LB (if 2 * j = 2 * j + 1 then (0 : Int) else if 2 * j = 2 * j then 0 else _) i = _
      rw [if_neg (by omega), if_pos rfl, LB_0 i hi, decide_eq_false (by omega : ¬ i < 0)]; rfl) (fun i hi => by
      show LB (if 2 * j + 1 = 2 * j + 1 then (0 : Int) else _) i = _
      rw [if_pos rfl, LB_0 i hi, decide_eq_false (by omega : ¬ i + 64 < 0)]; rfl)
    exact this
theorem g80_step {q n : Nat} (hq : q < 6) {s : Int} : x98_gather_80 F (n + 1) q s A = if s < A.1 64 6 then (rz_gx (q : Int) 6 <| rz_b (x100_findShifts_b F q s A) fun _ A5 => rz_g32 (s + 1) <| x98_gather_80 F n q (s + 1) A5) else some (1, A) := by
  match q, hq with
  | 0, _ => rfl
  | 1, _ => rfl
  | 2, _ => rfl
  | 3, _ => rfl
  | 4, _ => rfl
  | 5, _ => rfl
  | q + 6, hq => exact absurd hq (by omega)
theorem g57_step {q : Nat} (hq : q < 6) : x98_gather_57 F q A = (rz_gx (q : Int) 6 <| if A.1 (69 + 3 * q) 0 = 0 then some (0, A) else if A.1 64 6 = 0 then some (0, A) else x98_gather_80 F F q 0 A) := by
  match q, hq with
  | 0, _ => rfl
  | 1, _ => rfl
  | 2, _ => rfl
  | 3, _ => rfl
  | 4, _ => rfl
  | 5, _ => rfl
  | q + 6, hq => exact absurd hq (by omega)
theorem gather80C (hO : OK t S) (hF : 1000 ≤ F) {q : Nat} (hq : q < 6) (hn : S.bN q ≠ 0) (hP : S.pkOK q) : ∀ (n j : Nat) (A : rz_A), SN A S S.now t → PkC A (S.pkm q) (S.pkg q) → j ≤ S.pkm q → S.pkm q < n + j → (∀ i, i < j → BtC A S q i) → Ret (x98_gather_80 F n q j A) 1 (fun A1 => SN A1 S S.now t ∧ PkC A1 (S.pkm q) (S.pkg q) ∧ ∀ i, i < S.pkm q → BtC A1 S q i) := by
  have hle := hP.le
  intro n
  induction n with
  | zero => intro j A _ _ h1 h2; omega
  | succ n ih =>
    intro j A hS hA h1 h2 h3
    rw [g80_step hq, hA.1]
    by_cases hj : j < S.pkm q
    · rw [if_pos (by omega), gxp (by omega) (by omega)]
      refine Ret.bind (shiftsC hS hO hF hq hn hP hj hA) (fun A5 e5 hA5 => ?_)
      obtain ⟨k1, k2, k3, k4⟩ := hA5
      have q67 : A5.1 67 = A.1 67 := (k2.row (c := 67) (by decide) (by decide)).1
      have q646 : A5.1 64 6 = A.1 64 6 := (k2.slot (c := 64) (k := 6) (by decide) (by decide)).1
      rw [g32p (by omega), show (j : Int) + 1 = ((j + 1 : Nat) : Int) by omega]
      refine ih (j + 1) A5 k1 ⟨q646.trans hA.1, fun i hi => by rw [q67]; exact hA.2 i hi⟩ (by omega) (by omega) (fun i hi => ?_)
      by_cases e : i = j
      · rw [e]; exact k4
      · have := h3 i (by omega)
        unfold BtC at this ⊢
        rw [k3 (2 * i) (by omega) (by omega), k3 (2 * i + 1) (by omega) (by omega)]
        exact this
    · have e : j = S.pkm q := by omega
      rw [if_neg (by omega)]
      exact Ret.mk ⟨hS, hA, fun i hi => h3 i (by omega)⟩
theorem gatherC (h : SN A S S.now t) (hO : OK t S) (hF : 1000 ≤ F) {q : Nat} (hq : q < 6) : Ret (x98_gather F q A) (if S.bN q = 0 ∨ S.pkm q = 0 then 0 else 1) (fun A1 => SN A1 S S.now t ∧ S.pkOK q ∧ A1.1 64 6 = S.pkm q ∧ (¬ (S.bN q = 0 ∨ S.pkm q = 0) → ∀ i, i < S.pkm q → BtC A1 S q i)) := by
  unfold x98_gather
  refine gather7C (F := F) (p := (q : Int)) hO hF (fun B M G hB hP hC => ?_) F 0 _ 0 (fun _ => 0) (SN_646 h) (Pk.of ⟨by omega, fun j hj => absurd hj (Nat.not_lt_zero j), fun i j _ hj => absurd hj (Nat.not_lt_zero j), fun f hf => absurd hf (Nat.not_lt_zero f)⟩) ⟨rfl, fun j hj => absurd hj (Nat.not_lt_zero j)⟩ (by omega) (by have := hO.nF; omega)
  obtain ⟨e1, e2⟩ := pik_eq hP
  have hOK := pik_ok hP
  have hC2 : PkC B (S.pkm q) (S.pkg q) := ⟨by rw [e1]; exact hC.1, fun j hj => by rw [e1] at hj; rw [e2 j hj]; exact hC.2 j hj⟩
  rw [g57_step hq, gxp (by omega) (by omega), (base_row hB.rc hq).1, hC2.1]
  by_cases c1 : S.bN q = 0
  · rw [if_pos c1, if_pos (Or.inl c1)]
    exact Ret.mk ⟨hB, hOK, hC2.1, fun hh => absurd (Or.inl c1) hh⟩
  · rw [if_neg c1]
    by_cases c2 : S.pkm q = 0
    · rw [if_pos (by omega), if_pos (Or.inr c2)]
      exact Ret.mk ⟨hB, hOK, hC2.1, fun hh => absurd (Or.inr c2) hh⟩
    · rw [if_neg (by omega), if_neg (by omega)]
      have hle := hOK.le
      exact Ret.of (gather80C (F := F) hO hF hq c1 hOK F 0 B hB hC2 (by omega) (by omega) (fun i hi => absurd hi (Nat.not_lt_zero i))) (fun A1 hA => ⟨hA.1, hOK, hA.2.1.1, fun _ => hA.2.2⟩)
/-! the reference's -/
theorem goes19M (hO : OK t S) (hF : 1000 ≤ F) {q : Nat} (hq : q < 6) (hn : S.bN q ≠ 0) (hP : S.pkOK q) (hs : -50 ≤ s ∧ s ≤ 50) {a b : Nat} (hb : b < S.pkm q) : ∀ (n j : Nat) (A : rz_A), DM A S t' → PkM A S q (S.pkm q) (S.pkg q) → Fr [] [(91, 76)] A0 A → a ≤ j → j ≤ b + 1 → b + 1 < n + j → S.rgB q s a (j - a) = true → Ret (x196_goes_19 F n q b s j A) (if S.rgB q s a (b + 1 - a) = true then 1 else 0) (fun A1 => DM A1 S t' ∧ PkM A1 S q (S.pkm q) (S.pkg q) ∧ Fr [] [(91, 76)] A0 A1) := by
  have hle := hP.le
  have hnF := hO.nF
  have hbN := hO.bN q hq
  intro n
  induction n with
  | zero => intro j A _ _ _ h1 h2 h3; omega
  | succ n ih =>
    intro j A h hA hfr h1 h2 h3 h4
    unfold x196_goes_19
    by_cases hj : j ≤ b
    · obtain ⟨k1, k2, k3⟩ := pik_in hP (j := j) (by omega)
      have hl := pik_lvl hO hP (j := j) (by omega)
      have hw := wd_b hO k1
      have hbf := hO.f _ k1
      obtain ⟨a1, a2⟩ := hA.2 j (by omega)
      obtain ⟨z, ez⟩ := atB_M (F := F) (v := S.vw.lvl q (S.fT (S.pkg q j)) S.now + s) h.1 hO hF hq hn (by omega)
      have frz : Fr [] [(91, 76)] A (aI A 91 76 z) := Fr.aI Fr.rfl (Or.inr (by decide))
      have hd : DM (aI A 91 76 z) S t' := ⟨rm_fr h.1 frz (by decide), h.2.fr frz (by decide)⟩
      have q112 : (aI A 91 76 z).1 112 = S.fN := hd.1.fN
      have q113 : (aI A 91 76 z).1 113 = S.fW := hd.1.fW
      have ewd : (S.fN (S.pkg q j) * S.fW (S.pkg q j)).tdiv 100 = S.wd (S.pkg q j) := rfl
      rw [if_pos (by omega), gxp (by omega) (by omega), g32p (by omega), gxp (by omega) (by omega), Int.toNat_natCast, Int.toNat_natCast, a2, a1, h.1.bN, g32p (by omega), ez]
      simp only [rz_b_some]
      rw [gxp (by omega) (by omega), Int.toNat_natCast, q112, q113, ewd, g32p (by omega), g32p (by omega), g32p (by omega)]
      have hgs : S.gs q j s = decide (S.fN (S.pkg q j) - S.wd (S.pkg q j) ≤ S.atB q (S.vw.lvl q (S.fT (S.pkg q j)) S.now + s) ∧ S.atB q (S.vw.lvl q (S.fT (S.pkg q j)) S.now + s) ≤ S.fN (S.pkg q j) + S.wd (S.pkg q j)) := rfl
      have no : S.gs q j s = false → Ret (some ((0 : Int), aI A 91 76 z)) (if S.rgB q s a (b + 1 - a) = true then 1 else 0) (fun A1 => DM A1 S t' ∧ PkM A1 S q (S.pkm q) (S.pkg q) ∧ Fr [] [(91, 76)] A0 A1) := by
        intro hg
        rw [if_neg (fun hh => by
          have := (rgB_all S q s a (b + 1 - a)).mp hh j h1 (by omega)
          rw [hg] at this; cases this)]
        exact Ret.mk ⟨hd, hA, hfr.trans frz⟩
      by_cases c1 : S.fN (S.pkg q j) - S.wd (S.pkg q j) ≤ S.atB q (S.vw.lvl q (S.fT (S.pkg q j)) S.now + s)
      · rw [if_pos c1, g32p (by omega)]
        by_cases c2 : S.fN (S.pkg q j) + S.wd (S.pkg q j) < S.atB q (S.vw.lvl q (S.fT (S.pkg q j)) S.now + s)
        · rw [if_pos c2]
          exact no (by rw [hgs]; exact decide_eq_false (fun hh => by have := hh.2; omega))
        · rw [if_neg c2, g32p (by omega), show (j : Int) + 1 = ((j + 1 : Nat) : Int) by omega]
          refine ih (j + 1) _ hd hA (hfr.trans frz) (by omega) (by omega) (by omega) ?_
          rw [show j + 1 - a = (j - a) + 1 by omega]
          show (S.rgB q s a (j - a) && S.gs q (a + (j - a)) s) = true
          rw [h4, show a + (j - a) = j by omega, hgs, decide_eq_true ⟨c1, by omega⟩]
          rfl
      · rw [if_neg c1]
        exact no (by rw [hgs]; exact decide_eq_false (fun hh => c1 hh.1))
    · have ej : j = b + 1 := by omega
      rw [if_neg (by omega)]
      rw [ej] at h4
      rw [if_pos h4]
      exact Ret.mk ⟨h, hA, hfr⟩
/-- in range, and all of a run go -/
noncomputable def St.rgo (S : St) (p s : Int) (a b : Nat) : Bool := decide (-50 ≤ s ∧ s ≤ 50) && S.rgB p s a (b + 1 - a)
theorem goesM {q0 : Int} {q a0 b0 : Nat} (h : DM A S t') (hA : PkM A S q0 (S.pkm q0) (S.pkg q0)) (hO : OK t S) (hF : 1000 ≤ F) (hq : q < 6) (e0 : q0 = (q : Int)) (hn : S.bN q ≠ 0) (hP : S.pkOK q) (hab : a0 ≤ b0) (hb : b0 < S.pkm q) : Ret (x196_goes F q a0 b0 s A) (if S.rgo q s a0 b0 = true then 1 else 0) (fun A1 => DM A1 S t' ∧ PkM A1 S q (S.pkm q) (S.pkg q) ∧ Fr [] [(91, 76)] A A1) := by
  subst e0
  have hle := hP.le
  unfold x196_goes St.rgo
  by_cases c1 : -50 ≤ s
  · rw [if_pos c1]
    by_cases c2 : 50 < s
    · rw [if_pos c2, decide_eq_false (fun hh => by have := hh.2; omega), Bool.false_and, if_neg (by decide)]
      exact Ret.mk ⟨h, hA, Fr.rfl⟩
    · rw [if_neg c2, decide_eq_true ⟨c1, by omega⟩, Bool.true_and]
      exact goes19M (F := F) (A0 := A) hO hF hq hn hP ⟨c1, by omega⟩ hb F a0 A h hA Fr.rfl (Nat.le_refl _) (by omega) (by omega) (by rw [Nat.sub_self]; rfl)
  · rw [if_neg c1, decide_eq_false (fun hh => c1 hh.1), Bool.false_and, if_neg (by decide)]
    exact Ret.mk ⟨h, hA, Fr.rfl⟩
end GOES
