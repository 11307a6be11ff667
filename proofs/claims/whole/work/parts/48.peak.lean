set_option maxRecDepth 8000
/-! bits -/
def ib (x : Int32) (i : Nat) : Bool := x.toBitVec.getLsbD i
theorem ib_ext {x y : Int32} (h : ∀ i, i < 32 → ib x i = ib y i) : x = y := Int32.toBitVec_inj.mp (BitVec.eq_of_getLsbD_eq (fun i hi => h i hi))
theorem ib_or (x y : Int32) (i : Nat) : ib (x ||| y) i = (ib x i || ib y i) := by unfold ib; rw [Int32.toBitVec_or, BitVec.getLsbD_or]
theorem ib_and (x y : Int32) (i : Nat) : ib (x &&& y) i = (ib x i && ib y i) := by unfold ib; rw [Int32.toBitVec_and, BitVec.getLsbD_and]
theorem ib_1 : ∀ i, i < 32 → ib (Int32.ofInt 1) i = decide (i = 0) := by decide +kernel
theorem ib_0 : ∀ i, i < 32 → ib (Int32.ofInt 0) i = false := by decide +kernel
theorem ib_sm : ∀ n, n < 32 → ((Int32.ofInt ((n : Nat) : Int) &&& 31).toBitVec.smod 32).toNat = n := by decide +kernel
theorem ib_shl (n : Nat) (hn : n < 32) (x : Int32) {i : Nat} (hi : i < 32) : ib (fShl x (Int32.ofInt (n : Int))) i = (decide (n ≤ i) && ib x (i - n)) := by
  unfold ib fShl
  rw [Int32.toBitVec_shiftLeft]
  show (x.toBitVec <<< ((Int32.ofInt (n : Int) &&& 31).toBitVec.smod 32).toNat).getLsbD i = _
  rw [ib_sm n hn, BitVec.getLsbD_shiftLeft]
  rcases Nat.lt_or_ge i n with h | h
  · simp [h, Nat.not_le.mpr h]
  · simp [hi, h, Nat.not_lt.mpr h]
theorem ib_shr (n : Nat) (hn : n < 32) (x : Int32) {i : Nat} (hi : i < 32) : ib (fShr x (Int32.ofInt (n : Int))) i = if n + i < 32 then ib x (n + i) else ib x 31 := by
  unfold ib fShr
  rw [Int32.toBitVec_shiftRight]
  show (x.toBitVec.sshiftRight ((Int32.ofInt (n : Int) &&& 31).toBitVec.smod 32).toNat).getLsbD i = _
  rw [ib_sm n hn, BitVec.getLsbD_sshiftRight, BitVec.msb_eq_getLsbD_last]
  simp [hi]
/-- a bit of a number -/
def bitE (v : Int) (y : Nat) : Int := rz_oI fAnd (rz_oI fShr v y) 1
theorem bitE_eq (v : Int) {y : Nat} (hy : y < 32) : bitE v y = if ib (Int32.ofInt v) y = true then 1 else 0 := by
  unfold bitE rz_oI
  rw [Int32.ofInt_toInt]
  have key : fAnd (fShr (Int32.ofInt v) (Int32.ofInt (y : Int))) (Int32.ofInt 1) = Int32.ofInt (if ib (Int32.ofInt v) y = true then 1 else 0) := by
    refine ib_ext (fun i hi => ?_)
    unfold fAnd
    rw [ib_and, ib_shr y hy _ hi, ib_1 i hi]
    by_cases e : i = 0
    · subst e
      rw [if_pos (by omega), Nat.add_zero]
      cases ib (Int32.ofInt v) y
      · rw [if_neg (by decide), ib_0 0 (by omega)]
        rfl
      · rw [if_pos rfl, ib_1 0 (by omega)]
        rfl
    · rw [decide_eq_false e, Bool.and_false]
      split
      · rw [ib_1 i hi, decide_eq_false e]
      · rw [ib_0 i hi]
  rw [key]
  split
  · decide
  · decide
theorem bitE_01 (v : Int) {y : Nat} (hy : y < 32) : bitE v y = 0 ∨ bitE v y = 1 := by
  rw [bitE_eq v hy]
  split
  · exact Or.inr rfl
  · exact Or.inl rfl
theorem bitE_or (v : Int) {y z : Nat} (hy : y < 32) (hz : z < 32) : bitE (rz_oI fOr v (rz_oI fShl 1 z)) y = if y = z then 1 else bitE v y := by
  rw [bitE_eq _ hy, bitE_eq _ hy]
  unfold rz_oI
  rw [Int32.ofInt_toInt, Int32.ofInt_toInt]
  unfold fOr
  rw [ib_or, ib_shl z hz _ hy]
  by_cases e : y = z
  · subst e
    rw [if_pos (Eq.refl y), Nat.sub_self, ib_1 0 (by omega), decide_eq_true (Nat.le_refl y)]
    rw [if_pos (by simp)]
  · rw [if_neg e]
    by_cases h : z ≤ y
    · rw [ib_1 (y - z) (by omega), decide_eq_false (by omega : ¬ y - z = 0), Bool.and_false, Bool.or_false]
    · rw [decide_eq_false h, Bool.false_and, Bool.or_false]
theorem bitE_0 {y : Nat} (hy : y < 32) : bitE 0 y = 0 := by
  rw [bitE_eq _ hy, ib_0 y hy]
  rfl
/-! the greatest -/
def mxF (f : Nat → Int) : Nat → Int
  | 0 => -1
  | n + 1 => if mxF f n < f n then f n else mxF f n
theorem mxF_ch (f : Nat → Int) : ∀ n, (∀ i, i < n → f i ≤ mxF f n) ∧ (mxF f n = -1 ∨ ∃ i, i < n ∧ f i = mxF f n) ∧ -1 ≤ mxF f n
  | 0 => ⟨fun i hi => absurd hi (Nat.not_lt_zero i), Or.inl rfl, by show (-1 : Int) ≤ -1; omega⟩
  | n + 1 => by
    obtain ⟨h1, h2, h3⟩ := mxF_ch f n
    unfold mxF
    by_cases c : mxF f n < f n
    · rw [if_pos c]
      refine ⟨fun i hi => ?_, Or.inr ⟨n, by omega, rfl⟩, by omega⟩
      by_cases e : i = n
      · rw [e]; omega
      · have := h1 i (by omega); omega
    · rw [if_neg c]
      refine ⟨fun i hi => ?_, ?_, h3⟩
      · by_cases e : i = n
        · rw [e]; omega
        · exact h1 i (by omega)
      · rcases h2 with h2 | ⟨i, h4, h5⟩
        · exact Or.inl h2
        · exact Or.inr ⟨i, by omega, h5⟩
theorem mxF_eq {f : Nat → Int} {n : Nat} {r : Int} (h1 : ∀ i, i < n → f i ≤ r) (h2 : r = -1 ∨ ∃ i, i < n ∧ f i = r) (h3 : -1 ≤ r) : mxF f n = r := by
  obtain ⟨g1, g2, g3⟩ := mxF_ch f n
  rcases h2 with h2 | ⟨i, hi, h2⟩
  · rcases g2 with g2 | ⟨j, hj, g2⟩
    · omega
    · have := h1 j hj; omega
  · have := g1 i hi
    rcases g2 with g2 | ⟨j, hj, g2⟩
    · omega
    · have := h1 j hj; omega
def St.peakV (S : St) (p a b k : Int) : Int := mxF (fun i => S.flOf p (a + i) k) (b - a + 1).toNat
section PEAK
variable {t t' F : Nat} {A A0 A' : rz_A} {S : St} {V : Vw} {p u k a b l v w : Int} {cs : List Nat} {fs : List (Nat × Nat)} {i : Nat}
theorem peakV_eq {r : Int} (h1 : ∀ u, a ≤ u → u ≤ b → S.flOf p u k ≤ r) (h2 : r = -1 ∨ ∃ u, a ≤ u ∧ u ≤ b ∧ S.flOf p u k = r) (h3 : -1 ≤ r) : S.peakV p a b k = r := by
  unfold St.peakV
  refine mxF_eq (fun i hi => h1 _ (by omega) (by omega)) ?_ h3
  rcases h2 with h2 | ⟨u, g1, g2, g3⟩
  · exact Or.inl h2
  · exact Or.inr ⟨(u - a).toNat, by omega, by show S.flOf p (a + ((u - a).toNat : Nat)) k = r; rw [show a + (((u - a).toNat : Nat) : Int) = u by omega]; exact g3⟩
/-- the places of a POST's TIMES in a view -/
theorem view_at (hv : View A V k) (hp : 0 ≤ p ∧ p < 6) (ha : 0 ≤ a) (hb : b ≤ 9999) {x : Nat} (hx : (x : Int) < A.1 51 10) (h1 : p * 16384 + a ≤ A.1 53 x) (h2 : A.1 53 x ≤ p * 16384 + b) : ∃ u, a ≤ u ∧ u ≤ b ∧ 0 ≤ V.which p u k ∧ A.1 53 x = p * 16384 + u ∧ A.1 54 x = V.lvl p u k := by
  obtain ⟨p', u', g1, g2, g3, g4, g5⟩ := hv.snd x hx
  have ep : p' = p := by omega
  subst ep
  exact ⟨u', by omega, by omega, g4, g3, g5⟩
theorem greatestC_loop (hO : OK t S) (hF : 1000 ≤ F) (hk : 0 ≤ k ∧ k ≤ 9999) (hp : 0 ≤ p ∧ p < 6) (ha : 0 ≤ a) (hb : b ≤ 9999) {st : Nat} (hst : Plc A0 (p * 16384 + a) st) : ∀ (n x : Nat) (acc : Int) (A : rz_A), SN A S k t → A.1 53 = A0.1 53 → A.1 51 10 = A0.1 51 10 → st ≤ x → (x : Int) ≤ A0.1 51 10 → A0.1 51 10 < n + x → (∀ y, st ≤ y → y < x → A.1 53 y ≤ p * 16384 + b) → -1 ≤ acc → (acc = -1 ∨ ∃ u, a ≤ u ∧ u ≤ b ∧ S.flOf p u k = acc) → (∀ (y : Nat) (u : Int), st ≤ y → y < x → A.1 53 y = p * 16384 + u → S.flOf p u k ≤ acc) → Ret (x121_greatest_24 F n acc (p * 16384 + b) x A) (S.peakV p a b k) (fun A1 => SN A1 S k t) := by
  have hnH := hO.nH
  intro n
  induction n with
  | zero => intro x acc A hS h1 h2 h3 h4 h5; omega
  | succ n ih =>
    intro x acc A hS h1 h2 h3 h4 h5 h6 h7 h8 h9
    have hv := hS.view
    have hn := hv.n
    have hn2 : A.1 51 10 ≤ S.nH := hn.2
    have stop : (∀ y : Nat, x ≤ y → (y : Int) < A.1 51 10 → p * 16384 + b < A.1 53 y) → S.peakV p a b k = acc := by
      intro hend
      refine peakV_eq (fun u g1 g2 => ?_) h8 h7
      by_cases hw : S.vw.which p u k < 0
      · have : S.flOf p u k = -1 := by unfold St.flOf; rw [if_pos hw]
        omega
      · obtain ⟨y, hy, ey⟩ := hv.cmp p u hp.1 hp.2 (by omega) (by omega) (by omega)
        by_cases c1 : y < st
        · have := hst.2.1 y c1
          rw [h1] at ey
          omega
        · by_cases c2 : y < x
          · exact h9 y u (by omega) c2 ey
          · have := hend y (by omega) hy
            omega
    unfold x121_greatest_24
    by_cases c1 : (x : Int) < A.1 51 10
    · rw [if_pos c1, gxp (by omega) (by omega), Int.toNat_natCast]
      by_cases c2 : A.1 53 x ≤ p * 16384 + b
      · rw [if_pos c2]
        have hge := hst.2.2 x h3 (by rw [← h2]; exact c1)
        rw [← h1] at hge
        obtain ⟨u, g1, g2, g3, g4, g5⟩ := view_at hv hp ha hb c1 hge c2
        have hfb := flOf_b (p := p) (u := u) (k := k) hO
        refine Ret.bind (rateC (F := F) (r := (x : Int)) hS hO hF hk ⟨by omega, c1⟩ g3 (by rw [Int.toNat_natCast]; exact g4) (by rw [Int.toNat_natCast]; exact g5)) (fun A5 e5 hA => ?_)
        have fr := wx85_rate F e5
        have q53 : A5.1 53 = A.1 53 := (fr.row (c := 53) (by decide) (by decide)).1
        have q10 : A5.1 51 10 = A.1 51 10 := (fr.slot (c := 51) (k := 10) (by decide) (by decide)).1
        rw [maxC]
        simp only [rz_b_some]
        rw [g32p (by omega), show (x : Int) + 1 = ((x + 1 : Nat) : Int) by omega]
        refine ih (x + 1) _ A5 hA.1 (q53.trans h1) (q10.trans h2) (by omega) (by omega) (by omega) (fun y gy1 gy2 => ?_) ?_ ?_ (fun y u' gy1 gy2 gy3 => ?_)
        · rw [q53]
          by_cases e : y = x
          · rw [e]; exact c2
          · exact h6 y gy1 (by omega)
        · split <;> omega
        · split
          · exact Or.inr ⟨u, g1, g2, rfl⟩
          · exact h8
        · rw [q53] at gy3
          by_cases e : y = x
          · have : u' = u := by rw [e] at gy3; omega
            rw [this]
            split <;> omega
          · have := h9 y u' gy1 (by omega) gy3
            split <;> omega
      · rw [if_neg c2, stop (fun y hy1 hy2 => by
          by_cases e : y = x
          · rw [e]; omega
          · have := hv.sort x y (by omega) hy2; omega)]
        exact Ret.mk hS
    · rw [if_neg c1, stop (fun y hy1 hy2 => by omega)]
      exact Ret.mk hS
theorem greatestC (h : SN A S k t) (hO : OK t S) (hF : 1000 ≤ F) (hk : 0 ≤ k ∧ k ≤ 9999) (hp : 0 ≤ p ∧ p < 6) (ha : 0 ≤ a ∧ a ≤ 9999) (hb : 0 ≤ b ∧ b ≤ 9999) : Ret (x121_greatest F p a b A) (S.peakV p a b k) (fun A1 => SN A1 S k t) := by
  have hnH := hO.nH
  have hn := h.view.n
  have hn2 : A.1 51 10 ≤ S.nH := hn.2
  unfold x121_greatest
  rw [keyC hp (by omega)]
  simp only [rz_b_some]
  rw [keyC hp (by omega)]
  simp only [rz_b_some]
  obtain ⟨st, e1, e2⟩ := firstC (F := F) (v := p * 16384 + a) h.view hnH hF
  rw [e1]
  simp only [rz_b_some]
  have hle := e2.1
  exact greatestC_loop (F := F) hO hF hk hp ha.1 hb.2 e2 F st (-1) A h rfl rfl (Nat.le_refl _) hle (by omega) (fun y g1 g2 => by omega) (by omega) (Or.inl rfl) (fun y u g1 g2 => by omega)
def St.peak (S : St) (p a b k : Int) : Int × St := if S.isP p then (if a < 0 then S.no 3 else if b < a then S.no 3 else if k < 0 then S.no 3 else if 9999 < b then S.no 5 else if 9999 < k then S.no 5 else if S.peakV p a b k < 0 then S.no 4 else (S.peakV p a b k, S)) else S.no 0
theorem peakC (h : DC A S t) (hO : OK t S) (ht : t < 512) (hF : 1000 ≤ F) : Ret (x120_peak F p a b k A) (S.peak p a b k).1 (fun A1 => DC A1 (S.peak p a b k).2 (t + 1)) := by
  have h2 := hO.nP
  unfold x120_peak St.peak
  by_cases hp : S.isP p
  · rw [hasC1 h.1 hp, if_pos hp]
    simp only [rz_b_some]
    rw [if_neg (by decide)]
    by_cases c1 : a < 0
    · rw [if_neg (by omega), if_pos c1]
      exact lk1 h.up hO ht (by decide) (by decide)
    · rw [if_pos (by omega), if_neg c1]
      by_cases c2 : b < a
      · rw [if_neg (by omega), if_pos c2]
        exact lk1 h.up hO ht (by decide) (by decide)
      · rw [if_pos (by omega), if_neg c2]
        by_cases c3 : k < 0
        · rw [if_pos c3, if_pos c3]
          exact lk1 h.up hO ht (by decide) (by decide)
        · rw [if_neg c3, if_neg c3]
          by_cases c4 : 9999 < b
          · rw [if_neg (by omega), if_pos c4]
            exact lk1 h.up hO ht (by decide) (by decide)
          · rw [if_pos (by omega), if_neg c4]
            by_cases c5 : 9999 < k
            · rw [if_pos c5, if_pos c5]
              exact lk1 h.up hO ht (by decide) (by decide)
            · rw [if_neg c5, if_neg c5]
              refine Ret.bind (seeSN h hO ht hF (by omega)) (fun A1 e1 hS => ?_)
              refine Ret.bind (greatestC hS hO.mono hF (by omega) (by omega) (by omega) (by omega)) (fun A2 e2 hS2 => ?_)
              by_cases c6 : S.peakV p a b k < 0
              · rw [if_pos c6, if_pos c6]
                exact lk1 hS2.dc hO ht (by decide) (by decide)
              · rw [if_neg c6, if_neg c6]
                exact Ret.mk hS2.dc
  · rw [hasC0 h.1 hp, if_neg hp]
    simp only [rz_b_some]
    rw [if_pos (by decide)]
    exact lk1 h.up hO ht (by decide) (by decide)
theorem peakM_loop (hO : OK t S) (hF : 1000 ≤ F) (hp : S.isP p) {R : Int} {Q : rz_A → Prop} (fin : ∀ A, DM A S t → Ret (x205_peak_150 F (S.peakV p a b k) A) R Q) : ∀ (n i : Nat) (acc : Int) (A : rz_A), DM A S t → i ≤ S.nH → S.nH < n + i → -1 ≤ acc → (acc = -1 ∨ ∃ u, a ≤ u ∧ u ≤ b ∧ S.flOf p u k = acc) → (∀ g, g < i → S.hP g = p → a ≤ S.hT g → S.hT g ≤ b → S.flOf p (S.hT g) k ≤ acc) → Ret (x205_peak_70 F n p a b k acc i A) R Q := by
  have hnH := hO.nH
  intro n
  induction n with
  | zero => intro i acc A h h1 h2; omega
  | succ n ih =>
    intro i acc A h h1 h2 h3 h4 h5
    unfold x205_peak_70
    rw [h.1.nH]
    by_cases hi : i < S.nH
    · have g32 : r32 ((i : Int) + 1) := by omega
      have hcast : (i : Int) + 1 = ((i + 1 : Nat) : Int) := by omega
      simp only [g32p g32]
      simp only [hcast]
      rw [if_pos (by omega), gxp (by omega) (by omega), Int.toNat_natCast, h.1.hP, h.1.hT]
      have skip : ¬ (S.hP i = p ∧ a ≤ S.hT i ∧ S.hT i ≤ b) → Ret (x205_peak_70 F n p a b k acc ((i + 1 : Nat) : Int) A) R Q := by
        intro hn
        refine ih (i + 1) acc A h (by omega) (by omega) h3 h4 (fun g hg e1 e2 e3 => ?_)
        by_cases e : g = i
        · rw [e] at e1 e2 e3
          exact absurd ⟨e1, e2, e3⟩ hn
        · exact h5 g (by omega) e1 e2 e3
      by_cases c1 : S.hP i = p
      · rw [if_pos c1]
        by_cases c2 : a ≤ S.hT i
        · rw [if_pos c2]
          by_cases c3 : S.hT i ≤ b
          · rw [if_pos c3]
            have hfb := flOf_b (p := p) (u := S.hT i) (k := k) hO
            refine Ret.bind (flowsM (u := S.hT i) (k := k) h.1 h.2 hO hF hp) (fun A7 e7 hA => ?_)
            have hd : DM A7 S t := ⟨hA.1, hA.2.1⟩
            by_cases c4 : S.flOf p (S.hT i) k < 0
            · rw [if_pos c4, if_pos rfl]
              refine ih (i + 1) acc A7 hd (by omega) (by omega) h3 h4 (fun g hg e1 e2 e3 => ?_)
              by_cases e : g = i
              · rw [e]; omega
              · exact h5 g (by omega) e1 e2 e3
            · rw [if_neg c4, if_neg (by decide), (hA.2.2 (by omega)).1]
              by_cases c5 : acc < S.flOf p (S.hT i) k
              · rw [if_pos c5]
                refine ih (i + 1) _ A7 hd (by omega) (by omega) (by omega) (Or.inr ⟨_, c2, c3, rfl⟩) (fun g hg e1 e2 e3 => ?_)
                by_cases e : g = i
                · rw [e]; omega
                · have := h5 g (by omega) e1 e2 e3; omega
              · rw [if_neg c5]
                refine ih (i + 1) acc A7 hd (by omega) (by omega) h3 h4 (fun g hg e1 e2 e3 => ?_)
                by_cases e : g = i
                · rw [e]; omega
                · exact h5 g (by omega) e1 e2 e3
          · rw [if_neg c3]
            exact skip (fun hh => c3 hh.2.2)
        · rw [if_neg c2]
          exact skip (fun hh => c2 hh.2.1)
      · rw [if_neg c1]
        exact skip (fun hh => c1 hh.1)
    · rw [if_neg (by omega)]
      have e : S.peakV p a b k = acc := by
        refine peakV_eq (fun u g1 g2 => ?_) h4 h3
        by_cases hw : S.vw.which p u k < 0
        · have : S.flOf p u k = -1 := by unfold St.flOf; rw [if_pos hw]
          omega
        · have hwb : S.vw.which p u k < S.nH := (S.vw.wAcc_b p u k S.nH).1
          have hpu := wAcc_p S.vw p u k S.nH (by show 0 ≤ S.vw.which p u k; omega)
          have e1 : S.hP (S.vw.which p u k).toNat = p := hpu.1
          have e2 : S.hT (S.vw.which p u k).toNat = u := hpu.2
          have := h5 (S.vw.which p u k).toNat (by omega) e1 (by omega) (by omega)
          rw [e2] at this
          exact this
      rw [← e]
      exact fin A h
theorem peakM (h : DM A S t) (hO : OK t S) (ht : t < 512) (hF : 1000 ≤ F) : Ret (x205_peak F p a b k A) (S.peak p a b k).1 (fun A1 => DM A1 (S.peak p a b k).2 (t + 1)) := by
  have h2 := hO.nP
  have hnH := hO.nH
  unfold x205_peak St.peak
  by_cases hp : S.isP p
  · rw [hasM1 h.1 hp, if_pos hp]
    simp only [rz_b_some]
    rw [if_neg (by decide)]
    by_cases c1 : a < 0
    · rw [if_neg (by omega), if_pos c1]
      exact lm1 h.up hO ht (by decide) (by decide)
    · rw [if_pos (by omega), if_neg c1]
      by_cases c3 : k < 0
      · rw [if_neg (by omega)]
        by_cases c2 : b < a
        · rw [if_pos c2]
          exact lm1 h.up hO ht (by decide) (by decide)
        · rw [if_neg c2, if_pos c3]
          exact lm1 h.up hO ht (by decide) (by decide)
      · rw [if_pos (by omega)]
        by_cases c2 : b < a
        · rw [if_pos c2, if_pos c2]
          exact lm1 h.up hO ht (by decide) (by decide)
        · rw [if_neg c2, if_neg c2, if_neg c3]
          by_cases c4 : 9999 < b
          · rw [if_pos c4]
            by_cases c6 : a ≤ 9999
            · rw [if_pos c6, if_neg (by omega)]
              exact lm1 h.up hO ht (by decide) (by decide)
            · rw [if_neg c6]
              exact lm1 h.up hO ht (by decide) (by decide)
          · rw [if_pos (by omega), if_pos (by omega), if_neg c4]
            by_cases c5 : 9999 < k
            · rw [if_pos c5, if_pos c5]
              exact lm1 h.up hO ht (by decide) (by decide)
            · rw [if_neg c5, if_neg c5]
              refine peakM_loop (F := F) hO hF hp (fun A1 hd => ?_) F 0 (-1) A h (by omega) (by omega) (by omega) (Or.inl rfl) (fun g hg => absurd hg (Nat.not_lt_zero g))
              unfold x205_peak_150
              by_cases c6 : S.peakV p a b k < 0
              · rw [if_pos c6, if_pos c6]
                exact lm1 hd.up hO ht (by decide) (by decide)
              · rw [if_neg c6, if_neg c6]
                exact Ret.mk hd.up
  · rw [hasM0 h.1 hp, if_neg hp]
    simp only [rz_b_some]
    rw [if_pos (by decide)]
    exact lm1 h.up hO ht (by decide) (by decide)
/-! often -/
abbrev St.yr (S : St) (p n : Int) (y : Nat) : Prop := n ≤ S.peakV p (1000 * y) (1000 * y + 999) S.now
def St.oftenV (S : St) (p n : Int) : Nat := cntN (fun y => decide (S.yr p n y)) 10
def St.often (S : St) (p n : Int) : Int × St := if S.isP p then (if n < 0 then S.no 3 else if 99999999 < n then S.no 5 else (S.oftenV p n, S)) else S.no 0
theorem oftenC_loop (hO : OK t S) (hF : 1000 ≤ F) (hp : 0 ≤ p ∧ p < 6) : ∀ (n y : Nat) (A : rz_A), SN A S S.now t → y ≤ 10 → 10 < n + y → Ret (x122_often_58 F n p a (cntN (fun y => decide (S.yr p a y)) y) (1000 * y : Nat) A) (S.oftenV p a : Int) (fun A1 => SN A1 S S.now t) := by
  intro n
  induction n with
  | zero => intro y A h h1 h2; omega
  | succ n ih =>
    intro y A h h1 h2
    have hle := cntN_le (fun y => decide (S.yr p a y)) y
    unfold x122_often_58
    by_cases hy : y < 10
    · have e1 : ((1000 * y : Nat) : Int) + 1000 - 1 = 1000 * (y : Int) + 999 := by omega
      have e2 : ((1000 * y : Nat) : Int) = 1000 * (y : Int) := by omega
      rw [if_pos (by omega), g32p (by omega), g32p (by omega), e1]
      rw [e2]
      refine Ret.bind (greatestC (p := p) (a := 1000 * (y : Int)) (b := 1000 * (y : Int) + 999) h hO hF hO.now hp (by omega) (by omega)) (fun A4 e4 hS => ?_)
      have ih' := ih (y + 1) A4 hS (by omega) (by omega)
      rw [show cntN (fun y => decide (S.yr p a y)) (y + 1) = cntN (fun y => decide (S.yr p a y)) y + if decide (S.yr p a y) then 1 else 0 from rfl] at ih'
      rw [show 1000 * (y : Int) + 1000 = ((1000 * (y + 1) : Nat) : Int) by omega]
      by_cases c : S.yr p a y
      · rw [if_pos (decide_eq_true c)] at ih'
        rw [if_pos c, g32p (by omega), show ((cntN (fun y => decide (S.yr p a y)) y : Nat) : Int) + 1 = ((cntN (fun y => decide (S.yr p a y)) y + 1 : Nat) : Int) by omega]
        exact ih'
      · rw [if_neg (by simp [c])] at ih'
        rw [if_neg c]
        exact ih'
    · have e : y = 10 := by omega
      subst e
      rw [if_neg (by omega)]
      exact Ret.mk h
theorem oftenC (h : DC A S t) (hO : OK t S) (ht : t < 512) (hF : 1000 ≤ F) : Ret (x122_often F p a A) (S.often p a).1 (fun A1 => DC A1 (S.often p a).2 (t + 1)) := by
  have h2 := hO.nP
  unfold x122_often St.often
  by_cases hp : S.isP p
  · rw [hasC1 h.1 hp, if_pos hp]
    simp only [rz_b_some]
    rw [if_neg (by decide), h.1.now]
    by_cases c1 : a < 0
    · rw [if_pos c1, if_pos c1]
      exact lk1 h.up hO ht (by decide) (by decide)
    · rw [if_neg c1, if_neg c1]
      by_cases c2 : 99999999 < a
      · rw [if_pos c2, if_pos c2]
        exact lk1 h.up hO ht (by decide) (by decide)
      · rw [if_neg c2, if_neg c2]
        refine Ret.bind (seeSN h hO ht hF hO.now) (fun A1 e1 hS => ?_)
        exact Ret.of (oftenC_loop (a := a) hO.mono hF (by omega) F 0 A1 hS (by omega) (by omega)) (fun A2 hA => hA.dc)
  · rw [hasC0 h.1 hp, if_neg hp]
    simp only [rz_b_some]
    rw [if_pos (by decide)]
    exact lk1 h.up hO ht (by decide) (by decide)
/-- a flow that is great enough in a year -/
def St.yb (S : St) (p n : Int) : Nat → Nat → Bool
  | 0, _ => false
  | i + 1, y => S.yb p n i y || decide (S.hP i = p ∧ S.hT i / 1000 = (y : Int) ∧ n ≤ S.flOf p (S.hT i) S.now)
theorem yb_s (S : St) (p n : Int) (i y : Nat) : S.yb p n (i + 1) y = (S.yb p n i y || decide (S.hP i = p ∧ S.hT i / 1000 = (y : Int) ∧ n ≤ S.flOf p (S.hT i) S.now)) := rfl
theorem yb_ex (S : St) (p n : Int) (y : Nat) : ∀ i, S.yb p n i y = true ↔ ∃ g, g < i ∧ S.hP g = p ∧ S.hT g / 1000 = (y : Int) ∧ n ≤ S.flOf p (S.hT g) S.now
  | 0 => ⟨fun h => (by cases h), fun ⟨g, hg, _⟩ => absurd hg (Nat.not_lt_zero g)⟩
  | i + 1 => by
    rw [yb_s, Bool.or_eq_true, yb_ex S p n y i, decide_eq_true_eq]
    constructor
    · rintro (⟨g, hg, h⟩ | h)
      · exact ⟨g, by omega, h⟩
      · exact ⟨i, by omega, h⟩
    · rintro ⟨g, hg, h⟩
      by_cases e : g = i
      · rw [e] at h; exact Or.inr h
      · exact Or.inl ⟨g, by omega, h⟩
theorem yb_yr (hO : OK t S) (ha : 0 ≤ a) (y : Nat) (hy : y < 10) : S.yb p a S.nH y = decide (S.yr p a y) := by
  rw [Bool.eq_iff_iff, yb_ex, decide_eq_true_eq]
  have hch := mxF_ch (fun i => S.flOf p (1000 * (y : Int) + i) S.now) (1000 * (y : Int) + 999 - 1000 * (y : Int) + 1).toNat
  have hpk : S.peakV p (1000 * y) (1000 * y + 999) S.now = mxF (fun i => S.flOf p (1000 * (y : Int) + i) S.now) (1000 * (y : Int) + 999 - 1000 * (y : Int) + 1).toNat := rfl
  constructor
  · rintro ⟨g, hg, e1, e2, e3⟩
    have hb := hO.h g hg
    have := hch.1 (S.hT g - 1000 * (y : Int)).toNat (by omega)
    have this2 : S.flOf p (1000 * (y : Int) + ((S.hT g - 1000 * (y : Int)).toNat : Nat)) S.now ≤ mxF (fun i => S.flOf p (1000 * (y : Int) + i) S.now) (1000 * (y : Int) + 999 - 1000 * (y : Int) + 1).toNat := this
    rw [show 1000 * (y : Int) + (((S.hT g - 1000 * (y : Int)).toNat : Nat) : Int) = S.hT g by omega] at this2
    show a ≤ S.peakV p (1000 * y) (1000 * y + 999) S.now
    omega
  · intro hyr
    have hyr2 : a ≤ S.peakV p (1000 * y) (1000 * y + 999) S.now := hyr
    rcases hch.2.1 with h9 | ⟨i, hi, h9⟩
    · omega
    · have h10 : S.flOf p (1000 * (y : Int) + i) S.now = mxF (fun i => S.flOf p (1000 * (y : Int) + i) S.now) (1000 * (y : Int) + 999 - 1000 * (y : Int) + 1).toNat := h9
      have hn := flOf_n (p := p) (u := 1000 * (y : Int) + i) (k := S.now) (S := S) (by omega)
      have hwb : S.vw.which p (1000 * (y : Int) + i) S.now < S.nH := (S.vw.wAcc_b p (1000 * (y : Int) + i) S.now S.nH).1
      have hpu := wAcc_p S.vw p (1000 * (y : Int) + i) S.now S.nH hn.1
      have e1 : S.hP (S.vw.which p (1000 * (y : Int) + i) S.now).toNat = p := hpu.1
      have e2 : S.hT (S.vw.which p (1000 * (y : Int) + i) S.now).toNat = 1000 * (y : Int) + i := hpu.2
      refine ⟨(S.vw.which p (1000 * (y : Int) + i) S.now).toNat, by omega, e1, by omega, ?_⟩
      rw [e2]
      omega
theorem oftenM_sum (hO : OK t S) {ys : Int} {P : Nat → Bool} (hb : ∀ y, y < 10 → bitE ys y = if P y = true then 1 else 0) : ∀ (n y : Nat), y ≤ 10 → 10 < n + y → x206_often_137 F n ys (cntN P y) y A = some ((cntN P 10 : Int), A) := by
  intro n
  induction n with
  | zero => intro y h1 h2; omega
  | succ n ih =>
    intro y h1 h2
    have hle := cntN_le P y
    unfold x206_often_137
    by_cases hy : y < 10
    · have e := hb y hy
      unfold bitE at e
      rw [if_pos (by omega), e]
      have ih' := ih (y + 1) (by omega) (by omega)
      rw [show cntN P (y + 1) = cntN P y + if P y then 1 else 0 from rfl] at ih'
      rw [g32p (by split <;> omega), g32p (by omega), show (y : Int) + 1 = ((y + 1 : Nat) : Int) by omega]
      by_cases c : P y = true
      · rw [if_pos c] at ih' ⊢
        exact ih'
      · rw [if_neg c] at ih' ⊢
        exact ih'
    · have e : y = 10 := by omega
      subst e
      rw [if_neg (by omega)]
theorem oftenM_loop (hO : OK t S) (hF : 1000 ≤ F) (hp : S.isP p) (ha : 0 ≤ a) : ∀ (n i : Nat) (ys : Int) (A : rz_A), DM A S t → i ≤ S.nH → S.nH < n + i → (∀ y, y < 10 → bitE ys y = if S.yb p a i y = true then 1 else 0) → Ret (x206_often_44 F n p a ys i A) (S.oftenV p a : Int) (fun A1 => DM A1 S t) := by
  have hnH := hO.nH
  intro n
  induction n with
  | zero => intro i ys A h h1 h2; omega
  | succ n ih =>
    intro i ys A h h1 h2 hb
    unfold x206_often_44
    rw [h.1.nH]
    by_cases hi : i < S.nH
    · have g32 : r32 ((i : Int) + 1) := by omega
      have hcast : (i : Int) + 1 = ((i + 1 : Nat) : Int) := by omega
      have hh := hO.h i hi
      have e1 : (S.hT i).tdiv 1000 = S.hT i / 1000 := Int.tdiv_eq_ediv_of_nonneg (by omega)
      have e2 : S.hT i / 1000 = (((S.hT i / 1000).toNat : Nat) : Int) := by omega
      simp only [g32p g32]
      simp only [hcast]
      rw [if_pos (by omega), gxp (by omega) (by omega), Int.toNat_natCast, h.1.hP, h.1.hT, h.1.now, e1]
      have skip : ∀ B, DM B S t → ((∃ y : Nat, y < 10 ∧ S.hT i / 1000 = (y : Int) ∧ S.yb p a i y = true) ∨ ¬ (S.hP i = p ∧ a ≤ S.flOf p (S.hT i) S.now)) → Ret (x206_often_44 F n p a ys ((i + 1 : Nat) : Int) B) (S.oftenV p a : Int) (fun A1 => DM A1 S t) := by
        intro B hB hn
        refine ih (i + 1) ys B hB (by omega) (by omega) (fun y hy => ?_)
        rw [hb y hy]
        have : S.yb p a (i + 1) y = S.yb p a i y := by
          rw [yb_s]
          rcases hn with ⟨z, hz, ez, hz2⟩ | hn
          · by_cases e : y = z
            · rw [e, hz2]; rfl
            · rw [decide_eq_false (fun hh => e (by omega)), Bool.or_false]
          · rw [decide_eq_false (fun hh => hn ⟨hh.1, hh.2.2⟩), Bool.or_false]
        rw [this]
      by_cases c1 : S.hP i = p
      · rw [if_pos c1, g32p (by omega)]
        have hbit := hb (S.hT i / 1000).toNat (by omega)
        unfold bitE at hbit
        rw [← e2] at hbit
        rw [hbit]
        by_cases c2 : S.yb p a i (S.hT i / 1000).toNat = true
        · rw [if_pos c2, if_neg (by decide)]
          exact skip A h (Or.inl ⟨(S.hT i / 1000).toNat, by omega, e2, c2⟩)
        · rw [if_neg c2, if_pos rfl]
          refine Ret.bind (flowsM (u := S.hT i) (k := S.now) h.1 h.2 hO hF hp) (fun A7 e7 hA => ?_)
          have hd : DM A7 S t := ⟨hA.1, hA.2.1⟩
          by_cases c4 : S.flOf p (S.hT i) S.now < 0
          · rw [if_pos c4, if_pos rfl]
            exact skip A7 hd (Or.inr (fun hh => by omega))
          · rw [if_neg c4, if_neg (by decide), (hA.2.2 (by omega)).1, hd.1.hT, e1]
            by_cases c5 : a ≤ S.flOf p (S.hT i) S.now
            · rw [if_pos c5, g32p (by omega)]
              refine ih (i + 1) _ A7 hd (by omega) (by omega) (fun y hy => ?_)
              have hor := bitE_or ys (y := y) (z := (S.hT i / 1000).toNat) (by omega) (by omega)
              rw [← e2] at hor
              rw [hor]
              rw [yb_s]
              by_cases e : y = (S.hT i / 1000).toNat
              · rw [if_pos e, decide_eq_true ⟨c1, by omega, c5⟩, Bool.or_true, if_pos rfl]
              · rw [if_neg e, decide_eq_false (fun hh => e (by omega)), Bool.or_false]
                exact hb y hy
            · rw [if_neg c5]
              exact skip A7 hd (Or.inr (fun hh => c5 hh.2))
      · rw [if_neg c1]
        exact skip A h (Or.inr (fun hh => c1 hh.1))
    · have e : i = S.nH := by omega
      subst e
      rw [if_neg (by omega)]
      have hP : ∀ y, y < 10 → bitE ys y = if (fun y => decide (S.yr p a y)) y = true then 1 else 0 := fun y hy => by
        rw [hb y hy, yb_yr hO ha y hy]
      have := oftenM_sum (F := F) (A := A) hO hP F 0 (by omega) (by omega)
      exact ⟨A, this, h⟩
theorem oftenM (h : DM A S t) (hO : OK t S) (ht : t < 512) (hF : 1000 ≤ F) : Ret (x206_often F p a A) (S.often p a).1 (fun A1 => DM A1 (S.often p a).2 (t + 1)) := by
  have hnH := hO.nH
  unfold x206_often St.often
  by_cases hp : S.isP p
  · rw [hasM1 h.1 hp, if_pos hp]
    simp only [rz_b_some]
    rw [if_neg (by decide)]
    by_cases c1 : a < 0
    · rw [if_pos c1, if_pos c1]
      exact lm1 h.up hO ht (by decide) (by decide)
    · rw [if_neg c1, if_neg c1]
      by_cases c2 : 99999999 < a
      · rw [if_pos c2, if_pos c2]
        exact lm1 h.up hO ht (by decide) (by decide)
      · rw [if_neg c2, if_neg c2]
        exact Ret.of (oftenM_loop (F := F) hO hF hp (by omega) F 0 0 A h (by omega) (by omega) (fun y hy => by rw [bitE_0 (by omega)]; rfl)) (fun A2 hA => hA.up)
  · rw [hasM0 h.1 hp, if_neg hp]
    simp only [rz_b_some]
    rw [if_pos (by decide)]
    exact lm1 h.up hO ht (by decide) (by decide)
end PEAK
