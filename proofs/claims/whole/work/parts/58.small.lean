set_option maxRecDepth 8000
section SMALL
variable {t t' F : Nat} {A A0 A' A1 : rz_A} {S S' : St} {p u k a b v w s set r : Int} {cs : List Nat} {fs : List (Nat × Nat)} {i j q m : Nat}
theorem CI.forget (h : CI A S t) (e5 : A1.1 51 5 = 0) (e4 : A1.1 51 4 = A.1 51 4) (e12 : A1.1 56 12 = A.1 56 12) : CI A1 S' (t + 1) := by
  have h1 := h.rd
  have h2 := h.dr
  exact CI.of ⟨Or.inl e5, fun hh => by omega, by omega, by omega, fun hh => by omega⟩
theorem MI.bump (h : MI A S t) (e : A1.1 91 11 = A.1 91 11 + 1) (e66 : A1.1 91 66 = A.1 91 66) : MI A1 S' (t + 1) := by
  have h1 := h.sm
  have h2 := h.st
  exact MI.of ⟨by omega, by omega, fun _ hh => by omega⟩
/-! judge -/
noncomputable def St.jcF (S : St) (p set : Int) (m : Nat) (N : Int) : Nat → Nat → Int
  | 0, _ => -9
  | n + 1, run => if (run : Int) < bcs set 8 + 1 then (if N ≤ (run : Int) + 1 then (run : Int) + 1 else if S.rw' p set m run (S.rB (run + 1)) = true then S.jcF p set m N n (run + 1) else (run : Int) + 1) else (if bcs set 8 + 1 + 1 < N then bcs set 8 + 1 + 1 else -9)
noncomputable def St.jv (S : St) (p : Int) : Int := if S.nR = 0 then 0 else if S.rB 0 < 0 then 0 else if ((2 ^ (S.pkm p - 1) : Nat) : Int) ≤ S.rB 0 then 0 else S.jcF p (S.rB 0) (S.pkm p) S.nR 10 0
def St.judge1 (S : St) : St := ((fun c => if c = 10 then 0 else S.1 c), S.2)
noncomputable def St.judge (S : St) (p : Int) : Int × St := if S.isP p then (if S.nob p then S.no 4 else (S.jv p, S.judge1)) else S.no 0
theorem set_ok (hO : OK t S) (hR : S.nR ≠ 0) (h0 : ¬ S.rB 0 < 0) : S.rB 0 = ((S.rB 0).toNat : Nat) ∧ (S.rB 0).toNat < 128 := by
  have := hO.rB 0 (by omega)
  omega
theorem wrongC_loop (h : SN A S k t) (hO : OK t S) (hF : 1000 ≤ F) (hm : S.pkm p ≤ 8) (h6 : A.1 64 6 = S.pkm p) (hB : ∀ i, i < S.pkm p → BtC A S p i) (hs : 0 ≤ bcs set 8 ∧ bcs set 8 ≤ 7) : ∀ (n z run : Nat), run + z = 10 → (run : Int) ≤ bcs set 8 + 1 → z < n → x111_firstWrong_43 F n set (bcs set 8 + 1) run A = some (S.jcF p set (S.pkm p) S.nR z run, A) := by
  have hnR := hO.nR
  intro n
  induction n with
  | zero => intro z run h1 h2 h3; omega
  | succ n ih =>
    intro z run h1 h2 h3
    cases z with
    | zero => omega
    | succ z =>
      unfold x111_firstWrong_43
      unfold St.jcF
      by_cases c1 : (run : Int) < bcs set 8 + 1
      · rw [if_pos c1, if_pos c1, g32p (by omega), h.rc.nR]
        by_cases c2 : (S.nR : Int) ≤ (run : Int) + 1
        · rw [if_neg (by omega), if_pos c2]
        · have e1 : ((run : Int) + 1).toNat = run + 1 := by omega
          rw [if_pos (by omega), if_neg c2, gxp (by omega) (by omega), e1, h.rc.rB, runC h6.symm hm hF hB]
          simp only [rz_b_some]
          by_cases c3 : S.rw' p set (S.pkm p) run (S.rB (run + 1)) = true
          · rw [if_pos c3, if_neg (by decide), if_pos c3, show (run : Int) + 1 = ((run + 1 : Nat) : Int) by omega]
            exact ih z (run + 1) (by omega) (by omega) (by omega)
          · rw [if_neg c3, if_pos rfl, if_neg c3]
      · rw [if_neg c1, if_neg c1]
        unfold x111_firstWrong_85
        rw [g32p (by omega), h.rc.nR]
        by_cases c4 : bcs set 8 + 1 + 1 < (S.nR : Int)
        · rw [if_pos c4, if_pos c4]
        · rw [if_neg c4, if_neg c4]
theorem wrongC (h : SN A S k t) (hO : OK t S) (hF : 1000 ≤ F) (hm : 0 < S.pkm p ∧ S.pkm p ≤ 8) (h6 : A.1 64 6 = S.pkm p) (hB : ∀ i, i < S.pkm p → BtC A S p i) : x111_firstWrong F A = some (S.jv p, A) := by
  have hsh := shl_ok (S.pkm p - 1) (by omega)
  rw [show ((S.pkm p - 1 : Nat) : Int) = (S.pkm p : Int) - 1 by omega] at hsh
  unfold x111_firstWrong St.jv
  rw [h.rc.nR, h.rc.rB]
  by_cases c1 : S.nR = 0
  · rw [if_pos (by omega), if_pos c1]
  · rw [if_neg (by omega), if_neg c1]
    by_cases c2 : S.rB 0 < 0
    · rw [if_neg (by omega), if_pos c2]
    · rw [if_pos (by omega), if_neg c2, h6, g32p (by omega), hsh]
      by_cases c3 : ((2 ^ (S.pkm p - 1) : Nat) : Int) ≤ S.rB 0
      · rw [if_pos c3, if_pos c3]
      · obtain ⟨e1, e2⟩ := set_ok hO c1 c2
        have hb := bcs_ok (S.rB 0).toNat e2
        rw [← e1] at hb
        unfold x103_bitCount
        rw [if_neg c3, if_neg c3, hb.1]
        simp only [rz_b_some]
        rw [g32p (by omega)]
        exact wrongC_loop (F := F) h hO hF hm.2 h6 hB hb.2 F 10 0 (by omega) (by omega) (by omega)
theorem judgeC (h : DC A S t) (hO : OK t S) (ht : t < 512) (hF : 1000 ≤ F) : Ret (x110_judge F p A) (S.judge p).1 (fun A1 => DC A1 (S.judge p).2 (t + 1)) := by
  unfold x110_judge St.judge
  by_cases hp : S.isP p
  · rw [hasC1 h.1 hp, if_pos hp]
    simp only [rz_b_some]
    rw [if_neg (by decide), h.1.now]
    refine Ret.bind (seeSN h hO ht hF hO.now) (fun A1 e1 hS => ?_)
    refine Ret.bind (gathC hS hO.mono hF hp) (fun A2 e2 hA => ?_)
    obtain ⟨k1, k2, k3, k4⟩ := hA
    by_cases c : S.nob p
    · rw [if_pos c, if_pos rfl, if_pos c]
      exact lk1 k1.dc hO ht (by decide) (by decide)
    · have hle := k2.le
      have hm : 0 < S.pkm p ∧ S.pkm p ≤ 8 := ⟨by by_cases e : S.pkm p = 0; exact absurd (Or.inr e) c; omega, hle⟩
      rw [if_neg c, if_neg (by decide), if_neg c, wrongC k1 hO.mono hF hm k3 (k4 c)]
      simp only [rz_b_some]
      have hC9 := k1.rc
      have fr : Fr [] [(64, 4)] A2 (aI A2 64 4 0) := Fr.aI Fr.rfl (Or.inr (by decide))
      have hci := k1.ci.fr fr (by decide)
      exact Ret.mk ⟨(RC.of ⟨(RC.now hC9 :), (RC.limit hC9 :), (RC.nP hC9 :), (RC.nZ hC9 :), (RC.nH hC9 :), (RC.nF hC9 :), (RC.nU hC9 :), (RC.nS hC9 :), (RC.nB hC9 :), (RC.nT hC9 :), (rfl), (RC.zero hC9 :), (RC.low hC9 :), (RC.beside hC9 :), (RC.stN hC9 :), (RC.stF0 hC9 :), (RC.stF1 hC9 :), (RC.stF2 hC9 :), (RC.stF3 hC9 :), (RC.stF4 hC9 :), (RC.stF5 hC9 :), (RC.bN0 hC9 :), (RC.bN1 hC9 :), (RC.bN2 hC9 :), (RC.bN3 hC9 :), (RC.bN4 hC9 :), (RC.bN5 hC9 :), (RC.bH0 hC9 :), (RC.bH1 hC9 :), (RC.bH2 hC9 :), (RC.bH3 hC9 :), (RC.bH4 hC9 :), (RC.bH5 hC9 :), (RC.bF0 hC9 :), (RC.bF1 hC9 :), (RC.bF2 hC9 :), (RC.bF3 hC9 :), (RC.bF4 hC9 :), (RC.bF5 hC9 :), (RC.zP hC9 :), (RC.zZ hC9 :), (RC.zF hC9 :), (RC.zK hC9 :), (RC.hP hC9 :), (RC.hT hC9 :), (RC.hK hC9 :), (RC.hR hC9 :), (RC.hKn hC9 :), (RC.hS hC9 :), (RC.hSm hC9 :), (RC.fP hC9 :), (RC.fT hC9 :), (RC.fN hC9 :), (RC.fW hC9 :), (RC.fKn hC9 :), (RC.fS hC9 :), (RC.uP hC9 :), (RC.uK hC9 :), (RC.uF hC9 :), (RC.uT hC9 :), (RC.uM hC9 :), (RC.uKn hC9 :), (RC.sP hC9 :), (RC.sD hC9 :), (RC.sT hC9 :), (RC.sN hC9 :), (RC.st hC9 :), (RC.pP hC9 :), (RC.pT hC9 :), (RC.pF hC9 :), (RC.tB hC9 :), (RC.rB hC9 :), (RC.ref hC9 :), (RC.ordR hC9 :), (RC.ordS hC9 :), (RC.ordA hC9 :)⟩), hci⟩
  · rw [hasC0 h.1 hp, if_neg hp]
    simp only [rz_b_some]
    rw [if_pos (by decide)]
    exact lk1 h.up hO ht (by decide) (by decide)
theorem judge92M (hO : OK t S) (hF : 1000 ≤ F) (hp : S.isP p) (hn : ¬ S.nob p) (hP : S.pkOK p) (hs : 0 ≤ bcs set 8 ∧ bcs set 8 ≤ 7) (hs2 : bcs set 8 = bcs set (S.pkm p - 1)) (hr0 : S.rB 0 = set) {N : Int} (hN : 1 ≤ N ∧ N ≤ 12) : ∀ (n z a b run : Nat) (A : rz_A), DM A S t' → PkM A S p (S.pkm p) (S.pkg p) → b + z = S.pkm p → 0 < z → z + 1 < n → a ≤ b → Run set (S.pkm p) a b → bcs set b = run → (run : Int) + 1 ≤ N → Ret (x201_judge_92 F n p N a ((run : Int) + 1) b A) (S.jcF p set (S.pkm p) N (10 - run) run) (fun A1 => DM A1 S t') := by
  have h2 := hO.nP
  have hle := hP.le
  have ep : ((p.toNat : Nat) : Int) = p := by omega
  intro n
  induction n with
  | zero => intro z a b run A _ _ h1 h3 h4; omega
  | succ n ih =>
    intro z a b run A h hA h1 h3 h4 h5 hR hrun hrN
    have hb8 := bcs_le set (y := 8) b (by omega) (by omega)
    have ebit : rz_oI fAnd (rz_oI fShr set (b : Int)) 1 = bitE set b := rfl
    unfold x201_judge_92
    rw [hA.1, if_pos (by omega), g32p (by omega), h.1.rB, hr0, ebit]
    have last : ¬ (b + 1 < S.pkm p ∧ bitE set b = 0) → Ret (x201_judge_129 F (x201_judge_92 F n) p N a ((run : Int) + 1) b A) (S.jcF p set (S.pkm p) N (10 - run) run) (fun A1 => DM A1 S t') := by
      intro hc
      unfold x201_judge_129
      rw [show 10 - run = (10 - (run + 1)) + 1 by omega]
      unfold St.jcF
      rw [if_pos (by omega : (run : Int) < bcs set 8 + 1)]
      by_cases c1 : N ≤ (run : Int) + 1
      · rw [if_pos c1, if_pos c1, show N = (run : Int) + 1 by omega]
        exact Ret.mk h
      · have e1 : ((run : Int) + 1).toNat = run + 1 := by omega
        rw [if_neg c1, if_neg c1, gxp (by omega) (by omega), e1, h.1.rB]
        have hg := goesM (F := F) (q0 := p) (q := p.toNat) (a0 := a) (b0 := b) (s := S.rB (run + 1)) h hA hO hF (by omega) ep.symm (fun hh => hn (Or.inl hh)) (by rw [ep]; exact hP) h5 (by rw [ep]; omega)
        rw [ep] at hg
        have hrr := hR.rgo (S := S) (p := p) (s := S.rB (run + 1)) hle hc
        rw [hrun] at hrr
        refine Ret.bind hg (fun B eB hB => ?_)
        rw [hrr]
        by_cases c2 : S.rw' p set (S.pkm p) run (S.rB (run + 1)) = true
        · rw [if_pos c2, if_neg (by decide), if_pos c2, g32p (by omega), g32p (by omega)]
          by_cases c3 : b + 1 < S.pkm p
          · obtain ⟨k1, k2⟩ := hR.new hle c3 (fun hh => hc ⟨c3, hh⟩)
            rw [show (b : Int) + 1 = ((b + 1 : Nat) : Int) by omega, show (run : Int) + 1 + 1 = ((run + 1 : Nat) : Int) + 1 by omega]
            exact ih (z - 1) (b + 1) (b + 1) (run + 1) B hB.1 hB.2.1 (by omega) (by omega) (by omega) (Nat.le_refl _) k1 (by rw [k2, hrun]; omega) (by omega)
          · have eb : b = S.pkm p - 1 := by omega
            have er : bcs set 8 = run := by rw [hs2, ← eb]; exact hrun
            obtain ⟨n', rfl⟩ : ∃ n', n = n' + 1 := ⟨n - 1, by omega⟩
            unfold x201_judge_92
            rw [hB.2.1.1, if_neg (by omega)]
            unfold x201_judge_172
            rw [show 10 - (run + 1) = (10 - (run + 2)) + 1 by omega]
            unfold St.jcF
            rw [if_neg (by omega : ¬ ((run + 1 : Nat) : Int) < bcs set 8 + 1), er]
            by_cases c4 : (run : Int) + 1 + 1 < N
            · rw [if_pos c4, if_pos c4]
              exact Ret.mk hB.1
            · rw [if_neg c4, if_neg c4]
              exact Ret.mk hB.1
        · rw [if_neg c2, if_pos rfl, if_neg c2]
          exact Ret.mk hB.1
    by_cases c1 : b + 1 < S.pkm p
    · rw [if_pos (by omega)]
      by_cases c2 : bitE set b = 0
      · rw [if_pos c2, show (b : Int) + 1 = ((b + 1 : Nat) : Int) by omega]
        obtain ⟨k1, k2⟩ := hR.more ⟨c1, c2⟩
        exact ih (z - 1) a (b + 1) run A h hA (by omega) (by omega) (by omega) (by omega) k1 (by rw [k2]; exact hrun) hrN
      · rw [if_neg c2]
        exact last (fun hh => c2 hh.2)
    · rw [if_neg (by omega)]
      exact last (fun hh => c1 hh.1)
theorem judge1_O (hO : OK t S) : OK (t + 1) S.judge1 := (OK.of ⟨(OK.now (hO.mono) :), (OK.limit (hO.mono) :), (OK.nP (hO.mono) :), (OK.nZ (hO.mono) :), (OK.nH (hO.mono) :), (OK.nF (hO.mono) :), (OK.nU (hO.mono) :), (OK.nS (hO.mono) :), (OK.nB (hO.mono) :), (OK.nT (hO.mono) :), ((Nat.zero_le _)), (OK.zero (hO.mono) :), (OK.low (hO.mono) :), (OK.beside (hO.mono) :), (OK.stN (hO.mono) :), (OK.stF (hO.mono) :), (OK.bN (hO.mono) :), (OK.b (hO.mono) :), (OK.bs (hO.mono) :), (OK.z (hO.mono) :), (OK.h (hO.mono) :), (OK.f (hO.mono) :), (OK.u (hO.mono) :), (OK.s (hO.mono) :), (OK.sv (hO.mono) :), (OK.p (hO.mono) :), (OK.tB (hO.mono) :), ((fun i hi => absurd hi (Nat.not_lt_zero i))), (OK.ref (hO.mono) :)⟩)
theorem judgeO (hO : OK t S) : OK (t + 1) (S.judge p).2 := by
  unfold St.judge
  repeat' split
  · exact hO.no 4
  · exact judge1_O hO
  · exact hO.no 0
theorem judgeM (h : DM A S t) (hO : OK t S) (ht : t < 512) (hF : 1000 ≤ F) : Ret (x201_judge F p A) (S.judge p).1 (fun A1 => DM A1 (S.judge p).2 (t + 1)) := by
  have h2 := hO.nP
  unfold x201_judge St.judge
  by_cases hp : S.isP p
  · rw [hasM1 h.1 hp, if_pos hp]
    simp only [rz_b_some]
    rw [if_neg (by decide)]
    refine Ret.bind (gathersM (p := p) h.up hO hF) (fun A2 e2 hA => ?_)
    obtain ⟨k1, k2, k3⟩ := hA
    rw [gxp (by omega) (by omega), k1.1.bN, k3.1, k1.1.nR, k1.1.rB]
    by_cases c1 : S.bN p.toNat = 0
    · rw [if_pos c1, if_pos (Or.inl c1)]
      exact lm1 k1 hO ht (by decide) (by decide)
    · rw [if_neg c1]
      by_cases c2 : S.pkm p = 0
      · rw [if_pos (by omega), if_pos (Or.inr c2)]
        exact lm1 k1 hO ht (by decide) (by decide)
      · have c : ¬ S.nob p := fun hh => by rcases hh with h9 | h9; exact c1 h9; exact c2 h9
        have hle := k2.le
        have hm : 0 < S.pkm p ∧ S.pkm p ≤ 8 := ⟨by omega, hle⟩
        have hsh := shl_ok (S.pkm p - 1) (by omega)
        rw [show ((S.pkm p - 1 : Nat) : Int) = (S.pkm p : Int) - 1 by omega] at hsh
        have hM9 := k1.1
        have fr : Fr [] [(91, 9)] A2 (aI A2 91 9 0) := Fr.aI Fr.rfl (Or.inr (by decide))
        have hmi := k1.2.fr fr (by decide)
        have hd : DM (aI A2 91 9 0) S.judge1 (t + 1) := ⟨(RM.of ⟨(RM.now hM9 :), (RM.nP hM9 :), (RM.nZ hM9 :), (RM.nH hM9 :), (RM.nF hM9 :), (RM.nS hM9 :), (RM.nU hM9 :), (RM.nB hM9 :), (RM.nT hM9 :), (rfl), (RM.limit hM9 :), (RM.zero hM9 :), (RM.low hM9 :), (RM.beside hM9 :), (RM.stN hM9 :), (RM.bN hM9 :), (RM.stF hM9 :), (RM.bH hM9 :), (RM.bF hM9 :), (RM.zP hM9 :), (RM.zZ hM9 :), (RM.zF hM9 :), (RM.zK hM9 :), (RM.hP hM9 :), (RM.hT hM9 :), (RM.hK hM9 :), (RM.hR hM9 :), (RM.hKn hM9 :), (RM.hS hM9 :), (RM.fP hM9 :), (RM.fT hM9 :), (RM.fN hM9 :), (RM.fW hM9 :), (RM.fKn hM9 :), (RM.fS hM9 :), (RM.uP hM9 :), (RM.uK hM9 :), (RM.uF hM9 :), (RM.uT hM9 :), (RM.uM hM9 :), (RM.uKn hM9 :), (RM.sP hM9 :), (RM.sD hM9 :), (RM.sT hM9 :), (RM.sN hM9 :), (RM.st hM9 :), (RM.pP hM9 :), (RM.pT hM9 :), (RM.pF hM9 :), (RM.tB hM9 :), (RM.rB hM9 :), (RM.ref hM9 :)⟩), hmi⟩
        rw [if_neg (by omega), if_neg c]
        show Ret _ (S.jv p) (fun A1 => DM A1 S.judge1 (t + 1))
        unfold St.jv
        by_cases r0 : S.nR = 0
        · rw [if_pos (by omega), if_pos r0]
          exact Ret.mk hd
        · rw [if_neg (by omega), if_neg r0]
          by_cases r1 : S.rB 0 < 0
          · rw [if_neg (by omega), if_pos r1]
            exact Ret.mk hd
          · rw [if_pos (by omega), if_neg r1, g32p (by omega), hsh]
            by_cases r2 : ((2 ^ (S.pkm p - 1) : Nat) : Int) ≤ S.rB 0
            · rw [if_pos r2, if_pos r2]
              exact Ret.mk hd
            · obtain ⟨e1, e2⟩ := set_ok hO r0 r1
              have hb := bcs_ok (S.rB 0).toNat e2
              have hhi := bcs_hi (n := (S.rB 0).toNat) (m := S.pkm p - 1) e2 (by omega) 8 (by omega) (by omega)
              rw [← e1] at hb hhi
              have hnR := hO.nR
              rw [if_neg r2, if_neg r2]
              have := judge92M (F := F) (S := S.judge1) (p := p) (set := S.rB 0) (N := (S.nR : Int)) (t' := t + 1) (judge1_O hO) hF hp c k2 hb.2 hhi rfl (by omega) F (S.pkm p) 0 0 0 _ hd k3 (by show 0 + S.pkm p = S.pkm p; omega) hm.1 (by omega) (Nat.le_refl _) (run00 hm.1) rfl (by omega)
              exact this
  · rw [hasM0 h.1 hp, if_neg hp]
    simp only [rz_b_some]
    rw [if_pos (by decide)]
    exact lm1 h.up hO ht (by decide) (by decide)
/-! strike -/
def St.strike1 (S : St) (g : Int) : St := (S.1, (fun c => if c = 28 then (fun _ => (up S.hS g.toNat S.now)) else S.2 c))
def St.strike (S : St) (g : Int) : Int × St := if 0 ≤ g ∧ g < (S.nH : Int) then (if 0 ≤ S.hS g.toNat then S.no 2 else if S.hR g.toNat < 0 then S.no 2 else (1, S.strike1 g)) else S.no 0
theorem cntN_up {f : Nat → Int} {x : Nat} {v : Int} (hf : f x < 0) (hv : 0 ≤ v) : ∀ {n : Nat}, x < n → cntN (fun i => decide (0 ≤ up f x v i)) n = cntN (fun i => decide (0 ≤ f i)) n + 1
  | 0, h => absurd h (Nat.not_lt_zero x)
  | n + 1, h => by
    show cntN (fun i => decide (0 ≤ up f x v i)) n + (if decide (0 ≤ up f x v n) then 1 else 0) = cntN (fun i => decide (0 ≤ f i)) n + (if decide (0 ≤ f n) then 1 else 0) + 1
    by_cases e : x = n
    · subst e
      have : cntN (fun i => decide (0 ≤ up f x v i)) x = cntN (fun i => decide (0 ≤ f i)) x := cntN_congr (fun i hi => by
        show decide (0 ≤ up f x v i) = decide (0 ≤ f i)
        rw [up_ne (by omega)])
      rw [this, up_same, decide_eq_true hv, decide_eq_false (by omega : ¬ 0 ≤ f x)]
      rfl
    · rw [cntN_up hf hv (by omega), up_ne (by omega)]
      omega
theorem strikeC (h : DC A S t) (hO : OK t S) (ht : t < 512) : Ret (x15_strike F a A) (S.strike a).1 (fun A1 => DC A1 (S.strike a).2 (t + 1)) := by
  have h1 := hO.nH
  have h3 := hO.now
  unfold x15_strike St.strike
  by_cases hg : 0 ≤ a ∧ a < (S.nH : Int)
  · have hb := hO.h a.toNat (by omega)
    rw [hasH1 h.1 hg, if_pos hg]
    simp only [rz_b_some]
    rw [if_neg (by decide), gxp (by omega) (by omega), h.1.hS a.toNat (by omega)]
    by_cases c1 : 0 ≤ S.hS a.toNat
    · rw [if_neg (by split <;> omega), if_pos c1]
      exact lk1 h.up hO ht (by decide) (by decide)
    · rw [if_pos (by rw [if_pos (by omega)]), if_neg c1]
      unfold x17_isStuck
      rw [gxp (by omega) (by omega), h.1.hR]
      by_cases c2 : S.hR a.toNat < 0
      · rw [if_pos c2, if_pos c2]
        simp only [rz_b_some]
        rw [if_neg (by decide)]
        exact lk1 h.up hO ht (by decide) (by decide)
      · have hcl := cntN_le (fun i => decide (0 ≤ S.hS i)) S.nH
        rw [if_neg c2, if_neg c2]
        simp only [rz_b_some]
        rw [if_pos (by decide)]
        unfold x6_forget
        simp only [rz_b_some]
        have e1 : (aI A 51 5 0).1 18 1 = cntN (fun i => decide (0 ≤ S.hS i)) S.nH := h.1.hSm
        have e2 : (aI A 51 5 0).1 0 16 = S.now := h.1.now
        rw [e1, e2, g32p (by omega)]
        have hC9 := h.1
        have hhS : ∀ i, i < S.nH → (if i = a.toNat then S.now else A.1 24 i) = if up S.hS a.toNat S.now i < 0 then 2147483647 else up S.hS a.toNat S.now i := fun i hi => by
          have h4 := hC9.hS i hi
          unfold up
          by_cases e : i = a.toNat
          · rw [if_pos e, if_pos e, if_neg (by omega)]
          · rw [if_neg e, if_neg e]
            exact h4
        have hcm : ((cntN (fun i => decide (0 ≤ S.hS i)) S.nH : Nat) : Int) + 1 = (cntN (fun i => decide (0 ≤ up S.hS a.toNat S.now i)) S.nH : Nat) := by
          rw [cntN_up (by omega) (by omega) (by omega)]
          omega
        refine Ret.mk ⟨(RC.of ⟨(RC.now hC9 :), (RC.limit hC9 :), (RC.nP hC9 :), (RC.nZ hC9 :), (RC.nH hC9 :), (RC.nF hC9 :), (RC.nU hC9 :), (RC.nS hC9 :), (RC.nB hC9 :), (RC.nT hC9 :), (RC.nR hC9 :), (RC.zero hC9 :), (RC.low hC9 :), (RC.beside hC9 :), (RC.stN hC9 :), (RC.stF0 hC9 :), (RC.stF1 hC9 :), (RC.stF2 hC9 :), (RC.stF3 hC9 :), (RC.stF4 hC9 :), (RC.stF5 hC9 :), (RC.bN0 hC9 :), (RC.bN1 hC9 :), (RC.bN2 hC9 :), (RC.bN3 hC9 :), (RC.bN4 hC9 :), (RC.bN5 hC9 :), (RC.bH0 hC9 :), (RC.bH1 hC9 :), (RC.bH2 hC9 :), (RC.bH3 hC9 :), (RC.bH4 hC9 :), (RC.bH5 hC9 :), (RC.bF0 hC9 :), (RC.bF1 hC9 :), (RC.bF2 hC9 :), (RC.bF3 hC9 :), (RC.bF4 hC9 :), (RC.bF5 hC9 :), (RC.zP hC9 :), (RC.zZ hC9 :), (RC.zF hC9 :), (RC.zK hC9 :), (RC.hP hC9 :), (RC.hT hC9 :), (RC.hK hC9 :), (RC.hR hC9 :), (RC.hKn hC9 :), (hhS), (hcm), (RC.fP hC9 :), (RC.fT hC9 :), (RC.fN hC9 :), (RC.fW hC9 :), (RC.fKn hC9 :), (RC.fS hC9 :), (RC.uP hC9 :), (RC.uK hC9 :), (RC.uF hC9 :), (RC.uT hC9 :), (RC.uM hC9 :), (RC.uKn hC9 :), (RC.sP hC9 :), (RC.sD hC9 :), (RC.sT hC9 :), (RC.sN hC9 :), (RC.st hC9 :), (RC.pP hC9 :), (RC.pT hC9 :), (RC.pF hC9 :), (RC.tB hC9 :), (RC.rB hC9 :), (RC.ref hC9 :), (RC.ordR hC9 :), (RC.ordS hC9 :), (RC.ordA hC9 :)⟩), h.2.forget rfl rfl rfl⟩
  · rw [hasH0 h.1 hg, if_neg hg]
    simp only [rz_b_some]
    rw [if_pos (by decide)]
    exact lk1 h.up hO ht (by decide) (by decide)
theorem strikeM (h : DM A S t) (hO : OK t S) (ht : t < 512) : Ret (x151_strike F a A) (S.strike a).1 (fun A1 => DM A1 (S.strike a).2 (t + 1)) := by
  have h1 := hO.nH
  have hsm := h.2.sm
  unfold x151_strike St.strike
  rw [h.1.nH]
  by_cases hg : 0 ≤ a ∧ a < (S.nH : Int)
  · rw [if_pos hg, if_pos hg.1, if_neg (by omega), gxp (by omega) (by omega), h.1.hS, h.1.hR, h.1.now]
    by_cases c1 : 0 ≤ S.hS a.toNat
    · rw [if_neg (by omega), if_pos c1]
      exact lm1 h.up hO ht (by decide) (by decide)
    · rw [if_pos (by omega), if_neg c1]
      by_cases c2 : S.hR a.toNat < 0
      · rw [if_pos c2, if_pos c2]
        exact lm1 h.up hO ht (by decide) (by decide)
      · rw [if_neg c2, if_neg c2, g32p (by omega)]
        have hM9 := h.1
        exact Ret.mk ⟨(RM.of ⟨(RM.now hM9 :), (RM.nP hM9 :), (RM.nZ hM9 :), (RM.nH hM9 :), (RM.nF hM9 :), (RM.nS hM9 :), (RM.nU hM9 :), (RM.nB hM9 :), (RM.nT hM9 :), (RM.nR hM9 :), (RM.limit hM9 :), (RM.zero hM9 :), (RM.low hM9 :), (RM.beside hM9 :), (RM.stN hM9 :), (RM.bN hM9 :), (RM.stF hM9 :), (RM.bH hM9 :), (RM.bF hM9 :), (RM.zP hM9 :), (RM.zZ hM9 :), (RM.zF hM9 :), (RM.zK hM9 :), (RM.hP hM9 :), (RM.hT hM9 :), (RM.hK hM9 :), (RM.hR hM9 :), (RM.hKn hM9 :), ((congrArg (fun f => up f _ _) hM9.hS)), (RM.fP hM9 :), (RM.fT hM9 :), (RM.fN hM9 :), (RM.fW hM9 :), (RM.fKn hM9 :), (RM.fS hM9 :), (RM.uP hM9 :), (RM.uK hM9 :), (RM.uF hM9 :), (RM.uT hM9 :), (RM.uM hM9 :), (RM.uKn hM9 :), (RM.sP hM9 :), (RM.sD hM9 :), (RM.sT hM9 :), (RM.sN hM9 :), (RM.st hM9 :), (RM.pP hM9 :), (RM.pT hM9 :), (RM.pF hM9 :), (RM.tB hM9 :), (RM.rB hM9 :), (RM.ref hM9 :)⟩), h.2.bump rfl rfl⟩
  · rw [if_neg hg]
    by_cases h0 : 0 ≤ a
    · rw [if_pos h0, if_pos (by omega)]
      exact lm1 h.up hO ht (by decide) (by decide)
    · rw [if_neg h0]
      exact lm1 h.up hO ht (by decide) (by decide)
theorem strikeO (hO : OK t S) : OK (t + 1) (S.strike a).2 := by
  have h0 := hO.now
  unfold St.strike
  repeat' split
  · exact hO.no 2
  · exact hO.no 2
  · exact (OK.of ⟨(OK.now (hO.mono) :), (OK.limit (hO.mono) :), (OK.nP (hO.mono) :), (OK.nZ (hO.mono) :), (OK.nH (hO.mono) :), (OK.nF (hO.mono) :), (OK.nU (hO.mono) :), (OK.nS (hO.mono) :), (OK.nB (hO.mono) :), (OK.nT (hO.mono) :), (OK.nR (hO.mono) :), (OK.zero (hO.mono) :), (OK.low (hO.mono) :), (OK.beside (hO.mono) :), (OK.stN (hO.mono) :), (OK.stF (hO.mono) :), (OK.bN (hO.mono) :), (OK.b (hO.mono) :), (OK.bs (hO.mono) :), (OK.z (hO.mono) :), ((fun i hi => by
      have h2 := hO.h i hi
      show (0 ≤ S.hP i ∧ S.hP i < (S.nP : Int)) ∧ (0 ≤ S.hT i ∧ S.hT i ≤ 9999) ∧ (0 ≤ S.hK i ∧ S.hK i ≤ 1) ∧ (-1 ≤ S.hR i ∧ S.hR i ≤ 9999) ∧ (0 ≤ S.hKn i ∧ S.hKn i ≤ 9999) ∧ (-1 ≤ up S.hS a.toNat S.now i ∧ up S.hS a.toNat S.now i ≤ 9999) ∧ (0 ≤ up S.hS a.toNat S.now i → 0 ≤ S.hR i)
      unfold up
      by_cases e : i = a.toNat
      · rw [if_pos e]
        rw [e] at h2 ⊢
        omega
      · rw [if_neg e]
        exact h2)), (OK.f (hO.mono) :), (OK.u (hO.mono) :), (OK.s (hO.mono) :), (OK.sv (hO.mono) :), (OK.p (hO.mono) :), (OK.tB (hO.mono) :), (OK.rB (hO.mono) :), (OK.ref (hO.mono) :)⟩)
  · exact hO.no 0
/-! count -/
def St.count (S : St) (w : Int) : Int × St := (if 11 ≤ w ∧ w ≤ 16 then S.ref (w - 11).toNat else if w = 0 then S.now else if w = 1 then S.nP else if w = 2 then S.nZ else if w = 3 then S.nH else if w = 4 then (cntN (fun i => decide (0 ≤ S.hS i)) S.nH : Int) else if w = 5 then S.nF else if w = 6 then S.nS else if w = 7 then S.nB else if w = 8 then S.nU else if w = 9 then S.nT else if w = 10 then S.nR else -9, S)
theorem countC (h : DC A S t) (hO : OK t S) : Ret (x140_count F w A) (S.count w).1 (fun A1 => DC A1 (S.count w).2 (t + 1)) := by
  have hr := h.1.ref
  unfold x140_count St.count x140_count_22
  rw [h.1.now, h.1.nP, h.1.nZ, h.1.nH, h.1.hSm, h.1.nF, h.1.nS, h.1.nB, h.1.nU, h.1.nT, h.1.nR]
  by_cases c : 11 ≤ w ∧ w ≤ 16
  · rw [if_pos c, if_pos c.1, if_pos c.2, g32p (by omega), gxp (by omega) (by omega), hr _ (by omega)]
    exact Ret.mk h.up
  · rw [if_neg c]
    have key : Ret (if w = 0 then some (S.now, A) else if w = 1 then some ((S.nP : Int), A) else if w = 2 then some ((S.nZ : Int), A) else if w = 3 then some ((S.nH : Int), A) else if w = 4 then some ((cntN (fun i => decide (0 ≤ S.hS i)) S.nH : Int), A) else if w = 5 then some ((S.nF : Int), A) else if w = 6 then some ((S.nS : Int), A) else if w = 7 then some ((S.nB : Int), A) else if w = 8 then some ((S.nU : Int), A) else if w = 9 then some ((S.nT : Int), A) else if w = 10 then some ((S.nR : Int), A) else some ((-9 : Int), A)) (if w = 0 then S.now else if w = 1 then S.nP else if w = 2 then S.nZ else if w = 3 then S.nH else if w = 4 then (cntN (fun i => decide (0 ≤ S.hS i)) S.nH : Int) else if w = 5 then S.nF else if w = 6 then S.nS else if w = 7 then S.nB else if w = 8 then S.nU else if w = 9 then S.nT else if w = 10 then S.nR else -9) (fun A1 => DC A1 S (t + 1)) := by
      by_cases d0 : w = 0
      · rw [if_pos d0, if_pos d0]
        exact Ret.mk h.up
      rw [if_neg d0, if_neg d0]
      by_cases d1 : w = 1
      · rw [if_pos d1, if_pos d1]
        exact Ret.mk h.up
      rw [if_neg d1, if_neg d1]
      by_cases c2 : w = 2
      · rw [if_pos c2, if_pos c2]
        exact Ret.mk h.up
      rw [if_neg c2, if_neg c2]
      by_cases c3 : w = 3
      · rw [if_pos c3, if_pos c3]
        exact Ret.mk h.up
      rw [if_neg c3, if_neg c3]
      by_cases c4 : w = 4
      · rw [if_pos c4, if_pos c4]
        exact Ret.mk h.up
      rw [if_neg c4, if_neg c4]
      by_cases c5 : w = 5
      · rw [if_pos c5, if_pos c5]
        exact Ret.mk h.up
      rw [if_neg c5, if_neg c5]
      by_cases c6 : w = 6
      · rw [if_pos c6, if_pos c6]
        exact Ret.mk h.up
      rw [if_neg c6, if_neg c6]
      by_cases c7 : w = 7
      · rw [if_pos c7, if_pos c7]
        exact Ret.mk h.up
      rw [if_neg c7, if_neg c7]
      by_cases c8 : w = 8
      · rw [if_pos c8, if_pos c8]
        exact Ret.mk h.up
      rw [if_neg c8, if_neg c8]
      by_cases c9 : w = 9
      · rw [if_pos c9, if_pos c9]
        exact Ret.mk h.up
      rw [if_neg c9, if_neg c9]
      by_cases d10 : w = 10
      · rw [if_pos d10, if_pos d10]
        exact Ret.mk h.up
      rw [if_neg d10, if_neg d10]
      exact Ret.mk h.up
    by_cases c1 : 11 ≤ w
    · rw [if_pos c1, if_neg (by omega)]
      exact key
    · rw [if_neg c1]
      exact key
theorem countM_l (h : RM A S) (hO : OK t S) : ∀ (n i : Nat), i ≤ S.nH → S.nH < n + i → x213_count_106 F n (cntN (fun i => decide (0 ≤ S.hS i)) i) i A = some ((cntN (fun i => decide (0 ≤ S.hS i)) S.nH : Int), A) := by
  have hnH := hO.nH
  intro n
  induction n with
  | zero => intro i h1 h2; omega
  | succ n ih =>
    intro i h1 h2
    have hle := cntN_le (fun i => decide (0 ≤ S.hS i)) i
    unfold x213_count_106
    rw [h.nH]
    by_cases hi : i < S.nH
    · have ih' := ih (i + 1) (by omega) (by omega)
      rw [show cntN (fun i => decide (0 ≤ S.hS i)) (i + 1) = cntN (fun i => decide (0 ≤ S.hS i)) i + if decide (0 ≤ S.hS i) then 1 else 0 from rfl] at ih'
      rw [if_pos (by omega), gxp (by omega) (by omega), Int.toNat_natCast, h.hS]
      by_cases c : 0 ≤ S.hS i
      · rw [if_pos (decide_eq_true c)] at ih'
        rw [if_pos c, g32p (by omega), g32p (by omega)]
        exact ih'
      · rw [if_neg (by simpa using c)] at ih'
        rw [if_neg c, g32p (by omega)]
        exact ih'
    · have e : i = S.nH := by omega
      rw [if_neg (by omega), e]
theorem countM (h : DM A S t) (hO : OK t S) (hF : 1000 ≤ F) : Ret (x213_count F w A) (S.count w).1 (fun A1 => DM A1 (S.count w).2 (t + 1)) := by
  have hr := h.1.ref
  have hnH := hO.nH
  have hc := countM_l (F := F) h.1 hO F 0 (by omega) (by omega)
  have hc' : x213_count_106 F F 0 0 A = some ((cntN (fun i => decide (0 ≤ S.hS i)) S.nH : Int), A) := hc
  unfold x213_count St.count
  rw [hc', h.1.now, h.1.nP, h.1.nZ, h.1.nH, h.1.nF, h.1.nS, h.1.nB, h.1.nU, h.1.nT, h.1.nR]
  by_cases c : 11 ≤ w ∧ w ≤ 16
  · have := hr (w - 11).toNat (by omega)
    rw [if_pos c, if_pos (by omega), if_pos (by omega), g32p (by omega), gxp (by omega) (by omega), show (w - 10).toNat = (w - 11).toNat + 1 by omega, this]
    exact Ret.mk h.up
  · rw [if_neg c]
    have key : Ret (if w = 0 then some (S.now, A) else if w = 1 then some ((S.nP : Int), A) else if w = 2 then some ((S.nZ : Int), A) else if w = 3 then some ((S.nH : Int), A) else if w = 4 then some ((cntN (fun i => decide (0 ≤ S.hS i)) S.nH : Int), A) else if w = 5 then some ((S.nF : Int), A) else if w = 6 then some ((S.nS : Int), A) else if w = 7 then some ((S.nB : Int), A) else if w = 8 then some ((S.nU : Int), A) else if w = 9 then some ((S.nT : Int), A) else if w = 10 then some ((S.nR : Int), A) else some ((-9 : Int), A)) (if w = 0 then S.now else if w = 1 then S.nP else if w = 2 then S.nZ else if w = 3 then S.nH else if w = 4 then (cntN (fun i => decide (0 ≤ S.hS i)) S.nH : Int) else if w = 5 then S.nF else if w = 6 then S.nS else if w = 7 then S.nB else if w = 8 then S.nU else if w = 9 then S.nT else if w = 10 then S.nR else -9) (fun A1 => DM A1 S (t + 1)) := by
      by_cases d0 : w = 0
      · rw [if_pos d0, if_pos d0]
        exact Ret.mk h.up
      rw [if_neg d0, if_neg d0]
      by_cases d1 : w = 1
      · rw [if_pos d1, if_pos d1]
        exact Ret.mk h.up
      rw [if_neg d1, if_neg d1]
      by_cases c2 : w = 2
      · rw [if_pos c2, if_pos c2]
        exact Ret.mk h.up
      rw [if_neg c2, if_neg c2]
      by_cases c3 : w = 3
      · rw [if_pos c3, if_pos c3]
        exact Ret.mk h.up
      rw [if_neg c3, if_neg c3]
      by_cases c4 : w = 4
      · rw [if_pos c4, if_pos c4]
        exact Ret.mk h.up
      rw [if_neg c4, if_neg c4]
      by_cases c5 : w = 5
      · rw [if_pos c5, if_pos c5]
        exact Ret.mk h.up
      rw [if_neg c5, if_neg c5]
      by_cases c6 : w = 6
      · rw [if_pos c6, if_pos c6]
        exact Ret.mk h.up
      rw [if_neg c6, if_neg c6]
      by_cases c7 : w = 7
      · rw [if_pos c7, if_pos c7]
        exact Ret.mk h.up
      rw [if_neg c7, if_neg c7]
      by_cases c8 : w = 8
      · rw [if_pos c8, if_pos c8]
        exact Ret.mk h.up
      rw [if_neg c8, if_neg c8]
      by_cases c9 : w = 9
      · rw [if_pos c9, if_pos c9]
        exact Ret.mk h.up
      rw [if_neg c9, if_neg c9]
      by_cases d10 : w = 10
      · rw [if_pos d10, if_pos d10]
        exact Ret.mk h.up
      rw [if_neg d10, if_neg d10]
      exact Ret.mk h.up
    by_cases c1 : 10 < w
    · rw [if_pos c1, if_neg (by omega)]
      exact key
    · rw [if_neg c1]
      exact key
end SMALL
