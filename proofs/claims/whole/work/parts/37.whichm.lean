set_option maxRecDepth 8000
section WHICHM
variable {t F : Nat} {A : rz_A} {S : St} {a b c d e p u k q dy x va vb : Int}
theorem RM_133 {j : Nat} {v : Int} (h : RM A S) : RM (aL A 133 j v) S := (RM.of ⟨(RM.now h :), (RM.nP h :), (RM.nZ h :), (RM.nH h :), (RM.nF h :), (RM.nS h :), (RM.nU h :), (RM.nB h :), (RM.nT h :), (RM.nR h :), (RM.limit h :), (RM.zero h :), (RM.low h :), (RM.beside h :), (RM.stN h :), (RM.bN h :), (RM.stF h :), (RM.bH h :), (RM.bF h :), (RM.zP h :), (RM.zZ h :), (RM.zF h :), (RM.zK h :), (RM.hP h :), (RM.hT h :), (RM.hK h :), (RM.hR h :), (RM.hKn h :), (RM.hS h :), (RM.fP h :), (RM.fT h :), (RM.fN h :), (RM.fW h :), (RM.fKn h :), (RM.fS h :), (RM.uP h :), (RM.uK h :), (RM.uF h :), (RM.uT h :), (RM.uM h :), (RM.uKn h :), (RM.sP h :), (RM.sD h :), (RM.sT h :), (RM.sN h :), (RM.st h :), (RM.pP h :), (RM.pT h :), (RM.pF h :), (RM.tB h :), (RM.rB h :), (RM.ref h :)⟩)
theorem RC_49 {j : Nat} {v : Int} (h : RC A S) : RC (aI A 49 j v) S := (RC.of ⟨(RC.now h :), (RC.limit h :), (RC.nP h :), (RC.nZ h :), (RC.nH h :), (RC.nF h :), (RC.nU h :), (RC.nS h :), (RC.nB h :), (RC.nT h :), (RC.nR h :), (RC.zero h :), (RC.low h :), (RC.beside h :), (RC.stN h :), (RC.stF0 h :), (RC.stF1 h :), (RC.stF2 h :), (RC.stF3 h :), (RC.stF4 h :), (RC.stF5 h :), (RC.bN0 h :), (RC.bN1 h :), (RC.bN2 h :), (RC.bN3 h :), (RC.bN4 h :), (RC.bN5 h :), (RC.bH0 h :), (RC.bH1 h :), (RC.bH2 h :), (RC.bH3 h :), (RC.bH4 h :), (RC.bH5 h :), (RC.bF0 h :), (RC.bF1 h :), (RC.bF2 h :), (RC.bF3 h :), (RC.bF4 h :), (RC.bF5 h :), (RC.zP h :), (RC.zZ h :), (RC.zF h :), (RC.zK h :), (RC.hP h :), (RC.hT h :), (RC.hK h :), (RC.hR h :), (RC.hKn h :), (RC.hS h :), (RC.hSm h :), (RC.fP h :), (RC.fT h :), (RC.fN h :), (RC.fW h :), (RC.fKn h :), (RC.fS h :), (RC.uP h :), (RC.uK h :), (RC.uF h :), (RC.uT h :), (RC.uM h :), (RC.uKn h :), (RC.sP h :), (RC.sD h :), (RC.sT h :), (RC.sN h :), (RC.st h :), (RC.pP h :), (RC.pT h :), (RC.pF h :), (RC.tB h :), (RC.rB h :), (RC.ref h :), (RC.ordR h :), (RC.ordS h :), (RC.ordA h :)⟩)
theorem letM {g : Nat} (h8 : ∀ j, j < 26 → A.2 133 j = if j = 3 then (S.hT g).tdiv 96 else if j = 12 then (S.hT g).tmod 96 else 0) (hva : va = S.vw.strikeL g a 4) (hvb : vb = S.vw.strikeL g a 5) : ∀ j, j < 13 → (aL (aL (aL (aL A 133 17 (S.hR g)) 133 10 (S.hK g)) 133 0 va) 133 1 vb).2 133 (lpos j) = S.vw.strikeL g a j := by
  intro j hj
  match j, hj with
  | 0, _ => exact h8 3 (by decide)
  | 1, _ => exact h8 12 (by decide)
  | 2, _ => rfl
  | 3, _ => rfl
  | 4, _ => exact hva
  | 5, _ => exact hvb
  | 6, _ => exact h8 6 (by decide)
  | 7, _ => exact h8 7 (by decide)
  | 8, _ => exact h8 13 (by decide)
  | 9, _ => exact h8 5 (by decide)
  | 10, _ => exact h8 22 (by decide)
  | 11, _ => exact h8 23 (by decide)
  | 12, _ => exact h8 8 (by decide)
  | j + 13, h => exact absurd h (by omega)
theorem letC {g : Nat} (h8 : ∀ j, j < 13 → A.1 49 j = if j = 0 then (S.hT g).tdiv 96 else if j = 1 then (S.hT g).tmod 96 else 0) (hva : va = S.vw.strikeL g a 4) (hvb : vb = S.vw.strikeL g a 5) : ∀ j, j < 13 → (aI (aI (aI (aI A 49 2 (S.hR g)) 49 3 (S.hK g)) 49 4 va) 49 5 vb).1 49 j = S.vw.strikeL g a j := by
  intro j hj
  match j, hj with
  | 0, _ => exact h8 0 (by decide)
  | 1, _ => exact h8 1 (by decide)
  | 2, _ => rfl
  | 3, _ => rfl
  | 4, _ => exact hva
  | 5, _ => exact hvb
  | 6, _ => exact h8 6 (by decide)
  | 7, _ => exact h8 7 (by decide)
  | 8, _ => exact h8 8 (by decide)
  | 9, _ => exact h8 9 (by decide)
  | 10, _ => exact h8 10 (by decide)
  | 11, _ => exact h8 11 (by decide)
  | 12, _ => exact h8 12 (by decide)
  | j + 13, h => exact absurd h (by omega)
theorem byStdM (h : RM A S) (hO : OK t S) (hF : 1000 ≤ F) {g : Nat} (hg : g < S.nH) : Ret (x154_isByStandard F g k A) (S.vw.byStd g k) (fun _ => True) := by
  have h1 := hO.nH
  have hb := hO.h g hg
  have e1 := tdiv96 hb.2.1.1
  unfold x154_isByStandard
  rw [Int.toNat_natCast, gxp (by omega) (by omega), h.hR, h.hT]
  unfold Vw.byStd
  rw [show S.vw.hR g = S.hR g from rfl, show S.vw.hT g = S.hT g from rfl]
  by_cases hr : S.hR g < 0
  · rw [if_pos hr, if_pos hr]
    exact Ret.mk trivial
  · rw [if_neg hr, if_neg hr, g32p (by omega), forceM h hO hF]
    simp only [rz_b_some]
    have hfb := S.vw.fAcc_lt (q := 0) (dy := (S.hT g).tdiv 96) (k := k) S.nS
    have hfb2 : S.vw.inForce 0 ((S.hT g).tdiv 96) k < S.nS := hfb.1
    by_cases hs : S.vw.inForce 0 ((S.hT g).tdiv 96) k < 0
    · rw [if_pos hs, if_pos hs]
      exact Ret.mk trivial
    · rw [if_neg hs, if_neg hs, aheadM h hO hF hg]
      simp only [rz_b_some, h.hT]
      generalize hsg : S.vw.inForce 0 ((S.hT g).tdiv 96) k = si at *
      have hab := S.vw.aAcc_b g k S.nH
      have hab1 : S.vw.ahead g k < S.nH := hab.1
      refine Ret.bind (laysM (A := A) hF hb.2.1) (fun A8 e8 h8 => ?_)
      have hM8 : RM A8 S := rm_fr h (wx157_lays F e8) (by decide)
      have hL := strikeL_b hO hg hab1
      have fin : ∀ (va vb : Int), va = S.vw.strikeL g (S.vw.ahead g k) 4 → vb = S.vw.strikeL g (S.vw.ahead g k) 5 → Ret (rz_b (x158_says F si (aL (aL (aL (aL A8 133 17 (S.hR g)) 133 10 (S.hK g)) 133 0 va) 133 1 vb)) fun r A => rz_gz r (some (r, A))) (S.vw.says si.toNat (S.vw.strikeL g (S.vw.ahead g k))) (fun _ => True) := by
        intro va vb hva hvb
        have hsy := saysM (F := F) (A := (aL (aL (aL (aL A8 133 17 (S.hR g)) 133 10 (S.hK g)) 133 0 va) 133 1 vb)) (RM_133 (RM_133 (RM_133 (RM_133 hM8)))) hO hF (s := si.toNat) (by omega) hL (letM h8 hva hvb)
        rw [show ((si.toNat : Nat) : Int) = si by omega] at hsy
        refine Ret.bind hsy (fun A9 _ _ => ?_)
        exact Ret.gz (S.vw.says01 _ _) (Ret.mk trivial)
      simp only [hM8.hR, hM8.hK, hM8.hT]
      by_cases ha : S.vw.ahead g k < 0
      · rw [if_pos ha]
        exact fin 0 9999 (by show (0 : Int) = if S.vw.ahead g k < 0 then 0 else _; rw [if_pos ha]) (by show (9999 : Int) = if S.vw.ahead g k < 0 then 9999 else _; rw [if_pos ha])
      · have hb2 := hO.h (S.vw.ahead g k).toNat (by omega)
        have v5 : S.hT g - S.hT (S.vw.ahead g k).toNat = S.vw.strikeL g (S.vw.ahead g k) 5 := by
          show _ = if S.vw.ahead g k < 0 then 9999 else _
          rw [if_neg ha]
          rfl
        rw [if_neg ha, gxp (by omega) (by omega)]
        by_cases hc : S.hR (S.vw.ahead g k).toNat < S.hR g
        · rw [if_pos hc, g32p (by omega), g32p (by omega)]
          refine fin _ _ ?_ v5
          show _ = if S.vw.ahead g k < 0 then 0 else if S.hR (S.vw.ahead g k).toNat < S.hR g then S.hR g - S.hR (S.vw.ahead g k).toNat else _
          rw [if_neg ha, if_pos hc]
        · rw [if_neg hc, g32p (by omega), g32p (by omega)]
          refine fin _ _ ?_ v5
          show _ = if S.vw.ahead g k < 0 then 0 else if S.hR (S.vw.ahead g k).toNat < S.hR g then _ else S.hR (S.vw.ahead g k).toNat - S.hR g
          rw [if_neg ha, if_neg hc]
theorem whichM_loop (hO : OK t S) (hF : 1000 ≤ F) : ∀ (n i : Nat) (A : rz_A), RM A S → i ≤ S.nH → S.nH < n + i → Ret (x162_which_6 F n p u k (S.vw.wAcc p u k i) i A) (S.vw.wAcc p u k S.nH) (fun _ => True) := by
  have h1 := hO.nH
  intro n
  induction n with
  | zero => intro i A h hi hn; omega
  | succ n ih =>
    intro i A h hi hn
    have hb := S.vw.wAcc_b p u k i
    unfold x162_which_6 x162_which_83
    simp only [h.nH, h.hP, h.hT, h.hKn, h.hR, h.hK, Int.toNat_natCast]
    by_cases hl : i < S.nH
    · have ih' := fun A' hA => ih (i + 1) A' hA (by omega) (by omega)
      rw [if_pos (by omega), gxp (by omega) (by omega)]
      rw [wAcc_s] at ih'
      have g32 : r32 ((i : Int) + 1) := by omega
      simp only [g32p g32]
      by_cases c1 : S.hP i = p ∧ S.hT i = u ∧ S.hKn i ≤ k ∧ 0 ≤ S.hR i
      · rw [if_pos c1.1, if_pos c1.2.1, if_pos c1.2.2.1, if_pos c1.2.2.2]
        by_cases c2 : 0 ≤ S.vw.wAcc p u k i ∧ S.hK i < S.hK (S.vw.wAcc p u k i).toNat
        · rw [if_neg (fun hh => hh.2.2.2.2.1 c2)] at ih'
          rw [if_pos c2.1, gxp (by omega) (by omega), if_pos c2.2]
          exact ih' A h
        · have key : Ret (rz_b (x153_isTold F i k A) fun r1 A1 => if r1 = 0 then rz_b (x154_isByStandard F i k A1) fun r3 A3 => if r3 = 0 then x162_which_6 F n p u k i ((i : Int) + 1) A3 else x162_which_6 F n p u k (S.vw.wAcc p u k i) ((i : Int) + 1) A3 else x162_which_6 F n p u k (S.vw.wAcc p u k i) ((i : Int) + 1) A1) (S.vw.wAcc p u k S.nH) (fun _ => True) := by
            by_cases c3 : 0 ≤ S.hS i ∧ S.hS i ≤ k
            · rw [if_neg (fun hh => hh.2.2.2.2.2.1 c3)] at ih'
              rw [toldM1 h hO hl c3]
              simp only [rz_b_some]
              rw [if_neg (by decide)]
              exact ih' A h
            · rw [toldM0 h hO hl c3]
              simp only [rz_b_some, if_true]
              refine Ret.bind (byStdM h hO hF hl) (fun A3 e3 _ => ?_)
              have h3 : RM A3 S := rm_fr h (wx154_isByStandard F e3) (by decide)
              by_cases c4 : S.vw.byStd i k = 0
              · rw [if_pos ⟨c1.1, c1.2.1, c1.2.2.1, c1.2.2.2, c2, c3, c4⟩] at ih'
                rw [if_pos c4]
                exact ih' A3 h3
              · rw [if_neg (fun hh => c4 hh.2.2.2.2.2.2)] at ih'
                rw [if_neg c4]
                exact ih' A3 h3
          by_cases c5 : 0 ≤ S.vw.wAcc p u k i
          · rw [if_pos c5, gxp (by omega) (by omega), if_neg (fun hh => c2 ⟨c5, hh⟩)]
            exact key
          · rw [if_neg c5]
            exact key
      · rw [if_neg (fun hh => c1 ⟨hh.1, hh.2.1, hh.2.2.1, hh.2.2.2.1⟩)] at ih'
        have ihh := ih' A h
        by_cases d1 : S.hP i = p
        · rw [if_pos d1]
          by_cases d2 : S.hT i = u
          · rw [if_pos d2]
            by_cases d3 : S.hKn i ≤ k
            · rw [if_pos d3, if_neg (fun hh => c1 ⟨d1, d2, d3, hh⟩)]
              exact ihh
            · rw [if_neg d3]
              exact ihh
          · rw [if_neg d2]
            exact ihh
        · rw [if_neg d1]
          exact ihh
    · have e : i = S.nH := by omega
      subst e
      rw [if_neg (by omega)]
      exact Ret.mk trivial
theorem whichM (h : RM A S) (hO : OK t S) (hF : 1000 ≤ F) : Ret (x162_which F p u k A) (S.vw.which p u k) (fun _ => True) := by
  have h1 := hO.nH
  unfold x162_which
  exact whichM_loop hO hF F 0 A h (by omega) (by omega)
theorem Vw.zeroOf_b {p : Int} (hO : OK t S) (hp : S.isP p) : ∀ n, n ≤ S.nZ → -999 ≤ (S.vw.zAcc p u k n).2 ∧ (S.vw.zAcc p u k n).2 ≤ 999
  | 0, _ => hO.zero p.toNat (by omega)
  | n + 1, hn => by
    have ih := Vw.zeroOf_b hO hp n (by omega)
    have hz := hO.z n (by omega)
    rw [zAcc_s]
    split
    · exact hz.2.1
    · exact ih
theorem hasM (h : RM A S) (hO : OK t S) (hF : 1000 ≤ F) (hp : S.isP p) : Ret (x161_has F p u k A) (if S.vw.which p u k < 0 then 0 else 1) (fun A1 => 0 ≤ S.vw.which p u k → A1.1 91 54 = S.vw.lvl p u k) := by
  have h1 := hO.nH
  have hwb := S.vw.wAcc_b p u k S.nH
  have hwb1 : S.vw.which p u k < S.nH := hwb.1
  unfold x161_has
  refine Ret.bind (whichM h hO hF) (fun A1 e1 _ => ?_)
  have hM1 : RM A1 S := rm_fr h (wx162_which F e1) (by decide)
  by_cases hc : S.vw.which p u k < 0
  · rw [if_pos hc, if_pos hc]
    exact Ret.mk (fun hh => absurd hc (by omega))
  · have hb := hO.h (S.vw.which p u k).toNat (by omega)
    have hz : -999 ≤ S.vw.zeroOf p u k ∧ S.vw.zeroOf p u k ≤ 999 := Vw.zeroOf_b hO hp S.nZ (Nat.le_refl _)
    rw [if_neg hc, if_neg hc, gxp (by omega) (by omega), zeroM hM1 hO hF hp, hM1.hR]
    simp only [rz_b_some]
    rw [g32p (by omega)]
    exact Ret.mk (fun _ => rfl)
end WHICHM
