set_option maxRecDepth 8000
/-! a TEXT reckoned by the reference -/
def lpos (l : Nat) : Nat := (-(mst (-1 - (l : Int))) - 1).toNat
theorem mst_nn {x : Int} (h : 0 ≤ x) : mst x = x := by unfold mst; rw [if_pos h]
theorem mst_let {x : Int} (h : -13 ≤ x) (h0 : x < 0) : -24 ≤ mst x ∧ mst x ≤ -1 := by
  unfold mst
  rw [if_neg (by omega)]
  repeat' split
  all_goals omega
theorem or01 {a b : Int} (ha : a = 0 ∨ a = 1) (hb : b = 0 ∨ b = 1) : rz_oL gOr a b = joinV (-22) a b := by
  rcases ha with rfl | rfl <;> rcases hb with rfl | rfl <;> decide
theorem and01 {a b : Int} (ha : a = 0 ∨ a = 1) (hb : b = 0 ∨ b = 1) : rz_oL gAnd a b = joinV (-21) a b := by
  rcases ha with rfl | rfl <;> rcases hb with rfl | rfl <;> decide
section EVALM
variable {t F : Nat} {A : rz_A} {S : St} {a b c d e p u k q dy x : Int}
theorem RM_136 {j : Nat} {v : Int} (h : RM A S) : RM (aL A 136 j v) S := (RM.of ⟨(RM.now h :), (RM.nP h :), (RM.nZ h :), (RM.nH h :), (RM.nF h :), (RM.nS h :), (RM.nU h :), (RM.nB h :), (RM.nT h :), (RM.nR h :), (RM.limit h :), (RM.zero h :), (RM.low h :), (RM.beside h :), (RM.stN h :), (RM.bN h :), (RM.stF h :), (RM.bH h :), (RM.bF h :), (RM.zP h :), (RM.zZ h :), (RM.zF h :), (RM.zK h :), (RM.hP h :), (RM.hT h :), (RM.hK h :), (RM.hR h :), (RM.hKn h :), (RM.hS h :), (RM.fP h :), (RM.fT h :), (RM.fN h :), (RM.fW h :), (RM.fKn h :), (RM.fS h :), (RM.uP h :), (RM.uK h :), (RM.uF h :), (RM.uT h :), (RM.uM h :), (RM.uKn h :), (RM.sP h :), (RM.sD h :), (RM.sT h :), (RM.sN h :), (RM.st h :), (RM.pP h :), (RM.pT h :), (RM.pF h :), (RM.tB h :), (RM.rB h :), (RM.ref h :)⟩)
theorem saysM_loop (hO : OK t S) {s : Nat} (hs : s < S.nS) {L : Nat → Int} (hL : ∀ j, j < 13 → -1000000000 ≤ L j ∧ L j ≤ 1000000000) : ∀ (n i : Nat) (A : rz_A), RM A S → (∀ j, j < 13 → A.2 133 (lpos j) = L j) → (∀ j, j < (evN L (S.st s) i).2 → A.2 136 j = (evN L (S.st s) i).1 j) → i ≤ (S.sN s).toNat → (S.sN s).toNat < n + i → Ret (x158_says_4 F n s (evN L (S.st s) i).2 i A) (S.vw.says s L) (fun _ => True) := by
  have hS := hO.s s hs
  have hv := hO.sv s
  have hn := hO.nS
  have hf : ∀ i, i < (S.sN s).toNat → -28 ≤ S.st s i ∧ S.st s i ≤ 99999 := fun i hi => hv i hs (by omega)
  intro n
  induction n with
  | zero => intro i A h h1 h2 h3 h4; omega
  | succ n ih =>
    intro i A h hLt hpile hi hn2
    obtain ⟨ty, hty⟩ := tyN_pre hS.2.2.2.2 i hi
    obtain ⟨e1, e2⟩ := ev_ok hL hf hi hty
    have hlen := tyN_len hty
    unfold x158_says_4
    rw [gxp (by omega) (by omega), h.sN, Int.toNat_natCast]
    by_cases hl : i < (S.sN s).toNat
    · rw [if_pos (by omega), g32p (by omega), g32p (by omega), gxp (by omega) (by omega)]
      have hx : A.1 126 (130 * (s : Int) + i).toNat = mst (S.st s i) := by
        rw [show (130 * (s : Int) + i).toNat = 130 * s + i by omega]
        exact h.st s i hs (by omega)
      simp only [hx]
      obtain ⟨ty', hty'⟩ := tyN_pre hS.2.2.2.2 (i + 1) (by omega)
      obtain ⟨r0, g1, g2⟩ := tyN_s hty'
      rw [hty] at g1
      cases g1
      have hb := hf i hl
      have ihn := fun A' => ih (i + 1) A'
      rw [evN_s] at ihn
      generalize S.st s i = x at hx g2 hb ihn ⊢
      generalize evN L (S.st s) i = ee at hpile e1 e2 ihn ⊢
      unfold evS at ihn
      have hup : ∀ (k j : Nat) (v : Int), (aL A 136 k v).2 136 j = up (A.2 136) k v j := fun _ _ _ => rfl
      have hcast : (i : Int) + 1 = ((i + 1 : Nat) : Int) := by omega
      rcases tyStep_cases g2 with ⟨hx1, rfl⟩ | ⟨hx1, r', rfl, rfl⟩ | ⟨hx1, r', rfl, rfl⟩ | ⟨hx1, r', rfl, rfl⟩ | ⟨hx1, r', rfl, rfl⟩
      · by_cases h0 : 0 ≤ x
        · rw [mst_nn h0, if_pos h0, g32p (by omega), gxp (by omega) (by omega), g32p (by omega), Int.toNat_natCast, hcast]
          rw [if_pos h0] at ihn
          refine ihn _ (RM_136 h) hLt (fun j hj => ?_) (by omega) (by omega)
          rw [hup]
          have hj' : j < ee.2 + 1 := hj
          show up (A.2 136) ee.2 x j = up ee.1 ee.2 x j
          unfold up
          split
          · rfl
          · exact hpile j (by omega)
        · have hm := mst_let hx1 (by omega)
          have hlt := hLt (-1 - x).toNat (by omega)
          have hq : lpos (-1 - x).toNat = (-(mst x) - 1).toNat := by
            unfold lpos
            rw [show -1 - (((-1 - x).toNat : Nat) : Int) = x by omega]
          rw [hq] at hlt
          rw [if_neg (by omega), if_pos (by omega), g32p (by omega), g32p (by omega), g32p (by omega), gxp (by omega) (by omega), gxp (by omega) (by omega), g32p (by omega), Int.toNat_natCast, hcast, hlt]
          rw [if_neg h0, if_pos hx1] at ihn
          refine ihn _ (RM_136 h) hLt (fun j hj => ?_) (by omega) (by omega)
          rw [hup]
          have hj' : j < ee.2 + 1 := hj
          show up (A.2 136) ee.2 (L (-1 - x).toNat) j = up ee.1 ee.2 (L (-1 - x).toNat) j
          unfold up
          split
          · rfl
          · exact hpile j (by omega)
      · subst hx1
        rw [show mst (-20) = -42 from rfl]
        have e1' : ee.2 = r'.length + 1 := e1
        have hz := e2.1
        rw [if_pos rfl] at hz
        have hp1 := hpile (ee.2 - 1) (by omega)
        have ht : ((ee.2 : Int) - 1).toNat = ee.2 - 1 := by omega
        have hp2 : ee.1 (ee.2 - 1) = ee.1 r'.length := by rw [show ee.2 - 1 = r'.length by omega]
        rw [if_neg (by omega), if_neg (by omega), if_pos rfl, g32p (by omega), gxp (by omega) (by omega), ht, hp1, g64p (by omega), g32p (by omega), hcast]
        rw [if_neg (by omega), if_neg (by omega), if_pos rfl] at ihn
        refine ihn _ (RM_136 h) hLt (fun j hj => ?_) (by omega) (by omega)
        rw [hup]
        have hj' : j < ee.2 := hj
        show up (A.2 136) (ee.2 - 1) (1 - ee.1 (ee.2 - 1)) j = up ee.1 (ee.2 - 1) (1 - ee.1 (ee.2 - 1)) j
        unfold up
        split
        · rfl
        · exact hpile j hj'
      all_goals
        have e1' : ee.2 = r'.length + 1 + 1 := e1
        have hp1 := hpile (ee.2 - 1) (by omega)
        have hp2 := hpile (ee.2 - 2) (by omega)
        have t1 : ((ee.2 : Int) + (-1)).toNat = ee.2 - 1 := by omega
        have t2 : ((ee.2 : Int) + (-1) - 1).toNat = ee.2 - 2 := by omega
        have z1 := e2.1
        have z2 := e2.2.1
        simp only [List.length_cons, if_true, if_false, Bool.false_eq_true] at z1 z2
        rw [show r'.length + 1 = ee.2 - 1 by omega] at z1
        rw [show r'.length = ee.2 - 2 by omega] at z2
        have b1 : -1000000000 ≤ ee.1 (ee.2 - 1) ∧ ee.1 (ee.2 - 1) ≤ 1000000000 := by omega
        have b2 : -1000000000 ≤ ee.1 (ee.2 - 2) ∧ ee.1 (ee.2 - 2) ≤ 1000000000 := by omega
        have hmul := mul_b b2 b1
        have ec : (ee.2 : Int) + (-1) = ((ee.2 - 1 : Nat) : Int) := by omega
        rw [if_neg (by omega), if_neg (by omega), if_neg (by omega)] at ihn
        have fin : ∀ v, v = joinV x (ee.1 (ee.2 - 2)) (ee.1 (ee.2 - 1)) → Ret (x158_says_4 F n s ((ee.2 : Int) + (-1)) ((i : Int) + 1) (aL A 136 (ee.2 - 2) v)) (S.vw.says s L) (fun _ => True) := by
          intro v hvv
          subst hvv
          rw [ec, hcast]
          refine ihn _ (RM_136 h) hLt (fun j hj => ?_) (by omega) (by omega)
          rw [hup]
          have hj' : j < ee.2 - 1 := hj
          show up (A.2 136) (ee.2 - 2) (joinV x (ee.1 (ee.2 - 2)) (ee.1 (ee.2 - 1))) j = up ee.1 (ee.2 - 2) (joinV x (ee.1 (ee.2 - 2)) (ee.1 (ee.2 - 1))) j
          unfold up
          split
          · rfl
          · exact hpile j (by omega)
      · rcases hx1 with rfl | rfl
        · rw [show mst (-21) = -41 from rfl]
          simp only [Int.reduceNeg, Int.reduceEq, Int.reduceLT, Int.reduceLE, if_true, if_false]
          rw [g32p (by omega), g32p (by omega), gxp (by omega) (by omega), gxp (by omega) (by omega), t1, t2, hp1, hp2]
          rw [g32p (by omega)]
          exact fin _ (and01 z2 z1)
        · rw [show mst (-22) = -40 from rfl]
          simp only [Int.reduceNeg, Int.reduceEq, Int.reduceLT, Int.reduceLE, if_true, if_false]
          rw [g32p (by omega), g32p (by omega), gxp (by omega) (by omega), gxp (by omega) (by omega), t1, t2, hp1, hp2]
          rw [g32p (by omega)]
          exact fin _ (or01 z2 z1)
      · rcases hx1 with rfl | rfl | rfl
        · rw [show mst (-23) = -43 from rfl]
          simp only [Int.reduceNeg, Int.reduceEq, Int.reduceLT, Int.reduceLE, if_true, if_false]
          rw [g32p (by omega), g32p (by omega), gxp (by omega) (by omega), gxp (by omega) (by omega), t1, t2, hp1, hp2]
          by_cases hc : ee.1 (ee.2 - 2) < ee.1 (ee.2 - 1)
          · rw [if_pos hc, g32p (by omega)]
            exact fin _ (by unfold joinV; simp [hc])
          · rw [if_neg hc, g32p (by omega)]
            exact fin _ (by unfold joinV; simp [hc])
        · rw [show mst (-24) = -44 from rfl]
          simp only [Int.reduceNeg, Int.reduceEq, Int.reduceLT, Int.reduceLE, if_true, if_false]
          rw [g32p (by omega), g32p (by omega), gxp (by omega) (by omega), gxp (by omega) (by omega), t1, t2, hp1, hp2]
          by_cases hc : ee.1 (ee.2 - 2) = ee.1 (ee.2 - 1)
          · rw [if_pos hc, g32p (by omega)]
            exact fin _ (by unfold joinV; simp [hc])
          · rw [if_neg hc, g32p (by omega)]
            exact fin _ (by unfold joinV; simp [hc])
        · rw [show mst (-25) = -45 from rfl]
          simp only [Int.reduceNeg, Int.reduceEq, Int.reduceLT, Int.reduceLE, if_true, if_false]
          rw [g32p (by omega), g32p (by omega), gxp (by omega) (by omega), gxp (by omega) (by omega), t1, t2, hp1, hp2]
          by_cases hc : ee.1 (ee.2 - 1) < ee.1 (ee.2 - 2)
          · rw [if_pos hc, g32p (by omega)]
            exact fin _ (by unfold joinV; simp [hc])
          · rw [if_neg hc, g32p (by omega)]
            exact fin _ (by unfold joinV; simp [hc])
      · rcases hx1 with rfl | rfl | rfl
        · rw [show mst (-26) = -46 from rfl]
          simp only [Int.reduceNeg, Int.reduceEq, Int.reduceLT, Int.reduceLE, if_true, if_false, heldM, rz_b_some]
          rw [g32p (by omega), g32p (by omega), gxp (by omega) (by omega), gxp (by omega) (by omega), t1, t2, hp1, hp2]
          rw [g64p (by omega), g32p (by omega)]
          exact fin _ (by unfold joinV; simp)
        · rw [show mst (-27) = -47 from rfl]
          simp only [Int.reduceNeg, Int.reduceEq, Int.reduceLT, Int.reduceLE, if_true, if_false, heldM, rz_b_some]
          rw [g32p (by omega), g32p (by omega), gxp (by omega) (by omega), gxp (by omega) (by omega), t1, t2, hp1, hp2]
          rw [g64p (by omega), g32p (by omega)]
          exact fin _ (by unfold joinV; simp)
        · rw [show mst (-28) = -48 from rfl]
          simp only [Int.reduceNeg, Int.reduceEq, Int.reduceLT, Int.reduceLE, if_true, if_false, heldM, rz_b_some]
          rw [g32p (by omega), g32p (by omega), gxp (by omega) (by omega), gxp (by omega) (by omega), t1, t2, hp1, hp2]
          rw [g64p hmul, g32p (by omega)]
          exact fin _ (by unfold joinV; simp)
    · have ei : i = (S.sN s).toNat := by omega
      subst ei
      rw [if_neg (by omega)]
      have hT := hS.2.2.2.2
      rw [hty] at hT
      cases hT
      have e0 : (evN L (S.st s) (S.sN s).toNat).2 = 1 := e1
      have hp := hpile 0 (by omega)
      unfold x158_says_273 Vw.says
      rw [hp]
      show Ret _ (if (evN L (S.st s) (S.sN s).toNat).1 0 = 0 then (0 : Int) else 1) _
      split
      · exact Ret.mk trivial
      · exact Ret.mk trivial
theorem saysM (h : RM A S) (hO : OK t S) (hF : 1000 ≤ F) {s : Nat} (hs : s < S.nS) {L : Nat → Int} (hL : ∀ j, j < 13 → -1000000000 ≤ L j ∧ L j ≤ 1000000000) (hA : ∀ j, j < 13 → A.2 133 (lpos j) = L j) : Ret (x158_says F s A) (S.vw.says s L) (fun _ => True) := by
  have hn := hO.nS
  have hS := hO.s s hs
  unfold x158_says
  exact saysM_loop (F := F) hO hs hL F 0 A h hA (fun j hj => absurd hj (Nat.not_lt_zero j)) (by omega) (by omega)
end EVALM
