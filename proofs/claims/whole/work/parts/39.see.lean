set_option maxRecDepth 8000
/-! a view by the class -/
/-- how a HEIGHT is marked: 2 told, 1 by the TEXT -/
def Vw.mk (V : Vw) (h : Nat) (k : Int) : Int := if V.hKn h ≤ k ∧ 0 ≤ V.hR h then (if V.told h k then 2 else V.byStd h k) else 0
def View (A : rz_A) (V : Vw) (k : Int) : Prop := (A.1 51 3 = k) ∧ (0 ≤ A.1 51 10 ∧ A.1 51 10 ≤ V.nH) ∧ (∀ x y : Nat, x < y → (y : Int) < A.1 51 10 → A.1 53 x < A.1 53 y) ∧ (∀ x : Nat, (x : Int) < A.1 51 10 → ∃ p u : Int, (0 ≤ p ∧ p < 6) ∧ (0 ≤ u ∧ u ≤ 9999) ∧ A.1 53 x = p * 16384 + u ∧ 0 ≤ V.which p u k ∧ A.1 54 x = V.lvl p u k) ∧ (∀ p u : Int, 0 ≤ p → p < 6 → 0 ≤ u → u ≤ 9999 → 0 ≤ V.which p u k → ∃ x : Nat, (x : Int) < A.1 51 10 ∧ A.1 53 x = p * 16384 + u) ∧ (∀ h, h < V.nH → A.1 52 h = V.mk h k)
theorem View.of {A : rz_A} {V : Vw} {k : Int} (h : (A.1 51 3 = k) ∧ (0 ≤ A.1 51 10 ∧ A.1 51 10 ≤ V.nH) ∧ (∀ x y : Nat, x < y → (y : Int) < A.1 51 10 → A.1 53 x < A.1 53 y) ∧ (∀ x : Nat, (x : Int) < A.1 51 10 → ∃ p u : Int, (0 ≤ p ∧ p < 6) ∧ (0 ≤ u ∧ u ≤ 9999) ∧ A.1 53 x = p * 16384 + u ∧ 0 ≤ V.which p u k ∧ A.1 54 x = V.lvl p u k) ∧ (∀ p u : Int, 0 ≤ p → p < 6 → 0 ≤ u → u ≤ 9999 → 0 ≤ V.which p u k → ∃ x : Nat, (x : Int) < A.1 51 10 ∧ A.1 53 x = p * 16384 + u) ∧ (∀ h, h < V.nH → A.1 52 h = V.mk h k)) : View A V k := h
theorem View.kk {A : rz_A} {V : Vw} {k : Int} (h : View A V k) : A.1 51 3 = k := h.1
theorem View.n {A : rz_A} {V : Vw} {k : Int} (h : View A V k) : 0 ≤ A.1 51 10 ∧ A.1 51 10 ≤ V.nH := h.2.1
theorem View.sort {A : rz_A} {V : Vw} {k : Int} (h : View A V k) : ∀ x y : Nat, x < y → (y : Int) < A.1 51 10 → A.1 53 x < A.1 53 y := h.2.2.1
theorem View.snd {A : rz_A} {V : Vw} {k : Int} (h : View A V k) : ∀ x : Nat, (x : Int) < A.1 51 10 → ∃ p u : Int, (0 ≤ p ∧ p < 6) ∧ (0 ≤ u ∧ u ≤ 9999) ∧ A.1 53 x = p * 16384 + u ∧ 0 ≤ V.which p u k ∧ A.1 54 x = V.lvl p u k := h.2.2.2.1
theorem View.cmp {A : rz_A} {V : Vw} {k : Int} (h : View A V k) : ∀ p u : Int, 0 ≤ p → p < 6 → 0 ≤ u → u ≤ 9999 → 0 ≤ V.which p u k → ∃ x : Nat, (x : Int) < A.1 51 10 ∧ A.1 53 x = p * 16384 + u := h.2.2.2.2.1
theorem View.mark {A : rz_A} {V : Vw} {k : Int} (h : View A V k) : ∀ h, h < V.nH → A.1 52 h = V.mk h k := h.2.2.2.2.2
def SeeA (A : rz_A) (S : St) (k : Int) (rd : Int) (O : Nat → Int) (o : Nat → Nat) (i : Nat) : Prop := (RC A S) ∧ (A.1 25 = O) ∧ (A.1 51 3 = k) ∧ (A.1 51 4 = rd) ∧ (A.1 51 5 = 1) ∧ (0 ≤ A.1 51 10) ∧ (SeeV (A.1 53) (A.1 54) (A.1 55) (A.1 51 10).toNat S.vw k o i) ∧ (∀ j, j < i → A.1 52 (o j) = S.vw.mk (o j) k)
theorem SeeA.of {A : rz_A} {S : St} {k : Int} {rd : Int} {O : Nat → Int} {o : Nat → Nat} {i : Nat} (h : (RC A S) ∧ (A.1 25 = O) ∧ (A.1 51 3 = k) ∧ (A.1 51 4 = rd) ∧ (A.1 51 5 = 1) ∧ (0 ≤ A.1 51 10) ∧ (SeeV (A.1 53) (A.1 54) (A.1 55) (A.1 51 10).toNat S.vw k o i) ∧ (∀ j, j < i → A.1 52 (o j) = S.vw.mk (o j) k)) : SeeA A S k rd O o i := h
theorem SeeA.rc {A : rz_A} {S : St} {k : Int} {rd : Int} {O : Nat → Int} {o : Nat → Nat} {i : Nat} (h : SeeA A S k rd O o i) : RC A S := h.1
theorem SeeA.o25 {A : rz_A} {S : St} {k : Int} {rd : Int} {O : Nat → Int} {o : Nat → Nat} {i : Nat} (h : SeeA A S k rd O o i) : A.1 25 = O := h.2.1
theorem SeeA.k3 {A : rz_A} {S : St} {k : Int} {rd : Int} {O : Nat → Int} {o : Nat → Nat} {i : Nat} (h : SeeA A S k rd O o i) : A.1 51 3 = k := h.2.2.1
theorem SeeA.rd {A : rz_A} {S : St} {k : Int} {rd : Int} {O : Nat → Int} {o : Nat → Nat} {i : Nat} (h : SeeA A S k rd O o i) : A.1 51 4 = rd := h.2.2.2.1
theorem SeeA.st {A : rz_A} {S : St} {k : Int} {rd : Int} {O : Nat → Int} {o : Nat → Nat} {i : Nat} (h : SeeA A S k rd O o i) : A.1 51 5 = 1 := h.2.2.2.2.1
theorem SeeA.n0 {A : rz_A} {S : St} {k : Int} {rd : Int} {O : Nat → Int} {o : Nat → Nat} {i : Nat} (h : SeeA A S k rd O o i) : 0 ≤ A.1 51 10 := h.2.2.2.2.2.1
theorem SeeA.see {A : rz_A} {S : St} {k : Int} {rd : Int} {O : Nat → Int} {o : Nat → Nat} {i : Nat} (h : SeeA A S k rd O o i) : SeeV (A.1 53) (A.1 54) (A.1 55) (A.1 51 10).toNat S.vw k o i := h.2.2.2.2.2.2.1
theorem SeeA.mk {A : rz_A} {S : St} {k : Int} {rd : Int} {O : Nat → Int} {o : Nat → Nat} {i : Nat} (h : SeeA A S k rd O o i) : ∀ j, j < i → A.1 52 (o j) = S.vw.mk (o j) k := h.2.2.2.2.2.2.2
section SEEC
variable {t F : Nat} {A : rz_A} {S : St} {a b c d e p u k q dy x va vb rd v : Int} {O : Nat → Int} {o : Nat → Nat} {i : Nat}
theorem absC (h : r32 (-a)) : x24_abs F a A = some (if a < 0 then -a else a, A) := by
  unfold x24_abs
  split
  · rw [g32p h]
  · rfl
theorem byTextC (h : RC A S) (hO : OK t S) (hF : 1000 ≤ F) (hk : A.1 51 3 = k) {g : Nat} (hg : g < S.nH) (hr : 0 ≤ S.hR g) (ha : a = S.vw.ahead g k) : Ret (x21_isStruckByText F g a A) (S.vw.byStd g k) (fun _ => True) := by
  have h1 := hO.nH
  have hb := hO.h g hg
  have e1 := tdiv96 hb.2.1.1
  have hbs : S.vw.byStd g k = if S.vw.inForce 0 ((S.hT g).tdiv 96) k < 0 then 0 else S.vw.says (S.vw.inForce 0 ((S.hT g).tdiv 96) k).toNat (S.vw.strikeL g (S.vw.ahead g k)) := by
    unfold Vw.byStd
    rw [show S.vw.hR g = S.hR g from rfl, show S.vw.hT g = S.hT g from rfl, if_neg (by omega)]
  rw [hbs]
  unfold x21_isStruckByText
  rw [Int.toNat_natCast, gxp (by omega) (by omega), h.hT, hk, g32p (by omega), forceC h hO hF]
  simp only [rz_b_some]
  have hfb := S.vw.fAcc_lt (q := 0) (dy := (S.hT g).tdiv 96) (k := k) S.nS
  have hfb2 : S.vw.inForce 0 ((S.hT g).tdiv 96) k < S.nS := hfb.1
  by_cases hs : S.vw.inForce 0 ((S.hT g).tdiv 96) k < 0
  · rw [if_pos hs, if_pos hs]
    exact Ret.mk trivial
  · rw [if_neg hs, if_neg hs]
    generalize hsg : S.vw.inForce 0 ((S.hT g).tdiv 96) k = si at *
    have hab := S.vw.aAcc_b g k S.nH
    have hab1 : S.vw.ahead g k < S.nH := hab.1
    refine Ret.bind (lettersC (A := A) hF hb.2.1) (fun A8 e8 h8 => ?_)
    have hM8 : RC A8 S := rc_fr h (wx23_lettersOf F e8) (by decide)
    have hL := strikeL_b hO hg hab1
    have fin : ∀ (va vb : Int), va = S.vw.strikeL g (S.vw.ahead g k) 4 → vb = S.vw.strikeL g (S.vw.ahead g k) 5 → Ret (rz_b (x25_holds F si (aI (aI (aI (aI A8 49 2 (S.hR g)) 49 3 (S.hK g)) 49 4 va) 49 5 vb)) fun r A => rz_gz r (some (r, A))) (S.vw.says si.toNat (S.vw.strikeL g (S.vw.ahead g k))) (fun _ => True) := by
      intro va vb hva hvb
      have hsy := holdsC (F := F) (A := (aI (aI (aI (aI A8 49 2 (S.hR g)) 49 3 (S.hK g)) 49 4 va) 49 5 vb)) (RC_49 (RC_49 (RC_49 (RC_49 hM8)))) hO hF (s := si.toNat) (by omega) hL (letC h8 hva hvb)
      rw [show ((si.toNat : Nat) : Int) = si by omega] at hsy
      refine Ret.bind hsy (fun A9 _ _ => ?_)
      exact Ret.gz (S.vw.says01 _ _) (Ret.mk trivial)
    subst ha
    simp only [hM8.hR, hM8.hK]
    by_cases ha : S.vw.ahead g k < 0
    · rw [if_pos ha]
      exact fin 0 9999 (by show (0 : Int) = if S.vw.ahead g k < 0 then 0 else _; rw [if_pos ha]) (by show (9999 : Int) = if S.vw.ahead g k < 0 then 9999 else _; rw [if_pos ha])
    · have hb2 := hO.h (S.vw.ahead g k).toNat (by omega)
      have v5 : S.hT g - S.hT (S.vw.ahead g k).toNat = S.vw.strikeL g (S.vw.ahead g k) 5 := by
        show _ = if S.vw.ahead g k < 0 then 9999 else _
        rw [if_neg ha]
        rfl
      rw [if_neg ha, gxp (by omega) (by omega), g32p (by omega), absC (by omega)]
      simp only [rz_b_some]
      have e20 : (aI (aI A8 49 2 (S.hR g)) 49 3 (S.hK g)).1 20 = S.hT := (RC_49 (RC_49 hM8)).hT
      rw [e20, g32p (by omega)]
      refine fin _ _ ?_ v5
      show _ = if S.vw.ahead g k < 0 then 0 else if S.hR (S.vw.ahead g k).toNat < S.hR g then S.hR g - S.hR (S.vw.ahead g k).toNat else S.hR (S.vw.ahead g k).toNat - S.hR g
      rw [if_neg ha]
      split <;> split <;> omega
theorem RC_51 {j : Nat} {v : Int} (h : RC A S) : RC (aI A 51 j v) S := (RC.of ⟨(RC.now h :), (RC.limit h :), (RC.nP h :), (RC.nZ h :), (RC.nH h :), (RC.nF h :), (RC.nU h :), (RC.nS h :), (RC.nB h :), (RC.nT h :), (RC.nR h :), (RC.zero h :), (RC.low h :), (RC.beside h :), (RC.stN h :), (RC.stF0 h :), (RC.stF1 h :), (RC.stF2 h :), (RC.stF3 h :), (RC.stF4 h :), (RC.stF5 h :), (RC.bN0 h :), (RC.bN1 h :), (RC.bN2 h :), (RC.bN3 h :), (RC.bN4 h :), (RC.bN5 h :), (RC.bH0 h :), (RC.bH1 h :), (RC.bH2 h :), (RC.bH3 h :), (RC.bH4 h :), (RC.bH5 h :), (RC.bF0 h :), (RC.bF1 h :), (RC.bF2 h :), (RC.bF3 h :), (RC.bF4 h :), (RC.bF5 h :), (RC.zP h :), (RC.zZ h :), (RC.zF h :), (RC.zK h :), (RC.hP h :), (RC.hT h :), (RC.hK h :), (RC.hR h :), (RC.hKn h :), (RC.hS h :), (RC.hSm h :), (RC.fP h :), (RC.fT h :), (RC.fN h :), (RC.fW h :), (RC.fKn h :), (RC.fS h :), (RC.uP h :), (RC.uK h :), (RC.uF h :), (RC.uT h :), (RC.uM h :), (RC.uKn h :), (RC.sP h :), (RC.sD h :), (RC.sT h :), (RC.sN h :), (RC.st h :), (RC.pP h :), (RC.pT h :), (RC.pF h :), (RC.tB h :), (RC.rB h :), (RC.ref h :), (RC.ordR h :), (RC.ordS h :), (RC.ordA h :)⟩)
theorem RC_52 {j : Nat} {v : Int} (h : RC A S) : RC (aI A 52 j v) S := (RC.of ⟨(RC.now h :), (RC.limit h :), (RC.nP h :), (RC.nZ h :), (RC.nH h :), (RC.nF h :), (RC.nU h :), (RC.nS h :), (RC.nB h :), (RC.nT h :), (RC.nR h :), (RC.zero h :), (RC.low h :), (RC.beside h :), (RC.stN h :), (RC.stF0 h :), (RC.stF1 h :), (RC.stF2 h :), (RC.stF3 h :), (RC.stF4 h :), (RC.stF5 h :), (RC.bN0 h :), (RC.bN1 h :), (RC.bN2 h :), (RC.bN3 h :), (RC.bN4 h :), (RC.bN5 h :), (RC.bH0 h :), (RC.bH1 h :), (RC.bH2 h :), (RC.bH3 h :), (RC.bH4 h :), (RC.bH5 h :), (RC.bF0 h :), (RC.bF1 h :), (RC.bF2 h :), (RC.bF3 h :), (RC.bF4 h :), (RC.bF5 h :), (RC.zP h :), (RC.zZ h :), (RC.zF h :), (RC.zK h :), (RC.hP h :), (RC.hT h :), (RC.hK h :), (RC.hR h :), (RC.hKn h :), (RC.hS h :), (RC.hSm h :), (RC.fP h :), (RC.fT h :), (RC.fN h :), (RC.fW h :), (RC.fKn h :), (RC.fS h :), (RC.uP h :), (RC.uK h :), (RC.uF h :), (RC.uT h :), (RC.uM h :), (RC.uKn h :), (RC.sP h :), (RC.sD h :), (RC.sT h :), (RC.sN h :), (RC.st h :), (RC.pP h :), (RC.pT h :), (RC.pF h :), (RC.tB h :), (RC.rB h :), (RC.ref h :), (RC.ordR h :), (RC.ordS h :), (RC.ordA h :)⟩)
theorem RC_53 {j : Nat} {v : Int} (h : RC A S) : RC (aI A 53 j v) S := (RC.of ⟨(RC.now h :), (RC.limit h :), (RC.nP h :), (RC.nZ h :), (RC.nH h :), (RC.nF h :), (RC.nU h :), (RC.nS h :), (RC.nB h :), (RC.nT h :), (RC.nR h :), (RC.zero h :), (RC.low h :), (RC.beside h :), (RC.stN h :), (RC.stF0 h :), (RC.stF1 h :), (RC.stF2 h :), (RC.stF3 h :), (RC.stF4 h :), (RC.stF5 h :), (RC.bN0 h :), (RC.bN1 h :), (RC.bN2 h :), (RC.bN3 h :), (RC.bN4 h :), (RC.bN5 h :), (RC.bH0 h :), (RC.bH1 h :), (RC.bH2 h :), (RC.bH3 h :), (RC.bH4 h :), (RC.bH5 h :), (RC.bF0 h :), (RC.bF1 h :), (RC.bF2 h :), (RC.bF3 h :), (RC.bF4 h :), (RC.bF5 h :), (RC.zP h :), (RC.zZ h :), (RC.zF h :), (RC.zK h :), (RC.hP h :), (RC.hT h :), (RC.hK h :), (RC.hR h :), (RC.hKn h :), (RC.hS h :), (RC.hSm h :), (RC.fP h :), (RC.fT h :), (RC.fN h :), (RC.fW h :), (RC.fKn h :), (RC.fS h :), (RC.uP h :), (RC.uK h :), (RC.uF h :), (RC.uT h :), (RC.uM h :), (RC.uKn h :), (RC.sP h :), (RC.sD h :), (RC.sT h :), (RC.sN h :), (RC.st h :), (RC.pP h :), (RC.pT h :), (RC.pF h :), (RC.tB h :), (RC.rB h :), (RC.ref h :), (RC.ordR h :), (RC.ordS h :), (RC.ordA h :)⟩)
theorem RC_54 {j : Nat} {v : Int} (h : RC A S) : RC (aI A 54 j v) S := (RC.of ⟨(RC.now h :), (RC.limit h :), (RC.nP h :), (RC.nZ h :), (RC.nH h :), (RC.nF h :), (RC.nU h :), (RC.nS h :), (RC.nB h :), (RC.nT h :), (RC.nR h :), (RC.zero h :), (RC.low h :), (RC.beside h :), (RC.stN h :), (RC.stF0 h :), (RC.stF1 h :), (RC.stF2 h :), (RC.stF3 h :), (RC.stF4 h :), (RC.stF5 h :), (RC.bN0 h :), (RC.bN1 h :), (RC.bN2 h :), (RC.bN3 h :), (RC.bN4 h :), (RC.bN5 h :), (RC.bH0 h :), (RC.bH1 h :), (RC.bH2 h :), (RC.bH3 h :), (RC.bH4 h :), (RC.bH5 h :), (RC.bF0 h :), (RC.bF1 h :), (RC.bF2 h :), (RC.bF3 h :), (RC.bF4 h :), (RC.bF5 h :), (RC.zP h :), (RC.zZ h :), (RC.zF h :), (RC.zK h :), (RC.hP h :), (RC.hT h :), (RC.hK h :), (RC.hR h :), (RC.hKn h :), (RC.hS h :), (RC.hSm h :), (RC.fP h :), (RC.fT h :), (RC.fN h :), (RC.fW h :), (RC.fKn h :), (RC.fS h :), (RC.uP h :), (RC.uK h :), (RC.uF h :), (RC.uT h :), (RC.uM h :), (RC.uKn h :), (RC.sP h :), (RC.sD h :), (RC.sT h :), (RC.sN h :), (RC.st h :), (RC.pP h :), (RC.pT h :), (RC.pF h :), (RC.tB h :), (RC.rB h :), (RC.ref h :), (RC.ordR h :), (RC.ordS h :), (RC.ordA h :)⟩)
theorem RC_55 {j : Nat} {v : Int} (h : RC A S) : RC (aI A 55 j v) S := (RC.of ⟨(RC.now h :), (RC.limit h :), (RC.nP h :), (RC.nZ h :), (RC.nH h :), (RC.nF h :), (RC.nU h :), (RC.nS h :), (RC.nB h :), (RC.nT h :), (RC.nR h :), (RC.zero h :), (RC.low h :), (RC.beside h :), (RC.stN h :), (RC.stF0 h :), (RC.stF1 h :), (RC.stF2 h :), (RC.stF3 h :), (RC.stF4 h :), (RC.stF5 h :), (RC.bN0 h :), (RC.bN1 h :), (RC.bN2 h :), (RC.bN3 h :), (RC.bN4 h :), (RC.bN5 h :), (RC.bH0 h :), (RC.bH1 h :), (RC.bH2 h :), (RC.bH3 h :), (RC.bH4 h :), (RC.bH5 h :), (RC.bF0 h :), (RC.bF1 h :), (RC.bF2 h :), (RC.bF3 h :), (RC.bF4 h :), (RC.bF5 h :), (RC.zP h :), (RC.zZ h :), (RC.zF h :), (RC.zK h :), (RC.hP h :), (RC.hT h :), (RC.hK h :), (RC.hR h :), (RC.hKn h :), (RC.hS h :), (RC.hSm h :), (RC.fP h :), (RC.fT h :), (RC.fN h :), (RC.fW h :), (RC.fKn h :), (RC.fS h :), (RC.uP h :), (RC.uK h :), (RC.uF h :), (RC.uT h :), (RC.uM h :), (RC.uKn h :), (RC.sP h :), (RC.sD h :), (RC.sT h :), (RC.sN h :), (RC.st h :), (RC.pP h :), (RC.pT h :), (RC.pF h :), (RC.tB h :), (RC.rB h :), (RC.ref h :), (RC.ordR h :), (RC.ordS h :), (RC.ordA h :)⟩)
theorem keyC (hp : 0 ≤ p ∧ p < 6) (hu : -30000 ≤ u ∧ u ≤ 30000) : x14_keyOf F p u A = some (p * 16384 + u, A) := by
  unfold x14_keyOf
  rw [g32p (by omega), g32p (by omega)]
/-- the last writes of keep -/
theorem keep101C (h : RC A S) (hO : OK t S) (hF : 1000 ≤ F) (hk : A.1 51 3 = k) {g m : Nat} (hg : g < S.nH) (hm : A.1 51 10 = (m : Int) + 1) (hm2 : m < 300) : x30_keep_101 F g (S.hP g) (S.hT g) v A = some ((), aI (aI (aI A 53 m v) 55 m (S.hK g)) 54 m (S.hR g + S.vw.zeroOf (S.hP g) (S.hT g) k)) := by
  have h1 := hO.nH
  have h2 := hO.nP
  have hb := hO.h g hg
  have hz : -999 ≤ S.vw.zeroOf (S.hP g) (S.hT g) k ∧ S.vw.zeroOf (S.hP g) (S.hT g) k ≤ 999 := Vw.zeroOf_b hO hb.1 S.nZ (Nat.le_refl _)
  have em : ((A.1 51 10) - 1).toNat = m := by omega
  unfold x30_keep_101
  rw [em, Int.toNat_natCast, g32p (by omega), gxp (by omega) (by omega), gxp (by omega) (by omega), h.hK, hk, zeroC (RC_55 (RC_53 h)) hO hF hb.1]
  simp only [rz_b_some]
  rw [h.hR, g32p (by omega)]
theorem ord_inj (hO : Ord S.vw o) {i j : Nat} (hij : i < j) (hj : j < S.nH) : o i ≠ o j := by
  rcases hO.s i j hij hj with g | g
  · intro e
    rw [e] at g
    omega
  · omega
theorem keepC (h : SeeA A S k rd O o i) (hO : OK t S) (hB : VB S.vw) (hF : 1000 ≤ F) (hOr : Ord S.vw o) (hi : i < S.nH) (hmk : A.1 52 (o i) = S.vw.mk (o i) k) (hy : S.vw.el0 (o i) k ∧ S.vw.byStd (o i) k = 0) : Ret (x30_keep F (o i) A) () (fun A1 => SeeA A1 S k rd O o (i + 1)) := by
  have h1 := hO.nH
  have h2 := hO.nP
  have hg : o i < S.nH := hOr.r i hi
  have hb := hO.h (o i) hg
  have n0 := h.n0
  have hsl := h.see.le
  have hmk' : ∀ j, j < i + 1 → A.1 52 (o j) = S.vw.mk (o j) k := fun j hj => by
    by_cases e : j = i
    · rw [e]; exact hmk
    · exact h.mk j (by omega)
  unfold x30_keep
  rw [Int.toNat_natCast, gxp (by omega) (by omega), h.rc.hP, h.rc.hT, keyC (by omega) (by omega)]
  simp only [rz_b_some]
  have hkd : A.1 21 (o i) = S.hK (o i) := by rw [h.rc.hK]
  have hky : S.hP (o i) * 16384 + S.hT (o i) = S.vw.ky (o i) := rfl
  have app : ¬ (0 < (A.1 51 10).toNat ∧ A.1 53 ((A.1 51 10).toNat - 1) = S.vw.ky (o i)) → Ret (rz_g32 (A.1 51 10 + 1) (x30_keep_101 F (o i) (S.hP (o i)) (S.hT (o i)) (S.hP (o i) * 16384 + S.hT (o i)) (aI A 51 10 (A.1 51 10 + 1)))) () (fun A1 => SeeA A1 S k rd O o (i + 1)) := by
    intro hn
    rw [g32p (by omega)]
    rw [keep101C (k := k) (m := (A.1 51 10).toNat) (A := aI A 51 10 (A.1 51 10 + 1)) (RC_51 h.rc) hO hF h.k3 hg (by show A.1 51 10 + 1 = _; omega) (by omega)]
    refine Ret.mk (SeeA.of ⟨RC_54 (RC_55 (RC_53 (RC_51 h.rc))), h.o25, h.k3, h.rd, h.st, by show 0 ≤ A.1 51 10 + 1; omega, ?_, hmk'⟩)
    have := h.see.app hB hOr hi hy hn
    rw [show (A.1 51 10).toNat + 1 = (A.1 51 10 + 1).toNat by omega] at this
    exact this
  by_cases hn : 0 < A.1 51 10
  · have em : ((A.1 51 10) - 1).toNat = (A.1 51 10).toNat - 1 := by omega
    rw [if_pos hn, g32p (by omega), gxp (by omega) (by omega), em, hkd]
    by_cases hs : A.1 53 ((A.1 51 10).toNat - 1) = S.hP (o i) * 16384 + S.hT (o i)
    · rw [if_pos hs]
      have hov := h.see.over hB hOr hi hy (by omega) hs
      by_cases hc : S.hK (o i) < A.1 55 ((A.1 51 10).toNat - 1)
      · rw [if_pos hc]
        exact Ret.mk (SeeA.of ⟨h.rc, h.o25, h.k3, h.rd, h.st, h.n0, hov.1 hc, hmk'⟩)
      · rw [if_neg hc]
        rw [keep101C (k := k) (m := (A.1 51 10).toNat - 1) h.rc hO hF h.k3 hg (by omega) (by omega)]
        exact Ret.mk (SeeA.of ⟨RC_54 (RC_55 (RC_53 h.rc)), h.o25, h.k3, h.rd, h.st, h.n0, hov.2 hc, hmk'⟩)
    · rw [if_neg hs]
      exact app (fun hh => hs hh.2)
  · rw [if_neg hn]
    exact app (fun hh => by omega)
theorem seeC_loop (hO : OK t S) (hB : VB S.vw) (hF : 1000 ≤ F) (hk : 0 ≤ k ∧ k ≤ 9999) (ho : ∀ i, o i = (O i).toNat) (hOr : Ord S.vw o) : ∀ (n i : Nat) (v : Int) (A : rz_A), SeeA A S k rd O o i → AhV S.vw k o i v → i ≤ S.nH → S.nH < n + i → Ret (x20_see_45 F n v i A) () (fun A1 => SeeA A1 S k rd O o S.nH) := by
  have h1 := hO.nH
  intro n
  induction n with
  | zero => intro i v A h hv hi hn; omega
  | succ n ih =>
    intro i v A h hv hi hn
    unfold x20_see_45
    rw [h.rc.nH]
    by_cases hl : i < S.nH
    · have hg : o i < S.nH := hOr.r i hl
      have hb := hO.h (o i) hg
      have hr := h.rc.ordR i hl
      have e25 : A.1 25 i = (o i : Int) := by rw [ho, ← h.o25]; omega
      have vb := hv.vb
      have vb2 : v < S.nH := vb.2
      have hah := hv.first hB hOr hl
      rw [if_pos (by omega), gxp (by omega) (by omega), Int.toNat_natCast, e25, Int.toNat_natCast, h.rc.hP]
      have key : ∀ w, w = S.vw.ahead (o i) k → (¬ S.vw.el0 (o i) k → AhV S.vw k o (i + 1) w) → Ret (x20_see_95 F (x20_see_45 F n) w i (o i) A) () (fun A1 => SeeA A1 S k rd O o S.nH) := by
        intro w hw1 hw2
        unfold x20_see_95
        rw [gxp (by omega) (by omega), Int.toNat_natCast, h.rc.hKn, h.k3]
        have hcast : (i : Int) + 1 = ((i + 1 : Nat) : Int) := by omega
        have g32 : r32 ((i : Int) + 1) := by omega
        simp only [g32p g32]
        simp only [hcast]
        have put : ∀ (B : rz_A) (y : Int), RC B S → (∀ j, B.1 52 j = A.1 52 j ∨ j = o i) → B.1 25 = A.1 25 → (∀ j, B.1 51 j = A.1 51 j) → B.1 53 = A.1 53 → B.1 54 = A.1 54 → B.1 55 = A.1 55 → y = S.vw.mk (o i) k → ¬ (S.vw.el0 (o i) k ∧ S.vw.byStd (o i) k = 0) → SeeA (aI B 52 (o i) y) S k rd O o (i + 1) := by
          intro B y hB1 hB2 hB3 hB4 hB5 hB6 hB7 hy hne
          refine SeeA.of ⟨RC_52 hB1, ?_, ?_, ?_, ?_, ?_, ?_, ?_⟩
          · exact hB3.trans h.o25
          · exact (hB4 3).trans h.k3
          · exact (hB4 4).trans h.rd
          · exact (hB4 5).trans h.st
          · have := h.n0
            rw [← hB4 10] at this
            exact this
          · have hs := h.see.skip hne
            rw [← hB4 10, ← hB5, ← hB6, ← hB7] at hs
            exact hs
          · intro j hj
            show (if o j = o i then y else B.1 52 (o j)) = _
            by_cases e : j = i
            · rw [e, if_pos rfl]; exact hy
            · have hne2 := ord_inj hOr (i := j) (j := i) (by omega) hl
              rw [if_neg hne2]
              rcases hB2 (o j) with h9 | h9
              · rw [h9]; exact h.mk j (by omega)
              · exact absurd h9 hne2
        by_cases c1 : S.hKn (o i) ≤ k
        · rw [if_pos c1]
          have est : x17_isStuck F (o i) (aI A 52 (o i) 0) = some (if S.hR (o i) < 0 then 1 else 0, aI A 52 (o i) 0) := by
            unfold x17_isStuck
            have e22 : (aI A 52 (o i) 0).1 22 = S.hR := h.rc.hR
            rw [Int.toNat_natCast, gxp (by omega) (by omega), e22]
            repeat' split
            all_goals first | rfl | (exfalso; omega)
          rw [est]
          simp only [rz_b_some]
          by_cases c2 : S.hR (o i) < 0
          · rw [if_pos c2, if_neg (by decide)]
            have hel : ¬ S.vw.el0 (o i) k := fun hh => by have h9 : 0 ≤ S.hR (o i) := hh.2.1; omega
            refine ih (i + 1) w _ (put A 0 h.rc (fun j => Or.inl rfl) rfl (fun _ => rfl) rfl rfl rfl ?_ (fun hh => hel hh.1)) (hw2 hel) (by omega) (by omega)
            unfold Vw.mk
            rw [if_neg (fun hh => by have h9 : 0 ≤ S.hR (o i) := hh.2; omega)]
          · rw [if_neg c2, if_pos rfl]
            have e24 : (aI A 52 (o i) 0).1 24 (o i) = if S.hS (o i) < 0 then 2147483647 else S.hS (o i) := h.rc.hS (o i) hg
            have e513 : (aI A 52 (o i) 0).1 51 3 = k := h.k3
            rw [e24, e513]
            by_cases c3 : S.vw.told (o i) k
            · have c3' : 0 ≤ S.hS (o i) ∧ S.hS (o i) ≤ k := c3
              rw [if_pos (by split <;> omega)]
              have hel : ¬ S.vw.el0 (o i) k := fun hh => hh.2.2 c3
              refine ih (i + 1) w _ (put (aI A 52 (o i) 0) 2 (RC_52 h.rc) (fun j => ?_) rfl (fun _ => rfl) rfl rfl rfl ?_ (fun hh => hel hh.1)) (hw2 hel) (by omega) (by omega)
              · show (if j = o i then 0 else A.1 52 j) = A.1 52 j ∨ _
                by_cases e : j = o i
                · exact Or.inr e
                · exact Or.inl (if_neg e)
              · unfold Vw.mk
                rw [if_pos ⟨c1, by show 0 ≤ S.hR (o i); omega⟩, if_pos c3]
            · have c3' : ¬ (0 ≤ S.hS (o i) ∧ S.hS (o i) ≤ k) := c3
              rw [if_neg (by split <;> omega)]
              have hel : S.vw.el0 (o i) k := ⟨c1, by show 0 ≤ S.hR (o i); omega, c3⟩
              have hmkv : S.vw.mk (o i) k = S.vw.byStd (o i) k := by
                unfold Vw.mk
                rw [if_pos ⟨c1, by show 0 ≤ S.hR (o i); omega⟩, if_neg c3]
              refine Ret.bind (byTextC (k := k) (RC_52 h.rc) hO hF h.k3 hg (by omega) hw1) (fun B e9 _ => ?_)
              have fr := wx21_isStruckByText F e9
              have hBr : RC B S := rc_fr (RC_52 h.rc) fr (by decide)
              have b25 : B.1 25 = A.1 25 := (fr.row (c := 25) (by decide) (by decide)).1
              have b51 : ∀ j, B.1 51 j = A.1 51 j := fun j => congrFun (fr.row (c := 51) (by decide) (by decide)).1 j
              have b53 : B.1 53 = A.1 53 := (fr.row (c := 53) (by decide) (by decide)).1
              have b54 : B.1 54 = A.1 54 := (fr.row (c := 54) (by decide) (by decide)).1
              have b55 : B.1 55 = A.1 55 := (fr.row (c := 55) (by decide) (by decide)).1
              have b52 : B.1 52 = (aI A 52 (o i) 0).1 52 := (fr.row (c := 52) (by decide) (by decide)).1
              have b52j : ∀ j, B.1 52 j = A.1 52 j ∨ j = o i := fun j => by
                rw [b52]
                show (if j = o i then 0 else A.1 52 j) = A.1 52 j ∨ _
                by_cases e : j = o i
                · exact Or.inr e
                · exact Or.inl (if_neg e)
              by_cases c4 : S.vw.byStd (o i) k = 0
              · rw [if_pos c4]
                have hsB : SeeA B S k rd O o i := by
                  refine SeeA.of ⟨hBr, b25.trans h.o25, (b51 3).trans h.k3, (b51 4).trans h.rd, (b51 5).trans h.st, ?_, ?_, fun j hj => ?_⟩
                  · rw [b51 10]; exact h.n0
                  · rw [b51 10, b53, b54, b55]; exact h.see
                  · rcases b52j (o j) with h9 | h9
                    · rw [h9]; exact h.mk j hj
                    · exact absurd h9 (ord_inj hOr (i := j) (j := i) hj hl)
                refine Ret.bind (keepC hsB hO hB hF hOr hl ?_ ⟨hel, c4⟩) (fun C _ hC => ?_)
                · rw [b52, hmkv, c4]
                  exact if_pos rfl
                · exact ih (i + 1) (o i) C hC (hv.yes hOr hl hel) (by omega) (by omega)
              · rw [if_neg c4]
                refine ih (i + 1) (o i) _ (put B 1 hBr b52j b25 b51 b53 b54 b55 ?_ (fun hh => c4 hh.2)) (hv.yes hOr hl hel) (by omega) (by omega)
                rcases S.vw.byStd01 (o i) k with h9 | h9
                · exact absurd h9 c4
                · rw [hmkv, h9]
        · rw [if_neg c1]
          have hel : ¬ S.vw.el0 (o i) k := fun hh => c1 hh.1
          refine ih (i + 1) w _ (put A 0 h.rc (fun j => Or.inl rfl) rfl (fun _ => rfl) rfl rfl rfl ?_ (fun hh => hel hh.1)) (hw2 hel) (by omega) (by omega)
          unfold Vw.mk
          rw [if_neg (fun hh => c1 hh.1)]
      by_cases hv0 : 0 ≤ v
      · rw [if_pos hv0, gxp (by omega) (by omega), gxp (by omega) (by omega)]
        by_cases hvp : S.hP v.toNat = S.hP (o i)
        · have e9 : (if 0 ≤ v ∧ ¬ S.vw.hP v.toNat = S.vw.hP (o i) then -1 else v) = v := if_neg (fun hh => hh.2 hvp)
          rw [if_pos hvp]
          rw [e9] at hah
          refine key v hah (fun hne => ?_)
          have := hv.no hB hOr hl hne
          rw [e9] at this
          exact this
        · have e9 : (if 0 ≤ v ∧ ¬ S.vw.hP v.toNat = S.vw.hP (o i) then -1 else v) = -1 := if_pos ⟨hv0, hvp⟩
          rw [if_neg hvp]
          rw [e9] at hah
          refine key (-1) hah (fun hne => ?_)
          have := hv.no hB hOr hl hne
          rw [e9] at this
          exact this
      · have e9 : (if 0 ≤ v ∧ ¬ S.vw.hP v.toNat = S.vw.hP (o i) then -1 else v) = v := if_neg (fun hh => hv0 hh.1)
        rw [if_neg hv0]
        rw [e9] at hah
        refine key v hah (fun hne => ?_)
        have := hv.no hB hOr hl hne
        rw [e9] at this
        exact this
    · have e : i = S.nH := by omega
      subst e
      rw [if_neg (by omega)]
      exact Ret.mk h
theorem vb_of (hO : OK t S) : VB S.vw := VB.of ⟨fun h hh => by have h1 := hO.h h hh; have h2 := hO.nP; show 0 ≤ S.hP h ∧ S.hP h < 6; omega, fun h hh => by have h1 := hO.h h hh; show 0 ≤ S.hT h ∧ S.hT h ≤ 9999; omega⟩
theorem ord_of (h : RC A S) : Ord S.vw (fun i => (A.1 25 i).toNat) := by
  refine Ord.of ⟨fun i hi => ?_, fun i j hij hj => ?_, fun g hg => ?_⟩
  · have := h.ordR i hi
    show (A.1 25 i).toNat < S.nH
    omega
  · have h1 := h.ordS i j hij hj
    have h2 := h.ordR j hj
    have h3 := h.ordR i (by have : S.vw.nH = S.nH := rfl; omega)
    unfold Vw.ky
    show S.hP _ * 16384 + S.hT _ < S.hP _ * 16384 + S.hT _ ∨ (S.hP _ * 16384 + S.hT _ = S.hP _ * 16384 + S.hT _ ∧ _)
    rcases h1 with g | g
    · exact Or.inl g
    · exact Or.inr ⟨g.1, by omega⟩
  · obtain ⟨i, hi, e⟩ := h.ordA g hg
    exact ⟨i, hi, by show (A.1 25 i).toNat = g; omega⟩
theorem SeeA.view (h : SeeA A S k rd O o S.nH) (hOr : Ord S.vw o) : View A S.vw k := by
  have n0 := h.n0
  have hle := h.see.le
  have e : ∀ p u, S.vw.wO o p u k S.nH = S.vw.which p u k := fun p u => Vw.wO_which hOr p u k
  refine View.of ⟨h.k3, ⟨n0, by show _ ≤ (S.nH : Int); omega⟩, fun x y hxy hy => h.see.sort x y hxy (by omega), fun x hx => ?_, fun p u h1 h2 h3 h4 h5 => ?_, fun g hg => ?_⟩
  · obtain ⟨p, u, h1, h2, h3, h4, h5, _⟩ := h.see.snd x (by omega)
    rw [e] at h4 h5
    exact ⟨p, u, h1, h2, h3, h4, h5⟩
  · rw [← e] at h5
    obtain ⟨x, hx, h6⟩ := h.see.cmp p u h1 h2 h3 h4 h5
    exact ⟨x, by omega, h6⟩
  · obtain ⟨j, hj, rfl⟩ := hOr.a g hg
    exact h.mk j hj
theorem seeC (h : RC A S) (hO : OK t S) (hF : 1000 ≤ F) (hk : 0 ≤ k ∧ k ≤ 9999) (h5 : A.1 51 5 = 0 ∨ A.1 51 5 = 1) (hv : A.1 51 5 = 1 → View A S.vw (A.1 51 3)) (hr : 0 ≤ A.1 51 4 ∧ A.1 51 4 ≤ 1000) : Ret (x20_see F k A) () (fun A1 => RC A1 S ∧ View A1 S.vw k ∧ A1.1 51 5 = 1 ∧ ((A1 = A ∧ A.1 51 5 = 1) ∨ A1.1 51 4 = A.1 51 4 + 1)) := by
  have h1 := hO.nH
  have hOr := ord_of h
  have go : Ret (rz_g32 (A.1 51 4 + 1) (x20_see_45 F F (-1) 0 (aI (aI (aI (aI A 51 3 k) 51 4 (A.1 51 4 + 1)) 51 5 1) 51 10 0))) () (fun A1 => RC A1 S ∧ View A1 S.vw k ∧ A1.1 51 5 = 1 ∧ ((A1 = A ∧ A.1 51 5 = 1) ∨ A1.1 51 4 = A.1 51 4 + 1)) := by
    rw [g32p (by omega)]
    have hs : SeeA (aI (aI (aI (aI A 51 3 k) 51 4 (A.1 51 4 + 1)) 51 5 1) 51 10 0) S k (A.1 51 4 + 1) (A.1 25) (fun i => (A.1 25 i).toNat) 0 := by
      refine SeeA.of ⟨RC_51 (RC_51 (RC_51 (RC_51 h))), rfl, rfl, rfl, rfl, by show (0 : Int) ≤ 0; omega, ?_, fun j hj => absurd hj (Nat.not_lt_zero j)⟩
      refine SeeV.of ⟨Nat.le_refl _, fun x y hxy hy => absurd hy (Nat.not_lt_zero y), fun x hx => absurd hx (Nat.not_lt_zero x), fun p u _ _ _ _ hw => ?_⟩
      have h9 : (0 : Int) ≤ -1 := hw
      omega
    have ha : AhV S.vw k (fun i => (A.1 25 i).toNat) 0 (-1) := AhV.of ⟨⟨by omega, by omega⟩, fun hh => by omega, fun _ j hj => absurd hj (Nat.not_lt_zero j)⟩
    have hl := seeC_loop (F := F) hO (vb_of hO) hF hk (fun i => rfl) hOr F 0 (-1) _ hs ha (by omega) (by omega)
    refine Ret.of hl (fun A1 hA => ⟨hA.rc, hA.view hOr, hA.st, Or.inr hA.rd⟩)
  unfold x20_see
  by_cases c1 : A.1 51 5 = 0
  · rw [if_pos c1]
    exact go
  · rw [if_neg c1]
    have c1' : A.1 51 5 = 1 := by omega
    by_cases c2 : A.1 51 3 = k
    · rw [if_pos c2]
      refine Ret.mk ⟨h, ?_, c1', Or.inl ⟨rfl, c1'⟩⟩
      rw [← c2]
      exact hv c1'
    · rw [if_neg c2]
      exact go
end SEEC
