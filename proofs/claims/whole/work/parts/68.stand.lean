set_option maxRecDepth 8000
section STAND
variable {t t' F : Nat} {A A0 A' A1 B : rz_A} {S S' : St} {p u k a b c v w x e d : Int} {q m i j n z N : Nat} {L L' M : List Int}
abbrev St.tx (S : St) : List Int := ((S.pv 7).2 0 []).2.2
def St.std0 (S : St) : St := ((fun c => if c = 9 then 0 else S.1 c), S.2)
def St.std1 (S : St) (p d : Int) : St := ((fun c => if c = 7 then S.nS + 1 else if c = 9 then 0 else S.1 c), (fun c => if c = 41 then (fun _ => (up S.sP S.nS p)) else if c = 42 then (fun _ => (up S.sD S.nS d)) else if c = 43 then (fun _ => (up S.sT S.nS S.now)) else if c = 44 then (fun _ => (up S.sN S.nS (S.tx.length : Int))) else if c = 45 then (((fun a => if a = S.nS then nthR S.tx else S.st a))) else S.2 c))
def St.standard (S : St) (p d : Int) : Int × St := if 0 ≤ p ∧ p ≤ 2 then (if d < S.now.tdiv 96 then S.no 3 else if d ≤ 200 then (if S.nS = 20 then S.no 5 else if S.fa < 0 then ((S.nS : Int), S.std1 p d) else (-20 - S.fa, S.std0)) else S.no 5) else S.no 1
theorem CI.forget' (h : CI A S t) (e5 : A1.1 51 5 = 0) (e4 : A1.1 51 4 = A.1 51 4) (e12 : A1.1 56 12 = A.1 56 12) : CI A1 S' t := by
  have h1 := h.rd
  have h2 := h.dr
  exact CI.of ⟨Or.inl e5, fun hh => by omega, by omega, by omega, fun hh => by omega⟩
theorem tx_len (S : St) (hO : OK t S) : S.tx.length ≤ 60 := by
  have hn := hO.nT
  have hg := (pv_g (S := S) 7).2 0 [] (by omega)
  have h0 : ([] : List Int).length = 0 := rfl
  show ((S.pv 7).2 0 []).2.2.length ≤ 60
  omega
theorem fa_b (hO : OK t S) : -1 ≤ S.fa ∧ S.fa ≤ 60 := by
  have hn := hO.nT
  have hg := (pv_g (S := S) 7).2 0 [] (by omega)
  unfold St.fa
  repeat' split
  all_goals omega
theorem now96 (hO : OK t S) : 0 ≤ S.now.tdiv 96 ∧ S.now.tdiv 96 ≤ 9999 := by
  have h := hO.now
  have e : S.now.tdiv 96 = S.now / 96 := Int.tdiv_eq_ediv_of_nonneg h.1
  rw [e]
  omega
theorem standardC (h : DC A S t) (hO : OK t S) (ht : t < 512) (hF : 1000 ≤ F) : Ret (x42_standard F p d A) (S.standard p d).1 (fun A1 => DC A1 (S.standard p d).2 (t + 1)) := by
  have hnS := hO.nS
  have h96 := now96 hO
  have hfa := fa_b hO
  have hlen := tx_len S hO
  unfold x42_standard St.standard
  rw [h.1.now, h.1.nS]
  by_cases c1 : 0 ≤ p ∧ p ≤ 2
  · rw [if_pos c1.1, if_neg (by omega), if_pos c1, g32p (by omega)]
    by_cases c2 : d < S.now.tdiv 96
    · rw [if_pos c2, if_pos c2]
      exact lk1 h.up hO ht (by decide) (by decide)
    · rw [if_neg c2, if_neg c2]
      by_cases c3 : d ≤ 200
      · rw [if_pos c3, if_pos c3]
        by_cases c4 : S.nS = 20
        · rw [if_pos (by omega), if_pos c4]
          exact lk1 h.up hO ht (by decide) (by decide)
        · rw [if_neg (by omega), if_neg c4]
          refine Ret.bind (faultC h.1 hO hF) (fun A1 e1 hA => ?_)
          have fr := wx43_fault F e1
          have hrc := rc_fr h.1 fr (by decide)
          have hci := h.2.up.fr fr (by decide)
          by_cases c5 : S.fa < 0
          · rw [if_neg (by omega), if_pos c5]
            unfold x6_forget
            simp only [rz_b_some]
            unfold x63_come
            have a1 : (aI (aI A1 40 1 0) 51 5 0).1 43 0 = (S.nS : Int) := hrc.nS
            have a2 : (aI (aI A1 40 1 0) 51 5 0).1 40 3 = (S.tx.length : Int) := hA.2.1
            have a3 : (aI (aI A1 40 1 0) 51 5 0).1 0 16 = S.now := hrc.now
            rw [a1, a2, a3, gxp (by omega) (by omega), g32p (by omega), gpp (by omega), g32p (by omega), g32p (by omega), Int.toNat_natCast, Int.toNat_natCast, show ((S.nS : Int) * 60).toNat = 60 * S.nS by omega]
            simp only [rz_b_some]
            have hC9 := hrc
            have k1 : (fun b => if b = S.nS then p else A1.1 44 b) = up S.sP S.nS p := by rw [hrc.sP]
            have k2 : (fun b => if b = S.nS then d else A1.1 45 b) = up S.sD S.nS d := by rw [hrc.sD]
            have k3 : (fun b => if b = S.nS then S.now else A1.1 46 b) = up S.sT S.nS S.now := by rw [hrc.sT]
            have k4 : (fun b => if b = S.nS then (S.tx.length : Int) else A1.1 47 b) = up S.sN S.nS (S.tx.length : Int) := by rw [hrc.sN]
            have k5 : (S.nS : Int) + 1 = ((S.nS + 1 : Nat) : Int) := by omega
            have k6 : ∀ s i : Nat, s < S.nS + 1 → (i : Int) < up S.sN S.nS (S.tx.length : Int) s → (if 60 * S.nS ≤ 60 * s + i ∧ 60 * s + i < 60 * S.nS + S.tx.length then A1.1 42 (0 + (60 * s + i - 60 * S.nS)) else A1.1 48 (60 * s + i)) = (if s = S.nS then nthR S.tx else S.st s) i := fun s i hs hi => by
              by_cases e : s = S.nS
              · rw [e, up_same] at hi
                have := hA.2.2.1.nth i (by show i < S.tx.length; omega)
                rw [if_pos e, e, if_pos (by omega), show 0 + (60 * S.nS + i - 60 * S.nS) = i by omega]
                exact this
              · rw [up_ne e] at hi
                have h5 := hO.s s (by omega)
                rw [if_neg e, if_neg (by omega)]
                exact hrc.st s i (by omega) hi
            refine Ret.eq (Ret.mk ⟨(RC.of ⟨(RC.now hC9 :), (RC.limit hC9 :), (RC.nP hC9 :), (RC.nZ hC9 :), (RC.nH hC9 :), (RC.nF hC9 :), (RC.nU hC9 :), (k5), (RC.nB hC9 :), (rfl), (RC.nR hC9 :), (RC.zero hC9 :), (RC.low hC9 :), (RC.beside hC9 :), (RC.stN hC9 :), (RC.stF0 hC9 :), (RC.stF1 hC9 :), (RC.stF2 hC9 :), (RC.stF3 hC9 :), (RC.stF4 hC9 :), (RC.stF5 hC9 :), (RC.bN0 hC9 :), (RC.bN1 hC9 :), (RC.bN2 hC9 :), (RC.bN3 hC9 :), (RC.bN4 hC9 :), (RC.bN5 hC9 :), (RC.bH0 hC9 :), (RC.bH1 hC9 :), (RC.bH2 hC9 :), (RC.bH3 hC9 :), (RC.bH4 hC9 :), (RC.bH5 hC9 :), (RC.bF0 hC9 :), (RC.bF1 hC9 :), (RC.bF2 hC9 :), (RC.bF3 hC9 :), (RC.bF4 hC9 :), (RC.bF5 hC9 :), (RC.zP hC9 :), (RC.zZ hC9 :), (RC.zF hC9 :), (RC.zK hC9 :), (RC.hP hC9 :), (RC.hT hC9 :), (RC.hK hC9 :), (RC.hR hC9 :), (RC.hKn hC9 :), (RC.hS hC9 :), (RC.hSm hC9 :), (RC.fP hC9 :), (RC.fT hC9 :), (RC.fN hC9 :), (RC.fW hC9 :), (RC.fKn hC9 :), (RC.fS hC9 :), (RC.uP hC9 :), (RC.uK hC9 :), (RC.uF hC9 :), (RC.uT hC9 :), (RC.uM hC9 :), (RC.uKn hC9 :), (k1), (k2), (k3), (k4), (k6), (RC.pP hC9 :), (RC.pT hC9 :), (RC.pF hC9 :), (RC.tB hC9 :), (RC.rB hC9 :), (RC.ref hC9 :), (RC.ordR hC9 :), (RC.ordS hC9 :), (RC.ordA hC9 :)⟩), hci.forget' rfl rfl rfl⟩) ?_
            show (S.nS : Int) + 1 - 1 = S.nS
            omega
          · rw [if_pos (by omega), if_neg c5, g32p (by omega)]
            have hC9 := hrc
            have fr2 : Fr [] [(40, 1)] A1 (aI A1 40 1 0) := Fr.aI Fr.rfl (Or.inr (by decide))
            have hci2 := hci.fr fr2 (by decide)
            exact Ret.mk ⟨(RC.of ⟨(RC.now hC9 :), (RC.limit hC9 :), (RC.nP hC9 :), (RC.nZ hC9 :), (RC.nH hC9 :), (RC.nF hC9 :), (RC.nU hC9 :), (RC.nS hC9 :), (RC.nB hC9 :), (rfl), (RC.nR hC9 :), (RC.zero hC9 :), (RC.low hC9 :), (RC.beside hC9 :), (RC.stN hC9 :), (RC.stF0 hC9 :), (RC.stF1 hC9 :), (RC.stF2 hC9 :), (RC.stF3 hC9 :), (RC.stF4 hC9 :), (RC.stF5 hC9 :), (RC.bN0 hC9 :), (RC.bN1 hC9 :), (RC.bN2 hC9 :), (RC.bN3 hC9 :), (RC.bN4 hC9 :), (RC.bN5 hC9 :), (RC.bH0 hC9 :), (RC.bH1 hC9 :), (RC.bH2 hC9 :), (RC.bH3 hC9 :), (RC.bH4 hC9 :), (RC.bH5 hC9 :), (RC.bF0 hC9 :), (RC.bF1 hC9 :), (RC.bF2 hC9 :), (RC.bF3 hC9 :), (RC.bF4 hC9 :), (RC.bF5 hC9 :), (RC.zP hC9 :), (RC.zZ hC9 :), (RC.zF hC9 :), (RC.zK hC9 :), (RC.hP hC9 :), (RC.hT hC9 :), (RC.hK hC9 :), (RC.hR hC9 :), (RC.hKn hC9 :), (RC.hS hC9 :), (RC.hSm hC9 :), (RC.fP hC9 :), (RC.fT hC9 :), (RC.fN hC9 :), (RC.fW hC9 :), (RC.fKn hC9 :), (RC.fS hC9 :), (RC.uP hC9 :), (RC.uK hC9 :), (RC.uF hC9 :), (RC.uT hC9 :), (RC.uM hC9 :), (RC.uKn hC9 :), (RC.sP hC9 :), (RC.sD hC9 :), (RC.sT hC9 :), (RC.sN hC9 :), (RC.st hC9 :), (RC.pP hC9 :), (RC.pT hC9 :), (RC.pF hC9 :), (RC.tB hC9 :), (RC.rB hC9 :), (RC.ref hC9 :), (RC.ordR hC9 :), (RC.ordS hC9 :), (RC.ordA hC9 :)⟩), hci2⟩
      · rw [if_neg c3, if_neg c3]
        exact lk1 h.up hO ht (by decide) (by decide)
  · rw [if_neg c1]
    by_cases d1 : 0 ≤ p
    · rw [if_pos d1, if_pos (by omega)]
      exact lk1 h.up hO ht (by decide) (by decide)
    · rw [if_neg d1]
      exact lk1 h.up hO ht (by decide) (by decide)
def r126 (B : rz_A) (g : Nat → Int) : rz_A := (fun a => if a = 126 then g else B.1 a, B.2)
theorem r126_aI {g : Nat → Int} : aI (r126 B g) 126 j v = r126 B (up g j v) := by
  refine Prod.ext (funext fun a => ?_) rfl
  show (if a = 126 then (fun b => if b = j then v else g b) else if a = 126 then g else B.1 a) = if a = 126 then up g j v else B.1 a
  by_cases e : a = 126
  · rw [if_pos e, if_pos e]
  · rw [if_neg e, if_neg e, if_neg e]
theorem r126_B : B = r126 B (B.1 126) := by
  refine Prod.ext (funext fun a => ?_) rfl
  show B.1 a = if a = 126 then B.1 126 else B.1 a
  by_cases e : a = 126
  · rw [if_pos e, e]
  · rw [if_neg e]
theorem copyM (h5 : B.1 91 5 = (N : Int)) (hN : N < 20) (h58 : B.1 91 58 = (m : Int)) (hm : m ≤ 60) (h11 : 0 ≤ B.1 91 11 ∧ B.1 91 11 < 1000) : ∀ (n i : Nat) (g : Nat → Int), i ≤ m → m < n + i → ∃ R, x168_standard_128 F n i (r126 B g) = some ((N : Int), aI (aI (r126 B R) 91 11 (B.1 91 11 + 1)) 91 5 ((N : Int) + 1)) ∧ ∀ k, R k = if 130 * N + i ≤ k ∧ k < 130 * N + m then B.1 135 (k - 130 * N) else g k := by
  intro n
  induction n with
  | zero => intro i g h1 h2; omega
  | succ n ih =>
    intro i g h1 h2
    have a5 : (r126 B g).1 91 5 = (N : Int) := h5
    have a58 : (r126 B g).1 91 58 = (m : Int) := h58
    have a11 : (r126 B g).1 91 11 = B.1 91 11 := rfl
    have a135 : (r126 B g).1 135 = B.1 135 := rfl
    have e0 : x168_standard_128 F (n + 1) i (r126 B g) = (if (i : Int) < ((r126 B g).1 91 58) then (rz_g32 (130 * ((r126 B g).1 91 5)) <| rz_g32 ((130 * ((r126 B g).1 91 5)) + i) <| rz_gx (i : Int) 140 <| rz_gx ((130 * ((r126 B g).1 91 5)) + i) 2600 <| rz_g32 ((i : Int) + 1) <| x168_standard_128 F n ((i : Int) + 1) (aI (r126 B g) 126 (((130 * ((r126 B g).1 91 5)) + i)).toNat ((r126 B g).1 135 ((i : Int)).toNat))) else x168_standard_166 F (r126 B g)) := rfl
    rw [e0, a5, a58, a135]
    by_cases c : i < m
    · rw [if_pos (by omega), g32p (by omega), g32p (by omega), gxp (by omega) (by omega), gxp (by omega) (by omega), g32p (by omega), Int.toNat_natCast, show (130 * (N : Int) + i).toNat = 130 * N + i by omega, r126_aI, show (i : Int) + 1 = ((i + 1 : Nat) : Int) by omega]
      obtain ⟨R, e, hR⟩ := ih (i + 1) (up g (130 * N + i) (B.1 135 i)) (by omega) (by omega)
      refine ⟨R, e, fun k => ?_⟩
      rw [hR k]
      by_cases c2 : k = 130 * N + i
      · rw [if_neg (by omega), if_pos (by omega), c2, up_same, show 130 * N + i - 130 * N = i by omega]
      · rw [up_ne c2]
        by_cases c3 : 130 * N + (i + 1) ≤ k ∧ k < 130 * N + m
        · rw [if_pos c3, if_pos (by omega)]
        · rw [if_neg c3, if_neg (by omega)]
    · rw [if_neg (by omega)]
      unfold x168_standard_166
      rw [a5, a11, g32p (by omega), g32p (by omega)]
      exact ⟨g, rfl, fun k => by rw [if_neg (by omega)]⟩
theorem standardM (h : DM A S t) (hO : OK t S) (ht : t < 512) (hF : 1000 ≤ F) : Ret (x168_standard F p d A) (S.standard p d).1 (fun A1 => DM A1 (S.standard p d).2 (t + 1)) := by
  have hnS := hO.nS
  have h96 := now96 hO
  have hfa := fa_b hO
  have hlen := tx_len S hO
  unfold x168_standard St.standard
  rw [h.1.now, h.1.nS]
  by_cases c1 : 0 ≤ p ∧ p ≤ 2
  · rw [if_pos c1.1, if_neg (by omega), if_pos c1, g32p (by omega)]
    by_cases c2 : d < S.now.tdiv 96
    · rw [if_pos c2, if_pos c2]
      exact lm1 h.up hO ht (by decide) (by decide)
    · rw [if_neg c2, if_neg c2]
      by_cases c3 : d ≤ 200
      · rw [if_pos c3, if_pos c3]
        by_cases c4 : S.nS = 20
        · rw [if_pos (by omega), if_pos c4]
          exact lm1 h.up hO ht (by decide) (by decide)
        · rw [if_neg (by omega), if_neg c4]
          refine Ret.bind (textM h.1 hO hF) (fun A1 e1 hA => ?_)
          have fr := wx169_isText F e1
          have hrm := rm_fr h.1 fr (by decide)
          have hmi := h.2.fr fr (by decide)
          have hsm := hmi.sm
          by_cases c5 : S.fa < 0
          · rw [if_pos c5] at hA
            rw [if_pos c5, if_neg (by decide), if_pos c5, hrm.nS, hrm.now, gxp (by omega) (by omega), Int.toNat_natCast, hA.sn]
            obtain ⟨R, e, hR⟩ := copyM (F := F) (B := aI (aI (aI (aI (aI A1 91 8 0) 122 S.nS p) 123 S.nS d) 124 S.nS S.now) 125 S.nS (S.tx.length : Int)) (N := S.nS) (m := S.tx.length) hrm.nS (by omega) hA.sn hlen (by show 0 ≤ A1.1 91 11 ∧ A1.1 91 11 < 1000; omega) F 0 (A1.1 126) (by omega) (by omega)
            have e' : x168_standard_128 F F 0 (aI (aI (aI (aI (aI A1 91 8 0) 122 S.nS p) 123 S.nS d) 124 S.nS S.now) 125 S.nS (S.tx.length : Int)) = _ := Eq.trans (congrArg (x168_standard_128 F F 0) r126_B) e
            rw [e']
            have hM9 := hrm
            have k1 : (fun b => if b = S.nS then p else A1.1 122 b) = up S.sP S.nS p := by rw [hrm.sP]
            have k2 : (fun b => if b = S.nS then d else A1.1 123 b) = up S.sD S.nS d := by rw [hrm.sD]
            have k3 : (fun b => if b = S.nS then S.now else A1.1 124 b) = up S.sT S.nS S.now := by rw [hrm.sT]
            have k4 : (fun b => if b = S.nS then (S.tx.length : Int) else A1.1 125 b) = up S.sN S.nS (S.tx.length : Int) := by rw [hrm.sN]
            have k5 : (S.nS : Int) + 1 = ((S.nS + 1 : Nat) : Int) := by omega
            have k6 : ∀ s i : Nat, s < S.nS + 1 → (i : Int) < up S.sN S.nS (S.tx.length : Int) s → R (130 * s + i) = mst ((if s = S.nS then nthR S.tx else S.st s) i) := fun s i hs hi => by
              rw [hR]
              by_cases e : s = S.nS
              · rw [e, up_same] at hi
                have h7 := hA.sk.nth i (by rw [List.length_map]; show i < S.tx.length; omega)
                rw [nthR_map i (by show i < S.tx.length; omega)] at h7
                rw [if_pos e, e, if_pos (by omega), show 130 * S.nS + i - 130 * S.nS = i by omega]
                exact h7
              · rw [up_ne e] at hi
                have h5 := hO.s s (by omega)
                rw [if_neg e, if_neg (by omega)]
                exact hrm.st s i (by omega) hi
            exact Ret.mk ⟨(RM.of ⟨(RM.now hM9 :), (RM.nP hM9 :), (RM.nZ hM9 :), (RM.nH hM9 :), (RM.nF hM9 :), (k5), (RM.nU hM9 :), (RM.nB hM9 :), (rfl), (RM.nR hM9 :), (RM.limit hM9 :), (RM.zero hM9 :), (RM.low hM9 :), (RM.beside hM9 :), (RM.stN hM9 :), (RM.bN hM9 :), (RM.stF hM9 :), (RM.bH hM9 :), (RM.bF hM9 :), (RM.zP hM9 :), (RM.zZ hM9 :), (RM.zF hM9 :), (RM.zK hM9 :), (RM.hP hM9 :), (RM.hT hM9 :), (RM.hK hM9 :), (RM.hR hM9 :), (RM.hKn hM9 :), (RM.hS hM9 :), (RM.fP hM9 :), (RM.fT hM9 :), (RM.fN hM9 :), (RM.fW hM9 :), (RM.fKn hM9 :), (RM.fS hM9 :), (RM.uP hM9 :), (RM.uK hM9 :), (RM.uF hM9 :), (RM.uT hM9 :), (RM.uM hM9 :), (RM.uKn hM9 :), (k1), (k2), (k3), (k4), (k6), (RM.pP hM9 :), (RM.pT hM9 :), (RM.pF hM9 :), (RM.tB hM9 :), (RM.rB hM9 :), (RM.ref hM9 :)⟩), hmi.bump rfl rfl⟩
          · rw [if_neg c5] at hA
            rw [if_neg c5, if_pos (by decide), if_neg c5, hA, g32p (by omega)]
            have hM9 := hrm
            have fr2 : Fr [] [(91, 8)] A1 (aI A1 91 8 0) := Fr.aI Fr.rfl (Or.inr (by decide))
            have hmi2 := hmi.up.fr fr2 (by decide)
            exact Ret.mk ⟨(RM.of ⟨(RM.now hM9 :), (RM.nP hM9 :), (RM.nZ hM9 :), (RM.nH hM9 :), (RM.nF hM9 :), (RM.nS hM9 :), (RM.nU hM9 :), (RM.nB hM9 :), (rfl), (RM.nR hM9 :), (RM.limit hM9 :), (RM.zero hM9 :), (RM.low hM9 :), (RM.beside hM9 :), (RM.stN hM9 :), (RM.bN hM9 :), (RM.stF hM9 :), (RM.bH hM9 :), (RM.bF hM9 :), (RM.zP hM9 :), (RM.zZ hM9 :), (RM.zF hM9 :), (RM.zK hM9 :), (RM.hP hM9 :), (RM.hT hM9 :), (RM.hK hM9 :), (RM.hR hM9 :), (RM.hKn hM9 :), (RM.hS hM9 :), (RM.fP hM9 :), (RM.fT hM9 :), (RM.fN hM9 :), (RM.fW hM9 :), (RM.fKn hM9 :), (RM.fS hM9 :), (RM.uP hM9 :), (RM.uK hM9 :), (RM.uF hM9 :), (RM.uT hM9 :), (RM.uM hM9 :), (RM.uKn hM9 :), (RM.sP hM9 :), (RM.sD hM9 :), (RM.sT hM9 :), (RM.sN hM9 :), (RM.st hM9 :), (RM.pP hM9 :), (RM.pT hM9 :), (RM.pF hM9 :), (RM.tB hM9 :), (RM.rB hM9 :), (RM.ref hM9 :)⟩), hmi2⟩
      · rw [if_neg c3, if_neg c3]
        exact lm1 h.up hO ht (by decide) (by decide)
  · rw [if_neg c1]
    by_cases d1 : 0 ≤ p
    · rw [if_pos d1, if_pos (by omega)]
      exact lm1 h.up hO ht (by decide) (by decide)
    · rw [if_neg d1]
      exact lm1 h.up hO ht (by decide) (by decide)
theorem standardO (hO : OK t S) : OK (t + 1) (S.standard p d).2 := by
  have hnow := hO.now
  have h96 := now96 hO
  have hnS := hO.nS
  have hlen := tx_len S hO
  unfold St.standard
  by_cases c1 : 0 ≤ p ∧ p ≤ 2
  · rw [if_pos c1]
    by_cases c2 : d < S.now.tdiv 96
    · rw [if_pos c2]
      exact hO.no 3
    · rw [if_neg c2]
      by_cases c3 : d ≤ 200
      · rw [if_pos c3]
        by_cases c4 : S.nS = 20
        · rw [if_pos c4]
          exact hO.no 5
        · rw [if_neg c4]
          have z1 : (0 : Nat) ≤ 60 := by decide
          have z2 : ∀ i, i < (0 : Nat) → 0 ≤ S.tB i ∧ S.tB i ≤ 255 := fun i hi => absurd hi (Nat.not_lt_zero _)
          by_cases c5 : S.fa < 0
          · rw [if_pos c5]
            have hok : ((S.pv 7).2 0 []).1 = true := Classical.byContradiction fun hh => by
              unfold St.fa at c5
              rw [if_neg hh] at c5
              omega
            have hty : TyV S.tx [true] := (pv_t hO 7).2 0 [] [] ⟨rfl, trivial⟩ hok
            have k0 : S.nS + 1 ≤ 20 := by omega
            have k1 : ∀ i, i < S.nS + 1 → (0 ≤ up S.sP S.nS p i ∧ up S.sP S.nS p i ≤ 2) ∧ (0 ≤ up S.sD S.nS d i ∧ up S.sD S.nS d i ≤ 200) ∧ (0 ≤ up S.sT S.nS S.now i ∧ up S.sT S.nS S.now i ≤ 9999) ∧ (0 ≤ up S.sN S.nS (S.tx.length : Int) i ∧ up S.sN S.nS (S.tx.length : Int) i ≤ 60) ∧ tyN ((fun a => if a = S.nS then nthR S.tx else S.st a) i) (up S.sN S.nS (S.tx.length : Int) i).toNat = some [true] := fun i hi => by
              by_cases e : i = S.nS
              · rw [e, up_same, up_same, up_same, up_same, Int.toNat_natCast]
                refine ⟨by omega, by omega, by omega, by omega, ?_⟩
                show tyN (if S.nS = S.nS then nthR S.tx else S.st S.nS) S.tx.length = some [true]
                rw [if_pos rfl, tyN_nth]
                exact hty.1
              · rw [up_ne e, up_ne e, up_ne e, up_ne e]
                show _ ∧ _ ∧ _ ∧ _ ∧ tyN (if i = S.nS then nthR S.tx else S.st i) (S.sN i).toNat = some [true]
                rw [if_neg e]
                exact hO.s i (by omega)
            have k2 : ∀ i j : Nat, i < S.nS + 1 → (j : Int) < up S.sN S.nS (S.tx.length : Int) i → -28 ≤ (fun a => if a = S.nS then nthR S.tx else S.st a) i j ∧ (fun a => if a = S.nS then nthR S.tx else S.st a) i j ≤ 99999 := fun i j hi hj => by
              show -28 ≤ (if i = S.nS then nthR S.tx else S.st i) j ∧ (if i = S.nS then nthR S.tx else S.st i) j ≤ 99999
              by_cases e : i = S.nS
              · rw [e, up_same] at hj
                rw [if_pos e]
                exact vOK_nth hty.2 j (by omega)
              · rw [up_ne e] at hj
                rw [if_neg e]
                exact hO.sv i j (by omega) hj
            exact (OK.of ⟨(OK.now (hO.mono) :), (OK.limit (hO.mono) :), (OK.nP (hO.mono) :), (OK.nZ (hO.mono) :), (OK.nH (hO.mono) :), (OK.nF (hO.mono) :), (OK.nU (hO.mono) :), (k0), (OK.nB (hO.mono) :), (z1), (OK.nR (hO.mono) :), (OK.zero (hO.mono) :), (OK.low (hO.mono) :), (OK.beside (hO.mono) :), (OK.stN (hO.mono) :), (OK.stF (hO.mono) :), (OK.bN (hO.mono) :), (OK.b (hO.mono) :), (OK.bs (hO.mono) :), (OK.z (hO.mono) :), (OK.h (hO.mono) :), (OK.f (hO.mono) :), (OK.u (hO.mono) :), (k1), (k2), (OK.p (hO.mono) :), (z2), (OK.rB (hO.mono) :), (OK.ref (hO.mono) :)⟩)
          · rw [if_neg c5]
            exact (OK.of ⟨(OK.now (hO.mono) :), (OK.limit (hO.mono) :), (OK.nP (hO.mono) :), (OK.nZ (hO.mono) :), (OK.nH (hO.mono) :), (OK.nF (hO.mono) :), (OK.nU (hO.mono) :), (OK.nS (hO.mono) :), (OK.nB (hO.mono) :), (z1), (OK.nR (hO.mono) :), (OK.zero (hO.mono) :), (OK.low (hO.mono) :), (OK.beside (hO.mono) :), (OK.stN (hO.mono) :), (OK.stF (hO.mono) :), (OK.bN (hO.mono) :), (OK.b (hO.mono) :), (OK.bs (hO.mono) :), (OK.z (hO.mono) :), (OK.h (hO.mono) :), (OK.f (hO.mono) :), (OK.u (hO.mono) :), (OK.s (hO.mono) :), (OK.sv (hO.mono) :), (OK.p (hO.mono) :), (z2), (OK.rB (hO.mono) :), (OK.ref (hO.mono) :)⟩)
      · rw [if_neg c3]
        exact hO.no 5
  · rw [if_neg c1]
    exact hO.no 1
end STAND
