set_option maxRecDepth 8000
section AGREEM
variable {t t' F : Nat} {A A0 A' : rz_A} {S : St} {V : Vw} {p u k a b v w o q f e : Int} {cs : List Nat} {fs : List (Nat × Nat)} {i : Nat}
theorem ag_s (S : St) (o q f : Int) (m l : Nat) : S.ag o q f m (l + 1) = if 0 < S.aC o q f l m ∧ ((S.ag o q f m l).1 < 0 ∨ S.aS o q f l m * (S.ag o q f m l).2.2 < (S.ag o q f m l).2.1 * S.aC o q f l m) then ((l : Int), S.aS o q f l m, S.aC o q f l m) else S.ag o q f m l := rfl
/-- the class's best LAG so far -/
def Bst (A : rz_A) (z : Int × Int × Int) : Prop := A.1 56 14 = z.1 ∧ A.2 56 15 = z.2.1 ∧ A.2 56 16 = z.2.2
theorem cmp218C (h : SN A S S.now t) (hO : OK t S) {m l : Nat} (hm : m ≤ 300) (hB : Bst A (S.ag o q f m l)) : Ret (x126_compareBy_218 F l (S.aS o q f l m) (S.aC o q f l m) A) () (fun A1 => SN A1 S S.now t ∧ A1.1 53 = A.1 53 ∧ A1.1 63 = A.1 63 ∧ A1.1 51 10 = A.1 51 10 ∧ Bst A1 (S.ag o q f m (l + 1))) := by
  have h1 := aS_b hO o q f l m
  have h2 := ag_b hO o q f hm l
  have m1 := mul_nb (a := S.aS o q f l m) (b := (S.ag o q f m l).2.2) (m := 30000000000) (n := 300) (by omega) (by omega) (by omega) (by omega)
  have m2 := mul_nb (a := (S.ag o q f m l).2.1) (b := S.aC o q f l m) (m := 30000000000) (n := 300) (by omega) (by omega) (by omega) (by omega)
  obtain ⟨b1, b2, b3⟩ := hB
  have frU : Fr [] [(56, 14), (56, 15), (56, 16)] A (aL (aL (aI A 56 14 l) 56 15 (S.aS o q f l m)) 56 16 (S.aC o q f l m)) := Fr.aL (Fr.aL (Fr.aI Fr.rfl (Or.inr (by decide))) (Or.inr (by decide))) (Or.inr (by decide))
  have upd : S.ag o q f m (l + 1) = ((l : Int), S.aS o q f l m, S.aC o q f l m) → Ret (some ((), aL (aL (aI A 56 14 l) 56 15 (S.aS o q f l m)) 56 16 (S.aC o q f l m))) () (fun A1 => SN A1 S S.now t ∧ A1.1 53 = A.1 53 ∧ A1.1 63 = A.1 63 ∧ A1.1 51 10 = A.1 51 10 ∧ Bst A1 (S.ag o q f m (l + 1))) := by
    intro e1
    rw [e1]
    exact Ret.mk ⟨h.fr frU (by decide) (by decide), rfl, rfl, rfl, rfl, rfl, rfl⟩
  have same : S.ag o q f m (l + 1) = S.ag o q f m l → Ret (some ((), A)) () (fun A1 => SN A1 S S.now t ∧ A1.1 53 = A.1 53 ∧ A1.1 63 = A.1 63 ∧ A1.1 51 10 = A.1 51 10 ∧ Bst A1 (S.ag o q f m (l + 1))) := by
    intro e1
    rw [e1]
    exact Ret.mk ⟨h, rfl, rfl, rfl, b1, b2, b3⟩
  unfold x126_compareBy_218
  rw [b1, b2, b3]
  by_cases c1 : 0 < S.aC o q f l m
  · rw [if_pos c1]
    by_cases c2 : 0 ≤ (S.ag o q f m l).1
    · rw [if_pos c2, g64p (by omega), g64p (by omega)]
      by_cases c3 : S.aS o q f l m * (S.ag o q f m l).2.2 < (S.ag o q f m l).2.1 * S.aC o q f l m
      · rw [if_pos c3]
        exact upd (by rw [ag_s, if_pos ⟨c1, Or.inr c3⟩])
      · rw [if_neg c3]
        exact same (by rw [ag_s, if_neg (fun hh => by rcases hh.2 with h9 | h9; omega; exact c3 h9)])
    · rw [if_neg c2]
      exact upd (by rw [ag_s, if_pos ⟨c1, Or.inl (by omega)⟩])
  · rw [if_neg c1]
    exact same (by rw [ag_s, if_neg (fun hh => c1 hh.1)])
theorem cmpByC (h : SN A S S.now t) (hO : OK t S) (hF : 1000 ≤ F) (ho : 0 ≤ o ∧ o < 6) (hq : 0 ≤ q ∧ q < 6) (hf : 0 ≤ f ∧ f ≤ e ∧ e ≤ 9999) (he : e - f < 300) {l : Nat} (hl : l ≤ 20) (hR1 : ∀ y : Nat, (y : Int) < A.1 51 10 → o * 16384 + f ≤ A.1 53 y → A.1 53 y ≤ o * 16384 + e → Rt A S y) (hR2 : ∀ y : Nat, (y : Int) < A.1 51 10 → q * 16384 + f ≤ A.1 53 y → A.1 53 y ≤ q * 16384 + e + 20 → Rt A S y) (hB : Bst A (S.ag o q f (e - f + 1).toNat l)) : Ret (x126_compareBy F l o q f e A) () (fun A1 => SN A1 S S.now t ∧ A1.1 53 = A.1 53 ∧ A1.1 63 = A.1 63 ∧ A1.1 51 10 = A.1 51 10 ∧ Bst A1 (S.ag o q f (e - f + 1).toNat (l + 1))) := by
  have hnH := hO.nH
  have hn := h.view.n
  have hn2 : A.1 51 10 ≤ S.nH := hn.2
  unfold x126_compareBy
  rw [keyC ho (by omega)]
  simp only [rz_b_some]
  rw [g32p (by omega), keyC hq (by omega)]
  simp only [rz_b_some]
  obtain ⟨th, e1, e2⟩ := firstC (F := F) (v := q * 16384 + (f + l)) h.view hnH hF
  rw [e1]
  simp only [rz_b_some]
  rw [keyC ho (by omega)]
  simp only [rz_b_some]
  obtain ⟨st, e3, e4⟩ := firstC (F := F) (v := o * 16384 + f) h.view hnH hF
  rw [e3]
  simp only [rz_b_some]
  have hle := e4.1
  have := cmpC_loop (F := F) h.view hO hF ho hq hf he hl hR1 hR2 (cmp218C h hO (by omega) hB) F st th 0 hle (by omega) (by omega) e2.1 (fun y hy => by have := e2.2.1 y hy; omega) (fun y hy => by have := e4.2.1 y hy; omega) (fun y h1 h2 => by have := e4.2.2 y h1 h2; omega)
  exact this
theorem cmp43C (hO : OK t S) (hF : 1000 ≤ F) (ho : 0 ≤ o ∧ o < 6) (hq : 0 ≤ q ∧ q < 6) (hf : 0 ≤ f ∧ f ≤ e ∧ e ≤ 9999) (he : e - f < 300) : ∀ (n l : Nat) (A : rz_A), SN A S S.now t → l ≤ 21 → 21 < n + l → (∀ y : Nat, (y : Int) < A.1 51 10 → o * 16384 + f ≤ A.1 53 y → A.1 53 y ≤ o * 16384 + e → Rt A S y) → (∀ y : Nat, (y : Int) < A.1 51 10 → q * 16384 + f ≤ A.1 53 y → A.1 53 y ≤ q * 16384 + e + 20 → Rt A S y) → Bst A (S.ag o q f (e - f + 1).toNat l) → Ret (x124_compare_43 F n o q f e l A) () (fun A1 => SN A1 S S.now t ∧ Bst A1 ((S.agV o q f e).1, (S.agV o q f e).2.1.tdiv (S.agG o q f e), (S.agV o q f e).2.2.tdiv (S.agG o q f e))) := by
  intro n
  induction n with
  | zero => intro l A h h1 h2; omega
  | succ n ih =>
    intro l A h h1 h2 hR1 hR2 hB
    unfold x124_compare_43
    by_cases hl : l ≤ 20
    · rw [if_pos (by omega)]
      refine Ret.bind (cmpByC h hO hF ho hq hf he hl hR1 hR2 hB) (fun A2 e2 hA => ?_)
      obtain ⟨g1, g2, g3, g4, g5⟩ := hA
      have hRt : ∀ y, Rt A S y → Rt A2 S y := fun y hy => by
        unfold Rt at hy ⊢
        rw [g2, g3]
        exact hy
      rw [g32p (by omega), show (l : Int) + 1 = ((l + 1 : Nat) : Int) by omega]
      refine ih (l + 1) A2 g1 (by omega) (by omega) (fun y z1 z2 z3 => hRt y (hR1 y ?_ ?_ ?_)) (fun y z1 z2 z3 => hRt y (hR2 y ?_ ?_ ?_)) g5
      · rw [← g4]; exact z1
      · rw [← g2]; exact z2
      · rw [← g2]; exact z3
      · rw [← g4]; exact z1
      · rw [← g2]; exact z2
      · rw [← g2]; exact z3
    · have el : l = 21 := by omega
      subst el
      have hgg := agG_ok (o := o) (q := q) (f := f) (e := e) hO he
      have hb := ag_b hO o q f (m := (e - f + 1).toNat) (by omega) 21
      have hb2 : (0 ≤ (S.agV o q f e).2.1 ∧ (S.agV o q f e).2.1 ≤ 30000000000) ∧ 1 ≤ (S.agV o q f e).2.2 ∧ (S.agV o q f e).2.2 ≤ 300 := hb.2
      obtain ⟨b1, b2, b3⟩ := hB
      have b2' : A.2 56 15 = (S.agV o q f e).2.1 := b2
      have b3' : A.2 56 16 = (S.agV o q f e).2.2 := b3
      have b1' : A.1 56 14 = (S.agV o q f e).1 := b1
      rw [if_neg (by omega)]
      unfold x124_compare_67 x127_commonDivisor
      rw [b2', b3']
      have hg := gcdC (F := F) (A := A) F 40 0 _ _ _ (by omega) (by omega) (by omega) (by omega) (by omega) hgg.1
      have hg' : x127_commonDivisor_9 F F (S.agV o q f e).2.1 (S.agV o q f e).2.2 0 A = some (S.agG o q f e, A) := hg
      rw [hg']
      simp only [rz_b_some]
      have t1 := tdiv_b (x := (S.agV o q f e).2.1) (y := S.agG o q f e) (by omega) (by omega)
      have t2 := tdiv_b (x := (S.agV o q f e).2.2) (y := S.agG o q f e) (by omega) (by omega)
      rw [b2', b3']
      by_cases c1 : 1 < S.agG o q f e
      · rw [if_pos c1, gnp (by omega), g64p (by omega), g64p (by omega)]
        have frU : Fr [] [(56, 15), (56, 16)] A (aL (aL A 56 15 ((S.agV o q f e).2.1.tdiv (S.agG o q f e))) 56 16 ((S.agV o q f e).2.2.tdiv (S.agG o q f e))) := Fr.aL (Fr.aL Fr.rfl (Or.inr (by decide))) (Or.inr (by decide))
        exact Ret.mk ⟨h.fr frU (by decide) (by decide), b1', rfl, rfl⟩
      · have eg : S.agG o q f e = 1 := by omega
        rw [if_neg c1, eg, Int.tdiv_one, Int.tdiv_one]
        exact Ret.mk ⟨h, b1', b2', b3'⟩
theorem compareC (h : SN A S S.now t) (hO : OK t S) (hF : 1000 ≤ F) (ho : 0 ≤ o ∧ o < 6) (hq : 0 ≤ q ∧ q < 6) (hf : 0 ≤ f ∧ f ≤ e ∧ e ≤ 9999) (he : e - f < 300) : Ret (x124_compare F o q f e A) () (fun A1 => SN A1 S S.now t ∧ Bst A1 ((S.agV o q f e).1, (S.agV o q f e).2.1.tdiv (S.agG o q f e), (S.agV o q f e).2.2.tdiv (S.agG o q f e))) := by
  have hmin : ∀ (B : rz_A) (x : Int), x61_min F x 9999 B = some (if x ≤ 9999 then x else 9999, B) := fun B x => by
    unfold x61_min
    split <;> rfl
  unfold x124_compare
  refine Ret.bind (rateAllC (G := fun _ => False) h hO hF ho (by omega) (by omega) (fun y hy => absurd hy (fun hh => hh))) (fun A1 e1 hA => ?_)
  obtain ⟨g1, g2, g3, g4⟩ := hA
  rw [g32p (by omega), hmin]
  simp only [rz_b_some]
  have hmb : 0 ≤ (if e + 20 ≤ 9999 then e + 20 else 9999) ∧ (if e + 20 ≤ 9999 then e + 20 else 9999) ≤ 9999 := by split <;> omega
  refine Ret.bind (rateAllC (G := fun y => o * 16384 + f ≤ A1.1 53 y ∧ A1.1 53 y ≤ o * 16384 + e) (a := f) g1 hO hF hq (by omega) hmb (fun y hy hy2 => g4 y (Or.inr (by rw [← g2]; exact hy)) (by rw [← g3]; exact hy2))) (fun A4 e4 hA4 => ?_)
  obtain ⟨k1, k2, k3, k4⟩ := hA4
  have frI : Fr [] [(56, 14), (56, 15), (56, 16)] A4 (aL (aL (aI A4 56 14 (-1)) 56 15 0) 56 16 1) := Fr.aL (Fr.aL (Fr.aI Fr.rfl (Or.inr (by decide))) (Or.inr (by decide))) (Or.inr (by decide))
  have hS5 := k1.fr frI (by decide) (by decide)
  have hv4 := k1.view
  refine cmp43C (F := F) hO hF ho hq hf he F 0 _ hS5 (by omega) (by omega) (fun y z1 z2 z3 => ?_) (fun y z1 z2 z3 => ?_) ⟨rfl, rfl, rfl⟩
  · have z1' : (y : Int) < A4.1 51 10 := z1
    have z2' : o * 16384 + f ≤ A4.1 53 y := z2
    have z3' : A4.1 53 y ≤ o * 16384 + e := z3
    have hh := k4 y (Or.inl ⟨by rw [← k2]; exact z2', by rw [← k2]; exact z3'⟩) (by rw [← k3]; exact z1')
    exact hh
  · have z1' : (y : Int) < A4.1 51 10 := z1
    have z2' : q * 16384 + f ≤ A4.1 53 y := z2
    have z3' : A4.1 53 y ≤ q * 16384 + e + 20 := z3
    obtain ⟨p', u', d1, d2, d3, _, _⟩ := hv4.snd y z1'
    have hh := k4 y (Or.inr ⟨by rw [← k2]; exact z2', by rw [← k2, d3]; split <;> omega⟩) (by rw [← k3]; exact z1')
    exact hh
theorem agreeC (h : DC A S t) (hO : OK t S) (ht : t < 512) (hF : 1000 ≤ F) : Ret (x123_agree F o q f e w A) (S.agree o q f e w).1 (fun A1 => DC A1 (S.agree o q f e w).2 (t + 1)) := by
  have h2 := hO.nP
  unfold x123_agree St.agree
  by_cases hp : S.isP o
  · rw [hasC1 h.1 hp, if_pos hp]
    simp only [rz_b_some]
    rw [if_neg (by decide)]
    by_cases hq : S.isP q
    · rw [hasC1 h.1 hq, if_pos hq]
      simp only [rz_b_some]
      rw [if_neg (by decide)]
      by_cases c1 : w < 0
      · rw [if_neg (by omega), if_pos c1]
        exact lk1 h.up hO ht (by decide) (by decide)
      · rw [if_pos (by omega), if_neg c1]
        by_cases c2 : 2 < w
        · rw [if_pos c2, if_pos c2]
          exact lk1 h.up hO ht (by decide) (by decide)
        · rw [if_neg c2, if_neg c2]
          by_cases c3 : f < 0
          · rw [if_neg (by omega), if_pos c3]
            exact lk1 h.up hO ht (by decide) (by decide)
          · rw [if_pos (by omega), if_neg c3]
            by_cases c4 : e < f
            · rw [if_pos c4, if_pos c4]
              exact lk1 h.up hO ht (by decide) (by decide)
            · rw [if_neg c4, if_neg c4]
              by_cases c5 : 9999 < e
              · rw [if_neg (by omega), if_pos c5]
                exact lk1 h.up hO ht (by decide) (by decide)
              · rw [if_pos (by omega), if_neg c5, g32p (by omega)]
                by_cases c6 : 300 ≤ e - f
                · rw [if_pos c6, if_pos c6]
                  exact lk1 h.up hO ht (by decide) (by decide)
                · rw [if_neg c6, if_neg c6, h.1.now]
                  refine Ret.bind (seeSN h hO ht hF hO.now) (fun A1 e1 hS => ?_)
                  refine Ret.bind (compareC hS hO.mono hF (by omega) (by omega) (by omega) (by omega)) (fun A2 e2 hA => ?_)
                  obtain ⟨g1, b1, b2, b3⟩ := hA
                  have b1' : A2.1 56 14 = (S.agV o q f e).1 := b1
                  rw [b1', b2, b3]
                  by_cases c7 : (S.agV o q f e).1 < 0
                  · rw [if_pos c7, if_pos c7]
                    exact lk1 g1.dc hO ht (by decide) (by decide)
                  · rw [if_neg c7, if_neg c7]
                    by_cases c8 : w = 0
                    · rw [if_pos c8, if_pos c8]
                      exact Ret.mk g1.dc
                    · rw [if_neg c8, if_neg c8]
                      by_cases c9 : w = 1
                      · rw [if_pos c9, if_pos c9]
                        exact Ret.mk g1.dc
                      · rw [if_neg c9, if_neg c9]
                        exact Ret.mk g1.dc
    · rw [hasC0 h.1 hq, if_neg hq]
      simp only [rz_b_some]
      rw [if_pos (by decide)]
      exact lk1 h.up hO ht (by decide) (by decide)
  · rw [hasC0 h.1 hp, if_neg hp]
    simp only [rz_b_some]
    rw [if_pos (by decide)]
    exact lk1 h.up hO ht (by decide) (by decide)
/-! the reference's -/
theorem DM_147 {j : Nat} (h : DM A S t) : DM (aI A 147 j v) S t := ⟨rm_fr h.1 (Fr.aI (cs := [147]) (fs := []) Fr.rfl (Or.inl (by decide))) (by decide), h.2.fr (Fr.aI (cs := [147]) (fs := []) Fr.rfl (Or.inl (by decide))) (by decide)⟩
theorem DM_148 {j : Nat} (h : DM A S t) : DM (aI A 148 j v) S t := ⟨rm_fr h.1 (Fr.aI (cs := [148]) (fs := []) Fr.rfl (Or.inl (by decide))) (by decide), h.2.fr (Fr.aI (cs := [148]) (fs := []) Fr.rfl (Or.inl (by decide))) (by decide)⟩
def On1 (A : rz_A) (S : St) (o f e : Int) : Prop := ∀ i : Nat, (i : Int) ≤ e - f → A.1 147 i = S.fo o (f + i)
def On2 (A : rz_A) (S : St) (q f e : Int) : Prop := ∀ i : Nat, (i : Int) ≤ e - f + 20 → A.1 148 i = S.fo q (f + i)
theorem fo_none (hO : OK t S) (hn : ∀ g, g < S.nH → ¬ (S.hP g = o ∧ S.hT g = u)) : S.fo o u = -1 := by
  show S.flOf o u S.now = -1
  unfold St.flOf
  by_cases c : S.vw.which o u S.now < 0
  · rw [if_pos c]
  · have hwb : S.vw.which o u S.now < S.nH := (S.vw.wAcc_b o u S.now S.nH).1
    have hpu := wAcc_p S.vw o u S.now S.nH (by show 0 ≤ S.vw.which o u S.now; omega)
    exact absurd hpu (hn (S.vw.which o u S.now).toNat (by omega))
theorem agreeM_sum (hO : OK t S) {k311 : Int → Int → Int → Int → Int → Int → Int → rz_A → Option (Int × rz_A)} {R : Int} {Q : rz_A → Prop} {v6 v7 v9 : Int} {l : Nat} (hl : l ≤ 20) (he : 0 ≤ e - f ∧ e - f < 300) (hf : 0 ≤ f ∧ e ≤ 9999) (h1 : On1 A S o f e) (h2 : On2 A S q f e) (fin : Ret (x207_agree_437 F k311 f e w v6 v7 v9 l (S.aS o q f l (e - f + 1).toNat) (S.aC o q f l (e - f + 1).toNat) A) R Q) : ∀ (n i : Nat), (i : Int) ≤ e - f + 1 → e - f + 1 < n + i → Ret (x207_agree_327 F k311 n f e w v6 v7 v9 l (S.aS o q f l i) (S.aC o q f l i) i A) R Q := by
  intro n
  induction n with
  | zero => intro i h3 h4; omega
  | succ n ih =>
    intro i h3 h4
    have hb := aS_b hO o q f l i
    unfold x207_agree_327
    rw [g32p (by omega)]
    by_cases hi : (i : Int) ≤ e - f
    · have ih' := ih (i + 1) (by omega) (by omega)
      rw [aS_s, aC_s] at ih'
      have e1 : ((i : Int) + l).toNat = i + l := by omega
      have q1 : A.1 147 i = S.fo o (f + i) := h1 i hi
      have q2 : A.1 148 (i + l) = S.fo q (f + i + l) := by
        have := h2 (i + l) (by omega)
        rw [show f + ((i + l : Nat) : Int) = f + i + l by omega] at this
        exact this
      have bo : -1 ≤ S.fo o (f + i) ∧ S.fo o (f + i) ≤ 99999999 := flOf_b hO
      have bq : -1 ≤ S.fo q (f + i + l) ∧ S.fo q (f + i + l) ≤ 99999999 := flOf_b hO
      have g32 : r32 ((i : Int) + 1) := by omega
      have hcast : (i : Int) + 1 = ((i + 1 : Nat) : Int) := by omega
      simp only [g32p g32]
      simp only [hcast]
      rw [if_pos hi, gxp (by omega) (by omega), Int.toNat_natCast, q1]
      by_cases c1 : 0 ≤ S.fo o (f + i)
      · rw [if_pos c1, g32p (by omega), gxp (by omega) (by omega), e1, q2]
        by_cases c2 : S.fo q (f + i + l) < 0
        · rw [if_pos c2]
          have hn : ¬ S.ab o q f l i := fun hh => by have h9 : 0 ≤ S.fo q (f + i + l) := hh.2; omega
          rw [if_neg hn, if_neg hn, Int.add_zero, Int.add_zero] at ih'
          exact ih'
        · rw [if_neg c2]
          have hy : S.ab o q f l i := ⟨c1, by show 0 ≤ S.fo q (f + i + l); omega⟩
          rw [if_pos hy, if_pos hy] at ih'
          by_cases c3 : S.fo q (f + i + l) < S.fo o (f + i)
          · have ea : absV (S.fo o (f + i) - S.fo q (f + i + l)) = S.fo o (f + i) - S.fo q (f + i + l) := by unfold absV; rw [if_neg (by omega)]
            rw [ea] at ih'
            rw [if_pos c3, g32p (by omega), g64p (by omega), g32p (by omega)]
            exact ih'
          · have ea : absV (S.fo o (f + i) - S.fo q (f + i + l)) = S.fo q (f + i + l) - S.fo o (f + i) := by
              unfold absV
              split <;> omega
            rw [ea] at ih'
            rw [if_neg c3, g32p (by omega), g64p (by omega), g32p (by omega)]
            exact ih'
      · rw [if_neg c1]
        have hn : ¬ S.ab o q f l i := fun hh => c1 hh.1
        rw [if_neg hn, if_neg hn, Int.add_zero, Int.add_zero] at ih'
        exact ih'
    · have ei : i = (e - f + 1).toNat := by omega
      rw [if_neg hi, ei]
      exact fin
theorem agreeM_lag (hO : OK t S) (ht : t < 512) (hF : 1000 ≤ F) (he : 0 ≤ e - f ∧ e - f < 300) (hf : 0 ≤ f ∧ e ≤ 9999) (h : DM A S t') (h1 : On1 A S o f e) (h2 : On2 A S q f e) : ∀ (n l : Nat), l ≤ 21 → 21 < n + l → Ret (x207_agree_311 F n f e w (S.ag o q f (e - f + 1).toNat l).1 (S.ag o q f (e - f + 1).toNat l).2.1 (S.ag o q f (e - f + 1).toNat l).2.2 l A) (if (S.agV o q f e).1 < 0 then S.no 4 else (if w = 0 then (S.agV o q f e).1 else if w = 1 then rz_oN ((S.agV o q f e).2.1.tdiv (S.agG o q f e)) else rz_oN ((S.agV o q f e).2.2.tdiv (S.agG o q f e)), S)).1 (fun A1 => DM A1 (if (S.agV o q f e).1 < 0 then S.no 4 else (if w = 0 then (S.agV o q f e).1 else if w = 1 then rz_oN ((S.agV o q f e).2.1.tdiv (S.agG o q f e)) else rz_oN ((S.agV o q f e).2.2.tdiv (S.agG o q f e)), S)).2 t') := by
  intro n
  induction n with
  | zero => intro l h3 h4; omega
  | succ n ih =>
    intro l h3 h4
    unfold x207_agree_311
    by_cases hl : l < 21
    · rw [if_pos (by omega)]
      have ih' := ih (l + 1) (by omega) (by omega)
      rw [ag_s] at ih'
      have k1 := aS_b hO o q f l (e - f + 1).toNat
      have k2 := ag_b hO o q f (m := (e - f + 1).toNat) (by omega) l
      have m1 := mul_nb (a := S.aS o q f l (e - f + 1).toNat) (b := (S.ag o q f (e - f + 1).toNat l).2.2) (m := 30000000000) (n := 300) (by omega) (by omega) (by omega) (by omega)
      have m2 := mul_nb (a := (S.ag o q f (e - f + 1).toNat l).2.1) (b := S.aC o q f l (e - f + 1).toNat) (m := 30000000000) (n := 300) (by omega) (by omega) (by omega) (by omega)
      refine agreeM_sum (F := F) (A := A) hO (by omega) he hf h1 h2 ?_ F 0 (by omega) (by omega)
      unfold x207_agree_437
      have g32 : r32 ((l : Int) + 1) := by omega
      have hcast : (l : Int) + 1 = ((l + 1 : Nat) : Int) := by omega
      simp only [g32p g32]
      simp only [hcast]
      by_cases c1 : S.aC o q f l (e - f + 1).toNat = 0
      · rw [if_pos c1]
        rw [if_neg (fun hh => by have := hh.1; omega)] at ih'
        exact ih'
      · rw [if_neg c1]
        by_cases c2 : 0 ≤ (S.ag o q f (e - f + 1).toNat l).1
        · rw [if_pos c2, g64p (by omega), g64p (by omega)]
          by_cases c3 : S.aS o q f l (e - f + 1).toNat * (S.ag o q f (e - f + 1).toNat l).2.2 < (S.ag o q f (e - f + 1).toNat l).2.1 * S.aC o q f l (e - f + 1).toNat
          · rw [if_neg (by omega)]
            rw [if_pos ⟨by omega, Or.inr c3⟩] at ih'
            exact ih'
          · rw [if_pos (by omega)]
            rw [if_neg (fun hh => by rcases hh.2 with h9 | h9; omega; exact c3 h9)] at ih'
            exact ih'
        · rw [if_neg c2]
          rw [if_pos ⟨by omega, Or.inl (by omega)⟩] at ih'
          exact ih'
    · have el : l = 21 := by omega
      subst el
      rw [if_neg (by omega)]
      show Ret (x207_agree_484 F w (S.agV o q f e).1 (S.agV o q f e).2.1 (S.agV o q f e).2.2 A) _ _
      have hgg := agG_ok (o := o) (q := q) (f := f) (e := e) hO he.2
      have hb := ag_b hO o q f (m := (e - f + 1).toNat) (by omega) 21
      have hb2 : (0 ≤ (S.agV o q f e).2.1 ∧ (S.agV o q f e).2.1 ≤ 30000000000) ∧ 1 ≤ (S.agV o q f e).2.2 ∧ (S.agV o q f e).2.2 ≤ 300 := hb.2
      have t1 := tdiv_b (x := (S.agV o q f e).2.1) (y := S.agG o q f e) (by omega) (by omega)
      have t2 := tdiv_b (x := (S.agV o q f e).2.2) (y := S.agG o q f e) (by omega) (by omega)
      unfold x207_agree_484
      by_cases c7 : (S.agV o q f e).1 < 0
      · rw [if_pos c7, if_pos c7]
        exact lm1 h hO ht (by decide) (by decide)
      · rw [if_neg c7, if_neg c7, gcdM (F := F) (A := A) F 40 _ _ _ (by omega) (by omega) (by omega) (by omega) hgg.1]
        unfold x207_agree_529
        by_cases c8 : w = 0
        · rw [if_pos c8, if_pos c8]
          exact Ret.mk h
        · rw [if_neg c8, if_neg c8]
          by_cases c9 : w = 1
          · rw [if_pos c9, if_pos c9, gnp (by omega), g64p (by omega)]
            exact Ret.mk h
          · rw [if_neg c9, if_neg c9, gnp (by omega), g64p (by omega)]
            exact Ret.mk h
theorem agreeM_f2 (hO : OK t S) (hF : 1000 ≤ F) (hq : S.isP q) (he : 0 ≤ e - f ∧ e - f < 300) (hf : 0 ≤ f ∧ e ≤ 9999) {R : Int} {Q : rz_A → Prop} (fin : ∀ A, DM A S t → On1 A S o f e → On2 A S q f e → Ret (x207_agree_299 F f e w A) R Q) : ∀ (n j : Nat) (A : rz_A), DM A S t → j ≤ S.nH → S.nH < n + j → On1 A S o f e → (∀ i : Nat, (i : Int) ≤ e - f + 20 → A.1 148 i = S.fo q (f + i) ∨ (A.1 148 i = -1 ∧ ∀ g, g < j → ¬ (S.hP g = q ∧ S.hT g = f + i))) → Ret (x207_agree_212 F n q f e w j A) R Q := by
  have hnH := hO.nH
  intro n
  induction n with
  | zero => intro j A h h1 h2; omega
  | succ n ih =>
    intro j A h h1 h2 h3 h4
    unfold x207_agree_212
    rw [h.1.nH]
    by_cases hj : j < S.nH
    · have hb := hO.h j hj
      have g32 : r32 ((j : Int) + 1) := by omega
      have hcast : (j : Int) + 1 = ((j + 1 : Nat) : Int) := by omega
      simp only [g32p g32]
      simp only [hcast]
      rw [if_pos (by omega), gxp (by omega) (by omega), Int.toNat_natCast, h.1.hP, h.1.hT, h.1.now, g32p (by omega)]
      have skip : ¬ (S.hP j = q ∧ 0 ≤ S.hT j - f ∧ S.hT j ≤ e + 20) → Ret (x207_agree_212 F n q f e w ((j + 1 : Nat) : Int) A) R Q := by
        intro hn
        refine ih (j + 1) A h (by omega) (by omega) h3 (fun i hi => ?_)
        rcases h4 i hi with h5 | h5
        · exact Or.inl h5
        · refine Or.inr ⟨h5.1, fun g hg hh => ?_⟩
          by_cases eg : g = j
          · rw [eg] at hh
            exact hn ⟨hh.1, by omega, by omega⟩
          · exact h5.2 g (by omega) hh
      by_cases c1 : S.hP j = q
      · rw [if_pos c1]
        by_cases c2 : 0 ≤ S.hT j - f
        · rw [if_pos c2, g32p (by omega)]
          by_cases c3 : S.hT j ≤ e + 20
          · rw [if_pos c3]
            refine Ret.bind (flowsM (u := S.hT j) (k := S.now) h.1 h.2 hO hF hq) (fun A9 e9 hA => ?_)
            have fr := wx188_flows F e9
            have hd : DM A9 S t := ⟨hA.1, hA.2.1⟩
            have q147 : A9.1 147 = A.1 147 := (fr.row (c := 147) (by decide) (by decide)).1
            have q148 : A9.1 148 = A.1 148 := (fr.row (c := 148) (by decide) (by decide)).1
            have on1 : On1 A9 S o f e := by unfold On1 at h3 ⊢; rw [q147]; exact h3
            have ej : f + (((S.hT j - f).toNat : Nat) : Int) = S.hT j := by omega
            by_cases c4 : S.flOf q (S.hT j) S.now < 0
            · rw [if_pos c4, if_pos rfl]
              have hfb := flOf_b (p := q) (u := S.hT j) (k := S.now) hO
              refine ih (j + 1) A9 hd (by omega) (by omega) on1 (fun i hi => ?_)
              rw [q148]
              rcases h4 i hi with h5 | h5
              · exact Or.inl h5
              · by_cases ei : f + (i : Int) = S.hT j
                · refine Or.inl ?_
                  rw [h5.1, ei]
                  show -1 = S.flOf q (S.hT j) S.now
                  omega
                · refine Or.inr ⟨h5.1, fun g hg hh => ?_⟩
                  by_cases eg : g = j
                  · rw [eg] at hh; exact ei hh.2.symm
                  · exact h5.2 g (by omega) hh
            · rw [if_neg c4, if_neg (by decide), gxp (by omega) (by omega), (hA.2.2 (by omega)).1]
              refine ih (j + 1) _ (DM_148 hd) (by omega) (by omega) on1 (fun i hi => ?_)
              show (if i = (S.hT j - f).toNat then S.flOf q (S.hT j) S.now else A9.1 148 i) = S.fo q (f + i) ∨ ((if i = (S.hT j - f).toNat then S.flOf q (S.hT j) S.now else A9.1 148 i) = -1 ∧ _)
              by_cases ei : i = (S.hT j - f).toNat
              · rw [if_pos ei]
                refine Or.inl ?_
                rw [ei, ej]
              · rw [if_neg ei, q148]
                rcases h4 i hi with h5 | h5
                · exact Or.inl h5
                · refine Or.inr ⟨h5.1, fun g hg hh => ?_⟩
                  by_cases eg : g = j
                  · rw [eg] at hh
                    exact ei (by omega)
                  · exact h5.2 g (by omega) hh
          · rw [if_neg c3]
            exact skip (fun hh => c3 hh.2.2)
        · rw [if_neg c2]
          exact skip (fun hh => c2 hh.2.1)
      · rw [if_neg c1]
        exact skip (fun hh => c1 hh.1)
    · have e1 : j = S.nH := by omega
      subst e1
      rw [if_neg (by omega)]
      refine fin A h h3 (fun i hi => ?_)
      rcases h4 i hi with h5 | h5
      · exact h5
      · rw [h5.1, fo_none hO h5.2]
theorem agreeM_f1 (hO : OK t S) (hF : 1000 ≤ F) (hp : S.isP o) (he : 0 ≤ e - f ∧ e - f < 300) (hf : 0 ≤ f ∧ e ≤ 9999) {R : Int} {Q : rz_A → Prop} (fin : ∀ A, DM A S t → On1 A S o f e → (∀ i : Nat, i < 400 → A.1 148 i = -1) → Ret (x207_agree_212 F F q f e w 0 A) R Q) : ∀ (n j : Nat) (A : rz_A), DM A S t → j ≤ S.nH → S.nH < n + j → (∀ i : Nat, i < 400 → A.1 148 i = -1) → (∀ i : Nat, (i : Int) ≤ e - f → A.1 147 i = S.fo o (f + i) ∨ (A.1 147 i = -1 ∧ ∀ g, g < j → ¬ (S.hP g = o ∧ S.hT g = f + i))) → Ret (x207_agree_125 F n o q f e w j A) R Q := by
  have hnH := hO.nH
  intro n
  induction n with
  | zero => intro j A h h1 h2; omega
  | succ n ih =>
    intro j A h h1 h2 h3 h4
    unfold x207_agree_125
    rw [h.1.nH]
    by_cases hj : j < S.nH
    · have hb := hO.h j hj
      have g32 : r32 ((j : Int) + 1) := by omega
      have hcast : (j : Int) + 1 = ((j + 1 : Nat) : Int) := by omega
      simp only [g32p g32]
      simp only [hcast]
      rw [if_pos (by omega), gxp (by omega) (by omega), Int.toNat_natCast, h.1.hP, h.1.hT, h.1.now, g32p (by omega)]
      have skip : ¬ (S.hP j = o ∧ 0 ≤ S.hT j - f ∧ S.hT j ≤ e) → Ret (x207_agree_125 F n o q f e w ((j + 1 : Nat) : Int) A) R Q := by
        intro hn
        refine ih (j + 1) A h (by omega) (by omega) h3 (fun i hi => ?_)
        rcases h4 i hi with h5 | h5
        · exact Or.inl h5
        · refine Or.inr ⟨h5.1, fun g hg hh => ?_⟩
          by_cases eg : g = j
          · rw [eg] at hh
            exact hn ⟨hh.1, by omega, by omega⟩
          · exact h5.2 g (by omega) hh
      by_cases c1 : S.hP j = o
      · rw [if_pos c1]
        by_cases c2 : 0 ≤ S.hT j - f
        · rw [if_pos c2]
          by_cases c3 : S.hT j ≤ e
          · rw [if_pos c3]
            refine Ret.bind (flowsM (u := S.hT j) (k := S.now) h.1 h.2 hO hF hp) (fun A9 e9 hA => ?_)
            have fr := wx188_flows F e9
            have hd : DM A9 S t := ⟨hA.1, hA.2.1⟩
            have q147 : A9.1 147 = A.1 147 := (fr.row (c := 147) (by decide) (by decide)).1
            have q148 : A9.1 148 = A.1 148 := (fr.row (c := 148) (by decide) (by decide)).1
            have h3' : ∀ i : Nat, i < 400 → A9.1 148 i = -1 := fun i hi => by rw [q148]; exact h3 i hi
            have ej : f + (((S.hT j - f).toNat : Nat) : Int) = S.hT j := by omega
            by_cases c4 : S.flOf o (S.hT j) S.now < 0
            · rw [if_pos c4, if_pos rfl]
              have hfb := flOf_b (p := o) (u := S.hT j) (k := S.now) hO
              refine ih (j + 1) A9 hd (by omega) (by omega) h3' (fun i hi => ?_)
              rw [q147]
              rcases h4 i hi with h5 | h5
              · exact Or.inl h5
              · by_cases ei : f + (i : Int) = S.hT j
                · refine Or.inl ?_
                  rw [h5.1, ei]
                  show -1 = S.flOf o (S.hT j) S.now
                  omega
                · refine Or.inr ⟨h5.1, fun g hg hh => ?_⟩
                  by_cases eg : g = j
                  · rw [eg] at hh; exact ei hh.2.symm
                  · exact h5.2 g (by omega) hh
            · rw [if_neg c4, if_neg (by decide), gxp (by omega) (by omega), (hA.2.2 (by omega)).1]
              refine ih (j + 1) _ (DM_147 hd) (by omega) (by omega) h3' (fun i hi => ?_)
              show (if i = (S.hT j - f).toNat then S.flOf o (S.hT j) S.now else A9.1 147 i) = S.fo o (f + i) ∨ ((if i = (S.hT j - f).toNat then S.flOf o (S.hT j) S.now else A9.1 147 i) = -1 ∧ _)
              by_cases ei : i = (S.hT j - f).toNat
              · rw [if_pos ei]
                refine Or.inl ?_
                rw [ei, ej]
              · rw [if_neg ei, q147]
                rcases h4 i hi with h5 | h5
                · exact Or.inl h5
                · refine Or.inr ⟨h5.1, fun g hg hh => ?_⟩
                  by_cases eg : g = j
                  · rw [eg] at hh
                    exact ei (by omega)
                  · exact h5.2 g (by omega) hh
          · rw [if_neg c3]
            exact skip (fun hh => c3 hh.2.2)
        · rw [if_neg c2]
          exact skip (fun hh => c2 hh.2.1)
      · rw [if_neg c1]
        exact skip (fun hh => c1 hh.1)
    · have e1 : j = S.nH := by omega
      subst e1
      rw [if_neg (by omega)]
      refine fin A h (fun i hi => ?_) h3
      rcases h4 i hi with h5 | h5
      · exact h5
      · rw [h5.1, fo_none hO h5.2]
theorem agreeM_92 {R : Int} {Q : rz_A → Prop} (fin : ∀ A, DM A S t → (∀ i : Nat, i < 400 → A.1 147 i = -1 ∧ A.1 148 i = -1) → Ret (x207_agree_125 F F o q f e w 0 A) R Q) : ∀ (n j : Nat) (A : rz_A), DM A S t → j ≤ 400 → 400 < n + j → (∀ i : Nat, i < j → A.1 147 i = -1 ∧ A.1 148 i = -1) → Ret (x207_agree_92 F n o q f e w j A) R Q := by
  intro n
  induction n with
  | zero => intro j A h h1 h2; omega
  | succ n ih =>
    intro j A h h1 h2 h3
    unfold x207_agree_92
    by_cases hj : j < 400
    · rw [if_pos (by omega), gxp (by omega) (by omega), g32p (by omega), Int.toNat_natCast, show (j : Int) + 1 = ((j + 1 : Nat) : Int) by omega]
      refine ih (j + 1) _ (DM_148 (DM_147 h)) (by omega) (by omega) (fun i hi => ?_)
      show (if i = j then (-1 : Int) else A.1 147 i) = -1 ∧ (if i = j then (-1 : Int) else A.1 148 i) = -1
      by_cases ei : i = j
      · rw [if_pos ei, if_pos ei]; exact ⟨rfl, rfl⟩
      · rw [if_neg ei, if_neg ei]; exact h3 i (by omega)
    · have ej : j = 400 := by omega
      subst ej
      rw [if_neg (by omega)]
      exact fin A h h3
theorem agreeM (h : DM A S t) (hO : OK t S) (ht : t < 512) (hF : 1000 ≤ F) : Ret (x207_agree F o q f e w A) (S.agree o q f e w).1 (fun A1 => DM A1 (S.agree o q f e w).2 (t + 1)) := by
  have h2 := hO.nP
  have hnH := hO.nH
  unfold x207_agree St.agree
  by_cases hp : S.isP o
  · rw [hasM1 h.1 hp, if_pos hp]
    simp only [rz_b_some]
    rw [if_neg (by decide)]
    by_cases hq : S.isP q
    · rw [hasM1 h.1 hq, if_pos hq]
      simp only [rz_b_some]
      rw [if_neg (by decide)]
      by_cases c1 : w < 0
      · rw [if_neg (by omega), if_pos c1]
        exact lm1 h.up hO ht (by decide) (by decide)
      · rw [if_pos (by omega), if_neg c1]
        by_cases c2 : 2 < w
        · rw [if_pos c2, if_pos c2]
          exact lm1 h.up hO ht (by decide) (by decide)
        · rw [if_neg c2, if_neg c2]
          by_cases c3 : f < 0
          · rw [if_neg (by omega), if_pos c3]
            exact lm1 h.up hO ht (by decide) (by decide)
          · rw [if_pos (by omega), if_neg c3]
            by_cases c4 : e < f
            · rw [if_pos c4, if_pos c4]
              exact lm1 h.up hO ht (by decide) (by decide)
            · rw [if_neg c4, if_neg c4]
              by_cases c5 : 9999 < e
              · rw [if_pos c5]
                by_cases c6 : f ≤ 9999
                · rw [if_pos c6, if_neg (by omega)]
                  exact lm1 h.up hO ht (by decide) (by decide)
                · rw [if_neg c6]
                  exact lm1 h.up hO ht (by decide) (by decide)
              · rw [if_pos (by omega), if_pos (by omega), if_neg c5, g32p (by omega)]
                by_cases c6 : 300 ≤ e - f
                · rw [if_pos (by omega), if_pos c6]
                  exact lm1 h.up hO ht (by decide) (by decide)
                · rw [if_neg (by omega), if_neg c6]
                  refine agreeM_92 (F := F) (S := S) (t := t) (fun A1 d1 d2 => ?_) F 0 A h (by omega) (by omega) (fun i hi => absurd hi (Nat.not_lt_zero i))
                  refine agreeM_f1 (F := F) hO hF hp (by omega) (by omega) (fun A2 d3 d4 d5 => ?_) F 0 A1 d1 (by omega) (by omega) (fun i hi => (d2 i hi).2) (fun i hi => Or.inr ⟨(d2 i (by omega)).1, fun g hg => absurd hg (Nat.not_lt_zero g)⟩)
                  refine agreeM_f2 (F := F) (o := o) hO hF hq (by omega) (by omega) (fun A3 d6 d7 d8 => ?_) F 0 A2 d3 (by omega) (by omega) d4 (fun i hi => Or.inr ⟨d5 i (by omega), fun g hg => absurd hg (Nat.not_lt_zero g)⟩)
                  unfold x207_agree_299
                  have := agreeM_lag (F := F) (w := w) (t' := t + 1) hO ht hF (by omega) (by omega) d6.up d7 d8 F 0 (by omega) (by omega)
                  exact this
    · rw [hasM0 h.1 hq, if_neg hq]
      simp only [rz_b_some]
      rw [if_pos (by decide)]
      exact lm1 h.up hO ht (by decide) (by decide)
  · rw [hasM0 h.1 hp, if_neg hp]
    simp only [rz_b_some]
    rw [if_pos (by decide)]
    exact lm1 h.up hO ht (by decide) (by decide)
end AGREEM
