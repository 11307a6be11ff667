set_option maxRecDepth 8000
section GAPM
variable {t t' F : Nat} {A A0 A' : rz_A} {S : St} {V : Vw} {p u k a b v w o q f e x y : Int} {cs : List Nat} {fs : List (Nat × Nat)} {i : Nat}
theorem hasD (h : DM A S t') (hO : OK t S) (hF : 1000 ≤ F) (hp : S.isP p) : Ret (x161_has F p u S.now A) (if S.vw.which p u S.now < 0 then 0 else 1) (fun A1 => DM A1 S t' ∧ (0 ≤ S.vw.which p u S.now → A1.1 91 54 = S.vw.lvl p u S.now)) := by
  obtain ⟨A1, e1, hA⟩ := hasM (F := F) (u := u) (k := S.now) h.1 hO hF hp
  have fr := wx161_has F e1
  exact ⟨A1, e1, ⟨rm_fr h.1 fr (by decide), h.2.fr fr (by decide)⟩, hA⟩
theorem betwM (ha : -1000 ≤ a ∧ a ≤ 10998) (hb : -1000 ≤ b ∧ b ≤ 10998) (hu : f ≤ u ∧ u ≤ e) (he : 0 ≤ f ∧ e ≤ 9999 ∧ f < e ∧ e - f ≤ 200) : x204_between F a b u f e A = some (bwV a b u f e, A) := by
  have hh := bw_b (u := u) (f := f) (e := e) ha hb hu (by omega)
  unfold x204_between bwV
  rw [g32p (by omega), g32p (by omega), g64p (by omega), g32p (by omega), gnp (by omega), g64p (by omega), g32p (by omega), g32p (by omega)]
/-- the answer, once FILL lets -/
theorem gap465M (h : DM A S t') (hw : 0 ≤ w ∧ w ≤ 3) (hv : v = S.filV p u) (hx : x = if 0 ≤ S.nb p u then 1 else 0) : Ret (x203_gap_465 F w (S.gA p u) (S.gB p u) v x A) (S.gapV p u w) (fun A1 => DM A1 S t') := by
  subst hv
  subst hx
  unfold x203_gap_465 St.gapV
  by_cases w0 : w = 0
  · rw [if_pos w0, if_pos w0]
    exact Ret.mk h
  · rw [if_neg w0, if_neg w0]
    by_cases w1 : w = 1
    · rw [if_pos w1, if_neg (by omega), if_pos w1]
      exact Ret.mk h
    · rw [if_neg w1]
      by_cases w2 : w = 2
      · rw [if_pos w2, if_neg (by omega), if_neg w1]
        exact Ret.mk h
      · have w3 : w = 3 := by omega
        rw [if_neg w2, if_pos w3]
        by_cases c : 0 ≤ S.nb p u
        · rw [if_pos c, if_neg (by decide)]
          exact Ret.mk h
        · rw [if_neg c, if_pos rfl]
          exact Ret.mk h
theorem gap400M (h : DM A S t') (hO : OK t S) (ht : t < 512) (hF : 1000 ≤ F) (hp : S.isP p) (hu : 0 ≤ u ∧ u ≤ 9999) (hw : 0 ≤ w ∧ w ≤ 3) (hv : v = S.filV p u) (hx : x = if 0 ≤ S.nb p u then 1 else 0) (hy : 0 ≤ S.nb p u → y = S.nb p u) (hs : 0 ≤ S.vw.inForce 1 (u.tdiv 96) S.now) : Ret (x203_gap_400 F u w (S.gA p u) (S.gB p u) v y x (S.vw.inForce 1 (u.tdiv 96) S.now) (cntN (S.pAt u) S.nP : Int) A) (S.gapR p u w).1 (fun A1 => DM A1 (S.gapR p u w).2 t') := by
  have hnP := hO.nP
  have hgB := gB_ch (S := S) (p := p) hu
  have hgA := gA_ch (S := S) (p := p) hu
  have hfb := S.vw.fAcc_lt (q := 1) (dy := u.tdiv 96) (k := S.now) S.nS
  have hfb2 : S.vw.inForce 1 (u.tdiv 96) S.now < S.nS := hfb.1
  have hfo : S.fillOK p u = S.vw.says (S.vw.inForce 1 (u.tdiv 96) S.now).toNat (S.filL p u) := by unfold St.fillOK; rw [if_neg (by omega)]
  unfold x203_gap_400
  refine Ret.bind (laysM (A := A) hF hu) (fun B eB hB => ?_)
  have frB := wx157_lays F eB
  rw [g32p (by omega)]
  have fin : ∀ z : Int, z = (if 0 ≤ S.nb p u then S.nb p u else 99) → Ret (rz_b (x158_says F (S.vw.inForce 1 (u.tdiv 96) S.now) (aL (aL (aL B 133 6 (S.gB p u - S.gA p u)) 133 7 (cntN (S.pAt u) S.nP : Int)) 133 13 z)) fun r7 A7 => if r7 = 0 then (rz_b (x148_far F (-3) A7) fun r9 A9 => some (r9, A9)) else x203_gap_465 F w (S.gA p u) (S.gB p u) v x A7) (S.gapR p u w).1 (fun A1 => DM A1 (S.gapR p u w).2 t') := by
    intro z hz
    have frL : Fr [133] [] A (aL (aL (aL B 133 6 (S.gB p u - S.gA p u)) 133 7 (cntN (S.pAt u) S.nP : Int)) 133 13 z) := Fr.aL (Fr.aL (Fr.aL (frB.mono (by decide) (by decide)) (Or.inl (by decide))) (Or.inl (by decide))) (Or.inl (by decide))
    have hdL : DM (aL (aL (aL B 133 6 (S.gB p u - S.gA p u)) 133 7 (cntN (S.pAt u) S.nP : Int)) 133 13 z) S t' := ⟨rm_fr h.1 frL (by decide), h.2.fr frL (by decide)⟩
    have hsy := saysM (F := F) hdL.1 hO hF (s := (S.vw.inForce 1 (u.tdiv 96) S.now).toNat) (by omega) (filL_b (p := p) (u := u) hO hp hu) (filLetM hB hz)
    rw [show (((S.vw.inForce 1 (u.tdiv 96) S.now).toNat : Nat) : Int) = S.vw.inForce 1 (u.tdiv 96) S.now by omega] at hsy
    refine Ret.bind hsy (fun A9 e9 _ => ?_)
    have fr9 := wx158_says F e9
    have hd9 : DM A9 S t' := ⟨rm_fr hdL.1 fr9 (by decide), hdL.2.fr fr9 (by decide)⟩
    unfold St.gapR
    rw [hfo]
    by_cases c5 : S.vw.says (S.vw.inForce 1 (u.tdiv 96) S.now).toNat (S.filL p u) = 0
    · rw [if_pos c5, if_pos c5]
      exact lm2 hd9 hO ht (by decide) (by decide)
    · rw [if_neg c5, if_neg c5]
      exact gap465M hd9 hw hv hx
  by_cases c : 0 ≤ S.nb p u
  · rw [if_pos c] at hx
    rw [if_neg (by omega)]
    exact fin y (by rw [if_pos c]; exact hy c)
  · rw [if_neg c] at hx
    rw [if_pos hx]
    exact fin 99 (by rw [if_neg c])
theorem gap368M (hO : OK t S) (hF : 1000 ≤ F) (hu : 0 ≤ u ∧ u ≤ 9999) {R : Int} {Q : rz_A → Prop} {v3 v5 v7 v8 v9 v10 v11 : Int} (fin : ∀ A, DM A S t' → Ret (x203_gap_400 F u v3 v5 v7 v8 v9 v10 v11 (cntN (S.pAt u) S.nP : Int) A) R Q) : ∀ (n j : Nat) (A : rz_A), DM A S t' → j ≤ S.nP → S.nP < n + j → Ret (x203_gap_368 F n u v3 v5 v7 v8 v9 v10 v11 (cntN (S.pAt u) j) j A) R Q := by
  have hnP := hO.nP
  intro n
  induction n with
  | zero => intro j A h h1 h2; omega
  | succ n ih =>
    intro j A h h1 h2
    have hle := cntN_le (S.pAt u) j
    unfold x203_gap_368
    rw [h.1.nP, h.1.now]
    by_cases hj : j < S.nP
    · have ih' := ih (j + 1)
      rw [show cntN (S.pAt u) (j + 1) = cntN (S.pAt u) j + if S.pAt u j then 1 else 0 from rfl] at ih'
      rw [if_pos (by omega)]
      refine Ret.bind (hasD (u := u) h hO hF ⟨by omega, by omega⟩) (fun B eB hB => ?_)
      by_cases c : S.vw.which j u S.now < 0
      · rw [if_neg (by simp; omega)] at ih'
        rw [if_pos c, if_pos rfl, g32p (by omega)]
        exact ih' B hB.1 (by omega) (by omega)
      · rw [if_pos (decide_eq_true (by omega))] at ih'
        rw [if_neg c, if_neg (by decide), g32p (by omega), g32p (by omega)]
        exact ih' B hB.1 (by omega) (by omega)
    · have ej : j = S.nP := by omega
      subst ej
      rw [if_neg (by omega)]
      exact fin A h
theorem gap342M (h : DM A S t') (hO : OK t S) (ht : t < 512) (hF : 1000 ≤ F) (hp : S.isP p) (hu : 0 ≤ u ∧ u ≤ 9999) (hw : 0 ≤ w ∧ w ≤ 3) (hv : v = S.filV p u) (hx : x = if 0 ≤ S.nb p u then 1 else 0) (hy : 0 ≤ S.nb p u → y = S.nb p u) : Ret (x203_gap_342 F u w (S.gA p u) (S.gB p u) v y x A) (S.gapR p u w).1 (fun A1 => DM A1 (S.gapR p u w).2 t') := by
  have hnP := hO.nP
  have e96 := tdiv96 hu.1
  unfold x203_gap_342
  rw [g32p (by omega), h.1.now, forceM h.1 hO hF]
  simp only [rz_b_some]
  by_cases c : 0 ≤ S.vw.inForce 1 (u.tdiv 96) S.now
  · rw [if_pos c]
    exact gap368M (F := F) (t' := t') hO hF hu (fun B hB => gap400M hB hO ht hF hp hu hw hv hx hy c) F 0 A h (by omega) (by omega)
  · rw [if_neg c]
    have hfo : S.fillOK p u = 1 := by unfold St.fillOK; rw [if_pos (by omega)]
    unfold St.gapR
    rw [hfo, if_neg (by decide)]
    exact gap465M h hw hv hx
theorem gap181M (h : DM A S t') (hO : OK t S) (ht : t < 512) (hF : 1000 ≤ F) (hp : S.isP p) (hu : 0 ≤ u ∧ u ≤ 9999) (hw : 0 ≤ w ∧ w ≤ 3) (hg : S.gOK p u) (h54 : A.1 91 54 = S.vw.lvl p (S.gB p u) S.now) : Ret (x203_gap_181 F p u w (S.gA p u) (S.vw.lvl p (S.gA p u) S.now) (S.gB p u) A) (S.gapR p u w).1 (fun A1 => DM A1 (S.gapR p u w).2 t') := by
  have hnP := hO.nP
  have hgB := gB_ch (S := S) (p := p) hu
  have hgA := gA_ch (S := S) (p := p) hu
  have l1 := lvl_b hO hp (hgA.2.1 hg.1)
  have l2 := lvl_b hO hp (hgB.2.1 hg.2.1)
  have hbe := hO.beside p.toNat (by omega)
  unfold x203_gap_181
  rw [if_pos hg.2.1, g32p (by omega), if_neg (by have := hg.2.2; omega), h54, betwM l1 l2 (by omega) (by omega)]
  simp only [rz_b_some]
  have hbwp : bwV (S.vw.lvl p (S.gA p u) S.now) (S.vw.lvl p (S.gB p u) S.now) u (S.gA p u) (S.gB p u) = S.bw p p u := rfl
  rw [gxp (by omega) (by omega), h.1.beside, h.1.now, hbwp]
  have none' : ∀ (B : rz_A) (y : Int), DM B S t' → S.nb p u = -1 → Ret (x203_gap_342 F u w (S.gA p u) (S.gB p u) (S.bw p p u) y 0 B) (S.gapR p u w).1 (fun A1 => DM A1 (S.gapR p u w).2 t') := by
    intro B y hB hn
    exact gap342M hB hO ht hF hp hu hw (by unfold St.filV; rw [hn, if_pos (by decide)]) (by rw [hn]; rfl) (fun hh => by omega)
  by_cases c1 : 0 ≤ S.beside p.toNat
  · have hon : S.isP (S.beside p.toNat) := ⟨c1, hbe.2⟩
    rw [if_pos c1]
    refine Ret.bind (hasD (u := S.gA p u) h hO hF hon) (fun B eB hB => ?_)
    by_cases c2 : S.vw.which (S.beside p.toNat) (S.gA p u) S.now < 0
    · rw [if_pos c2, if_pos rfl]
      exact none' B _ hB.1 (by unfold St.nb; rw [if_neg (by omega), if_neg (fun hh => by have := hh.1; omega)])
    · rw [if_neg c2, if_neg (by decide), hB.1.1.now]
      refine Ret.bind (hasD (u := S.gB p u) hB.1 hO hF hon) (fun C eC hC => ?_)
      by_cases c3 : S.vw.which (S.beside p.toNat) (S.gB p u) S.now < 0
      · rw [if_pos c3, if_pos rfl]
        exact none' C _ hC.1 (by unfold St.nb; rw [if_neg (by omega), if_neg (fun hh => by have := hh.2.1; omega)])
      · rw [if_neg c3, if_neg (by decide), hC.1.1.now]
        refine Ret.bind (hasD (u := u) hC.1 hO hF hon) (fun D eD hD => ?_)
        by_cases c4 : S.vw.which (S.beside p.toNat) u S.now < 0
        · rw [if_pos c4, if_pos rfl]
          exact none' D _ hD.1 (by unfold St.nb; rw [if_neg (by omega), if_neg (fun hh => by have := hh.2.2; omega)])
        · have enb : S.nb p u = S.beside p.toNat := by unfold St.nb; rw [if_neg (by omega), if_pos ⟨by omega, by omega, by omega⟩]
          have k1 := lvl_b hO hon (by omega : 0 ≤ S.vw.which (S.beside p.toNat) (S.gA p u) S.now)
          have k2 := lvl_b hO hon (by omega : 0 ≤ S.vw.which (S.beside p.toNat) (S.gB p u) S.now)
          have k3 := lvl_b hO hon (by omega : 0 ≤ S.vw.which (S.beside p.toNat) u S.now)
          have hb1 := bw_b (u := u) (f := S.gA p u) (e := S.gB p u) l1 l2 (by omega) (by have := hg; omega)
          have hb2 := bw_b (u := u) (f := S.gA p u) (e := S.gB p u) k1 k2 (by omega) (by have := hg; omega)
          have hbw : S.bw p p u = S.vw.lvl p (S.gA p u) S.now + ((S.vw.lvl p (S.gB p u) S.now - S.vw.lvl p (S.gA p u) S.now) * (u - S.gA p u)).tdiv (S.gB p u - S.gA p u) := rfl
          have hbw2 : bwV (S.vw.lvl (S.beside p.toNat) (S.gA p u) S.now) (S.vw.lvl (S.beside p.toNat) (S.gB p u) S.now) u (S.gA p u) (S.gB p u) = S.vw.lvl (S.beside p.toNat) (S.gA p u) S.now + ((S.vw.lvl (S.beside p.toNat) (S.gB p u) S.now - S.vw.lvl (S.beside p.toNat) (S.gA p u) S.now) * (u - S.gA p u)).tdiv (S.gB p u - S.gA p u) := rfl
          rw [if_neg c4, if_neg (by decide), hB.2 (by omega), hC.2 (by omega), hD.2 (by omega), betwM k1 k2 (by omega) (by have := hg; omega)]
          simp only [rz_b_some]
          rw [g32p (by omega), g32p (by omega)]
          refine gap342M hD.1 hO ht hF hp hu hw ?_ (by rw [enb, if_pos c1]) (fun _ => enb.symm)
          unfold St.filV
          rw [enb, if_neg (by omega)]
          show _ = S.bw p p u + S.vw.lvl (S.beside p.toNat) u S.now - bwV (S.vw.lvl (S.beside p.toNat) (S.gA p u) S.now) (S.vw.lvl (S.beside p.toNat) (S.gB p u) S.now) u (S.gA p u) (S.gB p u)
          omega
  · rw [if_neg c1]
    exact none' A _ h (by unfold St.nb; rw [if_pos (by omega)])
theorem gap142M (hO : OK t S) (ht : t < 512) (hF : 1000 ≤ F) (hp : S.isP p) (hu : 0 ≤ u ∧ u ≤ 9999) (hw : 0 ≤ w ∧ w ≤ 3) (hga : 0 ≤ S.gA p u ∧ u - S.gA p u < 200) : ∀ (n : Nat) (x : Int) (A : rz_A), DM A S t' → u + 1 ≤ x → x - S.gA p u ≤ 201 → x ≤ 10000 → 10000 < n + x ∨ S.gA p u + 201 < n + x → (∀ y : Int, u < y → y < x → S.vw.which p y S.now < 0) → Ret (x203_gap_142 F n p u w (S.gA p u) (S.vw.lvl p (S.gA p u) S.now) x A) (if S.gOK p u then S.gapR p u w else S.far 4).1 (fun A1 => DM A1 (if S.gOK p u then S.gapR p u w else S.far 4).2 t') := by
  have hgB := gB_ch (S := S) (p := p) hu
  have hgA := gA_ch (S := S) (p := p) hu
  intro n
  induction n with
  | zero => intro x A h h1 h2 h3 h4; omega
  | succ n ih =>
    intro x A h h1 h2 h3 h4 h5
    have bad : (x = 10000 ∨ 200 < x - S.gA p u) → Ret (x203_gap_181 F p u w (S.gA p u) (S.vw.lvl p (S.gA p u) S.now) x A) (if S.gOK p u then S.gapR p u w else S.far 4).1 (fun A1 => DM A1 (if S.gOK p u then S.gapR p u w else S.far 4).2 t') := by
      intro hx
      have hn : ¬ S.gOK p u := fun hh => by
        by_cases c : S.gB p u < x
        · have := h5 _ (by omega) c; have := hgB.2.1 hh.2.1; omega
        · have := hh.2; omega
      rw [if_neg hn]
      unfold x203_gap_181
      by_cases c : x ≤ 9999
      · rw [if_pos c, g32p (by omega), if_pos (by omega)]
        exact lm2 h hO ht (by decide) (by decide)
      · rw [if_neg c]
        exact lm2 h hO ht (by decide) (by decide)
    unfold x203_gap_142
    by_cases c1 : x ≤ 9999
    · rw [if_pos c1, g32p (by omega)]
      by_cases c2 : x - S.gA p u ≤ 200
      · rw [if_pos c2, h.1.now]
        refine Ret.bind (hasD (u := x) h hO hF hp) (fun B eB hB => ?_)
        by_cases c3 : S.vw.which p x S.now < 0
        · rw [if_pos c3, if_pos rfl, g32p (by omega)]
          refine ih (x + 1) B hB.1 (by omega) (by omega) (by omega) (by omega) (fun y a b => ?_)
          by_cases ey : y = x
          · rw [ey]; exact c3
          · exact h5 y a (by omega)
        · have eB : S.gB p u = x := gB_eq hu ⟨by omega, c1⟩ (by omega) h5
          rw [if_neg c3, if_neg (by decide)]
          have hg : S.gOK p u := ⟨hga.1, by omega, by omega⟩
          rw [if_pos hg]
          have := gap181M (F := F) (t' := t') hB.1 hO ht hF hp hu hw hg (by rw [eB]; exact hB.2 (by omega))
          rw [eB] at this
          exact this
      · rw [if_neg c2]
        exact bad (Or.inr (by omega))
    · rw [if_neg c1]
      exact bad (Or.inl (by omega))
theorem gap74M (hO : OK t S) (ht : t < 512) (hF : 1000 ≤ F) (hp : S.isP p) (hu : 0 ≤ u ∧ u ≤ 9999) (hw : 0 ≤ w ∧ w ≤ 3) : ∀ (n : Nat) (x : Int) (A : rz_A), DM A S t' → -1 ≤ x → x < u → u - x ≤ 200 → 201 < n + (u - x) → (∀ y : Int, x < y → y < u → S.vw.which p y S.now < 0) → Ret (x203_gap_74 F n p u w x A) (if S.gOK p u then S.gapR p u w else S.far 4).1 (fun A1 => DM A1 (if S.gOK p u then S.gapR p u w else S.far 4).2 t') := by
  have hgA := gA_ch (S := S) (p := p) hu
  have hgB := gB_ch (S := S) (p := p) hu
  intro n
  induction n with
  | zero => intro x A h h1 h2 h3 h4; omega
  | succ n ih =>
    intro x A h h1 h2 h3 h4 h5
    have bad : (x < 0 ∨ 200 ≤ u - x) → Ret (x203_gap_109 F p u w x A) (if S.gOK p u then S.gapR p u w else S.far 4).1 (fun A1 => DM A1 (if S.gOK p u then S.gapR p u w else S.far 4).2 t') := by
      intro hx
      have hn : ¬ S.gOK p u := fun hh => by
        by_cases c : x < S.gA p u
        · have := h5 _ c hgA.1.2; have := hgA.2.1 hh.1; omega
        · have := hh; omega
      rw [if_neg hn]
      unfold x203_gap_109
      by_cases c : 0 ≤ x
      · rw [if_pos c, g32p (by omega), if_pos (by omega)]
        exact lm2 h hO ht (by decide) (by decide)
      · rw [if_neg c]
        exact lm2 h hO ht (by decide) (by decide)
    unfold x203_gap_74
    by_cases c1 : 0 ≤ x
    · rw [if_pos c1, g32p (by omega)]
      by_cases c2 : u - x < 200
      · rw [if_pos c2, h.1.now]
        refine Ret.bind (hasD (u := x) h hO hF hp) (fun B eB hB => ?_)
        by_cases c3 : S.vw.which p x S.now < 0
        · rw [if_pos c3, if_pos rfl, g32p (by omega), show x + (-1) = x - 1 by omega]
          refine ih (x - 1) B hB.1 (by omega) (by omega) (by omega) (by omega) (fun y a b => ?_)
          by_cases ey : y = x
          · rw [ey]; exact c3
          · exact h5 y (by omega) b
        · have eA : S.gA p u = x := gA_eq hu ⟨c1, h2⟩ (by omega) h5
          subst eA
          rw [if_neg c3, if_neg (by decide)]
          unfold x203_gap_109
          rw [if_pos c1, g32p (by omega), if_neg (by omega), g32p (by omega), hB.2 (by omega)]
          have := gap142M (F := F) (t' := t') hO ht hF hp hu hw (by omega) F (u + 1) B hB.1 (by omega) (by omega) (by omega) (Or.inr (by omega)) (fun y a b => by omega)
          exact this
      · rw [if_neg c2]
        exact bad (Or.inr (by omega))
    · rw [if_neg c1]
      exact bad (Or.inl (by omega))
theorem gapM (h : DM A S t) (hO : OK t S) (ht : t < 512) (hF : 1000 ≤ F) : Ret (x203_gap F p u w A) (S.gap p u w).1 (fun A1 => DM A1 (S.gap p u w).2 (t + 1)) := by
  have h2 := hO.nP
  unfold x203_gap St.gap
  by_cases hp : S.isP p
  · rw [hasM1 h.1 hp, if_pos hp]
    simp only [rz_b_some]
    rw [if_neg (by decide)]
    by_cases w0 : w < 0
    · rw [if_neg (by omega), if_pos w0]
      exact lm2 h.up hO ht (by decide) (by decide)
    · rw [if_pos (by omega), if_neg w0]
      by_cases w1 : 3 < w
      · rw [if_pos w1, if_pos w1]
        exact lm2 h.up hO ht (by decide) (by decide)
      · rw [if_neg w1, if_neg w1, timM]
        simp only [rz_b_some]
        by_cases hk : timV u u = 0
        · rw [if_pos hk, if_pos hk, h.1.now]
          have hu := (timV_0 hk).1
          refine Ret.bind (hasD (u := u) h.up hO hF hp) (fun B eB hB => ?_)
          by_cases c : S.vw.which p u S.now < 0
          · rw [if_pos c, if_pos rfl, if_neg (by omega : ¬ 0 ≤ S.vw.which p u S.now), g32p (by omega)]
            exact gap74M (F := F) hO ht hF hp hu (by omega) F (u - 1) B hB.1 (by omega) (by omega) (by omega) (by omega) (fun y a b => by omega)
          · rw [if_neg c, if_neg (by decide), if_pos (by omega : 0 ≤ S.vw.which p u S.now)]
            exact lm2 hB.1 hO ht (by decide) (by decide)
        · rw [if_neg hk, if_neg hk]
          exact lm2v h.up hO ht (timV_n hk)
  · rw [hasM0 h.1 hp, if_neg hp]
    simp only [rz_b_some]
    rw [if_pos (by decide)]
    exact lm2 h.up hO ht (by decide) (by decide)
end GAPM
