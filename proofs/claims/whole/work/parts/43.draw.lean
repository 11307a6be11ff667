set_option maxRecDepth 8000
/-! the CURVE: spec, class, reference -/
def cAcc (V : Vw) (L : Fl) (p a b k : Int) : Nat → Pt × Int
  | 0 => ((0, fun _ => 0, fun _ => 0, fun _ => 0), 0)
  | f + 1 => if L.fP f = p ∧ a ≤ L.fT f ∧ L.fT f ≤ b ∧ inF V L k f then ((cAcc V L p a b k f).1.add (V.lvl (L.fP f) (L.fT f) k) (L.fN f), if (cAcc V L p a b k f).2 < L.fW f then L.fW f else (cAcc V L p a b k f).2) else cAcc V L p a b k f
def curve (V : Vw) (L : Fl) (p a b k : Int) : Pt × Int := cAcc V L p a b k L.nF
theorem cAcc_s (S : St) (p a b k : Int) (f : Nat) : cAcc S.vw S.fl p a b k (f + 1) = if S.fP f = p ∧ a ≤ S.fT f ∧ S.fT f ≤ b ∧ inF S.vw S.fl k f then ((cAcc S.vw S.fl p a b k f).1.add (S.vw.lvl (S.fP f) (S.fT f) k) (S.fN f), if (cAcc S.vw S.fl p a b k f).2 < S.fW f then S.fW f else (cAcc S.vw S.fl p a b k f).2) else cAcc S.vw S.fl p a b k f := rfl
section DRAW
variable {t F : Nat} {A A0 A' : rz_A} {S : St} {V : Vw} {p u k a b l v : Int} {cs : List Nat} {fs : List (Nat × Nat)}
theorem lvl_b (hO : OK t S) (hp : S.isP p) (hw : 0 ≤ S.vw.which p u k) : -1000 ≤ S.vw.lvl p u k ∧ S.vw.lvl p u k ≤ 10998 := by
  have hwb := (S.vw.wAcc_b p u k S.nH).1
  have hwb1 : S.vw.which p u k < S.nH := hwb
  have hb := hO.h (S.vw.which p u k).toNat (by omega)
  have hz : -999 ≤ S.vw.zeroOf p u k ∧ S.vw.zeroOf p u k ≤ 999 := Vw.zeroOf_b hO hp S.nZ (Nat.le_refl _)
  show -1000 ≤ S.hR (S.vw.which p u k).toNat + S.vw.zeroOf p u k ∧ S.hR (S.vw.which p u k).toNat + S.vw.zeroOf p u k ≤ 10998
  omega
theorem cAcc_ok (hO : OK t S) (p a b k : Int) : ∀ f, f ≤ S.nF → ∃ c, c ≤ f ∧ PtOK (cAcc S.vw S.fl p a b k f).1 c ∧ 0 ≤ (cAcc S.vw S.fl p a b k f).2 ∧ (cAcc S.vw S.fl p a b k f).2 ≤ 99
  | 0, _ => ⟨0, Nat.le_refl _, PtOK.of ⟨Nat.le_refl _, fun i j _ hj => absurd hj (Nat.not_lt_zero j), fun i hi => absurd hi (Nat.not_lt_zero i), fun i hi => absurd hi (Nat.not_lt_zero i), fun i hi => absurd hi (Nat.not_lt_zero i), rfl⟩, by show (0 : Int) ≤ 0; omega, by show (0 : Int) ≤ 99; omega⟩
  | f + 1, hf => by
    obtain ⟨c, h1, h2, h3⟩ := cAcc_ok hO p a b k f (by omega)
    rw [cAcc_s]
    by_cases hc : S.fP f = p ∧ a ≤ S.fT f ∧ S.fT f ≤ b ∧ inF S.vw S.fl k f
    · have hb := hO.f f (by omega)
      have hl := lvl_b (u := S.fT f) (k := k) hO hb.1 hc.2.2.2.2.2
      rw [if_pos hc]
      refine ⟨c + 1, by omega, h2.add (by omega) (by omega), ?_⟩
      show 0 ≤ (if (cAcc S.vw S.fl p a b k f).2 < S.fW f then S.fW f else (cAcc S.vw S.fl p a b k f).2) ∧ (if (cAcc S.vw S.fl p a b k f).2 < S.fW f then S.fW f else (cAcc S.vw S.fl p a b k f).2) ≤ 99
      split <;> omega
    · rw [if_neg hc]
      exact ⟨c, by omega, h2, h3⟩
theorem curve_ok (hO : OK t S) (p a b k : Int) : ∃ c, c ≤ 60 ∧ PtOK (curve S.vw S.fl p a b k).1 c ∧ 0 ≤ (curve S.vw S.fl p a b k).2 ∧ (curve S.vw S.fl p a b k).2 ≤ 99 := by
  obtain ⟨c, h1, h2⟩ := cAcc_ok hO p a b k S.nF (Nat.le_refl _)
  have := hO.nF
  exact ⟨c, by omega, h2⟩
def fr_okf (rows : List Nat) (slots : List (Nat × Nat)) (cs : List Nat) (fs : List (Nat × Nat)) : Bool := rows.all (fun c => decide (c ∉ cs) && fs.all (fun x => decide (x.1 ≠ c))) && slots.all (fun x => decide (x.1 ∉ cs) && decide (x ∉ fs))
theorem fr_rows {rows : List Nat} {slots : List (Nat × Nat)} (fr : Fr cs fs A A') (hc : fr_okf rows slots cs fs = true) {c : Nat} (hm : c ∈ rows) : A'.1 c = A.1 c ∧ A'.2 c = A.2 c := by
  unfold fr_okf at hc
  simp only [Bool.and_eq_true] at hc
  have g := List.all_eq_true.mp hc.1 c hm
  simp only [Bool.and_eq_true, decide_eq_true_eq] at g
  have hx : ∀ j, (c, j) ∉ fs := fun j hx => by
    have g2 := List.all_eq_true.mp g.2 (c, j) hx
    simp at g2
  exact ⟨funext fun j => (fr c j g.1 (hx j)).1, funext fun j => (fr c j g.1 (hx j)).2⟩
theorem fr_slots {rows : List Nat} {slots : List (Nat × Nat)} (fr : Fr cs fs A A') (hc : fr_okf rows slots cs fs = true) {c j : Nat} (hm : (c, j) ∈ slots) : A'.1 c j = A.1 c j := by
  unfold fr_okf at hc
  simp only [Bool.and_eq_true] at hc
  have g := List.all_eq_true.mp hc.2 (c, j) hm
  simp only [Bool.and_eq_true, decide_eq_true_eq] at g
  exact (fr c j g.1 g.2).1
abbrev vwRows : List Nat := [52, 53, 54]
abbrev vwSlots : List (Nat × Nat) := [(51, 3), (51, 10)]
theorem View.fr (h : View A V k) (fr : Fr cs fs A A') (hc : fr_okf vwRows vwSlots cs fs = true) : View A' V k := by
  have e1 := (fr_rows fr hc (c := 52) (by decide)).1
  have e2 := (fr_rows fr hc (c := 53) (by decide)).1
  have e3 := (fr_rows fr hc (c := 54) (by decide)).1
  have e4 := fr_slots fr hc (c := 51) (j := 3) (by decide)
  have e5 := fr_slots fr hc (c := 51) (j := 10) (by decide)
  unfold View at h ⊢
  rw [e1, e2, e3, e4, e5]
  exact h
/-! the class's caches -/
def CI (A : rz_A) (S : St) (t : Nat) : Prop := (A.1 51 5 = 0 ∨ A.1 51 5 = 1) ∧ (A.1 51 5 = 1 → View A S.vw (A.1 51 3)) ∧ (0 ≤ A.1 51 4 ∧ A.1 51 4 ≤ t) ∧ (A.1 56 12 ≤ A.1 51 4) ∧ (A.1 51 5 = 1 → 0 ≤ A.1 56 9 → A.1 56 12 = A.1 51 4 → CvC A (curve S.vw S.fl (A.1 56 9) (A.1 56 10) (A.1 56 11) (A.1 51 3)).1 ∧ A.1 56 8 = (curve S.vw S.fl (A.1 56 9) (A.1 56 10) (A.1 56 11) (A.1 51 3)).2)
theorem CI.of {A : rz_A} {S : St} {t : Nat} (h : (A.1 51 5 = 0 ∨ A.1 51 5 = 1) ∧ (A.1 51 5 = 1 → View A S.vw (A.1 51 3)) ∧ (0 ≤ A.1 51 4 ∧ A.1 51 4 ≤ t) ∧ (A.1 56 12 ≤ A.1 51 4) ∧ (A.1 51 5 = 1 → 0 ≤ A.1 56 9 → A.1 56 12 = A.1 51 4 → CvC A (curve S.vw S.fl (A.1 56 9) (A.1 56 10) (A.1 56 11) (A.1 51 3)).1 ∧ A.1 56 8 = (curve S.vw S.fl (A.1 56 9) (A.1 56 10) (A.1 56 11) (A.1 51 3)).2)) : CI A S t := h
theorem CI.st {A : rz_A} {S : St} {t : Nat} (h : CI A S t) : A.1 51 5 = 0 ∨ A.1 51 5 = 1 := h.1
theorem CI.vw {A : rz_A} {S : St} {t : Nat} (h : CI A S t) : A.1 51 5 = 1 → View A S.vw (A.1 51 3) := h.2.1
theorem CI.rd {A : rz_A} {S : St} {t : Nat} (h : CI A S t) : 0 ≤ A.1 51 4 ∧ A.1 51 4 ≤ t := h.2.2.1
theorem CI.dr {A : rz_A} {S : St} {t : Nat} (h : CI A S t) : A.1 56 12 ≤ A.1 51 4 := h.2.2.2.1
theorem CI.cv {A : rz_A} {S : St} {t : Nat} (h : CI A S t) : A.1 51 5 = 1 → 0 ≤ A.1 56 9 → A.1 56 12 = A.1 51 4 → CvC A (curve S.vw S.fl (A.1 56 9) (A.1 56 10) (A.1 56 11) (A.1 51 3)).1 ∧ A.1 56 8 = (curve S.vw S.fl (A.1 56 9) (A.1 56 10) (A.1 56 11) (A.1 51 3)).2 := h.2.2.2.2
abbrev ciRows : List Nat := [52, 53, 54, 58, 59]
abbrev ciSlots : List (Nat × Nat) := [(51, 3), (51, 4), (51, 5), (51, 10), (56, 8), (56, 9), (56, 10), (56, 11), (56, 12), (57, 0)]
theorem CI.fr (h : CI A S t) (fr : Fr cs fs A A') (hc : fr_okf ciRows ciSlots cs fs = true) : CI A' S t := by
  have e1 := (fr_rows fr hc (c := 52) (by decide)).1
  have e2 := (fr_rows fr hc (c := 53) (by decide)).1
  have e3 := (fr_rows fr hc (c := 54) (by decide)).1
  have e4 := (fr_rows fr hc (c := 58) (by decide)).1
  have e5 := (fr_rows fr hc (c := 59) (by decide)).1
  have s1 := fr_slots fr hc (c := 51) (j := 3) (by decide)
  have s2 := fr_slots fr hc (c := 51) (j := 4) (by decide)
  have s3 := fr_slots fr hc (c := 51) (j := 5) (by decide)
  have s4 := fr_slots fr hc (c := 51) (j := 10) (by decide)
  have s5 := fr_slots fr hc (c := 56) (j := 8) (by decide)
  have s6 := fr_slots fr hc (c := 56) (j := 9) (by decide)
  have s7 := fr_slots fr hc (c := 56) (j := 10) (by decide)
  have s8 := fr_slots fr hc (c := 56) (j := 11) (by decide)
  have s9 := fr_slots fr hc (c := 56) (j := 12) (by decide)
  have s10 := fr_slots fr hc (c := 57) (j := 0) (by decide)
  unfold CI View CvC at h ⊢
  rw [e1, e2, e3, e4, e5, s1, s2, s3, s4, s5, s6, s7, s8, s9, s10]
  exact h
/-- a view that stands -/
def SN (A : rz_A) (S : St) (k : Int) (t : Nat) : Prop := (RC A S) ∧ (CI A S t) ∧ (A.1 51 5 = 1) ∧ (A.1 51 3 = k)
theorem SN.of {A : rz_A} {S : St} {k : Int} {t : Nat} (h : (RC A S) ∧ (CI A S t) ∧ (A.1 51 5 = 1) ∧ (A.1 51 3 = k)) : SN A S k t := h
theorem SN.rc {A : rz_A} {S : St} {k : Int} {t : Nat} (h : SN A S k t) : RC A S := h.1
theorem SN.ci {A : rz_A} {S : St} {k : Int} {t : Nat} (h : SN A S k t) : CI A S t := h.2.1
theorem SN.st {A : rz_A} {S : St} {k : Int} {t : Nat} (h : SN A S k t) : A.1 51 5 = 1 := h.2.2.1
theorem SN.k3 {A : rz_A} {S : St} {k : Int} {t : Nat} (h : SN A S k t) : A.1 51 3 = k := h.2.2.2
theorem SN.view (h : SN A S k t) : View A S.vw k := by
  have := h.ci.vw h.st
  rw [h.k3] at this
  exact this
abbrev csD : List Nat := [58, 59, 60, 61, 62]
abbrev fsD : List (Nat × Nat) := [(56, 8), (57, 0)]
theorem maxC : x60_max F a b A = some (if a < b then b else a, A) := by
  unfold x60_max
  split
  · rw [if_neg (by omega)]
  · rw [if_pos (by omega)]
theorem drawC_loop (hO : OK t S) (hF : 1000 ≤ F) (hk : 0 ≤ k ∧ k ≤ 9999) : ∀ (n f : Nat) (A : rz_A), RC A S → View A S.vw k → PtC A (cAcc S.vw S.fl p a b k f).1 → A.1 56 8 = (cAcc S.vw S.fl p a b k f).2 → Fr csD fsD A0 A → f ≤ S.nF → S.nF < n + f → Ret (x72_draw_93 F n p a b f A) () (fun A1 => CvC A1 (curve S.vw S.fl p a b k).1 ∧ A1.1 56 8 = (curve S.vw S.fl p a b k).2 ∧ Fr csD fsD A0 A1) := by
  have h1 := hO.nF
  intro n
  induction n with
  | zero => intro f A _ _ _ _ _ h2 h3; omega
  | succ n ih =>
    intro f A hR hV hP hW hfr h2 h3
    obtain ⟨c, hc1, hc2, hc3⟩ := cAcc_ok hO p a b k f h2
    unfold x72_draw_93
    rw [hR.nF]
    by_cases hl : f < S.nF
    · have hb := hO.f f hl
      have hcast : (f : Int) + 1 = ((f + 1 : Nat) : Int) := by omega
      have g32 : r32 ((f : Int) + 1) := by omega
      have ih' := ih (f + 1)
      rw [cAcc_s] at ih'
      simp only [g32p g32]
      simp only [hcast]
      rw [if_pos (by omega), gxp (by omega) (by omega), Int.toNat_natCast, hR.fP, hR.fT]
      have skip : ¬ (S.fP f = p ∧ a ≤ S.fT f ∧ S.fT f ≤ b ∧ inF S.vw S.fl k f) → Ret (x72_draw_93 F n p a b ((f + 1 : Nat) : Int) A) () (fun A1 => CvC A1 (curve S.vw S.fl p a b k).1 ∧ A1.1 56 8 = (curve S.vw S.fl p a b k).2 ∧ Fr csD fsD A0 A1) := by
        intro hn
        rw [if_neg hn] at ih'
        exact ih' A hR hV hP hW hfr (by omega) (by omega)
      by_cases c1 : S.fP f = p
      · rw [if_pos c1]
        by_cases c2 : a ≤ S.fT f
        · rw [if_pos c2]
          by_cases c3 : S.fT f ≤ b
          · rw [if_pos c3]
            obtain ⟨r, e1, e2⟩ := placeC (F := F) hR hO hV hF hk hl
            rw [e1]
            simp only [rz_b_some]
            rcases e2 with g | g
            · rw [if_pos (by omega)]
              exact skip (fun hh => g.2 hh.2.2.2)
            · have hn := hV.n
              have hn2 : A.1 51 10 ≤ S.nH := hn.2
              have hnH := hO.nH
              rw [if_neg (by omega), gxp (by omega) (by omega), g.2.2.2.2, hR.fN]
              rw [if_pos ⟨c1, c2, c3, g.2.2.1⟩] at ih'
              refine Ret.bind (addC (c := c) hc2 (by omega) (by omega) hF hP) (fun A1 e3 hP1 => ?_)
              have fr1 := wx73_addPoint F e3
              have hR1 : RC A1 S := rc_fr hR fr1 (by decide)
              have hV1 : View A1 S.vw k := hV.fr fr1 (by decide)
              have w1 : A1.1 56 8 = A.1 56 8 := (fr1.slot (c := 56) (k := 8) (by decide) (by decide)).1
              rw [maxC]
              simp only [rz_b_some]
              rw [w1, hW, hR1.fW]
              refine ih' _ (rc_fr hR1 (Fr.aI (cs := []) (fs := [(56, 8)]) Fr.rfl (Or.inr (by decide))) (by decide)) (hV1.fr (Fr.aI (cs := []) (fs := [(56, 8)]) Fr.rfl (Or.inr (by decide))) (by decide)) ?_ rfl (Fr.aI (hfr.trans (fr1.mono (by decide) (by decide))) (Or.inr (by decide))) (by omega) (by omega)
              exact hP1
          · rw [if_neg c3]
            exact skip (fun hh => c3 hh.2.2.1)
        · rw [if_neg c2]
          exact skip (fun hh => c2 hh.2.1)
      · rw [if_neg c1]
        exact skip (fun hh => c1 hh.1)
    · have e : f = S.nF := by omega
      subst e
      rw [if_neg (by omega)]
      unfold x72_draw_237
      refine Ret.bind (joinC hc2 (by omega) hF hP) (fun A1 e1 hB => ?_)
      have fr1 := wx74_joinBlocks F e1
      refine Ret.bind (flowsC hc2 (by omega) hF hB) (fun A2 e2 hf2 => ?_)
      have fr2 := wx76_setFlows F e2
      have fr3 : Fr csD fsD A A2 := (fr1.mono (by decide) (by decide)).trans (fr2.mono (by decide) (by decide))
      have q1 : A2.1 57 0 = A.1 57 0 := (fr2.slot (c := 57) (k := 0) (by decide) (by decide)).1.trans (fr1.slot (c := 57) (k := 0) (by decide) (by decide)).1
      have q2 : A2.1 58 = A.1 58 := (fr2.row (c := 58) (by decide) (by decide)).1.trans (fr1.row (c := 58) (by decide) (by decide)).1
      have q3 : A2.1 56 8 = A.1 56 8 := (fr2.slot (c := 56) (k := 8) (by decide) (by decide)).1.trans (fr1.slot (c := 56) (k := 8) (by decide) (by decide)).1
      refine Ret.mk ⟨⟨q1.trans hP.1, fun i hi => ?_, hf2⟩, q3.trans hW, hfr.trans fr3⟩
      rw [q2]
      exact (hP.2 i hi).1
theorem drawC (h : SN A S k t) (hO : OK t S) (hF : 1000 ≤ F) (hk : 0 ≤ k ∧ k ≤ 9999) (hp : 0 ≤ p) : Ret (x72_draw F p a b A) () (fun A1 => SN A1 S k t ∧ CvC A1 (curve S.vw S.fl p a b k).1 ∧ A1.1 56 8 = (curve S.vw S.fl p a b k).2) := by
  have h1 := hO.nF
  have hci := h.ci
  have go : Ret (x72_draw_93 F F p a b 0 (aI (aI (aI (aI (aI (aI A 56 9 p) 56 10 a) 56 11 b) 56 12 (A.1 51 4)) 57 0 0) 56 8 0)) () (fun A1 => SN A1 S k t ∧ CvC A1 (curve S.vw S.fl p a b k).1 ∧ A1.1 56 8 = (curve S.vw S.fl p a b k).2) := by
    have fr0 : Fr [] [(56, 8), (56, 9), (56, 10), (56, 11), (56, 12), (57, 0)] A (aI (aI (aI (aI (aI (aI A 56 9 p) 56 10 a) 56 11 b) 56 12 (A.1 51 4)) 57 0 0) 56 8 0) := Fr.aI (Fr.aI (Fr.aI (Fr.aI (Fr.aI (Fr.aI Fr.rfl (Or.inr (by decide))) (Or.inr (by decide))) (Or.inr (by decide))) (Or.inr (by decide))) (Or.inr (by decide))) (Or.inr (by decide))
    have hR0 := rc_fr h.rc fr0 (by decide)
    have hV0 := h.view.fr fr0 (by decide)
    refine Ret.of (drawC_loop (F := F) (p := p) (a := a) (b := b) hO hF hk F 0 _ hR0 hV0 ⟨rfl, fun i hi => absurd hi (Nat.not_lt_zero i)⟩ rfl Fr.rfl (by omega) (by omega)) (fun A1 hA => ?_)
    obtain ⟨g1, g2, g3⟩ := hA
    have hR1 := rc_fr hR0 g3 (by decide)
    have hV1 := hV0.fr g3 (by decide)
    have s3 : A1.1 51 3 = A.1 51 3 := (g3.slot (c := 51) (k := 3) (by decide) (by decide)).1
    have s4 : A1.1 51 4 = A.1 51 4 := (g3.slot (c := 51) (k := 4) (by decide) (by decide)).1
    have s5 : A1.1 51 5 = A.1 51 5 := (g3.slot (c := 51) (k := 5) (by decide) (by decide)).1
    have d9 : A1.1 56 9 = p := (g3.slot (c := 56) (k := 9) (by decide) (by decide)).1
    have d10 : A1.1 56 10 = a := (g3.slot (c := 56) (k := 10) (by decide) (by decide)).1
    have d11 : A1.1 56 11 = b := (g3.slot (c := 56) (k := 11) (by decide) (by decide)).1
    have d12 : A1.1 56 12 = A.1 51 4 := (g3.slot (c := 56) (k := 12) (by decide) (by decide)).1
    refine ⟨SN.of ⟨hR1, CI.of ⟨?_, fun _ => ?_, ?_, ?_, fun _ _ _ => ?_⟩, s5.trans h.st, s3.trans h.k3⟩, g1, g2⟩
    · rw [s5]; exact hci.st
    · rw [s3, h.k3]; exact hV1
    · rw [s4]; exact hci.rd
    · rw [d12, s4]; omega
    · rw [d9, d10, d11, s3, h.k3]; exact ⟨g1, g2⟩
  unfold x72_draw
  by_cases c1 : A.1 56 9 = p
  · rw [if_pos c1]
    by_cases c2 : A.1 56 10 = a
    · rw [if_pos c2]
      by_cases c3 : A.1 56 11 = b
      · rw [if_pos c3]
        by_cases c4 : A.1 56 12 = A.1 51 4
        · rw [if_pos c4]
          have := hci.cv h.st (by omega) c4
          rw [c1, c2, c3, h.k3] at this
          exact Ret.mk ⟨h, this⟩
        · rw [if_neg c4]
          exact go
      · rw [if_neg c3]
        exact go
    · rw [if_neg c2]
      exact go
  · rw [if_neg c1]
    exact go
/-! the reference's -/
theorem isInM (h : RM A S) (hO : OK t S) (hF : 1000 ≤ F) {f : Nat} (hf : f < S.nF) : Ret (x166_isIn F f k A) (if inF S.vw S.fl k f then 1 else 0) (fun A1 => inF S.vw S.fl k f → A1.1 91 54 = S.vw.lvl (S.fP f) (S.fT f) k) := by
  have h1 := hO.nF
  have hb := hO.f f hf
  unfold x166_isIn
  rw [gxp (by omega) (by omega), Int.toNat_natCast, h.fKn, h.fS]
  have key : S.fKn f ≤ k → ¬ (0 ≤ S.fS f ∧ S.fS f ≤ k) → Ret (x166_isIn_29 F f k A) (if inF S.vw S.fl k f then 1 else 0) (fun A1 => inF S.vw S.fl k f → A1.1 91 54 = S.vw.lvl (S.fP f) (S.fT f) k) := by
    intro g1 g2
    unfold x166_isIn_29
    rw [gxp (by omega) (by omega), Int.toNat_natCast, h.fP, h.fT]
    refine Ret.bind (hasM (u := S.fT f) (k := k) h hO hF hb.1) (fun A1 _ hA => ?_)
    by_cases hw : S.vw.which (S.fP f) (S.fT f) k < 0
    · have hn : ¬ inF S.vw S.fl k f := fun hh => by have h9 : 0 ≤ S.vw.which (S.fP f) (S.fT f) k := hh.2.2; omega
      rw [if_pos hw, if_pos rfl, if_neg hn]
      exact Ret.mk (fun hh => absurd hh hn)
    · have hy : inF S.vw S.fl k f := ⟨g1, g2, by show 0 ≤ S.vw.which (S.fP f) (S.fT f) k; omega⟩
      rw [if_neg hw, if_neg (by decide), if_pos hy]
      exact Ret.mk (fun _ => hA (by omega))
  have no : ¬ inF S.vw S.fl k f → Ret (some ((0 : Int), A)) (if inF S.vw S.fl k f then 1 else 0) (fun A1 => inF S.vw S.fl k f → A1.1 91 54 = S.vw.lvl (S.fP f) (S.fT f) k) := by
    intro hn
    rw [if_neg hn]
    exact Ret.mk (fun hh => absurd hh hn)
  by_cases c1 : S.fKn f ≤ k
  · rw [if_pos c1]
    by_cases c2 : 0 ≤ S.fS f
    · rw [if_pos c2]
      by_cases c3 : k < S.fS f
      · rw [if_pos c3]
        exact key c1 (fun hh => by omega)
      · rw [if_neg c3]
        exact no (fun hh => hh.2.1 ⟨c2, by show S.fS f ≤ k; omega⟩)
    · rw [if_neg c2]
      exact key c1 (fun hh => c2 hh.1)
  · rw [if_neg c1]
    exact no (fun hh => c1 hh.1)
def MI (A : rz_A) (S : St) (t : Nat) : Prop := (0 ≤ A.1 91 11 ∧ A.1 91 11 ≤ t) ∧ (A.1 91 66 ≤ A.1 91 11) ∧ (0 ≤ A.1 91 62 → A.1 91 66 = A.1 91 11 → CvM A (curve S.vw S.fl (A.1 91 62) (A.1 91 63) (A.1 91 64) (A.1 91 65)).1 ∧ A.1 91 68 = (curve S.vw S.fl (A.1 91 62) (A.1 91 63) (A.1 91 64) (A.1 91 65)).2)
theorem MI.of {A : rz_A} {S : St} {t : Nat} (h : (0 ≤ A.1 91 11 ∧ A.1 91 11 ≤ t) ∧ (A.1 91 66 ≤ A.1 91 11) ∧ (0 ≤ A.1 91 62 → A.1 91 66 = A.1 91 11 → CvM A (curve S.vw S.fl (A.1 91 62) (A.1 91 63) (A.1 91 64) (A.1 91 65)).1 ∧ A.1 91 68 = (curve S.vw S.fl (A.1 91 62) (A.1 91 63) (A.1 91 64) (A.1 91 65)).2)) : MI A S t := h
theorem MI.sm {A : rz_A} {S : St} {t : Nat} (h : MI A S t) : 0 ≤ A.1 91 11 ∧ A.1 91 11 ≤ t := h.1
theorem MI.st {A : rz_A} {S : St} {t : Nat} (h : MI A S t) : A.1 91 66 ≤ A.1 91 11 := h.2.1
theorem MI.cv {A : rz_A} {S : St} {t : Nat} (h : MI A S t) : 0 ≤ A.1 91 62 → A.1 91 66 = A.1 91 11 → CvM A (curve S.vw S.fl (A.1 91 62) (A.1 91 63) (A.1 91 64) (A.1 91 65)).1 ∧ A.1 91 68 = (curve S.vw S.fl (A.1 91 62) (A.1 91 63) (A.1 91 64) (A.1 91 65)).2 := h.2.2
abbrev miRows : List Nat := [137, 138]
abbrev miSlots : List (Nat × Nat) := [(91, 11), (91, 62), (91, 63), (91, 64), (91, 65), (91, 66), (91, 67), (91, 68)]
theorem MI.fr (h : MI A S t) (fr : Fr cs fs A A') (hc : fr_okf miRows miSlots cs fs = true) : MI A' S t := by
  have e1 := (fr_rows fr hc (c := 137) (by decide)).1
  have e2 := (fr_rows fr hc (c := 138) (by decide)).1
  have s1 := fr_slots fr hc (c := 91) (j := 11) (by decide)
  have s2 := fr_slots fr hc (c := 91) (j := 62) (by decide)
  have s3 := fr_slots fr hc (c := 91) (j := 63) (by decide)
  have s4 := fr_slots fr hc (c := 91) (j := 64) (by decide)
  have s5 := fr_slots fr hc (c := 91) (j := 65) (by decide)
  have s6 := fr_slots fr hc (c := 91) (j := 66) (by decide)
  have s7 := fr_slots fr hc (c := 91) (j := 67) (by decide)
  have s8 := fr_slots fr hc (c := 91) (j := 68) (by decide)
  unfold MI CvM at h ⊢
  rw [e1, e2, s1, s2, s3, s4, s5, s6, s7, s8]
  exact h
abbrev csE : List Nat := [133, 136, 137, 138, 139, 140, 141, 142, 143]
abbrev fsE : List (Nat × Nat) := [(91, 54), (91, 67), (91, 68)]
theorem makesM_loop (hO : OK t S) (hF : 1000 ≤ F) : ∀ (n f : Nat) (A : rz_A), RM A S → PtM A (cAcc S.vw S.fl p a b k f).1 → A.1 91 68 = (cAcc S.vw S.fl p a b k f).2 → Fr csE fsE A0 A → f ≤ S.nF → S.nF < n + f → Ret (x182_makes_87 F n p a b k f A) () (fun A1 => CvM A1 (curve S.vw S.fl p a b k).1 ∧ A1.1 91 68 = (curve S.vw S.fl p a b k).2 ∧ Fr csE fsE A0 A1) := by
  have h1 := hO.nF
  intro n
  induction n with
  | zero => intro f A _ _ _ _ h2 h3; omega
  | succ n ih =>
    intro f A hR hP hW hfr h2 h3
    obtain ⟨c, hc1, hc2, hc3⟩ := cAcc_ok hO p a b k f h2
    unfold x182_makes_87
    rw [hR.nF]
    by_cases hl : f < S.nF
    · have hb := hO.f f hl
      have hcast : (f : Int) + 1 = ((f + 1 : Nat) : Int) := by omega
      have g32 : r32 ((f : Int) + 1) := by omega
      have ih' := ih (f + 1)
      rw [cAcc_s] at ih'
      simp only [g32p g32]
      rw [if_pos (by omega), gxp (by omega) (by omega), Int.toNat_natCast, hR.fP, hR.fT]
      have skip : ∀ B, RM B S → PtM B (cAcc S.vw S.fl p a b k f).1 → B.1 91 68 = (cAcc S.vw S.fl p a b k f).2 → Fr csE fsE A0 B → ¬ (S.fP f = p ∧ a ≤ S.fT f ∧ S.fT f ≤ b ∧ inF S.vw S.fl k f) → Ret (x182_makes_87 F n p a b k ((f : Int) + 1) B) () (fun A1 => CvM A1 (curve S.vw S.fl p a b k).1 ∧ A1.1 91 68 = (curve S.vw S.fl p a b k).2 ∧ Fr csE fsE A0 A1) := by
        intro B hB1 hB2 hB3 hB4 hn
        rw [if_neg hn] at ih'
        rw [hcast]
        exact ih' B hB1 hB2 hB3 hB4 (by omega) (by omega)
      by_cases c1 : S.fP f = p
      · rw [if_pos c1]
        by_cases c2 : a ≤ S.fT f
        · rw [if_pos c2]
          by_cases c3 : S.fT f ≤ b
          · rw [if_pos c3]
            refine Ret.bind (isInM (k := k) hR hO hF hl) (fun B eB hB => ?_)
            have frB := wx166_isIn F eB
            have hRB : RM B S := rm_fr hR frB (by decide)
            have hPB : PtM B (cAcc S.vw S.fl p a b k f).1 := by
              have q1 : B.1 91 67 = A.1 91 67 := (frB.slot (c := 91) (k := 67) (by decide) (by decide)).1
              have q2 := (frB.row (c := 137) (by decide) (by decide)).1
              have q3 := (frB.row (c := 142) (by decide) (by decide)).2
              have q4 := (frB.row (c := 139) (by decide) (by decide)).1
              unfold PtM at hP ⊢
              rw [q1, q2, q3, q4]
              exact hP
            have w1 : B.1 91 68 = A.1 91 68 := (frB.slot (c := 91) (k := 68) (by decide) (by decide)).1
            have frB' : Fr csE fsE A0 B := hfr.trans (frB.mono (by decide) (by decide))
            by_cases c4 : inF S.vw S.fl k f
            · rw [if_pos c4, if_neg (by decide)]
              rw [if_pos ⟨c1, c2, c3, c4⟩] at ih'
              have hfound := hB c4
              rw [hRB.fW, w1, hW]
              have fin : ∀ C w, Fr [] [(91, 68)] B C → C.1 91 68 = w → w = (if (cAcc S.vw S.fl p a b k f).2 < S.fW f then S.fW f else (cAcc S.vw S.fl p a b k f).2) → Ret (x182_makes_171 F (x182_makes_87 F n) F p a b k f 0 C) () (fun A1 => CvM A1 (curve S.vw S.fl p a b k).1 ∧ A1.1 91 68 = (curve S.vw S.fl p a b k).2 ∧ Fr csE fsE A0 A1) := by
                intro C w frC hC1 hC2
                have hRC : RM C S := rm_fr hRB frC (by decide)
                have hPC : PtM C (cAcc S.vw S.fl p a b k f).1 := by
                  have q1 : C.1 91 67 = B.1 91 67 := (frC.slot (c := 91) (k := 67) (by decide) (by decide)).1
                  have q2 := (frC.row (c := 137) (by decide) (by decide)).1
                  have q3 := (frC.row (c := 142) (by decide) (by decide)).2
                  have q4 := (frC.row (c := 139) (by decide) (by decide)).1
                  unfold PtM at hPB ⊢
                  rw [q1, q2, q3, q4]
                  exact hPB
                have hf1 : C.1 91 54 = S.vw.lvl (S.fP f) (S.fT f) k := ((frC.slot (c := 91) (k := 54) (by decide) (by decide)).1).trans hfound
                have hf2 : C.1 112 f = S.fN f := by rw [hRC.fN]
                have := addM (F := F) (k87 := x182_makes_87 F n) (w1 := p) (w2 := a) (w3 := b) (w4 := k) (Q := fun A1 => CvM A1 (curve S.vw S.fl p a b k).1 ∧ A1.1 91 68 = (curve S.vw S.fl p a b k).2 ∧ Fr csE fsE A0 A1) hc2 (by omega) (f := f) (by omega) (by omega) hF hPC hf1 hf2 (fun D hD1 hD2 => by
                  rw [hcast]
                  refine ih' D (rm_fr hRC hD2 (by decide)) hD1 ?_ (frB'.trans ((frC.mono (by decide) (by decide)).trans (hD2.mono (by decide) (by decide)))) (by omega) (by omega)
                  have s1 : D.1 91 68 = C.1 91 68 := (hD2.slot (c := 91) (k := 68) (by decide) (by decide)).1
                  rw [s1, hC1]
                  exact hC2) F 0 (by omega) (by have := hc2.le; omega) (fun i hi => absurd hi (Nat.not_lt_zero i))
                exact this
              by_cases c5 : (cAcc S.vw S.fl p a b k f).2 < S.fW f
              · rw [if_pos c5]
                exact fin _ (S.fW f) (Fr.aI Fr.rfl (Or.inr (by decide))) rfl (by rw [if_pos c5])
              · rw [if_neg c5]
                exact fin B _ Fr.rfl (w1.trans hW) (by rw [if_neg c5])
            · rw [if_neg c4, if_pos rfl]
              exact skip B hRB hPB (w1.trans hW) frB' (fun hh => c4 hh.2.2.2)
          · rw [if_neg c3]
            exact skip A hR hP hW hfr (fun hh => c3 hh.2.2.1)
        · rw [if_neg c2]
          exact skip A hR hP hW hfr (fun hh => c2 hh.2.1)
      · rw [if_neg c1]
        exact skip A hR hP hW hfr (fun hh => c1 hh.1)
    · have e : f = S.nF := by omega
      subst e
      rw [if_neg (by omega)]
      have hle := hc2.le
      refine Ret.of (joinM_loop (F := F) (A0 := A) hc2 (by omega) hF F 0 A Fr.rfl (by omega) (by omega) (BkM.of ⟨hP, fun j hj => absurd hj (Nat.not_lt_zero j)⟩)) (fun A1 hA => ?_)
      refine ⟨hA.2, ?_, hfr.trans (hA.1.mono (by decide) (by decide))⟩
      exact ((hA.1.slot (c := 91) (k := 68) (by decide) (by decide)).1).trans hW
theorem makesM (h : RM A S) (hI : MI A S t) (hO : OK t S) (hF : 1000 ≤ F) (hp : 0 ≤ p) : Ret (x182_makes F p a b k A) () (fun A1 => RM A1 S ∧ MI A1 S t ∧ CvM A1 (curve S.vw S.fl p a b k).1 ∧ A1.1 91 68 = (curve S.vw S.fl p a b k).2) := by
  have h1 := hO.nF
  have go : Ret (x182_makes_45 F p a b k A) () (fun A1 => RM A1 S ∧ MI A1 S t ∧ CvM A1 (curve S.vw S.fl p a b k).1 ∧ A1.1 91 68 = (curve S.vw S.fl p a b k).2) := by
    unfold x182_makes_45
    have fr0 : Fr [] [(91, 62), (91, 63), (91, 64), (91, 65), (91, 66), (91, 67), (91, 68)] A (aI (aI (aI (aI (aI (aI (aI A 91 62 p) 91 63 a) 91 64 b) 91 65 k) 91 66 (A.1 91 11)) 91 67 0) 91 68 0) := Fr.aI (Fr.aI (Fr.aI (Fr.aI (Fr.aI (Fr.aI (Fr.aI Fr.rfl (Or.inr (by decide))) (Or.inr (by decide))) (Or.inr (by decide))) (Or.inr (by decide))) (Or.inr (by decide))) (Or.inr (by decide))) (Or.inr (by decide))
    have hR0 := rm_fr h fr0 (by decide)
    refine Ret.of (makesM_loop (F := F) (p := p) (a := a) (b := b) (k := k) hO hF F 0 _ hR0 ⟨rfl, fun i hi => absurd hi (Nat.not_lt_zero i)⟩ rfl Fr.rfl (by omega) (by omega)) (fun A1 hA => ?_)
    obtain ⟨g1, g2, g3⟩ := hA
    have s11 : A1.1 91 11 = A.1 91 11 := (g3.slot (c := 91) (k := 11) (by decide) (by decide)).1
    have d2 : A1.1 91 62 = p := (g3.slot (c := 91) (k := 62) (by decide) (by decide)).1
    have d3 : A1.1 91 63 = a := (g3.slot (c := 91) (k := 63) (by decide) (by decide)).1
    have d4 : A1.1 91 64 = b := (g3.slot (c := 91) (k := 64) (by decide) (by decide)).1
    have d5 : A1.1 91 65 = k := (g3.slot (c := 91) (k := 65) (by decide) (by decide)).1
    have d6 : A1.1 91 66 = A.1 91 11 := (g3.slot (c := 91) (k := 66) (by decide) (by decide)).1
    refine ⟨rm_fr hR0 g3 (by decide), MI.of ⟨by rw [s11]; exact hI.sm, by rw [d6, s11]; omega, fun _ _ => ?_⟩, g1, g2⟩
    rw [d2, d3, d4, d5]
    exact ⟨g1, g2⟩
  unfold x182_makes
  by_cases c1 : A.1 91 62 = p
  · rw [if_pos c1]
    by_cases c2 : A.1 91 63 = a
    · rw [if_pos c2]
      by_cases c3 : A.1 91 64 = b
      · rw [if_pos c3]
        by_cases c4 : A.1 91 65 = k
        · rw [if_pos c4]
          by_cases c5 : A.1 91 66 = A.1 91 11
          · rw [if_pos c5]
            have := hI.cv (by omega) c5
            rw [c1, c2, c3, c4] at this
            exact Ret.mk ⟨h, hI, this⟩
          · rw [if_neg c5]
            exact go
        · rw [if_neg c4]
          exact go
      · rw [if_neg c3]
        exact go
    · rw [if_neg c2]
      exact go
  · rw [if_neg c1]
    exact go
end DRAW
