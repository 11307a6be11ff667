set_option maxRecDepth 8000
/-! the first eight FLOWS that count -/
abbrev St.el (S : St) (p : Int) (f : Nat) : Prop := S.fP f = p ∧ inF S.vw S.fl S.now f
abbrev St.lt (S : St) (a b : Nat) : Prop := S.fT a < S.fT b ∨ (S.fT a = S.fT b ∧ a < b)
def Pk (S : St) (p : Int) (n : Nat) (m : Nat) (G : Nat → Nat) : Prop := (m ≤ 8) ∧ (∀ j, j < m → G j < n ∧ S.el p (G j)) ∧ (∀ i j, i < j → j < m → S.lt (G i) (G j)) ∧ (∀ f, f < n → S.el p f → (∃ j, j < m ∧ G j = f) ∨ (m = 8 ∧ S.lt (G 7) f))
theorem Pk.of {S : St} {p : Int} {n : Nat} {m : Nat} {G : Nat → Nat} (h : (m ≤ 8) ∧ (∀ j, j < m → G j < n ∧ S.el p (G j)) ∧ (∀ i j, i < j → j < m → S.lt (G i) (G j)) ∧ (∀ f, f < n → S.el p f → (∃ j, j < m ∧ G j = f) ∨ (m = 8 ∧ S.lt (G 7) f))) : Pk S p n m G := h
theorem Pk.le {S : St} {p : Int} {n : Nat} {m : Nat} {G : Nat → Nat} (h : Pk S p n m G) : m ≤ 8 := h.1
theorem Pk.mem {S : St} {p : Int} {n : Nat} {m : Nat} {G : Nat → Nat} (h : Pk S p n m G) : ∀ j, j < m → G j < n ∧ S.el p (G j) := h.2.1
theorem Pk.srt {S : St} {p : Int} {n : Nat} {m : Nat} {G : Nat → Nat} (h : Pk S p n m G) : ∀ i j, i < j → j < m → S.lt (G i) (G j) := h.2.2.1
theorem Pk.cmp {S : St} {p : Int} {n : Nat} {m : Nat} {G : Nat → Nat} (h : Pk S p n m G) : ∀ f, f < n → S.el p f → (∃ j, j < m ∧ G j = f) ∨ (m = 8 ∧ S.lt (G 7) f) := h.2.2.2
theorem Pk.uniq {S : St} {p : Int} {n m m' : Nat} {G G' : Nat → Nat} (h : Pk S p n m G) (h' : Pk S p n m' G') : m = m' ∧ ∀ j, j < m → G j = G' j := by
  have half : ∀ {m m' : Nat} {G G' : Nat → Nat}, Pk S p n m G → Pk S p n m' G' → ∀ j, j < m → j < m' → (∀ i, i < j → G i = G' i) → ¬ S.lt (G j) (G' j) := by
    intro m m' G G' h h' j hj hj' heq hlt
    obtain ⟨g1, g2⟩ := h.mem j hj
    rcases h'.cmp (G j) g1 g2 with ⟨i, hi, e⟩ | ⟨e8, hl⟩
    · by_cases c : i < j
      · have := h.srt i j c hj
        rw [heq i c, e] at this
        omega
      · by_cases c2 : i = j
        · rw [c2] at e; rw [e] at hlt; omega
        · have := h'.srt j i (by omega) hi
          rw [e] at this
          omega
    · by_cases c2 : j = 7
      · rw [c2] at hlt hl; omega
      · have := h'.srt j 7 (by omega) (by omega)
        omega
  have key : ∀ j, j < m → j < m' → G j = G' j := by
    intro j
    induction j using Nat.strongRecOn with
    | ind j ih =>
      intro hj hj'
      have e1 : ∀ i, i < j → G i = G' i := fun i hi => ih i hi (by omega) (by omega)
      have n1 := half h h' j hj hj' e1
      have n2 := half h' h j hj' hj (fun i hi => (e1 i hi).symm)
      omega
  have hm : ∀ {m m' : Nat} {G G' : Nat → Nat}, Pk S p n m G → Pk S p n m' G' → (∀ j, j < m → j < m' → G j = G' j) → ¬ m < m' := by
    intro m m' G G' h h' heq hlt
    obtain ⟨g1, g2⟩ := h'.mem m hlt
    rcases h.cmp (G' m) g1 g2 with ⟨i, hi, e⟩ | ⟨e8, _⟩
    · have := h'.srt i m hi hlt
      rw [← heq i hi (by omega), e] at this
      omega
    · have := h'.le; omega
  have a1 := hm h h' key
  have a2 := hm h' h (fun j a b => (key j b a).symm)
  have e : m = m' := by omega
  exact ⟨e, fun j hj => key j hj (by omega)⟩
noncomputable def St.pkm (S : St) (p : Int) : Nat := Classical.epsilon (fun m => ∃ G, Pk S p S.nF m G)
noncomputable def St.pkg (S : St) (p : Int) : Nat → Nat := Classical.epsilon (fun G => ∃ m, Pk S p S.nF m G)
theorem pik_eq {S : St} {p : Int} {m : Nat} {G : Nat → Nat} (h : Pk S p S.nF m G) : S.pkm p = m ∧ ∀ j, j < m → S.pkg p j = G j := by
  have e1 : ∃ G, Pk S p S.nF (S.pkm p) G := Classical.epsilon_spec (p := fun m => ∃ G, Pk S p S.nF m G) ⟨m, G, h⟩
  have e2 : ∃ m, Pk S p S.nF m (S.pkg p) := Classical.epsilon_spec (p := fun G => ∃ m, Pk S p S.nF m G) ⟨G, m, h⟩
  obtain ⟨G1, h1⟩ := e1
  obtain ⟨m2, h2⟩ := e2
  have u1 := h1.uniq h
  have u2 := h.uniq h2
  exact ⟨u1.1, fun j hj => (u2.2 j hj).symm⟩
/-- the POST's FLOWS stand in a row -/
abbrev St.pkOK (S : St) (p : Int) : Prop := Pk S p S.nF (S.pkm p) (S.pkg p)
theorem pik_ok {S : St} {p : Int} {m : Nat} {G : Nat → Nat} (h : Pk S p S.nF m G) : S.pkOK p := by
  obtain ⟨e1, e2⟩ := pik_eq h
  refine Pk.of ⟨by rw [e1]; exact h.le, fun j hj => ?_, fun i j hij hj => ?_, fun f hf he => ?_⟩
  · rw [e1] at hj
    rw [e2 j hj]
    exact h.mem j hj
  · rw [e1] at hj
    rw [e2 j hj, e2 i (by omega)]
    exact h.srt i j hij hj
  · rw [e1]
    rcases h.cmp f hf he with ⟨j, hj, e⟩ | ⟨e8, hl⟩
    · exact Or.inl ⟨j, hj, by rw [e2 j hj]; exact e⟩
    · exact Or.inr ⟨e8, by rw [e2 7 (by omega)]; exact hl⟩
def insN (G : Nat → Nat) (q v : Nat) : Nat → Nat := fun i => if i < q then G i else if i = q then v else G (i - 1)
section PICKS
variable {t t' F : Nat} {A A0 A' : rz_A} {S : St} {p u k a b v w : Int} {cs : List Nat} {fs : List (Nat × Nat)} {i m n : Nat} {G : Nat → Nat}
theorem Pk.skip (h : Pk S p n m G) (hn : ¬ S.el p n) : Pk S p (n + 1) m G := by
  refine Pk.of ⟨h.le, fun j hj => ⟨by have := (h.mem j hj).1; omega, (h.mem j hj).2⟩, h.srt, fun f hf he => ?_⟩
  by_cases e : f = n
  · rw [e] at he; exact absurd he hn
  · exact h.cmp f (by omega) he
/-- a new one: its place is behind all that are not later -/
theorem Pk.put (h : Pk S p n m G) (hn : S.el p n) {q : Nat} (hq : q ≤ m) (h1 : ∀ i, i < q → S.fT (G i) ≤ S.fT n) (h2 : ∀ i, q ≤ i → i < m → S.fT n < S.fT (G i)) : if 8 ≤ q then Pk S p (n + 1) m G else Pk S p (n + 1) (if m < 8 then m + 1 else m) (insN G q n) := by
  have hle := h.le
  by_cases c : 8 ≤ q
  · rw [if_pos c]
    refine Pk.of ⟨h.le, fun j hj => ⟨by have := (h.mem j hj).1; omega, (h.mem j hj).2⟩, h.srt, fun f hf he => ?_⟩
    by_cases e : f = n
    · refine Or.inr ⟨by omega, ?_⟩
      have g1 := h1 7 (by omega)
      have g2 := (h.mem 7 (by omega)).1
      rw [e]
      omega
    · exact h.cmp f (by omega) he
  · rw [if_neg c]
    have il : ∀ i, i < q → insN G q n i = G i := fun i hi => by unfold insN; rw [if_pos hi]
    have ie : insN G q n q = n := by unfold insN; rw [if_neg (by omega), if_pos rfl]
    have ig : ∀ i, q < i → insN G q n i = G (i - 1) := fun i hi => by unfold insN; rw [if_neg (by omega), if_neg (by omega)]
    have hM : (if m < 8 then m + 1 else m) ≤ m + 1 ∧ (if m < 8 then m + 1 else m) ≤ 8 ∧ q < (if m < 8 then m + 1 else m) ∧ (m < 8 → (if m < 8 then m + 1 else m) = m + 1) ∧ (¬ m < 8 → (if m < 8 then m + 1 else m) = 8) := by
      split <;> omega
    generalize (if m < 8 then m + 1 else m) = M at hM
    refine Pk.of ⟨hM.2.1, fun j hj => ?_, fun i j hij hj => ?_, fun f hf he => ?_⟩
    · by_cases a1 : j < q
      · rw [il j a1]
        exact ⟨by have := (h.mem j (by omega)).1; omega, (h.mem j (by omega)).2⟩
      · by_cases a2 : j = q
        · rw [a2, ie]
          exact ⟨by omega, hn⟩
        · rw [ig j (by omega)]
          exact ⟨by have := (h.mem (j - 1) (by omega)).1; omega, (h.mem (j - 1) (by omega)).2⟩
    · by_cases a1 : j < q
      · rw [il j a1, il i (by omega)]
        exact h.srt i j hij (by omega)
      · by_cases a2 : j = q
        · rw [a2, ie, il i (by omega)]
          have g1 := h1 i (by omega)
          have g2 := (h.mem i (by omega)).1
          omega
        · rw [ig j (by omega)]
          by_cases a3 : i < q
          · rw [il i a3]
            by_cases a4 : i = j - 1
            · omega
            · exact h.srt i (j - 1) (by omega) (by omega)
          · by_cases a4 : i = q
            · rw [a4, ie]
              have := h2 (j - 1) (by omega) (by omega)
              omega
            · rw [ig i (by omega)]
              exact h.srt (i - 1) (j - 1) (by omega) (by omega)
    · have place : ∀ j, j < m → (j < q → j < M) ∧ (q ≤ j → j + 1 < M ∨ (M = 8 ∧ j = 7)) := fun j hj => ⟨fun h9 => by omega, fun h9 => by
        by_cases c9 : m < 8
        · have := hM.2.2.2.1 c9; omega
        · have := hM.2.2.2.2 c9; omega⟩
      by_cases e : f = n
      · exact Or.inl ⟨q, hM.2.2.1, by rw [ie, e]⟩
      · have last : m = 8 → M = 8 ∧ (insN G q n 7 = G 7 → False) ∧ S.lt (insN G q n 7) (G 7) := by
          intro e8
          have eM := hM.2.2.2.2 (by omega)
          have hl : S.lt (insN G q n 7) (G 7) := by
            by_cases a2 : q = 7
            · rw [← a2, ie, a2]
              have := h2 7 (by omega) (by omega)
              omega
            · rw [ig 7 (by omega)]
              exact h.srt 6 7 (by omega) (by omega)
          exact ⟨eM, fun h9 => by rw [h9] at hl; omega, hl⟩
        rcases h.cmp f (by omega) he with ⟨j, hj, ej⟩ | ⟨e8, hl⟩
        · by_cases a1 : j < q
          · exact Or.inl ⟨j, (place j hj).1 a1, by rw [il j a1]; exact ej⟩
          · rcases (place j hj).2 (by omega) with a2 | a2
            · exact Or.inl ⟨j + 1, a2, by rw [ig (j + 1) (by omega)]; exact ej⟩
            · refine Or.inr ⟨a2.1, ?_⟩
              have := (last (by omega)).2.2
              rw [← ej, a2.2]
              exact this
        · have := last e8
          refine Or.inr ⟨this.1, ?_⟩
          have h9 := this.2.2
          omega
/-! the class's -/
def PkC (A : rz_A) (m : Nat) (G : Nat → Nat) : Prop := A.1 64 6 = m ∧ ∀ j, j < m → A.1 67 j = (G j : Int)
theorem SN_67 {j : Nat} (h : SN A S k t) : SN (aI A 67 j v) S k t := h.fr (Fr.aI (cs := [67]) (fs := []) Fr.rfl (Or.inl (by decide))) (by decide) (by decide)
theorem SN_646 (h : SN A S k t) : SN (aI A 64 6 v) S k t := h.fr (Fr.aI (cs := []) (fs := [(64, 6)]) Fr.rfl (Or.inr (by decide))) (by decide) (by decide)
theorem pickC_sh {f q M : Nat} (hM : M ≤ 8) (hq : q < M) : ∀ (n j : Nat) (A : rz_A), SN A S k t → A.1 64 6 = M → q ≤ j → j < M → j < n + q → (∀ i, i < j → A.1 67 i = (G i : Int)) → (∀ i, j < i → i < M → A.1 67 i = (G (i - 1) : Int)) → Ret (x99_pick_76 F n f q j A) () (fun A1 => SN A1 S k t ∧ PkC A1 M (insN G q f)) := by
  intro n
  induction n with
  | zero => intro j A _ h0 h3 h4 h5; omega
  | succ n ih =>
    intro j A hS h0 h3 h4 h5 h6 h7
    unfold x99_pick_76
    by_cases hj : q < j
    · have e1 : ((j : Int) - 1).toNat = j - 1 := by omega
      rw [if_pos (by omega), g32p (by omega), gxp (by omega) (by omega), gxp (by omega) (by omega), g32p (by omega), e1, show (j : Int) + (-1) = ((j - 1 : Nat) : Int) by omega, Int.toNat_natCast, h6 (j - 1) (by omega)]
      refine ih (j - 1) _ (SN_67 hS) h0 (by omega) (by omega) (by omega) (fun i hi => ?_) (fun i hi hi2 => ?_)
      · show (if i = j then _ else A.1 67 i) = _
        rw [if_neg (by omega)]
        exact h6 i (by omega)
      · show (if i = j then _ else A.1 67 i) = _
        by_cases e : i = j
        · rw [if_pos e, e]
        · rw [if_neg e]
          exact h7 i (by omega) hi2
    · have ej : j = q := by omega
      subst ej
      rw [if_neg (by omega)]
      unfold x99_pick_101
      rw [gxp (by omega) (by omega), Int.toNat_natCast]
      refine Ret.mk ⟨SN_67 hS, h0, fun i hi => ?_⟩
      show (if i = j then (f : Int) else A.1 67 i) = _
      unfold insN
      by_cases a1 : i < j
      · rw [if_neg (by omega), if_pos a1]
        exact h6 i a1
      · by_cases a2 : i = j
        · rw [if_pos a2, if_neg a1, if_pos a2]
        · rw [if_neg a2, if_neg a1, if_neg a2]
          exact h7 i (by omega) hi
theorem pickC_loop (hS : SN A S S.now t) (hO : OK t S) (hF : 1000 ≤ F) {f : Nat} (hf : f < S.nF) (h : Pk S p f m G) (hel : S.el p f) (hA : PkC A m G) : ∀ (n q : Nat), q ≤ m → q < n → (∀ i, q ≤ i → i < m → S.fT f < S.fT (G i)) → Ret (x99_pick_5 F n f q A) () (fun A1 => SN A1 S S.now t ∧ ∃ M G', Pk S p (f + 1) M G' ∧ PkC A1 M G') := by
  have hle := h.le
  have hnF := hO.nF
  have e0 := hA.1
  intro n
  induction n with
  | zero => intro q h1 h2; omega
  | succ n ih =>
    intro q h1 h2 h3
    have place : (∀ i, i < q → S.fT (G i) ≤ S.fT f) → Ret (x99_pick_43 F f q A) () (fun A1 => SN A1 S S.now t ∧ ∃ M G', Pk S p (f + 1) M G' ∧ PkC A1 M G') := by
      intro hlt
      have hput := h.put hel h1 hlt h3
      unfold x99_pick_43
      by_cases c : 8 ≤ q
      · rw [if_pos c] at hput
        rw [if_pos (by omega)]
        exact Ret.mk ⟨hS, m, G, hput, hA⟩
      · rw [if_neg c] at hput
        rw [if_neg (by omega), e0]
        by_cases c2 : m < 8
        · rw [if_pos c2] at hput
          rw [if_pos (by omega), g32p (by omega), g32p (by omega), show (m : Int) + 1 - 1 = (m : Int) by omega]
          refine Ret.of (pickC_sh (F := F) (S := S) (k := S.now) (t := t) (G := G) (f := f) (q := q) (M := m + 1) (by omega) (by omega) F m _ (SN_646 hS) (by show (m : Int) + 1 = _; omega) h1 (by omega) (by omega) hA.2 (fun i a b => by omega)) (fun A1 hA1 => ⟨hA1.1, _, _, hput, hA1.2⟩)
        · rw [if_neg c2] at hput
          have em : m = 8 := by omega
          rw [if_neg (by omega), g32p (by omega), show (m : Int) - 1 = ((m - 1 : Nat) : Int) by omega]
          refine Ret.of (pickC_sh (F := F) (S := S) (k := S.now) (t := t) (G := G) (f := f) (q := q) (M := m) (by omega) (by omega) F (m - 1) A hS e0 (by omega) (by omega) (by omega) (fun i hi => hA.2 i (by omega)) (fun i a b => by omega)) (fun A1 hA1 => ⟨hA1.1, _, _, hput, hA1.2⟩)
    unfold x99_pick_5
    by_cases hq : 0 < q
    · have e1 : ((q : Int) - 1).toNat = q - 1 := by omega
      have hg := (h.mem (q - 1) (by omega)).1
      rw [if_pos (by omega), g32p (by omega), gxp (by omega) (by omega), e1, hA.2 (q - 1) (by omega), gxp (by omega) (by omega), gxp (by omega) (by omega), hS.rc.fT, Int.toNat_natCast, Int.toNat_natCast]
      by_cases c : S.fT f < S.fT (G (q - 1))
      · rw [if_pos c, g32p (by omega), show (q : Int) + (-1) = ((q - 1 : Nat) : Int) by omega]
        refine ih (q - 1) (by omega) (by omega) (fun i a b => ?_)
        by_cases e : i = q - 1
        · rw [e]; exact c
        · exact h3 i (by omega) b
      · rw [if_neg c]
        refine place (fun i hi => ?_)
        by_cases e : i = q - 1
        · rw [e]; omega
        · have := h.srt i (q - 1) (by omega) (by omega)
          omega
    · have e : q = 0 := by omega
      subst e
      rw [if_neg (by omega)]
      exact place (fun i hi => absurd hi (Nat.not_lt_zero i))
theorem gather7C (hO : OK t S) (hF : 1000 ≤ F) {R : Int} {Q : rz_A → Prop} (fin : ∀ A M G, SN A S S.now t → Pk S p S.nF M G → PkC A M G → Ret (x98_gather_57 F p A) R Q) : ∀ (n f : Nat) (A : rz_A) (M : Nat) (G : Nat → Nat), SN A S S.now t → Pk S p f M G → PkC A M G → f ≤ S.nF → S.nF < n + f → Ret (x98_gather_7 F n p f A) R Q := by
  have hnF := hO.nF
  intro n
  induction n with
  | zero => intro f A M G _ _ _ h1 h2; omega
  | succ n ih =>
    intro f A M G hS hP hA h1 h2
    have hle := hP.le
    unfold x98_gather_7
    rw [hS.rc.nF]
    by_cases hf : f < S.nF
    · have g32 : r32 ((f : Int) + 1) := by omega
      have hcast : (f : Int) + 1 = ((f + 1 : Nat) : Int) := by omega
      simp only [g32p g32]
      simp only [hcast]
      rw [if_pos (by omega), gxp (by omega) (by omega), Int.toNat_natCast, hS.rc.fP]
      by_cases c1 : S.fP f = p
      · rw [if_pos c1]
        obtain ⟨r, e1, e2⟩ := placeC (F := F) hS.rc hO hS.view hF hO.now hf
        rw [e1]
        simp only [rz_b_some]
        rcases e2 with g | g
        · rw [if_neg (by omega)]
          exact ih (f + 1) A M G hS (hP.skip (fun hh => g.2 hh.2)) hA (by omega) (by omega)
        · rw [if_pos g.1]
          unfold x99_pick
          rw [hA.1]
          refine Ret.bind (pickC_loop (F := F) hS hO hF hf hP ⟨c1, g.2.2.1⟩ hA F M (Nat.le_refl _) (by omega) (fun i a b => by omega)) (fun A7 e7 hA7 => ?_)
          obtain ⟨k1, M', G', k2, k3⟩ := hA7
          exact ih (f + 1) A7 M' G' k1 k2 k3 (by omega) (by omega)
      · rw [if_neg c1]
        exact ih (f + 1) A M G hS (hP.skip (fun hh => c1 hh.1)) hA (by omega) (by omega)
    · have e : f = S.nF := by omega
      subst e
      rw [if_neg (by omega)]
      exact fin A M G hS hP hA
/-! the reference's -/
def PkM (A : rz_A) (S : St) (p : Int) (m : Nat) (G : Nat → Nat) : Prop := A.1 91 80 = m ∧ ∀ j, j < m → A.1 144 j = (G j : Int) ∧ A.1 145 j = S.vw.lvl p (S.fT (G j)) S.now
abbrev aft (S : St) (la lt : Int) (f : Nat) : Prop := lt < S.fT f ∨ (lt = S.fT f ∧ la < (f : Int))
theorem isInD (h : DM A S t') (hO : OK t S) (hF : 1000 ≤ F) {f : Nat} (hf : f < S.nF) : Ret (x166_isIn F f S.now A) (if inF S.vw S.fl S.now f then 1 else 0) (fun A1 => DM A1 S t' ∧ A1.1 144 = A.1 144 ∧ A1.1 145 = A.1 145 ∧ A1.1 146 = A.1 146 ∧ A1.1 91 80 = A.1 91 80 ∧ (inF S.vw S.fl S.now f → A1.1 91 54 = S.vw.lvl (S.fP f) (S.fT f) S.now)) := by
  obtain ⟨A1, e1, hA⟩ := isInM (F := F) (k := S.now) h.1 hO hF hf
  have fr := wx166_isIn F e1
  exact ⟨A1, e1, ⟨rm_fr h.1 fr (by decide), h.2.fr fr (by decide)⟩, (fr.row (c := 144) (by decide) (by decide)).1, (fr.row (c := 145) (by decide) (by decide)).1, (fr.row (c := 146) (by decide) (by decide)).1, (fr.slot (c := 91) (k := 80) (by decide) (by decide)).1, hA⟩
theorem gathers24M (hO : OK t S) (hF : 1000 ≤ F) {k9 : Int → Int → Int → rz_A → Option (Unit × rz_A)} {Q : rz_A → Prop} {la lt : Int} {m : Nat} {G : Nat → Nat} (fin : ∀ (A : rz_A) (b : Int), DM A S t' → PkM A S p m G → (b < 0 → ∀ f, f < S.nF → ¬ (S.el p f ∧ aft S la lt f)) → (0 ≤ b → b < S.nF ∧ (S.el p b.toNat ∧ aft S la lt b.toNat) ∧ ∀ f, f < S.nF → S.el p f → aft S la lt f → f = b.toNat ∨ S.lt b.toNat f) → Ret (x192_gathers_120 F k9 p b A) () Q) : ∀ (n i : Nat) (b : Int) (A : rz_A), DM A S t' → PkM A S p m G → i ≤ S.nF → S.nF < n + i → (b < 0 → ∀ f, f < i → ¬ (S.el p f ∧ aft S la lt f)) → (0 ≤ b → b < i ∧ (S.el p b.toNat ∧ aft S la lt b.toNat) ∧ ∀ f, f < i → S.el p f → aft S la lt f → f = b.toNat ∨ S.lt b.toNat f) → Ret (x192_gathers_24 F k9 n p la lt b i A) () Q := by
  have hnF := hO.nF
  intro n
  induction n with
  | zero => intro i b A _ _ h1 h2; omega
  | succ n ih =>
    intro i b A h hP h1 h2 h3 h4
    unfold x192_gathers_24
    rw [h.1.nF]
    by_cases hi : i < S.nF
    · have g32 : r32 ((i : Int) + 1) := by omega
      have hcast : (i : Int) + 1 = ((i + 1 : Nat) : Int) := by omega
      rw [if_pos (by omega), gxp (by omega) (by omega), Int.toNat_natCast, h.1.fP, h.1.fT]
      have skip : ∀ B, DM B S t' → PkM B S p m G → (¬ (S.el p i ∧ aft S la lt i) ∨ (0 ≤ b ∧ S.lt b.toNat i)) → Ret (rz_g32 ((i : Int) + 1) (x192_gathers_24 F k9 n p la lt b ((i : Int) + 1) B)) () Q := by
        intro B hB hPB hn
        rw [g32p g32, hcast]
        refine ih (i + 1) b B hB hPB (by omega) (by omega) (fun hb f hf hh => ?_) (fun hb => ⟨by have := (h4 hb).1; omega, (h4 hb).2.1, fun f hf he ha => ?_⟩)
        · by_cases e : f = i
          · rw [e] at hh
            rcases hn with hn | hn
            · exact hn hh
            · omega
          · exact h3 hb f (by omega) hh
        · by_cases e : f = i
          · rw [e] at he ha ⊢
            rcases hn with hn | hn
            · exact absurd ⟨he, ha⟩ hn
            · exact Or.inr hn.2
          · exact (h4 hb).2.2 f (by omega) he ha
      have test : aft S la lt i → S.fP i = p → Ret (x192_gathers_72 F (x192_gathers_24 F k9 n) p la lt b i A) () Q := by
        intro hal hfp
        have take : (b < 0 ∨ S.fT i < S.fT b.toNat) → Ret (rz_b (x166_isIn F i (A.1 91 0) A) fun r7 A7 => if r7 = 0 then (rz_g32 ((i : Int) + 1) <| x192_gathers_24 F k9 n p la lt b ((i : Int) + 1) A7) else (rz_g32 ((i : Int) + 1) <| x192_gathers_24 F k9 n p la lt i ((i : Int) + 1) A7)) () Q := by
          intro hbt
          rw [h.1.now]
          refine Ret.bind (isInD h hO hF hi) (fun B eB hB => ?_)
          obtain ⟨d1, d2, d3, d4, d5, d6⟩ := hB
          have hPB : PkM B S p m G := by unfold PkM at hP ⊢; rw [d2, d3, d5]; exact hP
          by_cases c : inF S.vw S.fl S.now i
          · rw [if_pos c, if_neg (by decide), g32p g32, hcast]
            refine ih (i + 1) i B d1 hPB (by omega) (by omega) (fun hb => by omega) (fun _ => ⟨by omega, by rw [Int.toNat_natCast]; exact ⟨⟨hfp, c⟩, hal⟩, fun f hf he ha => ?_⟩)
            rw [Int.toNat_natCast]
            by_cases e : f = i
            · exact Or.inl e
            · refine Or.inr ?_
              by_cases hb : b < 0
              · exact absurd ⟨he, ha⟩ (h3 hb f (by omega))
              · have := (h4 (by omega)).2.2 f (by omega) he ha
                rcases this with h9 | h9
                · rw [h9]; omega
                · omega
          · rw [if_neg c, if_pos rfl]
            exact skip B d1 hPB (Or.inl (fun hh => c hh.1.2))
        unfold x192_gathers_72
        by_cases hb : 0 ≤ b
        · have hb2 := (h4 hb).1
          rw [if_pos hb, gxp (by omega) (by omega), gxp (by omega) (by omega), Int.toNat_natCast, h.1.fT]
          by_cases c : S.fT i < S.fT b.toNat
          · rw [if_pos c]
            exact take (Or.inr c)
          · rw [if_neg c]
            exact skip A h hP (Or.inr ⟨hb, by omega⟩)
        · rw [if_neg hb]
          exact take (Or.inl (by omega))
      by_cases c1 : S.fP i = p
      · rw [if_pos c1]
        by_cases c2 : lt ≤ S.fT i
        · rw [if_pos c2]
          by_cases c3 : S.fT i = lt
          · rw [if_pos c3]
            by_cases c4 : la < (i : Int)
            · rw [if_pos c4]
              exact test (Or.inr ⟨c3.symm, c4⟩) c1
            · rw [if_neg c4]
              exact skip A h hP (Or.inl (fun hh => by have := hh.2; omega))
          · rw [if_neg c3]
            exact test (Or.inl (by omega)) c1
        · rw [if_neg c2]
          exact skip A h hP (Or.inl (fun hh => by have := hh.2; omega))
      · rw [if_neg c1]
        exact skip A h hP (Or.inl (fun hh => c1 hh.1.1))
    · have e : i = S.nF := by omega
      subst e
      rw [if_neg (by omega)]
      exact fin A b h hP h3 h4
theorem gathers9M (hO : OK t S) (hF : 1000 ≤ F) : ∀ (n : Nat) (la lt : Int) (m : Nat) (G : Nat → Nat) (A : rz_A), DM A S t' → PkM A S p m G → m ≤ 8 → 8 < n + m → (m = 0 → la = -1 ∧ lt = -1) → (0 < m → la = (G (m - 1) : Int) ∧ lt = S.fT (G (m - 1))) → (∀ j, j < m → G j < S.nF ∧ S.el p (G j)) → (∀ i j, i < j → j < m → S.lt (G i) (G j)) → (∀ f, f < S.nF → S.el p f → (∃ j, j < m ∧ G j = f) ∨ aft S la lt f) → Ret (x192_gathers_9 F n p la lt A) () (fun A1 => DM A1 S t' ∧ ∃ M G', Pk S p S.nF M G' ∧ PkM A1 S p M G') := by
  have hnF := hO.nF
  intro n
  induction n with
  | zero => intro la lt m G A _ _ h1 h2; omega
  | succ n ih =>
    intro la lt m G A h hP h1 h2 h3 h4 h5 h6 h7
    unfold x192_gathers_9
    rw [hP.1]
    by_cases hm : m < 8
    · rw [if_pos (by omega)]
      refine gathers24M (F := F) hO hF (fun B b hB hPB hb1 hb2 => ?_) F 0 (-1) A h hP (by omega) (by omega) (fun _ f hf => absurd hf (Nat.not_lt_zero f)) (fun hh => by omega)
      unfold x192_gathers_120
      by_cases c : b < 0
      · rw [if_pos c]
        refine Ret.mk ⟨hB, m, G, Pk.of ⟨h1, h5, h6, fun f hf he => ?_⟩, hPB⟩
        rcases h7 f hf he with h9 | h9
        · exact Or.inl h9
        · exact absurd ⟨he, h9⟩ (hb1 c f hf)
      · rw [if_neg c]
        obtain ⟨k1, k2, k3⟩ := hb2 (by omega)
        have eb : ((b.toNat : Nat) : Int) = b := by omega
        rw [gxp (by omega) (by omega), hB.1.now]
        have hin := isInD (F := F) (f := b.toNat) hB hO hF (by omega)
        rw [eb] at hin
        refine Ret.bind hin (fun C eC hC => ?_)
        obtain ⟨d1, d2, d3, d4, d5, d6⟩ := hC
        have d6' := d6 k2.1.2
        rw [k2.1.1] at d6'
        have e80 : C.1 91 80 = m := d5.trans hPB.1
        rw [e80, gxp (by omega) (by omega), g32p (by omega), hB.1.fT, Int.toNat_natCast]
        have frx : Fr [144, 145] [(91, 80)] C (aI (aI (aI C 144 m b) 91 80 ((m : Int) + 1)) 145 m (C.1 91 54)) := Fr.aI (Fr.aI (Fr.aI Fr.rfl (Or.inl (by decide))) (Or.inr (by decide))) (Or.inl (by decide))
        refine ih b (S.fT b.toNat) (m + 1) (fun j => if j = m then b.toNat else G j) _ ⟨rm_fr d1.1 frx (by decide), d1.2.fr frx (by decide)⟩ ?_ (by omega) (by omega) (fun hh => by omega) (fun _ => ?_) (fun j hj => ?_) (fun i j hij hj => ?_) (fun f hf he => ?_)
        · refine ⟨by show (m : Int) + 1 = ((m + 1 : Nat) : Int); omega, fun j hj => ?_⟩
          show (if j = m then b else C.1 144 j) = (((if j = m then b.toNat else G j) : Nat) : Int) ∧ (if j = m then C.1 91 54 else C.1 145 j) = S.vw.lvl p (S.fT (if j = m then b.toNat else G j)) S.now
          by_cases ej : j = m
          · rw [if_pos ej, if_pos ej, if_pos ej]
            exact ⟨eb.symm, d6'⟩
          · rw [if_neg ej, if_neg ej, if_neg ej, d2, d3]
            exact hPB.2 j (by omega)
        · show b = (((if m + 1 - 1 = m then b.toNat else G (m + 1 - 1)) : Nat) : Int) ∧ S.fT b.toNat = S.fT (if m + 1 - 1 = m then b.toNat else G (m + 1 - 1))
          rw [if_pos (by omega)]
          exact ⟨eb.symm, rfl⟩
        · show (if j = m then b.toNat else G j) < S.nF ∧ S.el p (if j = m then b.toNat else G j)
          by_cases ej : j = m
          · rw [if_pos ej]
            exact ⟨by omega, k2.1⟩
          · rw [if_neg ej]
            exact h5 j (by omega)
        · show S.lt (if i = m then b.toNat else G i) (if j = m then b.toNat else G j)
          rw [if_neg (by omega)]
          by_cases ej : j = m
          · rw [if_pos ej]
            obtain ⟨z1, z2⟩ := h4 (by omega)
            have hal := k2.2
            by_cases ei : i = m - 1
            · rw [ei]; omega
            · have := h6 i (m - 1) (by omega) (by omega)
              omega
          · rw [if_neg ej]
            exact h6 i j hij (by omega)
        · rcases h7 f hf he with ⟨j, hj, ej⟩ | h9
          · exact Or.inl ⟨j, by omega, by show (if j = m then b.toNat else G j) = f; rw [if_neg (by omega)]; exact ej⟩
          · rcases k3 f hf he h9 with h10 | h10
            · exact Or.inl ⟨m, by omega, by show (if m = m then b.toNat else G m) = f; rw [if_pos rfl, h10]⟩
            · exact Or.inr (by omega)
    · have em : m = 8 := by omega
      rw [if_neg (by omega)]
      refine Ret.mk ⟨h, m, G, Pk.of ⟨h1, h5, h6, fun f hf he => ?_⟩, hP⟩
      rcases h7 f hf he with h9 | h9
      · exact Or.inl h9
      · refine Or.inr ⟨em, ?_⟩
        obtain ⟨z1, z2⟩ := h4 (by omega)
        rw [em] at z1 z2
        have e7 : 8 - 1 = 7 := rfl
        rw [e7] at z1 z2
        omega
theorem gathersM (h : DM A S t') (hO : OK t S) (hF : 1000 ≤ F) : Ret (x192_gathers F p A) () (fun A1 => DM A1 S t' ∧ S.pkOK p ∧ PkM A1 S p (S.pkm p) (S.pkg p)) := by
  unfold x192_gathers
  have fr : Fr [] [(91, 80)] A (aI A 91 80 0) := Fr.aI Fr.rfl (Or.inr (by decide))
  refine Ret.of (gathers9M (F := F) hO hF F (-1) (-1) 0 (fun _ => 0) _ ⟨rm_fr h.1 fr (by decide), h.2.fr fr (by decide)⟩ ⟨rfl, fun j hj => absurd hj (Nat.not_lt_zero j)⟩ (by omega) (by omega) (fun _ => ⟨rfl, rfl⟩) (fun hh => absurd hh (Nat.lt_irrefl 0)) (fun j hj => absurd hj (Nat.not_lt_zero j)) (fun i j _ hj => absurd hj (Nat.not_lt_zero j)) (fun f hf he => Or.inr (Or.inl (by have := hO.f f hf; omega)))) (fun A1 hA => ?_)
  obtain ⟨d1, M, G, d2, d3⟩ := hA
  obtain ⟨e1, e2⟩ := pik_eq d2
  refine ⟨d1, pik_ok d2, by rw [e1]; exact d3.1, fun j hj => ?_⟩
  rw [e1] at hj
  rw [e2 j hj]
  exact d3.2 j hj
end PICKS
