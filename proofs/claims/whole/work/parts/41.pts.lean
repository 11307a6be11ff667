set_option maxRecDepth 8000
/-! the POINTS of a CURVE -/
abbrev Pt : Type := (Nat) × (Nat → Int) × (Nat → Int) × (Nat → Int)
abbrev Pt.n (S : Pt) : Nat := S.1
abbrev Pt.h (S : Pt) : Nat → Int := S.2.1
abbrev Pt.s (S : Pt) : Nat → Int := S.2.2.1
abbrev Pt.m (S : Pt) : Nat → Int := S.2.2.2
def posH (h : Nat → Int) (l : Int) : Nat → Nat
  | 0 => 0
  | n + 1 => posH h l n + if h n < l then 1 else 0
theorem posH_eq {h : Nat → Int} {l : Int} {q : Nat} : ∀ n, q ≤ n → (∀ i, i < q → h i < l) → (∀ i, q ≤ i → i < n → l ≤ h i) → posH h l n = q
  | 0, hq, _, _ => by have : q = 0 := by omega
                      subst this; rfl
  | n + 1, hq, h1, h2 => by
    unfold posH
    by_cases e : q = n + 1
    · subst e
      have g1 := h1 n (by omega)
      rw [posH_eq (h := h) (l := l) (q := n) n (Nat.le_refl _) (fun i hi => h1 i (by omega)) (fun i a b => by omega), if_pos g1]
    · have g1 := h2 n (by omega) (by omega)
      rw [posH_eq (h := h) (l := l) n (by omega) h1 (fun i a b => h2 i a (by omega)), if_neg (by omega)]
      omega
theorem posH_ch {h : Nat → Int} {l : Int} : ∀ n : Nat, (∀ i j, i < j → j < n → h i < h j) → posH h l n ≤ n ∧ (∀ i, i < posH h l n → h i < l) ∧ (∀ i, posH h l n ≤ i → i < n → l ≤ h i)
  | 0, _ => ⟨Nat.le_refl _, fun i hi => absurd hi (Nat.not_lt_zero i), fun i _ hi => absurd hi (Nat.not_lt_zero i)⟩
  | n + 1, hs => by
    obtain ⟨g1, g2, g3⟩ := posH_ch (h := h) (l := l) n (fun i j a b => hs i j a (by omega))
    by_cases c : h n < l
    · have e : posH h l (n + 1) = n + 1 := posH_eq (n + 1) (Nat.le_refl _) (fun i hi => by
        by_cases e : i = n
        · rw [e]; exact c
        · have := hs i n (by omega) (by omega); omega) (fun i a b => by omega)
      rw [e]
      exact ⟨Nat.le_refl _, fun i hi => by
        by_cases e : i = n
        · rw [e]; exact c
        · have := hs i n (by omega) (by omega); omega, fun i a b => by omega⟩
    · have e : posH h l (n + 1) = posH h l n := posH_eq (n + 1) (by omega) g2 (fun i a b => by
        by_cases e : i = n
        · rw [e]; omega
        · exact g3 i a (by omega))
      rw [e]
      exact ⟨by omega, g2, fun i a b => by
        by_cases e : i = n
        · rw [e]; omega
        · exact g3 i a (by omega)⟩
def insF (f : Nat → Int) (q : Nat) (v : Int) : Nat → Int := fun i => if i < q then f i else if i = q then v else f (i - 1)
theorem insF_lt {f : Nat → Int} {q i : Nat} {v : Int} (h : i < q) : insF f q v i = f i := if_pos h
theorem insF_eq {f : Nat → Int} {q : Nat} {v : Int} : insF f q v q = v := by unfold insF; rw [if_neg (by omega), if_pos rfl]
theorem insF_gt {f : Nat → Int} {q i : Nat} {v : Int} (h : q < i) : insF f q v i = f (i - 1) := by unfold insF; rw [if_neg (by omega), if_neg (by omega)]
def cum (f : Nat → Int) : Nat → Int
  | 0 => 0
  | n + 1 => cum f n + f n
theorem cum_congr {f g : Nat → Int} : ∀ n : Nat, (∀ i, i < n → f i = g i) → cum f n = cum g n
  | 0, _ => rfl
  | n + 1, h => by unfold cum; rw [cum_congr n (fun i hi => h i (by omega)), h n (by omega)]
theorem cum_ins {f : Nat → Int} {q : Nat} {v : Int} : ∀ n : Nat, q ≤ n → cum (insF f q v) (n + 1) = cum f n + v
  | 0, hq => by
    have : q = 0 := by omega
    subst this
    show cum (insF f 0 v) 0 + insF f 0 v 0 = cum f 0 + v
    rw [insF_eq]
    rfl
  | n + 1, hq => by
    by_cases e : q = n + 1
    · subst e
      show cum (insF f (n + 1) v) (n + 1) + insF f (n + 1) v (n + 1) = _
      rw [insF_eq, cum_congr (f := insF f (n + 1) v) (g := f) (n + 1) (fun i hi => insF_lt (by omega))]
    · show cum (insF f q v) (n + 1) + insF f q v (n + 1) = cum f n + f n + v
      rw [cum_ins n (by omega), insF_gt (by omega)]
      show cum f n + v + f n = _
      omega
theorem cum_up {f : Nat → Int} {q : Nat} {v : Int} : ∀ n : Nat, q < n → cum (up f q (f q + v)) n = cum f n + v
  | 0, hq => absurd hq (Nat.not_lt_zero q)
  | n + 1, hq => by
    by_cases e : q = n
    · subst e
      show cum (up f q (f q + v)) q + up f q (f q + v) q = cum f q + f q + v
      rw [up_same, cum_congr (f := up f q (f q + v)) (g := f) q (fun i hi => up_ne (by omega))]
      omega
    · show cum (up f q (f q + v)) n + up f q (f q + v) n = cum f n + f n + v
      rw [cum_up n (by omega), up_ne (by omega)]
      omega
def Pt.add (P : Pt) (l v : Int) : Pt :=
  if posH P.h l P.n < P.n ∧ P.h (posH P.h l P.n) = l then (P.n, P.h, up P.s (posH P.h l P.n) (P.s (posH P.h l P.n) + v), up P.m (posH P.h l P.n) (P.m (posH P.h l P.n) + 1))
  else (P.n + 1, insF P.h (posH P.h l P.n) l, insF P.s (posH P.h l P.n) v, insF P.m (posH P.h l P.n) 1)
def PtOK (P : Pt) (c : Nat) : Prop := (P.n ≤ c) ∧ (∀ i j, i < j → j < P.n → P.h i < P.h j) ∧ (∀ i, i < P.n → -2000 ≤ P.h i ∧ P.h i ≤ 20000) ∧ (∀ i, i < P.n → 1 ≤ P.m i) ∧ (∀ i, i < P.n → 0 ≤ P.s i ∧ P.s i ≤ 99999 * P.m i) ∧ (cum P.m P.n = c)
theorem PtOK.of {P : Pt} {c : Nat} (h : (P.n ≤ c) ∧ (∀ i j, i < j → j < P.n → P.h i < P.h j) ∧ (∀ i, i < P.n → -2000 ≤ P.h i ∧ P.h i ≤ 20000) ∧ (∀ i, i < P.n → 1 ≤ P.m i) ∧ (∀ i, i < P.n → 0 ≤ P.s i ∧ P.s i ≤ 99999 * P.m i) ∧ (cum P.m P.n = c)) : PtOK P c := h
theorem PtOK.le {P : Pt} {c : Nat} (h : PtOK P c) : P.n ≤ c := h.1
theorem PtOK.sort {P : Pt} {c : Nat} (h : PtOK P c) : ∀ i j, i < j → j < P.n → P.h i < P.h j := h.2.1
theorem PtOK.hb {P : Pt} {c : Nat} (h : PtOK P c) : ∀ i, i < P.n → -2000 ≤ P.h i ∧ P.h i ≤ 20000 := h.2.2.1
theorem PtOK.m1 {P : Pt} {c : Nat} (h : PtOK P c) : ∀ i, i < P.n → 1 ≤ P.m i := h.2.2.2.1
theorem PtOK.s1 {P : Pt} {c : Nat} (h : PtOK P c) : ∀ i, i < P.n → 0 ≤ P.s i ∧ P.s i ≤ 99999 * P.m i := h.2.2.2.2.1
theorem PtOK.tot {P : Pt} {c : Nat} (h : PtOK P c) : cum P.m P.n = c := h.2.2.2.2.2
section PTS
variable {t F : Nat} {A A0 : rz_A} {S : St} {P : Pt} {l v : Int} {c : Nat}
theorem Pt.add_hit {q : Nat} (h : PtOK P c) (hq : q < P.n) (e : P.h q = l) : P.add l v = (P.n, P.h, up P.s q (P.s q + v), up P.m q (P.m q + 1)) := by
  have hp : posH P.h l P.n = q := posH_eq P.n (by omega) (fun i hi => by have := h.sort i q hi hq; omega) (fun i a b => by
    by_cases e2 : i = q
    · rw [e2]; omega
    · have := h.sort q i (by omega) b; omega)
  unfold Pt.add
  rw [hp, if_pos ⟨hq, e⟩]
theorem Pt.add_new {q : Nat} (h : PtOK P c) (hq : q ≤ P.n) (h1 : ∀ i, i < q → P.h i < l) (h2 : ∀ i, q ≤ i → i < P.n → l < P.h i) : P.add l v = (P.n + 1, insF P.h q l, insF P.s q v, insF P.m q 1) := by
  have hp : posH P.h l P.n = q := posH_eq P.n hq h1 (fun i a b => by have := h2 i a b; omega)
  unfold Pt.add
  rw [hp, if_neg (fun hh => by have := h2 q (Nat.le_refl _) hh.1; omega)]
theorem PtOK.add (h : PtOK P c) (hl : -2000 ≤ l ∧ l ≤ 20000) (hv : 0 ≤ v ∧ v ≤ 99999) : PtOK (P.add l v) (c + 1) := by
  obtain ⟨g1, g2, g3⟩ := posH_ch (h := P.h) (l := l) P.n h.sort
  have hle := h.le
  by_cases hc : posH P.h l P.n < P.n ∧ P.h (posH P.h l P.n) = l
  · rw [Pt.add_hit h hc.1 hc.2]
    generalize posH P.h l P.n = q at *
    have m1 := h.m1 q hc.1
    have s1 := h.s1 q hc.1
    refine PtOK.of ⟨by show P.n ≤ c + 1; omega, h.sort, h.hb, fun i hi => ?_, fun i hi => ?_, ?_⟩
    · have := h.m1 i hi
      show 1 ≤ up P.m q (P.m q + 1) i
      unfold up
      split <;> omega
    · have := h.s1 i hi
      show 0 ≤ up P.s q (P.s q + v) i ∧ up P.s q (P.s q + v) i ≤ 99999 * up P.m q (P.m q + 1) i
      unfold up
      split <;> omega
    · show cum (up P.m q (P.m q + 1)) P.n = ((c + 1 : Nat) : Int)
      rw [cum_up P.n hc.1, h.tot]
      omega
  · have g4 : ∀ i, posH P.h l P.n ≤ i → i < P.n → l < P.h i := fun i a b => by
      have h1 := g3 i a b
      by_cases e : P.h i = l
      · by_cases e2 : i = posH P.h l P.n
        · exact absurd ⟨by omega, by rw [← e2]; exact e⟩ hc
        · have h2 := g3 (posH P.h l P.n) (Nat.le_refl _) (by omega)
          have h3 := h.sort (posH P.h l P.n) i (by omega) b
          omega
      · omega
    rw [Pt.add_new h g1 g2 g4]
    generalize posH P.h l P.n = q at *
    refine PtOK.of ⟨by show P.n + 1 ≤ c + 1; omega, fun i j hij hj => ?_, fun i hi => ?_, fun i hi => ?_, fun i hi => ?_, ?_⟩
    · have hj' : j < P.n + 1 := hj
      show insF P.h q l i < insF P.h q l j
      by_cases a1 : i < q
      · rw [insF_lt a1]
        by_cases a2 : j < q
        · rw [insF_lt a2]; exact h.sort i j hij (by omega)
        · by_cases a3 : j = q
          · rw [a3, insF_eq]; exact g2 i a1
          · rw [insF_gt (by omega)]
            have h1 := g2 i a1
            have h2 := g4 (j - 1) (by omega) (by omega)
            omega
      · by_cases a3 : i = q
        · rw [a3, insF_eq, insF_gt (by omega)]
          exact g4 (j - 1) (by omega) (by omega)
        · rw [insF_gt (by omega), insF_gt (by omega)]
          exact h.sort (i - 1) (j - 1) (by omega) (by omega)
    · have hi' : i < P.n + 1 := hi
      show -2000 ≤ insF P.h q l i ∧ insF P.h q l i ≤ 20000
      by_cases a1 : i < q
      · rw [insF_lt a1]; exact h.hb i (by omega)
      · by_cases a3 : i = q
        · rw [a3, insF_eq]; exact hl
        · rw [insF_gt (by omega)]; exact h.hb (i - 1) (by omega)
    · have hi' : i < P.n + 1 := hi
      show 1 ≤ insF P.m q 1 i
      by_cases a1 : i < q
      · rw [insF_lt a1]; exact h.m1 i (by omega)
      · by_cases a3 : i = q
        · rw [a3, insF_eq]; omega
        · rw [insF_gt (by omega)]; exact h.m1 (i - 1) (by omega)
    · have hi' : i < P.n + 1 := hi
      show 0 ≤ insF P.s q v i ∧ insF P.s q v i ≤ 99999 * insF P.m q 1 i
      by_cases a1 : i < q
      · rw [insF_lt a1, insF_lt a1]; exact h.s1 i (by omega)
      · by_cases a3 : i = q
        · rw [a3, insF_eq, insF_eq]; omega
        · rw [insF_gt (by omega), insF_gt (by omega)]; exact h.s1 (i - 1) (by omega)
    · show cum (insF P.m q 1) (P.n + 1) = ((c + 1 : Nat) : Int)
      rw [cum_ins P.n g1, h.tot]
      omega
theorem cum_le {f : Nat → Int} {n : Nat} (h : ∀ i, i < n → 0 ≤ f i) : ∀ {j : Nat} (i : Nat), i ≤ j → j ≤ n → cum f i ≤ cum f j := by
  intro j
  induction j with
  | zero => intro i hi hj; have : i = 0 := by omega
            subst this; omega
  | succ j ih =>
    intro i hi hj
    by_cases e : i = j + 1
    · subst e; omega
    · have := ih i (by omega) (by omega)
      have h2 := h j (by omega)
      show cum f i ≤ cum f j + f j
      omega
theorem PtOK.one (h : PtOK P c) {i : Nat} (hi : i < P.n) : P.m i ≤ c := by
  have h1 := cum_le (f := P.m) (n := P.n) (fun i hi => by have := h.m1 i hi; omega) (j := P.n) (i + 1) (by omega) (Nat.le_refl _)
  have h2 := cum_le (f := P.m) (n := P.n) (fun i hi => by have := h.m1 i hi; omega) (j := i) 0 (by omega) (by omega)
  have h3 := h.tot
  have h4 : cum P.m (i + 1) = cum P.m i + P.m i := rfl
  have h5 : cum P.m 0 = 0 := rfl
  omega
/-- the class's rows hold the POINTS -/
def PtC (A : rz_A) (P : Pt) : Prop := A.1 57 0 = P.n ∧ ∀ i, i < P.n → A.1 58 i = P.h i ∧ A.1 60 i = P.s i ∧ A.1 61 i = P.m i
def PtM (A : rz_A) (P : Pt) : Prop := A.1 91 67 = P.n ∧ ∀ i, i < P.n → A.1 137 i = P.h i ∧ A.2 142 i = P.s i ∧ A.1 139 i = P.m i
/-- moved up by one -/
theorem shiftC (hc : PtOK P c) (hl : c < 60) {q : Nat} (hq : q ≤ P.n) (h1 : ∀ i, i < q → P.h i < l) (h2 : ∀ i, q ≤ i → i < P.n → l < P.h i) : ∀ (n j : Nat) (A : rz_A), A.1 57 0 = P.n → q ≤ j → j ≤ P.n → j < n + q → (∀ i, i < j → A.1 58 i = P.h i ∧ A.1 60 i = P.s i ∧ A.1 61 i = P.m i) → (∀ i, j < i → i ≤ P.n → A.1 58 i = P.h (i - 1) ∧ A.1 60 i = P.s (i - 1) ∧ A.1 61 i = P.m (i - 1)) → Ret (x73_addPoint_86 F n l v q j A) () (fun A1 => PtC A1 (P.add l v)) := by
  have hle := hc.le
  intro n
  induction n with
  | zero => intro j A h0 h3 h4 h5; omega
  | succ n ih =>
    intro j A h0 h3 h4 h5 h6 h7
    unfold x73_addPoint_86
    by_cases hj : q < j
    · have e1 : ((j : Int) - 1).toNat = j - 1 := by omega
      have e2 : (j : Int) + (-1) = ((j - 1 : Nat) : Int) := by omega
      obtain ⟨b1, b2, b3⟩ := h6 (j - 1) (by omega)
      rw [if_pos (by omega), g32p (by omega), gxp (by omega) (by omega), gxp (by omega) (by omega), g32p (by omega), e1, e2, Int.toNat_natCast, b1, b2, b3]
      refine ih (j - 1) _ h0 (by omega) (by omega) (by omega) (fun i hi => ?_) (fun i hi hi2 => ?_)
      · have := h6 i (by omega)
        refine ⟨?_, ?_, ?_⟩
        · show (if i = j then _ else A.1 58 i) = _
          rw [if_neg (by omega)]; exact this.1
        · show (if i = j then _ else A.1 60 i) = _
          rw [if_neg (by omega)]; exact this.2.1
        · show (if i = j then _ else A.1 61 i) = _
          rw [if_neg (by omega)]; exact this.2.2
      · by_cases e : i = j
        · subst e
          exact ⟨if_pos rfl, if_pos rfl, if_pos rfl⟩
        · have := h7 i (by omega) hi2
          refine ⟨?_, ?_, ?_⟩
          · show (if i = j then _ else A.1 58 i) = _
            rw [if_neg e]; exact this.1
          · show (if i = j then _ else A.1 60 i) = _
            rw [if_neg e]; exact this.2.1
          · show (if i = j then _ else A.1 61 i) = _
            rw [if_neg e]; exact this.2.2
    · have ej : j = q := by omega
      subst ej
      rw [if_neg (by omega)]
      unfold x73_addPoint_152
      rw [gxp (by omega) (by omega), h0, g32p (by omega), Int.toNat_natCast, Pt.add_new hc hq h1 h2]
      refine Ret.mk ⟨by show (P.n : Int) + 1 = ((P.n + 1 : Nat) : Int); omega, fun i hi => ?_⟩
      have hi' : i < P.n + 1 := hi
      show (if i = j then l else A.1 58 i) = insF P.h j l i ∧ (if i = j then v else A.1 60 i) = insF P.s j v i ∧ (if i = j then 1 else A.1 61 i) = insF P.m j 1 i
      by_cases a1 : i < j
      · rw [if_neg (by omega), if_neg (by omega), if_neg (by omega), insF_lt a1, insF_lt a1, insF_lt a1]
        exact h6 i a1
      · by_cases a2 : i = j
        · subst a2
          rw [if_pos rfl, if_pos rfl, if_pos rfl, insF_eq, insF_eq, insF_eq]
          exact ⟨rfl, rfl, rfl⟩
        · rw [if_neg a2, if_neg a2, if_neg a2, insF_gt (by omega), insF_gt (by omega), insF_gt (by omega)]
          exact h7 i (by omega) (by omega)
theorem addC_loop (hc : PtOK P c) (hl : c < 60) (hv : 0 ≤ v ∧ v ≤ 99999) (hF : 1000 ≤ F) (hA : PtC A P) : ∀ (n q : Nat), q ≤ P.n → q < n → (∀ i, q ≤ i → i < P.n → l < P.h i) → Ret (x73_addPoint_8 F n l v q A) () (fun A1 => PtC A1 (P.add l v)) := by
  have hle := hc.le
  have e0 := hA.1
  intro n
  induction n with
  | zero => intro q h1 h2; omega
  | succ n ih =>
    intro q h1 h2 h3
    have shift : (∀ i, i < q → P.h i < l) → Ret (x73_addPoint_86 F F l v q (A.1 57 0) A) () (fun A1 => PtC A1 (P.add l v)) := by
      intro hlt
      rw [e0]
      exact shiftC hc hl h1 hlt h3 F P.n A e0 (by omega) (Nat.le_refl _) (by omega) hA.2 (fun i a b => by omega)
    unfold x73_addPoint_8
    by_cases hq : 0 < q
    · have e1 : ((q : Int) - 1).toNat = q - 1 := by omega
      obtain ⟨b1, b2, b3⟩ := hA.2 (q - 1) (by omega)
      rw [if_pos (by omega), g32p (by omega), gxp (by omega) (by omega), e1, b1]
      by_cases c1 : l < P.h (q - 1)
      · rw [if_pos c1, g32p (by omega), show (q : Int) + (-1) = ((q - 1 : Nat) : Int) by omega]
        refine ih (q - 1) (by omega) (by omega) (fun i a b => ?_)
        by_cases e : i = q - 1
        · rw [e]; exact c1
        · exact h3 i (by omega) b
      · rw [if_neg c1]
        unfold x73_addPoint_33
        rw [if_pos (by omega), g32p (by omega), gxp (by omega) (by omega), e1, b1]
        by_cases c2 : P.h (q - 1) = l
        · have m1 := hc.m1 (q - 1) (by omega)
          have m2 := hc.one (i := q - 1) (by omega)
          have s1 := hc.s1 (q - 1) (by omega)
          rw [if_pos c2, b2, b3, g32p (by omega), g32p (by omega), Pt.add_hit hc (by omega) c2]
          refine Ret.mk ⟨e0, fun i hi => ?_⟩
          have := hA.2 i hi
          refine ⟨this.1, ?_, ?_⟩
          · show (if i = q - 1 then _ else A.1 60 i) = up P.s (q - 1) _ i
            unfold up
            split
            · rfl
            · exact this.2.1
          · show (if i = q - 1 then _ else A.1 61 i) = up P.m (q - 1) _ i
            unfold up
            split
            · rfl
            · exact this.2.2
        · rw [if_neg c2]
          refine shift (fun i hi => ?_)
          by_cases e : i = q - 1
          · rw [e]; omega
          · have := hc.sort i (q - 1) (by omega) (by omega); omega
    · have e : q = 0 := by omega
      subst e
      rw [if_neg (by omega)]
      unfold x73_addPoint_33
      rw [if_neg (by omega)]
      exact shift (fun i hi => absurd hi (Nat.not_lt_zero i))
theorem addC (hc : PtOK P c) (hl : c < 60) (hv : 0 ≤ v ∧ v ≤ 99999) (hF : 1000 ≤ F) (hA : PtC A P) : Ret (x73_addPoint F l v A) () (fun A1 => PtC A1 (P.add l v)) := by
  have hle := hc.le
  unfold x73_addPoint
  rw [hA.1]
  exact addC_loop hc hl hv hF hA F P.n (Nat.le_refl _) (by omega) (fun i a b => by omega)
/-! the reference's -/
abbrev csP : List Nat := [137, 139, 142]
abbrev fsP : List (Nat × Nat) := [(91, 67)]
variable {k87 : Int → Int → Int → Int → Int → rz_A → Option (Unit × rz_A)} {w1 w2 w3 w4 : Int} {Q : rz_A → Prop}
theorem shiftM (hc : PtOK P c) (hl : c < 60) {q f : Nat} (hf : f < 60) (hq : q ≤ P.n) (hv : 0 ≤ v ∧ v ≤ 99999) (h1 : ∀ i, i < q → P.h i < l) (h2 : ∀ i, q ≤ i → i < P.n → l < P.h i) (hk : ∀ A1, PtM A1 (P.add l v) → Fr csP fsP A0 A1 → Ret (k87 w1 w2 w3 w4 ((f : Int) + 1) A1) () Q) : ∀ (n j : Nat) (A : rz_A), Fr csP fsP A0 A → A.1 91 54 = l → A.1 112 f = v → A.1 91 67 = P.n → q ≤ j → j ≤ P.n → j < n + q → (∀ i, i < j → A.1 137 i = P.h i ∧ A.2 142 i = P.s i ∧ A.1 139 i = P.m i) → (∀ i, j < i → i ≤ P.n → A.1 137 i = P.h (i - 1) ∧ A.2 142 i = P.s (i - 1) ∧ A.1 139 i = P.m (i - 1)) → Ret (x182_makes_229 F k87 n w1 w2 w3 w4 f q j A) () Q := by
  have hle := hc.le
  intro n
  induction n with
  | zero => intro j A hf0 hf1 hf2 h0 h3 h4 h5; omega
  | succ n ih =>
    intro j A hf0 hf1 hf2 h0 h3 h4 h5 h6 h7
    unfold x182_makes_229
    by_cases hj : q < j
    · have e1 : ((j : Int) - 1).toNat = j - 1 := by omega
      have e2 : (j : Int) + (-1) = ((j - 1 : Nat) : Int) := by omega
      obtain ⟨b1, b2, b3⟩ := h6 (j - 1) (by omega)
      rw [if_pos (by omega), g32p (by omega), gxp (by omega) (by omega), gxp (by omega) (by omega), g32p (by omega), e1, e2, Int.toNat_natCast, b1, b2, b3]
      refine ih (j - 1) _ (Fr.aI (Fr.aL (Fr.aI hf0 (Or.inl (by decide))) (Or.inl (by decide))) (Or.inl (by decide))) hf1 hf2 h0 (by omega) (by omega) (by omega) (fun i hi => ?_) (fun i hi hi2 => ?_)
      · have := h6 i (by omega)
        refine ⟨?_, ?_, ?_⟩
        · show (if i = j then _ else A.1 137 i) = _
          rw [if_neg (by omega)]; exact this.1
        · show (if i = j then _ else A.2 142 i) = _
          rw [if_neg (by omega)]; exact this.2.1
        · show (if i = j then _ else A.1 139 i) = _
          rw [if_neg (by omega)]; exact this.2.2
      · by_cases e : i = j
        · subst e
          exact ⟨if_pos rfl, if_pos rfl, if_pos rfl⟩
        · have := h7 i (by omega) hi2
          refine ⟨?_, ?_, ?_⟩
          · show (if i = j then _ else A.1 137 i) = _
            rw [if_neg e]; exact this.1
          · show (if i = j then _ else A.2 142 i) = _
            rw [if_neg e]; exact this.2.1
          · show (if i = j then _ else A.1 139 i) = _
            rw [if_neg e]; exact this.2.2
    · have ej : j = q := by omega
      subst ej
      rw [if_neg (by omega)]
      unfold x182_makes_290
      have z1 : (aL A 142 j 0).2 142 j = 0 := if_pos rfl
      have z2 : (aI A 139 j 0).1 139 j = 0 := if_pos rfl
      simp only [Int.toNat_natCast]
      simp only [z1, z2, h0, hf1, hf2]
      rw [gxp (by omega) (by omega), g32p (by omega), gxp (by omega) (by omega), g64p (by omega), g32p (by omega), g32p (by omega)]
      rw [Pt.add_new hc hq h1 h2] at hk
      refine hk _ ⟨by show (P.n : Int) + 1 = ((P.n + 1 : Nat) : Int); omega, fun i hi => ?_⟩ (Fr.aI (Fr.aL (Fr.aI (Fr.aI (Fr.aL (Fr.aI hf0 (Or.inl (by decide))) (Or.inl (by decide))) (Or.inl (by decide))) (Or.inr (by decide))) (Or.inl (by decide))) (Or.inl (by decide)))
      have hi' : i < P.n + 1 := hi
      show (if i = j then l else A.1 137 i) = insF P.h j l i ∧ (if i = j then 0 + v else if i = j then 0 else A.2 142 i) = insF P.s j v i ∧ (if i = j then 0 + 1 else if i = j then 0 else A.1 139 i) = insF P.m j 1 i
      by_cases a1 : i < j
      · rw [if_neg (by omega), if_neg (by omega), if_neg (by omega), if_neg (by omega), if_neg (by omega), insF_lt a1, insF_lt a1, insF_lt a1]
        exact h6 i a1
      · by_cases a2 : i = j
        · subst a2
          rw [if_pos rfl, if_pos rfl, if_pos rfl, insF_eq, insF_eq, insF_eq]
          exact ⟨rfl, by omega, by omega⟩
        · rw [if_neg a2, if_neg a2, if_neg a2, if_neg a2, if_neg a2, insF_gt (by omega), insF_gt (by omega), insF_gt (by omega)]
          exact h7 i (by omega) (by omega)
theorem addM (hc : PtOK P c) (hl : c < 60) {f : Nat} (hf : f < 60) (hv : 0 ≤ v ∧ v ≤ 99999) (hF : 1000 ≤ F) (hA : PtM A P) (hf1 : A.1 91 54 = l) (hf2 : A.1 112 f = v) (hk : ∀ A1, PtM A1 (P.add l v) → Fr csP fsP A A1 → Ret (k87 w1 w2 w3 w4 ((f : Int) + 1) A1) () Q) : ∀ (n q : Nat), q ≤ P.n → P.n < n + q → (∀ i, i < q → P.h i < l) → Ret (x182_makes_171 F k87 n w1 w2 w3 w4 f q A) () Q := by
  have hle := hc.le
  have e0 := hA.1
  intro n
  induction n with
  | zero => intro q h1 h2; omega
  | succ n ih =>
    intro q h1 h2 h3
    have shift : (∀ i, q ≤ i → i < P.n → l < P.h i) → Ret (x182_makes_229 F k87 F w1 w2 w3 w4 f q (A.1 91 67) A) () Q := by
      intro hlt
      rw [e0]
      exact shiftM hc hl hf h1 hv h3 hlt hk F P.n A Fr.rfl hf1 hf2 e0 (by omega) (Nat.le_refl _) (by omega) hA.2 (fun i a b => by omega)
    unfold x182_makes_171
    rw [e0]
    by_cases hq : q < P.n
    · obtain ⟨b1, b2, b3⟩ := hA.2 q hq
      rw [if_pos (by omega), gxp (by omega) (by omega), Int.toNat_natCast, b1, hf1]
      by_cases c1 : P.h q < l
      · rw [if_pos c1, g32p (by omega), show (q : Int) + 1 = ((q + 1 : Nat) : Int) by omega]
        refine ih (q + 1) (by omega) (by omega) (fun i a => ?_)
        by_cases e : i = q
        · rw [e]; exact c1
        · exact h3 i (by omega)
      · rw [if_neg c1]
        unfold x182_makes_200
        rw [e0, if_neg (by omega), gxp (by omega) (by omega), Int.toNat_natCast, b1, hf1]
        by_cases c2 : P.h q = l
        · have m1 := hc.m1 q hq
          have m2 := hc.one hq
          have s1 := hc.s1 q hq
          rw [Int.toNat_natCast, if_pos c2, b2, b3, hf2, gxp (by omega) (by omega), g64p (by omega), g32p (by omega), g32p (by omega)]
          rw [Pt.add_hit hc hq c2] at hk
          refine hk _ ⟨e0, fun i hi => ?_⟩ (Fr.aI (Fr.aL Fr.rfl (Or.inl (by decide))) (Or.inl (by decide)))
          have := hA.2 i hi
          refine ⟨this.1, ?_, ?_⟩
          · show (if i = q then _ else A.2 142 i) = up P.s q _ i
            unfold up
            split
            · rfl
            · exact this.2.1
          · show (if i = q then _ else A.1 139 i) = up P.m q _ i
            unfold up
            split
            · rfl
            · exact this.2.2
        · rw [if_neg c2]
          rw [← e0]
          refine shift (fun i a b => ?_)
          by_cases e : i = q
          · rw [e]; omega
          · have := hc.sort q i (by omega) b; omega
    · have e : q = P.n := by omega
      rw [if_neg (by omega)]
      unfold x182_makes_200
      rw [e0, if_pos (by omega)]
      rw [← e0]
      exact shift (fun i a b => by omega)
end PTS
