set_option maxRecDepth 8000
/-! THE TEXT: what it reads as, a list of steps, the newest first -/
def Stk (f : Nat → Int) : List Int → Prop
  | [] => True
  | x :: l => f l.length = x ∧ Stk f l
theorem Stk.up {f : Nat → Int} {k : Nat} {v : Int} : ∀ {L : List Int}, Stk f L → L.length ≤ k → Stk (up f k v) L
  | [], _, _ => trivial
  | x :: l, h, hk => by
    have h1 : l.length + 1 ≤ k := hk
    exact ⟨by rw [up_ne (by omega)]; exact h.1, Stk.up h.2 (by omega)⟩
theorem Stk.push {f : Nat → Int} {v : Int} {L : List Int} (h : Stk f L) : Stk (fun b => if b = L.length then v else f b) (v :: L) := ⟨if_pos rfl, Stk.up h (Nat.le_refl _)⟩
abbrev Res : Type := Bool × Nat × List Int
def St.chr (S : St) (i : Nat) : Int := if i < S.nT then S.tB i else -1
def lett (c : Int) : Int := if c = 100 then 0 else if c = 109 then 1 else if c = 114 then 2 else if c = 107 then 3 else if c = 97 then 4 else if c = 98 then 5 else if c = 103 then 6 else if c = 104 then 7 else if c = 110 then 8 else if c = 102 then 9 else if c = 119 then 10 else if c = 120 then 11 else if c = 105 then 12 else -1
def St.dig (S : St) : Nat → Nat → Int → Nat × Int
  | 0, i, v => (i, v)
  | z + 1, i, v => if 48 ≤ S.chr i ∧ S.chr i ≤ 57 then S.dig z (i + 1) (v * 10 + S.chr i - 48) else (i, v)
def St.pU (S : St) (i : Nat) (L : List Int) : Res := if 0 ≤ lett (S.chr i) then (true, i + 1, (-1 - lett (S.chr i)) :: L) else if i < (S.dig 5 i 0).1 then (true, (S.dig 5 i 0).1, (S.dig 5 i 0).2 :: L) else (false, i, L)
def opc (c : Int) : Int := if c = 43 then -26 else if c = 45 then -27 else if c = 42 then -28 else 0
def cmc (c : Int) : Int := if c = 60 then -23 else if c = 61 then -24 else if c = 62 then -25 else 0
def St.pSl (S : St) : Nat → Nat → List Int → Res
  | 0, i, L => (true, i, L)
  | z + 1, i, L => if opc (S.chr i) = 0 then (true, i, L) else if (S.pU (i + 1) L).1 = true then S.pSl z (S.pU (i + 1) L).2.1 (opc (S.chr i) :: (S.pU (i + 1) L).2.2) else S.pU (i + 1) L
def St.pS (S : St) (i : Nat) (L : List Int) : Res := if (S.pU i L).1 = true then S.pSl 60 (S.pU i L).2.1 (S.pU i L).2.2 else S.pU i L
def St.pC (S : St) (i : Nat) (L : List Int) : Res := if (S.pS i L).1 = true then (if cmc (S.chr (S.pS i L).2.1) = 0 then (false, (S.pS i L).2) else if (S.pS ((S.pS i L).2.1 + 1) (S.pS i L).2.2).1 = true then (true, (S.pS ((S.pS i L).2.1 + 1) (S.pS i L).2.2).2.1, cmc (S.chr (S.pS i L).2.1) :: (S.pS ((S.pS i L).2.1 + 1) (S.pS i L).2.2).2.2) else S.pS ((S.pS i L).2.1 + 1) (S.pS i L).2.2) else S.pS i L
def St.pTt (S : St) (oT oO : Nat → List Int → Res) (a : Nat) (i : Nat) (L : List Int) : Res := if S.chr i = 33 then (if 5 ≤ a then (false, i, L) else if (oT (i + 1) L).1 = true then (true, (oT (i + 1) L).2.1, -20 :: (oT (i + 1) L).2.2) else oT (i + 1) L) else if S.chr i = 40 then (if 5 ≤ a then (false, i, L) else if (oO (i + 1) L).1 = true then (if S.chr (oO (i + 1) L).2.1 = 41 then (true, (oO (i + 1) L).2.1 + 1, (oO (i + 1) L).2.2) else (false, (oO (i + 1) L).2)) else oO (i + 1) L) else S.pC i L
def St.pl (S : St) (f : Nat → List Int → Res) (c e : Int) : Nat → Nat → List Int → Res
  | 0, i, L => (true, i, L)
  | z + 1, i, L => if S.chr i = c then (if (f (i + 1) L).1 = true then S.pl f c e z (f (i + 1) L).2.1 (e :: (f (i + 1) L).2.2) else f (i + 1) L) else (true, i, L)
def St.pq (S : St) (f : Nat → List Int → Res) (c e : Int) (i : Nat) (L : List Int) : Res := if (f i L).1 = true then S.pl f c e 60 (f i L).2.1 (f i L).2.2 else f i L
abbrev St.pO (S : St) (f : Nat → List Int → Res) : Nat → List Int → Res := S.pq (S.pq f 38 (-21)) 124 (-22)
def St.pv (S : St) : Nat → (Nat → List Int → Res) × (Nat → List Int → Res)
  | 0 => (fun i L => (false, i, L), fun i L => (false, i, L))
  | n + 1 => (S.pTt (S.pv n).1 (S.pv n).2 (6 - n), S.pO (S.pTt (S.pv n).1 (S.pv n).2 (6 - n)))
section PARSE
variable {t t' F : Nat} {A A0 A' A1 : rz_A} {S S' : St} {p u k a b c v w : Int} {q m i j n z : Nat} {L L' : List Int} {f g : Nat → List Int → Res}
theorem chr_ge (h : ¬ i < S.nT) : S.chr i = -1 := if_neg h
theorem chr_lt (h : i < S.nT) : S.chr i = S.tB i := if_pos h
theorem chr_in (h : 0 ≤ S.chr i) : i < S.nT := Classical.byContradiction fun hh => by rw [chr_ge hh] at h; omega
theorem chr_b (hO : OK t S) : -1 ≤ S.chr i ∧ S.chr i ≤ 255 := by
  unfold St.chr
  split
  · have := hO.tB i (by assumption)
    omega
  · omega
theorem lett_b : -1 ≤ lett c ∧ lett c ≤ 12 := by
  unfold lett
  repeat' split
  all_goals omega
theorem lett_m : lett (-1) = -1 := by decide
theorem opc_in (h : ¬ opc c = 0) : 0 ≤ c ∧ -28 ≤ opc c ∧ opc c ≤ -26 := by
  unfold opc at h ⊢
  repeat' split at h
  all_goals first | (exfalso; exact h rfl) | skip
  all_goals (repeat' split)
  all_goals omega
theorem cmc_in (h : ¬ cmc c = 0) : 0 ≤ c ∧ -25 ≤ cmc c ∧ cmc c ≤ -23 := by
  unfold cmc at h ⊢
  repeat' split at h
  all_goals first | (exfalso; exact h rfl) | skip
  all_goals (repeat' split)
  all_goals omega
/-! where a reading ends: positions and lengths -/
def Gd (S : St) (f : Nat → List Int → Res) : Prop := ∀ i L, i ≤ S.nT → i ≤ (f i L).2.1 ∧ (f i L).2.1 ≤ S.nT ∧ (f i L).2.2.length + i ≤ L.length + (f i L).2.1 ∧ ((f i L).1 = true → i < (f i L).2.1)
theorem dig_g : ∀ (z i : Nat) (v : Int), i ≤ S.nT → i ≤ (S.dig z i v).1 ∧ (S.dig z i v).1 ≤ S.nT
  | 0, i, v, h => ⟨Nat.le_refl _, h⟩
  | z + 1, i, v, h => by
    unfold St.dig
    by_cases c : 48 ≤ S.chr i ∧ S.chr i ≤ 57
    · have h1 := chr_in (S := S) (i := i) (by omega)
      have h2 := dig_g z (i + 1) (v * 10 + S.chr i - 48) (by omega)
      rw [if_pos c]
      omega
    · rw [if_neg c]
      exact ⟨Nat.le_refl _, h⟩
theorem pU_g : Gd S S.pU := fun i L hi => by
  have h1 := dig_g (S := S) 5 i 0 hi
  unfold St.pU
  by_cases c1 : 0 ≤ lett (S.chr i)
  · have h2 : i < S.nT := Classical.byContradiction fun hh => by rw [chr_ge hh, lett_m] at c1; omega
    rw [if_pos c1]
    exact ⟨by show i ≤ i + 1; omega, by show i + 1 ≤ _; omega, by show L.length + 1 + i ≤ L.length + (i + 1); omega, fun _ => by show i < i + 1; omega⟩
  · rw [if_neg c1]
    by_cases c2 : i < (S.dig 5 i 0).1
    · rw [if_pos c2]
      exact ⟨h1.1, h1.2, by show L.length + 1 + i ≤ L.length + (S.dig 5 i 0).1; omega, fun _ => c2⟩
    · rw [if_neg c2]
      exact ⟨Nat.le_refl _, hi, Nat.le_refl _, fun hh => Bool.noConfusion hh⟩
theorem pl_g (hf : Gd S f) (hc : 0 ≤ c) {e : Int} : ∀ z i L, i ≤ S.nT → i ≤ (S.pl f c e z i L).2.1 ∧ (S.pl f c e z i L).2.1 ≤ S.nT ∧ (S.pl f c e z i L).2.2.length + i ≤ L.length + (S.pl f c e z i L).2.1
  | 0, i, L, hi => ⟨Nat.le_refl _, hi, Nat.le_refl _⟩
  | z + 1, i, L, hi => by
    unfold St.pl
    by_cases c1 : S.chr i = c
    · have h1 := chr_in (S := S) (i := i) (by omega)
      have h2 := hf (i + 1) L (by omega)
      rw [if_pos c1]
      by_cases c2 : (f (i + 1) L).1 = true
      · have h3 := pl_g hf hc (e := e) z (f (i + 1) L).2.1 (e :: (f (i + 1) L).2.2) (by omega)
        rw [show (e :: (f (i + 1) L).2.2).length = (f (i + 1) L).2.2.length + 1 from rfl] at h3
        rw [if_pos c2]
        omega
      · rw [if_neg c2]
        omega
    · rw [if_neg c1]
      exact ⟨Nat.le_refl _, hi, Nat.le_refl _⟩
theorem pq_g (hf : Gd S f) (hc : 0 ≤ c) {e : Int} : Gd S (S.pq f c e) := fun i L hi => by
  have h1 := hf i L hi
  unfold St.pq
  by_cases c1 : (f i L).1 = true
  · have h2 := pl_g hf hc (e := e) 60 (f i L).2.1 (f i L).2.2 (by omega)
    have h3 := h1.2.2.2 c1
    rw [if_pos c1]
    exact ⟨by omega, by omega, by omega, fun _ => by omega⟩
  · rw [if_neg c1]
    exact h1
theorem pSl_g : ∀ z i L, i ≤ S.nT → i ≤ (S.pSl z i L).2.1 ∧ (S.pSl z i L).2.1 ≤ S.nT ∧ (S.pSl z i L).2.2.length + i ≤ L.length + (S.pSl z i L).2.1
  | 0, i, L, hi => ⟨Nat.le_refl _, hi, Nat.le_refl _⟩
  | z + 1, i, L, hi => by
    unfold St.pSl
    by_cases c1 : opc (S.chr i) = 0
    · rw [if_pos c1]
      exact ⟨Nat.le_refl _, hi, Nat.le_refl _⟩
    · have h1 := chr_in (S := S) (i := i) (opc_in c1).1
      have h2 := pU_g (S := S) (i + 1) L (by omega)
      rw [if_neg c1]
      by_cases c2 : (S.pU (i + 1) L).1 = true
      · have h3 := pSl_g z (S.pU (i + 1) L).2.1 (opc (S.chr i) :: (S.pU (i + 1) L).2.2) (by omega)
        rw [show (opc (S.chr i) :: (S.pU (i + 1) L).2.2).length = (S.pU (i + 1) L).2.2.length + 1 from rfl] at h3
        rw [if_pos c2]
        omega
      · rw [if_neg c2]
        omega
theorem pS_g : Gd S S.pS := fun i L hi => by
  have h1 := pU_g (S := S) i L hi
  unfold St.pS
  by_cases c1 : (S.pU i L).1 = true
  · have h2 := pSl_g (S := S) 60 (S.pU i L).2.1 (S.pU i L).2.2 (by omega)
    have h3 := h1.2.2.2 c1
    rw [if_pos c1]
    exact ⟨by omega, by omega, by omega, fun _ => by omega⟩
  · rw [if_neg c1]
    exact h1
theorem pC_g : Gd S S.pC := fun i L hi => by
  have h1 := pS_g (S := S) i L hi
  unfold St.pC
  by_cases c1 : (S.pS i L).1 = true
  · have h4 := h1.2.2.2 c1
    rw [if_pos c1]
    by_cases c2 : cmc (S.chr (S.pS i L).2.1) = 0
    · rw [if_pos c2]
      exact ⟨h1.1, h1.2.1, h1.2.2.1, fun hh => Bool.noConfusion hh⟩
    · have h2 := chr_in (S := S) (cmc_in c2).1
      have h3 := pS_g (S := S) ((S.pS i L).2.1 + 1) (S.pS i L).2.2 (by omega)
      rw [if_neg c2]
      by_cases c3 : (S.pS ((S.pS i L).2.1 + 1) (S.pS i L).2.2).1 = true
      · rw [if_pos c3]
        exact ⟨by show i ≤ (S.pS ((S.pS i L).2.1 + 1) (S.pS i L).2.2).2.1; omega, by show (S.pS ((S.pS i L).2.1 + 1) (S.pS i L).2.2).2.1 ≤ _; omega, by show (S.pS ((S.pS i L).2.1 + 1) (S.pS i L).2.2).2.2.length + 1 + i ≤ L.length + (S.pS ((S.pS i L).2.1 + 1) (S.pS i L).2.2).2.1; omega, fun _ => by show i < (S.pS ((S.pS i L).2.1 + 1) (S.pS i L).2.2).2.1; omega⟩
      · rw [if_neg c3]
        exact ⟨by omega, by omega, by omega, fun hh => absurd hh c3⟩
  · rw [if_neg c1]
    exact h1
theorem pT_g (hf : Gd S f) (hg : Gd S g) : Gd S (S.pTt f g m) := fun i L hi => by
  unfold St.pTt
  by_cases c1 : S.chr i = 33
  · have h1 := chr_in (S := S) (i := i) (by omega)
    have h2 := hf (i + 1) L (by omega)
    rw [if_pos c1]
    by_cases c2 : 5 ≤ m
    · rw [if_pos c2]
      exact ⟨Nat.le_refl _, hi, Nat.le_refl _, fun hh => Bool.noConfusion hh⟩
    · rw [if_neg c2]
      by_cases c3 : (f (i + 1) L).1 = true
      · rw [if_pos c3]
        exact ⟨by show i ≤ (f (i + 1) L).2.1; omega, by show (f (i + 1) L).2.1 ≤ _; omega, by show (f (i + 1) L).2.2.length + 1 + i ≤ L.length + (f (i + 1) L).2.1; omega, fun _ => by show i < (f (i + 1) L).2.1; omega⟩
      · rw [if_neg c3]
        exact ⟨by omega, by omega, by omega, fun hh => absurd hh c3⟩
  · rw [if_neg c1]
    by_cases c1' : S.chr i = 40
    · have h1 := chr_in (S := S) (i := i) (by omega)
      have h2 := hg (i + 1) L (by omega)
      rw [if_pos c1']
      by_cases c2 : 5 ≤ m
      · rw [if_pos c2]
        exact ⟨Nat.le_refl _, hi, Nat.le_refl _, fun hh => Bool.noConfusion hh⟩
      · rw [if_neg c2]
        by_cases c3 : (g (i + 1) L).1 = true
        · rw [if_pos c3]
          by_cases c4 : S.chr (g (i + 1) L).2.1 = 41
          · have h5 := chr_in (S := S) (i := (g (i + 1) L).2.1) (by omega)
            rw [if_pos c4]
            exact ⟨by show i ≤ (g (i + 1) L).2.1 + 1; omega, by show (g (i + 1) L).2.1 + 1 ≤ _; omega, by show (g (i + 1) L).2.2.length + i ≤ L.length + ((g (i + 1) L).2.1 + 1); omega, fun _ => by show i < (g (i + 1) L).2.1 + 1; omega⟩
          · rw [if_neg c4]
            exact ⟨by show i ≤ (g (i + 1) L).2.1; omega, by show (g (i + 1) L).2.1 ≤ _; omega, by show (g (i + 1) L).2.2.length + i ≤ L.length + (g (i + 1) L).2.1; omega, fun hh => Bool.noConfusion hh⟩
        · rw [if_neg c3]
          exact ⟨by omega, by omega, by omega, fun hh => absurd hh c3⟩
    · rw [if_neg c1']
      exact pC_g i L hi
theorem pv_g : ∀ n, Gd S (S.pv n).1 ∧ Gd S (S.pv n).2
  | 0 => ⟨fun i L hi => ⟨Nat.le_refl _, hi, Nat.le_refl _, fun hh => Bool.noConfusion hh⟩, fun i L hi => ⟨Nat.le_refl _, hi, Nat.le_refl _, fun hh => Bool.noConfusion hh⟩⟩
  | n + 1 => ⟨pT_g (pv_g n).1 (pv_g n).2, pq_g (pq_g (pT_g (pv_g n).1 (pv_g n).2) (by decide)) (by decide)⟩
end PARSE
