set_option maxRecDepth 8000
def tyL : List Int → Option (List Bool)
  | [] => some []
  | x :: l => match tyL l with
    | none => none
    | some s => tyStep x s
def nthR : List Int → Nat → Int
  | [], _ => 0
  | x :: l, j => if j = l.length then x else nthR l j
def vOK : List Int → Prop
  | [] => True
  | x :: l => (-28 ≤ x ∧ x ≤ 99999) ∧ vOK l
def TyV (L : List Int) (s : List Bool) : Prop := tyL L = some s ∧ vOK L
section TYPES
variable {t t' F : Nat} {A A0 A' A1 : rz_A} {S S' : St} {p u k a b c v w x e : Int} {q m i j n z : Nat} {L L' M : List Int} {f g : Nat → List Int → Res} {s s' : List Bool}
theorem Stk.nth {f : Nat → Int} : ∀ {L : List Int}, Stk f L → ∀ j, j < L.length → f j = nthR L j
  | [], _, j, hj => absurd hj (Nat.not_lt_zero _)
  | x :: l, h, j, hj => by
    show f j = if j = l.length then x else nthR l j
    have h1 : j < l.length + 1 := hj
    by_cases c : j = l.length
    · rw [if_pos c, c]
      exact h.1
    · rw [if_neg c]
      exact Stk.nth h.2 j (by omega)
theorem nthR_map : ∀ {L : List Int} (j : Nat), j < L.length → nthR (L.map mst) j = mst (nthR L j)
  | [], j, hj => absurd hj (Nat.not_lt_zero _)
  | x :: l, j, hj => by
    show (if j = (l.map mst).length then mst x else nthR (l.map mst) j) = mst (if j = l.length then x else nthR l j)
    have h1 : j < l.length + 1 := hj
    rw [List.length_map]
    by_cases c : j = l.length
    · rw [if_pos c, if_pos c]
    · rw [if_neg c, if_neg c]
      exact nthR_map j (by omega)
theorem tyN_congr {f g : Nat → Int} : ∀ {n : Nat}, (∀ i, i < n → f i = g i) → tyN f n = tyN g n
  | 0, _ => rfl
  | n + 1, h => by
    unfold tyN
    rw [tyN_congr (n := n) (fun i hi => h i (by omega)), h n (by omega)]
theorem tyN_nth : ∀ L : List Int, tyN (nthR L) L.length = tyL L
  | [] => rfl
  | x :: l => by
    have e1 : tyN (nthR (x :: l)) (x :: l).length = match tyN (nthR (x :: l)) l.length with
      | none => none
      | some s => tyStep (nthR (x :: l) l.length) s := rfl
    have e2 : tyL (x :: l) = match tyL l with
      | none => none
      | some s => tyStep x s := rfl
    have e3 : tyN (nthR (x :: l)) l.length = tyN (nthR l) l.length := tyN_congr (fun i hi => by
      show (if i = l.length then x else nthR l i) = nthR l i
      rw [if_neg (by omega)])
    have e4 : nthR (x :: l) l.length = x := if_pos rfl
    rw [e1, e2, e3, e4, tyN_nth l]
theorem vOK_nth : ∀ {L : List Int}, vOK L → ∀ j, j < L.length → -28 ≤ nthR L j ∧ nthR L j ≤ 99999
  | [], _, j, hj => absurd hj (Nat.not_lt_zero _)
  | x :: l, h, j, hj => by
    show -28 ≤ (if j = l.length then x else nthR l j) ∧ (if j = l.length then x else nthR l j) ≤ 99999
    have h1 : j < l.length + 1 := hj
    by_cases c : j = l.length
    · rw [if_pos c]
      exact h.1
    · rw [if_neg c]
      exact vOK_nth h.2 j (by omega)
theorem TyV.cons (h : TyV L s) (hx : -28 ≤ x ∧ x ≤ 99999) (hs : tyStep x s = some s') : TyV (x :: L) s' := by
  refine ⟨?_, hx, h.2⟩
  show (match tyL L with
    | none => none
    | some s => tyStep x s) = some s'
  rw [h.1]
  exact hs
theorem ty_n (h : -13 ≤ x) : tyStep x s = some (false :: s) := by
  unfold tyStep
  rw [if_pos h]
theorem ty_o (h : ¬ opc c = 0) : tyStep (opc c) (false :: false :: s) = some (false :: s) := by
  have := opc_in h
  unfold tyStep
  rw [if_neg (by omega), if_neg (by omega), if_neg (by omega), if_neg (by omega), if_pos (by omega)]
theorem ty_c (h : ¬ cmc c = 0) : tyStep (cmc c) (false :: false :: s) = some (true :: s) := by
  have := cmc_in h
  unfold tyStep
  rw [if_neg (by omega), if_neg (by omega), if_neg (by omega), if_pos (by omega)]
theorem ty_d : tyStep (-20) (true :: s) = some (true :: s) := by
  unfold tyStep
  rw [if_neg (by decide), if_pos (by decide)]
theorem ty_b (h : e = -21 ∨ e = -22) : tyStep e (true :: true :: s) = some (true :: s) := by
  unfold tyStep
  rw [if_neg (by omega), if_neg (by omega), if_pos h]
def Ty (f : Nat → List Int → Res) (b : Bool) : Prop := ∀ i L s, TyV L s → (f i L).1 = true → TyV (f i L).2.2 (b :: s)
theorem dig_v (hO : OK t S) : ∀ (z i : Nat) (v : Int), z ≤ 5 → 0 ≤ v ∧ v ≤ bd z → 0 ≤ (S.dig z i v).2 ∧ (S.dig z i v).2 ≤ 99999
  | 0, i, v, hz, hv => hv
  | z + 1, i, v, hz, hv => by
    have hb := bd_s z (by omega)
    unfold St.dig
    by_cases c : 48 ≤ S.chr i ∧ S.chr i ≤ 57
    · rw [if_pos c]
      exact dig_v hO z (i + 1) _ (by omega) (by omega)
    · have hb2 : bd (z + 1) ≤ 99999 := by omega
      rw [if_neg c]
      exact ⟨hv.1, by show v ≤ 99999; omega⟩
theorem pU_t (hO : OK t S) : Ty S.pU false := fun i L s h hh => by
  have h1 := dig_v hO 5 i 0 (by omega) (by decide)
  have h2 := lett_b (c := S.chr i)
  unfold St.pU at hh ⊢
  by_cases c1 : 0 ≤ lett (S.chr i)
  · rw [if_pos c1]
    exact h.cons (by omega) (ty_n (by omega))
  · rw [if_neg c1] at hh ⊢
    by_cases c2 : i < (S.dig 5 i 0).1
    · rw [if_pos c2]
      exact h.cons (by omega) (ty_n (by omega))
    · rw [if_neg c2] at hh
      exact Bool.noConfusion hh
theorem pSl_t (hO : OK t S) : ∀ z i L s, TyV L (false :: s) → (S.pSl z i L).1 = true → TyV (S.pSl z i L).2.2 (false :: s)
  | 0, i, L, s, h, hh => h
  | z + 1, i, L, s, h, hh => by
    unfold St.pSl at hh ⊢
    by_cases c1 : opc (S.chr i) = 0
    · rw [if_pos c1]
      exact h
    · rw [if_neg c1] at hh ⊢
      by_cases c2 : (S.pU (i + 1) L).1 = true
      · have h3 := opc_in c1
        rw [if_pos c2] at hh ⊢
        exact pSl_t hO z _ _ s ((pU_t hO (i + 1) L (false :: s) h c2).cons (by omega) (ty_o c1)) hh
      · rw [if_neg c2] at hh
        exact absurd hh c2
theorem pS_t (hO : OK t S) : Ty S.pS false := fun i L s h hh => by
  unfold St.pS at hh ⊢
  by_cases c2 : (S.pU i L).1 = true
  · rw [if_pos c2] at hh ⊢
    exact pSl_t hO 60 _ _ s (pU_t hO i L s h c2) hh
  · rw [if_neg c2] at hh
    exact absurd hh c2
theorem pC_t (hO : OK t S) : Ty S.pC true := fun i L s h hh => by
  unfold St.pC at hh ⊢
  by_cases c1 : (S.pS i L).1 = true
  · rw [if_pos c1] at hh ⊢
    by_cases c2 : cmc (S.chr (S.pS i L).2.1) = 0
    · rw [if_pos c2] at hh
      exact Bool.noConfusion hh
    · rw [if_neg c2] at hh ⊢
      have h3 := cmc_in c2
      by_cases c3 : (S.pS ((S.pS i L).2.1 + 1) (S.pS i L).2.2).1 = true
      · rw [if_pos c3]
        exact (pS_t hO _ _ _ (pS_t hO i L s h c1) c3).cons (by omega) (ty_c c2)
      · rw [if_neg c3] at hh
        exact absurd hh c3
  · rw [if_neg c1] at hh
    exact absurd hh c1
theorem pT_t (hO : OK t S) (hf : Ty f true) (hg : Ty g true) : Ty (S.pTt f g m) true := fun i L s h hh => by
  unfold St.pTt at hh ⊢
  by_cases c1 : S.chr i = 33
  · rw [if_pos c1] at hh ⊢
    by_cases c2 : 5 ≤ m
    · rw [if_pos c2] at hh
      exact Bool.noConfusion hh
    · rw [if_neg c2] at hh ⊢
      by_cases c3 : (f (i + 1) L).1 = true
      · rw [if_pos c3]
        exact (hf _ _ _ h c3).cons (by decide) ty_d
      · rw [if_neg c3] at hh
        exact absurd hh c3
  · rw [if_neg c1] at hh ⊢
    by_cases c1' : S.chr i = 40
    · rw [if_pos c1'] at hh ⊢
      by_cases c2 : 5 ≤ m
      · rw [if_pos c2] at hh
        exact Bool.noConfusion hh
      · rw [if_neg c2] at hh ⊢
        by_cases c3 : (g (i + 1) L).1 = true
        · rw [if_pos c3] at hh ⊢
          by_cases c4 : S.chr (g (i + 1) L).2.1 = 41
          · rw [if_pos c4]
            exact hg _ _ _ h c3
          · rw [if_neg c4] at hh
            exact Bool.noConfusion hh
        · rw [if_neg c3] at hh
          exact absurd hh c3
    · rw [if_neg c1'] at hh ⊢
      exact pC_t hO i L s h hh
theorem pl_t (hf : Ty f true) (he : e = -21 ∨ e = -22) : ∀ z i L s, TyV L (true :: s) → (S.pl f c e z i L).1 = true → TyV (S.pl f c e z i L).2.2 (true :: s)
  | 0, i, L, s, h, hh => h
  | z + 1, i, L, s, h, hh => by
    unfold St.pl at hh ⊢
    by_cases c1 : S.chr i = c
    · rw [if_pos c1] at hh ⊢
      by_cases c2 : (f (i + 1) L).1 = true
      · rw [if_pos c2] at hh ⊢
        exact pl_t hf he z _ _ s ((hf (i + 1) L (true :: s) h c2).cons (by omega) (ty_b he)) hh
      · rw [if_neg c2] at hh
        exact absurd hh c2
    · rw [if_neg c1]
      exact h
theorem pq_t (hf : Ty f true) (he : e = -21 ∨ e = -22) : Ty (S.pq f c e) true := fun i L s h hh => by
  unfold St.pq at hh ⊢
  by_cases c2 : (f i L).1 = true
  · rw [if_pos c2] at hh ⊢
    exact pl_t hf he 60 _ _ s (hf i L s h c2) hh
  · rw [if_neg c2] at hh
    exact absurd hh c2
theorem pv_t (hO : OK t S) : ∀ n, Ty (S.pv n).1 true ∧ Ty (S.pv n).2 true
  | 0 => ⟨fun i L s h hh => Bool.noConfusion hh, fun i L s h hh => Bool.noConfusion hh⟩
  | n + 1 => ⟨pT_t hO (pv_t hO n).1 (pv_t hO n).2, pq_t (pq_t (pT_t hO (pv_t hO n).1 (pv_t hO n).2) (Or.inl rfl)) (Or.inr rfl)⟩
end TYPES
