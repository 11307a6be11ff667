/-! pure rules over the machine: 'rg_At d y pc L S M res' : from this point the run comes to res -/
abbrev rg_St : Type := Nat × rg_Ls × List Value × rg_M
def rg_At (d y pc : Nat) (L : rg_Ls) (S : List Value) (M : rg_M) (res : Option Value × rg_M) : Prop := ∃ f, rg_exec f d y pc L S M = some res
def rg_Rn (d y : Nat) (as : List Value) (M : rg_M) (r : Option Value) (M' : rg_M) : Prop := rg_At d y 0 (rg_ent y as) [] M (r, M')
def rg_go (d y : Nat) : Nat → rg_St → Option rg_St
  | 0, s => some s
  | n + 1, s => match rg_step d y s.1 s.2.1 s.2.2.1 s.2.2.2 with
    | some (.inl s') => rg_go d y n s'
    | _ => none
theorem rg_exec_succ : ∀ (f d y pc : Nat) (L : rg_Ls) (S : List Value) (M : rg_M) (x : Option Value × rg_M), rg_exec f d y pc L S M = some x → rg_exec (f + 1) d y pc L S M = some x := by
  intro f
  induction f with
  | zero => intro d y pc L S M x h; cases h
  | succ f ih =>
    intro d y pc L S M x h
    rw [rg_exec] at h ⊢
    cases hs : rg_step d y pc L S M with
    | none => rw [hs] at h; cases h
    | some o =>
      rw [hs] at h
      match o, h with
      | .inl (pc', L', S', M1), h => exact ih _ _ _ _ _ _ _ h
      | .inr (.inr r), h => exact h
      | .inr (.inl (y', as, rest)), h =>
        cases d with
        | zero => cases h
        | succ d' =>
          cases he : rg_exec f d' y' 0 (rg_ent y' as) [] M with
          | none => simp only [he] at h; cases h
          | some q =>
            simp only [he] at h
            simp only [ih _ _ _ _ _ _ _ he]
            exact ih _ _ _ _ _ _ _ h
theorem rg_exec_le {f f' d y pc : Nat} {L : rg_Ls} {S : List Value} {M : rg_M} {x : Option Value × rg_M} (hf : f ≤ f') (h : rg_exec f d y pc L S M = some x) : rg_exec f' d y pc L S M = some x := by
  obtain ⟨k, rfl⟩ : ∃ k, f' = f + k := ⟨f' - f, by omega⟩
  induction k with
  | zero => exact h
  | succ k ih => exact rg_exec_succ _ _ _ _ _ _ _ _ (ih (by omega))
section ATR
variable {d y pc pc' : Nat} {L L' : rg_Ls} {S S' : List Value} {M M' : rg_M} {res : Option Value × rg_M}
theorem rg_At.step (h : rg_step d y pc L S M = some (.inl (pc', L', S', M'))) (k : rg_At d y pc' L' S' M' res) : rg_At d y pc L S M res := by
  obtain ⟨f, hf⟩ := k
  exact ⟨f + 1, by rw [rg_exec, h]; exact hf⟩
theorem rg_At.go (n : Nat) : ∀ {pc : Nat} {L : rg_Ls} {S : List Value} {M : rg_M}, rg_go d y n (pc, L, S, M) = some (pc', L', S', M') → rg_At d y pc' L' S' M' res → rg_At d y pc L S M res := by
  induction n with
  | zero => intro pc L S M h k; cases h; exact k
  | succ n ih =>
    intro pc L S M h k
    rw [rg_go] at h
    cases hs : rg_step d y pc L S M with
    | none => simp only [hs] at h; cases h
    | some o =>
      simp only [hs] at h
      match o, hs, h with
      | .inl (p1, L1, S1, M1), hs, h => exact rg_At.step hs (ih h k)
      | .inr _, hs, h => cases h
theorem rg_At.ret {r : Option Value} (h : rg_step d y pc L S M = some (.inr (.inr r))) : rg_At d y pc L S M (r, M) := ⟨1, by rw [rg_exec, h]⟩
theorem rg_At.call {y' : Nat} {as rest : List Value} {r : Option Value} (h : rg_step (d + 1) y pc L S M = some (.inr (.inl (y', as, rest)))) (hr : rg_Rn d y' as M r M') (k : rg_At (d + 1) y (pc + 3) L (r.toList ++ rest) M' res) : rg_At (d + 1) y pc L S M res := by
  obtain ⟨f1, h1⟩ := hr
  obtain ⟨f2, h2⟩ := k
  refine ⟨max f1 f2 + 1, ?_⟩
  rw [rg_exec, h]
  have g1 := rg_exec_le (Nat.le_max_left f1 f2) h1
  simp only [g1]
  exact rg_exec_le (Nat.le_max_right f1 f2) h2
theorem rg_At.ifT {p : Prop} [Decidable p] {a b : Nat} (h : p) (k : rg_At d y a L S M res) : rg_At d y (if decide p = true then a else b) L S M res := by
  rw [if_pos (decide_eq_true h)]
  exact k
theorem rg_At.ifF {p : Prop} [Decidable p] {a b : Nat} (h : ¬ p) (k : rg_At d y b L S M res) : rg_At d y (if decide p = true then a else b) L S M res := by
  rw [if_neg (by simpa using h)]
  exact k
theorem rg_At.iald {i : Int32} {c k x z : Nat} {r : List Value} (hf : rg_fetch y pc = some (.iaload, 1)) (hs : rg_shapes[c]? = some (.inr (0, k, x, z))) (hin : rg_in i k = true) (kk : rg_At d y (pc + 1) L (.int (M.1 c i.toNatClampNeg) :: r) M res) : rg_At d y pc L (.int i :: .ref c :: r) M res := by
  refine rg_At.step ?_ kk
  simp only [rg_step, hf, rg_op, rg_iald, hs, hin, if_true, rg_ln, rg_nx]
theorem rg_At.lald {i : Int32} {c k x z : Nat} {r : List Value} (hf : rg_fetch y pc = some (.laload, 1)) (hs : rg_shapes[c]? = some (.inr (1, k, x, z))) (hin : rg_in i k = true) (kk : rg_At d y (pc + 1) L (.long (M.2 c i.toNatClampNeg) :: r) M res) : rg_At d y pc L (.int i :: .ref c :: r) M res := by
  refine rg_At.step ?_ kk
  simp only [rg_step, hf, rg_op, rg_lald, hs, hin, if_true, rg_ln, rg_nx]
theorem rg_At.iast {i v : Int32} {c k x z : Nat} {r : List Value} (hf : rg_fetch y pc = some (.iastore, 1)) (hs : rg_shapes[c]? = some (.inr (0, k, x, z))) (hin : rg_in i k = true) (kk : rg_At d y (pc + 1) L r (rg_wI M c i.toNatClampNeg v) res) : rg_At d y pc L (.int v :: .int i :: .ref c :: r) M res := by
  refine rg_At.step ?_ kk
  simp only [rg_step, hf, rg_op, rg_iast, hs, hin, if_true, rg_ln, rg_nx]
theorem rg_At.last {i : Int32} {v : Int64} {c k x z : Nat} {r : List Value} (hf : rg_fetch y pc = some (.lastore, 1)) (hs : rg_shapes[c]? = some (.inr (1, k, x, z))) (hin : rg_in i k = true) (kk : rg_At d y (pc + 1) L r (rg_wL M c i.toNatClampNeg v) res) : rg_At d y pc L (.long v :: .int i :: .ref c :: r) M res := by
  refine rg_At.step ?_ kk
  simp only [rg_step, hf, rg_op, rg_last, hs, hin, if_true, rg_ln, rg_nx]
theorem rg_At.aald {t : Nat} {i : Int32} {c k x z : Nat} {r : List Value} (hf : rg_fetch y pc = some (.aaload, 1)) (ht : t = 2 ∨ t = 3) (hs : rg_shapes[c]? = some (.inr (t, k, x, z))) (hin : rg_in i k = true) (kk : rg_At d y (pc + 1) L (.ref (x + z * i.toNatClampNeg) :: r) M res) : rg_At d y pc L (.int i :: .ref c :: r) M res := by
  refine rg_At.step ?_ kk
  rcases ht with rfl | rfl <;> simp only [rg_step, hf, rg_op, rg_aald, hs, hin, if_true, rg_ln, rg_nx]
theorem rg_At.idiv {v w : Int32} {r : List Value} (hf : rg_fetch y pc = some (.idiv, 1)) (hw : ¬ w = 0) (kk : rg_At d y (pc + 1) L (.int (v / w) :: r) M res) : rg_At d y pc L (.int w :: .int v :: r) M res := by
  refine rg_At.step ?_ kk
  simp only [rg_step, hf, rg_op, rg_dv2, hw, if_false, rg_ln, rg_nx, if_true]
theorem rg_At.ldiv {v w : Int64} {r : List Value} (hf : rg_fetch y pc = some (.ldiv, 1)) (hw : ¬ w = 0) (kk : rg_At d y (pc + 1) L (.long (v / w) :: r) M res) : rg_At d y pc L (.long w :: .long v :: r) M res := by
  refine rg_At.step ?_ kk
  simp only [rg_step, hf, rg_op, rg_e2, hw, if_false, rg_ln, rg_nx, if_true]
theorem rg_At.lrem {v w : Int64} {r : List Value} (hf : rg_fetch y pc = some (.lrem, 1)) (hw : ¬ w = 0) (kk : rg_At d y (pc + 1) L (.long (v - v / w * w) :: r) M res) : rg_At d y pc L (.long w :: .long v :: r) M res := by
  refine rg_At.step ?_ kk
  simp only [rg_step, hf, rg_op, rg_e2, hw, if_false, rg_ln, rg_nx, if_true]
theorem rg_At.zret {v : Int32} (hf : rg_fetch y pc = some (.ireturn, 1)) (hr : rg_ret y = some .boolean) (hv : v = 0 ∨ v = 1) : rg_At d y pc L [.int v] M (some (.int v), M) := by
  refine rg_At.ret ?_
  simp only [rg_step, hf, rg_op, rg_iret, hr, hv, if_true, rg_ln]
end ATR
/-! fewer locals suffice -/
def rg_Le (L L' : rg_Ls) : Prop := L.length = L'.length ∧ ∀ (i : Nat) (v : Value), L[i]? = some (some v) → L'[i]? = some (some v)
theorem rg_Le.ld {L L' : rg_Ls} (h : rg_Le L L') {i : Nat} {v : Value} (hv : rg_ld L i = some v) : rg_ld L' i = some v := by
  have h1 := h.2 i v (rg_ld_get hv)
  unfold rg_ld
  rw [h1]
theorem rg_Le.clr {L L' : rg_Ls} (h : rg_Le L L') (i : Nat) : rg_Le (rg_clr L i) (rg_clr L' i) := by
  refine ⟨by rw [rg_clr_len, rg_clr_len]; exact h.1, fun j v hj => ?_⟩
  obtain ⟨h1, h2⟩ := rg_clr_get hj
  have h3 := h.2 j v h1
  match i with
  | 0 => exact h3
  | k + 1 =>
    simp only [rg_clr]
    by_cases e : j = k
    · subst e
      rw [h3]
      simp only
      rw [if_neg (h2 rfl)]
      exact h3
    · split
      · split
        · rw [List.getElem?_set_ne (Ne.symm e)]; exact h3
        · exact h3
      · exact h3
theorem rg_Le.set {L L' : rg_Ls} (h : rg_Le L L') (i : Nat) (o : Option Value) : rg_Le (L.set i o) (L'.set i o) := by
  refine ⟨by rw [List.length_set, List.length_set]; exact h.1, fun j v hj => ?_⟩
  by_cases e : j = i
  · subst e
    rw [List.getElem?_set] at hj ⊢
    simp only [if_true] at hj ⊢
    rw [← h.1]
    exact hj
  · rw [List.getElem?_set_ne (Ne.symm e)] at hj ⊢
    exact h.2 j v hj
theorem rg_Le.st1 {L L' : rg_Ls} (h : rg_Le L L') (i : Nat) (v : Value) : rg_Le (rg_st1 L i v) (rg_st1 L' i v) := (h.clr i).set i (some v)
theorem rg_Le.st2 {L L' : rg_Ls} (h : rg_Le L L') (i : Nat) (v : Value) : rg_Le (rg_st2 L i v) (rg_st2 L' i v) := ((h.clr i).set i (some v)).set (i + 1) none
