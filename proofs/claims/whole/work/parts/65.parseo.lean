set_option maxRecDepth 8000
section PARSEO
variable {t t' F : Nat} {A A0 A' A1 : rz_A} {S S' : St} {p u k a b c v w v1 v2 o e : Int} {q m i j n z i0 d fu : Nat} {L L' M O R B : List Int} {f g : Nat → List Int → Res}
theorem pops_stop (h : MS A S i M O) (hs : ∀ o O', O = o :: O' → ¬ o = -41 ∧ (o = -40 → ¬ v1 = 0)) (hl : O.length ≤ 60) : x176_pops_0 F (n + 1) v1 A = some ((), A) := by
  unfold x176_pops_0
  rw [h.on]
  cases O with
  | nil => rw [if_neg (by decide)]
  | cons o O' =>
    have h1 := hs o O' rfl
    have h2 : O'.length + 1 ≤ 60 := hl
    have h3 : ((o :: O').length : Int) = (O'.length : Int) + 1 := by show ((O'.length + 1 : Nat) : Int) = _; omega
    have h4 : A.1 134 O'.length = o := h.os.1
    rw [h3, if_pos (by omega), g32p (by omega), gxp (by omega) (by omega), show ((O'.length : Int) + 1 - 1).toNat = O'.length by omega, h4, if_neg h1.1]
    by_cases c : o = -40
    · rw [if_pos c, if_neg (h1.2 c)]
    · rw [if_neg c]
theorem pops_one (h : MS A S i M (o :: R)) (ho : (o = -41 ∧ e = -21) ∨ (o = -40 ∧ v1 = 0 ∧ e = -22)) (hl : M.length + R.length < 60) : ∃ A1, x176_pops_0 F (n + 1) v1 A = x176_pops_0 F n v1 A1 ∧ MS A1 S i (e :: M) R := by
  have h3 : ((o :: R).length : Int) = (R.length : Int) + 1 := by show ((R.length + 1 : Nat) : Int) = _; omega
  have h4 : A.1 134 R.length = o := h.os.1
  have e1 : mst e = o := by
    rcases ho with ⟨h1, h2⟩ | ⟨h1, _, h2⟩
    · rw [h1, h2]
      decide
    · rw [h1, h2]
      decide
  have e2 : dp (o :: R) = dp R := by
    show dp R + (if o = -42 ∨ o = -49 then 1 else 0) = dp R
    rw [if_neg (by omega)]
    rfl
  have hA : MS (aI (aI (aI A 91 58 ((M.length : Int) + 1)) 91 59 (((R.length : Int) + 1) - 1)) 135 M.length o) S i (e :: M) R := by
    have hk := Stk.pushm (v := e) h.sk
    rw [e1] at hk
    exact MS.of ⟨h.ps, by show (M.length : Int) + 1 = ((M.length + 1 : Nat) : Int); omega, hk, by show (R.length : Int) + 1 - 1 = (R.length : Int); omega, h.os.2, by rw [← e2]; exact h.dd, h.tb, h.nt⟩
  refine ⟨_, ?_, hA⟩
  rcases ho with ⟨h1, h2⟩ | ⟨h1, h5, h2⟩
  · have h6 : x176_pops_0 F (n + 1) v1 A = (if 0 < (A.1 91 59) then (rz_g32 ((A.1 91 59) - 1) <| rz_gx ((A.1 91 59) - 1) 80 <| if (A.1 134 (((A.1 91 59) - 1)).toNat) = (-41) then (rz_g32 ((A.1 91 58) + 1) <| rz_gx (A.1 91 58) 140 <| x176_pops_0 F n v1 (aI (aI (aI A 91 58 ((A.1 91 58) + 1)) 91 59 ((A.1 91 59) - 1)) 135 ((A.1 91 58)).toNat (A.1 134 (((A.1 91 59) - 1)).toNat))) else (if (A.1 134 (((A.1 91 59) - 1)).toNat) = (-40) then (if v1 = 0 then (rz_g32 ((A.1 91 58) + 1) <| rz_gx (A.1 91 58) 140 <| x176_pops_0 F n v1 (aI (aI (aI A 91 58 ((A.1 91 58) + 1)) 91 59 ((A.1 91 59) - 1)) 135 ((A.1 91 58)).toNat (A.1 134 (((A.1 91 59) - 1)).toNat))) else some ((), A)) else some ((), A))) else some ((), A)) := rfl
    rw [h6, h.on, h.sn, h3, if_pos (by omega), g32p (by omega), gxp (by omega) (by omega), show ((R.length : Int) + 1 - 1).toNat = R.length by omega, h4, if_pos h1, g32p (by omega), gxp (by omega) (by omega), Int.toNat_natCast]
  · have h6 : x176_pops_0 F (n + 1) v1 A = (if 0 < (A.1 91 59) then (rz_g32 ((A.1 91 59) - 1) <| rz_gx ((A.1 91 59) - 1) 80 <| if (A.1 134 (((A.1 91 59) - 1)).toNat) = (-41) then (rz_g32 ((A.1 91 58) + 1) <| rz_gx (A.1 91 58) 140 <| x176_pops_0 F n v1 (aI (aI (aI A 91 58 ((A.1 91 58) + 1)) 91 59 ((A.1 91 59) - 1)) 135 ((A.1 91 58)).toNat (A.1 134 (((A.1 91 59) - 1)).toNat))) else (if (A.1 134 (((A.1 91 59) - 1)).toNat) = (-40) then (if v1 = 0 then (rz_g32 ((A.1 91 58) + 1) <| rz_gx (A.1 91 58) 140 <| x176_pops_0 F n v1 (aI (aI (aI A 91 58 ((A.1 91 58) + 1)) 91 59 ((A.1 91 59) - 1)) 135 ((A.1 91 58)).toNat (A.1 134 (((A.1 91 59) - 1)).toNat))) else some ((), A)) else some ((), A))) else some ((), A)) := rfl
    rw [h6, h.on, h.sn, h3, if_pos (by omega), g32p (by omega), gxp (by omega) (by omega), show ((R.length : Int) + 1 - 1).toNat = R.length by omega, h4, if_neg (by omega), if_pos h1, if_pos h5, g32p (by omega), gxp (by omega) (by omega), Int.toNat_natCast]
theorem denM : ∀ (O M : List Int) (A : rz_A) (n : Nat), MS A S i M O → O.length < n → M.length + O.length ≤ 60 → Ret (x175_denies_0 F n A) () (fun A1 => MS A1 S i (dn M O).1 (dn M O).2)
  | [], M, A, 0, h, h1, h2 => absurd h1 (Nat.not_lt_zero _)
  | [], M, A, n + 1, h, h1, h2 => by
    unfold x175_denies_0
    rw [h.on, if_neg (by decide)]
    exact Ret.mk h
  | o :: O, M, A, 0, h, h1, h2 => absurd h1 (Nat.not_lt_zero _)
  | o :: O, M, A, n + 1, h, h1, h2 => by
    have h3 : ((o :: O).length : Int) = (O.length : Int) + 1 := by show ((O.length + 1 : Nat) : Int) = _; omega
    have h4 : A.1 134 O.length = o := h.os.1
    have h5 : O.length + 1 < n + 1 := h1
    have h6 : M.length + (O.length + 1) ≤ 60 := h2
    have e0 : dn M (o :: O) = if o = -42 then dn (-20 :: M) O else (M, o :: O) := rfl
    unfold x175_denies_0
    rw [h.on, h3, if_pos (by omega), g32p (by omega), gxp (by omega) (by omega), show ((O.length : Int) + 1 - 1).toNat = O.length by omega, h4, e0]
    by_cases c : o = -42
    · have e2 : dp (o :: O) = dp O + 1 := by
        show dp O + (if o = -42 ∨ o = -49 then 1 else 0) = dp O + 1
        rw [if_pos (Or.inl c)]
      have hd := h.dd
      rw [e2] at hd
      have hdb : dp O ≤ O.length := by
        clear h h1 h2 h3 h4 h5 h6 e0 e2 hd
        induction O with
        | nil => exact Nat.le_refl _
        | cons x O ih =>
          show dp O + (if x = -42 ∨ x = -49 then 1 else 0) ≤ O.length + 1
          split <;> omega
      have hA : MS (aI (aI (aI (aI A 91 58 ((M.length : Int) + 1)) 91 59 (((O.length : Int) + 1) - 1)) 135 M.length o) 91 60 (((dp O + 1 : Nat) : Int) - 1)) S i (-20 :: M) O := by
        have hk := Stk.pushm (v := -20) h.sk
        rw [show mst (-20) = o by rw [c]; decide] at hk
        exact MS.of ⟨h.ps, by show (M.length : Int) + 1 = ((M.length + 1 : Nat) : Int); omega, hk, by show (O.length : Int) + 1 - 1 = (O.length : Int); omega, h.os.2, by show ((dp O + 1 : Nat) : Int) - 1 = (dp O : Int); omega, h.tb, h.nt⟩
      rw [if_pos c, if_pos c, h.sn, hd, g32p (by omega), gxp (by omega) (by omega), g32p (by omega), Int.toNat_natCast]
      exact denM O (-20 :: M) _ n hA (by omega) (by show M.length + 1 + O.length ≤ 60; omega)
    · rw [if_neg c, if_neg c]
      exact Ret.mk h
theorem dn_len : ∀ (O M : List Int), (dn M O).1.length + (dn M O).2.length = M.length + O.length
  | [], M => rfl
  | o :: O, M => by
    have e0 : dn M (o :: O) = if o = -42 then dn (-20 :: M) O else (M, o :: O) := rfl
    rw [e0]
    by_cases c : o = -42
    · have h1 := dn_len O (-20 :: M)
      rw [if_pos c, h1]
      show M.length + 1 + O.length = M.length + (O.length + 1)
      omega
    · rw [if_neg c]
def NA (R : List Int) : Prop := ∀ o R', R = o :: R' → o = -40 ∨ o = -49
def NB (R : List Int) : Prop := ∀ o R', R = o :: R' → o = -49
theorem NB.na (h : NB B) : NA B := fun o R' e => Or.inr (h o R' e)
theorem dn_na (h : NA R) : dn M R = (M, R) := by
  cases R with
  | nil => rfl
  | cons o R' =>
    have := h o R' rfl
    show (if o = -42 then dn (-20 :: M) R' else (M, o :: R')) = _
    rw [if_neg (by omega)]
def AS (A : rz_A) (S : St) (i : Nat) (L R : List Int) : Prop := MS A S i L R ∨ ∃ M, L = -21 :: M ∧ MS A S i M (-41 :: R)
def OS (A : rz_A) (S : St) (i : Nat) (L B : List Int) : Prop := AS A S i L B ∨ ∃ M, L = -22 :: M ∧ AS A S i M (-40 :: B)
theorem AS.sign (h : AS A S i L R) (hO : OK t S) : x170_sign F A = some (S.chr i, A) := by
  rcases h with h | ⟨M, _, h⟩
  · exact signM h hO
  · exact signM h hO
theorem OS.sign (h : OS A S i L R) (hO : OK t S) : x170_sign F A = some (S.chr i, A) := by
  rcases h with h | ⟨M, _, h⟩
  · exact h.sign hO
  · exact h.sign hO
theorem AS.pos (h : AS A S i L R) : A.1 91 57 = (i : Int) := by
  rcases h with h | ⟨M, _, h⟩
  · exact h.ps
  · exact h.ps
theorem OS.pos (h : OS A S i L R) : A.1 91 57 = (i : Int) := by
  rcases h with h | ⟨M, _, h⟩
  · exact h.pos
  · exact h.pos
theorem AS.cl (h : AS A S i L R) (hl : L.length + R.length ≤ 60) : ∃ m A1, x176_pops_0 F (n + 1) v1 A = x176_pops_0 F m v1 A1 ∧ MS A1 S i L R ∧ n ≤ m := by
  rcases h with h | ⟨M, e, h⟩
  · exact ⟨n + 1, A, rfl, h, by omega⟩
  · subst e
    obtain ⟨A1, e1, hA⟩ := pops_one (F := F) (n := n) (v1 := v1) (e := -21) h (Or.inl ⟨rfl, rfl⟩) (by have : M.length + 1 + R.length ≤ 60 := hl; omega)
    exact ⟨n, A1, e1, hA, Nat.le_refl _⟩
theorem AS.cl1 (h : AS A S i L R) (hR : NA R) (hl : L.length + R.length ≤ 60) (hF : 1000 ≤ F) : Ret (x176_pops F 1 A) () (fun A1 => MS A1 S i L R) := by
  obtain ⟨F', rfl⟩ : ∃ F', F = F' + 1 := ⟨F - 1, by omega⟩
  unfold x176_pops
  obtain ⟨m, A1, e1, hA, hm⟩ := h.cl (F := F' + 1) (n := F') (v1 := 1) hl
  obtain ⟨m', rfl⟩ : ∃ m', m = m' + 1 := ⟨m - 1, by omega⟩
  rw [e1, pops_stop hA (fun o O' e => ⟨by have := hR o O' e; omega, fun _ => by decide⟩) (by omega)]
  exact Ret.mk hA
theorem OS.cl0 (h : OS A S i L B) (hB : NB B) (hl : L.length + B.length ≤ 60) (hF : 1000 ≤ F) : Ret (x176_pops F 0 A) () (fun A1 => MS A1 S i L B) := by
  obtain ⟨F', rfl⟩ : ∃ F', F = F' + 1 := ⟨F - 1, by omega⟩
  unfold x176_pops
  have last : ∀ m A1, MS A1 S i L B → 1 ≤ m → Ret (x176_pops_0 (F' + 1) m 0 A1) () (fun A1 => MS A1 S i L B) := fun m A1 hA hm => by
    obtain ⟨m', rfl⟩ : ∃ m', m = m' + 1 := ⟨m - 1, by omega⟩
    rw [pops_stop hA (fun o O' e => ⟨by have := hB o O' e; omega, fun hh => by have := hB o O' e; omega⟩) (by omega)]
    exact Ret.mk hA
  rcases h with h | ⟨M, e, h⟩
  · obtain ⟨m, A1, e1, hA, hm⟩ := h.cl (F := F' + 1) (n := F') (v1 := 0) hl
    rw [e1]
    exact last m A1 hA (by omega)
  · subst e
    have hl' : M.length + 1 + B.length ≤ 60 := hl
    obtain ⟨m, A1, e1, hA, hm⟩ := h.cl (F := F' + 1) (n := F') (v1 := 0) (by show M.length + (B.length + 1) ≤ 60; omega)
    obtain ⟨m', rfl⟩ : ∃ m', m = m' + 1 := ⟨m - 1, by omega⟩
    obtain ⟨A2, e2, hA2⟩ := pops_one (F := F' + 1) (n := m') (v1 := 0) (e := -22) hA (Or.inr ⟨rfl, rfl, rfl⟩) (by omega)
    rw [e1, e2]
    exact last m' A2 hA2 (by omega)
theorem MS.op (h : MS A S i M O) (ho : ¬ (o = -42 ∨ o = -49)) : MS (aI (aI (aI A 91 59 ((O.length : Int) + 1)) 134 O.length o) 91 57 ((i : Int) + 1)) S (i + 1) M (o :: O) := MS.of ⟨by show (i : Int) + 1 = ((i + 1 : Nat) : Int); omega, h.sn, h.sk, by show (O.length : Int) + 1 = ((O.length + 1 : Nat) : Int); omega, Stk.push h.os, by
  show A.1 91 60 = ((dp O + (if o = -42 ∨ o = -49 then 1 else 0) : Nat) : Int)
  rw [if_neg ho]
  exact h.dd, h.tb, h.nt⟩
theorem MS.op2 (h : MS A S i M O) (ho : o = -42 ∨ o = -49) : MS (aI (aI (aI (aI A 91 60 ((dp O : Int) + 1)) 91 59 ((O.length : Int) + 1)) 134 O.length o) 91 57 ((i : Int) + 1)) S (i + 1) M (o :: O) := MS.of ⟨by show (i : Int) + 1 = ((i + 1 : Nat) : Int); omega, h.sn, h.sk, by show (O.length : Int) + 1 = ((O.length + 1 : Nat) : Int); omega, Stk.push h.os, by
  show (dp O : Int) + 1 = ((dp O + (if o = -42 ∨ o = -49 then 1 else 0) : Nat) : Int)
  rw [if_pos ho]
  omega, h.tb, h.nt⟩
theorem text24 : x169_isText_24 F (n + 1) v1 v2 A = (rz_b (x170_sign F A) fun r1 A1 => if v2 = 0 then x169_isText_116 F (x169_isText_24 F n) v1 v2 r1 A1 else (if r1 = 33 then x169_isText_45 F (x169_isText_24 F n) v1 v2 r1 A1 else (if r1 = 40 then x169_isText_45 F (x169_isText_24 F n) v1 v2 r1 A1 else x169_isText_116 F (x169_isText_24 F n) v1 v2 r1 A1))) := rfl
theorem and_step (h : AS A S i L R) (hO : OK t S) (hR : NA R) (hl : L.length + R.length ≤ i) (hc : S.chr i = 38) (hF : 1000 ≤ F) : ∃ A2, x169_isText_24 F (n + 1) v1 0 A = x169_isText_24 F n v1 1 A2 ∧ MS A2 S (i + 1) L (-41 :: R) := by
  have hn := hO.nT
  have hin := chr_in (S := S) (i := i) (by omega)
  obtain ⟨A1, e1, hA⟩ := h.cl1 (F := F) hR (by omega) hF
  rw [text24, h.sign hO]
  simp only [rz_b_some]
  rw [if_pos (by decide)]
  unfold x169_isText_116 x169_isText_153 x169_isText_165
  rw [if_pos (by decide), if_neg (by omega), if_pos hc, if_pos hc, e1]
  simp only [rz_b_some]
  rw [hA.on, hA.ps, g32p (by omega), gxp (by omega) (by omega), g32p (by omega), Int.toNat_natCast]
  exact ⟨_, rfl, hA.op (by decide)⟩
theorem or_step (h : OS A S i L B) (hO : OK t S) (hB : NB B) (hl : L.length + B.length ≤ i) (hc : S.chr i = 124) (hF : 1000 ≤ F) : ∃ A2, x169_isText_24 F (n + 1) v1 0 A = x169_isText_24 F n v1 1 A2 ∧ MS A2 S (i + 1) L (-40 :: B) := by
  have hn := hO.nT
  have hin := chr_in (S := S) (i := i) (by omega)
  obtain ⟨A1, e1, hA⟩ := h.cl0 (F := F) hB (by omega) hF
  rw [text24, h.sign hO]
  simp only [rz_b_some]
  rw [if_pos (by decide)]
  unfold x169_isText_116 x169_isText_153 x169_isText_165
  rw [if_pos (by decide), if_neg (by omega), if_neg (by omega), if_pos hc, if_neg (by omega), e1]
  simp only [rz_b_some]
  rw [hA.on, hA.ps, g32p (by omega), gxp (by omega) (by omega), g32p (by omega), Int.toNat_natCast]
  exact ⟨_, rfl, hA.op (by decide)⟩
end PARSEO
