set_option maxRecDepth 8000
/-! what is published -/
def St.isOnV (S : St) (p u k : Int) : Int := if 0 ≤ S.gAcc 0 p u k S.nU ∨ 0 ≤ S.gAcc 1 p u k S.nU then 1 else 0
def St.pubL (S : St) (p u : Int) (j : Nat) : Int := if j = 0 then u.tdiv 96 else if j = 1 then u.tmod 96 else if j = 9 then S.flOf p u S.now else if j = 10 then S.wrg p u S.now else if j = 11 then S.bey p u S.now else if j = 12 then S.isOnV p u S.now else 0
def St.pubOK (S : St) (p u : Int) : Int := if S.vw.inForce 2 (u.tdiv 96) S.now < 0 then 1 else S.vw.says (S.vw.inForce 2 (u.tdiv 96) S.now).toNat (S.pubL p u)
def St.publish1 (S : St) (p u f : Int) : St := ((fun c => if c = 8 then S.nB + 1 else S.1 c), (fun c => if c = 46 then (fun _ => (up S.pP S.nB p)) else if c = 47 then (fun _ => (up S.pT S.nB u)) else if c = 48 then (fun _ => (up S.pF S.nB f)) else S.2 c))
def St.publish (S : St) (p u : Int) : Int × St := if S.isP p then (if u < 0 then S.no 3 else if 9999 < u then S.no 5 else if 40 ≤ S.nB then S.no 5 else if S.flOf p u S.now < 0 then S.no 4 else if S.pubOK p u = 0 then S.no 2 else (S.nB, S.publish1 p u (S.flOf p u S.now))) else S.no 0
def St.published (S : St) (i w : Int) : Int × St := if 0 ≤ i ∧ i < (S.nB : Int) then (if w < 0 then S.no 1 else if 3 < w then S.no 1 else if w = 0 then (S.pP i.toNat, S) else if w = 1 then (S.pT i.toNat, S) else if w = 2 then (S.pF i.toNat, S) else (if S.flOf (S.pP i.toNat) (S.pT i.toNat) S.now < 0 then -9 else S.flOf (S.pP i.toNat) (S.pT i.toNat) S.now, S)) else S.no 0
section PUBL
variable {t t' F : Nat} {A A0 A' : rz_A} {S : St} {V : Vw} {p u k a b l v w : Int} {cs : List Nat} {fs : List (Nat × Nat)} {i : Nat}
theorem CvC.fr {P : Pt} (h : CvC A P) (fr : Fr cs fs A A') (hc : fr_okf [58, 59] [(57, 0)] cs fs = true) : CvC A' P := by
  have e4 := (fr_rows fr hc (c := 58) (by decide)).1
  have e5 := (fr_rows fr hc (c := 59) (by decide)).1
  have s1 := fr_slots fr hc (c := 57) (j := 0) (by decide)
  unfold CvC at h ⊢
  rw [e4, e5, s1]
  exact h
theorem SN.fr (h : SN A S k t) (fr : Fr cs fs A A') (h1 : rc_okf cs fs = true) (h2 : fr_okf ciRows ciSlots cs fs = true) : SN A' S k t := by
  have s1 := fr_slots fr h2 (c := 51) (j := 3) (by decide)
  have s3 := fr_slots fr h2 (c := 51) (j := 5) (by decide)
  exact SN.of ⟨rc_fr h.rc fr h1, h.ci.fr fr h2, s3.trans h.st, s1.trans h.k3⟩
theorem bey01 : S.bey p u k = 0 ∨ S.bey p u k = 1 := by unfold St.bey; split <;> simp
theorem isOnV01 : S.isOnV p u k = 0 ∨ S.isOnV p u k = 1 := by unfold St.isOnV; split <;> simp
theorem wrg_b (hO : OK t S) : 0 ≤ S.wrg p u k ∧ S.wrg p u k ≤ 100 := by
  obtain ⟨c, hc1, hc2, hc3⟩ := curve_ok hO p (S.sA p u) (S.sB p u) k
  have hc3' : 0 ≤ (S.crv p u k).2 ∧ (S.crv p u k).2 ≤ 99 := hc3
  unfold St.wrg cap100
  repeat' split
  all_goals omega
theorem pubL_b (hO : OK t S) (hu : 0 ≤ u ∧ u ≤ 9999) : ∀ j, j < 13 → -1000000000 ≤ S.pubL p u j ∧ S.pubL p u j ≤ 1000000000 := by
  intro j hj
  have e1 := tdiv96 hu.1
  have e2 := tmod96 hu.1
  have b1 := flOf_b (p := p) (u := u) (k := S.now) hO
  have b2 := wrg_b (p := p) (u := u) (k := S.now) hO
  have b3 := bey01 (S := S) (p := p) (u := u) (k := S.now)
  have b4 := isOnV01 (S := S) (p := p) (u := u) (k := S.now)
  unfold St.pubL
  repeat' split
  all_goals omega
theorem isOnC (h : RC A S) (hO : OK t S) (hF : 1000 ≤ F) : x134_isOn F p u k A = some (S.isOnV p u k, A) := by
  unfold x134_isOn St.isOnV
  rw [greatC h hO hF]
  simp only [rz_b_some]
  rw [greatC h hO hF]
  simp only [rz_b_some]
  repeat' split
  all_goals first | rfl | (exfalso; omega)
theorem pubLetC (hk : S.now = k) (h8 : ∀ j, j < 13 → A.1 49 j = if j = 0 then u.tdiv 96 else if j = 1 then u.tmod 96 else 0) : ∀ j, j < 13 → (aI (aI (aI (aI A 49 9 (S.flOf p u k)) 49 10 (S.wrg p u k)) 49 11 (S.bey p u k)) 49 12 (S.isOnV p u k)).1 49 j = S.pubL p u j := by
  subst hk
  intro j hj
  match j, hj with
  | 0, _ => exact h8 0 (by decide)
  | 1, _ => exact h8 1 (by decide)
  | 2, _ => exact h8 2 (by decide)
  | 3, _ => exact h8 3 (by decide)
  | 4, _ => exact h8 4 (by decide)
  | 5, _ => exact h8 5 (by decide)
  | 6, _ => exact h8 6 (by decide)
  | 7, _ => exact h8 7 (by decide)
  | 8, _ => exact h8 8 (by decide)
  | 9, _ => rfl
  | 10, _ => rfl
  | 11, _ => rfl
  | 12, _ => rfl
  | j + 13, h => exact absurd h (by omega)
theorem pubLetM (h8 : ∀ j, j < 26 → A.2 133 j = if j = 3 then u.tdiv 96 else if j = 12 then u.tmod 96 else 0) : ∀ j, j < 13 → (aL (aL (aL (aL A 133 5 (S.flOf p u S.now)) 133 22 (S.wrg p u S.now)) 133 23 (S.bey p u S.now)) 133 8 (S.isOnV p u S.now)).2 133 (lpos j) = S.pubL p u j := by
  intro j hj
  match j, hj with
  | 0, _ => exact h8 3 (by decide)
  | 1, _ => exact h8 12 (by decide)
  | 2, _ => exact h8 17 (by decide)
  | 3, _ => exact h8 10 (by decide)
  | 4, _ => exact h8 0 (by decide)
  | 5, _ => exact h8 1 (by decide)
  | 6, _ => exact h8 6 (by decide)
  | 7, _ => exact h8 7 (by decide)
  | 8, _ => exact h8 13 (by decide)
  | 9, _ => rfl
  | 10, _ => rfl
  | 11, _ => rfl
  | 12, _ => rfl
  | j + 13, h => exact absurd h (by omega)
theorem pubLetsC (h : SN A S S.now t) (hO : OK t S) (hF : 1000 ≤ F) {r : Int} (hr : 0 ≤ r ∧ r < 300) (hp : 0 ≤ p ∧ p < 6) (hu : 0 ≤ u ∧ u ≤ 9999) (h53 : A.1 53 r.toNat = p * 16384 + u) (h54 : A.1 54 r.toNat = S.vw.lvl p u S.now) (hC : CvC A (S.crv p u S.now).1) (hW : A.1 56 8 = (S.crv p u S.now).2) (h0 : (S.crv p u S.now).1.n ≠ 0) : Ret (x133_publishLets F r (S.flOf p u S.now) A) (S.pubOK p u) (fun A1 => SN A1 S S.now t) := by
  have ek := tdiv_key hp hu
  have e96 := tdiv96 hu.1
  have hnow := hO.now
  unfold x133_publishLets x87_timeOf
  rw [gxp (by omega) (by omega), h53, ek.2, g32p (by omega)]
  simp only [rz_b_some]
  rw [g32p (by omega), h.rc.now, forceC h.rc hO hF]
  simp only [rz_b_some]
  have hfb := S.vw.fAcc_lt (q := 2) (dy := u.tdiv 96) (k := S.now) S.nS
  have hfb2 : S.vw.inForce 2 (u.tdiv 96) S.now < S.nS := hfb.1
  unfold St.pubOK
  by_cases hs : S.vw.inForce 2 (u.tdiv 96) S.now < 0
  · rw [if_pos hs, if_pos hs]
    exact Ret.mk h
  · rw [if_neg hs, if_neg hs]
    generalize hsg : S.vw.inForce 2 (u.tdiv 96) S.now = si at *
    refine Ret.bind (lettersC (A := A) hF hu) (fun B eB hB => ?_)
    have frB := wx23_lettersOf F eB
    have frx : ∀ (j : Nat) (v : Int) (C : rz_A), Fr [49] [] C (aI C 49 j v) := fun j v C => Fr.aI Fr.rfl (Or.inl (by decide))
    have fr1 : Fr [49] [] A (aI B 49 9 (S.flOf p u S.now)) := (frB.mono (by decide) (by decide)).trans (frx _ _ _)
    rw [wrgC (hC.fr fr1 (by decide)) (((fr1.slot (c := 56) (k := 8) (by decide) (by decide)).1).trans hW) hO h0 hr (by rw [(fr1.row (c := 54) (by decide) (by decide)).1]; exact h54)]
    simp only [rz_b_some]
    have fr2 : Fr [49] [] A (aI (aI B 49 9 (S.flOf p u S.now)) 49 10 (S.wrg p u S.now)) := fr1.trans (frx _ _ _)
    rw [beyC (hC.fr fr2 (by decide)) hO h0 hr (by rw [(fr2.row (c := 54) (by decide) (by decide)).1]; exact h54)]
    simp only [rz_b_some]
    have fr3 : Fr [49] [] A (aI (aI (aI B 49 9 (S.flOf p u S.now)) 49 10 (S.wrg p u S.now)) 49 11 (S.bey p u S.now)) := fr2.trans (frx _ _ _)
    have hR3 := rc_fr h.rc fr3 (by decide)
    unfold x86_postOf
    have q53 : (aI (aI (aI B 49 9 (S.flOf p u S.now)) 49 10 (S.wrg p u S.now)) 49 11 (S.bey p u S.now)).1 53 = A.1 53 := (fr3.row (c := 53) (by decide) (by decide)).1
    rw [gxp (by omega) (by omega), q53, h53, ek.1, g32p (by omega)]
    simp only [rz_b_some]
    rw [hR3.now, isOnC hR3 hO hF]
    simp only [rz_b_some]
    have fr4 : Fr [49] [] A (aI (aI (aI (aI B 49 9 (S.flOf p u S.now)) 49 10 (S.wrg p u S.now)) 49 11 (S.bey p u S.now)) 49 12 (S.isOnV p u S.now)) := fr3.trans (frx _ _ _)
    have hS4 := h.fr fr4 (by decide) (by decide)
    have hsy := holdsC (F := F) hS4.rc hO hF (s := si.toNat) (by omega) (pubL_b (p := p) (u := u) hO hu) (pubLetC rfl hB)
    rw [show ((si.toNat : Nat) : Int) = si by omega] at hsy
    have fin : Ret (rz_b (x25_holds F si (aI (aI (aI (aI B 49 9 (S.flOf p u S.now)) 49 10 (S.wrg p u S.now)) 49 11 (S.bey p u S.now)) 49 12 (S.isOnV p u S.now))) fun r A => rz_gz r (some (r, A))) (S.vw.says si.toNat (S.pubL p u)) (fun A1 => SN A1 S S.now t) := by
      refine Ret.bind hsy (fun A9 e9 _ => ?_)
      exact Ret.gz (S.vw.says01 _ _) (Ret.mk (hS4.fr (wx25_holds F e9) (by decide) (by decide)))
    rcases isOnV01 (S := S) (p := p) (u := u) (k := S.now) with h9 | h9
    · rw [h9] at fin ⊢
      rw [if_pos rfl]
      exact fin
    · rw [h9] at fin ⊢
      rw [if_neg (by decide)]
      exact fin
theorem publishC (h : DC A S t) (hO : OK t S) (ht : t < 512) (hF : 1000 ≤ F) : Ret (x132_publish F p u A) (S.publish p u).1 (fun A1 => DC A1 (S.publish p u).2 (t + 1)) := by
  have h2 := hO.nP
  have h3 := hO.now
  have h4 := hO.nB
  unfold x132_publish St.publish
  by_cases hp : S.isP p
  · rw [hasC1 h.1 hp, if_pos hp]
    simp only [rz_b_some]
    rw [if_neg (by decide), h.1.nB, h.1.now]
    by_cases c1 : u < 0
    · rw [if_pos c1, if_pos c1]
      exact lk1 h.up hO ht (by decide) (by decide)
    · rw [if_neg c1, if_neg c1]
      by_cases c2 : 9999 < u
      · rw [if_neg (by omega), if_pos c2]
        exact lk1 h.up hO ht (by decide) (by decide)
      · rw [if_pos (by omega), if_neg c2]
        by_cases c3 : 40 ≤ S.nB
        · rw [if_pos (by omega), if_pos c3]
          exact lk1 h.up hO ht (by decide) (by decide)
        · rw [if_neg (by omega), if_neg c3]
          refine Ret.bind (seeSN h hO ht hF h3) (fun A1 e1 hS => ?_)
          obtain ⟨r, e2, e3⟩ := rateAtC (F := F) (p := p) (u := u) hS hO.mono hF h3 (by omega) (by omega)
          rw [e2]
          simp only [rz_b_some]
          refine Ret.bind e3 (fun A2 e4 hA => ?_)
          by_cases c4 : S.flOf p u S.now < 0
          · rw [if_pos c4, if_pos c4]
            exact lk1 hA.1.dc hO ht (by decide) (by decide)
          · rw [if_neg c4, if_neg c4]
            obtain ⟨g1, g2, g5, g3, g4⟩ := hA.2 (by omega)
            have hn := flOf_n (by omega : 0 ≤ S.flOf p u S.now)
            refine Ret.bind (pubLetsC hA.1 hO.mono hF g1 (by omega) (by omega) g5 g2 g3 g4 hn.2) (fun A3 e5 hS3 => ?_)
            by_cases c5 : S.pubOK p u = 0
            · rw [if_pos c5, if_pos c5]
              exact lk1 hS3.dc hO ht (by decide) (by decide)
            · rw [if_neg c5, if_neg c5, hS3.rc.nB, gxp (by omega) (by omega), g32p (by omega), g32p (by omega), Int.toNat_natCast, show (S.nB : Int) + 1 - 1 = S.nB by omega]
              have hC9 := hS3.rc
              refine Ret.mk ⟨(RC.of ⟨(RC.now hC9 :), (RC.limit hC9 :), (RC.nP hC9 :), (RC.nZ hC9 :), (RC.nH hC9 :), (RC.nF hC9 :), (RC.nU hC9 :), (RC.nS hC9 :), (rfl), (RC.nT hC9 :), (RC.nR hC9 :), (RC.zero hC9 :), (RC.low hC9 :), (RC.beside hC9 :), (RC.stN hC9 :), (RC.stF0 hC9 :), (RC.stF1 hC9 :), (RC.stF2 hC9 :), (RC.stF3 hC9 :), (RC.stF4 hC9 :), (RC.stF5 hC9 :), (RC.bN0 hC9 :), (RC.bN1 hC9 :), (RC.bN2 hC9 :), (RC.bN3 hC9 :), (RC.bN4 hC9 :), (RC.bN5 hC9 :), (RC.bH0 hC9 :), (RC.bH1 hC9 :), (RC.bH2 hC9 :), (RC.bH3 hC9 :), (RC.bH4 hC9 :), (RC.bH5 hC9 :), (RC.bF0 hC9 :), (RC.bF1 hC9 :), (RC.bF2 hC9 :), (RC.bF3 hC9 :), (RC.bF4 hC9 :), (RC.bF5 hC9 :), (RC.zP hC9 :), (RC.zZ hC9 :), (RC.zF hC9 :), (RC.zK hC9 :), (RC.hP hC9 :), (RC.hT hC9 :), (RC.hK hC9 :), (RC.hR hC9 :), (RC.hKn hC9 :), (RC.hS hC9 :), (RC.hSm hC9 :), (RC.fP hC9 :), (RC.fT hC9 :), (RC.fN hC9 :), (RC.fW hC9 :), (RC.fKn hC9 :), (RC.fS hC9 :), (RC.uP hC9 :), (RC.uK hC9 :), (RC.uF hC9 :), (RC.uT hC9 :), (RC.uM hC9 :), (RC.uKn hC9 :), (RC.sP hC9 :), (RC.sD hC9 :), (RC.sT hC9 :), (RC.sN hC9 :), (RC.st hC9 :), ((congrArg (fun f => up f _ _) hC9.pP)), ((congrArg (fun f => up f _ _) hC9.pT)), ((congrArg (fun f => up f _ _) hC9.pF)), (RC.tB hC9 :), (RC.rB hC9 :), (RC.ref hC9 :), (RC.ordR hC9 :), (RC.ordS hC9 :), (RC.ordA hC9 :)⟩), ?_⟩
              have fr : Fr [88, 89, 90] [(0, 14)] A3 (aI (aI (aI (aI A3 88 S.nB p) 89 S.nB u) 90 S.nB (S.flOf p u S.now)) 0 14 ((S.nB : Int) + 1)) := Fr.aI (Fr.aI (Fr.aI (Fr.aI Fr.rfl (Or.inl (by decide))) (Or.inl (by decide))) (Or.inl (by decide))) (Or.inr (by decide))
              have := hS3.ci.fr fr (by decide)
              exact this
  · rw [hasC0 h.1 hp, if_neg hp]
    simp only [rz_b_some]
    rw [if_pos (by decide)]
    exact lk1 h.up hO ht (by decide) (by decide)
theorem publish168M (h : DM A S t') (hO : OK t S) (hn : S.nB < 40) (hf : A.1 91 78 = S.flOf p u S.now) : Ret (x209_publish_168 F p u A) (S.nB : Int) (fun A1 => DM A1 (S.publish1 p u (S.flOf p u S.now)) t') := by
  unfold x209_publish_168
  rw [h.1.nB, gxp (by omega) (by omega), g32p (by omega), Int.toNat_natCast, hf]
  have hM9 := h.1
  refine Ret.mk ⟨(RM.of ⟨(RM.now hM9 :), (RM.nP hM9 :), (RM.nZ hM9 :), (RM.nH hM9 :), (RM.nF hM9 :), (RM.nS hM9 :), (RM.nU hM9 :), (rfl), (RM.nT hM9 :), (RM.nR hM9 :), (RM.limit hM9 :), (RM.zero hM9 :), (RM.low hM9 :), (RM.beside hM9 :), (RM.stN hM9 :), (RM.bN hM9 :), (RM.stF hM9 :), (RM.bH hM9 :), (RM.bF hM9 :), (RM.zP hM9 :), (RM.zZ hM9 :), (RM.zF hM9 :), (RM.zK hM9 :), (RM.hP hM9 :), (RM.hT hM9 :), (RM.hK hM9 :), (RM.hR hM9 :), (RM.hKn hM9 :), (RM.hS hM9 :), (RM.fP hM9 :), (RM.fT hM9 :), (RM.fN hM9 :), (RM.fW hM9 :), (RM.fKn hM9 :), (RM.fS hM9 :), (RM.uP hM9 :), (RM.uK hM9 :), (RM.uF hM9 :), (RM.uT hM9 :), (RM.uM hM9 :), (RM.uKn hM9 :), (RM.sP hM9 :), (RM.sD hM9 :), (RM.sT hM9 :), (RM.sN hM9 :), (RM.st hM9 :), ((congrArg (fun f => up f _ _) hM9.pP)), ((congrArg (fun f => up f _ _) hM9.pT)), ((congrArg (fun f => up f _ _) hM9.pF)), (RM.tB hM9 :), (RM.rB hM9 :), (RM.ref hM9 :)⟩), ?_⟩
  have fr : Fr [127, 128, 129] [(91, 7)] A (aI (aI (aI (aI A 127 S.nB p) 128 S.nB u) 129 S.nB (S.flOf p u S.now)) 91 7 ((S.nB : Int) + 1)) := Fr.aI (Fr.aI (Fr.aI (Fr.aI Fr.rfl (Or.inl (by decide))) (Or.inl (by decide))) (Or.inl (by decide))) (Or.inr (by decide))
  have := h.2.fr fr (by decide)
  exact this
theorem publishM (h : DM A S t) (hO : OK t S) (ht : t < 512) (hF : 1000 ≤ F) : Ret (x209_publish F p u A) (S.publish p u).1 (fun A1 => DM A1 (S.publish p u).2 (t + 1)) := by
  have h2 := hO.nP
  have h3 := hO.now
  have h4 := hO.nB
  unfold x209_publish St.publish
  by_cases hp : S.isP p
  · rw [hasM1 h.1 hp, if_pos hp]
    simp only [rz_b_some]
    rw [if_neg (by decide), timM]
    simp only [rz_b_some]
    by_cases c1 : u < 0
    · have e5 : timV u u = -4 := by unfold timV; rw [if_pos (Or.inl c1)]
      rw [e5, if_neg (by decide), if_pos c1]
      exact lm1 h.up hO ht (by decide) (by decide)
    · rw [if_neg c1]
      by_cases c2 : 9999 < u
      · have e5 : timV u u = -6 := by unfold timV; rw [if_neg (by omega), if_pos (Or.inl c2)]
        rw [e5, if_neg (by decide), if_pos c2]
        exact lm1 h.up hO ht (by decide) (by decide)
      · have e5 : timV u u = 0 := by unfold timV; rw [if_neg (by omega), if_neg (by omega)]
        rw [e5, if_pos rfl, if_neg c2, h.1.nB, h.1.now]
        by_cases c3 : 40 ≤ S.nB
        · rw [if_pos (by omega), if_pos c3]
          exact lm1 h.up hO ht (by decide) (by decide)
        · rw [if_neg (by omega), if_neg c3]
          have e96 := tdiv96 (by omega : 0 ≤ u)
          refine Ret.bind (flowsM (u := u) (k := S.now) h.1 h.2 hO hF hp) (fun A2 e4 hA => ?_)
          have hd : DM A2 S (t + 1) := DM.up ⟨hA.1, hA.2.1⟩
          by_cases c4 : S.flOf p u S.now < 0
          · rw [if_pos c4, if_pos rfl, if_pos c4]
            exact lm1 hd hO ht (by decide) (by decide)
          · rw [if_neg c4, if_neg (by decide), if_neg c4, g32p (by omega), hd.1.now, forceM hd.1 hO hF]
            simp only [rz_b_some]
            obtain ⟨g1, g2, g3, g4⟩ := hA.2.2 (by omega)
            have hfb := S.vw.fAcc_lt (q := 2) (dy := u.tdiv 96) (k := S.now) S.nS
            have hfb2 : S.vw.inForce 2 (u.tdiv 96) S.now < S.nS := hfb.1
            have hpo : S.pubOK p u = if S.vw.inForce 2 (u.tdiv 96) S.now < 0 then 1 else S.vw.says (S.vw.inForce 2 (u.tdiv 96) S.now).toNat (S.pubL p u) := rfl
            rw [hpo]
            by_cases hs : S.vw.inForce 2 (u.tdiv 96) S.now < 0
            · rw [if_neg (by omega), if_pos hs, if_neg (by decide)]
              exact publish168M hd hO (by omega) g1
            · rw [if_pos (by omega), if_neg hs]
              generalize hsg : S.vw.inForce 2 (u.tdiv 96) S.now = si at *
              refine Ret.bind (laysM (A := A2) hF (by omega : 0 ≤ u ∧ u ≤ 9999)) (fun B eB hB => ?_)
              have frB := wx157_lays F eB
              have q76 : B.1 91 76 = S.bey p u S.now := ((frB.slot (c := 91) (k := 76) (by decide) (by decide)).1).trans g3
              have q77 : B.1 91 77 = S.isOnV p u S.now := ((frB.slot (c := 91) (k := 77) (by decide) (by decide)).1).trans g4
              have q78 : B.1 91 78 = S.flOf p u S.now := ((frB.slot (c := 91) (k := 78) (by decide) (by decide)).1).trans g1
              have q79 : B.1 91 79 = S.wrg p u S.now := ((frB.slot (c := 91) (k := 79) (by decide) (by decide)).1).trans g2
              rw [q76, q77, q78, q79]
              have frL : Fr [133] [] A2 (aL (aL (aL (aL B 133 5 (S.flOf p u S.now)) 133 22 (S.wrg p u S.now)) 133 23 (S.bey p u S.now)) 133 8 (S.isOnV p u S.now)) := Fr.aL (Fr.aL (Fr.aL (Fr.aL (frB.mono (by decide) (by decide)) (Or.inl (by decide))) (Or.inl (by decide))) (Or.inl (by decide))) (Or.inl (by decide))
              have hdL : DM (aL (aL (aL (aL B 133 5 (S.flOf p u S.now)) 133 22 (S.wrg p u S.now)) 133 23 (S.bey p u S.now)) 133 8 (S.isOnV p u S.now)) S (t + 1) := ⟨rm_fr hd.1 frL (by decide), hd.2.fr frL (by decide)⟩
              have hsy := saysM (F := F) hdL.1 hO hF (s := si.toNat) (by omega) (pubL_b (p := p) (u := u) hO (by omega)) (pubLetM hB)
              rw [show ((si.toNat : Nat) : Int) = si by omega] at hsy
              have fin : Ret (rz_b (x158_says F si (aL (aL (aL (aL B 133 5 (S.flOf p u S.now)) 133 22 (S.wrg p u S.now)) 133 23 (S.bey p u S.now)) 133 8 (S.isOnV p u S.now))) fun r21 A21 => if r21 = 0 then (rz_b (x142_no F (-3) A21) fun r23 A23 => some (r23, A23)) else x209_publish_168 F p u A21) (if S.vw.says si.toNat (S.pubL p u) = 0 then S.no 2 else (S.nB, S.publish1 p u (S.flOf p u S.now))).1 (fun A1 => DM A1 (if S.vw.says si.toNat (S.pubL p u) = 0 then S.no 2 else (S.nB, S.publish1 p u (S.flOf p u S.now))).2 (t + 1)) := by
                refine Ret.bind hsy (fun A9 e9 _ => ?_)
                have fr9 := wx158_says F e9
                have hd9 : DM A9 S (t + 1) := ⟨rm_fr hdL.1 fr9 (by decide), hdL.2.fr fr9 (by decide)⟩
                by_cases c5 : S.vw.says si.toNat (S.pubL p u) = 0
                · rw [if_pos c5, if_pos c5]
                  exact lm1 hd9 hO ht (by decide) (by decide)
                · rw [if_neg c5, if_neg c5]
                  refine publish168M hd9 hO (by omega) ?_
                  have z1 : A9.1 91 78 = B.1 91 78 := (fr9.slot (c := 91) (k := 78) (by decide) (by decide)).1
                  rw [z1, q78]
              rcases bey01 (S := S) (p := p) (u := u) (k := S.now) with h8 | h8
              · rw [h8] at fin ⊢
                rw [if_pos rfl]
                rcases isOnV01 (S := S) (p := p) (u := u) (k := S.now) with h9 | h9
                · rw [h9] at fin ⊢
                  rw [if_pos rfl]
                  exact fin
                · rw [h9] at fin ⊢
                  rw [if_neg (by decide)]
                  exact fin
              · rw [h8] at fin ⊢
                rw [if_neg (by decide)]
                rcases isOnV01 (S := S) (p := p) (u := u) (k := S.now) with h9 | h9
                · rw [h9] at fin ⊢
                  rw [if_pos rfl]
                  exact fin
                · rw [h9] at fin ⊢
                  rw [if_neg (by decide)]
                  exact fin
  · rw [hasM0 h.1 hp, if_neg hp]
    simp only [rz_b_some]
    rw [if_pos (by decide)]
    exact lm1 h.up hO ht (by decide) (by decide)
theorem publishO (hO : OK t S) : OK (t + 1) (S.publish p u).2 := by
  have h4 := hO.nB
  have hb := flOf_b (p := p) (u := u) (k := S.now) hO
  unfold St.publish
  repeat' split
  all_goals first | exact hO.no 3 | exact hO.no 5 | exact hO.no 4 | exact hO.no 2 | exact hO.no 0 | skip
  exact (OK.of ⟨(OK.now (hO.mono) :), (OK.limit (hO.mono) :), (OK.nP (hO.mono) :), (OK.nZ (hO.mono) :), (OK.nH (hO.mono) :), (OK.nF (hO.mono) :), (OK.nU (hO.mono) :), (OK.nS (hO.mono) :), ((by show S.nB + 1 ≤ 40; omega)), (OK.nT (hO.mono) :), (OK.nR (hO.mono) :), (OK.zero (hO.mono) :), (OK.low (hO.mono) :), (OK.beside (hO.mono) :), (OK.stN (hO.mono) :), (OK.stF (hO.mono) :), (OK.bN (hO.mono) :), (OK.b (hO.mono) :), (OK.bs (hO.mono) :), (OK.z (hO.mono) :), (OK.h (hO.mono) :), (OK.f (hO.mono) :), (OK.u (hO.mono) :), (OK.s (hO.mono) :), (OK.sv (hO.mono) :), ((fun i hi => by
      have h2 := hO.p i
      have h3 : i < S.nB + 1 := hi
      show (0 ≤ up S.pP S.nB p i ∧ up S.pP S.nB p i < (S.nP : Int)) ∧ (0 ≤ up S.pT S.nB u i ∧ up S.pT S.nB u i ≤ 9999) ∧ 0 ≤ up S.pF S.nB (S.flOf p u S.now) i ∧ up S.pF S.nB (S.flOf p u S.now) i ≤ 99999999
      unfold up
      split
      · omega
      · exact h2 (by omega))), (OK.tB (hO.mono) :), (OK.rB (hO.mono) :), (OK.ref (hO.mono) :)⟩)
/-! published -/
theorem flowNowC (h : SN A S S.now t) (hO : OK t S) (hF : 1000 ≤ F) (hi : i < S.nB) : Ret (x136_flowNow F i A) (S.flOf (S.pP i) (S.pT i) S.now) (fun A1 => SN A1 S S.now t) := by
  have h4 := hO.nB
  have hb := hO.p i hi
  have h2 := hO.nP
  obtain ⟨r, e2, e3⟩ := rateAtC (F := F) (p := S.pP i) (u := S.pT i) h hO hF hO.now (by omega) (by omega)
  unfold x136_flowNow
  rw [gxp (by omega) (by omega), Int.toNat_natCast, h.rc.pP, h.rc.pT, e2]
  simp only [rz_b_some]
  exact Ret.bind e3 (fun A1 _ hA => Ret.mk hA.1)
theorem publishedC (h : DC A S t) (hO : OK t S) (ht : t < 512) (hF : 1000 ≤ F) : Ret (x135_published F a w A) (S.published a w).1 (fun A1 => DC A1 (S.published a w).2 (t + 1)) := by
  have h4 := hO.nB
  unfold x135_published St.published
  rw [h.1.nB]
  by_cases hg : 0 ≤ a ∧ a < (S.nB : Int)
  · rw [if_pos hg, if_pos hg.1, if_neg (by omega)]
    by_cases w0 : w < 0
    · rw [if_neg (by omega), if_pos w0]
      exact lk1 h.up hO ht (by decide) (by decide)
    · rw [if_pos (by omega), if_neg w0]
      by_cases w1 : 3 < w
      · rw [if_pos w1, if_pos w1]
        exact lk1 h.up hO ht (by decide) (by decide)
      · rw [if_neg w1, if_neg w1, h.1.pP, h.1.pT, h.1.pF, h.1.now]
        by_cases w2 : w = 0
        · rw [if_pos w2, if_pos w2, gxp (by omega) (by omega)]
          exact Ret.mk h.up
        · rw [if_neg w2, if_neg w2]
          by_cases w3 : w = 1
          · rw [if_pos w3, if_pos w3, gxp (by omega) (by omega)]
            exact Ret.mk h.up
          · rw [if_neg w3, if_neg w3]
            by_cases w4 : w = 2
            · rw [if_pos w4, if_pos w4, gxp (by omega) (by omega)]
              exact Ret.mk h.up
            · rw [if_neg w4, if_neg w4]
              refine Ret.bind (seeSN h hO ht hF hO.now) (fun A1 e1 hS => ?_)
              have hf := flowNowC (F := F) hS hO.mono hF (i := a.toNat) (by omega)
              rw [show ((a.toNat : Nat) : Int) = a by omega] at hf
              refine Ret.bind hf (fun A2 _ hS2 => ?_)
              by_cases c : S.flOf (S.pP a.toNat) (S.pT a.toNat) S.now < 0
              · rw [if_pos c, if_pos c]
                exact Ret.mk hS2.dc
              · rw [if_neg c, if_neg c]
                exact Ret.mk hS2.dc
  · rw [if_neg hg]
    by_cases h0 : 0 ≤ a
    · rw [if_pos h0, if_pos (by omega)]
      exact lk1 h.up hO ht (by decide) (by decide)
    · rw [if_neg h0]
      exact lk1 h.up hO ht (by decide) (by decide)
theorem publishedM (h : DM A S t) (hO : OK t S) (ht : t < 512) (hF : 1000 ≤ F) : Ret (x210_published F a w A) (S.published a w).1 (fun A1 => DM A1 (S.published a w).2 (t + 1)) := by
  have h4 := hO.nB
  unfold x210_published St.published
  rw [h.1.nB]
  by_cases hg : 0 ≤ a ∧ a < (S.nB : Int)
  · have hb := hO.p a.toNat (by omega)
    rw [if_pos hg, if_pos hg.1, if_neg (by omega)]
    by_cases w0 : w < 0
    · rw [if_neg (by omega), if_pos w0]
      exact lm1 h.up hO ht (by decide) (by decide)
    · rw [if_pos (by omega), if_neg w0]
      by_cases w1 : 3 < w
      · rw [if_pos w1, if_pos w1]
        exact lm1 h.up hO ht (by decide) (by decide)
      · rw [if_neg w1, if_neg w1, h.1.pP, h.1.pT, h.1.pF, h.1.now]
        by_cases w2 : w = 0
        · rw [if_pos w2, if_pos w2, gxp (by omega) (by omega)]
          exact Ret.mk h.up
        · rw [if_neg w2, if_neg w2]
          by_cases w3 : w = 1
          · rw [if_pos w3, if_pos w3, gxp (by omega) (by omega)]
            exact Ret.mk h.up
          · rw [if_neg w3, if_neg w3]
            by_cases w4 : w = 2
            · rw [if_pos w4, if_pos w4, gxp (by omega) (by omega)]
              exact Ret.mk h.up
            · rw [if_neg w4, if_neg w4, gxp (by omega) (by omega)]
              refine Ret.bind (flowsM (u := S.pT a.toNat) (k := S.now) h.1 h.2 hO hF hb.1) (fun A2 _ hA => ?_)
              have hd : DM A2 S (t + 1) := DM.up ⟨hA.1, hA.2.1⟩
              by_cases c : S.flOf (S.pP a.toNat) (S.pT a.toNat) S.now < 0
              · rw [if_pos c, if_pos rfl, if_pos c]
                exact Ret.mk hd
              · rw [if_neg c, if_neg (by decide), if_neg c, (hA.2.2 (by omega)).1]
                exact Ret.mk hd
  · rw [if_neg hg]
    by_cases h0 : 0 ≤ a
    · rw [if_pos h0, if_pos (by omega)]
      exact lm1 h.up hO ht (by decide) (by decide)
    · rw [if_neg h0]
      exact lm1 h.up hO ht (by decide) (by decide)
/-! mend -/
def absV (x : Int) : Int := if x < 0 then -x else x
abbrev St.bad (S : St) (i : Nat) : Prop := S.flOf (S.pP i) (S.pT i) S.now < 0 ∨ S.pF i * S.limit < absV (S.flOf (S.pP i) (S.pT i) S.now - S.pF i) * 100
def St.mendF (S : St) : Nat → Nat → Int
  | 0, _ => -9
  | n + 1, i => if S.bad i then (i : Int) else S.mendF n (i + 1)
def St.mend (S : St) : Int × St := (S.mendF S.nB 0, S)
theorem mendC_loop (hO : OK t S) (hF : 1000 ≤ F) : ∀ (n m i : Nat) (A : rz_A), SN A S S.now t → i + m = S.nB → m < n → Ret (x137_mend_13 F n i A) (S.mendF m i) (fun A1 => SN A1 S S.now t) := by
  have h4 := hO.nB
  have h5 := hO.limit
  intro n
  induction n with
  | zero => intro m i A _ _ h; omega
  | succ n ih =>
    intro m i A hS hm hn
    unfold x137_mend_13
    rw [hS.rc.nB]
    cases m with
    | zero =>
      rw [if_neg (by omega)]
      exact Ret.mk hS
    | succ m =>
      have hb := hO.p i (by omega)
      have hfb := flOf_b (p := S.pP i) (u := S.pT i) (k := S.now) hO
      rw [if_pos (by omega), gxp (by omega) (by omega)]
      unfold St.mendF
      refine Ret.bind (flowNowC hS hO hF (by omega)) (fun A4 e4 hS4 => ?_)
      rw [Int.toNat_natCast, hS.rc.pF]
      have m1 := mul_nb (a := S.pF i) (b := S.limit) (m := 99999999) (n := 100) (by omega) (by omega) (by omega) (by omega)
      by_cases c1 : S.flOf (S.pP i) (S.pT i) S.now < 0
      · rw [if_neg (by omega), if_pos (Or.inl c1)]
        exact Ret.mk hS4
      · have ha : x138_abs F (S.flOf (S.pP i) (S.pT i) S.now - S.pF i) A4 = some (absV (S.flOf (S.pP i) (S.pT i) S.now - S.pF i), A4) := by
          unfold x138_abs absV
          split
          · rw [g64p (by omega)]
          · rfl
        have hab : 0 ≤ absV (S.flOf (S.pP i) (S.pT i) S.now - S.pF i) ∧ absV (S.flOf (S.pP i) (S.pT i) S.now - S.pF i) ≤ 100000000 := by
          unfold absV
          split <;> omega
        rw [if_pos (by omega), g64p (by omega), ha]
        simp only [rz_b_some]
        rw [hS4.rc.limit, g64p (by omega), g64p (by omega)]
        by_cases c2 : S.pF i * S.limit < absV (S.flOf (S.pP i) (S.pT i) S.now - S.pF i) * 100
        · rw [if_pos c2, if_pos (Or.inr c2)]
          exact Ret.mk hS4
        · rw [if_neg c2, g32p (by omega), if_neg (by omega), show (i : Int) + 1 = ((i + 1 : Nat) : Int) by omega]
          exact ih m (i + 1) A4 hS4 (by omega) (by omega)
theorem mendC (h : DC A S t) (hO : OK t S) (ht : t < 512) (hF : 1000 ≤ F) : Ret (x137_mend F A) S.mend.1 (fun A1 => DC A1 S.mend.2 (t + 1)) := by
  have h4 := hO.nB
  unfold x137_mend
  rw [h.1.now]
  refine Ret.bind (seeSN h hO ht hF hO.now) (fun A1 e1 hS => ?_)
  exact Ret.of (mendC_loop hO.mono hF F S.nB 0 A1 hS (by omega) (by omega)) (fun A2 hA => hA.dc)
theorem mendM_loop (hO : OK t S) (hF : 1000 ≤ F) : ∀ (n m i : Nat) (A : rz_A), DM A S t → i + m = S.nB → m < n → Ret (x211_mend_2 F n i A) (S.mendF m i) (fun A1 => DM A1 S t) := by
  have h4 := hO.nB
  have h5 := hO.limit
  intro n
  induction n with
  | zero => intro m i A _ _ h; omega
  | succ n ih =>
    intro m i A hS hm hn
    unfold x211_mend_2
    rw [hS.1.nB]
    cases m with
    | zero =>
      rw [if_neg (by omega)]
      exact Ret.mk hS
    | succ m =>
      have hb := hO.p i (by omega)
      have hfb := flOf_b (p := S.pP i) (u := S.pT i) (k := S.now) hO
      rw [if_pos (by omega), gxp (by omega) (by omega), Int.toNat_natCast, hS.1.pP, hS.1.pT, hS.1.now]
      unfold St.mendF
      refine Ret.bind (flowsM (u := S.pT i) (k := S.now) hS.1 hS.2 hO hF hb.1) (fun A4 e4 hA => ?_)
      have hd : DM A4 S t := ⟨hA.1, hA.2.1⟩
      have m1 := mul_nb (a := S.limit) (b := S.pF i) (m := 100) (n := 99999999) (by omega) (by omega) (by omega) (by omega)
      by_cases c1 : S.flOf (S.pP i) (S.pT i) S.now < 0
      · rw [if_pos c1, if_pos rfl, if_pos (Or.inl c1)]
        exact Ret.mk hd
      · rw [if_neg c1, if_neg (by decide), (hA.2.2 (by omega)).1, hd.1.pF, hd.1.limit, g32p (by omega)]
        have step : ∀ x, x = absV (S.flOf (S.pP i) (S.pT i) S.now - S.pF i) → Ret (if S.limit * S.pF i < x * 100 then some ((i : Int), A4) else (rz_g32 ((i : Int) + 1) <| x211_mend_2 F n ((i : Int) + 1) A4)) (if S.bad i then (i : Int) else S.mendF m (i + 1)) (fun A1 => DM A1 S t) := by
          intro x hx
          subst hx
          by_cases c2 : S.limit * S.pF i < absV (S.flOf (S.pP i) (S.pT i) S.now - S.pF i) * 100
          · rw [if_pos c2, if_pos (Or.inr (by rw [Int.mul_comm]; exact c2))]
            exact Ret.mk hd
          · rw [if_neg c2, g32p (by omega), if_neg (fun hh => by
              rcases hh with hh | hh
              · exact c1 hh
              · rw [Int.mul_comm] at hh; exact c2 hh), show (i : Int) + 1 = ((i + 1 : Nat) : Int) by omega]
            exact ih m (i + 1) A4 hd (by omega) (by omega)
        by_cases c3 : S.flOf (S.pP i) (S.pT i) S.now - S.pF i < 0
        · rw [if_pos c3, g64p (by omega), g64p (by omega), g64p (by omega)]
          exact step _ (by unfold absV; rw [if_pos c3])
        · rw [if_neg c3, g64p (by omega), g64p (by omega)]
          exact step _ (by unfold absV; rw [if_neg c3])
theorem mendM (h : DM A S t) (hO : OK t S) (ht : t < 512) (hF : 1000 ≤ F) : Ret (x211_mend F A) S.mend.1 (fun A1 => DM A1 S.mend.2 (t + 1)) := by
  have h4 := hO.nB
  unfold x211_mend
  exact Ret.of (mendM_loop hO hF F S.nB 0 A h (by omega) (by omega)) (fun A2 hA => hA.up)
end PUBL
