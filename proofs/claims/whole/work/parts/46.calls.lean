set_option maxRecDepth 8000
/-! calls that ask -/
def DC (A : rz_A) (S : St) (t : Nat) : Prop := RC A S ∧ CI A S t
def DM (A : rz_A) (S : St) (t : Nat) : Prop := RM A S ∧ MI A S t
section CALLS3
variable {t t' F : Nat} {A A0 A' : rz_A} {S : St} {V : Vw} {p u k a b l v w : Int} {cs : List Nat} {fs : List (Nat × Nat)} {i : Nat}
theorem CI.up (h : CI A S t) : CI A S (t + 1) := CI.of ⟨h.st, h.vw, ⟨h.rd.1, by have := h.rd.2; omega⟩, h.dr, h.cv⟩
theorem MI.up (h : MI A S t) : MI A S (t + 1) := MI.of ⟨⟨h.sm.1, by have := h.sm.2; omega⟩, h.st, h.cv⟩
theorem DC.up (h : DC A S t) : DC A S (t + 1) := ⟨h.1, h.2.up⟩
theorem DM.up (h : DM A S t) : DM A S (t + 1) := ⟨h.1, h.2.up⟩
theorem lk1 (h : DC A S t') (hO : OK t S) (ht : t < 512) (hi : i < 6) (ha : a = -(i : Int) - 1) : Ret (rz_b (x1_refuse F a A) fun r A => some (r, A)) (S.no i).1 (fun A1 => DC A1 (S.no i).2 t') := by
  subst ha
  refine Ret.bind (Q := fun A1 => DC A1 (S.no i).2 t') ⟨_, refuseC h.1 hO ht i hi rfl, h.1.no hi, ?_⟩ (fun A1 _ hA => Ret.mk hA)
  have := h.2.fr (Fr.aI (A' := A) (c := 1) (k := i) (v := A.1 1 i + 1) (cs := [1]) (fs := []) Fr.rfl (Or.inl (by decide))) (by decide)
  exact this
theorem lk2 (h : DC A S t') (hO : OK t S) (ht : t < 512) (hi : i < 6) (ha : a = -(i : Int) - 1) : Ret (rz_b (x10_refuseAsTold F a A) fun r A => some (r, A)) (S.far i).1 (fun A1 => DC A1 (S.far i).2 t') := by
  subst ha
  obtain ⟨A1, e1, hA1⟩ := farC (F := F) h.1 hO ht i hi
  refine ⟨A1, e1, hA1, ?_⟩
  obtain ⟨r, A2, e2, e3⟩ := rz_b_inv e1
  cases e3
  have := h.2.fr (wx10_refuseAsTold F e2) (by decide)
  exact this
theorem lm1 (h : DM A S t') (hO : OK t S) (ht : t < 512) (hi : i < 6) (ha : a = -(i : Int) - 1) : Ret (rz_b (x142_no F a A) fun r A => some (r, A)) (S.no i).1 (fun A1 => DM A1 (S.no i).2 t') := by
  subst ha
  obtain ⟨A1, e1, hA1⟩ := leafM (F := F) h.1 hO ht i hi
  refine ⟨A1, e1, hA1, ?_⟩
  obtain ⟨r, A2, e2, e3⟩ := rz_b_inv e1
  cases e3
  have := h.2.fr (wx142_no F e2) (by decide)
  exact this
theorem lm2 (h : DM A S t') (hO : OK t S) (ht : t < 512) (hi : i < 6) (ha : a = -(i : Int) - 1) : Ret (rz_b (x148_far F a A) fun r A => some (r, A)) (S.far i).1 (fun A1 => DM A1 (S.far i).2 t') := by
  subst ha
  obtain ⟨A1, e1, hA1⟩ := farM (F := F) h.1 hO ht i hi
  refine ⟨A1, e1, hA1, ?_⟩
  obtain ⟨r, A2, e2, e3⟩ := rz_b_inv e1
  cases e3
  have := h.2.fr (wx148_far F e2) (by decide)
  exact this
theorem lk1v (h : DC A S t') (hO : OK t S) (ht : t < 512) (hv : v = -4 ∨ v = -6) : Ret (rz_b (x1_refuse F v A) fun r A => some (r, A)) (S.noV v).1 (fun A1 => DC A1 (S.noV v).2 t') := lk1 h hO ht (by omega) (by omega)
theorem lk2v (h : DC A S t') (hO : OK t S) (ht : t < 512) (hv : v = -4 ∨ v = -6) : Ret (rz_b (x10_refuseAsTold F v A) fun r A => some (r, A)) (S.farV v).1 (fun A1 => DC A1 (S.farV v).2 t') := lk2 h hO ht (by omega) (by omega)
theorem lm1v (h : DM A S t') (hO : OK t S) (ht : t < 512) (hv : v = -4 ∨ v = -6) : Ret (rz_b (x142_no F v A) fun r A => some (r, A)) (S.noV v).1 (fun A1 => DM A1 (S.noV v).2 t') := lm1 h hO ht (by omega) (by omega)
theorem lm2v (h : DM A S t') (hO : OK t S) (ht : t < 512) (hv : v = -4 ∨ v = -6) : Ret (rz_b (x148_far F v A) fun r A => some (r, A)) (S.farV v).1 (fun A1 => DM A1 (S.farV v).2 t') := lm2 h hO ht (by omega) (by omega)
theorem timV_n (h : ¬ timV a b = 0) : timV a b = -4 ∨ timV a b = -6 := by
  have := timV_3 a b
  omega
theorem seeSN (h : DC A S t) (hO : OK t S) (ht : t < 512) (hF : 1000 ≤ F) (hk : 0 ≤ k ∧ k ≤ 9999) : Ret (x20_see F k A) () (fun A1 => SN A1 S k (t + 1)) := by
  have hc := h.2
  have hrd := hc.rd
  obtain ⟨A1, e1, g1, g2, g3, g4⟩ := seeC (F := F) h.1 hO hF hk hc.st hc.vw (by omega)
  refine ⟨A1, e1, ?_⟩
  rcases g4 with ⟨g4, g5⟩ | g4
  · subst g4
    exact SN.of ⟨g1, hc.up, g3, g2.kk⟩
  · have fr := wx20_see F e1
    have d12 : A1.1 56 12 = A.1 56 12 := (fr.slot (c := 56) (k := 12) (by decide) (by decide)).1
    have hdr := hc.dr
    refine SN.of ⟨g1, CI.of ⟨Or.inr g3, fun _ => by rw [g2.kk]; exact g2, by omega, by omega, fun _ _ hh => by omega⟩, g3, g2.kk⟩
theorem SN.dc (h : SN A S k t) : DC A S t := ⟨h.rc, h.ci⟩
theorem hasH1 (h : RC A S) (hg : 0 ≤ a ∧ a < (S.nH : Int)) : x16_has F a A = some (1, A) := by
  unfold x16_has
  rw [h.nH]
  repeat' split
  all_goals first | rfl | (exfalso; omega)
theorem hasH0 (h : RC A S) (hg : ¬ (0 ≤ a ∧ a < (S.nH : Int))) : x16_has F a A = some (0, A) := by
  unfold x16_has
  rw [h.nH]
  repeat' split
  all_goals first | rfl | (exfalso; omega)
theorem hasF1 (h : RC A S) (hg : 0 ≤ a ∧ a < (S.nF : Int)) : x37_has F a A = some (1, A) := by
  unfold x37_has
  rw [h.nF]
  repeat' split
  all_goals first | rfl | (exfalso; omega)
theorem hasF0 (h : RC A S) (hg : ¬ (0 ≤ a ∧ a < (S.nF : Int))) : x37_has F a A = some (0, A) := by
  unfold x37_has
  rw [h.nF]
  repeat' split
  all_goals first | rfl | (exfalso; omega)
/-! zeroAt -/
theorem zeroAtC (h : DC A S t) (hO : OK t S) (ht : t < 512) (hF : 1000 ≤ F) : Ret (x8_zeroAt F p u k A) (S.zeroAt p u k).1 (fun A1 => DC A1 (S.zeroAt p u k).2 (t + 1)) := by
  unfold x8_zeroAt St.zeroAt
  rw [whyC h.1]
  simp only [rz_b_some]
  by_cases hp : S.isP p
  · rw [if_pos hp, if_pos hp]
    by_cases hk : timV u k = 0
    · rw [if_pos hk, if_pos hk, zeroC h.1 hO hF hp]
      exact Ret.mk h.up
    · rw [if_neg hk, if_neg hk]
      exact lk2v h.up hO ht (timV_n hk)
  · rw [if_neg hp, if_neg hp, if_neg (by decide)]
    exact lk2 h.up hO ht (by decide) (by decide)
theorem zeroAtM (h : DM A S t) (hO : OK t S) (ht : t < 512) (hF : 1000 ≤ F) : Ret (x146_zeroAt F p u k A) (S.zeroAt p u k).1 (fun A1 => DM A1 (S.zeroAt p u k).2 (t + 1)) := by
  unfold x146_zeroAt St.zeroAt
  by_cases hp : S.isP p
  · rw [hasM1 h.1 hp, if_pos hp]
    simp only [rz_b_some]
    rw [if_neg (by decide), timM]
    simp only [rz_b_some]
    by_cases hk : timV u k = 0
    · rw [if_pos hk, if_pos hk, zeroM h.1 hO hF hp]
      exact Ret.mk h.up
    · rw [if_neg hk, if_neg hk]
      exact lm2v h.up hO ht (timV_n hk)
  · rw [hasM0 h.1 hp, if_neg hp]
    simp only [rz_b_some]
    rw [if_pos (by decide)]
    exact lm2 h.up hO ht (by decide) (by decide)
/-! isStruck -/
theorem isStruckC (h : DC A S t) (hO : OK t S) (ht : t < 512) (hF : 1000 ≤ F) : Ret (x18_isStruck F a k A) (S.isStruck a k).1 (fun A1 => DC A1 (S.isStruck a k).2 (t + 1)) := by
  have h1 := hO.nH
  unfold x18_isStruck St.isStruck
  by_cases hg : 0 ≤ a ∧ a < (S.nH : Int)
  · rw [hasH1 h.1 hg, if_pos hg]
    simp only [rz_b_some]
    rw [if_neg (by decide), timC]
    simp only [rz_b_some]
    by_cases hk : timV k k = 0
    · rw [if_pos hk, if_pos hk]
      refine Ret.bind (seeSN h hO ht hF (timV_0 hk).1) (fun A1 e1 hS => ?_)
      have hm := hS.view.mark a.toNat (by show a.toNat < S.nH; omega)
      rw [gxp (by omega) (by omega), hm]
      exact Ret.mk hS.dc
    · rw [if_neg hk, if_neg hk]
      exact lk1v h.up hO ht (timV_n hk)
  · rw [hasH0 h.1 hg, if_neg hg]
    simp only [rz_b_some]
    rw [if_pos (by decide)]
    exact lk1 h.up hO ht (by decide) (by decide)
theorem isStruckM (h : DM A S t) (hO : OK t S) (ht : t < 512) (hF : 1000 ≤ F) : Ret (x152_isStruck F a k A) (S.isStruck a k).1 (fun A1 => DM A1 (S.isStruck a k).2 (t + 1)) := by
  have h1 := hO.nH
  unfold x152_isStruck St.isStruck
  rw [h.1.nH]
  by_cases hg : 0 ≤ a ∧ a < (S.nH : Int)
  · rw [if_pos hg, if_pos hg.1, if_neg (by omega), timM]
    simp only [rz_b_some]
    by_cases hk : timV k k = 0
    · have hb := hO.h a.toNat (by omega)
      have ea : ((a.toNat : Nat) : Int) = a := by omega
      rw [if_pos hk, if_pos hk, gxp (by omega) (by omega), h.1.hKn]
      show Ret _ (S.vw.mk a.toNat k) (fun A1 => DM A1 S (t + 1))
      unfold Vw.mk
      show Ret _ (if S.hKn a.toNat ≤ k ∧ 0 ≤ S.hR a.toNat then (if 0 ≤ S.hS a.toNat ∧ S.hS a.toNat ≤ k then 2 else S.vw.byStd a.toNat k) else 0) (fun A1 => DM A1 S (t + 1))
      by_cases c1 : k < S.hKn a.toNat
      · rw [if_pos c1, if_neg (by omega)]
        exact Ret.mk h.up
      · rw [if_neg c1]
        by_cases c2 : 0 ≤ S.hS a.toNat ∧ S.hS a.toNat ≤ k
        · have := toldM1 (F := F) (k := k) h.1 hO (i := a.toNat) (by omega) c2
          rw [ea] at this
          rw [this]
          simp only [rz_b_some]
          rw [if_neg (by decide), if_pos (by omega), if_pos c2]
          exact Ret.mk h.up
        · have := toldM0 (F := F) (k := k) h.1 hO (i := a.toNat) (by omega) c2
          rw [ea] at this
          rw [this]
          simp only [rz_b_some]
          rw [if_pos (by decide)]
          have hby := byStdM (F := F) (k := k) h.1 hO hF (g := a.toNat) (by omega)
          rw [ea] at hby
          refine Ret.bind hby (fun A1 e1 _ => ?_)
          have fr := wx154_isByStandard F e1
          have hd : DM A1 S (t + 1) := ⟨rm_fr h.1 fr (by decide), (h.2.fr fr (by decide)).up⟩
          rw [if_neg c2]
          have hneg : S.hR a.toNat < 0 → S.vw.byStd a.toNat k = 0 := fun hr => by
            unfold Vw.byStd
            exact if_pos hr
          rcases S.vw.byStd01 a.toNat k with h9 | h9
          · rw [h9, if_pos rfl, ite_self]
            exact Ret.mk hd
          · have hr : 0 ≤ S.hR a.toNat := by
              by_cases hr : 0 ≤ S.hR a.toNat
              · exact hr
              · rw [hneg (by omega)] at h9
                omega
            rw [h9, if_neg (by decide), if_pos ⟨by omega, hr⟩]
            exact Ret.mk hd
    · rw [if_neg hk, if_neg hk]
      exact lm1v h.up hO ht (timV_n hk)
  · rw [if_neg hg]
    by_cases h0 : 0 ≤ a
    · rw [if_pos h0, if_pos (by omega)]
      exact lm1 h.up hO ht (by decide) (by decide)
    · rw [if_neg h0]
      exact lm1 h.up hO ht (by decide) (by decide)
/-! heightAt -/
theorem heightAtC (h : DC A S t) (hO : OK t S) (ht : t < 512) (hF : 1000 ≤ F) : Ret (x31_heightAt F p u k A) (S.heightAt p u k).1 (fun A1 => DC A1 (S.heightAt p u k).2 (t + 1)) := by
  have h1 := hO.nH
  have h2 := hO.nP
  unfold x31_heightAt St.heightAt
  rw [whyC h.1]
  simp only [rz_b_some]
  by_cases hp : S.isP p
  · rw [if_pos hp, if_pos hp]
    by_cases hk : timV u k = 0
    · rw [if_pos hk, if_pos hk]
      have hb := timV_0 hk
      refine Ret.bind (seeSN h hO ht hF hb.2) (fun A1 e1 hS => ?_)
      obtain ⟨r, e2, e3⟩ := findC (F := F) (p := p) (u := u) hS.view h1 hF (by omega) hb.1
      have hn := hS.view.n
      have hn2 : A1.1 51 10 ≤ S.nH := hn.2
      rw [e2]
      simp only [rz_b_some]
      rcases e3 with g | g
      · rw [if_pos (by omega), if_pos g.2]
        exact lk2 hS.dc hO ht (by decide) (by decide)
      · rw [if_neg (by omega), if_neg (by omega), gxp (by omega) (by omega), g.2.2.2.2]
        exact Ret.mk hS.dc
    · rw [if_neg hk, if_neg hk]
      exact lk2v h.up hO ht (timV_n hk)
  · rw [if_neg hp, if_neg hp, if_neg (by decide)]
    exact lk2 h.up hO ht (by decide) (by decide)
theorem heightAtM (h : DM A S t) (hO : OK t S) (ht : t < 512) (hF : 1000 ≤ F) : Ret (x160_heightAt F p u k A) (S.heightAt p u k).1 (fun A1 => DM A1 (S.heightAt p u k).2 (t + 1)) := by
  unfold x160_heightAt St.heightAt
  by_cases hp : S.isP p
  · rw [hasM1 h.1 hp, if_pos hp]
    simp only [rz_b_some]
    rw [if_neg (by decide), timM]
    simp only [rz_b_some]
    by_cases hk : timV u k = 0
    · rw [if_pos hk, if_pos hk]
      refine Ret.bind (hasM (u := u) (k := k) h.1 hO hF hp) (fun A1 e1 hA => ?_)
      have fr := wx161_has F e1
      have hd : DM A1 S (t + 1) := ⟨rm_fr h.1 fr (by decide), (h.2.fr fr (by decide)).up⟩
      by_cases c : S.vw.which p u k < 0
      · rw [if_pos c, if_pos rfl, if_pos c]
        exact lm2 hd hO ht (by decide) (by decide)
      · rw [if_neg c, if_neg (by decide), if_neg c, hA (by omega)]
        exact Ret.mk hd
    · rw [if_neg hk, if_neg hk]
      exact lm2v h.up hO ht (timV_n hk)
  · rw [hasM0 h.1 hp, if_neg hp]
    simp only [rz_b_some]
    rw [if_pos (by decide)]
    exact lm2 h.up hO ht (by decide) (by decide)
/-! counts -/
theorem countsC (h : DC A S t) (hO : OK t S) (ht : t < 512) (hF : 1000 ≤ F) : Ret (x38_counts F a k A) (S.counts a k).1 (fun A1 => DC A1 (S.counts a k).2 (t + 1)) := by
  unfold x38_counts St.counts
  by_cases hg : 0 ≤ a ∧ a < (S.nF : Int)
  · have ea : ((a.toNat : Nat) : Int) = a := by omega
    rw [hasF1 h.1 hg, if_pos hg]
    simp only [rz_b_some]
    rw [if_neg (by decide), timC]
    simp only [rz_b_some]
    by_cases hk : timV k k = 0
    · rw [if_pos hk, if_pos hk]
      refine Ret.bind (seeSN h hO ht hF (timV_0 hk).1) (fun A1 e1 hS => ?_)
      obtain ⟨r, e2, e3⟩ := placeC (F := F) hS.rc hO.mono hS.view hF (timV_0 hk).1 (f := a.toNat) (by omega)
      rw [ea] at e2
      rw [e2]
      simp only [rz_b_some]
      rcases e3 with g | g
      · rw [if_neg (by omega), if_neg g.2]
        exact Ret.mk hS.dc
      · rw [if_pos g.1, if_pos g.2.2.1]
        exact Ret.mk hS.dc
    · rw [if_neg hk, if_neg hk]
      exact lk1v h.up hO ht (timV_n hk)
  · rw [hasF0 h.1 hg, if_neg hg]
    simp only [rz_b_some]
    rw [if_pos (by decide)]
    exact lk1 h.up hO ht (by decide) (by decide)
theorem countsM (h : DM A S t) (hO : OK t S) (ht : t < 512) (hF : 1000 ≤ F) : Ret (x165_counts F a k A) (S.counts a k).1 (fun A1 => DM A1 (S.counts a k).2 (t + 1)) := by
  unfold x165_counts St.counts
  rw [h.1.nF]
  by_cases hg : 0 ≤ a ∧ a < (S.nF : Int)
  · have ea : ((a.toNat : Nat) : Int) = a := by omega
    rw [if_pos hg, if_pos hg.1, if_neg (by omega), timM]
    simp only [rz_b_some]
    by_cases hk : timV k k = 0
    · rw [if_pos hk, if_pos hk]
      have hin := isInM (F := F) (k := k) h.1 hO hF (f := a.toNat) (by omega)
      rw [ea] at hin
      refine Ret.bind hin (fun A1 e1 _ => ?_)
      have fr := wx166_isIn F e1
      have hd : DM A1 S (t + 1) := ⟨rm_fr h.1 fr (by decide), (h.2.fr fr (by decide)).up⟩
      by_cases c : inF S.vw S.fl k a.toNat
      · rw [if_pos c, if_neg (by decide)]
        exact Ret.mk hd
      · rw [if_neg c, if_pos rfl]
        exact Ret.mk hd
    · rw [if_neg hk, if_neg hk]
      exact lm1v h.up hO ht (timV_n hk)
  · rw [if_neg hg]
    by_cases h0 : 0 ≤ a
    · rw [if_pos h0, if_pos (by omega)]
      exact lm1 h.up hO ht (by decide) (by decide)
    · rw [if_neg h0]
      exact lm1 h.up hO ht (by decide) (by decide)
/-! points -/
def St.points (S : St) (p u k : Int) : Int × St := if S.isP p then (if timV u k = 0 then ((S.crv p u k).1.n, S) else S.noV (timV u k)) else S.no 0
theorem pointsC (h : DC A S t) (hO : OK t S) (ht : t < 512) (hF : 1000 ≤ F) : Ret (x68_points F p u k A) (S.points p u k).1 (fun A1 => DC A1 (S.points p u k).2 (t + 1)) := by
  have h2 := hO.nP
  unfold x68_points St.points
  rw [whyC h.1]
  simp only [rz_b_some]
  by_cases hp : S.isP p
  · rw [if_pos hp, if_pos hp]
    by_cases hk : timV u k = 0
    · rw [if_pos hk, if_pos hk]
      have hb := timV_0 hk
      refine Ret.bind (seeSN h hO ht hF hb.2) (fun A1 e1 hS => ?_)
      refine Ret.bind (drawAtC (u := u) hS hO.mono hF hb.2 (by omega : 0 ≤ p ∧ p < 6)) (fun A2 e2 hA => ?_)
      rw [hA.2.1.1]
      exact Ret.mk hA.1.dc
    · rw [if_neg hk, if_neg hk]
      exact lk1v h.up hO ht (timV_n hk)
  · rw [if_neg hp, if_neg hp, if_neg (by decide)]
    exact lk1 h.up hO ht (by decide) (by decide)
theorem pointsM (h : DM A S t) (hO : OK t S) (ht : t < 512) (hF : 1000 ≤ F) : Ret (x179_points F p u k A) (S.points p u k).1 (fun A1 => DM A1 (S.points p u k).2 (t + 1)) := by
  have h2 := hO.nP
  unfold x179_points St.points x180_known
  rw [whyM h.1]
  simp only [rz_b_some]
  by_cases hp : S.isP p
  · rw [if_pos hp, if_pos hp]
    by_cases hk : timV u k = 0
    · rw [if_pos hk, if_pos hk]
      refine Ret.bind (makesAtM (u := u) (k := k) h.1 h.2 hO hF (by omega : 0 ≤ p ∧ p < 6)) (fun A2 e2 hA => ?_)
      rw [hA.2.2.1.1]
      exact Ret.mk (DM.up ⟨hA.1, hA.2.1⟩)
    · rw [if_neg hk, if_neg hk]
      exact lm1v h.up hO ht (timV_n hk)
  · rw [if_neg hp, if_neg hp, if_neg (by decide)]
    exact lm1 h.up hO ht (by decide) (by decide)
/-! point -/
def St.point (S : St) (p u k i w : Int) : Int × St := if S.isP p then (if w < 0 then S.far 1 else if 1 < w then S.far 1 else if timV u k = 0 then (if i < 0 then S.far 4 else if ((S.crv p u k).1.n : Int) ≤ i then S.far 4 else (if w = 0 then (S.crv p u k).1.h i.toNat else flw (S.crv p u k).1 i.toNat, S)) else S.farV (timV u k)) else S.far 0
theorem pointC (h : DC A S t) (hO : OK t S) (ht : t < 512) (hF : 1000 ≤ F) : Ret (x78_point F p u k a w A) (S.point p u k a w).1 (fun A1 => DC A1 (S.point p u k a w).2 (t + 1)) := by
  have h2 := hO.nP
  unfold x78_point St.point
  by_cases hp : S.isP p
  · rw [hasC1 h.1 hp, if_pos hp]
    simp only [rz_b_some]
    rw [if_neg (by decide)]
    by_cases w0 : w < 0
    · rw [if_neg (by omega), if_pos w0]
      exact lk2 h.up hO ht (by decide) (by decide)
    · rw [if_pos (by omega), if_neg w0]
      by_cases w1 : 1 < w
      · rw [if_pos w1, if_pos w1]
        exact lk2 h.up hO ht (by decide) (by decide)
      · rw [if_neg w1, if_neg w1, whyC h.1]
        simp only [rz_b_some]
        rw [if_pos hp]
        by_cases hk : timV u k = 0
        · rw [if_pos hk, if_pos hk]
          have hb := timV_0 hk
          obtain ⟨c, hc1, hc2, hc3⟩ := curve_ok hO p (S.sA p u) (S.sB p u) k
          have hle : (S.crv p u k).1.n ≤ c := hc2.le
          refine Ret.bind (seeSN h hO ht hF hb.2) (fun A1 e1 hS => ?_)
          refine Ret.bind (drawAtC (u := u) hS hO.mono hF hb.2 (by omega : 0 ≤ p ∧ p < 6)) (fun A2 e2 hA => ?_)
          have hn : A2.1 57 0 = ((S.crv p u k).1.n : Int) := hA.2.1.1
          rw [hn]
          by_cases i0 : a < 0
          · rw [if_neg (by omega), if_pos i0]
            exact lk2 hA.1.dc hO ht (by decide) (by decide)
          · rw [if_pos (by omega), if_neg i0]
            by_cases i1 : ((S.crv p u k).1.n : Int) ≤ a
            · rw [if_pos i1, if_pos i1]
              exact lk2 hA.1.dc hO ht (by decide) (by decide)
            · have hh : A2.1 58 a.toNat = (S.crv p u k).1.h a.toNat := hA.2.1.2.1 a.toNat (by show a.toNat < (S.crv p u k).1.n; omega)
              have hf : A2.1 59 a.toNat = flw (S.crv p u k).1 a.toNat := hA.2.1.2.2 a.toNat (by show a.toNat < (S.crv p u k).1.n; omega)
              rw [if_neg i1, if_neg i1, hh, hf, gxp (by omega) (by omega), gxp (by omega) (by omega)]
              by_cases w2 : w = 0
              · rw [if_pos w2, if_pos w2]
                exact Ret.mk hA.1.dc
              · rw [if_neg w2, if_neg w2]
                exact Ret.mk hA.1.dc
        · rw [if_neg hk, if_neg hk]
          exact lk2v h.up hO ht (timV_n hk)
  · rw [hasC0 h.1 hp, if_neg hp]
    simp only [rz_b_some]
    rw [if_pos (by decide)]
    exact lk2 h.up hO ht (by decide) (by decide)
theorem pointM (h : DM A S t) (hO : OK t S) (ht : t < 512) (hF : 1000 ≤ F) : Ret (x183_point F p u k a w A) (S.point p u k a w).1 (fun A1 => DM A1 (S.point p u k a w).2 (t + 1)) := by
  have h2 := hO.nP
  unfold x183_point St.point
  by_cases hp : S.isP p
  · rw [hasM1 h.1 hp, if_pos hp]
    simp only [rz_b_some]
    rw [if_neg (by decide)]
    by_cases w0 : w < 0
    · rw [if_neg (by omega), if_pos w0]
      exact lm2 h.up hO ht (by decide) (by decide)
    · rw [if_pos (by omega), if_neg w0]
      by_cases w1 : 1 < w
      · rw [if_pos w1, if_pos w1]
        exact lm2 h.up hO ht (by decide) (by decide)
      · rw [if_neg w1, if_neg w1, timM]
        simp only [rz_b_some]
        by_cases hk : timV u k = 0
        · rw [if_pos hk, if_pos hk]
          obtain ⟨c, hc1, hc2, hc3⟩ := curve_ok hO p (S.sA p u) (S.sB p u) k
          have hle : (S.crv p u k).1.n ≤ c := hc2.le
          refine Ret.bind (makesAtM (u := u) (k := k) h.1 h.2 hO hF (by omega : 0 ≤ p ∧ p < 6)) (fun A2 e2 hA => ?_)
          have hd : DM A2 S (t + 1) := DM.up ⟨hA.1, hA.2.1⟩
          have hn : A2.1 91 67 = ((S.crv p u k).1.n : Int) := hA.2.2.1.1
          rw [hn]
          by_cases i0 : a < 0
          · rw [if_neg (by omega), if_pos i0]
            exact lm2 hd hO ht (by decide) (by decide)
          · rw [if_pos (by omega), if_neg i0]
            by_cases i1 : ((S.crv p u k).1.n : Int) ≤ a
            · rw [if_pos i1, if_pos i1]
              exact lm2 hd hO ht (by decide) (by decide)
            · have hh : A2.1 137 a.toNat = (S.crv p u k).1.h a.toNat := hA.2.2.1.2.1 a.toNat (by show a.toNat < (S.crv p u k).1.n; omega)
              have hf : A2.1 138 a.toNat = flw (S.crv p u k).1 a.toNat := hA.2.2.1.2.2 a.toNat (by show a.toNat < (S.crv p u k).1.n; omega)
              rw [if_neg i1, if_neg i1, hh, hf, gxp (by omega) (by omega), gxp (by omega) (by omega)]
              by_cases w2 : w = 0
              · rw [if_pos w2, if_pos w2]
                exact Ret.mk hd
              · rw [if_neg w2, if_neg w2]
                exact Ret.mk hd
        · rw [if_neg hk, if_neg hk]
          exact lm2v h.up hO ht (timV_n hk)
  · rw [hasM0 h.1 hp, if_neg hp]
    simp only [rz_b_some]
    rw [if_pos (by decide)]
    exact lm2 h.up hO ht (by decide) (by decide)
/-! flowAt -/
def St.flowAt (S : St) (p u l : Int) : Int × St := if S.isP p then (if u < 0 then S.no 3 else if l < -9999 then S.no 3 else if 9999 < u then S.no 5 else if 99999 < l then S.no 5 else if (S.crv p u S.now).1.n = 0 then S.no 4 else (S.flAt p u S.now l, S)) else S.no 0
theorem flowAtC (h : DC A S t) (hO : OK t S) (ht : t < 512) (hF : 1000 ≤ F) : Ret (x79_flowAt F p u l A) (S.flowAt p u l).1 (fun A1 => DC A1 (S.flowAt p u l).2 (t + 1)) := by
  have h2 := hO.nP
  have h3 := hO.now
  unfold x79_flowAt St.flowAt
  by_cases hp : S.isP p
  · rw [hasC1 h.1 hp, if_pos hp]
    simp only [rz_b_some]
    rw [if_neg (by decide)]
    by_cases c1 : u < 0
    · rw [if_neg (by omega), if_pos c1]
      exact lk1 h.up hO ht (by decide) (by decide)
    · rw [if_pos (by omega), if_neg c1]
      by_cases c2 : l < -9999
      · rw [if_pos c2, if_pos c2]
        exact lk1 h.up hO ht (by decide) (by decide)
      · rw [if_neg c2, if_neg c2]
        by_cases c3 : 9999 < u
        · rw [if_neg (by omega), if_pos c3]
          exact lk1 h.up hO ht (by decide) (by decide)
        · rw [if_pos (by omega), if_neg c3]
          by_cases c4 : 99999 < l
          · rw [if_pos c4, if_pos c4]
            exact lk1 h.up hO ht (by decide) (by decide)
          · rw [if_neg c4, if_neg c4, h.1.now]
            obtain ⟨c, hc1, hc2, hc3⟩ := curve_ok hO p (S.sA p u) (S.sB p u) S.now
            have hlow := hO.low p.toNat (by omega)
            refine Ret.bind (seeSN h hO ht hF h3) (fun A1 e1 hS => ?_)
            refine Ret.bind (drawAtC (u := u) hS hO.mono hF h3 (by omega : 0 ≤ p ∧ p < 6)) (fun A2 e2 hA => ?_)
            rw [gxp (by omega) (by omega), hA.1.rc.low]
            by_cases c5 : (S.crv p u S.now).1.n = 0
            · have e0 : A2.1 57 0 = 0 := by
                have : A2.1 57 0 = ((S.crv p u S.now).1.n : Int) := hA.2.1.1
                omega
              unfold x80_flowBy_c
              rw [if_pos e0, if_pos c5]
              simp only [rz_b_some]
              rw [if_pos (by decide)]
              exact lk1 hA.1.dc hO ht (by decide) (by decide)
            · have hab := atF_b (v := l) (low := S.low p.toNat) (hf_of hc2 c5) (by omega) (by omega)
              rw [cvC_at hA.2.1 hc2 hc1 c5 hF (by omega) (by omega), if_neg c5]
              simp only [rz_b_some]
              rw [if_neg (by omega)]
              exact Ret.mk hA.1.dc
  · rw [hasC0 h.1 hp, if_neg hp]
    simp only [rz_b_some]
    rw [if_pos (by decide)]
    exact lk1 h.up hO ht (by decide) (by decide)
theorem flowAtM (h : DM A S t) (hO : OK t S) (ht : t < 512) (hF : 1000 ≤ F) : Ret (x184_flowAt F p u l A) (S.flowAt p u l).1 (fun A1 => DM A1 (S.flowAt p u l).2 (t + 1)) := by
  have h2 := hO.nP
  have h3 := hO.now
  unfold x184_flowAt St.flowAt
  by_cases hp : S.isP p
  · rw [hasM1 h.1 hp, if_pos hp]
    simp only [rz_b_some]
    rw [if_neg (by decide)]
    by_cases c1 : u < 0
    · rw [if_neg (by omega), if_pos c1]
      exact lm1 h.up hO ht (by decide) (by decide)
    · rw [if_pos (by omega), if_neg c1]
      by_cases c2 : l < -9999
      · rw [if_pos c2, if_pos c2]
        exact lm1 h.up hO ht (by decide) (by decide)
      · rw [if_neg c2, if_neg c2]
        by_cases c3 : 9999 < u
        · rw [if_neg (by omega), if_pos c3]
          exact lm1 h.up hO ht (by decide) (by decide)
        · rw [if_pos (by omega), if_neg c3]
          by_cases c4 : 99999 < l
          · rw [if_pos c4, if_pos c4]
            exact lm1 h.up hO ht (by decide) (by decide)
          · rw [if_neg c4, if_neg c4, h.1.now]
            obtain ⟨c, hc1, hc2, hc3⟩ := curve_ok hO p (S.sA p u) (S.sB p u) S.now
            have hlow := hO.low p.toNat (by omega)
            refine Ret.bind (makesAtM (u := u) (k := S.now) h.1 h.2 hO hF (by omega : 0 ≤ p ∧ p < 6)) (fun A2 e2 hA => ?_)
            have hd : DM A2 S (t + 1) := DM.up ⟨hA.1, hA.2.1⟩
            have hn : A2.1 91 67 = ((S.crv p u S.now).1.n : Int) := hA.2.2.1.1
            rw [hn]
            by_cases c5 : (S.crv p u S.now).1.n = 0
            · rw [if_pos (by omega), if_pos c5]
              exact lm1 hd hO ht (by decide) (by decide)
            · rw [if_neg (by omega), if_neg c5, gxp (by omega) (by omega), hA.1.low, cvM_at hA.2.2.1 hc2 hc1 c5 hF (by omega) (by omega)]
              simp only [rz_b_some]
              refine Ret.mk ⟨rm_fr hd.1 (Fr.aI (cs := []) (fs := [(91, 76)]) Fr.rfl (Or.inr (by decide))) (by decide), hd.2.fr (Fr.aI (cs := []) (fs := [(91, 76)]) Fr.rfl (Or.inr (by decide))) (by decide)⟩
  · rw [hasM0 h.1 hp, if_neg hp]
    simp only [rz_b_some]
    rw [if_pos (by decide)]
    exact lm1 h.up hO ht (by decide) (by decide)
/-! flowOf -/
def St.flowOf (S : St) (p u k w : Int) : Int × St := if S.isP p then (if w < 0 then S.no 1 else if 2 < w then S.no 1 else if timV u k = 0 then (if S.flOf p u k < 0 then S.no 4 else (if w = 0 then S.flOf p u k else if w = 1 then S.wrg p u k else S.bey p u k, S)) else S.noV (timV u k)) else S.no 0
theorem flOf_n (hf : 0 ≤ S.flOf p u k) : 0 ≤ S.vw.which p u k ∧ (S.crv p u k).1.n ≠ 0 := by
  unfold St.flOf at hf
  split at hf
  · omega
  · split at hf
    · omega
    · exact ⟨by omega, by assumption⟩
/-- FLOW OF by the class at a POST and a TIME -/
theorem rateAtC (h : SN A S k t) (hO : OK t S) (hF : 1000 ≤ F) (hk : 0 ≤ k ∧ k ≤ 9999) (hp : 0 ≤ p ∧ p < 6) (hu : 0 ≤ u ∧ u ≤ 9999) : ∃ r, x32_find F p u A = some (r, A) ∧ Ret (x85_rate F r A) (S.flOf p u k) (fun A1 => SN A1 S k t ∧ (0 ≤ S.flOf p u k → (0 ≤ r ∧ r < 300) ∧ A1.1 54 r.toNat = S.vw.lvl p u k ∧ A1.1 53 r.toNat = p * 16384 + u ∧ CvC A1 (S.crv p u k).1 ∧ A1.1 56 8 = (S.crv p u k).2)) := by
  have h1 := hO.nH
  have hn := h.view.n
  have hn2 : A.1 51 10 ≤ S.nH := hn.2
  obtain ⟨r, e2, e3⟩ := findC (F := F) (p := p) (u := u) h.view h1 hF hp hu
  refine ⟨r, e2, ?_⟩
  rcases e3 with g | g
  · have e0 : S.flOf p u k = -1 := by unfold St.flOf; rw [if_pos g.2]
    unfold x85_rate
    rw [if_neg (by omega), e0]
    exact Ret.mk ⟨h, fun hh => by omega⟩
  · obtain ⟨A1, e1, hA⟩ := rateC (F := F) (r := r) h hO hF hk ⟨g.1, g.2.1⟩ g.2.2.1 g.2.2.2.1 g.2.2.2.2
    have q54 : A1.1 54 = A.1 54 := ((wx85_rate F e1).row (c := 54) (by decide) (by decide)).1
    have q53 : A1.1 53 = A.1 53 := ((wx85_rate F e1).row (c := 53) (by decide) (by decide)).1
    exact ⟨A1, e1, hA.1, fun _ => ⟨by omega, by rw [q54]; exact g.2.2.2.2, by rw [q53]; exact g.2.2.2.1, hA.2⟩⟩
theorem flowOfC (h : DC A S t) (hO : OK t S) (ht : t < 512) (hF : 1000 ≤ F) : Ret (x84_flowOf F p u k w A) (S.flowOf p u k w).1 (fun A1 => DC A1 (S.flowOf p u k w).2 (t + 1)) := by
  have h2 := hO.nP
  unfold x84_flowOf St.flowOf
  by_cases hp : S.isP p
  · rw [hasC1 h.1 hp, if_pos hp]
    simp only [rz_b_some]
    rw [if_neg (by decide)]
    by_cases w0 : w < 0
    · rw [if_neg (by omega), if_pos w0]
      exact lk1 h.up hO ht (by decide) (by decide)
    · rw [if_pos (by omega), if_neg w0]
      by_cases w1 : 2 < w
      · rw [if_pos w1, if_pos w1]
        exact lk1 h.up hO ht (by decide) (by decide)
      · rw [if_neg w1, if_neg w1, whyC h.1]
        simp only [rz_b_some]
        rw [if_pos hp]
        by_cases hk : timV u k = 0
        · rw [if_pos hk, if_pos hk]
          have hb := timV_0 hk
          refine Ret.bind (seeSN h hO ht hF hb.2) (fun A1 e1 hS => ?_)
          obtain ⟨r, e2, e3⟩ := rateAtC (F := F) (p := p) (u := u) hS hO.mono hF hb.2 (by omega) hb.1
          rw [e2]
          simp only [rz_b_some]
          refine Ret.bind e3 (fun A2 e4 hA => ?_)
          by_cases c1 : S.flOf p u k < 0
          · rw [if_pos c1, if_pos c1]
            exact lk1 hA.1.dc hO ht (by decide) (by decide)
          · rw [if_neg c1, if_neg c1]
            obtain ⟨g1, g2, _, g3, g4⟩ := hA.2 (by omega)
            have hn := flOf_n (by omega : 0 ≤ S.flOf p u k)
            by_cases w2 : w = 0
            · rw [if_pos w2, if_pos w2]
              exact Ret.mk hA.1.dc
            · rw [if_neg w2, if_neg w2]
              by_cases w3 : w = 1
              · rw [if_pos w3, if_pos w3, wrgC g3 g4 hO hn.2 g1 g2]
                exact Ret.mk hA.1.dc
              · rw [if_neg w3, if_neg w3, beyC g3 hO hn.2 g1 g2]
                exact Ret.mk hA.1.dc
        · rw [if_neg hk, if_neg hk]
          exact lk1v h.up hO ht (timV_n hk)
  · rw [hasC0 h.1 hp, if_neg hp]
    simp only [rz_b_some]
    rw [if_pos (by decide)]
    exact lk1 h.up hO ht (by decide) (by decide)
theorem flowOfM (h : DM A S t) (hO : OK t S) (ht : t < 512) (hF : 1000 ≤ F) : Ret (x187_flowOf F p u k w A) (S.flowOf p u k w).1 (fun A1 => DM A1 (S.flowOf p u k w).2 (t + 1)) := by
  have h2 := hO.nP
  unfold x187_flowOf St.flowOf
  by_cases hp : S.isP p
  · rw [hasM1 h.1 hp, if_pos hp]
    simp only [rz_b_some]
    rw [if_neg (by decide)]
    by_cases w0 : w < 0
    · rw [if_neg (by omega), if_pos w0]
      exact lm1 h.up hO ht (by decide) (by decide)
    · rw [if_pos (by omega), if_neg w0]
      by_cases w1 : 2 < w
      · rw [if_pos w1, if_pos w1]
        exact lm1 h.up hO ht (by decide) (by decide)
      · rw [if_neg w1, if_neg w1, timM]
        simp only [rz_b_some]
        by_cases hk : timV u k = 0
        · rw [if_pos hk, if_pos hk]
          refine Ret.bind (flowsM (u := u) (k := k) h.1 h.2 hO hF hp) (fun A2 e4 hA => ?_)
          have hd : DM A2 S (t + 1) := DM.up ⟨hA.1, hA.2.1⟩
          by_cases c1 : S.flOf p u k < 0
          · rw [if_pos c1, if_pos rfl, if_pos c1]
            exact lm1 hd hO ht (by decide) (by decide)
          · rw [if_neg c1, if_neg (by decide), if_neg c1]
            obtain ⟨g1, g2, g3, g4⟩ := hA.2.2 (by omega)
            rw [g1, g2, g3]
            by_cases w2 : w = 0
            · rw [if_pos w2, if_pos w2]
              exact Ret.mk hd
            · rw [if_neg w2, if_neg w2]
              by_cases w3 : w = 1
              · rw [if_pos w3, if_pos w3]
                exact Ret.mk hd
              · rw [if_neg w3, if_neg w3]
                have b01 : S.bey p u k = 0 ∨ S.bey p u k = 1 := by unfold St.bey; split <;> simp
                rcases b01 with h9 | h9
                · rw [h9, if_pos rfl]
                  exact Ret.mk hd
                · rw [h9, if_neg (by decide)]
                  exact Ret.mk hd
        · rw [if_neg hk, if_neg hk]
          exact lm1v h.up hO ht (timV_n hk)
  · rw [hasM0 h.1 hp, if_neg hp]
    simp only [rz_b_some]
    rw [if_pos (by decide)]
    exact lm1 h.up hO ht (by decide) (by decide)
end CALLS3
