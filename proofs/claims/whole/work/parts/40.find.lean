set_option maxRecDepth 8000
section FIND
variable {t F : Nat} {A : rz_A} {S : St} {V : Vw} {a b c d e p u k q dy x va vb rd v : Int} {i : Nat}
/-- a place in the row of keys: all ahead are less, none behind is -/
def Plc (A : rz_A) (w : Int) (r : Nat) : Prop := (r : Int) ≤ A.1 51 10 ∧ (∀ x : Nat, x < r → A.1 53 x < w) ∧ ∀ x : Nat, r ≤ x → (x : Int) < A.1 51 10 → w ≤ A.1 53 x
theorem firstC_loop (hs : ∀ x y : Nat, x < y → (y : Int) < A.1 51 10 → A.1 53 x < A.1 53 y) (hn : A.1 51 10 ≤ 300) : ∀ (n i a b : Nat), a ≤ b → (b : Int) ≤ A.1 51 10 → b + i ≤ 300 + a → 301 < n + i → (∀ x : Nat, x < a → A.1 53 x < v) → (∀ x : Nat, b ≤ x → (x : Int) < A.1 51 10 → v ≤ A.1 53 x) → ∃ r : Nat, x33_firstFrom_10 F n v a b i A = some ((r : Int), A) ∧ Plc A v r := by
  intro n
  induction n with
  | zero => intro i a b h1 h2 h3 h4; omega
  | succ n ih =>
    intro i a b h1 h2 h3 h4 h5 h6
    unfold x33_firstFrom_10
    by_cases hab : a < b
    · have em : ((a : Int) + b).tdiv 2 = (((a + b) / 2 : Nat) : Int) := by
        rw [Int.tdiv_eq_ediv_of_nonneg (by omega)]; omega
      rw [if_pos (by omega), if_pos (by omega), em, g32p (by omega), g32p (by omega), gxp (by omega) (by omega), Int.toNat_natCast]
      have hc1 : (((a + b) / 2 : Nat) : Int) + 1 = (((a + b) / 2 + 1 : Nat) : Int) := by omega
      have hc2 : (i : Int) + 1 = ((i + 1 : Nat) : Int) := by omega
      by_cases hk : A.1 53 ((a + b) / 2) < v
      · rw [if_pos hk, g32p (by omega), g32p (by omega), hc1, hc2]
        refine ih (i + 1) _ b (by omega) h2 (by omega) (by omega) (fun x hx => ?_) h6
        by_cases e : x = (a + b) / 2
        · rw [e]; exact hk
        · have := hs x ((a + b) / 2) (by omega) (by omega)
          omega
      · rw [if_neg hk, g32p (by omega), hc2]
        refine ih (i + 1) a _ (by omega) (by omega) (by omega) (by omega) h5 (fun x hx hx2 => ?_)
        by_cases e : x = (a + b) / 2
        · rw [e]; omega
        · have := hs ((a + b) / 2) x (by omega) hx2
          omega
    · have e : a = b := by omega
      subst e
      refine ⟨a, ?_, h2, h5, h6⟩
      split
      · rw [if_neg (by omega)]
      · rfl
theorem firstC (hv : View A V k) (hV : V.nH ≤ 300) (hF : 1000 ≤ F) : ∃ r : Nat, x33_firstFrom F v A = some ((r : Int), A) ∧ Plc A v r := by
  have h1 := hv.n
  unfold x33_firstFrom
  have := firstC_loop (F := F) (v := v) hv.sort (by omega) F 0 0 (A.1 51 10).toNat (by omega) (by omega) (by omega) (by omega) (fun x hx => absurd hx (Nat.not_lt_zero x)) (fun x hx hx2 => by omega)
  rw [show (((A.1 51 10).toNat : Nat) : Int) = A.1 51 10 by omega] at this
  exact this
theorem findC (hv : View A V k) (hV : V.nH ≤ 300) (hF : 1000 ≤ F) (hp : 0 ≤ p ∧ p < 6) (hu : 0 ≤ u ∧ u ≤ 9999) : ∃ r : Int, x32_find F p u A = some (r, A) ∧ ((r = -1 ∧ V.which p u k < 0) ∨ (0 ≤ r ∧ r < A.1 51 10 ∧ 0 ≤ V.which p u k ∧ A.1 53 r.toNat = p * 16384 + u ∧ A.1 54 r.toNat = V.lvl p u k)) := by
  have h1 := hv.n
  obtain ⟨r, e1, e2, e3, e4⟩ := firstC (F := F) (v := p * 16384 + u) hv hV hF
  unfold x32_find
  rw [keyC hp (by omega)]
  simp only [rz_b_some]
  rw [e1]
  simp only [rz_b_some]
  have hno : (¬ ((r : Int) < A.1 51 10 ∧ A.1 53 r = p * 16384 + u)) → V.which p u k < 0 := by
    intro hn
    by_cases hw : V.which p u k < 0
    · exact hw
    · obtain ⟨x, hx, hx2⟩ := hv.cmp p u hp.1 hp.2 hu.1 hu.2 (by omega)
      by_cases hlt : x < r
      · have := e3 x hlt; omega
      · by_cases e : x = r
        · rw [e] at hx hx2; exact absurd ⟨hx, hx2⟩ hn
        · have g1 := hv.sort r x (by omega) hx
          have g2 := e4 r (Nat.le_refl _) (by omega)
          omega
  by_cases c1 : (r : Int) < A.1 51 10
  · rw [if_pos c1, gxp (by omega) (by omega), Int.toNat_natCast]
    by_cases c2 : A.1 53 r = p * 16384 + u
    · rw [if_pos c2]
      obtain ⟨p', u', g1, g2, g3, g4, g5⟩ := hv.snd r c1
      have ep : p' = p := by omega
      have eu : u' = u := by omega
      subst ep
      subst eu
      exact ⟨r, rfl, Or.inr ⟨by omega, c1, g4, by rw [Int.toNat_natCast]; exact c2, by rw [Int.toNat_natCast]; exact g5⟩⟩
    · rw [if_neg c2]
      exact ⟨-1, rfl, Or.inl ⟨rfl, hno (fun hh => c2 hh.2)⟩⟩
  · rw [if_neg c1]
    exact ⟨-1, rfl, Or.inl ⟨rfl, hno (fun hh => c1 hh.1)⟩⟩
/-- whether a FLOW counts -/
abbrev Fl : Type := (Nat) × (Nat → Int) × (Nat → Int) × (Nat → Int) × (Nat → Int) × (Nat → Int) × (Nat → Int)
abbrev Fl.nF (S : Fl) : Nat := S.1
abbrev Fl.fP (S : Fl) : Nat → Int := S.2.1
abbrev Fl.fT (S : Fl) : Nat → Int := S.2.2.1
abbrev Fl.fN (S : Fl) : Nat → Int := S.2.2.2.1
abbrev Fl.fW (S : Fl) : Nat → Int := S.2.2.2.2.1
abbrev Fl.fKn (S : Fl) : Nat → Int := S.2.2.2.2.2.1
abbrev Fl.fS (S : Fl) : Nat → Int := S.2.2.2.2.2.2
def St.fl (S : St) : Fl := ⟨S.nF, S.fP, S.fT, S.fN, S.fW, S.fKn, S.fS⟩
abbrev inF (V : Vw) (L : Fl) (k : Int) (f : Nat) : Prop := L.fKn f ≤ k ∧ ¬ (0 ≤ L.fS f ∧ L.fS f ≤ k) ∧ 0 ≤ V.which (L.fP f) (L.fT f) k
theorem placeC (h : RC A S) (hO : OK t S) (hv : View A S.vw k) (hF : 1000 ≤ F) (hk : 0 ≤ k ∧ k ≤ 9999) {f : Nat} (hf : f < S.nF) : ∃ r : Int, x39_placeOf F f A = some (r, A) ∧ ((r = -1 ∧ ¬ inF S.vw S.fl k f) ∨ (0 ≤ r ∧ r < A.1 51 10 ∧ inF S.vw S.fl k f ∧ A.1 53 r.toNat = S.fP f * 16384 + S.fT f ∧ A.1 54 r.toNat = S.vw.lvl (S.fP f) (S.fT f) k)) := by
  have h1 := hO.nF
  have h2 := hO.nP
  have hb := hO.f f hf
  obtain ⟨r, e1, e2⟩ := findC (F := F) (p := S.fP f) (u := S.fT f) hv hO.nH hF (by omega) (by omega)
  unfold x39_placeOf
  rw [Int.toNat_natCast, gxp (by omega) (by omega), h.fKn, hv.kk, h.fS f hf, h.fP, h.fT]
  by_cases c1 : S.fKn f ≤ k
  · rw [if_pos c1]
    by_cases c2 : 0 ≤ S.fS f ∧ S.fS f ≤ k
    · rw [if_pos (by split <;> omega)]
      exact ⟨-1, rfl, Or.inl ⟨rfl, fun hh => hh.2.1 c2⟩⟩
    · rw [if_neg (by split <;> omega), e1]
      simp only [rz_b_some]
      refine ⟨r, rfl, ?_⟩
      rcases e2 with g | g
      · exact Or.inl ⟨g.1, fun hh => by have h9 : 0 ≤ S.vw.which (S.fP f) (S.fT f) k := hh.2.2; omega⟩
      · exact Or.inr ⟨g.1, g.2.1, ⟨c1, c2, g.2.2.1⟩, g.2.2.2⟩
  · rw [if_neg c1]
    exact ⟨-1, rfl, Or.inl ⟨rfl, fun hh => c1 hh.1⟩⟩
/-! the calls that ask a view -/
def timV (a b : Int) : Int := if a < 0 ∨ b < 0 then -4 else if 9999 < a ∨ 9999 < b then -6 else 0
theorem timV_3 (a b : Int) : timV a b = 0 ∨ timV a b = -4 ∨ timV a b = -6 := by
  unfold timV
  repeat' split
  all_goals omega
theorem timV_0 (h : timV a b = 0) : (0 ≤ a ∧ a ≤ 9999) ∧ 0 ≤ b ∧ b ≤ 9999 := by
  unfold timV at h
  split at h
  · cases h
  · split at h
    · cases h
    · omega
def St.noV (S : St) (v : Int) : Int × St := S.no (-v - 1).toNat
def St.farV (S : St) (v : Int) : Int × St := S.far (-v - 1).toNat
def St.isStruck (S : St) (g k : Int) : Int × St := if 0 ≤ g ∧ g < (S.nH : Int) then (if timV k k = 0 then (S.vw.mk g.toNat k, S) else S.noV (timV k k)) else S.no 0
def St.heightAt (S : St) (p u k : Int) : Int × St := if S.isP p then (if timV u k = 0 then (if S.vw.which p u k < 0 then S.far 4 else (S.vw.lvl p u k, S)) else S.farV (timV u k)) else S.far 0
def St.zeroAt (S : St) (p u k : Int) : Int × St := if S.isP p then (if timV u k = 0 then (S.vw.zeroOf p u k, S) else S.farV (timV u k)) else S.far 0
def St.counts (S : St) (f k : Int) : Int × St := if 0 ≤ f ∧ f < (S.nF : Int) then (if timV k k = 0 then (if inF S.vw S.fl k f.toNat then 1 else 0, S) else S.noV (timV k k)) else S.no 0
theorem timC : x19_whyNotTime F a A = some (timV a a, A) := by
  unfold x19_whyNotTime timV
  repeat' split
  all_goals first | rfl | (exfalso; omega)
theorem timM : x147_times F a b A = some (timV a b, A) := by
  unfold x147_times timV
  repeat' split
  all_goals first | rfl | (exfalso; omega)
theorem whyC (h : RC A S) : x9_whyNotAt F p a b A = some (if S.isP p then timV a b else -1, A) := by
  unfold x9_whyNotAt
  by_cases hp : S.isP p
  · rw [hasC1 h hp, if_pos hp]
    simp only [rz_b_some]
    rw [if_neg (by decide)]
    unfold timV
    repeat' split
    all_goals first | rfl | (exfalso; omega)
  · rw [hasC0 h hp, if_neg hp]
    simp only [rz_b_some]
    rfl
theorem whyM (h : RM A S) : (rz_b (x145_isPost F p A) fun r1 A1 => if r1 = 0 then some ((-1), A1) else (rz_b (x147_times F a b A1) fun r2 A2 => some (r2, A2))) = some (if S.isP p then timV a b else -1, A) := by
  by_cases hp : S.isP p
  · rw [hasM1 h hp, if_pos hp]
    simp only [rz_b_some]
    rw [if_neg (by decide), timM]
    rfl
  · rw [hasM0 h hp, if_neg hp]
    simp only [rz_b_some]
    rfl
theorem noVC (h : RC A S) (hO : OK t S) (ht : t < 512) (hv : v = -4 ∨ v = -6) : Ret (rz_b (x1_refuse F v A) fun r A => some (r, A)) (S.noV v).1 (fun A1 => RC A1 (S.noV v).2) := lfc1 h hO ht (by omega) (by omega)
theorem farVC (h : RC A S) (hO : OK t S) (ht : t < 512) (hv : v = -4 ∨ v = -6) : Ret (rz_b (x10_refuseAsTold F v A) fun r A => some (r, A)) (S.farV v).1 (fun A1 => RC A1 (S.farV v).2) := lfc2 h hO ht (by omega) (by omega)
theorem noVM (h : RM A S) (hO : OK t S) (ht : t < 512) (hv : v = -4 ∨ v = -6) : Ret (rz_b (x142_no F v A) fun r A => some (r, A)) (S.noV v).1 (fun A1 => RM A1 (S.noV v).2) := lfm1 h hO ht (by omega) (by omega)
theorem farVM (h : RM A S) (hO : OK t S) (ht : t < 512) (hv : v = -4 ∨ v = -6) : Ret (rz_b (x148_far F v A) fun r A => some (r, A)) (S.farV v).1 (fun A1 => RM A1 (S.farV v).2) := lfm2 h hO ht (by omega) (by omega)
end FIND
