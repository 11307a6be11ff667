set_option maxRecDepth 8000
/-! a GAP -/
def St.prv (S : St) (p : Int) : Nat → Int
  | 0 => -1
  | n + 1 => if 0 ≤ S.vw.which p n S.now then (n : Int) else S.prv p n
def St.nxt (S : St) (p : Int) : Nat → Int → Int
  | 0, _ => 10000
  | n + 1, x => if 0 ≤ S.vw.which p x S.now then x else S.nxt p n (x + 1)
def St.gA (S : St) (p u : Int) : Int := S.prv p u.toNat
def St.gB (S : St) (p u : Int) : Int := S.nxt p (9999 - u).toNat (u + 1)
abbrev St.gOK (S : St) (p u : Int) : Prop := 0 ≤ S.gA p u ∧ S.gB p u ≤ 9999 ∧ S.gB p u - S.gA p u ≤ 200
def St.nb (S : St) (p u : Int) : Int := if S.beside p.toNat < 0 then -1 else if 0 ≤ S.vw.which (S.beside p.toNat) (S.gA p u) S.now ∧ 0 ≤ S.vw.which (S.beside p.toNat) (S.gB p u) S.now ∧ 0 ≤ S.vw.which (S.beside p.toNat) u S.now then S.beside p.toNat else -1
def bwV (a b u f e : Int) : Int := a + ((b - a) * (u - f)).tdiv (e - f)
abbrev St.bw (S : St) (o p u : Int) : Int := bwV (S.vw.lvl o (S.gA p u) S.now) (S.vw.lvl o (S.gB p u) S.now) u (S.gA p u) (S.gB p u)
def St.filV (S : St) (p u : Int) : Int := if S.nb p u < 0 then S.bw p p u else S.bw p p u + S.vw.lvl (S.nb p u) u S.now - S.bw (S.nb p u) p u
abbrev St.pAt (S : St) (u : Int) (q : Nat) : Bool := decide (0 ≤ S.vw.which q u S.now)
def St.filL (S : St) (p u : Int) (j : Nat) : Int := if j = 0 then u.tdiv 96 else if j = 1 then u.tmod 96 else if j = 6 then S.gB p u - S.gA p u else if j = 7 then (cntN (S.pAt u) S.nP : Int) else if j = 8 then (if 0 ≤ S.nb p u then S.nb p u else 99) else 0
def St.fillOK (S : St) (p u : Int) : Int := if S.vw.inForce 1 (u.tdiv 96) S.now < 0 then 1 else S.vw.says (S.vw.inForce 1 (u.tdiv 96) S.now).toNat (S.filL p u)
def St.gapV (S : St) (p u w : Int) : Int := if w = 0 then S.filV p u else if w = 3 then (if 0 ≤ S.nb p u then 1 else 0) else if w = 1 then S.gA p u else S.gB p u
def St.gapR (S : St) (p u w : Int) : Int × St := if S.fillOK p u = 0 then S.far 2 else (S.gapV p u w, S)
def St.gap (S : St) (p u w : Int) : Int × St := if S.isP p then (if w < 0 then S.far 1 else if 3 < w then S.far 1 else if timV u u = 0 then (if 0 ≤ S.vw.which p u S.now then S.far 2 else if S.gOK p u then S.gapR p u w else S.far 4) else S.farV (timV u u)) else S.far 0
section GAP
variable {t t' F : Nat} {A A0 A' : rz_A} {S : St} {V : Vw} {p u k a b v w o q f e x y : Int} {cs : List Nat} {fs : List (Nat × Nat)} {i : Nat}
theorem prv_ch (S : St) (p : Int) : ∀ n : Nat, (-1 ≤ S.prv p n ∧ S.prv p n < n) ∧ (0 ≤ S.prv p n → 0 ≤ S.vw.which p (S.prv p n) S.now) ∧ ∀ x : Int, S.prv p n < x → x < n → 0 ≤ x → S.vw.which p x S.now < 0
  | 0 => ⟨⟨by show (-1 : Int) ≤ -1; omega, by show (-1 : Int) < ((0 : Nat) : Int); omega⟩, fun h => by have h2 : (0 : Int) ≤ -1 := h; omega, fun x _ h1 h2 => by omega⟩
  | n + 1 => by
    obtain ⟨h1, h2, h3⟩ := prv_ch S p n
    unfold St.prv
    by_cases c : 0 ≤ S.vw.which p n S.now
    · rw [if_pos c]
      exact ⟨⟨by omega, by omega⟩, fun _ => c, fun x a b d => by omega⟩
    · rw [if_neg c]
      refine ⟨⟨by omega, by omega⟩, h2, fun x a b d => ?_⟩
      by_cases e : x = n
      · rw [e]; omega
      · exact h3 x a (by omega) d
theorem nxt_ch (S : St) (p : Int) : ∀ (n : Nat) (x : Int), x + n = 10000 → (x ≤ S.nxt p n x ∧ S.nxt p n x ≤ 10000) ∧ (S.nxt p n x ≤ 9999 → 0 ≤ S.vw.which p (S.nxt p n x) S.now) ∧ ∀ y : Int, x ≤ y → y < S.nxt p n x → S.vw.which p y S.now < 0
  | 0, x, h => ⟨⟨by show x ≤ 10000; omega, by show (10000 : Int) ≤ 10000; omega⟩, fun h => by have h2 : (10000 : Int) ≤ 9999 := h; omega, fun y a b => by have h2 : y < 10000 := b; omega⟩
  | n + 1, x, h => by
    obtain ⟨h1, h2, h3⟩ := nxt_ch S p n (x + 1) (by omega)
    unfold St.nxt
    by_cases c : 0 ≤ S.vw.which p x S.now
    · rw [if_pos c]
      exact ⟨⟨by omega, by omega⟩, fun _ => c, fun y a b => by omega⟩
    · rw [if_neg c]
      refine ⟨⟨by omega, by omega⟩, h2, fun y a b => ?_⟩
      by_cases e : y = x
      · rw [e]; omega
      · exact h3 y (by omega) b
theorem gA_ch (hu : 0 ≤ u ∧ u ≤ 9999) : (-1 ≤ S.gA p u ∧ S.gA p u < u) ∧ (0 ≤ S.gA p u → 0 ≤ S.vw.which p (S.gA p u) S.now) ∧ ∀ x : Int, S.gA p u < x → x < u → 0 ≤ x → S.vw.which p x S.now < 0 := by
  have := prv_ch S p u.toNat
  unfold St.gA
  rw [show ((u.toNat : Nat) : Int) = u by omega] at this
  exact this
theorem gB_ch (hu : 0 ≤ u ∧ u ≤ 9999) : (u + 1 ≤ S.gB p u ∧ S.gB p u ≤ 10000) ∧ (S.gB p u ≤ 9999 → 0 ≤ S.vw.which p (S.gB p u) S.now) ∧ ∀ y : Int, u + 1 ≤ y → y < S.gB p u → S.vw.which p y S.now < 0 := nxt_ch S p (9999 - u).toNat (u + 1) (by omega)
theorem gA_eq (hu : 0 ≤ u ∧ u ≤ 9999) (h1 : 0 ≤ a ∧ a < u) (h2 : 0 ≤ S.vw.which p a S.now) (h3 : ∀ x : Int, a < x → x < u → S.vw.which p x S.now < 0) : S.gA p u = a := by
  obtain ⟨g1, g2, g3⟩ := gA_ch (S := S) (p := p) hu
  by_cases c1 : S.gA p u < a
  · have := g3 a c1 h1.2 h1.1; omega
  · by_cases c2 : a < S.gA p u
    · have := h3 _ c2 g1.2; have := g2 (by omega); omega
    · omega
theorem gA_none (hu : 0 ≤ u ∧ u ≤ 9999) (h3 : ∀ x : Int, 0 ≤ x → x < u → S.vw.which p x S.now < 0) : S.gA p u = -1 := by
  obtain ⟨g1, g2, g3⟩ := gA_ch (S := S) (p := p) hu
  by_cases c : 0 ≤ S.gA p u
  · have := h3 _ c g1.2; have := g2 c; omega
  · omega
theorem gB_eq (hu : 0 ≤ u ∧ u ≤ 9999) (h1 : u < b ∧ b ≤ 9999) (h2 : 0 ≤ S.vw.which p b S.now) (h3 : ∀ x : Int, u < x → x < b → S.vw.which p x S.now < 0) : S.gB p u = b := by
  obtain ⟨g1, g2, g3⟩ := gB_ch (S := S) (p := p) hu
  by_cases c1 : S.gB p u < b
  · have := h3 _ (by omega) c1; have := g2 (by omega); omega
  · by_cases c2 : b < S.gB p u
    · have := g3 b (by omega) c2; omega
    · omega
theorem gB_none (hu : 0 ≤ u ∧ u ≤ 9999) (h3 : ∀ x : Int, u < x → x ≤ 9999 → S.vw.which p x S.now < 0) : S.gB p u = 10000 := by
  obtain ⟨g1, g2, g3⟩ := gB_ch (S := S) (p := p) hu
  by_cases c : S.gB p u ≤ 9999
  · have := h3 _ (by omega) c; have := g2 c; omega
  · omega
theorem mul_s {a b : Int} {m n : Nat} (ha : a.natAbs ≤ m) (hb : b.natAbs ≤ n) : (a * b).natAbs ≤ m * n := by
  rw [Int.natAbs_mul]
  exact Nat.mul_le_mul ha hb
theorem tdiv_s {x y : Int} {m : Nat} (hx : x.natAbs ≤ m) (hy : 0 < y) : (x.tdiv y).natAbs ≤ m := by
  by_cases h0 : 0 ≤ x
  · have := tdiv_b h0 hy
    omega
  · have e : x.tdiv y = -((-x).tdiv y) := by rw [Int.neg_tdiv, Int.neg_neg]
    have := tdiv_b (x := -x) (y := y) (by omega) hy
    rw [e]
    omega
theorem bw_b (ha : -1000 ≤ a ∧ a ≤ 10998) (hb : -1000 ≤ b ∧ b ≤ 10998) (hu : f ≤ u ∧ u ≤ e) (he : f < e ∧ e - f ≤ 200) : ((b - a) * (u - f)).natAbs ≤ 12000 * 200 ∧ (((b - a) * (u - f)).tdiv (e - f)).natAbs ≤ 12000 * 200 := by
  have m1 := mul_s (a := b - a) (b := u - f) (m := 12000) (n := 200) (by omega) (by omega)
  exact ⟨m1, tdiv_s m1 (by omega)⟩
theorem endsC (h : SN A S S.now t) (hO : OK t S) (hF : 1000 ≤ F) (hp : 0 ≤ p ∧ p < 6) (hu : 0 ≤ u ∧ u ≤ 9999) (hw : S.vw.which p u S.now < 0) : Ret (x114_findEnds F p u A) (if S.gOK p u then 1 else 0) (fun A1 => SN A1 S S.now t ∧ (S.gOK p u → A1.1 87 2 = S.gA p u ∧ A1.1 87 3 = S.gB p u)) := by
  have hnH := hO.nH
  have hv := h.view
  have hn := hv.n
  have hn2 : A.1 51 10 ≤ S.nH := hn.2
  have hgA := gA_ch (S := S) (p := p) hu
  have hgB := gB_ch (S := S) (p := p) hu
  unfold x114_findEnds
  rw [keyC hp (by omega)]
  simp only [rz_b_some]
  obtain ⟨r, e1, e2, e3, e4⟩ := firstC (F := F) (v := p * 16384 + u) hv hnH hF
  rw [e1]
  simp only [rz_b_some]
  rw [g32p (by omega)]
  have no : ¬ S.gOK p u → ∀ B, SN B S S.now t → Ret (some ((0 : Int), B)) (if S.gOK p u then 1 else 0) (fun A1 => SN A1 S S.now t ∧ (S.gOK p u → A1.1 87 2 = S.gA p u ∧ A1.1 87 3 = S.gB p u)) := by
    intro hh B hB
    rw [if_neg hh]
    exact Ret.mk ⟨hB, fun h9 => absurd h9 hh⟩
  have ent : ∀ x : Int, 0 ≤ x → x ≤ 9999 → 0 ≤ S.vw.which p x S.now → ∃ y : Nat, (y : Int) < A.1 51 10 ∧ A.1 53 y = p * 16384 + x := fun x a b c => hv.cmp p x hp.1 hp.2 a b c
  by_cases c1 : 0 ≤ (r : Int) - 1
  · rw [if_pos c1]
    by_cases c2 : A.1 51 10 ≤ r
    · rw [if_pos c2]
      refine no (fun hh => ?_) A h
      have := gB_none (S := S) (p := p) hu (fun x a b => by
        by_cases c : S.vw.which p x S.now < 0
        · exact c
        · obtain ⟨y, h5, h6⟩ := ent x (by omega) b (by omega)
          have := e3 y (by omega)
          omega)
      have := hh.2.1
      omega
    · rw [if_neg c2]
      have er : ((r : Int) - 1).toNat = r - 1 := by omega
      obtain ⟨p1, u1, a1, a2, a3, a4, a5⟩ := hv.snd (r - 1) (by omega)
      obtain ⟨p2, u2, b1, b2, b3, b4, b5⟩ := hv.snd r (by omega)
      have k1 := tdiv_key a1 a2
      have k2 := tdiv_key b1 b2
      have lt1 := e3 (r - 1) (by omega)
      have ge2 := e4 r (Nat.le_refl _) (by omega)
      unfold x86_postOf
      rw [gxp (by omega) (by omega), er, a3, k1.1, g32p (by omega)]
      simp only [rz_b_some]
      by_cases c3 : p1 = p
      · rw [if_pos c3]
        rw [gxp (by omega) (by omega), Int.toNat_natCast, b3, k2.1, g32p (by omega)]
        simp only [rz_b_some]
        by_cases c4 : p2 = p
        · subst c3
          subst c4
          have hne : u2 ≠ u := fun hh => by rw [hh] at b4; omega
          have eA : S.gA p2 u = u1 := gA_eq hu ⟨a2.1, by omega⟩ a4 (fun x h5 h6 => by
            by_cases c : S.vw.which p2 x S.now < 0
            · exact c
            · obtain ⟨y, h7, h8⟩ := ent x (by omega) (by omega) (by omega)
              by_cases c9 : y < r
              · by_cases e9 : y = r - 1
                · rw [e9] at h8; omega
                · have := hv.sort y (r - 1) (by omega) (by omega); omega
              · have := e4 y (by omega) h7; omega)
          have eB : S.gB p2 u = u2 := gB_eq hu ⟨by omega, b2.2⟩ b4 (fun x h5 h6 => by
            by_cases c : S.vw.which p2 x S.now < 0
            · exact c
            · obtain ⟨y, h7, h8⟩ := ent x (by omega) (by omega) (by omega)
              by_cases c9 : y < r
              · have := e3 y c9; omega
              · by_cases e9 : y = r
                · rw [e9] at h8; omega
                · have := hv.sort r y (by omega) h7; omega)
          have q53 : (aI A 87 2 u1).1 53 = A.1 53 := rfl
          have q87 : (aI A 87 2 u1).1 87 2 = u1 := rfl
          rw [if_pos rfl]
          unfold x87_timeOf
          rw [gxp (by omega) (by omega), er, a3, k1.2, g32p (by omega)]
          simp only [rz_b_some]
          rw [gxp (by omega) (by omega), Int.toNat_natCast, q53, b3, k2.2, g32p (by omega)]
          simp only [rz_b_some]
          have frE : Fr [] [(87, 2), (87, 3)] A (aI (aI A 87 2 u1) 87 3 u2) := Fr.aI (Fr.aI Fr.rfl (Or.inr (by decide))) (Or.inr (by decide))
          rw [q87, g32p (by omega), ← eA, ← eB]
          rw [← eA, ← eB] at frE
          by_cases c5 : S.gB p2 u - S.gA p2 u ≤ 200
          · rw [if_pos c5, if_pos ⟨by omega, by omega, c5⟩]
            exact Ret.mk ⟨h.fr frE (by decide) (by decide), fun _ => ⟨rfl, rfl⟩⟩
          · rw [if_neg c5]
            exact no (fun hh => c5 hh.2.2) _ (h.fr frE (by decide) (by decide))
        · rw [if_neg c4]
          refine no (fun hh => ?_) A h
          have := gB_none (S := S) (p := p) hu (fun x h5 h6 => by
            by_cases c : S.vw.which p x S.now < 0
            · exact c
            · obtain ⟨y, h7, h8⟩ := ent x (by omega) h6 (by omega)
              by_cases c9 : y < r
              · have := e3 y c9; omega
              · by_cases e9 : y = r
                · rw [e9] at h8; omega
                · have := hv.sort r y (by omega) h7; omega)
          have := hh.2.1
          omega
      · rw [if_neg c3]
        refine no (fun hh => ?_) A h
        have := gA_none (S := S) (p := p) hu (fun x h5 h6 => by
          by_cases c : S.vw.which p x S.now < 0
          · exact c
          · obtain ⟨y, h7, h8⟩ := ent x h5 (by omega) (by omega)
            by_cases c9 : y < r
            · by_cases e9 : y = r - 1
              · rw [e9] at h8; omega
              · have := hv.sort y (r - 1) (by omega) (by omega); omega
            · have := e4 y (by omega) h7; omega)
        have := hh.1
        omega
  · rw [if_neg c1]
    refine no (fun hh => ?_) A h
    have := gA_none (S := S) (p := p) hu (fun x h5 h6 => by
      by_cases c : S.vw.which p x S.now < 0
      · exact c
      · obtain ⟨y, h7, h8⟩ := ent x h5 (by omega) (by omega)
        have := e4 y (by omega) h7; omega)
    have := hh.1
    omega
/-- the class's GAP -/
def Gp (A : rz_A) (S : St) (p u : Int) : Prop := A.1 87 2 = S.gA p u ∧ A.1 87 3 = S.gB p u
theorem nb_b (hO : OK t S) (hp : S.isP p) : -1 ≤ S.nb p u ∧ S.nb p u < S.nP := by
  have hb := hO.beside p.toNat (by omega)
  unfold St.nb
  repeat' split
  all_goals omega
theorem nbC (h : SN A S S.now t) (hO : OK t S) (hF : 1000 ≤ F) (hp : S.isP p) (hu : 0 ≤ u ∧ u ≤ 9999) (hg : S.gOK p u) (hA : Gp A S p u) : Ret (x115_findNeighbour F p u A) () (fun A1 => SN A1 S S.now t ∧ Gp A1 S p u ∧ A1.1 87 4 = S.nb p u) := by
  have hnP := hO.nP
  have hnH := hO.nH
  have hb := hO.beside p.toNat (by omega)
  have hgB := gB_ch (S := S) (p := p) hu
  have hgA := gA_ch (S := S) (p := p) hu
  unfold x115_findNeighbour St.nb
  rw [gxp (by omega) (by omega), h.rc.beside]
  have frx : ∀ (B : rz_A) (v : Int), Fr [] [(87, 4)] B (aI B 87 4 v) := fun B v => Fr.aI Fr.rfl (Or.inr (by decide))
  by_cases c1 : S.beside p.toNat < 0
  · rw [if_pos c1, if_pos c1]
    exact Ret.mk ⟨h.fr (frx _ _) (by decide) (by decide), hA, by show S.beside p.toNat = -1; omega⟩
  · rw [if_neg c1, if_neg c1, hA.1]
    have h1 := h.fr (frx A (S.beside p.toNat)) (by decide) (by decide)
    have q3 : (aI A 87 4 (S.beside p.toNat)).1 87 3 = S.gB p u := hA.2
    have q4 : (aI A 87 4 (S.beside p.toNat)).1 87 4 = S.beside p.toNat := rfl
    have hA1 : Gp (aI A 87 4 (S.beside p.toNat)) S p u := hA
    obtain ⟨r1, e1, e2⟩ := findC (F := F) (p := S.beside p.toNat) (u := S.gA p u) h1.view hnH hF (by omega) (by omega)
    obtain ⟨r2, e3, e4⟩ := findC (F := F) (p := S.beside p.toNat) (u := S.gB p u) h1.view hnH hF (by omega) (by omega)
    obtain ⟨r3, e5, e6⟩ := findC (F := F) (p := S.beside p.toNat) (u := u) h1.view hnH hF (by omega) (by omega)
    have no : ∀ B, SN B S S.now t → Gp B S p u → ¬ (0 ≤ S.vw.which (S.beside p.toNat) (S.gA p u) S.now ∧ 0 ≤ S.vw.which (S.beside p.toNat) (S.gB p u) S.now ∧ 0 ≤ S.vw.which (S.beside p.toNat) u S.now) → Ret (some ((), aI B 87 4 (-1))) () (fun A1 => SN A1 S S.now t ∧ Gp A1 S p u ∧ A1.1 87 4 = if 0 ≤ S.vw.which (S.beside p.toNat) (S.gA p u) S.now ∧ 0 ≤ S.vw.which (S.beside p.toNat) (S.gB p u) S.now ∧ 0 ≤ S.vw.which (S.beside p.toNat) u S.now then S.beside p.toNat else -1) := by
      intro B hB hG hn
      rw [if_neg hn]
      exact Ret.mk ⟨hB.fr (frx _ _) (by decide) (by decide), hG, rfl⟩
    rw [e1]
    simp only [rz_b_some]
    rcases e2 with g | g
    · rw [if_neg (by omega)]
      exact no _ h1 hA1 (fun hh => by have := hh.1; omega)
    · rw [if_pos g.1, q4, q3, e3]
      simp only [rz_b_some]
      rcases e4 with g2 | g2
      · rw [if_neg (by omega)]
        exact no _ h1 hA1 (fun hh => by have := hh.2.1; omega)
      · rw [if_pos g2.1, q4, e5]
        simp only [rz_b_some]
        rcases e6 with g3 | g3
        · rw [if_neg (by omega)]
          exact no _ h1 hA1 (fun hh => by have := hh.2.2; omega)
        · rw [if_pos g3.1, if_pos ⟨g.2.2.1, g2.2.2.1, g3.2.2.1⟩]
          exact Ret.mk ⟨h1, hA1, rfl⟩
theorem postsAtC (h : SN A S S.now t) (hO : OK t S) (hF : 1000 ≤ F) (hu : 0 ≤ u ∧ u ≤ 9999) : ∀ (n j : Nat), j ≤ S.nP → S.nP < n + j → x117_postsAt_4 F n u (cntN (S.pAt u) j) j A = some ((cntN (S.pAt u) S.nP : Int), A) := by
  have hnP := hO.nP
  have hnH := hO.nH
  intro n
  induction n with
  | zero => intro j h1 h2; omega
  | succ n ih =>
    intro j h1 h2
    have hle := cntN_le (S.pAt u) j
    unfold x117_postsAt_4
    rw [h.rc.nP]
    by_cases hj : j < S.nP
    · have ih' := ih (j + 1) (by omega) (by omega)
      rw [show cntN (S.pAt u) (j + 1) = cntN (S.pAt u) j + if S.pAt u j then 1 else 0 from rfl] at ih'
      obtain ⟨r1, e1, e2⟩ := findC (F := F) (p := (j : Int)) (u := u) h.view hnH hF (by omega) hu
      rw [if_pos (by omega), e1]
      simp only [rz_b_some]
      rcases e2 with g | g
      · rw [if_neg (by simp; omega)] at ih'
        rw [if_neg (by omega), g32p (by omega)]
        exact ih'
      · rw [if_pos (decide_eq_true g.2.2.1)] at ih'
        rw [if_pos g.1, g32p (by omega), g32p (by omega)]
        exact ih'
    · have ej : j = S.nP := by omega
      rw [if_neg (by omega), ej]
theorem filL_b (hO : OK t S) (hp : S.isP p) (hu : 0 ≤ u ∧ u ≤ 9999) : ∀ j, j < 13 → -1000000000 ≤ S.filL p u j ∧ S.filL p u j ≤ 1000000000 := by
  intro j hj
  have hnP := hO.nP
  have e1 := tdiv96 hu.1
  have e2 := tmod96 hu.1
  have h1 := nb_b (u := u) hO hp
  have h2 := gA_ch (S := S) (p := p) hu
  have h3 := gB_ch (S := S) (p := p) hu
  have h4 := cntN_le (S.pAt u) S.nP
  unfold St.filL
  repeat' split
  all_goals omega
theorem filLetC (h8 : ∀ j, j < 13 → A.1 49 j = if j = 0 then u.tdiv 96 else if j = 1 then u.tmod 96 else 0) (hv : v = if 0 ≤ S.nb p u then S.nb p u else 99) : ∀ j, j < 13 → (aI (aI (aI A 49 6 (S.gB p u - S.gA p u)) 49 7 (cntN (S.pAt u) S.nP : Int)) 49 8 v).1 49 j = S.filL p u j := by
  intro j hj
  match j, hj with
  | 0, _ => exact h8 0 (by decide)
  | 1, _ => exact h8 1 (by decide)
  | 2, _ => exact h8 2 (by decide)
  | 3, _ => exact h8 3 (by decide)
  | 4, _ => exact h8 4 (by decide)
  | 5, _ => exact h8 5 (by decide)
  | 6, _ => rfl
  | 7, _ => rfl
  | 8, _ => exact hv
  | 9, _ => exact h8 9 (by decide)
  | 10, _ => exact h8 10 (by decide)
  | 11, _ => exact h8 11 (by decide)
  | 12, _ => exact h8 12 (by decide)
  | j + 13, h => exact absurd h (by omega)
theorem filLetM (h8 : ∀ j, j < 26 → A.2 133 j = if j = 3 then u.tdiv 96 else if j = 12 then u.tmod 96 else 0) (hv : v = if 0 ≤ S.nb p u then S.nb p u else 99) : ∀ j, j < 13 → (aL (aL (aL A 133 6 (S.gB p u - S.gA p u)) 133 7 (cntN (S.pAt u) S.nP : Int)) 133 13 v).2 133 (lpos j) = S.filL p u j := by
  intro j hj
  match j, hj with
  | 0, _ => exact h8 3 (by decide)
  | 1, _ => exact h8 12 (by decide)
  | 2, _ => exact h8 17 (by decide)
  | 3, _ => exact h8 10 (by decide)
  | 4, _ => exact h8 0 (by decide)
  | 5, _ => exact h8 1 (by decide)
  | 6, _ => rfl
  | 7, _ => rfl
  | 8, _ => exact hv
  | 9, _ => exact h8 5 (by decide)
  | 10, _ => exact h8 22 (by decide)
  | 11, _ => exact h8 23 (by decide)
  | 12, _ => exact h8 8 (by decide)
  | j + 13, h => exact absurd h (by omega)
theorem fillC (h : SN A S S.now t) (hO : OK t S) (hF : 1000 ≤ F) (hp : S.isP p) (hu : 0 ≤ u ∧ u ≤ 9999) (hA : Gp A S p u) (hA4 : A.1 87 4 = S.nb p u) : Ret (x116_fillLets F u A) (S.fillOK p u) (fun A1 => SN A1 S S.now t ∧ Gp A1 S p u ∧ A1.1 87 4 = S.nb p u) := by
  have hnP := hO.nP
  have e96 := tdiv96 hu.1
  have hgB := gB_ch (S := S) (p := p) hu
  have hgA := gA_ch (S := S) (p := p) hu
  unfold x116_fillLets St.fillOK
  rw [g32p (by omega), h.rc.now, forceC h.rc hO hF]
  simp only [rz_b_some]
  have hfb := S.vw.fAcc_lt (q := 1) (dy := u.tdiv 96) (k := S.now) S.nS
  have hfb2 : S.vw.inForce 1 (u.tdiv 96) S.now < S.nS := hfb.1
  by_cases hs : S.vw.inForce 1 (u.tdiv 96) S.now < 0
  · rw [if_pos hs, if_pos hs]
    exact Ret.mk ⟨h, hA, hA4⟩
  · rw [if_neg hs, if_neg hs]
    generalize hsg : S.vw.inForce 1 (u.tdiv 96) S.now = si at *
    refine Ret.bind (lettersC (A := A) hF hu) (fun B eB hB => ?_)
    have frB := wx23_lettersOf F eB
    have b2 : B.1 87 2 = S.gA p u := ((frB.slot (c := 87) (k := 2) (by decide) (by decide)).1).trans hA.1
    have b3 : B.1 87 3 = S.gB p u := ((frB.slot (c := 87) (k := 3) (by decide) (by decide)).1).trans hA.2
    have b4 : B.1 87 4 = S.nb p u := ((frB.slot (c := 87) (k := 4) (by decide) (by decide)).1).trans hA4
    have frx : ∀ (j : Nat) (v : Int) (C : rz_A), Fr [49] [] C (aI C 49 j v) := fun j v C => Fr.aI Fr.rfl (Or.inl (by decide))
    have fr1 : Fr [49] [] A (aI B 49 6 (S.gB p u - S.gA p u)) := (frB.mono (by decide) (by decide)).trans (frx _ _ _)
    have hS1 := h.fr fr1 (by decide) (by decide)
    rw [b2, b3, g32p (by omega)]
    unfold x117_postsAt
    have hpa := postsAtC (F := F) hS1 hO hF hu F 0 (by omega) (by omega)
    have hpa' : x117_postsAt_4 F F u 0 0 (aI B 49 6 (S.gB p u - S.gA p u)) = some ((cntN (S.pAt u) S.nP : Int), aI B 49 6 (S.gB p u - S.gA p u)) := hpa
    rw [hpa']
    simp only [rz_b_some]
    have b4' : (aI B 49 6 (S.gB p u - S.gA p u)).1 87 4 = S.nb p u := b4
    rw [b4']
    have fin : ∀ v : Int, v = (if 0 ≤ S.nb p u then S.nb p u else 99) → Ret (rz_b (x25_holds F si (aI (aI (aI B 49 6 (S.gB p u - S.gA p u)) 49 7 (cntN (S.pAt u) S.nP : Int)) 49 8 v)) fun r A => rz_gz r (some (r, A))) (S.vw.says si.toNat (S.filL p u)) (fun A1 => SN A1 S S.now t ∧ Gp A1 S p u ∧ A1.1 87 4 = S.nb p u) := by
      intro v hv
      have fr2 : Fr [49] [] A (aI (aI (aI B 49 6 (S.gB p u - S.gA p u)) 49 7 (cntN (S.pAt u) S.nP : Int)) 49 8 v) := (fr1.trans (frx _ _ _)).trans (frx _ _ _)
      have hS2 := h.fr fr2 (by decide) (by decide)
      have hsy := holdsC (F := F) hS2.rc hO hF (s := si.toNat) (by omega) (filL_b (p := p) (u := u) hO hp hu) (filLetC hB hv)
      rw [show ((si.toNat : Nat) : Int) = si by omega] at hsy
      refine Ret.bind hsy (fun A9 e9 _ => ?_)
      have fr9 := wx25_holds F e9
      refine Ret.gz (S.vw.says01 _ _) (Ret.mk ⟨hS2.fr fr9 (by decide) (by decide), ⟨?_, ?_⟩, ?_⟩)
      · exact ((fr9.slot (c := 87) (k := 2) (by decide) (by decide)).1).trans b2
      · exact ((fr9.slot (c := 87) (k := 3) (by decide) (by decide)).1).trans b3
      · exact ((fr9.slot (c := 87) (k := 4) (by decide) (by decide)).1).trans b4
    by_cases c : 0 ≤ S.nb p u
    · rw [if_pos c]
      exact fin _ (by rw [if_pos c])
    · rw [if_neg c]
      exact fin _ (by rw [if_neg c])
theorem betwC (h : SN A S S.now t) (hO : OK t S) (hF : 1000 ≤ F) (ho : S.isP o) (hu : 0 ≤ u ∧ u ≤ 9999) (hg : S.gOK p u) (hA : Gp A S p u) (h1 : 0 ≤ S.vw.which o (S.gA p u) S.now) (h2 : 0 ≤ S.vw.which o (S.gB p u) S.now) : x119_between F o u A = some (S.bw o p u, A) := by
  have hnP := hO.nP
  have hnH := hO.nH
  have hn := h.view.n
  have hn2 : A.1 51 10 ≤ S.nH := hn.2
  have hgB := gB_ch (S := S) (p := p) hu
  have hgA := gA_ch (S := S) (p := p) hu
  have l1 := lvl_b hO ho h1
  have l2 := lvl_b hO ho h2
  have hb := bw_b (u := u) (f := S.gA p u) (e := S.gB p u) l1 l2 (by omega) (by omega)
  obtain ⟨r1, e1, e2⟩ := findC (F := F) (p := o) (u := S.gA p u) h.view hnH hF (by omega) (by omega)
  obtain ⟨r2, e3, e4⟩ := findC (F := F) (p := o) (u := S.gB p u) h.view hnH hF (by omega) (by omega)
  unfold x119_between
  rw [hA.1, e1]
  simp only [rz_b_some]
  rw [hA.2, e3]
  simp only [rz_b_some]
  rcases e2 with g | g
  · omega
  · rcases e4 with g2 | g2
    · omega
    · rw [if_pos g.1, if_neg (by omega), gxp (by omega) (by omega), gxp (by omega) (by omega), g.2.2.2.2, g2.2.2.2.2, hA.1, hA.2, g32p (by omega), g32p (by omega), g32p (by omega), shareC (by omega) (by omega) (by omega)]
      simp only [rz_b_some]
      rw [g.2.2.2.2, g32p (by omega), g32p (by omega)]
      rfl
theorem nb_w (hn : 0 ≤ S.nb p u) : 0 ≤ S.vw.which (S.nb p u) (S.gA p u) S.now ∧ 0 ≤ S.vw.which (S.nb p u) (S.gB p u) S.now ∧ 0 ≤ S.vw.which (S.nb p u) u S.now := by
  unfold St.nb at hn ⊢
  split at hn
  · omega
  · split at hn
    · rename_i c1 c2
      rw [if_neg c1, if_pos c2]
      exact c2
    · omega
theorem gapC (h : DC A S t) (hO : OK t S) (ht : t < 512) (hF : 1000 ≤ F) : Ret (x113_gap F p u w A) (S.gap p u w).1 (fun A1 => DC A1 (S.gap p u w).2 (t + 1)) := by
  have h2 := hO.nP
  have hnH := hO.nH
  unfold x113_gap St.gap
  by_cases hp : S.isP p
  · rw [hasC1 h.1 hp, if_pos hp]
    simp only [rz_b_some]
    rw [if_neg (by decide)]
    by_cases w0 : w < 0
    · rw [if_neg (by omega), if_pos w0]
      exact lk2 h.up hO ht (by decide) (by decide)
    · rw [if_pos (by omega), if_neg w0]
      by_cases w1 : 3 < w
      · rw [if_pos w1, if_pos w1]
        exact lk2 h.up hO ht (by decide) (by decide)
      · rw [if_neg w1, if_neg w1, timC]
        simp only [rz_b_some]
        by_cases hk : timV u u = 0
        · rw [if_pos hk, if_pos hk, h.1.now]
          have hu := (timV_0 hk).1
          refine Ret.bind (seeSN h hO ht hF hO.now) (fun A1 e1 hS => ?_)
          obtain ⟨r, e2, e3⟩ := findC (F := F) (p := p) (u := u) hS.view hnH hF (by omega) hu
          rw [e2]
          simp only [rz_b_some]
          rcases e3 with g | g
          · rw [if_neg (by omega), if_neg (by omega : ¬ 0 ≤ S.vw.which p u S.now)]
            refine Ret.bind (endsC hS hO.mono hF (by omega) hu g.2) (fun A2 e4 hA => ?_)
            by_cases hg : S.gOK p u
            · rw [if_pos hg, if_neg (by decide), if_pos hg]
              have hGp := hA.2 hg
              have hgB := gB_ch (S := S) (p := p) hu
              have hgA := gA_ch (S := S) (p := p) hu
              refine Ret.bind (nbC hA.1 hO.mono hF hp hu hg hGp) (fun A3 e5 hA3 => ?_)
              refine Ret.bind (fillC hA3.1 hO.mono hF hp hu hA3.2.1 hA3.2.2) (fun A4 e6 hA4 => ?_)
              unfold St.gapR
              by_cases c1 : S.fillOK p u = 0
              · rw [if_pos c1, if_pos c1]
                exact lk2 hA4.1.dc hO ht (by decide) (by decide)
              · rw [if_neg c1, if_neg c1, hA4.2.2, hA4.2.1.1, hA4.2.1.2]
                unfold St.gapV
                by_cases w2 : w = 0
                · rw [if_pos w2, if_pos w2]
                  unfold x118_filled St.filV
                  have hnb := nb_b (u := u) hO hp
                  have l1 := lvl_b hO hp (hgA.2.1 hg.1)
                  have l2 := lvl_b hO hp (hgB.2.1 hg.2.1)
                  have hb := bw_b (u := u) (f := S.gA p u) (e := S.gB p u) l1 l2 (by omega) (by have := hg; omega)
                  have hbw : S.bw p p u = S.vw.lvl p (S.gA p u) S.now + ((S.vw.lvl p (S.gB p u) S.now - S.vw.lvl p (S.gA p u) S.now) * (u - S.gA p u)).tdiv (S.gB p u - S.gA p u) := rfl
                  rw [betwC hA4.1 hO.mono hF hp hu hg hA4.2.1 (hgA.2.1 hg.1) (hgB.2.1 hg.2.1)]
                  simp only [rz_b_some]
                  rw [hA4.2.2]
                  by_cases c2 : S.nb p u < 0
                  · rw [if_pos c2, if_pos c2]
                    exact Ret.mk hA4.1.dc
                  · rw [if_neg c2, if_neg c2]
                    have hnw := nb_w (S := S) (p := p) (u := u) (by omega)
                    have hon : S.isP (S.nb p u) := ⟨by omega, hnb.2⟩
                    have k1 := lvl_b hO hon hnw.1
                    have k2 := lvl_b hO hon hnw.2.1
                    have k3 := lvl_b hO hon hnw.2.2
                    have hb2 := bw_b (u := u) (f := S.gA p u) (e := S.gB p u) k1 k2 (by omega) (by have := hg; omega)
                    have hbw2 : S.bw (S.nb p u) p u = S.vw.lvl (S.nb p u) (S.gA p u) S.now + ((S.vw.lvl (S.nb p u) (S.gB p u) S.now - S.vw.lvl (S.nb p u) (S.gA p u) S.now) * (u - S.gA p u)).tdiv (S.gB p u - S.gA p u) := rfl
                    obtain ⟨r3, e7, e8⟩ := findC (F := F) (p := S.nb p u) (u := u) hA4.1.view hnH hF (by omega) hu
                    have hn4 := hA4.1.view.n
                    have hn5 : A4.1 51 10 ≤ S.nH := hn4.2
                    rw [e7]
                    simp only [rz_b_some]
                    rcases e8 with g2 | g2
                    · omega
                    · rw [if_neg (by omega), gxp (by omega) (by omega), g2.2.2.2.2, hA4.2.2, g32p (by omega), betwC hA4.1 hO.mono hF hon hu hg hA4.2.1 hnw.1 hnw.2.1]
                      simp only [rz_b_some]
                      rw [g32p (by omega)]
                      exact Ret.mk hA4.1.dc
                · rw [if_neg w2, if_neg w2]
                  by_cases w3 : w = 3
                  · rw [if_pos w3, if_pos w3]
                    by_cases c2 : 0 ≤ S.nb p u
                    · rw [if_pos c2, if_pos c2]
                      exact Ret.mk hA4.1.dc
                    · rw [if_neg c2, if_neg c2]
                      exact Ret.mk hA4.1.dc
                  · rw [if_neg w3, if_neg w3]
                    by_cases w4 : w = 1
                    · rw [if_pos w4, if_pos w4]
                      exact Ret.mk hA4.1.dc
                    · rw [if_neg w4, if_neg w4]
                      exact Ret.mk hA4.1.dc
            · rw [if_neg hg, if_pos rfl, if_neg hg]
              exact lk2 hA.1.dc hO ht (by decide) (by decide)
          · rw [if_pos g.1, if_pos g.2.2.1]
            exact lk2 hS.dc hO ht (by decide) (by decide)
        · rw [if_neg hk, if_neg hk]
          exact lk2v h.up hO ht (timV_n hk)
  · rw [hasC0 h.1 hp, if_neg hp]
    simp only [rz_b_some]
    rw [if_pos (by decide)]
    exact lk2 h.up hO ht (by decide) (by decide)
end GAP
