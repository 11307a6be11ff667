set_option maxRecDepth 8000
section ZBASE
variable {t F : Nat} {A A1 : rz_A} {S : St} {p s a b r : Int} {q : Nat}
abbrev zRows : List Nat := [1, 69, 70, 71, 72, 73, 74, 75, 76, 77, 78, 79, 80, 81, 82, 83, 84, 85, 86]
theorem memz (hq : q < 6) : 69 + 3 * q ∈ zRows ∧ 70 + 3 * q ∈ zRows ∧ 71 + 3 * q ∈ zRows := by
  match q, hq with
  | 0, _ => decide
  | 1, _ => decide
  | 2, _ => decide
  | 3, _ => decide
  | 4, _ => decide
  | 5, _ => decide
  | p + 6, hp => exact absurd hp (by omega)
theorem base_lf {B : rz_A} {x : Int} (f : Fr zRows [] A B) (e : (rz_b (x1_refuse F x B) fun r A => some (r, A)) = some (r, A1)) : Fr zRows [] A A1 := by
  obtain ⟨r2, B2, e2, e3⟩ := rz_b_inv e
  cases e3
  exact f.trans ((wx1_refuse F e2).mono (by decide) (by decide))
theorem base_fr (h : RC A S) (hO : OK t S) (e : x94_base F p s a b A = some (r, A1)) : Fr zRows [] A A1 := by
  have hnP := hO.nP
  have fr : Fr zRows [] A A := Fr.rfl
  by_cases hp : S.isP p
  · obtain ⟨q, rfl⟩ : ∃ q : Nat, p = q := ⟨p.toNat, by omega⟩
    have hq : q < 6 := by omega
    rw [base_step hq, hasC1 h hp] at e
    simp only [rz_b_some] at e
    rw [if_neg (by decide)] at e
    obtain ⟨_, _, e⟩ := rz_gx_inv e
    by_cases c1 : 0 ≤ s
    · rw [if_pos c1] at e
      by_cases c2 : A.1 (69 + 3 * q) 0 < s
      · rw [if_pos c2] at e
        exact base_lf fr e
      · rw [if_neg c2] at e
        by_cases c3 : -9999 ≤ a
        · rw [if_pos c3] at e
          by_cases c4 : 0 ≤ b
          · rw [if_pos c4] at e
            obtain ⟨r2, B2, e2, e⟩ := rz_b_inv e
            have fr2 : Fr zRows [] A B2 := (wx95_falls_b F q e2).mono (by decide) (by decide)
            by_cases c5 : r2 = 0
            · rw [if_pos c5] at e
              by_cases c6 : a ≤ 99999
              · rw [if_pos c6] at e
                by_cases c7 : b ≤ 99999
                · rw [if_pos c7] at e
                  by_cases c8 : 8 ≤ s
                  · rw [if_pos c8] at e
                    exact base_lf fr2 e
                  · rw [if_neg c8] at e
                    obtain ⟨r3, B3, e3, e⟩ := rz_b_inv e
                    cases e
                    unfold x96_putAt_b at e3
                    rw [gxp (by omega) (by omega), g32p (by omega)] at e3
                    cases e3
                    have hm := memz hq
                    exact Fr.aI (Fr.aI (Fr.aI fr2 (Or.inl hm.2.1)) (Or.inl hm.2.2)) (Or.inl hm.1)
                · rw [if_neg c7] at e
                  exact base_lf fr2 e
              · rw [if_neg c6] at e
                exact base_lf fr2 e
            · rw [if_neg c5] at e
              exact base_lf fr2 e
          · rw [if_neg c4] at e
            exact base_lf fr e
        · rw [if_neg c3] at e
          exact base_lf fr e
    · rw [if_neg c1] at e
      exact base_lf fr e
  · unfold x94_base at e
    rw [hasC0 h hp] at e
    simp only [rz_b_some] at e
    rw [if_pos (by decide)] at e
    exact base_lf fr e
end ZBASE
