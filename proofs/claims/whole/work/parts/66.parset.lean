set_option maxRecDepth 8000
def TM (S : St) (F d : Nat) (f : Nat → List Int → Res) : Prop := ∀ (v1 : Int) (fu : Nat) (A : rz_A) (i : Nat) (M O : List Int), MS A S i M O → dp O = d → i ≤ S.nT → M.length + O.length ≤ i → 0 ≤ v1 → v1 ≤ i → 2 * (S.nT - i) + 2 ≤ fu → ((f i M).1 = false → Ret (x169_isText_24 F fu v1 1 A) 0 (fun A1 => A1.1 91 57 = ((f i M).2.1 : Int))) ∧ ((f i M).1 = true → ∃ fu' A', x169_isText_24 F fu v1 1 A = x169_isText_24 F fu' v1 0 A' ∧ MS A' S (f i M).2.1 (dn (f i M).2.2 O).1 (dn (f i M).2.2 O).2 ∧ 2 * (S.nT - (f i M).2.1) + 1 ≤ fu')
def AM (S : St) (F d : Nat) (f : Nat → List Int → Res) : Prop := ∀ (v1 : Int) (fu : Nat) (A : rz_A) (i : Nat) (L R : List Int), MS A S i L R → NA R → dp R = d → i ≤ S.nT → L.length + R.length ≤ i → 0 ≤ v1 → v1 ≤ i → 2 * (S.nT - i) + 2 ≤ fu → ((f i L).1 = false → Ret (x169_isText_24 F fu v1 1 A) 0 (fun A1 => A1.1 91 57 = ((f i L).2.1 : Int))) ∧ ((f i L).1 = true → ∃ fu' A', x169_isText_24 F fu v1 1 A = x169_isText_24 F fu' v1 0 A' ∧ AS A' S (f i L).2.1 (f i L).2.2 R ∧ 2 * (S.nT - (f i L).2.1) + 1 ≤ fu' ∧ ¬ S.chr (f i L).2.1 = 38)
def OM (S : St) (F d : Nat) (f : Nat → List Int → Res) : Prop := ∀ (v1 : Int) (fu : Nat) (A : rz_A) (i : Nat) (L B : List Int), MS A S i L B → NB B → dp B = d → i ≤ S.nT → L.length + B.length ≤ i → 0 ≤ v1 → v1 ≤ i → 2 * (S.nT - i) + 2 ≤ fu → ((f i L).1 = false → Ret (x169_isText_24 F fu v1 1 A) 0 (fun A1 => A1.1 91 57 = ((f i L).2.1 : Int))) ∧ ((f i L).1 = true → ∃ fu' A', x169_isText_24 F fu v1 1 A = x169_isText_24 F fu' v1 0 A' ∧ OS A' S (f i L).2.1 (f i L).2.2 B ∧ 2 * (S.nT - (f i L).2.1) + 1 ≤ fu' ∧ ¬ S.chr (f i L).2.1 = 38 ∧ ¬ S.chr (f i L).2.1 = 124)
section PARSET
variable {t t' F : Nat} {A A0 A' A1 : rz_A} {S S' : St} {p u k a b c v w v1 v2 o e : Int} {q m i j n z i0 d fu : Nat} {L L' M O R B : List Int} {f g : Nat → List Int → Res}
theorem bfalse {x : Bool} (h : ¬ x = true) : x = false := by simpa using h
theorem andsM_l (hO : OK t S) (hF : 1000 ≤ F) (gf : Gd S f) (hf : TM S F d f) (hR : NA R) (hd : dp R = d) (hv : 0 ≤ v1) : ∀ (z fu : Nat) (A : rz_A) (i : Nat) (L : List Int), AS A S i L R → i ≤ S.nT → L.length + R.length ≤ i → v1 ≤ i → 61 ≤ i + z → 2 * (S.nT - i) + 1 ≤ fu → ((S.pl f 38 (-21) z i L).1 = false → Ret (x169_isText_24 F fu v1 0 A) 0 (fun A1 => A1.1 91 57 = ((S.pl f 38 (-21) z i L).2.1 : Int))) ∧ ((S.pl f 38 (-21) z i L).1 = true → ∃ fu' A', x169_isText_24 F fu v1 0 A = x169_isText_24 F fu' v1 0 A' ∧ AS A' S (S.pl f 38 (-21) z i L).2.1 (S.pl f 38 (-21) z i L).2.2 R ∧ 2 * (S.nT - (S.pl f 38 (-21) z i L).2.1) + 1 ≤ fu' ∧ ¬ S.chr (S.pl f 38 (-21) z i L).2.1 = 38) := by
  have hn := hO.nT
  intro z
  induction z with
  | zero => intro fu A i L h hi hl h1 h2; omega
  | succ z ih =>
    intro fu A i L h hi hl h1 h2 h3
    have e0 : S.pl f 38 (-21) (z + 1) i L = if S.chr i = 38 then (if (f (i + 1) L).1 = true then S.pl f 38 (-21) z (f (i + 1) L).2.1 (-21 :: (f (i + 1) L).2.2) else f (i + 1) L) else (true, i, L) := rfl
    rw [e0]
    by_cases c1 : S.chr i = 38
    · have hin := chr_in (S := S) (i := i) (by omega)
      obtain ⟨fu, rfl⟩ : ∃ n, fu = n + 1 := ⟨fu - 1, by omega⟩
      obtain ⟨A2, e2, hA⟩ := and_step (F := F) (n := fu) (v1 := v1) h hO hR hl c1 hF
      have hg := gf (i + 1) L (by omega)
      have ht := hf v1 fu A2 (i + 1) L (-41 :: R) hA hd (by omega) (by show L.length + (R.length + 1) ≤ i + 1; omega) hv (by omega) (by omega)
      rw [if_pos c1, e2]
      by_cases c2 : (f (i + 1) L).1 = true
      · obtain ⟨fu', A3, e3, hB, hfu⟩ := ht.2 c2
        have hg4 := hg.2.2.2 c2
        rw [if_pos c2, e3]
        exact ih fu' A3 _ _ (Or.inr ⟨_, rfl, hB⟩) (by omega) (by show (f (i + 1) L).2.2.length + 1 + R.length ≤ _; omega) (by omega) (by omega) hfu
      · rw [if_neg c2]
        exact ⟨fun hh => ht.1 hh, fun hh => absurd hh c2⟩
    · rw [if_neg c1]
      exact ⟨fun hh => Bool.noConfusion hh, fun _ => ⟨fu, A, rfl, h, h3, c1⟩⟩
theorem andsM (hO : OK t S) (hF : 1000 ≤ F) (gf : Gd S f) (hf : TM S F d f) : AM S F d (S.pq f 38 (-21)) := fun v1 fu A i L R h hR hd hi hl hv hv2 hfu => by
  have hg := gf i L hi
  have ht := hf v1 fu A i L R h hd hi hl hv hv2 hfu
  have e0 : S.pq f 38 (-21) i L = if (f i L).1 = true then S.pl f 38 (-21) 60 (f i L).2.1 (f i L).2.2 else f i L := rfl
  rw [e0]
  by_cases c2 : (f i L).1 = true
  · obtain ⟨fu', A3, e3, hB, hfu'⟩ := ht.2 c2
    have hg4 := hg.2.2.2 c2
    rw [dn_na hR] at hB
    rw [if_pos c2, e3]
    exact andsM_l hO hF gf hf hR hd hv 60 fu' A3 _ _ (Or.inl hB) (by omega) (by omega) (by omega) (by omega) hfu'
  · rw [if_neg c2]
    exact ⟨fun hh => ht.1 hh, fun hh => absurd hh c2⟩
theorem orsM_l (hO : OK t S) (hF : 1000 ≤ F) (gf : Gd S f) (hf : AM S F d f) (hB : NB B) (hd : dp B = d) (hv : 0 ≤ v1) : ∀ (z fu : Nat) (A : rz_A) (i : Nat) (L : List Int), OS A S i L B → ¬ S.chr i = 38 → i ≤ S.nT → L.length + B.length ≤ i → v1 ≤ i → 61 ≤ i + z → 2 * (S.nT - i) + 1 ≤ fu → ((S.pl f 124 (-22) z i L).1 = false → Ret (x169_isText_24 F fu v1 0 A) 0 (fun A1 => A1.1 91 57 = ((S.pl f 124 (-22) z i L).2.1 : Int))) ∧ ((S.pl f 124 (-22) z i L).1 = true → ∃ fu' A', x169_isText_24 F fu v1 0 A = x169_isText_24 F fu' v1 0 A' ∧ OS A' S (S.pl f 124 (-22) z i L).2.1 (S.pl f 124 (-22) z i L).2.2 B ∧ 2 * (S.nT - (S.pl f 124 (-22) z i L).2.1) + 1 ≤ fu' ∧ ¬ S.chr (S.pl f 124 (-22) z i L).2.1 = 38 ∧ ¬ S.chr (S.pl f 124 (-22) z i L).2.1 = 124) := by
  have hn := hO.nT
  intro z
  induction z with
  | zero => intro fu A i L h h38 hi hl h1 h2; omega
  | succ z ih =>
    intro fu A i L h h38 hi hl h1 h2 h3
    have e0 : S.pl f 124 (-22) (z + 1) i L = if S.chr i = 124 then (if (f (i + 1) L).1 = true then S.pl f 124 (-22) z (f (i + 1) L).2.1 (-22 :: (f (i + 1) L).2.2) else f (i + 1) L) else (true, i, L) := rfl
    rw [e0]
    by_cases c1 : S.chr i = 124
    · have hin := chr_in (S := S) (i := i) (by omega)
      obtain ⟨fu, rfl⟩ : ∃ n, fu = n + 1 := ⟨fu - 1, by omega⟩
      obtain ⟨A2, e2, hA⟩ := or_step (F := F) (n := fu) (v1 := v1) h hO hB hl c1 hF
      have hg := gf (i + 1) L (by omega)
      have ht := hf v1 fu A2 (i + 1) L (-40 :: B) hA (fun o R' e => by injection e with e1 _; exact Or.inl e1.symm) hd (by omega) (by show L.length + (B.length + 1) ≤ i + 1; omega) hv (by omega) (by omega)
      rw [if_pos c1, e2]
      by_cases c2 : (f (i + 1) L).1 = true
      · obtain ⟨fu', A3, e3, hB, hfu, h38'⟩ := ht.2 c2
        have hg4 := hg.2.2.2 c2
        rw [if_pos c2, e3]
        exact ih fu' A3 _ _ (Or.inr ⟨_, rfl, hB⟩) h38' (by omega) (by show (f (i + 1) L).2.2.length + 1 + B.length ≤ _; omega) (by omega) (by omega) hfu
      · rw [if_neg c2]
        exact ⟨fun hh => ht.1 hh, fun hh => absurd hh c2⟩
    · rw [if_neg c1]
      exact ⟨fun hh => Bool.noConfusion hh, fun _ => ⟨fu, A, rfl, h, h3, h38, c1⟩⟩
theorem orsM (hO : OK t S) (hF : 1000 ≤ F) (gf : Gd S f) (hf : AM S F d f) : OM S F d (S.pq f 124 (-22)) := fun v1 fu A i L B h hB hd hi hl hv hv2 hfu => by
  have hg := gf i L hi
  have ht := hf v1 fu A i L B h hB.na hd hi hl hv hv2 hfu
  have e0 : S.pq f 124 (-22) i L = if (f i L).1 = true then S.pl f 124 (-22) 60 (f i L).2.1 (f i L).2.2 else f i L := rfl
  rw [e0]
  by_cases c2 : (f i L).1 = true
  · obtain ⟨fu', A3, e3, hA, hfu', h38⟩ := ht.2 c2
    have hg4 := hg.2.2.2 c2
    rw [if_pos c2, e3]
    exact orsM_l hO hF gf hf hB hd hv 60 fu' A3 _ _ (Or.inl hA) h38 (by omega) (by omega) (by omega) (by omega) hfu'
  · rw [if_neg c2]
    exact ⟨fun hh => ht.1 hh, fun hh => absurd hh c2⟩
theorem not_step (h : MS A S i M O) (hO : OK t S) (hl : M.length + O.length ≤ i) (hc : S.chr i = 33) (hd : dp O < 5) : ∃ A2, x169_isText_24 F (n + 1) v1 1 A = x169_isText_24 F n v1 1 A2 ∧ MS A2 S (i + 1) M (-42 :: O) := by
  have hn := hO.nT
  have hin := chr_in (S := S) (i := i) (by omega)
  rw [text24, signM h hO]
  simp only [rz_b_some]
  rw [if_neg (by decide), if_pos hc]
  unfold x169_isText_45
  rw [h.dd, h.on, h.ps, if_neg (by omega), g32p (by omega), g32p (by omega), if_pos hc, gxp (by omega) (by omega), if_neg (by omega), g32p (by omega), Int.toNat_natCast]
  exact ⟨_, rfl, h.op2 (Or.inl rfl)⟩
theorem open_step (h : MS A S i M O) (hO : OK t S) (hl : M.length + O.length ≤ i) (hc : S.chr i = 40) (hd : dp O < 5) (hv : 0 ≤ v1 ∧ v1 ≤ i) : ∃ A2, x169_isText_24 F (n + 1) v1 1 A = x169_isText_24 F n (v1 + 1) 1 A2 ∧ MS A2 S (i + 1) M (-49 :: O) := by
  have hn := hO.nT
  have hin := chr_in (S := S) (i := i) (by omega)
  rw [text24, signM h hO]
  simp only [rz_b_some]
  rw [if_neg (by decide), if_neg (by omega), if_pos hc]
  unfold x169_isText_45
  rw [h.dd, h.on, h.ps, if_neg (by omega), g32p (by omega), g32p (by omega), if_neg (by omega), gxp (by omega) (by omega), if_pos hc, g32p (by omega), g32p (by omega), Int.toNat_natCast]
  exact ⟨_, rfl, h.op2 (Or.inr rfl)⟩
theorem deep_step (h : MS A S i M O) (hO : OK t S) (hc : S.chr i = 33 ∨ S.chr i = 40) (hd : dp O = 5) : x169_isText_24 F (n + 1) v1 1 A = some (0, A) := by
  rw [text24, signM h hO]
  simp only [rz_b_some]
  rw [if_neg (by decide)]
  have e : x169_isText_45 F (x169_isText_24 F n) v1 1 (S.chr i) A = some (0, A) := by
    unfold x169_isText_45
    rw [h.dd, if_pos (by omega)]
  by_cases c : S.chr i = 33
  · rw [if_pos c, e]
  · rw [if_neg c, if_pos (by omega), e]
theorem close_step (h : OS A S i L (-49 :: O)) (hO : OK t S) (hl : L.length + (O.length + 1) ≤ i) (hc : S.chr i = 41) (hF : 1000 ≤ F) (hv : 0 ≤ v1 ∧ v1 ≤ 100) : ∃ A2, x169_isText_24 F (n + 1) (v1 + 1) 0 A = x169_isText_24 F n v1 0 A2 ∧ MS A2 S (i + 1) (dn L O).1 (dn L O).2 := by
  have hn := hO.nT
  have hin := chr_in (S := S) (i := i) (by omega)
  obtain ⟨A1, e1, hA⟩ := h.cl0 (F := F) (fun o R' e => by injection e with e1 _; exact e1.symm) (by show L.length + (O.length + 1) ≤ 60; omega) hF
  have hon : A1.1 91 59 = (O.length : Int) + 1 := by rw [hA.on]; show ((O.length + 1 : Nat) : Int) = _; omega
  have hdd : A1.1 91 60 = (dp O : Int) + 1 := by rw [hA.dd]; show ((dp O + 1 : Nat) : Int) = _; omega
  have hdb : ∀ X : List Int, dp X ≤ X.length := fun X => by
    induction X with
    | nil => exact Nat.le_refl _
    | cons x X ih =>
      show dp X + (if x = -42 ∨ x = -49 then 1 else 0) ≤ X.length + 1
      split <;> omega
  have hb := hdb O
  have hA2 : MS (aI (aI A1 91 59 ((O.length : Int) + 1 - 1)) 91 60 ((dp O : Int) + 1 - 1)) S i L O := MS.of ⟨hA.ps, hA.sn, hA.sk, by show (O.length : Int) + 1 - 1 = _; omega, hA.os.2, by show (dp O : Int) + 1 - 1 = _; omega, hA.tb, hA.nt⟩
  obtain ⟨A3, e3, hA3⟩ := denM (F := F) O L _ F hA2 (by omega) (by omega)
  rw [text24, h.sign hO]
  simp only [rz_b_some]
  rw [if_pos (by decide)]
  unfold x169_isText_116 x169_isText_153
  rw [if_pos (by decide), if_neg (by omega), if_neg (by omega), if_neg (by omega), if_pos hc, if_pos (by omega), e1]
  simp only [rz_b_some]
  unfold x175_denies
  rw [hon, hdd, g32p (by omega), g32p (by omega), g32p (by omega), e3]
  simp only [rz_b_some]
  rw [hA3.ps, g32p (by omega), show v1 + 1 + (-1) = v1 by omega]
  exact ⟨_, rfl, hA3.adv⟩
theorem bad_step (h : OS A S i L B) (hO : OK t S) (h38 : ¬ S.chr i = 38) (h124 : ¬ S.chr i = 124) (h41 : ¬ (S.chr i = 41 ∧ 0 < v1)) (hv : ¬ (S.chr i < 0 ∧ v1 = 0)) : x169_isText_24 F (n + 1) v1 0 A = some (0, A) := by
  rw [text24, h.sign hO]
  simp only [rz_b_some]
  rw [if_pos (by decide)]
  have e : x169_isText_153 F (x169_isText_24 F n) v1 0 (S.chr i) A = some (0, A) := by
    unfold x169_isText_153
    rw [if_neg h38, if_neg h124]
    by_cases c1 : S.chr i = 41
    · rw [if_pos c1, if_neg (fun hh => h41 ⟨c1, hh⟩)]
    · rw [if_neg c1]
  unfold x169_isText_116
  rw [if_pos (by decide), e]
  by_cases c1 : S.chr i < 0
  · rw [if_pos c1, if_neg (fun hh => hv ⟨c1, hh⟩)]
  · rw [if_neg c1]
theorem testM (hO : OK t S) (hF : 1000 ≤ F) (hd5 : d ≤ 5) (hf : d < 5 → TM S F (d + 1) f) (hg : d < 5 → OM S F (d + 1) g) (gf : Gd S f) (gg : Gd S g) : TM S F d (S.pTt f g d) := fun v1 fu A i M O h hd hi hl hv hv2 hfu => by
  have hn := hO.nT
  obtain ⟨fu, rfl⟩ : ∃ n, fu = n + 1 := ⟨fu - 1, by omega⟩
  unfold St.pTt
  by_cases c1 : S.chr i = 33
  · have hin := chr_in (S := S) (i := i) (by omega)
    have h2 := gf (i + 1) M (by omega)
    rw [if_pos c1]
    by_cases c2 : 5 ≤ d
    · rw [if_pos c2, deep_step h hO (Or.inl c1) (by omega)]
      exact ⟨fun _ => Ret.mk h.ps, fun hh => Bool.noConfusion hh⟩
    · obtain ⟨A2, e2, hA⟩ := not_step (F := F) (n := fu) (v1 := v1) h hO hl c1 (by omega)
      have ht := hf (by omega) v1 fu A2 (i + 1) M (-42 :: O) hA (by show dp O + 1 = _; omega) (by omega) (by show M.length + (O.length + 1) ≤ i + 1; omega) hv (by omega) (by omega)
      rw [if_neg c2, e2]
      by_cases c3 : (f (i + 1) M).1 = true
      · obtain ⟨fu', A3, e3, hB, hfu'⟩ := ht.2 c3
        rw [if_pos c3, e3]
        exact ⟨fun hh => Bool.noConfusion hh, fun _ => ⟨fu', A3, rfl, hB, hfu'⟩⟩
      · rw [if_neg c3]
        exact ⟨fun hh => ht.1 hh, fun hh => absurd hh c3⟩
  · rw [if_neg c1]
    by_cases c1' : S.chr i = 40
    · have hin := chr_in (S := S) (i := i) (by omega)
      have h2 := gg (i + 1) M (by omega)
      rw [if_pos c1']
      by_cases c2 : 5 ≤ d
      · rw [if_pos c2, deep_step h hO (Or.inr c1') (by omega)]
        exact ⟨fun _ => Ret.mk h.ps, fun hh => Bool.noConfusion hh⟩
      · obtain ⟨A2, e2, hA⟩ := open_step (F := F) (n := fu) (v1 := v1) h hO hl c1' (by omega) ⟨hv, hv2⟩
        have ht := hg (by omega) (v1 + 1) fu A2 (i + 1) M (-49 :: O) hA (fun o R' e => by injection e with e1 _; exact e1.symm) (by show dp O + 1 = _; omega) (by omega) (by show M.length + (O.length + 1) ≤ i + 1; omega) (by omega) (by omega) (by omega)
        rw [if_neg c2, e2]
        by_cases c3 : (g (i + 1) M).1 = true
        · obtain ⟨fu', A3, e3, hB, hfu', h38, h124⟩ := ht.2 c3
          obtain ⟨fu', rfl⟩ : ∃ n, fu' = n + 1 := ⟨fu' - 1, by omega⟩
          rw [if_pos c3, e3]
          by_cases c4 : S.chr (g (i + 1) M).2.1 = 41
          · have hin2 := chr_in (S := S) (i := (g (i + 1) M).2.1) (by omega)
            obtain ⟨A4, e4, hD⟩ := close_step (F := F) (n := fu') (v1 := v1) hB hO (by omega) c4 hF (by omega)
            rw [if_pos c4, e4]
            exact ⟨fun hh => Bool.noConfusion hh, fun _ => ⟨fu', A4, rfl, hD, by show 2 * (S.nT - ((g (i + 1) M).2.1 + 1)) + 1 ≤ fu'; omega⟩⟩
          · rw [if_neg c4, bad_step hB hO h38 h124 (fun hh => c4 hh.1) (by omega)]
            exact ⟨fun _ => Ret.mk hB.pos, fun hh => Bool.noConfusion hh⟩
        · rw [if_neg c3]
          exact ⟨fun hh => ht.1 hh, fun hh => absurd hh c3⟩
    · rw [if_neg c1', text24, signM h hO]
      simp only [rz_b_some]
      rw [if_neg (by decide), if_neg c1, if_neg c1']
      unfold x169_isText_116
      rw [if_neg (by decide)]
      have hgc := pC_g (S := S) i M hi
      obtain ⟨A1, e1, hA⟩ := cmpM (F := F) hO hF A i M O h hi (by omega)
      rw [e1]
      simp only [rz_b_some]
      by_cases c3 : (S.pC i M).1 = true
      · obtain ⟨A2, e2, hB⟩ := denM (F := F) O (S.pC i M).2.2 A1 F hA (by omega) (by omega)
        unfold x175_denies
        rw [c3, if_neg (by decide), e2]
        simp only [rz_b_some]
        exact ⟨fun hh => Bool.noConfusion hh, fun _ => ⟨fu, A2, rfl, hB, by omega⟩⟩
      · rw [bfalse c3, if_pos (by decide)]
        exact ⟨fun _ => Ret.mk hA.ps, fun hh => Bool.noConfusion hh⟩
theorem lvM (hO : OK t S) (hF : 1000 ≤ F) : ∀ n, 1 ≤ n → n ≤ 6 → TM S F (6 - n) (S.pv (n + 1)).1 ∧ OM S F (6 - n) (S.pv (n + 1)).2 := by
  have step : ∀ n, 1 ≤ n → n ≤ 6 → (6 - n < 5 → TM S F (6 - n + 1) (S.pv n).1 ∧ OM S F (6 - n + 1) (S.pv n).2) → TM S F (6 - n) (S.pv (n + 1)).1 ∧ OM S F (6 - n) (S.pv (n + 1)).2 := fun n h1 hn hh => by
    have hg := pv_g (S := S) n
    have h1 : TM S F (6 - n) (S.pTt (S.pv n).1 (S.pv n).2 (6 - n)) := testM hO hF (by omega) (fun h => (hh h).1) (fun h => (hh h).2) hg.1 hg.2
    have g1 := pT_g (m := 6 - n) hg.1 hg.2
    exact ⟨h1, orsM hO hF (pq_g g1 (by decide)) (andsM hO hF g1 h1)⟩
  intro n
  induction n with
  | zero => intro h; omega
  | succ n ih =>
    intro h1 hn
    refine step (n + 1) h1 hn (fun h => ?_)
    have := ih (by omega) (by omega)
    rw [show (6 - n : Nat) = 6 - (n + 1) + 1 by omega] at this
    exact this
theorem textM (h : RM A S) (hO : OK t S) (hF : 1000 ≤ F) : Ret (x169_isText F A) (if S.fa < 0 then 1 else 0) (fun A1 => if S.fa < 0 then MS A1 S ((S.pv 7).2 0 []).2.1 ((S.pv 7).2 0 []).2.2 [] else A1.1 91 57 = S.fa) := by
  have hn := hO.nT
  have h0 : MS (aI (aI (aI (aI A 91 57 0) 91 58 0) 91 59 0) 91 60 0) S 0 [] [] := MS.of ⟨rfl, rfl, trivial, rfl, trivial, rfl, h.tB, h.nT⟩
  have hg := (pv_g (S := S) 7).2 0 [] (by omega)
  have ht := (lvM (F := F) hO hF 6 (by decide) (by decide)).2 0 F _ 0 [] [] h0 (fun o R' e => by injection e) rfl (by omega) (by decide) (by decide) (by decide) (by omega)
  rw [show (6 : Nat) + 1 = 7 from rfl] at ht
  have hneg : ¬ (((S.pv 7).2 0 []).2.1 : Int) < 0 := by omega
  have hnl : ([] : List Int).length = 0 := rfl
  unfold x169_isText St.fa
  by_cases c : ((S.pv 7).2 0 []).1 = true
  · obtain ⟨fu', A3, e3, hB, hfu', h38, h124⟩ := ht.2 c
    obtain ⟨fu', rfl⟩ : ∃ n, fu' = n + 1 := ⟨fu' - 1, by omega⟩
    rw [e3, if_pos c]
    by_cases c2 : (S.nT : Int) ≤ ((S.pv 7).2 0 []).2.1
    · have hc := chr_ge (S := S) (i := ((S.pv 7).2 0 []).2.1) (by omega)
      obtain ⟨A4, e4, hD⟩ := hB.cl0 (F := F) (fun o R' e => by injection e) (by show _ + 0 ≤ 60; omega) hF
      have e5 : (x169_isText_24 F (fu' + 1) 0 0 A3) = some (1, A4) := by
        rw [text24, hB.sign hO]
        simp only [rz_b_some]
        rw [if_pos (by decide)]
        unfold x169_isText_116
        rw [if_pos (by decide), if_pos (by omega), if_pos (by decide), e4]
        simp only [rz_b_some]
      simp only [if_pos c2, e5, if_pos (show (-1 : Int) < 0 by decide)]
      exact Ret.mk hD
    · have hc : 0 ≤ S.chr ((S.pv 7).2 0 []).2.1 := by
        rw [chr_lt (by omega)]
        exact (hO.tB _ (by omega)).1
      rw [bad_step hB hO h38 h124 (by omega) (by omega)]
      simp only [if_neg c2, if_neg hneg]
      exact Ret.mk hB.pos
  · have hr := ht.1 (bfalse c)
    simp only [if_neg c, if_neg hneg]
    exact hr
end PARSET
