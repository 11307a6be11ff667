set_option maxRecDepth 8000
def dp : List Int → Nat
  | [] => 0
  | o :: O => dp O + if o = -42 ∨ o = -49 then 1 else 0
def dn : List Int → List Int → List Int × List Int
  | M, [] => (M, [])
  | M, o :: O => if o = -42 then dn (-20 :: M) O else (M, o :: O)
def MS (A : rz_A) (S : St) (i : Nat) (M O : List Int) : Prop := (A.1 91 57 = (i : Int)) ∧ (A.1 91 58 = (M.length : Int)) ∧ (Stk (A.1 135) (M.map mst)) ∧ (A.1 91 59 = (O.length : Int)) ∧ (Stk (A.1 134) O) ∧ (A.1 91 60 = (dp O : Int)) ∧ (A.1 130 = S.tB) ∧ (A.1 91 8 = (S.nT : Int))
theorem MS.of {A : rz_A} {S : St} {i : Nat} {M O : List Int} (h : (A.1 91 57 = (i : Int)) ∧ (A.1 91 58 = (M.length : Int)) ∧ (Stk (A.1 135) (M.map mst)) ∧ (A.1 91 59 = (O.length : Int)) ∧ (Stk (A.1 134) O) ∧ (A.1 91 60 = (dp O : Int)) ∧ (A.1 130 = S.tB) ∧ (A.1 91 8 = (S.nT : Int))) : MS A S i M O := h
theorem MS.ps {A : rz_A} {S : St} {i : Nat} {M O : List Int} (h : MS A S i M O) : A.1 91 57 = (i : Int) := h.1
theorem MS.sn {A : rz_A} {S : St} {i : Nat} {M O : List Int} (h : MS A S i M O) : A.1 91 58 = (M.length : Int) := h.2.1
theorem MS.sk {A : rz_A} {S : St} {i : Nat} {M O : List Int} (h : MS A S i M O) : Stk (A.1 135) (M.map mst) := h.2.2.1
theorem MS.on {A : rz_A} {S : St} {i : Nat} {M O : List Int} (h : MS A S i M O) : A.1 91 59 = (O.length : Int) := h.2.2.2.1
theorem MS.os {A : rz_A} {S : St} {i : Nat} {M O : List Int} (h : MS A S i M O) : Stk (A.1 134) O := h.2.2.2.2.1
theorem MS.dd {A : rz_A} {S : St} {i : Nat} {M O : List Int} (h : MS A S i M O) : A.1 91 60 = (dp O : Int) := h.2.2.2.2.2.1
theorem MS.tb {A : rz_A} {S : St} {i : Nat} {M O : List Int} (h : MS A S i M O) : A.1 130 = S.tB := h.2.2.2.2.2.2.1
theorem MS.nt {A : rz_A} {S : St} {i : Nat} {M O : List Int} (h : MS A S i M O) : A.1 91 8 = (S.nT : Int) := h.2.2.2.2.2.2.2
section PARSEM
variable {t t' F : Nat} {A A0 A' A1 : rz_A} {S S' : St} {p u k a b c v w v1 : Int} {q m i j n z i0 d : Nat} {L L' M O R B : List Int} {f g : Nat → List Int → Res}
theorem Stk.pushm {f : Nat → Int} (h : Stk f (M.map mst)) : Stk (fun b => if b = M.length then mst v else f b) ((v :: M).map mst) := by
  have := Stk.push (v := mst v) h
  rw [List.length_map] at this
  exact this
theorem MS.push (h : MS A S i M O) (v : Int) : MS (aI (aI A 91 58 ((M.length : Int) + 1)) 135 M.length (mst v)) S i (v :: M) O := MS.of ⟨h.ps, by show (M.length : Int) + 1 = ((M.length + 1 : Nat) : Int); omega, Stk.pushm h.sk, h.on, h.os, h.dd, h.tb, h.nt⟩
theorem MS.adv (h : MS A S i M O) : MS (aI A 91 57 ((i : Int) + 1)) S (i + 1) M O := MS.of ⟨by show (i : Int) + 1 = ((i + 1 : Nat) : Int); omega, h.sn, h.sk, h.on, h.os, h.dd, h.tb, h.nt⟩
theorem signM (h : MS A S i M O) (hO : OK t S) : x170_sign F A = some (S.chr i, A) := by
  have hn := hO.nT
  unfold x170_sign
  rw [h.ps, h.nt]
  by_cases c1 : i < S.nT
  · rw [if_pos (by omega), gxp (by omega) (by omega), Int.toNat_natCast, h.tb, chr_lt c1]
  · rw [if_neg (by omega), chr_ge c1]
def RdM (S : St) (x : rz_A → Option (Int × rz_A)) (f : Nat → List Int → Res) : Prop := ∀ A i M O, MS A S i M O → i ≤ S.nT → M.length ≤ i → Ret (x A) (b1 (f i M).1) (fun A1 => MS A1 S (f i M).2.1 (f i M).2.2 O)
theorem mst_pos (h : 0 ≤ v) : mst v = v := by
  unfold mst
  rw [if_pos h]
theorem lett_l : ∀ q, q < 256 → ((((q : Nat) : Int) = 97 ∨ (q : Int) = 98 ∨ (q : Int) = 100 ∨ (q : Int) = 102 ∨ (q : Int) = 103 ∨ (q : Int) = 104 ∨ (q : Int) = 105 ∨ (q : Int) = 107 ∨ (q : Int) = 109 ∨ (q : Int) = 110 ∨ (q : Int) = 114 ∨ (q : Int) = 119 ∨ (q : Int) = 120) ↔ 0 ≤ lett (q : Int)) ∧ (0 ≤ lett (q : Int) → 97 - (q : Int) - 1 = mst (-1 - lett (q : Int))) := by decide +kernel
theorem isLetM (hc : -1 ≤ c ∧ c ≤ 255) : x174_isLetter F c A = some (if 0 ≤ lett c then 1 else 0, A) := by
  unfold x174_isLetter
  by_cases c1 : c = -1
  · subst c1
    rw [lett_m, if_neg (by decide), if_neg (by decide)]
  · obtain ⟨q, rfl⟩ : ∃ q : Nat, c = q := ⟨c.toNat, by omega⟩
    have h := (lett_l q (by omega)).1
    by_cases c2 : 0 ≤ lett (q : Int)
    · rw [if_pos (h.mpr c2), if_pos c2]
    · rw [if_neg (fun hh => c2 (h.mp hh)), if_neg c2]
theorem dig102 (h : MS A S i M O) (hO : OK t S) (hi : i ≤ S.nT) (h0 : i0 ≤ i) (hL : M.length ≤ i0) (hv : 0 ≤ v) : Ret (x173_isUnit_102 F v ((i - i0 : Nat) : Int) A) (b1 (decide (i0 < i))) (fun A1 => MS A1 S i (if i0 < i then v :: M else M) O) := by
  have hn := hO.nT
  unfold x173_isUnit_102
  by_cases c1 : i0 < i
  · have hp := h.push v
    rw [mst_pos hv] at hp
    rw [if_neg (by omega), if_pos c1, decide_eq_true c1, h.sn, g32p (by omega), gxp (by omega) (by omega), Int.toNat_natCast]
    exact Ret.mk hp
  · rw [if_pos (by omega), if_neg c1, decide_eq_false c1]
    exact Ret.mk h
theorem digM (hO : OK t S) (hL : M.length ≤ i0) : ∀ (n z i : Nat) (A : rz_A) (v : Int), MS A S i M O → i ≤ S.nT → i0 ≤ i → z + (i - i0) = 5 → z < n → 0 ≤ v ∧ v ≤ bd z → Ret (x173_isUnit_50 F n v ((i - i0 : Nat) : Int) A) (b1 (decide (i0 < (S.dig z i v).1))) (fun A1 => MS A1 S (S.dig z i v).1 (if i0 < (S.dig z i v).1 then (S.dig z i v).2 :: M else M) O) := by
  have hn := hO.nT
  intro n
  induction n with
  | zero => intro z i A v _ _ _ h1 h2; omega
  | succ n ih =>
    intro z i A v h hi h0 h1 h2 hv
    have last := dig102 (F := F) (v := v) h hO hi h0 hL hv.1
    have hs := signM (F := F) h hO
    unfold x173_isUnit_50
    cases z with
    | zero =>
      rw [if_neg (by omega)]
      exact last
    | succ z =>
      have hb := bd_s z (by omega)
      simp only [hs, rz_b_some]
      rw [if_pos (by omega), h.ps]
      unfold St.dig
      by_cases c2 : 48 ≤ S.chr i ∧ S.chr i ≤ 57
      · have c1 := chr_in (S := S) (i := i) (by omega)
        rw [if_pos c2.1, if_pos c2.2, if_pos c2, g32p (by omega), g32p (by omega), g32p (by omega), g32p (by omega), g32p (by omega), show ((i - i0 : Nat) : Int) + 1 = ((i + 1 - i0 : Nat) : Int) by omega, show 10 * v + S.chr i - 48 = v * 10 + S.chr i - 48 by omega]
        exact ih z (i + 1) _ _ h.adv (by omega) (by omega) (by omega) (by omega) (by omega)
      · rw [if_neg c2]
        by_cases c3 : 48 ≤ S.chr i
        · rw [if_pos c3, if_neg (by omega)]
          exact last
        · rw [if_neg c3]
          exact last
theorem unitM (hO : OK t S) (hF : 1000 ≤ F) : RdM S (x173_isUnit F) S.pU := fun A i M O h hi hL => by
  have hn := hO.nT
  have hlb := lett_b (c := S.chr i)
  have hcb := chr_b (i := i) hO
  have hs := signM (F := F) h hO
  unfold x173_isUnit St.pU
  simp only [hs, rz_b_some]
  rw [isLetM hcb]
  simp only [rz_b_some]
  by_cases c2 : 0 ≤ lett (S.chr i)
  · have h2 : i < S.nT := Classical.byContradiction fun hh => by rw [chr_ge hh, lett_m] at c2; omega
    have e : 97 - S.chr i - 1 = mst (-1 - lett (S.chr i)) := by
      have h3 := hO.tB i h2
      have h4 := (lett_l (S.chr i).toNat (by rw [chr_lt h2]; omega)).2
      rw [show (((S.chr i).toNat : Nat) : Int) = S.chr i by rw [chr_lt h2]; omega] at h4
      exact h4 c2
    have hp := (h.push (-1 - lett (S.chr i))).adv
    rw [if_pos c2, if_neg (by decide), if_pos c2, h.sn, h.ps, g32p (by omega), g32p (by omega), g32p (by omega), gxp (by omega) (by omega), g32p (by omega), Int.toNat_natCast, e]
    exact Ret.mk hp
  · have hd := digM (F := F) hO hL F 5 i A 0 h hi (Nat.le_refl _) (by omega) (by omega) (by decide)
    rw [Nat.sub_self] at hd
    rw [if_neg c2, if_pos (by decide), if_neg c2]
    by_cases c3 : i < (S.dig 5 i 0).1
    · rw [if_pos c3, decide_eq_true c3] at hd
      rw [if_pos c3]
      exact hd
    · have := (dig_g (S := S) 5 i 0 hi).1
      rw [if_neg c3, decide_eq_false c3, show (S.dig 5 i 0).1 = i by omega] at hd
      rw [if_neg c3]
      exact hd
theorem sumM_l (hO : OK t S) (hF : 1000 ≤ F) : ∀ (n z i : Nat) (A : rz_A) (M : List Int), MS A S i M O → i ≤ S.nT → M.length ≤ i → 61 ≤ i + z → z < n → Ret (x172_isSum_9 F n A) (b1 (S.pSl z i M).1) (fun A1 => MS A1 S (S.pSl z i M).2.1 (S.pSl z i M).2.2 O) := by
  have hn := hO.nT
  intro n
  induction n with
  | zero => intro z i A M _ _ _ _ h1; omega
  | succ n ih =>
    intro z i A M h hi hL h2 h3
    cases z with
    | zero => omega
    | succ z =>
      have hs := signM (F := F) h hO
      unfold x172_isSum_9 x172_isSum_36
      have key : ∀ e w : Int, ¬ opc (S.chr i) = 0 → opc (S.chr i) = e → mst e = w → Ret (rz_g32 ((A.1 91 57) + 1) <| rz_b (x173_isUnit F (aI A 91 57 ((A.1 91 57) + 1))) fun r5 A5 => if r5 = 0 then some (0, A5) else rz_g32 ((A5.1 91 58) + 1) <| rz_gx (A5.1 91 58) 140 <| x172_isSum_9 F n (aI (aI A5 91 58 ((A5.1 91 58) + 1)) 135 ((A5.1 91 58)).toNat w)) (b1 (S.pSl (z + 1) i M).1) (fun A1 => MS A1 S (S.pSl (z + 1) i M).2.1 (S.pSl (z + 1) i M).2.2 O) := fun e w c1 ee ew => by
        have hin := chr_in (S := S) (i := i) (opc_in c1).1
        have hg := pU_g (S := S) (i + 1) M (by omega)
        unfold St.pSl
        rw [if_neg c1, ee, h.ps, g32p (by omega)]
        refine Ret.bind (unitM hO hF _ (i + 1) M O h.adv (by omega) (by omega)) (fun A1 _ hA => ?_)
        by_cases c2 : (S.pU (i + 1) M).1 = true
        · have hg4 := hg.2.2.2 c2
          rw [c2, if_neg (by decide), if_pos rfl, hA.sn, g32p (by omega), gxp (by omega) (by omega), Int.toNat_natCast, ← ew]
          exact ih z _ _ _ (hA.push e) (by omega) (by show (S.pU (i + 1) M).2.2.length + 1 ≤ _; omega) (by omega) (by omega)
        · have c2' : (S.pU (i + 1) M).1 = false := by simpa using c2
          rw [c2', if_pos (by decide), if_neg (by decide), c2']
          exact Ret.mk hA
      simp only [hs, rz_b_some]
      by_cases d1 : S.chr i = 43
      · rw [if_pos d1, if_pos d1]
        exact key (-26) (-46) (by rw [d1]; decide) (by rw [d1]; decide) (by decide)
      · rw [if_neg d1]
        by_cases d2 : S.chr i = 45
        · rw [if_pos d2, if_neg d1, if_pos d2]
          exact key (-27) (-47) (by rw [d2]; decide) (by rw [d2]; decide) (by decide)
        · rw [if_neg d2]
          by_cases d3 : S.chr i = 42
          · rw [if_pos d3, if_neg d1, if_neg d2]
            exact key (-28) (-48) (by rw [d3]; decide) (by rw [d3]; decide) (by decide)
          · have e0 : opc (S.chr i) = 0 := by
              unfold opc
              rw [if_neg d1, if_neg d2, if_neg d3]
            unfold St.pSl
            rw [if_neg d3, if_pos e0]
            exact Ret.mk h
theorem sumM (hO : OK t S) (hF : 1000 ≤ F) : RdM S (x172_isSum F) S.pS := fun A i M O h hi hL => by
  have hg := pU_g (S := S) i M hi
  unfold x172_isSum St.pS
  refine Ret.bind (unitM hO hF A i M O h hi hL) (fun A1 _ hA => ?_)
  by_cases c2 : (S.pU i M).1 = true
  · have hg4 := hg.2.2.2 c2
    rw [c2, if_neg (by decide), if_pos rfl]
    exact sumM_l (F := F) hO hF F 60 _ A1 _ hA (by omega) (by omega) (by omega) (by omega)
  · have c2' : (S.pU i M).1 = false := by simpa using c2
    rw [c2', if_pos (by decide), if_neg (by decide), c2']
    exact Ret.mk hA
theorem cmpM (hO : OK t S) (hF : 1000 ≤ F) : RdM S (x171_isTest F) S.pC := fun A i M O h hi hL => by
  have hn := hO.nT
  have hg := pS_g (S := S) i M hi
  unfold x171_isTest
  refine Ret.bind (sumM hO hF A i M O h hi hL) (fun A1 _ hA => ?_)
  unfold St.pC
  by_cases c2 : (S.pS i M).1 = true
  · have hg4 := hg.2.2.2 c2
    have hs := signM (F := F) hA hO
    have key : ∀ e w : Int, ¬ cmc (S.chr (S.pS i M).2.1) = 0 → cmc (S.chr (S.pS i M).2.1) = e → mst e = w → Ret (rz_g32 ((A1.1 91 57) + 1) <| rz_b (x172_isSum F (aI A1 91 57 ((A1.1 91 57) + 1))) fun r15 A15 => if r15 = 0 then some (0, A15) else rz_g32 ((A15.1 91 58) + 1) <| rz_gx (A15.1 91 58) 140 <| some (1, (aI (aI A15 91 58 ((A15.1 91 58) + 1)) 135 ((A15.1 91 58)).toNat w))) (b1 (if cmc (S.chr (S.pS i M).2.1) = 0 then ((false, (S.pS i M).2) : Res) else if (S.pS ((S.pS i M).2.1 + 1) (S.pS i M).2.2).1 = true then (true, (S.pS ((S.pS i M).2.1 + 1) (S.pS i M).2.2).2.1, cmc (S.chr (S.pS i M).2.1) :: (S.pS ((S.pS i M).2.1 + 1) (S.pS i M).2.2).2.2) else S.pS ((S.pS i M).2.1 + 1) (S.pS i M).2.2).1) (fun A1 => MS A1 S (if cmc (S.chr (S.pS i M).2.1) = 0 then ((false, (S.pS i M).2) : Res) else if (S.pS ((S.pS i M).2.1 + 1) (S.pS i M).2.2).1 = true then (true, (S.pS ((S.pS i M).2.1 + 1) (S.pS i M).2.2).2.1, cmc (S.chr (S.pS i M).2.1) :: (S.pS ((S.pS i M).2.1 + 1) (S.pS i M).2.2).2.2) else S.pS ((S.pS i M).2.1 + 1) (S.pS i M).2.2).2.1 (if cmc (S.chr (S.pS i M).2.1) = 0 then ((false, (S.pS i M).2) : Res) else if (S.pS ((S.pS i M).2.1 + 1) (S.pS i M).2.2).1 = true then (true, (S.pS ((S.pS i M).2.1 + 1) (S.pS i M).2.2).2.1, cmc (S.chr (S.pS i M).2.1) :: (S.pS ((S.pS i M).2.1 + 1) (S.pS i M).2.2).2.2) else S.pS ((S.pS i M).2.1 + 1) (S.pS i M).2.2).2.2 O) := fun e w c1 ee ew => by
      have hin := chr_in (S := S) (cmc_in c1).1
      have hg2 := pS_g (S := S) ((S.pS i M).2.1 + 1) (S.pS i M).2.2 (by omega)
      rw [if_neg c1, ee, hA.ps, g32p (by omega)]
      refine Ret.bind (sumM hO hF _ _ _ O hA.adv (by omega) (by omega)) (fun A2 _ hB => ?_)
      by_cases c3 : (S.pS ((S.pS i M).2.1 + 1) (S.pS i M).2.2).1 = true
      · rw [if_pos c3, c3, if_neg (by decide), hB.sn, g32p (by omega), gxp (by omega) (by omega), Int.toNat_natCast, ← ew]
        exact Ret.mk (hB.push e)
      · have c3' : (S.pS ((S.pS i M).2.1 + 1) (S.pS i M).2.2).1 = false := by simpa using c3
        rw [if_neg c3, c3', if_pos (by decide)]
        exact Ret.mk hB
    rw [if_pos c2, c2, if_neg (by decide)]
    simp only [hs, rz_b_some]
    by_cases d1 : S.chr (S.pS i M).2.1 = 60
    · rw [if_pos d1]
      exact key (-23) (-43) (by rw [d1]; decide) (by rw [d1]; decide) (by decide)
    · rw [if_neg d1]
      by_cases d2 : S.chr (S.pS i M).2.1 = 61
      · rw [if_pos d2]
        exact key (-24) (-44) (by rw [d2]; decide) (by rw [d2]; decide) (by decide)
      · rw [if_neg d2]
        by_cases d3 : S.chr (S.pS i M).2.1 = 62
        · rw [if_pos d3]
          exact key (-25) (-45) (by rw [d3]; decide) (by rw [d3]; decide) (by decide)
        · have e0 : cmc (S.chr (S.pS i M).2.1) = 0 := by
            unfold cmc
            rw [if_neg d1, if_neg d2, if_neg d3]
          rw [if_neg d3, if_pos e0]
          exact Ret.mk hA
  · have c2' : (S.pS i M).1 = false := by simpa using c2
    rw [if_neg c2, c2', if_pos (by decide)]
    exact Ret.mk hA
end PARSEM
