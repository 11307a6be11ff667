set_option maxRecDepth 8000
section PARSEC
variable {t t' F : Nat} {A A0 A' A1 : rz_A} {S S' : St} {p u k a b c v w : Int} {q m i j n z i0 : Nat} {L L' : List Int} {f g : Nat → List Int → Res} {oT oO : Int → rz_A → Option (Int × rz_A)}
def b1 (b : Bool) : Int := if b = true then 1 else 0
def PC (A : rz_A) (S : St) (i : Nat) (L : List Int) : Prop := A.1 40 4 = (i : Int) ∧ A.1 40 3 = (L.length : Int) ∧ Stk (A.1 42) L ∧ A.1 41 = S.tB ∧ A.1 40 1 = (S.nT : Int)
def RdC (S : St) (x : rz_A → Option (Int × rz_A)) (f : Nat → List Int → Res) : Prop := ∀ A i L, PC A S i L → i ≤ S.nT → L.length ≤ i → Ret (x A) (b1 (f i L).1) (fun A1 => PC A1 S (f i L).2.1 (f i L).2.2)
theorem isNextC (h : PC A S i L) (hO : OK t S) (hc : 0 ≤ c) : x47_isNext F c A = some (if S.chr i = c then 1 else 0, A) := by
  have hn := hO.nT
  unfold x47_isNext
  rw [h.1, h.2.2.2.2]
  by_cases c1 : i < S.nT
  · rw [if_pos (by omega), gxp (by omega) (by omega), Int.toNat_natCast, h.2.2.2.1, chr_lt c1]
    by_cases c2 : S.tB i = c
    · rw [if_pos c2, if_pos c2]
    · rw [if_neg c2, if_neg c2]
  · rw [if_neg (by omega), chr_ge c1, if_neg (by omega)]
theorem stepC (h : PC A S i L) (hl : L.length < 60) : Ret (x49_step F v A) () (fun A1 => PC A1 S i (v :: L)) := by
  unfold x49_step
  rw [h.2.1, if_neg (by omega), gxp (by omega) (by omega), g32p (by omega), Int.toNat_natCast]
  exact Ret.mk ⟨h.1, by show (L.length : Int) + 1 = ((L.length + 1 : Nat) : Int); omega, Stk.push h.2.2.1, h.2.2.2.1, h.2.2.2.2⟩
theorem PC.adv (h : PC A S i L) : PC (aI A 40 4 ((i : Int) + 1)) S (i + 1) L := ⟨by show (i : Int) + 1 = ((i + 1 : Nat) : Int); omega, h.2.1, h.2.2.1, h.2.2.2.1, h.2.2.2.2⟩
def fnd (v : Int) : Nat → Nat → Int
  | 0, _ => -1
  | z + 1, i => if rz_letN i = v then (i : Int) else fnd v z (i + 1)
theorem fndC : ∀ (n z i : Nat), i + z = 13 → z < n → x62_indexOfChar_7 F n 13 v i A = some (fnd v z i, A) := by
  intro n
  induction n with
  | zero => intro z i h1 h2; omega
  | succ n ih =>
    intro z i h1 h2
    unfold x62_indexOfChar_7
    cases z with
    | zero =>
      rw [if_neg (by omega)]
      rfl
    | succ z =>
      have g32 : r32 ((i : Int) + 1) := by omega
      rw [if_pos (by omega), gxp (by omega) (by omega), Int.toNat_natCast, g32p g32, show (i : Int) + 1 = ((i + 1 : Nat) : Int) by omega]
      unfold fnd
      by_cases c1 : rz_letN i = v
      · rw [if_pos c1, if_pos c1]
      · rw [if_neg c1, if_neg c1]
        exact ih z (i + 1) (by omega) (by omega)
theorem fnd_l : ∀ c, c < 256 → rz_o1 fChr ((c : Nat) : Int) = (c : Int) ∧ fnd (rz_o1 fByte ((c : Nat) : Int)) 13 0 = lett (c : Int) := by decide +kernel
theorem indexC (hc : 0 ≤ c ∧ c ≤ 255) (hF : 1000 ≤ F) : x53_indexOf F (rz_o1 fChr c) A = some (lett c, A) := by
  obtain ⟨q, rfl⟩ : ∃ q : Nat, c = q := ⟨c.toNat, by omega⟩
  obtain ⟨e1, e2⟩ := fnd_l q (by omega)
  have e3 := fndC (F := F) (A := A) (v := rz_o1 fByte (q : Int)) F 13 0 (by omega) (by omega)
  have e3' : x62_indexOfChar_7 F F 13 (rz_o1 fByte (q : Int)) 0 A = some (fnd (rz_o1 fByte (q : Int)) 13 0, A) := e3
  have e4 : rz_oI fShr 13 0 = 13 := by decide
  rw [e1]
  unfold x53_indexOf x54_indexOf x55_isLatin1 x56_length x57_coder
  simp only [rz_b_some]
  rw [if_neg (by decide), e4]
  unfold x58_indexOf x59_canEncode x60_max x61_min
  rw [if_pos (by omega), if_pos (by omega)]
  simp only [rz_b_some]
  rw [if_neg (by decide), if_pos (by decide)]
  simp only [rz_b_some]
  rw [if_pos (by decide)]
  simp only [rz_b_some]
  rw [if_neg (by decide)]
  unfold x62_indexOfChar
  rw [e3', e2]
  simp only [rz_b_some]
def bd (z : Nat) : Int := if z = 5 then 0 else if z = 4 then 9 else if z = 3 then 99 else if z = 2 then 999 else if z = 1 then 9999 else 99999
theorem bd_s : ∀ z, z < 5 → bd z = 10 * bd (z + 1) + 9 ∧ bd z ≤ 99999 := by decide
theorem dig134 (h : PC A S i L) (hO : OK t S) (hi : i ≤ S.nT) (h0 : i0 ≤ i) (hL : L.length ≤ i0) : Ret (x52_readUnit_134 F v ((i - i0 : Nat) : Int) A) (b1 (decide (i0 < i))) (fun A1 => PC A1 S i (if i0 < i then v :: L else L)) := by
  have hn := hO.nT
  unfold x52_readUnit_134
  by_cases c1 : i0 < i
  · rw [if_pos (by omega), if_pos c1, decide_eq_true c1]
    exact Ret.bind (stepC h (by omega)) (fun A1 _ hA => Ret.mk hA)
  · rw [if_neg (by omega), if_neg c1, decide_eq_false c1]
    exact Ret.mk h
theorem digC (hO : OK t S) (hL : L.length ≤ i0) : ∀ (n z i : Nat) (A : rz_A) (v : Int), PC A S i L → i ≤ S.nT → i0 ≤ i → z + (i - i0) = 5 → z < n → 0 ≤ v ∧ v ≤ bd z → Ret (x52_readUnit_56 F n v ((i - i0 : Nat) : Int) A) (b1 (decide (i0 < (S.dig z i v).1))) (fun A1 => PC A1 S (S.dig z i v).1 (if i0 < (S.dig z i v).1 then (S.dig z i v).2 :: L else L)) := by
  have hn := hO.nT
  intro n
  induction n with
  | zero => intro z i A v _ _ _ h1 h2; omega
  | succ n ih =>
    intro z i A v h hi h0 h1 h2 hv
    have last := dig134 (F := F) (v := v) h hO hi h0 hL
    unfold x52_readUnit_56
    cases z with
    | zero =>
      rw [if_neg (by omega)]
      exact last
    | succ z =>
      have hb := bd_s z (by omega)
      rw [if_pos (by omega), h.1, h.2.2.2.2]
      unfold St.dig
      by_cases c1 : i < S.nT
      · rw [if_pos (by omega), gxp (by omega) (by omega), Int.toNat_natCast, h.2.2.2.1, chr_lt c1]
        by_cases c2 : 48 ≤ S.tB i ∧ S.tB i ≤ 57
        · rw [if_pos c2.1, if_pos c2.2, if_pos c2, g32p (by omega), g32p (by omega), g32p (by omega), g32p (by omega), g32p (by omega), show ((i - i0 : Nat) : Int) + 1 = ((i + 1 - i0 : Nat) : Int) by omega]
          exact ih z (i + 1) _ _ h.adv (by omega) (by omega) (by omega) (by omega) (by omega)
        · rw [if_neg c2]
          by_cases c3 : 48 ≤ S.tB i
          · rw [if_pos c3, if_neg (by omega)]
            exact last
          · rw [if_neg c3]
            exact last
      · rw [if_neg (by omega), chr_ge c1, if_neg (by omega)]
        exact last
theorem unitC (hO : OK t S) (hF : 1000 ≤ F) : RdC S (x52_readUnit F) S.pU := fun A i L h hi hL => by
  have hn := hO.nT
  have hlb := lett_b (c := S.chr i)
  unfold x52_readUnit St.pU
  rw [h.1, h.2.2.2.2]
  by_cases c1 : i < S.nT
  · have hb := hO.tB i c1
    rw [if_neg (by omega), gxp (by omega) (by omega), Int.toNat_natCast, h.2.2.2.1, indexC hb hF, chr_lt c1]
    rw [chr_lt c1] at hlb
    simp only [rz_b_some]
    by_cases c2 : 0 ≤ lett (S.tB i)
    · rw [if_pos c2, if_pos c2, h.1, g32p (by omega), g32p (by omega)]
      exact Ret.bind (stepC h.adv (by omega)) (fun A1 _ hA => Ret.mk hA)
    · have hd := digC (F := F) hO hL F 5 i A 0 h hi (Nat.le_refl _) (by omega) (by omega) (by decide)
      rw [Nat.sub_self] at hd
      rw [if_neg c2, if_neg c2]
      by_cases c3 : i < (S.dig 5 i 0).1
      · rw [if_pos c3, decide_eq_true c3] at hd
        rw [if_pos c3]
        exact hd
      · have := (dig_g (S := S) 5 i 0 hi).1
        rw [if_neg c3, decide_eq_false c3, show (S.dig 5 i 0).1 = i by omega] at hd
        rw [if_neg c3]
        exact hd
  · have e : S.dig 5 i 0 = (i, 0) := by
      unfold St.dig
      rw [chr_ge c1, if_neg (by omega)]
    rw [if_pos (by omega), e, chr_ge c1, lett_m, if_neg (by decide), if_neg (Nat.lt_irrefl _)]
    exact Ret.mk h
theorem sumC_l (hO : OK t S) (hF : 1000 ≤ F) : ∀ (n z i : Nat) (A : rz_A) (L : List Int), PC A S i L → i ≤ S.nT → L.length ≤ i → z ≤ 60 → 61 ≤ i + z → z < n → Ret (x51_readSum_11 F n ((60 - z : Nat) : Int) A) (b1 (S.pSl z i L).1) (fun A1 => PC A1 S (S.pSl z i L).2.1 (S.pSl z i L).2.2) := by
  have hn := hO.nT
  intro n
  induction n with
  | zero => intro z i A L _ _ _ _ _ h1; omega
  | succ n ih =>
    intro z i A L h hi hL h1 h2 h3
    cases z with
    | zero => omega
    | succ z =>
      unfold x51_readSum_11
      have key : ∀ e : Int, ¬ opc (S.chr i) = 0 → opc (S.chr i) = e → Ret (rz_g32 ((A.1 40 4) + 1) <| rz_b (x52_readUnit F (aI A 40 4 ((A.1 40 4) + 1))) fun r10 A10 => if r10 = 0 then some (0, A10) else rz_b (x49_step F e A10) fun _ A12 => rz_g32 (((60 - (z + 1) : Nat) : Int) + 1) <| x51_readSum_11 F n (((60 - (z + 1) : Nat) : Int) + 1) A12) (b1 (S.pSl (z + 1) i L).1) (fun A1 => PC A1 S (S.pSl (z + 1) i L).2.1 (S.pSl (z + 1) i L).2.2) := fun e c1 ee => by
        have hin := chr_in (S := S) (i := i) (opc_in c1).1
        have hg := pU_g (S := S) (i + 1) L (by omega)
        unfold St.pSl
        rw [if_neg c1, ee, h.1, g32p (by omega)]
        refine Ret.bind (unitC hO hF _ (i + 1) L h.adv (by omega) (by omega)) (fun A1 _ hA => ?_)
        by_cases c2 : (S.pU (i + 1) L).1 = true
        · rw [c2, if_neg (by decide), if_pos rfl]
          refine Ret.bind (stepC hA (by omega)) (fun A2 _ hB => ?_)
          have hg4 := hg.2.2.2 c2
          rw [g32p (by omega), show ((60 - (z + 1) : Nat) : Int) + 1 = ((60 - z : Nat) : Int) by omega]
          exact ih z _ A2 _ hB (by omega) (by show (S.pU (i + 1) L).2.2.length + 1 ≤ _; omega) (by omega) (by omega) (by omega)
        · have c2' : (S.pU (i + 1) L).1 = false := by simpa using c2
          rw [c2', if_pos (by decide), if_neg (by decide), c2']
          exact Ret.mk hA
      rw [if_pos (by omega), isNextC h hO (by decide)]
      simp only [rz_b_some]
      by_cases d1 : S.chr i = 43
      · rw [if_pos d1, if_neg (by decide)]
        exact key (-26) (by rw [d1]; decide) (by rw [d1]; decide)
      · rw [if_neg d1, if_pos (by decide), isNextC h hO (by decide)]
        simp only [rz_b_some]
        by_cases d2 : S.chr i = 45
        · rw [if_pos d2, if_neg (by decide)]
          exact key (-27) (by rw [d2]; decide) (by rw [d2]; decide)
        · rw [if_neg d2, if_pos (by decide), isNextC h hO (by decide)]
          simp only [rz_b_some]
          by_cases d3 : S.chr i = 42
          · rw [if_pos d3, if_neg (by decide)]
            exact key (-28) (by rw [d3]; decide) (by rw [d3]; decide)
          · have e0 : opc (S.chr i) = 0 := by
              unfold opc
              rw [if_neg d1, if_neg d2, if_neg d3]
            unfold St.pSl
            rw [if_neg d3, if_pos (by decide), if_pos e0]
            exact Ret.mk h
theorem sumC (hO : OK t S) (hF : 1000 ≤ F) : RdC S (x51_readSum F) S.pS := fun A i L h hi hL => by
  have hg := pU_g (S := S) i L hi
  unfold x51_readSum St.pS
  refine Ret.bind (unitC hO hF A i L h hi hL) (fun A1 _ hA => ?_)
  by_cases c2 : (S.pU i L).1 = true
  · have hg4 := hg.2.2.2 c2
    rw [c2, if_neg (by decide), if_pos rfl]
    exact sumC_l (F := F) hO hF F 60 _ A1 _ hA (by omega) (by omega) (by omega) (by omega) (by omega)
  · have c2' : (S.pU i L).1 = false := by simpa using c2
    rw [c2', if_pos (by decide), if_neg (by decide), c2']
    exact Ret.mk hA
theorem b1_z (b : Bool) : b1 b = 0 ∨ b1 b = 1 := by
  cases b
  · exact Or.inl rfl
  · exact Or.inr rfl
theorem cmpC (hO : OK t S) (hF : 1000 ≤ F) (h : PC A S i L) (hi : i ≤ S.nT) (hL : L.length ≤ i) : Ret (rz_b (x51_readSum F A) fun r5 A5 => if r5 = 0 then some (0, A5) else rz_b (x47_isNext F 60 A5) fun r7 A7 => if r7 = 0 then (rz_b (x47_isNext F 61 A7) fun r9 A9 => if r9 = 0 then (rz_b (x47_isNext F 62 A9) fun r11 A11 => if r11 = 0 then some (0, A11) else (rz_g32 ((A11.1 40 4) + 1) <| rz_b (x51_readSum F (aI A11 40 4 ((A11.1 40 4) + 1))) fun r15 A15 => if r15 = 0 then some (0, A15) else rz_b (x49_step F (-25) A15) fun _ A17 => some (1, A17))) else (rz_g32 ((A9.1 40 4) + 1) <| rz_b (x51_readSum F (aI A9 40 4 ((A9.1 40 4) + 1))) fun r20 A20 => if r20 = 0 then some (0, A20) else rz_b (x49_step F (-24) A20) fun _ A22 => some (1, A22))) else (rz_g32 ((A7.1 40 4) + 1) <| rz_b (x51_readSum F (aI A7 40 4 ((A7.1 40 4) + 1))) fun r25 A25 => if r25 = 0 then some (0, A25) else rz_b (x49_step F (-23) A25) fun _ A27 => some (1, A27))) (b1 (S.pC i L).1) (fun A1 => PC A1 S (S.pC i L).2.1 (S.pC i L).2.2) := by
  have hn := hO.nT
  have hg := pS_g (S := S) i L hi
  refine Ret.bind (sumC hO hF A i L h hi hL) (fun A1 _ hA => ?_)
  unfold St.pC
  by_cases c2 : (S.pS i L).1 = true
  · have hg4 := hg.2.2.2 c2
    have key : ∀ e : Int, ¬ cmc (S.chr (S.pS i L).2.1) = 0 → cmc (S.chr (S.pS i L).2.1) = e → Ret (rz_g32 ((A1.1 40 4) + 1) <| rz_b (x51_readSum F (aI A1 40 4 ((A1.1 40 4) + 1))) fun r15 A15 => if r15 = 0 then some (0, A15) else rz_b (x49_step F e A15) fun _ A17 => some (1, A17)) (b1 (if cmc (S.chr (S.pS i L).2.1) = 0 then ((false, (S.pS i L).2) : Res) else if (S.pS ((S.pS i L).2.1 + 1) (S.pS i L).2.2).1 = true then (true, (S.pS ((S.pS i L).2.1 + 1) (S.pS i L).2.2).2.1, cmc (S.chr (S.pS i L).2.1) :: (S.pS ((S.pS i L).2.1 + 1) (S.pS i L).2.2).2.2) else S.pS ((S.pS i L).2.1 + 1) (S.pS i L).2.2).1) (fun A1 => PC A1 S (if cmc (S.chr (S.pS i L).2.1) = 0 then ((false, (S.pS i L).2) : Res) else if (S.pS ((S.pS i L).2.1 + 1) (S.pS i L).2.2).1 = true then (true, (S.pS ((S.pS i L).2.1 + 1) (S.pS i L).2.2).2.1, cmc (S.chr (S.pS i L).2.1) :: (S.pS ((S.pS i L).2.1 + 1) (S.pS i L).2.2).2.2) else S.pS ((S.pS i L).2.1 + 1) (S.pS i L).2.2).2.1 (if cmc (S.chr (S.pS i L).2.1) = 0 then ((false, (S.pS i L).2) : Res) else if (S.pS ((S.pS i L).2.1 + 1) (S.pS i L).2.2).1 = true then (true, (S.pS ((S.pS i L).2.1 + 1) (S.pS i L).2.2).2.1, cmc (S.chr (S.pS i L).2.1) :: (S.pS ((S.pS i L).2.1 + 1) (S.pS i L).2.2).2.2) else S.pS ((S.pS i L).2.1 + 1) (S.pS i L).2.2).2.2) := fun e c1 ee => by
      have hin := chr_in (S := S) (cmc_in c1).1
      have hg2 := pS_g (S := S) ((S.pS i L).2.1 + 1) (S.pS i L).2.2 (by omega)
      rw [if_neg c1, ee, hA.1, g32p (by omega)]
      refine Ret.bind (sumC hO hF _ _ _ hA.adv (by omega) (by omega)) (fun A2 _ hB => ?_)
      by_cases c3 : (S.pS ((S.pS i L).2.1 + 1) (S.pS i L).2.2).1 = true
      · rw [if_pos c3, c3, if_neg (by decide)]
        exact Ret.bind (stepC hB (by omega)) (fun A3 _ hD => Ret.mk hD)
      · have c3' : (S.pS ((S.pS i L).2.1 + 1) (S.pS i L).2.2).1 = false := by simpa using c3
        rw [if_neg c3, c3', if_pos (by decide)]
        exact Ret.mk hB
    rw [if_pos c2, c2, if_neg (by decide), isNextC hA hO (by decide)]
    simp only [rz_b_some]
    by_cases d1 : S.chr (S.pS i L).2.1 = 60
    · rw [if_pos d1, if_neg (by decide)]
      exact key (-23) (by rw [d1]; decide) (by rw [d1]; decide)
    · rw [if_neg d1, if_pos (by decide), isNextC hA hO (by decide)]
      simp only [rz_b_some]
      by_cases d2 : S.chr (S.pS i L).2.1 = 61
      · rw [if_pos d2, if_neg (by decide)]
        exact key (-24) (by rw [d2]; decide) (by rw [d2]; decide)
      · rw [if_neg d2, if_pos (by decide), isNextC hA hO (by decide)]
        simp only [rz_b_some]
        by_cases d3 : S.chr (S.pS i L).2.1 = 62
        · rw [if_pos d3, if_neg (by decide)]
          exact key (-25) (by rw [d3]; decide) (by rw [d3]; decide)
        · have e0 : cmc (S.chr (S.pS i L).2.1) = 0 := by
            unfold cmc
            rw [if_neg d1, if_neg d2, if_neg d3]
          rw [if_neg d3, if_pos (by decide), if_pos e0]
          exact Ret.mk hA
  · have c2' : (S.pS i L).1 = false := by simpa using c2
    rw [if_neg c2, c2', if_pos (by decide)]
    exact Ret.mk hA
theorem testC (hO : OK t S) (hF : 1000 ≤ F) (hf : m < 5 → RdC S (oT ((m : Int) + 1)) f) (hg : m < 5 → RdC S (oO ((m : Int) + 1)) g) (gf : Gd S f) (gg : Gd S g) : RdC S (x46_readTest F oT oO m) (S.pTt f g m) := fun A i L h hi hL => by
  have hn := hO.nT
  unfold x46_readTest St.pTt
  rw [isNextC h hO (by decide)]
  simp only [rz_b_some]
  by_cases c1 : S.chr i = 33
  · have hin := chr_in (S := S) (i := i) (by omega)
    have h2 := gf (i + 1) L (by omega)
    rw [if_pos c1, if_neg (by decide), if_pos c1]
    unfold x48_readNot
    by_cases c2 : 5 ≤ m
    · rw [if_pos (by omega), if_pos c2]
      simp only [rz_b_some]
      rw [gzp (by decide)]
      exact Ret.mk h
    · rw [if_neg (by omega), if_neg c2, h.1, g32p (by omega), g32p (by omega)]
      by_cases c3 : (f (i + 1) L).1 = true
      · rw [if_pos c3]
        refine Ret.bind (r := 1) (Q := fun A1 => PC A1 S (f (i + 1) L).2.1 (-20 :: (f (i + 1) L).2.2)) (Ret.bind (hf (by omega) _ (i + 1) L h.adv (by omega) (by omega)) (fun A1 _ hA => ?_)) (fun A2 _ hB => ?_)
        · rw [c3, if_neg (by decide)]
          exact Ret.bind (stepC hA (by omega)) (fun A3 _ hD => Ret.mk hD)
        · rw [gzp (by decide)]
          exact Ret.mk hB
      · have c3' : (f (i + 1) L).1 = false := by simpa using c3
        rw [if_neg c3]
        refine Ret.bind (r := 0) (Q := fun A1 => PC A1 S (f (i + 1) L).2.1 (f (i + 1) L).2.2) (Ret.bind (hf (by omega) _ (i + 1) L h.adv (by omega) (by omega)) (fun A1 _ hA => ?_)) (fun A2 _ hB => ?_)
        · rw [c3', if_pos (by decide)]
          exact Ret.mk hA
        · rw [gzp (by decide), c3']
          exact Ret.mk hB
  · rw [if_neg c1, if_pos (by decide), if_neg c1, isNextC h hO (by decide)]
    simp only [rz_b_some]
    by_cases c1' : S.chr i = 40
    · have hin := chr_in (S := S) (i := i) (by omega)
      have h2 := gg (i + 1) L (by omega)
      rw [if_pos c1', if_neg (by decide), if_pos c1']
      unfold x50_readGroup
      by_cases c2 : 5 ≤ m
      · rw [if_pos (by omega), if_pos c2]
        simp only [rz_b_some]
        rw [gzp (by decide)]
        exact Ret.mk h
      · rw [if_neg (by omega), if_neg c2, h.1, g32p (by omega), g32p (by omega)]
        by_cases c3 : (g (i + 1) L).1 = true
        · rw [if_pos c3]
          by_cases c4 : S.chr (g (i + 1) L).2.1 = 41
          · rw [if_pos c4]
            refine Ret.bind (r := 1) (Q := fun A1 => PC A1 S ((g (i + 1) L).2.1 + 1) (g (i + 1) L).2.2) (Ret.bind (hg (by omega) _ (i + 1) L h.adv (by omega) (by omega)) (fun A1 _ hA => ?_)) (fun A2 _ hB => ?_)
            · rw [c3, if_neg (by decide), isNextC hA hO (by decide)]
              simp only [rz_b_some]
              rw [if_pos c4, if_neg (by decide), hA.1, g32p (by omega)]
              exact Ret.mk hA.adv
            · rw [gzp (by decide)]
              exact Ret.mk hB
          · rw [if_neg c4]
            refine Ret.bind (r := 0) (Q := fun A1 => PC A1 S (g (i + 1) L).2.1 (g (i + 1) L).2.2) (Ret.bind (hg (by omega) _ (i + 1) L h.adv (by omega) (by omega)) (fun A1 _ hA => ?_)) (fun A2 _ hB => ?_)
            · rw [c3, if_neg (by decide), isNextC hA hO (by decide)]
              simp only [rz_b_some]
              rw [if_neg c4, if_pos (by decide)]
              exact Ret.mk hA
            · rw [gzp (by decide)]
              exact Ret.mk hB
        · have c3' : (g (i + 1) L).1 = false := by simpa using c3
          rw [if_neg c3]
          refine Ret.bind (r := 0) (Q := fun A1 => PC A1 S (g (i + 1) L).2.1 (g (i + 1) L).2.2) (Ret.bind (hg (by omega) _ (i + 1) L h.adv (by omega) (by omega)) (fun A1 _ hA => ?_)) (fun A2 _ hB => ?_)
          · rw [c3', if_pos (by decide)]
            exact Ret.mk hA
          · rw [gzp (by decide), c3']
            exact Ret.mk hB
    · rw [if_neg c1', if_pos (by decide), if_neg c1']
      exact cmpC hO hF h hi hL
theorem andsC_l (hO : OK t S) (gf : Gd S f) (hf : RdC S (x46_readTest F oT oO a) f) : ∀ (n z i : Nat) (A : rz_A) (L : List Int), PC A S i L → i ≤ S.nT → L.length ≤ i → z ≤ 60 → 61 ≤ i + z → z < n → Ret (x45_readAnds_12 F oT oO n a ((60 - z : Nat) : Int) A) (b1 (S.pl f 38 (-21) z i L).1) (fun A1 => PC A1 S (S.pl f 38 (-21) z i L).2.1 (S.pl f 38 (-21) z i L).2.2) := by
  have hn := hO.nT
  intro n
  induction n with
  | zero => intro z i A L _ _ _ _ _ h1; omega
  | succ n ih =>
    intro z i A L h hi hL h1 h2 h3
    cases z with
    | zero => omega
    | succ z =>
      unfold x45_readAnds_12 St.pl
      rw [if_pos (by omega), isNextC h hO (by decide)]
      simp only [rz_b_some]
      by_cases d1 : S.chr i = 38
      · have hin := chr_in (S := S) (i := i) (by omega)
        have hg := gf (i + 1) L (by omega)
        rw [if_pos d1, if_neg (by decide), if_pos d1, h.1, g32p (by omega)]
        refine Ret.bind (hf _ (i + 1) L h.adv (by omega) (by omega)) (fun A1 _ hA => ?_)
        by_cases c2 : (f (i + 1) L).1 = true
        · rw [c2, if_neg (by decide), if_pos rfl]
          refine Ret.bind (stepC hA (by omega)) (fun A2 _ hB => ?_)
          have hg4 := hg.2.2.2 c2
          rw [g32p (by omega), show ((60 - (z + 1) : Nat) : Int) + 1 = ((60 - z : Nat) : Int) by omega]
          exact ih z _ A2 _ hB (by omega) (by show (f (i + 1) L).2.2.length + 1 ≤ _; omega) (by omega) (by omega) (by omega)
        · have c2' : (f (i + 1) L).1 = false := by simpa using c2
          rw [c2', if_pos (by decide), if_neg (by decide), c2']
          exact Ret.mk hA
      · rw [if_neg d1, if_pos (by decide), if_neg d1]
        exact Ret.mk h
theorem andsC (hO : OK t S) (hF : 1000 ≤ F) (gf : Gd S f) (hf : RdC S (x46_readTest F oT oO a) f) : RdC S (x45_readAnds F oT oO a) (S.pq f 38 (-21)) := fun A i L h hi hL => by
  have hg := gf i L hi
  unfold x45_readAnds St.pq
  refine Ret.bind (hf A i L h hi hL) (fun A1 _ hA => ?_)
  by_cases c2 : (f i L).1 = true
  · have hg4 := hg.2.2.2 c2
    rw [c2, if_neg (by decide), if_pos rfl]
    exact andsC_l (F := F) hO gf hf F 60 _ A1 _ hA (by omega) (by omega) (by omega) (by omega) (by omega)
  · have c2' : (f i L).1 = false := by simpa using c2
    rw [c2', if_pos (by decide), if_neg (by decide), c2']
    exact Ret.mk hA
theorem orsC_l (hO : OK t S) (gf : Gd S f) (hf : RdC S (x45_readAnds F oT oO a) f) : ∀ (n z i : Nat) (A : rz_A) (L : List Int), PC A S i L → i ≤ S.nT → L.length ≤ i → z ≤ 60 → 61 ≤ i + z → z < n → Ret (x44_readOrs_12 F oT oO n a ((60 - z : Nat) : Int) A) (b1 (S.pl f 124 (-22) z i L).1) (fun A1 => PC A1 S (S.pl f 124 (-22) z i L).2.1 (S.pl f 124 (-22) z i L).2.2) := by
  have hn := hO.nT
  intro n
  induction n with
  | zero => intro z i A L _ _ _ _ _ h1; omega
  | succ n ih =>
    intro z i A L h hi hL h1 h2 h3
    cases z with
    | zero => omega
    | succ z =>
      unfold x44_readOrs_12 St.pl
      rw [if_pos (by omega), isNextC h hO (by decide)]
      simp only [rz_b_some]
      by_cases d1 : S.chr i = 124
      · have hin := chr_in (S := S) (i := i) (by omega)
        have hg := gf (i + 1) L (by omega)
        rw [if_pos d1, if_neg (by decide), if_pos d1, h.1, g32p (by omega)]
        refine Ret.bind (hf _ (i + 1) L h.adv (by omega) (by omega)) (fun A1 _ hA => ?_)
        by_cases c2 : (f (i + 1) L).1 = true
        · rw [c2, if_neg (by decide), if_pos rfl]
          refine Ret.bind (stepC hA (by omega)) (fun A2 _ hB => ?_)
          have hg4 := hg.2.2.2 c2
          rw [g32p (by omega), show ((60 - (z + 1) : Nat) : Int) + 1 = ((60 - z : Nat) : Int) by omega]
          exact ih z _ A2 _ hB (by omega) (by show (f (i + 1) L).2.2.length + 1 ≤ _; omega) (by omega) (by omega) (by omega)
        · have c2' : (f (i + 1) L).1 = false := by simpa using c2
          rw [c2', if_pos (by decide), if_neg (by decide), c2']
          exact Ret.mk hA
      · rw [if_neg d1, if_pos (by decide), if_neg d1]
        exact Ret.mk h
theorem orsC (hO : OK t S) (hF : 1000 ≤ F) (gf : Gd S f) (hf : RdC S (x45_readAnds F oT oO a) f) : RdC S (x44_readOrs F oT oO a) (S.pq f 124 (-22)) := fun A i L h hi hL => by
  have hg := gf i L hi
  unfold x44_readOrs St.pq
  refine Ret.bind (hf A i L h hi hL) (fun A1 _ hA => ?_)
  by_cases c2 : (f i L).1 = true
  · have hg4 := hg.2.2.2 c2
    rw [c2, if_neg (by decide), if_pos rfl]
    exact orsC_l (F := F) hO gf hf F 60 _ A1 _ hA (by omega) (by omega) (by omega) (by omega) (by omega)
  · have c2' : (f i L).1 = false := by simpa using c2
    rw [c2', if_pos (by decide), if_neg (by decide), c2']
    exact Ret.mk hA
theorem lvC (hO : OK t S) (hF : 1000 ≤ F) : ∀ n, n ≤ 6 → RdC S ((x_lv F (n + 1)).1 ((6 - n : Nat) : Int)) (S.pv (n + 1)).1 ∧ RdC S ((x_lv F (n + 1)).2 ((6 - n : Nat) : Int)) (S.pv (n + 1)).2 := by
  have step : ∀ n, n ≤ 6 → (6 - n < 5 → RdC S ((x_lv F n).1 (((6 - n : Nat) : Int) + 1)) (S.pv n).1 ∧ RdC S ((x_lv F n).2 (((6 - n : Nat) : Int) + 1)) (S.pv n).2) → RdC S ((x_lv F (n + 1)).1 ((6 - n : Nat) : Int)) (S.pv (n + 1)).1 ∧ RdC S ((x_lv F (n + 1)).2 ((6 - n : Nat) : Int)) (S.pv (n + 1)).2 := fun n hn hh => by
    have hg := pv_g (S := S) n
    have h1 : RdC S (x46_readTest F (x_lv F n).1 (x_lv F n).2 ((6 - n : Nat) : Int)) (S.pTt (S.pv n).1 (S.pv n).2 (6 - n)) := testC hO hF (fun h => (hh h).1) (fun h => (hh h).2) hg.1 hg.2
    have g1 := pT_g (m := 6 - n) hg.1 hg.2
    exact ⟨h1, orsC hO hF (pq_g g1 (by decide)) (andsC hO hF g1 h1)⟩
  intro n
  induction n with
  | zero => intro _; exact step 0 (by decide) (fun h => absurd h (by decide))
  | succ n ih =>
    intro hn
    refine step (n + 1) hn (fun h => ?_)
    have := ih (by omega)
    rw [show (6 - n : Nat) = 6 - (n + 1) + 1 by omega] at this
    exact this
def St.fa (S : St) : Int := if ((S.pv 7).2 0 []).1 = true then (if (S.nT : Int) ≤ ((S.pv 7).2 0 []).2.1 then -1 else (((S.pv 7).2 0 []).2.1 : Int)) else (((S.pv 7).2 0 []).2.1 : Int)
theorem faultC (h : RC A S) (hO : OK t S) (hF : 1000 ≤ F) : Ret (x43_fault F A) S.fa (fun A1 => PC A1 S ((S.pv 7).2 0 []).2.1 ((S.pv 7).2 0 []).2.2) := by
  have h0 : PC (aI (aI A 40 4 0) 40 3 0) S 0 [] := ⟨rfl, rfl, trivial, h.tB, h.nT⟩
  unfold x43_fault x_lv_O St.fa
  refine Ret.bind ((lvC hO hF 6 (by decide)).2 _ 0 [] h0 (Nat.zero_le _) (Nat.le_refl _)) (fun A1 _ hA => ?_)
  by_cases c : ((S.pv 7).2 0 []).1 = true
  · rw [if_pos c, c, if_neg (by decide), hA.1, hA.2.2.2.2]
    by_cases c2 : (S.nT : Int) ≤ ((S.pv 7).2 0 []).2.1
    · rw [if_pos c2, if_pos c2]
      exact Ret.mk hA
    · rw [if_neg c2, if_neg c2]
      exact Ret.mk hA
  · have c' : ((S.pv 7).2 0 []).1 = false := by simpa using c
    rw [if_neg c, c', if_pos (by decide), hA.1]
    exact Ret.mk hA
end PARSEC
