set_option maxRecDepth 8000
def IV (t : Nat) (A : rz_A) (S : St) : Prop := DC A S t ∧ DM A S t ∧ OK t S
def Pr (xC : Option (Int × rz_A)) (xM : rz_A → Option (Int × rz_A)) (t : Nat) : Prop := ∃ r A1 A2 S', xC = some (r, A1) ∧ xM A1 = some (r, A2) ∧ IV (t + 1) A2 S'
section PRS
variable {t : Nat} {A : rz_A} {S S' : St} {xC : Option (Int × rz_A)} {xM : rz_A → Option (Int × rz_A)} {r a0 a1 a2 a3 a4 : Int} {cs cs' : List Nat} {fs fs' : List (Nat × Nat)}
theorem pr_of (hI : IV t A S) (hC : Ret xC r (fun A1 => DC A1 S' (t + 1))) (hM : ∀ A1, DM A1 S t → Ret (xM A1) r (fun A2 => DM A2 S' (t + 1))) (hO : OK (t + 1) S') (fC : ∀ A1, xC = some (r, A1) → Fr cs fs A A1) (fM : ∀ A1 A2, xM A1 = some (r, A2) → Fr cs' fs' A1 A2) (k1 : rm_okf cs fs = true) (k2 : fr_okf miRows miSlots cs fs = true) (k3 : rc_okf cs' fs' = true) (k4 : fr_okf ciRows ciSlots cs' fs' = true) : Pr xC xM t := by
  obtain ⟨A1, e1, h1⟩ := hC
  obtain ⟨A2, e2, h2⟩ := hM A1 ⟨rm_fr hI.2.1.1 (fC A1 e1) k1, hI.2.1.2.fr (fC A1 e1) k2⟩
  exact ⟨r, A1, A2, S', e1, e2, ⟨rc_fr h1.1 (fM A1 A2 e2) k3, h1.2.fr (fM A1 A2 e2) k4⟩, h2, hO⟩
theorem pr0 (hI : IV t A S) (ht : t < 512) : Pr (x0_go 1000 a0 A) (fun A1 => x141_go 1000 a0 A1) t :=
  pr_of (S' := (S.go a0).2) (r := (S.go a0).1) hI (goC' (F := 1000) (a := a0) hI.1 hI.2.2 ht) (fun A1 hA => goM' (F := 1000) (a := a0) hA hI.2.2 ht) (goO hI.2.2) (fun A1 e => wx0_go 1000 e) (fun A1 A2 e => wx141_go 1000 e) (by decide) (by decide) (by decide) (by decide)
theorem pr1 (hI : IV t A S) (ht : t < 512) : Pr (x2_post 1000 a0 A) (fun A1 => x143_post 1000 a0 A1) t :=
  pr_of (S' := (S.post a0).2) (r := (S.post a0).1) hI (postC' (F := 1000) (a := a0) hI.1 hI.2.2 ht) (fun A1 hA => postM' (F := 1000) (a := a0) hA hI.2.2 ht) (postO hI.2.2) (fun A1 e => wx2_post 1000 e) (fun A1 A2 e => wx143_post 1000 e) (by decide) (by decide) (by decide) (by decide)
theorem pr2 (hI : IV t A S) (ht : t < 512) : Pr (x4_moved 1000 a0 a1 a2 A) (fun A1 => x144_moved 1000 a0 a1 a2 A1) t :=
  pr_of (S' := (S.moved a0 a1 a2).2) (r := (S.moved a0 a1 a2).1) hI (movedC' (F := 1000) (a := a0) (b := a1) (c := a2) hI.1 hI.2.2 ht) (fun A1 hA => movedM' (F := 1000) (a := a0) (b := a1) (c := a2) hA hI.2.2 ht) (movedO hI.2.2) (fun A1 e => wx4_moved 1000 e) (fun A1 A2 e => wx144_moved 1000 e) (by decide) (by decide) (by decide) (by decide)
theorem pr3 (hI : IV t A S) (ht : t < 512) : Pr (x8_zeroAt 1000 a0 a1 a2 A) (fun A1 => x146_zeroAt 1000 a0 a1 a2 A1) t :=
  pr_of (S' := (S.zeroAt a0 a1 a2).2) (r := (S.zeroAt a0 a1 a2).1) hI (zeroAtC (F := 1000) (p := a0) (u := a1) (k := a2) hI.1 hI.2.2 ht (Nat.le_refl _)) (fun A1 hA => zeroAtM (F := 1000) (p := a0) (u := a1) (k := a2) hA hI.2.2 ht (Nat.le_refl _)) (by
    have hO := hI.2.2
    unfold St.zeroAt
    repeat' split
    all_goals first | exact hO.mono | exact hO.no _ | (unfold St.gapR; split <;> first | exact hO.mono | exact hO.no _)) (fun A1 e => wx8_zeroAt 1000 e) (fun A1 A2 e => wx146_zeroAt 1000 e) (by decide) (by decide) (by decide) (by decide)
theorem pr4 (hI : IV t A S) (ht : t < 512) : Pr (x12_height 1000 a0 a1 a2 a3 A) (fun A1 => x150_height 1000 a0 a1 a2 a3 A1) t :=
  pr_of (S' := (S.height a0 a1 a2 a3).2) (r := (S.height a0 a1 a2 a3).1) hI (heightC (F := 1000) (p := a0) (u := a1) (k := a2) (r := a3) hI.1 hI.2.2 ht (Nat.le_refl _)) (fun A1 hA => heightM (F := 1000) (p := a0) (u := a1) (k := a2) (r := a3) hA hI.2.2 ht) (heightO hI.2.2) (fun A1 e => wx12_height 1000 e) (fun A1 A2 e => wx150_height 1000 e) (by decide) (by decide) (by decide) (by decide)
theorem pr5 (hI : IV t A S) (ht : t < 512) : Pr (x15_strike 1000 a0 A) (fun A1 => x151_strike 1000 a0 A1) t :=
  pr_of (S' := (S.strike a0).2) (r := (S.strike a0).1) hI (strikeC (F := 1000) (a := a0) hI.1 hI.2.2 ht) (fun A1 hA => strikeM (F := 1000) (a := a0) hA hI.2.2 ht) (strikeO hI.2.2) (fun A1 e => wx15_strike 1000 e) (fun A1 A2 e => wx151_strike 1000 e) (by decide) (by decide) (by decide) (by decide)
theorem pr6 (hI : IV t A S) (ht : t < 512) : Pr (x18_isStruck 1000 a0 a1 A) (fun A1 => x152_isStruck 1000 a0 a1 A1) t :=
  pr_of (S' := (S.isStruck a0 a1).2) (r := (S.isStruck a0 a1).1) hI (isStruckC (F := 1000) (a := a0) (k := a1) hI.1 hI.2.2 ht (Nat.le_refl _)) (fun A1 hA => isStruckM (F := 1000) (a := a0) (k := a1) hA hI.2.2 ht (Nat.le_refl _)) (by
    have hO := hI.2.2
    unfold St.isStruck
    repeat' split
    all_goals first | exact hO.mono | exact hO.no _ | (unfold St.gapR; split <;> first | exact hO.mono | exact hO.no _)) (fun A1 e => wx18_isStruck 1000 e) (fun A1 A2 e => wx152_isStruck 1000 e) (by decide) (by decide) (by decide) (by decide)
theorem pr7 (hI : IV t A S) (ht : t < 512) : Pr (x31_heightAt 1000 a0 a1 a2 A) (fun A1 => x160_heightAt 1000 a0 a1 a2 A1) t :=
  pr_of (S' := (S.heightAt a0 a1 a2).2) (r := (S.heightAt a0 a1 a2).1) hI (heightAtC (F := 1000) (p := a0) (u := a1) (k := a2) hI.1 hI.2.2 ht (Nat.le_refl _)) (fun A1 hA => heightAtM (F := 1000) (p := a0) (u := a1) (k := a2) hA hI.2.2 ht (Nat.le_refl _)) (by
    have hO := hI.2.2
    unfold St.heightAt
    repeat' split
    all_goals first | exact hO.mono | exact hO.no _ | (unfold St.gapR; split <;> first | exact hO.mono | exact hO.no _)) (fun A1 e => wx31_heightAt 1000 e) (fun A1 A2 e => wx160_heightAt 1000 e) (by decide) (by decide) (by decide) (by decide)
theorem pr8 (hI : IV t A S) (ht : t < 512) : Pr (x34_measure 1000 a0 a1 a2 a3 A) (fun A1 => x163_measure 1000 a0 a1 a2 a3 A1) t :=
  pr_of (S' := (S.measure a0 a1 a2 a3).2) (r := (S.measure a0 a1 a2 a3).1) hI (measureC' (F := 1000) (a := a0) (b := a1) (c := a2) (d := a3) hI.1 hI.2.2 ht) (fun A1 hA => measureM' (F := 1000) (a := a0) (b := a1) (c := a2) (d := a3) hA hI.2.2 ht) (measureO hI.2.2) (fun A1 e => wx34_measure 1000 e) (fun A1 A2 e => wx163_measure 1000 e) (by decide) (by decide) (by decide) (by decide)
theorem pr9 (hI : IV t A S) (ht : t < 512) : Pr (x36_drop 1000 a0 A) (fun A1 => x164_drop 1000 a0 A1) t :=
  pr_of (S' := (S.drop a0).2) (r := (S.drop a0).1) hI (dropC' (F := 1000) (a := a0) hI.1 hI.2.2 ht) (fun A1 hA => dropM' (F := 1000) (a := a0) hA hI.2.2 ht) (dropO hI.2.2) (fun A1 e => wx36_drop 1000 e) (fun A1 A2 e => wx164_drop 1000 e) (by decide) (by decide) (by decide) (by decide)
theorem pr10 (hI : IV t A S) (ht : t < 512) : Pr (x38_counts 1000 a0 a1 A) (fun A1 => x165_counts 1000 a0 a1 A1) t :=
  pr_of (S' := (S.counts a0 a1).2) (r := (S.counts a0 a1).1) hI (countsC (F := 1000) (a := a0) (k := a1) hI.1 hI.2.2 ht (Nat.le_refl _)) (fun A1 hA => countsM (F := 1000) (a := a0) (k := a1) hA hI.2.2 ht (Nat.le_refl _)) (by
    have hO := hI.2.2
    unfold St.counts
    repeat' split
    all_goals first | exact hO.mono | exact hO.no _ | (unfold St.gapR; split <;> first | exact hO.mono | exact hO.no _)) (fun A1 e => wx38_counts 1000 e) (fun A1 A2 e => wx165_counts 1000 e) (by decide) (by decide) (by decide) (by decide)
theorem pr11 (hI : IV t A S) (ht : t < 512) : Pr (x40_feed 1000 a0 a1 A) (fun A1 => x167_feed 1000 a0 a1 A1) t :=
  pr_of (S' := (S.feed a0 a1).2) (r := (S.feed a0 a1).1) hI (feedC (F := 1000) (s := a0) (v := a1) hI.1 hI.2.2 ht (Nat.le_refl _)) (fun A1 hA => feedM (F := 1000) (s := a0) (v := a1) hA hI.2.2 ht (Nat.le_refl _)) (feedO hI.2.2) (fun A1 e => wx40_feed 1000 e) (fun A1 A2 e => wx167_feed 1000 e) (by decide) (by decide) (by decide) (by decide)
theorem pr12 (hI : IV t A S) (ht : t < 512) : Pr (x42_standard 1000 a0 a1 A) (fun A1 => x168_standard 1000 a0 a1 A1) t :=
  pr_of (S' := (S.standard a0 a1).2) (r := (S.standard a0 a1).1) hI (standardC (F := 1000) (p := a0) (d := a1) hI.1 hI.2.2 ht (Nat.le_refl _)) (fun A1 hA => standardM (F := 1000) (p := a0) (d := a1) hA hI.2.2 ht (Nat.le_refl _)) (standardO hI.2.2) (fun A1 e => wx42_standard 1000 e) (fun A1 A2 e => wx168_standard 1000 e) (by decide) (by decide) (by decide) (by decide)
theorem pr13 (hI : IV t A S) (ht : t < 512) : Pr (x64_low 1000 a0 a1 A) (fun A1 => x177_low 1000 a0 a1 A1) t :=
  pr_of (S' := (S.setLow a0 a1).2) (r := (S.setLow a0 a1).1) hI (lowC' (F := 1000) (a := a0) (b := a1) hI.1 hI.2.2 ht) (fun A1 hA => lowM' (F := 1000) (a := a0) (b := a1) hA hI.2.2 ht) (lowO hI.2.2) (fun A1 e => wx64_low 1000 e) (fun A1 A2 e => wx177_low 1000 e) (by decide) (by decide) (by decide) (by decide)
theorem pr14 (hI : IV t A S) (ht : t < 512) : Pr (x65_stretch 1000 a0 a1 A) (fun A1 => x178_stretch 1000 a0 a1 A1) t :=
  pr_of (S' := (S.stretch a0 a1).2) (r := (S.stretch a0 a1).1) hI (stretchC (F := 1000) (p := a0) (v := a1) hI.1 hI.2.2 ht (Nat.le_refl _)) (fun A1 hA => stretchM (F := 1000) (p := a0) (v := a1) hA hI.2.2 ht (Nat.le_refl _)) (stretchO hI.2.2) (fun A1 e => wx65_stretch 1000 e) (fun A1 A2 e => wx178_stretch 1000 e) (by decide) (by decide) (by decide) (by decide)
theorem pr15 (hI : IV t A S) (ht : t < 512) : Pr (x68_points 1000 a0 a1 a2 A) (fun A1 => x179_points 1000 a0 a1 a2 A1) t :=
  pr_of (S' := (S.points a0 a1 a2).2) (r := (S.points a0 a1 a2).1) hI (pointsC (F := 1000) (p := a0) (u := a1) (k := a2) hI.1 hI.2.2 ht (Nat.le_refl _)) (fun A1 hA => pointsM (F := 1000) (p := a0) (u := a1) (k := a2) hA hI.2.2 ht (Nat.le_refl _)) (by
    have hO := hI.2.2
    unfold St.points
    repeat' split
    all_goals first | exact hO.mono | exact hO.no _ | (unfold St.gapR; split <;> first | exact hO.mono | exact hO.no _)) (fun A1 e => wx68_points 1000 e) (fun A1 A2 e => wx179_points 1000 e) (by decide) (by decide) (by decide) (by decide)
theorem pr16 (hI : IV t A S) (ht : t < 512) : Pr (x78_point 1000 a0 a1 a2 a3 a4 A) (fun A1 => x183_point 1000 a0 a1 a2 a3 a4 A1) t :=
  pr_of (S' := (S.point a0 a1 a2 a3 a4).2) (r := (S.point a0 a1 a2 a3 a4).1) hI (pointC (F := 1000) (p := a0) (u := a1) (k := a2) (a := a3) (w := a4) hI.1 hI.2.2 ht (Nat.le_refl _)) (fun A1 hA => pointM (F := 1000) (p := a0) (u := a1) (k := a2) (a := a3) (w := a4) hA hI.2.2 ht (Nat.le_refl _)) (by
    have hO := hI.2.2
    unfold St.point
    repeat' split
    all_goals first | exact hO.mono | exact hO.no _ | (unfold St.gapR; split <;> first | exact hO.mono | exact hO.no _)) (fun A1 e => wx78_point 1000 e) (fun A1 A2 e => wx183_point 1000 e) (by decide) (by decide) (by decide) (by decide)
theorem pr17 (hI : IV t A S) (ht : t < 512) : Pr (x79_flowAt 1000 a0 a1 a2 A) (fun A1 => x184_flowAt 1000 a0 a1 a2 A1) t :=
  pr_of (S' := (S.flowAt a0 a1 a2).2) (r := (S.flowAt a0 a1 a2).1) hI (flowAtC (F := 1000) (p := a0) (u := a1) (l := a2) hI.1 hI.2.2 ht (Nat.le_refl _)) (fun A1 hA => flowAtM (F := 1000) (p := a0) (u := a1) (l := a2) hA hI.2.2 ht (Nat.le_refl _)) (by
    have hO := hI.2.2
    unfold St.flowAt
    repeat' split
    all_goals first | exact hO.mono | exact hO.no _ | (unfold St.gapR; split <;> first | exact hO.mono | exact hO.no _)) (fun A1 e => wx79_flowAt 1000 e) (fun A1 A2 e => wx184_flowAt 1000 e) (by decide) (by decide) (by decide) (by decide)
theorem pr18 (hI : IV t A S) (ht : t < 512) : Pr (x82_under 1000 a0 a1 a2 a3 a4 A) (fun A1 => x186_under 1000 a0 a1 a2 a3 a4 A1) t :=
  pr_of (S' := (S.under a0 a1 a2 a3 a4).2) (r := (S.under a0 a1 a2 a3 a4).1) hI (underC' (F := 1000) (a := a0) (b := a1) (c := a2) (d := a3) (e := a4) hI.1 hI.2.2 ht) (fun A1 hA => underM' (F := 1000) (a := a0) (b := a1) (c := a2) (d := a3) (e := a4) hA hI.2.2 ht) (underO hI.2.2) (fun A1 e => wx82_under 1000 e) (fun A1 A2 e => wx186_under 1000 e) (by decide) (by decide) (by decide) (by decide)
theorem pr19 (hI : IV t A S) (ht : t < 512) : Pr (x84_flowOf 1000 a0 a1 a2 a3 A) (fun A1 => x187_flowOf 1000 a0 a1 a2 a3 A1) t :=
  pr_of (S' := (S.flowOf a0 a1 a2 a3).2) (r := (S.flowOf a0 a1 a2 a3).1) hI (flowOfC (F := 1000) (p := a0) (u := a1) (k := a2) (w := a3) hI.1 hI.2.2 ht (Nat.le_refl _)) (fun A1 hA => flowOfM (F := 1000) (p := a0) (u := a1) (k := a2) (w := a3) hA hI.2.2 ht (Nat.le_refl _)) (by
    have hO := hI.2.2
    unfold St.flowOf
    repeat' split
    all_goals first | exact hO.mono | exact hO.no _ | (unfold St.gapR; split <;> first | exact hO.mono | exact hO.no _)) (fun A1 e => wx84_flowOf 1000 e) (fun A1 A2 e => wx187_flowOf 1000 e) (by decide) (by decide) (by decide) (by decide)
theorem pr20 (hI : IV t A S) (ht : t < 512) : Pr (x94_base 1000 a0 a1 a2 a3 A) (fun A1 => x190_base 1000 a0 a1 a2 a3 A1) t :=
  pr_of (S' := (S.base a0 a1 a2 a3).2) (r := (S.base a0 a1 a2 a3).1) hI (baseC (F := 1000) (p := a0) (s := a1) (a := a2) (b := a3) hI.1 hI.2.2 ht) (fun A1 hA => baseM (F := 1000) (p := a0) (s := a1) (a := a2) (b := a3) hA hI.2.2 ht) (baseO hI.2.2) (fun A1 e => base_fr hI.1.1 hI.2.2 e) (fun A1 A2 e => wx190_base 1000 e) (by decide) (by decide) (by decide) (by decide)
theorem pr21 (hI : IV t A S) (ht : t < 512) : Pr (x97_breaks 1000 a0 a1 A) (fun A1 => x191_breaks 1000 a0 a1 A1) t :=
  pr_of (S' := (S.breaks a0 a1).2) (r := (S.breaks a0 a1).1) hI (breaksC (F := 1000) (p := a0) (w := a1) hI.1 hI.2.2 ht (Nat.le_refl _)) (fun A1 hA => breaksM (F := 1000) (p := a0) (w := a1) hA hI.2.2 ht (Nat.le_refl _)) (by
    have hO := hI.2.2
    unfold St.breaks
    repeat' split
    all_goals first | exact hO.mono | exact hO.no _ | (unfold St.gapR; split <;> first | exact hO.mono | exact hO.no _)) (fun A1 e => wx97_breaks 1000 e) (fun A1 A2 e => wx191_breaks 1000 e) (by decide) (by decide) (by decide) (by decide)
theorem pr22 (hI : IV t A S) (ht : t < 512) : Pr (x106_shift 1000 a0 a1 A) (fun A1 => x199_shift 1000 a0 a1 A1) t :=
  pr_of (S' := (S.shift a0 a1).2) (r := (S.shift a0 a1).1) hI (shiftC' (F := 1000) (p := a0) (r := a1) hI.1 hI.2.2 ht (Nat.le_refl _)) (fun A1 hA => shiftM' (F := 1000) (p := a0) (r := a1) hA hI.2.2 ht (Nat.le_refl _)) (by
    have hO := hI.2.2
    unfold St.shift
    repeat' split
    all_goals first | exact hO.mono | exact hO.no _ | (unfold St.gapR; split <;> first | exact hO.mono | exact hO.no _)) (fun A1 e => wx106_shift 1000 e) (fun A1 A2 e => wx199_shift 1000 e) (by decide) (by decide) (by decide) (by decide)
theorem pr23 (hI : IV t A S) (ht : t < 512) : Pr (x109_put 1000 a0 A) (fun A1 => x200_put 1000 a0 A1) t :=
  pr_of (S' := (S.put a0).2) (r := (S.put a0).1) hI (putC' (F := 1000) (a := a0) hI.1 hI.2.2 ht) (fun A1 hA => putM' (F := 1000) (a := a0) hA hI.2.2 ht) (putO hI.2.2) (fun A1 e => wx109_put 1000 e) (fun A1 A2 e => wx200_put 1000 e) (by decide) (by decide) (by decide) (by decide)
theorem pr24 (hI : IV t A S) (ht : t < 512) : Pr (x110_judge 1000 a0 A) (fun A1 => x201_judge 1000 a0 A1) t :=
  pr_of (S' := (S.judge a0).2) (r := (S.judge a0).1) hI (judgeC (F := 1000) (p := a0) hI.1 hI.2.2 ht (Nat.le_refl _)) (fun A1 hA => judgeM (F := 1000) (p := a0) hA hI.2.2 ht (Nat.le_refl _)) (judgeO hI.2.2) (fun A1 e => wx110_judge 1000 e) (fun A1 A2 e => wx201_judge 1000 e) (by decide) (by decide) (by decide) (by decide)
theorem pr25 (hI : IV t A S) (ht : t < 512) : Pr (x112_beside 1000 a0 a1 A) (fun A1 => x202_beside 1000 a0 a1 A1) t :=
  pr_of (S' := (S.setBeside a0 a1).2) (r := (S.setBeside a0 a1).1) hI (besideC' (F := 1000) (a := a0) (b := a1) hI.1 hI.2.2 ht) (fun A1 hA => besideM' (F := 1000) (a := a0) (b := a1) hA hI.2.2 ht) (besideO hI.2.2) (fun A1 e => wx112_beside 1000 e) (fun A1 A2 e => wx202_beside 1000 e) (by decide) (by decide) (by decide) (by decide)
theorem pr26 (hI : IV t A S) (ht : t < 512) : Pr (x113_gap 1000 a0 a1 a2 A) (fun A1 => x203_gap 1000 a0 a1 a2 A1) t :=
  pr_of (S' := (S.gap a0 a1 a2).2) (r := (S.gap a0 a1 a2).1) hI (gapC (F := 1000) (p := a0) (u := a1) (w := a2) hI.1 hI.2.2 ht (Nat.le_refl _)) (fun A1 hA => gapM (F := 1000) (p := a0) (u := a1) (w := a2) hA hI.2.2 ht (Nat.le_refl _)) (by
    have hO := hI.2.2
    unfold St.gap
    repeat' split
    all_goals first | exact hO.mono | exact hO.no _ | (unfold St.gapR; split <;> first | exact hO.mono | exact hO.no _)) (fun A1 e => wx113_gap 1000 e) (fun A1 A2 e => wx203_gap 1000 e) (by decide) (by decide) (by decide) (by decide)
theorem pr27 (hI : IV t A S) (ht : t < 512) : Pr (x120_peak 1000 a0 a1 a2 a3 A) (fun A1 => x205_peak 1000 a0 a1 a2 a3 A1) t :=
  pr_of (S' := (S.peak a0 a1 a2 a3).2) (r := (S.peak a0 a1 a2 a3).1) hI (peakC (F := 1000) (p := a0) (a := a1) (b := a2) (k := a3) hI.1 hI.2.2 ht (Nat.le_refl _)) (fun A1 hA => peakM (F := 1000) (p := a0) (a := a1) (b := a2) (k := a3) hA hI.2.2 ht (Nat.le_refl _)) (by
    have hO := hI.2.2
    unfold St.peak
    repeat' split
    all_goals first | exact hO.mono | exact hO.no _ | (unfold St.gapR; split <;> first | exact hO.mono | exact hO.no _)) (fun A1 e => wx120_peak 1000 e) (fun A1 A2 e => wx205_peak 1000 e) (by decide) (by decide) (by decide) (by decide)
theorem pr28 (hI : IV t A S) (ht : t < 512) : Pr (x122_often 1000 a0 a1 A) (fun A1 => x206_often 1000 a0 a1 A1) t :=
  pr_of (S' := (S.often a0 a1).2) (r := (S.often a0 a1).1) hI (oftenC (F := 1000) (p := a0) (a := a1) hI.1 hI.2.2 ht (Nat.le_refl _)) (fun A1 hA => oftenM (F := 1000) (p := a0) (a := a1) hA hI.2.2 ht (Nat.le_refl _)) (by
    have hO := hI.2.2
    unfold St.often
    repeat' split
    all_goals first | exact hO.mono | exact hO.no _ | (unfold St.gapR; split <;> first | exact hO.mono | exact hO.no _)) (fun A1 e => wx122_often 1000 e) (fun A1 A2 e => wx206_often 1000 e) (by decide) (by decide) (by decide) (by decide)
theorem pr29 (hI : IV t A S) (ht : t < 512) : Pr (x123_agree 1000 a0 a1 a2 a3 a4 A) (fun A1 => x207_agree 1000 a0 a1 a2 a3 a4 A1) t :=
  pr_of (S' := (S.agree a0 a1 a2 a3 a4).2) (r := (S.agree a0 a1 a2 a3 a4).1) hI (agreeC (F := 1000) (o := a0) (q := a1) (f := a2) (e := a3) (w := a4) hI.1 hI.2.2 ht (Nat.le_refl _)) (fun A1 hA => agreeM (F := 1000) (o := a0) (q := a1) (f := a2) (e := a3) (w := a4) hA hI.2.2 ht (Nat.le_refl _)) (by
    have hO := hI.2.2
    unfold St.agree
    repeat' split
    all_goals first | exact hO.mono | exact hO.no _ | (unfold St.gapR; split <;> first | exact hO.mono | exact hO.no _)) (fun A1 e => wx123_agree 1000 e) (fun A1 A2 e => wx207_agree 1000 e) (by decide) (by decide) (by decide) (by decide)
theorem pr30 (hI : IV t A S) (ht : t < 512) : Pr (x128_next 1000 a0 A) (fun A1 => x208_next 1000 a0 A1) t :=
  pr_of (S' := (S.next a0).2) (r := (S.next a0).1) hI (nextC (F := 1000) (p := a0) hI.1 hI.2.2 ht (Nat.le_refl _)) (fun A1 hA => nextM (F := 1000) (p := a0) hA hI.2.2 ht (Nat.le_refl _)) (by
    have hO := hI.2.2
    unfold St.next
    repeat' split
    all_goals first | exact hO.mono | exact hO.no _ | (unfold St.gapR; split <;> first | exact hO.mono | exact hO.no _)) (fun A1 e => wx128_next 1000 e) (fun A1 A2 e => wx208_next 1000 e) (by decide) (by decide) (by decide) (by decide)
theorem pr31 (hI : IV t A S) (ht : t < 512) : Pr (x132_publish 1000 a0 a1 A) (fun A1 => x209_publish 1000 a0 a1 A1) t :=
  pr_of (S' := (S.publish a0 a1).2) (r := (S.publish a0 a1).1) hI (publishC (F := 1000) (p := a0) (u := a1) hI.1 hI.2.2 ht (Nat.le_refl _)) (fun A1 hA => publishM (F := 1000) (p := a0) (u := a1) hA hI.2.2 ht (Nat.le_refl _)) (publishO hI.2.2) (fun A1 e => wx132_publish 1000 e) (fun A1 A2 e => wx209_publish 1000 e) (by decide) (by decide) (by decide) (by decide)
theorem pr32 (hI : IV t A S) (ht : t < 512) : Pr (x135_published 1000 a0 a1 A) (fun A1 => x210_published 1000 a0 a1 A1) t :=
  pr_of (S' := (S.published a0 a1).2) (r := (S.published a0 a1).1) hI (publishedC (F := 1000) (a := a0) (w := a1) hI.1 hI.2.2 ht (Nat.le_refl _)) (fun A1 hA => publishedM (F := 1000) (a := a0) (w := a1) hA hI.2.2 ht (Nat.le_refl _)) (by
    have hO := hI.2.2
    unfold St.published
    repeat' split
    all_goals first | exact hO.mono | exact hO.no _ | (unfold St.gapR; split <;> first | exact hO.mono | exact hO.no _)) (fun A1 e => wx135_published 1000 e) (fun A1 A2 e => wx210_published 1000 e) (by decide) (by decide) (by decide) (by decide)
theorem pr33 (hI : IV t A S) (ht : t < 512) : Pr (x137_mend 1000 A) (fun A1 => x211_mend 1000 A1) t :=
  pr_of (S' := S.mend.2) (r := S.mend.1) hI (mendC (F := 1000) hI.1 hI.2.2 ht (Nat.le_refl _)) (fun A1 hA => mendM (F := 1000) hA hI.2.2 ht (Nat.le_refl _)) (by
    have hO := hI.2.2
    unfold St.mend
    repeat' split
    all_goals first | exact hO.mono | exact hO.no _ | (unfold St.gapR; split <;> first | exact hO.mono | exact hO.no _)) (fun A1 e => wx137_mend 1000 e) (fun A1 A2 e => wx211_mend 1000 e) (by decide) (by decide) (by decide) (by decide)
theorem pr34 (hI : IV t A S) (ht : t < 512) : Pr (x139_limit 1000 a0 A) (fun A1 => x212_limit 1000 a0 A1) t :=
  pr_of (S' := (S.setLimit a0).2) (r := (S.setLimit a0).1) hI (limitC' (F := 1000) (a := a0) hI.1 hI.2.2 ht) (fun A1 hA => limitM' (F := 1000) (a := a0) hA hI.2.2 ht) (limitO hI.2.2) (fun A1 e => wx139_limit 1000 e) (fun A1 A2 e => wx212_limit 1000 e) (by decide) (by decide) (by decide) (by decide)
theorem pr35 (hI : IV t A S) (ht : t < 512) : Pr (x140_count 1000 a0 A) (fun A1 => x213_count 1000 a0 A1) t :=
  pr_of (S' := (S.count a0).2) (r := (S.count a0).1) hI (countC (F := 1000) (w := a0) hI.1 hI.2.2) (fun A1 hA => countM (F := 1000) (w := a0) hA hI.2.2 (Nat.le_refl _)) (by
    have hO := hI.2.2
    unfold St.count
    repeat' split
    all_goals first | exact hO.mono | exact hO.no _ | (unfold St.gapR; split <;> first | exact hO.mono | exact hO.no _)) (fun A1 e => wx140_count 1000 e) (fun A1 A2 e => wx213_count 1000 e) (by decide) (by decide) (by decide) (by decide)
end PRS
