/-! what the tables' words say of the machine's tables -/
theorem rg_lk {α : Type} {l : List (Nat × α)} {i : Nat} {r : α} (h : l.lookup i = some r) : (i, r) ∈ l := by
  induction l with
  | nil => cases h
  | cons a l ih =>
    obtain ⟨j, b⟩ := a
    rw [List.lookup_cons] at h
    by_cases e : i = j
    · subst e
      simp at h
      subst h
      exact List.mem_cons_self
    · have : (i == j) = false := by simp [e]
      rw [this] at h
      exact List.mem_cons_of_mem _ (ih h)
def rg_tbl : List Cond := lw_tbl.filter goodWord
theorem rg_tbl_mem {i : Nat} {w : Cond} (h : lw_tbl[i]? = some w) (hg : goodWord w = true) : w ∈ rg_tbl := List.mem_filter.mpr ⟨List.mem_of_getElem? h, hg⟩
def rg_mf : List (String × String) := [("abs", "(I)I"), ("min", "(JJ)J"), ("max", "(JJ)J"), ("max", "(II)I"), ("min", "(II)I"), ("floorDiv", "(II)I"), ("abs", "(J)J")]
theorem rg_mf0 : (NativeRow.find? natives "java/lang/Math" "abs" "(I)I").isNone = true := by decide +kernel
theorem rg_mf1 : (NativeRow.find? natives "java/lang/Math" "min" "(JJ)J").isNone = true := by decide +kernel
theorem rg_mf2 : (NativeRow.find? natives "java/lang/Math" "max" "(JJ)J").isNone = true := by decide +kernel
theorem rg_mf3 : (NativeRow.find? natives "java/lang/Math" "max" "(II)I").isNone = true := by decide +kernel
theorem rg_mf4 : (NativeRow.find? natives "java/lang/Math" "min" "(II)I").isNone = true := by decide +kernel
theorem rg_mf5 : (NativeRow.find? natives "java/lang/Math" "floorDiv" "(II)I").isNone = true := by decide +kernel
theorem rg_mf6 : (NativeRow.find? natives "java/lang/Math" "abs" "(J)J").isNone = true := by decide +kernel
theorem rg_mf_ok : ∀ q ∈ rg_mf, (NativeRow.find? natives "java/lang/Math" q.1 q.2).isNone = true := by
  intro q hq
  simp only [rg_mf, List.mem_cons, List.not_mem_nil, or_false] at hq
  rcases hq with rfl | rfl | rfl | rfl | rfl | rfl | rfl
  · exact rg_mf0
  · exact rg_mf1
  · exact rg_mf2
  · exact rg_mf3
  · exact rg_mf4
  · exact rg_mf5
  · exact rg_mf6
/-- a method's row: its words (the code's apart) -/
def rg_rok (r : rg_MR) : Bool :=
  (if r.2.2.2.2.1.2.2 = 1 then decide (lw_tbl[r.2.2.2.2.2.2.1]? = some (Cond.static r.1)) else decide (lw_tbl[r.2.2.2.2.2.2.1]? = some (Cond.instanceMethod r.1)) && decide (lw_tbl[r.2.2.2.2.2.2.2.1]? = some (Cond.selects r.1.cls r.1 r.1)) && (decide (r.2.2.2.2.1.1 = 15) && decide (r.1.cls = "java/lang/String") || decide ((rg_classes[r.2.2.2.2.1.1]?).map (fun q => q.1) = some r.1.cls))) &&
  decide (lw_tbl[r.2.2.2.2.2.2.2.2]? = some (Cond.initialized r.1.cls)) &&
  decide (rg_on[r.2.2.2.2.1.1]? = some r.1.cls) &&
  decide (r.1.cls ≠ "java/lang/invoke/MethodHandle") && decide (r.1.cls ≠ "java/lang/invoke/VarHandle") &&
  decide ((parseMethodDescriptor r.1.desc).map (fun d => d.parameters.length) = some r.2.2.2.2.1.2.1) &&
  (plainName r.1.cls || rg_mf.contains (r.1.name, r.1.desc) && r.1.cls == "java/lang/Math") && decide (r.2.2.1 ≤ 45)
set_option maxRecDepth 100000 in
theorem rg_mt_ok0 : ((rg_mt.drop 0).take 26).all rg_rok = true := by decide +kernel
set_option maxRecDepth 100000 in
theorem rg_mt_ok1 : ((rg_mt.drop 26).take 26).all rg_rok = true := by decide +kernel
set_option maxRecDepth 100000 in
theorem rg_mt_ok2 : ((rg_mt.drop 52).take 26).all rg_rok = true := by decide +kernel
set_option maxRecDepth 100000 in
theorem rg_mt_ok3 : ((rg_mt.drop 78).take 26).all rg_rok = true := by decide +kernel
set_option maxRecDepth 100000 in
theorem rg_mt_ok4 : ((rg_mt.drop 104).take 26).all rg_rok = true := by decide +kernel
set_option maxRecDepth 100000 in
theorem rg_mt_ok5 : ((rg_mt.drop 130).take 26).all rg_rok = true := by decide +kernel
set_option maxRecDepth 100000 in
theorem rg_mt_ok6 : ((rg_mt.drop 156).take 26).all rg_rok = true := by decide +kernel
set_option maxRecDepth 100000 in
theorem rg_mt_ok7 : ((rg_mt.drop 182).take 26).all rg_rok = true := by decide +kernel
set_option maxRecDepth 100000 in
theorem rg_mt_ok8 : ((rg_mt.drop 208).take 26).all rg_rok = true := by decide +kernel
set_option maxRecDepth 100000 in
theorem rg_cw0 : Cond.code (rg_name 0) (rg_bytes 0) (rg_maxL 0) (rg_ret 0) ∈ lw_tbl := List.mem_of_getElem? (i := 581) (by rfl)
set_option maxRecDepth 100000 in
theorem rg_cw1 : Cond.code (rg_name 1) (rg_bytes 1) (rg_maxL 1) (rg_ret 1) ∈ lw_tbl := List.mem_of_getElem? (i := 585) (by rfl)
set_option maxRecDepth 100000 in
theorem rg_cw2 : Cond.code (rg_name 2) (rg_bytes 2) (rg_maxL 2) (rg_ret 2) ∈ lw_tbl := List.mem_of_getElem? (i := 589) (by rfl)
set_option maxRecDepth 100000 in
theorem rg_cw3 : Cond.code (rg_name 3) (rg_bytes 3) (rg_maxL 3) (rg_ret 3) ∈ lw_tbl := List.mem_of_getElem? (i := 593) (by rfl)
set_option maxRecDepth 100000 in
theorem rg_cw4 : Cond.code (rg_name 4) (rg_bytes 4) (rg_maxL 4) (rg_ret 4) ∈ lw_tbl := List.mem_of_getElem? (i := 597) (by rfl)
set_option maxRecDepth 100000 in
theorem rg_cw5 : Cond.code (rg_name 5) (rg_bytes 5) (rg_maxL 5) (rg_ret 5) ∈ lw_tbl := List.mem_of_getElem? (i := 601) (by rfl)
set_option maxRecDepth 100000 in
theorem rg_cw6 : Cond.code (rg_name 6) (rg_bytes 6) (rg_maxL 6) (rg_ret 6) ∈ lw_tbl := List.mem_of_getElem? (i := 605) (by rfl)
set_option maxRecDepth 100000 in
theorem rg_cw7 : Cond.code (rg_name 7) (rg_bytes 7) (rg_maxL 7) (rg_ret 7) ∈ lw_tbl := List.mem_of_getElem? (i := 609) (by rfl)
set_option maxRecDepth 100000 in
theorem rg_cw8 : Cond.code (rg_name 8) (rg_bytes 8) (rg_maxL 8) (rg_ret 8) ∈ lw_tbl := List.mem_of_getElem? (i := 613) (by rfl)
set_option maxRecDepth 100000 in
theorem rg_cw9 : Cond.code (rg_name 9) (rg_bytes 9) (rg_maxL 9) (rg_ret 9) ∈ lw_tbl := List.mem_of_getElem? (i := 617) (by rfl)
set_option maxRecDepth 100000 in
theorem rg_cw10 : Cond.code (rg_name 10) (rg_bytes 10) (rg_maxL 10) (rg_ret 10) ∈ lw_tbl := List.mem_of_getElem? (i := 621) (by rfl)
set_option maxRecDepth 100000 in
theorem rg_cw11 : Cond.code (rg_name 11) (rg_bytes 11) (rg_maxL 11) (rg_ret 11) ∈ lw_tbl := List.mem_of_getElem? (i := 626) (by rfl)
set_option maxRecDepth 100000 in
theorem rg_cw12 : Cond.code (rg_name 12) (rg_bytes 12) (rg_maxL 12) (rg_ret 12) ∈ lw_tbl := List.mem_of_getElem? (i := 630) (by rfl)
set_option maxRecDepth 100000 in
theorem rg_cw13 : Cond.code (rg_name 13) (rg_bytes 13) (rg_maxL 13) (rg_ret 13) ∈ lw_tbl := List.mem_of_getElem? (i := 634) (by rfl)
set_option maxRecDepth 100000 in
theorem rg_cw14 : Cond.code (rg_name 14) (rg_bytes 14) (rg_maxL 14) (rg_ret 14) ∈ lw_tbl := List.mem_of_getElem? (i := 638) (by rfl)
set_option maxRecDepth 100000 in
theorem rg_cw15 : Cond.code (rg_name 15) (rg_bytes 15) (rg_maxL 15) (rg_ret 15) ∈ lw_tbl := List.mem_of_getElem? (i := 642) (by rfl)
set_option maxRecDepth 100000 in
theorem rg_cw16 : Cond.code (rg_name 16) (rg_bytes 16) (rg_maxL 16) (rg_ret 16) ∈ lw_tbl := List.mem_of_getElem? (i := 646) (by rfl)
set_option maxRecDepth 100000 in
theorem rg_cw17 : Cond.code (rg_name 17) (rg_bytes 17) (rg_maxL 17) (rg_ret 17) ∈ lw_tbl := List.mem_of_getElem? (i := 651) (by rfl)
set_option maxRecDepth 100000 in
theorem rg_cw18 : Cond.code (rg_name 18) (rg_bytes 18) (rg_maxL 18) (rg_ret 18) ∈ lw_tbl := List.mem_of_getElem? (i := 655) (by rfl)
set_option maxRecDepth 100000 in
theorem rg_cw19 : Cond.code (rg_name 19) (rg_bytes 19) (rg_maxL 19) (rg_ret 19) ∈ lw_tbl := List.mem_of_getElem? (i := 658) (by rfl)
set_option maxRecDepth 100000 in
theorem rg_cw20 : Cond.code (rg_name 20) (rg_bytes 20) (rg_maxL 20) (rg_ret 20) ∈ lw_tbl := List.mem_of_getElem? (i := 662) (by rfl)
set_option maxRecDepth 100000 in
theorem rg_cw21 : Cond.code (rg_name 21) (rg_bytes 21) (rg_maxL 21) (rg_ret 21) ∈ lw_tbl := List.mem_of_getElem? (i := 667) (by rfl)
set_option maxRecDepth 100000 in
theorem rg_cw22 : Cond.code (rg_name 22) (rg_bytes 22) (rg_maxL 22) (rg_ret 22) ∈ lw_tbl := List.mem_of_getElem? (i := 671) (by rfl)
set_option maxRecDepth 100000 in
theorem rg_cw23 : Cond.code (rg_name 23) (rg_bytes 23) (rg_maxL 23) (rg_ret 23) ∈ lw_tbl := List.mem_of_getElem? (i := 675) (by rfl)
set_option maxRecDepth 100000 in
theorem rg_cw24 : Cond.code (rg_name 24) (rg_bytes 24) (rg_maxL 24) (rg_ret 24) ∈ lw_tbl := List.mem_of_getElem? (i := 678) (by rfl)
set_option maxRecDepth 100000 in
theorem rg_cw25 : Cond.code (rg_name 25) (rg_bytes 25) (rg_maxL 25) (rg_ret 25) ∈ lw_tbl := List.mem_of_getElem? (i := 682) (by rfl)
set_option maxRecDepth 100000 in
theorem rg_cw26 : Cond.code (rg_name 26) (rg_bytes 26) (rg_maxL 26) (rg_ret 26) ∈ lw_tbl := List.mem_of_getElem? (i := 685) (by rfl)
set_option maxRecDepth 100000 in
theorem rg_cw27 : Cond.code (rg_name 27) (rg_bytes 27) (rg_maxL 27) (rg_ret 27) ∈ lw_tbl := List.mem_of_getElem? (i := 688) (by rfl)
set_option maxRecDepth 100000 in
theorem rg_cw28 : Cond.code (rg_name 28) (rg_bytes 28) (rg_maxL 28) (rg_ret 28) ∈ lw_tbl := List.mem_of_getElem? (i := 693) (by rfl)
set_option maxRecDepth 100000 in
theorem rg_cw29 : Cond.code (rg_name 29) (rg_bytes 29) (rg_maxL 29) (rg_ret 29) ∈ lw_tbl := List.mem_of_getElem? (i := 696) (by rfl)
set_option maxRecDepth 100000 in
theorem rg_cw30 : Cond.code (rg_name 30) (rg_bytes 30) (rg_maxL 30) (rg_ret 30) ∈ lw_tbl := List.mem_of_getElem? (i := 700) (by rfl)
set_option maxRecDepth 100000 in
theorem rg_cw31 : Cond.code (rg_name 31) (rg_bytes 31) (rg_maxL 31) (rg_ret 31) ∈ lw_tbl := List.mem_of_getElem? (i := 706) (by rfl)
set_option maxRecDepth 100000 in
theorem rg_cw32 : Cond.code (rg_name 32) (rg_bytes 32) (rg_maxL 32) (rg_ret 32) ∈ lw_tbl := List.mem_of_getElem? (i := 710) (by rfl)
set_option maxRecDepth 100000 in
theorem rg_cw33 : Cond.code (rg_name 33) (rg_bytes 33) (rg_maxL 33) (rg_ret 33) ∈ lw_tbl := List.mem_of_getElem? (i := 714) (by rfl)
set_option maxRecDepth 100000 in
theorem rg_cw34 : Cond.code (rg_name 34) (rg_bytes 34) (rg_maxL 34) (rg_ret 34) ∈ lw_tbl := List.mem_of_getElem? (i := 718) (by rfl)
set_option maxRecDepth 100000 in
theorem rg_cw35 : Cond.code (rg_name 35) (rg_bytes 35) (rg_maxL 35) (rg_ret 35) ∈ lw_tbl := List.mem_of_getElem? (i := 723) (by rfl)
set_option maxRecDepth 100000 in
theorem rg_cw36 : Cond.code (rg_name 36) (rg_bytes 36) (rg_maxL 36) (rg_ret 36) ∈ lw_tbl := List.mem_of_getElem? (i := 728) (by rfl)
set_option maxRecDepth 100000 in
theorem rg_cw37 : Cond.code (rg_name 37) (rg_bytes 37) (rg_maxL 37) (rg_ret 37) ∈ lw_tbl := List.mem_of_getElem? (i := 732) (by rfl)
set_option maxRecDepth 100000 in
theorem rg_cw38 : Cond.code (rg_name 38) (rg_bytes 38) (rg_maxL 38) (rg_ret 38) ∈ lw_tbl := List.mem_of_getElem? (i := 736) (by rfl)
set_option maxRecDepth 100000 in
theorem rg_cw39 : Cond.code (rg_name 39) (rg_bytes 39) (rg_maxL 39) (rg_ret 39) ∈ lw_tbl := List.mem_of_getElem? (i := 740) (by rfl)
set_option maxRecDepth 100000 in
theorem rg_cw40 : Cond.code (rg_name 40) (rg_bytes 40) (rg_maxL 40) (rg_ret 40) ∈ lw_tbl := List.mem_of_getElem? (i := 745) (by rfl)
set_option maxRecDepth 100000 in
theorem rg_cw41 : Cond.code (rg_name 41) (rg_bytes 41) (rg_maxL 41) (rg_ret 41) ∈ lw_tbl := List.mem_of_getElem? (i := 749) (by rfl)
set_option maxRecDepth 100000 in
theorem rg_cw42 : Cond.code (rg_name 42) (rg_bytes 42) (rg_maxL 42) (rg_ret 42) ∈ lw_tbl := List.mem_of_getElem? (i := 753) (by rfl)
set_option maxRecDepth 100000 in
theorem rg_cw43 : Cond.code (rg_name 43) (rg_bytes 43) (rg_maxL 43) (rg_ret 43) ∈ lw_tbl := List.mem_of_getElem? (i := 757) (by rfl)
set_option maxRecDepth 100000 in
theorem rg_cw44 : Cond.code (rg_name 44) (rg_bytes 44) (rg_maxL 44) (rg_ret 44) ∈ lw_tbl := List.mem_of_getElem? (i := 761) (by rfl)
set_option maxRecDepth 100000 in
theorem rg_cw45 : Cond.code (rg_name 45) (rg_bytes 45) (rg_maxL 45) (rg_ret 45) ∈ lw_tbl := List.mem_of_getElem? (i := 765) (by rfl)
set_option maxRecDepth 100000 in
theorem rg_cw46 : Cond.code (rg_name 46) (rg_bytes 46) (rg_maxL 46) (rg_ret 46) ∈ lw_tbl := List.mem_of_getElem? (i := 769) (by rfl)
set_option maxRecDepth 100000 in
theorem rg_cw47 : Cond.code (rg_name 47) (rg_bytes 47) (rg_maxL 47) (rg_ret 47) ∈ lw_tbl := List.mem_of_getElem? (i := 773) (by rfl)
set_option maxRecDepth 100000 in
theorem rg_cw48 : Cond.code (rg_name 48) (rg_bytes 48) (rg_maxL 48) (rg_ret 48) ∈ lw_tbl := List.mem_of_getElem? (i := 777) (by rfl)
set_option maxRecDepth 100000 in
theorem rg_cw49 : Cond.code (rg_name 49) (rg_bytes 49) (rg_maxL 49) (rg_ret 49) ∈ lw_tbl := List.mem_of_getElem? (i := 781) (by rfl)
set_option maxRecDepth 100000 in
theorem rg_cw50 : Cond.code (rg_name 50) (rg_bytes 50) (rg_maxL 50) (rg_ret 50) ∈ lw_tbl := List.mem_of_getElem? (i := 785) (by rfl)
set_option maxRecDepth 100000 in
theorem rg_cw51 : Cond.code (rg_name 51) (rg_bytes 51) (rg_maxL 51) (rg_ret 51) ∈ lw_tbl := List.mem_of_getElem? (i := 789) (by rfl)
set_option maxRecDepth 100000 in
theorem rg_cw52 : Cond.code (rg_name 52) (rg_bytes 52) (rg_maxL 52) (rg_ret 52) ∈ lw_tbl := List.mem_of_getElem? (i := 793) (by rfl)
set_option maxRecDepth 100000 in
theorem rg_cw53 : Cond.code (rg_name 53) (rg_bytes 53) (rg_maxL 53) (rg_ret 53) ∈ lw_tbl := List.mem_of_getElem? (i := 798) (by rfl)
set_option maxRecDepth 100000 in
theorem rg_cw54 : Cond.code (rg_name 54) (rg_bytes 54) (rg_maxL 54) (rg_ret 54) ∈ lw_tbl := List.mem_of_getElem? (i := 802) (by rfl)
set_option maxRecDepth 100000 in
theorem rg_cw55 : Cond.code (rg_name 55) (rg_bytes 55) (rg_maxL 55) (rg_ret 55) ∈ lw_tbl := List.mem_of_getElem? (i := 806) (by rfl)
set_option maxRecDepth 100000 in
theorem rg_cw56 : Cond.code (rg_name 56) (rg_bytes 56) (rg_maxL 56) (rg_ret 56) ∈ lw_tbl := List.mem_of_getElem? (i := 812) (by rfl)
set_option maxRecDepth 100000 in
theorem rg_cw57 : Cond.code (rg_name 57) (rg_bytes 57) (rg_maxL 57) (rg_ret 57) ∈ lw_tbl := List.mem_of_getElem? (i := 816) (by rfl)
set_option maxRecDepth 100000 in
theorem rg_cw58 : Cond.code (rg_name 58) (rg_bytes 58) (rg_maxL 58) (rg_ret 58) ∈ lw_tbl := List.mem_of_getElem? (i := 819) (by rfl)
set_option maxRecDepth 100000 in
theorem rg_cw59 : Cond.code (rg_name 59) (rg_bytes 59) (rg_maxL 59) (rg_ret 59) ∈ lw_tbl := List.mem_of_getElem? (i := 822) (by rfl)
set_option maxRecDepth 100000 in
theorem rg_cw60 : Cond.code (rg_name 60) (rg_bytes 60) (rg_maxL 60) (rg_ret 60) ∈ lw_tbl := List.mem_of_getElem? (i := 825) (by rfl)
set_option maxRecDepth 100000 in
theorem rg_cw61 : Cond.code (rg_name 61) (rg_bytes 61) (rg_maxL 61) (rg_ret 61) ∈ lw_tbl := List.mem_of_getElem? (i := 828) (by rfl)
set_option maxRecDepth 100000 in
theorem rg_cw62 : Cond.code (rg_name 62) (rg_bytes 62) (rg_maxL 62) (rg_ret 62) ∈ lw_tbl := List.mem_of_getElem? (i := 831) (by rfl)
set_option maxRecDepth 100000 in
theorem rg_cw63 : Cond.code (rg_name 63) (rg_bytes 63) (rg_maxL 63) (rg_ret 63) ∈ lw_tbl := List.mem_of_getElem? (i := 884) (by rfl)
set_option maxRecDepth 100000 in
theorem rg_cw64 : Cond.code (rg_name 64) (rg_bytes 64) (rg_maxL 64) (rg_ret 64) ∈ lw_tbl := List.mem_of_getElem? (i := 892) (by rfl)
set_option maxRecDepth 100000 in
theorem rg_cw65 : Cond.code (rg_name 65) (rg_bytes 65) (rg_maxL 65) (rg_ret 65) ∈ lw_tbl := List.mem_of_getElem? (i := 896) (by rfl)
set_option maxRecDepth 100000 in
theorem rg_cw66 : Cond.code (rg_name 66) (rg_bytes 66) (rg_maxL 66) (rg_ret 66) ∈ lw_tbl := List.mem_of_getElem? (i := 900) (by rfl)
set_option maxRecDepth 100000 in
theorem rg_cw67 : Cond.code (rg_name 67) (rg_bytes 67) (rg_maxL 67) (rg_ret 67) ∈ lw_tbl := List.mem_of_getElem? (i := 904) (by rfl)
set_option maxRecDepth 100000 in
theorem rg_cw68 : Cond.code (rg_name 68) (rg_bytes 68) (rg_maxL 68) (rg_ret 68) ∈ lw_tbl := List.mem_of_getElem? (i := 908) (by rfl)
set_option maxRecDepth 100000 in
theorem rg_cw69 : Cond.code (rg_name 69) (rg_bytes 69) (rg_maxL 69) (rg_ret 69) ∈ lw_tbl := List.mem_of_getElem? (i := 912) (by rfl)
set_option maxRecDepth 100000 in
theorem rg_cw70 : Cond.code (rg_name 70) (rg_bytes 70) (rg_maxL 70) (rg_ret 70) ∈ lw_tbl := List.mem_of_getElem? (i := 916) (by rfl)
set_option maxRecDepth 100000 in
theorem rg_cw71 : Cond.code (rg_name 71) (rg_bytes 71) (rg_maxL 71) (rg_ret 71) ∈ lw_tbl := List.mem_of_getElem? (i := 920) (by rfl)
set_option maxRecDepth 100000 in
theorem rg_cw72 : Cond.code (rg_name 72) (rg_bytes 72) (rg_maxL 72) (rg_ret 72) ∈ lw_tbl := List.mem_of_getElem? (i := 924) (by rfl)
set_option maxRecDepth 100000 in
theorem rg_cw73 : Cond.code (rg_name 73) (rg_bytes 73) (rg_maxL 73) (rg_ret 73) ∈ lw_tbl := List.mem_of_getElem? (i := 929) (by rfl)
set_option maxRecDepth 100000 in
theorem rg_cw74 : Cond.code (rg_name 74) (rg_bytes 74) (rg_maxL 74) (rg_ret 74) ∈ lw_tbl := List.mem_of_getElem? (i := 934) (by rfl)
set_option maxRecDepth 100000 in
theorem rg_cw75 : Cond.code (rg_name 75) (rg_bytes 75) (rg_maxL 75) (rg_ret 75) ∈ lw_tbl := List.mem_of_getElem? (i := 938) (by rfl)
set_option maxRecDepth 100000 in
theorem rg_cw76 : Cond.code (rg_name 76) (rg_bytes 76) (rg_maxL 76) (rg_ret 76) ∈ lw_tbl := List.mem_of_getElem? (i := 942) (by rfl)
set_option maxRecDepth 100000 in
theorem rg_cw77 : Cond.code (rg_name 77) (rg_bytes 77) (rg_maxL 77) (rg_ret 77) ∈ lw_tbl := List.mem_of_getElem? (i := 945) (by rfl)
set_option maxRecDepth 100000 in
theorem rg_cw78 : Cond.code (rg_name 78) (rg_bytes 78) (rg_maxL 78) (rg_ret 78) ∈ lw_tbl := List.mem_of_getElem? (i := 949) (by rfl)
set_option maxRecDepth 100000 in
theorem rg_cw79 : Cond.code (rg_name 79) (rg_bytes 79) (rg_maxL 79) (rg_ret 79) ∈ lw_tbl := List.mem_of_getElem? (i := 953) (by rfl)
set_option maxRecDepth 100000 in
theorem rg_cw80 : Cond.code (rg_name 80) (rg_bytes 80) (rg_maxL 80) (rg_ret 80) ∈ lw_tbl := List.mem_of_getElem? (i := 957) (by rfl)
set_option maxRecDepth 100000 in
theorem rg_cw81 : Cond.code (rg_name 81) (rg_bytes 81) (rg_maxL 81) (rg_ret 81) ∈ lw_tbl := List.mem_of_getElem? (i := 961) (by rfl)
set_option maxRecDepth 100000 in
theorem rg_cw82 : Cond.code (rg_name 82) (rg_bytes 82) (rg_maxL 82) (rg_ret 82) ∈ lw_tbl := List.mem_of_getElem? (i := 968) (by rfl)
set_option maxRecDepth 100000 in
theorem rg_cw83 : Cond.code (rg_name 83) (rg_bytes 83) (rg_maxL 83) (rg_ret 83) ∈ lw_tbl := List.mem_of_getElem? (i := 972) (by rfl)
set_option maxRecDepth 100000 in
theorem rg_cw84 : Cond.code (rg_name 84) (rg_bytes 84) (rg_maxL 84) (rg_ret 84) ∈ lw_tbl := List.mem_of_getElem? (i := 976) (by rfl)
set_option maxRecDepth 100000 in
theorem rg_cw85 : Cond.code (rg_name 85) (rg_bytes 85) (rg_maxL 85) (rg_ret 85) ∈ lw_tbl := List.mem_of_getElem? (i := 980) (by rfl)
set_option maxRecDepth 100000 in
theorem rg_cw86 : Cond.code (rg_name 86) (rg_bytes 86) (rg_maxL 86) (rg_ret 86) ∈ lw_tbl := List.mem_of_getElem? (i := 984) (by rfl)
set_option maxRecDepth 100000 in
theorem rg_cw87 : Cond.code (rg_name 87) (rg_bytes 87) (rg_maxL 87) (rg_ret 87) ∈ lw_tbl := List.mem_of_getElem? (i := 988) (by rfl)
set_option maxRecDepth 100000 in
theorem rg_cw88 : Cond.code (rg_name 88) (rg_bytes 88) (rg_maxL 88) (rg_ret 88) ∈ lw_tbl := List.mem_of_getElem? (i := 993) (by rfl)
set_option maxRecDepth 100000 in
theorem rg_cw89 : Cond.code (rg_name 89) (rg_bytes 89) (rg_maxL 89) (rg_ret 89) ∈ lw_tbl := List.mem_of_getElem? (i := 997) (by rfl)
set_option maxRecDepth 100000 in
theorem rg_cw90 : Cond.code (rg_name 90) (rg_bytes 90) (rg_maxL 90) (rg_ret 90) ∈ lw_tbl := List.mem_of_getElem? (i := 1002) (by rfl)
set_option maxRecDepth 100000 in
theorem rg_cw91 : Cond.code (rg_name 91) (rg_bytes 91) (rg_maxL 91) (rg_ret 91) ∈ lw_tbl := List.mem_of_getElem? (i := 1007) (by rfl)
set_option maxRecDepth 100000 in
theorem rg_cw92 : Cond.code (rg_name 92) (rg_bytes 92) (rg_maxL 92) (rg_ret 92) ∈ lw_tbl := List.mem_of_getElem? (i := 1011) (by rfl)
set_option maxRecDepth 100000 in
theorem rg_cw93 : Cond.code (rg_name 93) (rg_bytes 93) (rg_maxL 93) (rg_ret 93) ∈ lw_tbl := List.mem_of_getElem? (i := 1015) (by rfl)
set_option maxRecDepth 100000 in
theorem rg_cw94 : Cond.code (rg_name 94) (rg_bytes 94) (rg_maxL 94) (rg_ret 94) ∈ lw_tbl := List.mem_of_getElem? (i := 1021) (by rfl)
set_option maxRecDepth 100000 in
theorem rg_cw95 : Cond.code (rg_name 95) (rg_bytes 95) (rg_maxL 95) (rg_ret 95) ∈ lw_tbl := List.mem_of_getElem? (i := 1025) (by rfl)
set_option maxRecDepth 100000 in
theorem rg_cw96 : Cond.code (rg_name 96) (rg_bytes 96) (rg_maxL 96) (rg_ret 96) ∈ lw_tbl := List.mem_of_getElem? (i := 1029) (by rfl)
set_option maxRecDepth 100000 in
theorem rg_cw97 : Cond.code (rg_name 97) (rg_bytes 97) (rg_maxL 97) (rg_ret 97) ∈ lw_tbl := List.mem_of_getElem? (i := 1033) (by rfl)
set_option maxRecDepth 100000 in
theorem rg_cw98 : Cond.code (rg_name 98) (rg_bytes 98) (rg_maxL 98) (rg_ret 98) ∈ lw_tbl := List.mem_of_getElem? (i := 1037) (by rfl)
set_option maxRecDepth 100000 in
theorem rg_cw99 : Cond.code (rg_name 99) (rg_bytes 99) (rg_maxL 99) (rg_ret 99) ∈ lw_tbl := List.mem_of_getElem? (i := 1042) (by rfl)
set_option maxRecDepth 100000 in
theorem rg_cw100 : Cond.code (rg_name 100) (rg_bytes 100) (rg_maxL 100) (rg_ret 100) ∈ lw_tbl := List.mem_of_getElem? (i := 1046) (by rfl)
set_option maxRecDepth 100000 in
theorem rg_cw101 : Cond.code (rg_name 101) (rg_bytes 101) (rg_maxL 101) (rg_ret 101) ∈ lw_tbl := List.mem_of_getElem? (i := 1050) (by rfl)
set_option maxRecDepth 100000 in
theorem rg_cw102 : Cond.code (rg_name 102) (rg_bytes 102) (rg_maxL 102) (rg_ret 102) ∈ lw_tbl := List.mem_of_getElem? (i := 1057) (by rfl)
set_option maxRecDepth 100000 in
theorem rg_cw103 : Cond.code (rg_name 103) (rg_bytes 103) (rg_maxL 103) (rg_ret 103) ∈ lw_tbl := List.mem_of_getElem? (i := 1060) (by rfl)
set_option maxRecDepth 100000 in
theorem rg_cw104 : Cond.code (rg_name 104) (rg_bytes 104) (rg_maxL 104) (rg_ret 104) ∈ lw_tbl := List.mem_of_getElem? (i := 1067) (by rfl)
set_option maxRecDepth 100000 in
theorem rg_cw105 : Cond.code (rg_name 105) (rg_bytes 105) (rg_maxL 105) (rg_ret 105) ∈ lw_tbl := List.mem_of_getElem? (i := 1071) (by rfl)
set_option maxRecDepth 100000 in
theorem rg_cw106 : Cond.code (rg_name 106) (rg_bytes 106) (rg_maxL 106) (rg_ret 106) ∈ lw_tbl := List.mem_of_getElem? (i := 1075) (by rfl)
set_option maxRecDepth 100000 in
theorem rg_cw107 : Cond.code (rg_name 107) (rg_bytes 107) (rg_maxL 107) (rg_ret 107) ∈ lw_tbl := List.mem_of_getElem? (i := 1079) (by rfl)
set_option maxRecDepth 100000 in
theorem rg_cw108 : Cond.code (rg_name 108) (rg_bytes 108) (rg_maxL 108) (rg_ret 108) ∈ lw_tbl := List.mem_of_getElem? (i := 1083) (by rfl)
set_option maxRecDepth 100000 in
theorem rg_cw109 : Cond.code (rg_name 109) (rg_bytes 109) (rg_maxL 109) (rg_ret 109) ∈ lw_tbl := List.mem_of_getElem? (i := 1087) (by rfl)
set_option maxRecDepth 100000 in
theorem rg_cw110 : Cond.code (rg_name 110) (rg_bytes 110) (rg_maxL 110) (rg_ret 110) ∈ lw_tbl := List.mem_of_getElem? (i := 1091) (by rfl)
set_option maxRecDepth 100000 in
theorem rg_cw111 : Cond.code (rg_name 111) (rg_bytes 111) (rg_maxL 111) (rg_ret 111) ∈ lw_tbl := List.mem_of_getElem? (i := 1095) (by rfl)
set_option maxRecDepth 100000 in
theorem rg_cw112 : Cond.code (rg_name 112) (rg_bytes 112) (rg_maxL 112) (rg_ret 112) ∈ lw_tbl := List.mem_of_getElem? (i := 1099) (by rfl)
set_option maxRecDepth 100000 in
theorem rg_cw113 : Cond.code (rg_name 113) (rg_bytes 113) (rg_maxL 113) (rg_ret 113) ∈ lw_tbl := List.mem_of_getElem? (i := 1103) (by rfl)
set_option maxRecDepth 100000 in
theorem rg_cw114 : Cond.code (rg_name 114) (rg_bytes 114) (rg_maxL 114) (rg_ret 114) ∈ lw_tbl := List.mem_of_getElem? (i := 1107) (by rfl)
set_option maxRecDepth 100000 in
theorem rg_cw115 : Cond.code (rg_name 115) (rg_bytes 115) (rg_maxL 115) (rg_ret 115) ∈ lw_tbl := List.mem_of_getElem? (i := 1115) (by rfl)
set_option maxRecDepth 100000 in
theorem rg_cw116 : Cond.code (rg_name 116) (rg_bytes 116) (rg_maxL 116) (rg_ret 116) ∈ lw_tbl := List.mem_of_getElem? (i := 1120) (by rfl)
set_option maxRecDepth 100000 in
theorem rg_cw117 : Cond.code (rg_name 117) (rg_bytes 117) (rg_maxL 117) (rg_ret 117) ∈ lw_tbl := List.mem_of_getElem? (i := 1126) (by rfl)
set_option maxRecDepth 100000 in
theorem rg_cw118 : Cond.code (rg_name 118) (rg_bytes 118) (rg_maxL 118) (rg_ret 118) ∈ lw_tbl := List.mem_of_getElem? (i := 1132) (by rfl)
set_option maxRecDepth 100000 in
theorem rg_cw119 : Cond.code (rg_name 119) (rg_bytes 119) (rg_maxL 119) (rg_ret 119) ∈ lw_tbl := List.mem_of_getElem? (i := 1136) (by rfl)
set_option maxRecDepth 100000 in
theorem rg_cw120 : Cond.code (rg_name 120) (rg_bytes 120) (rg_maxL 120) (rg_ret 120) ∈ lw_tbl := List.mem_of_getElem? (i := 1141) (by rfl)
set_option maxRecDepth 100000 in
theorem rg_cw121 : Cond.code (rg_name 121) (rg_bytes 121) (rg_maxL 121) (rg_ret 121) ∈ lw_tbl := List.mem_of_getElem? (i := 1145) (by rfl)
set_option maxRecDepth 100000 in
theorem rg_cw122 : Cond.code (rg_name 122) (rg_bytes 122) (rg_maxL 122) (rg_ret 122) ∈ lw_tbl := List.mem_of_getElem? (i := 1152) (by rfl)
set_option maxRecDepth 100000 in
theorem rg_cw123 : Cond.code (rg_name 123) (rg_bytes 123) (rg_maxL 123) (rg_ret 123) ∈ lw_tbl := List.mem_of_getElem? (i := 1157) (by rfl)
set_option maxRecDepth 100000 in
theorem rg_cw124 : Cond.code (rg_name 124) (rg_bytes 124) (rg_maxL 124) (rg_ret 124) ∈ lw_tbl := List.mem_of_getElem? (i := 1161) (by rfl)
set_option maxRecDepth 100000 in
theorem rg_cw125 : Cond.code (rg_name 125) (rg_bytes 125) (rg_maxL 125) (rg_ret 125) ∈ lw_tbl := List.mem_of_getElem? (i := 1165) (by rfl)
set_option maxRecDepth 100000 in
theorem rg_cw126 : Cond.code (rg_name 126) (rg_bytes 126) (rg_maxL 126) (rg_ret 126) ∈ lw_tbl := List.mem_of_getElem? (i := 1169) (by rfl)
set_option maxRecDepth 100000 in
theorem rg_cw127 : Cond.code (rg_name 127) (rg_bytes 127) (rg_maxL 127) (rg_ret 127) ∈ lw_tbl := List.mem_of_getElem? (i := 1173) (by rfl)
set_option maxRecDepth 100000 in
theorem rg_cw128 : Cond.code (rg_name 128) (rg_bytes 128) (rg_maxL 128) (rg_ret 128) ∈ lw_tbl := List.mem_of_getElem? (i := 1177) (by rfl)
set_option maxRecDepth 100000 in
theorem rg_cw129 : Cond.code (rg_name 129) (rg_bytes 129) (rg_maxL 129) (rg_ret 129) ∈ lw_tbl := List.mem_of_getElem? (i := 1182) (by rfl)
set_option maxRecDepth 100000 in
theorem rg_cw130 : Cond.code (rg_name 130) (rg_bytes 130) (rg_maxL 130) (rg_ret 130) ∈ lw_tbl := List.mem_of_getElem? (i := 1187) (by rfl)
set_option maxRecDepth 100000 in
theorem rg_cw131 : Cond.code (rg_name 131) (rg_bytes 131) (rg_maxL 131) (rg_ret 131) ∈ lw_tbl := List.mem_of_getElem? (i := 1190) (by rfl)
set_option maxRecDepth 100000 in
theorem rg_cw132 : Cond.code (rg_name 132) (rg_bytes 132) (rg_maxL 132) (rg_ret 132) ∈ lw_tbl := List.mem_of_getElem? (i := 1194) (by rfl)
set_option maxRecDepth 100000 in
theorem rg_cw133 : Cond.code (rg_name 133) (rg_bytes 133) (rg_maxL 133) (rg_ret 133) ∈ lw_tbl := List.mem_of_getElem? (i := 1198) (by rfl)
set_option maxRecDepth 100000 in
theorem rg_cw134 : Cond.code (rg_name 134) (rg_bytes 134) (rg_maxL 134) (rg_ret 134) ∈ lw_tbl := List.mem_of_getElem? (i := 1204) (by rfl)
set_option maxRecDepth 100000 in
theorem rg_cw135 : Cond.code (rg_name 135) (rg_bytes 135) (rg_maxL 135) (rg_ret 135) ∈ lw_tbl := List.mem_of_getElem? (i := 1209) (by rfl)
set_option maxRecDepth 100000 in
theorem rg_cw136 : Cond.code (rg_name 136) (rg_bytes 136) (rg_maxL 136) (rg_ret 136) ∈ lw_tbl := List.mem_of_getElem? (i := 1213) (by rfl)
set_option maxRecDepth 100000 in
theorem rg_cw137 : Cond.code (rg_name 137) (rg_bytes 137) (rg_maxL 137) (rg_ret 137) ∈ lw_tbl := List.mem_of_getElem? (i := 1217) (by rfl)
set_option maxRecDepth 100000 in
theorem rg_cw138 : Cond.code (rg_name 138) (rg_bytes 138) (rg_maxL 138) (rg_ret 138) ∈ lw_tbl := List.mem_of_getElem? (i := 1220) (by rfl)
set_option maxRecDepth 100000 in
theorem rg_cw139 : Cond.code (rg_name 139) (rg_bytes 139) (rg_maxL 139) (rg_ret 139) ∈ lw_tbl := List.mem_of_getElem? (i := 1225) (by rfl)
set_option maxRecDepth 100000 in
theorem rg_cw140 : Cond.code (rg_name 140) (rg_bytes 140) (rg_maxL 140) (rg_ret 140) ∈ lw_tbl := List.mem_of_getElem? (i := 1229) (by rfl)
set_option maxRecDepth 100000 in
theorem rg_cw141 : Cond.code (rg_name 141) (rg_bytes 141) (rg_maxL 141) (rg_ret 141) ∈ lw_tbl := List.mem_of_getElem? (i := 1507) (by rfl)
set_option maxRecDepth 100000 in
theorem rg_cw142 : Cond.code (rg_name 142) (rg_bytes 142) (rg_maxL 142) (rg_ret 142) ∈ lw_tbl := List.mem_of_getElem? (i := 1511) (by rfl)
set_option maxRecDepth 100000 in
theorem rg_cw143 : Cond.code (rg_name 143) (rg_bytes 143) (rg_maxL 143) (rg_ret 143) ∈ lw_tbl := List.mem_of_getElem? (i := 1515) (by rfl)
set_option maxRecDepth 100000 in
theorem rg_cw144 : Cond.code (rg_name 144) (rg_bytes 144) (rg_maxL 144) (rg_ret 144) ∈ lw_tbl := List.mem_of_getElem? (i := 1519) (by rfl)
set_option maxRecDepth 100000 in
theorem rg_cw145 : Cond.code (rg_name 145) (rg_bytes 145) (rg_maxL 145) (rg_ret 145) ∈ lw_tbl := List.mem_of_getElem? (i := 1523) (by rfl)
set_option maxRecDepth 100000 in
theorem rg_cw146 : Cond.code (rg_name 146) (rg_bytes 146) (rg_maxL 146) (rg_ret 146) ∈ lw_tbl := List.mem_of_getElem? (i := 1527) (by rfl)
set_option maxRecDepth 100000 in
theorem rg_cw147 : Cond.code (rg_name 147) (rg_bytes 147) (rg_maxL 147) (rg_ret 147) ∈ lw_tbl := List.mem_of_getElem? (i := 1530) (by rfl)
set_option maxRecDepth 100000 in
theorem rg_cw148 : Cond.code (rg_name 148) (rg_bytes 148) (rg_maxL 148) (rg_ret 148) ∈ lw_tbl := List.mem_of_getElem? (i := 1534) (by rfl)
set_option maxRecDepth 100000 in
theorem rg_cw149 : Cond.code (rg_name 149) (rg_bytes 149) (rg_maxL 149) (rg_ret 149) ∈ lw_tbl := List.mem_of_getElem? (i := 1539) (by rfl)
set_option maxRecDepth 100000 in
theorem rg_cw150 : Cond.code (rg_name 150) (rg_bytes 150) (rg_maxL 150) (rg_ret 150) ∈ lw_tbl := List.mem_of_getElem? (i := 1543) (by rfl)
set_option maxRecDepth 100000 in
theorem rg_cw151 : Cond.code (rg_name 151) (rg_bytes 151) (rg_maxL 151) (rg_ret 151) ∈ lw_tbl := List.mem_of_getElem? (i := 1547) (by rfl)
set_option maxRecDepth 100000 in
theorem rg_cw152 : Cond.code (rg_name 152) (rg_bytes 152) (rg_maxL 152) (rg_ret 152) ∈ lw_tbl := List.mem_of_getElem? (i := 1551) (by rfl)
set_option maxRecDepth 100000 in
theorem rg_cw153 : Cond.code (rg_name 153) (rg_bytes 153) (rg_maxL 153) (rg_ret 153) ∈ lw_tbl := List.mem_of_getElem? (i := 1555) (by rfl)
set_option maxRecDepth 100000 in
theorem rg_cw154 : Cond.code (rg_name 154) (rg_bytes 154) (rg_maxL 154) (rg_ret 154) ∈ lw_tbl := List.mem_of_getElem? (i := 1559) (by rfl)
set_option maxRecDepth 100000 in
theorem rg_cw155 : Cond.code (rg_name 155) (rg_bytes 155) (rg_maxL 155) (rg_ret 155) ∈ lw_tbl := List.mem_of_getElem? (i := 1563) (by rfl)
set_option maxRecDepth 100000 in
theorem rg_cw156 : Cond.code (rg_name 156) (rg_bytes 156) (rg_maxL 156) (rg_ret 156) ∈ lw_tbl := List.mem_of_getElem? (i := 1567) (by rfl)
set_option maxRecDepth 100000 in
theorem rg_cw157 : Cond.code (rg_name 157) (rg_bytes 157) (rg_maxL 157) (rg_ret 157) ∈ lw_tbl := List.mem_of_getElem? (i := 1571) (by rfl)
set_option maxRecDepth 100000 in
theorem rg_cw158 : Cond.code (rg_name 158) (rg_bytes 158) (rg_maxL 158) (rg_ret 158) ∈ lw_tbl := List.mem_of_getElem? (i := 1576) (by rfl)
set_option maxRecDepth 100000 in
theorem rg_cw159 : Cond.code (rg_name 159) (rg_bytes 159) (rg_maxL 159) (rg_ret 159) ∈ lw_tbl := List.mem_of_getElem? (i := 1579) (by rfl)
set_option maxRecDepth 100000 in
theorem rg_cw160 : Cond.code (rg_name 160) (rg_bytes 160) (rg_maxL 160) (rg_ret 160) ∈ lw_tbl := List.mem_of_getElem? (i := 1585) (by rfl)
set_option maxRecDepth 100000 in
theorem rg_cw161 : Cond.code (rg_name 161) (rg_bytes 161) (rg_maxL 161) (rg_ret 161) ∈ lw_tbl := List.mem_of_getElem? (i := 1589) (by rfl)
set_option maxRecDepth 100000 in
theorem rg_cw162 : Cond.code (rg_name 162) (rg_bytes 162) (rg_maxL 162) (rg_ret 162) ∈ lw_tbl := List.mem_of_getElem? (i := 1593) (by rfl)
set_option maxRecDepth 100000 in
theorem rg_cw163 : Cond.code (rg_name 163) (rg_bytes 163) (rg_maxL 163) (rg_ret 163) ∈ lw_tbl := List.mem_of_getElem? (i := 1597) (by rfl)
set_option maxRecDepth 100000 in
theorem rg_cw164 : Cond.code (rg_name 164) (rg_bytes 164) (rg_maxL 164) (rg_ret 164) ∈ lw_tbl := List.mem_of_getElem? (i := 1602) (by rfl)
set_option maxRecDepth 100000 in
theorem rg_cw165 : Cond.code (rg_name 165) (rg_bytes 165) (rg_maxL 165) (rg_ret 165) ∈ lw_tbl := List.mem_of_getElem? (i := 1606) (by rfl)
set_option maxRecDepth 100000 in
theorem rg_cw166 : Cond.code (rg_name 166) (rg_bytes 166) (rg_maxL 166) (rg_ret 166) ∈ lw_tbl := List.mem_of_getElem? (i := 1610) (by rfl)
set_option maxRecDepth 100000 in
theorem rg_cw167 : Cond.code (rg_name 167) (rg_bytes 167) (rg_maxL 167) (rg_ret 167) ∈ lw_tbl := List.mem_of_getElem? (i := 1614) (by rfl)
set_option maxRecDepth 100000 in
theorem rg_cw168 : Cond.code (rg_name 168) (rg_bytes 168) (rg_maxL 168) (rg_ret 168) ∈ lw_tbl := List.mem_of_getElem? (i := 1619) (by rfl)
set_option maxRecDepth 100000 in
theorem rg_cw169 : Cond.code (rg_name 169) (rg_bytes 169) (rg_maxL 169) (rg_ret 169) ∈ lw_tbl := List.mem_of_getElem? (i := 1623) (by rfl)
set_option maxRecDepth 100000 in
theorem rg_cw170 : Cond.code (rg_name 170) (rg_bytes 170) (rg_maxL 170) (rg_ret 170) ∈ lw_tbl := List.mem_of_getElem? (i := 1627) (by rfl)
set_option maxRecDepth 100000 in
theorem rg_cw171 : Cond.code (rg_name 171) (rg_bytes 171) (rg_maxL 171) (rg_ret 171) ∈ lw_tbl := List.mem_of_getElem? (i := 1631) (by rfl)
set_option maxRecDepth 100000 in
theorem rg_cw172 : Cond.code (rg_name 172) (rg_bytes 172) (rg_maxL 172) (rg_ret 172) ∈ lw_tbl := List.mem_of_getElem? (i := 1635) (by rfl)
set_option maxRecDepth 100000 in
theorem rg_cw173 : Cond.code (rg_name 173) (rg_bytes 173) (rg_maxL 173) (rg_ret 173) ∈ lw_tbl := List.mem_of_getElem? (i := 1639) (by rfl)
set_option maxRecDepth 100000 in
theorem rg_cw174 : Cond.code (rg_name 174) (rg_bytes 174) (rg_maxL 174) (rg_ret 174) ∈ lw_tbl := List.mem_of_getElem? (i := 1642) (by rfl)
set_option maxRecDepth 100000 in
theorem rg_cw175 : Cond.code (rg_name 175) (rg_bytes 175) (rg_maxL 175) (rg_ret 175) ∈ lw_tbl := List.mem_of_getElem? (i := 1646) (by rfl)
set_option maxRecDepth 100000 in
theorem rg_cw176 : Cond.code (rg_name 176) (rg_bytes 176) (rg_maxL 176) (rg_ret 176) ∈ lw_tbl := List.mem_of_getElem? (i := 1650) (by rfl)
set_option maxRecDepth 100000 in
theorem rg_cw177 : Cond.code (rg_name 177) (rg_bytes 177) (rg_maxL 177) (rg_ret 177) ∈ lw_tbl := List.mem_of_getElem? (i := 1654) (by rfl)
set_option maxRecDepth 100000 in
theorem rg_cw178 : Cond.code (rg_name 178) (rg_bytes 178) (rg_maxL 178) (rg_ret 178) ∈ lw_tbl := List.mem_of_getElem? (i := 1658) (by rfl)
set_option maxRecDepth 100000 in
theorem rg_cw179 : Cond.code (rg_name 179) (rg_bytes 179) (rg_maxL 179) (rg_ret 179) ∈ lw_tbl := List.mem_of_getElem? (i := 1662) (by rfl)
set_option maxRecDepth 100000 in
theorem rg_cw180 : Cond.code (rg_name 180) (rg_bytes 180) (rg_maxL 180) (rg_ret 180) ∈ lw_tbl := List.mem_of_getElem? (i := 1666) (by rfl)
set_option maxRecDepth 100000 in
theorem rg_cw181 : Cond.code (rg_name 181) (rg_bytes 181) (rg_maxL 181) (rg_ret 181) ∈ lw_tbl := List.mem_of_getElem? (i := 1670) (by rfl)
set_option maxRecDepth 100000 in
theorem rg_cw182 : Cond.code (rg_name 182) (rg_bytes 182) (rg_maxL 182) (rg_ret 182) ∈ lw_tbl := List.mem_of_getElem? (i := 1674) (by rfl)
set_option maxRecDepth 100000 in
theorem rg_cw183 : Cond.code (rg_name 183) (rg_bytes 183) (rg_maxL 183) (rg_ret 183) ∈ lw_tbl := List.mem_of_getElem? (i := 1678) (by rfl)
set_option maxRecDepth 100000 in
theorem rg_cw184 : Cond.code (rg_name 184) (rg_bytes 184) (rg_maxL 184) (rg_ret 184) ∈ lw_tbl := List.mem_of_getElem? (i := 1682) (by rfl)
set_option maxRecDepth 100000 in
theorem rg_cw185 : Cond.code (rg_name 185) (rg_bytes 185) (rg_maxL 185) (rg_ret 185) ∈ lw_tbl := List.mem_of_getElem? (i := 1686) (by rfl)
set_option maxRecDepth 100000 in
theorem rg_cw186 : Cond.code (rg_name 186) (rg_bytes 186) (rg_maxL 186) (rg_ret 186) ∈ lw_tbl := List.mem_of_getElem? (i := 1692) (by rfl)
set_option maxRecDepth 100000 in
theorem rg_cw187 : Cond.code (rg_name 187) (rg_bytes 187) (rg_maxL 187) (rg_ret 187) ∈ lw_tbl := List.mem_of_getElem? (i := 1696) (by rfl)
set_option maxRecDepth 100000 in
theorem rg_cw188 : Cond.code (rg_name 188) (rg_bytes 188) (rg_maxL 188) (rg_ret 188) ∈ lw_tbl := List.mem_of_getElem? (i := 1700) (by rfl)
set_option maxRecDepth 100000 in
theorem rg_cw189 : Cond.code (rg_name 189) (rg_bytes 189) (rg_maxL 189) (rg_ret 189) ∈ lw_tbl := List.mem_of_getElem? (i := 1704) (by rfl)
set_option maxRecDepth 100000 in
theorem rg_cw190 : Cond.code (rg_name 190) (rg_bytes 190) (rg_maxL 190) (rg_ret 190) ∈ lw_tbl := List.mem_of_getElem? (i := 1709) (by rfl)
set_option maxRecDepth 100000 in
theorem rg_cw191 : Cond.code (rg_name 191) (rg_bytes 191) (rg_maxL 191) (rg_ret 191) ∈ lw_tbl := List.mem_of_getElem? (i := 1713) (by rfl)
set_option maxRecDepth 100000 in
theorem rg_cw192 : Cond.code (rg_name 192) (rg_bytes 192) (rg_maxL 192) (rg_ret 192) ∈ lw_tbl := List.mem_of_getElem? (i := 1717) (by rfl)
set_option maxRecDepth 100000 in
theorem rg_cw193 : Cond.code (rg_name 193) (rg_bytes 193) (rg_maxL 193) (rg_ret 193) ∈ lw_tbl := List.mem_of_getElem? (i := 1721) (by rfl)
set_option maxRecDepth 100000 in
theorem rg_cw194 : Cond.code (rg_name 194) (rg_bytes 194) (rg_maxL 194) (rg_ret 194) ∈ lw_tbl := List.mem_of_getElem? (i := 1725) (by rfl)
set_option maxRecDepth 100000 in
theorem rg_cw195 : Cond.code (rg_name 195) (rg_bytes 195) (rg_maxL 195) (rg_ret 195) ∈ lw_tbl := List.mem_of_getElem? (i := 1729) (by rfl)
set_option maxRecDepth 100000 in
theorem rg_cw196 : Cond.code (rg_name 196) (rg_bytes 196) (rg_maxL 196) (rg_ret 196) ∈ lw_tbl := List.mem_of_getElem? (i := 1733) (by rfl)
set_option maxRecDepth 100000 in
theorem rg_cw197 : Cond.code (rg_name 197) (rg_bytes 197) (rg_maxL 197) (rg_ret 197) ∈ lw_tbl := List.mem_of_getElem? (i := 1736) (by rfl)
set_option maxRecDepth 100000 in
theorem rg_cw198 : Cond.code (rg_name 198) (rg_bytes 198) (rg_maxL 198) (rg_ret 198) ∈ lw_tbl := List.mem_of_getElem? (i := 1740) (by rfl)
set_option maxRecDepth 100000 in
theorem rg_cw199 : Cond.code (rg_name 199) (rg_bytes 199) (rg_maxL 199) (rg_ret 199) ∈ lw_tbl := List.mem_of_getElem? (i := 1744) (by rfl)
set_option maxRecDepth 100000 in
theorem rg_cw200 : Cond.code (rg_name 200) (rg_bytes 200) (rg_maxL 200) (rg_ret 200) ∈ lw_tbl := List.mem_of_getElem? (i := 1748) (by rfl)
set_option maxRecDepth 100000 in
theorem rg_cw201 : Cond.code (rg_name 201) (rg_bytes 201) (rg_maxL 201) (rg_ret 201) ∈ lw_tbl := List.mem_of_getElem? (i := 1752) (by rfl)
set_option maxRecDepth 100000 in
theorem rg_cw202 : Cond.code (rg_name 202) (rg_bytes 202) (rg_maxL 202) (rg_ret 202) ∈ lw_tbl := List.mem_of_getElem? (i := 1756) (by rfl)
set_option maxRecDepth 100000 in
theorem rg_cw203 : Cond.code (rg_name 203) (rg_bytes 203) (rg_maxL 203) (rg_ret 203) ∈ lw_tbl := List.mem_of_getElem? (i := 1760) (by rfl)
set_option maxRecDepth 100000 in
theorem rg_cw204 : Cond.code (rg_name 204) (rg_bytes 204) (rg_maxL 204) (rg_ret 204) ∈ lw_tbl := List.mem_of_getElem? (i := 1763) (by rfl)
set_option maxRecDepth 100000 in
theorem rg_cw205 : Cond.code (rg_name 205) (rg_bytes 205) (rg_maxL 205) (rg_ret 205) ∈ lw_tbl := List.mem_of_getElem? (i := 1768) (by rfl)
set_option maxRecDepth 100000 in
theorem rg_cw206 : Cond.code (rg_name 206) (rg_bytes 206) (rg_maxL 206) (rg_ret 206) ∈ lw_tbl := List.mem_of_getElem? (i := 1772) (by rfl)
set_option maxRecDepth 100000 in
theorem rg_cw207 : Cond.code (rg_name 207) (rg_bytes 207) (rg_maxL 207) (rg_ret 207) ∈ lw_tbl := List.mem_of_getElem? (i := 1776) (by rfl)
set_option maxRecDepth 100000 in
theorem rg_cw208 : Cond.code (rg_name 208) (rg_bytes 208) (rg_maxL 208) (rg_ret 208) ∈ lw_tbl := List.mem_of_getElem? (i := 1780) (by rfl)
set_option maxRecDepth 100000 in
theorem rg_cw209 : Cond.code (rg_name 209) (rg_bytes 209) (rg_maxL 209) (rg_ret 209) ∈ lw_tbl := List.mem_of_getElem? (i := 1786) (by rfl)
set_option maxRecDepth 100000 in
theorem rg_cw210 : Cond.code (rg_name 210) (rg_bytes 210) (rg_maxL 210) (rg_ret 210) ∈ lw_tbl := List.mem_of_getElem? (i := 1790) (by rfl)
set_option maxRecDepth 100000 in
theorem rg_cw211 : Cond.code (rg_name 211) (rg_bytes 211) (rg_maxL 211) (rg_ret 211) ∈ lw_tbl := List.mem_of_getElem? (i := 1794) (by rfl)
set_option maxRecDepth 100000 in
theorem rg_cw212 : Cond.code (rg_name 212) (rg_bytes 212) (rg_maxL 212) (rg_ret 212) ∈ lw_tbl := List.mem_of_getElem? (i := 1798) (by rfl)
set_option maxRecDepth 100000 in
theorem rg_cw213 : Cond.code (rg_name 213) (rg_bytes 213) (rg_maxL 213) (rg_ret 213) ∈ lw_tbl := List.mem_of_getElem? (i := 1802) (by rfl)
def rg_flok (o : Nat) (e : Nat × Nat × Nat × Nat) : Bool := match rg_classes[e.2.1]? with
  | some (C, T, N) => decide (e.2.2.1 < N) && decide ((T e.2.2.1).1 = C) && decide (lw_tbl[e.2.2.2]? = some (Cond.fieldLink (rg_on.getD o "") e.1 C (T e.2.2.1).2.1 (T e.2.2.1).2.2.1))
  | none => false
set_option maxRecDepth 100000 in
theorem rg_fl_ok : (List.range 17).all (fun o => (rg_fl.getD o []).all (rg_flok o)) = true := by decide +kernel
def rg_ivok (o : Nat) (e : Nat × Nat × Nat × Nat) : Bool :=
  decide (e.2.2.1 < 214) &&
  (match e.2.1 with
  | 0 => decide ((rg_mr e.2.2.1).2.2.2.2.1.2.2 = 0) && decide (lw_tbl[e.2.2.2]? = some (Cond.methodLink (rg_on.getD o "") e.1 (rg_name e.2.2.1)))
  | 1 => decide ((rg_mr e.2.2.1).2.2.2.2.1.2.2 = 1) && decide (lw_tbl[e.2.2.2]? = some (Cond.methodLink (rg_on.getD o "") e.1 (rg_name e.2.2.1)))
  | _ => decide ((rg_mr e.2.2.1).2.2.2.2.1.2.2 = 1) && decide (lw_tbl[e.2.2.2]? = some (Cond.methodLinkNest (rg_on.getD o "") e.1 (rg_name e.2.2.1) "RiverGauge")))
set_option maxRecDepth 100000 in
theorem rg_iv_ok : (List.range 17).all (fun o => (rg_iv.getD o []).all (rg_ivok o)) = true := by decide +kernel
set_option maxRecDepth 100000 in
theorem rg_cs_ok : (List.range 17).all (fun o => (rg_cs.getD o []).all (fun e => decide (lw_tbl[e.2.2]? = some (Cond.constant (rg_on.getD o "") e.1 e.2.1)))) = true := by decide +kernel
set_option maxRecDepth 100000 in
theorem rg_cl_ok : (List.range 17).all (fun o => (rg_cl.getD o []).all (fun e => decide (lw_tbl[e.2.2]? = some (Cond.constantLong (rg_on.getD o "") e.1 e.2.1)))) = true := by decide +kernel
def rg_slok (T : u_T) (ty : Nat → FieldType) (k z : Nat) : Bool := match z with
  | 0 => decide (ty k = .int) && !(T k).2.2.2
  | 1 => decide (ty k = .boolean) && !(T k).2.2.2
  | 2 => decide (ty k = .long) && !(T k).2.2.2
  | _ => true
def rg_shok : rg_Sh → Bool
  | .inl (ci, ks) => match rg_classes[ci]?, rg_tyL[ci]? with
    | some (_, T, N), some ty => decide (ks.length = N) && (List.range N).all (fun k => rg_slok T ty k (ks.getD k 0))
    | _, _ => false
  | .inr (t, _, _, _) => decide (t < 4)
set_option maxRecDepth 100000 in
theorem rg_shapes_ok : rg_shapes.all rg_shok = true := by decide +kernel
theorem rg_shapes_len : rg_shapes.length = 149 := by decide +kernel
theorem rg_mt_len : rg_mt.length = 214 := by decide +kernel
theorem rg_code_len : rg_code.length = 214 := by decide +kernel
def rg_lp0 : List Nat := [543, 545, 547, 549, 551, 553, 555, 557, 559, 561, 563, 565, 567, 569, 571, 573, 575]
set_option maxRecDepth 100000 in
theorem rg_il0 : (List.range 17).all (fun k => decide (lw_tbl[rg_lp0.getD k 0]? = some (u_lay "RiverGauge" rg_T0 k)) && goodWord (u_lay "RiverGauge" rg_T0 k)) = true := by decide +kernel
def rg_lp1 : List Nat := [120, 122, 124, 126, 128, 130, 132, 134, 136, 138, 140]
set_option maxRecDepth 100000 in
theorem rg_il1 : (List.range 11).all (fun k => decide (lw_tbl[rg_lp1.getD k 0]? = some (u_lay "RiverGauge$Posts" rg_T1 k)) && goodWord (u_lay "RiverGauge$Posts" rg_T1 k)) = true := by decide +kernel
def rg_lp2 : List Nat := [170, 172, 174, 176, 178, 180, 182, 184, 186]
set_option maxRecDepth 100000 in
theorem rg_il2 : (List.range 9).all (fun k => decide (lw_tbl[rg_lp2.getD k 0]? = some (u_lay "RiverGauge$Heights" rg_T2 k)) && goodWord (u_lay "RiverGauge$Heights" rg_T2 k)) = true := by decide +kernel
def rg_lp3 : List Nat := [213, 215, 217, 219, 221, 223, 225]
set_option maxRecDepth 100000 in
theorem rg_il3 : (List.range 7).all (fun k => decide (lw_tbl[rg_lp3.getD k 0]? = some (u_lay "RiverGauge$Flows" rg_T3 k)) && goodWord (u_lay "RiverGauge$Flows" rg_T3 k)) = true := by decide +kernel
def rg_lp4 : List Nat := [242, 244, 246, 248, 250, 252, 254]
set_option maxRecDepth 100000 in
theorem rg_il4 : (List.range 7).all (fun k => decide (lw_tbl[rg_lp4.getD k 0]? = some (u_lay "RiverGauge$Covers" rg_T4 k)) && goodWord (u_lay "RiverGauge$Covers" rg_T4 k)) = true := by decide +kernel
def rg_lp5 : List Nat := [271, 273, 275, 277, 279]
set_option maxRecDepth 100000 in
theorem rg_il5 : (List.range 5).all (fun k => decide (lw_tbl[rg_lp5.getD k 0]? = some (u_lay "RiverGauge$Tape" rg_T5 k)) && goodWord (u_lay "RiverGauge$Tape" rg_T5 k)) = true := by decide +kernel
def rg_lp6 : List Nat := [297, 299, 301, 303, 305, 307, 309, 311]
set_option maxRecDepth 100000 in
theorem rg_il6 : (List.range 8).all (fun k => decide (lw_tbl[rg_lp6.getD k 0]? = some (u_lay "RiverGauge$Standards" rg_T6 k)) && goodWord (u_lay "RiverGauge$Standards" rg_T6 k)) = true := by decide +kernel
def rg_lp7 : List Nat := [342, 344, 346, 348, 350, 352, 354, 356, 358, 360, 362]
set_option maxRecDepth 100000 in
theorem rg_il7 : (List.range 11).all (fun k => decide (lw_tbl[rg_lp7.getD k 0]? = some (u_lay "RiverGauge$View" rg_T7 k)) && goodWord (u_lay "RiverGauge$View" rg_T7 k)) = true := by decide +kernel
def rg_lp8 : List Nat := [415, 417, 419, 421, 423, 425, 427, 429, 431, 433, 435, 437, 439, 441, 443, 445, 447]
set_option maxRecDepth 100000 in
theorem rg_il8 : (List.range 17).all (fun k => decide (lw_tbl[rg_lp8.getD k 0]? = some (u_lay "RiverGauge$Rating" rg_T8 k)) && goodWord (u_lay "RiverGauge$Rating" rg_T8 k)) = true := by decide +kernel
def rg_lp9 : List Nat := [387, 389, 391]
set_option maxRecDepth 100000 in
theorem rg_il9 : (List.range 3).all (fun k => decide (lw_tbl[rg_lp9.getD k 0]? = some (u_lay "RiverGauge$Points" rg_T9 k)) && goodWord (u_lay "RiverGauge$Points" rg_T9 k)) = true := by decide +kernel
def rg_lp10 : List Nat := [477, 479, 481, 483, 485, 487, 489, 491, 493, 495, 497]
set_option maxRecDepth 100000 in
theorem rg_il10 : (List.range 11).all (fun k => decide (lw_tbl[rg_lp10.getD k 0]? = some (u_lay "RiverGauge$Breaks" rg_T10 k)) && goodWord (u_lay "RiverGauge$Breaks" rg_T10 k)) = true := by decide +kernel
def rg_lp11 : List Nat := [515, 517, 519, 521, 523]
set_option maxRecDepth 100000 in
theorem rg_il11 : (List.range 5).all (fun k => decide (lw_tbl[rg_lp11.getD k 0]? = some (u_lay "RiverGauge$Gaps" rg_T11 k)) && goodWord (u_lay "RiverGauge$Gaps" rg_T11 k)) = true := by decide +kernel
def rg_lp12 : List Nat := [1325, 1327, 1329, 1331, 1333, 1335, 1337, 1339, 1341, 1343, 1345, 1347, 1349, 1351, 1353, 1355, 1357, 1359, 1361, 1363, 1365, 1367, 1369, 1371, 1373, 1375, 1377, 1379, 1381, 1383, 1385, 1387, 1389, 1391, 1393, 1395, 1397, 1399, 1401, 1403, 1405, 1407, 1409, 1411, 1413, 1415, 1417, 1419, 1421, 1423, 1425, 1427, 1429, 1431, 1433, 1435, 1437, 1439, 1441, 1443, 1445, 1447, 1449, 1451, 1453, 1455, 1457, 1459, 1461, 1463, 1465, 1467, 1469, 1471, 1473, 1475, 1477, 1479, 1481, 1483, 1485, 1487, 1489, 1491, 1493, 1495, 1497, 1499, 1501]
set_option maxRecDepth 100000 in
theorem rg_il12 : (List.range 89).all (fun k => decide (lw_tbl[rg_lp12.getD k 0]? = some (u_lay "RiverGaugeModel" rg_T12 k)) && goodWord (u_lay "RiverGaugeModel" rg_T12 k)) = true := by decide +kernel
