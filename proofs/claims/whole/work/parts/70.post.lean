set_option maxRecDepth 8000
section POST
variable {t t' F : Nat} {A A0 A' A1 : rz_A} {S S' : St} {a b c d e p u k z q dy : Int} {h n : Nat}
theorem po_aAcc : ∀ n, (S.post1 z).vw.aAcc h k n = S.vw.aAcc h k n
  | 0 => rfl
  | n + 1 => by
    show (if S.vw.elig h k n ∧ ((S.post1 z).vw.aAcc h k n < 0 ∨ S.vw.hT ((S.post1 z).vw.aAcc h k n).toNat ≤ S.vw.hT n) then (n : Int) else (S.post1 z).vw.aAcc h k n) = _
    rw [po_aAcc n]
    rfl
theorem po_fAcc : ∀ n, (S.post1 z).vw.fAcc q dy k n = S.vw.fAcc q dy k n
  | 0 => rfl
  | n + 1 => by
    show (if S.vw.sP n = q ∧ S.vw.sD n ≤ dy ∧ S.vw.sT n ≤ k ∧ ((S.post1 z).vw.fAcc q dy k n < 0 ∨ S.vw.sD ((S.post1 z).vw.fAcc q dy k n).toNat ≤ S.vw.sD n) then (n : Int) else (S.post1 z).vw.fAcc q dy k n) = _
    rw [po_fAcc n]
    rfl
theorem po_byStd : (S.post1 z).vw.byStd h k = S.vw.byStd h k := by
  show (if S.vw.hR h < 0 then 0 else if (S.post1 z).vw.fAcc 0 ((S.vw.hT h).tdiv 96) k S.nS < 0 then 0 else S.vw.says ((S.post1 z).vw.fAcc 0 ((S.vw.hT h).tdiv 96) k S.nS).toNat (S.vw.strikeL h ((S.post1 z).vw.aAcc h k S.nH))) = _
  rw [po_fAcc, po_aAcc]
  rfl
theorem po_wAcc : ∀ n, (S.post1 z).vw.wAcc p u k n = S.vw.wAcc p u k n
  | 0 => rfl
  | n + 1 => by
    show (if S.vw.hP n = p ∧ S.vw.hT n = u ∧ S.vw.hKn n ≤ k ∧ 0 ≤ S.vw.hR n ∧ ¬ (0 ≤ (S.post1 z).vw.wAcc p u k n ∧ S.vw.hK n < S.vw.hK ((S.post1 z).vw.wAcc p u k n).toNat) ∧ ¬ S.vw.told n k ∧ (S.post1 z).vw.byStd n k = 0 then (n : Int) else (S.post1 z).vw.wAcc p u k n) = _
    rw [po_wAcc n, po_byStd]
    rfl
theorem po_which : (S.post1 z).vw.which p u k = S.vw.which p u k := po_wAcc S.nH
theorem po_zAcc (hp : p.toNat ≠ S.nP) : ∀ n, (S.post1 z).vw.zAcc p u k n = S.vw.zAcc p u k n
  | 0 => by
    show ((-1 : Int), up S.zero S.nP z p.toNat) = (-1, S.zero p.toNat)
    rw [up_ne hp]
  | n + 1 => by
    show (if S.vw.zP n = p ∧ S.vw.zK n ≤ k ∧ S.vw.zF n ≤ u ∧ ((S.post1 z).vw.zAcc p u k n).1 ≤ S.vw.zF n then (S.vw.zF n, S.vw.zZ n) else (S.post1 z).vw.zAcc p u k n) = _
    rw [po_zAcc hp n]
    rfl
theorem po_lvl (hp : p.toNat ≠ S.nP) : (S.post1 z).vw.lvl p u k = S.vw.lvl p u k := by
  show S.vw.hR ((S.post1 z).vw.which p u k).toNat + ((S.post1 z).vw.zAcc p u k S.nZ).2 = _
  rw [po_which, po_zAcc hp]
  rfl
theorem po_cAcc (hO : OK t S) : ∀ n, n ≤ S.nF → cAcc (S.post1 z).vw (S.post1 z).fl p a b k n = cAcc S.vw S.fl p a b k n
  | 0, _ => rfl
  | n + 1, hn => by
    have hf := hO.f n (by omega)
    have ih := po_cAcc hO n (by omega)
    rw [cAcc_s, cAcc_s, ih]
    show (if S.fP n = p ∧ a ≤ S.fT n ∧ S.fT n ≤ b ∧ (S.fl.fKn n ≤ k ∧ ¬ (0 ≤ S.fl.fS n ∧ S.fl.fS n ≤ k) ∧ 0 ≤ (S.post1 z).vw.which (S.fl.fP n) (S.fl.fT n) k) then ((cAcc S.vw S.fl p a b k n).1.add ((S.post1 z).vw.lvl (S.fP n) (S.fT n) k) (S.fN n), if (cAcc S.vw S.fl p a b k n).2 < S.fW n then S.fW n else (cAcc S.vw S.fl p a b k n).2) else cAcc S.vw S.fl p a b k n) = _
    rw [po_which, po_lvl (by omega)]
theorem po_curve (hO : OK t S) : curve (S.post1 z).vw (S.post1 z).fl p a b k = curve S.vw S.fl p a b k := po_cAcc hO S.nF (Nat.le_refl _)
theorem po_at (hO : OK t S) (hw : 0 ≤ S.vw.which p u k) : p.toNat ≠ S.nP := by
  have hwb := (S.vw.wAcc_b p u k S.nH).1
  have hwb1 : S.vw.which p u k < S.nH := hwb
  have hp := (wAcc_p S.vw p u k S.nH hw).1
  have hb := hO.h (S.vw.which p u k).toNat (by omega)
  have hp' : S.hP (S.vw.which p u k).toNat = p := hp
  omega
theorem po_mk : (S.post1 z).vw.mk h k = S.vw.mk h k := by
  show (if S.vw.hKn h ≤ k ∧ 0 ≤ S.vw.hR h then (if S.vw.told h k then 2 else (S.post1 z).vw.byStd h k) else 0) = _
  rw [po_byStd]
  rfl
theorem po_view (hO : OK t S) (hv : View A S.vw k) : View A (S.post1 z).vw k := View.of ⟨hv.kk, hv.n, hv.sort, fun x hx => by
  obtain ⟨p, u, h1, h2, h3, h4, h5⟩ := hv.snd x hx
  exact ⟨p, u, h1, h2, h3, by rw [po_which]; exact h4, by rw [po_lvl (po_at hO h4)]; exact h5⟩, fun p u h1 h2 h3 h4 h5 => by
  rw [po_which] at h5
  exact hv.cmp p u h1 h2 h3 h4 h5, fun h hh => by
  rw [po_mk]
  exact hv.mark h hh⟩
theorem po_CI (hO : OK t S) (hc : CI A S t') : CI A (S.post1 z) t' := CI.of ⟨hc.st, fun hh => po_view hO (hc.vw hh), hc.rd, hc.dr, by rw [po_curve hO]; exact hc.cv⟩
theorem po_MI (hO : OK t S) (hc : MI A S t') : MI A (S.post1 z) t' := MI.of ⟨hc.sm, hc.st, by rw [po_curve hO]; exact hc.cv⟩
theorem postC' (hD : DC A S t) (hO : OK t S) (ht : t < 512) : Ret (x2_post F a A) (S.post a).1 (fun A1 => DC A1 (S.post a).2 (t + 1)) := by
  obtain ⟨A1, e, hA⟩ := postC (F := F) (a := a) hD.1 hO ht
  have h1 := hD.2.up.fr (wx2_post F e) (by decide)
  refine ⟨A1, e, hA, ?_⟩
  unfold St.post
  repeat' split
  · exact h1.cg rfl rfl
  · exact h1.cg rfl rfl
  · exact h1.cg rfl rfl
  · exact po_CI hO h1
theorem postM' (hD : DM A S t) (hO : OK t S) (ht : t < 512) : Ret (x143_post F a A) (S.post a).1 (fun A1 => DM A1 (S.post a).2 (t + 1)) := by
  obtain ⟨A1, e, hA⟩ := postM (F := F) (a := a) hD.1 hO ht
  have h1 := hD.2.up.fr (wx143_post F e) (by decide)
  refine ⟨A1, e, hA, ?_⟩
  unfold St.post
  repeat' split
  · exact h1.cg rfl rfl
  · exact h1.cg rfl rfl
  · exact h1.cg rfl rfl
  · exact po_MI hO h1
end POST
