/-! the law from its entry, out of the pure specification -/
theorem lz_np0 : rc_np 0 = 0 ∧ rc_np 12 = 0 ∧ 1 ≤ rc_maxL 0 ∧ 1 ≤ rc_maxL 12 := by decide +kernel
theorem lz_cls0 : (rc_name 0).cls = "RiverGauge" ∧ (rc_name 12).cls = "RiverGaugeModel" := by decide +kernel
def lz_rho (sz aS aV c : Nat) : Nat := if c < 149 then sz + c else if c = 149 then aS else aV
/-- THE WHOLE OUT OF THE PURE SPECIFICATION -/
theorem whole_of {Inv : Nat → rg_M → Prop} (hSp : rg_Spec Inv) {p : Program} {e : Env} {s : State} {m : MethodId} {below : List Frame} {meth : Method} {c : Code} (l : Launch) {b L : Nat} {xs : Nat → Int32} (hL : L ≤ 3072) (C0 : lw_At p s m meth c b L xs) : W p l e room_1 s m #[Value.ref b] below meth c s.heap [] 0 0 (lw_Z below #[Value.ref b] s) (entryFrame m ([Value.ref b] : List Value).toArray 4) := by
  obtain ⟨hx, hb, hr, hml, hown, hts, hX, hbl, hlocks, hgv⟩ := id C0
  have htr : ∀ w ∈ rg_tbl, w.before #[Value.ref b] s = true := fun w hw => hts w (List.mem_filter.mp hw).1
  obtain ⟨aS, aV, hR, hVS, hVZ⟩ := lz_string hts hgv
  obtain ⟨dC, dI, cA, hK⟩ := lz_classes hts
  have hrN : rc_N s := fun own i y h hw => va_Nw.of rfl (hts _ hw)
  have hrV : rc_V s := ⟨va_AO.of (hts _ rc_wA3), hts _ rc_wA4⟩
  have hS : va_S (fun q : Nat => s.heap.size ≤ q) s.heap s.heap [] := va_S.rf
  have hl := lv_entry ([.ref b]) (n := 4) (Nat.le_of_ble_eq_true rfl)
  rw [lg_entry_eq]
  generalize (lg_sl ([.ref b]) ++ List.replicate (4 - (lg_sl ([.ref b])).length) Slot.unset).toArray = ls at hl ⊢
  have hl : lv_has ls 4 [(0, .ref b)] := hl
  have hlenm : rc_m.length ≤ 600000 := by rw [rc_m_len]; decide
  have hlenx : rc_x.length ≤ 600000 := by rw [rc_x_len]; decide
  have hszx : rc_sz rc_x ≤ 7302250 := Nat.le_trans lz_sz_ok.2 lz_sz_ok.1
  refine lz_make (C := []) (C' := rc_x) (y := 0) hx hb hml hown htr hK hrN hrV (by decide) (by rw [lz_cls0.1]; exact lz_w7) lz_w9 lz_np0.1 lz_np0.2.2.1 rc_x_ok (lz_at lz_dh (j := 0) rfl) (lz_at lz_dh (j := 1) rfl) (lz_at lz_dh (j := 2) rfl) hl.1 (by simp) (fun k q h => by simp [rc_w] at h) hS hlenx hszx (fun H1 locs1 hz1 hP1 hS1 => ?_)
  refine lv_astore_n (lv' := [(1, .ref (s.heap.size + 0)), (0, .ref b)]) hx hb (lz_at lz_dh (j := 3) rfl) rfl hl (by decide) rfl (fun ls hl => ?_)
  refine lz_make (C := rc_x) (C' := rc_m) (y := 12) hx hb hml hown htr hK hrN hrV (by decide) (by rw [lz_cls0.2]; exact lz_w10) lz_w12 lz_np0.2.1 lz_np0.2.2.2 rc_m_ok (lz_at lz_dh (j := 4) rfl) (lz_at lz_dh (j := 5) rfl) (lz_at lz_dh (j := 6) rfl) hl.1 hz1 hP1 hS1 hlenm lz_sz_ok.1 (fun H2 locs2 hz2 hP2 hS2 => ?_)
  refine lv_astore_n (lv' := [(2, .ref (s.heap.size + rc_x.length)), (1, .ref (s.heap.size + 0)), (0, .ref b)]) hx hb (lz_at lz_dh (j := 7) rfl) rfl hl (by decide) rfl (fun ls hl => ?_)
  refine lv_iconst (v := 0) hx hb (lz_at lz_dh (j := 8) rfl) (by decide) ?_
  refine lv_istore_n (lv' := [(3, .int 0), (2, .ref (s.heap.size + rc_x.length)), (1, .ref (s.heap.size + 0)), (0, .ref b)]) hx hb (lz_at lz_dh (j := 9) rfl) rfl hl (by decide) rfl (fun ls hl => ?_)
  have hρ : ∀ q, q < 149 → lz_rho s.heap.size aS aV q = s.heap.size + q := fun q hq => by unfold lz_rho; rw [if_pos hq]
  have CC : lz_Cx p s m c b L xs dC dI (lz_rho s.heap.size aS aV) cA := by
    refine ⟨hx, hb, hml, hown, htr, hK, hX, hbl, fun o i y z h => hrN _ _ _ _ ((rg_inv_ok h).2.2.2 rfl).2, ⟨?_, ?_, hVZ⟩, hρ⟩
    · show vk_R "RiverGauge$Tape" 59 "dmrkabghnfwxi" (lz_rho s.heap.size aS aV 149) s
      exact hR
    · show vk_S 1 [13] [rg_lets] (fun _ => lz_rho s.heap.size aS aV 149) (fun _ => lz_rho s.heap.size aS aV 150) _ s s.heap
      exact hVS
  have hl2 : lv_has ls 4 [(0, .ref b), (1, .ref (lz_rho s.heap.size aS aV 0)), (2, .ref (lz_rho s.heap.size aS aV 91)), (3, .int (nI (6 * 0)))] := by
    rw [hρ 0 (by decide), hρ 91 (by decide)]
    have h9 := lv_sub hl [3, 2, 1, 0] rfl
    rw [rc_x_len] at h9
    exact h9
  have hlast := lz_loop (nc := rc_m.length) (ns := rc_sz rc_m) (below := below) (l := l) (e := e) CC hSp hr hlocks hL hlenm lz_sz_ok.1 (L + 1) 0 rg_M0 H2 locs2 ls (by omega) (by decide) hSp.1 hl2 (rc_first (b := s.heap.size) hρ hP2) hS2
  exact hlast
