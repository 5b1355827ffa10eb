/-! ===== the law's walk ===== -/
set_option maxHeartbeats 8000000 in
set_option maxRecDepth 20000 in
theorem law_loop {p : Program} {e : Env} {s : State} {m : MethodId} {below : List Frame} {meth : Method} {c : Code} {l : Launch} (hl9 : l.stackTraces = false) {b L : Nat} {xs : Nat → Int32} (hL : L ≤ 3584) (C0 : lw_At p s m meth c b L xs) {D : va_G} {cA : Nat → ClassId} {ad : Nat → Int → Nat} {H : Heap} {locs : List Loc} {lsC : Array Slot}
    (hgw : ∀ w ∈ gw, w.before #[Value.ref b] s = true) (hE : En csAll D ad cA s.heap.size s) (hR : Ro ad s.heap.size (Gfin (g0 L xs)) s) (hP : va_P D cls_ (Wl csAll ad cA (Gfin (g0 L xs))) H) (hS : va_S (Ab s.heap.size) s.heap H locs) (hrl : Rl ad 302 lsLaw lsC) :
    W p l e room_1 s m #[Value.ref b] below meth c H locs 200 8641 (lw_Z below #[Value.ref b] s) (F0 m 28 lsC []) := by
  obtain ⟨hx, hb, hr, hml, hown, hts, hX, hbl, hlk, hgv, hex⟩ := C0
  obtain ⟨n, G', hn, h48⟩ := law_run (g := g0 L xs) (Lm_g0 L xs) hL rfl (Int.le_refl 0)
  have hc1 : cst (-1500) (Gfin (g0 L xs)) = 1500 := rfl
  have hc2 : cst (-1500) G' ≤ 2012 := by
    unfold cst
    omega
  have htab : c.exceptionTable.toList = tableOf (hhs 302) := (List.eq_nil_iff_forall_not_mem.mpr fun z hz => hex z hz).trans hhs_law.symm
  have X9 : Cx csAll p room_1 s m #[Value.ref b] meth c D ad cA s.heap.size 302 := ⟨hx, hb.trans byt_law.symm, hml.trans mlc_law.symm, hown, hgw, hE, htab, hlk, by rw [mt_law]; exact Nat.le_of_ble_eq_true rfl, by rw [mt_law]; exact Nat.le_of_ble_eq_true rfl, clo_All⟩
  have Y9 : Fin_ csAll p l e room_1 s m #[Value.ref b] below meth c D ad cA s.heap.size 302 (-1500) (lw_Z below #[Value.ref b] s) (.inl (some (.inl 1))) G' := by
    refine ⟨dk_law_all, ⟨by decide, Nat.le_trans hc2 (Nat.le_of_ble_eq_true rfl), Nat.le_trans (Nat.mul_le_mul_left 6 hc2) (Nat.le_of_ble_eq_true rfl)⟩, ?_, ?_, ?_⟩
    · intro pc ls v G1 hrv hG1 hR1
      cases hrv
      subst hG1
      intro H1 locs1 ls1 hS1 hL1 hst1 hrl1
      have hd := (dk_law_all pc _ _ hR1.1).1
      refine va_forget (fun z hz => hS1.2.1.2.2 z hz) ?_
      refine W.widen (k := 603072) (n := 7194730) (Nat.le_trans hc2 (Nat.le_of_ble_eq_true rfl)) (Nat.le_trans (Nat.mul_le_mul_left 6 hc2) (Nat.le_of_ble_eq_true rfl)) ?_
      refine W.base ?_
      exact lw_ret (d0 := s.drawn) (Drawn.sameBut.refl s.drawn lw_cs) hx hb hr hlk hd
    · intro pc x ls G1 ht hrv
      cases hrv
    · intro pc x lsC rest H1 locs1 ce q9 hrv
      cases hrv
  have h0 := sn_sx hl9 clo_All n X9 Y9 28 lsLaw [] (Gfin (g0 L xs)) hn
  have hS0 : St csAll s D ad cA s.heap.size (-1500) room_1 (Gfin (g0 L xs)) H locs := ⟨hP, hS, okG_fin (Lm_g0 L xs) (okG_g0 L hL xs), hR, (show (-1500 : Int) ≤ 0 by decide), by rw [hc1]; exact Nat.le_of_ble_eq_true rfl, by rw [hc1]; exact Nat.le_of_ble_eq_true rfl⟩
  have h1 := h0 H locs lsC hS0 (okL_law (by decide) (by decide) (by decide) (by decide)) (fun v hv => absurd hv List.not_mem_nil) hrl
  rw [hc1] at h1
  exact W.widen (k := 1500) (n := 9000) (Nat.le_of_ble_eq_true rfl) (Nat.le_of_ble_eq_true rfl) h1
