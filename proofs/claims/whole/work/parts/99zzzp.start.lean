/-! ===== the law's start ===== -/
set_option maxHeartbeats 8000000 in
set_option maxRecDepth 20000 in
theorem whole_start {p : Program} {e : Env} {s : State} {m : MethodId} {below : List Frame} {meth : Method} {c : Code} (l : Launch) (hflags : l.flags = flags0) {b L : Nat} {xs : Nat → Int32} (hL : L ≤ 3584) (C0 : lw_At p s m meth c b L xs) : W p l e room_1 s m #[Value.ref b] below meth c s.heap [] 0 0 (lw_Z below #[Value.ref b] s) (entryFrame m ([Value.ref b] : List Value).toArray 9) := by
  have hl9 : l.stackTraces = false := by
    unfold Launch.stackTraces
    rw [hflags]
    decide
  obtain ⟨D, cA, ad0, h44, hgw, hE, hbl9⟩ := ev_start hL C0
  have C1 := C0
  obtain ⟨hx, hb, hr, hml, hown, hts, hX, hbl, hlk, hgv, hex⟩ := C0
  have hg9 : okG (g0 L xs) := okG_g0 L hL xs
  have hT9 : Lm (g0 L xs) := Lm_g0 L xs
  have hEz : Ek D cA ad0 s.heap.size (gz (g0 L xs)) s := ⟨hE.1, hE.2.1, hE.2.2⟩
  have hK : va_K D cls_ (tys_ cA) s := hE.1.1
  have B : Bl p s m #[Value.ref b] c "MapGeneralizerLaw" code 9 := ⟨hx, hb, hml, hown, hgw⟩
  have hA : ∀ z, s.heap.size ≤ z → Ab s.heap.size z := fun z hz => hz
  have hAb : ∀ z, Ab s.heap.size z → s.heap.size ≤ z := fun z hz => hz
  have hW : Wk D (Ab s.heap.size) s [] s.heap [] := ⟨fun _ _ h => (by cases h), ⟨fun _ _ _ _ h => (by cases h), fun _ _ h => (by cases h)⟩, va_S.rf⟩
  rw [lg_entry_eq]
  have hl := lv_entry [Value.ref b] (n := 9) (Nat.le_of_ble_eq_true rfl)
  have hl : lv_has _ 9 [(0, .ref b)] := hl
  generalize ((lg_sl [Value.ref b] ++ List.replicate (9 - (lg_sl [Value.ref b]).length) Slot.unset).toArray) = ls at hl ⊢
  refine kl_new (t := 0) (fs := fsKMap) B (by decide) (gw_at (k := 1) (i := 27) rfl rfl) isKMap inKMap hK hW hA ⟨Nat.le_of_ble_eq_true rfl, Nat.le_of_ble_eq_true rfl⟩ dLw_0 bfKMap (fun q H hq hP1 hW hlt hAq hsq => ?_)
  refine lv_dup B.1 B.2.1 dLw_3 rfl ?_
  refine kl_call (t := 0) (rest := [.ref q]) (wro := []) B (ciKMap hl9 hT9 hg9 D cA ad0 s.heap.size q) hEz hW.2.2 hAb hq hP1 (fun _ _ h => by cases h) (fun _ _ h => by cases h) hsq (gw_at (k := 1) (i := 29) rfl rfl) cwKMap inKMap imKMap rfl hyKMap ⟨Nat.le_of_ble_eq_true rfl, Nat.le_of_ble_eq_true rfl⟩ ⟨Nat.le_of_ble_eq_true rfl, Nat.le_of_ble_eq_true rfl⟩ rfl (Nat.le_of_ble_eq_true rfl) hl.1 dLw_4 (fun z h => Nat.le_trans hsq h) (fun H1 locs1 hpo hk hz hS => ?_)
  obtain ⟨v0, v1, v2, vl, vh, qh, ah, ql, qs, s1, s2, tx, hPo, hDo⟩ := hpo
  have hW := hW.join hlt hk hPo hDo hS (fun z h => Nat.le_trans hsq h)
  generalize H1 = H at hW ⊢
  generalize locs1 = locs at hW ⊢
  refine lv_astore_n (i := 1) B.1 B.2.1 dLw_7 rfl hl (by decide) rfl (fun ls1 hl1 => ?_)
  refine kl_new (t := 25) (fs := fsKMod) B (by decide) (gw_at (k := 5) (i := 214) rfl rfl) isKMod inKMod hK hW hA ⟨Nat.le_of_ble_eq_true rfl, Nat.le_of_ble_eq_true rfl⟩ dLw_8 bfKMod (fun q2 H hq2 hP2 hW hlt2 hAq2 hsq2 => ?_)
  refine lv_dup B.1 B.2.1 dLw_11 rfl ?_
  refine kl_call (t := 25) (rest := [.ref q2]) (wro := []) B (ciKMod hl9 hg9 D cA ad0 s.heap.size q2) hEz hW.2.2 hAb hq2 hP2 (fun _ _ h => by cases h) (fun _ _ h => by cases h) hsq2 (gw_at (k := 5) (i := 216) rfl rfl) cwKMod inKMod imKMod rfl hyKMod ⟨Nat.le_of_ble_eq_true rfl, Nat.le_of_ble_eq_true rfl⟩ ⟨Nat.le_of_ble_eq_true rfl, Nat.le_of_ble_eq_true rfl⟩ rfl (Nat.le_of_ble_eq_true rfl) hl1.1 dLw_12 (fun z h => Nat.le_trans hsq2 h) (fun H2 locs2 hpo hk hz hS => ?_)
  obtain ⟨vm, hvm, hPo, hDo⟩ := hpo
  have hW := hW.join hlt2 hk hPo hDo hS (fun z h => Nat.le_trans hsq2 h)
  generalize H2 = H at hW ⊢
  generalize locs2 = locs at hW ⊢
  refine lv_astore_n (i := 2) B.1 B.2.1 dLw_15 rfl hl1 (by decide) rfl (fun ls2 hl2 => ?_)
  refine lv_iconst (v := 1) B.1 B.2.1 dLw_16 (by decide) ?_
  refine kl_newa (k := 2) (N := 1) (ty := .long) B (1, .inr (.inl fun _ => i64 0)) ac_l rfl (fun _ _ => rfl) cell_l rfl hK hW hA (by decide) rfl (Nat.le_of_ble_eq_true rfl) ⟨Nat.le_of_ble_eq_true rfl, Nat.le_of_ble_eq_true rfl⟩ dLw_17 (fun ou H hW => ?_)
  refine lv_astore_n (i := 3) B.1 B.2.1 dLw_19 rfl hl2 (by decide) rfl (fun ls3 hl3 => ?_)
  refine lv_iconst (v := 1) B.1 B.2.1 dLw_20 (by decide) ?_
  refine kl_newa (k := 3) (N := 1) (ty := .double) B (1, .inr (.inr (.inr (.inl fun _ => dBits 0)))) ac_d rfl (fun _ _ => rfl) cell_d rfl hK hW hA (by decide) rfl (Nat.le_of_ble_eq_true rfl) ⟨Nat.le_of_ble_eq_true rfl, Nat.le_of_ble_eq_true rfl⟩ dLw_21 (fun od H hW => ?_)
  refine lv_astore (i := 4) B.1 B.2.1 dLw_23 hl3 (by decide) rfl (fun ls4 hl4 => ?_)
  refine lv_iconst (v := 0) B.1 B.2.1 dLw_25 (by decide) ?_
  refine lv_istore (i := 5) B.1 B.2.1 dLw_26 hl4 (by decide) rfl (fun ls5 hl5 => ?_)
  have hD := wf_D hW.2.1
  have hPm := wf_map (vm := vm) (ou := ou) (od := od) hW.1.lft.lft.lft.rgt
  have hPM := hW.1.lft.lft.rgt
  rw [wf_M (g := g0 L xs) (q := q) (qh := qh) (ah := ah) (ql := ql) (qs := qs) (s1 := s1) (s2 := s2) (tx := tx) (ou := ou) (od := od) (v0 := v0) (v1 := v1) (v2 := v2) (vl := vl) (vh := vh)] at hPM
  have hPo : va_P D cls_ (Wl [(42, 0)] (adF ad0 q v0 v1 v2 vl vm vh qh ah ql qs s1 s2 tx ou od) cA (Gfin (g0 L xs))) H := hW.1.lft.rgt
  have hPd : va_P D cls_ (Wl [(43, 0)] (adF ad0 q v0 v1 v2 vl vm vh qh ah ql qs s1 s2 tx ou od) cA (Gfin (g0 L xs))) H := hW.1.rgt
  have hP : va_P D cls_ (Wl csAll (adF ad0 q v0 v1 v2 vl vm vh qh ah ql qs s1 s2 tx ou od) cA (Gfin (g0 L xs))) H := ((hPm.wapp hPM).wapp hPo).wapp hPd
  obtain ⟨hEn, hRo⟩ := hE.part (cs := csAll) (ad := (adF ad0 q v0 v1 v2 vl vm vh qh ah ql qs s1 s2 tx ou od)) (G := Gfin (g0 L xs)) (Nat.le_refl _) rfl rfl rfl hD (roe_fin _)
  exact law_loop hl9 hL C1 hgw hEn hRo hP hW.2.2 (rl_law hl5 (h44 0) rfl hvm rfl rfl)
