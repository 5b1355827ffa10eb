/-! ===== a sheet is made ===== -/
/-! MapGeneralizer$Sheet: names and decoding -/
def yKShe : MethodName := ⟨"MapGeneralizer$Sheet", "<init>", "()V"⟩
theorem cwKShe : Jvm.Cond.code yKShe prog_10_method_1_code 1 none ∈ gw := gw_at (k := 1) (i := 39) rfl rfl
theorem inKShe : Jvm.Cond.initialized yKShe.cls ∈ gw := gw_at (k := 1) (i := 2) rfl rfl
theorem imKShe : Jvm.Cond.instanceMethod yKShe ∈ gw := gw_at (k := 1) (i := 38) rfl rfl
theorem isKShe : Jvm.Cond.instantiable (Rt 1) (Nf 1) ∈ gw := gw_at (k := 1) (i := 36) rfl rfl
theorem hyKShe : yKShe.cls ≠ "java/lang/invoke/MethodHandle" ∧ yKShe.cls ≠ "java/lang/invoke/VarHandle" ∧ (parseMethodDescriptor yKShe.desc).map (fun d => d.parameters.length) = some 0 := by decide +kernel
def fsKShe : List Value := [.null, .null, .null, .null, .null, .int (i32 0)]
theorem bfKShe : ∀ j, j < Nf 1 → defaultValue (tyt 1 j) = vp_V fsKShe j := by
  intro j hj
  have hj : j < 6 := hj
  match j, hj with
  | 0, _ => rfl
  | 1, _ => rfl
  | 2, _ => rfl
  | 3, _ => rfl
  | 4, _ => rfl
  | 5, _ => rfl
  | k + 6, hj => exact absurd hj (by omega)
theorem dKShe_0 : decode prog_10_method_1_code 0 = .ok (.aload_n 0, 1) := by decide +kernel
theorem dKShe_1 : decode prog_10_method_1_code 1 = .ok (.invokespecial 3, 3) := by decide +kernel
theorem dKShe_4 : decode prog_10_method_1_code 4 = .ok (.aload_n 0, 1) := by decide +kernel
theorem dKShe_5 : decode prog_10_method_1_code 5 = .ok (.new 9, 3) := by decide +kernel
theorem dKShe_8 : decode prog_10_method_1_code 8 = .ok (.dup, 1) := by decide +kernel
theorem dKShe_9 : decode prog_10_method_1_code 9 = .ok (.invokespecial 11, 3) := by decide +kernel
theorem dKShe_12 : decode prog_10_method_1_code 12 = .ok (.putfield 12, 3) := by decide +kernel
theorem dKShe_15 : decode prog_10_method_1_code 15 = .ok (.aload_n 0, 1) := by decide +kernel
theorem dKShe_16 : decode prog_10_method_1_code 16 = .ok (.new 18, 3) := by decide +kernel
theorem dKShe_19 : decode prog_10_method_1_code 19 = .ok (.dup, 1) := by decide +kernel
theorem dKShe_20 : decode prog_10_method_1_code 20 = .ok (.invokespecial 20, 3) := by decide +kernel
theorem dKShe_23 : decode prog_10_method_1_code 23 = .ok (.putfield 21, 3) := by decide +kernel
theorem dKShe_26 : decode prog_10_method_1_code 26 = .ok (.aload_n 0, 1) := by decide +kernel
theorem dKShe_27 : decode prog_10_method_1_code 27 = .ok (.new 25, 3) := by decide +kernel
theorem dKShe_30 : decode prog_10_method_1_code 30 = .ok (.dup, 1) := by decide +kernel
theorem dKShe_31 : decode prog_10_method_1_code 31 = .ok (.invokespecial 27, 3) := by decide +kernel
theorem dKShe_34 : decode prog_10_method_1_code 34 = .ok (.putfield 28, 3) := by decide +kernel
theorem dKShe_37 : decode prog_10_method_1_code 37 = .ok (.aload_n 0, 1) := by decide +kernel
theorem dKShe_38 : decode prog_10_method_1_code 38 = .ok (.bipush 16, 2) := by decide +kernel
theorem dKShe_40 : decode prog_10_method_1_code 40 = .ok (.newarray .int, 2) := by decide +kernel
theorem dKShe_42 : decode prog_10_method_1_code 42 = .ok (.putfield 32, 3) := by decide +kernel
theorem dKShe_45 : decode prog_10_method_1_code 45 = .ok (.aload_n 0, 1) := by decide +kernel
theorem dKShe_46 : decode prog_10_method_1_code 46 = .ok (.bipush 15, 2) := by decide +kernel
theorem dKShe_48 : decode prog_10_method_1_code 48 = .ok (.newarray .int, 2) := by decide +kernel
theorem dKShe_50 : decode prog_10_method_1_code 50 = .ok (.putfield 36, 3) := by decide +kernel
theorem dKShe_53 : decode prog_10_method_1_code 53 = .ok (.aload_n 0, 1) := by decide +kernel
theorem dKShe_54 : decode prog_10_method_1_code 54 = .ok (.invokevirtual 39, 3) := by decide +kernel
theorem dKShe_57 : decode prog_10_method_1_code 57 = .ok (.return_, 1) := by decide +kernel
def rmKShe : Room := { frames := 14, cells := 11, slots := 273, locals := 900 }
def PoKShe (D : va_G) (cA : Nat → ClassId) (ad0 : Nat → Int → Nat) (g : GG) (i : Int) (q : Nat) (H : Heap) : Prop := ∃ v : List Nat, v.getD 0 0 = q ∧ va_P D cls_ (Wl (csS i) (adL ad0 1 v) cA (GSh g i)) H ∧ va_D (Ab q) (Wl (csS i) (adL ad0 1 v) cA (GSh g i))
set_option maxHeartbeats 4000000 in
theorem ciKShe {l : Launch} (hl9 : l.stackTraces = false) {g : GG} (hT9 : Lm g) (hg9 : okG g) {i : Nat} (hi : i < 11) (D : va_G) (cA : Nat → ClassId) (ad0 : Nat → Int → Nat) (base : Nat) (q : Nat) : CI l yKShe prog_10_method_1_code 1 rmKShe D cA ad0 base (gz g) [] q 1 fsKShe [] (PoKShe D cA ad0 g (i : Int) q) := by
  refine CI.of (by decide +kernel) cwKShe rfl (Nat.le_of_ble_eq_true rfl) ?_
  intro p e s m args below meth c ls B hP hl
  obtain ⟨hq, hP1, -, -, hE, hbq⟩ := hP
  have hK : va_K D cls_ (tys_ cA) s := hE.1.1
  have hl : lv_has ls 1 [(0, .ref q)] := hl
  have hA : ∀ z, s.heap.size ≤ z → Ab q z := fun z hz => by show q ≤ z; omega
  have hAb : ∀ z, Ab q z → base ≤ z := fun z hz => Nat.le_trans hbq hz
  have hW : Wk D (Ab q) s ((q, .inr (cix 1, [.null, .null, .null, .null, .null, .int (i32 0)])) :: ([])) s.heap [] := ⟨hP1, va_D.one (Nat.le_refl q), va_S.rf⟩
  refine lv_aload_n B.1 B.2.1 dKShe_0 rfl (lv_at hl 0 rfl) ?_
  refine k_obj B (gw_at (k := 1) (i := 40) rfl rfl) dKShe_1 hl.1 (by decide) ?_
  refine lv_aload_n B.1 B.2.1 dKShe_4 rfl (lv_at hl 0 rfl) ?_
  refine k_new (t := 2) (fs := fsKLin) B (by decide) (gw_at (k := 1) (i := 41) rfl rfl) isKLin inKLin hK hW hA ⟨Nat.le_of_ble_eq_true rfl, Nat.le_of_ble_eq_true rfl⟩ dKShe_5 bfKLin (fun b1 H hqb1 hPb1 hW hltb1 hAb1 hsb1 => ?_)
  refine lv_dup B.1 B.2.1 dKShe_8 rfl ?_
  refine k_callN (t := 2) (rest := [.ref b1, .ref q]) (wro := []) B (ciKLin l D cA ad0 base (gz g) b1) hE hW.2.2 hAb hqb1 hPb1 (fun _ _ h => by cases h) (fun _ _ h => by cases h) (Nat.le_trans hbq hAb1) (by decide) cwKLin inKLin imKLin rfl hyKLin ⟨Nat.le_of_ble_eq_true rfl, Nat.le_of_ble_eq_true rfl⟩ ⟨Nat.le_of_ble_eq_true rfl, Nat.le_of_ble_eq_true rfl⟩ rfl (Nat.le_of_ble_eq_true rfl) hl.1 dKShe_9 (fun z h => Nat.le_trans hAb1 h) (fun H1 locs1 hpo hk hz hS => ?_)
  obtain ⟨b1x1, b1x2, hPo, hDo⟩ := hpo
  have hW := hW.join hltb1 hk hPo hDo hS (fun z h => Nat.le_trans hAb1 h)
  have hW : Wk D (Ab q) s ((q, .inr (cix 1, [.null, .null, .null, .null, .null, .int (i32 0)])) :: ([(b1, .inr (cix 2, [.ref b1x1, .ref b1x2, .int (i32 0)])), (b1x1, .inl (cA 0, 60, .inl fun _ => i32 0)), (b1x2, .inl (cA 0, 6, .inl fun _ => i32 0))])) H1 locs1 := hW
  generalize H1 = H at hW ⊢
  generalize locs1 = locs at hW ⊢
  refine k_putF (t := 1) (k := 0) (fs := [.null, .null, .null, .null, .null, .int (i32 0)]) B (by decide) (by decide) (gw_at (k := 1) (i := 107) rfl rfl) rfl rfl rfl rfl (by decide : 0 < 6) hK hW dKShe_12 (fun H locs hW => ?_)
  have hW : Wk D (Ab q) s ((q, .inr (cix 1, [.ref b1, .null, .null, .null, .null, .int (i32 0)])) :: ([(b1, .inr (cix 2, [.ref b1x1, .ref b1x2, .int (i32 0)])), (b1x1, .inl (cA 0, 60, .inl fun _ => i32 0)), (b1x2, .inl (cA 0, 6, .inl fun _ => i32 0))])) H locs := hW
  refine lv_aload_n B.1 B.2.1 dKShe_15 rfl (lv_at hl 0 rfl) ?_
  refine k_new (t := 5) (fs := fsKPoi) B (by decide) (gw_at (k := 1) (i := 63) rfl rfl) isKPoi inKPoi hK hW hA ⟨Nat.le_of_ble_eq_true rfl, Nat.le_of_ble_eq_true rfl⟩ dKShe_16 bfKPoi (fun b2 H hqb2 hPb2 hW hltb2 hAb2 hsb2 => ?_)
  refine lv_dup B.1 B.2.1 dKShe_19 rfl ?_
  refine k_callN (t := 5) (rest := [.ref b2, .ref q]) (wro := []) B (ciKPoi l D cA ad0 base (gz g) b2) hE hW.2.2 hAb hqb2 hPb2 (fun _ _ h => by cases h) (fun _ _ h => by cases h) (Nat.le_trans hbq hAb2) (by decide) cwKPoi inKPoi imKPoi rfl hyKPoi ⟨Nat.le_of_ble_eq_true rfl, Nat.le_of_ble_eq_true rfl⟩ ⟨Nat.le_of_ble_eq_true rfl, Nat.le_of_ble_eq_true rfl⟩ rfl (Nat.le_of_ble_eq_true rfl) hl.1 dKShe_20 (fun z h => Nat.le_trans hAb2 h) (fun H1 locs1 hpo hk hz hS => ?_)
  obtain ⟨b2x1, hPo, hDo⟩ := hpo
  have hW := hW.join hltb2 hk hPo hDo hS (fun z h => Nat.le_trans hAb2 h)
  have hW : Wk D (Ab q) s ((q, .inr (cix 1, [.ref b1, .null, .null, .null, .null, .int (i32 0)])) :: ([(b1, .inr (cix 2, [.ref b1x1, .ref b1x2, .int (i32 0)])), (b1x1, .inl (cA 0, 60, .inl fun _ => i32 0)), (b1x2, .inl (cA 0, 6, .inl fun _ => i32 0)), (b2, .inr (cix 5, [.ref b2x1, .int (i32 0)])), (b2x1, .inl (cA 0, 72, .inl fun _ => i32 0))])) H1 locs1 := hW
  generalize H1 = H at hW ⊢
  generalize locs1 = locs at hW ⊢
  refine k_putF (t := 1) (k := 1) (fs := [.ref b1, .null, .null, .null, .null, .int (i32 0)]) B (by decide) (by decide) (gw_at (k := 1) (i := 110) rfl rfl) rfl rfl rfl rfl (by decide : 1 < 6) hK hW dKShe_23 (fun H locs hW => ?_)
  have hW : Wk D (Ab q) s ((q, .inr (cix 1, [.ref b1, .ref b2, .null, .null, .null, .int (i32 0)])) :: ([(b1, .inr (cix 2, [.ref b1x1, .ref b1x2, .int (i32 0)])), (b1x1, .inl (cA 0, 60, .inl fun _ => i32 0)), (b1x2, .inl (cA 0, 6, .inl fun _ => i32 0)), (b2, .inr (cix 5, [.ref b2x1, .int (i32 0)])), (b2x1, .inl (cA 0, 72, .inl fun _ => i32 0))])) H locs := hW
  refine lv_aload_n B.1 B.2.1 dKShe_26 rfl (lv_at hl 0 rfl) ?_
  refine k_new (t := 7) (fs := fsKPar) B (by decide) (gw_at (k := 1) (i := 79) rfl rfl) isKPar inKPar hK hW hA ⟨Nat.le_of_ble_eq_true rfl, Nat.le_of_ble_eq_true rfl⟩ dKShe_27 bfKPar (fun b3 H hqb3 hPb3 hW hltb3 hAb3 hsb3 => ?_)
  refine lv_dup B.1 B.2.1 dKShe_30 rfl ?_
  refine k_callN (t := 7) (rest := [.ref b3, .ref q]) (wro := []) B (ciKPar l D cA ad0 base (gz g) b3) hE hW.2.2 hAb hqb3 hPb3 (fun _ _ h => by cases h) (fun _ _ h => by cases h) (Nat.le_trans hbq hAb3) (by decide) cwKPar inKPar imKPar rfl hyKPar ⟨Nat.le_of_ble_eq_true rfl, Nat.le_of_ble_eq_true rfl⟩ ⟨Nat.le_of_ble_eq_true rfl, Nat.le_of_ble_eq_true rfl⟩ rfl (Nat.le_of_ble_eq_true rfl) hl.1 dKShe_31 (fun z h => Nat.le_trans hAb3 h) (fun H1 locs1 hpo hk hz hS => ?_)
  obtain ⟨b3x1, b3x2, b3x3, hPo, hDo⟩ := hpo
  have hW := hW.join hltb3 hk hPo hDo hS (fun z h => Nat.le_trans hAb3 h)
  have hW : Wk D (Ab q) s ((q, .inr (cix 1, [.ref b1, .ref b2, .null, .null, .null, .int (i32 0)])) :: ([(b1, .inr (cix 2, [.ref b1x1, .ref b1x2, .int (i32 0)])), (b1x1, .inl (cA 0, 60, .inl fun _ => i32 0)), (b1x2, .inl (cA 0, 6, .inl fun _ => i32 0)), (b2, .inr (cix 5, [.ref b2x1, .int (i32 0)])), (b2x1, .inl (cA 0, 72, .inl fun _ => i32 0)), (b3, .inr (cix 7, [.ref b3x1, .ref b3x2, .ref b3x3])), (b3x1, .inl (cA 0, 64, .inl fun _ => i32 0)), (b3x2, .inl (cA 0, 16, .inl fun _ => i32 0)), (b3x3, .inl (cA 0, 16, .inl fun _ => i32 0))])) H1 locs1 := hW
  generalize H1 = H at hW ⊢
  generalize locs1 = locs at hW ⊢
  refine k_putF (t := 1) (k := 2) (fs := [.ref b1, .ref b2, .null, .null, .null, .int (i32 0)]) B (by decide) (by decide) (gw_at (k := 1) (i := 113) rfl rfl) rfl rfl rfl rfl (by decide : 2 < 6) hK hW dKShe_34 (fun H locs hW => ?_)
  have hW : Wk D (Ab q) s ((q, .inr (cix 1, [.ref b1, .ref b2, .ref b3, .null, .null, .int (i32 0)])) :: ([(b1, .inr (cix 2, [.ref b1x1, .ref b1x2, .int (i32 0)])), (b1x1, .inl (cA 0, 60, .inl fun _ => i32 0)), (b1x2, .inl (cA 0, 6, .inl fun _ => i32 0)), (b2, .inr (cix 5, [.ref b2x1, .int (i32 0)])), (b2x1, .inl (cA 0, 72, .inl fun _ => i32 0)), (b3, .inr (cix 7, [.ref b3x1, .ref b3x2, .ref b3x3])), (b3x1, .inl (cA 0, 64, .inl fun _ => i32 0)), (b3x2, .inl (cA 0, 16, .inl fun _ => i32 0)), (b3x3, .inl (cA 0, 16, .inl fun _ => i32 0))])) H locs := hW
  refine lv_aload_n B.1 B.2.1 dKShe_37 rfl (lv_at hl 0 rfl) ?_
  refine lv_bipush (v := 16) B.1 B.2.1 dKShe_38 (by decide) ?_
  refine k_newa (k := 0) (N := 16) (ty := .int) (atype := .int) B (gw_at (k := 1) (i := 62) rfl rfl) rfl (fun _ _ => rfl) rfl rfl hK hW hA (by decide) rfl (Nat.le_of_ble_eq_true rfl) ⟨Nat.le_of_ble_eq_true rfl, Nat.le_of_ble_eq_true rfl⟩ dKShe_40 (fun a1 H hW => ?_)
  have hW : Wk D (Ab q) s ((q, .inr (cix 1, [.ref b1, .ref b2, .ref b3, .null, .null, .int (i32 0)])) :: ([(b1, .inr (cix 2, [.ref b1x1, .ref b1x2, .int (i32 0)])), (b1x1, .inl (cA 0, 60, .inl fun _ => i32 0)), (b1x2, .inl (cA 0, 6, .inl fun _ => i32 0)), (b2, .inr (cix 5, [.ref b2x1, .int (i32 0)])), (b2x1, .inl (cA 0, 72, .inl fun _ => i32 0)), (b3, .inr (cix 7, [.ref b3x1, .ref b3x2, .ref b3x3])), (b3x1, .inl (cA 0, 64, .inl fun _ => i32 0)), (b3x2, .inl (cA 0, 16, .inl fun _ => i32 0)), (b3x3, .inl (cA 0, 16, .inl fun _ => i32 0)), (a1, .inl (cA 0, 16, .inl fun _ => i32 0))])) H locs := hW
  refine k_putF (t := 1) (k := 3) (fs := [.ref b1, .ref b2, .ref b3, .null, .null, .int (i32 0)]) B (by decide) (by decide) (gw_at (k := 1) (i := 116) rfl rfl) rfl rfl rfl rfl (by decide : 3 < 6) hK hW dKShe_42 (fun H locs hW => ?_)
  have hW : Wk D (Ab q) s ((q, .inr (cix 1, [.ref b1, .ref b2, .ref b3, .ref a1, .null, .int (i32 0)])) :: ([(b1, .inr (cix 2, [.ref b1x1, .ref b1x2, .int (i32 0)])), (b1x1, .inl (cA 0, 60, .inl fun _ => i32 0)), (b1x2, .inl (cA 0, 6, .inl fun _ => i32 0)), (b2, .inr (cix 5, [.ref b2x1, .int (i32 0)])), (b2x1, .inl (cA 0, 72, .inl fun _ => i32 0)), (b3, .inr (cix 7, [.ref b3x1, .ref b3x2, .ref b3x3])), (b3x1, .inl (cA 0, 64, .inl fun _ => i32 0)), (b3x2, .inl (cA 0, 16, .inl fun _ => i32 0)), (b3x3, .inl (cA 0, 16, .inl fun _ => i32 0)), (a1, .inl (cA 0, 16, .inl fun _ => i32 0))])) H locs := hW
  refine lv_aload_n B.1 B.2.1 dKShe_45 rfl (lv_at hl 0 rfl) ?_
  refine lv_bipush (v := 15) B.1 B.2.1 dKShe_46 (by decide) ?_
  refine k_newa (k := 0) (N := 15) (ty := .int) (atype := .int) B (gw_at (k := 1) (i := 62) rfl rfl) rfl (fun _ _ => rfl) rfl rfl hK hW hA (by decide) rfl (Nat.le_of_ble_eq_true rfl) ⟨Nat.le_of_ble_eq_true rfl, Nat.le_of_ble_eq_true rfl⟩ dKShe_48 (fun a2 H hW => ?_)
  have hW : Wk D (Ab q) s ((q, .inr (cix 1, [.ref b1, .ref b2, .ref b3, .ref a1, .null, .int (i32 0)])) :: ([(b1, .inr (cix 2, [.ref b1x1, .ref b1x2, .int (i32 0)])), (b1x1, .inl (cA 0, 60, .inl fun _ => i32 0)), (b1x2, .inl (cA 0, 6, .inl fun _ => i32 0)), (b2, .inr (cix 5, [.ref b2x1, .int (i32 0)])), (b2x1, .inl (cA 0, 72, .inl fun _ => i32 0)), (b3, .inr (cix 7, [.ref b3x1, .ref b3x2, .ref b3x3])), (b3x1, .inl (cA 0, 64, .inl fun _ => i32 0)), (b3x2, .inl (cA 0, 16, .inl fun _ => i32 0)), (b3x3, .inl (cA 0, 16, .inl fun _ => i32 0)), (a1, .inl (cA 0, 16, .inl fun _ => i32 0)), (a2, .inl (cA 0, 15, .inl fun _ => i32 0))])) H locs := hW
  refine k_putF (t := 1) (k := 4) (fs := [.ref b1, .ref b2, .ref b3, .ref a1, .null, .int (i32 0)]) B (by decide) (by decide) (gw_at (k := 1) (i := 119) rfl rfl) rfl rfl rfl rfl (by decide : 4 < 6) hK hW dKShe_50 (fun H locs hW => ?_)
  have hW : Wk D (Ab q) s ((q, .inr (cix 1, [.ref b1, .ref b2, .ref b3, .ref a1, .ref a2, .int (i32 0)])) :: ([(b1, .inr (cix 2, [.ref b1x1, .ref b1x2, .int (i32 0)])), (b1x1, .inl (cA 0, 60, .inl fun _ => i32 0)), (b1x2, .inl (cA 0, 6, .inl fun _ => i32 0)), (b2, .inr (cix 5, [.ref b2x1, .int (i32 0)])), (b2x1, .inl (cA 0, 72, .inl fun _ => i32 0)), (b3, .inr (cix 7, [.ref b3x1, .ref b3x2, .ref b3x3])), (b3x1, .inl (cA 0, 64, .inl fun _ => i32 0)), (b3x2, .inl (cA 0, 16, .inl fun _ => i32 0)), (b3x3, .inl (cA 0, 16, .inl fun _ => i32 0)), (a1, .inl (cA 0, 16, .inl fun _ => i32 0)), (a2, .inl (cA 0, 15, .inl fun _ => i32 0))])) H locs := hW
  have hW : Wk D (Ab q) s (Wl (csS (i : Int)) (adL ad0 1 [q, b1, b1x1, b1x2, b2, b2x1, b3, b3x1, b3x2, b3x3, a1, a2]) cA (gz g)) H locs := hW
  refine lv_aload_n B.1 B.2.1 dKShe_53 rfl (lv_at hl 0 rfl) ?_
  refine k_meth (ad := adL ad0 1 [q, b1, b1x1, b1x2, b2, b2x1, b3, b3x1, b3x2, b3x3, a1, a2]) (cs := csS (i : Int)) (t := 1) (i := (i : Int)) (z := y_She_reset) B (by decide) (ctr_reset hl9 hT9 hg9 hi) (cst_reset hT9 _) hE hbq hW rfl rfl rfl (RoE.refl _) (by decide +kernel) (by decide +kernel) (gw_at (k := 1) (i := 98) rfl rfl) (by decide +kernel) (by decide +kernel) List.mem_cons_self ⟨by decide +kernel, by decide +kernel⟩ ⟨Nat.le_of_ble_eq_true rfl, Nat.le_of_ble_eq_true rfl⟩ dKShe_54 hl.1 (fun H locs hW => ?_)
  exact k_ret B hW.2.2 ⟨[q, b1, b1x1, b1x2, b2, b2x1, b3, b3x1, b3x2, b3x3, a1, a2], rfl, hW.1, hW.2.1⟩ dKShe_57 ⟨Nat.le_of_ble_eq_true rfl, Nat.le_of_ble_eq_true rfl⟩
