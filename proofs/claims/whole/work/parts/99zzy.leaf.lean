/-! ===== constructors without calls ===== -/
/-! MapGeneralizer$Lines: names and decoding -/
def yKLin : MethodName := ⟨"MapGeneralizer$Lines", "<init>", "()V"⟩
theorem cwKLin : Jvm.Cond.code yKLin prog_6_method_1_code 1 none ∈ gw := gw_at (k := 1) (i := 45) rfl rfl
theorem inKLin : Jvm.Cond.initialized yKLin.cls ∈ gw := gw_at (k := 1) (i := 3) rfl rfl
theorem imKLin : Jvm.Cond.instanceMethod yKLin ∈ gw := gw_at (k := 1) (i := 44) rfl rfl
theorem isKLin : Jvm.Cond.instantiable (Rt 2) (Nf 2) ∈ gw := gw_at (k := 1) (i := 42) rfl rfl
theorem hyKLin : yKLin.cls ≠ "java/lang/invoke/MethodHandle" ∧ yKLin.cls ≠ "java/lang/invoke/VarHandle" ∧ (parseMethodDescriptor yKLin.desc).map (fun d => d.parameters.length) = some 0 := by decide +kernel
def fsKLin : List Value := [.null, .null, .int (i32 0)]
theorem bfKLin : ∀ j, j < Nf 2 → defaultValue (tyt 2 j) = vp_V fsKLin j := by
  intro j hj
  have hj : j < 3 := hj
  match j, hj with
  | 0, _ => rfl
  | 1, _ => rfl
  | 2, _ => rfl
  | k + 3, hj => exact absurd hj (by omega)
theorem dKLin_0 : decode prog_6_method_1_code 0 = .ok (.aload_n 0, 1) := by decide +kernel
theorem dKLin_1 : decode prog_6_method_1_code 1 = .ok (.invokespecial 3, 3) := by decide +kernel
theorem dKLin_4 : decode prog_6_method_1_code 4 = .ok (.aload_n 0, 1) := by decide +kernel
theorem dKLin_5 : decode prog_6_method_1_code 5 = .ok (.bipush 60, 2) := by decide +kernel
theorem dKLin_7 : decode prog_6_method_1_code 7 = .ok (.newarray .int, 2) := by decide +kernel
theorem dKLin_9 : decode prog_6_method_1_code 9 = .ok (.putfield 9, 3) := by decide +kernel
theorem dKLin_12 : decode prog_6_method_1_code 12 = .ok (.aload_n 0, 1) := by decide +kernel
theorem dKLin_13 : decode prog_6_method_1_code 13 = .ok (.bipush 6, 2) := by decide +kernel
theorem dKLin_15 : decode prog_6_method_1_code 15 = .ok (.newarray .int, 2) := by decide +kernel
theorem dKLin_17 : decode prog_6_method_1_code 17 = .ok (.putfield 15, 3) := by decide +kernel
theorem dKLin_20 : decode prog_6_method_1_code 20 = .ok (.return_, 1) := by decide +kernel
def rmKLin : Room := { frames := 1, cells := 2, slots := 66, locals := 12 }
def PoKLin (D : va_G) (cA : Nat → ClassId) (q : Nat) (H : Heap) : Prop := ∃ a1 a2 : Nat, va_P D cls_ ((q, .inr (cix 2, [.ref a1, .ref a2, .int (i32 0)])) :: ([(a1, .inl (cA 0, 60, .inl fun _ => i32 0)), (a2, .inl (cA 0, 6, .inl fun _ => i32 0))])) H ∧ va_D (Ab q) ((q, .inr (cix 2, [.ref a1, .ref a2, .int (i32 0)])) :: ([(a1, .inl (cA 0, 60, .inl fun _ => i32 0)), (a2, .inl (cA 0, 6, .inl fun _ => i32 0))]))
set_option maxHeartbeats 2000000 in
theorem ciKLin (l : Launch) (D : va_G) (cA : Nat → ClassId) (ad0 : Nat → Int → Nat) (base : Nat) (G0 : GG) (q : Nat) : CI l yKLin prog_6_method_1_code 1 rmKLin D cA ad0 base G0 [] q 2 fsKLin [] (PoKLin D cA q) := by
  refine CI.of (by decide +kernel) cwKLin rfl (Nat.le_of_ble_eq_true rfl) ?_
  intro p e s m args below meth c ls B hP hl
  obtain ⟨hq, hP1, -, -, hE, hbq⟩ := hP
  have hK : va_K D cls_ (tys_ cA) s := hE.1.1
  have hl : lv_has ls 1 [(0, .ref q)] := hl
  have hA : ∀ z, s.heap.size ≤ z → Ab q z := fun z hz => by show q ≤ z; omega
  have hW : Wk D (Ab q) s ((q, .inr (cix 2, [.null, .null, .int (i32 0)])) :: ([])) s.heap [] := ⟨hP1, va_D.one (Nat.le_refl q), va_S.rf⟩
  refine lv_aload_n B.1 B.2.1 dKLin_0 rfl (lv_at hl 0 rfl) ?_
  refine k_obj B (gw_at (k := 1) (i := 46) rfl rfl) dKLin_1 hl.1 (by decide) ?_
  refine lv_aload_n B.1 B.2.1 dKLin_4 rfl (lv_at hl 0 rfl) ?_
  refine lv_bipush (v := 60) B.1 B.2.1 dKLin_5 (by decide) ?_
  refine k_newa (k := 0) (N := 60) (ty := .int) (atype := .int) B (gw_at (k := 1) (i := 62) rfl rfl) rfl (fun _ _ => rfl) rfl rfl hK hW hA (by decide) rfl (Nat.le_of_ble_eq_true rfl) ⟨Nat.le_of_ble_eq_true rfl, Nat.le_of_ble_eq_true rfl⟩ dKLin_7 (fun a1 H hW => ?_)
  have hW : Wk D (Ab q) s ((q, .inr (cix 2, [.null, .null, .int (i32 0)])) :: ([(a1, .inl (cA 0, 60, .inl fun _ => i32 0))])) H [] := hW
  refine k_putF (t := 2) (k := 0) (fs := [.null, .null, .int (i32 0)]) B (by decide) (by decide) (gw_at (k := 1) (i := 47) rfl rfl) rfl rfl rfl rfl (by decide : 0 < 3) hK hW dKLin_9 (fun H locs hW => ?_)
  have hW : Wk D (Ab q) s ((q, .inr (cix 2, [.ref a1, .null, .int (i32 0)])) :: ([(a1, .inl (cA 0, 60, .inl fun _ => i32 0))])) H locs := hW
  refine lv_aload_n B.1 B.2.1 dKLin_12 rfl (lv_at hl 0 rfl) ?_
  refine lv_bipush (v := 6) B.1 B.2.1 dKLin_13 (by decide) ?_
  refine k_newa (k := 0) (N := 6) (ty := .int) (atype := .int) B (gw_at (k := 1) (i := 62) rfl rfl) rfl (fun _ _ => rfl) rfl rfl hK hW hA (by decide) rfl (Nat.le_of_ble_eq_true rfl) ⟨Nat.le_of_ble_eq_true rfl, Nat.le_of_ble_eq_true rfl⟩ dKLin_15 (fun a2 H hW => ?_)
  have hW : Wk D (Ab q) s ((q, .inr (cix 2, [.ref a1, .null, .int (i32 0)])) :: ([(a1, .inl (cA 0, 60, .inl fun _ => i32 0)), (a2, .inl (cA 0, 6, .inl fun _ => i32 0))])) H locs := hW
  refine k_putF (t := 2) (k := 1) (fs := [.ref a1, .null, .int (i32 0)]) B (by decide) (by decide) (gw_at (k := 1) (i := 48) rfl rfl) rfl rfl rfl rfl (by decide : 1 < 3) hK hW dKLin_17 (fun H locs hW => ?_)
  have hW : Wk D (Ab q) s ((q, .inr (cix 2, [.ref a1, .ref a2, .int (i32 0)])) :: ([(a1, .inl (cA 0, 60, .inl fun _ => i32 0)), (a2, .inl (cA 0, 6, .inl fun _ => i32 0))])) H locs := hW
  exact k_ret B hW.2.2 ⟨a1, a2, hW.1, hW.2.1⟩ dKLin_20 ⟨Nat.le_of_ble_eq_true rfl, Nat.le_of_ble_eq_true rfl⟩
/-! MapGeneralizer$Points: names and decoding -/
def yKPoi : MethodName := ⟨"MapGeneralizer$Points", "<init>", "()V"⟩
theorem cwKPoi : Jvm.Cond.code yKPoi prog_8_method_1_code 1 none ∈ gw := gw_at (k := 1) (i := 67) rfl rfl
theorem inKPoi : Jvm.Cond.initialized yKPoi.cls ∈ gw := gw_at (k := 1) (i := 4) rfl rfl
theorem imKPoi : Jvm.Cond.instanceMethod yKPoi ∈ gw := gw_at (k := 1) (i := 66) rfl rfl
theorem isKPoi : Jvm.Cond.instantiable (Rt 5) (Nf 5) ∈ gw := gw_at (k := 1) (i := 64) rfl rfl
theorem hyKPoi : yKPoi.cls ≠ "java/lang/invoke/MethodHandle" ∧ yKPoi.cls ≠ "java/lang/invoke/VarHandle" ∧ (parseMethodDescriptor yKPoi.desc).map (fun d => d.parameters.length) = some 0 := by decide +kernel
def fsKPoi : List Value := [.null, .int (i32 0)]
theorem bfKPoi : ∀ j, j < Nf 5 → defaultValue (tyt 5 j) = vp_V fsKPoi j := by
  intro j hj
  have hj : j < 2 := hj
  match j, hj with
  | 0, _ => rfl
  | 1, _ => rfl
  | k + 2, hj => exact absurd hj (by omega)
theorem dKPoi_0 : decode prog_8_method_1_code 0 = .ok (.aload_n 0, 1) := by decide +kernel
theorem dKPoi_1 : decode prog_8_method_1_code 1 = .ok (.invokespecial 3, 3) := by decide +kernel
theorem dKPoi_4 : decode prog_8_method_1_code 4 = .ok (.aload_n 0, 1) := by decide +kernel
theorem dKPoi_5 : decode prog_8_method_1_code 5 = .ok (.bipush 72, 2) := by decide +kernel
theorem dKPoi_7 : decode prog_8_method_1_code 7 = .ok (.newarray .int, 2) := by decide +kernel
theorem dKPoi_9 : decode prog_8_method_1_code 9 = .ok (.putfield 9, 3) := by decide +kernel
theorem dKPoi_12 : decode prog_8_method_1_code 12 = .ok (.return_, 1) := by decide +kernel
def rmKPoi : Room := { frames := 1, cells := 1, slots := 72, locals := 12 }
def PoKPoi (D : va_G) (cA : Nat → ClassId) (q : Nat) (H : Heap) : Prop := ∃ a1 : Nat, va_P D cls_ ((q, .inr (cix 5, [.ref a1, .int (i32 0)])) :: ([(a1, .inl (cA 0, 72, .inl fun _ => i32 0))])) H ∧ va_D (Ab q) ((q, .inr (cix 5, [.ref a1, .int (i32 0)])) :: ([(a1, .inl (cA 0, 72, .inl fun _ => i32 0))]))
set_option maxHeartbeats 2000000 in
theorem ciKPoi (l : Launch) (D : va_G) (cA : Nat → ClassId) (ad0 : Nat → Int → Nat) (base : Nat) (G0 : GG) (q : Nat) : CI l yKPoi prog_8_method_1_code 1 rmKPoi D cA ad0 base G0 [] q 5 fsKPoi [] (PoKPoi D cA q) := by
  refine CI.of (by decide +kernel) cwKPoi rfl (Nat.le_of_ble_eq_true rfl) ?_
  intro p e s m args below meth c ls B hP hl
  obtain ⟨hq, hP1, -, -, hE, hbq⟩ := hP
  have hK : va_K D cls_ (tys_ cA) s := hE.1.1
  have hl : lv_has ls 1 [(0, .ref q)] := hl
  have hA : ∀ z, s.heap.size ≤ z → Ab q z := fun z hz => by show q ≤ z; omega
  have hW : Wk D (Ab q) s ((q, .inr (cix 5, [.null, .int (i32 0)])) :: ([])) s.heap [] := ⟨hP1, va_D.one (Nat.le_refl q), va_S.rf⟩
  refine lv_aload_n B.1 B.2.1 dKPoi_0 rfl (lv_at hl 0 rfl) ?_
  refine k_obj B (gw_at (k := 1) (i := 68) rfl rfl) dKPoi_1 hl.1 (by decide) ?_
  refine lv_aload_n B.1 B.2.1 dKPoi_4 rfl (lv_at hl 0 rfl) ?_
  refine lv_bipush (v := 72) B.1 B.2.1 dKPoi_5 (by decide) ?_
  refine k_newa (k := 0) (N := 72) (ty := .int) (atype := .int) B (gw_at (k := 1) (i := 62) rfl rfl) rfl (fun _ _ => rfl) rfl rfl hK hW hA (by decide) rfl (Nat.le_of_ble_eq_true rfl) ⟨Nat.le_of_ble_eq_true rfl, Nat.le_of_ble_eq_true rfl⟩ dKPoi_7 (fun a1 H hW => ?_)
  have hW : Wk D (Ab q) s ((q, .inr (cix 5, [.null, .int (i32 0)])) :: ([(a1, .inl (cA 0, 72, .inl fun _ => i32 0))])) H [] := hW
  refine k_putF (t := 5) (k := 0) (fs := [.null, .int (i32 0)]) B (by decide) (by decide) (gw_at (k := 1) (i := 69) rfl rfl) rfl rfl rfl rfl (by decide : 0 < 2) hK hW dKPoi_9 (fun H locs hW => ?_)
  have hW : Wk D (Ab q) s ((q, .inr (cix 5, [.ref a1, .int (i32 0)])) :: ([(a1, .inl (cA 0, 72, .inl fun _ => i32 0))])) H locs := hW
  exact k_ret B hW.2.2 ⟨a1, hW.1, hW.2.1⟩ dKPoi_12 ⟨Nat.le_of_ble_eq_true rfl, Nat.le_of_ble_eq_true rfl⟩
/-! MapGeneralizer$Parcels: names and decoding -/
def yKPar : MethodName := ⟨"MapGeneralizer$Parcels", "<init>", "()V"⟩
theorem cwKPar : Jvm.Cond.code yKPar prog_7_method_1_code 1 none ∈ gw := gw_at (k := 1) (i := 83) rfl rfl
theorem inKPar : Jvm.Cond.initialized yKPar.cls ∈ gw := gw_at (k := 1) (i := 5) rfl rfl
theorem imKPar : Jvm.Cond.instanceMethod yKPar ∈ gw := gw_at (k := 1) (i := 82) rfl rfl
theorem isKPar : Jvm.Cond.instantiable (Rt 7) (Nf 7) ∈ gw := gw_at (k := 1) (i := 80) rfl rfl
theorem hyKPar : yKPar.cls ≠ "java/lang/invoke/MethodHandle" ∧ yKPar.cls ≠ "java/lang/invoke/VarHandle" ∧ (parseMethodDescriptor yKPar.desc).map (fun d => d.parameters.length) = some 0 := by decide +kernel
def fsKPar : List Value := [.null, .null, .null]
theorem bfKPar : ∀ j, j < Nf 7 → defaultValue (tyt 7 j) = vp_V fsKPar j := by
  intro j hj
  have hj : j < 3 := hj
  match j, hj with
  | 0, _ => rfl
  | 1, _ => rfl
  | 2, _ => rfl
  | k + 3, hj => exact absurd hj (by omega)
theorem dKPar_0 : decode prog_7_method_1_code 0 = .ok (.aload_n 0, 1) := by decide +kernel
theorem dKPar_1 : decode prog_7_method_1_code 1 = .ok (.invokespecial 3, 3) := by decide +kernel
theorem dKPar_4 : decode prog_7_method_1_code 4 = .ok (.aload_n 0, 1) := by decide +kernel
theorem dKPar_5 : decode prog_7_method_1_code 5 = .ok (.bipush 64, 2) := by decide +kernel
theorem dKPar_7 : decode prog_7_method_1_code 7 = .ok (.newarray .int, 2) := by decide +kernel
theorem dKPar_9 : decode prog_7_method_1_code 9 = .ok (.putfield 9, 3) := by decide +kernel
theorem dKPar_12 : decode prog_7_method_1_code 12 = .ok (.aload_n 0, 1) := by decide +kernel
theorem dKPar_13 : decode prog_7_method_1_code 13 = .ok (.bipush 16, 2) := by decide +kernel
theorem dKPar_15 : decode prog_7_method_1_code 15 = .ok (.newarray .int, 2) := by decide +kernel
theorem dKPar_17 : decode prog_7_method_1_code 17 = .ok (.putfield 15, 3) := by decide +kernel
theorem dKPar_20 : decode prog_7_method_1_code 20 = .ok (.aload_n 0, 1) := by decide +kernel
theorem dKPar_21 : decode prog_7_method_1_code 21 = .ok (.bipush 16, 2) := by decide +kernel
theorem dKPar_23 : decode prog_7_method_1_code 23 = .ok (.newarray .int, 2) := by decide +kernel
theorem dKPar_25 : decode prog_7_method_1_code 25 = .ok (.putfield 18, 3) := by decide +kernel
theorem dKPar_28 : decode prog_7_method_1_code 28 = .ok (.return_, 1) := by decide +kernel
def rmKPar : Room := { frames := 1, cells := 3, slots := 96, locals := 12 }
def PoKPar (D : va_G) (cA : Nat → ClassId) (q : Nat) (H : Heap) : Prop := ∃ a1 a2 a3 : Nat, va_P D cls_ ((q, .inr (cix 7, [.ref a1, .ref a2, .ref a3])) :: ([(a1, .inl (cA 0, 64, .inl fun _ => i32 0)), (a2, .inl (cA 0, 16, .inl fun _ => i32 0)), (a3, .inl (cA 0, 16, .inl fun _ => i32 0))])) H ∧ va_D (Ab q) ((q, .inr (cix 7, [.ref a1, .ref a2, .ref a3])) :: ([(a1, .inl (cA 0, 64, .inl fun _ => i32 0)), (a2, .inl (cA 0, 16, .inl fun _ => i32 0)), (a3, .inl (cA 0, 16, .inl fun _ => i32 0))]))
set_option maxHeartbeats 2000000 in
theorem ciKPar (l : Launch) (D : va_G) (cA : Nat → ClassId) (ad0 : Nat → Int → Nat) (base : Nat) (G0 : GG) (q : Nat) : CI l yKPar prog_7_method_1_code 1 rmKPar D cA ad0 base G0 [] q 7 fsKPar [] (PoKPar D cA q) := by
  refine CI.of (by decide +kernel) cwKPar rfl (Nat.le_of_ble_eq_true rfl) ?_
  intro p e s m args below meth c ls B hP hl
  obtain ⟨hq, hP1, -, -, hE, hbq⟩ := hP
  have hK : va_K D cls_ (tys_ cA) s := hE.1.1
  have hl : lv_has ls 1 [(0, .ref q)] := hl
  have hA : ∀ z, s.heap.size ≤ z → Ab q z := fun z hz => by show q ≤ z; omega
  have hW : Wk D (Ab q) s ((q, .inr (cix 7, [.null, .null, .null])) :: ([])) s.heap [] := ⟨hP1, va_D.one (Nat.le_refl q), va_S.rf⟩
  refine lv_aload_n B.1 B.2.1 dKPar_0 rfl (lv_at hl 0 rfl) ?_
  refine k_obj B (gw_at (k := 1) (i := 84) rfl rfl) dKPar_1 hl.1 (by decide) ?_
  refine lv_aload_n B.1 B.2.1 dKPar_4 rfl (lv_at hl 0 rfl) ?_
  refine lv_bipush (v := 64) B.1 B.2.1 dKPar_5 (by decide) ?_
  refine k_newa (k := 0) (N := 64) (ty := .int) (atype := .int) B (gw_at (k := 1) (i := 62) rfl rfl) rfl (fun _ _ => rfl) rfl rfl hK hW hA (by decide) rfl (Nat.le_of_ble_eq_true rfl) ⟨Nat.le_of_ble_eq_true rfl, Nat.le_of_ble_eq_true rfl⟩ dKPar_7 (fun a1 H hW => ?_)
  have hW : Wk D (Ab q) s ((q, .inr (cix 7, [.null, .null, .null])) :: ([(a1, .inl (cA 0, 64, .inl fun _ => i32 0))])) H [] := hW
  refine k_putF (t := 7) (k := 0) (fs := [.null, .null, .null]) B (by decide) (by decide) (gw_at (k := 1) (i := 85) rfl rfl) rfl rfl rfl rfl (by decide : 0 < 3) hK hW dKPar_9 (fun H locs hW => ?_)
  have hW : Wk D (Ab q) s ((q, .inr (cix 7, [.ref a1, .null, .null])) :: ([(a1, .inl (cA 0, 64, .inl fun _ => i32 0))])) H locs := hW
  refine lv_aload_n B.1 B.2.1 dKPar_12 rfl (lv_at hl 0 rfl) ?_
  refine lv_bipush (v := 16) B.1 B.2.1 dKPar_13 (by decide) ?_
  refine k_newa (k := 0) (N := 16) (ty := .int) (atype := .int) B (gw_at (k := 1) (i := 62) rfl rfl) rfl (fun _ _ => rfl) rfl rfl hK hW hA (by decide) rfl (Nat.le_of_ble_eq_true rfl) ⟨Nat.le_of_ble_eq_true rfl, Nat.le_of_ble_eq_true rfl⟩ dKPar_15 (fun a2 H hW => ?_)
  have hW : Wk D (Ab q) s ((q, .inr (cix 7, [.ref a1, .null, .null])) :: ([(a1, .inl (cA 0, 64, .inl fun _ => i32 0)), (a2, .inl (cA 0, 16, .inl fun _ => i32 0))])) H locs := hW
  refine k_putF (t := 7) (k := 1) (fs := [.ref a1, .null, .null]) B (by decide) (by decide) (gw_at (k := 1) (i := 88) rfl rfl) rfl rfl rfl rfl (by decide : 1 < 3) hK hW dKPar_17 (fun H locs hW => ?_)
  have hW : Wk D (Ab q) s ((q, .inr (cix 7, [.ref a1, .ref a2, .null])) :: ([(a1, .inl (cA 0, 64, .inl fun _ => i32 0)), (a2, .inl (cA 0, 16, .inl fun _ => i32 0))])) H locs := hW
  refine lv_aload_n B.1 B.2.1 dKPar_20 rfl (lv_at hl 0 rfl) ?_
  refine lv_bipush (v := 16) B.1 B.2.1 dKPar_21 (by decide) ?_
  refine k_newa (k := 0) (N := 16) (ty := .int) (atype := .int) B (gw_at (k := 1) (i := 62) rfl rfl) rfl (fun _ _ => rfl) rfl rfl hK hW hA (by decide) rfl (Nat.le_of_ble_eq_true rfl) ⟨Nat.le_of_ble_eq_true rfl, Nat.le_of_ble_eq_true rfl⟩ dKPar_23 (fun a3 H hW => ?_)
  have hW : Wk D (Ab q) s ((q, .inr (cix 7, [.ref a1, .ref a2, .null])) :: ([(a1, .inl (cA 0, 64, .inl fun _ => i32 0)), (a2, .inl (cA 0, 16, .inl fun _ => i32 0)), (a3, .inl (cA 0, 16, .inl fun _ => i32 0))])) H locs := hW
  refine k_putF (t := 7) (k := 2) (fs := [.ref a1, .ref a2, .null]) B (by decide) (by decide) (gw_at (k := 1) (i := 90) rfl rfl) rfl rfl rfl rfl (by decide : 2 < 3) hK hW dKPar_25 (fun H locs hW => ?_)
  have hW : Wk D (Ab q) s ((q, .inr (cix 7, [.ref a1, .ref a2, .ref a3])) :: ([(a1, .inl (cA 0, 64, .inl fun _ => i32 0)), (a2, .inl (cA 0, 16, .inl fun _ => i32 0)), (a3, .inl (cA 0, 16, .inl fun _ => i32 0))])) H locs := hW
  exact k_ret B hW.2.2 ⟨a1, a2, a3, hW.1, hW.2.1⟩ dKPar_28 ⟨Nat.le_of_ble_eq_true rfl, Nat.le_of_ble_eq_true rfl⟩
/-! MapGeneralizer$Script: names and decoding -/
def yKScr : MethodName := ⟨"MapGeneralizer$Script", "<init>", "()V"⟩
theorem cwKScr : Jvm.Cond.code yKScr prog_9_method_1_code 1 none ∈ gw := gw_at (k := 1) (i := 220) rfl rfl
theorem inKScr : Jvm.Cond.initialized yKScr.cls ∈ gw := gw_at (k := 1) (i := 10) rfl rfl
theorem imKScr : Jvm.Cond.instanceMethod yKScr ∈ gw := gw_at (k := 1) (i := 219) rfl rfl
theorem isKScr : Jvm.Cond.instantiable (Rt 21) (Nf 21) ∈ gw := gw_at (k := 1) (i := 217) rfl rfl
theorem hyKScr : yKScr.cls ≠ "java/lang/invoke/MethodHandle" ∧ yKScr.cls ≠ "java/lang/invoke/VarHandle" ∧ (parseMethodDescriptor yKScr.desc).map (fun d => d.parameters.length) = some 0 := by decide +kernel
def fsKScr : List Value := [.null, .int (i32 0), .int (i32 0), .int (i32 0), .null, .int (i32 0)]
theorem bfKScr : ∀ j, j < Nf 21 → defaultValue (tyt 21 j) = vp_V fsKScr j := by
  intro j hj
  have hj : j < 6 := hj
  match j, hj with
  | 0, _ => rfl
  | 1, _ => rfl
  | 2, _ => rfl
  | 3, _ => rfl
  | 4, _ => rfl
  | 5, _ => rfl
  | k + 6, hj => exact absurd hj (by omega)
theorem dKScr_0 : decode prog_9_method_1_code 0 = .ok (.aload_n 0, 1) := by decide +kernel
theorem dKScr_1 : decode prog_9_method_1_code 1 = .ok (.invokespecial 3, 3) := by decide +kernel
theorem dKScr_4 : decode prog_9_method_1_code 4 = .ok (.aload_n 0, 1) := by decide +kernel
theorem dKScr_5 : decode prog_9_method_1_code 5 = .ok (.bipush 60, 2) := by decide +kernel
theorem dKScr_7 : decode prog_9_method_1_code 7 = .ok (.newarray .char, 2) := by decide +kernel
theorem dKScr_9 : decode prog_9_method_1_code 9 = .ok (.putfield 9, 3) := by decide +kernel
theorem dKScr_12 : decode prog_9_method_1_code 12 = .ok (.aload_n 0, 1) := by decide +kernel
theorem dKScr_13 : decode prog_9_method_1_code 13 = .ok (.bipush 11, 2) := by decide +kernel
theorem dKScr_15 : decode prog_9_method_1_code 15 = .ok (.newarray .int, 2) := by decide +kernel
theorem dKScr_17 : decode prog_9_method_1_code 17 = .ok (.putfield 15, 3) := by decide +kernel
theorem dKScr_20 : decode prog_9_method_1_code 20 = .ok (.return_, 1) := by decide +kernel
def rmKScr : Room := { frames := 1, cells := 2, slots := 71, locals := 12 }
def PoKScr (D : va_G) (cA : Nat → ClassId) (q : Nat) (H : Heap) : Prop := ∃ a1 a2 : Nat, va_P D cls_ ((q, .inr (cix 21, [.ref a1, .int (i32 0), .int (i32 0), .int (i32 0), .ref a2, .int (i32 0)])) :: ([(a1, .inl (cA 1, 60, .inl fun _ => i32 0)), (a2, .inl (cA 0, 11, .inl fun _ => i32 0))])) H ∧ va_D (Ab q) ((q, .inr (cix 21, [.ref a1, .int (i32 0), .int (i32 0), .int (i32 0), .ref a2, .int (i32 0)])) :: ([(a1, .inl (cA 1, 60, .inl fun _ => i32 0)), (a2, .inl (cA 0, 11, .inl fun _ => i32 0))]))
set_option maxHeartbeats 2000000 in
theorem ciKScr (l : Launch) (D : va_G) (cA : Nat → ClassId) (ad0 : Nat → Int → Nat) (base : Nat) (G0 : GG) (q : Nat) : CI l yKScr prog_9_method_1_code 1 rmKScr D cA ad0 base G0 [] q 21 fsKScr [] (PoKScr D cA q) := by
  refine CI.of (by decide +kernel) cwKScr rfl (Nat.le_of_ble_eq_true rfl) ?_
  intro p e s m args below meth c ls B hP hl
  obtain ⟨hq, hP1, -, -, hE, hbq⟩ := hP
  have hK : va_K D cls_ (tys_ cA) s := hE.1.1
  have hl : lv_has ls 1 [(0, .ref q)] := hl
  have hA : ∀ z, s.heap.size ≤ z → Ab q z := fun z hz => by show q ≤ z; omega
  have hW : Wk D (Ab q) s ((q, .inr (cix 21, [.null, .int (i32 0), .int (i32 0), .int (i32 0), .null, .int (i32 0)])) :: ([])) s.heap [] := ⟨hP1, va_D.one (Nat.le_refl q), va_S.rf⟩
  refine lv_aload_n B.1 B.2.1 dKScr_0 rfl (lv_at hl 0 rfl) ?_
  refine k_obj B (gw_at (k := 1) (i := 221) rfl rfl) dKScr_1 hl.1 (by decide) ?_
  refine lv_aload_n B.1 B.2.1 dKScr_4 rfl (lv_at hl 0 rfl) ?_
  refine lv_bipush (v := 60) B.1 B.2.1 dKScr_5 (by decide) ?_
  refine k_newa (k := 1) (N := 60) (ty := .char) (atype := .char) B (gw_at (k := 2) (i := 7) rfl rfl) rfl (fun _ _ => rfl) rfl rfl hK hW hA (by decide) rfl (Nat.le_of_ble_eq_true rfl) ⟨Nat.le_of_ble_eq_true rfl, Nat.le_of_ble_eq_true rfl⟩ dKScr_7 (fun a1 H hW => ?_)
  have hW : Wk D (Ab q) s ((q, .inr (cix 21, [.null, .int (i32 0), .int (i32 0), .int (i32 0), .null, .int (i32 0)])) :: ([(a1, .inl (cA 1, 60, .inl fun _ => i32 0))])) H [] := hW
  refine k_putF (t := 21) (k := 0) (fs := [.null, .int (i32 0), .int (i32 0), .int (i32 0), .null, .int (i32 0)]) B (by decide) (by decide) (gw_at (k := 1) (i := 222) rfl rfl) rfl rfl rfl rfl (by decide : 0 < 6) hK hW dKScr_9 (fun H locs hW => ?_)
  have hW : Wk D (Ab q) s ((q, .inr (cix 21, [.ref a1, .int (i32 0), .int (i32 0), .int (i32 0), .null, .int (i32 0)])) :: ([(a1, .inl (cA 1, 60, .inl fun _ => i32 0))])) H locs := hW
  refine lv_aload_n B.1 B.2.1 dKScr_12 rfl (lv_at hl 0 rfl) ?_
  refine lv_bipush (v := 11) B.1 B.2.1 dKScr_13 (by decide) ?_
  refine k_newa (k := 0) (N := 11) (ty := .int) (atype := .int) B (gw_at (k := 1) (i := 62) rfl rfl) rfl (fun _ _ => rfl) rfl rfl hK hW hA (by decide) rfl (Nat.le_of_ble_eq_true rfl) ⟨Nat.le_of_ble_eq_true rfl, Nat.le_of_ble_eq_true rfl⟩ dKScr_15 (fun a2 H hW => ?_)
  have hW : Wk D (Ab q) s ((q, .inr (cix 21, [.ref a1, .int (i32 0), .int (i32 0), .int (i32 0), .null, .int (i32 0)])) :: ([(a1, .inl (cA 1, 60, .inl fun _ => i32 0)), (a2, .inl (cA 0, 11, .inl fun _ => i32 0))])) H locs := hW
  refine k_putF (t := 21) (k := 4) (fs := [.ref a1, .int (i32 0), .int (i32 0), .int (i32 0), .null, .int (i32 0)]) B (by decide) (by decide) (gw_at (k := 1) (i := 230) rfl rfl) rfl rfl rfl rfl (by decide : 4 < 6) hK hW dKScr_17 (fun H locs hW => ?_)
  have hW : Wk D (Ab q) s ((q, .inr (cix 21, [.ref a1, .int (i32 0), .int (i32 0), .int (i32 0), .ref a2, .int (i32 0)])) :: ([(a1, .inl (cA 1, 60, .inl fun _ => i32 0)), (a2, .inl (cA 0, 11, .inl fun _ => i32 0))])) H locs := hW
  exact k_ret B hW.2.2 ⟨a1, a2, hW.1, hW.2.1⟩ dKScr_20 ⟨Nat.le_of_ble_eq_true rfl, Nat.le_of_ble_eq_true rfl⟩
/-! MapGeneralizer$Labels: names and decoding -/
def yKLab : MethodName := ⟨"MapGeneralizer$Labels", "<init>", "(LMapGeneralizer$Points;LMapGeneralizer$Lines;)V"⟩
theorem cwKLab : Jvm.Cond.code yKLab prog_4_method_1_code 3 none ∈ gw := gw_at (k := 1) (i := 174) rfl rfl
theorem inKLab : Jvm.Cond.initialized yKLab.cls ∈ gw := gw_at (k := 1) (i := 9) rfl rfl
theorem imKLab : Jvm.Cond.instanceMethod yKLab ∈ gw := gw_at (k := 1) (i := 173) rfl rfl
theorem isKLab : Jvm.Cond.instantiable (Rt 19) (Nf 19) ∈ gw := gw_at (k := 1) (i := 171) rfl rfl
theorem hyKLab : yKLab.cls ≠ "java/lang/invoke/MethodHandle" ∧ yKLab.cls ≠ "java/lang/invoke/VarHandle" ∧ (parseMethodDescriptor yKLab.desc).map (fun d => d.parameters.length) = some 2 := by decide +kernel
def fsKLab : List Value := [.null, .null, .null, .int (i32 0)]
theorem bfKLab : ∀ j, j < Nf 19 → defaultValue (tyt 19 j) = vp_V fsKLab j := by
  intro j hj
  have hj : j < 4 := hj
  match j, hj with
  | 0, _ => rfl
  | 1, _ => rfl
  | 2, _ => rfl
  | 3, _ => rfl
  | k + 4, hj => exact absurd hj (by omega)
theorem dKLab_0 : decode prog_4_method_1_code 0 = .ok (.aload_n 0, 1) := by decide +kernel
theorem dKLab_1 : decode prog_4_method_1_code 1 = .ok (.invokespecial 3, 3) := by decide +kernel
theorem dKLab_4 : decode prog_4_method_1_code 4 = .ok (.aload_n 0, 1) := by decide +kernel
theorem dKLab_5 : decode prog_4_method_1_code 5 = .ok (.bipush 12, 2) := by decide +kernel
theorem dKLab_7 : decode prog_4_method_1_code 7 = .ok (.newarray .int, 2) := by decide +kernel
theorem dKLab_9 : decode prog_4_method_1_code 9 = .ok (.putfield 9, 3) := by decide +kernel
theorem dKLab_12 : decode prog_4_method_1_code 12 = .ok (.aload_n 0, 1) := by decide +kernel
theorem dKLab_13 : decode prog_4_method_1_code 13 = .ok (.aload_n 1, 1) := by decide +kernel
theorem dKLab_14 : decode prog_4_method_1_code 14 = .ok (.putfield 15, 3) := by decide +kernel
theorem dKLab_17 : decode prog_4_method_1_code 17 = .ok (.aload_n 0, 1) := by decide +kernel
theorem dKLab_18 : decode prog_4_method_1_code 18 = .ok (.aload_n 2, 1) := by decide +kernel
theorem dKLab_19 : decode prog_4_method_1_code 19 = .ok (.putfield 19, 3) := by decide +kernel
theorem dKLab_22 : decode prog_4_method_1_code 22 = .ok (.return_, 1) := by decide +kernel
def rmKLab : Room := { frames := 1, cells := 1, slots := 12, locals := 12 }
def PoKLab (D : va_G) (cA : Nat → ClassId) (q : Nat) (pq : Nat) (lq : Nat) (H : Heap) : Prop := ∃ a1 : Nat, va_P D cls_ ((q, .inr (cix 19, [.ref a1, .ref pq, .ref lq, .int (i32 0)])) :: ([(a1, .inl (cA 0, 12, .inl fun _ => i32 0))])) H ∧ va_D (Ab q) ((q, .inr (cix 19, [.ref a1, .ref pq, .ref lq, .int (i32 0)])) :: ([(a1, .inl (cA 0, 12, .inl fun _ => i32 0))]))
set_option maxHeartbeats 2000000 in
theorem ciKLab (l : Launch) (D : va_G) (cA : Nat → ClassId) (ad0 : Nat → Int → Nat) (base : Nat) (G0 : GG) (q pq lq : Nat) : CI l yKLab prog_4_method_1_code 3 rmKLab D cA ad0 base G0 [.ref pq, .ref lq] q 19 fsKLab [] (PoKLab D cA q pq lq) := by
  refine CI.of (by decide +kernel) cwKLab rfl (Nat.le_of_ble_eq_true rfl) ?_
  intro p e s m args below meth c ls B hP hl
  obtain ⟨hq, hP1, -, -, hE, hbq⟩ := hP
  have hK : va_K D cls_ (tys_ cA) s := hE.1.1
  have hl : lv_has ls 3 [(0, .ref q), (1, .ref pq), (2, .ref lq)] := hl
  have hA : ∀ z, s.heap.size ≤ z → Ab q z := fun z hz => by show q ≤ z; omega
  have hW : Wk D (Ab q) s ((q, .inr (cix 19, [.null, .null, .null, .int (i32 0)])) :: ([])) s.heap [] := ⟨hP1, va_D.one (Nat.le_refl q), va_S.rf⟩
  refine lv_aload_n B.1 B.2.1 dKLab_0 rfl (lv_at hl 0 rfl) ?_
  refine k_obj B (gw_at (k := 1) (i := 175) rfl rfl) dKLab_1 hl.1 (by decide) ?_
  refine lv_aload_n B.1 B.2.1 dKLab_4 rfl (lv_at hl 0 rfl) ?_
  refine lv_bipush (v := 12) B.1 B.2.1 dKLab_5 (by decide) ?_
  refine k_newa (k := 0) (N := 12) (ty := .int) (atype := .int) B (gw_at (k := 1) (i := 62) rfl rfl) rfl (fun _ _ => rfl) rfl rfl hK hW hA (by decide) rfl (Nat.le_of_ble_eq_true rfl) ⟨Nat.le_of_ble_eq_true rfl, Nat.le_of_ble_eq_true rfl⟩ dKLab_7 (fun a1 H hW => ?_)
  have hW : Wk D (Ab q) s ((q, .inr (cix 19, [.null, .null, .null, .int (i32 0)])) :: ([(a1, .inl (cA 0, 12, .inl fun _ => i32 0))])) H [] := hW
  refine k_putF (t := 19) (k := 0) (fs := [.null, .null, .null, .int (i32 0)]) B (by decide) (by decide) (gw_at (k := 1) (i := 176) rfl rfl) rfl rfl rfl rfl (by decide : 0 < 4) hK hW dKLab_9 (fun H locs hW => ?_)
  have hW : Wk D (Ab q) s ((q, .inr (cix 19, [.ref a1, .null, .null, .int (i32 0)])) :: ([(a1, .inl (cA 0, 12, .inl fun _ => i32 0))])) H locs := hW
  refine lv_aload_n B.1 B.2.1 dKLab_12 rfl (lv_at hl 0 rfl) ?_
  refine lv_aload_n B.1 B.2.1 dKLab_13 rfl (lv_at hl 1 rfl) ?_
  refine k_putF (t := 19) (k := 1) (fs := [.ref a1, .null, .null, .int (i32 0)]) B (by decide) (by decide) (gw_at (k := 1) (i := 178) rfl rfl) rfl rfl rfl rfl (by decide : 1 < 4) hK hW dKLab_14 (fun H locs hW => ?_)
  have hW : Wk D (Ab q) s ((q, .inr (cix 19, [.ref a1, .ref pq, .null, .int (i32 0)])) :: ([(a1, .inl (cA 0, 12, .inl fun _ => i32 0))])) H locs := hW
  refine lv_aload_n B.1 B.2.1 dKLab_17 rfl (lv_at hl 0 rfl) ?_
  refine lv_aload_n B.1 B.2.1 dKLab_18 rfl (lv_at hl 2 rfl) ?_
  refine k_putF (t := 19) (k := 2) (fs := [.ref a1, .ref pq, .null, .int (i32 0)]) B (by decide) (by decide) (gw_at (k := 1) (i := 179) rfl rfl) rfl rfl rfl rfl (by decide : 2 < 4) hK hW dKLab_19 (fun H locs hW => ?_)
  have hW : Wk D (Ab q) s ((q, .inr (cix 19, [.ref a1, .ref pq, .ref lq, .int (i32 0)])) :: ([(a1, .inl (cA 0, 12, .inl fun _ => i32 0))])) H locs := hW
  exact k_ret B hW.2.2 ⟨a1, hW.1, hW.2.1⟩ dKLab_22 ⟨Nat.le_of_ble_eq_true rfl, Nat.le_of_ble_eq_true rfl⟩
