/-! ===== the map is made ===== -/
theorem all_tl {P : Nat × va_E → Prop} {y : Nat × va_E} {w : va_W} (h : ∀ (k : Nat) (x : Nat × va_E), (y :: w)[k]? = some x → P x) : ∀ (k : Nat) (x : Nat × va_E), w[k]? = some x → P x := fun k x hx => h (k + 1) x hx
theorem all_lft {P : Nat × va_E → Prop} {a b : va_W} (h : ∀ (k : Nat) (x : Nat × va_E), (a ++ b)[k]? = some x → P x) : ∀ (k : Nat) (x : Nat × va_E), a[k]? = some x → P x := fun k x hx => h k x (by rw [List.getElem?_append_left (List.getElem?_eq_some_iff.mp hx).1]; exact hx)
/-! MapGeneralizer: names and decoding -/
def yKMap : MethodName := ⟨"MapGeneralizer", "<init>", "()V"⟩
theorem cwKMap : Jvm.Cond.code yKMap prog_1_method_1_code 1 none ∈ gw := gw_at (k := 1) (i := 31) rfl rfl
theorem inKMap : Jvm.Cond.initialized yKMap.cls ∈ gw := gw_at (k := 1) (i := 1) rfl rfl
theorem imKMap : Jvm.Cond.instanceMethod yKMap ∈ gw := gw_at (k := 1) (i := 30) rfl rfl
theorem isKMap : Jvm.Cond.instantiable (Rt 0) (Nf 0) ∈ gw := gw_at (k := 1) (i := 28) rfl rfl
theorem hyKMap : yKMap.cls ≠ "java/lang/invoke/MethodHandle" ∧ yKMap.cls ≠ "java/lang/invoke/VarHandle" ∧ (parseMethodDescriptor yKMap.desc).map (fun d => d.parameters.length) = some 0 := by decide +kernel
def fsKMap : List Value := [.null, .null, .null, .null, .null, .null, .null, .int (i32 0), .int (i32 0)]
theorem bfKMap : ∀ j, j < Nf 0 → defaultValue (tyt 0 j) = vp_V fsKMap j := by
  intro j hj
  have hj : j < 9 := hj
  match j, hj with
  | 0, _ => rfl
  | 1, _ => rfl
  | 2, _ => rfl
  | 3, _ => rfl
  | 4, _ => rfl
  | 5, _ => rfl
  | 6, _ => rfl
  | 7, _ => rfl
  | 8, _ => rfl
  | k + 9, hj => exact absurd hj (by omega)
theorem dKMap_0 : decode prog_1_method_1_code 0 = .ok (.aload_n 0, 1) := by decide +kernel
theorem dKMap_1 : decode prog_1_method_1_code 1 = .ok (.invokespecial 1, 3) := by decide +kernel
theorem dKMap_4 : decode prog_1_method_1_code 4 = .ok (.aload_n 0, 1) := by decide +kernel
theorem dKMap_5 : decode prog_1_method_1_code 5 = .ok (.new 7, 3) := by decide +kernel
theorem dKMap_8 : decode prog_1_method_1_code 8 = .ok (.dup, 1) := by decide +kernel
theorem dKMap_9 : decode prog_1_method_1_code 9 = .ok (.invokespecial 9, 3) := by decide +kernel
theorem dKMap_12 : decode prog_1_method_1_code 12 = .ok (.putfield 10, 3) := by decide +kernel
theorem dKMap_15 : decode prog_1_method_1_code 15 = .ok (.aload_n 0, 1) := by decide +kernel
theorem dKMap_16 : decode prog_1_method_1_code 16 = .ok (.new 7, 3) := by decide +kernel
theorem dKMap_19 : decode prog_1_method_1_code 19 = .ok (.dup, 1) := by decide +kernel
theorem dKMap_20 : decode prog_1_method_1_code 20 = .ok (.invokespecial 9, 3) := by decide +kernel
theorem dKMap_23 : decode prog_1_method_1_code 23 = .ok (.putfield 16, 3) := by decide +kernel
theorem dKMap_26 : decode prog_1_method_1_code 26 = .ok (.aload_n 0, 1) := by decide +kernel
theorem dKMap_27 : decode prog_1_method_1_code 27 = .ok (.new 7, 3) := by decide +kernel
theorem dKMap_30 : decode prog_1_method_1_code 30 = .ok (.dup, 1) := by decide +kernel
theorem dKMap_31 : decode prog_1_method_1_code 31 = .ok (.invokespecial 9, 3) := by decide +kernel
theorem dKMap_34 : decode prog_1_method_1_code 34 = .ok (.putfield 19, 3) := by decide +kernel
theorem dKMap_37 : decode prog_1_method_1_code 37 = .ok (.aload_n 0, 1) := by decide +kernel
theorem dKMap_38 : decode prog_1_method_1_code 38 = .ok (.new 22, 3) := by decide +kernel
theorem dKMap_41 : decode prog_1_method_1_code 41 = .ok (.dup, 1) := by decide +kernel
theorem dKMap_42 : decode prog_1_method_1_code 42 = .ok (.invokespecial 24, 3) := by decide +kernel
theorem dKMap_45 : decode prog_1_method_1_code 45 = .ok (.putfield 25, 3) := by decide +kernel
theorem dKMap_48 : decode prog_1_method_1_code 48 = .ok (.aload_n 0, 1) := by decide +kernel
theorem dKMap_49 : decode prog_1_method_1_code 49 = .ok (.new 29, 3) := by decide +kernel
theorem dKMap_52 : decode prog_1_method_1_code 52 = .ok (.dup, 1) := by decide +kernel
theorem dKMap_53 : decode prog_1_method_1_code 53 = .ok (.aload_n 0, 1) := by decide +kernel
theorem dKMap_54 : decode prog_1_method_1_code 54 = .ok (.getfield 10, 3) := by decide +kernel
theorem dKMap_57 : decode prog_1_method_1_code 57 = .ok (.invokespecial 31, 3) := by decide +kernel
theorem dKMap_60 : decode prog_1_method_1_code 60 = .ok (.putfield 34, 3) := by decide +kernel
theorem dKMap_63 : decode prog_1_method_1_code 63 = .ok (.aload_n 0, 1) := by decide +kernel
theorem dKMap_64 : decode prog_1_method_1_code 64 = .ok (.new 38, 3) := by decide +kernel
theorem dKMap_67 : decode prog_1_method_1_code 67 = .ok (.dup, 1) := by decide +kernel
theorem dKMap_68 : decode prog_1_method_1_code 68 = .ok (.invokespecial 40, 3) := by decide +kernel
theorem dKMap_71 : decode prog_1_method_1_code 71 = .ok (.putfield 41, 3) := by decide +kernel
theorem dKMap_74 : decode prog_1_method_1_code 74 = .ok (.aload_n 0, 1) := by decide +kernel
theorem dKMap_75 : decode prog_1_method_1_code 75 = .ok (.bipush 61, 2) := by decide +kernel
theorem dKMap_77 : decode prog_1_method_1_code 77 = .ok (.newarray .char, 2) := by decide +kernel
theorem dKMap_79 : decode prog_1_method_1_code 79 = .ok (.putfield 45, 3) := by decide +kernel
theorem dKMap_82 : decode prog_1_method_1_code 82 = .ok (.aload_n 0, 1) := by decide +kernel
theorem dKMap_83 : decode prog_1_method_1_code 83 = .ok (.iconst 0, 1) := by decide +kernel
theorem dKMap_84 : decode prog_1_method_1_code 84 = .ok (.putfield 49, 3) := by decide +kernel
theorem dKMap_87 : decode prog_1_method_1_code 87 = .ok (.aload_n 0, 1) := by decide +kernel
theorem dKMap_88 : decode prog_1_method_1_code 88 = .ok (.iconst (-1), 1) := by decide +kernel
theorem dKMap_89 : decode prog_1_method_1_code 89 = .ok (.putfield 53, 3) := by decide +kernel
theorem dKMap_92 : decode prog_1_method_1_code 92 = .ok (.return_, 1) := by decide +kernel
def rmKMap : Room := { frames := 17, cells := 180, slots := 3992, locals := 1200 }
noncomputable def wMap (cA : Nat → ClassId) (ad0 : Nat → Int → Nat) (g : GG) (q : Nat) (v0 v1 v2 vl : List Nat) (vh : Nat → List Nat) (qh ah ql qs s1 s2 tx : Nat) : va_W := (q, .inr (cix 0, [.ref (v0.getD 0 0), .ref (v1.getD 0 0), .ref (v2.getD 0 0), .ref qh, .ref ql, .ref qs, .ref tx, .int (i32 0), .int (i32 (-1))])) :: ([] ++ Wl (csS 0) (adL ad0 1 v0) cA (GSh g 0) ++ Wl (csS 1) (adL ad0 1 v1) cA (GSh g 1) ++ Wl (csS 2) (adL ad0 1 v2) cA (GSh g 2) ++ wHis cA ad0 g qh ah vh ++ wLev cA v0 ql vl ++ [(qs, .inr (cix 21, [.ref s1, .int (i32 0), .int (i32 0), .int (i32 0), .ref s2, .int (i32 0)])), (s1, .inl (cA 1, 60, .inl fun _ => i32 0)), (s2, .inl (cA 0, 11, .inl fun _ => i32 0))] ++ [(tx, .inl (cA 1, 61, .inl fun _ => i32 0))])
def PoKMap (D : va_G) (cA : Nat → ClassId) (ad0 : Nat → Int → Nat) (g : GG) (q : Nat) (H : Heap) : Prop := ∃ (v0 v1 v2 vl : List Nat) (vh : Nat → List Nat) (qh ah ql qs s1 s2 tx : Nat), va_P D cls_ (wMap cA ad0 g q v0 v1 v2 vl vh qh ah ql qs s1 s2 tx) H ∧ va_D (Ab q) (wMap cA ad0 g q v0 v1 v2 vl vh qh ah ql qs s1 s2 tx)
set_option maxHeartbeats 8000000 in
set_option maxRecDepth 20000 in
theorem ciKMap {l : Launch} (hl9 : l.stackTraces = false) {g : GG} (hT9 : Lm g) (hg9 : okG g) (D : va_G) (cA : Nat → ClassId) (ad0 : Nat → Int → Nat) (base : Nat) (q : Nat) : CI l yKMap prog_1_method_1_code 1 rmKMap D cA ad0 base (gz g) [] q 0 fsKMap [] (PoKMap D cA ad0 g q) := by
  refine CI.of (by decide +kernel) cwKMap rfl (Nat.le_of_ble_eq_true rfl) ?_
  intro p e s m args below meth c ls B hP hl
  obtain ⟨hq, hP1, -, -, hE, hbq⟩ := hP
  have hK : va_K D cls_ (tys_ cA) s := hE.1.1
  have hl : lv_has ls 1 [(0, .ref q)] := hl
  have hA : ∀ z, s.heap.size ≤ z → Ab q z := fun z hz => by show q ≤ z; omega
  have hAb : ∀ z, Ab q z → base ≤ z := fun z hz => Nat.le_trans hbq hz
  have hW : Wk D (Ab q) s ((q, .inr (cix 0, [.null, .null, .null, .null, .null, .null, .null, .int (i32 0), .int (i32 0)])) :: ([])) s.heap [] := ⟨hP1, va_D.one (Nat.le_refl q), va_S.rf⟩
  refine lv_aload_n B.1 B.2.1 dKMap_0 rfl (lv_at hl 0 rfl) ?_
  refine k_obj B (gw_at (k := 1) (i := 32) rfl rfl) dKMap_1 hl.1 (by decide) ?_
  refine lv_aload_n B.1 B.2.1 dKMap_4 rfl (lv_at hl 0 rfl) ?_
  refine k_new (t := 1) (fs := fsKShe) B (by decide) (gw_at (k := 1) (i := 35) rfl rfl) isKShe inKShe hK hW hA ⟨Nat.le_of_ble_eq_true rfl, Nat.le_of_ble_eq_true rfl⟩ dKMap_5 bfKShe (fun b1 H hqb1 hPb1 hW hltb1 hAb1 hsb1 => ?_)
  refine lv_dup B.1 B.2.1 dKMap_8 rfl ?_
  refine k_call (t := 1) (rest := [.ref b1, .ref q]) (wro := []) B (ciKShe hl9 hT9 hg9 (i := 0) (by decide) D cA ad0 base b1) hE hW.2.2 hAb hqb1 hPb1 (fun _ _ h => by cases h) (fun _ _ h => by cases h) (Nat.le_trans hbq hAb1) (gw_at (k := 1) (i := 37) rfl rfl) cwKShe inKShe imKShe rfl hyKShe ⟨Nat.le_of_ble_eq_true rfl, Nat.le_of_ble_eq_true rfl⟩ ⟨Nat.le_of_ble_eq_true rfl, Nat.le_of_ble_eq_true rfl⟩ rfl (Nat.le_of_ble_eq_true rfl) hl.1 dKMap_9 (fun z h => Nat.le_trans hAb1 h) (fun H1 locs1 hpo hk hz hS => ?_)
  obtain ⟨vb1, hvb1, hPo, hDo⟩ := hpo
  subst hvb1
  have hW := hW.join hltb1 hk hPo hDo hS (fun z h => Nat.le_trans hAb1 h)
  have hW : Wk D (Ab q) s ((q, .inr (cix 0, [.null, .null, .null, .null, .null, .null, .null, .int (i32 0), .int (i32 0)])) :: ([] ++ Wl (csS 0) (adL ad0 1 vb1) cA (GSh g 0))) H1 locs1 := hW
  generalize H1 = H at hW ⊢
  generalize locs1 = locs at hW ⊢
  refine k_putF (t := 0) (k := 0) (fs := [.null, .null, .null, .null, .null, .null, .null, .int (i32 0), .int (i32 0)]) B (by decide) (by decide) (gw_at (k := 2) (i := 8) rfl rfl) rfl rfl rfl rfl (by decide : 0 < 9) hK hW dKMap_12 (fun H locs hW => ?_)
  have hW : Wk D (Ab q) s ((q, .inr (cix 0, [.ref (vb1.getD 0 0), .null, .null, .null, .null, .null, .null, .int (i32 0), .int (i32 0)])) :: ([] ++ Wl (csS 0) (adL ad0 1 vb1) cA (GSh g 0))) H locs := hW
  refine lv_aload_n B.1 B.2.1 dKMap_15 rfl (lv_at hl 0 rfl) ?_
  refine k_new (t := 1) (fs := fsKShe) B (by decide) (gw_at (k := 1) (i := 35) rfl rfl) isKShe inKShe hK hW hA ⟨Nat.le_of_ble_eq_true rfl, Nat.le_of_ble_eq_true rfl⟩ dKMap_16 bfKShe (fun b2 H hqb2 hPb2 hW hltb2 hAb2 hsb2 => ?_)
  refine lv_dup B.1 B.2.1 dKMap_19 rfl ?_
  refine k_call (t := 1) (rest := [.ref b2, .ref q]) (wro := []) B (ciKShe hl9 hT9 hg9 (i := 1) (by decide) D cA ad0 base b2) hE hW.2.2 hAb hqb2 hPb2 (fun _ _ h => by cases h) (fun _ _ h => by cases h) (Nat.le_trans hbq hAb2) (gw_at (k := 1) (i := 37) rfl rfl) cwKShe inKShe imKShe rfl hyKShe ⟨Nat.le_of_ble_eq_true rfl, Nat.le_of_ble_eq_true rfl⟩ ⟨Nat.le_of_ble_eq_true rfl, Nat.le_of_ble_eq_true rfl⟩ rfl (Nat.le_of_ble_eq_true rfl) hl.1 dKMap_20 (fun z h => Nat.le_trans hAb2 h) (fun H1 locs1 hpo hk hz hS => ?_)
  obtain ⟨vb2, hvb2, hPo, hDo⟩ := hpo
  subst hvb2
  have hW := hW.join hltb2 hk hPo hDo hS (fun z h => Nat.le_trans hAb2 h)
  have hW : Wk D (Ab q) s ((q, .inr (cix 0, [.ref (vb1.getD 0 0), .null, .null, .null, .null, .null, .null, .int (i32 0), .int (i32 0)])) :: ([] ++ Wl (csS 0) (adL ad0 1 vb1) cA (GSh g 0) ++ Wl (csS 1) (adL ad0 1 vb2) cA (GSh g 1))) H1 locs1 := hW
  generalize H1 = H at hW ⊢
  generalize locs1 = locs at hW ⊢
  refine k_putF (t := 0) (k := 1) (fs := [.ref (vb1.getD 0 0), .null, .null, .null, .null, .null, .null, .int (i32 0), .int (i32 0)]) B (by decide) (by decide) (gw_at (k := 2) (i := 9) rfl rfl) rfl rfl rfl rfl (by decide : 1 < 9) hK hW dKMap_23 (fun H locs hW => ?_)
  have hW : Wk D (Ab q) s ((q, .inr (cix 0, [.ref (vb1.getD 0 0), .ref (vb2.getD 0 0), .null, .null, .null, .null, .null, .int (i32 0), .int (i32 0)])) :: ([] ++ Wl (csS 0) (adL ad0 1 vb1) cA (GSh g 0) ++ Wl (csS 1) (adL ad0 1 vb2) cA (GSh g 1))) H locs := hW
  refine lv_aload_n B.1 B.2.1 dKMap_26 rfl (lv_at hl 0 rfl) ?_
  refine k_new (t := 1) (fs := fsKShe) B (by decide) (gw_at (k := 1) (i := 35) rfl rfl) isKShe inKShe hK hW hA ⟨Nat.le_of_ble_eq_true rfl, Nat.le_of_ble_eq_true rfl⟩ dKMap_27 bfKShe (fun b3 H hqb3 hPb3 hW hltb3 hAb3 hsb3 => ?_)
  refine lv_dup B.1 B.2.1 dKMap_30 rfl ?_
  refine k_call (t := 1) (rest := [.ref b3, .ref q]) (wro := []) B (ciKShe hl9 hT9 hg9 (i := 2) (by decide) D cA ad0 base b3) hE hW.2.2 hAb hqb3 hPb3 (fun _ _ h => by cases h) (fun _ _ h => by cases h) (Nat.le_trans hbq hAb3) (gw_at (k := 1) (i := 37) rfl rfl) cwKShe inKShe imKShe rfl hyKShe ⟨Nat.le_of_ble_eq_true rfl, Nat.le_of_ble_eq_true rfl⟩ ⟨Nat.le_of_ble_eq_true rfl, Nat.le_of_ble_eq_true rfl⟩ rfl (Nat.le_of_ble_eq_true rfl) hl.1 dKMap_31 (fun z h => Nat.le_trans hAb3 h) (fun H1 locs1 hpo hk hz hS => ?_)
  obtain ⟨vb3, hvb3, hPo, hDo⟩ := hpo
  subst hvb3
  have hW := hW.join hltb3 hk hPo hDo hS (fun z h => Nat.le_trans hAb3 h)
  have hW : Wk D (Ab q) s ((q, .inr (cix 0, [.ref (vb1.getD 0 0), .ref (vb2.getD 0 0), .null, .null, .null, .null, .null, .int (i32 0), .int (i32 0)])) :: ([] ++ Wl (csS 0) (adL ad0 1 vb1) cA (GSh g 0) ++ Wl (csS 1) (adL ad0 1 vb2) cA (GSh g 1) ++ Wl (csS 2) (adL ad0 1 vb3) cA (GSh g 2))) H1 locs1 := hW
  generalize H1 = H at hW ⊢
  generalize locs1 = locs at hW ⊢
  refine k_putF (t := 0) (k := 2) (fs := [.ref (vb1.getD 0 0), .ref (vb2.getD 0 0), .null, .null, .null, .null, .null, .int (i32 0), .int (i32 0)]) B (by decide) (by decide) (gw_at (k := 2) (i := 10) rfl rfl) rfl rfl rfl rfl (by decide : 2 < 9) hK hW dKMap_34 (fun H locs hW => ?_)
  have hW : Wk D (Ab q) s ((q, .inr (cix 0, [.ref (vb1.getD 0 0), .ref (vb2.getD 0 0), .ref (vb3.getD 0 0), .null, .null, .null, .null, .int (i32 0), .int (i32 0)])) :: ([] ++ Wl (csS 0) (adL ad0 1 vb1) cA (GSh g 0) ++ Wl (csS 1) (adL ad0 1 vb2) cA (GSh g 1) ++ Wl (csS 2) (adL ad0 1 vb3) cA (GSh g 2))) H locs := hW
  refine lv_aload_n B.1 B.2.1 dKMap_37 rfl (lv_at hl 0 rfl) ?_
  refine k_new (t := 13) (fs := fsKHis) B (by decide) (gw_at (k := 1) (i := 137) rfl rfl) isKHis inKHis hK hW hA ⟨Nat.le_of_ble_eq_true rfl, Nat.le_of_ble_eq_true rfl⟩ dKMap_38 bfKHis (fun b4 H hqb4 hPb4 hW hltb4 hAb4 hsb4 => ?_)
  refine lv_dup B.1 B.2.1 dKMap_41 rfl ?_
  refine k_call (t := 13) (rest := [.ref b4, .ref q]) (wro := []) B (ciKHis hl9 hT9 hg9 D cA ad0 base b4) hE hW.2.2 hAb hqb4 hPb4 (fun _ _ h => by cases h) (fun _ _ h => by cases h) (Nat.le_trans hbq hAb4) (gw_at (k := 1) (i := 139) rfl rfl) cwKHis inKHis imKHis rfl hyKHis ⟨Nat.le_of_ble_eq_true rfl, Nat.le_of_ble_eq_true rfl⟩ ⟨Nat.le_of_ble_eq_true rfl, Nat.le_of_ble_eq_true rfl⟩ rfl (Nat.le_of_ble_eq_true rfl) hl.1 dKMap_42 (fun z h => Nat.le_trans hAb4 h) (fun H1 locs1 hpo hk hz hS => ?_)
  obtain ⟨ah, vh, hPo, hDo⟩ := hpo
  have hW := hW.join hltb4 hk hPo hDo hS (fun z h => Nat.le_trans hAb4 h)
  have hW : Wk D (Ab q) s ((q, .inr (cix 0, [.ref (vb1.getD 0 0), .ref (vb2.getD 0 0), .ref (vb3.getD 0 0), .null, .null, .null, .null, .int (i32 0), .int (i32 0)])) :: ([] ++ Wl (csS 0) (adL ad0 1 vb1) cA (GSh g 0) ++ Wl (csS 1) (adL ad0 1 vb2) cA (GSh g 1) ++ Wl (csS 2) (adL ad0 1 vb3) cA (GSh g 2) ++ wHis cA ad0 g b4 ah vh)) H1 locs1 := hW
  generalize H1 = H at hW ⊢
  generalize locs1 = locs at hW ⊢
  refine k_putF (t := 0) (k := 3) (fs := [.ref (vb1.getD 0 0), .ref (vb2.getD 0 0), .ref (vb3.getD 0 0), .null, .null, .null, .null, .int (i32 0), .int (i32 0)]) B (by decide) (by decide) (gw_at (k := 2) (i := 11) rfl rfl) rfl rfl rfl rfl (by decide : 3 < 9) hK hW dKMap_45 (fun H locs hW => ?_)
  have hW : Wk D (Ab q) s ((q, .inr (cix 0, [.ref (vb1.getD 0 0), .ref (vb2.getD 0 0), .ref (vb3.getD 0 0), .ref b4, .null, .null, .null, .int (i32 0), .int (i32 0)])) :: ([] ++ Wl (csS 0) (adL ad0 1 vb1) cA (GSh g 0) ++ Wl (csS 1) (adL ad0 1 vb2) cA (GSh g 1) ++ Wl (csS 2) (adL ad0 1 vb3) cA (GSh g 2) ++ wHis cA ad0 g b4 ah vh)) H locs := hW
  refine lv_aload_n B.1 B.2.1 dKMap_48 rfl (lv_at hl 0 rfl) ?_
  refine k_new (t := 15) (fs := fsKLev) B (by decide) (gw_at (k := 1) (i := 157) rfl rfl) isKLev inKLev hK hW hA ⟨Nat.le_of_ble_eq_true rfl, Nat.le_of_ble_eq_true rfl⟩ dKMap_49 bfKLev (fun b5 H hqb5 hPb5 hW hltb5 hAb5 hsb5 => ?_)
  refine lv_dup B.1 B.2.1 dKMap_52 rfl ?_
  refine lv_aload_n B.1 B.2.1 dKMap_53 rfl (lv_at hl 0 rfl) ?_
  refine k_get (t := 0) (k := 0) (q0 := 0) B (by decide) (by decide) (gw_at (k := 2) (i := 8) rfl rfl) hK hW.1 rfl rfl dKMap_54 ?_
  refine k_call (t := 15) (rest := [.ref b5, .ref q]) (wro := (Wl (csS 0) (adL ad0 1 vb1) cA (GSh g 0))) B (ciKLev l D cA ad0 base g b5 vb1) hE hW.2.2 hAb hqb5 hPb5 (all_lft (all_lft (all_lft (all_tl hW.1)))) (all_lft (all_lft (all_lft (all_tl hltb5)))) (Nat.le_trans hbq hAb5) (gw_at (k := 1) (i := 159) rfl rfl) cwKLev inKLev imKLev rfl hyKLev ⟨Nat.le_of_ble_eq_true rfl, Nat.le_of_ble_eq_true rfl⟩ ⟨Nat.le_of_ble_eq_true rfl, Nat.le_of_ble_eq_true rfl⟩ rfl (Nat.le_of_ble_eq_true rfl) hl.1 dKMap_57 (fun z h => Nat.le_trans hAb5 h) (fun H1 locs1 hpo hk hz hS => ?_)
  obtain ⟨vl, hPo, hDo⟩ := hpo
  have hW := hW.join hltb5 hk hPo hDo hS (fun z h => Nat.le_trans hAb5 h)
  have hW : Wk D (Ab q) s ((q, .inr (cix 0, [.ref (vb1.getD 0 0), .ref (vb2.getD 0 0), .ref (vb3.getD 0 0), .ref b4, .null, .null, .null, .int (i32 0), .int (i32 0)])) :: ([] ++ Wl (csS 0) (adL ad0 1 vb1) cA (GSh g 0) ++ Wl (csS 1) (adL ad0 1 vb2) cA (GSh g 1) ++ Wl (csS 2) (adL ad0 1 vb3) cA (GSh g 2) ++ wHis cA ad0 g b4 ah vh ++ wLev cA vb1 b5 vl)) H1 locs1 := hW
  generalize H1 = H at hW ⊢
  generalize locs1 = locs at hW ⊢
  refine k_putF (t := 0) (k := 4) (fs := [.ref (vb1.getD 0 0), .ref (vb2.getD 0 0), .ref (vb3.getD 0 0), .ref b4, .null, .null, .null, .int (i32 0), .int (i32 0)]) B (by decide) (by decide) (gw_at (k := 2) (i := 12) rfl rfl) rfl rfl rfl rfl (by decide : 4 < 9) hK hW dKMap_60 (fun H locs hW => ?_)
  have hW : Wk D (Ab q) s ((q, .inr (cix 0, [.ref (vb1.getD 0 0), .ref (vb2.getD 0 0), .ref (vb3.getD 0 0), .ref b4, .ref b5, .null, .null, .int (i32 0), .int (i32 0)])) :: ([] ++ Wl (csS 0) (adL ad0 1 vb1) cA (GSh g 0) ++ Wl (csS 1) (adL ad0 1 vb2) cA (GSh g 1) ++ Wl (csS 2) (adL ad0 1 vb3) cA (GSh g 2) ++ wHis cA ad0 g b4 ah vh ++ wLev cA vb1 b5 vl)) H locs := hW
  refine lv_aload_n B.1 B.2.1 dKMap_63 rfl (lv_at hl 0 rfl) ?_
  refine k_new (t := 21) (fs := fsKScr) B (by decide) (gw_at (k := 1) (i := 216) rfl rfl) isKScr inKScr hK hW hA ⟨Nat.le_of_ble_eq_true rfl, Nat.le_of_ble_eq_true rfl⟩ dKMap_64 bfKScr (fun b6 H hqb6 hPb6 hW hltb6 hAb6 hsb6 => ?_)
  refine lv_dup B.1 B.2.1 dKMap_67 rfl ?_
  refine k_callN (t := 21) (rest := [.ref b6, .ref q]) (wro := []) B (ciKScr l D cA ad0 base (gz g) b6) hE hW.2.2 hAb hqb6 hPb6 (fun _ _ h => by cases h) (fun _ _ h => by cases h) (Nat.le_trans hbq hAb6) (by decide) cwKScr inKScr imKScr rfl hyKScr ⟨Nat.le_of_ble_eq_true rfl, Nat.le_of_ble_eq_true rfl⟩ ⟨Nat.le_of_ble_eq_true rfl, Nat.le_of_ble_eq_true rfl⟩ rfl (Nat.le_of_ble_eq_true rfl) hl.1 dKMap_68 (fun z h => Nat.le_trans hAb6 h) (fun H1 locs1 hpo hk hz hS => ?_)
  obtain ⟨s1, s2, hPo, hDo⟩ := hpo
  have hW := hW.join hltb6 hk hPo hDo hS (fun z h => Nat.le_trans hAb6 h)
  have hW : Wk D (Ab q) s ((q, .inr (cix 0, [.ref (vb1.getD 0 0), .ref (vb2.getD 0 0), .ref (vb3.getD 0 0), .ref b4, .ref b5, .null, .null, .int (i32 0), .int (i32 0)])) :: ([] ++ Wl (csS 0) (adL ad0 1 vb1) cA (GSh g 0) ++ Wl (csS 1) (adL ad0 1 vb2) cA (GSh g 1) ++ Wl (csS 2) (adL ad0 1 vb3) cA (GSh g 2) ++ wHis cA ad0 g b4 ah vh ++ wLev cA vb1 b5 vl ++ [(b6, .inr (cix 21, [.ref s1, .int (i32 0), .int (i32 0), .int (i32 0), .ref s2, .int (i32 0)])), (s1, .inl (cA 1, 60, .inl fun _ => i32 0)), (s2, .inl (cA 0, 11, .inl fun _ => i32 0))])) H1 locs1 := hW
  generalize H1 = H at hW ⊢
  generalize locs1 = locs at hW ⊢
  refine k_putF (t := 0) (k := 5) (fs := [.ref (vb1.getD 0 0), .ref (vb2.getD 0 0), .ref (vb3.getD 0 0), .ref b4, .ref b5, .null, .null, .int (i32 0), .int (i32 0)]) B (by decide) (by decide) (gw_at (k := 2) (i := 13) rfl rfl) rfl rfl rfl rfl (by decide : 5 < 9) hK hW dKMap_71 (fun H locs hW => ?_)
  have hW : Wk D (Ab q) s ((q, .inr (cix 0, [.ref (vb1.getD 0 0), .ref (vb2.getD 0 0), .ref (vb3.getD 0 0), .ref b4, .ref b5, .ref b6, .null, .int (i32 0), .int (i32 0)])) :: ([] ++ Wl (csS 0) (adL ad0 1 vb1) cA (GSh g 0) ++ Wl (csS 1) (adL ad0 1 vb2) cA (GSh g 1) ++ Wl (csS 2) (adL ad0 1 vb3) cA (GSh g 2) ++ wHis cA ad0 g b4 ah vh ++ wLev cA vb1 b5 vl ++ [(b6, .inr (cix 21, [.ref s1, .int (i32 0), .int (i32 0), .int (i32 0), .ref s2, .int (i32 0)])), (s1, .inl (cA 1, 60, .inl fun _ => i32 0)), (s2, .inl (cA 0, 11, .inl fun _ => i32 0))])) H locs := hW
  refine lv_aload_n B.1 B.2.1 dKMap_74 rfl (lv_at hl 0 rfl) ?_
  refine lv_bipush (v := 61) B.1 B.2.1 dKMap_75 (by decide) ?_
  refine k_newa (k := 1) (N := 61) (ty := .char) (atype := .char) B (gw_at (k := 2) (i := 7) rfl rfl) rfl (fun _ _ => rfl) rfl rfl hK hW hA (by decide) rfl (Nat.le_of_ble_eq_true rfl) ⟨Nat.le_of_ble_eq_true rfl, Nat.le_of_ble_eq_true rfl⟩ dKMap_77 (fun a1 H hW => ?_)
  have hW : Wk D (Ab q) s ((q, .inr (cix 0, [.ref (vb1.getD 0 0), .ref (vb2.getD 0 0), .ref (vb3.getD 0 0), .ref b4, .ref b5, .ref b6, .null, .int (i32 0), .int (i32 0)])) :: ([] ++ Wl (csS 0) (adL ad0 1 vb1) cA (GSh g 0) ++ Wl (csS 1) (adL ad0 1 vb2) cA (GSh g 1) ++ Wl (csS 2) (adL ad0 1 vb3) cA (GSh g 2) ++ wHis cA ad0 g b4 ah vh ++ wLev cA vb1 b5 vl ++ [(b6, .inr (cix 21, [.ref s1, .int (i32 0), .int (i32 0), .int (i32 0), .ref s2, .int (i32 0)])), (s1, .inl (cA 1, 60, .inl fun _ => i32 0)), (s2, .inl (cA 0, 11, .inl fun _ => i32 0))] ++ [(a1, .inl (cA 1, 61, .inl fun _ => i32 0))])) H locs := hW
  refine k_putF (t := 0) (k := 6) (fs := [.ref (vb1.getD 0 0), .ref (vb2.getD 0 0), .ref (vb3.getD 0 0), .ref b4, .ref b5, .ref b6, .null, .int (i32 0), .int (i32 0)]) B (by decide) (by decide) (gw_at (k := 2) (i := 14) rfl rfl) rfl rfl rfl rfl (by decide : 6 < 9) hK hW dKMap_79 (fun H locs hW => ?_)
  have hW : Wk D (Ab q) s ((q, .inr (cix 0, [.ref (vb1.getD 0 0), .ref (vb2.getD 0 0), .ref (vb3.getD 0 0), .ref b4, .ref b5, .ref b6, .ref a1, .int (i32 0), .int (i32 0)])) :: ([] ++ Wl (csS 0) (adL ad0 1 vb1) cA (GSh g 0) ++ Wl (csS 1) (adL ad0 1 vb2) cA (GSh g 1) ++ Wl (csS 2) (adL ad0 1 vb3) cA (GSh g 2) ++ wHis cA ad0 g b4 ah vh ++ wLev cA vb1 b5 vl ++ [(b6, .inr (cix 21, [.ref s1, .int (i32 0), .int (i32 0), .int (i32 0), .ref s2, .int (i32 0)])), (s1, .inl (cA 1, 60, .inl fun _ => i32 0)), (s2, .inl (cA 0, 11, .inl fun _ => i32 0))] ++ [(a1, .inl (cA 1, 61, .inl fun _ => i32 0))])) H locs := hW
  refine lv_aload_n B.1 B.2.1 dKMap_82 rfl (lv_at hl 0 rfl) ?_
  refine lv_iconst (v := 0) B.1 B.2.1 dKMap_83 (by decide) ?_
  refine k_put (t := 0) (k := 7) (fs := [.ref (vb1.getD 0 0), .ref (vb2.getD 0 0), .ref (vb3.getD 0 0), .ref b4, .ref b5, .ref b6, .ref a1, .int (i32 0), .int (i32 0)]) (v := .int (i32 0)) B (by decide) (by decide) (gw_at (k := 2) (i := 15) rfl rfl) rfl rfl rfl (by decide : 7 < 9) hK hW dKMap_84 (fun H locs hW => ?_)
  have hW : Wk D (Ab q) s ((q, .inr (cix 0, [.ref (vb1.getD 0 0), .ref (vb2.getD 0 0), .ref (vb3.getD 0 0), .ref b4, .ref b5, .ref b6, .ref a1, .int (i32 0), .int (i32 0)])) :: ([] ++ Wl (csS 0) (adL ad0 1 vb1) cA (GSh g 0) ++ Wl (csS 1) (adL ad0 1 vb2) cA (GSh g 1) ++ Wl (csS 2) (adL ad0 1 vb3) cA (GSh g 2) ++ wHis cA ad0 g b4 ah vh ++ wLev cA vb1 b5 vl ++ [(b6, .inr (cix 21, [.ref s1, .int (i32 0), .int (i32 0), .int (i32 0), .ref s2, .int (i32 0)])), (s1, .inl (cA 1, 60, .inl fun _ => i32 0)), (s2, .inl (cA 0, 11, .inl fun _ => i32 0))] ++ [(a1, .inl (cA 1, 61, .inl fun _ => i32 0))])) H locs := hW
  refine lv_aload_n B.1 B.2.1 dKMap_87 rfl (lv_at hl 0 rfl) ?_
  refine lv_iconst (v := (-1)) B.1 B.2.1 dKMap_88 (by decide) ?_
  refine k_put (t := 0) (k := 8) (fs := [.ref (vb1.getD 0 0), .ref (vb2.getD 0 0), .ref (vb3.getD 0 0), .ref b4, .ref b5, .ref b6, .ref a1, .int (i32 0), .int (i32 0)]) (v := .int (i32 (-1))) B (by decide) (by decide) (gw_at (k := 2) (i := 16) rfl rfl) rfl rfl rfl (by decide : 8 < 9) hK hW dKMap_89 (fun H locs hW => ?_)
  have hW : Wk D (Ab q) s ((q, .inr (cix 0, [.ref (vb1.getD 0 0), .ref (vb2.getD 0 0), .ref (vb3.getD 0 0), .ref b4, .ref b5, .ref b6, .ref a1, .int (i32 0), .int (i32 (-1))])) :: ([] ++ Wl (csS 0) (adL ad0 1 vb1) cA (GSh g 0) ++ Wl (csS 1) (adL ad0 1 vb2) cA (GSh g 1) ++ Wl (csS 2) (adL ad0 1 vb3) cA (GSh g 2) ++ wHis cA ad0 g b4 ah vh ++ wLev cA vb1 b5 vl ++ [(b6, .inr (cix 21, [.ref s1, .int (i32 0), .int (i32 0), .int (i32 0), .ref s2, .int (i32 0)])), (s1, .inl (cA 1, 60, .inl fun _ => i32 0)), (s2, .inl (cA 0, 11, .inl fun _ => i32 0))] ++ [(a1, .inl (cA 1, 61, .inl fun _ => i32 0))])) H locs := hW
  exact k_ret B hW.2.2 ⟨vb1, vb2, vb3, vl, vh, b4, ah, b5, b6, s1, s2, a1, hW.1, hW.2.1⟩ dKMap_92 ⟨Nat.le_of_ble_eq_true rfl, Nat.le_of_ble_eq_true rfl⟩
