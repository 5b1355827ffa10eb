/-! ===== the reference is made ===== -/
def csM : CS := [(25, 0), (26, 0), (27, 0), (28, 0), (29, 0), (30, 0), (31, 0), (32, 0), (33, 0), (34, 0), (35, 0), (36, 0), (37, 0), (38, 0), (39, 0), (40, 0), (41, 0)]
theorem clo_M : Clo csM := clo_of (by decide +kernel)
def GMz (g : GG) : GG := up (gz g) 25 0 23 (-1)
theorem okG_mz {g : GG} (h : okG g) : okG (GMz g) := fun t i k => by
  have h9 := okG_gz h t i k
  unfold GMz up
  split
  · rename_i q
    exact ⟨fun z => by rw [q.1] at z; exact absurd z (by decide), fun _ _ _ => by unfold inR; omega⟩
  · exact h9
theorem roe_mz (g : GG) : RoE (gz g) (GMz g) := ⟨fun _ => up_t (by decide), fun _ => up_t (by decide), fun _ => up_t (by decide), up_t (by decide)⟩
noncomputable def GMo (g : GG) : GG := match f_Mod_begins (GMz g) with
  | some r => r.2
  | none => gz g
theorem mo_begins (g : GG) : ∃ G1, f_Mod_begins (GMz g) = rV (GMo g) ∧ GMo g = up (up G1 25 0 5 0) 25 0 11 0 ∧ RoR G1 26 iniS ∧ Fr (fun t i => t = 26 ∧ i = 0) (GMz g) G1 := by
  obtain ⟨G1, e1, h1, f1⟩ := r_begins (GMz g)
  have h : GMo g = up (up G1 25 0 5 0) 25 0 11 0 := by
    unfold GMo
    rw [e1]
  exact ⟨G1, by rw [h]; exact e1, h, h1, f1⟩
theorem ctr_begins {l : Launch} (hl : l.stackTraces = false) {g : GG} (hg : okG g) {D : va_G} {ad : Nat → Int → Nat} {cA : Nat → ClassId} {q : Nat} : Ctr l csM D ad cA q y_Mod_begins [.inr (.inl (25, 0))] (GMz g) (.inl none) (GMo g) := by
  obtain ⟨G1, e1, -⟩ := mo_begins g
  obtain ⟨n, hn⟩ := run_sx e1
  exact ctr_run hl clo_M (by decide) hn (fun v hv => by rw [List.mem_singleton.mp hv]; exact Or.inl (List.mem_cons_self)) (okG_mz hg) rfl rfl
theorem cst_begins (g : GG) : cst ((GMz g) 48 0 0) (GMo g) = 0 := by
  obtain ⟨G1, -, h2, -, f1⟩ := mo_begins g
  have h : GMo g 48 0 0 = GMz g 48 0 0 := by
    rw [h2, up_t (by decide), up_t (by decide)]
    exact f1 48 0 0 (fun z => absurd z.1 (by decide))
  unfold cst
  rw [h]
  omega
/-! MapGeneralizerModel: names and decoding -/
def yKMod : MethodName := ⟨"MapGeneralizerModel", "<init>", "()V"⟩
theorem cwKMod : Jvm.Cond.code yKMod prog_12_method_1_code 1 none ∈ gw := gw_at (k := 5) (i := 218) rfl rfl
theorem inKMod : Jvm.Cond.initialized yKMod.cls ∈ gw := gw_at (k := 1) (i := 11) rfl rfl
theorem imKMod : Jvm.Cond.instanceMethod yKMod ∈ gw := gw_at (k := 5) (i := 217) rfl rfl
theorem isKMod : Jvm.Cond.instantiable (Rt 25) (Nf 25) ∈ gw := gw_at (k := 5) (i := 215) rfl rfl
theorem hyKMod : yKMod.cls ≠ "java/lang/invoke/MethodHandle" ∧ yKMod.cls ≠ "java/lang/invoke/VarHandle" ∧ (parseMethodDescriptor yKMod.desc).map (fun d => d.parameters.length) = some 0 := by decide +kernel
def fsKMod : List Value := [.null, .null, .null, .null, .int (i32 0), .int (i32 0), .int (i32 0), .null, .null, .null, .null, .int (i32 0), .null, .null, .null, .null, .null, .null, .null, .int (i32 0), .int (i32 0), .int (i32 0), .int (i32 0), .int (i32 0), .null, .int (i32 0)]
theorem bfKMod : ∀ j, j < Nf 25 → defaultValue (tyt 25 j) = vp_V fsKMod j := by
  intro j hj
  have hj : j < 26 := hj
  match j, hj with
  | 0, _ => rfl
  | 1, _ => rfl
  | 2, _ => rfl
  | 3, _ => rfl
  | 4, _ => rfl
  | 5, _ => rfl
  | 6, _ => rfl
  | 7, _ => rfl
  | 8, _ => rfl
  | 9, _ => rfl
  | 10, _ => rfl
  | 11, _ => rfl
  | 12, _ => rfl
  | 13, _ => rfl
  | 14, _ => rfl
  | 15, _ => rfl
  | 16, _ => rfl
  | 17, _ => rfl
  | 18, _ => rfl
  | 19, _ => rfl
  | 20, _ => rfl
  | 21, _ => rfl
  | 22, _ => rfl
  | 23, _ => rfl
  | 24, _ => rfl
  | 25, _ => rfl
  | k + 26, hj => exact absurd hj (by omega)
theorem dKMod_0 : decode prog_12_method_1_code 0 = .ok (.aload_n 0, 1) := by decide +kernel
theorem dKMod_1 : decode prog_12_method_1_code 1 = .ok (.invokespecial 3, 3) := by decide +kernel
theorem dKMod_4 : decode prog_12_method_1_code 4 = .ok (.aload_n 0, 1) := by decide +kernel
theorem dKMod_5 : decode prog_12_method_1_code 5 = .ok (.sipush 296, 3) := by decide +kernel
theorem dKMod_8 : decode prog_12_method_1_code 8 = .ok (.newarray .int, 2) := by decide +kernel
theorem dKMod_10 : decode prog_12_method_1_code 10 = .ok (.putfield 9, 3) := by decide +kernel
theorem dKMod_13 : decode prog_12_method_1_code 13 = .ok (.aload_n 0, 1) := by decide +kernel
theorem dKMod_14 : decode prog_12_method_1_code 14 = .ok (.sipush 296, 3) := by decide +kernel
theorem dKMod_17 : decode prog_12_method_1_code 17 = .ok (.newarray .int, 2) := by decide +kernel
theorem dKMod_19 : decode prog_12_method_1_code 19 = .ok (.putfield 13, 3) := by decide +kernel
theorem dKMod_22 : decode prog_12_method_1_code 22 = .ok (.aload_n 0, 1) := by decide +kernel
theorem dKMod_23 : decode prog_12_method_1_code 23 = .ok (.sipush 296, 3) := by decide +kernel
theorem dKMod_26 : decode prog_12_method_1_code 26 = .ok (.newarray .int, 2) := by decide +kernel
theorem dKMod_28 : decode prog_12_method_1_code 28 = .ok (.putfield 16, 3) := by decide +kernel
theorem dKMod_31 : decode prog_12_method_1_code 31 = .ok (.aload_n 0, 1) := by decide +kernel
theorem dKMod_32 : decode prog_12_method_1_code 32 = .ok (.sipush 2368, 3) := by decide +kernel
theorem dKMod_35 : decode prog_12_method_1_code 35 = .ok (.newarray .int, 2) := by decide +kernel
theorem dKMod_37 : decode prog_12_method_1_code 37 = .ok (.putfield 19, 3) := by decide +kernel
theorem dKMod_40 : decode prog_12_method_1_code 40 = .ok (.aload_n 0, 1) := by decide +kernel
theorem dKMod_41 : decode prog_12_method_1_code 41 = .ok (.bipush 6, 2) := by decide +kernel
theorem dKMod_43 : decode prog_12_method_1_code 43 = .ok (.newarray .int, 2) := by decide +kernel
theorem dKMod_45 : decode prog_12_method_1_code 45 = .ok (.putfield 22, 3) := by decide +kernel
theorem dKMod_48 : decode prog_12_method_1_code 48 = .ok (.aload_n 0, 1) := by decide +kernel
theorem dKMod_49 : decode prog_12_method_1_code 49 = .ok (.bipush 60, 2) := by decide +kernel
theorem dKMod_51 : decode prog_12_method_1_code 51 = .ok (.newarray .int, 2) := by decide +kernel
theorem dKMod_53 : decode prog_12_method_1_code 53 = .ok (.putfield 25, 3) := by decide +kernel
theorem dKMod_56 : decode prog_12_method_1_code 56 = .ok (.aload_n 0, 1) := by decide +kernel
theorem dKMod_57 : decode prog_12_method_1_code 57 = .ok (.bipush 60, 2) := by decide +kernel
theorem dKMod_59 : decode prog_12_method_1_code 59 = .ok (.newarray .int, 2) := by decide +kernel
theorem dKMod_61 : decode prog_12_method_1_code 61 = .ok (.putfield 28, 3) := by decide +kernel
theorem dKMod_64 : decode prog_12_method_1_code 64 = .ok (.aload_n 0, 1) := by decide +kernel
theorem dKMod_65 : decode prog_12_method_1_code 65 = .ok (.bipush 60, 2) := by decide +kernel
theorem dKMod_67 : decode prog_12_method_1_code 67 = .ok (.newarray .int, 2) := by decide +kernel
theorem dKMod_69 : decode prog_12_method_1_code 69 = .ok (.putfield 31, 3) := by decide +kernel
theorem dKMod_72 : decode prog_12_method_1_code 72 = .ok (.aload_n 0, 1) := by decide +kernel
theorem dKMod_73 : decode prog_12_method_1_code 73 = .ok (.bipush 30, 2) := by decide +kernel
theorem dKMod_75 : decode prog_12_method_1_code 75 = .ok (.newarray .int, 2) := by decide +kernel
theorem dKMod_77 : decode prog_12_method_1_code 77 = .ok (.putfield 34, 3) := by decide +kernel
theorem dKMod_80 : decode prog_12_method_1_code 80 = .ok (.aload_n 0, 1) := by decide +kernel
theorem dKMod_81 : decode prog_12_method_1_code 81 = .ok (.sipush 300, 3) := by decide +kernel
theorem dKMod_84 : decode prog_12_method_1_code 84 = .ok (.newarray .int, 2) := by decide +kernel
theorem dKMod_86 : decode prog_12_method_1_code 86 = .ok (.putfield 37, 3) := by decide +kernel
theorem dKMod_89 : decode prog_12_method_1_code 89 = .ok (.aload_n 0, 1) := by decide +kernel
theorem dKMod_90 : decode prog_12_method_1_code 90 = .ok (.sipush 320, 3) := by decide +kernel
theorem dKMod_93 : decode prog_12_method_1_code 93 = .ok (.newarray .int, 2) := by decide +kernel
theorem dKMod_95 : decode prog_12_method_1_code 95 = .ok (.putfield 40, 3) := by decide +kernel
theorem dKMod_98 : decode prog_12_method_1_code 98 = .ok (.aload_n 0, 1) := by decide +kernel
theorem dKMod_99 : decode prog_12_method_1_code 99 = .ok (.bipush 80, 2) := by decide +kernel
theorem dKMod_101 : decode prog_12_method_1_code 101 = .ok (.newarray .int, 2) := by decide +kernel
theorem dKMod_103 : decode prog_12_method_1_code 103 = .ok (.putfield 43, 3) := by decide +kernel
theorem dKMod_106 : decode prog_12_method_1_code 106 = .ok (.aload_n 0, 1) := by decide +kernel
theorem dKMod_107 : decode prog_12_method_1_code 107 = .ok (.bipush 60, 2) := by decide +kernel
theorem dKMod_109 : decode prog_12_method_1_code 109 = .ok (.newarray .int, 2) := by decide +kernel
theorem dKMod_111 : decode prog_12_method_1_code 111 = .ok (.putfield 46, 3) := by decide +kernel
theorem dKMod_114 : decode prog_12_method_1_code 114 = .ok (.aload_n 0, 1) := by decide +kernel
theorem dKMod_115 : decode prog_12_method_1_code 115 = .ok (.bipush 60, 2) := by decide +kernel
theorem dKMod_117 : decode prog_12_method_1_code 117 = .ok (.newarray .int, 2) := by decide +kernel
theorem dKMod_119 : decode prog_12_method_1_code 119 = .ok (.putfield 49, 3) := by decide +kernel
theorem dKMod_122 : decode prog_12_method_1_code 122 = .ok (.aload_n 0, 1) := by decide +kernel
theorem dKMod_123 : decode prog_12_method_1_code 123 = .ok (.sipush 240, 3) := by decide +kernel
theorem dKMod_126 : decode prog_12_method_1_code 126 = .ok (.newarray .int, 2) := by decide +kernel
theorem dKMod_128 : decode prog_12_method_1_code 128 = .ok (.putfield 52, 3) := by decide +kernel
theorem dKMod_131 : decode prog_12_method_1_code 131 = .ok (.aload_n 0, 1) := by decide +kernel
theorem dKMod_132 : decode prog_12_method_1_code 132 = .ok (.iconst (-1), 1) := by decide +kernel
theorem dKMod_133 : decode prog_12_method_1_code 133 = .ok (.putfield 55, 3) := by decide +kernel
theorem dKMod_136 : decode prog_12_method_1_code 136 = .ok (.aload_n 0, 1) := by decide +kernel
theorem dKMod_137 : decode prog_12_method_1_code 137 = .ok (.bipush 80, 2) := by decide +kernel
theorem dKMod_139 : decode prog_12_method_1_code 139 = .ok (.newarray .int, 2) := by decide +kernel
theorem dKMod_141 : decode prog_12_method_1_code 141 = .ok (.putfield 59, 3) := by decide +kernel
theorem dKMod_144 : decode prog_12_method_1_code 144 = .ok (.aload_n 0, 1) := by decide +kernel
theorem dKMod_145 : decode prog_12_method_1_code 145 = .ok (.invokevirtual 62, 3) := by decide +kernel
theorem dKMod_148 : decode prog_12_method_1_code 148 = .ok (.return_, 1) := by decide +kernel
def rmKMod : Room := { frames := 14, cells := 16, slots := 4612, locals := 900 }
def PoKMod (D : va_G) (cA : Nat → ClassId) (ad0 : Nat → Int → Nat) (g : GG) (q : Nat) (H : Heap) : Prop := ∃ v : List Nat, v.getD 0 0 = q ∧ va_P D cls_ (Wl csM (adL ad0 25 v) cA (GMo g)) H ∧ va_D (Ab q) (Wl csM (adL ad0 25 v) cA (GMo g))
set_option maxHeartbeats 8000000 in
set_option maxRecDepth 20000 in
theorem ciKMod {l : Launch} (hl9 : l.stackTraces = false) {g : GG} (hg9 : okG g) (D : va_G) (cA : Nat → ClassId) (ad0 : Nat → Int → Nat) (base : Nat) (q : Nat) : CI l yKMod prog_12_method_1_code 1 rmKMod D cA ad0 base (gz g) [] q 25 fsKMod [] (PoKMod D cA ad0 g q) := by
  refine CI.of (by decide +kernel) cwKMod rfl (Nat.le_of_ble_eq_true rfl) ?_
  intro p e s m args below meth c ls B hP hl
  obtain ⟨hq, hP1, -, -, hE, hbq⟩ := hP
  have hK : va_K D cls_ (tys_ cA) s := hE.1.1
  have hl : lv_has ls 1 [(0, .ref q)] := hl
  have hA : ∀ z, s.heap.size ≤ z → Ab q z := fun z hz => by show q ≤ z; omega
  have hAb : ∀ z, Ab q z → base ≤ z := fun z hz => Nat.le_trans hbq hz
  have hW : Wk D (Ab q) s ((q, .inr (cix 25, [.null, .null, .null, .null, .int (i32 0), .int (i32 0), .int (i32 0), .null, .null, .null, .null, .int (i32 0), .null, .null, .null, .null, .null, .null, .null, .int (i32 0), .int (i32 0), .int (i32 0), .int (i32 0), .int (i32 0), .null, .int (i32 0)])) :: ([])) s.heap [] := ⟨hP1, va_D.one (Nat.le_refl q), va_S.rf⟩
  refine lv_aload_n B.1 B.2.1 dKMod_0 rfl (lv_at hl 0 rfl) ?_
  refine k_obj B (gw_at (k := 5) (i := 219) rfl rfl) dKMod_1 hl.1 (by decide) ?_
  refine lv_aload_n B.1 B.2.1 dKMod_4 rfl (lv_at hl 0 rfl) ?_
  refine lv_sipush (v := 296) B.1 B.2.1 dKMod_5 (by decide) ?_
  refine k_newa (k := 0) (N := 296) (ty := .int) (atype := .int) B (gw_at (k := 1) (i := 62) rfl rfl) rfl (fun _ _ => rfl) rfl rfl hK hW hA (by decide) rfl (Nat.le_of_ble_eq_true rfl) ⟨Nat.le_of_ble_eq_true rfl, Nat.le_of_ble_eq_true rfl⟩ dKMod_8 (fun a1 H hW => ?_)
  have hW : Wk D (Ab q) s ((q, .inr (cix 25, [.null, .null, .null, .null, .int (i32 0), .int (i32 0), .int (i32 0), .null, .null, .null, .null, .int (i32 0), .null, .null, .null, .null, .null, .null, .null, .int (i32 0), .int (i32 0), .int (i32 0), .int (i32 0), .int (i32 0), .null, .int (i32 0)])) :: ([(a1, .inl (cA 0, 296, .inl fun _ => i32 0))])) H [] := hW
  refine k_putF (t := 25) (k := 0) (fs := [.null, .null, .null, .null, .int (i32 0), .int (i32 0), .int (i32 0), .null, .null, .null, .null, .int (i32 0), .null, .null, .null, .null, .null, .null, .null, .int (i32 0), .int (i32 0), .int (i32 0), .int (i32 0), .int (i32 0), .null, .int (i32 0)]) B (by decide) (by decide) (gw_at (k := 5) (i := 224) rfl rfl) rfl rfl rfl rfl (by decide : 0 < 26) hK hW dKMod_10 (fun H locs hW => ?_)
  have hW : Wk D (Ab q) s ((q, .inr (cix 25, [.ref a1, .null, .null, .null, .int (i32 0), .int (i32 0), .int (i32 0), .null, .null, .null, .null, .int (i32 0), .null, .null, .null, .null, .null, .null, .null, .int (i32 0), .int (i32 0), .int (i32 0), .int (i32 0), .int (i32 0), .null, .int (i32 0)])) :: ([(a1, .inl (cA 0, 296, .inl fun _ => i32 0))])) H locs := hW
  refine lv_aload_n B.1 B.2.1 dKMod_13 rfl (lv_at hl 0 rfl) ?_
  refine lv_sipush (v := 296) B.1 B.2.1 dKMod_14 (by decide) ?_
  refine k_newa (k := 0) (N := 296) (ty := .int) (atype := .int) B (gw_at (k := 1) (i := 62) rfl rfl) rfl (fun _ _ => rfl) rfl rfl hK hW hA (by decide) rfl (Nat.le_of_ble_eq_true rfl) ⟨Nat.le_of_ble_eq_true rfl, Nat.le_of_ble_eq_true rfl⟩ dKMod_17 (fun a2 H hW => ?_)
  have hW : Wk D (Ab q) s ((q, .inr (cix 25, [.ref a1, .null, .null, .null, .int (i32 0), .int (i32 0), .int (i32 0), .null, .null, .null, .null, .int (i32 0), .null, .null, .null, .null, .null, .null, .null, .int (i32 0), .int (i32 0), .int (i32 0), .int (i32 0), .int (i32 0), .null, .int (i32 0)])) :: ([(a1, .inl (cA 0, 296, .inl fun _ => i32 0)), (a2, .inl (cA 0, 296, .inl fun _ => i32 0))])) H locs := hW
  refine k_putF (t := 25) (k := 1) (fs := [.ref a1, .null, .null, .null, .int (i32 0), .int (i32 0), .int (i32 0), .null, .null, .null, .null, .int (i32 0), .null, .null, .null, .null, .null, .null, .null, .int (i32 0), .int (i32 0), .int (i32 0), .int (i32 0), .int (i32 0), .null, .int (i32 0)]) B (by decide) (by decide) (gw_at (k := 5) (i := 225) rfl rfl) rfl rfl rfl rfl (by decide : 1 < 26) hK hW dKMod_19 (fun H locs hW => ?_)
  have hW : Wk D (Ab q) s ((q, .inr (cix 25, [.ref a1, .ref a2, .null, .null, .int (i32 0), .int (i32 0), .int (i32 0), .null, .null, .null, .null, .int (i32 0), .null, .null, .null, .null, .null, .null, .null, .int (i32 0), .int (i32 0), .int (i32 0), .int (i32 0), .int (i32 0), .null, .int (i32 0)])) :: ([(a1, .inl (cA 0, 296, .inl fun _ => i32 0)), (a2, .inl (cA 0, 296, .inl fun _ => i32 0))])) H locs := hW
  refine lv_aload_n B.1 B.2.1 dKMod_22 rfl (lv_at hl 0 rfl) ?_
  refine lv_sipush (v := 296) B.1 B.2.1 dKMod_23 (by decide) ?_
  refine k_newa (k := 0) (N := 296) (ty := .int) (atype := .int) B (gw_at (k := 1) (i := 62) rfl rfl) rfl (fun _ _ => rfl) rfl rfl hK hW hA (by decide) rfl (Nat.le_of_ble_eq_true rfl) ⟨Nat.le_of_ble_eq_true rfl, Nat.le_of_ble_eq_true rfl⟩ dKMod_26 (fun a3 H hW => ?_)
  have hW : Wk D (Ab q) s ((q, .inr (cix 25, [.ref a1, .ref a2, .null, .null, .int (i32 0), .int (i32 0), .int (i32 0), .null, .null, .null, .null, .int (i32 0), .null, .null, .null, .null, .null, .null, .null, .int (i32 0), .int (i32 0), .int (i32 0), .int (i32 0), .int (i32 0), .null, .int (i32 0)])) :: ([(a1, .inl (cA 0, 296, .inl fun _ => i32 0)), (a2, .inl (cA 0, 296, .inl fun _ => i32 0)), (a3, .inl (cA 0, 296, .inl fun _ => i32 0))])) H locs := hW
  refine k_putF (t := 25) (k := 2) (fs := [.ref a1, .ref a2, .null, .null, .int (i32 0), .int (i32 0), .int (i32 0), .null, .null, .null, .null, .int (i32 0), .null, .null, .null, .null, .null, .null, .null, .int (i32 0), .int (i32 0), .int (i32 0), .int (i32 0), .int (i32 0), .null, .int (i32 0)]) B (by decide) (by decide) (gw_at (k := 5) (i := 226) rfl rfl) rfl rfl rfl rfl (by decide : 2 < 26) hK hW dKMod_28 (fun H locs hW => ?_)
  have hW : Wk D (Ab q) s ((q, .inr (cix 25, [.ref a1, .ref a2, .ref a3, .null, .int (i32 0), .int (i32 0), .int (i32 0), .null, .null, .null, .null, .int (i32 0), .null, .null, .null, .null, .null, .null, .null, .int (i32 0), .int (i32 0), .int (i32 0), .int (i32 0), .int (i32 0), .null, .int (i32 0)])) :: ([(a1, .inl (cA 0, 296, .inl fun _ => i32 0)), (a2, .inl (cA 0, 296, .inl fun _ => i32 0)), (a3, .inl (cA 0, 296, .inl fun _ => i32 0))])) H locs := hW
  refine lv_aload_n B.1 B.2.1 dKMod_31 rfl (lv_at hl 0 rfl) ?_
  refine lv_sipush (v := 2368) B.1 B.2.1 dKMod_32 (by decide) ?_
  refine k_newa (k := 0) (N := 2368) (ty := .int) (atype := .int) B (gw_at (k := 1) (i := 62) rfl rfl) rfl (fun _ _ => rfl) rfl rfl hK hW hA (by decide) rfl (Nat.le_of_ble_eq_true rfl) ⟨Nat.le_of_ble_eq_true rfl, Nat.le_of_ble_eq_true rfl⟩ dKMod_35 (fun a4 H hW => ?_)
  have hW : Wk D (Ab q) s ((q, .inr (cix 25, [.ref a1, .ref a2, .ref a3, .null, .int (i32 0), .int (i32 0), .int (i32 0), .null, .null, .null, .null, .int (i32 0), .null, .null, .null, .null, .null, .null, .null, .int (i32 0), .int (i32 0), .int (i32 0), .int (i32 0), .int (i32 0), .null, .int (i32 0)])) :: ([(a1, .inl (cA 0, 296, .inl fun _ => i32 0)), (a2, .inl (cA 0, 296, .inl fun _ => i32 0)), (a3, .inl (cA 0, 296, .inl fun _ => i32 0)), (a4, .inl (cA 0, 2368, .inl fun _ => i32 0))])) H locs := hW
  refine k_putF (t := 25) (k := 3) (fs := [.ref a1, .ref a2, .ref a3, .null, .int (i32 0), .int (i32 0), .int (i32 0), .null, .null, .null, .null, .int (i32 0), .null, .null, .null, .null, .null, .null, .null, .int (i32 0), .int (i32 0), .int (i32 0), .int (i32 0), .int (i32 0), .null, .int (i32 0)]) B (by decide) (by decide) (gw_at (k := 5) (i := 227) rfl rfl) rfl rfl rfl rfl (by decide : 3 < 26) hK hW dKMod_37 (fun H locs hW => ?_)
  have hW : Wk D (Ab q) s ((q, .inr (cix 25, [.ref a1, .ref a2, .ref a3, .ref a4, .int (i32 0), .int (i32 0), .int (i32 0), .null, .null, .null, .null, .int (i32 0), .null, .null, .null, .null, .null, .null, .null, .int (i32 0), .int (i32 0), .int (i32 0), .int (i32 0), .int (i32 0), .null, .int (i32 0)])) :: ([(a1, .inl (cA 0, 296, .inl fun _ => i32 0)), (a2, .inl (cA 0, 296, .inl fun _ => i32 0)), (a3, .inl (cA 0, 296, .inl fun _ => i32 0)), (a4, .inl (cA 0, 2368, .inl fun _ => i32 0))])) H locs := hW
  refine lv_aload_n B.1 B.2.1 dKMod_40 rfl (lv_at hl 0 rfl) ?_
  refine lv_bipush (v := 6) B.1 B.2.1 dKMod_41 (by decide) ?_
  refine k_newa (k := 0) (N := 6) (ty := .int) (atype := .int) B (gw_at (k := 1) (i := 62) rfl rfl) rfl (fun _ _ => rfl) rfl rfl hK hW hA (by decide) rfl (Nat.le_of_ble_eq_true rfl) ⟨Nat.le_of_ble_eq_true rfl, Nat.le_of_ble_eq_true rfl⟩ dKMod_43 (fun a5 H hW => ?_)
  have hW : Wk D (Ab q) s ((q, .inr (cix 25, [.ref a1, .ref a2, .ref a3, .ref a4, .int (i32 0), .int (i32 0), .int (i32 0), .null, .null, .null, .null, .int (i32 0), .null, .null, .null, .null, .null, .null, .null, .int (i32 0), .int (i32 0), .int (i32 0), .int (i32 0), .int (i32 0), .null, .int (i32 0)])) :: ([(a1, .inl (cA 0, 296, .inl fun _ => i32 0)), (a2, .inl (cA 0, 296, .inl fun _ => i32 0)), (a3, .inl (cA 0, 296, .inl fun _ => i32 0)), (a4, .inl (cA 0, 2368, .inl fun _ => i32 0)), (a5, .inl (cA 0, 6, .inl fun _ => i32 0))])) H locs := hW
  refine k_putF (t := 25) (k := 7) (fs := [.ref a1, .ref a2, .ref a3, .ref a4, .int (i32 0), .int (i32 0), .int (i32 0), .null, .null, .null, .null, .int (i32 0), .null, .null, .null, .null, .null, .null, .null, .int (i32 0), .int (i32 0), .int (i32 0), .int (i32 0), .int (i32 0), .null, .int (i32 0)]) B (by decide) (by decide) (gw_at (k := 5) (i := 231) rfl rfl) rfl rfl rfl rfl (by decide : 7 < 26) hK hW dKMod_45 (fun H locs hW => ?_)
  have hW : Wk D (Ab q) s ((q, .inr (cix 25, [.ref a1, .ref a2, .ref a3, .ref a4, .int (i32 0), .int (i32 0), .int (i32 0), .ref a5, .null, .null, .null, .int (i32 0), .null, .null, .null, .null, .null, .null, .null, .int (i32 0), .int (i32 0), .int (i32 0), .int (i32 0), .int (i32 0), .null, .int (i32 0)])) :: ([(a1, .inl (cA 0, 296, .inl fun _ => i32 0)), (a2, .inl (cA 0, 296, .inl fun _ => i32 0)), (a3, .inl (cA 0, 296, .inl fun _ => i32 0)), (a4, .inl (cA 0, 2368, .inl fun _ => i32 0)), (a5, .inl (cA 0, 6, .inl fun _ => i32 0))])) H locs := hW
  refine lv_aload_n B.1 B.2.1 dKMod_48 rfl (lv_at hl 0 rfl) ?_
  refine lv_bipush (v := 60) B.1 B.2.1 dKMod_49 (by decide) ?_
  refine k_newa (k := 0) (N := 60) (ty := .int) (atype := .int) B (gw_at (k := 1) (i := 62) rfl rfl) rfl (fun _ _ => rfl) rfl rfl hK hW hA (by decide) rfl (Nat.le_of_ble_eq_true rfl) ⟨Nat.le_of_ble_eq_true rfl, Nat.le_of_ble_eq_true rfl⟩ dKMod_51 (fun a6 H hW => ?_)
  have hW : Wk D (Ab q) s ((q, .inr (cix 25, [.ref a1, .ref a2, .ref a3, .ref a4, .int (i32 0), .int (i32 0), .int (i32 0), .ref a5, .null, .null, .null, .int (i32 0), .null, .null, .null, .null, .null, .null, .null, .int (i32 0), .int (i32 0), .int (i32 0), .int (i32 0), .int (i32 0), .null, .int (i32 0)])) :: ([(a1, .inl (cA 0, 296, .inl fun _ => i32 0)), (a2, .inl (cA 0, 296, .inl fun _ => i32 0)), (a3, .inl (cA 0, 296, .inl fun _ => i32 0)), (a4, .inl (cA 0, 2368, .inl fun _ => i32 0)), (a5, .inl (cA 0, 6, .inl fun _ => i32 0)), (a6, .inl (cA 0, 60, .inl fun _ => i32 0))])) H locs := hW
  refine k_putF (t := 25) (k := 8) (fs := [.ref a1, .ref a2, .ref a3, .ref a4, .int (i32 0), .int (i32 0), .int (i32 0), .ref a5, .null, .null, .null, .int (i32 0), .null, .null, .null, .null, .null, .null, .null, .int (i32 0), .int (i32 0), .int (i32 0), .int (i32 0), .int (i32 0), .null, .int (i32 0)]) B (by decide) (by decide) (gw_at (k := 5) (i := 232) rfl rfl) rfl rfl rfl rfl (by decide : 8 < 26) hK hW dKMod_53 (fun H locs hW => ?_)
  have hW : Wk D (Ab q) s ((q, .inr (cix 25, [.ref a1, .ref a2, .ref a3, .ref a4, .int (i32 0), .int (i32 0), .int (i32 0), .ref a5, .ref a6, .null, .null, .int (i32 0), .null, .null, .null, .null, .null, .null, .null, .int (i32 0), .int (i32 0), .int (i32 0), .int (i32 0), .int (i32 0), .null, .int (i32 0)])) :: ([(a1, .inl (cA 0, 296, .inl fun _ => i32 0)), (a2, .inl (cA 0, 296, .inl fun _ => i32 0)), (a3, .inl (cA 0, 296, .inl fun _ => i32 0)), (a4, .inl (cA 0, 2368, .inl fun _ => i32 0)), (a5, .inl (cA 0, 6, .inl fun _ => i32 0)), (a6, .inl (cA 0, 60, .inl fun _ => i32 0))])) H locs := hW
  refine lv_aload_n B.1 B.2.1 dKMod_56 rfl (lv_at hl 0 rfl) ?_
  refine lv_bipush (v := 60) B.1 B.2.1 dKMod_57 (by decide) ?_
  refine k_newa (k := 0) (N := 60) (ty := .int) (atype := .int) B (gw_at (k := 1) (i := 62) rfl rfl) rfl (fun _ _ => rfl) rfl rfl hK hW hA (by decide) rfl (Nat.le_of_ble_eq_true rfl) ⟨Nat.le_of_ble_eq_true rfl, Nat.le_of_ble_eq_true rfl⟩ dKMod_59 (fun a7 H hW => ?_)
  have hW : Wk D (Ab q) s ((q, .inr (cix 25, [.ref a1, .ref a2, .ref a3, .ref a4, .int (i32 0), .int (i32 0), .int (i32 0), .ref a5, .ref a6, .null, .null, .int (i32 0), .null, .null, .null, .null, .null, .null, .null, .int (i32 0), .int (i32 0), .int (i32 0), .int (i32 0), .int (i32 0), .null, .int (i32 0)])) :: ([(a1, .inl (cA 0, 296, .inl fun _ => i32 0)), (a2, .inl (cA 0, 296, .inl fun _ => i32 0)), (a3, .inl (cA 0, 296, .inl fun _ => i32 0)), (a4, .inl (cA 0, 2368, .inl fun _ => i32 0)), (a5, .inl (cA 0, 6, .inl fun _ => i32 0)), (a6, .inl (cA 0, 60, .inl fun _ => i32 0)), (a7, .inl (cA 0, 60, .inl fun _ => i32 0))])) H locs := hW
  refine k_putF (t := 25) (k := 9) (fs := [.ref a1, .ref a2, .ref a3, .ref a4, .int (i32 0), .int (i32 0), .int (i32 0), .ref a5, .ref a6, .null, .null, .int (i32 0), .null, .null, .null, .null, .null, .null, .null, .int (i32 0), .int (i32 0), .int (i32 0), .int (i32 0), .int (i32 0), .null, .int (i32 0)]) B (by decide) (by decide) (gw_at (k := 5) (i := 233) rfl rfl) rfl rfl rfl rfl (by decide : 9 < 26) hK hW dKMod_61 (fun H locs hW => ?_)
  have hW : Wk D (Ab q) s ((q, .inr (cix 25, [.ref a1, .ref a2, .ref a3, .ref a4, .int (i32 0), .int (i32 0), .int (i32 0), .ref a5, .ref a6, .ref a7, .null, .int (i32 0), .null, .null, .null, .null, .null, .null, .null, .int (i32 0), .int (i32 0), .int (i32 0), .int (i32 0), .int (i32 0), .null, .int (i32 0)])) :: ([(a1, .inl (cA 0, 296, .inl fun _ => i32 0)), (a2, .inl (cA 0, 296, .inl fun _ => i32 0)), (a3, .inl (cA 0, 296, .inl fun _ => i32 0)), (a4, .inl (cA 0, 2368, .inl fun _ => i32 0)), (a5, .inl (cA 0, 6, .inl fun _ => i32 0)), (a6, .inl (cA 0, 60, .inl fun _ => i32 0)), (a7, .inl (cA 0, 60, .inl fun _ => i32 0))])) H locs := hW
  refine lv_aload_n B.1 B.2.1 dKMod_64 rfl (lv_at hl 0 rfl) ?_
  refine lv_bipush (v := 60) B.1 B.2.1 dKMod_65 (by decide) ?_
  refine k_newa (k := 0) (N := 60) (ty := .int) (atype := .int) B (gw_at (k := 1) (i := 62) rfl rfl) rfl (fun _ _ => rfl) rfl rfl hK hW hA (by decide) rfl (Nat.le_of_ble_eq_true rfl) ⟨Nat.le_of_ble_eq_true rfl, Nat.le_of_ble_eq_true rfl⟩ dKMod_67 (fun a8 H hW => ?_)
  have hW : Wk D (Ab q) s ((q, .inr (cix 25, [.ref a1, .ref a2, .ref a3, .ref a4, .int (i32 0), .int (i32 0), .int (i32 0), .ref a5, .ref a6, .ref a7, .null, .int (i32 0), .null, .null, .null, .null, .null, .null, .null, .int (i32 0), .int (i32 0), .int (i32 0), .int (i32 0), .int (i32 0), .null, .int (i32 0)])) :: ([(a1, .inl (cA 0, 296, .inl fun _ => i32 0)), (a2, .inl (cA 0, 296, .inl fun _ => i32 0)), (a3, .inl (cA 0, 296, .inl fun _ => i32 0)), (a4, .inl (cA 0, 2368, .inl fun _ => i32 0)), (a5, .inl (cA 0, 6, .inl fun _ => i32 0)), (a6, .inl (cA 0, 60, .inl fun _ => i32 0)), (a7, .inl (cA 0, 60, .inl fun _ => i32 0)), (a8, .inl (cA 0, 60, .inl fun _ => i32 0))])) H locs := hW
  refine k_putF (t := 25) (k := 10) (fs := [.ref a1, .ref a2, .ref a3, .ref a4, .int (i32 0), .int (i32 0), .int (i32 0), .ref a5, .ref a6, .ref a7, .null, .int (i32 0), .null, .null, .null, .null, .null, .null, .null, .int (i32 0), .int (i32 0), .int (i32 0), .int (i32 0), .int (i32 0), .null, .int (i32 0)]) B (by decide) (by decide) (gw_at (k := 5) (i := 234) rfl rfl) rfl rfl rfl rfl (by decide : 10 < 26) hK hW dKMod_69 (fun H locs hW => ?_)
  have hW : Wk D (Ab q) s ((q, .inr (cix 25, [.ref a1, .ref a2, .ref a3, .ref a4, .int (i32 0), .int (i32 0), .int (i32 0), .ref a5, .ref a6, .ref a7, .ref a8, .int (i32 0), .null, .null, .null, .null, .null, .null, .null, .int (i32 0), .int (i32 0), .int (i32 0), .int (i32 0), .int (i32 0), .null, .int (i32 0)])) :: ([(a1, .inl (cA 0, 296, .inl fun _ => i32 0)), (a2, .inl (cA 0, 296, .inl fun _ => i32 0)), (a3, .inl (cA 0, 296, .inl fun _ => i32 0)), (a4, .inl (cA 0, 2368, .inl fun _ => i32 0)), (a5, .inl (cA 0, 6, .inl fun _ => i32 0)), (a6, .inl (cA 0, 60, .inl fun _ => i32 0)), (a7, .inl (cA 0, 60, .inl fun _ => i32 0)), (a8, .inl (cA 0, 60, .inl fun _ => i32 0))])) H locs := hW
  refine lv_aload_n B.1 B.2.1 dKMod_72 rfl (lv_at hl 0 rfl) ?_
  refine lv_bipush (v := 30) B.1 B.2.1 dKMod_73 (by decide) ?_
  refine k_newa (k := 0) (N := 30) (ty := .int) (atype := .int) B (gw_at (k := 1) (i := 62) rfl rfl) rfl (fun _ _ => rfl) rfl rfl hK hW hA (by decide) rfl (Nat.le_of_ble_eq_true rfl) ⟨Nat.le_of_ble_eq_true rfl, Nat.le_of_ble_eq_true rfl⟩ dKMod_75 (fun a9 H hW => ?_)
  have hW : Wk D (Ab q) s ((q, .inr (cix 25, [.ref a1, .ref a2, .ref a3, .ref a4, .int (i32 0), .int (i32 0), .int (i32 0), .ref a5, .ref a6, .ref a7, .ref a8, .int (i32 0), .null, .null, .null, .null, .null, .null, .null, .int (i32 0), .int (i32 0), .int (i32 0), .int (i32 0), .int (i32 0), .null, .int (i32 0)])) :: ([(a1, .inl (cA 0, 296, .inl fun _ => i32 0)), (a2, .inl (cA 0, 296, .inl fun _ => i32 0)), (a3, .inl (cA 0, 296, .inl fun _ => i32 0)), (a4, .inl (cA 0, 2368, .inl fun _ => i32 0)), (a5, .inl (cA 0, 6, .inl fun _ => i32 0)), (a6, .inl (cA 0, 60, .inl fun _ => i32 0)), (a7, .inl (cA 0, 60, .inl fun _ => i32 0)), (a8, .inl (cA 0, 60, .inl fun _ => i32 0)), (a9, .inl (cA 0, 30, .inl fun _ => i32 0))])) H locs := hW
  refine k_putF (t := 25) (k := 12) (fs := [.ref a1, .ref a2, .ref a3, .ref a4, .int (i32 0), .int (i32 0), .int (i32 0), .ref a5, .ref a6, .ref a7, .ref a8, .int (i32 0), .null, .null, .null, .null, .null, .null, .null, .int (i32 0), .int (i32 0), .int (i32 0), .int (i32 0), .int (i32 0), .null, .int (i32 0)]) B (by decide) (by decide) (gw_at (k := 5) (i := 236) rfl rfl) rfl rfl rfl rfl (by decide : 12 < 26) hK hW dKMod_77 (fun H locs hW => ?_)
  have hW : Wk D (Ab q) s ((q, .inr (cix 25, [.ref a1, .ref a2, .ref a3, .ref a4, .int (i32 0), .int (i32 0), .int (i32 0), .ref a5, .ref a6, .ref a7, .ref a8, .int (i32 0), .ref a9, .null, .null, .null, .null, .null, .null, .int (i32 0), .int (i32 0), .int (i32 0), .int (i32 0), .int (i32 0), .null, .int (i32 0)])) :: ([(a1, .inl (cA 0, 296, .inl fun _ => i32 0)), (a2, .inl (cA 0, 296, .inl fun _ => i32 0)), (a3, .inl (cA 0, 296, .inl fun _ => i32 0)), (a4, .inl (cA 0, 2368, .inl fun _ => i32 0)), (a5, .inl (cA 0, 6, .inl fun _ => i32 0)), (a6, .inl (cA 0, 60, .inl fun _ => i32 0)), (a7, .inl (cA 0, 60, .inl fun _ => i32 0)), (a8, .inl (cA 0, 60, .inl fun _ => i32 0)), (a9, .inl (cA 0, 30, .inl fun _ => i32 0))])) H locs := hW
  refine lv_aload_n B.1 B.2.1 dKMod_80 rfl (lv_at hl 0 rfl) ?_
  refine lv_sipush (v := 300) B.1 B.2.1 dKMod_81 (by decide) ?_
  refine k_newa (k := 0) (N := 300) (ty := .int) (atype := .int) B (gw_at (k := 1) (i := 62) rfl rfl) rfl (fun _ _ => rfl) rfl rfl hK hW hA (by decide) rfl (Nat.le_of_ble_eq_true rfl) ⟨Nat.le_of_ble_eq_true rfl, Nat.le_of_ble_eq_true rfl⟩ dKMod_84 (fun a10 H hW => ?_)
  have hW : Wk D (Ab q) s ((q, .inr (cix 25, [.ref a1, .ref a2, .ref a3, .ref a4, .int (i32 0), .int (i32 0), .int (i32 0), .ref a5, .ref a6, .ref a7, .ref a8, .int (i32 0), .ref a9, .null, .null, .null, .null, .null, .null, .int (i32 0), .int (i32 0), .int (i32 0), .int (i32 0), .int (i32 0), .null, .int (i32 0)])) :: ([(a1, .inl (cA 0, 296, .inl fun _ => i32 0)), (a2, .inl (cA 0, 296, .inl fun _ => i32 0)), (a3, .inl (cA 0, 296, .inl fun _ => i32 0)), (a4, .inl (cA 0, 2368, .inl fun _ => i32 0)), (a5, .inl (cA 0, 6, .inl fun _ => i32 0)), (a6, .inl (cA 0, 60, .inl fun _ => i32 0)), (a7, .inl (cA 0, 60, .inl fun _ => i32 0)), (a8, .inl (cA 0, 60, .inl fun _ => i32 0)), (a9, .inl (cA 0, 30, .inl fun _ => i32 0)), (a10, .inl (cA 0, 300, .inl fun _ => i32 0))])) H locs := hW
  refine k_putF (t := 25) (k := 13) (fs := [.ref a1, .ref a2, .ref a3, .ref a4, .int (i32 0), .int (i32 0), .int (i32 0), .ref a5, .ref a6, .ref a7, .ref a8, .int (i32 0), .ref a9, .null, .null, .null, .null, .null, .null, .int (i32 0), .int (i32 0), .int (i32 0), .int (i32 0), .int (i32 0), .null, .int (i32 0)]) B (by decide) (by decide) (gw_at (k := 5) (i := 237) rfl rfl) rfl rfl rfl rfl (by decide : 13 < 26) hK hW dKMod_86 (fun H locs hW => ?_)
  have hW : Wk D (Ab q) s ((q, .inr (cix 25, [.ref a1, .ref a2, .ref a3, .ref a4, .int (i32 0), .int (i32 0), .int (i32 0), .ref a5, .ref a6, .ref a7, .ref a8, .int (i32 0), .ref a9, .ref a10, .null, .null, .null, .null, .null, .int (i32 0), .int (i32 0), .int (i32 0), .int (i32 0), .int (i32 0), .null, .int (i32 0)])) :: ([(a1, .inl (cA 0, 296, .inl fun _ => i32 0)), (a2, .inl (cA 0, 296, .inl fun _ => i32 0)), (a3, .inl (cA 0, 296, .inl fun _ => i32 0)), (a4, .inl (cA 0, 2368, .inl fun _ => i32 0)), (a5, .inl (cA 0, 6, .inl fun _ => i32 0)), (a6, .inl (cA 0, 60, .inl fun _ => i32 0)), (a7, .inl (cA 0, 60, .inl fun _ => i32 0)), (a8, .inl (cA 0, 60, .inl fun _ => i32 0)), (a9, .inl (cA 0, 30, .inl fun _ => i32 0)), (a10, .inl (cA 0, 300, .inl fun _ => i32 0))])) H locs := hW
  refine lv_aload_n B.1 B.2.1 dKMod_89 rfl (lv_at hl 0 rfl) ?_
  refine lv_sipush (v := 320) B.1 B.2.1 dKMod_90 (by decide) ?_
  refine k_newa (k := 0) (N := 320) (ty := .int) (atype := .int) B (gw_at (k := 1) (i := 62) rfl rfl) rfl (fun _ _ => rfl) rfl rfl hK hW hA (by decide) rfl (Nat.le_of_ble_eq_true rfl) ⟨Nat.le_of_ble_eq_true rfl, Nat.le_of_ble_eq_true rfl⟩ dKMod_93 (fun a11 H hW => ?_)
  have hW : Wk D (Ab q) s ((q, .inr (cix 25, [.ref a1, .ref a2, .ref a3, .ref a4, .int (i32 0), .int (i32 0), .int (i32 0), .ref a5, .ref a6, .ref a7, .ref a8, .int (i32 0), .ref a9, .ref a10, .null, .null, .null, .null, .null, .int (i32 0), .int (i32 0), .int (i32 0), .int (i32 0), .int (i32 0), .null, .int (i32 0)])) :: ([(a1, .inl (cA 0, 296, .inl fun _ => i32 0)), (a2, .inl (cA 0, 296, .inl fun _ => i32 0)), (a3, .inl (cA 0, 296, .inl fun _ => i32 0)), (a4, .inl (cA 0, 2368, .inl fun _ => i32 0)), (a5, .inl (cA 0, 6, .inl fun _ => i32 0)), (a6, .inl (cA 0, 60, .inl fun _ => i32 0)), (a7, .inl (cA 0, 60, .inl fun _ => i32 0)), (a8, .inl (cA 0, 60, .inl fun _ => i32 0)), (a9, .inl (cA 0, 30, .inl fun _ => i32 0)), (a10, .inl (cA 0, 300, .inl fun _ => i32 0)), (a11, .inl (cA 0, 320, .inl fun _ => i32 0))])) H locs := hW
  refine k_putF (t := 25) (k := 14) (fs := [.ref a1, .ref a2, .ref a3, .ref a4, .int (i32 0), .int (i32 0), .int (i32 0), .ref a5, .ref a6, .ref a7, .ref a8, .int (i32 0), .ref a9, .ref a10, .null, .null, .null, .null, .null, .int (i32 0), .int (i32 0), .int (i32 0), .int (i32 0), .int (i32 0), .null, .int (i32 0)]) B (by decide) (by decide) (gw_at (k := 5) (i := 238) rfl rfl) rfl rfl rfl rfl (by decide : 14 < 26) hK hW dKMod_95 (fun H locs hW => ?_)
  have hW : Wk D (Ab q) s ((q, .inr (cix 25, [.ref a1, .ref a2, .ref a3, .ref a4, .int (i32 0), .int (i32 0), .int (i32 0), .ref a5, .ref a6, .ref a7, .ref a8, .int (i32 0), .ref a9, .ref a10, .ref a11, .null, .null, .null, .null, .int (i32 0), .int (i32 0), .int (i32 0), .int (i32 0), .int (i32 0), .null, .int (i32 0)])) :: ([(a1, .inl (cA 0, 296, .inl fun _ => i32 0)), (a2, .inl (cA 0, 296, .inl fun _ => i32 0)), (a3, .inl (cA 0, 296, .inl fun _ => i32 0)), (a4, .inl (cA 0, 2368, .inl fun _ => i32 0)), (a5, .inl (cA 0, 6, .inl fun _ => i32 0)), (a6, .inl (cA 0, 60, .inl fun _ => i32 0)), (a7, .inl (cA 0, 60, .inl fun _ => i32 0)), (a8, .inl (cA 0, 60, .inl fun _ => i32 0)), (a9, .inl (cA 0, 30, .inl fun _ => i32 0)), (a10, .inl (cA 0, 300, .inl fun _ => i32 0)), (a11, .inl (cA 0, 320, .inl fun _ => i32 0))])) H locs := hW
  refine lv_aload_n B.1 B.2.1 dKMod_98 rfl (lv_at hl 0 rfl) ?_
  refine lv_bipush (v := 80) B.1 B.2.1 dKMod_99 (by decide) ?_
  refine k_newa (k := 0) (N := 80) (ty := .int) (atype := .int) B (gw_at (k := 1) (i := 62) rfl rfl) rfl (fun _ _ => rfl) rfl rfl hK hW hA (by decide) rfl (Nat.le_of_ble_eq_true rfl) ⟨Nat.le_of_ble_eq_true rfl, Nat.le_of_ble_eq_true rfl⟩ dKMod_101 (fun a12 H hW => ?_)
  have hW : Wk D (Ab q) s ((q, .inr (cix 25, [.ref a1, .ref a2, .ref a3, .ref a4, .int (i32 0), .int (i32 0), .int (i32 0), .ref a5, .ref a6, .ref a7, .ref a8, .int (i32 0), .ref a9, .ref a10, .ref a11, .null, .null, .null, .null, .int (i32 0), .int (i32 0), .int (i32 0), .int (i32 0), .int (i32 0), .null, .int (i32 0)])) :: ([(a1, .inl (cA 0, 296, .inl fun _ => i32 0)), (a2, .inl (cA 0, 296, .inl fun _ => i32 0)), (a3, .inl (cA 0, 296, .inl fun _ => i32 0)), (a4, .inl (cA 0, 2368, .inl fun _ => i32 0)), (a5, .inl (cA 0, 6, .inl fun _ => i32 0)), (a6, .inl (cA 0, 60, .inl fun _ => i32 0)), (a7, .inl (cA 0, 60, .inl fun _ => i32 0)), (a8, .inl (cA 0, 60, .inl fun _ => i32 0)), (a9, .inl (cA 0, 30, .inl fun _ => i32 0)), (a10, .inl (cA 0, 300, .inl fun _ => i32 0)), (a11, .inl (cA 0, 320, .inl fun _ => i32 0)), (a12, .inl (cA 0, 80, .inl fun _ => i32 0))])) H locs := hW
  refine k_putF (t := 25) (k := 15) (fs := [.ref a1, .ref a2, .ref a3, .ref a4, .int (i32 0), .int (i32 0), .int (i32 0), .ref a5, .ref a6, .ref a7, .ref a8, .int (i32 0), .ref a9, .ref a10, .ref a11, .null, .null, .null, .null, .int (i32 0), .int (i32 0), .int (i32 0), .int (i32 0), .int (i32 0), .null, .int (i32 0)]) B (by decide) (by decide) (gw_at (k := 5) (i := 239) rfl rfl) rfl rfl rfl rfl (by decide : 15 < 26) hK hW dKMod_103 (fun H locs hW => ?_)
  have hW : Wk D (Ab q) s ((q, .inr (cix 25, [.ref a1, .ref a2, .ref a3, .ref a4, .int (i32 0), .int (i32 0), .int (i32 0), .ref a5, .ref a6, .ref a7, .ref a8, .int (i32 0), .ref a9, .ref a10, .ref a11, .ref a12, .null, .null, .null, .int (i32 0), .int (i32 0), .int (i32 0), .int (i32 0), .int (i32 0), .null, .int (i32 0)])) :: ([(a1, .inl (cA 0, 296, .inl fun _ => i32 0)), (a2, .inl (cA 0, 296, .inl fun _ => i32 0)), (a3, .inl (cA 0, 296, .inl fun _ => i32 0)), (a4, .inl (cA 0, 2368, .inl fun _ => i32 0)), (a5, .inl (cA 0, 6, .inl fun _ => i32 0)), (a6, .inl (cA 0, 60, .inl fun _ => i32 0)), (a7, .inl (cA 0, 60, .inl fun _ => i32 0)), (a8, .inl (cA 0, 60, .inl fun _ => i32 0)), (a9, .inl (cA 0, 30, .inl fun _ => i32 0)), (a10, .inl (cA 0, 300, .inl fun _ => i32 0)), (a11, .inl (cA 0, 320, .inl fun _ => i32 0)), (a12, .inl (cA 0, 80, .inl fun _ => i32 0))])) H locs := hW
  refine lv_aload_n B.1 B.2.1 dKMod_106 rfl (lv_at hl 0 rfl) ?_
  refine lv_bipush (v := 60) B.1 B.2.1 dKMod_107 (by decide) ?_
  refine k_newa (k := 0) (N := 60) (ty := .int) (atype := .int) B (gw_at (k := 1) (i := 62) rfl rfl) rfl (fun _ _ => rfl) rfl rfl hK hW hA (by decide) rfl (Nat.le_of_ble_eq_true rfl) ⟨Nat.le_of_ble_eq_true rfl, Nat.le_of_ble_eq_true rfl⟩ dKMod_109 (fun a13 H hW => ?_)
  have hW : Wk D (Ab q) s ((q, .inr (cix 25, [.ref a1, .ref a2, .ref a3, .ref a4, .int (i32 0), .int (i32 0), .int (i32 0), .ref a5, .ref a6, .ref a7, .ref a8, .int (i32 0), .ref a9, .ref a10, .ref a11, .ref a12, .null, .null, .null, .int (i32 0), .int (i32 0), .int (i32 0), .int (i32 0), .int (i32 0), .null, .int (i32 0)])) :: ([(a1, .inl (cA 0, 296, .inl fun _ => i32 0)), (a2, .inl (cA 0, 296, .inl fun _ => i32 0)), (a3, .inl (cA 0, 296, .inl fun _ => i32 0)), (a4, .inl (cA 0, 2368, .inl fun _ => i32 0)), (a5, .inl (cA 0, 6, .inl fun _ => i32 0)), (a6, .inl (cA 0, 60, .inl fun _ => i32 0)), (a7, .inl (cA 0, 60, .inl fun _ => i32 0)), (a8, .inl (cA 0, 60, .inl fun _ => i32 0)), (a9, .inl (cA 0, 30, .inl fun _ => i32 0)), (a10, .inl (cA 0, 300, .inl fun _ => i32 0)), (a11, .inl (cA 0, 320, .inl fun _ => i32 0)), (a12, .inl (cA 0, 80, .inl fun _ => i32 0)), (a13, .inl (cA 0, 60, .inl fun _ => i32 0))])) H locs := hW
  refine k_putF (t := 25) (k := 16) (fs := [.ref a1, .ref a2, .ref a3, .ref a4, .int (i32 0), .int (i32 0), .int (i32 0), .ref a5, .ref a6, .ref a7, .ref a8, .int (i32 0), .ref a9, .ref a10, .ref a11, .ref a12, .null, .null, .null, .int (i32 0), .int (i32 0), .int (i32 0), .int (i32 0), .int (i32 0), .null, .int (i32 0)]) B (by decide) (by decide) (gw_at (k := 6) (i := 0) rfl rfl) rfl rfl rfl rfl (by decide : 16 < 26) hK hW dKMod_111 (fun H locs hW => ?_)
  have hW : Wk D (Ab q) s ((q, .inr (cix 25, [.ref a1, .ref a2, .ref a3, .ref a4, .int (i32 0), .int (i32 0), .int (i32 0), .ref a5, .ref a6, .ref a7, .ref a8, .int (i32 0), .ref a9, .ref a10, .ref a11, .ref a12, .ref a13, .null, .null, .int (i32 0), .int (i32 0), .int (i32 0), .int (i32 0), .int (i32 0), .null, .int (i32 0)])) :: ([(a1, .inl (cA 0, 296, .inl fun _ => i32 0)), (a2, .inl (cA 0, 296, .inl fun _ => i32 0)), (a3, .inl (cA 0, 296, .inl fun _ => i32 0)), (a4, .inl (cA 0, 2368, .inl fun _ => i32 0)), (a5, .inl (cA 0, 6, .inl fun _ => i32 0)), (a6, .inl (cA 0, 60, .inl fun _ => i32 0)), (a7, .inl (cA 0, 60, .inl fun _ => i32 0)), (a8, .inl (cA 0, 60, .inl fun _ => i32 0)), (a9, .inl (cA 0, 30, .inl fun _ => i32 0)), (a10, .inl (cA 0, 300, .inl fun _ => i32 0)), (a11, .inl (cA 0, 320, .inl fun _ => i32 0)), (a12, .inl (cA 0, 80, .inl fun _ => i32 0)), (a13, .inl (cA 0, 60, .inl fun _ => i32 0))])) H locs := hW
  refine lv_aload_n B.1 B.2.1 dKMod_114 rfl (lv_at hl 0 rfl) ?_
  refine lv_bipush (v := 60) B.1 B.2.1 dKMod_115 (by decide) ?_
  refine k_newa (k := 0) (N := 60) (ty := .int) (atype := .int) B (gw_at (k := 1) (i := 62) rfl rfl) rfl (fun _ _ => rfl) rfl rfl hK hW hA (by decide) rfl (Nat.le_of_ble_eq_true rfl) ⟨Nat.le_of_ble_eq_true rfl, Nat.le_of_ble_eq_true rfl⟩ dKMod_117 (fun a14 H hW => ?_)
  have hW : Wk D (Ab q) s ((q, .inr (cix 25, [.ref a1, .ref a2, .ref a3, .ref a4, .int (i32 0), .int (i32 0), .int (i32 0), .ref a5, .ref a6, .ref a7, .ref a8, .int (i32 0), .ref a9, .ref a10, .ref a11, .ref a12, .ref a13, .null, .null, .int (i32 0), .int (i32 0), .int (i32 0), .int (i32 0), .int (i32 0), .null, .int (i32 0)])) :: ([(a1, .inl (cA 0, 296, .inl fun _ => i32 0)), (a2, .inl (cA 0, 296, .inl fun _ => i32 0)), (a3, .inl (cA 0, 296, .inl fun _ => i32 0)), (a4, .inl (cA 0, 2368, .inl fun _ => i32 0)), (a5, .inl (cA 0, 6, .inl fun _ => i32 0)), (a6, .inl (cA 0, 60, .inl fun _ => i32 0)), (a7, .inl (cA 0, 60, .inl fun _ => i32 0)), (a8, .inl (cA 0, 60, .inl fun _ => i32 0)), (a9, .inl (cA 0, 30, .inl fun _ => i32 0)), (a10, .inl (cA 0, 300, .inl fun _ => i32 0)), (a11, .inl (cA 0, 320, .inl fun _ => i32 0)), (a12, .inl (cA 0, 80, .inl fun _ => i32 0)), (a13, .inl (cA 0, 60, .inl fun _ => i32 0)), (a14, .inl (cA 0, 60, .inl fun _ => i32 0))])) H locs := hW
  refine k_putF (t := 25) (k := 17) (fs := [.ref a1, .ref a2, .ref a3, .ref a4, .int (i32 0), .int (i32 0), .int (i32 0), .ref a5, .ref a6, .ref a7, .ref a8, .int (i32 0), .ref a9, .ref a10, .ref a11, .ref a12, .ref a13, .null, .null, .int (i32 0), .int (i32 0), .int (i32 0), .int (i32 0), .int (i32 0), .null, .int (i32 0)]) B (by decide) (by decide) (gw_at (k := 6) (i := 1) rfl rfl) rfl rfl rfl rfl (by decide : 17 < 26) hK hW dKMod_119 (fun H locs hW => ?_)
  have hW : Wk D (Ab q) s ((q, .inr (cix 25, [.ref a1, .ref a2, .ref a3, .ref a4, .int (i32 0), .int (i32 0), .int (i32 0), .ref a5, .ref a6, .ref a7, .ref a8, .int (i32 0), .ref a9, .ref a10, .ref a11, .ref a12, .ref a13, .ref a14, .null, .int (i32 0), .int (i32 0), .int (i32 0), .int (i32 0), .int (i32 0), .null, .int (i32 0)])) :: ([(a1, .inl (cA 0, 296, .inl fun _ => i32 0)), (a2, .inl (cA 0, 296, .inl fun _ => i32 0)), (a3, .inl (cA 0, 296, .inl fun _ => i32 0)), (a4, .inl (cA 0, 2368, .inl fun _ => i32 0)), (a5, .inl (cA 0, 6, .inl fun _ => i32 0)), (a6, .inl (cA 0, 60, .inl fun _ => i32 0)), (a7, .inl (cA 0, 60, .inl fun _ => i32 0)), (a8, .inl (cA 0, 60, .inl fun _ => i32 0)), (a9, .inl (cA 0, 30, .inl fun _ => i32 0)), (a10, .inl (cA 0, 300, .inl fun _ => i32 0)), (a11, .inl (cA 0, 320, .inl fun _ => i32 0)), (a12, .inl (cA 0, 80, .inl fun _ => i32 0)), (a13, .inl (cA 0, 60, .inl fun _ => i32 0)), (a14, .inl (cA 0, 60, .inl fun _ => i32 0))])) H locs := hW
  refine lv_aload_n B.1 B.2.1 dKMod_122 rfl (lv_at hl 0 rfl) ?_
  refine lv_sipush (v := 240) B.1 B.2.1 dKMod_123 (by decide) ?_
  refine k_newa (k := 0) (N := 240) (ty := .int) (atype := .int) B (gw_at (k := 1) (i := 62) rfl rfl) rfl (fun _ _ => rfl) rfl rfl hK hW hA (by decide) rfl (Nat.le_of_ble_eq_true rfl) ⟨Nat.le_of_ble_eq_true rfl, Nat.le_of_ble_eq_true rfl⟩ dKMod_126 (fun a15 H hW => ?_)
  have hW : Wk D (Ab q) s ((q, .inr (cix 25, [.ref a1, .ref a2, .ref a3, .ref a4, .int (i32 0), .int (i32 0), .int (i32 0), .ref a5, .ref a6, .ref a7, .ref a8, .int (i32 0), .ref a9, .ref a10, .ref a11, .ref a12, .ref a13, .ref a14, .null, .int (i32 0), .int (i32 0), .int (i32 0), .int (i32 0), .int (i32 0), .null, .int (i32 0)])) :: ([(a1, .inl (cA 0, 296, .inl fun _ => i32 0)), (a2, .inl (cA 0, 296, .inl fun _ => i32 0)), (a3, .inl (cA 0, 296, .inl fun _ => i32 0)), (a4, .inl (cA 0, 2368, .inl fun _ => i32 0)), (a5, .inl (cA 0, 6, .inl fun _ => i32 0)), (a6, .inl (cA 0, 60, .inl fun _ => i32 0)), (a7, .inl (cA 0, 60, .inl fun _ => i32 0)), (a8, .inl (cA 0, 60, .inl fun _ => i32 0)), (a9, .inl (cA 0, 30, .inl fun _ => i32 0)), (a10, .inl (cA 0, 300, .inl fun _ => i32 0)), (a11, .inl (cA 0, 320, .inl fun _ => i32 0)), (a12, .inl (cA 0, 80, .inl fun _ => i32 0)), (a13, .inl (cA 0, 60, .inl fun _ => i32 0)), (a14, .inl (cA 0, 60, .inl fun _ => i32 0)), (a15, .inl (cA 0, 240, .inl fun _ => i32 0))])) H locs := hW
  refine k_putF (t := 25) (k := 18) (fs := [.ref a1, .ref a2, .ref a3, .ref a4, .int (i32 0), .int (i32 0), .int (i32 0), .ref a5, .ref a6, .ref a7, .ref a8, .int (i32 0), .ref a9, .ref a10, .ref a11, .ref a12, .ref a13, .ref a14, .null, .int (i32 0), .int (i32 0), .int (i32 0), .int (i32 0), .int (i32 0), .null, .int (i32 0)]) B (by decide) (by decide) (gw_at (k := 6) (i := 2) rfl rfl) rfl rfl rfl rfl (by decide : 18 < 26) hK hW dKMod_128 (fun H locs hW => ?_)
  have hW : Wk D (Ab q) s ((q, .inr (cix 25, [.ref a1, .ref a2, .ref a3, .ref a4, .int (i32 0), .int (i32 0), .int (i32 0), .ref a5, .ref a6, .ref a7, .ref a8, .int (i32 0), .ref a9, .ref a10, .ref a11, .ref a12, .ref a13, .ref a14, .ref a15, .int (i32 0), .int (i32 0), .int (i32 0), .int (i32 0), .int (i32 0), .null, .int (i32 0)])) :: ([(a1, .inl (cA 0, 296, .inl fun _ => i32 0)), (a2, .inl (cA 0, 296, .inl fun _ => i32 0)), (a3, .inl (cA 0, 296, .inl fun _ => i32 0)), (a4, .inl (cA 0, 2368, .inl fun _ => i32 0)), (a5, .inl (cA 0, 6, .inl fun _ => i32 0)), (a6, .inl (cA 0, 60, .inl fun _ => i32 0)), (a7, .inl (cA 0, 60, .inl fun _ => i32 0)), (a8, .inl (cA 0, 60, .inl fun _ => i32 0)), (a9, .inl (cA 0, 30, .inl fun _ => i32 0)), (a10, .inl (cA 0, 300, .inl fun _ => i32 0)), (a11, .inl (cA 0, 320, .inl fun _ => i32 0)), (a12, .inl (cA 0, 80, .inl fun _ => i32 0)), (a13, .inl (cA 0, 60, .inl fun _ => i32 0)), (a14, .inl (cA 0, 60, .inl fun _ => i32 0)), (a15, .inl (cA 0, 240, .inl fun _ => i32 0))])) H locs := hW
  refine lv_aload_n B.1 B.2.1 dKMod_131 rfl (lv_at hl 0 rfl) ?_
  refine lv_iconst (v := (-1)) B.1 B.2.1 dKMod_132 (by decide) ?_
  refine k_put (t := 25) (k := 23) (fs := [.ref a1, .ref a2, .ref a3, .ref a4, .int (i32 0), .int (i32 0), .int (i32 0), .ref a5, .ref a6, .ref a7, .ref a8, .int (i32 0), .ref a9, .ref a10, .ref a11, .ref a12, .ref a13, .ref a14, .ref a15, .int (i32 0), .int (i32 0), .int (i32 0), .int (i32 0), .int (i32 0), .null, .int (i32 0)]) (v := .int (i32 (-1))) B (by decide) (by decide) (gw_at (k := 6) (i := 7) rfl rfl) rfl rfl rfl (by decide : 23 < 26) hK hW dKMod_133 (fun H locs hW => ?_)
  have hW : Wk D (Ab q) s ((q, .inr (cix 25, [.ref a1, .ref a2, .ref a3, .ref a4, .int (i32 0), .int (i32 0), .int (i32 0), .ref a5, .ref a6, .ref a7, .ref a8, .int (i32 0), .ref a9, .ref a10, .ref a11, .ref a12, .ref a13, .ref a14, .ref a15, .int (i32 0), .int (i32 0), .int (i32 0), .int (i32 0), .int (i32 (-1)), .null, .int (i32 0)])) :: ([(a1, .inl (cA 0, 296, .inl fun _ => i32 0)), (a2, .inl (cA 0, 296, .inl fun _ => i32 0)), (a3, .inl (cA 0, 296, .inl fun _ => i32 0)), (a4, .inl (cA 0, 2368, .inl fun _ => i32 0)), (a5, .inl (cA 0, 6, .inl fun _ => i32 0)), (a6, .inl (cA 0, 60, .inl fun _ => i32 0)), (a7, .inl (cA 0, 60, .inl fun _ => i32 0)), (a8, .inl (cA 0, 60, .inl fun _ => i32 0)), (a9, .inl (cA 0, 30, .inl fun _ => i32 0)), (a10, .inl (cA 0, 300, .inl fun _ => i32 0)), (a11, .inl (cA 0, 320, .inl fun _ => i32 0)), (a12, .inl (cA 0, 80, .inl fun _ => i32 0)), (a13, .inl (cA 0, 60, .inl fun _ => i32 0)), (a14, .inl (cA 0, 60, .inl fun _ => i32 0)), (a15, .inl (cA 0, 240, .inl fun _ => i32 0))])) H locs := hW
  refine lv_aload_n B.1 B.2.1 dKMod_136 rfl (lv_at hl 0 rfl) ?_
  refine lv_bipush (v := 80) B.1 B.2.1 dKMod_137 (by decide) ?_
  refine k_newa (k := 0) (N := 80) (ty := .int) (atype := .int) B (gw_at (k := 1) (i := 62) rfl rfl) rfl (fun _ _ => rfl) rfl rfl hK hW hA (by decide) rfl (Nat.le_of_ble_eq_true rfl) ⟨Nat.le_of_ble_eq_true rfl, Nat.le_of_ble_eq_true rfl⟩ dKMod_139 (fun a16 H hW => ?_)
  have hW : Wk D (Ab q) s ((q, .inr (cix 25, [.ref a1, .ref a2, .ref a3, .ref a4, .int (i32 0), .int (i32 0), .int (i32 0), .ref a5, .ref a6, .ref a7, .ref a8, .int (i32 0), .ref a9, .ref a10, .ref a11, .ref a12, .ref a13, .ref a14, .ref a15, .int (i32 0), .int (i32 0), .int (i32 0), .int (i32 0), .int (i32 (-1)), .null, .int (i32 0)])) :: ([(a1, .inl (cA 0, 296, .inl fun _ => i32 0)), (a2, .inl (cA 0, 296, .inl fun _ => i32 0)), (a3, .inl (cA 0, 296, .inl fun _ => i32 0)), (a4, .inl (cA 0, 2368, .inl fun _ => i32 0)), (a5, .inl (cA 0, 6, .inl fun _ => i32 0)), (a6, .inl (cA 0, 60, .inl fun _ => i32 0)), (a7, .inl (cA 0, 60, .inl fun _ => i32 0)), (a8, .inl (cA 0, 60, .inl fun _ => i32 0)), (a9, .inl (cA 0, 30, .inl fun _ => i32 0)), (a10, .inl (cA 0, 300, .inl fun _ => i32 0)), (a11, .inl (cA 0, 320, .inl fun _ => i32 0)), (a12, .inl (cA 0, 80, .inl fun _ => i32 0)), (a13, .inl (cA 0, 60, .inl fun _ => i32 0)), (a14, .inl (cA 0, 60, .inl fun _ => i32 0)), (a15, .inl (cA 0, 240, .inl fun _ => i32 0)), (a16, .inl (cA 0, 80, .inl fun _ => i32 0))])) H locs := hW
  refine k_putF (t := 25) (k := 24) (fs := [.ref a1, .ref a2, .ref a3, .ref a4, .int (i32 0), .int (i32 0), .int (i32 0), .ref a5, .ref a6, .ref a7, .ref a8, .int (i32 0), .ref a9, .ref a10, .ref a11, .ref a12, .ref a13, .ref a14, .ref a15, .int (i32 0), .int (i32 0), .int (i32 0), .int (i32 0), .int (i32 (-1)), .null, .int (i32 0)]) B (by decide) (by decide) (gw_at (k := 6) (i := 8) rfl rfl) rfl rfl rfl rfl (by decide : 24 < 26) hK hW dKMod_141 (fun H locs hW => ?_)
  have hW : Wk D (Ab q) s ((q, .inr (cix 25, [.ref a1, .ref a2, .ref a3, .ref a4, .int (i32 0), .int (i32 0), .int (i32 0), .ref a5, .ref a6, .ref a7, .ref a8, .int (i32 0), .ref a9, .ref a10, .ref a11, .ref a12, .ref a13, .ref a14, .ref a15, .int (i32 0), .int (i32 0), .int (i32 0), .int (i32 0), .int (i32 (-1)), .ref a16, .int (i32 0)])) :: ([(a1, .inl (cA 0, 296, .inl fun _ => i32 0)), (a2, .inl (cA 0, 296, .inl fun _ => i32 0)), (a3, .inl (cA 0, 296, .inl fun _ => i32 0)), (a4, .inl (cA 0, 2368, .inl fun _ => i32 0)), (a5, .inl (cA 0, 6, .inl fun _ => i32 0)), (a6, .inl (cA 0, 60, .inl fun _ => i32 0)), (a7, .inl (cA 0, 60, .inl fun _ => i32 0)), (a8, .inl (cA 0, 60, .inl fun _ => i32 0)), (a9, .inl (cA 0, 30, .inl fun _ => i32 0)), (a10, .inl (cA 0, 300, .inl fun _ => i32 0)), (a11, .inl (cA 0, 320, .inl fun _ => i32 0)), (a12, .inl (cA 0, 80, .inl fun _ => i32 0)), (a13, .inl (cA 0, 60, .inl fun _ => i32 0)), (a14, .inl (cA 0, 60, .inl fun _ => i32 0)), (a15, .inl (cA 0, 240, .inl fun _ => i32 0)), (a16, .inl (cA 0, 80, .inl fun _ => i32 0))])) H locs := hW
  refine lv_aload_n B.1 B.2.1 dKMod_144 rfl (lv_at hl 0 rfl) ?_
  have hW : Wk D (Ab q) s (Wl csM (adL ad0 25 [q, a1, a2, a3, a4, a5, a6, a7, a8, a9, a10, a11, a12, a13, a14, a15, a16]) cA (GMz g)) H locs := hW
  refine k_meth (ad := adL ad0 25 [q, a1, a2, a3, a4, a5, a6, a7, a8, a9, a10, a11, a12, a13, a14, a15, a16]) (cs := csM) (t := 25) (i := 0) (z := y_Mod_begins) B (by decide) (ctr_begins hl9 hg9) (cst_begins g) hE hbq hW rfl rfl rfl (roe_mz g) (by decide +kernel) (by decide +kernel) (gw_at (k := 5) (i := 220) rfl rfl) (by decide +kernel) (by decide +kernel) List.mem_cons_self ⟨by decide +kernel, by decide +kernel⟩ ⟨Nat.le_of_ble_eq_true rfl, Nat.le_of_ble_eq_true rfl⟩ dKMod_145 hl.1 (fun H locs hW => ?_)
  exact k_ret B hW.2.2 ⟨[q, a1, a2, a3, a4, a5, a6, a7, a8, a9, a10, a11, a12, a13, a14, a15, a16], rfl, hW.1, hW.2.1⟩ dKMod_148 ⟨Nat.le_of_ble_eq_true rfl, Nat.le_of_ble_eq_true rfl⟩
