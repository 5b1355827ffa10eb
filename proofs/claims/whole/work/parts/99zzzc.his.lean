/-! ===== the history is made ===== -/
theorem vp_cong (z : ClassId) {n : Nat} {f f' : Nat → Option Nat} (hf : ∀ j : Nat, j < n → f j = f' j) : vp_cell z (n, .inr (.inr (.inr (.inr f)))) = vp_cell z (n, .inr (.inr (.inr (.inr f')))) := by
  rw [vp_cell_q, vp_cell_q]
  unfold arrV
  congr 1
  apply Array.ext
  · rw [Array.size_ofFn, Array.size_ofFn]
  · intro j h1 h2
    rw [Array.getElem_ofFn, Array.getElem_ofFn]
    rw [Array.size_ofFn] at h1
    exact congrArg va_rf (hf j h1)
theorem va_P.arr {D : va_G} {w : va_W} {H : Heap} {a n k : Nat} {z : ClassId} {f f' : Nat → Option Nat} (h : va_P D cls_ w H) (ha : w[k]? = some (a, .inl (z, n, .inr (.inr (.inr (.inr f)))))) (hf : ∀ j : Nat, j < n → f j = f' j) : va_P D cls_ (w.set k (a, .inl (z, n, .inr (.inr (.inr (.inr f')))))) H := fun j x hx => by
  by_cases c : j = k
  · subst c
    rw [List.getElem?_set_self (List.getElem?_eq_some_iff.mp ha).1] at hx
    cases hx
    have h9 : H[a]? = some (vp_cell z (n, .inr (.inr (.inr (.inr f))))) := h j _ ha
    show H[a]? = some (vp_cell z (n, .inr (.inr (.inr (.inr f')))))
    rw [h9, vp_cong z hf]
  · rw [List.getElem?_set_ne (fun z => c z.symm)] at hx
    exact h j x hx
theorem Wk.arr {D : va_G} {A : Nat → Prop} {s : State} {w : va_W} {H : Heap} {locs : List Loc} {a n : Nat} (k : Nat) {z : ClassId} {f f' : Nat → Option Nat} (h : Wk D A s w H locs) (ha : w[k]? = some (a, .inl (z, n, .inr (.inr (.inr (.inr f)))))) (hf : ∀ j : Nat, j < n → f j = f' j) : Wk D A s (w.set k (a, .inl (z, n, .inr (.inr (.inr (.inr f')))))) H locs := ⟨h.1.arr ha hf, h.2.1.set ha, h.2.2⟩
/-! MapGeneralizer$History: names and decoding -/
def yKHis : MethodName := ⟨"MapGeneralizer$History", "<init>", "()V"⟩
theorem cwKHis : Jvm.Cond.code yKHis prog_3_method_1_code 2 none ∈ gw := gw_at (k := 1) (i := 141) rfl rfl
theorem inKHis : Jvm.Cond.initialized yKHis.cls ∈ gw := gw_at (k := 1) (i := 7) rfl rfl
theorem imKHis : Jvm.Cond.instanceMethod yKHis ∈ gw := gw_at (k := 1) (i := 140) rfl rfl
theorem isKHis : Jvm.Cond.instantiable (Rt 13) (Nf 13) ∈ gw := gw_at (k := 1) (i := 138) rfl rfl
theorem hyKHis : yKHis.cls ≠ "java/lang/invoke/MethodHandle" ∧ yKHis.cls ≠ "java/lang/invoke/VarHandle" ∧ (parseMethodDescriptor yKHis.desc).map (fun d => d.parameters.length) = some 0 := by decide +kernel
def fsKHis : List Value := [.null, .int (i32 0), .int (i32 0)]
theorem bfKHis : ∀ j, j < Nf 13 → defaultValue (tyt 13 j) = vp_V fsKHis j := by
  intro j hj
  have hj : j < 3 := hj
  match j, hj with
  | 0, _ => rfl
  | 1, _ => rfl
  | 2, _ => rfl
  | k + 3, hj => exact absurd hj (by omega)
theorem dKHis_0 : decode prog_3_method_1_code 0 = .ok (.aload_n 0, 1) := by decide +kernel
theorem dKHis_1 : decode prog_3_method_1_code 1 = .ok (.invokespecial 3, 3) := by decide +kernel
theorem dKHis_4 : decode prog_3_method_1_code 4 = .ok (.aload_n 0, 1) := by decide +kernel
theorem dKHis_5 : decode prog_3_method_1_code 5 = .ok (.bipush 8, 2) := by decide +kernel
theorem dKHis_7 : decode prog_3_method_1_code 7 = .ok (.anewarray 9, 3) := by decide +kernel
theorem dKHis_10 : decode prog_3_method_1_code 10 = .ok (.putfield 11, 3) := by decide +kernel
theorem dKHis_13 : decode prog_3_method_1_code 13 = .ok (.iconst 0, 1) := by decide +kernel
theorem dKHis_14 : decode prog_3_method_1_code 14 = .ok (.istore_n 1, 1) := by decide +kernel
theorem dKHis_15 : decode prog_3_method_1_code 15 = .ok (.iload_n 1, 1) := by decide +kernel
theorem dKHis_16 : decode prog_3_method_1_code 16 = .ok (.bipush 8, 2) := by decide +kernel
theorem dKHis_18 : decode prog_3_method_1_code 18 = .ok (.if_icmp .ge 22, 3) := by decide +kernel
theorem dKHis_21 : decode prog_3_method_1_code 21 = .ok (.aload_n 0, 1) := by decide +kernel
theorem dKHis_22 : decode prog_3_method_1_code 22 = .ok (.getfield 11, 3) := by decide +kernel
theorem dKHis_25 : decode prog_3_method_1_code 25 = .ok (.iload_n 1, 1) := by decide +kernel
theorem dKHis_26 : decode prog_3_method_1_code 26 = .ok (.new 9, 3) := by decide +kernel
theorem dKHis_29 : decode prog_3_method_1_code 29 = .ok (.dup, 1) := by decide +kernel
theorem dKHis_30 : decode prog_3_method_1_code 30 = .ok (.invokespecial 17, 3) := by decide +kernel
theorem dKHis_33 : decode prog_3_method_1_code 33 = .ok (.aastore, 1) := by decide +kernel
theorem dKHis_34 : decode prog_3_method_1_code 34 = .ok (.iinc 1 1, 3) := by decide +kernel
theorem dKHis_37 : decode prog_3_method_1_code 37 = .ok (.goto (-22), 3) := by decide +kernel
theorem dKHis_40 : decode prog_3_method_1_code 40 = .ok (.return_, 1) := by decide +kernel
def rmKHis : Room := { frames := 15, cells := 97, slots := 2240, locals := 1000 }
noncomputable def wHis (cA : Nat → ClassId) (ad0 : Nat → Int → Nat) (g : GG) (q a1 : Nat) (v : Nat → List Nat) : va_W := (q, .inr (cix 13, [.ref a1, .int (i32 0), .int (i32 0)])) :: ([(a1, .inl (cA 4, 8, .inr (.inr (.inr (.inr (fun j => some ((v j).getD 0 0)))))))] ++ Wl (csS 3) (adL ad0 1 (v 0)) cA (GSh g 3) ++ Wl (csS 4) (adL ad0 1 (v 1)) cA (GSh g 4) ++ Wl (csS 5) (adL ad0 1 (v 2)) cA (GSh g 5) ++ Wl (csS 6) (adL ad0 1 (v 3)) cA (GSh g 6) ++ Wl (csS 7) (adL ad0 1 (v 4)) cA (GSh g 7) ++ Wl (csS 8) (adL ad0 1 (v 5)) cA (GSh g 8) ++ Wl (csS 9) (adL ad0 1 (v 6)) cA (GSh g 9) ++ Wl (csS 10) (adL ad0 1 (v 7)) cA (GSh g 10))
def PoKHis (D : va_G) (cA : Nat → ClassId) (ad0 : Nat → Int → Nat) (g : GG) (q : Nat) (H : Heap) : Prop := ∃ (a1 : Nat) (v : Nat → List Nat), va_P D cls_ (wHis cA ad0 g q a1 v) H ∧ va_D (Ab q) (wHis cA ad0 g q a1 v)
set_option maxHeartbeats 8000000 in
set_option maxRecDepth 20000 in
theorem ciKHis {l : Launch} (hl9 : l.stackTraces = false) {g : GG} (hT9 : Lm g) (hg9 : okG g) (D : va_G) (cA : Nat → ClassId) (ad0 : Nat → Int → Nat) (base : Nat) (q : Nat) : CI l yKHis prog_3_method_1_code 2 rmKHis D cA ad0 base (gz g) [] q 13 fsKHis [] (PoKHis D cA ad0 g q) := by
  refine CI.of (by decide +kernel) cwKHis rfl (Nat.le_of_ble_eq_true rfl) ?_
  intro p e s m args below meth c ls B hP hl
  obtain ⟨hq, hP1, -, -, hE, hbq⟩ := hP
  have hK : va_K D cls_ (tys_ cA) s := hE.1.1
  have hl : lv_has ls 2 [(0, .ref q)] := hl
  have hA : ∀ z, s.heap.size ≤ z → Ab q z := fun z hz => by show q ≤ z; omega
  have hAb : ∀ z, Ab q z → base ≤ z := fun z hz => Nat.le_trans hbq hz
  have hW : Wk D (Ab q) s ((q, .inr (cix 13, [.null, .int (i32 0), .int (i32 0)])) :: ([])) s.heap [] := ⟨hP1, va_D.one (Nat.le_refl q), va_S.rf⟩
  refine lv_aload_n B.1 B.2.1 dKHis_0 rfl (lv_at hl 0 rfl) ?_
  refine k_obj B (gw_at (k := 1) (i := 142) rfl rfl) dKHis_1 hl.1 (by decide) ?_
  refine lv_aload_n B.1 B.2.1 dKHis_4 rfl (lv_at hl 0 rfl) ?_
  refine lv_bipush (v := 8) B.1 B.2.1 dKHis_5 (by decide) ?_
  refine k_newq (t0 := 4) (t := 1) (N := 8) B (gw_at (k := 1) (i := 143) rfl rfl) (hE.2.2.2 "MapGeneralizer$Sheet" (by decide)) rfl hK hW hA (by decide) rfl (Nat.le_of_ble_eq_true rfl) ⟨Nat.le_of_ble_eq_true rfl, Nat.le_of_ble_eq_true rfl⟩ dKHis_7 (fun a1 H hW => ?_)
  have hW : Wk D (Ab q) s ((q, .inr (cix 13, [.null, .int (i32 0), .int (i32 0)])) :: ([(a1, .inl (cA 4, 8, .inr (.inr (.inr (.inr (fun _ => none))))))])) H [] := hW
  refine k_putF (t := 13) (k := 0) (fs := [.null, .int (i32 0), .int (i32 0)]) B (by decide) (by decide) (gw_at (k := 1) (i := 146) rfl rfl) rfl rfl rfl rfl (by decide : 0 < 3) hK hW dKHis_10 (fun H locs hW => ?_)
  have hW : Wk D (Ab q) s ((q, .inr (cix 13, [.ref a1, .int (i32 0), .int (i32 0)])) :: ([(a1, .inl (cA 4, 8, .inr (.inr (.inr (.inr (fun _ => none))))))])) H locs := hW
  refine lv_iconst (v := 0) B.1 B.2.1 dKHis_13 (by decide) ?_
  refine lv_istore_n (lv' := [(1, .int 0), (0, .ref q)]) B.1 B.2.1 dKHis_14 rfl hl (by decide) rfl (fun ls hl => ?_)
  refine lv_iload_n B.1 B.2.1 dKHis_15 rfl (lv_at hl 0 rfl) ?_
  refine lv_bipush (v := 8) B.1 B.2.1 dKHis_16 (by decide) ?_
  refine lv_icmp_ge (tgt := 40) B.1 B.2.1 dKHis_18 (by decide) (fun h => absurd h (by decide)) (fun _ => ?_)
  refine lv_aload_n B.1 B.2.1 dKHis_21 rfl (lv_at hl 1 rfl) ?_
  refine k_get (t := 13) (k := 0) (q0 := 0) B (by decide) (by decide) (gw_at (k := 1) (i := 146) rfl rfl) hK hW.1 rfl rfl dKHis_22 ?_
  refine lv_iload_n B.1 B.2.1 dKHis_25 rfl (lv_at hl 0 rfl) ?_
  refine k_new (t := 1) (fs := fsKShe) B (by decide) (gw_at (k := 1) (i := 143) rfl rfl) isKShe inKShe hK hW hA ⟨Nat.le_of_ble_eq_true rfl, Nat.le_of_ble_eq_true rfl⟩ dKHis_26 bfKShe (fun b1 H hqb1 hPb1 hW hltb1 hAb1 hsb1 => ?_)
  refine lv_dup B.1 B.2.1 dKHis_29 rfl ?_
  refine k_call (t := 1) (rest := [.ref b1, .int 0, .ref a1]) (wro := []) B (ciKShe hl9 hT9 hg9 (i := 3) (by decide) D cA ad0 base b1) hE hW.2.2 hAb hqb1 hPb1 (fun _ _ h => by cases h) (fun _ _ h => by cases h) (Nat.le_trans hbq hAb1) (gw_at (k := 1) (i := 145) rfl rfl) cwKShe inKShe imKShe rfl hyKShe ⟨Nat.le_of_ble_eq_true rfl, Nat.le_of_ble_eq_true rfl⟩ ⟨Nat.le_of_ble_eq_true rfl, Nat.le_of_ble_eq_true rfl⟩ rfl (Nat.le_of_ble_eq_true rfl) hl.1 dKHis_30 (fun z h => Nat.le_trans hAb1 h) (fun H1 locs1 hpo hk hz hS => ?_)
  obtain ⟨vb1, hvb1, hPo, hDo⟩ := hpo
  subst hvb1
  have hW := hW.join hltb1 hk hPo hDo hS (fun z h => Nat.le_trans hAb1 h)
  have hW : Wk D (Ab q) s ((q, .inr (cix 13, [.ref a1, .int (i32 0), .int (i32 0)])) :: ([(a1, .inl (cA 4, 8, .inr (.inr (.inr (.inr (fun _ => none))))))] ++ Wl (csS 3) (adL ad0 1 vb1) cA (GSh g 3))) H1 locs1 := hW
  generalize H1 = H at hW ⊢
  generalize locs1 = locs at hW ⊢
  refine k_aast (x := 0) B hK hW 1 4 1 rfl rfl (by decide) (va_P.one (hW.1 2 _ rfl)) (by unfold vp_in; decide) dKHis_33 (fun H locs hW => ?_)
  have hW : Wk D (Ab q) s ((q, .inr (cix 13, [.ref a1, .int (i32 0), .int (i32 0)])) :: ([(a1, .inl (cA 4, 8, .inr (.inr (.inr (.inr (va_up (fun _ => none) 0 (some (vb1.getD 0 0))))))))] ++ Wl (csS 3) (adL ad0 1 vb1) cA (GSh g 3))) H locs := hW
  refine lv_iinc (lv' := [(1, .int 1), (0, .ref q)]) (k := 0) (x := 0) (v := 1) B.1 B.2.1 dKHis_34 hl rfl (by decide) (by decide) rfl (fun ls hl => ?_)
  refine lv_goto (tgt := 15) B.1 B.2.1 dKHis_37 (by decide) ?_
  refine lv_iload_n B.1 B.2.1 dKHis_15 rfl (lv_at hl 0 rfl) ?_
  refine lv_bipush (v := 8) B.1 B.2.1 dKHis_16 (by decide) ?_
  refine lv_icmp_ge (tgt := 40) B.1 B.2.1 dKHis_18 (by decide) (fun h => absurd h (by decide)) (fun _ => ?_)
  refine lv_aload_n B.1 B.2.1 dKHis_21 rfl (lv_at hl 1 rfl) ?_
  refine k_get (t := 13) (k := 0) (q0 := 0) B (by decide) (by decide) (gw_at (k := 1) (i := 146) rfl rfl) hK hW.1 rfl rfl dKHis_22 ?_
  refine lv_iload_n B.1 B.2.1 dKHis_25 rfl (lv_at hl 0 rfl) ?_
  refine k_new (t := 1) (fs := fsKShe) B (by decide) (gw_at (k := 1) (i := 143) rfl rfl) isKShe inKShe hK hW hA ⟨Nat.le_of_ble_eq_true rfl, Nat.le_of_ble_eq_true rfl⟩ dKHis_26 bfKShe (fun b2 H hqb2 hPb2 hW hltb2 hAb2 hsb2 => ?_)
  refine lv_dup B.1 B.2.1 dKHis_29 rfl ?_
  refine k_call (t := 1) (rest := [.ref b2, .int 1, .ref a1]) (wro := []) B (ciKShe hl9 hT9 hg9 (i := 4) (by decide) D cA ad0 base b2) hE hW.2.2 hAb hqb2 hPb2 (fun _ _ h => by cases h) (fun _ _ h => by cases h) (Nat.le_trans hbq hAb2) (gw_at (k := 1) (i := 145) rfl rfl) cwKShe inKShe imKShe rfl hyKShe ⟨Nat.le_of_ble_eq_true rfl, Nat.le_of_ble_eq_true rfl⟩ ⟨Nat.le_of_ble_eq_true rfl, Nat.le_of_ble_eq_true rfl⟩ rfl (Nat.le_of_ble_eq_true rfl) hl.1 dKHis_30 (fun z h => Nat.le_trans hAb2 h) (fun H1 locs1 hpo hk hz hS => ?_)
  obtain ⟨vb2, hvb2, hPo, hDo⟩ := hpo
  subst hvb2
  have hW := hW.join hltb2 hk hPo hDo hS (fun z h => Nat.le_trans hAb2 h)
  have hW : Wk D (Ab q) s ((q, .inr (cix 13, [.ref a1, .int (i32 0), .int (i32 0)])) :: ([(a1, .inl (cA 4, 8, .inr (.inr (.inr (.inr (va_up (fun _ => none) 0 (some (vb1.getD 0 0))))))))] ++ Wl (csS 3) (adL ad0 1 vb1) cA (GSh g 3) ++ Wl (csS 4) (adL ad0 1 vb2) cA (GSh g 4))) H1 locs1 := hW
  generalize H1 = H at hW ⊢
  generalize locs1 = locs at hW ⊢
  refine k_aast (x := 1) B hK hW 1 4 1 rfl rfl (by decide) (va_P.one (hW.1 14 _ rfl)) (by unfold vp_in; decide) dKHis_33 (fun H locs hW => ?_)
  have hW : Wk D (Ab q) s ((q, .inr (cix 13, [.ref a1, .int (i32 0), .int (i32 0)])) :: ([(a1, .inl (cA 4, 8, .inr (.inr (.inr (.inr (va_up (va_up (fun _ => none) 0 (some (vb1.getD 0 0))) 1 (some (vb2.getD 0 0))))))))] ++ Wl (csS 3) (adL ad0 1 vb1) cA (GSh g 3) ++ Wl (csS 4) (adL ad0 1 vb2) cA (GSh g 4))) H locs := hW
  refine lv_iinc (lv' := [(1, .int 2), (0, .ref q)]) (k := 0) (x := 1) (v := 2) B.1 B.2.1 dKHis_34 hl rfl (by decide) (by decide) rfl (fun ls hl => ?_)
  refine lv_goto (tgt := 15) B.1 B.2.1 dKHis_37 (by decide) ?_
  refine lv_iload_n B.1 B.2.1 dKHis_15 rfl (lv_at hl 0 rfl) ?_
  refine lv_bipush (v := 8) B.1 B.2.1 dKHis_16 (by decide) ?_
  refine lv_icmp_ge (tgt := 40) B.1 B.2.1 dKHis_18 (by decide) (fun h => absurd h (by decide)) (fun _ => ?_)
  refine lv_aload_n B.1 B.2.1 dKHis_21 rfl (lv_at hl 1 rfl) ?_
  refine k_get (t := 13) (k := 0) (q0 := 0) B (by decide) (by decide) (gw_at (k := 1) (i := 146) rfl rfl) hK hW.1 rfl rfl dKHis_22 ?_
  refine lv_iload_n B.1 B.2.1 dKHis_25 rfl (lv_at hl 0 rfl) ?_
  refine k_new (t := 1) (fs := fsKShe) B (by decide) (gw_at (k := 1) (i := 143) rfl rfl) isKShe inKShe hK hW hA ⟨Nat.le_of_ble_eq_true rfl, Nat.le_of_ble_eq_true rfl⟩ dKHis_26 bfKShe (fun b3 H hqb3 hPb3 hW hltb3 hAb3 hsb3 => ?_)
  refine lv_dup B.1 B.2.1 dKHis_29 rfl ?_
  refine k_call (t := 1) (rest := [.ref b3, .int 2, .ref a1]) (wro := []) B (ciKShe hl9 hT9 hg9 (i := 5) (by decide) D cA ad0 base b3) hE hW.2.2 hAb hqb3 hPb3 (fun _ _ h => by cases h) (fun _ _ h => by cases h) (Nat.le_trans hbq hAb3) (gw_at (k := 1) (i := 145) rfl rfl) cwKShe inKShe imKShe rfl hyKShe ⟨Nat.le_of_ble_eq_true rfl, Nat.le_of_ble_eq_true rfl⟩ ⟨Nat.le_of_ble_eq_true rfl, Nat.le_of_ble_eq_true rfl⟩ rfl (Nat.le_of_ble_eq_true rfl) hl.1 dKHis_30 (fun z h => Nat.le_trans hAb3 h) (fun H1 locs1 hpo hk hz hS => ?_)
  obtain ⟨vb3, hvb3, hPo, hDo⟩ := hpo
  subst hvb3
  have hW := hW.join hltb3 hk hPo hDo hS (fun z h => Nat.le_trans hAb3 h)
  have hW : Wk D (Ab q) s ((q, .inr (cix 13, [.ref a1, .int (i32 0), .int (i32 0)])) :: ([(a1, .inl (cA 4, 8, .inr (.inr (.inr (.inr (va_up (va_up (fun _ => none) 0 (some (vb1.getD 0 0))) 1 (some (vb2.getD 0 0))))))))] ++ Wl (csS 3) (adL ad0 1 vb1) cA (GSh g 3) ++ Wl (csS 4) (adL ad0 1 vb2) cA (GSh g 4) ++ Wl (csS 5) (adL ad0 1 vb3) cA (GSh g 5))) H1 locs1 := hW
  generalize H1 = H at hW ⊢
  generalize locs1 = locs at hW ⊢
  refine k_aast (x := 2) B hK hW 1 4 1 rfl rfl (by decide) (va_P.one (hW.1 26 _ rfl)) (by unfold vp_in; decide) dKHis_33 (fun H locs hW => ?_)
  have hW : Wk D (Ab q) s ((q, .inr (cix 13, [.ref a1, .int (i32 0), .int (i32 0)])) :: ([(a1, .inl (cA 4, 8, .inr (.inr (.inr (.inr (va_up (va_up (va_up (fun _ => none) 0 (some (vb1.getD 0 0))) 1 (some (vb2.getD 0 0))) 2 (some (vb3.getD 0 0))))))))] ++ Wl (csS 3) (adL ad0 1 vb1) cA (GSh g 3) ++ Wl (csS 4) (adL ad0 1 vb2) cA (GSh g 4) ++ Wl (csS 5) (adL ad0 1 vb3) cA (GSh g 5))) H locs := hW
  refine lv_iinc (lv' := [(1, .int 3), (0, .ref q)]) (k := 0) (x := 2) (v := 3) B.1 B.2.1 dKHis_34 hl rfl (by decide) (by decide) rfl (fun ls hl => ?_)
  refine lv_goto (tgt := 15) B.1 B.2.1 dKHis_37 (by decide) ?_
  refine lv_iload_n B.1 B.2.1 dKHis_15 rfl (lv_at hl 0 rfl) ?_
  refine lv_bipush (v := 8) B.1 B.2.1 dKHis_16 (by decide) ?_
  refine lv_icmp_ge (tgt := 40) B.1 B.2.1 dKHis_18 (by decide) (fun h => absurd h (by decide)) (fun _ => ?_)
  refine lv_aload_n B.1 B.2.1 dKHis_21 rfl (lv_at hl 1 rfl) ?_
  refine k_get (t := 13) (k := 0) (q0 := 0) B (by decide) (by decide) (gw_at (k := 1) (i := 146) rfl rfl) hK hW.1 rfl rfl dKHis_22 ?_
  refine lv_iload_n B.1 B.2.1 dKHis_25 rfl (lv_at hl 0 rfl) ?_
  refine k_new (t := 1) (fs := fsKShe) B (by decide) (gw_at (k := 1) (i := 143) rfl rfl) isKShe inKShe hK hW hA ⟨Nat.le_of_ble_eq_true rfl, Nat.le_of_ble_eq_true rfl⟩ dKHis_26 bfKShe (fun b4 H hqb4 hPb4 hW hltb4 hAb4 hsb4 => ?_)
  refine lv_dup B.1 B.2.1 dKHis_29 rfl ?_
  refine k_call (t := 1) (rest := [.ref b4, .int 3, .ref a1]) (wro := []) B (ciKShe hl9 hT9 hg9 (i := 6) (by decide) D cA ad0 base b4) hE hW.2.2 hAb hqb4 hPb4 (fun _ _ h => by cases h) (fun _ _ h => by cases h) (Nat.le_trans hbq hAb4) (gw_at (k := 1) (i := 145) rfl rfl) cwKShe inKShe imKShe rfl hyKShe ⟨Nat.le_of_ble_eq_true rfl, Nat.le_of_ble_eq_true rfl⟩ ⟨Nat.le_of_ble_eq_true rfl, Nat.le_of_ble_eq_true rfl⟩ rfl (Nat.le_of_ble_eq_true rfl) hl.1 dKHis_30 (fun z h => Nat.le_trans hAb4 h) (fun H1 locs1 hpo hk hz hS => ?_)
  obtain ⟨vb4, hvb4, hPo, hDo⟩ := hpo
  subst hvb4
  have hW := hW.join hltb4 hk hPo hDo hS (fun z h => Nat.le_trans hAb4 h)
  have hW : Wk D (Ab q) s ((q, .inr (cix 13, [.ref a1, .int (i32 0), .int (i32 0)])) :: ([(a1, .inl (cA 4, 8, .inr (.inr (.inr (.inr (va_up (va_up (va_up (fun _ => none) 0 (some (vb1.getD 0 0))) 1 (some (vb2.getD 0 0))) 2 (some (vb3.getD 0 0))))))))] ++ Wl (csS 3) (adL ad0 1 vb1) cA (GSh g 3) ++ Wl (csS 4) (adL ad0 1 vb2) cA (GSh g 4) ++ Wl (csS 5) (adL ad0 1 vb3) cA (GSh g 5) ++ Wl (csS 6) (adL ad0 1 vb4) cA (GSh g 6))) H1 locs1 := hW
  generalize H1 = H at hW ⊢
  generalize locs1 = locs at hW ⊢
  refine k_aast (x := 3) B hK hW 1 4 1 rfl rfl (by decide) (va_P.one (hW.1 38 _ rfl)) (by unfold vp_in; decide) dKHis_33 (fun H locs hW => ?_)
  have hW : Wk D (Ab q) s ((q, .inr (cix 13, [.ref a1, .int (i32 0), .int (i32 0)])) :: ([(a1, .inl (cA 4, 8, .inr (.inr (.inr (.inr (va_up (va_up (va_up (va_up (fun _ => none) 0 (some (vb1.getD 0 0))) 1 (some (vb2.getD 0 0))) 2 (some (vb3.getD 0 0))) 3 (some (vb4.getD 0 0))))))))] ++ Wl (csS 3) (adL ad0 1 vb1) cA (GSh g 3) ++ Wl (csS 4) (adL ad0 1 vb2) cA (GSh g 4) ++ Wl (csS 5) (adL ad0 1 vb3) cA (GSh g 5) ++ Wl (csS 6) (adL ad0 1 vb4) cA (GSh g 6))) H locs := hW
  refine lv_iinc (lv' := [(1, .int 4), (0, .ref q)]) (k := 0) (x := 3) (v := 4) B.1 B.2.1 dKHis_34 hl rfl (by decide) (by decide) rfl (fun ls hl => ?_)
  refine lv_goto (tgt := 15) B.1 B.2.1 dKHis_37 (by decide) ?_
  refine lv_iload_n B.1 B.2.1 dKHis_15 rfl (lv_at hl 0 rfl) ?_
  refine lv_bipush (v := 8) B.1 B.2.1 dKHis_16 (by decide) ?_
  refine lv_icmp_ge (tgt := 40) B.1 B.2.1 dKHis_18 (by decide) (fun h => absurd h (by decide)) (fun _ => ?_)
  refine lv_aload_n B.1 B.2.1 dKHis_21 rfl (lv_at hl 1 rfl) ?_
  refine k_get (t := 13) (k := 0) (q0 := 0) B (by decide) (by decide) (gw_at (k := 1) (i := 146) rfl rfl) hK hW.1 rfl rfl dKHis_22 ?_
  refine lv_iload_n B.1 B.2.1 dKHis_25 rfl (lv_at hl 0 rfl) ?_
  refine k_new (t := 1) (fs := fsKShe) B (by decide) (gw_at (k := 1) (i := 143) rfl rfl) isKShe inKShe hK hW hA ⟨Nat.le_of_ble_eq_true rfl, Nat.le_of_ble_eq_true rfl⟩ dKHis_26 bfKShe (fun b5 H hqb5 hPb5 hW hltb5 hAb5 hsb5 => ?_)
  refine lv_dup B.1 B.2.1 dKHis_29 rfl ?_
  refine k_call (t := 1) (rest := [.ref b5, .int 4, .ref a1]) (wro := []) B (ciKShe hl9 hT9 hg9 (i := 7) (by decide) D cA ad0 base b5) hE hW.2.2 hAb hqb5 hPb5 (fun _ _ h => by cases h) (fun _ _ h => by cases h) (Nat.le_trans hbq hAb5) (gw_at (k := 1) (i := 145) rfl rfl) cwKShe inKShe imKShe rfl hyKShe ⟨Nat.le_of_ble_eq_true rfl, Nat.le_of_ble_eq_true rfl⟩ ⟨Nat.le_of_ble_eq_true rfl, Nat.le_of_ble_eq_true rfl⟩ rfl (Nat.le_of_ble_eq_true rfl) hl.1 dKHis_30 (fun z h => Nat.le_trans hAb5 h) (fun H1 locs1 hpo hk hz hS => ?_)
  obtain ⟨vb5, hvb5, hPo, hDo⟩ := hpo
  subst hvb5
  have hW := hW.join hltb5 hk hPo hDo hS (fun z h => Nat.le_trans hAb5 h)
  have hW : Wk D (Ab q) s ((q, .inr (cix 13, [.ref a1, .int (i32 0), .int (i32 0)])) :: ([(a1, .inl (cA 4, 8, .inr (.inr (.inr (.inr (va_up (va_up (va_up (va_up (fun _ => none) 0 (some (vb1.getD 0 0))) 1 (some (vb2.getD 0 0))) 2 (some (vb3.getD 0 0))) 3 (some (vb4.getD 0 0))))))))] ++ Wl (csS 3) (adL ad0 1 vb1) cA (GSh g 3) ++ Wl (csS 4) (adL ad0 1 vb2) cA (GSh g 4) ++ Wl (csS 5) (adL ad0 1 vb3) cA (GSh g 5) ++ Wl (csS 6) (adL ad0 1 vb4) cA (GSh g 6) ++ Wl (csS 7) (adL ad0 1 vb5) cA (GSh g 7))) H1 locs1 := hW
  generalize H1 = H at hW ⊢
  generalize locs1 = locs at hW ⊢
  refine k_aast (x := 4) B hK hW 1 4 1 rfl rfl (by decide) (va_P.one (hW.1 50 _ rfl)) (by unfold vp_in; decide) dKHis_33 (fun H locs hW => ?_)
  have hW : Wk D (Ab q) s ((q, .inr (cix 13, [.ref a1, .int (i32 0), .int (i32 0)])) :: ([(a1, .inl (cA 4, 8, .inr (.inr (.inr (.inr (va_up (va_up (va_up (va_up (va_up (fun _ => none) 0 (some (vb1.getD 0 0))) 1 (some (vb2.getD 0 0))) 2 (some (vb3.getD 0 0))) 3 (some (vb4.getD 0 0))) 4 (some (vb5.getD 0 0))))))))] ++ Wl (csS 3) (adL ad0 1 vb1) cA (GSh g 3) ++ Wl (csS 4) (adL ad0 1 vb2) cA (GSh g 4) ++ Wl (csS 5) (adL ad0 1 vb3) cA (GSh g 5) ++ Wl (csS 6) (adL ad0 1 vb4) cA (GSh g 6) ++ Wl (csS 7) (adL ad0 1 vb5) cA (GSh g 7))) H locs := hW
  refine lv_iinc (lv' := [(1, .int 5), (0, .ref q)]) (k := 0) (x := 4) (v := 5) B.1 B.2.1 dKHis_34 hl rfl (by decide) (by decide) rfl (fun ls hl => ?_)
  refine lv_goto (tgt := 15) B.1 B.2.1 dKHis_37 (by decide) ?_
  refine lv_iload_n B.1 B.2.1 dKHis_15 rfl (lv_at hl 0 rfl) ?_
  refine lv_bipush (v := 8) B.1 B.2.1 dKHis_16 (by decide) ?_
  refine lv_icmp_ge (tgt := 40) B.1 B.2.1 dKHis_18 (by decide) (fun h => absurd h (by decide)) (fun _ => ?_)
  refine lv_aload_n B.1 B.2.1 dKHis_21 rfl (lv_at hl 1 rfl) ?_
  refine k_get (t := 13) (k := 0) (q0 := 0) B (by decide) (by decide) (gw_at (k := 1) (i := 146) rfl rfl) hK hW.1 rfl rfl dKHis_22 ?_
  refine lv_iload_n B.1 B.2.1 dKHis_25 rfl (lv_at hl 0 rfl) ?_
  refine k_new (t := 1) (fs := fsKShe) B (by decide) (gw_at (k := 1) (i := 143) rfl rfl) isKShe inKShe hK hW hA ⟨Nat.le_of_ble_eq_true rfl, Nat.le_of_ble_eq_true rfl⟩ dKHis_26 bfKShe (fun b6 H hqb6 hPb6 hW hltb6 hAb6 hsb6 => ?_)
  refine lv_dup B.1 B.2.1 dKHis_29 rfl ?_
  refine k_call (t := 1) (rest := [.ref b6, .int 5, .ref a1]) (wro := []) B (ciKShe hl9 hT9 hg9 (i := 8) (by decide) D cA ad0 base b6) hE hW.2.2 hAb hqb6 hPb6 (fun _ _ h => by cases h) (fun _ _ h => by cases h) (Nat.le_trans hbq hAb6) (gw_at (k := 1) (i := 145) rfl rfl) cwKShe inKShe imKShe rfl hyKShe ⟨Nat.le_of_ble_eq_true rfl, Nat.le_of_ble_eq_true rfl⟩ ⟨Nat.le_of_ble_eq_true rfl, Nat.le_of_ble_eq_true rfl⟩ rfl (Nat.le_of_ble_eq_true rfl) hl.1 dKHis_30 (fun z h => Nat.le_trans hAb6 h) (fun H1 locs1 hpo hk hz hS => ?_)
  obtain ⟨vb6, hvb6, hPo, hDo⟩ := hpo
  subst hvb6
  have hW := hW.join hltb6 hk hPo hDo hS (fun z h => Nat.le_trans hAb6 h)
  have hW : Wk D (Ab q) s ((q, .inr (cix 13, [.ref a1, .int (i32 0), .int (i32 0)])) :: ([(a1, .inl (cA 4, 8, .inr (.inr (.inr (.inr (va_up (va_up (va_up (va_up (va_up (fun _ => none) 0 (some (vb1.getD 0 0))) 1 (some (vb2.getD 0 0))) 2 (some (vb3.getD 0 0))) 3 (some (vb4.getD 0 0))) 4 (some (vb5.getD 0 0))))))))] ++ Wl (csS 3) (adL ad0 1 vb1) cA (GSh g 3) ++ Wl (csS 4) (adL ad0 1 vb2) cA (GSh g 4) ++ Wl (csS 5) (adL ad0 1 vb3) cA (GSh g 5) ++ Wl (csS 6) (adL ad0 1 vb4) cA (GSh g 6) ++ Wl (csS 7) (adL ad0 1 vb5) cA (GSh g 7) ++ Wl (csS 8) (adL ad0 1 vb6) cA (GSh g 8))) H1 locs1 := hW
  generalize H1 = H at hW ⊢
  generalize locs1 = locs at hW ⊢
  refine k_aast (x := 5) B hK hW 1 4 1 rfl rfl (by decide) (va_P.one (hW.1 62 _ rfl)) (by unfold vp_in; decide) dKHis_33 (fun H locs hW => ?_)
  have hW : Wk D (Ab q) s ((q, .inr (cix 13, [.ref a1, .int (i32 0), .int (i32 0)])) :: ([(a1, .inl (cA 4, 8, .inr (.inr (.inr (.inr (va_up (va_up (va_up (va_up (va_up (va_up (fun _ => none) 0 (some (vb1.getD 0 0))) 1 (some (vb2.getD 0 0))) 2 (some (vb3.getD 0 0))) 3 (some (vb4.getD 0 0))) 4 (some (vb5.getD 0 0))) 5 (some (vb6.getD 0 0))))))))] ++ Wl (csS 3) (adL ad0 1 vb1) cA (GSh g 3) ++ Wl (csS 4) (adL ad0 1 vb2) cA (GSh g 4) ++ Wl (csS 5) (adL ad0 1 vb3) cA (GSh g 5) ++ Wl (csS 6) (adL ad0 1 vb4) cA (GSh g 6) ++ Wl (csS 7) (adL ad0 1 vb5) cA (GSh g 7) ++ Wl (csS 8) (adL ad0 1 vb6) cA (GSh g 8))) H locs := hW
  refine lv_iinc (lv' := [(1, .int 6), (0, .ref q)]) (k := 0) (x := 5) (v := 6) B.1 B.2.1 dKHis_34 hl rfl (by decide) (by decide) rfl (fun ls hl => ?_)
  refine lv_goto (tgt := 15) B.1 B.2.1 dKHis_37 (by decide) ?_
  refine lv_iload_n B.1 B.2.1 dKHis_15 rfl (lv_at hl 0 rfl) ?_
  refine lv_bipush (v := 8) B.1 B.2.1 dKHis_16 (by decide) ?_
  refine lv_icmp_ge (tgt := 40) B.1 B.2.1 dKHis_18 (by decide) (fun h => absurd h (by decide)) (fun _ => ?_)
  refine lv_aload_n B.1 B.2.1 dKHis_21 rfl (lv_at hl 1 rfl) ?_
  refine k_get (t := 13) (k := 0) (q0 := 0) B (by decide) (by decide) (gw_at (k := 1) (i := 146) rfl rfl) hK hW.1 rfl rfl dKHis_22 ?_
  refine lv_iload_n B.1 B.2.1 dKHis_25 rfl (lv_at hl 0 rfl) ?_
  refine k_new (t := 1) (fs := fsKShe) B (by decide) (gw_at (k := 1) (i := 143) rfl rfl) isKShe inKShe hK hW hA ⟨Nat.le_of_ble_eq_true rfl, Nat.le_of_ble_eq_true rfl⟩ dKHis_26 bfKShe (fun b7 H hqb7 hPb7 hW hltb7 hAb7 hsb7 => ?_)
  refine lv_dup B.1 B.2.1 dKHis_29 rfl ?_
  refine k_call (t := 1) (rest := [.ref b7, .int 6, .ref a1]) (wro := []) B (ciKShe hl9 hT9 hg9 (i := 9) (by decide) D cA ad0 base b7) hE hW.2.2 hAb hqb7 hPb7 (fun _ _ h => by cases h) (fun _ _ h => by cases h) (Nat.le_trans hbq hAb7) (gw_at (k := 1) (i := 145) rfl rfl) cwKShe inKShe imKShe rfl hyKShe ⟨Nat.le_of_ble_eq_true rfl, Nat.le_of_ble_eq_true rfl⟩ ⟨Nat.le_of_ble_eq_true rfl, Nat.le_of_ble_eq_true rfl⟩ rfl (Nat.le_of_ble_eq_true rfl) hl.1 dKHis_30 (fun z h => Nat.le_trans hAb7 h) (fun H1 locs1 hpo hk hz hS => ?_)
  obtain ⟨vb7, hvb7, hPo, hDo⟩ := hpo
  subst hvb7
  have hW := hW.join hltb7 hk hPo hDo hS (fun z h => Nat.le_trans hAb7 h)
  have hW : Wk D (Ab q) s ((q, .inr (cix 13, [.ref a1, .int (i32 0), .int (i32 0)])) :: ([(a1, .inl (cA 4, 8, .inr (.inr (.inr (.inr (va_up (va_up (va_up (va_up (va_up (va_up (fun _ => none) 0 (some (vb1.getD 0 0))) 1 (some (vb2.getD 0 0))) 2 (some (vb3.getD 0 0))) 3 (some (vb4.getD 0 0))) 4 (some (vb5.getD 0 0))) 5 (some (vb6.getD 0 0))))))))] ++ Wl (csS 3) (adL ad0 1 vb1) cA (GSh g 3) ++ Wl (csS 4) (adL ad0 1 vb2) cA (GSh g 4) ++ Wl (csS 5) (adL ad0 1 vb3) cA (GSh g 5) ++ Wl (csS 6) (adL ad0 1 vb4) cA (GSh g 6) ++ Wl (csS 7) (adL ad0 1 vb5) cA (GSh g 7) ++ Wl (csS 8) (adL ad0 1 vb6) cA (GSh g 8) ++ Wl (csS 9) (adL ad0 1 vb7) cA (GSh g 9))) H1 locs1 := hW
  generalize H1 = H at hW ⊢
  generalize locs1 = locs at hW ⊢
  refine k_aast (x := 6) B hK hW 1 4 1 rfl rfl (by decide) (va_P.one (hW.1 74 _ rfl)) (by unfold vp_in; decide) dKHis_33 (fun H locs hW => ?_)
  have hW : Wk D (Ab q) s ((q, .inr (cix 13, [.ref a1, .int (i32 0), .int (i32 0)])) :: ([(a1, .inl (cA 4, 8, .inr (.inr (.inr (.inr (va_up (va_up (va_up (va_up (va_up (va_up (va_up (fun _ => none) 0 (some (vb1.getD 0 0))) 1 (some (vb2.getD 0 0))) 2 (some (vb3.getD 0 0))) 3 (some (vb4.getD 0 0))) 4 (some (vb5.getD 0 0))) 5 (some (vb6.getD 0 0))) 6 (some (vb7.getD 0 0))))))))] ++ Wl (csS 3) (adL ad0 1 vb1) cA (GSh g 3) ++ Wl (csS 4) (adL ad0 1 vb2) cA (GSh g 4) ++ Wl (csS 5) (adL ad0 1 vb3) cA (GSh g 5) ++ Wl (csS 6) (adL ad0 1 vb4) cA (GSh g 6) ++ Wl (csS 7) (adL ad0 1 vb5) cA (GSh g 7) ++ Wl (csS 8) (adL ad0 1 vb6) cA (GSh g 8) ++ Wl (csS 9) (adL ad0 1 vb7) cA (GSh g 9))) H locs := hW
  refine lv_iinc (lv' := [(1, .int 7), (0, .ref q)]) (k := 0) (x := 6) (v := 7) B.1 B.2.1 dKHis_34 hl rfl (by decide) (by decide) rfl (fun ls hl => ?_)
  refine lv_goto (tgt := 15) B.1 B.2.1 dKHis_37 (by decide) ?_
  refine lv_iload_n B.1 B.2.1 dKHis_15 rfl (lv_at hl 0 rfl) ?_
  refine lv_bipush (v := 8) B.1 B.2.1 dKHis_16 (by decide) ?_
  refine lv_icmp_ge (tgt := 40) B.1 B.2.1 dKHis_18 (by decide) (fun h => absurd h (by decide)) (fun _ => ?_)
  refine lv_aload_n B.1 B.2.1 dKHis_21 rfl (lv_at hl 1 rfl) ?_
  refine k_get (t := 13) (k := 0) (q0 := 0) B (by decide) (by decide) (gw_at (k := 1) (i := 146) rfl rfl) hK hW.1 rfl rfl dKHis_22 ?_
  refine lv_iload_n B.1 B.2.1 dKHis_25 rfl (lv_at hl 0 rfl) ?_
  refine k_new (t := 1) (fs := fsKShe) B (by decide) (gw_at (k := 1) (i := 143) rfl rfl) isKShe inKShe hK hW hA ⟨Nat.le_of_ble_eq_true rfl, Nat.le_of_ble_eq_true rfl⟩ dKHis_26 bfKShe (fun b8 H hqb8 hPb8 hW hltb8 hAb8 hsb8 => ?_)
  refine lv_dup B.1 B.2.1 dKHis_29 rfl ?_
  refine k_call (t := 1) (rest := [.ref b8, .int 7, .ref a1]) (wro := []) B (ciKShe hl9 hT9 hg9 (i := 10) (by decide) D cA ad0 base b8) hE hW.2.2 hAb hqb8 hPb8 (fun _ _ h => by cases h) (fun _ _ h => by cases h) (Nat.le_trans hbq hAb8) (gw_at (k := 1) (i := 145) rfl rfl) cwKShe inKShe imKShe rfl hyKShe ⟨Nat.le_of_ble_eq_true rfl, Nat.le_of_ble_eq_true rfl⟩ ⟨Nat.le_of_ble_eq_true rfl, Nat.le_of_ble_eq_true rfl⟩ rfl (Nat.le_of_ble_eq_true rfl) hl.1 dKHis_30 (fun z h => Nat.le_trans hAb8 h) (fun H1 locs1 hpo hk hz hS => ?_)
  obtain ⟨vb8, hvb8, hPo, hDo⟩ := hpo
  subst hvb8
  have hW := hW.join hltb8 hk hPo hDo hS (fun z h => Nat.le_trans hAb8 h)
  have hW : Wk D (Ab q) s ((q, .inr (cix 13, [.ref a1, .int (i32 0), .int (i32 0)])) :: ([(a1, .inl (cA 4, 8, .inr (.inr (.inr (.inr (va_up (va_up (va_up (va_up (va_up (va_up (va_up (fun _ => none) 0 (some (vb1.getD 0 0))) 1 (some (vb2.getD 0 0))) 2 (some (vb3.getD 0 0))) 3 (some (vb4.getD 0 0))) 4 (some (vb5.getD 0 0))) 5 (some (vb6.getD 0 0))) 6 (some (vb7.getD 0 0))))))))] ++ Wl (csS 3) (adL ad0 1 vb1) cA (GSh g 3) ++ Wl (csS 4) (adL ad0 1 vb2) cA (GSh g 4) ++ Wl (csS 5) (adL ad0 1 vb3) cA (GSh g 5) ++ Wl (csS 6) (adL ad0 1 vb4) cA (GSh g 6) ++ Wl (csS 7) (adL ad0 1 vb5) cA (GSh g 7) ++ Wl (csS 8) (adL ad0 1 vb6) cA (GSh g 8) ++ Wl (csS 9) (adL ad0 1 vb7) cA (GSh g 9) ++ Wl (csS 10) (adL ad0 1 vb8) cA (GSh g 10))) H1 locs1 := hW
  generalize H1 = H at hW ⊢
  generalize locs1 = locs at hW ⊢
  refine k_aast (x := 7) B hK hW 1 4 1 rfl rfl (by decide) (va_P.one (hW.1 86 _ rfl)) (by unfold vp_in; decide) dKHis_33 (fun H locs hW => ?_)
  have hW : Wk D (Ab q) s ((q, .inr (cix 13, [.ref a1, .int (i32 0), .int (i32 0)])) :: ([(a1, .inl (cA 4, 8, .inr (.inr (.inr (.inr (va_up (va_up (va_up (va_up (va_up (va_up (va_up (va_up (fun _ => none) 0 (some (vb1.getD 0 0))) 1 (some (vb2.getD 0 0))) 2 (some (vb3.getD 0 0))) 3 (some (vb4.getD 0 0))) 4 (some (vb5.getD 0 0))) 5 (some (vb6.getD 0 0))) 6 (some (vb7.getD 0 0))) 7 (some (vb8.getD 0 0))))))))] ++ Wl (csS 3) (adL ad0 1 vb1) cA (GSh g 3) ++ Wl (csS 4) (adL ad0 1 vb2) cA (GSh g 4) ++ Wl (csS 5) (adL ad0 1 vb3) cA (GSh g 5) ++ Wl (csS 6) (adL ad0 1 vb4) cA (GSh g 6) ++ Wl (csS 7) (adL ad0 1 vb5) cA (GSh g 7) ++ Wl (csS 8) (adL ad0 1 vb6) cA (GSh g 8) ++ Wl (csS 9) (adL ad0 1 vb7) cA (GSh g 9) ++ Wl (csS 10) (adL ad0 1 vb8) cA (GSh g 10))) H locs := hW
  refine lv_iinc (lv' := [(1, .int 8), (0, .ref q)]) (k := 0) (x := 7) (v := 8) B.1 B.2.1 dKHis_34 hl rfl (by decide) (by decide) rfl (fun ls hl => ?_)
  refine lv_goto (tgt := 15) B.1 B.2.1 dKHis_37 (by decide) ?_
  refine lv_iload_n B.1 B.2.1 dKHis_15 rfl (lv_at hl 0 rfl) ?_
  refine lv_bipush (v := 8) B.1 B.2.1 dKHis_16 (by decide) ?_
  refine lv_icmp_ge (tgt := 40) B.1 B.2.1 dKHis_18 (by decide) (fun _ => ?_) (fun h => absurd (by decide) h)
  have hW := hW.arr 1 (f' := fun j => some (((fun j => match j with | 0 => vb1 | 1 => vb2 | 2 => vb3 | 3 => vb4 | 4 => vb5 | 5 => vb6 | 6 => vb7 | _ => vb8) j : List Nat).getD 0 0)) rfl (fun j hj => by
    match j, hj with
    | 0, _ => exact rfl
    | 1, _ => exact rfl
    | 2, _ => exact rfl
    | 3, _ => exact rfl
    | 4, _ => exact rfl
    | 5, _ => exact rfl
    | 6, _ => exact rfl
    | 7, _ => exact rfl
    | k + 8, hj => omega)
  exact k_ret B hW.2.2 ⟨a1, (fun j => match j with | 0 => vb1 | 1 => vb2 | 2 => vb3 | 3 => vb4 | 4 => vb5 | 5 => vb6 | 6 => vb7 | _ => vb8), hW.1, hW.2.1⟩ dKHis_40 ⟨Nat.le_of_ble_eq_true rfl, Nat.le_of_ble_eq_true rfl⟩
