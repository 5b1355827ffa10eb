/-! ===== fields and arrays ===== -/
theorem lg_j {a b : Int} (ha : inJ a) (hb : inJ b) : i32 (jCmp a b) = lg_cmp (i64 a) (i64 b) := by
  have e1 : i64 a < i64 b ↔ a < b := by rw [Int64.lt_iff_toInt_lt, i64_toInt ha, i64_toInt hb]
  have e3 : i64 b < i64 a ↔ b < a := by rw [Int64.lt_iff_toInt_lt, i64_toInt ha, i64_toInt hb]
  have e2 : i64 a = i64 b ↔ a = b := ⟨fun h => by rw [← i64_toInt ha, ← i64_toInt hb, h], fun h => by rw [h]⟩
  unfold jCmp lg_cmp
  by_cases h1 : a < b
  · rw [if_pos h1, if_neg (fun z => by have := e3.mp z; omega), if_neg (fun z => by have := e2.mp z; omega)]; rfl
  · rw [if_neg h1]
    by_cases h2 : a = b
    · rw [if_pos h2, if_neg (fun z => by have := e3.mp z; omega), if_pos (e2.mpr h2)]; rfl
    · rw [if_neg h2, if_pos (e3.mpr (by omega))]; rfl
theorem jCmp_R (a b : Int) : inR (jCmp a b) := by
  unfold jCmp inR
  split
  · omega
  · split <;> omega
theorem nar_bool {x : Int} (h : 0 ≤ x ∧ x ≤ 1) : narrow .boolean (.int (i32 x)) = .int (i32 x) ∧ fits .boolean (.int (i32 x)) = true := by
  have : x = 0 ∨ x = 1 := by omega
  rcases this with rfl | rfl <;> exact ⟨by decide, by decide⟩
theorem i32_nI {x : Int} (h0 : 0 ≤ x) : i32 x = nI x.toNat := by
  show Int32.ofInt x = Int32.ofNat x.toNat
  rw [show x = (x.toNat : Int) by omega]
  rfl
theorem nar_char {x : Int} (h : 0 ≤ x ∧ x < 65536) : narrow .char (.int (i32 x)) = .int (i32 x) ∧ fits .char (.int (i32 x)) = true := by
  rw [i32_nI h.1]
  exact pk_charN (by omega)
theorem vp_nar_chr {x : Int} (h : 0 ≤ x ∧ x < 65536) : vp_nar .char (i32 x) = i32 x := by
  unfold vp_nar
  rw [(nar_char h).1]
theorem updL_i64 (g : Int → Int) {j v : Int} (hj : 0 ≤ j) : vp_updL (fun q : Nat => i64 (g (q : Int))) j.toNat (i64 v) = fun q : Nat => i64 (if (q : Int) = j then v else g (q : Int)) := by
  funext q
  unfold vp_updL
  by_cases h : (q : Int) = j
  · rw [if_pos (by omega), if_pos h]
  · rw [if_neg (by omega), if_neg h]
theorem updD_bits (g : Int → Int) {j : Int} {v : UInt64} (hj : 0 ≤ j) : vf_upd (fun q : Nat => dBits (g (q : Int))) j.toNat v = fun q : Nat => dBits (if (q : Int) = j then dInt v else g (q : Int)) := by
  funext q
  unfold vf_upd
  by_cases h : (q : Int) = j
  · rw [if_pos (by omega), if_pos h]
    unfold dBits dInt
    simp
  · rw [if_neg (by omega), if_neg h]
theorem cpy_i32 (G : GG) (ts : Nat) (is sp : Int) (td : Nat) (id dp n : Int) (h1 : 0 ≤ sp) (h2 : 0 ≤ dp) (h3 : 0 ≤ n) :
    va_cpy (fun q : Nat => i32 (G ts is (q : Int))) (fun q : Nat => i32 (G td id (q : Int))) sp.toNat dp.toNat n.toNat = fun q : Nat => i32 (cpy G ts is sp td id dp n td id (q : Int)) := by
  funext q
  unfold va_cpy cpy
  by_cases h : dp ≤ (q : Int) ∧ (q : Int) < dp + n
  · rw [if_pos ⟨by omega, by omega⟩, if_pos ⟨rfl, rfl, h.1, h.2⟩]
    show i32 (G ts is ((sp.toNat + (q - dp.toNat) : Nat) : Int)) = _
    rw [show ((sp.toNat + (q - dp.toNat) : Nat) : Int) = sp + ((q : Int) - dp) by omega]
  · rw [if_neg (fun z => h ⟨by omega, by omega⟩), if_neg (fun z => h ⟨z.2.2.1, z.2.2.2⟩)]
theorem elt_ok {t : Nat} {i j : Int} (ht : t < 44) (h5 : akd t = 5) (h0 : 0 ≤ j) (h1 : j < alc t) : Cell_ (elt t i j).1 (elt t i j).2 := by
  rcases (akd_cells t ht).2.2.2.2.2.2.1 h5 with rfl | rfl | rfl | rfl
  · have h : j < 8 := h1
    exact (show Cell_ 1 (j + 3) from ⟨by decide, by omega, (show j + 3 < 11 by omega)⟩)
  · have h : j < 5 := h1
    exact (show Cell_ 2 (lix j) from ⟨by decide, lix_in h0 h⟩)
  · have h : j < 5 := h1
    exact (show Cell_ 7 (lix j) from ⟨by decide, lix_in h0 h⟩)
  · have h : j < 5 := h1
    exact (show Cell_ 19 j from ⟨by decide, h0, h⟩)
theorem Clo_all : Clo cells_ := ⟨fun t i h => mem_cells.mp h, fun t i k h hk => mem_cells.mpr (tg_all _ hk i (mem_cells.mp h).2.1 (mem_cells.mp h).2.2), fun t i j h h5 h0 h1 => mem_cells.mpr (elt_ok (i := i) (mem_cells.mp h).1 h5 h0 h1)⟩
section SN3
variable {cs : CS} {p : Program} {l : Launch} {e : Env} {R : Room} {s : State} {m : MethodId} {args : Array Value} {below : List Frame} {meth : Method} {c : Code} {D : va_G} {ad : Nat → Int → Nat} {cA : Nat → ClassId} {base y : Nat} {c0 : Int} {Q : State → Prop} {pc : Nat} {ls : Lcs} {st : List AV} {G : GG}
theorem sn_lcmp (X : Cx cs p R s m args meth c D ad cA base y) {a b : Int} (hd : decode (byt y) pc = .ok (.lcmp, 1)) (k : WJ cs p l e R s m args below meth c D ad cA base y c0 Q (pc + 1) ls (.inl (jCmp a b) :: st) G) : WJ cs p l e R s m args below meth c D ad cA base y c0 Q pc ls (.inr (.inr (.inl b)) :: .inr (.inr (.inl a)) :: st) G := by
  intro H locs lsC hS hL hst hr
  obtain ⟨hx, hb, hml, hown, hts, hE, htab, hlk, hRf, hRl, hCl⟩ := X
  refine W.lcmp hx hb hd ?_
  have e : i32 (jCmp a b) = lg_cmp (i64 a) (i64 b) := lg_j hst.tail.head hst.head
  have h := k H locs lsC hS hL (okS.cons (jCmp_R a b) hst.tail.tail) hr
  simp only [List.map_cons, cv, e] at h
  exact h
theorem sn_getI (X : Cx cs p R s m args meth c D ad cA base y) {idx t sn f : Nat} {i : Int} (hF : FF (own y, idx, t, sn, f)) (hf : Nat.beq f 3 = false) (hd : decode (byt y) pc = .ok (.getfield idx, 3)) (k : WJ cs p l e R s m args below meth c D ad cA base y c0 Q (pc + 3) ls (.inl (G t i (sn : Int)) :: st) G) : WJ cs p l e R s m args below meth c D ad cA base y c0 Q pc ls (.inr (.inl (t, i)) :: st) G := by
  intro H locs lsC hS hL hst hr
  obtain ⟨hx, hb, hml, hown, hts, hE, htab, hlk, hRf, hRl, hCl⟩ := X
  have ho : t ∈ objs := hF.1
  have hc : (t, i) ∈ cs := Ref_.cell hst.head (objs_lt t ho).1
  obtain ⟨p0, hp0, hW⟩ := Wl_at ad cA hc
  have he := hW G
  rw [wE_obj (objs_lt t ho).2.1] at he
  have ev : fvl ad (G t i) t i sn = .int (i32 (G t i (sn : Int))) := by
    have h3 : f = ftk t sn := hF.2.2.1
    unfold fvl
    rw [← h3, hf]
    rfl
  refine va_get (D := D) (ci := cix t) (C := Rt t) (T := Tt t) (N := Nf t) hx hb hts (inT t ho) hown hE.1 hS.1 p0 he (cls_at t ho) sn hF.2.1 (hts _ hF.2.2.2) (fun x h9 => by rw [own_ok t ho sn hF.2.1] at h9; exact h9) (range_get _ hF.2.1) hd ?_
  rw [ev]
  exact k H locs lsC hS hL (okS.cons ((hS.2.2.1 t i sn).2 (objs_lt t ho).2.2.1 (objs_lt t ho).2.2.2.1 (objs_lt t ho).2.2.2.2) hst.tail) hr
theorem sn_getR (X : Cx cs p R s m args meth c D ad cA base y) {idx t sn f : Nat} {i : Int} (hF : FF (own y, idx, t, sn, f)) (hf : Nat.beq f 3 = true) (hd : decode (byt y) pc = .ok (.getfield idx, 3)) (k : WJ cs p l e R s m args below meth c D ad cA base y c0 Q (pc + 3) ls (.inr (.inl (tgt t (sn : Int) i)) :: st) G) : WJ cs p l e R s m args below meth c D ad cA base y c0 Q pc ls (.inr (.inl (t, i)) :: st) G := by
  intro H locs lsC hS hL hst hr
  obtain ⟨hx, hb, hml, hown, hts, hE, htab, hlk, hRf, hRl, hCl⟩ := X
  have ho : t ∈ objs := hF.1
  have hc : (t, i) ∈ cs := Ref_.cell hst.head (objs_lt t ho).1
  obtain ⟨p0, hp0, hW⟩ := Wl_at ad cA hc
  have he := hW G
  rw [wE_obj (objs_lt t ho).2.1] at he
  have h3 : f = ftk t sn := hF.2.2.1
  have ev : fvl ad (G t i) t i sn = .ref (ad (tgt t (sn : Int) i).1 (tgt t (sn : Int) i).2) := by
    unfold fvl
    rw [← h3, hf]
    rfl
  have hk := fk_all t ho sn hF.2.1
  have hk2 : (t, sn) ∈ tgL := by
    unfold fkOK at hk
    simp only [← h3, Nat.eq_of_beq_eq_true hf] at hk
    exact of_decide_eq_true hk
  refine va_get (D := D) (ci := cix t) (C := Rt t) (T := Tt t) (N := Nf t) hx hb hts (inT t ho) hown hE.1 hS.1 p0 he (cls_at t ho) sn hF.2.1 (hts _ hF.2.2.2) (fun x h9 => by rw [own_ok t ho sn hF.2.1] at h9; exact h9) (range_get _ hF.2.1) hd ?_
  rw [ev]
  exact k H locs lsC hS hL (okS.cons (Or.inl (hCl.2.1 t i sn hc hk2)) hst.tail) hr
theorem sn_putI (X : Cx cs p R s m args meth c D ad cA base y) {idx t sn : Nat} {i x : Int} (hF : FF (own y, idx, t, sn, 0)) (hxr : True) (hd : decode (byt y) pc = .ok (.putfield idx, 3)) (k : WJ cs p l e R s m args below meth c D ad cA base y c0 Q (pc + 3) ls st (up G t i (sn : Int) x)) : WJ cs p l e R s m args below meth c D ad cA base y c0 Q pc ls (.inl x :: .inr (.inl (t, i)) :: st) G := by
  intro H locs lsC hS hL hst hr
  obtain ⟨hx, hb, hml, hown, hts, hE, htab, hlk, hRf, hRl, hCl⟩ := X
  have ho : t ∈ objs := hF.1
  have hlt := objs_lt t ho
  have hc : (t, i) ∈ cs := Ref_.cell hst.tail.head hlt.1
  obtain ⟨p0, hp0, hW⟩ := Wl_at ad cA hc
  have he := hW G
  rw [wE_obj hlt.2.1] at he
  have h3 : 0 = ftk t sn := hF.2.2.1
  have hk := fk_all t ho sn hF.2.1
  unfold fkOK at hk
  simp only [← h3, Bool.and_eq_true, decide_eq_true_eq, Bool.not_eq_true'] at hk
  have hty := tyt_ok t ho sn hF.2.1
  rw [hk.1] at hty
  have hD : va_D (Ab base) (Wl cs ad cA G) := va_D_Wl G hE.2.2.2.2.2.2.2.2
  have hn := (⟨rfl, rfl⟩ : narrow .int (.int (i32 x)) = .int (i32 x) ∧ fits .int (.int (i32 x)) = true)
  refine va_put (D := D) (ci := cix t) (ty := .int) (v := .int (i32 x)) (C := Rt t) (T := Tt t) (N := Nf t) hx hb hts (inT t ho) (tyt t) (tyt_ok t ho) (nmt_ok t ho) hown hE.1 hS.1 hD hS.2.1 p0 he (cls_at t ho) sn hF.2.1 (hts _ hF.2.2.2) (fun x h9 => by rw [own_ok t ho sn hF.2.1] at h9; exact h9) hk.2 hty hn.1 hn.2 (by simp; exact hF.2.1) hd (fun H1 locs1 hP1 hD1 hS1 => ?_)
  have hfk : Nat.beq (ftk t sn) 3 = false := by rw [← h3]; rfl
  rw [fields_up ad G i x hfk (Nf t), ← wE_obj (cA := cA) (i := i) hlt.2.1, Wl_set hCl.1 (G' := up G t i (sn : Int) x) hD hp0 (fun t' i' hne _ q => up_ne hne q)] at hP1
  have h := k H1 locs1 lsC (St_up hS hlt.1 (fun e => absurd e hlt.2.2.1) (fun _ _ _ => hst.head) hP1 hS1) hL hst.tail.tail hr
  rw [cst_up c0 G i _ x hlt.1] at h
  exact h
theorem sn_putZ (X : Cx cs p R s m args meth c D ad cA base y) {idx t sn : Nat} {i x : Int} (hF : FF (own y, idx, t, sn, 1)) (hxr : 0 ≤ x ∧ x ≤ 1) (hd : decode (byt y) pc = .ok (.putfield idx, 3)) (k : WJ cs p l e R s m args below meth c D ad cA base y c0 Q (pc + 3) ls st (up G t i (sn : Int) x)) : WJ cs p l e R s m args below meth c D ad cA base y c0 Q pc ls (.inl x :: .inr (.inl (t, i)) :: st) G := by
  intro H locs lsC hS hL hst hr
  obtain ⟨hx, hb, hml, hown, hts, hE, htab, hlk, hRf, hRl, hCl⟩ := X
  have ho : t ∈ objs := hF.1
  have hlt := objs_lt t ho
  have hc : (t, i) ∈ cs := Ref_.cell hst.tail.head hlt.1
  obtain ⟨p0, hp0, hW⟩ := Wl_at ad cA hc
  have he := hW G
  rw [wE_obj hlt.2.1] at he
  have h3 : 1 = ftk t sn := hF.2.2.1
  have hk := fk_all t ho sn hF.2.1
  unfold fkOK at hk
  simp only [← h3, Bool.and_eq_true, decide_eq_true_eq, Bool.not_eq_true'] at hk
  have hty := tyt_ok t ho sn hF.2.1
  rw [hk.1] at hty
  have hD : va_D (Ab base) (Wl cs ad cA G) := va_D_Wl G hE.2.2.2.2.2.2.2.2
  have hn := nar_bool hxr
  refine va_put (D := D) (ci := cix t) (ty := .boolean) (v := .int (i32 x)) (C := Rt t) (T := Tt t) (N := Nf t) hx hb hts (inT t ho) (tyt t) (tyt_ok t ho) (nmt_ok t ho) hown hE.1 hS.1 hD hS.2.1 p0 he (cls_at t ho) sn hF.2.1 (hts _ hF.2.2.2) (fun x h9 => by rw [own_ok t ho sn hF.2.1] at h9; exact h9) hk.2 hty hn.1 hn.2 (by simp; exact hF.2.1) hd (fun H1 locs1 hP1 hD1 hS1 => ?_)
  have hfk : Nat.beq (ftk t sn) 3 = false := by rw [← h3]; rfl
  rw [fields_up ad G i x hfk (Nf t), ← wE_obj (cA := cA) (i := i) hlt.2.1, Wl_set hCl.1 (G' := up G t i (sn : Int) x) hD hp0 (fun t' i' hne _ q => up_ne hne q)] at hP1
  have h := k H1 locs1 lsC (St_up hS hlt.1 (fun e => absurd e hlt.2.2.1) (fun _ _ _ => hst.head) hP1 hS1) hL hst.tail.tail hr
  rw [cst_up c0 G i _ x hlt.1] at h
  exact h
theorem sn_putC (X : Cx cs p R s m args meth c D ad cA base y) {idx t sn : Nat} {i x : Int} (hF : FF (own y, idx, t, sn, 2)) (hxr : 0 ≤ x ∧ x < 65536) (hd : decode (byt y) pc = .ok (.putfield idx, 3)) (k : WJ cs p l e R s m args below meth c D ad cA base y c0 Q (pc + 3) ls st (up G t i (sn : Int) x)) : WJ cs p l e R s m args below meth c D ad cA base y c0 Q pc ls (.inl x :: .inr (.inl (t, i)) :: st) G := by
  intro H locs lsC hS hL hst hr
  obtain ⟨hx, hb, hml, hown, hts, hE, htab, hlk, hRf, hRl, hCl⟩ := X
  have ho : t ∈ objs := hF.1
  have hlt := objs_lt t ho
  have hc : (t, i) ∈ cs := Ref_.cell hst.tail.head hlt.1
  obtain ⟨p0, hp0, hW⟩ := Wl_at ad cA hc
  have he := hW G
  rw [wE_obj hlt.2.1] at he
  have h3 : 2 = ftk t sn := hF.2.2.1
  have hk := fk_all t ho sn hF.2.1
  unfold fkOK at hk
  simp only [← h3, Bool.and_eq_true, decide_eq_true_eq, Bool.not_eq_true'] at hk
  have hty := tyt_ok t ho sn hF.2.1
  rw [hk.1] at hty
  have hD : va_D (Ab base) (Wl cs ad cA G) := va_D_Wl G hE.2.2.2.2.2.2.2.2
  have hn := nar_char hxr
  refine va_put (D := D) (ci := cix t) (ty := .char) (v := .int (i32 x)) (C := Rt t) (T := Tt t) (N := Nf t) hx hb hts (inT t ho) (tyt t) (tyt_ok t ho) (nmt_ok t ho) hown hE.1 hS.1 hD hS.2.1 p0 he (cls_at t ho) sn hF.2.1 (hts _ hF.2.2.2) (fun x h9 => by rw [own_ok t ho sn hF.2.1] at h9; exact h9) hk.2 hty hn.1 hn.2 (by simp; exact hF.2.1) hd (fun H1 locs1 hP1 hD1 hS1 => ?_)
  have hfk : Nat.beq (ftk t sn) 3 = false := by rw [← h3]; rfl
  rw [fields_up ad G i x hfk (Nf t), ← wE_obj (cA := cA) (i := i) hlt.2.1, Wl_set hCl.1 (G' := up G t i (sn : Int) x) hD hp0 (fun t' i' hne _ q => up_ne hne q)] at hP1
  have h := k H1 locs1 lsC (St_up hS hlt.1 (fun e => absurd e hlt.2.2.1) (fun _ _ _ => hst.head) hP1 hS1) hL hst.tail.tail hr
  rw [cst_up c0 G i _ x hlt.1] at h
  exact h
theorem sn_getLim (X : Cx cs p R s m args meth c D ad cA base y) (hy : own y = 9) (hd : decode (byt y) pc = .ok (.getstatic 170, 3)) (k : WJ cs p l e R s m args below meth c D ad cA base y c0 Q (pc + 3) ls (.inr (.inl (45, 0)) :: st) G) : WJ cs p l e R s m args below meth c D ad cA base y c0 Q pc ls st G := by
  intro H locs lsC hS hL hst hr
  obtain ⟨hx, hb, hml, hown, hts, hE, htab, hlk, hRf, hRl, hCl⟩ := X
  rw [hy] at hown
  exact va_gets (C := "MapGeneralizer") (ref := "MapGeneralizer") hx hb hE.2.1 hS.2.1 hown (hts _ gst_lim) (fun _ h => h) hd (k H locs lsC hS hL (okS.cons (Or.inr ⟨by decide, by decide, rfl⟩) hst) hr)
theorem sn_getSte (X : Cx cs p R s m args meth c D ad cA base y) (hy : own y = 8) (hd : decode (byt y) pc = .ok (.getstatic 56, 3)) (k : WJ cs p l e R s m args below meth c D ad cA base y c0 Q (pc + 3) ls (.inr (.inl (46, 0)) :: st) G) : WJ cs p l e R s m args below meth c D ad cA base y c0 Q pc ls st G := by
  intro H locs lsC hS hL hst hr
  obtain ⟨hx, hb, hml, hown, hts, hE, htab, hlk, hRf, hRl, hCl⟩ := X
  rw [hy] at hown
  have hown : s.vm.findClass "MapGeneralizer$Sheet" = some m.cls := hown
  exact va_getsN (C := "MapGeneralizer") (ref := "MapGeneralizer") hx hb hE.2.2.1 hS.2.1 hown (va_Nw.use rfl (hE.2.2.2.2.2.2.1 (.fieldLinkNest "MapGeneralizer$Sheet" 56 "MapGeneralizer" "SETTING_STEPS" "[I" "MapGeneralizer") (by decide))) (fun _ h => h) hd (k H locs lsC hS hL (okS.cons (Or.inr ⟨by decide, by decide, rfl⟩) hst) hr)
theorem sn_iald (X : Cx cs p R s m args meth c D ad cA base y) {t : Nat} {i j : Int} (hk : akd t = 1) (ht : t < 44) (hj2 : 0 ≤ j ∧ j < aln G t) (hd : decode (byt y) pc = .ok (.iaload, 1)) (k : WJ cs p l e R s m args below meth c D ad cA base y c0 Q (pc + 1) ls (.inl (G t i j) :: st) G) : WJ cs p l e R s m args below meth c D ad cA base y c0 Q pc ls (.inl j :: .inr (.inl (t, i)) :: st) G := by
  intro H locs lsC hS hL hst hr
  obtain ⟨hx, hb, hml, hown, hts, hE, htab, hlk, hRf, hRl, hCl⟩ := X
  have hj : inR j := hst.head
  have hc : (t, i) ∈ cs := Ref_.cell hst.tail.head ht
  obtain ⟨p0, hp0, hW⟩ := Wl_at ad cA hc
  have he := hW G
  rw [wE_int hk] at he
  have hin : vp_in (i32 j) (alc t).toNat := (vp_in_i32 hj).mpr (by rw [← aln_c G t ht]; exact hj2)
  refine va_iald (D := D) hx hb hE.1 hS.1 p0 0 he rfl hin hd ?_
  have h := k H locs lsC hS hL (okS.cons ((hS.2.2.1 t i j).2 ((akd_cells t ht).2.2.2.2.1 (by rw [hk]; decide)) ((akd_cells t ht).2.2.2.2.2.1 (by rw [hk]; decide)) (by omega)) hst.tail.tail) hr
  rw [i32_clamp hj2.1 hj]
  rw [show ((j.toNat : Nat) : Int) = j by omega]
  exact h
theorem sn_cald (X : Cx cs p R s m args meth c D ad cA base y) {t : Nat} {i j : Int} (hk : akd t = 2) (ht : t < 44) (hj2 : 0 ≤ j ∧ j < aln G t) (hd : decode (byt y) pc = .ok (.caload, 1)) (k : WJ cs p l e R s m args below meth c D ad cA base y c0 Q (pc + 1) ls (.inl (G t i j) :: st) G) : WJ cs p l e R s m args below meth c D ad cA base y c0 Q pc ls (.inl j :: .inr (.inl (t, i)) :: st) G := by
  intro H locs lsC hS hL hst hr
  obtain ⟨hx, hb, hml, hown, hts, hE, htab, hlk, hRf, hRl, hCl⟩ := X
  have hj : inR j := hst.head
  have hc : (t, i) ∈ cs := Ref_.cell hst.tail.head ht
  obtain ⟨p0, hp0, hW⟩ := Wl_at ad cA hc
  have he := hW G
  rw [wE_chr hk] at he
  have hin : vp_in (i32 j) (alc t).toNat := (vp_in_i32 hj).mpr (by rw [← aln_c G t ht]; exact hj2)
  refine va_cald (D := D) hx hb hE.1 hS.1 p0 1 he rfl hin hd ?_
  have h := k H locs lsC hS hL (okS.cons ((hS.2.2.1 t i j).2 ((akd_cells t ht).2.2.2.2.1 (by rw [hk]; decide)) ((akd_cells t ht).2.2.2.2.2.1 (by rw [hk]; decide)) (by omega)) hst.tail.tail) hr
  rw [i32_clamp hj2.1 hj]
  rw [show ((j.toNat : Nat) : Int) = j by omega]
  exact h
theorem sn_lald (X : Cx cs p R s m args meth c D ad cA base y) {t : Nat} {i j : Int} (hk : akd t = 3) (ht : t < 44) (hj2 : 0 ≤ j ∧ j < aln G t) (hd : decode (byt y) pc = .ok (.laload, 1)) (k : WJ cs p l e R s m args below meth c D ad cA base y c0 Q (pc + 1) ls (.inr (.inr (.inl (G t i j))) :: st) G) : WJ cs p l e R s m args below meth c D ad cA base y c0 Q pc ls (.inl j :: .inr (.inl (t, i)) :: st) G := by
  intro H locs lsC hS hL hst hr
  obtain ⟨hx, hb, hml, hown, hts, hE, htab, hlk, hRf, hRl, hCl⟩ := X
  have hj : inR j := hst.head
  have hc : (t, i) ∈ cs := Ref_.cell hst.tail.head ht
  obtain ⟨p0, hp0, hW⟩ := Wl_at ad cA hc
  have he := hW G
  rw [wE_lng hk] at he
  have hin : vp_in (i32 j) (alc t).toNat := (vp_in_i32 hj).mpr (by rw [← aln_c G t ht]; exact hj2)
  refine va_lald (D := D) hx hb hE.1 hS.1 p0 2 he rfl hin hd ?_
  have h := k H locs lsC hS hL (okS.cons ((hS.2.2.1 t i j).1 ((akd_cells t ht).2.1 hk)) hst.tail.tail) hr
  rw [i32_clamp hj2.1 hj]
  rw [show ((j.toNat : Nat) : Int) = j by omega]
  exact h
theorem sn_dald (X : Cx cs p R s m args meth c D ad cA base y) {t : Nat} {i j : Int} (hk : akd t = 4) (ht : t < 44) (hj2 : 0 ≤ j ∧ j < aln G t) (hd : decode (byt y) pc = .ok (.daload, 1)) (k : WJ cs p l e R s m args below meth c D ad cA base y c0 Q (pc + 1) ls (.inr (.inr (.inr (dBits (G t i j)))) :: st) G) : WJ cs p l e R s m args below meth c D ad cA base y c0 Q pc ls (.inl j :: .inr (.inl (t, i)) :: st) G := by
  intro H locs lsC hS hL hst hr
  obtain ⟨hx, hb, hml, hown, hts, hE, htab, hlk, hRf, hRl, hCl⟩ := X
  have hj : inR j := hst.head
  have hc : (t, i) ∈ cs := Ref_.cell hst.tail.head ht
  obtain ⟨p0, hp0, hW⟩ := Wl_at ad cA hc
  have he := hW G
  rw [wE_dbl hk] at he
  have hin : vp_in (i32 j) (alc t).toNat := (vp_in_i32 hj).mpr (by rw [← aln_c G t ht]; exact hj2)
  refine va_dald (D := D) hx hb hE.1 hS.1 p0 3 he rfl hin hd ?_
  have h := k H locs lsC hS hL (okS.cons trivial hst.tail.tail) hr
  rw [i32_clamp hj2.1 hj]
  rw [show ((j.toNat : Nat) : Int) = j by omega]
  exact h
theorem sn_aald (X : Cx cs p R s m args meth c D ad cA base y) {t : Nat} {i j : Int} (hk : akd t = 5) (ht : t < 44) (hj2 : 0 ≤ j ∧ j < aln G t) (hd : decode (byt y) pc = .ok (.aaload, 1)) (k : WJ cs p l e R s m args below meth c D ad cA base y c0 Q (pc + 1) ls (.inr (.inl (elt t i j)) :: st) G) : WJ cs p l e R s m args below meth c D ad cA base y c0 Q pc ls (.inl j :: .inr (.inl (t, i)) :: st) G := by
  intro H locs lsC hS hL hst hr
  obtain ⟨hx, hb, hml, hown, hts, hE, htab, hlk, hRf, hRl, hCl⟩ := X
  have hj : inR j := hst.head
  have hc : (t, i) ∈ cs := Ref_.cell hst.tail.head ht
  obtain ⟨p0, hp0, hW⟩ := Wl_at ad cA hc
  have he := hW G
  rw [wE_ref hk] at he
  have hin : vp_in (i32 j) (alc t).toNat := (vp_in_i32 hj).mpr (by rw [← aln_c G t ht]; exact hj2)
  obtain ⟨C, hC⟩ := tys_ref cA ht hk
  refine va_aldq (D := D) hx hb hE.1 hS.1 p0 (kA t) he hC hin hd ?_
  have h := k H locs lsC hS hL (okS.cons (Or.inl (hCl.2.2 t i j hc hk hj2.1 (by rw [← aln_c G t ht]; exact hj2.2))) hst.tail.tail) hr
  rw [i32_clamp hj2.1 hj]
  rw [show ((j.toNat : Nat) : Int) = j by omega]
  exact h
theorem sn_ioRo (X : Cx cs p R s m args meth c D ad cA base y) {t : Nat} {i j : Int} (ht : ¬ t < 44) (hj2 : 0 ≤ j ∧ j < aln G t) (hd : decode (byt y) pc = .ok (.iaload, 1)) (k : WJ cs p l e R s m args below meth c D ad cA base y c0 Q (pc + 1) ls (.inl (G t i j) :: st) G) : WJ cs p l e R s m args below meth c D ad cA base y c0 Q pc ls (.inl j :: .inr (.inl (t, i)) :: st) G := by
  intro H locs lsC hS hL hst hr
  obtain ⟨hx, hb, hml, hown, hts, hE, htab, hlk, hRf, hRl, hCl⟩ := X
  have hj : inR j := hst.head
  rcases hst.tail.head with h | ⟨h1, h2, rfl⟩
  · exact absurd (hCl.1 _ _ h).1 ht
  have h := k H locs lsC hS hL (okS.cons ((hS.2.2.1 t 0 j).2 (by omega) (by omega) (by omega)) hst.tail.tail) hr
  have h3 : t = 44 ∨ t = 45 ∨ t = 46 := by omega
  rcases h3 with rfl | rfl | rfl
  · refine va_ti hx hb hS.2.2.2.1.1 hS.2.1 ((vp_in_i32 hj).mpr hj2) (v := .int (i32 (G 44 0 j))) ?_ hd h
    rw [i32_clamp hj2.1 hj]
    rw [show ((j.toNat : Nat) : Int) = j by omega]
  · refine va_ti hx hb hS.2.2.2.1.2.1 hS.2.1 ((vp_in_i32 (n := 3) hj).mpr hj2) (v := .int (i32 (G 45 0 j))) ?_ hd h
    rw [i32_clamp hj2.1 hj]
    rw [show ((j.toNat : Nat) : Int) = j by omega]
  · refine va_ti hx hb hS.2.2.2.1.2.2.1 hS.2.1 ((vp_in_i32 (n := 3) hj).mpr hj2) (v := .int (i32 (G 46 0 j))) ?_ hd h
    rw [i32_clamp hj2.1 hj]
    rw [show ((j.toNat : Nat) : Int) = j by omega]
theorem sn_iast (X : Cx cs p R s m args meth c D ad cA base y) {t : Nat} {i j : Int} {x : Int} (hk : akd t = 1) (ht : t < 44) (hj2 : 0 ≤ j ∧ j < aln G t)  (hd : decode (byt y) pc = .ok (.iastore, 1)) (k : WJ cs p l e R s m args below meth c D ad cA base y c0 Q (pc + 1) ls st (up G t i j x)) : WJ cs p l e R s m args below meth c D ad cA base y c0 Q pc ls (.inl x :: .inl j :: .inr (.inl (t, i)) :: st) G := by
  intro H locs lsC hS hL hst hr
  obtain ⟨hx, hb, hml, hown, hts, hE, htab, hlk, hRf, hRl, hCl⟩ := X
  have hj : inR j := hst.tail.head
  have hc : (t, i) ∈ cs := Ref_.cell hst.tail.tail.head ht
  obtain ⟨p0, hp0, hW⟩ := Wl_at ad cA hc
  have he := hW G
  rw [wE_int hk] at he
  have hin : vp_in (i32 j) (alc t).toNat := (vp_in_i32 hj).mpr (by rw [← aln_c G t ht]; exact hj2)
  have hD : va_D (Ab base) (Wl cs ad cA G) := va_D_Wl G hE.2.2.2.2.2.2.2.2
  refine va_iast (D := D) hx hb hE.1 hS.1 hD hS.2.1 p0 0 he rfl hin hd (fun H1 locs1 hP1 hD1 hS1 => ?_)
  rw [i32_clamp hj2.1 hj, upd_i32 (G t i) hj2.1] at hP1
  have eg : (fun q : Int => if q = j then x else G t i q) = fun q => up G t i j x t i q := (up_fun G t i j x).symm
  have ew : wE ad cA (up G t i j x t i) t i = wE ad cA (fun q => if q = j then x else G t i q) t i := by rw [eg]
  rw [← wE_int (ad := ad) (cA := cA) (g := fun q => if q = j then x else G t i q) (i := i) hk, ← ew, Wl_set hCl.1 (G' := up G t i j x) hD hp0 (fun t' i' hne _ q => up_ne hne q)] at hP1
  have h := k H1 locs1 lsC (St_up hS ht (fun e => absurd e ((akd_cells t ht).2.2.2.2.1 (by rw [hk]; decide))) (fun _ _ _ => hst.head) hP1 hS1) hL hst.tail.tail.tail hr
  rw [cst_up c0 G i j x ht] at h
  exact h
theorem sn_cast (X : Cx cs p R s m args meth c D ad cA base y) {t : Nat} {i j : Int} {x : Int} (hk : akd t = 2) (ht : t < 44) (hj2 : 0 ≤ j ∧ j < aln G t) (hxr : 0 ≤ x ∧ x < 65536) (hd : decode (byt y) pc = .ok (.castore, 1)) (k : WJ cs p l e R s m args below meth c D ad cA base y c0 Q (pc + 1) ls st (up G t i j x)) : WJ cs p l e R s m args below meth c D ad cA base y c0 Q pc ls (.inl x :: .inl j :: .inr (.inl (t, i)) :: st) G := by
  intro H locs lsC hS hL hst hr
  obtain ⟨hx, hb, hml, hown, hts, hE, htab, hlk, hRf, hRl, hCl⟩ := X
  have hj : inR j := hst.tail.head
  have hc : (t, i) ∈ cs := Ref_.cell hst.tail.tail.head ht
  obtain ⟨p0, hp0, hW⟩ := Wl_at ad cA hc
  have he := hW G
  rw [wE_chr hk] at he
  have hin : vp_in (i32 j) (alc t).toNat := (vp_in_i32 hj).mpr (by rw [← aln_c G t ht]; exact hj2)
  have hD : va_D (Ab base) (Wl cs ad cA G) := va_D_Wl G hE.2.2.2.2.2.2.2.2
  refine va_cast (D := D) hx hb hE.1 hS.1 hD hS.2.1 p0 1 he rfl hin hd (fun H1 locs1 hP1 hD1 hS1 => ?_)
  rw [i32_clamp hj2.1 hj, vp_nar_chr hxr, upd_i32 (G t i) hj2.1] at hP1
  have eg : (fun q : Int => if q = j then x else G t i q) = fun q => up G t i j x t i q := (up_fun G t i j x).symm
  have ew : wE ad cA (up G t i j x t i) t i = wE ad cA (fun q => if q = j then x else G t i q) t i := by rw [eg]
  rw [← wE_chr (ad := ad) (cA := cA) (g := fun q => if q = j then x else G t i q) (i := i) hk, ← ew, Wl_set hCl.1 (G' := up G t i j x) hD hp0 (fun t' i' hne _ q => up_ne hne q)] at hP1
  have h := k H1 locs1 lsC (St_up hS ht (fun e => absurd e ((akd_cells t ht).2.2.2.2.1 (by rw [hk]; decide))) (fun _ _ _ => hst.head) hP1 hS1) hL hst.tail.tail.tail hr
  rw [cst_up c0 G i j x ht] at h
  exact h
theorem sn_last (X : Cx cs p R s m args meth c D ad cA base y) {t : Nat} {i j : Int} {x : Int} (hk : akd t = 3) (ht : t < 44) (hj2 : 0 ≤ j ∧ j < aln G t)  (hd : decode (byt y) pc = .ok (.lastore, 1)) (k : WJ cs p l e R s m args below meth c D ad cA base y c0 Q (pc + 1) ls st (up G t i j x)) : WJ cs p l e R s m args below meth c D ad cA base y c0 Q pc ls (.inr (.inr (.inl x)) :: .inl j :: .inr (.inl (t, i)) :: st) G := by
  intro H locs lsC hS hL hst hr
  obtain ⟨hx, hb, hml, hown, hts, hE, htab, hlk, hRf, hRl, hCl⟩ := X
  have hj : inR j := hst.tail.head
  have hc : (t, i) ∈ cs := Ref_.cell hst.tail.tail.head ht
  obtain ⟨p0, hp0, hW⟩ := Wl_at ad cA hc
  have he := hW G
  rw [wE_lng hk] at he
  have hin : vp_in (i32 j) (alc t).toNat := (vp_in_i32 hj).mpr (by rw [← aln_c G t ht]; exact hj2)
  have hD : va_D (Ab base) (Wl cs ad cA G) := va_D_Wl G hE.2.2.2.2.2.2.2.2
  refine va_last (D := D) hx hb hE.1 hS.1 hD hS.2.1 p0 2 he rfl hin hd (fun H1 locs1 hP1 hD1 hS1 => ?_)
  rw [i32_clamp hj2.1 hj, updL_i64 (G t i) hj2.1] at hP1
  have eg : (fun q : Int => if q = j then x else G t i q) = fun q => up G t i j x t i q := (up_fun G t i j x).symm
  have ew : wE ad cA (up G t i j x t i) t i = wE ad cA (fun q => if q = j then x else G t i q) t i := by rw [eg]
  rw [← wE_lng (ad := ad) (cA := cA) (g := fun q => if q = j then x else G t i q) (i := i) hk, ← ew, Wl_set hCl.1 (G' := up G t i j x) hD hp0 (fun t' i' hne _ q => up_ne hne q)] at hP1
  have h := k H1 locs1 lsC (St_up hS ht (fun _ => hst.head) (fun e => absurd ((akd_cells t ht).2.1 hk) e) hP1 hS1) hL hst.tail.tail.tail hr
  rw [cst_up c0 G i j x ht] at h
  exact h
theorem sn_dast (X : Cx cs p R s m args meth c D ad cA base y) {t : Nat} {i j : Int} {x : UInt64} (hk : akd t = 4) (ht : t < 44) (hj2 : 0 ≤ j ∧ j < aln G t)  (hd : decode (byt y) pc = .ok (.dastore, 1)) (k : WJ cs p l e R s m args below meth c D ad cA base y c0 Q (pc + 1) ls st (up G t i j (dInt x))) : WJ cs p l e R s m args below meth c D ad cA base y c0 Q pc ls (.inr (.inr (.inr x)) :: .inl j :: .inr (.inl (t, i)) :: st) G := by
  intro H locs lsC hS hL hst hr
  obtain ⟨hx, hb, hml, hown, hts, hE, htab, hlk, hRf, hRl, hCl⟩ := X
  have hj : inR j := hst.tail.head
  have hc : (t, i) ∈ cs := Ref_.cell hst.tail.tail.head ht
  obtain ⟨p0, hp0, hW⟩ := Wl_at ad cA hc
  have he := hW G
  rw [wE_dbl hk] at he
  have hin : vp_in (i32 j) (alc t).toNat := (vp_in_i32 hj).mpr (by rw [← aln_c G t ht]; exact hj2)
  have hD : va_D (Ab base) (Wl cs ad cA G) := va_D_Wl G hE.2.2.2.2.2.2.2.2
  refine va_dast (D := D) hx hb hE.1 hS.1 hD hS.2.1 p0 3 he rfl hin hd (fun H1 locs1 hP1 hD1 hS1 => ?_)
  rw [i32_clamp hj2.1 hj, updD_bits (G t i) hj2.1] at hP1
  have eg : (fun q : Int => if q = j then (dInt x) else G t i q) = fun q => up G t i j (dInt x) t i q := (up_fun G t i j (dInt x)).symm
  have ew : wE ad cA (up G t i j (dInt x) t i) t i = wE ad cA (fun q => if q = j then (dInt x) else G t i q) t i := by rw [eg]
  rw [← wE_dbl (ad := ad) (cA := cA) (g := fun q => if q = j then (dInt x) else G t i q) (i := i) hk, ← ew, Wl_set hCl.1 (G' := up G t i j (dInt x)) hD hp0 (fun t' i' hne _ q => up_ne hne q)] at hP1
  have h := k H1 locs1 lsC (St_up hS ht (fun e => absurd (e.symm.trans ((akd_cells t ht).2.2.1 hk)) (by decide)) (fun _ e => absurd ((akd_cells t ht).2.2.1 hk) e) hP1 hS1) hL hst.tail.tail.tail hr
  rw [cst_up c0 G i j (dInt x) ht] at h
  exact h
theorem sn_alen (X : Cx cs p R s m args meth c D ad cA base y) {t : Nat} {i : Int} (hk : 1 ≤ akd t) (hd : decode (byt y) pc = .ok (.arraylength, 1)) (k : WJ cs p l e R s m args below meth c D ad cA base y c0 Q (pc + 1) ls (.inl (aln G t) :: st) G) : WJ cs p l e R s m args below meth c D ad cA base y c0 Q pc ls (.inr (.inl (t, i)) :: st) G := by
  intro H locs lsC hS hL hst hr
  obtain ⟨hx, hb, hml, hown, hts, hE, htab, hlk, hRf, hRl, hCl⟩ := X
  by_cases ht : t < 44
  · have hc : (t, i) ∈ cs := Ref_.cell hst.head ht
    obtain ⟨p0, hp0, hW⟩ := Wl_at ad cA hc
    have he := hW G
    obtain ⟨x, hx9⟩ := wE_arr (ad := ad) (cA := cA) (g := G t i) (i := i) hk
    rw [hx9] at he
    obtain ⟨ty, hty⟩ := tys_any cA ht hk
    have h4 := (akd_cells t ht).2.2.2.2.2.2.2
    refine va_alen (D := D) (v := i32 (aln G t)) hx hb hE.1 hS.1 p0 (kA t) he hty ?_ hd (k H locs lsC hS hL (okS.cons (by rw [aln_c G t ht]; exact ⟨by omega, h4.2⟩) hst.tail) hr)
    rw [aln_c G t ht, i32_nI h4.1]
    rfl
  · rcases hst.head with h | ⟨h1, h2, rfl⟩
    · exact absurd (hCl.1 _ _ h).1 ht
    have h3 : t = 44 ∨ t = 45 ∨ t = 46 := by omega
    rcases h3 with rfl | rfl | rfl
    · have h9 := k H locs lsC hS hL (okS.cons (show inR (G 47 0 0) from (hS.2.2.1 47 0 0).2 (by decide) (by decide) (by decide)) hst.tail) hr
      exact va_tlen (v := i32 (G 47 0 0)) hx hb hS.2.2.2.1.1 hS.2.1 (by rw [i32_nI hS.2.2.2.1.2.2.2]; rfl) hd h9
    · have h9 := k H locs lsC hS hL (okS.cons (show inR 3 from ⟨by decide, by decide⟩) hst.tail) hr
      exact va_tlen (v := i32 3) hx hb hS.2.2.2.1.2.1 hS.2.1 rfl hd h9
    · have h9 := k H locs lsC hS hL (okS.cons (show inR 3 from ⟨by decide, by decide⟩) hst.tail) hr
      exact va_tlen (v := i32 3) hx hb hS.2.2.2.1.2.2.1 hS.2.1 rfl hd h9
end SN3
