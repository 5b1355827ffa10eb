/-! ===== arithmetic, branches ===== -/
theorem i32_ne0 {x : Int} (hx : inR x) (h : ¬ x = 0) : ¬ i32 x = 0 := fun he => h (i32_inj hx ⟨by decide, by decide⟩ (he.trans (by decide)))
theorem i32_0 : i32 0 = 0 := by decide
theorem i64_of32 {x : Int} (h : inR x) : (i32 x).toInt64 = i64 x := by
  apply Int64.toInt_inj.mp
  rw [Int32.toInt_toInt64, i32_toInt h]
  exact (Int64.toInt_ofInt_of_le (by have := h.1; omega) (by have := h.2; omega)).symm
theorem i64_toInt {x : Int} (h : inJ x) : (i64 x).toInt = x := Int64.toInt_ofInt_of_le h.1 h.2
theorem inR_J {x : Int} (h : inR x) : inJ x := ⟨by have := h.1; omega, by have := h.2; omega⟩
theorem if_i32 {c : Prop} {d : Prop} (h1 : Decidable c) (h2 : Decidable d) (h : c ↔ d) {a b : Int} : (if c then i32 a else i32 b) = i32 (if d then a else b) := by
  by_cases hc : c
  · rw [if_pos hc, if_pos (h.mp hc)]
  · rw [if_neg hc, if_neg (fun z => hc (h.mpr z))]
section SN2
variable {cs : CS} {p : Program} {l : Launch} {e : Env} {R : Room} {s : State} {m : MethodId} {args : Array Value} {below : List Frame} {meth : Method} {c : Code} {D : va_G} {ad : Nat → Int → Nat} {cA : Nat → ClassId} {base y : Nat} {c0 : Int} {Q : State → Prop} {pc : Nat} {ls : Lcs} {st : List AV} {G : GG}
theorem sn_iadd (X : Cx cs p R s m args meth c D ad cA base y) {a b : Int} (hd : decode (byt y) pc = .ok (.iadd, 1)) (k : WJ cs p l e R s m args below meth c D ad cA base y c0 Q (pc + 1) ls (.inl (wr (a + b)) :: st) G) : WJ cs p l e R s m args below meth c D ad cA base y c0 Q pc ls (.inl b :: .inl a :: st) G := by
  intro H locs lsC hS hL hst hr
  obtain ⟨hx, hb, hml, hown, hts, hE, htab, hlk, hRf, hRl, hCl⟩ := X
  refine lv_iadd hx hb hd ?_
  have e : i32 (wr (a + b)) = i32 a + i32 b := by rw [i32_wr]; exact Int32.ofInt_add a b
  have h := k H locs lsC hS hL (okS.cons (wr_inR _) hst.tail.tail) hr
  simp only [List.map_cons, cv, e] at h
  exact h
theorem sn_isub (X : Cx cs p R s m args meth c D ad cA base y) {a b : Int} (hd : decode (byt y) pc = .ok (.isub, 1)) (k : WJ cs p l e R s m args below meth c D ad cA base y c0 Q (pc + 1) ls (.inl (wr (a - b)) :: st) G) : WJ cs p l e R s m args below meth c D ad cA base y c0 Q pc ls (.inl b :: .inl a :: st) G := by
  intro H locs lsC hS hL hst hr
  obtain ⟨hx, hb, hml, hown, hts, hE, htab, hlk, hRf, hRl, hCl⟩ := X
  refine lv_isub hx hb hd ?_
  have e : i32 (wr (a - b)) = i32 a - i32 b := by rw [i32_wr]; exact Int32.ofInt_sub a b
  have h := k H locs lsC hS hL (okS.cons (wr_inR _) hst.tail.tail) hr
  simp only [List.map_cons, cv, e] at h
  exact h
theorem sn_imul (X : Cx cs p R s m args meth c D ad cA base y) {a b : Int} (hd : decode (byt y) pc = .ok (.imul, 1)) (k : WJ cs p l e R s m args below meth c D ad cA base y c0 Q (pc + 1) ls (.inl (wr (a * b)) :: st) G) : WJ cs p l e R s m args below meth c D ad cA base y c0 Q pc ls (.inl b :: .inl a :: st) G := by
  intro H locs lsC hS hL hst hr
  obtain ⟨hx, hb, hml, hown, hts, hE, htab, hlk, hRf, hRl, hCl⟩ := X
  refine lv_imul hx hb hd ?_
  have e : i32 (wr (a * b)) = i32 a * i32 b := by rw [i32_wr]; exact Int32.ofInt_mul a b
  have h := k H locs lsC hS hL (okS.cons (wr_inR _) hst.tail.tail) hr
  simp only [List.map_cons, cv, e] at h
  exact h
theorem sn_iand (X : Cx cs p R s m args meth c D ad cA base y) {a b : Int} (hd : decode (byt y) pc = .ok (.iand, 1)) (k : WJ cs p l e R s m args below meth c D ad cA base y c0 Q (pc + 1) ls (.inl (bAnd a b) :: st) G) : WJ cs p l e R s m args below meth c D ad cA base y c0 Q pc ls (.inl b :: .inl a :: st) G := by
  intro H locs lsC hS hL hst hr
  obtain ⟨hx, hb, hml, hown, hts, hE, htab, hlk, hRf, hRl, hCl⟩ := X
  refine lv_iand hx hb hd ?_
  have e : i32 (bAnd a b) = i32 a &&& i32 b := i32_of _
  have h := k H locs lsC hS hL (okS.cons (inR_toInt _) hst.tail.tail) hr
  simp only [List.map_cons, cv, e] at h
  exact h
theorem sn_ior (X : Cx cs p R s m args meth c D ad cA base y) {a b : Int} (hd : decode (byt y) pc = .ok (.ior, 1)) (k : WJ cs p l e R s m args below meth c D ad cA base y c0 Q (pc + 1) ls (.inl (bOr a b) :: st) G) : WJ cs p l e R s m args below meth c D ad cA base y c0 Q pc ls (.inl b :: .inl a :: st) G := by
  intro H locs lsC hS hL hst hr
  obtain ⟨hx, hb, hml, hown, hts, hE, htab, hlk, hRf, hRl, hCl⟩ := X
  refine lv_ior hx hb hd ?_
  have e : i32 (bOr a b) = i32 a ||| i32 b := i32_of _
  have h := k H locs lsC hS hL (okS.cons (inR_toInt _) hst.tail.tail) hr
  simp only [List.map_cons, cv, e] at h
  exact h
theorem sn_ishl (X : Cx cs p R s m args meth c D ad cA base y) {a b : Int} (hd : decode (byt y) pc = .ok (.ishl, 1)) (k : WJ cs p l e R s m args below meth c D ad cA base y c0 Q (pc + 1) ls (.inl (bShl a b) :: st) G) : WJ cs p l e R s m args below meth c D ad cA base y c0 Q pc ls (.inl b :: .inl a :: st) G := by
  intro H locs lsC hS hL hst hr
  obtain ⟨hx, hb, hml, hown, hts, hE, htab, hlk, hRf, hRl, hCl⟩ := X
  refine lv_ishl hx hb hd ?_
  have e : i32 (bShl a b) = i32 a <<< (i32 b &&& 31) := i32_of _
  have h := k H locs lsC hS hL (okS.cons (inR_toInt _) hst.tail.tail) hr
  simp only [List.map_cons, cv, e] at h
  exact h
theorem sn_ishr (X : Cx cs p R s m args meth c D ad cA base y) {a b : Int} (hd : decode (byt y) pc = .ok (.ishr, 1)) (k : WJ cs p l e R s m args below meth c D ad cA base y c0 Q (pc + 1) ls (.inl (bShr a b) :: st) G) : WJ cs p l e R s m args below meth c D ad cA base y c0 Q pc ls (.inl b :: .inl a :: st) G := by
  intro H locs lsC hS hL hst hr
  obtain ⟨hx, hb, hml, hown, hts, hE, htab, hlk, hRf, hRl, hCl⟩ := X
  refine lv_ishr hx hb hd ?_
  have e : i32 (bShr a b) = i32 a >>> (i32 b &&& 31) := i32_of _
  have h := k H locs lsC hS hL (okS.cons (inR_toInt _) hst.tail.tail) hr
  simp only [List.map_cons, cv, e] at h
  exact h
theorem sn_iushr (X : Cx cs p R s m args meth c D ad cA base y) {a b : Int} (hd : decode (byt y) pc = .ok (.iushr, 1)) (k : WJ cs p l e R s m args below meth c D ad cA base y c0 Q (pc + 1) ls (.inl (bUshr a b) :: st) G) : WJ cs p l e R s m args below meth c D ad cA base y c0 Q pc ls (.inl b :: .inl a :: st) G := by
  intro H locs lsC hS hL hst hr
  obtain ⟨hx, hb, hml, hown, hts, hE, htab, hlk, hRf, hRl, hCl⟩ := X
  exact lv_iushr (v := i32 (bUshr a b)) hx hb hd (i32_of _).symm (k H locs lsC hS hL (okS.cons (inR_toInt _) hst.tail.tail) hr)
theorem sn_idiv (X : Cx cs p R s m args meth c D ad cA base y) {a b : Int} (h0 : ¬ b = 0) (hd : decode (byt y) pc = .ok (.idiv, 1)) (k : WJ cs p l e R s m args below meth c D ad cA base y c0 Q (pc + 1) ls (.inl (iDiv a b) :: st) G) : WJ cs p l e R s m args below meth c D ad cA base y c0 Q pc ls (.inl b :: .inl a :: st) G := by
  intro H locs lsC hS hL hst hr
  obtain ⟨hx, hb, hml, hown, hts, hE, htab, hlk, hRf, hRl, hCl⟩ := X
  refine lv_idiv hx hb hd (i32_ne0 hst.head h0) ?_
  have e : i32 (iDiv a b) = i32 a / i32 b := i32_of _
  have h := k H locs lsC hS hL (okS.cons (inR_toInt _) hst.tail.tail) hr
  simp only [List.map_cons, cv, e] at h
  exact h
theorem sn_irem (X : Cx cs p R s m args meth c D ad cA base y) {a b : Int} (h0 : ¬ b = 0) (hd : decode (byt y) pc = .ok (.irem, 1)) (k : WJ cs p l e R s m args below meth c D ad cA base y c0 Q (pc + 1) ls (.inl (iRem a b) :: st) G) : WJ cs p l e R s m args below meth c D ad cA base y c0 Q pc ls (.inl b :: .inl a :: st) G := by
  intro H locs lsC hS hL hst hr
  obtain ⟨hx, hb, hml, hown, hts, hE, htab, hlk, hRf, hRl, hCl⟩ := X
  refine lv_irem hx hb hd (i32_ne0 hst.head h0) ?_
  have e : i32 (iRem a b) = i32 a - i32 a / i32 b * i32 b := i32_of _
  have h := k H locs lsC hS hL (okS.cons (inR_toInt _) hst.tail.tail) hr
  simp only [List.map_cons, cv, e] at h
  exact h
theorem sn_ineg (X : Cx cs p R s m args meth c D ad cA base y) {a : Int} (hd : decode (byt y) pc = .ok (.ineg, 1)) (k : WJ cs p l e R s m args below meth c D ad cA base y c0 Q (pc + 1) ls (.inl (wr (-a)) :: st) G) : WJ cs p l e R s m args below meth c D ad cA base y c0 Q pc ls (.inl a :: st) G := by
  intro H locs lsC hS hL hst hr
  obtain ⟨hx, hb, hml, hown, hts, hE, htab, hlk, hRf, hRl, hCl⟩ := X
  refine lv_ineg hx hb hd ?_
  have e : i32 (wr (-a)) = -i32 a := by rw [i32_wr]; exact Int32.ofInt_neg a
  have h := k H locs lsC hS hL (okS.cons (wr_inR _) hst.tail) hr
  simp only [List.map_cons, cv, e] at h
  exact h
theorem sn_i2c (X : Cx cs p R s m args meth c D ad cA base y) {a : Int} (hd : decode (byt y) pc = .ok (.i2c, 1)) (k : WJ cs p l e R s m args below meth c D ad cA base y c0 Q (pc + 1) ls (.inl (iChr a) :: st) G) : WJ cs p l e R s m args below meth c D ad cA base y c0 Q pc ls (.inl a :: st) G := by
  intro H locs lsC hS hL hst hr
  obtain ⟨hx, hb, hml, hown, hts, hE, htab, hlk, hRf, hRl, hCl⟩ := X
  exact lv_i2c (v := i32 (iChr a)) hx hb hd (i32_of _).symm (k H locs lsC hS hL (okS.cons (inR_toInt _) hst.tail) hr)
theorem sn_i2l (X : Cx cs p R s m args meth c D ad cA base y) {a : Int} (hd : decode (byt y) pc = .ok (.i2l, 1)) (k : WJ cs p l e R s m args below meth c D ad cA base y c0 Q (pc + 1) ls (.inr (.inr (.inl a)) :: st) G) : WJ cs p l e R s m args below meth c D ad cA base y c0 Q pc ls (.inl a :: st) G := by
  intro H locs lsC hS hL hst hr
  obtain ⟨hx, hb, hml, hown, hts, hE, htab, hlk, hRf, hRl, hCl⟩ := X
  exact lv_i2l (v := i64 a) hx hb hd (i64_of32 hst.head) (k H locs lsC hS hL (okS.cons (inR_J hst.head) hst.tail) hr)
theorem sn_i2d (X : Cx cs p R s m args meth c D ad cA base y) {a : Int} (hd : decode (byt y) pc = .ok (.i2d, 1)) (k : WJ cs p l e R s m args below meth c D ad cA base y c0 Q (pc + 1) ls (.inr (.inr (.inr (dOf a))) :: st) G) : WJ cs p l e R s m args below meth c D ad cA base y c0 Q pc ls (.inl a :: st) G := by
  intro H locs lsC hS hL hst hr
  obtain ⟨hx, hb, hml, hown, hts, hE, htab, hlk, hRf, hRl, hCl⟩ := X
  exact lv_i2d hx hb hd (k H locs lsC hS hL (okS.cons trivial hst.tail) hr)
theorem sn_ddiv (X : Cx cs p R s m args meth c D ad cA base y) {a b : UInt64} (hn : FP.ddiv a b &&& 0x7fffffffffffffff ≤ 0x7ff0000000000000) (hd : decode (byt y) pc = .ok (.ddiv, 1)) (k : WJ cs p l e R s m args below meth c D ad cA base y c0 Q (pc + 1) ls (.inr (.inr (.inr (FP.ddiv a b))) :: st) G) : WJ cs p l e R s m args below meth c D ad cA base y c0 Q pc ls (.inr (.inr (.inr b)) :: .inr (.inr (.inr a)) :: st) G := by
  intro H locs lsC hS hL hst hr
  obtain ⟨hx, hb, hml, hown, hts, hE, htab, hlk, hRf, hRl, hCl⟩ := X
  exact lv_ddiv hx hb hd hn (k H locs lsC hS hL (okS.cons trivial hst.tail.tail) hr)
theorem sn_dconst (X : Cx cs p R s m args meth c D ad cA base y) {d : Fin 2} (h0 : Nat.beq d.val 0 = true) (hd : decode (byt y) pc = .ok (.dconst d, 1)) (k : WJ cs p l e R s m args below meth c D ad cA base y c0 Q (pc + 1) ls (.inr (.inr (.inr FP.dconst0)) :: st) G) : WJ cs p l e R s m args below meth c D ad cA base y c0 Q pc ls st G := by
  intro H locs lsC hS hL hst hr
  obtain ⟨hx, hb, hml, hown, hts, hE, htab, hlk, hRf, hRl, hCl⟩ := X
  have e : d = 0 := Fin.ext (Nat.eq_of_beq_eq_true h0)
  subst e
  exact lv_dconst0 hx hb hd (k H locs lsC hS hL (okS.cons trivial hst) hr)
theorem sn_dcmp (X : Cx cs p R s m args meth c D ad cA base y) {a b : UInt64} {op : CmpOp} (hd : decode (byt y) pc = .ok (.dcmp op, 1)) (k : WJ cs p l e R s m args below meth c D ad cA base y c0 Q (pc + 1) ls (.inl (dCmp a b op) :: st) G) : WJ cs p l e R s m args below meth c D ad cA base y c0 Q pc ls (.inr (.inr (.inr b)) :: .inr (.inr (.inr a)) :: st) G := by
  intro H locs lsC hS hL hst hr
  obtain ⟨hx, hb, hml, hown, hts, hE, htab, hlk, hRf, hRl, hCl⟩ := X
  refine lv_dcmp hx hb hd ?_
  have e : i32 (dCmp a b op) = Op.cmpValue (FP.dcmp a b) op := i32_of _
  have h := k H locs lsC hS hL (okS.cons (inR_toInt _) hst.tail.tail) hr
  simp only [List.map_cons, cv, e] at h
  exact h
theorem sn_dupI (X : Cx cs p R s m args meth c D ad cA base y) {a : Int} (hd : decode (byt y) pc = .ok (.dup, 1)) (k : WJ cs p l e R s m args below meth c D ad cA base y c0 Q (pc + 1) ls (.inl a :: .inl a :: st) G) : WJ cs p l e R s m args below meth c D ad cA base y c0 Q pc ls (.inl a :: st) G := by
  intro H locs lsC hS hL hst hr
  obtain ⟨hx, hb, hml, hown, hts, hE, htab, hlk, hRf, hRl, hCl⟩ := X
  exact lv_dup hx hb hd rfl (k H locs lsC hS hL (okS.cons hst.head hst) hr)
theorem sn_dupR (X : Cx cs p R s m args meth c D ad cA base y) {q : Nat × Int} (hd : decode (byt y) pc = .ok (.dup, 1)) (k : WJ cs p l e R s m args below meth c D ad cA base y c0 Q (pc + 1) ls (.inr (.inl q) :: .inr (.inl q) :: st) G) : WJ cs p l e R s m args below meth c D ad cA base y c0 Q pc ls (.inr (.inl q) :: st) G := by
  intro H locs lsC hS hL hst hr
  obtain ⟨hx, hb, hml, hown, hts, hE, htab, hlk, hRf, hRl, hCl⟩ := X
  exact lv_dup hx hb hd rfl (k H locs lsC hS hL (okS.cons hst.head hst) hr)
theorem sn_popI (X : Cx cs p R s m args meth c D ad cA base y) {a : Int} (hd : decode (byt y) pc = .ok (.pop, 1)) (k : WJ cs p l e R s m args below meth c D ad cA base y c0 Q (pc + 1) ls st G) : WJ cs p l e R s m args below meth c D ad cA base y c0 Q pc ls (.inl a :: st) G := by
  intro H locs lsC hS hL hst hr
  obtain ⟨hx, hb, hml, hown, hts, hE, htab, hlk, hRf, hRl, hCl⟩ := X
  exact lv_pop hx hb hd rfl (k H locs lsC hS hL hst.tail hr)
theorem sn_popR (X : Cx cs p R s m args meth c D ad cA base y) {q : Nat × Int} (hd : decode (byt y) pc = .ok (.pop, 1)) (k : WJ cs p l e R s m args below meth c D ad cA base y c0 Q (pc + 1) ls st G) : WJ cs p l e R s m args below meth c D ad cA base y c0 Q pc ls (.inr (.inl q) :: st) G := by
  intro H locs lsC hS hL hst hr
  obtain ⟨hx, hb, hml, hown, hts, hE, htab, hlk, hRf, hRl, hCl⟩ := X
  exact lv_pop hx hb hd rfl (k H locs lsC hS hL hst.tail hr)
theorem sn_dup2 (X : Cx cs p R s m args meth c D ad cA base y) {j : Int} {t : Nat} {i : Int} (hd : decode (byt y) pc = .ok (.dup2, 1)) (k : WJ cs p l e R s m args below meth c D ad cA base y c0 Q (pc + 1) ls (.inl j :: .inr (.inl (t, i)) :: .inl j :: .inr (.inl (t, i)) :: st) G) : WJ cs p l e R s m args below meth c D ad cA base y c0 Q pc ls (.inl j :: .inr (.inl (t, i)) :: st) G := by
  intro H locs lsC hS hL hst hr
  obtain ⟨hx, hb, hml, hown, hts, hE, htab, hlk, hRf, hRl, hCl⟩ := X
  exact lv_dup2_11 hx hb hd rfl rfl (k H locs lsC hS hL (okS.cons hst.head (okS.cons hst.tail.head hst)) hr)
theorem sn_goto (X : Cx cs p R s m args meth c D ad cA base y) {off : Int} {t : Nat} (ht : (pc : Int) + off = (t : Int)) (hd : decode (byt y) pc = .ok (.goto off, 3)) (k : WJ cs p l e R s m args below meth c D ad cA base y c0 Q t ls st G) : WJ cs p l e R s m args below meth c D ad cA base y c0 Q pc ls st G := by
  intro H locs lsC hS hL hst hr
  obtain ⟨hx, hb, hml, hown, hts, hE, htab, hlk, hRf, hRl, hCl⟩ := X
  exact lv_goto hx hb hd ht (k H locs lsC hS hL hst hr)
theorem sn_icmp_eq (X : Cx cs p R s m args meth c D ad cA base y) {a b off : Int} {t : Nat} (ht : (pc : Int) + off = (t : Int)) (hd : decode (byt y) pc = .ok (.if_icmp .eq off, 3)) (kt : a = b → WJ cs p l e R s m args below meth c D ad cA base y c0 Q t ls st G) (kf : ¬ a = b → WJ cs p l e R s m args below meth c D ad cA base y c0 Q (pc + 3) ls st G) : WJ cs p l e R s m args below meth c D ad cA base y c0 Q pc ls (.inl b :: .inl a :: st) G := by
  intro H locs lsC hS hL hst hr
  obtain ⟨hx, hb, hml, hown, hts, hE, htab, hlk, hRf, hRl, hCl⟩ := X
  have ha : inR a := hst.tail.head
  have hb' : inR b := hst.head
  exact lv_icmp_eq hx hb hd ht (fun q => (kt (i32_inj ha hb' q)) H locs lsC hS hL hst.tail.tail hr) (fun q => (kf fun z => q (by rw [z])) H locs lsC hS hL hst.tail.tail hr)
theorem sn_if_eq (X : Cx cs p R s m args meth c D ad cA base y) {a off : Int} {t : Nat} (ht : (pc : Int) + off = (t : Int)) (hd : decode (byt y) pc = .ok (.ifCond .eq off, 3)) (kt : a = 0 → WJ cs p l e R s m args below meth c D ad cA base y c0 Q t ls st G) (kf : ¬ a = 0 → WJ cs p l e R s m args below meth c D ad cA base y c0 Q (pc + 3) ls st G) : WJ cs p l e R s m args below meth c D ad cA base y c0 Q pc ls (.inl a :: st) G := by
  intro H locs lsC hS hL hst hr
  obtain ⟨hx, hb, hml, hown, hts, hE, htab, hlk, hRf, hRl, hCl⟩ := X
  have ha : inR a := hst.head
  have hb' : inR 0 := ⟨by decide, by decide⟩
  refine lv_if_eq hx hb hd ht (fun q => ?_) (fun q => ?_)
  · rw [← i32_0] at q
    exact (kt (i32_inj ha hb' q)) H locs lsC hS hL hst.tail hr
  · rw [← i32_0] at q
    exact (kf fun z => q (by rw [z])) H locs lsC hS hL hst.tail hr
theorem sn_icmp_ne (X : Cx cs p R s m args meth c D ad cA base y) {a b off : Int} {t : Nat} (ht : (pc : Int) + off = (t : Int)) (hd : decode (byt y) pc = .ok (.if_icmp .ne off, 3)) (kt : ¬ a = b → WJ cs p l e R s m args below meth c D ad cA base y c0 Q t ls st G) (kf : a = b → WJ cs p l e R s m args below meth c D ad cA base y c0 Q (pc + 3) ls st G) : WJ cs p l e R s m args below meth c D ad cA base y c0 Q pc ls (.inl b :: .inl a :: st) G := by
  intro H locs lsC hS hL hst hr
  obtain ⟨hx, hb, hml, hown, hts, hE, htab, hlk, hRf, hRl, hCl⟩ := X
  have ha : inR a := hst.tail.head
  have hb' : inR b := hst.head
  exact lv_icmp_ne hx hb hd ht (fun q => (kt fun z => q (by rw [z])) H locs lsC hS hL hst.tail.tail hr) (fun q => (kf (i32_inj ha hb' q)) H locs lsC hS hL hst.tail.tail hr)
theorem sn_if_ne (X : Cx cs p R s m args meth c D ad cA base y) {a off : Int} {t : Nat} (ht : (pc : Int) + off = (t : Int)) (hd : decode (byt y) pc = .ok (.ifCond .ne off, 3)) (kt : ¬ a = 0 → WJ cs p l e R s m args below meth c D ad cA base y c0 Q t ls st G) (kf : a = 0 → WJ cs p l e R s m args below meth c D ad cA base y c0 Q (pc + 3) ls st G) : WJ cs p l e R s m args below meth c D ad cA base y c0 Q pc ls (.inl a :: st) G := by
  intro H locs lsC hS hL hst hr
  obtain ⟨hx, hb, hml, hown, hts, hE, htab, hlk, hRf, hRl, hCl⟩ := X
  have ha : inR a := hst.head
  have hb' : inR 0 := ⟨by decide, by decide⟩
  refine lv_if_ne hx hb hd ht (fun q => ?_) (fun q => ?_)
  · rw [← i32_0] at q
    exact (kt fun z => q (by rw [z])) H locs lsC hS hL hst.tail hr
  · rw [← i32_0] at q
    exact (kf (i32_inj ha hb' q)) H locs lsC hS hL hst.tail hr
theorem sn_icmp_lt (X : Cx cs p R s m args meth c D ad cA base y) {a b off : Int} {t : Nat} (ht : (pc : Int) + off = (t : Int)) (hd : decode (byt y) pc = .ok (.if_icmp .lt off, 3)) (kt : a < b → WJ cs p l e R s m args below meth c D ad cA base y c0 Q t ls st G) (kf : ¬ a < b → WJ cs p l e R s m args below meth c D ad cA base y c0 Q (pc + 3) ls st G) : WJ cs p l e R s m args below meth c D ad cA base y c0 Q pc ls (.inl b :: .inl a :: st) G := by
  intro H locs lsC hS hL hst hr
  obtain ⟨hx, hb, hml, hown, hts, hE, htab, hlk, hRf, hRl, hCl⟩ := X
  have ha : inR a := hst.tail.head
  have hb' : inR b := hst.head
  exact lv_icmp_lt hx hb hd ht (fun q => (kt ((i32_lt ha hb').mp q)) H locs lsC hS hL hst.tail.tail hr) (fun q => (kf fun z => q ((i32_lt ha hb').mpr z)) H locs lsC hS hL hst.tail.tail hr)
theorem sn_if_lt (X : Cx cs p R s m args meth c D ad cA base y) {a off : Int} {t : Nat} (ht : (pc : Int) + off = (t : Int)) (hd : decode (byt y) pc = .ok (.ifCond .lt off, 3)) (kt : a < 0 → WJ cs p l e R s m args below meth c D ad cA base y c0 Q t ls st G) (kf : ¬ a < 0 → WJ cs p l e R s m args below meth c D ad cA base y c0 Q (pc + 3) ls st G) : WJ cs p l e R s m args below meth c D ad cA base y c0 Q pc ls (.inl a :: st) G := by
  intro H locs lsC hS hL hst hr
  obtain ⟨hx, hb, hml, hown, hts, hE, htab, hlk, hRf, hRl, hCl⟩ := X
  have ha : inR a := hst.head
  have hb' : inR 0 := ⟨by decide, by decide⟩
  refine lv_if_lt hx hb hd ht (fun q => ?_) (fun q => ?_)
  · rw [← i32_0] at q
    exact (kt ((i32_lt ha hb').mp q)) H locs lsC hS hL hst.tail hr
  · rw [← i32_0] at q
    exact (kf fun z => q ((i32_lt ha hb').mpr z)) H locs lsC hS hL hst.tail hr
theorem sn_icmp_ge (X : Cx cs p R s m args meth c D ad cA base y) {a b off : Int} {t : Nat} (ht : (pc : Int) + off = (t : Int)) (hd : decode (byt y) pc = .ok (.if_icmp .ge off, 3)) (kt : ¬ a < b → WJ cs p l e R s m args below meth c D ad cA base y c0 Q t ls st G) (kf : a < b → WJ cs p l e R s m args below meth c D ad cA base y c0 Q (pc + 3) ls st G) : WJ cs p l e R s m args below meth c D ad cA base y c0 Q pc ls (.inl b :: .inl a :: st) G := by
  intro H locs lsC hS hL hst hr
  obtain ⟨hx, hb, hml, hown, hts, hE, htab, hlk, hRf, hRl, hCl⟩ := X
  have ha : inR a := hst.tail.head
  have hb' : inR b := hst.head
  exact lv_icmp_ge hx hb hd ht (fun q => (kt fun z => absurd ((i32_le hb' ha).mp q) (by omega)) H locs lsC hS hL hst.tail.tail hr) (fun q => (kf (Int.not_le.mp fun z => q ((i32_le hb' ha).mpr z))) H locs lsC hS hL hst.tail.tail hr)
theorem sn_if_ge (X : Cx cs p R s m args meth c D ad cA base y) {a off : Int} {t : Nat} (ht : (pc : Int) + off = (t : Int)) (hd : decode (byt y) pc = .ok (.ifCond .ge off, 3)) (kt : ¬ a < 0 → WJ cs p l e R s m args below meth c D ad cA base y c0 Q t ls st G) (kf : a < 0 → WJ cs p l e R s m args below meth c D ad cA base y c0 Q (pc + 3) ls st G) : WJ cs p l e R s m args below meth c D ad cA base y c0 Q pc ls (.inl a :: st) G := by
  intro H locs lsC hS hL hst hr
  obtain ⟨hx, hb, hml, hown, hts, hE, htab, hlk, hRf, hRl, hCl⟩ := X
  have ha : inR a := hst.head
  have hb' : inR 0 := ⟨by decide, by decide⟩
  refine lv_if_ge hx hb hd ht (fun q => ?_) (fun q => ?_)
  · rw [← i32_0] at q
    exact (kt fun z => absurd ((i32_le hb' ha).mp q) (by omega)) H locs lsC hS hL hst.tail hr
  · rw [← i32_0] at q
    exact (kf (Int.not_le.mp fun z => q ((i32_le hb' ha).mpr z))) H locs lsC hS hL hst.tail hr
theorem sn_icmp_gt (X : Cx cs p R s m args meth c D ad cA base y) {a b off : Int} {t : Nat} (ht : (pc : Int) + off = (t : Int)) (hd : decode (byt y) pc = .ok (.if_icmp .gt off, 3)) (kt : b < a → WJ cs p l e R s m args below meth c D ad cA base y c0 Q t ls st G) (kf : ¬ b < a → WJ cs p l e R s m args below meth c D ad cA base y c0 Q (pc + 3) ls st G) : WJ cs p l e R s m args below meth c D ad cA base y c0 Q pc ls (.inl b :: .inl a :: st) G := by
  intro H locs lsC hS hL hst hr
  obtain ⟨hx, hb, hml, hown, hts, hE, htab, hlk, hRf, hRl, hCl⟩ := X
  have ha : inR a := hst.tail.head
  have hb' : inR b := hst.head
  exact lv_icmp_gt hx hb hd ht (fun q => (kt ((i32_lt hb' ha).mp q)) H locs lsC hS hL hst.tail.tail hr) (fun q => (kf fun z => q ((i32_lt hb' ha).mpr z)) H locs lsC hS hL hst.tail.tail hr)
theorem sn_if_gt (X : Cx cs p R s m args meth c D ad cA base y) {a off : Int} {t : Nat} (ht : (pc : Int) + off = (t : Int)) (hd : decode (byt y) pc = .ok (.ifCond .gt off, 3)) (kt : 0 < a → WJ cs p l e R s m args below meth c D ad cA base y c0 Q t ls st G) (kf : ¬ 0 < a → WJ cs p l e R s m args below meth c D ad cA base y c0 Q (pc + 3) ls st G) : WJ cs p l e R s m args below meth c D ad cA base y c0 Q pc ls (.inl a :: st) G := by
  intro H locs lsC hS hL hst hr
  obtain ⟨hx, hb, hml, hown, hts, hE, htab, hlk, hRf, hRl, hCl⟩ := X
  have ha : inR a := hst.head
  have hb' : inR 0 := ⟨by decide, by decide⟩
  refine lv_if_gt hx hb hd ht (fun q => ?_) (fun q => ?_)
  · rw [← i32_0] at q
    exact (kt ((i32_lt hb' ha).mp q)) H locs lsC hS hL hst.tail hr
  · rw [← i32_0] at q
    exact (kf fun z => q ((i32_lt hb' ha).mpr z)) H locs lsC hS hL hst.tail hr
theorem sn_icmp_le (X : Cx cs p R s m args meth c D ad cA base y) {a b off : Int} {t : Nat} (ht : (pc : Int) + off = (t : Int)) (hd : decode (byt y) pc = .ok (.if_icmp .le off, 3)) (kt : ¬ b < a → WJ cs p l e R s m args below meth c D ad cA base y c0 Q t ls st G) (kf : b < a → WJ cs p l e R s m args below meth c D ad cA base y c0 Q (pc + 3) ls st G) : WJ cs p l e R s m args below meth c D ad cA base y c0 Q pc ls (.inl b :: .inl a :: st) G := by
  intro H locs lsC hS hL hst hr
  obtain ⟨hx, hb, hml, hown, hts, hE, htab, hlk, hRf, hRl, hCl⟩ := X
  have ha : inR a := hst.tail.head
  have hb' : inR b := hst.head
  exact lv_icmp_le hx hb hd ht (fun q => (kt fun z => absurd ((i32_le ha hb').mp q) (by omega)) H locs lsC hS hL hst.tail.tail hr) (fun q => (kf (Int.not_le.mp fun z => q ((i32_le ha hb').mpr z))) H locs lsC hS hL hst.tail.tail hr)
theorem sn_if_le (X : Cx cs p R s m args meth c D ad cA base y) {a off : Int} {t : Nat} (ht : (pc : Int) + off = (t : Int)) (hd : decode (byt y) pc = .ok (.ifCond .le off, 3)) (kt : ¬ 0 < a → WJ cs p l e R s m args below meth c D ad cA base y c0 Q t ls st G) (kf : 0 < a → WJ cs p l e R s m args below meth c D ad cA base y c0 Q (pc + 3) ls st G) : WJ cs p l e R s m args below meth c D ad cA base y c0 Q pc ls (.inl a :: st) G := by
  intro H locs lsC hS hL hst hr
  obtain ⟨hx, hb, hml, hown, hts, hE, htab, hlk, hRf, hRl, hCl⟩ := X
  have ha : inR a := hst.head
  have hb' : inR 0 := ⟨by decide, by decide⟩
  refine lv_if_le hx hb hd ht (fun q => ?_) (fun q => ?_)
  · rw [← i32_0] at q
    exact (kt fun z => absurd ((i32_le ha hb').mp q) (by omega)) H locs lsC hS hL hst.tail hr
  · rw [← i32_0] at q
    exact (kf (Int.not_le.mp fun z => q ((i32_le ha hb').mpr z))) H locs lsC hS hL hst.tail hr
theorem lcmp_i {a b : Int} (ha : inJ a) (hb : inJ b) : i32 (jCmp a b) = (if i64 a < i64 b then -1 else if i64 a = i64 b then 0 else 1) := by
  have e1 : i64 a < i64 b ↔ a < b := by rw [Int64.lt_iff_toInt_lt, i64_toInt ha, i64_toInt hb]
  have e2 : i64 a = i64 b ↔ a = b := ⟨fun h => by rw [← i64_toInt ha, ← i64_toInt hb, h], fun h => by rw [h]⟩
  unfold jCmp
  by_cases h1 : a < b
  · rw [if_pos h1, if_pos (e1.mpr h1)]; rfl
  · rw [if_neg h1, if_neg (fun z => h1 (e1.mp z))]
    by_cases h2 : a = b
    · rw [if_pos h2, if_pos (e2.mpr h2)]; rfl
    · rw [if_neg h2, if_neg (fun z => h2 (e2.mp z))]; rfl
end SN2
