/-! ===== what the kit needs, said of the small machine ===== -/
abbrev Ab (base : Nat) : Nat → Prop := fun q => base ≤ q
def nws : List Jvm.Cond := [.castable "java/lang/IllegalArgumentException" "java/lang/IllegalArgumentException", .castable "java/lang/IllegalStateException" "java/lang/IllegalStateException", .castable "java/lang/IndexOutOfBoundsException" "java/lang/IndexOutOfBoundsException", .castable "java/lang/ArithmeticException" "java/lang/ArithmeticException", .castable "java/lang/UnsupportedOperationException" "java/lang/UnsupportedOperationException", .castable "java/util/NoSuchElementException" "java/util/NoSuchElementException",
  .methodLinkNest "MapGeneralizer$Script" 59 ⟨"MapGeneralizer", "isWithin", "(III)Z"⟩ "MapGeneralizer", .fieldLinkNest "MapGeneralizer$Sheet" 56 "MapGeneralizer" "SETTING_STEPS" "[I" "MapGeneralizer",
  .declares ⟨"java/lang/RuntimeException", "<init>", "(Ljava/lang/String;)V"⟩, .declares ⟨"java/lang/Exception", "<init>", "(Ljava/lang/String;)V"⟩, .declares ⟨"java/lang/Throwable", "<init>", "(Ljava/lang/String;)V"⟩]
/-- what is known of a start beside the cells -/
def En (cs : CS) (D : va_G) (ad : Nat → Int → Nat) (cA : Nat → ClassId) (base : Nat) (U : State) : Prop :=
  va_K D cls_ (tys_ cA) U ∧ va_Z "MapGeneralizer" "SETTING_LIMITS" "[I" (.ref (ad 45 0)) (Ab base) U U.heap ∧ va_Z "MapGeneralizer" "SETTING_STEPS" "[I" (.ref (ad 46 0)) (Ab base) U U.heap ∧
  vx_Zq Bundle.tN "UNASSIGNED_STACK" Bundle.steD (Ab base) U U.heap ∧ vx_Zq Bundle.tN "SUPPRESSED_SENTINEL" Bundle.listD (Ab base) U U.heap ∧
  (∀ q ∈ strs, ∃ sa, vk_R q.1 q.2.1 q.2.2 sa U) ∧ (∀ w ∈ nws, va_Nw w U) ∧ (∀ a b : Nat, a < 6 → b < 6 → a ≠ b → va_Nc (exN a) (exN b) U) ∧ va_D (Ab base) (Wl cs ad cA fun _ _ _ => 0)
/-- the arrays that nobody writes -/
def Ro (ad : Nat → Int → Nat) (base : Nat) (G : GG) (U : State) : Prop :=
  va_T .int (ad 44 0) (G 47 0 0).toNat (fun j => .int (i32 (G 44 0 (j : Int)))) (Ab base) U U.heap ∧ va_T .int (ad 45 0) 3 (fun j => .int (i32 (G 45 0 (j : Int)))) (Ab base) U U.heap ∧ va_T .int (ad 46 0) 3 (fun j => .int (i32 (G 46 0 (j : Int)))) (Ab base) U U.heap ∧ 0 ≤ G 47 0 0
theorem nws_warm {s U : State} (hW : s.WarmedH U.vm) {w : Jvm.Cond} (hw : w ∈ nws) (h : va_Nw w s) : va_Nw w U := by
  simp only [nws, List.mem_cons, List.not_mem_nil, or_false] at hw
  rcases hw with rfl | rfl | rfl | rfl | rfl | rfl | rfl | rfl | rfl | rfl | rfl
  · exact va_Nw.warmC hW h
  · exact va_Nw.warmC hW h
  · exact va_Nw.warmC hW h
  · exact va_Nw.warmC hW h
  · exact va_Nw.warmC hW h
  · exact va_Nw.warmC hW h
  · exact va_Nw.warmM hW h
  · exact va_Nw.warmF hW h
  · exact va_Nw.warmD hW h
  · exact va_Nw.warmD hW h
  · exact va_Nw.warmD hW h
theorem nws_tab : ∀ w ∈ nws, w.onTables = true := by decide
theorem En.moved {cs : CS} {D : va_G} {ad : Nat → Int → Nat} {cA : Nat → ClassId} {base : Nat} {s U : State} (hW : s.WarmedH U.vm) (hq : ∀ a : Nat, a < s.heap.size → ¬ Ab base a → U.heap[a]? = s.heap[a]?) (h : En cs D ad cA base s) : En cs D ad cA base U := by
  obtain ⟨h1, h2, h3, h4, h5, h6, h7, h8, h9⟩ := h
  have hv := hW.alike
  exact ⟨va_K.moved hv h1, (va_Z.moved hv h2).kept hq, (va_Z.moved hv h3).kept hq, (vx_Zq.moved hv h4).kept hq, (vx_Zq.moved hv h5).kept hq, fun q hq => by
    obtain ⟨sa, h⟩ := h6 q hq
    exact ⟨sa, vk_R.warm hW h⟩, fun w hw => nws_warm hW hw (h7 w hw), fun a b ha hb hab => va_Nc.moved hv (h8 a b ha hb hab), h9⟩
theorem En.same {cs : CS} {D : va_G} {ad : Nat → Int → Nat} {cA : Nat → ClassId} {base : Nat} {s U : State} (hv : U.vm = s.vm) (hh : U.heap = s.heap) (h : En cs D ad cA base s) : En cs D ad cA base U := by
  obtain ⟨h1, h2, h3, h4, h5, h6, h7, h8, h9⟩ := h
  have ha : s.vm.Alike U.vm := by rw [hv]; exact Vm.Alike.refl _
  have hq : ∀ a : Nat, a < s.heap.size → ¬ Ab base a → U.heap[a]? = s.heap[a]? := fun a _ _ => by rw [hh]
  exact ⟨va_K.moved ha h1, (va_Z.moved ha h2).kept hq, (va_Z.moved ha h3).kept hq, (vx_Zq.moved ha h4).kept hq, (vx_Zq.moved ha h5).kept hq, fun q hq => by
    obtain ⟨sa, h⟩ := h6 q hq
    exact ⟨sa, vk_R.same hv h⟩, fun w hw => va_Nw.same (nws_tab w hw) hv.symm (h7 w hw), fun a b ha' hb hab => va_Nc.moved ha (h8 a b ha' hb hab), h9⟩
theorem Ro.kept {ad : Nat → Int → Nat} {base : Nat} {G : GG} {s U : State} (hv : s.vm.Alike U.vm) (hq : ∀ a : Nat, a < s.heap.size → ¬ Ab base a → U.heap[a]? = s.heap[a]?) (h : Ro ad base G s) : Ro ad base G U :=
  ⟨(va_T.moved hv h.1).kept hq, (va_T.moved hv h.2.1).kept hq, (va_T.moved hv h.2.2.1).kept hq, h.2.2.2⟩
/-- the parts of the store that nobody writes are the same -/
def RoE (G G' : GG) : Prop := (∀ k, G' 44 0 k = G 44 0 k) ∧ (∀ k, G' 45 0 k = G 45 0 k) ∧ (∀ k, G' 46 0 k = G 46 0 k) ∧ G' 47 0 0 = G 47 0 0
theorem RoE.refl (G : GG) : RoE G G := ⟨fun _ => rfl, fun _ => rfl, fun _ => rfl, rfl⟩
theorem RoE.trans {G1 G2 G3 : GG} (h1 : RoE G1 G2) (h2 : RoE G2 G3) : RoE G1 G3 := ⟨fun k => (h2.1 k).trans (h1.1 k), fun k => (h2.2.1 k).trans (h1.2.1 k), fun k => (h2.2.2.1 k).trans (h1.2.2.1 k), h2.2.2.2.trans h1.2.2.2⟩
theorem Ro.eq {ad : Nat → Int → Nat} {base : Nat} {G G' : GG} {U : State} (he : RoE G G') (h : Ro ad base G U) : Ro ad base G' U := by
  obtain ⟨e1, e2, e3, e4⟩ := he
  obtain ⟨h1, h2, h3, h4⟩ := h
  unfold Ro
  simp only [e1, e2, e3, e4]
  exact ⟨h1, h2, h3, h4⟩
def cst (c0 : Int) (G : GG) : Nat := (G 48 0 0 - c0).toNat
/-- how high a method stands: the room that it is given -/
noncomputable def rmo (y c : Nat) : Room := { frames := 8 + (mt y).2.2.2, cells := c, slots := 6 * c, locals := 200 + 80 * (mt y).2.2.2 }
/-- a method's body, seen from its start -/
def Cx (cs : CS) (p : Program) (R : Room) (s : State) (m : MethodId) (args : Array Value) (meth : Method) (c : Code) (D : va_G) (ad : Nat → Int → Nat) (cA : Nat → ClassId) (base y : Nat) : Prop :=
  p.tables.exec = Jvm.exec ∧ c.code = byt y ∧ c.maxLocals = mlc y ∧ s.vm.findClass (ownN (own y)) = some m.cls ∧ (∀ w ∈ gw, w.before args s = true) ∧ En cs D ad cA base s ∧ c.exceptionTable.toList = tableOf (hhs y) ∧ meth.locks = false ∧ 8 + (mt y).2.2.2 ≤ R.frames ∧ 200 + 80 * (mt y).2.2.2 ≤ R.locals ∧ Clo cs
/-- the world at a point of the walk -/
def St (cs : CS) (s : State) (D : va_G) (ad : Nat → Int → Nat) (cA : Nat → ClassId) (base : Nat) (c0 : Int) (R : Room) (G : GG) (H : Heap) (locs : List Loc) : Prop :=
  va_P D cls_ (Wl cs ad cA G) H ∧ va_S (Ab base) s.heap H locs ∧ okG G ∧ Ro ad base G s ∧ c0 ≤ G 48 0 0 ∧ cst c0 G ≤ R.cells ∧ 6 * cst c0 G ≤ R.slots
def WJ (cs : CS) (p : Program) (l : Launch) (e : Env) (R : Room) (s : State) (m : MethodId) (args : Array Value) (below : List Frame) (meth : Method) (c : Code) (D : va_G) (ad : Nat → Int → Nat) (cA : Nat → ClassId) (base y : Nat) (c0 : Int) (Q : State → Prop) (pc : Nat) (ls : Lcs) (st : List AV) (G : GG) : Prop :=
  ∀ (H : Heap) (locs : List Loc) (lsC : Array Slot), St cs s D ad cA base c0 R G H locs → okL cs ls → okS cs st → Rl ad y ls lsC → W p l e R s m args below meth c H locs (cst c0 G) (6 * cst c0 G) Q (F0 m pc lsC (st.map (cv ad)))
theorem okS.cons {cs : CS} {v : AV} {st : List AV} (h : okV cs v) (hs : okS cs st) : okS cs (v :: st) := fun q hq => (List.mem_cons.mp hq).elim (fun e => e ▸ h) (hs q)
theorem okS.tail {cs : CS} {v : AV} {st : List AV} (h : okS cs (v :: st)) : okS cs st := fun q hq => h q (List.mem_cons_of_mem _ hq)
theorem okS.head {cs : CS} {v : AV} {st : List AV} (h : okS cs (v :: st)) : okV cs v := h v List.mem_cons_self

section SND
variable {cs : CS} {p : Program} {l : Launch} {e : Env} {R : Room} {s : State} {m : MethodId} {args : Array Value} {below : List Frame} {meth : Method} {c : Code} {D : va_G} {ad : Nat → Int → Nat} {cA : Nat → ClassId} {base y : Nat} {c0 : Int} {Q : State → Prop} {pc : Nat} {ls : Lcs} {st : List AV} {G : GG}
theorem sn_iconst (X : Cx cs p R s m args meth c D ad cA base y) {v : Int} (hv : inR v) (hd : decode (byt y) pc = .ok (.iconst v, 1)) (k : WJ cs p l e R s m args below meth c D ad cA base y c0 Q (pc + 1) ls (.inl v :: st) G) : WJ cs p l e R s m args below meth c D ad cA base y c0 Q pc ls st G := by
  intro H locs lsC hS hL hst hr
  obtain ⟨hx, hb, hml, hown, hts, hE, htab, hlk, hRf, hRl, hCl⟩ := X
  exact lv_iconst hx hb hd rfl (k H locs lsC hS hL (okS.cons hv hst) hr)
theorem sn_bipush (X : Cx cs p R s m args meth c D ad cA base y) {v : Int} (hv : -128 ≤ v ∧ v < 128) (hd : decode (byt y) pc = .ok (.bipush v, 2)) (k : WJ cs p l e R s m args below meth c D ad cA base y c0 Q (pc + 2) ls (.inl v :: st) G) : WJ cs p l e R s m args below meth c D ad cA base y c0 Q pc ls st G := by
  intro H locs lsC hS hL hst hr
  obtain ⟨hx, hb, hml, hown, hts, hE, htab, hlk, hRf, hRl, hCl⟩ := X
  exact lv_bipush hx hb hd (i8_32 hv.1 hv.2) (k H locs lsC hS hL (okS.cons ⟨by omega, by omega⟩ hst) hr)
theorem sn_sipush (X : Cx cs p R s m args meth c D ad cA base y) {v : Int} (hv : -32768 ≤ v ∧ v < 32768) (hd : decode (byt y) pc = .ok (.sipush v, 3)) (k : WJ cs p l e R s m args below meth c D ad cA base y c0 Q (pc + 3) ls (.inl v :: st) G) : WJ cs p l e R s m args below meth c D ad cA base y c0 Q pc ls st G := by
  intro H locs lsC hS hL hst hr
  obtain ⟨hx, hb, hml, hown, hts, hE, htab, hlk, hRf, hRl, hCl⟩ := X
  exact lv_sipush hx hb hd (i16_32 hv.1 hv.2) (k H locs lsC hS hL (okS.cons ⟨by omega, by omega⟩ hst) hr)
theorem sn_ldc (X : Cx cs p R s m args meth c D ad cA base y) {v : Int} {i : Nat} (hv : KN (own y, i, v)) (hd : decode (byt y) pc = .ok (.ldc i, 2)) (k : WJ cs p l e R s m args below meth c D ad cA base y c0 Q (pc + 2) ls (.inl v :: st) G) : WJ cs p l e R s m args below meth c D ad cA base y c0 Q pc ls st G := by
  intro H locs lsC hS hL hst hr
  obtain ⟨hx, hb, hml, hown, hts, hE, htab, hlk, hRf, hRl, hCl⟩ := X
  exact lv_ldc hx hb hown (hts _ hv.1) hd (k H locs lsC hS hL (okS.cons hv.2 hst) hr)
theorem sn_ldc_w (X : Cx cs p R s m args meth c D ad cA base y) {v : Int} {i : Nat} (hv : KN (own y, i, v)) (hd : decode (byt y) pc = .ok (.ldc_w i, 3)) (k : WJ cs p l e R s m args below meth c D ad cA base y c0 Q (pc + 3) ls (.inl v :: st) G) : WJ cs p l e R s m args below meth c D ad cA base y c0 Q pc ls st G := by
  intro H locs lsC hS hL hst hr
  obtain ⟨hx, hb, hml, hown, hts, hE, htab, hlk, hRf, hRl, hCl⟩ := X
  exact lv_ldcw hx hb hown (hts _ hv.1) hd (k H locs lsC hS hL (okS.cons hv.2 hst) hr)
theorem sn_iload (X : Cx cs p R s m args meth c D ad cA base y) {x : Int} {j : Nat} (hl : lget ls j = some (.inl x)) (hd : decode (byt y) pc = .ok (.iload j, 2)) (k : WJ cs p l e R s m args below meth c D ad cA base y c0 Q (pc + 2) ls (.inl x :: st) G) : WJ cs p l e R s m args below meth c D ad cA base y c0 Q pc ls st G := by
  intro H locs lsC hS hL hst hr
  obtain ⟨hx, hb, hml, hown, hts, hE, htab, hlk, hRf, hRl, hCl⟩ := X
  exact lv_iload hx hb hd (hr.2.2 _ _ hl) (k H locs lsC hS hL (okS.cons (hL _ _ hl) hst) hr)
theorem sn_aload (X : Cx cs p R s m args meth c D ad cA base y) {t : Nat} {i : Int} {j : Nat} (hl : lget ls j = some (.inr (.inl (t, i)))) (hd : decode (byt y) pc = .ok (.aload j, 2)) (k : WJ cs p l e R s m args below meth c D ad cA base y c0 Q (pc + 2) ls (.inr (.inl (t, i)) :: st) G) : WJ cs p l e R s m args below meth c D ad cA base y c0 Q pc ls st G := by
  intro H locs lsC hS hL hst hr
  obtain ⟨hx, hb, hml, hown, hts, hE, htab, hlk, hRf, hRl, hCl⟩ := X
  exact lv_aload hx hb hd (hr.2.2 _ _ hl) (k H locs lsC hS hL (okS.cons (hL _ _ hl) hst) hr)
theorem sn_dload (X : Cx cs p R s m args meth c D ad cA base y) {x : UInt64} {j : Nat} (hl : lget ls j = some (.inr (.inr (.inr x)))) (hd : decode (byt y) pc = .ok (.dload j, 2)) (k : WJ cs p l e R s m args below meth c D ad cA base y c0 Q (pc + 2) ls (.inr (.inr (.inr x)) :: st) G) : WJ cs p l e R s m args below meth c D ad cA base y c0 Q pc ls st G := by
  intro H locs lsC hS hL hst hr
  obtain ⟨hx, hb, hml, hown, hts, hE, htab, hlk, hRf, hRl, hCl⟩ := X
  exact lv_dload hx hb hd (hr.2.2 _ _ hl) (k H locs lsC hS hL (okS.cons (hL _ _ hl) hst) hr)
theorem sn_iload_n (X : Cx cs p R s m args meth c D ad cA base y) {x : Int} {j : Fin 4} (hl : lget ls j.val = some (.inl x)) (hd : decode (byt y) pc = .ok (.iload_n j, 1)) (k : WJ cs p l e R s m args below meth c D ad cA base y c0 Q (pc + 1) ls (.inl x :: st) G) : WJ cs p l e R s m args below meth c D ad cA base y c0 Q pc ls st G := by
  intro H locs lsC hS hL hst hr
  obtain ⟨hx, hb, hml, hown, hts, hE, htab, hlk, hRf, hRl, hCl⟩ := X
  exact lv_iload_n hx hb hd rfl (hr.2.2 _ _ hl) (k H locs lsC hS hL (okS.cons (hL _ _ hl) hst) hr)
theorem sn_aload_n (X : Cx cs p R s m args meth c D ad cA base y) {t : Nat} {i : Int} {j : Fin 4} (hl : lget ls j.val = some (.inr (.inl (t, i)))) (hd : decode (byt y) pc = .ok (.aload_n j, 1)) (k : WJ cs p l e R s m args below meth c D ad cA base y c0 Q (pc + 1) ls (.inr (.inl (t, i)) :: st) G) : WJ cs p l e R s m args below meth c D ad cA base y c0 Q pc ls st G := by
  intro H locs lsC hS hL hst hr
  obtain ⟨hx, hb, hml, hown, hts, hE, htab, hlk, hRf, hRl, hCl⟩ := X
  exact lv_aload_n hx hb hd rfl (hr.2.2 _ _ hl) (k H locs lsC hS hL (okS.cons (hL _ _ hl) hst) hr)
theorem sn_istore (X : Cx cs p R s m args meth c D ad cA base y) {x : Int} {j : Nat} (hj : Nat.blt j ls.length = true) (ho : ok1 ls j = true) (hd : decode (byt y) pc = .ok (.istore j, 2)) (k : WJ cs p l e R s m args below meth c D ad cA base y c0 Q (pc + 2) (lset ls j (some (.inl x))) st G) : WJ cs p l e R s m args below meth c D ad cA base y c0 Q pc ls (.inl x :: st) G := by
  intro H locs lsC hS hL hst hr
  obtain ⟨hx, hb, hml, hown, hts, hE, htab, hlk, hRf, hRl, hCl⟩ := X
  refine lv_istore hx hb hd (rl_has hr) (Nat.lt_of_lt_of_le (Nat.blt_eq.mp hj) hr.2.1) rfl (fun lsC' h' => ?_)
  exact k H locs lsC' hS (okL_set hL hst.head) hst.tail (rl_set (v := .inl x) hr hj ho h')
theorem sn_istore_n (X : Cx cs p R s m args meth c D ad cA base y) {x : Int} {j : Fin 4} (hj : Nat.blt j.val ls.length = true) (ho : ok1 ls j.val = true) (hd : decode (byt y) pc = .ok (.istore_n j, 1)) (k : WJ cs p l e R s m args below meth c D ad cA base y c0 Q (pc + 1) (lset ls j.val (some (.inl x))) st G) : WJ cs p l e R s m args below meth c D ad cA base y c0 Q pc ls (.inl x :: st) G := by
  intro H locs lsC hS hL hst hr
  obtain ⟨hx, hb, hml, hown, hts, hE, htab, hlk, hRf, hRl, hCl⟩ := X
  refine lv_istore_n hx hb hd rfl (rl_has hr) (Nat.lt_of_lt_of_le (Nat.blt_eq.mp hj) hr.2.1) rfl (fun lsC' h' => ?_)
  exact k H locs lsC' hS (okL_set hL hst.head) hst.tail (rl_set (v := .inl x) hr hj ho h')
theorem sn_astore (X : Cx cs p R s m args meth c D ad cA base y) {t : Nat} {i : Int} {j : Nat} (hj : Nat.blt j ls.length = true) (ho : ok1 ls j = true) (hd : decode (byt y) pc = .ok (.astore j, 2)) (k : WJ cs p l e R s m args below meth c D ad cA base y c0 Q (pc + 2) (lset ls j (some (.inr (.inl (t, i))))) st G) : WJ cs p l e R s m args below meth c D ad cA base y c0 Q pc ls (.inr (.inl (t, i)) :: st) G := by
  intro H locs lsC hS hL hst hr
  obtain ⟨hx, hb, hml, hown, hts, hE, htab, hlk, hRf, hRl, hCl⟩ := X
  refine lv_astore hx hb hd (rl_has hr) (Nat.lt_of_lt_of_le (Nat.blt_eq.mp hj) hr.2.1) rfl (fun lsC' h' => ?_)
  exact k H locs lsC' hS (okL_set hL hst.head) hst.tail (rl_set (v := .inr (.inl (t, i))) hr hj ho h')
theorem sn_astore_n (X : Cx cs p R s m args meth c D ad cA base y) {t : Nat} {i : Int} {j : Fin 4} (hj : Nat.blt j.val ls.length = true) (ho : ok1 ls j.val = true) (hd : decode (byt y) pc = .ok (.astore_n j, 1)) (k : WJ cs p l e R s m args below meth c D ad cA base y c0 Q (pc + 1) (lset ls j.val (some (.inr (.inl (t, i))))) st G) : WJ cs p l e R s m args below meth c D ad cA base y c0 Q pc ls (.inr (.inl (t, i)) :: st) G := by
  intro H locs lsC hS hL hst hr
  obtain ⟨hx, hb, hml, hown, hts, hE, htab, hlk, hRf, hRl, hCl⟩ := X
  refine lv_astore_n hx hb hd rfl (rl_has hr) (Nat.lt_of_lt_of_le (Nat.blt_eq.mp hj) hr.2.1) rfl (fun lsC' h' => ?_)
  exact k H locs lsC' hS (okL_set hL hst.head) hst.tail (rl_set (v := .inr (.inl (t, i))) hr hj ho h')
theorem sn_dstore (X : Cx cs p R s m args meth c D ad cA base y) {x : UInt64} {j : Nat} (hj : Nat.blt (j + 1) ls.length = true) (ho : ok1 ls j = true) (hd : decode (byt y) pc = .ok (.dstore j, 2)) (k : WJ cs p l e R s m args below meth c D ad cA base y c0 Q (pc + 2) (lset (lset ls j (some (.inr (.inr (.inr x))))) (j + 1) none) st G) : WJ cs p l e R s m args below meth c D ad cA base y c0 Q pc ls (.inr (.inr (.inr x)) :: st) G := by
  intro H locs lsC hS hL hst hr
  obtain ⟨hx, hb, hml, hown, hts, hE, htab, hlk, hRf, hRl, hCl⟩ := X
  refine lv_dstore hx hb hd (rl_has hr) (Nat.lt_of_lt_of_le (Nat.blt_eq.mp hj) hr.2.1) rfl (fun lsC' h' => ?_)
  exact k H locs lsC' hS (okL_none (okL_set hL hst.head)) hst.tail (rl_set2 (v := .inr (.inr (.inr x))) hr hj ho h')
theorem sn_iinc (X : Cx cs p R s m args meth c D ad cA base y) {x v : Int} {j : Nat} (hl : lget ls j = some (.inl x)) (hj : Nat.blt j ls.length = true) (ho : ok1 ls j = true) (hd : decode (byt y) pc = .ok (.iinc j v, 3)) (k : WJ cs p l e R s m args below meth c D ad cA base y c0 Q (pc + 3) (lset ls j (some (.inl (wr (x + v))))) st G) : WJ cs p l e R s m args below meth c D ad cA base y c0 Q pc ls st G := by
  intro H locs lsC hS hL hst hr
  obtain ⟨hx, hb, hml, hown, hts, hE, htab, hlk, hRf, hRl, hCl⟩ := X
  obtain ⟨q, hq⟩ := lvl_at (ad := ad) hl
  refine lv_iinc (v := i32 (wr (x + v))) hx hb hd (rl_has hr) (k := q) hq (by rw [i32_wr]; exact (Int32.ofInt_add x v).symm) (Nat.lt_of_lt_of_le (Nat.blt_eq.mp hj) hr.2.1) rfl (fun lsC' h' => ?_)
  exact k H locs lsC' hS (okL_set hL (wr_inR _)) hst (rl_set (v := .inl (wr (x + v))) hr hj ho h')
end SND
