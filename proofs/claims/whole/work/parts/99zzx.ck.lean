/-! ===== constructors: rows ===== -/
def lnL (own : String) (k : Nat) (c : String) : Jvm.Cond := .methodLinkNest own k ⟨c, "<init>", "()V"⟩ "MapGeneralizer"
/-- links of constructors among nest mates -/
def nwK : List Jvm.Cond := [lnL "MapGeneralizer$Sheet" 11 "MapGeneralizer$Lines", lnL "MapGeneralizer$Sheet" 20 "MapGeneralizer$Points", lnL "MapGeneralizer$Sheet" 27 "MapGeneralizer$Parcels", lnL "MapGeneralizer$Levels" 38 "MapGeneralizer$Lines", lnL "MapGeneralizer$Levels" 42 "MapGeneralizer$Parcels", lnL "MapGeneralizer" 40 "MapGeneralizer$Script"]
theorem nwK_warm {s U : State} (hW : s.WarmedH U.vm) {w : Jvm.Cond} (hw : w ∈ nwK) (h : va_Nw w s) : va_Nw w U := by
  simp only [nwK, List.mem_cons, List.not_mem_nil, or_false] at hw
  rcases hw with rfl | rfl | rfl | rfl | rfl | rfl
  all_goals exact va_Nw.warmM hW h
theorem nwK_tab : ∀ w ∈ nwK, w.onTables = true := by decide
/-- the classes of which there are arrays -/
def aoK : List String := ["MapGeneralizer$Sheet", "MapGeneralizer$Lines", "MapGeneralizer$Parcels", "MapGeneralizer$Labels"]
def Ek (D : va_G) (cA : Nat → ClassId) (ad0 : Nat → Int → Nat) (base : Nat) (G0 : GG) (U : State) : Prop := En [] D ad0 cA base U ∧ Ro ad0 base G0 U ∧ (∀ w ∈ nwK, va_Nw w U) ∧ ∀ C ∈ aoK, va_AO C U
theorem Ek.moved {D : va_G} {cA : Nat → ClassId} {ad0 : Nat → Int → Nat} {base : Nat} {G0 : GG} {s U : State} (hW : s.WarmedH U.vm) (hq : ∀ a : Nat, a < s.heap.size → ¬ Ab base a → U.heap[a]? = s.heap[a]?) (h : Ek D cA ad0 base G0 s) : Ek D cA ad0 base G0 U := ⟨h.1.moved hW hq, h.2.1.kept hW.alike hq, fun w hw => nwK_warm hW hw (h.2.2.1 w hw), fun C hC => va_AO.moved hW.alike (h.2.2.2 C hC)⟩
theorem Ek.same {D : va_G} {cA : Nat → ClassId} {ad0 : Nat → Int → Nat} {base : Nat} {G0 : GG} {s U : State} (hv : U.vm = s.vm) (hh : U.heap = s.heap) (h : Ek D cA ad0 base G0 s) : Ek D cA ad0 base G0 U := ⟨En.same hv hh h.1, Ro.kept (by rw [hv]; exact Vm.Alike.refl _) (fun _ _ _ => by rw [hh]) h.2.1, fun w hw => va_Nw.same (nwK_tab w hw) hv.symm (h.2.2.1 w hw), fun C hC => va_AO.moved (by rw [hv]; exact Vm.Alike.refl _) (h.2.2.2 C hC)⟩
/-- a constructor's body -/
def Bk (p : Program) (s : State) (m : MethodId) (args : Array Value) (meth : Method) (c : Code) (own : String) (cc : ByteArray) (n : Nat) : Prop :=
  p.tables.exec = Jvm.exec ∧ c.code = cc ∧ meth.sig.returnType = none ∧ c.maxLocals = n ∧ s.vm.findClass own = some m.cls ∧ (∀ w ∈ gw, w.before args s = true) ∧ meth.locks = false ∧ meth.name = "<init>"
/-- the cells made so far -/
def Wk (D : va_G) (A : Nat → Prop) (s : State) (w : va_W) (H : Heap) (locs : List Loc) : Prop := va_P D cls_ w H ∧ va_D A w ∧ va_S A s.heap H locs
theorem Wk.lt {D : va_G} {A : Nat → Prop} {s : State} {w : va_W} {H : Heap} {locs : List Loc} (h : Wk D A s w H locs) (k : Nat) (x : Nat × va_E) (hk : w[k]? = some x) : x.1 < H.size := (h.1 k x hk).lt
/-- what comes behind a newer cell is apart -/
theorem va_D.behind {A : Nat → Prop} {w w1 : va_W} {q : Nat} (h : va_D A w) (h1 : va_D (Ab q) w1) (hlt : ∀ (k : Nat) (x : Nat × va_E), w[k]? = some x → x.1 < q) (hA : ∀ z, Ab q z → A z) : va_D A (w ++ w1) :=
  va_D.app h (h1.weaken (fun k x _ hx => hA x.1 hx)) (fun i j x y hx hy hxy => by
    have a := hlt i x hx
    have b : q ≤ y.1 := h1.2 j y hy
    omega)
theorem va_P.one {D : va_G} {q : Nat × va_E} {H : Heap} (h : va_at D cls_ q H) : va_P D cls_ [q] H := fun k x hx => by
  have hz : k < 1 := (List.getElem?_eq_some_iff.mp hx).1
  rw [show k = 0 by omega] at hx
  cases hx
  exact h
theorem va_D.one {A : Nat → Prop} {q : Nat × va_E} (h : A q.1) : va_D A [q] := ⟨fun i j x y hx hy _ => by
    have h1 : i < 1 := (List.getElem?_eq_some_iff.mp hx).1
    have h2 : j < 1 := (List.getElem?_eq_some_iff.mp hy).1
    omega, fun k x hx => by
    have hz : k < 1 := (List.getElem?_eq_some_iff.mp hx).1
    rw [show k = 0 by omega] at hx
    cases hx
    exact h⟩
theorem oi_1 : Jvm.Cond.instanceMethod Lib.objectInit ∈ gw := List.mem_filter.mpr ⟨by decide +kernel, rfl⟩
theorem oi_2 : Jvm.Cond.code Lib.objectInit ⟨#[0xb1]⟩ 1 none ∈ gw := List.mem_filter.mpr ⟨by decide +kernel, rfl⟩
/-- what a constructor's caller holds; its contract -/
def Pk (D : va_G) (cA : Nat → ClassId) (ad0 : Nat → Int → Nat) (base : Nat) (G0 : GG) (q t : Nat) (fs : List Value) (wro : va_W) (U : State) : Prop := q + 1 = U.heap.size ∧ va_P D cls_ [(q, .inr (cix t, fs))] U.heap ∧ va_P D cls_ wro U.heap ∧ (∀ (k : Nat) (x : Nat × va_E), wro[k]? = some x → x.1 < q) ∧ Ek D cA ad0 base G0 U ∧ base ≤ q
def CI (l : Launch) (y : MethodName) (cc : ByteArray) (n : Nat) (rm : Room) (D : va_G) (cA : Nat → ClassId) (ad0 : Nat → Int → Nat) (base : Nat) (G0 : GG) (As : List Value) (q t : Nat) (fs : List Value) (wro : va_W) (Post : Heap → Prop) : Prop :=
  Met l y (Jvm.Cond.code y cc n none :: gw) rm (va_Pc (.ref q :: As) (Pk D cA ad0 base G0 q t fs wro)) (va_Qv (fun _ : Unit => True) (fun _ t => Post t.heap) (Ab q)) rm.cells rm.slots (Ab q)
theorem Pk_blind (D : va_G) (cA : Nat → ClassId) (ad0 : Nat → Int → Nat) (base : Nat) (G0 : GG) (q t : Nat) (fs : List Value) (wro : va_W) (As : List Value) : FrameBlind (va_Pc As (Pk D cA ad0 base G0 q t fs wro)) := by
  intro v U g mk h
  obtain ⟨h1, h2, h3, h4, h5, h6, h7⟩ := h
  exact ⟨h1, h2, h3, h4, h5, Ek.same (s := U) (U := U.calling g mk v) rfl rfl h6, h7⟩
theorem CI.of {l : Launch} {y : MethodName} {cc : ByteArray} {n : Nat} {rm : Room} {D : va_G} {cA : Nat → ClassId} {ad0 : Nat → Int → Nat} {base : Nat} {G0 : GG} {As : List Value} {q t : Nat} {fs : List Value} {wro : va_W} {Post : Heap → Prop} (hy : plainName y.cls = true) (hcw : Jvm.Cond.code y cc n none ∈ gw) (hnm : y.name = "<init>") (hn : (lg_sl (.ref q :: As)).length ≤ n)
    (body : ∀ (p : Program) (e : Env) (s : State) (m : MethodId) (args : Array Value) (below : List Frame) (meth : Method) (c : Code) (ls : Array Slot), Bk p s m args meth c y.cls cc n → Pk D cA ad0 base G0 q t fs wro s → lv_has ls n (lv_args 0 (.ref q :: As)) → W p l e rm s m args below meth c s.heap [] 0 0 (MQ below (va_Qv (fun _ : Unit => True) (fun _ t => Post t.heap) (Ab q)) args s rm.cells rm.slots (Ab q)) (F0 m 0 ls [])) :
    CI l y cc n rm D cA ad0 base G0 As q t fs wro Post := by
  refine Met.ofW (cc := cc) (maxL := n) (ret := none) hy rfl ?_
  intro p e s m args below meth c s₁ B hml hv
  obtain ⟨rfl, hP⟩ := hv
  have hts := atoms_spec (ws := Jvm.Cond.code y cc n none :: gw) B.pre
  have hB : Bk p s m (.ref q :: As).toArray meth c y.cls cc n := ⟨B.exec, B.bytes, B.returns, hml, findClass_of_methodNamed B.named, fun w hw => hts w (List.mem_cons_of_mem _ hw), B.notSynchronized, (name_of_methodNamed B.named B.method).1.trans hnm⟩
  rw [lg_entry_eq]
  exact body p e s m _ below meth c _ hB hP (lv_entry (.ref q :: As) hn)
section CK
variable {p : Program} {l : Launch} {e : Env} {R : Room} {s : State} {m : MethodId} {args : Array Value} {below : List Frame} {meth : Method} {c : Code} {H : Heap} {locs : List Loc} {cells slots : Nat} {Q : State → Prop} {D : va_G} {cA : Nat → ClassId} {tys : List (ClassId × FieldType)} {own : String} {cc : ByteArray} {n pc : Nat} {ls : Array Slot} {rest : List Value} {A : Nat → Prop} {w : va_W}
theorem k_obj (B : Bk p s m args meth c own cc n) {idx a : Nat} (hlink : Jvm.Cond.methodLink own idx Lib.objectInit ∈ gw) (hd : decode cc pc = .ok (.invokespecial idx, 3)) (hsz : ls.size = n) (hR : 1 ≤ R.frames ∧ 12 ≤ R.locals) (kk : W p l e R s m args below meth c H locs cells slots Q (F0 m (pc + 3) ls [])) : W p l e R s m args below meth c H locs cells slots Q (F0 m pc ls [.ref a]) := by
  obtain ⟨hx, hb, hr, hml, hown, hts, hlk, hnm⟩ := B
  refine W.objInit hx hb hown (hts _ hlink) (hts _ oi_1) (hts _ oi_2) rfl (by rw [hml]; exact hsz) rfl hd hR.1 hR.2 ?_
  exact W.eq (g2 := F0 m (pc + 3) ls []) rfl kk
theorem k_new (B : Bk p s m args meth c own cc n) {t idx : Nat} (ho : t ∈ objs) (hlink : Jvm.Cond.classLink own idx (Rt t) ∈ gw) (hinst : Jvm.Cond.instantiable (Rt t) (Nf t) ∈ gw) (hini : Jvm.Cond.initialized (Rt t) ∈ gw) (hK : va_K D cls_ tys s) (hW : Wk D A s w H locs) (hA : ∀ q, s.heap.size ≤ q → A q) (hc : cells + 1 ≤ R.cells ∧ slots + Nf t ≤ R.slots) (hd : decode cc pc = .ok (.new idx, 3)) {fs : List Value} (hfs : ∀ j, j < Nf t → defaultValue (tyt t j) = vp_V fs j)
    (kk : ∀ (q : Nat) (H1 : Heap), q + 1 = H1.size → va_P D cls_ [(q, .inr (cix t, fs))] H1 → Wk D A s w H1 locs → (∀ (k : Nat) (x : Nat × va_E), w[k]? = some x → x.1 < q) → A q → s.heap.size ≤ q → W p l e R s m args below meth c H1 locs (cells + 1) (slots + Nf t) Q (F0 m (pc + 3) ls (.ref q :: rest))) : W p l e R s m args below meth c H locs cells slots Q (F0 m pc ls rest) := by
  obtain ⟨hx, hb, hr, hml, hown, hts, hlk, hnm⟩ := B
  have hKn := hK.1 (cix t) _ (cls_at t ho)
  refine W.newcK hx hb hown (hts _ hlink) (hts _ hinst) (hts _ hini) rfl hd hc.1 hc.2 hKn.2.1 rfl fun H1 kC hkC e1 z1 o1 => ?_
  obtain ⟨hP, hD, hS⟩ := hW
  have hk : ∀ (k : Nat) (x : Nat × va_E), w[k]? = some x → H1[x.1]? = H[x.1]? := fun k x hx => o1 x.1 ((hP k x hx).lt)
  refine kk H.size H1 z1.symm (va_P.one ⟨_, cls_at t ho, (u_born (tyt t) hts (inT t ho) hKn hkC e1 (tyt_ok t ho)).to hfs⟩) ⟨hP.kept hk, hD, ⟨Nat.le_trans hS.1 (by omega), fun x h1 h2 => (o1 x (Nat.lt_of_lt_of_le h1 hS.1)).trans (hS.2.1 x h1 h2), hS.2.2⟩⟩ (fun k x hx => (hP k x hx).lt) (hA _ hS.1) hS.1
theorem k_putF (B : Bk p s m args meth c own cc n) {t k idx q : Nat} {fs : List Value} {v : Value} (ho : t ∈ objs) (hk : k < Nf t) (hlink : Jvm.Cond.fieldLink own idx (Rt t) (Tt t k).2.1 (Tt t k).2.2.1 ∈ gw) (hfin : (Tt t k).2.2.2 = true) (hdecl : (Tt t k).1 = own) (hn : narrow (tyt t k) v = v) (hfit : fits (tyt t k) v = true) (hl : k < fs.length) (hK : va_K D cls_ tys s) (hW : Wk D A s ((q, .inr (cix t, fs)) :: w) H locs) (hd : decode cc pc = .ok (.putfield idx, 3))
    (kk : ∀ (H1 : Heap) (locs1 : List Loc), Wk D A s ((q, .inr (cix t, fs.set k v)) :: w) H1 locs1 → W p l e R s m args below meth c H1 locs1 cells slots Q (F0 m (pc + 3) ls rest)) : W p l e R s m args below meth c H locs cells slots Q (F0 m pc ls (v :: .ref q :: rest)) := by
  obtain ⟨hx, hb, hr, hml, hown, hts, hlk, hnm⟩ := B
  obtain ⟨hP, hD, hS⟩ := hW
  exact va_putF (D := D) (ci := cix t) (ty := tyt t k) (v := v) (C := Rt t) (T := Tt t) (N := Nf t) hx hb hts (inT t ho) (tyt t) (tyt_ok t ho) (nmt_ok t ho) hown hK hP hD hS 0 rfl (cls_at t ho) k hk (hts _ hlink) (fun x h9 => by rw [own_ok t ho k hk] at h9; exact h9) hfin hnm hdecl (tyt_ok t ho k hk) hn hfit hl hd (fun H1 locs1 hP1 hD1 hS1 => kk H1 locs1 ⟨hP1, hD1, hS1⟩)
theorem k_put (B : Bk p s m args meth c own cc n) {t k idx q : Nat} {fs : List Value} {v : Value} (ho : t ∈ objs) (hk : k < Nf t) (hlink : Jvm.Cond.fieldLink own idx (Rt t) (Tt t k).2.1 (Tt t k).2.2.1 ∈ gw) (hfin : (Tt t k).2.2.2 = false) (hn : narrow (tyt t k) v = v) (hfit : fits (tyt t k) v = true) (hl : k < fs.length) (hK : va_K D cls_ tys s) (hW : Wk D A s ((q, .inr (cix t, fs)) :: w) H locs) (hd : decode cc pc = .ok (.putfield idx, 3))
    (kk : ∀ (H1 : Heap) (locs1 : List Loc), Wk D A s ((q, .inr (cix t, fs.set k v)) :: w) H1 locs1 → W p l e R s m args below meth c H1 locs1 cells slots Q (F0 m (pc + 3) ls rest)) : W p l e R s m args below meth c H locs cells slots Q (F0 m pc ls (v :: .ref q :: rest)) := by
  obtain ⟨hx, hb, hr, hml, hown, hts, hlk, hnm⟩ := B
  obtain ⟨hP, hD, hS⟩ := hW
  exact va_put (D := D) (ci := cix t) (ty := tyt t k) (v := v) (C := Rt t) (T := Tt t) (N := Nf t) hx hb hts (inT t ho) (tyt t) (tyt_ok t ho) (nmt_ok t ho) hown hK hP hD hS 0 rfl (cls_at t ho) k hk (hts _ hlink) (fun x h9 => by rw [own_ok t ho k hk] at h9; exact h9) hfin (tyt_ok t ho k hk) hn hfit hl hd (fun H1 locs1 hP1 hD1 hS1 => kk H1 locs1 ⟨hP1, hD1, hS1⟩)
/-- a row of ints or chars -/
theorem k_newa (B : Bk p s m args meth c own cc n) {atype : ArrayType} {k N : Nat} {ty : FieldType} (harr : Jvm.Cond.arrayClass (newarray.typeOf atype) ∈ gw) (hty : newarray.typeOf atype = ty) (hp : ∀ (U : State) (z : ClassId), va_RA U z ty = (U.vm.findClass ("[" ++ ty.toString) = some z)) (hd0 : defaultValue ty = .int 0) (hk : (tys_ cA)[k]? = some (cA k, ty)) (hK : va_K D cls_ (tys_ cA) s) (hW : Wk D A s w H locs) (hA : ∀ q, s.heap.size ≤ q → A q) {x : Int32} (hx0 : ¬ x < 0) (hN : x.toNatClampNeg = N) (hbytes : N * componentBytes ty ≤ 536870912) (hc : cells + 1 ≤ R.cells ∧ slots + N ≤ R.slots) (hd : decode cc pc = .ok (.newarray atype, 2))
    (kk : ∀ (q : Nat) (H1 : Heap), Wk D A s (w ++ [(q, .inl (cA k, N, .inl fun _ => i32 0))]) H1 locs → W p l e R s m args below meth c H1 locs (cells + 1) (slots + N) Q (F0 m (pc + 2) ls (.ref q :: rest))) : W p l e R s m args below meth c H locs cells slots Q (F0 m pc ls (.int x :: rest)) := by
  obtain ⟨hx, hb, hr, hml, hown, hts, hlk, hnm⟩ := B
  obtain ⟨hP, hD, hS⟩ := hW
  refine va_newa (a0 := (N, .inl fun _ => i32 0)) (N' := N) hx hb (hts _ harr) hty hK hP hD hS hA (fun z => by rw [hd0]; rfl) hx0 hN hbytes hc.1 hc.2 hd (fun q z H1 hK1 hP1 hD1 hS1 => ?_)
  have h1 := (hK1.2 (tys_ cA).length (z, ty) (by rw [List.getElem?_append_right (Nat.le_refl _), Nat.sub_self]; rfl)).2
  have h2 := (hK.2 k _ hk).2
  rw [hp] at h1 h2
  have hz : z = cA k := Option.some.inj (h1.symm.trans h2)
  subst hz
  exact kk q H1 ⟨hP1, hD1, hS1⟩
variable {ad0 : Nat → Int → Nat} {base : Nat} {G0 : GG}
theorem k_after {y : MethodName} {rm : Room} {As : List Value} {q : Nat} {Post : Heap → Prop} {a : Array Value} {st0 : List Value} (hr : va_Run p l e R s m args below meth c H locs cells slots rm.cells rm.slots (F0 m pc ls st0) rest (va_Qv (fun _ : Unit => True) (fun _ t => Post t.heap) (Ab q) a) (Ab q)) (hS : va_S A s.heap H locs) (hA : ∀ z, Ab q z → A z)
    (kk : ∀ (H1 : Heap) (locs1 : List Loc), Post H1 → (∀ z : Nat, z < H.size → z < q → H1[z]? = H[z]?) → H.size ≤ H1.size → va_S A s.heap H1 locs1 → W p l e R s m args below meth c H1 locs1 (cells + rm.cells) (slots + rm.slots) Q (F0 m (pc + 3) ls rest)) : W p l e R s m args below meth c H locs cells slots Q (F0 m pc ls st0) :=
  va_callv hr hS (fun z _ h => hA z h) hA (fun u t H1 locs1 ht hvm hw hB hz1 hk1 hS1 => kk H1 locs1 (by rw [← ht]; exact hB) (fun z h1 h2 => hk1 z h1 (fun h3 => by have h4 : q ≤ z := h3; omega)) hz1 hS1)
theorem k_pre {q t : Nat} {fs : List Value} {wro : va_W} (hE : Ek D cA ad0 base G0 s) (hS : va_S A s.heap H locs) (hAb : ∀ z, A z → base ≤ z) (hq : q + 1 = H.size) (hP1 : va_P D cls_ [(q, .inr (cix t, fs))] H) (hwro : va_P D cls_ wro H) (hlw : ∀ (k : Nat) (x : Nat × va_E), wro[k]? = some x → x.1 < q) (hbq : base ≤ q) {U : State} (hU : U.heap = H) (hW : s.WarmedH U.vm) : Pk D cA ad0 base G0 q t fs wro U :=
  ⟨by rw [hU]; exact hq, by rw [hU]; exact hP1, by rw [hU]; exact hwro, hlw, hE.moved hW (fun a h1 h2 => by rw [hU]; exact hS.2.1 a h1 (fun z => h2 (hAb a z))), hbq⟩
/-- a constructor is called -/
theorem k_call (B : Bk p s m args meth c own cc n) {y : MethodName} {ccy : ByteArray} {ny idx q t : Nat} {rm : Room} {As fs : List Value} {wro : va_W} {Post : Heap → Prop} {st0 : List Value} (hM : CI l y ccy ny rm D cA ad0 base G0 As q t fs wro Post) (hE : Ek D cA ad0 base G0 s) (hS : va_S A s.heap H locs) (hAb : ∀ z, A z → base ≤ z) (hq : q + 1 = H.size) (hP1 : va_P D cls_ [(q, .inr (cix t, fs))] H) (hwro : va_P D cls_ wro H) (hlw : ∀ (k : Nat) (x : Nat × va_E), wro[k]? = some x → x.1 < q) (hbq : base ≤ q)
    (hlink : Jvm.Cond.methodLink own idx y ∈ gw) (hcw : Jvm.Cond.code y ccy ny none ∈ gw) (hini : Jvm.Cond.initialized y.cls ∈ gw) (hin : Jvm.Cond.instanceMethod y ∈ gw) (hnm : y.name = "<init>") (hy : y.cls ≠ "java/lang/invoke/MethodHandle" ∧ y.cls ≠ "java/lang/invoke/VarHandle" ∧ (parseMethodDescriptor y.desc).map (fun d => d.parameters.length) = some As.length) (hR : rm.frames + 1 ≤ R.frames ∧ 8 + (ny + 11) + rm.locals ≤ R.locals) (hc : cells + rm.cells ≤ R.cells ∧ slots + rm.slots ≤ R.slots) (hst : st0 = As.reverse ++ .ref q :: rest) (hw : (rest.map fun v => v.category).sum ≤ 8) (hsz : ls.size = n) (hd : decode cc pc = .ok (.invokespecial idx, 3)) (hA : ∀ z, Ab q z → A z)
    (kk : ∀ (H1 : Heap) (locs1 : List Loc), Post H1 → (∀ z : Nat, z < H.size → z < q → H1[z]? = H[z]?) → H.size ≤ H1.size → va_S A s.heap H1 locs1 → W p l e R s m args below meth c H1 locs1 (cells + rm.cells) (slots + rm.slots) Q (F0 m (pc + 3) ls rest)) : W p l e R s m args below meth c H locs cells slots Q (F0 m pc ls st0) := by
  obtain ⟨hx, hb, hr, hml, hown, hts, hlk, hn9⟩ := B
  have hG : GoodIn gw (Jvm.Cond.code y ccy ny none :: gw) := gw_goodIn (fun w h => (List.mem_cons.mp h).elim (fun e => e ▸ hcw) id)
  exact k_after (y := y) (As := As) (va_runI (As := As) (rest := rest) ⟨hx, hb, hml, hown, hts⟩ hM (cwI As.length hts hG rfl rfl rfl (hts _ hini) (hts _ hlink) (hts _ hin) hnm hy hR) ⟨Pk_blind _ _ _ _ _ _ _ _ _ _, fun U hU hW => ⟨rfl, k_pre hE hS hAb hq hP1 hwro hlw hbq hU hW⟩⟩ rfl rfl hsz hst (lv_room hw) hd hc) hS hA kk
/-- the same, of a nest mate -/
theorem k_callN (B : Bk p s m args meth c own cc n) {y : MethodName} {ccy : ByteArray} {ny idx q t : Nat} {rm : Room} {As fs : List Value} {wro : va_W} {Post : Heap → Prop} {st0 : List Value} (hM : CI l y ccy ny rm D cA ad0 base G0 As q t fs wro Post) (hE : Ek D cA ad0 base G0 s) (hS : va_S A s.heap H locs) (hAb : ∀ z, A z → base ≤ z) (hq : q + 1 = H.size) (hP1 : va_P D cls_ [(q, .inr (cix t, fs))] H) (hwro : va_P D cls_ wro H) (hlw : ∀ (k : Nat) (x : Nat × va_E), wro[k]? = some x → x.1 < q) (hbq : base ≤ q)
    (hlink : Jvm.Cond.methodLinkNest own idx y "MapGeneralizer" ∈ nwK) (hcw : Jvm.Cond.code y ccy ny none ∈ gw) (hini : Jvm.Cond.initialized y.cls ∈ gw) (hin : Jvm.Cond.instanceMethod y ∈ gw) (hnm : y.name = "<init>") (hy : y.cls ≠ "java/lang/invoke/MethodHandle" ∧ y.cls ≠ "java/lang/invoke/VarHandle" ∧ (parseMethodDescriptor y.desc).map (fun d => d.parameters.length) = some As.length) (hR : rm.frames + 1 ≤ R.frames ∧ 8 + (ny + 11) + rm.locals ≤ R.locals) (hc : cells + rm.cells ≤ R.cells ∧ slots + rm.slots ≤ R.slots) (hst : st0 = As.reverse ++ .ref q :: rest) (hw : (rest.map fun v => v.category).sum ≤ 8) (hsz : ls.size = n) (hd : decode cc pc = .ok (.invokespecial idx, 3)) (hA : ∀ z, Ab q z → A z)
    (kk : ∀ (H1 : Heap) (locs1 : List Loc), Post H1 → (∀ z : Nat, z < H.size → z < q → H1[z]? = H[z]?) → H.size ≤ H1.size → va_S A s.heap H1 locs1 → W p l e R s m args below meth c H1 locs1 (cells + rm.cells) (slots + rm.slots) Q (F0 m (pc + 3) ls rest)) : W p l e R s m args below meth c H locs cells slots Q (F0 m pc ls st0) := by
  obtain ⟨hx, hb, hr, hml, hown, hts, hlk, hn9⟩ := B
  have hG : GoodIn gw (Jvm.Cond.code y ccy ny none :: gw) := gw_goodIn (fun w h => (List.mem_cons.mp h).elim (fun e => e ▸ hcw) id)
  exact k_after (y := y) (As := As) (va_runIN (host := "MapGeneralizer") (As := As) (rest := rest) ⟨hx, hb, hml, hown, hts⟩ hM ⟨va_cnB As.length hts hG rfl rfl rfl (hE.2.2.1 _ hlink) (hts _ hini) hy hR, hnm, hts _ hin⟩ ⟨Pk_blind _ _ _ _ _ _ _ _ _ _, fun U hU hW => ⟨rfl, k_pre hE hS hAb hq hP1 hwro hlw hbq hU hW⟩⟩ rfl rfl hsz hst (lv_room hw) hd hc) hS hA kk
/-- the end of a constructor -/
theorem k_ret (B : Bk p s m args meth c own cc n) {q mc ms : Nat} {Post : Heap → Prop} (hS : va_S (Ab q) s.heap H locs) (hpost : Post H) (hd : decode cc pc = .ok (.return_, 1)) (hc : cells ≤ mc ∧ slots ≤ ms) : W p l e R s m args below meth c H locs cells slots (MQ below (va_Qv (fun _ : Unit => True) (fun _ t => Post t.heap) (Ab q)) args s mc ms (Ab q)) (F0 m pc ls []) := by
  obtain ⟨hx, hb, hr, hml, hown, hts, hlk, hnm⟩ := B
  refine W.widen (k := mc) (n := ms) hc.1 hc.2 ?_
  exact W.vret hx hb hr (fun t ht hW => ⟨⟨(), rfl, trivial, (show Post t.heap by rw [ht]; exact hpost)⟩, hS.F ht⟩) hS.2.2 hd hlk
end CK
