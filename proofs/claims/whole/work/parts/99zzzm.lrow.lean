/-! ===== the law's entry: rows ===== -/
theorem dLw_0 : decode code 0 = .ok (.new 8, 3) := by decide +kernel
theorem dLw_3 : decode code 3 = .ok (.dup, 1) := by decide +kernel
theorem dLw_4 : decode code 4 = .ok (.invokespecial 153, 3) := by decide +kernel
theorem dLw_7 : decode code 7 = .ok (.astore_n 1, 1) := by decide +kernel
theorem dLw_8 : decode code 8 = .ok (.new 154, 3) := by decide +kernel
theorem dLw_11 : decode code 11 = .ok (.dup, 1) := by decide +kernel
theorem dLw_12 : decode code 12 = .ok (.invokespecial 156, 3) := by decide +kernel
theorem dLw_15 : decode code 15 = .ok (.astore_n 2, 1) := by decide +kernel
theorem dLw_16 : decode code 16 = .ok (.iconst 1, 1) := by decide +kernel
theorem dLw_17 : decode code 17 = .ok (.newarray .long, 2) := by decide +kernel
theorem dLw_19 : decode code 19 = .ok (.astore_n 3, 1) := by decide +kernel
theorem dLw_20 : decode code 20 = .ok (.iconst 1, 1) := by decide +kernel
theorem dLw_21 : decode code 21 = .ok (.newarray .double, 2) := by decide +kernel
theorem dLw_23 : decode code 23 = .ok (.astore 4, 2) := by decide +kernel
theorem dLw_25 : decode code 25 = .ok (.iconst 0, 1) := by decide +kernel
theorem dLw_26 : decode code 26 = .ok (.istore 5, 2) := by decide +kernel
def Bl (p : Program) (s : State) (m : MethodId) (args : Array Value) (c : Code) (own : String) (cc : ByteArray) (n : Nat) : Prop :=
  p.tables.exec = Jvm.exec ∧ c.code = cc ∧ c.maxLocals = n ∧ s.vm.findClass own = some m.cls ∧ ∀ w ∈ gw, w.before args s = true
section KL
variable {p : Program} {l : Launch} {e : Env} {R : Room} {s : State} {m : MethodId} {args : Array Value} {below : List Frame} {meth : Method} {c : Code} {H : Heap} {locs : List Loc} {cells slots : Nat} {Q : State → Prop} {D : va_G} {cA : Nat → ClassId} {tys : List (ClassId × FieldType)} {own : String} {cc : ByteArray} {n pc : Nat} {ls : Array Slot} {rest : List Value} {A : Nat → Prop} {w : va_W}
theorem kl_new (B : Bl p s m args c own cc n) {t idx : Nat} (ho : t ∈ objs) (hlink : Jvm.Cond.classLink own idx (Rt t) ∈ gw) (hinst : Jvm.Cond.instantiable (Rt t) (Nf t) ∈ gw) (hini : Jvm.Cond.initialized (Rt t) ∈ gw) (hK : va_K D cls_ tys s) (hW : Wk D A s w H locs) (hA : ∀ q, s.heap.size ≤ q → A q) (hc : cells + 1 ≤ R.cells ∧ slots + Nf t ≤ R.slots) (hd : decode cc pc = .ok (.new idx, 3)) {fs : List Value} (hfs : ∀ j, j < Nf t → defaultValue (tyt t j) = vp_V fs j)
    (kk : ∀ (q : Nat) (H1 : Heap), q + 1 = H1.size → va_P D cls_ [(q, .inr (cix t, fs))] H1 → Wk D A s w H1 locs → (∀ (k : Nat) (x : Nat × va_E), w[k]? = some x → x.1 < q) → A q → s.heap.size ≤ q → W p l e R s m args below meth c H1 locs (cells + 1) (slots + Nf t) Q (F0 m (pc + 3) ls (.ref q :: rest))) : W p l e R s m args below meth c H locs cells slots Q (F0 m pc ls rest) := by
  obtain ⟨hx, hb, hml, hown, hts⟩ := B
  have hKn := hK.1 (cix t) _ (cls_at t ho)
  refine W.newcK hx hb hown (hts _ hlink) (hts _ hinst) (hts _ hini) rfl hd hc.1 hc.2 hKn.2.1 rfl fun H1 kC hkC e1 z1 o1 => ?_
  obtain ⟨hP, hD, hS⟩ := hW
  have hk : ∀ (k : Nat) (x : Nat × va_E), w[k]? = some x → H1[x.1]? = H[x.1]? := fun k x hx => o1 x.1 ((hP k x hx).lt)
  refine kk H.size H1 z1.symm (va_P.one ⟨_, cls_at t ho, (u_born (tyt t) hts (inT t ho) hKn hkC e1 (tyt_ok t ho)).to hfs⟩) ⟨hP.kept hk, hD, ⟨Nat.le_trans hS.1 (by omega), fun x h1 h2 => (o1 x (Nat.lt_of_lt_of_le h1 hS.1)).trans (hS.2.1 x h1 h2), hS.2.2⟩⟩ (fun k x hx => (hP k x hx).lt) (hA _ hS.1) hS.1
/-- a row of longs or doubles -/
theorem kl_newa (B : Bl p s m args c own cc n) {atype : ArrayType} {k N : Nat} {ty : FieldType} (a0 : vp_A) (harr : Jvm.Cond.arrayClass (newarray.typeOf atype) ∈ gw) (hty : newarray.typeOf atype = ty) (hp : ∀ (U : State) (z : ClassId), va_RA U z ty = (U.vm.findClass ("[" ++ ty.toString) = some z)) (ha : ∀ z : ClassId, vp_cell z a0 = arrV z N (fun _ => defaultValue ty)) (hk : (tys_ cA)[k]? = some (cA k, ty)) (hK : va_K D cls_ (tys_ cA) s) (hW : Wk D A s w H locs) (hA : ∀ q, s.heap.size ≤ q → A q) {x : Int32} (hx0 : ¬ x < 0) (hN : x.toNatClampNeg = N) (hbytes : N * componentBytes ty ≤ 536870912) (hc : cells + 1 ≤ R.cells ∧ slots + N ≤ R.slots) (hd : decode cc pc = .ok (.newarray atype, 2))
    (kk : ∀ (q : Nat) (H1 : Heap), Wk D A s (w ++ [(q, .inl (cA k, a0))]) H1 locs → W p l e R s m args below meth c H1 locs (cells + 1) (slots + N) Q (F0 m (pc + 2) ls (.ref q :: rest))) : W p l e R s m args below meth c H locs cells slots Q (F0 m pc ls (.int x :: rest)) := by
  obtain ⟨hx, hb, hml, hown, hts⟩ := B
  obtain ⟨hP, hD, hS⟩ := hW
  refine va_newa (a0 := a0) (N' := N) hx hb (hts _ harr) hty hK hP hD hS hA ha hx0 hN hbytes hc.1 hc.2 hd (fun q z H1 hK1 hP1 hD1 hS1 => ?_)
  have h1 := (hK1.2 (tys_ cA).length (z, ty) (by rw [List.getElem?_append_right (Nat.le_refl _), Nat.sub_self]; rfl)).2
  have h2 := (hK.2 k _ hk).2
  rw [hp] at h1 h2
  have hz : z = cA k := Option.some.inj (h1.symm.trans h2)
  subst hz
  exact kk q H1 ⟨hP1, hD1, hS1⟩
variable {ad0 : Nat → Int → Nat} {base : Nat} {G0 : GG}
theorem kl_call (B : Bl p s m args c own cc n) {y : MethodName} {ccy : ByteArray} {ny idx q t : Nat} {rm : Room} {As fs : List Value} {wro : va_W} {Post : Heap → Prop} {st0 : List Value} (hM : CI l y ccy ny rm D cA ad0 base G0 As q t fs wro Post) (hE : Ek D cA ad0 base G0 s) (hS : va_S A s.heap H locs) (hAb : ∀ z, A z → base ≤ z) (hq : q + 1 = H.size) (hP1 : va_P D cls_ [(q, .inr (cix t, fs))] H) (hwro : va_P D cls_ wro H) (hlw : ∀ (k : Nat) (x : Nat × va_E), wro[k]? = some x → x.1 < q) (hbq : base ≤ q)
    (hlink : Jvm.Cond.methodLink own idx y ∈ gw) (hcw : Jvm.Cond.code y ccy ny none ∈ gw) (hini : Jvm.Cond.initialized y.cls ∈ gw) (hin : Jvm.Cond.instanceMethod y ∈ gw) (hnm : y.name = "<init>") (hy : y.cls ≠ "java/lang/invoke/MethodHandle" ∧ y.cls ≠ "java/lang/invoke/VarHandle" ∧ (parseMethodDescriptor y.desc).map (fun d => d.parameters.length) = some As.length) (hR : rm.frames + 1 ≤ R.frames ∧ 8 + (ny + 11) + rm.locals ≤ R.locals) (hc : cells + rm.cells ≤ R.cells ∧ slots + rm.slots ≤ R.slots) (hst : st0 = As.reverse ++ .ref q :: rest) (hw : (rest.map fun v => v.category).sum ≤ 8) (hsz : ls.size = n) (hd : decode cc pc = .ok (.invokespecial idx, 3)) (hA : ∀ z, Ab q z → A z)
    (kk : ∀ (H1 : Heap) (locs1 : List Loc), Post H1 → (∀ z : Nat, z < H.size → z < q → H1[z]? = H[z]?) → H.size ≤ H1.size → va_S A s.heap H1 locs1 → W p l e R s m args below meth c H1 locs1 (cells + rm.cells) (slots + rm.slots) Q (F0 m (pc + 3) ls rest)) : W p l e R s m args below meth c H locs cells slots Q (F0 m pc ls st0) := by
  obtain ⟨hx, hb, hml, hown, hts⟩ := B
  have hG : GoodIn gw (Jvm.Cond.code y ccy ny none :: gw) := gw_goodIn (fun w h => (List.mem_cons.mp h).elim (fun e => e ▸ hcw) id)
  exact k_after (y := y) (As := As) (va_runI (As := As) (rest := rest) ⟨hx, hb, hml, hown, hts⟩ hM (cwI As.length hts hG rfl rfl rfl (hts _ hini) (hts _ hlink) (hts _ hin) hnm hy hR) ⟨Pk_blind _ _ _ _ _ _ _ _ _ _, fun U hU hW => ⟨rfl, k_pre hE hS hAb hq hP1 hwro hlw hbq hU hW⟩⟩ rfl rfl hsz hst (lv_room hw) hd hc) hS hA kk
end KL
theorem ac_l : Jvm.Cond.arrayClass (newarray.typeOf .long) ∈ gw := gw_at (k := 8) (i := 69) rfl rfl
theorem ac_d : Jvm.Cond.arrayClass (newarray.typeOf .double) ∈ gw := gw_at (k := 8) (i := 70) rfl rfl
theorem cell_l (z : ClassId) : vp_cell z (1, .inr (.inl fun _ => i64 0)) = arrV z 1 (fun _ => defaultValue .long) := rfl
theorem cell_d (z : ClassId) : vp_cell z (1, .inr (.inr (.inr (.inl fun _ => dBits 0)))) = arrV z 1 (fun _ => defaultValue .double) := rfl
