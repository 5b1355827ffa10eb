/-! ===== constructors: a part of the world; a method of the small machine called from a constructor ===== -/
/-- the memory at the start: no cell holds a number -/
def gz (g : GG) : GG := fun t i k => if t < 44 then 0 else g t i k
/-- addresses of a part: tags from t0 on -/
def adL (ad0 : Nat → Int → Nat) (t0 : Nat) (v : List Nat) : Nat → Int → Nat := fun t i => if 44 ≤ t then ad0 t i else v.getD (t - t0) 0
theorem run_sx {y pc : Nat} {ls : Lcs} {st : List AV} {G : GG} {r : RV × GG} (h : run y pc ls st G = some r) : ∃ n, sx n y pc ls st G = some r := by
  unfold run at h
  split at h
  · rename_i hx
    cases h
    exact hx.choose_spec
  · cases h
/-- the contract of a method, from its run -/
theorem ctr_run {l : Launch} (hl : l.stackTraces = false) {cs : CS} (hCl : Clo cs) {D : va_G} {ad : Nat → Int → Nat} {cA : Nat → ClassId} {base n z : Nat} {a : List AV} {G : GG} {rz : RV} {Gz : GG} (hz : z < 302) (hsx : sx n z 0 (ent z a) [] G = some (rz, Gz)) (ha : okS cs a) (hG : okG G) (hlen : a.length = (mt z).1) (hws : wsum a = (mt z).1) : Ctr l cs D ad cA base z a G rz Gz := by
  have hF9 := mf_ok hz
  have hpl : plainName (yn z).cls = true := by rw [hF9.2.1]; exact (mc_ok hF9.2.2.1).2.1
  have key : ∀ (p : Program) (e : Env) (s : State) (m : MethodId) (args : Array Value) (below : List Frame) (meth : Method) (c : Code), p.tables.exec = Jvm.exec → c.code = byt z → c.maxLocals = mlc z → s.methodNamed? (yn z) = some m → (∀ w ∈ gw, w.before args s = true) → c.exceptionTable.toList = tableOf (hhs z) → meth.locks = false → meth.sig.returnType = rty z → Pg cs D ad cA base a G args s →
      W p l e (rmo z (cst (G 48 0 0) Gz)) s m args below meth c s.heap [] 0 0 (vx_MQ below (Qg cs D ad cA base rz Gz) (Xg cs D ad cA base rz Gz) args s (cst (G 48 0 0) Gz) (6 * cst (G 48 0 0) Gz) (Ab base)) (entryFrame m args (mlc z)) := by
    intro p e s m args below meth c hx hb hml hnm hts htab hlk hret hPg
    obtain ⟨hv, hE, hP, hRo⟩ := hPg
    subst hv
    have hown : s.vm.findClass (ownN (own z)) = some m.cls := by rw [← hF9.2.1]; exact findClass_of_methodNamed hnm
    have X9 : Cx cs p (rmo z (cst (G 48 0 0) Gz)) s m (a.map (cv ad)).toArray meth c D ad cA base z := ⟨hx, hb, hml, hown, hts, hE, htab, hlk, Nat.le_refl _, Nat.le_refl _, hCl⟩
    have Y9 : Fin_ cs p l e (rmo z (cst (G 48 0 0) Gz)) s m (a.map (cv ad)).toArray below meth c D ad cA base z (G 48 0 0) (vx_MQ below (Qg cs D ad cA base rz Gz) (Xg cs D ad cA base rz Gz) (a.map (cv ad)).toArray s (cst (G 48 0 0) Gz) (6 * cst (G 48 0 0) Gz) (Ab base)) rz Gz := by
      refine ⟨fun pc i len hc => dk_ok hz pc i len hc, ⟨by omega, Nat.le_refl _, Nat.le_refl _⟩, ?_, ?_, ?_⟩
      · intro pc ls v G1 hr hG1 hR1
        subst hr; subst hG1
        exact sn_ret X9 hz hret hR1
      · intro pc x ls G1 ht hr hG1
        subst hr; subst hG1
        exact sn_throw X9 hl (th_all _ (thrF_mem ht)) (thr_lt _ (thrF_mem ht)) ⟨Nat.le_refl _, Nat.le_refl _⟩ ⟨Nat.le_refl _, Nat.le_refl _⟩
      · intro pc x lsC rest H1 locs1 ce q9 hr hno hS hce hcv hcl hx6
        subst hr
        exact sn_out X9 (by omega) hx6 hno hS hce hcv hcl
    have h0 := sn_sx hl hCl n X9 Y9 0 (ent z a) [] G hsx
    have hc0 : cst (G 48 0 0) G = 0 := by unfold cst; omega
    have hS0 : St cs s D ad cA base (G 48 0 0) (rmo z (cst (G 48 0 0) Gz)) G s.heap [] := ⟨hP, va_S.rf, hG, hRo, Int.le_refl _, by rw [hc0]; exact Nat.zero_le _, by rw [hc0]; exact Nat.zero_le _⟩
    have h1 := h0 s.heap [] _ hS0 (ent_ok ha) (fun v hv => absurd hv List.not_mem_nil) (rl_ent hz hlen hws)
    rw [hc0] at h1
    rw [lg_entry_eq]
    exact h1
  cases hWz : isW z with
  | false =>
    refine vx_ofW (cc := byt z) (maxL := mlc z) (ret := rty z) (ws' := gw) hpl (by rw [codeW_f hWz]) ?_
    intro p e s m args below meth c s₁ B hml hno hPg
    have hts := atoms_spec (ws := codeW z :: gw) B.pre
    refine key p e s m args below meth c B.exec B.bytes hml B.named (fun w hw => hts w (List.mem_cons_of_mem _ hw)) ?_ B.notSynchronized B.returns hPg
    have h9 := hl5_ok (y := z) (by omega)
    rw [h9.1, h9.2.2.2 hWz]
    exact List.eq_nil_iff_forall_not_mem.mpr fun x hx => hno x hx
  | true =>
    refine vx_ofWH (cc := byt z) (maxL := mlc z) (ret := rty z) (hh := hhs z) (ws' := gw) hpl (by rw [codeW_t hWz]) ?_
    intro p e s m args below meth c s₁ B hml hPg
    have hts := atoms_spec (ws := codeW z :: gw) B.pre
    refine key p e s m args below meth c B.exec B.bytes hml B.named (fun w hw => hts w (List.mem_cons_of_mem _ hw)) ?_ B.notSynchronized B.returns hPg
    have hw9 := hts _ List.mem_cons_self
    rw [codeW_t hWz] at hw9
    exact vx_table (x := yn z) B hw9
theorem Ek.part {D : va_G} {cA : Nat → ClassId} {ad0 ad : Nat → Int → Nat} {base base' : Nat} {g G : GG} {U : State} {cs : CS} (h : Ek D cA ad0 base g U) (hb : base ≤ base') (h44 : ad 44 0 = ad0 44 0) (h45 : ad 45 0 = ad0 45 0) (h46 : ad 46 0 = ad0 46 0) (hD : va_D (Ab base') (Wl cs ad cA G)) (he : RoE g G) : En cs D ad cA base' U ∧ Ro ad base' G U := by
  obtain ⟨⟨h1, h2, h3, h4, h5, h6, h7, h8, h9⟩, hr, -⟩ := h
  have hAB : ∀ q, Ab base' q → Ab base q := fun q hq => Nat.le_trans hb hq
  refine ⟨⟨h1, ?_, ?_, h4.narrow hAB, h5.narrow hAB, h6, h7, h8, va_D_Wl _ hD⟩, Ro.eq he ?_⟩
  · rw [h45]
    exact h2.narrow hAB
  · rw [h46]
    exact h3.narrow hAB
  · obtain ⟨r1, r2, r3, r4⟩ := hr
    unfold Ro
    rw [h44, h45, h46]
    exact ⟨r1.narrow hAB, r2.narrow hAB, r3.narrow hAB, r4⟩
section CM
variable {p : Program} {l : Launch} {e : Env} {R : Room} {s : State} {m : MethodId} {args : Array Value} {below : List Frame} {meth : Method} {c : Code} {H : Heap} {locs : List Loc} {cells slots : Nat} {Q : State → Prop} {D : va_G} {cA : Nat → ClassId} {own : String} {cc : ByteArray} {n pc : Nat} {ls : Array Slot} {rest : List Value} {A : Nat → Prop} {w w1 : va_W} {ad0 ad : Nat → Int → Nat} {base q : Nat} {g G Gz : GG} {cs : CS}
theorem Wk.join {H1 : Heap} {locs1 : List Loc} {b : Nat} (hW : Wk D A s w H locs) (hlt : ∀ (k : Nat) (x : Nat × va_E), w[k]? = some x → x.1 < b) (hk : ∀ z : Nat, z < H.size → z < b → H1[z]? = H[z]?) (hP1 : va_P D cls_ w1 H1) (hD1 : va_D (Ab b) w1) (hS : va_S A s.heap H1 locs1) (hA : ∀ z, Ab b z → A z) : Wk D A s (w ++ w1) H1 locs1 :=
  ⟨va_P.app (hW.1.kept (fun k x hx => hk x.1 (hW.lt k x hx) (hlt k x hx))) hP1, hW.2.1.behind hD1 hlt hA, hS⟩
/-- a method that answers nothing, of an object of the part -/
theorem k_meth (B : Bk p s m args meth c own cc n) {z k t : Nat} {i : Int} (hz : z < 302) (hM : Ctr l cs D ad cA q z [.inr (.inl (t, i))] G (.inl none) Gz) (hcst : cst (G 48 0 0) Gz = 0) (hE : Ek D cA ad0 base g s) (hb : base ≤ q) (hW : Wk D (Ab q) s (Wl cs ad cA G) H locs) (h44 : ad 44 0 = ad0 44 0) (h45 : ad 45 0 = ad0 45 0) (h46 : ad 46 0 = ad0 46 0) (he : RoE g G)
    (hV : isV z = true) (hWz : isW z = false) (hlink : Jvm.Cond.methodLink own k (yn z) ∈ gw) (ht : t = (mt z).2.2.1) (hlen : 1 = (mt z).1) (hci : (t, i) ∈ cs) (hR : 8 + (mt z).2.2.2 + 1 ≤ R.frames ∧ 8 + (mlc z + 11) + (200 + 80 * (mt z).2.2.2) ≤ R.locals) (hc : cells ≤ R.cells ∧ slots ≤ R.slots) (hd : decode cc pc = .ok (.invokevirtual k, 3)) (hsz : ls.size = n)
    (kk : ∀ (H1 : Heap) (locs1 : List Loc), Wk D (Ab q) s (Wl cs ad cA Gz) H1 locs1 → W p l e R s m args below meth c H1 locs1 cells slots Q (F0 m (pc + 3) ls [])) : W p l e R s m args below meth c H locs cells slots Q (F0 m pc ls [.ref (ad t i)]) := by
  have hF := mf_ok hz
  have hMV := hF.2.2.2.1 hV
  obtain ⟨hx, hb9, hr9, hml, hown, hts, hlk, hn9⟩ := B
  have hto : t ∈ objs := by rw [ht]; exact hMV.2.2.2.2
  have hcl : (yn z).cls = Rt t := by rw [ht]; exact hMV.2.2.2.1.symm
  obtain ⟨q0, hq0, hWl⟩ := Wl_at ad cA hci
  have he9 := hWl G
  rw [wE_obj (objs_lt t hto).2.1] at he9
  have hws : ∀ w ∈ wsV own k (yn z).cls (yn z) (codeW z :: gw), w ∈ gw := by
    intro w hw
    unfold wsV at hw
    rcases List.mem_append.mp hw with h | h
    · simp only [List.mem_cons, List.not_mem_nil, or_false] at h
      rcases h with rfl | rfl | rfl | rfl
      · exact hlink
      · exact hMV.1
      · exact hMV.2.1
      · rw [hF.2.1]; exact (mc_ok hF.2.2.1).1
    · exact cwws hF w h
  have hAb : ∀ a : Nat, a < s.heap.size → ¬ Ab base a → H[a]? = s.heap[a]? := fun a h1 h2 => hW.2.2.2.1 a h1 (fun h3 => h2 (Nat.le_trans hb h3))
  have hr : vx_Run p l e R s m args below meth c H locs cells slots 0 0 (F0 m pc ls [.ref (ad t i)]) [] (Qg cs D ad cA q (.inl none) Gz ([(.inr (.inl (t, i)) : AV)].map (cv ad)).toArray) (Xg cs D ad cA q (.inl none) Gz) (Ab q) := by
    unfold Ctr at hM
    rw [hcst] at hM
    refine vx_runV (Ts := gw) (cc := cc) (nL := n) (own := own) (C := (yn z).cls) (bytes := byt z) (maxL := mlc z) (ret := rty z) (n := 0) (index := k) (b := ad t i) (As := []) ⟨hx, hb9, hml, hown, hts⟩ hM
      (cwV (ws' := gw) 0 hts (gw_goodIn hws) (by rw [codeW_f hWz]) rfl rfl ⟨rfl, by rw [hF.2.1]; exact (sn_cls hF.2.2.1).1, by rw [hF.2.1]; exact (sn_cls hF.2.2.1).2, par_n (by rw [hMV.2.2.1, ← hlen])⟩ ⟨hR.1, hR.2⟩)
      ⟨Pg_blind _ _ _ _ _ _ _, ?_, fun U hU hWm => ?_⟩ rfl rfl hsz rfl (lv_room (by decide)) hd ⟨hc.1, hc.2⟩
    · obtain ⟨cell, h1, h2, h3⟩ := va_recv (D := D) hE.1.1 hW.1 (cls_at t hto) he9
      exact ⟨cell, h1, h2, by rw [hcl]; exact h3⟩
    · obtain ⟨g1, g2⟩ := (hE.moved hWm (fun a h1 h2 => by rw [hU]; exact hAb a h1 h2)).part (cs := cs) (ad := ad) (G := G) hb h44 h45 h46 hW.2.1 he
      exact ⟨rfl, g1, by rw [hU]; exact hW.1, g2⟩
  intro T hT X
  rcases hr T hT X with ⟨v, st₀, t', T', L, h0, X', hL, h1, h2, ⟨⟨v', hv1, hv2⟩, hP, hF9⟩, stp⟩ | ⟨q9, st₀, t', T', L, E, ce, h0, X', hL, h1, h2, ⟨⟨x, hx1, hx2⟩, hP, hF9⟩, hce, hcv, hcl9, stp⟩
  · cases hv1
    cases hv2
    obtain ⟨k1, k2, k3⟩ := vx_keep h0 h1 hW.2.2 (fun _ _ h => h) (fun _ h => h) hL hF9
    obtain ⟨t2, a1, b1⟩ := kk T'.heap (locs ++ L) ⟨by rw [h1]; exact hP, va_D_Wl _ hW.2.1, k3⟩ T' rfl X'
    exact ⟨t2, stp t2 a1, b1⟩
  · cases hx1
end CM
