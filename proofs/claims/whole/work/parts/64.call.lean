/-! ===== contracts of the small machine's methods, and their calls ===== -/
theorem gw_goodIn {ws : List Jvm.Cond} (h : ∀ w ∈ ws, w ∈ gw) : GoodIn gw ws := fun w hw => ⟨h w hw, good_of_word (gw_good w (h w hw))⟩
def Pg (cs : CS) (D : va_G) (ad : Nat → Int → Nat) (cA : Nat → ClassId) (base : Nat) (a : List AV) (G : GG) : Array Value → State → Prop := fun v U =>
  v = (a.map (cv ad)).toArray ∧ En cs D ad cA base U ∧ va_P D cls_ (Wl cs ad cA G) U.heap ∧ Ro ad base G U
def Qg (cs : CS) (D : va_G) (ad : Nat → Int → Nat) (cA : Nat → ClassId) (base : Nat) (r : RV) (Gf : GG) : Array Value → State → Outcome → State → Prop := fun _ st oc t =>
  (∃ v : Option AV, r = .inl v ∧ oc = .returned (v.map (cv ad))) ∧ va_P D cls_ (Wl cs ad cA Gf) t.heap ∧ va_F (Ab base) st t
def Xg (cs : CS) (D : va_G) (ad : Nat → Int → Nat) (cA : Nat → ClassId) (base : Nat) (r : RV) (Gf : GG) : String → State → State → Prop := fun E st t =>
  (∃ x : Nat, r = .inr x ∧ E = exN x) ∧ va_P D cls_ (Wl cs ad cA Gf) t.heap ∧ va_F (Ab base) st t
/-- a method's contract -/
def Ctr (l : Launch) (cs : CS) (D : va_G) (ad : Nat → Int → Nat) (cA : Nat → ClassId) (base : Nat) (z : Nat) (a : List AV) (G : GG) (r : RV) (Gf : GG) : Prop :=
  vx_Met l (yn z) (codeW z :: gw) (rmo z (cst (G 48 0 0) Gf)) (Pg cs D ad cA base a G) (Qg cs D ad cA base r Gf) (Xg cs D ad cA base r Gf) (cst (G 48 0 0) Gf) (6 * cst (G 48 0 0) Gf) (Ab base)
theorem Pg_blind (cs : CS) (D : va_G) (ad : Nat → Int → Nat) (cA : Nat → ClassId) (base : Nat) (a : List AV) (G : GG) : FrameBlind (Pg cs D ad cA base a G) := by
  intro v U g mk h
  obtain ⟨h1, h2, h3, h4⟩ := h
  exact ⟨h1, En.same (s := U) (U := U.calling g mk v) rfl rfl h2, h3, Ro.kept (s := U) (U := U.calling g mk v) (Vm.Alike.refl _) (fun _ _ _ => rfl) h4⟩
theorem ex_nws {x : Nat} (h : x < 6) : Jvm.Cond.castable (exN x) (exN x) ∈ nws := match x, h with
  | 0, _ => by decide +kernel
  | 1, _ => by decide +kernel
  | 2, _ => by decide +kernel
  | 3, _ => by decide +kernel
  | 4, _ => by decide +kernel
  | 5, _ => by decide +kernel
  | n + 6, h => absurd h (by omega)
theorem cst_add {c0 : Int} {G G1 : GG} (h0 : c0 ≤ G 48 0 0) (h1 : G 48 0 0 ≤ G1 48 0 0) : cst c0 G + cst (G 48 0 0) G1 = cst c0 G1 := by unfold cst; omega
theorem cst_mono {c0 : Int} {G G1 : GG} (h1 : G 48 0 0 ≤ G1 48 0 0) : cst c0 G ≤ cst c0 G1 := by unfold cst; omega
theorem codeW_f {z : Nat} (h : isW z = false) : codeW z = .code (yn z) (byt z) (mlc z) (rty z) := by unfold codeW; rw [h]; rfl
theorem codeW_t {z : Nat} (h : isW z = true) : codeW z = .codeWith (yn z) (byt z) (mlc z) (rty z) (hhs z) := by unfold codeW; rw [h]; rfl
theorem cwws {z : Nat} (h : MF z) : ∀ w ∈ codeW z :: gw, w ∈ gw := fun w hw => (List.mem_cons.mp hw).elim (fun e => e ▸ h.1) id
theorem par_n {d : String} {n : Nat} (h : (parseMethodDescriptor d).map (fun d => d.parameters.length + 1) = some (n + 1)) : (parseMethodDescriptor d).map (fun d => d.parameters.length) = some n := by
  cases ho : parseMethodDescriptor d with
  | none => rw [ho] at h; cases h
  | some d => rw [ho] at h; exact congrArg some (Nat.succ.inj (Option.some.inj h))
section CALL
variable {cs : CS} {p : Program} {l : Launch} {e : Env} {R : Room} {s : State} {m : MethodId} {args : Array Value} {below : List Frame} {meth : Method} {c : Code} {D : va_G} {ad : Nat → Int → Nat} {cA : Nat → ClassId} {base y : Nat} {c0 : Int} {Q : State → Prop} {pc : Nat} {ls : Lcs} {st : List AV} {G : GG} {H : Heap} {locs : List Loc} {lsC : Array Slot}
theorem sn_cls {c : Nat} (h : c < 14) : ownN c ≠ "java/lang/invoke/MethodHandle" ∧ ownN c ≠ "java/lang/invoke/VarHandle" := (mc_ok h).2.2
theorem rm_ok {z : Nat} {R : Room} {k : Nat} (hz : z < 302) (hh : (mt z).2.2.2 < (mt y).2.2.2) (h1 : 8 + (mt y).2.2.2 ≤ R.frames) (h2 : 200 + 80 * (mt y).2.2.2 ≤ R.locals) : (rmo z k).frames + 1 ≤ R.frames ∧ 8 + (mlc z + 11) + (rmo z k).locals ≤ R.locals := by
  have := mlc_le (y := z) (by omega)
  unfold rmo
  dsimp only
  exact ⟨by omega, by omega⟩
theorem sn_pre (X : Cx cs p R s m args meth c D ad cA base y) (hS : St cs s D ad cA base c0 R G H locs) {U : State} (hU : U.heap = H) (hW : s.WarmedH U.vm) (a : List AV) : Pg cs D ad cA base a G (a.map (cv ad)).toArray U := by
  obtain ⟨hx, hb, hml, hown, hts, hE, htab, hlk, hRf, hRl, hCl⟩ := X
  have hq : ∀ q : Nat, q < s.heap.size → ¬ Ab base q → U.heap[q]? = s.heap[q]? := fun q h1 h2 => by rw [hU]; exact hS.2.1.2.1 q h1 h2
  exact ⟨rfl, hE.moved hW hq, by rw [hU]; exact hS.1, hS.2.2.2.1.kept hW.alike hq⟩
theorem sn_runV (X : Cx cs p R s m args meth c D ad cA base y) (hS : St cs s D ad cA base c0 R G H locs) {z k : Nat} (hz : z < 302) {t : Nat} {i : Int} {a rest : List AV} {rz : RV} {Gz : GG} (hM : Ctr l cs D ad cA base z (.inr (.inl (t, i)) :: a) G rz Gz)
    (hV : isV z = true) (hWz : isW z = false) (hlink : Jvm.Cond.methodLink (ownN (own y)) k (yn z) ∈ gw) (ht : t = (mt z).2.2.1) (hlen : a.length + 1 = (mt z).1) (hh : (mt z).2.2.2 < (mt y).2.2.2) (hw : wsum rest ≤ 8) (hci : (t, i) ∈ cs)
    (hroom : cst c0 G + cst (G 48 0 0) Gz ≤ R.cells ∧ 6 * cst c0 G + 6 * cst (G 48 0 0) Gz ≤ R.slots) (hd : decode (byt y) pc = .ok (.invokevirtual k, 3)) (hsz : lsC.size = mlc y) :
    vx_Run p l e R s m args below meth c H locs (cst c0 G) (6 * cst c0 G) (cst (G 48 0 0) Gz) (6 * cst (G 48 0 0) Gz) (F0 m pc lsC ((a.reverse ++ .inr (.inl (t, i)) :: rest).map (cv ad))) (rest.map (cv ad)) (Qg cs D ad cA base rz Gz ((.inr (.inl (t, i)) :: a).map (cv ad)).toArray) (Xg cs D ad cA base rz Gz) (Ab base) := by
  have hF := mf_ok hz
  have hMV := hF.2.2.2.1 hV
  have X0 := X
  obtain ⟨hx, hb, hml, hown, hts, hE, htab, hlk, hRf, hRl, hCl⟩ := X
  have hto : t ∈ objs := by rw [ht]; exact hMV.2.2.2.2
  have hcl : (yn z).cls = Rt t := by rw [ht]; exact hMV.2.2.2.1.symm
  obtain ⟨q0, hq0, hWl⟩ := Wl_at ad cA hci
  have he := hWl G
  rw [wE_obj (objs_lt t hto).2.1] at he
  have hws : ∀ w ∈ wsV (ownN (own y)) k (yn z).cls (yn z) (codeW z :: gw), w ∈ gw := by
    intro w hw
    unfold wsV at hw
    rcases List.mem_append.mp hw with h | h
    · simp only [List.mem_cons, List.not_mem_nil, or_false] at h
      rcases h with rfl | rfl | rfl | rfl
      · exact hlink
      · exact hMV.1
      · exact hMV.2.1
      · rw [hF.2.1]; exact (mc_ok hF.2.2.1).1
    · exact cwws hF w h
  refine vx_runV (Ts := gw) (cc := byt y) (nL := mlc y) (own := ownN (own y)) (C := (yn z).cls) (bytes := byt z) (maxL := mlc z) (ret := rty z) (n := a.length) (index := k) (b := ad t i) (As := a.map (cv ad)) ⟨hx, hb, hml, hown, hts⟩ hM
    (cwV (ws' := gw) a.length hts (gw_goodIn hws) (by rw [codeW_f hWz]) rfl rfl ⟨rfl, by rw [hF.2.1]; exact (sn_cls hF.2.2.1).1, by rw [hF.2.1]; exact (sn_cls hF.2.2.1).2, par_n (by rw [hlen]; exact hMV.2.2.1)⟩ (rm_ok hz hh hRf hRl))
    ⟨Pg_blind _ _ _ _ _ _ _, ?_, fun U hU hW => sn_pre X0 hS hU hW (.inr (.inl (t, i)) :: a)⟩ rfl (by simp) hsz ?_ (by rw [cat_sum]; exact (by omega : 2 * 0 + wsum rest ≤ 8)) hd hroom
  · obtain ⟨cell, h1, h2, h3⟩ := va_recv (D := D) hE.1 hS.1 (cls_at t hto) he
    exact ⟨cell, h1, h2, by rw [hcl]; exact h3⟩
  · show (a.reverse ++ .inr (.inl (t, i)) :: rest).map (cv ad) = (a.map (cv ad)).reverse ++ .ref (ad t i) :: rest.map (cv ad)
    rw [List.map_append, List.map_reverse]
    rfl
theorem sn_runS (X : Cx cs p R s m args meth c D ad cA base y) (hS : St cs s D ad cA base c0 R G H locs) {z k : Nat} (hz : z < 302) {a rest : List AV} {rz : RV} {Gz : GG} (hM : Ctr l cs D ad cA base z a G rz Gz)
    (hV : isV z = false) (hlink : isN (own y) k = false → Jvm.Cond.methodLink (ownN (own y)) k (yn z) ∈ gw) (hnest : isN (own y) k = true → isW z = false ∧ ownN (own y) = "MapGeneralizer$Script" ∧ k = 59 ∧ yn z = ⟨"MapGeneralizer", "isWithin", "(III)Z"⟩) (hlen : a.length = (mt z).1) (hh : (mt z).2.2.2 < (mt y).2.2.2) (hw : wsum rest ≤ 8)
    (hroom : cst c0 G + cst (G 48 0 0) Gz ≤ R.cells ∧ 6 * cst c0 G + 6 * cst (G 48 0 0) Gz ≤ R.slots) (hd : decode (byt y) pc = .ok (.invokestatic k, 3)) (hsz : lsC.size = mlc y) :
    vx_Run p l e R s m args below meth c H locs (cst c0 G) (6 * cst c0 G) (cst (G 48 0 0) Gz) (6 * cst (G 48 0 0) Gz) (F0 m pc lsC ((a.reverse ++ rest).map (cv ad))) (rest.map (cv ad)) (Qg cs D ad cA base rz Gz (a.map (cv ad)).toArray) (Xg cs D ad cA base rz Gz) (Ab base) := by
  have hF := mf_ok hz
  have hMS := hF.2.2.2.2 hV
  have X0 := X
  obtain ⟨hx, hb, hml, hown, hts, hE, htab, hlk, hRf, hRl, hCl⟩ := X
  have hstack : (a.reverse ++ rest).map (cv ad) = (a.map (cv ad)).reverse ++ rest.map (cv ad) := by
    rw [List.map_append, List.map_reverse]
  have hpar : (parseMethodDescriptor (yn z).desc).map (fun d => d.parameters.length) = some a.length := by rw [hlen]; exact hMS.2
  have hini : Jvm.Cond.initialized (yn z).cls ∈ gw := by rw [hF.2.1]; exact (mc_ok hF.2.2.1).1
  have hcl : (yn z).cls ≠ "java/lang/invoke/MethodHandle" ∧ (yn z).cls ≠ "java/lang/invoke/VarHandle" := by rw [hF.2.1]; exact sn_cls hF.2.2.1
  cases hn : isN (own y) k with
  | true =>
    obtain ⟨hWz, ho, hk, hyn⟩ := hnest hn
    have hnw : va_Nw (.methodLinkNest (ownN (own y)) k (yn z) "MapGeneralizer") s := by
      rw [ho, hk, hyn]
      exact hE.2.2.2.2.2.2.1 _ (by decide)
    exact vx_runSN (Ts := gw) (cc := byt y) (nL := mlc y) (own := ownN (own y)) (bytes := byt z) (maxL := mlc z) (ret := rty z) (n := a.length) (index := k) (As := a.map (cv ad)) ⟨hx, hb, hml, hown, hts⟩ hM
      ⟨va_cnB (ws' := gw) a.length hts (gw_goodIn (cwws hF)) (by rw [codeW_f hWz]) rfl rfl hnw (hts _ hini) ⟨hcl.1, hcl.2, hpar⟩ (rm_ok hz hh hRf hRl), hts _ hMS.1, trivial⟩
      ⟨Pg_blind _ _ _ _ _ _ _, fun U hU hW => sn_pre X0 hS hU hW a⟩ rfl (by simp) hsz hstack (by rw [cat_sum]; exact (by omega : 2 * 0 + wsum rest ≤ 8)) hd hroom
  | false =>
    have hws : ∀ w ∈ va_wsS (ownN (own y)) k (yn z) (codeW z :: gw), w ∈ gw := by
      intro w hw
      unfold va_wsS at hw
      rcases List.mem_append.mp hw with h | h
      · simp only [List.mem_cons, List.not_mem_nil, or_false] at h
        rcases h with rfl | rfl | rfl
        · exact hlink hn
        · exact hMS.1
        · exact hini
      · exact cwws hF w h
    cases hWz : isW z with
    | false =>
      exact vx_runS (Ts := gw) (cc := byt y) (nL := mlc y) (own := ownN (own y)) (bytes := byt z) (maxL := mlc z) (ret := rty z) (n := a.length) (index := k) (As := a.map (cv ad)) ⟨hx, hb, hml, hown, hts⟩ hM
        (va_cwS (ws' := gw) a.length hts (gw_goodIn hws) (by rw [codeW_f hWz]) rfl rfl ⟨hcl.1, hcl.2, hpar⟩ (rm_ok hz hh hRf hRl))
        ⟨Pg_blind _ _ _ _ _ _ _, fun U hU hW => sn_pre X0 hS hU hW a⟩ rfl (by simp) hsz hstack (by rw [cat_sum]; exact (by omega : 2 * 0 + wsum rest ≤ 8)) hd hroom
    | true =>
      exact vx_runSX (Ts := gw) (cc := byt y) (nL := mlc y) (own := ownN (own y)) (bytes := byt z) (maxL := mlc z) (ret := rty z) (n := a.length) (index := k) (As := a.map (cv ad)) ⟨hx, hb, hml, hown, hts⟩ hM
        (vx_cwSW (ws' := gw) a.length hts (gw_goodIn hws) (by rw [codeW_t hWz]) rfl rfl ⟨hcl.1, hcl.2, hpar⟩ (rm_ok hz hh hRf hRl))
        ⟨Pg_blind _ _ _ _ _ _ _, fun U hU hW => sn_pre X0 hS hU hW a⟩ rfl (by simp) hsz hstack (by rw [cat_sum]; exact (by omega : 2 * 0 + wsum rest ≤ 8)) hd hroom
/-- behind a call -/
theorem sn_after {rz : RV} {Gz : GG} {av : Array Value} {st0 rest : List Value} (hr : vx_Run p l e R s m args below meth c H locs (cst c0 G) (6 * cst c0 G) (cst (G 48 0 0) Gz) (6 * cst (G 48 0 0) Gz) (F0 m pc lsC st0) rest (Qg cs D ad cA base rz Gz av) (Xg cs D ad cA base rz Gz) (Ab base))
    (hS : St cs s D ad cA base c0 R G H locs) (hGz : okG Gz) (hRo : RoE G Gz) (hle : G 48 0 0 ≤ Gz 48 0 0) (hroom : cst c0 Gz ≤ R.cells ∧ 6 * cst c0 Gz ≤ R.slots)
    (kk : ∀ v, rz = .inl v → ∀ H1 locs1, St cs s D ad cA base c0 R Gz H1 locs1 → W p l e R s m args below meth c H1 locs1 (cst c0 Gz) (6 * cst c0 Gz) Q (F0 m (pc + 3) lsC ((v.map (cv ad)).toList ++ rest)))
    (kx : ∀ x, rz = .inr x → ∀ H1 locs1 ce q, St cs s D ad cA base c0 R Gz H1 locs1 → H1[q]? = some ce → ce.vm = .none → s.vm.findClass (exN x) = some ce.cls → vx_W p l e R s m args below meth c H1 locs1 (cst c0 Gz) (6 * cst c0 Gz) Q (F0 m pc lsC rest) q) :
    W p l e R s m args below meth c H locs (cst c0 G) (6 * cst c0 G) Q (F0 m pc lsC st0) := by
  have e1 : cst c0 G + cst (G 48 0 0) Gz = cst c0 Gz := cst_add hS.2.2.2.2.1 hle
  have e2 : 6 * cst c0 G + 6 * cst (G 48 0 0) Gz = 6 * cst c0 Gz := by omega
  have st1 : ∀ {H1 : Heap} {locs1 : List Loc}, va_P D cls_ (Wl cs ad cA Gz) H1 → va_S (Ab base) s.heap H1 locs1 → St cs s D ad cA base c0 R Gz H1 locs1 := fun hP1 hS1 =>
    ⟨hP1, hS1, hGz, hS.2.2.2.1.eq hRo, Int.le_trans hS.2.2.2.2.1 hle, hroom.1, hroom.2⟩
  intro T hT X
  rcases hr T hT X with ⟨v, st₀, t, T', L, h0, X', hL, h1, h2, ⟨⟨v', hv1, hv2⟩, hP, hF⟩, stp⟩ | ⟨q, st₀, t, T', L, E, ce, h0, X', hL, h1, h2, ⟨⟨x, hx1, hx2⟩, hP, hF⟩, hce, hcv, hcl, stp⟩
  · cases hv2
    obtain ⟨k1, k2, k3⟩ := vx_keep h0 h1 hS.2.1 (fun _ _ h => h) (fun _ h => h) hL hF
    rw [e1, e2] at X'
    obtain ⟨t2, a1, b1⟩ := kk v' hv1 T'.heap (locs ++ L) (st1 (by rw [h1]; exact hP) k3) T' rfl X'
    exact ⟨t2, stp t2 a1, b1⟩
  · obtain ⟨k1, k2, k3⟩ := vx_keep h0 h1 hS.2.1 (fun _ _ h => h) (fun _ h => h) hL hF
    rw [e1, e2] at X'
    rw [hx2] at hcl
    obtain ⟨t2, a1, b1⟩ := kx x hx1 T'.heap (locs ++ L) ce q (st1 (by rw [h1]; exact hP) k3) (by rw [h1]; exact hce) hcv hcl T' rfl X'
    exact ⟨t2, stp.trans a1, b1⟩
end CALL
