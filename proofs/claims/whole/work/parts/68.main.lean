/-! ===== ends of bodies, and the small machine's runs on the machine ===== -/
theorem Wl_bump {cs : CS} (hCl : ∀ t i, (t, i) ∈ cs → Cell_ t i) (ad : Nat → Int → Nat) (cA : Nat → ClassId) (G : GG) : Wl cs ad cA (bump G) = Wl cs ad cA G := by
  unfold Wl
  refine List.map_congr_left fun q hq => ?_
  have ht : q.1 < 44 := (hCl q.1 q.2 hq).1
  have e : bump G q.1 q.2 = G q.1 q.2 := funext fun k => up_ne (fun e => by have h9 : q.1 = 48 := congrArg Prod.fst e; omega) k
  rw [e]
theorem va_P_heap {D : va_G} {ws : va_W} {H H1 : Heap} (h : va_P D cls_ ws H) (hq : ∀ q : Nat, q < H.size → H1[q]? = H[q]?) : va_P D cls_ ws H1 := fun i q hi => (h i q hi).kept (hq q.1 (h i q hi).lt)
theorem vx_atS_good {x : Nat} (hx : x < 6) : ∀ w ∈ Jvm.Cond.classLink "MapGeneralizer" (ikE x) (exN x) :: Jvm.Cond.initialized (exN x) :: thL x (icE x), vx_ot w = true := by
  obtain ⟨h1, h2, h3, h4⟩ := thw_ok hx
  have hg : ∀ w, w ∈ gw → vx_ot w = true := fun w h => by unfold vx_ot; rw [gw_good w h, Bool.or_true]
  intro w hw
  rcases List.mem_cons.mp hw with rfl | hw
  · exact hg _ h2
  rcases List.mem_cons.mp hw with rfl | hw
  · exact hg _ h3
  rcases h4 w hw with h | h
  · exact hg w h
  · unfold vx_ot
    rw [nws_tab w h, Bool.true_or]
section ENDS
variable {cs : CS} {p : Program} {l : Launch} {e : Env} {R : Room} {s : State} {m : MethodId} {args : Array Value} {below : List Frame} {meth : Method} {c : Code} {D : va_G} {ad : Nat → Int → Nat} {cA : Nat → ClassId} {base y : Nat} {c0 : Int} {Q : State → Prop} {r : RV} {Gf : GG}
theorem sn_throw (X : Cx cs p R s m args meth c D ad cA base y) (hl : l.stackTraces = false) {pc x mc ms : Nat} {ls : Lcs} {G : GG} (hT : TH (y, pc, x)) (hx6 : x < 6) (hroom : cst c0 (bump G) ≤ R.cells ∧ 6 * cst c0 (bump G) ≤ R.slots) (hmc : cst c0 (bump G) ≤ mc ∧ 6 * cst c0 (bump G) ≤ ms) :
    WJ cs p l e R s m args below meth c D ad cA base y c0 (vx_MQ below (Qg cs D ad cA base (.inr x) (bump G)) (Xg cs D ad cA base (.inr x) (bump G)) args s mc ms (Ab base)) pc ls [] G := by
  intro H locs lsC hS hL hst hr
  obtain ⟨hx, hb, hml, hown, hts, hE, htab, hlk, hRf, hRl, hCl⟩ := X
  obtain ⟨ho, hh0, d0, d3, is, tx, hmem, hd⟩ := hT
  dsimp only at ho hh0 d0 d3 hmem hd
  obtain ⟨hfit, hk, hini, hat⟩ := thw_ok hx6
  rw [ho] at hown
  have hown : s.vm.findClass "MapGeneralizer" = some m.cls := hown
  obtain ⟨sa, hstr⟩ := hE.2.2.2.2.2.1 _ hmem
  have hat2 : ∀ w ∈ thL x (icE x), w.before args s = true := fun w hw => (hat w hw).elim (fun h => hts w h) (fun h => va_Nw.use (nws_tab w h) (hE.2.2.2.2.2.2.1 w h))
  have htab0 : c.exceptionTable.toList = [] := by rw [htab, hh0]; rfl
  have hout : ∀ k : Nat, ∀ x ∈ c.exceptionTable.toList, covers x k = false := fun k x hx => by rw [htab0] at hx; exact absurd hx List.not_mem_nil
  have hb1 : bump G 48 0 0 = G 48 0 0 + 1 := cnt_bump G
  have hc1 : cst c0 G + 1 = cst c0 (bump G) := by
    unfold cst
    rw [hb1]
    have := hS.2.2.2.2.1
    omega
  have hX : ∀ t : State, s.vm.Alike t.vm → H.size ≤ t.heap.size → (∀ q : Nat, q < H.size → t.heap[q]? = H[q]?) → Xg cs D ad cA base (.inr x) (bump G) (exN x) s t := fun t _ hz hq =>
    ⟨⟨x, rfl, rfl⟩, by rw [Wl_bump hCl.1]; exact va_P_heap hS.1 hq, Nat.le_trans hS.2.1.1 hz, fun q h1 h2 => (hq q (Nat.lt_of_lt_of_le h1 hS.2.1.1)).trans (hS.2.1.2.1 q h1 h2)⟩
  by_cases h5 : x = 5
  · subst h5
    have hgo : ∀ n : Nat, (decode (byt y) (pc + 4) = .ok (.ldc is, 2) ∧ n = 2) ∨ (decode (byt y) (pc + 4) = .ok (.ldc_w is, 3) ∧ n = 3) → decode (byt y) (pc + 4 + n) = .ok (.invokespecial (icE 5), 3) → decode (byt y) (pc + 4 + n + 3) = .ok (.athrow, 1) → W p l e R s m args below meth c H locs (cst c0 G) (6 * cst c0 G) (vx_MQ below (Qg cs D ad cA base (.inr 5) (bump G)) (Xg cs D ad cA base (.inr 5) (bump G)) args s mc ms (Ab base)) (F0 m pc lsC []) := by
      intro n d4 d6 d9
      exact ns_throw (own := "MapGeneralizer") (cls := exN 5) (text := tx) (Y9 := "java/lang/RuntimeException") (names := ["java/lang/Exception"]) (ik := ikE 5) (is := is) (ic := icE 5) (sa := sa) (A := Ab base) (rest := []) hx hb hl hown hfit (by decide +kernel) (by decide +kernel) (hts _ hk) (hts _ hini) hstr hat2 (vx_atS_good hx6) hE.2.2.2.1 hE.2.2.2.2.1 hS.2.1 (hr.size.trans hml.symm)
        d0 d3 d4 d6 d9 (hout _) (by show 1 + 4 < R.frames; omega) (by show 0 + (13 * 3 + 43) ≤ R.locals; omega) (by omega) (by omega) hlk hX hS.2.1.2.2 (by omega) (by omega)
    rcases hd with ⟨d4, d6, d9⟩ | ⟨d4, d7, d10⟩
    · exact hgo 2 (Or.inl ⟨d4, rfl⟩) d6 d9
    · exact hgo 3 (Or.inr ⟨d4, rfl⟩) d7 d10
  have e5 : thL x (icE x) = vx_atS "MapGeneralizer" (icE x) (exN x) thN := by
    match x, h5 with
    | 0, _ => rfl
    | 1, _ => rfl
    | 2, _ => rfl
    | 3, _ => rfl
    | 4, _ => rfl
    | 5, h5 => exact absurd rfl h5
    | n + 6, _ => rfl
  have hgd := vx_atS_good hx6
  rw [e5] at hat2 hgd
  rcases hd with ⟨d4, d6, d9⟩ | ⟨d4, d7, d10⟩
  · exact vx_throwS (own := "MapGeneralizer") (cls := exN x) (text := tx) (names := thN) (ik := ikE x) (is := is) (ic := icE x) (sa := sa) (A := Ab base) (rest := []) hx hb hl hown hfit thN_fit (hts _ hk) (hts _ hini) hstr hat2 hgd hE.2.2.2.1 hE.2.2.2.2.1 hS.2.1 (hr.size.trans hml.symm)
      d0 d3 d4 d6 d9 (hout _) (by show 2 + 3 < R.frames; omega) (by show 0 + (13 * 3 + 43) ≤ R.locals; omega) (by omega) (by omega) hlk hX hS.2.1.2.2 (by omega) (by omega)
  · exact vx_throwSW (own := "MapGeneralizer") (cls := exN x) (text := tx) (names := thN) (ik := ikE x) (is := is) (ic := icE x) (sa := sa) (A := Ab base) (rest := []) hx hb hl hown hfit thN_fit (hts _ hk) (hts _ hini) hstr hat2 hgd hE.2.2.2.1 hE.2.2.2.2.1 hS.2.1 (hr.size.trans hml.symm)
      d0 d3 d4 d7 d10 (hout _) (by show 2 + 3 < R.frames; omega) (by show 0 + (13 * 3 + 43) ≤ R.locals; omega) (by omega) (by omega) hlk hX hS.2.1.2.2 (by omega) (by omega)
theorem sn_ret (X : Cx cs p R s m args meth c D ad cA base y) (hy : y < 302) (hret : meth.sig.returnType = rty y) {pc : Nat} {ls : Lcs} {G : GG} {v : Option AV} (hv : RetI y pc v) :
    WJ cs p l e R s m args below meth c D ad cA base y c0 (vx_MQ below (Qg cs D ad cA base (.inl v) G) (Xg cs D ad cA base (.inl v) G) args s (cst c0 G) (6 * cst c0 G) (Ab base)) pc ls v.toList G := by
  intro H locs lsC hS hL hst hr
  obtain ⟨hx, hb, hml, hown, hts, hE, htab, hlk, hRf, hRl, hCl⟩ := X
  have hq : ∀ t : State, t.heap = H → s.WarmedH t.vm → Qg cs D ad cA base (.inl v) G args s (.returned (v.map (cv ad))) t := fun t ht _ =>
    ⟨⟨v, rfl, rfl⟩, by rw [ht]; exact hS.1, hS.2.1.F ht⟩
  refine vx_ret ?_
  match v, hv, hst, hq with
  | none, hv, hst, hq =>
    have hk := rk_ok hy _ _ _ hv
    exact W.vret hx hb (hret.trans (of_decide_eq_true hk)) hq hS.2.1.2.2 (dk_ok hy _ _ _ hv).1 hlk
  | some (.inl z), hv, hst, hq =>
    have hk := rk_ok hy _ _ _ hv.1
    have hk : (decide (rty y = some FieldType.int) || (decide (rty y = some FieldType.boolean) && zrt y)) = true := hk
    simp only [Bool.or_eq_true, Bool.and_eq_true, decide_eq_true_eq] at hk
    rcases hk with hk | hk
    · exact W.zret (ty := .int) hx hb (hret.trans hk) rfl hq hS.2.1.2.2 (dk_ok hy _ _ _ hv.1).1 hlk
    · exact W.zret (ty := .boolean) hx hb (hret.trans hk.1) (nar_bool (hv.2 hk.2)).1 hq hS.2.1.2.2 (dk_ok hy _ _ _ hv.1).1 hlk
  | some (.inr (.inl q)), hv, hst, hq =>
    have hk := rk_ok hy _ _ _ hv
    have hk2 : ∃ n, rty y = some (.object n) := by
      unfold rck at hk
      dsimp only at hk
      split at hk
      · exact ⟨_, by assumption⟩
      · cases hk
    obtain ⟨n, hn⟩ := hk2
    exact W.aret hx hb (hret.trans hn) (Or.inl ⟨n, rfl⟩) (Or.inr ⟨_, rfl⟩) hq hS.2.1.2.2 (dk_ok hy _ _ _ hv).1 hlk
  | some (.inr (.inr (.inl q))), hv, hst, hq => exact False.elim hv
  | some (.inr (.inr (.inr q))), hv, hst, hq =>
    have hk := rk_ok hy _ _ _ hv
    exact W.dret hx hb (hret.trans (of_decide_eq_true hk)) hq hS.2.1.2.2 (dk_ok hy _ _ _ hv).1 hlk
/-- not caught: it goes on to the caller -/
theorem sn_out (X : Cx cs p R s m args meth c D ad cA base y) (hy : y < 303) {x : Nat} {G : GG} {pc : Nat} {lsC : Array Slot} {rest : List Value} {H1 : Heap} {locs1 : List Loc} {ce : Cell} {q9 : Addr} (hx6 : x < 6) (hno : ∀ z ∈ hl5 y, cov5 z pc = false ∨ z.2.2.2.2 ≠ x)
    (hS : St cs s D ad cA base c0 R G H1 locs1) (hce : H1[q9]? = some ce) (hcv : ce.vm = .none) (hcl : s.vm.findClass (exN x) = some ce.cls) :
    vx_W p l e R s m args below meth c H1 locs1 (cst c0 G) (6 * cst c0 G) (vx_MQ below (Qg cs D ad cA base (.inr x) G) (Xg cs D ad cA base (.inr x) G) args s (cst c0 G) (6 * cst c0 G) (Ab base)) (F0 m pc lsC rest) q9 := by
  obtain ⟨hx, hb, hml, hown, hts, hE, htab, hlk, hRf, hRl, hCl⟩ := X
  obtain ⟨hh1, hh2, hh3, hh4⟩ := hl5_ok hy
  refine vx_outP hown hlk (fun z hz => ?_) hce hcv hcl (fun t ht _ => ⟨⟨x, rfl, rfl⟩, by rw [ht]; exact hS.1, hS.2.1.F ht⟩) hS.2.1.2.2 (Nat.le_refl _) (Nat.le_refl _)
  rw [htab, hh1] at hz
  unfold tableOf at hz
  rw [List.map_map] at hz
  obtain ⟨q2, hq2, rfl⟩ := List.mem_map.mp hz
  have hH2 := hh3 q2 hq2
  rcases hno q2 hq2 with h | h
  · exact Or.inl ((cov_of q2 pc).trans h)
  · exact Or.inr ⟨hH2.2.1, exN q2.2.2.2.2, by rw [show ownN (own y) = "MapGeneralizerLaw" from by rw [hH2.1]; rfl]; exact hts _ hH2.2.2.2, hE.2.2.2.2.2.2.2.1 _ _ hx6 hH2.2.2.1 (fun z => h z.symm)⟩
end ENDS
theorem sx_p2 {cs : CS} (hCl : Clo cs) (n y : Nat) (hdk : ∀ pc i len, cd y pc = some (i, len) → decode (byt y) pc = .ok (i, len) ∧ iok i len = true) : ∀ (r : RV) (Gf : GG) (pc : Nat) (ls : Lcs) (st : List AV) (G : GG), sx n y pc ls st G = some (r, Gf) → Pst cs r Gf ls st G := by
  induction n with
  | zero => intro r Gf pc ls st G h; cases h
  | succ n ihn =>
    intro r Gf pc ls st G h
    have hF : PstF cs (fun z a G => sx n z 0 (ent z a) [] G) := fun z a G r Gf hz h ha hG => sx_p hCl n z hz r Gf 0 _ _ G h (ent_ok ha) (fun v hv => absurd hv List.not_mem_nil) hG
    have key : ∀ (k pc : Nat) (ls : Lcs) (st : List AV) (G : GG), sT (fun pc ls st G => sx n y pc ls st G) (fun z a G => sx n z 0 (ent z a) [] G) y k pc ls st G = some (r, Gf) → Pst cs r Gf ls st G := by
      intro k
      induction k with
      | zero => intro pc ls st G h; cases h
      | succ k ih => exact fun pc ls st G h => sStep_p hCl (cutN_p (fun pc ls st G h => ihn r Gf pc ls st G h) ih) hF (fun i len hc => hdk pc i len hc) h
    exact key 1000 pc ls st G h
theorem wsum_le : ∀ a : List AV, a.length ≤ wsum a
  | [] => Nat.le_refl _
  | v :: a => by
    have h1 := wsum_le a
    have h2 : 1 ≤ avc v := by
      match v with
      | .inl _ => exact Nat.le_refl _
      | .inr (.inl _) => exact Nat.le_refl _
      | .inr (.inr _) => exact Nat.le_succ _
    simp only [List.length_cons, wsum]
    omega
theorem lg_sl_cv (ad : Nat → Int → Nat) : ∀ a : List AV, wsum a = a.length → lg_sl (a.map (cv ad)) = a.map fun v => .val (cv ad v)
  | [], _ => rfl
  | v :: a, h => by
    have h1 := wsum_le a
    simp only [List.length_cons, wsum] at h
    have h2 : 1 ≤ avc v := by
      match v with
      | .inl _ => exact Nat.le_refl _
      | .inr (.inl _) => exact Nat.le_refl _
      | .inr (.inr _) => exact Nat.le_succ _
    have h3 : avc v = 1 := by omega
    have h4 : wsum a = a.length := by omega
    have e := lg_sl_cv ad a h4
    unfold lg_sl at e ⊢
    rw [List.map_cons, List.flatMap_cons, e, if_neg (by rw [cv_cat, h3]; decide)]
    rfl
theorem lget_ent : ∀ (a : List AV) (n j : Nat) (v : AV), lget (a.map some ++ List.replicate n none) j = some v → a[j]? = some v
  | [], 0, j, v, h => by cases j <;> cases h
  | [], n + 1, 0, v, h => by cases h
  | [], n + 1, j + 1, v, h => lget_ent [] n j v h
  | w :: a, n, 0, v, h => by cases h; rfl
  | w :: a, n, j + 1, v, h => by
    rw [List.getElem?_cons_succ]
    exact lget_ent a n j v h
theorem rl_ent {ad : Nat → Int → Nat} {z : Nat} {a : List AV} (hz : z < 302) (ha : a.length = (mt z).1) (hw : wsum a = (mt z).1) :
    Rl ad z (ent z a) ((lg_sl (a.map (cv ad)) ++ List.replicate (mlc z - (lg_sl (a.map (cv ad))).length) Slot.unset).toArray) := by
  have e := lg_sl_cv ad a (hw.trans ha.symm)
  have hle : (lg_sl (a.map (cv ad))).length ≤ mlc z := by
    rw [e, List.length_map, ha]
    exact ac_le hz
  have h1 := lv_entry (a.map (cv ad)) hle
  refine ⟨⟨h1.1, h1.2.1, fun q hq => absurd hq List.not_mem_nil⟩, ?_, fun j v hv => ?_⟩
  · unfold ent
    rw [List.length_append, List.length_map, List.length_replicate]
    have := ac_le hz
    omega
  · have h2 := lget_ent a _ j v hv
    rw [e, List.getElem?_toArray, List.getElem?_append_left (by rw [List.length_map]; exact (List.getElem?_eq_some_iff.mp h2).1), List.getElem?_map, h2]
    rfl
/-- the small machine's runs are the machine's -/
theorem sn_sx {l : Launch} (hl : l.stackTraces = false) {cs : CS} (hCl : Clo cs) {D : va_G} {ad : Nat → Int → Nat} {cA : Nat → ClassId} {base : Nat} : ∀ (n : Nat) {p : Program} {e : Env} {R : Room} {s : State} {m : MethodId} {args : Array Value} {below : List Frame} {meth : Method} {c : Code} {y : Nat} {c0 : Int} {Q : State → Prop} {r : RV} {Gf : GG}
    (_ : Cx cs p R s m args meth c D ad cA base y) (_ : Fin_ cs p l e R s m args below meth c D ad cA base y c0 Q r Gf) (pc : Nat) (ls : Lcs) (st : List AV) (G : GG), sx n y pc ls st G = some (r, Gf) → WJ cs p l e R s m args below meth c D ad cA base y c0 Q pc ls st G := by
  intro n
  induction n with
  | zero => intro p e R s m args below meth c y c0 Q r Gf X Y pc ls st G h; cases h
  | succ n ih =>
    intro p e R s m args below meth c y c0 Q r Gf X Y pc ls st G h
    have hF : PstF cs (fun z a G => sx n z 0 (ent z a) [] G) := fun z a G r Gf hz h ha hG => sx_p hCl n z hz r Gf 0 _ _ G h (ent_ok ha) (fun v hv => absurd hv List.not_mem_nil) hG
    have hC : CtrF l cs D ad cA base (fun z a G => sx n z 0 (ent z a) [] G) := by
      intro z a G rz Gz hz hsx ha hG hlen hws
      have hF9 := mf_ok hz
      have hpl : plainName (yn z).cls = true := by rw [hF9.2.1]; exact (mc_ok hF9.2.2.1).2.1
      have hP9 := sx_p hCl n z hz rz Gz 0 _ _ G hsx (ent_ok ha) (fun v hv => absurd hv List.not_mem_nil) hG
      have key : ∀ (p : Program) (e : Env) (s : State) (m : MethodId) (args : Array Value) (below : List Frame) (meth : Method) (c : Code), p.tables.exec = Jvm.exec → c.code = byt z → c.maxLocals = mlc z → s.methodNamed? (yn z) = some m → (∀ w ∈ gw, w.before args s = true) → c.exceptionTable.toList = tableOf (hhs z) → meth.locks = false → meth.sig.returnType = rty z → Pg cs D ad cA base a G args s →
          W p l e (rmo z (cst (G 48 0 0) Gz)) s m args below meth c s.heap [] 0 0 (vx_MQ below (Qg cs D ad cA base rz Gz) (Xg cs D ad cA base rz Gz) args s (cst (G 48 0 0) Gz) (6 * cst (G 48 0 0) Gz) (Ab base)) (entryFrame m args (mlc z)) := by
        intro p e s m args below meth c hx hb hml hnm hts htab hlk hret hPg
        obtain ⟨hv, hE, hP, hRo⟩ := hPg
        subst hv
        have hown : s.vm.findClass (ownN (own z)) = some m.cls := by rw [← hF9.2.1]; exact findClass_of_methodNamed hnm
        have X9 : Cx cs p (rmo z (cst (G 48 0 0) Gz)) s m (a.map (cv ad)).toArray meth c D ad cA base z := ⟨hx, hb, hml, hown, hts, hE, htab, hlk, Nat.le_refl _, Nat.le_refl _, hCl⟩
        have Y9 : Fin_ cs p l e (rmo z (cst (G 48 0 0) Gz)) s m (a.map (cv ad)).toArray below meth c D ad cA base z (G 48 0 0) (vx_MQ below (Qg cs D ad cA base rz Gz) (Xg cs D ad cA base rz Gz) (a.map (cv ad)).toArray s (cst (G 48 0 0) Gz) (6 * cst (G 48 0 0) Gz) (Ab base)) rz Gz := by
          refine ⟨fun pc i len hc => dk_ok hz pc i len hc, ⟨by omega, Nat.le_refl _, Nat.le_refl _⟩, ?_, ?_, ?_⟩
          · intro pc ls v G1 hr hG1 hR1
            subst hr; subst hG1
            exact sn_ret X9 hz hret hR1
          · intro pc x ls G1 ht hr hG1
            subst hr; subst hG1
            exact sn_throw X9 hl (th_all _ (thrF_mem ht)) (thr_lt _ (thrF_mem ht)) ⟨Nat.le_refl _, Nat.le_refl _⟩ ⟨Nat.le_refl _, Nat.le_refl _⟩
          · intro pc x lsC rest H1 locs1 ce q9 hr hno hS hce hcv hcl hx6
            subst hr
            exact sn_out X9 (by omega) hx6 hno hS hce hcv hcl
        have h0 := ih X9 Y9 0 (ent z a) [] G hsx
        have hc0 : cst (G 48 0 0) G = 0 := by unfold cst; omega
        have hS0 : St cs s D ad cA base (G 48 0 0) (rmo z (cst (G 48 0 0) Gz)) G s.heap [] := ⟨hP, va_S.rf, hG, hRo, Int.le_refl _, by rw [hc0]; exact Nat.zero_le _, by rw [hc0]; exact Nat.zero_le _⟩
        have h1 := h0 s.heap [] _ hS0 (ent_ok ha) (fun v hv => absurd hv List.not_mem_nil) (rl_ent hz hlen hws)
        rw [hc0] at h1
        rw [lg_entry_eq]
        exact h1
      cases hWz : isW z with
      | false =>
        refine vx_ofW (cc := byt z) (maxL := mlc z) (ret := rty z) (ws' := gw) hpl (by rw [codeW_f hWz]) ?_
        intro p e s m args below meth c s₁ B hml hno hPg
        have hts := atoms_spec (ws := codeW z :: gw) B.pre
        refine key p e s m args below meth c B.exec B.bytes hml B.named (fun w hw => hts w (List.mem_cons_of_mem _ hw)) ?_ B.notSynchronized B.returns hPg
        have h9 := hl5_ok (y := z) (by omega)
        rw [h9.1, h9.2.2.2 hWz]
        exact List.eq_nil_iff_forall_not_mem.mpr fun x hx => hno x hx
      | true =>
        refine vx_ofWH (cc := byt z) (maxL := mlc z) (ret := rty z) (hh := hhs z) (ws' := gw) hpl (by rw [codeW_t hWz]) ?_
        intro p e s m args below meth c s₁ B hml hPg
        have hts := atoms_spec (ws := codeW z :: gw) B.pre
        refine key p e s m args below meth c B.exec B.bytes hml B.named (fun w hw => hts w (List.mem_cons_of_mem _ hw)) ?_ B.notSynchronized B.returns hPg
        have hw9 := hts _ List.mem_cons_self
        rw [codeW_t hWz] at hw9
        exact vx_table (x := yn z) B hw9
    have hKp : ∀ pc ls st G, sx n y pc ls st G = some (r, Gf) → Pst cs r Gf ls st G := fun pc ls st G h => sx_p2 hCl n y Y.1 r Gf pc ls st G h
    have key2 : ∀ (k pc : Nat) (ls : Lcs) (st : List AV) (G : GG), sT (fun pc ls st G => sx n y pc ls st G) (fun z a G => sx n z 0 (ent z a) [] G) y k pc ls st G = some (r, Gf) → WJ cs p l e R s m args below meth c D ad cA base y c0 Q pc ls st G ∧ Pst cs r Gf ls st G := by
      intro k
      induction k with
      | zero => intro pc ls st G h; cases h
      | succ k ih2 =>
        intro pc ls st G h
        have hNp := cutN_p (y := y) hKp (fun pc ls st G h => (ih2 pc ls st G h).2)
        have hN : ∀ pc ls st G, cutN (fun pc ls st G => sx n y pc ls st G) (sT (fun pc ls st G => sx n y pc ls st G) (fun z a G => sx n z 0 (ent z a) [] G) y k) y pc ls st G = some (r, Gf) → WJ cs p l e R s m args below meth c D ad cA base y c0 Q pc ls st G := by
          intro pc ls st G h
          unfold cutN at h
          split at h
          · intro H locs lsC hS hL hst hr
            exact ih X Y pc _ st G h H locs lsC hS (okL_msk hL) hst hr.msk
          · exact (ih2 pc ls st G h).1
        exact ⟨sn_step X Y hN hNp hF hC h, sStep_p hCl hNp hF (fun i len hc => Y.1 pc i len hc) h⟩
    exact (key2 1000 pc ls st G h).1
