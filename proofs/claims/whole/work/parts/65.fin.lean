/-! ===== what a body owes at its ends; calls ===== -/
def cov5 (q : Nat × Nat × Nat × Nat × Nat) (pc : Nat) : Bool := Nat.ble q.1 pc && Nat.blt pc q.2.1
def RetI (y pc : Nat) (v : Option AV) : Prop := match v with
  | none => cd y pc = some (.return_, 1)
  | some (.inl x) => cd y pc = some (.ireturn, 1) ∧ (zrt y = true → 0 ≤ x ∧ x ≤ 1)
  | some (.inr (.inl _)) => cd y pc = some (.areturn, 1)
  | some (.inr (.inr (.inl _))) => False
  | some (.inr (.inr (.inr _))) => cd y pc = some (.dreturn, 1)
def Fin_ (cs : CS) (p : Program) (l : Launch) (e : Env) (R : Room) (s : State) (m : MethodId) (args : Array Value) (below : List Frame) (meth : Method) (c : Code) (D : va_G) (ad : Nat → Int → Nat) (cA : Nat → ClassId) (base y : Nat) (c0 : Int) (Q : State → Prop) (r : RV) (Gf : GG) : Prop :=
  (∀ pc i len, cd y pc = some (i, len) → decode (byt y) pc = .ok (i, len) ∧ iok i len = true) ∧
  (y < 303 ∧ cst c0 Gf ≤ R.cells ∧ 6 * cst c0 Gf ≤ R.slots) ∧
  (∀ pc ls v G, r = .inl v → Gf = G → RetI y pc v → WJ cs p l e R s m args below meth c D ad cA base y c0 Q pc ls v.toList G) ∧
  (∀ pc x ls G, thr y pc = some x → r = .inr x → Gf = bump G → WJ cs p l e R s m args below meth c D ad cA base y c0 Q pc ls [] G) ∧
  (∀ pc x lsC rest H1 locs1 ce q9, r = .inr x → (∀ z ∈ hl5 y, cov5 z pc = false ∨ z.2.2.2.2 ≠ x) → St cs s D ad cA base c0 R Gf H1 locs1 → H1[q9]? = some ce → ce.vm = .none → s.vm.findClass (exN x) = some ce.cls → x < 6 → vx_W p l e R s m args below meth c H1 locs1 (cst c0 Gf) (6 * cst c0 Gf) Q (F0 m pc lsC rest) q9)
def CtrF (l : Launch) (cs : CS) (D : va_G) (ad : Nat → Int → Nat) (cA : Nat → ClassId) (base : Nat) (F : Nat → List AV → GG → RS) : Prop := ∀ z a G rz Gz, z < 302 → F z a G = some (rz, Gz) → okS cs a → okG G → a.length = (mt z).1 → wsum a = (mt z).1 → Ctr l cs D ad cA base z a G rz Gz
def hf5 (l : List (Nat × Nat × Nat × Nat × Nat)) (pc : Nat) : List (Nat × Nat) := (l.map fun q => (q.1, q.2.1, q.2.2.1, q.2.2.2.2)).filterMap fun q => bif Nat.ble q.1 pc && Nat.blt pc q.2.1 then some (q.2.2.2, q.2.2.1) else none
theorem hAt_5 {y : Nat} (h : y < 303) (pc : Nat) : hAt y pc = hf5 (hl5 y) pc := by unfold hAt hf5; rw [(hl5_ok h).2.1]
theorem hsel_split (pc x : Nat) : ∀ l : List (Nat × Nat × Nat × Nat × Nat),
    (∃ pre q suf, l = pre ++ q :: suf ∧ (∀ z ∈ pre, cov5 z pc = false ∨ z.2.2.2.2 ≠ x) ∧ cov5 q pc = true ∧ q.2.2.2.2 = x ∧ ∀ k d, hsel (hf5 l pc) x k d = k q.2.2.1) ∨
    ((∀ z ∈ l, cov5 z pc = false ∨ z.2.2.2.2 ≠ x) ∧ ∀ k d, hsel (hf5 l pc) x k d = d)
  | [] => Or.inr ⟨fun _ h => absurd h List.not_mem_nil, fun _ _ => rfl⟩
  | q :: l => by
    cases hc : cov5 q pc with
    | false =>
      have e : hf5 (q :: l) pc = hf5 l pc := by
        unfold hf5
        rw [List.map_cons, List.filterMap_cons]
        unfold cov5 at hc
        dsimp only
        rw [hc]
        rfl
      rw [e]
      rcases hsel_split pc x l with ⟨pre, q', suf, h1, h2, h3, h4, h5⟩ | ⟨h1, h2⟩
      · exact Or.inl ⟨q :: pre, q', suf, by rw [h1]; rfl, fun z hz => (List.mem_cons.mp hz).elim (fun e => Or.inl (e ▸ hc)) (h2 z), h3, h4, h5⟩
      · exact Or.inr ⟨fun z hz => (List.mem_cons.mp hz).elim (fun e => Or.inl (e ▸ hc)) (h1 z), h2⟩
    | true =>
      have e : hf5 (q :: l) pc = (q.2.2.2.2, q.2.2.1) :: hf5 l pc := by
        unfold hf5
        rw [List.map_cons, List.filterMap_cons]
        unfold cov5 at hc
        dsimp only
        rw [hc]
        rfl
      rw [e]
      by_cases hx : x = q.2.2.2.2
      · exact Or.inl ⟨[], q, l, rfl, fun _ h => absurd h List.not_mem_nil, hc, hx.symm, fun k d => by unfold hsel; rw [if_pos hx]⟩
      · have e2 : ∀ k d, hsel ((q.2.2.2.2, q.2.2.1) :: hf5 l pc) x k d = hsel (hf5 l pc) x k d := fun k d => by
          conv => lhs; unfold hsel
          rw [if_neg hx]
        rcases hsel_split pc x l with ⟨pre, q', suf, h1, h2, h3, h4, h5⟩ | ⟨h1, h2⟩
        · exact Or.inl ⟨q :: pre, q', suf, by rw [h1]; rfl, fun z hz => (List.mem_cons.mp hz).elim (fun e => Or.inr (e ▸ fun z => hx z.symm)) (h2 z), h3, h4, fun k d => (e2 k d).trans (h5 k d)⟩
        · exact Or.inr ⟨fun z hz => (List.mem_cons.mp hz).elim (fun e => Or.inr (e ▸ fun z => hx z.symm)) (h1 z), fun k d => (e2 k d).trans (h2 k d)⟩
theorem dec_ble (a b : Nat) : decide (a ≤ b) = Nat.ble a b := by
  cases h : Nat.ble a b with
  | true => exact decide_eq_true (Nat.ble_eq.mp h)
  | false => exact decide_eq_false fun z => by rw [Nat.ble_eq.mpr z] at h; cases h
theorem dec_blt (a b : Nat) : decide (a < b) = Nat.blt a b := by
  cases h : Nat.blt a b with
  | true => exact decide_eq_true (Nat.blt_eq.mp h)
  | false => exact decide_eq_false fun z => by rw [Nat.blt_eq.mpr z] at h; cases h
theorem cov_of (q : Nat × Nat × Nat × Nat × Nat) (pc : Nat) : covers (⟨q.1, q.2.1, q.2.2.1, q.2.2.2.1⟩ : ExceptionTableEntry) pc = cov5 q pc := by
  unfold cov5
  show (decide (q.1 ≤ pc) && decide (pc < q.2.1)) = _
  rw [dec_ble, dec_blt]
theorem wsum_app : ∀ a b : List AV, wsum (a ++ b) = wsum a + wsum b
  | [], b => by simp [wsum]
  | v :: a, b => by simp only [List.cons_append, wsum, wsum_app a b]; omega
theorem wsum_rev : ∀ a : List AV, wsum a.reverse = wsum a
  | [] => rfl
  | v :: a => by simp only [List.reverse_cons, wsum_app, wsum_rev a, wsum]; omega
/-- a call's two ends -/
theorem sCall_c {N : Nat → Lcs → List AV → GG → RS} {F : Nat → List AV → GG → RS} {y pc z : Nat} {v : Bool} {ls : Lcs} {st : List AV} {G : GG} {r : RV} {Gf : GG} (h : sCall N F y pc z v ls st G = some (r, Gf)) :
    (mt z).2.2.2 < (mt y).2.2.2 ∧ (mt z).1 ≤ st.length ∧ wsum (st.take (mt z).1).reverse = (mt z).1 ∧ wsum (st.drop (mt z).1) ≤ 8 ∧ (v = true → recvOk (mt z).2.2.1 (st.take (mt z).1).reverse = true) ∧
    ∃ rz Gz, F z (st.take (mt z).1).reverse G = some (rz, Gz) ∧ ((∃ v', rz = .inl v' ∧ N (pc + 3) ls (v'.toList ++ st.drop (mt z).1) Gz = some (r, Gf)) ∨ ∃ x, rz = .inr x ∧ hsel (hAt y pc) x (fun hp => catchAt N y hp ls Gz) (some (.inr x, Gz)) = some (r, Gf)) := by
  unfold sCall at h
  generalize mt z = q at h ⊢
  obtain ⟨ac, rk, rt, ht⟩ := q
  dsimp only at h ⊢
  cases hb : (Nat.blt ht (mt y).2.2.2 && Nat.ble ac st.length && Nat.beq (wsum (st.take ac)) ac && Nat.ble (wsum (st.drop ac)) 8 && (!v || recvOk rt (st.take ac).reverse)) with
  | false => rw [hb] at h; cases h
  | true =>
    rw [hb] at h
    simp only [cond_true] at h
    simp only [Bool.and_eq_true, Bool.or_eq_true, Bool.not_eq_true'] at hb
    refine ⟨Nat.blt_eq.mp hb.1.1.1.1, Nat.ble_eq.mp hb.1.1.1.2, (wsum_rev _).trans (Nat.eq_of_beq_eq_true hb.1.1.2), Nat.ble_eq.mp hb.1.2, fun hv => hb.2.elim (fun z => absurd (hv.symm.trans z) (by decide)) id, ?_⟩
    match rk, h with
    | 0, h =>
      change contV _ _ _ = _ at h
      unfold contV at h
      split at h
      · rename_i G1 hq
        exact ⟨_, _, hq, Or.inl ⟨none, rfl, h⟩⟩
      · rename_i x G1 hq
        exact ⟨_, _, hq, Or.inr ⟨x, rfl, h⟩⟩
      · cases h
    | 1, h =>
      change contI _ _ _ = _ at h
      unfold contI at h
      split at h
      · rename_i x G1 hq
        exact ⟨_, _, hq, Or.inl ⟨some (.inl x), rfl, h⟩⟩
      · rename_i x G1 hq
        exact ⟨_, _, hq, Or.inr ⟨x, rfl, h⟩⟩
      · cases h
    | 2, h =>
      change contD _ _ _ = _ at h
      unfold contD at h
      split at h
      · rename_i x G1 hq
        exact ⟨_, _, hq, Or.inl ⟨some (.inr (.inr (.inr x))), rfl, h⟩⟩
      · rename_i x G1 hq
        exact ⟨_, _, hq, Or.inr ⟨x, rfl, h⟩⟩
      · cases h
    | t + 3, h =>
      change contR t _ _ _ = _ at h
      unfold contR at h
      split at h
      · rename_i t' i G1 hq
        split at h
        · rename_i ht'
          exact ⟨_, _, hq, Or.inl ⟨some (.inr (.inl (t', i))), rfl, by rw [ht']; exact h⟩⟩
        · cases h
      · rename_i x G1 hq
        exact ⟨_, _, hq, Or.inr ⟨x, rfl, h⟩⟩
      · cases h
section FIN
variable {cs : CS} {p : Program} {l : Launch} {e : Env} {R : Room} {s : State} {m : MethodId} {args : Array Value} {below : List Frame} {meth : Method} {c : Code} {D : va_G} {ad : Nat → Int → Nat} {cA : Nat → ClassId} {base y : Nat} {c0 : Int} {Q : State → Prop} {r : RV} {Gf : GG} {N : Nat → Lcs → List AV → GG → RS} {F : Nat → List AV → GG → RS}
theorem sn_hsel (X : Cx cs p R s m args meth c D ad cA base y) (Y : Fin_ cs p l e R s m args below meth c D ad cA base y c0 Q r Gf)
    (hN : ∀ pc ls st G, N pc ls st G = some (r, Gf) → WJ cs p l e R s m args below meth c D ad cA base y c0 Q pc ls st G)
    {pc x : Nat} {ls : Lcs} {Gz : GG} (hx6 : x < 6) (h : hsel (hAt y pc) x (fun hp => catchAt N y hp ls Gz) (some (.inr x, Gz)) = some (r, Gf)) (hL : okL cs ls) {lsC : Array Slot} (hr : Rl ad y ls lsC)
    {H1 : Heap} {locs1 : List Loc} {ce : Cell} {q9 : Addr} {rest : List Value} (hS : St cs s D ad cA base c0 R Gz H1 locs1) (hce : H1[q9]? = some ce) (hcv : ce.vm = .none) (hcl : s.vm.findClass (exN x) = some ce.cls) :
    vx_W p l e R s m args below meth c H1 locs1 (cst c0 Gz) (6 * cst c0 Gz) Q (F0 m pc lsC rest) q9 := by
  have hy := Y.2.1.1
  obtain ⟨hh1, hh2, hh3, hh4⟩ := hl5_ok hy
  rw [hAt_5 hy] at h
  obtain ⟨hx, hb, hml, hown, hts, hE, htab, hlk, hRf, hRl, hCl⟩ := X
  rcases hsel_split pc x (hl5 y) with ⟨pre, q, suf, h1, h2, h3, h4, h5⟩ | ⟨h1, h2⟩
  · rw [h5] at h
    have hqm : q ∈ hl5 y := by rw [h1]; exact List.mem_append_right _ List.mem_cons_self
    have hHC := hh3 q hqm
    have hoN : ownN (own y) = "MapGeneralizerLaw" := by rw [hHC.1]; rfl
    have htab2 : c.exceptionTable.toList = (pre.map fun q => (⟨q.1, q.2.1, q.2.2.1, q.2.2.2.1⟩ : ExceptionTableEntry)) ++ (⟨q.1, q.2.1, q.2.2.1, q.2.2.2.1⟩ : ExceptionTableEntry) :: (suf.map fun q => (⟨q.1, q.2.1, q.2.2.1, q.2.2.2.1⟩ : ExceptionTableEntry)) := by
      rw [htab, hh1, h1]
      unfold tableOf
      simp only [List.map_append, List.map_cons, List.map_map]
      rfl
    have hcast : (Jvm.Cond.castable (exN x) (exN x)).before args s = true := by
      refine va_Nw.use ?_ (hE.2.2.2.2.2.2.1 _ (ex_nws hx6))
      exact nws_tab _ (ex_nws hx6)
    refine vx_catch (own := ownN (own y)) (name := exN x) (E := exN x) hown _ _ _ htab2 (fun z hz => ?_) ((cov_of q pc).trans h3) hHC.2.1 (by rw [hoN, ← h4]; exact hts _ hHC.2.2.2) hcast hce hcv hcl ?_
    · obtain ⟨q2, hq2, rfl⟩ := List.mem_map.mp hz
      rcases h2 q2 hq2 with h | h
      · exact Or.inl ((cov_of q2 pc).trans h)
      · have hq2m : q2 ∈ hl5 y := by rw [h1]; exact List.mem_append_left _ hq2
        have hH2 := hh3 q2 hq2m
        exact Or.inr ⟨hH2.2.1, exN q2.2.2.2.2, by rw [hoN]; exact hts _ hH2.2.2.2, hE.2.2.2.2.2.2.2.1 _ _ hx6 hH2.2.2.1 (fun z => h z.symm)⟩
    · show W p l e R s m args below meth c H1 locs1 (cst c0 Gz) (6 * cst c0 Gz) Q (F0 m q.2.2.1 lsC [.ref q9])
      rcases catchAt_c y q.2.2.1 ls with ⟨j, len, hcd, hj, ho, hk⟩ | hk
      · rw [hk] at h
        have hjl : j < mlc y := Nat.lt_of_lt_of_le (Nat.blt_eq.mp hj) hr.2.1
        rcases hcd with hcd | ⟨jj, rfl, hcd⟩
        · obtain ⟨hd, hio⟩ := Y.1 _ _ _ hcd
          have hl1 : len = 2 := Nat.eq_of_beq_eq_true hio
          subst hl1
          refine lv_astore hx hb hd (rl_has hr) hjl rfl (fun lsC' h' => ?_)
          exact hN _ _ _ _ h H1 locs1 lsC' hS (okL_none hL) (fun v hv => absurd hv List.not_mem_nil) (rl_drop hr hj ho h')
        · obtain ⟨hd, hio⟩ := Y.1 _ _ _ hcd
          have hl1 : len = 1 := Nat.eq_of_beq_eq_true hio
          subst hl1
          refine lv_astore_n hx hb hd rfl (rl_has hr) hjl rfl (fun lsC' h' => ?_)
          exact hN _ _ _ _ h H1 locs1 lsC' hS (okL_none hL) (fun v hv => absurd hv List.not_mem_nil) (rl_drop hr hj ho h')
      · rw [hk] at h; cases h
  · rw [h2] at h
    have h9 := Option.some.inj h
    cases h9
    exact Y.2.2.2.2 pc x lsC rest H1 locs1 ce q9 rfl h1 hS hce hcv hcl hx6
theorem sn_goes (X : Cx cs p R s m args meth c D ad cA base y) (Y : Fin_ cs p l e R s m args below meth c D ad cA base y c0 Q r Gf)
    (hN : ∀ pc ls st G, N pc ls st G = some (r, Gf) → WJ cs p l e R s m args below meth c D ad cA base y c0 Q pc ls st G) (hNp : ∀ pc ls st G, N pc ls st G = some (r, Gf) → Pst cs r Gf ls st G) (hF : PstF cs F)
    {pc z : Nat} (hz : z < 302) {ls : Lcs} {st rs : List AV} {G : GG} {rz : RV} {Gz : GG} {a : List AV} (ha : okS cs a) (hF1 : F z a G = some (rz, Gz)) (hrs : okS cs rs)
    (hk : (∃ v', rz = .inl v' ∧ N (pc + 3) ls (v'.toList ++ rs) Gz = some (r, Gf)) ∨ ∃ x, rz = .inr x ∧ hsel (hAt y pc) x (fun hp => catchAt N y hp ls Gz) (some (.inr x, Gz)) = some (r, Gf))
    {H : Heap} {locs : List Loc} {lsC : Array Slot} (hS : St cs s D ad cA base c0 R G H locs) (hL : okL cs ls) (hr : Rl ad y ls lsC)
    (hrun : cst c0 Gz ≤ R.cells ∧ 6 * cst c0 Gz ≤ R.slots → G 48 0 0 ≤ Gz 48 0 0 → vx_Run p l e R s m args below meth c H locs (cst c0 G) (6 * cst c0 G) (cst (G 48 0 0) Gz) (6 * cst (G 48 0 0) Gz) (F0 m pc lsC (st.map (cv ad))) (rs.map (cv ad)) (Qg cs D ad cA base rz Gz (a.map (cv ad)).toArray) (Xg cs D ad cA base rz Gz) (Ab base)) :
    W p l e R s m args below meth c H locs (cst c0 G) (6 * cst c0 G) Q (F0 m pc lsC (st.map (cv ad))) := by
  obtain ⟨a1, a2, a3, a4⟩ := hF z a G rz Gz hz hF1 ha hS.2.2.1
  have okv : ∀ v' : Option AV, rz = .inl v' → okS cs (v'.toList ++ rs) := by
    intro v' hv' v hv
    rw [hv'] at a2
    rcases List.mem_append.mp hv with h | h
    · cases v' with
      | none => exact absurd h List.not_mem_nil
      | some u =>
        have e : v = u := by simpa using h
        rw [e]; exact a2
    · exact hrs v h
  have hle : Gz 48 0 0 ≤ Gf 48 0 0 := by
    rcases hk with ⟨v', hv', h⟩ | ⟨x, hx, h⟩
    · exact (hNp _ _ _ _ h hL (okv v' hv') a1).2.2.1
    · rw [hx] at a2
      exact (hsel_p hNp hL a1 a2 _ h).2.2.1
  have hm : cst c0 Gz ≤ cst c0 Gf := cst_mono hle
  have hroom : cst c0 Gz ≤ R.cells ∧ 6 * cst c0 Gz ≤ R.slots := ⟨Nat.le_trans hm Y.2.1.2.1, Nat.le_trans (Nat.mul_le_mul_left 6 hm) Y.2.1.2.2⟩
  refine sn_after (hrun hroom a3) hS a1 a4 a3 hroom (fun v hv H1 locs1 hS1 => ?_) (fun x hx H1 locs1 ce q hS1 hce hcv hcl => ?_)
  · rcases hk with ⟨v', hv', h⟩ | ⟨x, hx, h⟩
    · have e : v = v' := Sum.inl.inj (hv.symm.trans hv')
      subst e
      have h9 := hN _ _ _ _ h H1 locs1 lsC hS1 hL (okv v hv) hr
      have e2 : (v.toList ++ rs).map (cv ad) = (v.map (cv ad)).toList ++ rs.map (cv ad) := by cases v <;> rfl
      rw [e2] at h9
      exact h9
    · rw [hv] at hx; cases hx
  · rcases hk with ⟨v', hv', h⟩ | ⟨x', hx', h⟩
    · rw [hx] at hv'; cases hv'
    · have e : x = x' := Sum.inr.inj (hx.symm.trans hx')
      subst e
      rw [hx] at a2
      exact sn_hsel X Y hN a2 h hL hr hS1 hce hcv hcl
theorem sn_callV (X : Cx cs p R s m args meth c D ad cA base y) (Y : Fin_ cs p l e R s m args below meth c D ad cA base y c0 Q r Gf)
    (hN : ∀ pc ls st G, N pc ls st G = some (r, Gf) → WJ cs p l e R s m args below meth c D ad cA base y c0 Q pc ls st G) (hNp : ∀ pc ls st G, N pc ls st G = some (r, Gf) → Pst cs r Gf ls st G) (hF : PstF cs F) (hC : CtrF l cs D ad cA base F)
    {pc z k : Nat} (hmm : MM (own y, k, z, 1)) (hde : decode (byt y) pc = .ok (.invokevirtual k, 3)) {ls : Lcs} {st : List AV} {G : GG} (h : sCall N F y pc z true ls st G = some (r, Gf)) : WJ cs p l e R s m args below meth c D ad cA base y c0 Q pc ls st G := by
  intro H locs lsC hS hL hst hr
  obtain ⟨hz, hV, hWz, hlink⟩ := hmm
  obtain ⟨hh, hac, hwa, hw, hrec, rz, Gz, hF1, hk⟩ := sCall_c h
  have ha := okS_take (mt z).1 hst
  generalize hae : (st.take (mt z).1).reverse = a at hF1 ha hrec hwa
  have hrv := hrec rfl
  match a, hrv with
  | .inr (.inl (t, i)) :: a', hrv =>
    have ht : t = (mt z).2.2.1 := Nat.eq_of_beq_eq_true hrv
    have hlen : a'.length + 1 = (mt z).1 := by
      have := congrArg List.length hae
      simp only [List.length_reverse, List.length_take, List.length_cons] at this
      omega
    have hste : st = a'.reverse ++ .inr (.inl (t, i)) :: st.drop (mt z).1 := by
      have e1 : st.take (mt z).1 = a'.reverse ++ [.inr (.inl (t, i))] := by
        rw [← List.reverse_reverse (st.take (mt z).1), hae, List.reverse_cons]
      have e2 := List.take_append_drop (mt z).1 st
      rw [e1] at e2
      rw [List.append_assoc] at e2
      exact e2.symm
    have hci : (t, i) ∈ cs := Ref_.cell (ha _ List.mem_cons_self) (by rw [ht]; exact (objs_lt _ ((mf_ok hz).2.2.2.1 hV).2.2.2.2).1)
    refine sn_goes X Y hN hNp hF hz ha hF1 (okS_drop _ hst) hk hS hL hr (fun hroom hle => ?_)
    have e3 := cst_add hS.2.2.2.2.1 hle
    have h9 := sn_runV (e := e) (below := below) X hS hz (hC z _ G rz Gz hz hF1 ha hS.2.2.1 hlen hwa) hV hWz hlink ht hlen hh hw hci (by rw [e3]; exact ⟨hroom.1, by omega⟩) hde hr.size
    rw [← hste] at h9
    exact h9
theorem sn_callS (X : Cx cs p R s m args meth c D ad cA base y) (Y : Fin_ cs p l e R s m args below meth c D ad cA base y c0 Q r Gf)
    (hN : ∀ pc ls st G, N pc ls st G = some (r, Gf) → WJ cs p l e R s m args below meth c D ad cA base y c0 Q pc ls st G) (hNp : ∀ pc ls st G, N pc ls st G = some (r, Gf) → Pst cs r Gf ls st G) (hF : PstF cs F) (hC : CtrF l cs D ad cA base F)
    {pc z k : Nat} (hmm : MM (own y, k, z, 0)) (hde : decode (byt y) pc = .ok (.invokestatic k, 3)) {ls : Lcs} {st : List AV} {G : GG} (h : sCall N F y pc z false ls st G = some (r, Gf)) : WJ cs p l e R s m args below meth c D ad cA base y c0 Q pc ls st G := by
  intro H locs lsC hS hL hst hr
  obtain ⟨hz, hV, hlink, hnest⟩ := hmm
  obtain ⟨hh, hac, hwa, hw, -, rz, Gz, hF1, hk⟩ := sCall_c h
  have ha := okS_take (mt z).1 hst
  have hlen : (st.take (mt z).1).reverse.length = (mt z).1 := by
    rw [List.length_reverse, List.length_take]
    omega
  have hste : st = (st.take (mt z).1).reverse.reverse ++ st.drop (mt z).1 := by rw [List.reverse_reverse, List.take_append_drop]
  refine sn_goes X Y hN hNp hF hz ha hF1 (okS_drop _ hst) hk hS hL hr (fun hroom hle => ?_)
  have e3 := cst_add hS.2.2.2.2.1 hle
  have h9 := sn_runS (e := e) (below := below) (rest := st.drop (mt z).1) X hS hz (hC z _ G rz Gz hz hF1 ha hS.2.2.1 hlen hwa) hV hlink hnest hlen hh hw (by rw [e3]; exact ⟨hroom.1, by omega⟩) hde hr.size
  rw [← hste] at h9
  exact h9
end FIN
