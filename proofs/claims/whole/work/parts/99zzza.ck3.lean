/-! ===== constructors: rows of references; fields read ===== -/
section CQ
variable {p : Program} {l : Launch} {e : Env} {R : Room} {s : State} {m : MethodId} {args : Array Value} {below : List Frame} {meth : Method} {c : Code} {H : Heap} {locs : List Loc} {cells slots : Nat} {Q : State → Prop} {D : va_G} {cA : Nat → ClassId} {own : String} {cc : ByteArray} {n pc : Nat} {ls : Array Slot} {rest : List Value} {A : Nat → Prop} {w : va_W}
theorem k_aast (B : Bk p s m args meth c own cc n) (hK : va_K D cls_ (tys_ cA) s) (hW : Wk D A s w H locs) (q0 t0 t : Nat) {a N v : Nat} {vs : List Value} {f : Nat → Option Nat} {x : Int32} (ha : w[q0]? = some (a, .inl (cA t0, N, .inr (.inr (.inr (.inr f)))))) (ht0 : (tys_ cA)[t0]? = some (cA t0, .object (Rt t))) (ho : t ∈ objs) (hv : va_P D cls_ [(v, .inr (cix t, vs))] H) (hin : vp_in x N) (hd : decode cc pc = .ok (.aastore, 1))
    (kk : ∀ (H1 : Heap) (locs1 : List Loc), Wk D A s (w.set q0 (a, .inl (cA t0, N, .inr (.inr (.inr (.inr (va_up f x.toNatClampNeg (some v)))))))) H1 locs1 → W p l e R s m args below meth c H1 locs1 cells slots Q (F0 m (pc + 1) ls rest)) : W p l e R s m args below meth c H locs cells slots Q (F0 m pc ls (.ref v :: .int x :: .ref a :: rest)) := by
  obtain ⟨hx, hb, hr, hml, hown, hts, hlk, hnm⟩ := B
  obtain ⟨hP, hD, hS⟩ := hW
  have hlt : x.toNatClampNeg < N := Nat.not_le.mp fun q => hin (Or.inr q)
  have h0 : ¬ x < 0 := fun q => hin (Or.inl q)
  obtain ⟨r', hr', cellV, g1, g2, g3, -⟩ := hv 0 _ rfl
  have hcls := (hK.1 (cix t) _ (cls_at t ho)).2
  obtain ⟨kA, comp, k1, k2, k3, -⟩ := (hK.2 t0 _ ht0).2
  have hcomp : comp = D.1 (cix t) := Option.some.inj (k3.symm.trans hcls.1)
  subst hcomp
  obtain ⟨kC, hkC, -⟩ := hcls.2
  refine W.aast hx hb (hP q0 _ ha) (fun q h => by cases h) (fun h => by cases h) k1 k2 rfl hkC ⟨h0, by show _ < (arrV _ _ _).slots.size; rw [arrV_size]; exact hlt⟩ g1 (fun q h => by rw [g3] at h; cases h) (by rw [g2]; exact hkC) (by rw [g2]; exact va_assign hcls) rfl rfl hd fun H1 e9 z oq => ?_
  refine kk H1 _ ⟨hP.set hD ha ?_ oq, hD.set ha, hS.put z oq (hD.2 q0 _ ha)⟩
  show H1[a]? = some (vp_cell _ _)
  rw [e9]
  rw [vp_cell_q, vp_cell_q, arrV_store]
  congr 2
  funext q
  by_cases hq : q = x.toNatClampNeg
  · subst hq
    simp [updV, va_up, va_rf]
  · simp [updV, va_up, hq]
theorem k_newq (B : Bk p s m args meth c own cc n) {t0 t idx N : Nat} (hlink : Jvm.Cond.classLink own idx (Rt t) ∈ gw) (hov : va_AO (Rt t) s) (ht0 : (tys_ cA)[t0]? = some (cA t0, .object (Rt t))) (hK : va_K D cls_ (tys_ cA) s) (hW : Wk D A s w H locs) (hA : ∀ q, s.heap.size ≤ q → A q) {x : Int32} (hx0 : ¬ x < 0) (hN : x.toNatClampNeg = N) (hbytes : N * 4 ≤ 536870912) (hc : cells + 1 ≤ R.cells ∧ slots + N ≤ R.slots) (hd : decode cc pc = .ok (.anewarray idx, 3))
    (kk : ∀ (q : Nat) (H1 : Heap), Wk D A s (w ++ [(q, .inl (cA t0, N, .inr (.inr (.inr (.inr fun _ => none)))))]) H1 locs → W p l e R s m args below meth c H1 locs (cells + 1) (slots + N) Q (F0 m (pc + 3) ls (.ref q :: rest))) : W p l e R s m args below meth c H locs cells slots Q (F0 m pc ls (.int x :: rest)) := by
  obtain ⟨hx, hb, hr, hml, hown, hts, hlk, hnm⟩ := B
  obtain ⟨hP, hD, hS⟩ := hW
  refine va_newq (C := Rt t) hx hb hown (hts _ hlink) hov hK hP hD hS hA hx0 hN hbytes hc.1 hc.2 hd (fun q z H1 hK1 hP1 hD1 hS1 => ?_)
  have h1 := (hK1.2 (tys_ cA).length (z, .object (Rt t)) (by rw [List.getElem?_append_right (Nat.le_refl _), Nat.sub_self]; rfl)).2
  have h2 := (hK.2 t0 _ ht0).2
  obtain ⟨-, -, -, -, -, h3⟩ := h1
  obtain ⟨-, -, -, -, -, h4⟩ := h2
  have hz : z = cA t0 := Option.some.inj (h3.symm.trans h4)
  subst hz
  exact kk q H1 ⟨hP1, hD1, hS1⟩
theorem k_get (B : Bk p s m args meth c own cc n) {t k idx a q0 : Nat} {fs : List Value} {v : Value} {w9 : va_W} (ho : t ∈ objs) (hk : k < Nf t) (hlink : Jvm.Cond.fieldLink own idx (Rt t) (Tt t k).2.1 (Tt t k).2.2.1 ∈ gw) (hK : va_K D cls_ (tys_ cA) s) (hP : va_P D cls_ w9 H) (he : w9[q0]? = some (a, .inr (cix t, fs))) (hv : fs[k]? = some v) (hd : decode cc pc = .ok (.getfield idx, 3))
    (kk : W p l e R s m args below meth c H locs cells slots Q (F0 m (pc + 3) ls (v :: rest))) : W p l e R s m args below meth c H locs cells slots Q (F0 m pc ls (.ref a :: rest)) := by
  obtain ⟨hx, hb, hr, hml, hown, hts, hlk, hnm⟩ := B
  exact va_get (D := D) (ci := cix t) (C := Rt t) (T := Tt t) (N := Nf t) hx hb hts (inT t ho) hown hK hP q0 he (cls_at t ho) k hk (hts _ hlink) (fun x h9 => by rw [own_ok t ho k hk] at h9; exact h9) hv hd kk
theorem k_aald (B : Bk p s m args meth c own cc n) (hK : va_K D cls_ (tys_ cA) s) (hP : va_P D cls_ w H) (q0 t0 : Nat) {C : String} {a N v : Nat} {f : Nat → Option Nat} {x : Int32} (ha : w[q0]? = some (a, .inl (cA t0, N, .inr (.inr (.inr (.inr f)))))) (ht0 : (tys_ cA)[t0]? = some (cA t0, .object C)) (hin : vp_in x N) (hv : f x.toNatClampNeg = some v) (hd : decode cc pc = .ok (.aaload, 1))
    (kk : W p l e R s m args below meth c H locs cells slots Q (F0 m (pc + 1) ls (.ref v :: rest))) : W p l e R s m args below meth c H locs cells slots Q (F0 m pc ls (.int x :: .ref a :: rest)) := by
  obtain ⟨hx, hb, hr, hml, hown, hts, hlk, hnm⟩ := B
  refine va_aldq hx hb hK hP q0 t0 ha ht0 hin hd ?_
  rw [hv]
  exact kk
/-- what lies below a constructor's object stays -/
theorem low_P {q : Nat} {wro : va_W} (hP : va_P D cls_ wro s.heap) (hlw : ∀ (k : Nat) (x : Nat × va_E), wro[k]? = some x → x.1 < q) (hq : q + 1 = s.heap.size) (hS : va_S (Ab q) s.heap H locs) : va_P D cls_ wro H :=
  hP.kept (fun k x hx => hS.2.1 x.1 (by have := hlw k x hx; omega) (fun h => by have h9 : q ≤ x.1 := h; have := hlw k x hx; omega))
end CQ
/-- whether a list of cells is closed, worked out -/
noncomputable def cloC (cs : CS) : Bool := cs.all fun q => decide (q.1 < 44) && (decide (0 ≤ q.2) && (decide (q.2 < cnt q.1) && ((tgL.all fun u => !(Nat.beq u.1 q.1) || decide (tgt q.1 (u.2 : Int) q.2 ∈ cs)) && (!(Nat.beq (akd q.1) 5) || (List.range (alc q.1).toNat).all fun j => decide (elt q.1 q.2 (j : Int) ∈ cs)))))
theorem clo_of {cs : CS} (h : cloC cs = true) : Clo cs := by
  have h9 : ∀ t i, (t, i) ∈ cs → t < 44 ∧ 0 ≤ i ∧ i < cnt t ∧ (∀ u ∈ tgL, (!(Nat.beq u.1 t) || decide (tgt t (u.2 : Int) i ∈ cs)) = true) ∧ (!(Nat.beq (akd t) 5) || (List.range (alc t).toNat).all fun j => decide (elt t i (j : Int) ∈ cs)) = true := fun t i hi => by
    have h1 := List.all_eq_true.mp h (t, i) hi
    simp only [Bool.and_eq_true, decide_eq_true_eq] at h1
    exact ⟨h1.1, h1.2.1, h1.2.2.1, fun u hu => List.all_eq_true.mp h1.2.2.2.1 u hu, h1.2.2.2.2⟩
  refine ⟨fun t i hi => ?_, fun t i k hi hk => ?_, fun t i j hi ha h0 hl => ?_⟩
  · obtain ⟨a, b, d, -⟩ := h9 t i hi
    exact ⟨a, b, d⟩
  · have h1 := (h9 t i hi).2.2.2.1 (t, k) hk
    rw [Bool.or_eq_true] at h1
    rcases h1 with h1 | h1
    · rw [show Nat.beq t t = true from Nat.beq_refl t] at h1
      cases h1
    · exact of_decide_eq_true h1
  · have h1 := (h9 t i hi).2.2.2.2
    rw [Bool.or_eq_true] at h1
    rcases h1 with h1 | h1
    · rw [ha] at h1
      cases h1
    · have h2 := List.all_eq_true.mp h1 j.toNat (List.mem_range.mpr (by omega))
      rw [show ((j.toNat : Nat) : Int) = j by omega] at h2
      exact of_decide_eq_true h2
/-! the sheet's part, and what reset makes of it -/
def csS (i : Int) : CS := [(1, i), (2, i), (3, i), (4, i), (5, i), (6, i), (7, i), (8, i), (9, i), (10, i), (11, i), (12, i)]
theorem clo_S : ∀ i : Nat, i < 11 → Clo (csS (i : Int)) := by
  have h : ∀ i ∈ List.range 11, cloC (csS (i : Int)) = true := by decide +kernel
  exact fun i hi => clo_of (h i (List.mem_range.mpr hi))
theorem okG_gz {g : GG} (h : okG g) : okG (gz g) := fun t i k => by
  unfold gz
  by_cases c : t < 44
  · rw [if_pos c]
    exact ⟨fun _ => by unfold inJ; omega, fun _ _ _ => by unfold inR; omega⟩
  · rw [if_neg c]
    exact h t i k
theorem Lm_gz {g : GG} (h : Lm g) : Lm (gz g) := h
noncomputable def GSh (g : GG) (i : Int) : GG := match f_She_reset i (gz g) with
  | some r => r.2
  | none => gz g
theorem sh_reset {g : GG} (hT : Lm g) (i : Int) : f_She_reset i (gz g) = rV (GSh g i) ∧ ShC (GSh g i) i iniS ∧ Fr (FSh i) (gz g) (GSh g i) := by
  obtain ⟨G1, e1, h1, f1⟩ := g_reset (i := i) (Lm_gz hT)
  have h : GSh g i = G1 := by
    unfold GSh
    rw [e1]
  rw [h]
  exact ⟨e1, h1, f1⟩
theorem ctr_reset {l : Launch} (hl : l.stackTraces = false) {g : GG} (hT : Lm g) (hg : okG g) {i : Nat} (hi : i < 11) {D : va_G} {ad : Nat → Int → Nat} {cA : Nat → ClassId} {q : Nat} : Ctr l (csS (i : Int)) D ad cA q y_She_reset [.inr (.inl (1, (i : Int)))] (gz g) (.inl none) (GSh g (i : Int)) := by
  obtain ⟨n, hn⟩ := run_sx (sh_reset hT (i : Int)).1
  exact ctr_run hl (clo_S i hi) (by decide) hn (fun v hv => by rw [List.mem_singleton.mp hv]; exact Or.inl (List.mem_cons_self)) (okG_gz hg) rfl rfl
theorem cst_reset {g : GG} (hT : Lm g) (i : Int) : cst ((gz g) 48 0 0) (GSh g i) = 0 := by
  have h := (sh_reset hT i).2.2 48 0 0 (by unfold FSh; omega)
  unfold cst
  rw [h]
  omega
