/-! ===== switches, copies, Math ===== -/
theorem tsel_c : ∀ (l : List Int) (c x : Int), (∃ o, l[(x - c).toNat]? = some o ∧ c ≤ x ∧ x < c + l.length ∧ ∀ k d, tsel l c x k d = k o) ∨ ((x < c ∨ c + l.length ≤ x) ∧ ∀ k d, tsel l c x k d = d)
  | [], c, x => Or.inr ⟨by simp only [List.length_nil]; omega, fun _ _ => rfl⟩
  | o :: l, c, x => by
    by_cases h : x = c
    · subst h
      exact Or.inl ⟨o, by rw [show (x - x).toNat = 0 by omega]; rfl, Int.le_refl _, by simp only [List.length_cons]; omega, fun k d => by unfold tsel; rw [if_pos rfl]⟩
    · have e : ∀ k d, tsel (o :: l) c x k d = tsel l (c + 1) x k d := fun k d => by
        conv => lhs; unfold tsel
        rw [if_neg h]
      rcases tsel_c l (c + 1) x with ⟨o', h1, h2, h3, h4⟩ | ⟨h1, h2⟩
      · refine Or.inl ⟨o', ?_, by omega, by simp only [List.length_cons]; omega, fun k d => (e k d).trans (h4 k d)⟩
        rw [show (x - c).toNat = (x - (c + 1)).toNat + 1 by omega]
        exact h1
      · exact Or.inr ⟨by simp only [List.length_cons]; omega, fun k d => (e k d).trans (h2 k d)⟩
theorem mMin_i {a b : Int} (ha : inR a) (hb : inR b) : (if i32 b < i32 a then i32 b else i32 a) = i32 (mMin a b) := by
  unfold mMin
  exact if_i32 _ _ (i32_lt hb ha)
theorem mMax_i {a b : Int} (ha : inR a) (hb : inR b) : (if i32 a < i32 b then i32 b else i32 a) = i32 (mMax a b) := by
  unfold mMax
  exact if_i32 _ _ (i32_lt ha hb)
theorem mAbs_i {a : Int} (ha : inR a) : (if 0 ≤ i32 a then i32 a else 0 - i32 a) = i32 (mAbs a) := by
  have e : (0 : Int32) ≤ i32 a ↔ 0 ≤ a := by
    have h0 := i32_le (x := 0) (y := a) ⟨by decide, by decide⟩ ha
    rw [i32_0] at h0
    exact h0
  unfold mAbs
  by_cases h : 0 ≤ a
  · rw [if_pos (e.mpr h), if_pos h]
  · rw [if_neg (fun z => h (e.mp z)), if_neg h, i32_wr]
    exact (Int32.ofInt_sub 0 a).symm
theorem Rl.size {ad : Nat → Int → Nat} {y : Nat} {ls : Lcs} {lsC : Array Slot} (h : Rl ad y ls lsC) : lsC.size = mlc y := h.1.1
theorem msk_len : ∀ (m : List Bool) (ls : Lcs), (msk m ls).length ≤ ls.length
  | [], ls => Nat.zero_le _
  | b :: m, [] => Nat.zero_le _
  | b :: m, a :: l => Nat.succ_le_succ (msk_len m l)
theorem Rl.msk {ad : Nat → Int → Nat} {y : Nat} {ls : Lcs} {lsC : Array Slot} {m : List Bool} (h : Rl ad y ls lsC) : Rl ad y (msk m ls) lsC := ⟨h.1, Nat.le_trans (msk_len m ls) h.2.1, fun j v hv => h.2.2 j v (msk_lget m ls j v hv)⟩
theorem cat_sum (ad : Nat → Int → Nat) (st : List AV) : ((st.map (cv ad)).map fun v => v.category).sum = wsum st := cv_wsum ad st
section SN4
variable {cs : CS} {p : Program} {l : Launch} {e : Env} {R : Room} {s : State} {m : MethodId} {args : Array Value} {below : List Frame} {meth : Method} {c : Code} {D : va_G} {ad : Nat → Int → Nat} {cA : Nat → ClassId} {base y : Nat} {c0 : Int} {Q : State → Prop} {pc : Nat} {ls : Lcs} {st : List AV} {G : GG}
theorem sn_tableIn (X : Cx cs p R s m args meth c D ad cA base y) {d lo hi o x : Int} {offs : Array Int} {len t : Nat} (hd : decode (byt y) pc = .ok (.tableswitch d lo hi offs, len)) (hhi : hi = lo + offs.size - 1) (ho : offs.toList[(x - lo).toNat]? = some o) (h1 : lo ≤ x) (h2 : x < lo + offs.toList.length) (ht : (pc : Int) + o = (t : Int)) (k : WJ cs p l e R s m args below meth c D ad cA base y c0 Q t ls st G) : WJ cs p l e R s m args below meth c D ad cA base y c0 Q pc ls (.inl x :: st) G := by
  intro H locs lsC hS hL hst hr
  obtain ⟨hx, hb, hml, hown, hts, hE, htab, hlk, hRf, hRl, hCl⟩ := X
  have e1 : (i32 x).toInt = x := i32_toInt hst.head
  rw [Array.length_toList] at h2
  refine lv_tableIn (x := i32 x) (off := o) (tgt := t) hx hb hd (by rw [e1]; omega) (by rw [e1]; omega) (by rw [e1, ← Array.getElem?_toList]; exact ho) ht (k H locs lsC hS hL hst.tail hr)
theorem sn_tableOut (X : Cx cs p R s m args meth c D ad cA base y) {d lo hi x : Int} {offs : Array Int} {len t : Nat} (hd : decode (byt y) pc = .ok (.tableswitch d lo hi offs, len)) (hhi : hi = lo + offs.size - 1) (h2 : x < lo ∨ lo + offs.toList.length ≤ x) (ht : (pc : Int) + d = (t : Int)) (k : WJ cs p l e R s m args below meth c D ad cA base y c0 Q t ls st G) : WJ cs p l e R s m args below meth c D ad cA base y c0 Q pc ls (.inl x :: st) G := by
  intro H locs lsC hS hL hst hr
  obtain ⟨hx, hb, hml, hown, hts, hE, htab, hlk, hRf, hRl, hCl⟩ := X
  have e1 : (i32 x).toInt = x := i32_toInt hst.head
  rw [Array.length_toList] at h2
  exact lv_tableOut (x := i32 x) (tgt := t) hx hb hd (by rw [e1]; omega) ht (k H locs lsC hS hL hst.tail hr)
theorem sn_min (X : Cx cs p R s m args meth c D ad cA base y) {a b : Int} {k : Nat} (hM : Jvm.Cond.methodLink (ownN (own y)) k Lib.Math.min.name ∈ gw) (hw : wsum st ≤ 8) (hd : decode (byt y) pc = .ok (.invokestatic k, 3)) (kk : WJ cs p l e R s m args below meth c D ad cA base y c0 Q (pc + 3) ls (.inl (mMin a b) :: st) G) : WJ cs p l e R s m args below meth c D ad cA base y c0 Q pc ls (.inl b :: .inl a :: st) G := by
  intro H locs lsC hS hL hst hr
  obtain ⟨hx, hb, hml, hown, hts, hE, htab, hlk, hRf, hRl, hCl⟩ := X
  refine va_mmin (x := i32 a) (y := i32 b) hx hb (hml.trans hr.size.symm) hown (hts _ hM) (hts _ ma_min_st) (hts _ ma_in) (hts _ ma_min_cd) (by omega) (by rw [cat_sum]; omega) hS.2.2.2.2.2.1 hS.2.2.2.2.2.2 hd ?_
  rw [mMin_i hst.tail.head hst.head]
  exact kk H locs lsC hS hL (okS.cons (mMin_R hst.tail.head hst.head) hst.tail.tail) hr
theorem sn_max (X : Cx cs p R s m args meth c D ad cA base y) {a b : Int} {k : Nat} (hM : Jvm.Cond.methodLink (ownN (own y)) k Lib.Math.max.name ∈ gw) (hw : wsum st ≤ 8) (hd : decode (byt y) pc = .ok (.invokestatic k, 3)) (kk : WJ cs p l e R s m args below meth c D ad cA base y c0 Q (pc + 3) ls (.inl (mMax a b) :: st) G) : WJ cs p l e R s m args below meth c D ad cA base y c0 Q pc ls (.inl b :: .inl a :: st) G := by
  intro H locs lsC hS hL hst hr
  obtain ⟨hx, hb, hml, hown, hts, hE, htab, hlk, hRf, hRl, hCl⟩ := X
  refine va_mmax (x := i32 a) (y := i32 b) hx hb (hml.trans hr.size.symm) hown (hts _ hM) (hts _ ma_max_st) (hts _ ma_in) (hts _ ma_max_cd) (by omega) (by rw [cat_sum]; omega) hS.2.2.2.2.2.1 hS.2.2.2.2.2.2 hd ?_
  rw [mMax_i hst.tail.head hst.head]
  exact kk H locs lsC hS hL (okS.cons (mMax_R hst.tail.head hst.head) hst.tail.tail) hr
theorem sn_abs (X : Cx cs p R s m args meth c D ad cA base y) {a : Int} {k : Nat} (hM : Jvm.Cond.methodLink (ownN (own y)) k Lib.Math.abs.name ∈ gw) (hw : wsum st ≤ 8) (hd : decode (byt y) pc = .ok (.invokestatic k, 3)) (kk : WJ cs p l e R s m args below meth c D ad cA base y c0 Q (pc + 3) ls (.inl (mAbs a) :: st) G) : WJ cs p l e R s m args below meth c D ad cA base y c0 Q pc ls (.inl a :: st) G := by
  intro H locs lsC hS hL hst hr
  obtain ⟨hx, hb, hml, hown, hts, hE, htab, hlk, hRf, hRl, hCl⟩ := X
  refine va_mabs (x := i32 a) hx hb (hml.trans hr.size.symm) hown (hts _ hM) (hts _ ma_abs_st) (hts _ ma_in) (hts _ ma_abs_cd) (by omega) (by rw [cat_sum]; omega) hS.2.2.2.2.2.1 hS.2.2.2.2.2.2 hd ?_
  rw [mAbs_i hst.head]
  exact kk H locs lsC hS hL (okS.cons (mAbs_R hst.head) hst.tail) hr
theorem St_cpy {s : State} {R : Room} {H H1 : Heap} {locs locs1 : List Loc} {ts : Nat} {is sp : Int} {td : Nat} {id dp n : Int} (h : St cs s D ad cA base c0 R G H locs) (hs : akd ts = 1) (hd : akd td = 1) (ht : td < 44)
    (hP : va_P D cls_ (Wl cs ad cA (cpy G ts is sp td id dp n)) H1) (hS : va_S (Ab base) s.heap H1 locs1) : St cs s D ad cA base c0 R (cpy G ts is sp td id dp n) H1 locs1 := by
  have e : cst c0 (cpy G ts is sp td id dp n) = cst c0 G := cst_cpy c0 G ts is sp id dp n ht
  exact ⟨hP, hS, okG_cpy h.2.2.1 hs hd, h.2.2.2.1.eq (RoE_cpy G ts is sp id dp n ht), by rw [cnt_cpy G ts is sp id dp n ht]; exact h.2.2.2.2.1, by rw [e]; exact h.2.2.2.2.2.1, by rw [e]; exact h.2.2.2.2.2.2⟩
theorem sn_copy (X : Cx cs p R s m args meth c D ad cA base y) {ts : Nat} {is sp : Int} {td : Nat} {id dp n : Int} {k : Nat} (hM : Jvm.Cond.methodLink (ownN (own y)) k arraycopyName ∈ gw) (hks : akd ts = 1) (hkd : akd td = 1) (hts4 : ts < 44) (htd4 : td < 44) (hw : wsum st ≤ 8) (hq : (0 ≤ sp ∧ 0 ≤ dp) ∧ (0 ≤ n ∧ (sp + n ≤ aln G ts ∧ dp + n ≤ aln G td))) (hd : decode (byt y) pc = .ok (.invokestatic k, 3)) (kk : WJ cs p l e R s m args below meth c D ad cA base y c0 Q (pc + 3) ls st (cpy G ts is sp td id dp n)) : WJ cs p l e R s m args below meth c D ad cA base y c0 Q pc ls (.inl n :: .inl dp :: .inr (.inl (td, id)) :: .inl sp :: .inr (.inl (ts, is)) :: st) G := by
  intro H locs lsC hS hL hst hr
  obtain ⟨hx, hb, hml, hown, hts, hE, htab, hlk, hRf, hRl, hCl⟩ := X
  obtain ⟨⟨hsp0, hdp0⟩, hn0, hsn, hdn⟩ := hq
  have hn : inR n := hst.head
  have hdp : inR dp := hst.tail.head
  have hsp : inR sp := hst.tail.tail.tail.head
  have hcd : (td, id) ∈ cs := Ref_.cell hst.tail.tail.head htd4
  have hcs : (ts, is) ∈ cs := Ref_.cell hst.tail.tail.tail.tail.head hts4
  obtain ⟨p0, hp0, hW0⟩ := Wl_at ad cA hcs
  obtain ⟨p1, hp1, hW1⟩ := Wl_at ad cA hcd
  have he0 := hW0 G
  have he1 := hW1 G
  rw [wE_int hks] at he0
  rw [wE_int hkd] at he1
  have hD : va_D (Ab base) (Wl cs ad cA G) := va_D_Wl G hE.2.2.2.2.2.2.2.2
  rw [aln_c G ts hts4] at hsn
  rw [aln_c G td htd4] at hdn
  have h0 : inR 0 := ⟨by decide, by decide⟩
  have neg : ∀ {z : Int}, inR z → 0 ≤ z → ¬ i32 z < 0 := fun hz h0z q => by
    have := (i32_lt hz h0).mp q
    omega
  have hlo : ∀ st : List AV, wsum st ≤ 8 → ((st.map (cv ad)).map fun v => v.category).sum + (nativeFrameWords "java/lang/System" "arraycopy" 5 + 11) ≤ R.locals := by
    intro st hw
    have e9 : nativeFrameWords "java/lang/System" "arraycopy" 5 + 11 ≤ 100 := by decide
    rw [cat_sum]
    omega
  refine va_copyi (D := D) (ty := .int) hx hb (hml.trans hr.size.symm) hown (hts _ hM) (hts _ ac_nat) (hts _ ac_st) (hts _ ac_in) hE.1 hS.1 hD hS.2.1 p0 p1 0 0 he0 he1 rfl rfl rfl (neg hsp hsp0) (neg hdp hdp0) (neg hn hn0)
    (by rw [i32_clamp hsp0 hsp, i32_clamp hn0 hn]; omega) (by rw [i32_clamp hdp0 hdp, i32_clamp hn0 hn]; omega) (fun _ _ => rfl) (by omega) (hlo st hw) hd (fun H1 locs1 hP1 hD1 hS1 => ?_)
  rw [i32_clamp hsp0 hsp, i32_clamp hdp0 hdp, i32_clamp hn0 hn, cpy_i32 G ts is sp td id dp n hsp0 hdp0 hn0] at hP1
  rw [← wE_int (ad := ad) (cA := cA) (g := cpy G ts is sp td id dp n td id) (i := id) hkd, Wl_set hCl.1 (G' := cpy G ts is sp td id dp n) hD hp1 (fun t' i' hne _ q => cpy_ne hne q)] at hP1
  have h := kk H1 locs1 lsC (St_cpy hS hks hkd htd4 hP1 hS1) hL hst.tail.tail.tail.tail.tail hr
  rw [cst_cpy c0 G ts is sp id dp n htd4] at h
  exact h
end SN4
