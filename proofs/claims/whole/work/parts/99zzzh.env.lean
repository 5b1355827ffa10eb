/-! ===== the law's start: the environment ===== -/
theorem ev_inst : ∀ c : Nat, c < 10 → ∃ t, t ∈ objs ∧ cix t = c ∧ ∃ n, Jvm.Cond.instantiable (Rt t) n ∈ gw := by
  intro c hc
  match c, hc with
  | 0, _ => exact ⟨0, by decide, rfl, Nf 0, isKMap⟩
  | 1, _ => exact ⟨1, by decide, rfl, Nf 1, isKShe⟩
  | 2, _ => exact ⟨2, by decide, rfl, Nf 2, isKLin⟩
  | 3, _ => exact ⟨5, by decide, rfl, Nf 5, isKPoi⟩
  | 4, _ => exact ⟨7, by decide, rfl, Nf 7, isKPar⟩
  | 5, _ => exact ⟨13, by decide, rfl, Nf 13, isKHis⟩
  | 6, _ => exact ⟨15, by decide, rfl, Nf 15, isKLev⟩
  | 7, _ => exact ⟨19, by decide, rfl, Nf 19, isKLab⟩
  | 8, _ => exact ⟨21, by decide, rfl, Nf 21, isKScr⟩
  | 9, _ => exact ⟨25, by decide, rfl, Nf 25, isKMod⟩
theorem ev_cls {args : Array Value} {s : State} (hts : ∀ w ∈ gw, w.before args s = true) : ∃ D : va_G, ∀ (c : Nat) (q : vw_C), cls_[c]? = some q → u_Kn s q.1 q.2.1 q.2.2 (D.1 c) (D.2 c) := by
  have h : ∀ c : Nat, ∃ z : ClassId × (Nat → Nat), ∀ q, cls_[c]? = some q → u_Kn s q.1 q.2.1 q.2.2 z.1 z.2 := by
    intro c
    by_cases hc : c < 10
    · obtain ⟨t, ht, he, n, hn⟩ := ev_inst c hc
      obtain ⟨cC, iS, hK⟩ := u_known (C := Rt t) (T := Tt t) (N := Nf t) hts (inT t ht) (hts _ hn)
      refine ⟨(cC, iS), fun q hq => ?_⟩
      rw [← he, cls_at t ht] at hq
      cases hq
      exact hK
    · refine ⟨(0, fun _ => 0), fun q hq => ?_⟩
      have h1 : c < 10 := (List.getElem?_eq_some_iff.mp hq).1
      exact absurd h1 hc
  exact ⟨(fun c => (Classical.choose (h c)).1, fun c => (Classical.choose (h c)).2), fun c q hq => Classical.choose_spec (h c) q hq⟩
theorem ev_prim {args : Array Value} {s : State} {ty : FieldType} (hp : ∀ (U : State) (z : ClassId), va_RA U z ty = (U.vm.findClass ("[" ++ ty.toString) = some z)) (h : (Jvm.Cond.arrayClass ty).before args s = true) : ∃ z : ClassId, ArrOfT s z ty ∧ va_RA s z ty := by
  obtain ⟨c, k, comp, h1, h2, h3⟩ := Cond.arrayClass_spec h
  exact ⟨c, fun n z => ⟨fun k h => (by cases h), k, h2, comp, h3⟩, by rw [hp]; exact h1⟩
theorem ev_obj {args : Array Value} {s : State} {C : String} (h : (Jvm.Cond.arrayOver (.object C)).before args s = true) : ∃ z : ClassId, ArrOfT s z (.object C) ∧ va_RA s z (.object C) := by
  obtain ⟨comp, c, k, h1, h2, h3, h4, h5⟩ := Cond.arrayOver_spec h
  exact ⟨c, fun n z => ⟨fun k h => (by cases h), k, h3, comp, h4⟩, k, comp, h3, h4, h1, h5⟩
theorem ev_tys {args : Array Value} {s : State} (hts : ∀ w ∈ lw_tbl, w.before args s = true) : ∃ cA : Nat → ClassId, ∀ (k : Nat) (q : ClassId × FieldType), (tys_ cA)[k]? = some q → ArrOfT s q.1 q.2 ∧ va_RA s q.1 q.2 := by
  obtain ⟨z0, h0⟩ := ev_prim (ty := .int) (fun _ _ => rfl) (hts _ (tch_in (k := 1) (List.mem_of_getElem? (i := 62) rfl)))
  obtain ⟨z1, h1⟩ := ev_prim (ty := .char) (fun _ _ => rfl) (hts _ (tch_in (k := 2) (List.mem_of_getElem? (i := 7) rfl)))
  obtain ⟨z2, h2⟩ := ev_prim (ty := .long) (fun _ _ => rfl) (hts _ (tch_in (k := 8) (List.mem_of_getElem? (i := 69) rfl)))
  obtain ⟨z3, h3⟩ := ev_prim (ty := .double) (fun _ _ => rfl) (hts _ (tch_in (k := 8) (List.mem_of_getElem? (i := 70) rfl)))
  obtain ⟨z4, h4⟩ := ev_obj (C := "MapGeneralizer$Sheet") (hts _ (tch_in (k := 1) (List.mem_of_getElem? (i := 144) rfl)))
  obtain ⟨z5, h5⟩ := ev_obj (C := "MapGeneralizer$Lines") (hts _ (tch_in (k := 1) (List.mem_of_getElem? (i := 164) rfl)))
  obtain ⟨z6, h6⟩ := ev_obj (C := "MapGeneralizer$Parcels") (hts _ (tch_in (k := 1) (List.mem_of_getElem? (i := 166) rfl)))
  obtain ⟨z7, h7⟩ := ev_obj (C := "MapGeneralizer$Labels") (hts _ (tch_in (k := 1) (List.mem_of_getElem? (i := 168) rfl)))
  refine ⟨fun k => match k with | 0 => z0 | 1 => z1 | 2 => z2 | 3 => z3 | 4 => z4 | 5 => z5 | 6 => z6 | _ => z7, fun k q hk => ?_⟩
  match k, hk with
  | 0, hk => cases hk; exact h0
  | 1, hk => cases hk; exact h1
  | 2, hk => cases hk; exact h2
  | 3, hk => cases hk; exact h3
  | 4, hk => cases hk; exact h4
  | 5, hk => cases hk; exact h5
  | 6, hk => cases hk; exact h6
  | 7, hk => cases hk; exact h7
  | (k + 8), hk => exact absurd hk (by intro h; cases h)
theorem ev_nws : ∀ w ∈ nws, w ∈ lw_tbl := by
  intro w hw
  simp only [nws, List.mem_cons, List.not_mem_nil, or_false] at hw
  rcases hw with rfl | rfl | rfl | rfl | rfl | rfl | rfl | rfl | rfl | rfl | rfl
  · exact tch_in (k := 2) (List.mem_of_getElem? (i := 106) rfl)
  · exact tch_in (k := 2) (List.mem_of_getElem? (i := 216) rfl)
  · exact tch_in (k := 3) (List.mem_of_getElem? (i := 31) rfl)
  · exact tch_in (k := 5) (List.mem_of_getElem? (i := 59) rfl)
  · exact tch_in (k := 2) (List.mem_of_getElem? (i := 200) rfl)
  · exact tch_in (k := 4) (List.mem_of_getElem? (i := 51) rfl)
  · exact tch_in (k := 5) (List.mem_of_getElem? (i := 130) rfl)
  · exact tch_in (k := 1) (List.mem_of_getElem? (i := 105) rfl)
  · exact tch_in (k := 2) (List.mem_of_getElem? (i := 108) rfl)
  · exact tch_in (k := 2) (List.mem_of_getElem? (i := 110) rfl)
  · exact tch_in (k := 2) (List.mem_of_getElem? (i := 112) rfl)
theorem ev_nwK : ∀ w ∈ nwK, w ∈ lw_tbl := by
  intro w hw
  simp only [nwK, List.mem_cons, List.not_mem_nil, or_false] at hw
  rcases hw with rfl | rfl | rfl | rfl | rfl | rfl
  · exact tch_in (k := 1) (List.mem_of_getElem? (i := 43) rfl)
  · exact tch_in (k := 1) (List.mem_of_getElem? (i := 65) rfl)
  · exact tch_in (k := 1) (List.mem_of_getElem? (i := 81) rfl)
  · exact tch_in (k := 1) (List.mem_of_getElem? (i := 169) rfl)
  · exact tch_in (k := 1) (List.mem_of_getElem? (i := 170) rfl)
  · exact tch_in (k := 1) (List.mem_of_getElem? (i := 218) rfl)
theorem ev_ao : ∀ C ∈ aoK, Jvm.Cond.arrayOver (.object C) ∈ lw_tbl := by
  intro C hC
  simp only [aoK, List.mem_cons, List.not_mem_nil, or_false] at hC
  rcases hC with rfl | rfl | rfl | rfl
  · exact tch_in (k := 1) (List.mem_of_getElem? (i := 144) rfl)
  · exact tch_in (k := 1) (List.mem_of_getElem? (i := 164) rfl)
  · exact tch_in (k := 1) (List.mem_of_getElem? (i := 166) rfl)
  · exact tch_in (k := 1) (List.mem_of_getElem? (i := 168) rfl)
theorem ev_strs : ∀ q ∈ strs, Jvm.Cond.stringRef q.1 q.2.1 q.2.2 ∈ lw_tbl ∧ Jvm.Cond.initialized q.1 ∈ lw_tbl := by
  intro q hq
  simp only [strs, List.mem_cons, List.not_mem_nil, or_false] at hq
  rcases hq with rfl | rfl | rfl | rfl | rfl | rfl | rfl | rfl | rfl | rfl | rfl | rfl | rfl | rfl | rfl | rfl | rfl | rfl | rfl | rfl | rfl | rfl | rfl | rfl | rfl | rfl | rfl | rfl | rfl | rfl | rfl | rfl
  · exact ⟨tch_in (k := 2) (List.mem_of_getElem? (i := 149) rfl), tch_in (k := 1) (List.mem_of_getElem? (i := 1) rfl)⟩
  · exact ⟨tch_in (k := 2) (List.mem_of_getElem? (i := 207) rfl), tch_in (k := 1) (List.mem_of_getElem? (i := 1) rfl)⟩
  · exact ⟨tch_in (k := 2) (List.mem_of_getElem? (i := 223) rfl), tch_in (k := 1) (List.mem_of_getElem? (i := 1) rfl)⟩
  · exact ⟨tch_in (k := 3) (List.mem_of_getElem? (i := 69) rfl), tch_in (k := 1) (List.mem_of_getElem? (i := 1) rfl)⟩
  · exact ⟨tch_in (k := 3) (List.mem_of_getElem? (i := 88) rfl), tch_in (k := 1) (List.mem_of_getElem? (i := 1) rfl)⟩
  · exact ⟨tch_in (k := 3) (List.mem_of_getElem? (i := 108) rfl), tch_in (k := 1) (List.mem_of_getElem? (i := 1) rfl)⟩
  · exact ⟨tch_in (k := 3) (List.mem_of_getElem? (i := 118) rfl), tch_in (k := 1) (List.mem_of_getElem? (i := 1) rfl)⟩
  · exact ⟨tch_in (k := 3) (List.mem_of_getElem? (i := 123) rfl), tch_in (k := 1) (List.mem_of_getElem? (i := 1) rfl)⟩
  · exact ⟨tch_in (k := 3) (List.mem_of_getElem? (i := 135) rfl), tch_in (k := 1) (List.mem_of_getElem? (i := 1) rfl)⟩
  · exact ⟨tch_in (k := 3) (List.mem_of_getElem? (i := 155) rfl), tch_in (k := 1) (List.mem_of_getElem? (i := 1) rfl)⟩
  · exact ⟨tch_in (k := 3) (List.mem_of_getElem? (i := 163) rfl), tch_in (k := 1) (List.mem_of_getElem? (i := 1) rfl)⟩
  · exact ⟨tch_in (k := 4) (List.mem_of_getElem? (i := 58) rfl), tch_in (k := 1) (List.mem_of_getElem? (i := 1) rfl)⟩
  · exact ⟨tch_in (k := 4) (List.mem_of_getElem? (i := 84) rfl), tch_in (k := 1) (List.mem_of_getElem? (i := 1) rfl)⟩
  · exact ⟨tch_in (k := 4) (List.mem_of_getElem? (i := 145) rfl), tch_in (k := 1) (List.mem_of_getElem? (i := 1) rfl)⟩
  · exact ⟨tch_in (k := 5) (List.mem_of_getElem? (i := 8) rfl), tch_in (k := 1) (List.mem_of_getElem? (i := 1) rfl)⟩
  · exact ⟨tch_in (k := 5) (List.mem_of_getElem? (i := 9) rfl), tch_in (k := 1) (List.mem_of_getElem? (i := 1) rfl)⟩
  · exact ⟨tch_in (k := 5) (List.mem_of_getElem? (i := 73) rfl), tch_in (k := 1) (List.mem_of_getElem? (i := 1) rfl)⟩
  · exact ⟨tch_in (k := 5) (List.mem_of_getElem? (i := 89) rfl), tch_in (k := 1) (List.mem_of_getElem? (i := 1) rfl)⟩
  · exact ⟨tch_in (k := 5) (List.mem_of_getElem? (i := 90) rfl), tch_in (k := 1) (List.mem_of_getElem? (i := 1) rfl)⟩
  · exact ⟨tch_in (k := 5) (List.mem_of_getElem? (i := 135) rfl), tch_in (k := 1) (List.mem_of_getElem? (i := 1) rfl)⟩
  · exact ⟨tch_in (k := 5) (List.mem_of_getElem? (i := 168) rfl), tch_in (k := 1) (List.mem_of_getElem? (i := 1) rfl)⟩
  · exact ⟨tch_in (k := 5) (List.mem_of_getElem? (i := 169) rfl), tch_in (k := 1) (List.mem_of_getElem? (i := 1) rfl)⟩
  · exact ⟨tch_in (k := 5) (List.mem_of_getElem? (i := 177) rfl), tch_in (k := 1) (List.mem_of_getElem? (i := 1) rfl)⟩
  · exact ⟨tch_in (k := 5) (List.mem_of_getElem? (i := 193) rfl), tch_in (k := 1) (List.mem_of_getElem? (i := 1) rfl)⟩
  · exact ⟨tch_in (k := 5) (List.mem_of_getElem? (i := 201) rfl), tch_in (k := 1) (List.mem_of_getElem? (i := 1) rfl)⟩
  · exact ⟨tch_in (k := 5) (List.mem_of_getElem? (i := 213) rfl), tch_in (k := 1) (List.mem_of_getElem? (i := 1) rfl)⟩
  · exact ⟨tch_in (k := 3) (List.mem_of_getElem? (i := 134) rfl), tch_in (k := 1) (List.mem_of_getElem? (i := 1) rfl)⟩
  · exact ⟨tch_in (k := 4) (List.mem_of_getElem? (i := 75) rfl), tch_in (k := 1) (List.mem_of_getElem? (i := 1) rfl)⟩
  · exact ⟨tch_in (k := 3) (List.mem_of_getElem? (i := 107) rfl), tch_in (k := 1) (List.mem_of_getElem? (i := 1) rfl)⟩
  · exact ⟨tch_in (k := 3) (List.mem_of_getElem? (i := 227) rfl), tch_in (k := 1) (List.mem_of_getElem? (i := 1) rfl)⟩
  · exact ⟨tch_in (k := 3) (List.mem_of_getElem? (i := 38) rfl), tch_in (k := 1) (List.mem_of_getElem? (i := 1) rfl)⟩
  · exact ⟨tch_in (k := 3) (List.mem_of_getElem? (i := 57) rfl), tch_in (k := 1) (List.mem_of_getElem? (i := 1) rfl)⟩
theorem ev_str {args : Array Value} {s : State} (hts : ∀ w ∈ lw_tbl, w.before args s = true) : ∀ q ∈ strs, ∃ sa, vk_R q.1 q.2.1 q.2.2 sa s := by
  intro q hq
  obtain ⟨h1, h2⟩ := ev_strs q hq
  have w1 := hts _ h1
  have w2 := hts _ h2
  cases hc : s.vm.findClass q.1 with
  | none => simp [Cond.before, Cond.holds, Cond.value, hc] at w2
  | some cur =>
    obtain ⟨k, cf, i, a, -, -, -, -, -, hev⟩ := Cond.stringRef_spec hc w1
    exact ⟨a, vk_R.of w1 hev⟩
abbrev ev_f : Array Value → State → Prop := fun args s => (Jvm.Cond.and given_1 narrow_1).before args s = true
theorem ev_nc {args : Array Value} {s : State} (h : ev_f args s) : ∀ a b : Nat, a < 6 → b < 6 → a ≠ b → va_Nc (exN a) (exN b) s := by
  have hs := flat_of_before _ h
  intro a b ha hb hab
  match a, ha, b, hb, hab with
  | 0, _, 0, _, hab => exact absurd rfl hab
  | 0, _, 1, _, _ => exact va_Nc.of (C := "java/lang/IllegalArgumentException") (T := "java/lang/IllegalStateException") (hs _ (by decide +kernel))
  | 0, _, 2, _, _ => exact va_Nc.of (C := "java/lang/IllegalArgumentException") (T := "java/lang/IndexOutOfBoundsException") (hs _ (by decide +kernel))
  | 0, _, 3, _, _ => exact va_Nc.of (C := "java/lang/IllegalArgumentException") (T := "java/lang/ArithmeticException") (hs _ (by decide +kernel))
  | 0, _, 4, _, _ => exact va_Nc.of (C := "java/lang/IllegalArgumentException") (T := "java/lang/UnsupportedOperationException") (hs _ (by decide +kernel))
  | 0, _, 5, _, _ => exact va_Nc.of (C := "java/lang/IllegalArgumentException") (T := "java/util/NoSuchElementException") (hs _ (by decide +kernel))
  | 1, _, 0, _, _ => exact va_Nc.of (C := "java/lang/IllegalStateException") (T := "java/lang/IllegalArgumentException") (hs _ (by decide +kernel))
  | 1, _, 1, _, hab => exact absurd rfl hab
  | 1, _, 2, _, _ => exact va_Nc.of (C := "java/lang/IllegalStateException") (T := "java/lang/IndexOutOfBoundsException") (hs _ (by decide +kernel))
  | 1, _, 3, _, _ => exact va_Nc.of (C := "java/lang/IllegalStateException") (T := "java/lang/ArithmeticException") (hs _ (by decide +kernel))
  | 1, _, 4, _, _ => exact va_Nc.of (C := "java/lang/IllegalStateException") (T := "java/lang/UnsupportedOperationException") (hs _ (by decide +kernel))
  | 1, _, 5, _, _ => exact va_Nc.of (C := "java/lang/IllegalStateException") (T := "java/util/NoSuchElementException") (hs _ (by decide +kernel))
  | 2, _, 0, _, _ => exact va_Nc.of (C := "java/lang/IndexOutOfBoundsException") (T := "java/lang/IllegalArgumentException") (hs _ (by decide +kernel))
  | 2, _, 1, _, _ => exact va_Nc.of (C := "java/lang/IndexOutOfBoundsException") (T := "java/lang/IllegalStateException") (hs _ (by decide +kernel))
  | 2, _, 2, _, hab => exact absurd rfl hab
  | 2, _, 3, _, _ => exact va_Nc.of (C := "java/lang/IndexOutOfBoundsException") (T := "java/lang/ArithmeticException") (hs _ (by decide +kernel))
  | 2, _, 4, _, _ => exact va_Nc.of (C := "java/lang/IndexOutOfBoundsException") (T := "java/lang/UnsupportedOperationException") (hs _ (by decide +kernel))
  | 2, _, 5, _, _ => exact va_Nc.of (C := "java/lang/IndexOutOfBoundsException") (T := "java/util/NoSuchElementException") (hs _ (by decide +kernel))
  | 3, _, 0, _, _ => exact va_Nc.of (C := "java/lang/ArithmeticException") (T := "java/lang/IllegalArgumentException") (hs _ (by decide +kernel))
  | 3, _, 1, _, _ => exact va_Nc.of (C := "java/lang/ArithmeticException") (T := "java/lang/IllegalStateException") (hs _ (by decide +kernel))
  | 3, _, 2, _, _ => exact va_Nc.of (C := "java/lang/ArithmeticException") (T := "java/lang/IndexOutOfBoundsException") (hs _ (by decide +kernel))
  | 3, _, 3, _, hab => exact absurd rfl hab
  | 3, _, 4, _, _ => exact va_Nc.of (C := "java/lang/ArithmeticException") (T := "java/lang/UnsupportedOperationException") (hs _ (by decide +kernel))
  | 3, _, 5, _, _ => exact va_Nc.of (C := "java/lang/ArithmeticException") (T := "java/util/NoSuchElementException") (hs _ (by decide +kernel))
  | 4, _, 0, _, _ => exact va_Nc.of (C := "java/lang/UnsupportedOperationException") (T := "java/lang/IllegalArgumentException") (hs _ (by decide +kernel))
  | 4, _, 1, _, _ => exact va_Nc.of (C := "java/lang/UnsupportedOperationException") (T := "java/lang/IllegalStateException") (hs _ (by decide +kernel))
  | 4, _, 2, _, _ => exact va_Nc.of (C := "java/lang/UnsupportedOperationException") (T := "java/lang/IndexOutOfBoundsException") (hs _ (by decide +kernel))
  | 4, _, 3, _, _ => exact va_Nc.of (C := "java/lang/UnsupportedOperationException") (T := "java/lang/ArithmeticException") (hs _ (by decide +kernel))
  | 4, _, 4, _, hab => exact absurd rfl hab
  | 4, _, 5, _, _ => exact va_Nc.of (C := "java/lang/UnsupportedOperationException") (T := "java/util/NoSuchElementException") (hs _ (by decide +kernel))
  | 5, _, 0, _, _ => exact va_Nc.of (C := "java/util/NoSuchElementException") (T := "java/lang/IllegalArgumentException") (hs _ (by decide +kernel))
  | 5, _, 1, _, _ => exact va_Nc.of (C := "java/util/NoSuchElementException") (T := "java/lang/IllegalStateException") (hs _ (by decide +kernel))
  | 5, _, 2, _, _ => exact va_Nc.of (C := "java/util/NoSuchElementException") (T := "java/lang/IndexOutOfBoundsException") (hs _ (by decide +kernel))
  | 5, _, 3, _, _ => exact va_Nc.of (C := "java/util/NoSuchElementException") (T := "java/lang/ArithmeticException") (hs _ (by decide +kernel))
  | 5, _, 4, _, _ => exact va_Nc.of (C := "java/util/NoSuchElementException") (T := "java/lang/UnsupportedOperationException") (hs _ (by decide +kernel))
  | 5, _, 5, _, hab => exact absurd rfl hab
def sv45 (j : Int) : Int := if j = 0 then 500 else if j = 1 then 20 else if j = 2 then 9 else 0
def sv46 (j : Int) : Int := if j = 0 then 8 else if j = 1 then 1 else if j = 2 then 1 else 0
theorem ev_45 {args : Array Value} {s : State} (hts : ∀ w ∈ lw_tbl, w.before args s = true) (h : ev_f args s) : ∃ t : Nat, va_Z "MapGeneralizer" "SETTING_LIMITS" "[I" (.ref t) (Ab s.heap.size) s s.heap ∧ va_T .int t 3 (fun j => .int (i32 (sv45 (j : Int)))) (Ab s.heap.size) s s.heap := by
  have hs := flat_of_before _ h
  have hA : ∀ a : Nat, a < s.heap.size → ¬ Ab s.heap.size a := fun a h1 h2 => absurd h1 (Nat.not_lt.mpr h2)
  obtain ⟨t, e1, h1⟩ := va_Tof (s := s) (args := args) (tm := (.static "MapGeneralizer" "SETTING_LIMITS" "[I")) (ty := .int) (N := 3) (f := fun j => .int (i32 (sv45 (j : Int)))) (A := Ab s.heap.size) (by decide) (hs _ (by decide +kernel)) (Cond.eq_int (hs (Jvm.Cond.eq (.length (.static "MapGeneralizer" "SETTING_LIMITS" "[I")) (.int 3)) (by decide +kernel)) rfl) (fun j hj => by
    match j, hj with
    | 0, _ => exact Cond.eq_int (hs (Jvm.Cond.eq (.elem (.static "MapGeneralizer" "SETTING_LIMITS" "[I") (.int 0)) (.int 500)) (by decide +kernel)) rfl
    | 1, _ => exact Cond.eq_int (hs (Jvm.Cond.eq (.elem (.static "MapGeneralizer" "SETTING_LIMITS" "[I") (.int 1)) (.int 20)) (by decide +kernel)) rfl
    | 2, _ => exact Cond.eq_int (hs (Jvm.Cond.eq (.elem (.static "MapGeneralizer" "SETTING_LIMITS" "[I") (.int 2)) (.int 9)) (by decide +kernel)) rfl) hA
  exact ⟨t, va_Zref (hts _ (tch_in (k := 3) (List.mem_of_getElem? (i := 117) rfl))) (hts _ (tch_in (k := 1) (List.mem_of_getElem? (i := 1) rfl))) e1 hA, h1⟩
theorem ev_46 {args : Array Value} {s : State} (hts : ∀ w ∈ lw_tbl, w.before args s = true) (h : ev_f args s) : ∃ t : Nat, va_Z "MapGeneralizer" "SETTING_STEPS" "[I" (.ref t) (Ab s.heap.size) s s.heap ∧ va_T .int t 3 (fun j => .int (i32 (sv46 (j : Int)))) (Ab s.heap.size) s s.heap := by
  have hs := flat_of_before _ h
  have hA : ∀ a : Nat, a < s.heap.size → ¬ Ab s.heap.size a := fun a h1 h2 => absurd h1 (Nat.not_lt.mpr h2)
  obtain ⟨t, e1, h1⟩ := va_Tof (s := s) (args := args) (tm := (.static "MapGeneralizer" "SETTING_STEPS" "[I")) (ty := .int) (N := 3) (f := fun j => .int (i32 (sv46 (j : Int)))) (A := Ab s.heap.size) (by decide) (hs _ (by decide +kernel)) (Cond.eq_int (hs (Jvm.Cond.eq (.length (.static "MapGeneralizer" "SETTING_STEPS" "[I")) (.int 3)) (by decide +kernel)) rfl) (fun j hj => by
    match j, hj with
    | 0, _ => exact Cond.eq_int (hs (Jvm.Cond.eq (.elem (.static "MapGeneralizer" "SETTING_STEPS" "[I") (.int 0)) (.int 8)) (by decide +kernel)) rfl
    | 1, _ => exact Cond.eq_int (hs (Jvm.Cond.eq (.elem (.static "MapGeneralizer" "SETTING_STEPS" "[I") (.int 1)) (.int 1)) (by decide +kernel)) rfl
    | 2, _ => exact Cond.eq_int (hs (Jvm.Cond.eq (.elem (.static "MapGeneralizer" "SETTING_STEPS" "[I") (.int 2)) (.int 1)) (by decide +kernel)) rfl) hA
  exact ⟨t, va_Zref (hts _ (tch_in (k := 1) (List.mem_of_getElem? (i := 106) rfl))) (hts _ (tch_in (k := 1) (List.mem_of_getElem? (i := 1) rfl))) e1 hA, h1⟩
theorem ev_zq {args : Array Value} {s : State} (hts : ∀ w ∈ lw_tbl, w.before args s = true) (h : ev_f args s) : vx_Zq Bundle.tN "UNASSIGNED_STACK" Bundle.steD (Ab s.heap.size) s s.heap ∧ vx_Zq Bundle.tN "SUPPRESSED_SENTINEL" Bundle.listD (Ab s.heap.size) s s.heap := by
  have hs := flat_of_before _ h
  have hA : ∀ a : Nat, a < s.heap.size → ¬ Ab s.heap.size a := fun a h1 h2 => absurd h1 (Nat.not_lt.mpr h2)
  exact ⟨vx_Zqof (hts (Jvm.Cond.laysStatic Bundle.tN "UNASSIGNED_STACK" Bundle.steD) (tch_in (k := 2) (List.mem_of_getElem? (i := 131) rfl))) (hts (Jvm.Cond.initialized Bundle.tN) (tch_in (k := 1) (List.mem_of_getElem? (i := 12) rfl))) (hs (Jvm.Cond.isRef (.static Bundle.tN "UNASSIGNED_STACK" Bundle.steD)) (by decide +kernel)) hA, vx_Zqof (hts (Jvm.Cond.laysStatic Bundle.tN "SUPPRESSED_SENTINEL" Bundle.listD) (tch_in (k := 2) (List.mem_of_getElem? (i := 133) rfl))) (hts (Jvm.Cond.initialized Bundle.tN) (tch_in (k := 1) (List.mem_of_getElem? (i := 12) rfl))) (hs (Jvm.Cond.isRef (.static Bundle.tN "SUPPRESSED_SENTINEL" Bundle.listD)) (by decide +kernel)) hA⟩
/-- the store at the law's start -/
def g0 (L : Nat) (xs : Nat → Int32) : GG := fun t i k => if t = 44 then (if i = 0 ∧ 0 ≤ k ∧ k < L then (xs k.toNat).toInt else 0) else if t = 45 then (if i = 0 then sv45 k else 0) else if t = 46 then (if i = 0 then sv46 k else 0) else if t = 47 then (if i = 0 ∧ k = 0 then (L : Int) else 0) else 0
theorem ev_start {p : Program} {s : State} {m : MethodId} {meth : Method} {c : Code} {b L : Nat} {xs : Nat → Int32} (hL : L ≤ 3584) (C0 : lw_At p s m meth c b L xs) : ∃ (D : va_G) (cA : Nat → ClassId) (ad0 : Nat → Int → Nat), (∀ i, ad0 44 i = b) ∧ (∀ w ∈ gw, w.before #[Value.ref b] s = true) ∧ Ek D cA ad0 s.heap.size (g0 L xs) s ∧ b < s.heap.size := by
  obtain ⟨hx, hb, hr, hml, hown, hts, hX, hbl, hlk, hgv, hex⟩ := C0
  have hgw : ∀ w ∈ gw, w.before #[Value.ref b] s = true := fun w hw => hts w (List.mem_filter.mp hw).1
  have hA : ∀ a : Nat, a < s.heap.size → ¬ Ab s.heap.size a := fun a h1 h2 => absurd h1 (Nat.not_lt.mpr h2)
  obtain ⟨D, hD⟩ := ev_cls hgw
  obtain ⟨cA, hcA⟩ := ev_tys hts
  obtain ⟨t5, z5, T5⟩ := ev_45 hts hgv
  obtain ⟨t6, z6, T6⟩ := ev_46 hts hgv
  obtain ⟨q1, q2⟩ := ev_zq hts hgv
  refine ⟨D, cA, fun t _ => if t = 44 then b else if t = 45 then t5 else t6, fun i => rfl, hgw, ⟨⟨⟨hD, hcA⟩, z5, z6, q1, q2, ev_str hts, fun w hw => va_Nw.of (nws_tab w hw) (hts w (ev_nws w hw)), ev_nc hgv, ⟨fun i j x y hx => (by cases hx), fun k q hk => (by cases hk)⟩⟩, ⟨?_, T5, T6, ?_⟩, fun w hw => va_Nw.of (nwK_tab w hw) (hts w (ev_nwK w hw)), fun C hC => va_AO.of (hts _ (ev_ao C hC))⟩, hbl⟩
  · obtain ⟨scr, hcb, hof, hkn, hsz, hval⟩ := hX
    refine ⟨scr, hcb, hof, hkn, ?_, ?_, fun j hj => ?_, hA b hbl⟩
    · rw [hsz]
      exact Nat.le_of_eq rfl
    · rw [hsz]
      rfl
    · have hj : j < L := hj
      rw [hval j hj]
      show some (Value.int (xs j)) = some (Value.int (i32 (if (0 : Int) = 0 ∧ 0 ≤ (j : Int) ∧ (j : Int) < L then (xs (j : Int).toNat).toInt else 0)))
      rw [if_pos ⟨rfl, by omega, by omega⟩, i32_of]
      rfl
  · show (0 : Int) ≤ (L : Int)
    omega
