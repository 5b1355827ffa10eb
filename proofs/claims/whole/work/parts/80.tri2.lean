/-! ===== the reference: bends, points in a triangle ===== -/
section TRI2
variable {i j k : Int} {a b c : Int} {np : Nat} {pt : Nat → Nat → Int} {G : GG}
theorem r_fold (h1 : Vat G i a) (h2 : Vat G j b) (h3 : Vat G k c) : f_Mod_goBack i j k G = rI (b2i (fold a b c)) G := by
  obtain ⟨i0, i1, ia, ix, iy⟩ := h1
  obtain ⟨j0, j1, ja, jx, jy⟩ := h2
  obtain ⟨k0, k1, ka, kx, ky⟩ := h3
  have ci : 0 ≤ i ∧ i < 60 := ⟨i0, i1⟩
  have cj : 0 ≤ j ∧ j < 60 := ⟨j0, j1⟩
  have ck : 0 ≤ k ∧ k < 60 := ⟨k0, k1⟩
  rw [e_f_Mod_goBack]
  simp only [ci, cj, ck, and_self, if_true, ix, iy, jx, jy, kx, ky, r_turn G ia ja ka, bI_r]
  obtain ⟨a1, a2⟩ := ia
  obtain ⟨b1, b2⟩ := ja
  obtain ⟨c1, c2⟩ := ka
  have q3 := pr_bd (a := a / 64) (b := b / 64) (c := c / 64) (d := b / 64) (by omega) (by omega) (by omega) (by omega)
  have q4 := pr_bd (a := a % 64) (b := b % 64) (c := c % 64) (d := b % 64) (by omega) (by omega) (by omega) (by omega)
  simp (disch := omega) only [wr_id]
  unfold fold
  by_cases h5 : crs a b c = 0
  · rw [if_pos (sgn0.mpr h5), decide_eq_true h5, Bool.true_and]
    by_cases h6 : 0 < (a / 64 - b / 64) * (c / 64 - b / 64) + (a % 64 - b % 64) * (c % 64 - b % 64)
    · rw [if_pos h6, decide_eq_true h6]; rfl
    · rw [if_neg h6, decide_eq_false h6]; rfl
  · rw [if_neg (fun z => h5 (sgn0.mp z)), decide_eq_false h5, Bool.false_and]; rfl
theorem r_ofPoint (hP : PtR G np pt) (hn : np ≤ 12) {p q : Nat} (hp : p < np) (hq : q < 6) : f_Mod_ofPoint (p : Int) (q : Int) G = rI (pt p q) G := by
  have e := hP.2 p hp q hq
  rw [e_f_Mod_ofPoint]
  simp (disch := omega) only [wr_id]
  rw [if_pos (by omega), e]
theorem h280 (x1 x2 x3 : Int) (n : Nat) (hk : n < 100) : l_Mod_hasPoint_280 x1 x2 x3 n G = l_Mod_hasPoint_11 x1 x2 x3 ((n + 1 : Nat) : Int) G := by
  rw [e_l_Mod_hasPoint_280, wr_id (by omega) (by omega)]
  rfl
theorem h175 (h1 : Vat G i a) (h2 : Vat G j b) (h3 : Vat G k c) {p : Int} (hp : isC p) (hab : a ≠ b) (hbc : b ≠ c) (hac : a ≠ c) (n : Nat) (s : Int) :
    l_Mod_hasPoint_175 j i k n (p / 64) (p % 64) s G = if (if crs a b c = 0 then onS a b p = true ∨ onS b c p = true ∨ onS a c p = true else s ≠ 0) then rI 1 G else l_Mod_hasPoint_280 j i k n G := by
  have o1 := r_onSeg G h1 h2 hp hab
  have o2 := r_onSeg G h2 h3 hp hbc
  have o3 := r_onSeg G h1 h3 hp hac
  obtain ⟨i0, i1, ia, ix, iy⟩ := h1
  obtain ⟨j0, j1, ja, jx, jy⟩ := h2
  obtain ⟨k0, k1, ka, kx, ky⟩ := h3
  have ci : 0 ≤ i ∧ i < 60 := ⟨i0, i1⟩
  have cj : 0 ≤ j ∧ j < 60 := ⟨j0, j1⟩
  have ck : 0 ≤ k ∧ k < 60 := ⟨k0, k1⟩
  rw [e_l_Mod_hasPoint_175]
  simp only [ci, cj, ck, and_self, if_true, ix, iy, jx, jy, kx, ky, r_turn G ia ja ka, bI_r, sgn0, e_l_Mod_hasPoint_224, o1, o2, o3]
  by_cases h : crs a b c = 0
  · simp only [if_pos h]
    cases onS a b p <;> cases onS b c p <;> cases onS a c p <;> simp [b2i]
  · simp only [if_neg h]
    by_cases hs : s = 0 <;> simp [hs]
theorem sgn_neg {x : Int} : sgn x < 0 ↔ x < 0 := by unfold sgn; omega
theorem sgn_pos {x : Int} : 0 < sgn x ↔ 0 < x := by unfold sgn; omega
theorem r_tri (hP : PtR G np pt) (ho : okPt np pt) (h1 : Vat G i a) (h2 : Vat G j b) (h3 : Vat G k c) (hi : i = j - 1) (hk : k = j + 1) (hab : a ≠ b) (hbc : b ≠ c) (hac : a ≠ c) :
    f_Mod_hasPoint j G = rI (b2i (anyB 0 np fun p => decide (inTri a b c (pco pt p)))) G := by
  have h12 := ho.1
  have H1 := h1
  have H2 := h2
  have H3 := h3
  obtain ⟨i0, i1, ia, ix, iy⟩ := h1
  obtain ⟨j0, j1, ja, jx, jy⟩ := h2
  obtain ⟨k0, k1, ka, kx, ky⟩ := h3
  have ci : 0 ≤ i ∧ i < 60 := ⟨i0, i1⟩
  have cj : 0 ≤ j ∧ j < 60 := ⟨j0, j1⟩
  have ck : 0 ≤ k ∧ k < 60 := ⟨k0, k1⟩
  rw [e_f_Mod_hasPoint, ← bif_b2i, wr_id (z := j - 1) (by omega) (by omega), wr_id (z := j + 1) (by omega) (by omega), ← hi, ← hk]
  have step : ∀ n, n < np → l_Mod_hasPoint_11 j i k (n : Int) G = if inTri a b c (pco pt n) then rI 1 G else l_Mod_hasPoint_11 j i k ((n + 1 : Nat) : Int) G := by
    intro n hn
    have hp := pco_C ho hn
    have hx := pco_x ho hn
    have e0 := r_ofPoint hP h12 hn (q := 0) (by omega)
    have e1 := r_ofPoint hP h12 hn (q := 1) (by omega)
    rw [← hx.1] at e0
    rw [← hx.2] at e1
    have t1 := r_turn G ia ja hp
    have t2 := r_turn G ja ka hp
    have t3 := r_turn G ka ia hp
    have hs := h175 H1 H2 H3 hp hab hbc hac n
    rw [h280 j i k n (by omega)] at hs
    have e0' : f_Mod_ofPoint (n : Int) 0 G = rI (pco pt n / 64) G := e0
    have e1' : f_Mod_ofPoint (n : Int) 1 G = rI (pco pt n % 64) G := e1
    rw [e_l_Mod_hasPoint_11, if_pos (by rw [hP.1]; omega), e0']
    simp only [bI_r, e1', ci, cj, ck, and_self, if_true, ix, iy, jx, jy, kx, ky, t1, t2, t3, sgn_neg, sgn_pos, hs]
    have key := tri_eq (p := pco pt n) hab hbc hac
    by_cases hf : crs a b c = 0
    · simp only [if_pos hf] at key ⊢
      by_cases h : inTri a b c (pco pt n)
      · rw [if_pos h]
        simp only [if_pos (key.mp h), ite_self]
      · rw [if_neg h]
        simp only [if_neg (fun z => h (key.mpr z)), ite_self]
    · simp only [if_neg hf] at key ⊢
      simp only [ne_eq, not_true_eq_false, if_false, Int.reduceEq, not_false_eq_true, if_true]
      by_cases h : inTri a b c (pco pt n)
      · have h9 := key.mp h
        rw [if_pos h]
        repeat' split
        all_goals first | rfl | (exfalso; omega)
      · have h9 : ¬ _ := fun z => h (key.mpr z)
        rw [if_neg h]
        repeat' split
        all_goals first | rfl | (exfalso; omega)
  refine loop_any (l := fun n => l_Mod_hasPoint_11 j i k (n : Int) G) np 0 (fun n _ hn hf => ?_) (fun n _ hn hf => ?_) ?_
  · rw [step n (by omega), if_pos (of_decide_eq_true hf)]
  · rw [step n (by omega), if_neg (of_decide_eq_false hf)]
  · rw [e_l_Mod_hasPoint_11, if_neg (by rw [hP.1]; omega)]
end TRI2
