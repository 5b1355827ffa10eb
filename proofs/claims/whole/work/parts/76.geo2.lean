/-! ===== geometry: segments that meet ===== -/
theorem mul_le0 {x y : Int} : x * y ≤ 0 ↔ (x ≤ 0 ∧ 0 ≤ y) ∨ (0 ≤ x ∧ y ≤ 0) := by
  constructor
  · intro h
    by_cases h1 : 0 < x
    · by_cases h2 : 0 < y
      · have := Int.mul_pos h1 h2
        omega
      · exact Or.inr ⟨by omega, by omega⟩
    · by_cases h2 : y < 0
      · by_cases h3 : x < 0
        · have := Int.mul_pos_of_neg_of_neg h3 h2
          omega
        · exact Or.inr ⟨by omega, by omega⟩
      · exact Or.inl ⟨by omega, by omega⟩
  · rintro (⟨h1, h2⟩ | ⟨h1, h2⟩)
    · exact Int.mul_nonpos_of_nonpos_of_nonneg h1 h2
    · exact Int.mul_nonpos_of_nonneg_of_nonpos h1 h2
theorem wr_prod {x y : Int} (hx : -7938 ≤ x ∧ x ≤ 7938) (hy : -7938 ≤ y ∧ y ≤ 7938) : wr (x * y) = x * y := by
  have h := mul_bd (u := x) (v := y) (a := 7938) (b := 7938) (by omega) (by omega) (by omega) (by omega)
  have e : ((7938 * 7938 : Nat) : Int) = 63011844 := by decide
  rw [e] at h
  exact wr_id (by omega) (by omega)
theorem g_meet43 {a b c d s0 s1 : Int} (G : GG) (ha : isC a) (hb : isC b) (hc : isC c) (hd : isC d) : l_Geo_meet_43 a b c d s0 s1 G = rI (b2i (decide (s0 ≤ s1) && (decide (crs a b c * crs a b d ≤ 0) && decide (crs c d a * crs c d b ≤ 0)))) G := by
  have k1 := crs_bd ha hb hc
  have k2 := crs_bd ha hb hd
  have k3 := crs_bd hc hd ha
  have k4 := crs_bd hc hd hb
  obtain ⟨a1, a2⟩ := ha
  obtain ⟨b1, b2⟩ := hb
  obtain ⟨c1, c2⟩ := hc
  obtain ⟨d1, d2⟩ := hd
  rw [e_l_Geo_meet_43, bShr6 a1 a2, bShr6 b1 b2, bShr6 c1 c2, bShr6 d1 d2, bAnd63 a1 a2, bAnd63 b1 b2, bAnd63 c1 c2, bAnd63 d1 d2]
  have p1 := pr_bd (a := b / 64) (b := a / 64) (c := c % 64) (d := a % 64) (by omega) (by omega) (by omega) (by omega)
  have p2 := pr_bd (a := b % 64) (b := a % 64) (c := c / 64) (d := a / 64) (by omega) (by omega) (by omega) (by omega)
  have p3 := pr_bd (a := b / 64) (b := a / 64) (c := d % 64) (d := c % 64) (by omega) (by omega) (by omega) (by omega)
  have p4 := pr_bd (a := b % 64) (b := a % 64) (c := d / 64) (d := c / 64) (by omega) (by omega) (by omega) (by omega)
  have p5 := pr_bd (a := d % 64) (b := c % 64) (c := c / 64) (d := a / 64) (by omega) (by omega) (by omega) (by omega)
  have p6 := pr_bd (a := d / 64) (b := c / 64) (c := c % 64) (d := a % 64) (by omega) (by omega) (by omega) (by omega)
  have p7 := pr_bd (a := d / 64) (b := c / 64) (c := b % 64) (d := a % 64) (by omega) (by omega) (by omega) (by omega)
  have p8 := pr_bd (a := d % 64) (b := c % 64) (c := b / 64) (d := a / 64) (by omega) (by omega) (by omega) (by omega)
  have e1 : (b / 64 - a / 64) * (c % 64 - a % 64) - (b % 64 - a % 64) * (c / 64 - a / 64) = crs a b c := rfl
  have e2 : crs a b c + (b / 64 - a / 64) * (d % 64 - c % 64) - (b % 64 - a % 64) * (d / 64 - c / 64) = crs a b d := by
    unfold crs
    generalize a / 64 = ax; generalize a % 64 = ay; generalize b / 64 = bx; generalize b % 64 = bY; generalize c / 64 = cx; generalize c % 64 = cy; generalize d / 64 = dx; generalize d % 64 = dy
    grind
  have e3 : (d % 64 - c % 64) * (c / 64 - a / 64) - (d / 64 - c / 64) * (c % 64 - a % 64) = crs c d a := by
    unfold crs
    generalize a / 64 = ax; generalize a % 64 = ay; generalize b / 64 = bx; generalize b % 64 = bY; generalize c / 64 = cx; generalize c % 64 = cy; generalize d / 64 = dx; generalize d % 64 = dy
    grind
  have e4 : crs c d a + (d / 64 - c / 64) * (b % 64 - a % 64) - (d % 64 - c % 64) * (b / 64 - a / 64) = crs c d b := by
    unfold crs
    generalize a / 64 = ax; generalize a % 64 = ay; generalize b / 64 = bx; generalize b % 64 = bY; generalize c / 64 = cx; generalize c % 64 = cy; generalize d / 64 = dx; generalize d % 64 = dy
    grind
  simp (disch := omega) only [wr_id, e1, e2, e3, e4]
  rw [wr_prod k1 k2, wr_prod k3 k4]
  by_cases h1 : s1 < s0
  · rw [if_pos h1, decide_eq_false (p := s0 ≤ s1) (by omega)]; rfl
  · rw [if_neg h1, decide_eq_true (p := s0 ≤ s1) (by omega)]
    by_cases h2 : 0 < crs a b c * crs a b d
    · rw [if_pos h2, decide_eq_false (p := crs a b c * crs a b d ≤ 0) (by omega)]; rfl
    · rw [if_neg h2, decide_eq_true (p := crs a b c * crs a b d ≤ 0) (by omega)]
      by_cases h3 : 0 < crs c d a * crs c d b
      · rw [if_pos h3, decide_eq_false (p := crs c d a * crs c d b ≤ 0) (by omega)]; rfl
      · rw [if_neg h3, decide_eq_true (p := crs c d a * crs c d b ≤ 0) (by omega)]; rfl
