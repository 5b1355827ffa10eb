/-! ===== geometry: the class's test of two segments and the reference's ===== -/
theorem crs_id {a b c d : Int} : crs c d a * b - crs c d b * a + crs a b c * d - crs a b d * c = 0 ∧ crs a b c + crs c d a = crs a b d + crs c d b := by
  have ea : a = 64 * (a / 64) + a % 64 := by omega
  have eb : b = 64 * (b / 64) + b % 64 := by omega
  have ec : c = 64 * (c / 64) + c % 64 := by omega
  have ed : d = 64 * (d / 64) + d % 64 := by omega
  unfold crs
  generalize a / 64 = ax at *
  generalize a % 64 = ay at *
  generalize b / 64 = bx at *
  generalize b % 64 = bY at *
  generalize c / 64 = cx at *
  generalize c % 64 = cy at *
  generalize d / 64 = dx at *
  generalize d % 64 = dy at *
  subst ea; subst eb; subst ec; subst ed
  constructor <;> grind
theorem opp {x y u v : Int} (h : x * u = y * v) (hu : 0 ≤ u) (hv : v ≤ 0) (hne : ¬ (u = 0 ∧ v = 0)) : x * y ≤ 0 := by
  rw [mul_le0]
  by_cases h1 : 0 < x
  · by_cases h2 : 0 < y
    · have q1 := Int.mul_nonneg (show 0 ≤ x by omega) hu
      have q2 := Int.mul_nonpos_of_nonneg_of_nonpos (show 0 ≤ y by omega) hv
      have q3 : x * u = 0 := by omega
      have q4 : y * v = 0 := by omega
      rcases Int.mul_eq_zero.mp q3 with h | h
      · omega
      · rcases Int.mul_eq_zero.mp q4 with h' | h'
        · omega
        · exact absurd ⟨h, h'⟩ hne
    · omega
  · by_cases h2 : y < 0
    · by_cases h3 : x < 0
      · have q1 := Int.mul_nonpos_of_nonpos_of_nonneg (show x ≤ 0 by omega) hu
        have q2 := Int.mul_nonneg_of_nonpos_of_nonpos (show y ≤ 0 by omega) hv
        have q3 : x * u = 0 := by omega
        have q4 : y * v = 0 := by omega
        rcases Int.mul_eq_zero.mp q3 with h | h
        · omega
        · rcases Int.mul_eq_zero.mp q4 with h' | h'
          · omega
          · exact absurd ⟨h, h'⟩ hne
      · omega
    · omega
theorem opp2 {x y a b c : Int} (h : x * (b - c) = y * (a - c)) (hab : a ≠ b) (hc : a ≤ c ∧ c ≤ b ∨ b ≤ c ∧ c ≤ a) : x * y ≤ 0 := by
  rcases hc with hc | hc
  · exact opp h (by omega) (by omega) (by omega)
  · have h9 := opp h.symm (by omega) (by omega) (by omega)
    rw [Int.mul_comm] at h9
    exact h9
theorem sgn_sep {x y : Int} : (sgn x ≠ sgn y ∧ ¬ 0 < sgn x * sgn y) ↔ x ≠ y ∧ x * y ≤ 0 := by
  rw [mul_le0]
  have e : ∀ z, (0 < z ∧ sgn z = 1) ∨ (z = 0 ∧ sgn z = 0) ∨ (z < 0 ∧ sgn z = -1) := fun z => by unfold sgn; omega
  rcases e x with ⟨h1, e1⟩ | ⟨h1, e1⟩ | ⟨h1, e1⟩ <;> rcases e y with ⟨h2, e2⟩ | ⟨h2, e2⟩ | ⟨h2, e2⟩ <;> rw [e1, e2] <;> omega
/-- the straddle of two segments makes their ranges overlap -/
theorem lap_of {a b c d o1 o2 o3 o4 : Int} (hid : o3 * b - o4 * a + o1 * d - o2 * c = 0) (hs : o1 + o3 = o2 + o4) (h12 : o1 ≤ 0 ∧ 0 ≤ o2) (h34 : o4 ≤ 0 ∧ 0 ≤ o3) (hne : o1 ≠ o2) : ¬ ((a < c ∧ b < c ∧ a < d ∧ b < d) ∨ (c < a ∧ d < a ∧ c < b ∧ d < b)) := by
  rintro (⟨q1, q2, q3, q4⟩ | ⟨q1, q2, q3, q4⟩)
  · obtain ⟨M, hM1, hM2, hM3, hM4⟩ : ∃ M : Int, a ≤ M ∧ b ≤ M ∧ M + 1 ≤ c ∧ M + 1 ≤ d := by
      by_cases h : a ≤ b
      · exact ⟨b, by omega, by omega, by omega, by omega⟩
      · exact ⟨a, by omega, by omega, by omega, by omega⟩
    have r1 := Int.mul_nonneg h34.2 (show 0 ≤ M - b by omega)
    have r2 := Int.mul_nonneg (show 0 ≤ -o4 by omega) (show 0 ≤ M - a by omega)
    have r3 := Int.mul_nonneg h12.2 (show 0 ≤ c - M - 1 by omega)
    have r4 := Int.mul_nonneg (show 0 ≤ -o1 by omega) (show 0 ≤ d - M - 1 by omega)
    have e : o3 * (M - b) + -o4 * (M - a) + o2 * (c - M - 1) + -o1 * (d - M - 1) = -(o3 * b - o4 * a + o1 * d - o2 * c) + (o1 + o3 - (o2 + o4)) * M - (o2 - o1) := by grind
    rw [hid, hs, Int.sub_self, Int.zero_mul] at e
    omega
  · obtain ⟨M, hM1, hM2, hM3, hM4⟩ : ∃ M : Int, c ≤ M ∧ d ≤ M ∧ M + 1 ≤ a ∧ M + 1 ≤ b := by
      by_cases h : c ≤ d
      · exact ⟨d, by omega, by omega, by omega, by omega⟩
      · exact ⟨c, by omega, by omega, by omega, by omega⟩
    have r1 := Int.mul_nonneg h34.2 (show 0 ≤ b - M - 1 by omega)
    have r2 := Int.mul_nonneg (show 0 ≤ -o4 by omega) (show 0 ≤ a - M - 1 by omega)
    have r3 := Int.mul_nonneg h12.2 (show 0 ≤ M - c by omega)
    have r4 := Int.mul_nonneg (show 0 ≤ -o1 by omega) (show 0 ≤ M - d by omega)
    have e : o3 * (b - M - 1) + -o4 * (a - M - 1) + o2 * (M - c) + -o1 * (M - d) = (o3 * b - o4 * a + o1 * d - o2 * c) - (o1 + o3 - (o2 + o4)) * M - (o3 - o4) := by grind
    rw [hid, hs, Int.sub_self, Int.zero_mul] at e
    omega
theorem mt_core {a b c d o1 o2 o3 o4 : Int} (hid : o3 * b - o4 * a + o1 * d - o2 * c = 0) (hs : o1 + o3 = o2 + o4) (hab : a ≠ b) (hcd : c ≠ d) :
    (¬ ((a < c ∧ b < c ∧ a < d ∧ b < d) ∨ (c < a ∧ d < a ∧ c < b ∧ d < b)) ∧ o1 * o2 ≤ 0 ∧ o3 * o4 ≤ 0) ↔
    ((sgn o1 ≠ sgn o2 ∧ ¬ 0 < sgn o1 * sgn o2) ∧ (sgn o3 ≠ sgn o4 ∧ ¬ 0 < sgn o3 * sgn o4)) ∨ (o1 = 0 ∧ (a ≤ c ∧ c ≤ b ∨ b ≤ c ∧ c ≤ a)) ∨ (o2 = 0 ∧ (a ≤ d ∧ d ≤ b ∨ b ≤ d ∧ d ≤ a)) ∨ (o3 = 0 ∧ (c ≤ a ∧ a ≤ d ∨ d ≤ a ∧ a ≤ c)) ∨ (o4 = 0 ∧ (c ≤ b ∧ b ≤ d ∨ d ≤ b ∧ b ≤ c)) := by
  rw [sgn_sep, sgn_sep]
  constructor
  · rintro ⟨h1, h2, h3⟩
    by_cases h12 : o1 = o2
    · have h4 := mul_le0.mp h2
      have h5 := mul_le0.mp h3
      have z1 : o1 = 0 := by omega
      have z2 : o2 = 0 := by omega
      have z3 : o3 = 0 := by omega
      have z4 : o4 = 0 := by omega
      right
      omega
    · exact Or.inl ⟨⟨h12, h2⟩, by omega, h3⟩
  · rintro (⟨⟨h1, h2⟩, h3, h4⟩ | ⟨h1, h2⟩ | ⟨h1, h2⟩ | ⟨h1, h2⟩ | ⟨h1, h2⟩)
    · refine ⟨?_, h2, h4⟩
      rcases mul_le0.mp h2 with h5 | h5
      · rcases mul_le0.mp h4 with h6 | h6
        · omega
        · exact lap_of hid hs h5 ⟨h6.2, h6.1⟩ h1
      · rcases mul_le0.mp h4 with h6 | h6
        · have h9 := lap_of (a := b) (b := a) (c := d) (d := c) (o1 := o2) (o2 := o1) (o3 := o4) (o4 := o3) (by omega) (by omega) ⟨h5.2, h5.1⟩ ⟨h6.1, h6.2⟩ (fun z => h1 z.symm)
          omega
        · omega
    · refine ⟨by omega, by rw [h1, Int.zero_mul]; exact Int.le_refl 0, opp2 (a := a) (b := b) (c := c) ?_ hab h2⟩
      have e : o2 = o3 - o4 := by omega
      subst h1
      subst e
      grind
    · refine ⟨by omega, by rw [h1, Int.mul_zero]; exact Int.le_refl 0, opp2 (a := a) (b := b) (c := d) ?_ hab h2⟩
      have e : o1 = o4 - o3 := by omega
      subst h1
      subst e
      grind
    · refine ⟨by omega, opp2 (a := c) (b := d) (c := a) ?_ hcd h2, by rw [h1, Int.zero_mul]; exact Int.le_refl 0⟩
      have e : o4 = o1 - o2 := by omega
      subst h1
      subst e
      grind
    · refine ⟨by omega, opp2 (a := c) (b := d) (c := b) ?_ hcd h2, by rw [h1, Int.mul_zero]; exact Int.le_refl 0⟩
      have e : o3 = o2 - o1 := by omega
      subst h1
      subst e
      grind
theorem mtS_iff {a b c d : Int} : mtS a b c d = true ↔ ¬ ((a < c ∧ b < c ∧ a < d ∧ b < d) ∨ (c < a ∧ d < a ∧ c < b ∧ d < b)) ∧ crs a b c * crs a b d ≤ 0 ∧ crs c d a * crs c d b ≤ 0 := by
  unfold mtS
  rw [Bool.and_eq_true, Bool.and_eq_true, decide_eq_true_eq, decide_eq_true_eq, Bool.not_eq_true', decide_eq_false_iff_not]
theorem onS_iff {a b p : Int} : onS a b p = true ↔ crs a b p = 0 ∧ (a ≤ p ∧ p ≤ b ∨ b ≤ p ∧ p ≤ a) := by
  unfold onS
  rw [Bool.and_eq_true, Bool.or_eq_true, decide_eq_true_eq, decide_eq_true_eq, decide_eq_true_eq]
theorem mt_eq {a b c d : Int} (hab : a ≠ b) (hcd : c ≠ d) : mtS a b c d = true ↔ ((sgn (crs a b c) ≠ sgn (crs a b d) ∧ ¬ 0 < sgn (crs a b c) * sgn (crs a b d)) ∧ (sgn (crs c d a) ≠ sgn (crs c d b) ∧ ¬ 0 < sgn (crs c d a) * sgn (crs c d b))) ∨ onS a b c = true ∨ onS a b d = true ∨ onS c d a = true ∨ onS c d b = true := by
  rw [mtS_iff, onS_iff, onS_iff, onS_iff, onS_iff]
  exact mt_core crs_id.1 crs_id.2 hab hcd
theorem b2i_01 (b : Bool) : 0 ≤ b2i b ∧ b2i b ≤ 1 := by cases b <;> decide
theorem b2i_0 {b : Bool} : b2i b = 0 ↔ b = false := by cases b <;> decide
theorem r_onSeg {i j a b p : Int} (G : GG) (h1 : Vat G i a) (h2 : Vat G j b) (hp : isC p) (hab : a ≠ b) : f_Mod_isOnSegment (p / 64) (p % 64) i j G = rI (b2i (onS a b p)) G := by
  obtain ⟨i0, i1, ia, ix, iy⟩ := h1
  obtain ⟨j0, j1, ja, jx, jy⟩ := h2
  rw [e_f_Mod_isOnSegment, if_pos ⟨i0, i1⟩, if_pos ⟨i0, i1⟩, if_pos ⟨j0, j1⟩, if_pos ⟨j0, j1⟩, ix, iy, jx, jy, r_isOn G ia ja hp]
  simp only [bI_r]
  rw [if_pos (b2i_01 _), on_eq ia ja hp hab]
set_option maxHeartbeats 1000000 in
theorem r_meet {i j k m a b c d : Int} (G : GG) (h1 : Vat G i a) (h2 : Vat G j b) (h3 : Vat G k c) (h4 : Vat G m d) (hab : a ≠ b) (hcd : c ≠ d) : f_Mod_meet i j k m G = rI (b2i (mtS a b c d)) G := by
  have o1 := r_onSeg G h1 h2 h3.2.2.1 hab
  have o2 := r_onSeg G h1 h2 h4.2.2.1 hab
  have o3 := r_onSeg G h3 h4 h1.2.2.1 hcd
  have o4 := r_onSeg G h3 h4 h2.2.2.1 hcd
  obtain ⟨i0, i1, ia, ix, iy⟩ := h1
  obtain ⟨j0, j1, ja, jx, jy⟩ := h2
  obtain ⟨k0, k1, ka, kx, ky⟩ := h3
  obtain ⟨m0, m1, ma, mx, my⟩ := h4
  have ci : 0 ≤ i ∧ i < 60 := ⟨i0, i1⟩
  have cj : 0 ≤ j ∧ j < 60 := ⟨j0, j1⟩
  have ck : 0 ≤ k ∧ k < 60 := ⟨k0, k1⟩
  have cm : 0 ≤ m ∧ m < 60 := ⟨m0, m1⟩
  rw [e_f_Mod_meet]
  simp only [ci, cj, ck, cm, and_self, if_true, ix, iy, jx, jy, kx, ky, mx, my, r_turn G ia ja ka, r_turn G ia ja ma, r_turn G ka ma ia, r_turn G ka ma ja, bI_r, o1, o2, o3, o4]
  have hb : ∀ x y : Int, wr (sgn x * sgn y) = sgn x * sgn y := fun x y => by
    have q1 : -1 ≤ sgn x ∧ sgn x ≤ 1 := by unfold sgn; omega
    have q2 : -1 ≤ sgn y ∧ sgn y ≤ 1 := by unfold sgn; omega
    have h := mul_bd (u := sgn x) (v := sgn y) (a := 1) (b := 1) (by omega) (by omega) (by omega) (by omega)
    exact wr_id (by omega) (by omega)
  rw [hb, hb]
  have key := mt_eq (a := a) (b := b) (c := c) (d := d) hab hcd
  have fin : ∀ P : Prop, (mtS a b c d = true ↔ P ∨ onS a b c = true ∨ onS a b d = true ∨ onS c d a = true ∨ onS c d b = true) → ¬ P →
      (if b2i (onS a b c) = 0 then (if b2i (onS a b d) = 0 then (if b2i (onS c d a) = 0 then (if b2i (onS c d b) = 0 then rI 0 G else rI 1 G) else rI 1 G) else rI 1 G) else rI 1 G) = (rI (b2i (mtS a b c d)) G : RS) := by
    intro P hP hn
    simp only [b2i_0]
    cases e1 : onS a b c <;> cases e2 : onS a b d <;> cases e3 : onS c d a <;> cases e4 : onS c d b <;> cases e5 : mtS a b c d <;> simp [e1, e2, e3, e4, e5, hn] at hP ⊢ <;> rfl
  by_cases q1 : sgn (crs a b c) = sgn (crs a b d)
  · rw [if_pos q1]
    exact fin _ key (fun z => z.1.1 q1)
  · rw [if_neg q1]
    by_cases q2 : sgn (crs c d a) = sgn (crs c d b)
    · rw [if_pos q2]
      exact fin _ key (fun z => z.2.1 q2)
    · rw [if_neg q2]
      by_cases q3 : 0 < sgn (crs a b c) * sgn (crs a b d)
      · rw [if_pos q3]
        exact fin _ key (fun z => z.1.2 q3)
      · rw [if_neg q3]
        by_cases q4 : 0 < sgn (crs c d a) * sgn (crs c d b)
        · rw [if_pos q4]
          exact fin _ key (fun z => z.2.2 q4)
        · rw [if_neg q4, key.mpr (Or.inl ⟨⟨q1, q3⟩, q2, q4⟩)]
          rfl
