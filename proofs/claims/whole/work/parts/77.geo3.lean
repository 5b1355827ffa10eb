/-! ===== geometry: the two ways to say the same ===== -/
theorem mtS_no {a b c d : Int} (h : (a < c ∧ b < c ∧ a < d ∧ b < d) ∨ (c < a ∧ d < a ∧ c < b ∧ d < b)) : b2i (mtS a b c d) = 0 := by
  unfold mtS
  rw [decide_eq_true h]; rfl
theorem mtS_43 {a b c d s0 s1 : Int} (h : s0 ≤ s1 ↔ ¬((a < c ∧ b < c ∧ a < d ∧ b < d) ∨ (c < a ∧ d < a ∧ c < b ∧ d < b))) : (decide (s0 ≤ s1) && (decide (crs a b c * crs a b d ≤ 0) && decide (crs c d a * crs c d b ≤ 0))) = mtS a b c d := by
  unfold mtS
  by_cases h1 : s0 ≤ s1
  · rw [decide_eq_true h1, decide_eq_false (h.mp h1)]; rfl
  · rw [decide_eq_false h1, decide_eq_true (Classical.byContradiction fun z => h1 (h.mpr z))]; rfl
theorem g_meet {a b c d : Int} (G : GG) (ha : isC a) (hb : isC b) (hc : isC c) (hd : isC d) : f_Geo_meet a b c d G = rI (b2i (mtS a b c d)) G := by
  rw [e_f_Geo_meet]
  by_cases h1 : a < b
  · rw [if_pos h1]
    by_cases h2 : c < d
    · rw [if_pos h2]
      rw [e_l_Geo_meet_20]
      by_cases h3 : b < c
      · rw [if_pos h3, mtS_no (by omega)]
      · rw [if_neg h3, if_pos h2, if_pos h1, g_meet43 G ha hb hc hd, mtS_43 (by omega)]
    · rw [if_neg h2]
      rw [e_l_Geo_meet_20]
      by_cases h3 : b < d
      · rw [if_pos h3, mtS_no (by omega)]
      · rw [if_neg h3, if_neg h2, if_pos h1, g_meet43 G ha hb hc hd, mtS_43 (by omega)]
  · rw [if_neg h1]
    by_cases h2 : c < d
    · rw [if_pos h2]
      rw [e_l_Geo_meet_20]
      by_cases h3 : a < c
      · rw [if_pos h3, mtS_no (by omega)]
      · rw [if_neg h3, if_pos h2, if_neg h1, g_meet43 G ha hb hc hd, mtS_43 (by omega)]
    · rw [if_neg h2]
      rw [e_l_Geo_meet_20]
      by_cases h3 : a < d
      · rw [if_pos h3, mtS_no (by omega)]
      · rw [if_neg h3, if_neg h2, if_neg h1, g_meet43 G ha hb hc hd, mtS_43 (by omega)]
/-! the same by coordinates: what the reference computes -/
def sgn (x : Int) : Int := if 0 < x then 1 else if x < 0 then -1 else 0
/-- a vertex of the lines looked at -/
def Vat (G : GG) (a c : Int) : Prop := 0 ≤ a ∧ a < 60 ∧ isC c ∧ G 31 0 a = c / 64 ∧ G 32 0 a = c % 64
theorem r_turn {a b c : Int} (G : GG) (ha : isC a) (hb : isC b) (hc : isC c) : f_Mod_turn (a / 64) (a % 64) (b / 64) (b % 64) (c / 64) (c % 64) G = rI (sgn (crs a b c)) G := by
  obtain ⟨a1, a2⟩ := ha
  obtain ⟨b1, b2⟩ := hb
  obtain ⟨c1, c2⟩ := hc
  have h1 := pr_bd (a := b / 64) (b := a / 64) (c := c % 64) (d := a % 64) (by omega) (by omega) (by omega) (by omega)
  have h2 := pr_bd (a := b % 64) (b := a % 64) (c := c / 64) (d := a / 64) (by omega) (by omega) (by omega) (by omega)
  have e1 : (b / 64 - a / 64) * (c % 64 - a % 64) - (b % 64 - a % 64) * (c / 64 - a / 64) = crs a b c := rfl
  rw [e_f_Mod_turn]
  simp (disch := omega) only [wr_id, e1]
  unfold sgn
  by_cases h3 : 0 < crs a b c
  · rw [if_pos h3, if_pos h3]
  · rw [if_neg h3, if_neg h3]
    by_cases h4 : crs a b c < 0
    · rw [if_pos h4, if_pos h4]
    · rw [if_neg h4, if_neg h4]
theorem sgn0 {x : Int} : sgn x = 0 ↔ x = 0 := by unfold sgn; omega
theorem isIn_r (x a b : Int) (G : GG) : f_Mod_isIn x a b G = rI (b2i (decide (a ≤ x ∧ x ≤ b))) G := by
  rw [e_f_Mod_isIn]
  by_cases h1 : x < a
  · rw [if_pos h1, decide_eq_false (by omega)]; rfl
  · rw [if_neg h1]
    by_cases h2 : b < x
    · rw [if_pos h2, decide_eq_false (by omega)]; rfl
    · rw [if_neg h2, decide_eq_true (by omega)]; rfl
/-- on a segment, by coordinates -/
def onB (a b p : Int) : Bool := decide (crs a b p = 0) && (decide (mMin (a / 64) (b / 64) ≤ p / 64 ∧ p / 64 ≤ mMax (a / 64) (b / 64)) && decide (mMin (a % 64) (b % 64) ≤ p % 64 ∧ p % 64 ≤ mMax (a % 64) (b % 64)))
theorem r_isOn {a b p : Int} (G : GG) (ha : isC a) (hb : isC b) (hp : isC p) : f_Mod_isOn (p / 64) (p % 64) (a / 64) (a % 64) (b / 64) (b % 64) G = rI (b2i (onB a b p)) G := by
  rw [e_f_Mod_isOn, r_turn G ha hb hp]
  simp only [bI_r, isIn_r]
  unfold onB
  by_cases h1 : crs a b p = 0
  · rw [if_pos (sgn0.mpr h1), decide_eq_true h1, Bool.true_and]
    cases h2 : decide (mMin (a / 64) (b / 64) ≤ p / 64 ∧ p / 64 ≤ mMax (a / 64) (b / 64)) with
    | false => rfl
    | true =>
      cases h3 : decide (mMin (a % 64) (b % 64) ≤ p % 64 ∧ p % 64 ≤ mMax (a % 64) (b % 64)) with
      | false => rfl
      | true => rfl
  · rw [if_neg (fun z => h1 (sgn0.mp z)), decide_eq_false h1, Bool.false_and]; rfl
/-- the ratio of two differences on a straight line -/
theorem line_in {u v w z : Int} (hu : 0 < u) (h : u * w = v * z) (hz0 : 0 ≤ z) (hzu : z ≤ u) : (0 ≤ v → 0 ≤ w ∧ w ≤ v) ∧ (v ≤ 0 → v ≤ w ∧ w ≤ 0) := by
  have key : ∀ {x : Int}, 0 ≤ u * x → 0 ≤ x := fun {x} hx => by
    by_cases hn : x < 0
    · have := Int.mul_neg_of_pos_of_neg hu hn
      omega
    · omega
  have e1 : u * (v - w) = v * (u - z) := by grind
  have e2 : u * (w - v) = -(v * (u - z)) := by grind
  have e3 : u * (-w) = -(v * z) := by grind
  refine ⟨fun hv => ⟨key (by rw [h]; exact Int.mul_nonneg hv hz0), ?_⟩, fun hv => ⟨?_, ?_⟩⟩
  · have := key (x := v - w) (by rw [e1]; exact Int.mul_nonneg hv (by omega))
    omega
  · have := key (x := w - v) (by rw [e2]; have := Int.mul_nonpos_of_nonpos_of_nonneg hv (show 0 ≤ u - z by omega); omega)
    omega
  · have := key (x := -w) (by rw [e3]; have := Int.mul_nonpos_of_nonpos_of_nonneg hv hz0; omega)
    omega
theorem on_eq {a b p : Int} (ha : isC a) (hb : isC b) (hp : isC p) (hab : a ≠ b) : onB a b p = onS a b p := by
  unfold onB onS
  by_cases h1 : crs a b p = 0
  · rw [decide_eq_true h1, Bool.true_and, Bool.true_and, ← Bool.decide_and, ← Bool.decide_or]
    refine decide_eq_decide.mpr ?_
    obtain ⟨a1, a2⟩ := ha
    obtain ⟨b1, b2⟩ := hb
    obtain ⟨p1, p2⟩ := hp
    have hx1 : crs a b p = (b / 64 - a / 64) * (p % 64 - a % 64) - (b % 64 - a % 64) * (p / 64 - a / 64) := rfl
    rw [h1] at hx1
    have ea : a = 64 * (a / 64) + a % 64 := by omega
    have eb : b = 64 * (b / 64) + b % 64 := by omega
    have ep : p = 64 * (p / 64) + p % 64 := by omega
    have ra : 0 ≤ a % 64 ∧ a % 64 < 64 := by omega
    have rb : 0 ≤ b % 64 ∧ b % 64 < 64 := by omega
    have rp : 0 ≤ p % 64 ∧ p % 64 < 64 := by omega
    generalize a / 64 = ax at *
    generalize a % 64 = ay at *
    generalize b / 64 = bx at *
    generalize b % 64 = bY at *
    generalize p / 64 = px at *
    generalize p % 64 = py at *
    subst ea; subst eb; subst ep
    have m1 : mMin ax bx = if bx < ax then bx else ax := rfl
    have m2 : mMax ax bx = if ax < bx then bx else ax := rfl
    have m3 : mMin ay bY = if bY < ay then bY else ay := rfl
    have m4 : mMax ay bY = if ay < bY then bY else ay := rfl
    rw [m1, m2, m3, m4]
    rcases Int.lt_trichotomy ax bx with hlt | heq | hgt
    · have l1 : ax ≤ px → px ≤ bx → (0 ≤ bY - ay → 0 ≤ py - ay ∧ py - ay ≤ bY - ay) ∧ (bY - ay ≤ 0 → bY - ay ≤ py - ay ∧ py - ay ≤ 0) := fun q1 q2 => line_in (u := bx - ax) (v := bY - ay) (w := py - ay) (z := px - ax) (by omega) (by omega) (by omega) (by omega)
      have l2 : px = ax → py = ay := fun q => by
        rw [q] at hx1
        have e : (bY - ay) * (ax - ax) = 0 := by rw [Int.sub_self, Int.mul_zero]
        rw [e, Int.sub_zero] at hx1
        rcases Int.mul_eq_zero.mp hx1.symm with h | h <;> omega
      have l3 : px = bx → py = bY := fun q => by
        rw [q] at hx1
        have e : (bx - ax) * (py - ay) - (bY - ay) * (bx - ax) = (bx - ax) * (py - bY) := by grind
        rw [e] at hx1
        rcases Int.mul_eq_zero.mp hx1.symm with h | h <;> omega
      constructor
      · rintro ⟨⟨q1, q2⟩, q3, q4⟩
        left
        by_cases e1 : px = ax
        · have := l2 e1
          omega
        · by_cases e2 : px = bx
          · have := l3 e2
            omega
          · omega
      · intro q
        have q1 : ax ≤ px ∧ px ≤ bx := by omega
        have l4 := l1 q1.1 q1.2
        omega
    · subst heq
      have e : (ax - ax) * (py - ay) = 0 := by rw [Int.sub_self, Int.zero_mul]
      rw [e] at hx1
      have hpx : (bY - ay) * (px - ax) = 0 := by omega
      rcases Int.mul_eq_zero.mp hpx with h | h
      · exact absurd (by omega) hab
      · omega
    · have l1 : bx ≤ px → px ≤ ax → (0 ≤ ay - bY → 0 ≤ py - bY ∧ py - bY ≤ ay - bY) ∧ (ay - bY ≤ 0 → ay - bY ≤ py - bY ∧ py - bY ≤ 0) := fun q1 q2 => line_in (u := ax - bx) (v := ay - bY) (w := py - bY) (z := px - bx) (by omega) (by grind) (by omega) (by omega)
      have l2 : px = ax → py = ay := fun q => by
        rw [q] at hx1
        have e : (bY - ay) * (ax - ax) = 0 := by rw [Int.sub_self, Int.mul_zero]
        rw [e, Int.sub_zero] at hx1
        rcases Int.mul_eq_zero.mp hx1.symm with h | h <;> omega
      have l3 : px = bx → py = bY := fun q => by
        rw [q] at hx1
        have e : (bx - ax) * (py - ay) - (bY - ay) * (bx - ax) = (bx - ax) * (py - bY) := by grind
        rw [e] at hx1
        rcases Int.mul_eq_zero.mp hx1.symm with h | h <;> omega
      constructor
      · rintro ⟨⟨q1, q2⟩, q3, q4⟩
        right
        by_cases e1 : px = ax
        · have := l2 e1
          omega
        · by_cases e2 : px = bx
          · have := l3 e2
            omega
          · omega
      · intro q
        have q1 : bx ≤ px ∧ px ≤ ax := by omega
        have l4 := l1 q1.1 q1.2
        omega
  · rw [decide_eq_false h1]; rfl
