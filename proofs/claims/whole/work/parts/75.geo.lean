/-! ===== geometry ===== -/
def b2i (b : Bool) : Int := bif b then 1 else 0
theorem b2i_t : b2i true = 1 := rfl
theorem b2i_f : b2i false = 0 := rfl
/-- two times a triangle's area, of codes -/
def crs (a b c : Int) : Int := (b / 64 - a / 64) * (c % 64 - a % 64) - (b % 64 - a % 64) * (c / 64 - a / 64)
/-- on a segment, by the order of codes -/
def onS (a b p : Int) : Bool := decide (crs a b p = 0) && (decide (a ≤ p ∧ p ≤ b) || decide (b ≤ p ∧ p ≤ a))
def lap (a b c d : Int) : Bool := decide ((a ≤ d ∨ b ≤ d) ∧ (a ≤ c ∨ b ≤ c) ∨ (c ≤ b ∨ d ≤ b) ∧ (c ≤ a ∨ d ≤ a))
def mtS (a b c d : Int) : Bool := !(decide ((a < c ∧ b < c ∧ a < d ∧ b < d) ∨ (c < a ∧ d < a ∧ c < b ∧ d < b))) && (decide (crs a b c * crs a b d ≤ 0) && decide (crs c d a * crs c d b ≤ 0))
def fold (a b c : Int) : Bool := decide (crs a b c = 0) && decide (0 < (a / 64 - b / 64) * (c / 64 - b / 64) + (a % 64 - b % 64) * (c % 64 - b % 64))
/-- a code -/
def isC (c : Int) : Prop := 0 ≤ c ∧ c < 4096
theorem pr_bd {a b c d : Int} (ha : 0 ≤ a ∧ a < 64) (hb : 0 ≤ b ∧ b < 64) (hc : 0 ≤ c ∧ c < 64) (hd : 0 ≤ d ∧ d < 64) : -3969 ≤ (a - b) * (c - d) ∧ (a - b) * (c - d) ≤ 3969 := by
  have h := mul_bd (u := a - b) (v := c - d) (a := 63) (b := 63) (by omega) (by omega) (by omega) (by omega)
  exact h
theorem crs_bd {a b c : Int} (ha : isC a) (hb : isC b) (hc : isC c) : -7938 ≤ crs a b c ∧ crs a b c ≤ 7938 := by
  obtain ⟨a1, a2⟩ := ha
  obtain ⟨b1, b2⟩ := hb
  obtain ⟨c1, c2⟩ := hc
  unfold crs
  have h1 := pr_bd (a := b / 64) (b := a / 64) (c := c % 64) (d := a % 64) (by omega) (by omega) (by omega) (by omega)
  have h2 := pr_bd (a := b % 64) (b := a % 64) (c := c / 64) (d := a / 64) (by omega) (by omega) (by omega) (by omega)
  omega
theorem g_turn {a b c : Int} (G : GG) (ha : isC a) (hb : isC b) (hc : isC c) : f_Geo_turn a b c G = rI (crs a b c) G := by
  obtain ⟨a1, a2⟩ := ha
  obtain ⟨b1, b2⟩ := hb
  obtain ⟨c1, c2⟩ := hc
  have h1 := pr_bd (a := b / 64) (b := a / 64) (c := c % 64) (d := a % 64) (by omega) (by omega) (by omega) (by omega)
  have h2 := pr_bd (a := b % 64) (b := a % 64) (c := c / 64) (d := a / 64) (by omega) (by omega) (by omega) (by omega)
  rw [e_f_Geo_turn, bShr6 a1 a2, bShr6 b1 b2, bShr6 c1 c2, bAnd63 a1 a2, bAnd63 b1 b2, bAnd63 c1 c2]
  simp (disch := omega) only [wr_id]
  rfl
theorem g_onS {a b p : Int} (G : GG) (ha : isC a) (hb : isC b) (hp : isC p) : f_Geo_isOnSegment a b p G = rI (b2i (onS a b p)) G := by
  rw [e_f_Geo_isOnSegment, g_turn G ha hb hp]
  simp only [bI_r]
  have e : ∀ {P : Prop} [Decidable P], b2i (decide P) = if P then 1 else 0 := by
    intro P _
    by_cases h : P <;> simp [h, b2i]
  unfold onS
  by_cases h1 : a < b
  · rw [if_pos h1]
    by_cases h2 : p < a
    · rw [if_pos h2, decide_eq_false (p := a ≤ p ∧ p ≤ b) (by omega), decide_eq_false (p := b ≤ p ∧ p ≤ a) (by omega), Bool.or_false, Bool.and_false]; rfl
    · rw [if_neg h2]
      by_cases h3 : b < p
      · rw [if_pos h3, decide_eq_false (p := a ≤ p ∧ p ≤ b) (by omega), decide_eq_false (p := b ≤ p ∧ p ≤ a) (by omega), Bool.or_false, Bool.and_false]; rfl
      · rw [if_neg h3, decide_eq_true (p := a ≤ p ∧ p ≤ b) (by omega), Bool.true_or, Bool.and_true]
        by_cases h4 : crs a b p = 0
        · rw [if_pos h4, decide_eq_true h4]; rfl
        · rw [if_neg h4, decide_eq_false h4]; rfl
  · rw [if_neg h1]
    by_cases h2 : p < b
    · rw [if_pos h2, decide_eq_false (p := a ≤ p ∧ p ≤ b) (by omega), decide_eq_false (p := b ≤ p ∧ p ≤ a) (by omega), Bool.or_false, Bool.and_false]; rfl
    · rw [if_neg h2]
      by_cases h3 : a < p
      · rw [if_pos h3, decide_eq_false (p := a ≤ p ∧ p ≤ b) (by omega), decide_eq_false (p := b ≤ p ∧ p ≤ a) (by omega), Bool.or_false, Bool.and_false]; rfl
      · rw [if_neg h3, decide_eq_true (p := b ≤ p ∧ p ≤ a) (by omega), Bool.or_true, Bool.and_true]
        by_cases h4 : crs a b p = 0
        · rw [if_pos h4, decide_eq_true h4]; rfl
        · rw [if_neg h4, decide_eq_false h4]; rfl
theorem g_fold {a b c : Int} (G : GG) (ha : isC a) (hb : isC b) (hc : isC c) : f_Geo_foldsBack a b c G = rI (b2i (fold a b c)) G := by
  obtain ⟨a1, a2⟩ := ha
  obtain ⟨b1, b2⟩ := hb
  obtain ⟨c1, c2⟩ := hc
  have h1 := pr_bd (a := a / 64) (b := b / 64) (c := c % 64) (d := b % 64) (by omega) (by omega) (by omega) (by omega)
  have h2 := pr_bd (a := a % 64) (b := b % 64) (c := c / 64) (d := b / 64) (by omega) (by omega) (by omega) (by omega)
  have h3 := pr_bd (a := a / 64) (b := b / 64) (c := c / 64) (d := b / 64) (by omega) (by omega) (by omega) (by omega)
  have h4 := pr_bd (a := a % 64) (b := b % 64) (c := c % 64) (d := b % 64) (by omega) (by omega) (by omega) (by omega)
  rw [e_f_Geo_foldsBack, bShr6 a1 a2, bShr6 b1 b2, bShr6 c1 c2, bAnd63 a1 a2, bAnd63 b1 b2, bAnd63 c1 c2]
  simp (disch := omega) only [wr_id]
  have e : crs a b c = 0 ↔ (a / 64 - b / 64) * (c % 64 - b % 64) = (a % 64 - b % 64) * (c / 64 - b / 64) := by
    unfold crs
    generalize a / 64 = ax
    generalize a % 64 = ay
    generalize b / 64 = bx
    generalize b % 64 = bY
    generalize c / 64 = cx
    generalize c % 64 = cy
    constructor <;> intro h <;> grind
  unfold fold
  by_cases h5 : crs a b c = 0
  · rw [if_pos (e.mp h5), decide_eq_true h5, Bool.true_and]
    by_cases h6 : 0 < (a / 64 - b / 64) * (c / 64 - b / 64) + (a % 64 - b % 64) * (c % 64 - b % 64)
    · rw [if_pos h6, decide_eq_true h6]; rfl
    · rw [if_neg h6, decide_eq_false h6]; rfl
  · rw [if_neg (fun z => h5 (e.mpr z)), decide_eq_false h5, Bool.false_and]; rfl
