/-! ===== points in a triangle ===== -/
def PtC (G : GG) (i : Int) (np : Nat) (pt : Nat → Nat → Int) : Prop := G 5 i 1 = np ∧ ∀ p : Nat, p < np → ∀ j : Nat, j < 6 → G 6 i (6 * (p : Int) + (j : Int)) = pt p j
def PtR (G : GG) (np : Nat) (pt : Nat → Nat → Int) : Prop := G 26 0 127 = np ∧ ∀ p : Nat, p < np → ∀ j : Nat, j < 6 → G 26 0 (128 + 6 * (p : Int) + (j : Int)) = pt p j
def okPt (np : Nat) (pt : Nat → Nat → Int) : Prop := np ≤ 12 ∧ ∀ p, p < np → (0 ≤ pt p 0 ∧ pt p 0 < 64) ∧ (0 ≤ pt p 1 ∧ pt p 1 < 64) ∧ (0 ≤ pt p 2 ∧ pt p 2 ≤ 9) ∧ (2 ≤ pt p 3 ∧ pt p 3 ≤ 12) ∧ (1 ≤ pt p 4 ∧ pt p 4 ≤ 4) ∧ (0 ≤ pt p 5 ∧ pt p 5 ≤ 3)
def pco (pt : Nat → Nat → Int) (p : Nat) : Int := 64 * pt p 0 + pt p 1
theorem pco_C {np : Nat} {pt : Nat → Nat → Int} (h : okPt np pt) {p : Nat} (hp : p < np) : isC (pco pt p) := by
  obtain ⟨h1, h2, -⟩ := h.2 p hp
  unfold pco isC
  omega
theorem pco_x {np : Nat} {pt : Nat → Nat → Int} (h : okPt np pt) {p : Nat} (hp : p < np) : pco pt p / 64 = pt p 0 ∧ pco pt p % 64 = pt p 1 := by
  obtain ⟨h1, h2, -⟩ := h.2 p hp
  unfold pco
  omega
theorem bif_b2i (b : Bool) (G : GG) : (bif b then rI 1 G else rI 0 G : RS) = rI (b2i b) G := by cases b <;> rfl
/-- in a triangle or on its sides -/
abbrev inTri (a b c p : Int) : Prop := (¬ ((crs a b p < 0 ∨ crs b c p < 0 ∨ crs c a p < 0) ∧ (0 < crs a b p ∨ 0 < crs b c p ∨ 0 < crs c a p))) ∧ ((crs a b p = 0 ∧ crs b c p = 0 ∧ crs c a p = 0) → (a ≤ p ∨ b ≤ p ∨ c ≤ p) ∧ (p ≤ a ∨ p ≤ b ∨ p ≤ c))
theorem par3 {a b c p : Int} (hab : a ≠ b) (h1 : crs a b c = 0) (h2 : crs a b p = 0) : crs b c p = 0 ∧ crs c a p = 0 := by
  have ea : a = 64 * (a / 64) + a % 64 := by omega
  have eb : b = 64 * (b / 64) + b % 64 := by omega
  unfold crs at *
  generalize a / 64 = ax at *
  generalize a % 64 = ay at *
  generalize b / 64 = bx at *
  generalize b % 64 = bY at *
  generalize c / 64 = cx at *
  generalize c % 64 = cy at *
  generalize p / 64 = px at *
  generalize p % 64 = py at *
  have k1 : (bx - ax) * ((cx - bx) * (py - bY) - (cy - bY) * (px - bx)) = 0 := by grind
  have k2 : (bY - ay) * ((cx - bx) * (py - bY) - (cy - bY) * (px - bx)) = 0 := by grind
  have k3 : (bx - ax) * ((ax - cx) * (py - cy) - (ay - cy) * (px - cx)) = 0 := by grind
  have k4 : (bY - ay) * ((ax - cx) * (py - cy) - (ay - cy) * (px - cx)) = 0 := by grind
  rcases Int.mul_eq_zero.mp k1 with h | h
  · rcases Int.mul_eq_zero.mp k2 with h' | h'
    · omega
    · refine ⟨h', ?_⟩
      rcases Int.mul_eq_zero.mp k4 with h4 | h4
      · omega
      · exact h4
  · refine ⟨h, ?_⟩
    rcases Int.mul_eq_zero.mp k3 with h3 | h3
    · rcases Int.mul_eq_zero.mp k4 with h4 | h4
      · omega
      · exact h4
    · exact h3
theorem crs_sum (a b c p : Int) : crs a b p + crs b c p + crs c a p = crs a b c ∧ crs a c p = - crs c a p ∧ crs b c a = crs a b c ∧ crs a c b = - crs a b c := by
  unfold crs
  generalize a / 64 = ax
  generalize a % 64 = ay
  generalize b / 64 = bx
  generalize b % 64 = bY
  generalize c / 64 = cx
  generalize c % 64 = cy
  generalize p / 64 = px
  generalize p % 64 = py
  refine ⟨?_, ?_, ?_, ?_⟩ <;> grind
theorem tri_eq {a b c p : Int} (hab : a ≠ b) (hbc : b ≠ c) (hac : a ≠ c) : inTri a b c p ↔ (if crs a b c = 0 then onS a b p = true ∨ onS b c p = true ∨ onS a c p = true else (0 ≤ crs a b p ∧ 0 ≤ crs b c p ∧ 0 ≤ crs c a p) ∨ (crs a b p ≤ 0 ∧ crs b c p ≤ 0 ∧ crs c a p ≤ 0)) := by
  obtain ⟨s1, s2, s3, s4⟩ := crs_sum a b c p
  unfold inTri
  rw [onS_iff, onS_iff, onS_iff]
  by_cases h : crs a b c = 0
  · rw [if_pos h]
    have q1 : crs a b p = 0 → crs b c p = 0 ∧ crs c a p = 0 := par3 hab h
    have q2 : crs b c p = 0 → crs c a p = 0 ∧ crs a b p = 0 := par3 (a := b) (b := c) (c := a) hbc (by omega)
    have q3 : crs c a p = 0 → crs a b p = 0 ∧ crs b c p = 0 := par3 (a := c) (b := a) (c := b) (Ne.symm hac) (by have := (crs_sum b c a p).2.2.1; omega)
    omega
  · rw [if_neg h]
    omega
section TRI
variable {i : Int} {a b c : Int} {np : Nat} {pt : Nat → Nat → Int} {G : GG}
theorem g_codeOf (hP : PtC G i np pt) (ho : okPt np pt) {k : Nat} (hk : k < np) : f_Poi_codeOf i k G = rI (pco pt k) G := by
  have h12 := ho.1
  obtain ⟨h1, h2, -⟩ := ho.2 k hk
  have e0 := hP.2 k hk 0 (by omega)
  have e1 := hP.2 k hk 1 (by omega)
  rw [e_f_Poi_codeOf]
  simp (disch := omega) only [wr_id]
  rw [if_pos (by omega), if_pos (by omega), show (k : Int) * 6 + 0 = 6 * (k : Int) + ((0 : Nat) : Int) by omega, show (k : Int) * 6 + 1 = 6 * (k : Int) + ((1 : Nat) : Int) by omega, e0, e1]
  simp (disch := omega) only [wr_id]
  unfold pco
  rw [show pt k 0 * 64 + pt k 1 = 64 * pt k 0 + pt k 1 by omega]
theorem t145 (k : Nat) (hk : k < 100) : l_Poi_isAnyInTriangle_145 i a b c k G = l_Poi_isAnyInTriangle_3 i a b c ((k + 1 : Nat) : Int) G := by
  rw [e_l_Poi_isAnyInTriangle_145, wr_id (by omega) (by omega)]
  rfl
theorem t100 (k : Nat) (p s : Int) : l_Poi_isAnyInTriangle_100 i a b c k p s G = if s = 0 ∨ ((a ≤ p ∨ b ≤ p ∨ c ≤ p) ∧ (p ≤ a ∨ p ≤ b ∨ p ≤ c)) then rI 1 G else l_Poi_isAnyInTriangle_145 i a b c k G := by
  rw [e_l_Poi_isAnyInTriangle_100]
  by_cases h : s = 0 ∨ ((a ≤ p ∨ b ≤ p ∨ c ≤ p) ∧ (p ≤ a ∨ p ≤ b ∨ p ≤ c))
  · rw [if_pos h]
    repeat' split
    all_goals first | rfl | (exfalso; omega)
  · rw [if_neg h]
    repeat' split
    all_goals first | rfl | (exfalso; omega)
theorem t80 (k : Nat) (p x y z : Int) : l_Poi_isAnyInTriangle_80 i a b c k p x y z G = if ¬ (x = 0 ∧ y = 0 ∧ z = 0) ∨ ((a ≤ p ∨ b ≤ p ∨ c ≤ p) ∧ (p ≤ a ∨ p ≤ b ∨ p ≤ c)) then rI 1 G else l_Poi_isAnyInTriangle_145 i a b c k G := by
  rw [e_l_Poi_isAnyInTriangle_80]
  simp only [t100, true_or, false_or, if_true]
  by_cases h : ¬ (x = 0 ∧ y = 0 ∧ z = 0) ∨ ((a ≤ p ∨ b ≤ p ∨ c ≤ p) ∧ (p ≤ a ∨ p ≤ b ∨ p ≤ c))
  · rw [if_pos h]
    repeat' split
    all_goals first | rfl | (exfalso; omega)
  · rw [if_neg h]
    repeat' split
    all_goals first | rfl | (exfalso; omega)
theorem t62 (k : Nat) (p x y z : Int) : l_Poi_isAnyInTriangle_62 i a b c k p x y z G = if 0 < x ∨ 0 < y ∨ 0 < z then l_Poi_isAnyInTriangle_145 i a b c k G else l_Poi_isAnyInTriangle_80 i a b c k p x y z G := by
  rw [e_l_Poi_isAnyInTriangle_62]
  by_cases h : 0 < x ∨ 0 < y ∨ 0 < z
  · rw [if_pos h]
    repeat' split
    all_goals first | rfl | (exfalso; omega)
  · rw [if_neg h]
    repeat' split
    all_goals first | rfl | (exfalso; omega)
theorem g_tri (hP : PtC G i np pt) (ho : okPt np pt) (ha : isC a) (hb : isC b) (hc : isC c) : f_Poi_isAnyInTriangle i a b c G = rI (b2i (anyB 0 np fun p => decide (inTri a b c (pco pt p)))) G := by
  have h12 := ho.1
  rw [e_f_Poi_isAnyInTriangle, ← bif_b2i]
  have step : ∀ k, k < np → l_Poi_isAnyInTriangle_3 i a b c (k : Int) G = if inTri a b c (pco pt k) then rI 1 G else l_Poi_isAnyInTriangle_3 i a b c ((k + 1 : Nat) : Int) G := by
    intro k hk
    have hp := pco_C ho hk
    rw [e_l_Poi_isAnyInTriangle_3, if_pos (by rw [hP.1]; omega), g_codeOf hP ho hk]
    simp only [bI_r, g_turn G ha hb hp, g_turn G hb hc hp, g_turn G hc ha hp, t62, t80, t145 k (by omega)]
    by_cases h : inTri a b c (pco pt k)
    · rw [if_pos h]
      unfold inTri at h
      repeat' split
      all_goals first | rfl | (exfalso; omega)
    · rw [if_neg h]
      unfold inTri at h
      repeat' split
      all_goals first | rfl | (exfalso; omega)
  refine loop_any (l := fun k => l_Poi_isAnyInTriangle_3 i a b c (k : Int) G) np 0 (fun k _ hk hf => ?_) (fun k _ hk hf => ?_) ?_
  · rw [step k (by omega), if_pos (of_decide_eq_true hf)]
  · rw [step k (by omega), if_neg (of_decide_eq_false hf)]
  · rw [e_l_Poi_isAnyInTriangle_3, if_neg (by rw [hP.1]; omega)]
end TRI
