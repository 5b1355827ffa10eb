/-! ===== labels: where they lie ===== -/
def lfO (pt : Nat → Nat → Int) (p : Nat) (t : Int) : Int := if t = 0 ∨ t = 3 then pt p 0 + 1 else pt p 0 - pt p 3
def lwO (pt : Nat → Nat → Int) (p : Nat) (t : Int) : Int := if t < 2 then pt p 1 + 1 else pt p 1 - pt p 4
theorem lf_bd {np : Nat} {pt : Nat → Nat → Int} (h : okPt np pt) {p : Nat} (hp : p < np) (t : Int) : -12 ≤ lfO pt p t ∧ lfO pt p t ≤ 64 := by
  obtain ⟨h1, h2, h3, h4, h5, h6⟩ := h.2 p hp
  unfold lfO
  split <;> omega
theorem lw_bd {np : Nat} {pt : Nat → Nat → Int} (h : okPt np pt) {p : Nat} (hp : p < np) (t : Int) : -4 ≤ lwO pt p t ∧ lwO pt p t ≤ 64 := by
  obtain ⟨h1, h2, h3, h4, h5, h6⟩ := h.2 p hp
  unfold lwO
  split <;> omega
section LAB
variable {np : Nat} {pt : Nat → Nat → Int} {G : GG}
theorem g_valueOf {i : Int} (hP : PtC G i np pt) (hn : np ≤ 12) {p : Nat} {q : Nat} (hp : p < np) (hq : q < 6) : f_Poi_valueOf i p q G = rI (pt p q) G := by
  have e := e_f_Poi_valueOf i p q G
  have a1 : wr (wr ((p : Int) * 6) + (q : Int)) = 6 * (p : Int) + q := by rw [wr_id (z := (p : Int) * 6) (by omega) (by omega), wr_id (by omega) (by omega)]; omega
  have i1 : (0 : Int) ≤ 6 * (p : Int) + q ∧ 6 * (p : Int) + (q : Int) < 72 := by omega
  simp only [a1, if_pos i1, hP.2 p hp q hq] at e
  exact e
theorem g_leftOf {i : Int} (hP : PtC G i np pt) (ho : okPt np pt) {p : Nat} (hp : p < np) (t : Int) : f_Poi_leftOf i p t G = rI (lfO pt p t) G := by
  have hn := ho.1
  obtain ⟨h1, h2, h3, h4, h5, h6⟩ := ho.2 p hp
  have e := e_f_Poi_leftOf i p t G
  have a0 : wr (wr ((p : Int) * 6) + 0) = 6 * (p : Int) + ((0 : Nat) : Int) := by rw [wr_id (z := (p : Int) * 6) (by omega) (by omega), wr_id (by omega) (by omega)]; omega
  have a3 : wr (wr ((p : Int) * 6) + 3) = 6 * (p : Int) + ((3 : Nat) : Int) := by rw [wr_id (z := (p : Int) * 6) (by omega) (by omega), wr_id (by omega) (by omega)]; omega
  have i0 : (0 : Int) ≤ 6 * (p : Int) + ((0 : Nat) : Int) ∧ 6 * (p : Int) + ((0 : Nat) : Int) < 72 := by omega
  have i3 : (0 : Int) ≤ 6 * (p : Int) + ((3 : Nat) : Int) ∧ 6 * (p : Int) + ((3 : Nat) : Int) < 72 := by omega
  simp only [a0, a3, if_pos i0, if_pos i3, hP.2 p hp 0 (by decide), hP.2 p hp 3 (by decide)] at e
  rw [wr_id (z := pt p 0 + 1) (by omega) (by omega), wr_id (z := pt p 0 - pt p 3) (by omega) (by omega)] at e
  refine e.trans ?_
  clear e
  unfold lfO
  by_cases q1 : t = 0
  · rw [if_pos q1, if_pos (Or.inl q1)]
  · rw [if_neg q1]
    by_cases q2 : t = 3
    · rw [if_pos q2, if_pos (Or.inr q2)]
    · rw [if_neg q2, if_neg (fun z => z.elim q1 q2)]
theorem g_lowOf {i : Int} (hP : PtC G i np pt) (ho : okPt np pt) {p : Nat} (hp : p < np) {t : Int} (ht : 0 ≤ t) : f_Poi_lowOf i p t G = rI (lwO pt p t) G := by
  have hn := ho.1
  obtain ⟨h1, h2, h3, h4, h5, h6⟩ := ho.2 p hp
  have e := e_f_Poi_lowOf i p t G
  have a0 : wr (wr ((p : Int) * 6) + 1) = 6 * (p : Int) + ((1 : Nat) : Int) := by rw [wr_id (z := (p : Int) * 6) (by omega) (by omega), wr_id (by omega) (by omega)]; omega
  have a3 : wr (wr ((p : Int) * 6) + 4) = 6 * (p : Int) + ((4 : Nat) : Int) := by rw [wr_id (z := (p : Int) * 6) (by omega) (by omega), wr_id (by omega) (by omega)]; omega
  have i0 : (0 : Int) ≤ 6 * (p : Int) + ((1 : Nat) : Int) ∧ 6 * (p : Int) + ((1 : Nat) : Int) < 72 := by omega
  have i3 : (0 : Int) ≤ 6 * (p : Int) + ((4 : Nat) : Int) ∧ 6 * (p : Int) + ((4 : Nat) : Int) < 72 := by omega
  simp only [a0, a3, if_pos i0, if_pos i3, hP.2 p hp 1 (by decide), hP.2 p hp 4 (by decide)] at e
  rw [wr_id (z := pt p 1 + 1) (by omega) (by omega), wr_id (z := pt p 1 - pt p 4) (by omega) (by omega)] at e
  refine e.trans ?_
  clear e
  unfold lwO
  by_cases q1 : t = 0
  · rw [if_pos q1, if_pos (by omega)]
  · rw [if_neg q1]
    by_cases q2 : t = 1
    · rw [if_pos q2, if_pos (by omega)]
    · rw [if_neg q2, if_neg (by omega)]
theorem r_left (hP : PtR G np pt) (ho : okPt np pt) {p : Nat} (hp : p < np) (t : Int) : f_Mod_left p t G = rI (lfO pt p t) G := by
  obtain ⟨h1, h2, h3, h4, h5, h6⟩ := ho.2 p hp
  have e0 : f_Mod_ofPoint (p : Int) 0 G = rI (pt p 0) G := r_ofPoint hP ho.1 hp (q := 0) (by decide)
  have e3 : f_Mod_ofPoint (p : Int) 3 G = rI (pt p 3) G := r_ofPoint hP ho.1 hp (q := 3) (by decide)
  rw [e_f_Mod_left, e0]
  simp only [bI_r, e3]
  rw [wr_id (z := pt p 0 + 1) (by omega) (by omega), wr_id (z := pt p 0 - pt p 3) (by omega) (by omega)]
  unfold lfO
  by_cases q1 : t = 0
  · rw [if_pos q1, if_pos (Or.inl q1)]
  · rw [if_neg q1]
    by_cases q2 : t = 3
    · rw [if_pos q2, if_pos (Or.inr q2)]
    · rw [if_neg q2, if_neg (fun z => z.elim q1 q2)]
theorem r_low (hP : PtR G np pt) (ho : okPt np pt) {p : Nat} (hp : p < np) (t : Int) : f_Mod_low p t G = rI (lwO pt p t) G := by
  obtain ⟨h1, h2, h3, h4, h5, h6⟩ := ho.2 p hp
  have e0 : f_Mod_ofPoint (p : Int) 1 G = rI (pt p 1) G := r_ofPoint hP ho.1 hp (q := 1) (by decide)
  have e3 : f_Mod_ofPoint (p : Int) 4 G = rI (pt p 4) G := r_ofPoint hP ho.1 hp (q := 4) (by decide)
  rw [e_f_Mod_low, e0]
  simp only [bI_r, e3]
  rw [wr_id (z := pt p 1 + 1) (by omega) (by omega), wr_id (z := pt p 1 - pt p 4) (by omega) (by omega)]
  unfold lwO
  by_cases q1 : t < 2
  · rw [if_pos q1, if_pos q1]
  · rw [if_neg q1, if_neg q1]
/-- a place x y lies under the label of p at t -/
def cvO (pt : Nat → Nat → Int) (p : Nat) (t x y : Int) : Bool := decide (lfO pt p t ≤ x ∧ x < lfO pt p t + pt p 3 ∧ lwO pt p t ≤ y ∧ y < lwO pt p t + pt p 4)
def ovO (pt : Nat → Nat → Int) (p : Nat) (t : Int) (q : Nat) (u : Int) : Bool := decide (lfO pt q u < lfO pt p t + pt p 3 ∧ lfO pt p t < lfO pt q u + pt q 3 ∧ lwO pt q u < lwO pt p t + pt p 4 ∧ lwO pt p t < lwO pt q u + pt q 4)
def ahO (pt : Nat → Nat → Int) (p q : Nat) : Bool := decide (pt q 2 < pt p 2 ∨ (pt p 2 = pt q 2 ∧ p < q))
theorem r_covers (hP : PtR G np pt) (ho : okPt np pt) {p : Nat} (hp : p < np) (t : Int) {x y : Int} (hx : 0 ≤ x ∧ x < 64) (hy : 0 ≤ y ∧ y < 64) : f_Mod_covers p t x y G = rI (b2i (cvO pt p t x y)) G := by
  obtain ⟨h1, h2, h3, h4, h5, h6⟩ := ho.2 p hp
  have b1 := lf_bd ho hp t
  have b2 := lw_bd ho hp t
  have e3 : f_Mod_ofPoint (p : Int) 3 G = rI (pt p 3) G := r_ofPoint hP ho.1 hp (q := 3) (by decide)
  have e4 : f_Mod_ofPoint (p : Int) 4 G = rI (pt p 4) G := r_ofPoint hP ho.1 hp (q := 4) (by decide)
  rw [e_f_Mod_covers]
  simp only [r_left hP ho hp, r_low hP ho hp, bI_r, e3, e4, isIn_r, b2i_0]
  rw [wr_id (z := x - lfO pt p t) (by omega) (by omega), wr_id (z := pt p 3 - 1) (by omega) (by omega), wr_id (z := y - lwO pt p t) (by omega) (by omega), wr_id (z := pt p 4 - 1) (by omega) (by omega)]
  unfold cvO
  generalize lfO pt p t = a at b1 ⊢
  generalize lwO pt p t = b at b2 ⊢
  by_cases q1 : 0 ≤ x - a ∧ x - a ≤ pt p 3 - 1
  · rw [if_neg (by rw [decide_eq_true q1]; decide)]
    by_cases q2 : 0 ≤ y - b ∧ y - b ≤ pt p 4 - 1
    · rw [if_neg (by rw [decide_eq_true q2]; decide), decide_eq_true (by omega)]
      rfl
    · rw [if_pos (by rw [decide_eq_false q2]), decide_eq_false (by omega)]
      rfl
  · rw [if_pos (by rw [decide_eq_false q1]), decide_eq_false (by omega)]
    rfl
theorem r_isAhead (hP : PtR G np pt) (ho : okPt np pt) {p q : Nat} (hp : p < np) (hq : q < np) : f_Mod_isAhead p q G = rI (b2i (ahO pt p q)) G := by
  have e2 : f_Mod_ofPoint (p : Int) 2 G = rI (pt p 2) G := r_ofPoint hP ho.1 hp (q := 2) (by decide)
  have f2 : f_Mod_ofPoint (q : Int) 2 G = rI (pt q 2) G := r_ofPoint hP ho.1 hq (q := 2) (by decide)
  rw [e_f_Mod_isAhead]
  simp only [e2, f2, bI_r]
  unfold ahO
  by_cases q1 : pt p 2 = pt q 2
  · rw [if_pos q1]
    by_cases q2 : p < q
    · rw [if_pos (by omega), decide_eq_true (Or.inr ⟨q1, q2⟩)]
      rfl
    · rw [if_neg (by omega), decide_eq_false (by omega)]
      rfl
  · rw [if_neg q1]
    by_cases q2 : pt q 2 < pt p 2
    · rw [if_pos q2, decide_eq_true (Or.inl q2)]
      rfl
    · rw [if_neg q2, decide_eq_false (by omega)]
      rfl
theorem g_isBefore {i : Int} (hP : PtC G 0 np pt) (ho : okPt np pt) {p q : Nat} (hp : p < np) (hq : q < np) : f_Lab_isBefore i p q G = rI (b2i (ahO pt p q)) G := by
  have hr := (ho.2 p hp).2.2.1
  have hr2 := (ho.2 q hq).2.2.1
  have e2 : f_Poi_valueOf 0 (p : Int) 2 G = rI (pt p 2) G := g_valueOf hP ho.1 hp (q := 2) (by decide)
  have f2 : f_Poi_valueOf 0 (q : Int) 2 G = rI (pt q 2) G := g_valueOf hP ho.1 hq (q := 2) (by decide)
  rw [e_f_Lab_isBefore]
  simp only [e2, f2, bI_r]
  rw [wr_id (by omega) (by omega)]
  unfold ahO
  by_cases q1 : 0 < pt p 2 - pt q 2
  · rw [if_pos q1, decide_eq_true (by omega)]
    rfl
  · rw [if_neg q1]
    by_cases q2 : pt p 2 - pt q 2 = 0
    · rw [if_pos q2]
      by_cases q3 : p < q
      · rw [if_pos (by omega), decide_eq_true (by omega)]
        rfl
      · rw [if_neg (by omega), decide_eq_false (by omega)]
        rfl
    · rw [if_neg q2, decide_eq_false (by omega)]
      rfl
end LAB
