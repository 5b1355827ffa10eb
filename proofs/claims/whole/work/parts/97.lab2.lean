/-! ===== labels: what speaks against a place ===== -/
section LABR
variable {np : Nat} {pt : Nat → Nat → Int} {G : GG}
theorem r_overlap (hP : PtR G np pt) (ho : okPt np pt) {p q : Nat} (hp : p < np) (hq : q < np) (t u : Int) : f_Mod_overlap p t q u G = rI (b2i (ovO pt p t q u)) G := by
  obtain ⟨h1, h2, h3, h4, h5, h6⟩ := ho.2 p hp
  obtain ⟨k1, k2, k3, k4, k5, k6⟩ := ho.2 q hq
  have b1 := lf_bd ho hp t
  have b2 := lw_bd ho hp t
  have b3 := lf_bd ho hq u
  have b4 := lw_bd ho hq u
  have e3 : f_Mod_ofPoint (p : Int) 3 G = rI (pt p 3) G := r_ofPoint hP ho.1 hp (q := 3) (by decide)
  have e4 : f_Mod_ofPoint (p : Int) 4 G = rI (pt p 4) G := r_ofPoint hP ho.1 hp (q := 4) (by decide)
  have f3 : f_Mod_ofPoint (q : Int) 3 G = rI (pt q 3) G := r_ofPoint hP ho.1 hq (q := 3) (by decide)
  have f4 : f_Mod_ofPoint (q : Int) 4 G = rI (pt q 4) G := r_ofPoint hP ho.1 hq (q := 4) (by decide)
  rw [e_f_Mod_overlap]
  simp only [r_left hP ho hp, r_low hP ho hp, r_left hP ho hq, r_low hP ho hq, bI_r, e3, e4, f3, f4]
  rw [wr_id (z := lfO pt p t + pt p 3) (by omega) (by omega), wr_id (z := lfO pt q u + pt q 3) (by omega) (by omega), wr_id (z := lwO pt p t + pt p 4) (by omega) (by omega), wr_id (z := lwO pt q u + pt q 4) (by omega) (by omega)]
  unfold ovO
  by_cases q1 : lfO pt q u < lfO pt p t + pt p 3 <;> by_cases q2 : lfO pt p t < lfO pt q u + pt q 3 <;> by_cases q3 : lwO pt q u < lwO pt p t + pt p 4 <;> by_cases q4 : lwO pt p t < lwO pt q u + pt q 4 <;> simp [q1, q2, q3, q4, b2i]
theorem g_overlaps {i : Int} (hP : PtC G 0 np pt) (ho : okPt np pt) {q : Nat} (hq : q < np) {u : Int} (hu : 0 ≤ u) (hG : G 20 i q = u) (x y x2 y2 : Int) : f_Lab_overlaps i q x y x2 y2 G = rI (b2i (decide (lfO pt q u ≤ x2 ∧ x < lfO pt q u + pt q 3 ∧ lwO pt q u ≤ y2 ∧ y < lwO pt q u + pt q 4))) G := by
  obtain ⟨k1, k2, k3, k4, k5, k6⟩ := ho.2 q hq
  have hn := ho.1
  have b3 := lf_bd ho hq u
  have b4 := lw_bd ho hq u
  have f3 : f_Poi_valueOf 0 (q : Int) 3 G = rI (pt q 3) G := g_valueOf hP ho.1 hq (q := 3) (by decide)
  have f4 : f_Poi_valueOf 0 (q : Int) 4 G = rI (pt q 4) G := g_valueOf hP ho.1 hq (q := 4) (by decide)
  have i1 : (0 : Int) ≤ q ∧ (q : Int) < 12 := by omega
  rw [e_f_Lab_overlaps]
  simp only [if_pos i1, hG, g_leftOf hP ho hq, g_lowOf hP ho hq hu, bI_r, f3, f4]
  rw [wr_id (z := lfO pt q u + pt q 3) (by omega) (by omega), wr_id (z := lwO pt q u + pt q 4) (by omega) (by omega)]
  generalize lfO pt q u = a
  generalize lwO pt q u = b
  by_cases q1 : x2 < a
  · rw [if_pos q1, decide_eq_false (by omega)]
    rfl
  · rw [if_neg q1]
    by_cases q2 : x < a + pt q 3
    · rw [if_pos q2]
      by_cases q3 : y2 < b
      · rw [if_pos q3, decide_eq_false (by omega)]
        rfl
      · rw [if_neg q3]
        by_cases q4 : y < b + pt q 4
        · rw [if_pos q4, decide_eq_true (by omega)]
          rfl
        · rw [if_neg q4, decide_eq_false (by omega)]
          rfl
    · rw [if_neg q2, decide_eq_false (by omega)]
      rfl
def shO (pt : Nat → Nat → Int) (lr : Int) (p : Nat) : Bool := decide (lr ≤ pt p 2)
def cpO (np : Nat) (pt : Nat → Nat → Int) (lr : Int) (p : Nat) (t : Int) : Bool := anyB 0 np fun q => shO pt lr q && cvO pt p t (pt q 0) (pt q 1)
def clO (np : Nat) (pt : Nat → Nat → Int) (pl : Nat → Int) (p : Nat) (t : Int) : Bool := anyB 0 np fun q => !decide (pl q = -1) && (ahO pt q p && ovO pt p t q (pl q))
def cxO (nl : Nat) (sz : Nat → Nat) (cd : Nat → Nat → Int) (pt : Nat → Nat → Int) (p : Nat) (t : Int) : Bool := anyB 0 nl fun l => anyB 0 (sz l) fun k => cvO pt p t (cd l k / 64) (cd l k % 64)
theorem g_coversPoint {i : Int} (hP : PtC G 0 np pt) (ho : okPt np pt) {lr : Int} (hlr : G 19 i 3 = lr) {p : Nat} (hp : p < np) (t : Int) : f_Lab_coversShownPoint i (lfO pt p t) (lwO pt p t) (lfO pt p t + pt p 3 - 1) (lwO pt p t + pt p 4 - 1) G = rI (b2i (cpO np pt lr p t)) G := by
  have hn := ho.1
  rw [e_f_Lab_coversShownPoint]
  have h := loop_any (l := fun (k : Nat) => l_Lab_coversShownPoint_3 i (lfO pt p t) (lwO pt p t) (lfO pt p t + pt p 3 - 1) (lwO pt p t + pt p 4 - 1) k G) (f := fun q => shO pt lr q && cvO pt p t (pt q 0) (pt q 1)) (rf := rI 0 G) (rt := rI 1 G) np 0 (fun k _ hk hf => ?_) (fun k _ hk hf => ?_) ?_
  · refine h.trans ?_
    unfold cpO
    cases anyB 0 np (fun q => shO pt lr q && cvO pt p t (pt q 0) (pt q 1)) with
    | true => rfl
    | false => rfl
  · have hk : k < np := by omega
    have f0 : f_Poi_valueOf 0 (k : Int) 0 G = rI (pt k 0) G := g_valueOf hP ho.1 hk (q := 0) (by decide)
    have f1 : f_Poi_valueOf 0 (k : Int) 1 G = rI (pt k 1) G := g_valueOf hP ho.1 hk (q := 1) (by decide)
    have f2 : f_Poi_valueOf 0 (k : Int) 2 G = rI (pt k 2) G := g_valueOf hP ho.1 hk (q := 2) (by decide)
    rw [Bool.and_eq_true] at hf
    unfold shO cvO at hf
    have a1 := of_decide_eq_true hf.1
    have a2 := of_decide_eq_true hf.2
    have e := e_l_Lab_coversShownPoint_3 i (lfO pt p t) (lwO pt p t) (lfO pt p t + pt p 3 - 1) (lwO pt p t + pt p 4 - 1) k G
    simp only [f0, f1, f2, bI_r, hP.1, hlr] at e
    rw [if_pos (by omega), if_neg (by omega), if_neg (by omega), if_neg (by omega), if_neg (by omega), if_neg (by omega)] at e
    exact e
  · have hk : k < np := by omega
    have f0 : f_Poi_valueOf 0 (k : Int) 0 G = rI (pt k 0) G := g_valueOf hP ho.1 hk (q := 0) (by decide)
    have f1 : f_Poi_valueOf 0 (k : Int) 1 G = rI (pt k 1) G := g_valueOf hP ho.1 hk (q := 1) (by decide)
    have f2 : f_Poi_valueOf 0 (k : Int) 2 G = rI (pt k 2) G := g_valueOf hP ho.1 hk (q := 2) (by decide)
    have e := e_l_Lab_coversShownPoint_3 i (lfO pt p t) (lwO pt p t) (lfO pt p t + pt p 3 - 1) (lwO pt p t + pt p 4 - 1) k G
    have ek : wr ((k : Int) + 1) = ((k + 1 : Nat) : Int) := wr_id (by omega) (by omega)
    simp only [f0, f1, f2, bI_r, hP.1, hlr, ek] at e
    rw [if_pos (by omega)] at e
    refine e.trans ?_
    clear e
    by_cases c1 : pt k 0 < lfO pt p t
    · rw [if_pos c1]
    · rw [if_neg c1]
      by_cases c2 : lfO pt p t + pt p 3 - 1 < pt k 0
      · rw [if_pos c2]
      · rw [if_neg c2]
        by_cases c3 : pt k 1 < lwO pt p t
        · rw [if_pos c3]
        · rw [if_neg c3]
          by_cases c4 : lwO pt p t + pt p 4 - 1 < pt k 1
          · rw [if_pos c4]
          · rw [if_neg c4]
            by_cases c5 : pt k 2 < lr
            · rw [if_pos c5]
            · exfalso
              unfold shO cvO at hf
              rw [decide_eq_true (by omega), decide_eq_true (by omega)] at hf
              cases hf
  · show l_Lab_coversShownPoint_3 i (lfO pt p t) (lwO pt p t) (lfO pt p t + pt p 3 - 1) (lwO pt p t + pt p 4 - 1) ((0 + np : Nat) : Int) G = _
    rw [e_l_Lab_coversShownPoint_3, hP.1, if_neg (by omega)]
end LABR
