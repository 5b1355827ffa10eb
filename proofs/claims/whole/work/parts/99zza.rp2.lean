/-! ===== read: the reference passes digits and numbers ===== -/
section ST
variable {G G1 : GG} {tn a M m : Nat} {tx nu : Nat → Int} {lo hi : Int}
theorem pN_d (hlo : 0 ≤ lo) (hhi : hi ≤ 9) : pN tx tn lo hi a = if lo ≤ dg tx tn a ∧ dg tx tn a ≤ hi then (1, dg tx tn a, a + 1) else (0, 0, a) := by
  unfold pN
  have hb := dg_b tx tn a
  by_cases d0 : dg tx tn a = -1
  · have c : ¬ (lo ≤ dg tx tn a ∧ dg tx tn a ≤ hi) := by omega
    rw [if_pos d0, if_neg c]
  · have c : ¬ (0 < dg tx tn a ∧ dg tx tn a * 10 ≤ hi ∧ lo ≤ dg tx tn a * 10 + 9) := by omega
    rw [if_neg d0, if_neg c]
theorem w_dig {x : Int} (h : -1 ≤ x ∧ x ≤ 126) : wr (x - 48) = x - 48 := wr_id (by omega) (by omega)
theorem w_dig2 {x : Int} (h : 0 ≤ x ∧ x ≤ 9) : wr (48 + x) = 48 + x := wr_id (by omega) (by omega)
theorem sr_digit (ht : tn ≤ 60) (hx : ∀ j : Nat, j < tn → 32 ≤ tx j ∧ tx j ≤ 126) (h : ScR G tn tx a M m nu) (ha : a ≤ tn) (hlo : 0 ≤ lo) (hlh : lo ≤ hi) (hhi : hi ≤ 9) : SrR G M tn tx (f_Mod_takesDigit lo hi G) (sN tx tn lo hi a m nu) := by
  have e := e_f_Mod_takesDigit lo hi G
  have hb := hr_b (a := a) hx
  rw [r_here h.1 h.2.1 ht, bI_r, w_dig2 (show 0 ≤ lo ∧ lo ≤ 9 by omega), w_dig2 (show 0 ≤ hi ∧ hi ≤ 9 by omega)] at e
  unfold sN
  rw [pN_d hlo hhi]
  have hd := hr_dg (tx := tx) (tn := tn) (a := a)
  by_cases c : lo ≤ dg tx tn a ∧ dg tx tn a ≤ hi
  · have c1 : 48 + lo ≤ hr tx tn a ∧ hr tx tn a ≤ 48 + hi := by omega
    have c2 : dg tx tn a = hr tx tn a - 48 := by omega
    have c3 : dg tx tn a ≠ -1 := by omega
    have hl := dg_lt c3
    rw [r_isIn_t c1, bI_r, if_neg i01, r_here h.1 h.2.1 ht, bI_r, w_dig hb, ← c2] at e
    obtain ⟨G1, e1, hF, h20, hA, -⟩ := r_adds h (by omega) (dg tx tn a)
    rw [e1, bV_r, h20, w_at1 (by omega)] at e
    rw [if_pos c]
    exact ⟨_, e, hF.trans (FrE.p20 M _ _), up_at _ _ _ _ _, hl, Or.inr rfl, fun _ => hA (a + 1) (Nat.lt_succ_self a)⟩
  · have c1 : ¬ (48 + lo ≤ hr tx tn a ∧ hr tx tn a ≤ 48 + hi) := by omega
    rw [r_isIn_f c1, bI_r, if_pos rfl] at e
    rw [if_neg c]
    exact ⟨G, e, FrE.refl M G, h.2.1, ha, Or.inl rfl, fun w => absurd (show (0 : Int) = 1 from w) (by decide)⟩
theorem w_two {v e : Int} (hv : 0 ≤ v ∧ v ≤ 9) (he : -1 ≤ e ∧ e ≤ 126) : wr (wr (wr (10 * v) + e) - 48) = 10 * v + e - 48 := by
  rw [wr_id (z := 10 * v) (by omega) (by omega), wr_id (z := 10 * v + e) (by omega) (by omega), wr_id (by omega) (by omega)]
/-- the last step of a number of one digit -/
theorem sr_one (h : ScR G tn tx a M m nu) (ha : a < tn) (ht : tn ≤ 60) (v r4 : Int) (h4 : r4 = 0 ∨ r4 = 1) (r : Int × Int × Nat) (hr1 : r.1 = r4) (hr3 : r.2.2 = a + 1) (hr2 : r4 = 1 → r.2.1 = v) :
    SrR G M tn tx (bV (f_Mod_adds v (up G 25 0 20 ((a + 1 : Nat) : Int))) fun G9 => if 0 ≤ r4 ∧ r4 ≤ 1 then rI r4 G9 else none) (r.1, r.2.2, m + 1, psN nu m r.2.1) := by
  have h9 := h.at1 (Nat.le_succ a)
  obtain ⟨G1, e1, hF, h20, -, hA⟩ := r_adds h9 (by omega) v
  have c : 0 ≤ r4 ∧ r4 ≤ 1 := by omega
  rw [e1, bV_r, if_pos c]
  have h5 := h.2.2.2.2
  refine ⟨G1, by rw [hr1], (FrE.p20 M G _).trans hF, by rw [hr3]; exact h20, by rw [hr3]; exact ha, by rw [hr1]; exact h4, fun w => ?_⟩
  rw [hr3, hr2 (hr1.symm.trans w)]
  exact hA (by omega)
end ST
