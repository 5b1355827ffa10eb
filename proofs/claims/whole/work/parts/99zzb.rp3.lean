/-! ===== read: the reference passes a number ===== -/
section SU
variable {G : GG} {tn a M m : Nat} {tx nu : Nat → Int} {lo hi t : Int}
theorem sr_num2 (ht : tn ≤ 60) (hx : ∀ j : Nat, j < tn → 32 ≤ tx j ∧ tx j ≤ 126) (h : ScR G tn tx a M m nu) (ha : a < tn) (hhi : 9 ≤ hi) (hd : 1 ≤ dg tx tn a ∧ dg tx tn a * 10 ≤ hi ∧ lo ≤ dg tx tn a * 10 + 9) (r4 : Int) (h4 : r4 = if lo ≤ dg tx tn a then 1 else 0) :
    SrR G M tn tx (bI (f_Mod_here (up G 25 0 20 ((a + 1 : Nat) : Int))) fun r8 G7 => bI (f_Mod_here G7) fun r11 G10 => bI (f_Mod_isIn r11 48 57 G10) fun r13 G12 =>
      if r13 = 0 then bV (f_Mod_adds (dg tx tn a) G12) fun G14 => if 0 ≤ r4 ∧ r4 ≤ 1 then rI r4 G14 else none
      else bI (f_Mod_isIn (wr (wr (wr (10 * dg tx tn a) + r8) - 48)) lo hi G12) fun r16 G15 =>
        if r16 = 0 then bV (f_Mod_adds (dg tx tn a) G15) fun G17 => if 0 ≤ r4 ∧ r4 ≤ 1 then rI r4 G17 else none
        else bV (f_Mod_adds (wr (wr (wr (10 * dg tx tn a) + r8) - 48)) (up G15 25 0 20 (wr ((G15 25 0 20) + 1)))) fun G18 => rI 1 G18) (sN tx tn lo hi a m nu) := by
  have h9 := h.at1 (Nat.le_succ a)
  have hb := hr_b (a := a + 1) hx
  have hdb := dg_b tx tn a
  have d0 : ¬ dg tx tn a = -1 := by omega
  have c1 : 0 < dg tx tn a ∧ dg tx tn a * 10 ≤ hi ∧ lo ≤ dg tx tn a * 10 + 9 := ⟨by omega, hd.2⟩
  have h01 : r4 = 0 ∨ r4 = 1 := by
    rw [h4]
    by_cases q : lo ≤ dg tx tn a
    · rw [if_pos q]
      exact Or.inr rfl
    · rw [if_neg q]
      exact Or.inl rfl
  have hdd : 0 ≤ dg tx tn a ∧ dg tx tn a ≤ 9 := by omega
  have one : ∀ r : Int × Int × Nat, r = (if lo ≤ dg tx tn a ∧ dg tx tn a ≤ hi then (1, dg tx tn a, a + 1) else (0, 0, a + 1)) → SrR G M tn tx (bV (f_Mod_adds (dg tx tn a) (up G 25 0 20 ((a + 1 : Nat) : Int))) fun G9 => if 0 ≤ r4 ∧ r4 ≤ 1 then rI r4 G9 else none) (r.1, r.2.2, m + 1, psN nu m r.2.1) := fun r hr9 => by
    by_cases q : lo ≤ dg tx tn a
    · have q2 : lo ≤ dg tx tn a ∧ dg tx tn a ≤ hi := ⟨q, by omega⟩
      rw [if_pos q2] at hr9
      rw [if_pos q] at h4
      exact sr_one h ha ht _ r4 h01 r (by rw [hr9, h4]) (by rw [hr9]) (fun _ => by rw [hr9])
    · have q2 : ¬ (lo ≤ dg tx tn a ∧ dg tx tn a ≤ hi) := fun z => q z.1
      rw [if_neg q2] at hr9
      rw [if_neg q] at h4
      exact sr_one h ha ht _ r4 h01 r (by rw [hr9, h4]) (by rw [hr9]) (fun z => by rw [h4] at z; exact absurd z (by decide))
  rw [r_here h9.1 h9.2.1 ht, bI_r, r_here h9.1 h9.2.1 ht, bI_r, w_two hdd hb]
  have hp : pN tx tn lo hi a = if dg tx tn (a + 1) ≠ -1 ∧ lo ≤ dg tx tn a * 10 + dg tx tn (a + 1) ∧ dg tx tn a * 10 + dg tx tn (a + 1) ≤ hi then (1, dg tx tn a * 10 + dg tx tn (a + 1), a + 2) else if lo ≤ dg tx tn a ∧ dg tx tn a ≤ hi then (1, dg tx tn a, a + 1) else (0, 0, a + 1) := by
    unfold pN
    rw [if_neg d0, if_pos c1]
  have hd2 := hr_dg (tx := tx) (tn := tn) (a := a + 1)
  unfold sN
  by_cases q : 48 ≤ hr tx tn (a + 1) ∧ hr tx tn (a + 1) ≤ 57
  · rw [r_isIn_t q, bI_r, if_neg i01]
    have e2 : dg tx tn (a + 1) = hr tx tn (a + 1) - 48 := by omega
    have e3 : 10 * dg tx tn a + hr tx tn (a + 1) - 48 = dg tx tn a * 10 + dg tx tn (a + 1) := by omega
    have e4 : dg tx tn (a + 1) ≠ -1 := by omega
    rw [e3]
    by_cases q2 : lo ≤ dg tx tn a * 10 + dg tx tn (a + 1) ∧ dg tx tn a * 10 + dg tx tn (a + 1) ≤ hi
    · have q3 : dg tx tn (a + 1) ≠ -1 ∧ lo ≤ dg tx tn a * 10 + dg tx tn (a + 1) ∧ dg tx tn a * 10 + dg tx tn (a + 1) ≤ hi := ⟨e4, q2⟩
      have hl := dg_lt e4
      rw [r_isIn_t q2, bI_r, if_neg i01, h9.2.1, w_at1 (show a + 1 ≤ 100 by omega), hp, if_pos q3]
      have h8 := h9.at1 (Nat.le_succ (a + 1))
      have h5 := h.2.2.2.2
      obtain ⟨G1, e1, hF, h20, -, hA⟩ := r_adds h8 (by omega) (dg tx tn a * 10 + dg tx tn (a + 1))
      rw [e1, bV_r]
      exact ⟨G1, rfl, ((FrE.p20 M G _).trans (FrE.p20 M _ _)).trans hF, h20, hl, Or.inr rfl, fun _ => hA (by omega)⟩
    · have q3 : ¬ (dg tx tn (a + 1) ≠ -1 ∧ lo ≤ dg tx tn a * 10 + dg tx tn (a + 1) ∧ dg tx tn a * 10 + dg tx tn (a + 1) ≤ hi) := fun z => q2 z.2
      rw [r_isIn_f q2, bI_r, if_pos rfl]
      rw [if_neg q3] at hp
      exact one _ hp
  · rw [r_isIn_f q, bI_r, if_pos rfl]
    have q3 : ¬ (dg tx tn (a + 1) ≠ -1 ∧ lo ≤ dg tx tn a * 10 + dg tx tn (a + 1) ∧ dg tx tn a * 10 + dg tx tn (a + 1) ≤ hi) := fun z => by
      have := z.1
      omega
    rw [if_neg q3] at hp
    exact one _ hp
theorem sr_num (ht : tn ≤ 60) (hx : ∀ j : Nat, j < tn → 32 ≤ tx j ∧ tx j ≤ 126) (h : ScR G tn tx a M m nu) (ha : a ≤ tn) (hlo : 0 ≤ lo ∧ lo ≤ 9) (h9 : mMin 9 hi = 9) (h10 : iDiv hi 10 = t) (htt : 0 ≤ t ∧ t ≤ 9 ∧ t * 10 ≤ hi ∧ hi < t * 10 + 10 ∧ 9 ≤ hi) : SrR G M tn tx (f_Mod_takesNumber lo hi G) (sN tx tn lo hi a m nu) := by
  have e := e_f_Mod_takesNumber lo hi G
  have hb := hr_b (a := a) hx
  have hdb := dg_b tx tn a
  have hd := hr_dg (tx := tx) (tn := tn) (a := a)
  rw [r_here h.1 h.2.1 ht, bI_r, w_dig hb, h9, h10] at e
  by_cases q : 48 ≤ hr tx tn a ∧ hr tx tn a ≤ 57
  · have e2 : dg tx tn a = hr tx tn a - 48 := by omega
    have d0 : ¬ dg tx tn a = -1 := by omega
    have hl := dg_lt d0
    rw [← e2] at e
    by_cases qB : 1 ≤ dg tx tn a ∧ dg tx tn a ≤ t
    · have c1 : 1 ≤ dg tx tn a ∧ dg tx tn a * 10 ≤ hi ∧ lo ≤ dg tx tn a * 10 + 9 := by omega
      by_cases qA : lo ≤ dg tx tn a ∧ dg tx tn a ≤ 9
      · rw [r_isIn_t qA, bI_r, r_isIn_t qB, bI_r, if_neg i01, h.2.1, w_at1 (by omega)] at e
        simp only [if_neg i01] at e
        rw [e]
        exact sr_num2 ht hx h hl htt.2.2.2.2 c1 1 (by rw [if_pos qA.1])
      · have qA1 : ¬ lo ≤ dg tx tn a := fun z => qA ⟨z, hdb.2⟩
        rw [r_isIn_f qA, bI_r, r_isIn_t qB, bI_r, if_pos rfl, if_neg i01, h.2.1, w_at1 (by omega)] at e
        simp only [if_neg i01] at e
        rw [e]
        exact sr_num2 ht hx h hl htt.2.2.2.2 c1 0 (by rw [if_neg qA1])
    · have c1 : ¬ (0 < dg tx tn a ∧ dg tx tn a * 10 ≤ hi ∧ lo ≤ dg tx tn a * 10 + 9) := by omega
      have hp : pN tx tn lo hi a = if lo ≤ dg tx tn a ∧ dg tx tn a ≤ hi then (1, dg tx tn a, a + 1) else (0, 0, a) := by
        unfold pN
        rw [if_neg d0, if_neg c1]
      by_cases qA : lo ≤ dg tx tn a ∧ dg tx tn a ≤ 9
      · have q2 : lo ≤ dg tx tn a ∧ dg tx tn a ≤ hi := ⟨qA.1, by omega⟩
        have h9' := h.at1 (Nat.le_succ a)
        rw [r_isIn_t qA, bI_r, r_isIn_f qB, bI_r, if_neg i01, h.2.1, w_at1 (by omega), r_here h9'.1 h9'.2.1 ht, bI_r, if_pos rfl] at e
        rw [if_pos q2] at hp
        rw [e]
        unfold sN
        exact sr_one h hl ht _ 1 (Or.inr rfl) _ (by rw [hp]) (by rw [hp]) (fun _ => by rw [hp])
      · have q2 : ¬ (lo ≤ dg tx tn a ∧ dg tx tn a ≤ hi) := fun z => qA ⟨z.1, hdb.2⟩
        rw [r_isIn_f qA, bI_r, r_isIn_f qB, bI_r, if_pos rfl, if_pos rfl] at e
        rw [if_neg q2] at hp
        unfold sN
        rw [hp]
        exact ⟨G, e, FrE.refl M G, h.2.1, ha, Or.inl rfl, fun w => absurd (show (0 : Int) = 1 from w) (by decide)⟩
  · have e2 : dg tx tn a = -1 := by omega
    have qA : ¬ (lo ≤ hr tx tn a - 48 ∧ hr tx tn a - 48 ≤ 9) := by omega
    have qB : ¬ (1 ≤ hr tx tn a - 48 ∧ hr tx tn a - 48 ≤ t) := by omega
    rw [r_isIn_f qA, bI_r, r_isIn_f qB, bI_r, if_pos rfl, if_pos rfl] at e
    unfold sN
    have hp : pN tx tn lo hi a = (0, 0, a) := by
      unfold pN
      rw [if_pos e2]
    rw [hp]
    exact ⟨G, e, FrE.refl M G, h.2.1, ha, Or.inl rfl, fun w => absurd (show (0 : Int) = 1 from w) (by decide)⟩
end SU
