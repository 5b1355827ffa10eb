/-! ===== read: the reference passes a position; vertices ===== -/
section SW
variable {G : GG} {tn a M m : Nat} {tx nu : Nat → Int} {L : RS} {r r' : PR}
theorem SrR.cg (h : SrR G M tn tx L r) (h1 : r.1 = r'.1) (h2 : r.2.1 = r'.2.1) (h3 : r.1 = 1 → r = r') : SrR G M tn tx L r' := by
  obtain ⟨G1, e, hF, hp, hn, h01, hs⟩ := h
  refine ⟨G1, by rw [← h1]; exact e, hF, by rw [← h2]; exact hp, by rw [← h2]; exact hn, by rw [← h1]; exact h01, fun w => ?_⟩
  have w2 : r.1 = 1 := by rw [h1]; exact w
  rw [← h3 w2]
  exact hs w2
theorem sP_b : (bindP (sN tx tn 0 63 a m nu) fun b z nu => bindP (sC tx tn 44 b z nu) fun b z nu => sN tx tn 0 63 b z nu).1 = (sP tx tn a m nu).1 ∧ (bindP (sN tx tn 0 63 a m nu) fun b z nu => bindP (sC tx tn 44 b z nu) fun b z nu => sN tx tn 0 63 b z nu).2.1 = (sP tx tn a m nu).2.1 ∧ ((bindP (sN tx tn 0 63 a m nu) fun b z nu => bindP (sC tx tn 44 b z nu) fun b z nu => sN tx tn 0 63 b z nu).1 = 1 → (bindP (sN tx tn 0 63 a m nu) fun b z nu => bindP (sC tx tn 44 b z nu) fun b z nu => sN tx tn 0 63 b z nu) = sP tx tn a m nu) := by
  unfold sP pP bindP sN sC
  dsimp only
  by_cases c0 : (pN tx tn 0 63 a).1 = 0
  · rw [if_pos c0, if_pos c0]
    exact ⟨rfl, rfl, fun w => absurd (show (0 : Int) = 1 from w) (by decide)⟩
  · rw [if_neg c0, if_neg c0]
    by_cases c1 : chAt tx tn 44 (pN tx tn 0 63 a).2.2
    · rw [if_pos c1, if_pos c1, if_neg i01, if_pos c1]
      by_cases c2 : (pN tx tn 0 63 ((pN tx tn 0 63 a).2.2 + 1)).1 = 0
      · rw [if_pos c2]
        exact ⟨c2, rfl, fun w => absurd (c2.symm.trans w) (by decide)⟩
      · obtain ⟨q1, -⟩ := pN_sp (tx := tx) (tn := tn) (a := (pN tx tn 0 63 a).2.2 + 1) (lo := 0) (hi := 63)
        have c3 := q1.resolve_left c2
        rw [if_neg c2]
        refine ⟨c3, rfl, fun _ => ?_⟩
        rw [c3]
    · rw [if_neg c1, if_pos rfl, if_neg c1, if_neg c1]
      exact ⟨rfl, rfl, fun w => absurd (show (0 : Int) = 1 from w) (by decide)⟩
theorem n63 : mMin 9 63 = 9 ∧ iDiv 63 10 = 6 := by decide
theorem n12 : mMin 9 12 = 9 ∧ iDiv 12 10 = 1 := by decide
theorem n15 : mMin 9 15 = 9 ∧ iDiv 15 10 = 1 := by decide
theorem sr_63 (ht : tn ≤ 60) (hx : ∀ j : Nat, j < tn → 32 ≤ tx j ∧ tx j ≤ 126) (h : ScR G tn tx a M m nu) (ha : a ≤ tn) : SrR G M tn tx (f_Mod_takesNumber 0 63 G) (sN tx tn 0 63 a m nu) := sr_num ht hx h ha (by decide) n63.1 n63.2 (by decide)
theorem sr_pos (ht : tn ≤ 60) (hx : ∀ j : Nat, j < tn → 32 ≤ tx j ∧ tx j ≤ 126) (h : ScR G tn tx a M m nu) (ha : a ≤ tn) : SrR G M tn tx (f_Mod_takesPlace G) (sP tx tn a m nu) := by
  rw [e_f_Mod_takesPlace]
  have q : SrR G M tn tx (bI (f_Mod_takesNumber 0 63 G) fun r2 G1 => if r2 = 0 then rI 0 G1 else bI (f_Mod_takes 44 G1) fun r4 G3 => if r4 = 0 then rI 0 G3 else bI (f_Mod_takesNumber 0 63 G3) fun r6 G5 => if r6 = 0 then rI 0 G5 else rI 1 G5) (bindP (sN tx tn 0 63 a m nu) fun b z nu => bindP (sC tx tn 44 b z nu) fun b z nu => sN tx tn 0 63 b z nu) :=
    SrR.bind (sr_63 ht hx h ha) fun G1 s n => SrR.bind (sr_ch ht (by decide) s n) fun G1 s n => SrR.last (sr_63 ht hx s n)
  exact q.cg sP_b.1 sP_b.2.1 sP_b.2.2
/-- the reference's vertices so far -/
def ScL (G : GG) (tn : Nat) (tx : Nat → Int) (b M j : Nat) (V : Nat → Int) : Prop :=
  TxR G tn tx ∧ G 25 0 20 = (b : Int) ∧ G 25 0 21 = ((M + 1 + 2 * j : Nat) : Int) ∧ (∀ k : Nat, k < j → G 40 0 ((M + 1 + 2 * k : Nat) : Int) = V k / 64 ∧ G 40 0 ((M + 2 + 2 * k : Nat) : Int) = V k % 64) ∧ M + 1 + 2 * j ≤ 2 * b
theorem ScL.at1 {b b' j : Nat} {V : Nat → Int} (h : ScL G tn tx b M j V) (hb : b ≤ b') : ScL (up G 25 0 20 (b' : Int)) tn tx b' M j V := by
  obtain ⟨h1, h2, h3, h4, h5⟩ := h
  refine ⟨h1.fr (FrE.p20 0 G _), up_at _ _ _ _ _, ?_, fun k hk => ?_, by omega⟩
  · rw [up_k (by decide)]
    exact h3
  · rw [up_t (by decide), up_t (by decide)]
    exact h4 k hk
/-- a position more -/
def VtR (G : GG) (M tn : Nat) (tx : Nat → Int) (j : Nat) (V : Nat → Int) (L : RS) (r : Int × Int × Int × Nat) : Prop :=
  ∃ G1, L = rI r.1 G1 ∧ FrE M G G1 ∧ G1 25 0 20 = (r.2.2.2 : Int) ∧ (r.1 = 0 ∨ r.1 = 1) ∧ (r.1 = 1 → ScL G1 tn tx r.2.2.2 M (j + 1) (psN V j (r.2.1 * 64 + r.2.2.1)))
theorem sr_vert {b j : Nat} {V : Nat → Int} (ht : tn ≤ 60) (hx : ∀ j : Nat, j < tn → 32 ≤ tx j ∧ tx j ≤ 126) (h : ScL G tn tx b M j V) (hb : b ≤ tn) : VtR G M tn tx j V (f_Mod_takesPlace G) (pP tx tn b) := by
  obtain ⟨h1, h2, h3, h4, h5⟩ := h
  have s0 : ScR G tn tx b (M + 1 + 2 * j) 0 (fun _ => 0) := ⟨h1, h2, h3, fun k hk => absurd hk (Nat.not_lt_zero k), h5⟩
  obtain ⟨G1, e, hF, hp, hn, h01, hs⟩ := sr_pos ht hx s0 hb
  obtain ⟨q1, q2, q3, q4⟩ := pP_sp (tx := tx) (tn := tn) (a := b)
  refine ⟨G1, e, hF.low (by omega), hp, h01, fun w => ?_⟩
  obtain ⟨t1, t2, t3, t4, t5⟩ := hs w
  obtain ⟨g1, g2, g3⟩ := q4 w
  have v0 : G1 40 0 ((M + 1 + 2 * j + 0 : Nat) : Int) = (pP tx tn b).2.1 := by
    have := t4 0 (show 0 < 0 + 1 + 1 by decide)
    exact this
  have v1 : G1 40 0 ((M + 1 + 2 * j + 1 : Nat) : Int) = (pP tx tn b).2.2.1 := by
    have := t4 1 (show 1 < 0 + 1 + 1 by decide)
    exact this
  have t3' : G1 25 0 21 = ((M + 1 + 2 * j + (0 + 1 + 1) : Nat) : Int) := t3
  have t5' : M + 1 + 2 * j + (0 + 1 + 1) ≤ 2 * (pP tx tn b).2.2.2 := t5
  have t2' : G1 25 0 20 = ((pP tx tn b).2.2.2 : Int) := t2
  generalize pP tx tn b = p at *
  refine ⟨t1, t2', ?_, fun k hk => ?_, by omega⟩
  · rw [t3']
    exact congrArg _ (by omega)
  · unfold psN
    by_cases z : k = j
    · rw [if_pos z, z, show M + 2 + 2 * j = M + 1 + 2 * j + 1 by omega, v1]
      refine ⟨v0.trans ?_, ?_⟩
      · omega
      · omega
    · rw [if_neg z, hF.2.2 _ (by omega), hF.2.2 _ (by omega)]
      exact h4 k (by omega)
end SW
