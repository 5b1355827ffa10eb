/-! ===== read: what a position is ===== -/
section SI
variable {tx : Nat → Int} {tn a : Nat}
/-- what a result says of its place and values -/
def PsS (tn a : Nat) (r : Int × Int × Int × Nat) : Prop := (r.1 = 0 ∨ r.1 = 1) ∧ a ≤ r.2.2.2 ∧ (a ≤ tn → r.2.2.2 ≤ tn) ∧ (r.1 = 1 → a < r.2.2.2 ∧ (0 ≤ r.2.1 ∧ r.2.1 ≤ 63) ∧ (0 ≤ r.2.2.1 ∧ r.2.2.1 ≤ 63))
theorem pss_0 {b : Nat} (h : a ≤ b) (h2 : a ≤ tn → b ≤ tn) : PsS tn a (0, 0, 0, b) := ⟨Or.inl rfl, h, h2, fun w => absurd (show (0 : Int) = 1 from w) (by decide)⟩
theorem pP_sp : PsS tn a (pP tx tn a) := by
  obtain ⟨q1, q2, q3, q4⟩ := pN_sp (tx := tx) (tn := tn) (a := a) (lo := 0) (hi := 63)
  unfold pP
  generalize pN tx tn 0 63 a = r at *
  by_cases c0 : r.1 = 0
  · rw [if_pos c0]
    exact pss_0 q2 q3
  · rw [if_neg c0]
    have g1 := q4 (q1.resolve_left c0)
    by_cases d : chAt tx tn 44 r.2.2
    · rw [if_pos d]
      have hl := d.1
      obtain ⟨u1, u2, u3, u4⟩ := pN_sp (tx := tx) (tn := tn) (a := r.2.2 + 1) (lo := 0) (hi := 63)
      generalize pN tx tn 0 63 (r.2.2 + 1) = r' at *
      by_cases c2 : r'.1 = 0
      · rw [if_pos c2]
        exact pss_0 (by omega) (fun _ => u3 hl)
      · rw [if_neg c2]
        have g2 := u4 (u1.resolve_left c2)
        have g3 : a < r'.2.2 := by omega
        exact ⟨Or.inr rfl, Nat.le_of_lt g3, fun _ => u3 hl, fun _ => ⟨g3, g1.2, g2.2⟩⟩
    · rw [if_neg d]
      exact pss_0 q2 q3
end SI
