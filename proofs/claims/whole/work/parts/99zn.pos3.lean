/-! ===== read: a position passed ===== -/
section SG
variable {G G1 : GG} {tn : Nat} {tx : Nat → Int} {a z : Nat} {nu : Nat → Int}
/-- what passing a position leaves -/
def PsC (G : GG) (tn : Nat) (tx : Nat → Int) (z : Nat) (nu : Nat → Int) (L : RS) (r : Int × Int × Int × Nat) : Prop :=
  ∃ G1, L = rI r.1 G1 ∧ FrS G G1 ∧ TxC G1 tn tx ∧ G1 21 0 2 = (r.2.2.2 : Int) ∧ (r.1 = 1 → ScC G1 tn tx r.2.2.2 (z + 1 + 1) (psN (psN nu z r.2.1) (z + 1) r.2.2.1))
theorem g_position (h : ScC G tn tx a z nu) (hz : z < 10) (ht : tn ≤ 60) (ha : a ≤ tn) : PsC G tn tx z nu (f_Scr_passPosition G) (pP tx tn a) := by
  obtain ⟨G1, e1, F1, t1, p1, s1⟩ := g_number (lo := 0) (hi := 63) h (by omega) ht (by omega)
  obtain ⟨q1, q2, q3, q4⟩ := pN_sp (tx := tx) (tn := tn) (a := a) (lo := 0) (hi := 63)
  have e := e_f_Scr_passPosition G
  rw [e1, bI_r] at e
  unfold pP
  generalize pN tx tn 0 63 a = r at *
  by_cases c0 : r.1 = 0
  · rw [if_pos c0] at e
    rw [if_pos c0]
    exact ⟨G1, e, F1, t1, p1, fun w => absurd (show (0 : Int) = 1 from w) (by decide)⟩
  · have c1 : r.1 = 1 := q1.resolve_left c0
    rw [if_neg c0] at e
    rw [if_neg c0]
    by_cases d : chAt tx tn 44 r.2.2
    · rw [if_pos d]
      rw [g_pass_t t1 p1 ht d, bI_r, if_neg i01] at e
      have h3 := (s1 c1).at1 (r.2.2 + 1)
      have hl := d.1
      obtain ⟨G2, e2, F2, t2, p2, s2⟩ := g_number (lo := 0) (hi := 63) h3 (by omega) ht (by omega)
      obtain ⟨u1, u2, u3, u4⟩ := pN_sp (tx := tx) (tn := tn) (a := r.2.2 + 1) (lo := 0) (hi := 63)
      rw [e2, bI_r] at e
      generalize pN tx tn 0 63 (r.2.2 + 1) = r' at *
      have FF := (F1.trans (FSc.at1 G1 _)).trans F2
      by_cases c2 : r'.1 = 0
      · rw [if_pos c2] at e
        rw [if_pos c2]
        exact ⟨G2, e, FF, t2, p2, fun w => absurd (show (0 : Int) = 1 from w) (by decide)⟩
      · rw [if_neg c2] at e
        rw [if_neg c2]
        exact ⟨G2, e, FF, t2, p2, fun _ => s2 (u1.resolve_left c2)⟩
    · rw [if_neg d]
      rw [g_pass_f t1 p1 ht d, bI_r, if_pos rfl] at e
      exact ⟨G1, e, F1, t1, p1, fun w => absurd (show (0 : Int) = 1 from w) (by decide)⟩
end SG
