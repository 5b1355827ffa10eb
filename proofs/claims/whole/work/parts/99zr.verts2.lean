/-! ===== read: all vertices of a line passed ===== -/
/-- the vertices of a line -/
def pV (tx : Nat → Int) (tn a : Nat) : Int × Nat × (Nat → Int) × Nat :=
  if (pP tx tn a).1 = 0 then (0, 0, fun _ => 0, (pP tx tn a).2.2.2)
  else pL tx tn 9 1 (pP tx tn a).2.2.2 (psN (fun _ => 0) 0 ((pP tx tn a).2.1 * 64 + (pP tx tn a).2.2.1))
section SK
variable {tn a : Nat} {tx nu : Nat → Int} {G : GG}
theorem g_vertices (ht : tn ≤ 60) (ha : a ≤ tn) (h : ScC G tn tx a 0 (fun _ => 0)) : VsC G tn tx (f_Scr_passVertices G) (pV tx tn a) := by
  have e0 := e_f_Scr_passVertices G
  have e := e_l_Scr_passVertices_2 0 G
  have c : (0 : Int) < 10 := by decide
  have c0 : ¬ (0 : Int) < 0 := by decide
  rw [if_pos c, if_neg c0] at e
  unfold pV
  obtain ⟨G1, e1, F1, t1, p1, s1⟩ := g_position h (by decide) ht ha
  obtain ⟨q1, q2, q3, q4⟩ := pP_sp (tx := tx) (tn := tn) (a := a)
  rw [e1, bI_r] at e
  generalize pP tx tn a = r at *
  by_cases c2 : r.1 = 0
  · rw [if_pos c2] at e
    rw [if_pos c2]
    exact ⟨G1, e0.trans e, F1, t1, p1, fun w => absurd (show (0 : Int) = 1 from w) (by decide)⟩
  · have c3 := q1.resolve_left c2
    have g := q4 c3
    rw [if_neg c2] at e
    rw [if_neg c2]
    obtain ⟨G2, e2, s2, F2⟩ := g_join (s1 c3) (by decide) g.2.1 g.2.2
    have w : wr ((0 : Int) + 1) = ((1 : Nat) : Int) := by decide
    have e2' : f_Scr_joinCoordinates 0 G1 = rV G2 := e2
    rw [e2', bV_r, w] at e
    obtain ⟨G3, e3, F3, t3, p3, s3⟩ := g_verts ht 9 1 r.2.2.2 _ G2 s2 (Nat.le_refl 1) rfl
    exact ⟨G3, e0.trans (e.trans e3), (F1.trans F2).trans F3, t3, p3, s3⟩
end SK
