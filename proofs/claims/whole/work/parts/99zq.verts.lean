/-! ===== read: vertices passed ===== -/
/-- the vertices after the first: m more may follow; found, how many, their codes, the place after them -/
def pL (tx : Nat → Int) (tn : Nat) : Nat → Nat → Nat → (Nat → Int) → Int × Nat × (Nat → Int) × Nat
  | 0, j, b, V => (1, j, V, b)
  | m + 1, j, b, V =>
    if chAt tx tn 45 b then
      (if (pP tx tn (b + 1)).1 = 0 then (0, j, V, (pP tx tn (b + 1)).2.2.2)
       else pL tx tn m (j + 1) (pP tx tn (b + 1)).2.2.2 (psN V j ((pP tx tn (b + 1)).2.1 * 64 + (pP tx tn (b + 1)).2.2.1)))
    else (if j < 2 then 0 else 1, j, V, b)
section SJ
variable {tn : Nat} {tx : Nat → Int}
/-- what passing vertices leaves -/
def VsC (G : GG) (tn : Nat) (tx : Nat → Int) (L : RS) (r : Int × Nat × (Nat → Int) × Nat) : Prop :=
  ∃ G1, L = rI r.1 G1 ∧ FrS G G1 ∧ TxC G1 tn tx ∧ G1 21 0 2 = (r.2.2.2 : Int) ∧ (r.1 = 1 → ScC G1 tn tx r.2.2.2 r.2.1 r.2.2.1)
theorem g_verts (ht : tn ≤ 60) : ∀ (m j b : Nat) (V : Nat → Int) (G : GG), ScC G tn tx b j V → 1 ≤ j → j + m = 10 → VsC G tn tx (l_Scr_passVertices_2 (j : Int) G) (pL tx tn m j b V)
  | 0, j, b, V, G, h, h1, hm => by
    have e := e_l_Scr_passVertices_2 (j : Int) G
    have c : ¬ (j : Int) < 10 := by omega
    rw [if_neg c] at e
    exact ⟨G, e, FrS.refl G, h.1, h.2.1, fun _ => h⟩
  | m + 1, j, b, V, G, h, h1, hm => by
    have e := e_l_Scr_passVertices_2 (j : Int) G
    have c : (j : Int) < 10 := by omega
    have c0 : 0 < (j : Int) := by omega
    have hj : j < 10 := by omega
    have hm2 : j + 1 + m = 10 := by omega
    rw [if_pos c, if_pos c0] at e
    unfold pL
    by_cases d : chAt tx tn 45 b
    · rw [if_pos d]
      rw [g_pass_t h.1 h.2.1 ht d, bI_r, if_neg i01] at e
      obtain ⟨G1, e1, F1, t1, p1, s1⟩ := g_position (h.at1 (b + 1)) hj ht d.1
      obtain ⟨q1, q2, q3, q4⟩ := pP_sp (tx := tx) (tn := tn) (a := b + 1)
      rw [e1, bI_r] at e
      generalize pP tx tn (b + 1) = r at *
      have FF := (FSc.at1 G _).trans F1
      by_cases c2 : r.1 = 0
      · rw [if_pos c2] at e
        rw [if_pos c2]
        exact ⟨G1, e, FF, t1, p1, fun w => absurd (show (0 : Int) = 1 from w) (by decide)⟩
      · have c3 := q1.resolve_left c2
        have g := q4 c3
        rw [if_neg c2] at e
        rw [if_neg c2]
        obtain ⟨G2, e2, s2, F2⟩ := g_join (s1 c3) hj g.2.1 g.2.2
        have w : wr ((j : Int) + 1) = ((j + 1 : Nat) : Int) := by
          rw [wr_id (by omega) (by omega)]
          omega
        rw [e2, bV_r, w] at e
        obtain ⟨G3, e3, F3, t3, p3, s3⟩ := g_verts ht m (j + 1) r.2.2.2 _ G2 s2 (Nat.le_add_left 1 j) hm2
        exact ⟨G3, e.trans e3, (FF.trans F2).trans F3, t3, p3, s3⟩
    · rw [if_neg d]
      rw [g_pass_f h.1 h.2.1 ht d, bI_r, if_pos rfl] at e
      by_cases k : j < 2
      · have k1 : (j : Int) < 2 := by omega
        rw [if_pos k1] at e
        rw [if_pos k]
        exact ⟨G, e, FrS.refl G, h.1, h.2.1, fun _ => h⟩
      · have k1 : ¬ (j : Int) < 2 := by omega
        rw [if_neg k1] at e
        rw [if_neg k]
        exact ⟨G, e, FrS.refl G, h.1, h.2.1, fun _ => h⟩
end SJ
