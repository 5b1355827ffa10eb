/-! ===== read: a number passed ===== -/
section SD
variable {G G1 : GG} {tn : Nat} {tx : Nat → Int} {a z : Nat} {nu : Nat → Int} {lo hi : Int}
theorem g_num90 (h : ScC G tn tx a z nu) (hz : z < 11) (ha : a ≤ 61) {d e : Int} (hd : 0 ≤ d ∧ d ≤ 9) (he : -1 ≤ e ∧ e ≤ 9) : NmC G tn tx z nu (l_Scr_passNumber_90 lo hi d d e G) (if e ≠ -1 ∧ lo ≤ d * 10 + e ∧ d * 10 + e ≤ hi then (1, d * 10 + e, a + 1) else if lo ≤ d ∧ d ≤ hi then (1, d, a) else (0, 0, a)) := by
  have ev := e_l_Scr_passNumber_90 lo hi d d e G
  by_cases c0 : e = -1
  · have c1 : ¬ (e ≠ -1 ∧ lo ≤ d * 10 + e ∧ d * 10 + e ≤ hi) := fun w => w.1 c0
    rw [if_pos c0] at ev
    rw [ev, if_neg c1]
    exact g_num132 h hz d
  · rw [if_neg c0] at ev
    have e1 : wr (d * 10) = d * 10 := wr_id (by omega) (by omega)
    have e2 : wr (d * 10 + e) = d * 10 + e := wr_id (by omega) (by omega)
    rw [e1, e2] at ev
    by_cases c : lo ≤ d * 10 + e ∧ d * 10 + e ≤ hi
    · have c1 : e ≠ -1 ∧ lo ≤ d * 10 + e ∧ d * 10 + e ≤ hi := ⟨c0, c.1, c.2⟩
      rw [g_within_t c, bI_r, if_neg i01] at ev
      have e3 : wr (G 21 0 2 + 1) = ((a + 1 : Nat) : Int) := by
        rw [h.2.1, wr_id (by omega) (by omega)]
        omega
      rw [e3] at ev
      rw [ev, if_pos c1]
      have q := g_num132 (lo := lo) (hi := hi) (h.at1 (a + 1)) hz (d * 10 + e)
      rw [if_pos c] at q
      exact q.fr (FSc.at1 G _)
    · have c1 : ¬ (e ≠ -1 ∧ lo ≤ d * 10 + e ∧ d * 10 + e ≤ hi) := fun w => c w.2
      rw [g_within_f c, bI_r, if_pos rfl] at ev
      rw [ev, if_neg c1]
      exact g_num132 h hz d
theorem g_number (h : ScC G tn tx a z nu) (hz : z < 11) (ht : tn ≤ 60) (ha : a ≤ 60) : NmC G tn tx z nu (f_Scr_passNumber lo hi G) (pN tx tn lo hi a) := by
  have e := e_f_Scr_passNumber lo hi G
  rw [h.2.1, g_digit h.1 ht a, bI_r] at e
  have hb := dg_b tx tn a
  have hb1 := dg_b tx tn (a + 1)
  have e3 : wr (G 21 0 2 + 1) = ((a + 1 : Nat) : Int) := by
    rw [h.2.1, wr_id (by omega) (by omega)]
    omega
  unfold pN
  by_cases d0 : dg tx tn a = -1
  · rw [if_pos d0]
    have c : ¬ 0 < dg tx tn a := by omega
    rw [if_neg c] at e
    have e2 := e_l_Scr_passNumber_37 lo hi (dg tx tn a) 0 G
    rw [if_pos d0] at e2
    exact ⟨G, e.trans e2, FrS.refl G, h.1, h.2.1, fun w => absurd (show (0 : Int) = 1 from w) (by decide)⟩
  · rw [if_neg d0]
    have hd : 0 ≤ dg tx tn a ∧ dg tx tn a ≤ 9 := by omega
    generalize dg tx tn a = d at *
    have e1 : wr (d * 10) = d * 10 := wr_id (by omega) (by omega)
    have e2 : wr (d * 10 + 9) = d * 10 + 9 := wr_id (by omega) (by omega)
    rw [e1, e2] at e
    by_cases c2 : 0 < d ∧ d * 10 ≤ hi ∧ lo ≤ d * 10 + 9
    · rw [if_pos c2]
      have p1 : ¬ hi < d * 10 := by omega
      have p2 : ¬ d * 10 + 9 < lo := by omega
      rw [if_pos c2.1, if_neg p1, if_neg p2] at e
      have e4 := e_l_Scr_passNumber_37 lo hi d 1 G
      rw [if_neg d0, if_neg i01] at e4
      have e5 := e_l_Scr_passNumber_60 lo hi d 1 G
      rw [if_neg i01, e3, up_at, g_digit (h.at1 (a + 1)).1 ht (a + 1), bI_r] at e5
      rw [e, e4, e5]
      exact (g_num90 (h.at1 (a + 1)) hz (by omega) hd hb1).fr (FSc.at1 G _)
    · rw [if_neg c2]
      have e' : f_Scr_passNumber lo hi G = l_Scr_passNumber_37 lo hi d 0 G := by
        rw [e]
        by_cases p : 0 < d
        · rw [if_pos p]
          by_cases p2 : hi < d * 10
          · rw [if_pos p2]
          · have p3 : d * 10 + 9 < lo := by omega
            rw [if_neg p2, if_pos p3]
        · rw [if_neg p]
      have e4 := e_l_Scr_passNumber_37 lo hi d 0 G
      rw [if_neg d0, if_pos rfl] at e4
      rw [e', e4]
      by_cases c : lo ≤ d ∧ d ≤ hi
      · rw [g_within_t c, bI_r, if_neg i01]
        have e5 := e_l_Scr_passNumber_60 lo hi d 0 G
        rw [if_pos rfl, e3] at e5
        rw [e5]
        have q := g_num90 (lo := lo) (hi := hi) (h.at1 (a + 1)) hz (by omega) hd (e := -1) (by decide)
        have c1 : ¬ ((-1 : Int) ≠ -1 ∧ lo ≤ d * 10 + -1 ∧ d * 10 + -1 ≤ hi) := fun w => w.1 rfl
        rw [if_neg c1, if_pos c] at q
        rw [if_pos c]
        exact q.fr (FSc.at1 G _)
      · rw [g_within_f c, bI_r, if_pos rfl, if_neg c]
        exact ⟨G, rfl, FrS.refl G, h.1, h.2.1, fun w => absurd (show (0 : Int) = 1 from w) (by decide)⟩
end SD
