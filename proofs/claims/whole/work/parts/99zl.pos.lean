/-! ===== read: a position passed ===== -/
/-- a character stands at a place -/
abbrev chAt (tx : Nat → Int) (tn : Nat) (ch : Int) (a : Nat) : Prop := a < tn ∧ tx a = ch
section SE
variable {G G1 : GG} {tn : Nat} {tx : Nat → Int} {a z : Nat} {nu : Nat → Int} {ch : Int}
theorem g_pass_t (h : TxC G tn tx) (h2 : G 21 0 2 = (a : Int)) (ht : tn ≤ 60) (hc : chAt tx tn ch a) : f_Scr_pass ch G = rI 1 (up G 21 0 2 ((a + 1 : Nat) : Int)) := by
  have e := e_f_Scr_pass ch G
  have c1 : (a : Int) < (tn : Int) := by
    have := hc.1
    omega
  have c2 : 0 ≤ (a : Int) ∧ (a : Int) < 60 := by
    have := hc.1
    omega
  have e3 : wr ((a : Int) + 1) = ((a + 1 : Nat) : Int) := by
    rw [wr_id (by omega) (by omega)]
    omega
  rw [h2, h.1, if_pos c1, if_pos c2, h.2 a hc.1, if_pos hc.2, e3] at e
  exact e
theorem g_pass_f (h : TxC G tn tx) (h2 : G 21 0 2 = (a : Int)) (ht : tn ≤ 60) (hc : ¬ chAt tx tn ch a) : f_Scr_pass ch G = rI 0 G := by
  have e := e_f_Scr_pass ch G
  by_cases ha : a < tn
  · have c1 : (a : Int) < (tn : Int) := by omega
    have c2 : 0 ≤ (a : Int) ∧ (a : Int) < 60 := by omega
    have c3 : ¬ tx a = ch := fun w => hc ⟨ha, w⟩
    rw [h2, h.1, if_pos c1, if_pos c2, h.2 a ha, if_neg c3] at e
    exact e
  · have c1 : ¬ (a : Int) < (tn : Int) := by omega
    rw [h2, h.1, if_neg c1] at e
    exact e
end SE
