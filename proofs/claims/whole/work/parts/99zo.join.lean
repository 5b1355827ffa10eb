/-! ===== read: coordinates joined ===== -/
section SH
variable {G G1 : GG} {tn : Nat} {tx : Nat → Int} {a z : Nat} {nu : Nat → Int}
theorem g_join {x y : Int} (h : ScC G tn tx a (z + 1 + 1) (psN (psN nu z x) (z + 1) y)) (hz : z < 10) (hx : 0 ≤ x ∧ x ≤ 63) (hy : 0 ≤ y ∧ y ≤ 63) : ∃ G1, f_Scr_joinCoordinates (z : Int) G = rV G1 ∧ ScC G1 tn tx a (z + 1) (psN nu z (x * 64 + y)) ∧ FrS G G1 := by
  obtain ⟨⟨h1, h2⟩, h3, h4, h5⟩ := h
  have v1 : G 23 0 (z : Int) = x := by
    rw [h5 z (by omega)]
    unfold psN
    have n : ¬ z = z + 1 := by omega
    rw [if_neg n, if_pos rfl]
  have v2 : G 23 0 ((z + 1 : Nat) : Int) = y := by
    rw [h5 (z + 1) (by omega)]
    unfold psN
    rw [if_pos rfl]
  have c1 : 0 ≤ (z : Int) ∧ (z : Int) < 11 := by omega
  have c2 : 0 ≤ ((z + 1 : Nat) : Int) ∧ ((z + 1 : Nat) : Int) < 11 := by omega
  have w1 : wr ((z : Int) + 1) = ((z + 1 : Nat) : Int) := by
    rw [wr_id (by omega) (by omega)]
    omega
  have w2 : wr (x * 64) = x * 64 := wr_id (by omega) (by omega)
  have w3 : wr (x * 64 + y) = x * 64 + y := wr_id (by omega) (by omega)
  have e := e_f_Scr_joinCoordinates (z : Int) G
  rw [w1, v1, v2, w2, w3, if_pos c1, if_pos c2, if_pos c1] at e
  clear w1 w2 w3 v1 v2
  refine ⟨_, e, ⟨⟨?_, fun j hj => ?_⟩, ?_, up_at _ _ _ _ _, fun j hj => ?_⟩, (FrS.up23 G (z : Int) _).trans (FrS.up3 _ 5 _ (by decide))⟩
  · rw [up_k (by decide), up_t (by decide)]
    exact h1
  · rw [up_t (by decide), up_t (by decide)]
    exact h2 j hj
  · rw [up_k (by decide), up_t (by decide)]
    exact h3
  · rw [up_t (by decide)]
    clear e
    unfold psN
    by_cases hjz : j = z
    · rw [if_pos hjz, hjz, up_at]
    · have hn : (j : Int) ≠ (z : Int) := by omega
      have hn1 : ¬ j = z + 1 := by omega
      rw [if_neg hjz, up_k hn, h5 j (by omega)]
      unfold psN
      rw [if_neg hn1, if_neg hjz]
end SH
