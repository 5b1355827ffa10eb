/-! ===== the invariant at the law's loop's first turn ===== -/
theorem fin_48 (g : GG) {t : Nat} (ht : 44 ≤ t) (i k : Int) : Gfin g t i k = g t i k := by
  unfold Gfin
  rw [if_pos ht]
theorem inv_0 {g : GG} (hT : Lm g) (h48 : g 48 0 0 ≤ 0) : Inv 0 (Gfin g) := by
  obtain ⟨G1, -, m1, m2, m3⟩ := mo_begins g
  have hSh : ShC (Gfin g) 0 iniS := (sh_reset hT 0).2.1.fr (fun t k ht => fin_sh g (by omega) (by decide) k)
  have hz : ∀ k : Int, k ≠ 5 → k ≠ 11 → Gfin g 25 0 k = GMz g 25 0 k := fun k h5 h11 => by
    rw [fin_mo g (by decide), m1, up_k h11, up_k h5]
    exact m3 25 0 k (fun z => absurd z.1 (by decide))
  refine ⟨iniS, 0, fun _ _ => 0, 0, fun _ => 0, 0, fun _ => 0, -1, ⟨ok_ini, by decide, fun j hj => absurd hj (Nat.not_lt_zero j), Or.inl rfl, by decide, fun j hj => absurd hj (Nat.not_lt_zero j), by decide, by decide⟩, ?_, ?_, ?_⟩
  · exact ⟨hSh, cc_new ok_ini hSh rfl rfl rfl, ⟨rfl, 0, by decide, rfl, fun j hj => absurd hj (Nat.not_lt_zero j)⟩, ⟨rfl, fun h => absurd h (by decide)⟩, ⟨rfl, fun j hj => absurd hj (Nat.not_lt_zero j)⟩, rfl⟩
  · refine ⟨m2.fr (fun k => ?_), Or.inl ?_, ⟨?_, fun j hj => absurd hj (Nat.not_lt_zero j)⟩, ⟨?_, fun h => absurd h (by decide)⟩, ⟨?_, fun j hj => absurd hj (Nat.not_lt_zero j)⟩, ?_⟩
    · rw [fin_mo g (by decide), m1, up_t (by decide), up_t (by decide)]
    · rw [fin_mo g (by decide), m1, up_at]
    · rw [fin_mo g (by decide), m1, up_k (by decide), up_at]
      rfl
    · rw [hz 4 (by decide) (by decide)]
      rfl
    · rw [hz 19 (by decide) (by decide)]
      rfl
    · rw [hz 23 (by decide) (by decide)]
      exact up_at _ _ _ _ _
  · rw [fin_48 g (by decide)]
    exact h48
