/-! ===== the law ===== -/
theorem okG_g0 (L : Nat) (hL : L ≤ 3584) (xs : Nat → Int32) : okG (g0 L xs) := fun t i k => by
  refine ⟨fun h => ?_, fun _ _ _ => ?_⟩
  · subst h
    show inJ 0
    unfold inJ
    omega
  · unfold g0
    split
    · split
      · exact inR_toInt _
      · unfold inR; omega
    · split
      · split
        · unfold sv45
          split
          · unfold inR; omega
          · split
            · unfold inR; omega
            · split <;> (unfold inR; omega)
        · unfold inR; omega
      · split
        · split
          · unfold sv46
            split
            · unfold inR; omega
            · split
              · unfold inR; omega
              · split <;> (unfold inR; omega)
          · unfold inR; omega
        · split
          · split
            · unfold inR; omega
            · unfold inR; omega
          · unfold inR; omega
theorem Lm_g0 (L : Nat) (xs : Nat → Int32) : Lm (g0 L xs) := ⟨rfl, rfl, rfl, rfl, rfl, rfl⟩
theorem byt_law : byt 302 = code := rfl
theorem mlc_law : mlc 302 = 9 := rfl
theorem own_law : ownN (own 302) = "MapGeneralizerLaw" := rfl
theorem hhs_law : tableOf (hhs 302) = [] := rfl
theorem mt_law : (mt 302).2.2.2 = 11 := rfl
def lsLaw : Lcs := [some (vR 44 0), some (vR 0 0), some (vR 25 0), some (vR 42 0), some (vR 43 0), some (vI 0), none, none, none]
/-- the whole run of the small machine, from the loop's head -/
theorem law_run {g : GG} (hT : Lm g) {L : Nat} (hL : L ≤ 3584) (h47 : g 47 0 0 = (L : Int)) (h48 : g 48 0 0 ≤ 0) : ∃ (n : Nat) (G' : GG), sx n 302 28 lsLaw [] (Gfin g) = some (.inl (some (.inl 1)), G') ∧ G' 48 0 0 ≤ 512 := by
  have hI := inv_0 hT h48
  have hLm : Lm (Gfin g) := hT
  have h9 : Gfin g 47 0 0 = (L : Int) := h47
  obtain ⟨G', e1, hI2, -⟩ := law_all rd_ok 512 0 0 (Gfin g) L hI hLm h9 hL (by omega) (by omega)
  obtain ⟨n, hn⟩ := run_sx (show run 302 28 lsLaw [] (Gfin g) = some (.inl (some (.inl 1)), G') from e1)
  obtain ⟨s, c, H, sv, K, tn, tx, er, -, -, -, h5⟩ := hI2
  exact ⟨n, G', hn, by omega⟩
theorem rl_law {ad : Nat → Int → Nat} {lsC : Array Slot} {b q qm ou od : Nat} (h : lv_has lsC 9 [(5, .int 0), (4, .ref od), (3, .ref ou), (2, .ref qm), (1, .ref q), (0, .ref b)]) (h0 : ad 44 0 = b) (h1 : ad 0 0 = q) (h2 : ad 25 0 = qm) (h3 : ad 42 0 = ou) (h4 : ad 43 0 = od) : Rl ad 302 lsLaw lsC := by
  refine ⟨⟨h.1, h.2.1, fun q hq => absurd hq List.not_mem_nil⟩, Nat.le_of_ble_eq_true rfl, fun j v hj => ?_⟩
  match j, hj with
  | 0, hj => cases hj; exact (lv_at h 5 rfl).trans (by show _ = some (Slot.val (Value.ref (ad 44 0))); rw [h0])
  | 1, hj => cases hj; exact (lv_at h 4 rfl).trans (by show _ = some (Slot.val (Value.ref (ad 0 0))); rw [h1])
  | 2, hj => cases hj; exact (lv_at h 3 rfl).trans (by show _ = some (Slot.val (Value.ref (ad 25 0))); rw [h2])
  | 3, hj => cases hj; exact (lv_at h 2 rfl).trans (by show _ = some (Slot.val (Value.ref (ad 42 0))); rw [h3])
  | 4, hj => cases hj; exact (lv_at h 1 rfl).trans (by show _ = some (Slot.val (Value.ref (ad 43 0))); rw [h4])
  | 5, hj => cases hj; exact lv_at h 0 rfl
  | 6, hj => cases hj
  | 7, hj => cases hj
  | 8, hj => cases hj
  | k + 9, hj => cases hj
theorem okL_law {cs : CS} (h0 : (0, 0) ∈ cs) (h1 : (25, 0) ∈ cs) (h2 : (42, 0) ∈ cs) (h3 : (43, 0) ∈ cs) : okL cs lsLaw := fun j v hj => by
  match j, hj with
  | 0, hj => cases hj; exact Or.inr (by decide)
  | 1, hj => cases hj; exact Or.inl h0
  | 2, hj => cases hj; exact Or.inl h1
  | 3, hj => cases hj; exact Or.inl h2
  | 4, hj => cases hj; exact Or.inl h3
  | 5, hj => cases hj; show inR 0; unfold inR; omega
  | 6, hj => cases hj
  | 7, hj => cases hj
  | 8, hj => cases hj
  | k + 9, hj => cases hj
