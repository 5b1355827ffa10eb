/-! ===== the made levels, as they are asked for ===== -/
section CGET
variable {s : Nat → Int} {G : GG}
theorem g_setOf {st : Nat → Int} {i : Int} (hS : StC G i st) {L j : Nat} (hL : L < 5) (hj : j < 3) : f_She_settingOf i L j G = rI (st (3 * L + j)) G := by
  rw [e_f_She_settingOf, wr_id (z := (L : Int) * 3) (by omega) (by omega), wr_id (z := (L : Int) * 3 + (j : Int)) (by omega) (by omega), if_pos (by omega), show (L : Int) * 3 + (j : Int) = ((3 * L + j : Nat) : Int) by omega, hS _ (by omega)]
theorem c_lines (hs : okM s) (h : ShC G 0 s) (hC : CC G s) {L : Nat} (hL : L < 5) :
    ∃ G', f_Lev_linesOf L G = rR 2 (lix L) G' ∧ LnC G' (lix L) (mNl s) (lvM s L).1 (cdM (mCd s) (lvM s L).2) ∧ CC G' s ∧ Fr FQ G G' ∧ (∃ m : Nat, L < m ∧ CLn G' (mNl s) (mCd s) (lvM s) m) ∧ G' 15 0 6 = G 15 0 6 ∧ (∀ t i k, t = 19 ∨ t = 20 → G' t i k = G t i k) := by
  obtain ⟨m, h2, ⟨m2, h3⟩, b, h4, h5, h6⟩ := hC
  obtain ⟨G1, m1, e, q1, q2, q3, f, g⟩ := g_lines hs.2.1 hs.2.2.2.2.1 hs.2.2.2.2.2.2.2.1 hL h2 h.2.1 h.2.2.2.2.1
  refine ⟨G1, e, q1.2.2.2 L q2, ⟨m1, q1, ⟨m2, h3.fr (g 5 (by decide)) (fun i k => f 8 i k (by unfold FLin; omega))⟩, b, (g 6 (by decide)).trans h4, h5, fun M hM hb => ?_⟩, f.mono (fun t i z => by unfold FLin at z; unfold FQ; omega), ⟨m1, q2, q1⟩, g 6 (by decide), fun t i k ht => f t i k (by unfold FLin; omega)⟩
  obtain ⟨r1, r2, r3, r4⟩ := h6 M hM hb
  exact ⟨by omega, fun q hq => (f 20 _ _ (by unfold FLin; omega)).trans (r2 q hq), r3, (f 19 _ _ (by unfold FLin; omega)).trans r4⟩
theorem c_parcels (hs : okM s) (h : ShC G 0 s) (hC : CC G s) {L : Nat} (hL : L < 5) :
    ∃ G', f_Lev_parcelsOf L G = rR 7 (lix L) G' ∧ OwC G' (lix L) (owM s L) ∧ CC G' s ∧ Fr FQ G G' := by
  obtain ⟨m, h2, ⟨m2, h3⟩, b, h4, h5, h6⟩ := hC
  obtain ⟨G1, m1, e, q1, q2, q3, f, g⟩ := g_parcels (o0 := mOw s) hs.2.2.2.2.2.1 hs.2.2.2.2.2.2.2.1 hL h3 h.kd h.2.2.2.2.2 h.2.2.2.2.1
  refine ⟨G1, e, q1.2.2.2 L q2, ⟨m, h2.fr (g 4 (by decide)) (fun t i k ht => f t i k (by unfold FPar; omega)), ⟨m1, q1⟩, b, (g 6 (by decide)).trans h4, h5, fun M hM hb => ?_⟩, f.mono (fun t i z => by unfold FPar at z; unfold FQ; omega)⟩
  obtain ⟨r1, r2, r3, r4⟩ := h6 M hM hb
  exact ⟨r1, fun q hq => (f 20 _ _ (by unfold FPar; omega)).trans (r2 q hq), r3, (f 19 _ _ (by unfold FPar; omega)).trans r4⟩
theorem c_labels (hs : okM s) (h : ShC G 0 s) (hC : CC G s) {L : Nat} (hL : L < 5) :
    ∃ G', f_Lev_labelsOf L G = rR 19 L G' ∧ PlC G' L (mNp s) (plM s L) ∧ PLm s L (plM s L) ∧ G' 19 L 3 = lrM s L ∧ LnC G' (lix L) (mNl s) (lvM s L).1 (cdM (mCd s) (lvM s L).2) ∧ CC G' s ∧ Fr FQ G G' := by
  have hCC := hC
  obtain ⟨m, h2, ⟨m2, h3⟩, b, h4, h5, h6⟩ := hC
  have e := e_f_Lev_labelsOf (L : Int) G
  have c5 : (0 : Int) ≤ (L : Int) ∧ (L : Int) < 5 := by omega
  rw [h4, bBit h5 (show L < 12 by omega)] at e
  simp only [if_pos c5] at e
  cases hb : b.testBit L with
  | true =>
    rw [hb] at e
    obtain ⟨r1, r2, r3, r4⟩ := h6 L hL hb
    exact ⟨G, e, r2, r3, r4, h2.2.2.2 L r1, hCC, Fr.refl G⟩
  | false =>
    rw [hb] at e
    obtain ⟨G1, e1, hL1, hC1, f1, ⟨m1, hm1, hCL⟩, g1, g2⟩ := c_lines hs h hCC hL
    have h1 := h.q (by decide) f1
    have hlr := (hs.2.2.2.2.2.2.2.1.1 L hL).2.2
    have es : f_She_settingOf 0 L 2 G1 = rI (mSt s (3 * L + 2)) G1 := g_setOf (j := 2) h1.2.2.2.2.1 hL (by decide)
    obtain ⟨G2, e2, ⟨pl, hpl, hplk⟩, h19, f2⟩ := g_placeAll (i := (L : Int)) hs.2.2.2.2.1 (okW.ln hs.2.1 (lvV_ok hs.2.1 L)) (lr := mSt s (3 * L + 2)) hlr h1.2.1 hL1
    obtain ⟨hplm, hpleq⟩ := plM_of (L := L) hs hplk
    have e9 : f_Lev_labelsOf L G = rR 19 L (up G2 15 0 6 ((b ||| 2 ^ L : Nat) : Int)) := by
      refine e.trans ?_
      show bR 2 (f_Lev_linesOf L G) _ = _
      rw [e1]
      simp only [bR_r]
      rw [es]
      simp only [bI_r]
      rw [e2]
      simp only [bV_r]
      rw [f2 15 0 6 (fun z => by rcases z.2 with z | z <;> exact absurd z (by decide)), g1, h4, bSet h5 (show L < 12 by omega)]
    have n2 : ∀ t i k, t ≠ 19 → t ≠ 20 → G2 t i k = G1 t i k := fun t i k z1 z2 => f2 t i k (fun z => by rcases z.2 with y | y; exact z1 y; exact z2 y)
    have hPl : PlC (up G2 15 0 6 ((b ||| 2 ^ L : Nat) : Int)) L (mNp s) (plM s L) := fun q hq => (up_t (by decide)).trans ((hpl q hq).trans (hpleq q hq))
    have hC2 : CC (up G2 15 0 6 ((b ||| 2 ^ L : Nat) : Int)) s := by
      obtain ⟨m9, hCL9, ⟨m3, hCP⟩, b9, hb9, -, h69⟩ := hC1
      have eb : b9 = b := by
        have := hb9.symm.trans (g1.trans h4)
        omega
      subst eb
      refine ⟨m1, hCL.fr ((up_k (by decide)).trans (n2 _ _ _ (by decide) (by decide))) (fun t i k ht => (up_t (by omega)).trans (n2 _ _ _ (by omega) (by omega))), ⟨m3, hCP.fr ((up_k (by decide)).trans (n2 _ _ _ (by decide) (by decide))) (fun i k => (up_t (by decide)).trans (n2 _ _ _ (by decide) (by decide)))⟩, b9 ||| 2 ^ L, up_at _ _ _ _ _, setLt h5 (by omega), fun M hM hbM => ?_⟩
      by_cases hML : M = L
      · rw [hML]
        exact ⟨hm1, hPl, hplm, (up_t (by decide)).trans h19⟩
      · have hbM2 := ((setBit b9 L M).1 hbM).resolve_right (fun z => hML z.symm)
        obtain ⟨r1, r2, r3, r4⟩ := h69 M hM hbM2
        have hne : (M : Int) ≠ (L : Int) := by omega
        refine ⟨?_, fun q hq => (up_t (by decide)).trans ((f2 20 _ _ (fun z => hne z.1)).trans (r2 q hq)), r3, (up_t (by decide)).trans ((f2 19 _ _ (fun z => hne z.1)).trans r4)⟩
        have := hCL9.1.symm.trans hCL.1
        omega
    exact ⟨_, e9, hPl, hplm, (up_t (by decide)).trans h19, hL1.fr ((up_t (by decide)).trans (n2 _ _ _ (by decide) (by decide))) (fun k => (up_t (by decide)).trans (n2 _ _ _ (by decide) (by decide))) (fun k => (up_t (by decide)).trans (n2 _ _ _ (by decide) (by decide))), hC2, (f1.trans (f2.mono (fun t i z => by unfold FPl at z; unfold FQ; omega))).trans (Fr.up _ _ _ (by unfold FQ; omega))⟩
end CGET
