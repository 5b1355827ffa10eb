/-! ===== undo, save, restore ===== -/
theorem nx_b {nx : Nat} (h : nx < 8) : iRem (wr ((wr ((nx : Int) + 8)) - 1)) 8 = (((nx + 7) % 8 : Nat) : Int) := by
  have w1 : wr ((nx : Int) + 8) = (nx : Int) + 8 := wr_id (by omega) (by omega)
  have w2 : wr ((nx : Int) + 8 - 1) = ((nx + 7 : Nat) : Int) := by rw [wr_id (by omega) (by omega)]; omega
  rw [w1, w2]
  exact iRem8 (by omega)
/-- a loop that copies a row of 296 ints -/
theorem copy_row {l : Nat → GG → RS} {rd : GG → RS} {tf td : Nat} {of : Int} (htd : td ≠ tf) (hl : ∀ k G, k < 296 → l k G = l (k + 1) (up G td 0 k (G tf 0 (of + (k : Int))))) (he : ∀ G, l 296 G = rd G) (G : GG) : ∃ G', l 0 G = rd G' ∧ (∀ k : Nat, k < 296 → G' td 0 k = G tf 0 (of + (k : Int))) ∧ Fr (fun t i => t = td ∧ i = 0) G G' := by
  refine loop_inv (l := l) (I := fun k G1 => (∀ j : Nat, j < k → G1 td 0 j = G tf 0 (of + (j : Int))) ∧ Fr (fun t i => t = td ∧ i = 0) G G1) (P := fun r => ∃ G', r = rd G' ∧ (∀ k : Nat, k < 296 → G' td 0 k = G tf 0 (of + (k : Int))) ∧ Fr (fun t i => t = td ∧ i = 0) G G') 296 0 G (fun k G1 _ hk hI => ?_) (fun G1 hI => ⟨G1, he G1, fun k hk => hI.1 k (by omega), hI.2⟩) ⟨fun j hj => absurd hj (by omega), Fr.refl G⟩
  obtain ⟨h1, h2⟩ := hI
  refine ⟨_, hl k G1 (by omega), fun j hj => ?_, h2.trans (Fr.up _ _ _ ⟨rfl, rfl⟩)⟩
  by_cases q : j = k
  · rw [q, up_at]
    exact h2 tf 0 _ (fun z => htd z.1.symm)
  · rw [up_k (by omega)]
    exact h1 j (by omega)
section HIST
variable {s : Nat → Int} {G : GG} {c : Nat} {H : Nat → Nat → Int} {sv : Int} {K : Nat → Int} {tn : Nat} {tx : Nat → Int} {er : Int}
theorem g_undo (hc1 : 1 ≤ c ∧ c ≤ 8) (hH : okM (H (c - 1))) (hC : IC G s c H sv K tn tx er) : ∃ G2, f_Map_undo G = rI ((c - 1 : Nat) : Int) G2 ∧ IC G2 (H (c - 1)) (c - 1) H sv K tn tx er ∧ Fr FCl G G2 ∧ G2 48 0 0 = G 48 0 0 := by
  obtain ⟨q1, q2, ⟨q3, nx, q4, q5, q6⟩, ⟨q7, q8⟩, ⟨q9, q10⟩, q11⟩ := hC
  have e := e_f_Map_undo G
  have h00 : ¬(G 13 0 2 = 0) := by rw [q3]; omega
  have c7 : (0 : Int) ≤ (((nx + 7) % 8 : Nat) : Int) ∧ (((nx + 7) % 8 : Nat) : Int) < 8 := by clear e; omega
  rw [if_neg h00, e_f_His_takeBack, q5, nx_b q4, up_at, if_pos c7] at e
  have hsrc := q6 (c - 1) (by clear e; omega)
  have hix : (nx + 8 - c + (c - 1)) % 8 = (nx + 7) % 8 := by clear e; omega
  rw [hix] at hsrc
  obtain ⟨m, hm⟩ : ∃ m : Nat, m = (nx + 7) % 8 := ⟨_, rfl⟩
  have hm8 : m < 8 := by clear e; omega
  have hidx : ∀ j : Nat, j < c - 1 → (m + 8 - (c - 1) + j) % 8 = (nx + 8 - c + j) % 8 := fun j hj => by clear e; omega
  rw [← hm] at hsrc e
  clear c7 hix hm
  generalize hG1 : up G 13 0 1 (m : Int) = G1 at e
  have n1 : ∀ t i k, t ≠ 13 → G1 t i k = G t i k := fun t i k z => by rw [← hG1, up_t z]
  have m1 : G1 13 0 1 = (m : Int) := by rw [← hG1, up_at]
  have m2 : G1 13 0 2 = (c : Int) := by rw [← hG1, up_k (by decide)]; exact q3
  have hsrc2 : ShC G1 ((m : Int) + 3) (H (c - 1)) := by
    rw [Int.add_comm]
    exact hsrc.fr (fun t k ht => n1 _ _ _ (by clear e; omega))
  have hne : (0 : Int) ≠ (m : Int) + 3 := by clear e; omega
  obtain ⟨G2, e2, h2, f2⟩ := g_copySheet (i := 0) hne hH hsrc2
  have n2 : ∀ t i k, (i ≠ 0 ∨ t = 13 ∨ t = 0 ∨ 12 < t) → G2 t i k = G1 t i k := fun t i k z => f2 t i k (by unfold FSh; clear e; omega)
  have m3 : G2 13 0 2 = (c : Int) := (n2 _ _ _ (Or.inr (Or.inl rfl))).trans m2
  rw [e2, bV_r, m3, wm1 ⟨hc1.1, Nat.le_trans hc1.2 (by decide)⟩, bV_r] at e
  obtain ⟨G3, e3, s4, s5, s6, f3⟩ := g_spoil (G := up G2 13 0 2 ((c - 1 : Nat) : Int))
  have n3 : ∀ t i k, t ≠ 15 → t ≠ 13 → G3 t i k = G2 t i k := fun t i k z z2 => (f3 t i k z).trans (up_t z2)
  have m4 : G3 13 0 2 = ((c - 1 : Nat) : Int) := (f3 13 0 2 (by decide)).trans (up_at _ _ _ _ _)
  have m5 : G3 13 0 1 = (m : Int) := (f3 13 0 1 (by decide)).trans ((up_k (by decide)).trans ((n2 _ _ _ (Or.inr (Or.inl rfl))).trans m1))
  rw [e3, bV_r, m4] at e
  have h3 : ShC G3 0 (H (c - 1)) := h2.fr (fun t k ht => n3 _ _ _ (by clear e; omega) (by clear e; omega))
  have nall : ∀ t i k, t ≠ 13 → t ≠ 15 → (i ≠ 0 ∨ t = 0 ∨ 12 < t) → G3 t i k = G t i k := fun t i k z1 z2 z3 => (n3 t i k z2 z1).trans ((n2 t i k (by clear e; omega)).trans (n1 t i k z1))
  refine ⟨G3, e, ⟨h3, cc_new hH h3 s4 s5 s6, ⟨m4, m, hm8, m5, fun j hj => ?_⟩, ⟨(nall _ _ _ (by decide) (by decide) (Or.inr (Or.inl rfl))).trans q7, fun z => (q8 z).fr (fun t k ht => nall _ _ _ (by clear e; omega) (by clear e; omega) (Or.inl (by decide)))⟩, ⟨(nall _ _ _ (by decide) (by decide) (Or.inr (Or.inr (by decide)))).trans q9, fun j hj => (nall _ _ _ (by decide) (by decide) (Or.inr (Or.inr (by decide)))).trans (q10 j hj)⟩, (nall _ _ _ (by decide) (by decide) (Or.inr (Or.inl rfl))).trans q11⟩, fun t i k z => ?_, nall _ _ _ (by decide) (by decide) (Or.inr (Or.inr (by decide)))⟩
  · have h9 := q6 j (by clear e; omega)
    rw [hidx j hj]
    exact h9.fr (fun t k ht => nall _ _ _ (by clear e; omega) (by clear e; omega) (Or.inl (by clear e; omega)))
  · unfold FCl at z
    exact nall _ _ _ (by clear e; omega) (by clear e; omega) (by clear e; omega)
theorem r_undo (hc1 : 1 ≤ c ∧ c ≤ 8) {G1 : GG} (hR : IR G1 s c H sv K tn tx er) : ∃ G2, f_Mod_undo G1 = rI ((c - 1 : Nat) : Int) G2 ∧ G2 25 0 6 = 0 ∧ IR G2 (H (c - 1)) (c - 1) H sv K tn tx er ∧ Fr FRl G1 G2 := by
  obtain ⟨r1, r2, ⟨r3, r4⟩, ⟨r7, r8⟩, ⟨r9, r10⟩, r11⟩ := hR
  have h01 : ¬(G1 25 0 5 = 0) := by rw [r3]; omega
  have hcc : c - 1 < c := by omega
  obtain ⟨m, hm⟩ : ∃ m : Nat, m = c - 1 := ⟨_, rfl⟩
  have hm8 : m < 8 := by omega
  have hmc : m < c := by omega
  have e := e_f_Mod_undo G1
  rw [if_neg h01, up_at, if_pos rfl, up_k (show (5 : Int) ≠ 6 by decide), r3, wm1 ⟨hc1.1, Nat.le_trans hc1.2 (by decide)⟩] at e
  rw [← hm] at e ⊢
  generalize hGa : up (up G1 25 0 6 0) 25 0 5 (m : Int) = Ga at e
  have a5 : Ga 25 0 5 = (m : Int) := by rw [← hGa, up_at]
  have a25 : ∀ k : Int, k ≠ 5 → k ≠ 6 → Ga 25 0 k = G1 25 0 k := fun k z1 z2 => by rw [← hGa, up_k z1, up_k z2]
  have a6 : Ga 25 0 6 = 0 := by rw [← hGa, up_k (by decide), up_at]
  have at' : ∀ t i k, t ≠ 25 → Ga t i k = G1 t i k := fun t i k z => by rw [← hGa, up_t z, up_t z]
  have hloop : ∀ (k : Nat) (G2 : GG), k < 296 → Fr (fun t i => t = 26 ∧ i = 0) Ga G2 → l_Mod_undo_37 (k : Int) G2 = l_Mod_undo_37 ((k + 1 : Nat) : Int) (up G2 26 0 k (G2 29 0 (296 * (m : Int) + (k : Int)))) := fun k G2 hk f2 => by
    clear e
    have b5 : G2 25 0 5 = (m : Int) := (f2 25 0 5 (fun z => absurd z.1 (by decide))).trans a5
    have c1 : (0 : Int) ≤ 296 * (m : Int) + (k : Int) ∧ 296 * (m : Int) + (k : Int) < 2368 := by omega
    have c2 : (0 : Int) ≤ (k : Int) ∧ (k : Int) < 296 := by omega
    have w : wr (wr (296 * (m : Int)) + (k : Int)) = 296 * (m : Int) + (k : Int) := by rw [wr_id (z := 296 * (m : Int)) (by omega) (by omega), wr_id (by omega) (by omega)]
    have w2 : wr ((k : Int) + 1) = ((k + 1 : Nat) : Int) := by clear w; rw [wr_id (by omega) (by omega)]; omega
    have e9 := e_l_Mod_undo_37 (k : Int) G2
    rw [if_pos c2.2, b5, w, w2, if_pos c1, if_pos c2] at e9
    exact e9
  have hend : ∀ G2 : GG, Fr (fun t i => t = 26 ∧ i = 0) Ga G2 → l_Mod_undo_37 296 G2 = rI (m : Int) (up G2 25 0 11 0) := fun G2 f2 => by
    clear e
    have b5 : G2 25 0 5 = (m : Int) := (f2 25 0 5 (fun z => absurd z.1 (by decide))).trans a5
    rw [e_l_Mod_undo_37, if_neg (by decide), up_k (by decide), b5]
  have key : ∃ G2, l_Mod_undo_37 0 Ga = rI (m : Int) (up G2 25 0 11 0) ∧ RoR G2 26 (H m) ∧ Fr (fun t i => t = 26 ∧ i = 0) Ga G2 := by
    clear e
    refine loop_inv (l := fun k G2 => l_Mod_undo_37 (k : Int) G2) (I := fun k G2 => (∀ j : Nat, j < k → G2 26 0 j = H m j) ∧ Fr (fun t i => t = 26 ∧ i = 0) Ga G2) (P := fun r => ∃ G2, r = rI (m : Int) (up G2 25 0 11 0) ∧ RoR G2 26 (H m) ∧ Fr (fun t i => t = 26 ∧ i = 0) Ga G2) 296 0 Ga (fun k G2 _ hk hI => ?_) (fun G2 hI => ⟨G2, hend G2 hI.2, fun k hk => hI.1 k (by omega), hI.2⟩) ⟨fun j hj => absurd hj (by omega), Fr.refl Ga⟩
    refine ⟨_, hloop k G2 (by omega) hI.2, fun j hj => ?_, hI.2.trans (Fr.up _ _ _ ⟨rfl, rfl⟩)⟩
    by_cases q : j = k
    · rw [q, up_at, hI.2 29 0 _ (fun z => absurd z.1 (by decide)), at' _ _ _ (by decide)]
      exact r4 m hmc k (by omega)
    · rw [up_k (by omega)]
      exact hI.1 j (by omega)
  obtain ⟨G2, e2, k1, k2⟩ := key
  have n25 : ∀ k : Int, G2 25 0 k = Ga 25 0 k := fun k => k2 25 0 k (fun z => absurd z.1 (by decide))
  have nn : ∀ t k, t ≠ 25 → t ≠ 26 → G2 t 0 k = G1 t 0 k := fun t k z1 z2 => (k2 t 0 k (fun z => z2 z.1)).trans (at' t 0 k z1)
  have fa : Fr FRl G1 Ga := fun t i k z => at' t i k (fun y => z (by unfold FRl; clear e e2; omega))
  refine ⟨up G2 25 0 11 0, e.trans e2, (up_k (by decide)).trans ((n25 6).trans a6), ⟨k1.fr (fun k => up_t (by decide)), Or.inl (up_at _ _ _ _ _), ⟨(up_k (by decide)).trans ((n25 5).trans a5), fun j hj k hk => (up_t (by decide)).trans ((nn _ _ (by decide) (by decide)).trans (r4 j (by clear e e2; omega) k hk))⟩, ⟨(up_k (by decide)).trans ((n25 4).trans ((a25 4 (by decide) (by decide)).trans r7)), fun z => (r8 z).fr (fun k => (up_t (by decide)).trans (nn _ _ (by decide) (by decide)))⟩, ⟨(up_k (by decide)).trans ((n25 19).trans ((a25 19 (by decide) (by decide)).trans r9)), fun j hj => (up_t (by decide)).trans ((nn _ _ (by decide) (by decide)).trans (r10 j hj))⟩, (up_k (by decide)).trans ((n25 23).trans ((a25 23 (by decide) (by decide)).trans r11))⟩, (fa.trans (k2.mono (fun t i z => by unfold FRl; clear e e2; omega))).trans (Fr.up _ _ _ (by unfold FRl; clear e e2; omega))⟩
theorem ch_undo : CHp G (f_Law_undo G) (fun G1 => f_Mod_undo G1) := by
  intro s c H sv K tn tx er hS hC
  obtain ⟨hs, hc8, hH, hrest⟩ := hS
  by_cases h0 : c = 0
  · refine ch_fail (k := 1) (x := 5) (fcl := f_Map_undo G) ⟨hs, hc8, hH, hrest⟩ hC ?_ (e_f_Law_undo G) (fun _ => rfl) (by decide) (fun G1 hR => ?_)
    · have h00 : G 13 0 2 = 0 := by rw [hC.2.2.1.1, h0]; rfl
      rw [e_f_Map_undo, if_pos h00]
    · have h01 : G1 25 0 5 = 0 := by rw [hR.2.2.1.1, h0]; rfl
      show f_Mod_undo G1 = _
      rw [e_f_Mod_undo, if_pos h01, up_at, if_neg i01]
  · have hc1 : c - 1 < c := by omega
    have hS' : IS (H (c - 1)) (c - 1) H sv K tn tx er := ⟨hH _ hc1, by omega, fun j hj => hH j (by omega), hrest⟩
    exact ch_ok (s' := H (c - 1)) (c' := c - 1) (H' := H) (v := ((c - 1 : Nat) : Int)) (fcl := f_Map_undo G) hS' (g_undo ⟨by omega, hc8⟩ (hH _ hc1) hC) (e_f_Law_undo G) (fun G1 hR => r_undo ⟨by omega, hc8⟩ hR)
end HIST
