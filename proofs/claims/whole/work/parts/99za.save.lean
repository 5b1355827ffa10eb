/-! ===== save ===== -/
section HIST2
variable {s : Nat → Int} {G : GG} {c : Nat} {H : Nat → Nat → Int} {sv : Int} {K : Nat → Int} {tn : Nat} {tx : Nat → Int} {er : Int}
theorem r_copy1 (G : GG) : ∃ G', f_Mod_copies_ms_msaved G = rV G' ∧ (∀ k : Nat, k < 296 → G' 28 0 k = G 26 0 k) ∧ Fr (fun t i => t = 28 ∧ i = 0) G G' := by
  have hl : ∀ (k : Nat) (G2 : GG), k < 296 → l_Mod_copies_ms_msaved_2 (k : Int) G2 = l_Mod_copies_ms_msaved_2 ((k + 1 : Nat) : Int) (up G2 28 0 k (G2 26 0 (0 + (k : Int)))) := fun k G2 hk => by
    have w2 : wr ((k : Int) + 1) = ((k + 1 : Nat) : Int) := by rw [wr_id (by omega) (by omega)]; omega
    have c2 : (0 : Int) ≤ (k : Int) ∧ (k : Int) < 296 := by clear w2; omega
    have e9 := e_l_Mod_copies_ms_msaved_2 (k : Int) G2
    rw [if_pos c2.2, w2] at e9
    simp only [if_pos c2] at e9
    rw [Int.zero_add]
    exact e9
  obtain ⟨G', e, h1, h2⟩ := copy_row (l := fun k G2 => l_Mod_copies_ms_msaved_2 (k : Int) G2) (rd := fun G2 => rV G2) (tf := 26) (td := 28) (of := 0) (by decide) hl (fun G2 => by
    show l_Mod_copies_ms_msaved_2 296 G2 = rV G2
    rw [e_l_Mod_copies_ms_msaved_2, if_neg (by decide)]) G
  refine ⟨G', ?_, fun k hk => ?_, h2⟩
  · rw [e_f_Mod_copies_ms_msaved]
    exact e
  · have := h1 k hk
    rw [Int.zero_add] at this
    exact this
theorem r_copy2 (G : GG) : ∃ G', f_Mod_copies_msaved_ms G = rV G' ∧ (∀ k : Nat, k < 296 → G' 26 0 k = G 28 0 k) ∧ Fr (fun t i => t = 26 ∧ i = 0) G G' := by
  have hl : ∀ (k : Nat) (G2 : GG), k < 296 → l_Mod_copies_msaved_ms_2 (k : Int) G2 = l_Mod_copies_msaved_ms_2 ((k + 1 : Nat) : Int) (up G2 26 0 k (G2 28 0 (0 + (k : Int)))) := fun k G2 hk => by
    have w2 : wr ((k : Int) + 1) = ((k + 1 : Nat) : Int) := by rw [wr_id (by omega) (by omega)]; omega
    have c2 : (0 : Int) ≤ (k : Int) ∧ (k : Int) < 296 := by clear w2; omega
    have e9 := e_l_Mod_copies_msaved_ms_2 (k : Int) G2
    rw [if_pos c2.2, w2] at e9
    simp only [if_pos c2] at e9
    rw [Int.zero_add]
    exact e9
  obtain ⟨G', e, h1, h2⟩ := copy_row (l := fun k G2 => l_Mod_copies_msaved_ms_2 (k : Int) G2) (rd := fun G2 => rV G2) (tf := 28) (td := 26) (of := 0) (by decide) hl (fun G2 => by
    show l_Mod_copies_msaved_ms_2 296 G2 = rV G2
    rw [e_l_Mod_copies_msaved_ms_2, if_neg (by decide)]) G
  refine ⟨G', ?_, fun k hk => ?_, h2⟩
  · rw [e_f_Mod_copies_msaved_ms]
    exact e
  · have := h1 k hk
    rw [Int.zero_add] at this
    exact this
theorem g_save (hs : okM s) (hC : IC G s c H sv K tn tx er) : ∃ G2, f_Map_save G = rI (mNl s) G2 ∧ IC G2 s c H 1 s tn tx er ∧ Fr FCl G G2 ∧ G2 48 0 0 = G 48 0 0 := by
  obtain ⟨q1, q2, ⟨q3, nx, q4, q5, q6⟩, ⟨q7, q8⟩, ⟨q9, q10⟩, q11⟩ := hC
  obtain ⟨G2, e2, h2, f2⟩ := g_copySheet (i := 2) (j := 0) (by decide) hs q1
  have n2 : ∀ t i k, (i ≠ 2 ∨ t = 13 ∨ t = 15 ∨ t = 0 ∨ 12 < t) → G2 t i k = G t i k := fun t i k z => f2 t i k (by unfold FSh; clear e2; omega)
  have n3 : ∀ t i k, (i ≠ 2 ∨ t = 13 ∨ t = 15 ∨ 12 < t) → t ≠ 0 → (up G2 0 0 7 1) t i k = G t i k := fun t i k z z2 => (up_t z2).trans (n2 t i k (by clear e2; omega))
  have hli : ∀ L : Nat, lix (L : Int) ≠ 2 := fun L => by unfold lix; clear e2; split <;> omega
  have hCC : CC (up G2 0 0 7 1) s := by
    clear e2
    obtain ⟨m, k2, ⟨m2, k3⟩, b, k4, k5, k6⟩ := q2
    refine ⟨m, ⟨(n3 _ _ _ (by omega) (by decide)).trans k2.1, k2.2.1, k2.2.2.1, fun L hL => (k2.2.2.2 L hL).fr (n3 _ _ _ (Or.inl (hli L)) (by decide)) (fun k => n3 _ _ _ (Or.inl (hli L)) (by decide)) (fun k => n3 _ _ _ (Or.inl (hli L)) (by decide))⟩, ⟨m2, ⟨(n3 _ _ _ (by omega) (by decide)).trans k3.1, k3.2.1, k3.2.2.1, fun L hL f hf => (n3 _ _ _ (Or.inl (hli L)) (by decide)).trans (k3.2.2.2 L hL f hf)⟩⟩, b, (n3 _ _ _ (by omega) (by decide)).trans k4, k5, fun L hL hb => ?_⟩
    obtain ⟨z1, z2, z3, z4⟩ := k6 L hL hb
    exact ⟨z1, fun q hq => (n3 _ _ _ (by omega) (by decide)).trans (z2 q hq), z3, (n3 _ _ _ (by omega) (by decide)).trans z4⟩
  have hIC : IC (up G2 0 0 7 1) s c H 1 s tn tx er := by
    clear e2
    exact ⟨q1.fr (fun t k ht => n3 _ _ _ (by omega) (by omega)), hCC, ⟨(n3 _ _ _ (by omega) (by decide)).trans q3, nx, q4, (n3 _ _ _ (by omega) (by decide)).trans q5, fun j hj => (q6 j hj).fr (fun t k ht => n3 _ _ _ (by omega) (by omega))⟩, ⟨up_at _ _ _ _ _, fun _ => h2.fr (fun t k ht => up_t (by omega))⟩, ⟨(n3 _ _ _ (by omega) (by decide)).trans q9, fun j hj => (n3 _ _ _ (by omega) (by decide)).trans (q10 j hj)⟩, (up_k (by decide)).trans ((n2 _ _ _ (by omega)).trans q11)⟩
  have hF : Fr FCl G (up G2 0 0 7 1) := fun t i k z => by
    clear e2
    unfold FCl at z
    exact n3 t i k (by omega) (by omega)
  refine ⟨up G2 0 0 7 1, ?_, hIC, hF, n3 _ _ _ (Or.inr (Or.inr (Or.inr (by decide)))) (by decide)⟩
  rw [e_f_Map_save, e2, bV_r, up_t (show (2 : Nat) ≠ 0 by decide), n2 2 0 2 (Or.inl (by decide)), q1.1.1]
theorem r_save (hs : okM s) {G1 : GG} (hR : IR G1 s c H sv K tn tx er) : ∃ G2, f_Mod_save G1 = rI (mNl s) G2 ∧ IR G2 s c H 1 s tn tx er ∧ Fr FRl G1 G2 := by
  obtain ⟨r1, r2, ⟨r3, r4⟩, ⟨r7, r8⟩, ⟨r9, r10⟩, r11⟩ := hR
  obtain ⟨G2, e2, h2, f2⟩ := r_copy1 (up G1 25 0 6 0)
  have n2 : ∀ t k, t ≠ 28 → G2 t 0 k = (up G1 25 0 6 0) t 0 k := fun t k z => f2 t 0 k (fun y => z y.1)
  have n25 : ∀ k : Int, k ≠ 4 → k ≠ 6 → (up G2 25 0 4 1) 25 0 k = G1 25 0 k := fun k z1 z2 => (up_k z1).trans ((n2 _ _ (by decide)).trans (up_k z2))
  have nt : ∀ t k, t ≠ 28 → t ≠ 25 → (up G2 25 0 4 1) t 0 k = G1 t 0 k := fun t k z1 z2 => (up_t z2).trans ((n2 _ _ z1).trans (up_t z2))
  have hRC : RC (up G2 25 0 4 1) s := by
    clear e2
    rcases r2 with z | z
    · exact Or.inl ((n25 _ (by decide) (by decide)).trans z)
    · exact Or.inr (z.fr (fun t k ht => nt _ _ (by omega) (by omega)))
  refine ⟨up G2 25 0 4 1, ?_, ⟨r1.fr (fun k => nt _ _ (by decide) (by decide)), hRC, ⟨(n25 _ (by decide) (by decide)).trans r3, fun j hj k hk => (nt _ _ (by decide) (by decide)).trans (r4 j hj k hk)⟩, ⟨up_at _ _ _ _ _, fun _ k hk => ?_⟩, ⟨(n25 _ (by decide) (by decide)).trans r9, fun j hj => (nt _ _ (by decide) (by decide)).trans (r10 j hj)⟩, (n25 _ (by decide) (by decide)).trans r11⟩, ((Fr.up (P := FRl) G1 6 0 ⟨by decide, by decide⟩).trans (f2.mono (fun t i z => by rw [z.1]; exact ⟨by decide, by decide⟩))).trans (Fr.up _ _ _ ⟨by decide, by decide⟩)⟩
  · rw [e_f_Mod_save, e2, bV_r, nt 26 0 (by decide) (by decide), r1.nl hs]
  · rw [up_t (by decide), h2 k hk, up_t (by decide)]
    exact r1 k hk
theorem IS.save (hS : IS s c H sv K tn tx er) : IS s c H 1 s tn tx er := by
  obtain ⟨hs, hc8, hH, hsv, hrest⟩ := hS
  exact ⟨hs, hc8, hH, Or.inr ⟨rfl, hs⟩, hrest⟩
/-- restore -/
theorem g_restore (hK : okM K) (h1 : sv = 1) (hC : IC G s c H sv K tn tx er) : ∃ G2, f_Map_restore G = rI (mNl K) G2 ∧ IC G2 K 0 H sv K tn tx er ∧ Fr FCl G G2 ∧ G2 48 0 0 = G 48 0 0 := by
  obtain ⟨q1, q2, ⟨q3, nx, q4, q5, q6⟩, ⟨q7, q8⟩, ⟨q9, q10⟩, q11⟩ := hC
  have h07 : ¬(G 0 0 7 = 0) := by rw [q7, h1]; decide
  obtain ⟨G2, e2, h2, f2⟩ := g_copySheet (i := 0) (j := 2) (by decide) hK (q8 h1)
  have n2 : ∀ t i k, (i ≠ 0 ∨ t = 13 ∨ t = 0 ∨ 12 < t) → G2 t i k = G t i k := fun t i k z => f2 t i k (by unfold FSh; clear e2; omega)
  obtain ⟨G3, e3, s4, s5, s6, f3⟩ := g_spoil (G := up G2 13 0 2 0)
  have n3 : ∀ t i k, t ≠ 13 → t ≠ 15 → (i ≠ 0 ∨ t = 0 ∨ 12 < t) → G3 t i k = G t i k := fun t i k z1 z2 z3 => (f3 t i k z2).trans ((up_t z1).trans (n2 t i k (by clear e2 e3; omega)))
  have m2 : G3 13 0 2 = 0 := (f3 13 0 2 (by decide)).trans (up_at _ _ _ _ _)
  have m1 : G3 13 0 1 = (nx : Int) := (f3 13 0 1 (by decide)).trans ((up_k (by decide)).trans ((n2 _ _ _ (Or.inr (Or.inl rfl))).trans q5))
  have h3 : ShC G3 0 K := h2.fr (fun t k ht => (f3 _ _ _ (by clear e2 e3; omega)).trans (up_t (by clear e2 e3; omega)))
  have hIC : IC G3 K 0 H sv K tn tx er := by
    clear e2 e3
    exact ⟨h3, cc_new hK h3 s4 s5 s6, ⟨m2, nx, q4, m1, fun j hj => absurd hj (by omega)⟩, ⟨(n3 _ _ _ (by decide) (by decide) (by omega)).trans q7, fun z => (q8 z).fr (fun t k ht => n3 _ _ _ (by omega) (by omega) (by omega))⟩, ⟨(n3 _ _ _ (by decide) (by decide) (by omega)).trans q9, fun j hj => (n3 _ _ _ (by decide) (by decide) (by omega)).trans (q10 j hj)⟩, (n3 _ _ _ (by decide) (by decide) (by omega)).trans q11⟩
  have hF : Fr FCl G G3 := fun t i k z => by
    clear e2 e3
    unfold FCl at z
    exact n3 t i k (by omega) (by omega) (by omega)
  refine ⟨G3, ?_, hIC, hF, n3 _ _ _ (by decide) (by decide) (Or.inr (Or.inr (by decide)))⟩
  rw [e_f_Map_restore, if_neg h07, e2, bV_r, e_f_His_forget, bV_r, e3, bV_r, h3.1.1]
theorem r_restore (hK : okM K) (h1 : sv = 1) {G1 : GG} (hR : IR G1 s c H sv K tn tx er) : ∃ G2, f_Mod_restore G1 = rI (mNl K) G2 ∧ G2 25 0 6 = 0 ∧ IR G2 K 0 H sv K tn tx er ∧ Fr FRl G1 G2 := by
  obtain ⟨r1, r2, ⟨r3, r4⟩, ⟨r7, r8⟩, ⟨r9, r10⟩, r11⟩ := hR
  have h04 : ¬(G1 25 0 4 = 0) := by rw [r7, h1]; decide
  obtain ⟨G2, e2, h2, f2⟩ := r_copy2 (up G1 25 0 6 0)
  have n2 : ∀ t k, t ≠ 26 → G2 t 0 k = (up G1 25 0 6 0) t 0 k := fun t k z => f2 t 0 k (fun y => z y.1)
  have n25 : ∀ k : Int, k ≠ 5 → k ≠ 11 → k ≠ 6 → (up (up G2 25 0 5 0) 25 0 11 0) 25 0 k = G1 25 0 k := fun k z1 z2 z3 => (up_k z2).trans ((up_k z1).trans ((n2 _ _ (by decide)).trans (up_k z3)))
  have nt : ∀ t k, t ≠ 26 → t ≠ 25 → (up (up G2 25 0 5 0) 25 0 11 0) t 0 k = G1 t 0 k := fun t k z1 z2 => (up_t z2).trans ((up_t z2).trans ((n2 _ _ z1).trans (up_t z2)))
  have hRo : RoR (up (up G2 25 0 5 0) 25 0 11 0) 26 K := fun k hk => by
    rw [up_t (by decide), up_t (by decide), h2 k hk, up_t (by decide)]
    exact r8 h1 k hk
  refine ⟨_, ?_, (up_k (by decide)).trans ((up_k (by decide)).trans ((n2 _ _ (by decide)).trans (up_at _ _ _ _ _))), ⟨hRo, Or.inl (up_at _ _ _ _ _), ⟨(up_k (by decide)).trans (up_at _ _ _ _ _), fun j hj => absurd hj (by clear e2; omega)⟩, ⟨(n25 _ (by decide) (by decide) (by decide)).trans r7, fun z => (r8 z).fr (fun k => nt _ _ (by decide) (by decide))⟩, ⟨(n25 _ (by decide) (by decide) (by decide)).trans r9, fun j hj => (nt _ _ (by decide) (by decide)).trans (r10 j hj)⟩, (n25 _ (by decide) (by decide) (by decide)).trans r11⟩, (((Fr.up (P := FRl) G1 6 0 ⟨by decide, by decide⟩).trans (f2.mono (fun t i z => by rw [z.1]; exact ⟨by decide, by decide⟩))).trans (Fr.up _ _ _ ⟨by decide, by decide⟩)).trans (Fr.up _ _ _ ⟨by decide, by decide⟩)⟩
  rw [e_f_Mod_restore, if_neg h04, up_at, if_pos rfl, e2, bV_r, hRo.nl hK]
theorem ch_restore : CHp G (f_Law_restore G) (fun G1 => f_Mod_restore G1) := by
  intro s c H sv K tn tx er hS hC
  have hS0 := hS
  obtain ⟨hs, hc8, hH, hsv, hrest⟩ := hS
  rcases hsv with h0 | ⟨h1, hK⟩
  · refine ch_fail (k := 1) (x := 1) (fcl := f_Map_restore G) hS0 hC ?_ (e_f_Law_restore G) (fun _ => rfl) (by decide) (fun G1 hR => ?_)
    · have h07 : G 0 0 7 = 0 := hC.2.2.2.1.1.trans h0
      rw [e_f_Map_restore, if_pos h07]
    · have h04 : G1 25 0 4 = 0 := hR.2.2.2.1.1.trans h0
      show f_Mod_restore G1 = _
      rw [e_f_Mod_restore, if_pos h04, up_at, if_neg i01]
  · have hS' : IS K 0 H sv K tn tx er := ⟨hK, by decide, fun j hj => absurd hj (by omega), Or.inr ⟨h1, hK⟩, hrest⟩
    exact ch_ok (s' := K) (c' := 0) (H' := H) (v := ((mNl K : Nat) : Int)) (fcl := f_Map_restore G) hS' (g_restore hK h1 hC) (e_f_Law_restore G) (fun G1 hR => r_restore hK h1 hR)
end HIST2
