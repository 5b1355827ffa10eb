/-! ===== read: the reference's draft ===== -/
section SG9
variable {s s' : Nat → Int}
theorem r_copyD1 (G : GG) : ∃ G', f_Mod_copies_ms_mdraft G = rV G' ∧ (∀ k : Nat, k < 296 → G' 27 0 k = G 26 0 k) ∧ Fr (fun t i => t = 27 ∧ i = 0) G G' := by
  have hl : ∀ (k : Nat) (G2 : GG), k < 296 → l_Mod_copies_ms_mdraft_2 (k : Int) G2 = l_Mod_copies_ms_mdraft_2 ((k + 1 : Nat) : Int) (up G2 27 0 k (G2 26 0 (0 + (k : Int)))) := fun k G2 hk => by
    have w2 : wr ((k : Int) + 1) = ((k + 1 : Nat) : Int) := by rw [wr_id (by omega) (by omega)]; omega
    have c2 : (0 : Int) ≤ (k : Int) ∧ (k : Int) < 296 := by clear w2; omega
    have e9 := e_l_Mod_copies_ms_mdraft_2 (k : Int) G2
    rw [if_pos c2.2, w2] at e9
    simp only [if_pos c2] at e9
    rw [Int.zero_add]
    exact e9
  obtain ⟨G', e, h1, h2⟩ := copy_row (l := fun k G2 => l_Mod_copies_ms_mdraft_2 (k : Int) G2) (rd := fun G2 => rV G2) (tf := 26) (td := 27) (of := 0) (by decide) hl (fun G2 => by
    show l_Mod_copies_ms_mdraft_2 296 G2 = rV G2
    rw [e_l_Mod_copies_ms_mdraft_2, if_neg (by decide)]) G
  refine ⟨G', ?_, fun k hk => ?_, h2⟩
  · rw [e_f_Mod_copies_ms_mdraft]
    exact e
  · have := h1 k hk
    rw [Int.zero_add] at this
    exact this
theorem r_copyD2 (G : GG) : ∃ G', f_Mod_copies_mdraft_ms G = rV G' ∧ (∀ k : Nat, k < 296 → G' 26 0 k = G 27 0 k) ∧ Fr (fun t i => t = 26 ∧ i = 0) G G' := by
  have hl : ∀ (k : Nat) (G2 : GG), k < 296 → l_Mod_copies_mdraft_ms_2 (k : Int) G2 = l_Mod_copies_mdraft_ms_2 ((k + 1 : Nat) : Int) (up G2 26 0 k (G2 27 0 (0 + (k : Int)))) := fun k G2 hk => by
    have w2 : wr ((k : Int) + 1) = ((k + 1 : Nat) : Int) := by rw [wr_id (by omega) (by omega)]; omega
    have c2 : (0 : Int) ≤ (k : Int) ∧ (k : Int) < 296 := by clear w2; omega
    have e9 := e_l_Mod_copies_mdraft_ms_2 (k : Int) G2
    rw [if_pos c2.2, w2] at e9
    simp only [if_pos c2] at e9
    rw [Int.zero_add]
    exact e9
  obtain ⟨G', e, h1, h2⟩ := copy_row (l := fun k G2 => l_Mod_copies_mdraft_ms_2 (k : Int) G2) (rd := fun G2 => rV G2) (tf := 27) (td := 26) (of := 0) (by decide) hl (fun G2 => by
    show l_Mod_copies_mdraft_ms_2 296 G2 = rV G2
    rw [e_l_Mod_copies_mdraft_ms_2, if_neg (by decide)]) G
  refine ⟨G', ?_, fun k hk => ?_, h2⟩
  · rw [e_f_Mod_copies_mdraft_ms]
    exact e
  · have := h1 k hk
    rw [Int.zero_add] at this
    exact this
/-- the two rows change places -/
theorem r_swaps (G : GG) : ∃ G1, f_Mod_swaps G = rV G1 ∧ (∀ k : Nat, k < 296 → G1 26 0 k = G 27 0 k ∧ G1 27 0 k = G 26 0 k) ∧ Fr (fun t i => (t = 26 ∨ t = 27) ∧ i = 0) G G1 := by
  rw [e_f_Mod_swaps]
  refine loop_inv (l := fun (k : Nat) G1 => l_Mod_swaps_2 (k : Int) G1) (I := fun k G1 => (∀ j : Nat, j < k → G1 26 0 j = G 27 0 j ∧ G1 27 0 j = G 26 0 j) ∧ (∀ j : Nat, k ≤ j → G1 26 0 j = G 26 0 j ∧ G1 27 0 j = G 27 0 j) ∧ Fr (fun t i => (t = 26 ∨ t = 27) ∧ i = 0) G G1) (P := fun r => ∃ G1, r = rV G1 ∧ (∀ k : Nat, k < 296 → G1 26 0 k = G 27 0 k ∧ G1 27 0 k = G 26 0 k) ∧ Fr (fun t i => (t = 26 ∨ t = 27) ∧ i = 0) G G1) 296 0 G (fun k G1 _ hk hI => ?_) (fun G1 hI => ?_) ⟨fun j hj => absurd hj (Nat.not_lt_zero j), fun _ _ => ⟨rfl, rfl⟩, Fr.refl G⟩
  · obtain ⟨h1, h2, h3⟩ := hI
    have c2 : (0 : Int) ≤ (k : Int) ∧ (k : Int) < 296 := by omega
    have w2 : wr ((k : Int) + 1) = ((k + 1 : Nat) : Int) := by rw [wr_id (by omega) (by omega)]; omega
    have e := e_l_Mod_swaps_2 (k : Int) G1
    rw [if_pos c2.2, w2] at e
    simp only [if_pos c2] at e
    clear w2
    refine ⟨_, e, fun j hj => ?_, fun j hj => ?_, (h3.trans (Fr.up _ _ _ ⟨Or.inl rfl, rfl⟩)).trans (Fr.up _ _ _ ⟨Or.inr rfl, rfl⟩)⟩
    · rw [up_t (show (26 : Nat) ≠ 27 by decide)]
      by_cases q : j = k
      · rw [q, up_at, up_at]
        exact ⟨(h2 k (Nat.le_refl k)).2, (h2 k (Nat.le_refl k)).1⟩
      · rw [up_k (by omega), up_k (by omega), up_t (show (27 : Nat) ≠ 26 by decide)]
        exact h1 j (by omega)
    · rw [up_t (show (26 : Nat) ≠ 27 by decide), up_k (by omega), up_k (by omega), up_t (show (27 : Nat) ≠ 26 by decide)]
      exact h2 j (by omega)
  · obtain ⟨h1, h2, h3⟩ := hI
    have e := e_l_Mod_swaps_2 ((0 + 296 : Nat) : Int) G1
    rw [if_neg (by decide)] at e
    exact ⟨G1, e, fun k hk => h1 k (by omega), h3⟩
noncomputable def finR (G : GG) : RS := if G 25 0 6 = 0 then bV (f_Mod_swaps G) fun G3 => bV (f_Mod_keeps G3) fun G4 => bV (f_Mod_swaps G4) fun G5 => rI (G5 25 0 22) G5 else bV (f_Mod_copies_mdraft_ms G) fun G6 => rI 0 G6
theorem e58 (x : Int) (G : GG) : l_Mod_read_58 x G = if x < G 25 0 22 then (if G 25 0 6 = 0 then bI (f_Mod_does G) fun r2 G1 => l_Mod_read_58 (wr (x + 1)) (up G1 25 0 6 r2) else finR G) else finR G := e_l_Mod_read_58 x G
/-- what doing the entries writes -/
def FrG (G G' : GG) : Prop := Fr (fun t _ => t = 25 ∨ t = 26 ∨ t = 30 ∨ t = 31 ∨ t = 32) G G' ∧ ∀ k : Int, k ≠ 20 → k ≠ 6 → G' 25 0 k = G 25 0 k
theorem FrG.trans {G1 G2 G3 : GG} (h1 : FrG G1 G2) (h2 : FrG G2 G3) : FrG G1 G3 := ⟨h1.1.trans h2.1, fun k a b => (h2.2 k a b).trans (h1.2 k a b)⟩
theorem FrD.g {G G' : GG} (h : FrD G G') : FrG G G' := ⟨h.1, fun k a _ => h.2 k a⟩
theorem rc_0 {o : Int} (h : o = 0 ∨ o = 1 ∨ o = 2) : rcO o = 0 ↔ o = 0 := by
  unfold rcO
  by_cases c : o = 0
  · rw [if_pos c]
    exact ⟨fun _ => c, fun _ => rfl⟩
  · rw [if_neg c]
    omega
theorem apE_c (s : Nat → Int) (e : EN) : (apE s e).1 = 0 ∨ (apE s e).1 = 1 ∨ (apE s e).1 = 2 := by
  unfold apE
  by_cases a : e.1 = 76
  · rw [if_pos a]
    by_cases b : wrL s e.2.1 e.2.2 = true
    · rw [if_pos b]
      exact Or.inr (Or.inl rfl)
    · rw [if_neg b]
      by_cases c : mNl s < 6
      · rw [if_pos c]
        exact Or.inl rfl
      · rw [if_neg c]
        exact Or.inr (Or.inr rfl)
  · rw [if_neg a]
    by_cases a2 : e.1 = 80
    · rw [if_pos a2]
      by_cases b : tkO s (64 * e.2.2 0 + e.2.2 1) = true
      · rw [if_pos b]
        exact Or.inr (Or.inr rfl)
      · rw [if_neg b]
        by_cases c : mNp s < 12
        · rw [if_pos c]
          exact Or.inl rfl
        · rw [if_neg c]
          exact Or.inr (Or.inr rfl)
    · rw [if_neg a2]
      exact Or.inl rfl
theorem r_loop58 : ∀ (l : List EN) (M k : Nat) (s : Nat → Int) (G : GG), okM s → RoR G 26 s → StA G M l → (∀ e ∈ l, okE e) → G 25 0 20 = (M : Int) → G 25 0 6 = 0 → G 25 0 22 = ((k + l.length : Nat) : Int) → M + szA l ≤ 200 → k + l.length ≤ 100 →
    ∃ G1, l_Mod_read_58 k G = finR G1 ∧ G1 25 0 6 = rcO (apA s l).1 ∧ RoR G1 26 (apA s l).2 ∧ FrG G G1
  | [], M, k, s, G, hs, hR, hA, he, h20, h6, h22, hM, hk => by
    have e := e58 k G
    have c : ¬ (k : Int) < ((k + 0 : Nat) : Int) := by omega
    have h22' : G 25 0 22 = ((k + 0 : Nat) : Int) := h22
    rw [h22', if_neg c] at e
    exact ⟨G, e, h6, hR, ⟨Fr.refl G, fun _ _ _ => rfl⟩⟩
  | E :: l, M, k, s, G, hs, hR, hA, he, h20, h6, h22, hM, hk => by
    have e := e58 k G
    have h22' : G 25 0 22 = ((k + (l.length + 1) : Nat) : Int) := h22
    have hM' : M + (szE E + szA l) ≤ 200 := hM
    have hk' : k + (l.length + 1) ≤ 100 := hk
    have c : (k : Int) < ((k + (l.length + 1) : Nat) : Int) := by omega
    have hE : okE E := he E (List.mem_cons_self)
    obtain ⟨G1, e1, hR1, h201, hF1⟩ := r_does hs hR h20 hA.1 hE (by omega)
    rw [h22', if_pos c, if_pos h6, e1, bI_r, w_at1 (by omega)] at e
    have hF2 : FrG G (up G1 25 0 6 (rcO (apE s E).1)) := hF1.g.trans ⟨Fr.up _ _ _ (Or.inl rfl), fun z _ b => up_k b⟩
    have hR2 : RoR (up G1 25 0 6 (rcO (apE s E).1)) 26 (apE s E).2 := hR1.fr (fun z => up_t (by decide))
    have h222 : (up G1 25 0 6 (rcO (apE s E).1)) 25 0 22 = ((k + (l.length + 1) : Nat) : Int) := (hF2.2 22 (by decide) (by decide)).trans h22'
    by_cases c0 : (apE s E).1 = 0
    · have hap : apA s (E :: l) = apA (apE s E).2 l := if_pos c0
      have hrc : rcO (apE s E).1 = 0 := (rc_0 (apE_c s E)).mpr c0
      rw [hrc] at e hF2 hR2 h222
      have hA2 : ∀ (l : List EN) (M : Nat), StA G M l → StA (up G1 25 0 6 0) M l := fun l => by
        induction l with
        | nil => exact fun M h => h
        | cons e9 l ih => exact fun M h => ⟨h.1.fr (fun z _ => hF2.1 40 0 z (by omega)), ih _ h.2⟩
      obtain ⟨G3, e3, h63, hR3, hF3⟩ := r_loop58 l (M + szE E) (k + 1) (apE s E).2 (up G1 25 0 6 0) (apE_ok hs hE) hR2 (hA2 l _ hA.2) (fun e9 h9 => he e9 (List.mem_cons_of_mem _ h9)) ((up_k (by decide)).trans h201) (up_at _ _ _ _ _) (h222.trans (congrArg _ (by omega))) (by omega) (by omega)
      rw [hap]
      exact ⟨G3, e.trans e3, h63, hR3, hF2.trans hF3⟩
    · have hap : apA s (E :: l) = ((apE s E).1, (apE s E).2) := if_neg c0
      have hrc : ¬ rcO (apE s E).1 = 0 := fun z => c0 ((rc_0 (apE_c s E)).mp z)
      have e5 := e58 ((k + 1 : Nat) : Int) (up G1 25 0 6 (rcO (apE s E).1))
      have e6 : l_Mod_read_58 ((k + 1 : Nat) : Int) (up G1 25 0 6 (rcO (apE s E).1)) = finR (up G1 25 0 6 (rcO (apE s E).1)) := by
        rw [e5, up_at, if_neg hrc]
        by_cases c9 : ((k + 1 : Nat) : Int) < (up G1 25 0 6 (rcO (apE s E).1)) 25 0 22
        · rw [if_pos c9]
        · rw [if_neg c9]
      rw [hap]
      exact ⟨_, e.trans e6, up_at _ _ _ _ _, hR2, hF2⟩
end SG9
