/-! ===== read: the reference passes an entry ===== -/
/-- an entry stored at M -/
def StE (G : GG) (M : Nat) (e : EN) : Prop := G 40 0 (M : Int) = e.1 ∧ (e.1 = 76 → G 40 0 ((M + 1 : Nat) : Int) = (e.2.1 : Int) ∧ ∀ k : Nat, k < e.2.1 → G 40 0 ((M + 1 + 1 + 2 * k : Nat) : Int) = e.2.2 k / 64 ∧ G 40 0 ((M + 1 + 2 + 2 * k : Nat) : Int) = e.2.2 k % 64) ∧ (e.1 ≠ 76 → ∀ j : Nat, j < e.2.1 → G 40 0 ((M + 1 + j : Nat) : Int) = e.2.2 j)
def szE (e : EN) : Nat := if e.1 = 76 then 2 + 2 * e.2.1 else 1 + e.2.1
section SY9
variable {G G1 : GG} {tn a M : Nat} {tx : Nat → Int} {L : RS} {r : PR}
def EnR (G : GG) (M tn : Nat) (tx : Nat → Int) (a : Nat) (L : RS) (r : PR) : Prop :=
  ∃ G1, L = rI r.1 G1 ∧ FrE M G G1 ∧ G1 25 0 20 = (r.2.1 : Int) ∧ (r.1 = 1 → StE G1 M (tx a, r.2.2) ∧ G1 25 0 21 = ((M + szE (tx a, r.2.2) : Nat) : Int) ∧ M + szE (tx a, r.2.2) ≤ 2 * r.2.1)
theorem en_of (h : SrR G1 (M + 1) tn tx L r) (hk : G1 40 0 (M : Int) = tx a) (hne : tx a ≠ 76) (hF : FrE M G G1) : EnR G M tn tx a L r := by
  obtain ⟨G2, e, hF2, hp, hn, h01, hs⟩ := h
  refine ⟨G2, e, hF.trans (hF2.low (Nat.le_succ M)), hp, fun w => ?_⟩
  obtain ⟨t1, t2, t3, t4, t5⟩ := hs w
  have hz : szE (tx a, r.2.2) = 1 + r.2.2.1 := if_neg hne
  rw [hz, show M + (1 + r.2.2.1) = M + 1 + r.2.2.1 by omega]
  exact ⟨⟨(hF2.2.2 _ (by omega)).trans hk, fun z => absurd z hne, fun _ => t4⟩, t3, t5⟩
theorem en_line (ht : tn ≤ 60) (hx : ∀ j : Nat, j < tn → 32 ≤ tx j ∧ tx j ≤ 126) {b : Nat} {nu : Nat → Int} (h : ScR G1 tn tx b (M + 1) 0 nu) (hb : b ≤ tn) (hM : M + 1 + 1 ≤ 2 * b) (hk : G1 40 0 (M : Int) = tx a) (h76 : tx a = 76) (hF : FrE M G G1) :
    EnR G M tn tx a (bI (f_Mod_takesLine G1) fun r3 G2 => l_Mod_takesEntry_179 r3 G2) (pEL tx tn b) := by
  obtain ⟨G2, e, hF2, hp, hs⟩ := r_takesLine ht hx h hb hM
  obtain ⟨q1, q2, q3, q4⟩ := pV_sp (tx := tx) hb
  rw [e, bI_r]
  have hF3 := hF.trans (hF2.low (Nat.le_succ M))
  have hT : TxR G2 tn tx := h.1.fr hF2
  unfold pEL bindP sV
  dsimp only
  by_cases c0 : (pV tx tn b).1 = 0
  · have c1 : ¬ ((pV tx tn b).1 = 1 ∧ ¬ chAt tx tn 45 (pV tx tn b).2.2.2) := fun z => absurd (c0.symm.trans z.1) (by decide)
    rw [if_neg c1, if_pos c0, e_l_Mod_takesEntry_179, if_pos rfl]
    exact ⟨G2, rfl, hF3, hp, fun w => absurd (show (0 : Int) = 1 from w) (by decide)⟩
  · have c2 := q1.resolve_left c0
    rw [if_neg c0]
    unfold sC
    by_cases d : chAt tx tn 45 (pV tx tn b).2.2.2
    · have c1 : ¬ ((pV tx tn b).1 = 1 ∧ ¬ chAt tx tn 45 (pV tx tn b).2.2.2) := fun z => z.2 d
      have d2 : ¬ chAt tx tn 59 (pV tx tn b).2.2.2 := fun z => by
        have := z.2.symm.trans d.2
        exact absurd this (by decide)
      rw [if_neg c1, if_neg d2, if_neg d2, e_l_Mod_takesEntry_179, if_pos rfl]
      exact ⟨G2, rfl, hF3, hp, fun w => absurd (show (0 : Int) = 1 from w) (by decide)⟩
    · obtain ⟨s1, s2⟩ := hs c2 d
      rw [if_pos ⟨c2, d⟩, e_l_Mod_takesEntry_179, if_neg i01]
      by_cases d2 : chAt tx tn 59 (pV tx tn b).2.2.2
      · rw [if_pos d2, if_pos d2, r_takes_t hT hp ht (by decide) d2, bI_r, if_neg i01]
        have s3 := s1.at1 (Nat.le_succ (pV tx tn b).2.2.2)
        have hz : szE (tx a, (pV tx tn b).2.1, (pV tx tn b).2.2.1) = 2 + 2 * (pV tx tn b).2.1 := if_pos h76
        refine ⟨_, rfl, hF3.trans (FrE.p20 M _ _), up_at _ _ _ _ _, fun _ => ?_⟩
        show StE _ M (tx a, (pV tx tn b).2.1, (pV tx tn b).2.2.1) ∧ _ = ((M + szE (tx a, (pV tx tn b).2.1, (pV tx tn b).2.2.1) : Nat) : Int) ∧ M + szE (tx a, (pV tx tn b).2.1, (pV tx tn b).2.2.1) ≤ 2 * ((pV tx tn b).2.2.2 + 1)
        rw [hz]
        obtain ⟨t1, t2, t3, t4, t5⟩ := s3
        have e9 : M + (2 + 2 * (pV tx tn b).2.1) = M + 1 + 1 + 2 * (pV tx tn b).2.1 := by omega
        rw [e9]
        refine ⟨⟨?_, fun _ => ⟨?_, t4⟩, fun z => absurd h76 z⟩, t3, t5⟩
        · rw [up_t (by decide)]
          exact (hF2.2.2 _ (by omega)).trans hk
        · rw [up_t (by decide)]
          exact s2
      · rw [if_neg d2, if_neg d2, r_takes_f hT hp ht (by decide) d2, bI_r, if_pos rfl]
        exact ⟨G2, rfl, hF3, hp, fun w => absurd (show (0 : Int) = 1 from w) (by decide)⟩
theorem t179_0 (G : GG) : l_Mod_takesEntry_179 0 G = rI 0 G := by rw [e_l_Mod_takesEntry_179, if_pos rfl]
theorem t179_1 (G : GG) : l_Mod_takesEntry_179 1 G = bI (f_Mod_takes 59 G) fun r2 G1 => if r2 = 0 then rI 0 G1 else rI 1 G1 := by rw [e_l_Mod_takesEntry_179, if_neg i01]
theorem en_P (ht : tn ≤ 60) (hx : ∀ j : Nat, j < tn → 32 ≤ tx j ∧ tx j ≤ 126) (h : ScR G tn tx a M 0 (fun _ => 0)) (ha : a ≤ tn) : SrR G M tn tx (bI (f_Mod_takesPlace G) fun r5 G4 => if r5 = 0 then rI 0 G4 else bI (f_Mod_takes 114 G4) fun r7 G6 => if r7 = 0 then rI 0 G6 else bI (f_Mod_takesDigit 0 9 G6) fun r9 G8 => if r9 = 0 then rI 0 G8 else bI (f_Mod_takes 119 G8) fun r11 G10 => if r11 = 0 then rI 0 G10 else bI (f_Mod_takesNumber 2 12 G10) fun r13 G12 => if r13 = 0 then rI 0 G12 else bI (f_Mod_takes 104 G12) fun r15 G14 => if r15 = 0 then rI 0 G14 else bI (f_Mod_takesDigit 1 4 G14) fun r17 G16 => if r17 = 0 then rI 0 G16 else bI (f_Mod_takes 59 G16) fun r2 G1 => if r2 = 0 then rI 0 G1 else rI 1 G1) (pEP tx tn a) :=
  SrR.bind (sr_pos ht hx h ha) fun G1 s n => SrR.bind (sr_ch ht (by decide) s n) fun G1 s n => SrR.bind (sr_digit ht hx s n (by decide) (by decide) (by decide)) fun G1 s n => SrR.bind (sr_ch ht (by decide) s n) fun G1 s n => SrR.bind (sr_num ht hx s n (by decide) n12.1 n12.2 (by decide)) fun G1 s n => SrR.bind (sr_ch ht (by decide) s n) fun G1 s n => SrR.bind (sr_digit ht hx s n (by decide) (by decide) (by decide)) fun G1 s n => SrR.last (sr_ch ht (by decide) s n)
theorem en_F (ht : tn ≤ 60) (hx : ∀ j : Nat, j < tn → 32 ≤ tx j ∧ tx j ≤ 126) (h : ScR G tn tx a M 0 (fun _ => 0)) (ha : a ≤ tn) : SrR G M tn tx (bI (f_Mod_takesDigit 0 7 G) fun r19 G18 => if r19 = 0 then rI 0 G18 else bI (f_Mod_takesDigit 0 7 G18) fun r21 G20 => if r21 = 0 then rI 0 G20 else bI (f_Mod_takes 61 G20) fun r23 G22 => if r23 = 0 then rI 0 G22 else bI (f_Mod_takesNumber 0 15 G22) fun r25 G24 => if r25 = 0 then rI 0 G24 else bI (f_Mod_takes 59 G24) fun r2 G1 => if r2 = 0 then rI 0 G1 else rI 1 G1) (pEF tx tn a) :=
  SrR.bind (sr_digit ht hx h ha (by decide) (by decide) (by decide)) fun G1 s n => SrR.bind (sr_digit ht hx s n (by decide) (by decide) (by decide)) fun G1 s n => SrR.bind (sr_ch ht (by decide) s n) fun G1 s n => SrR.bind (sr_num ht hx s n (by decide) n15.1 n15.2 (by decide)) fun G1 s n => SrR.last (sr_ch ht (by decide) s n)
theorem sr_entry (ht : tn ≤ 60) (hx : ∀ j : Nat, j < tn → 32 ≤ tx j ∧ tx j ≤ 126) (h1 : TxR G tn tx) (h2 : G 25 0 20 = (a : Int)) (h3 : G 25 0 21 = (M : Int)) (ha : a ≤ tn) (hM : M ≤ 2 * a) : EnR G M tn tx a (f_Mod_takesEntry G) (pE tx tn a) := by
  have e := e_f_Mod_takesEntry G
  rw [r_here h1 h2 ht, bI_r] at e
  unfold pE
  by_cases c : a < tn
  · have hh : hr tx tn a = tx a := if_pos c
    rw [hh] at e
    rw [if_pos c]
    have s0 : ScR G tn tx a M 0 (fun _ => 0) := ⟨h1, h2, h3, fun k hk => absurd hk (Nat.not_lt_zero k), hM⟩
    have s1 := s0.at1 (Nat.le_succ a)
    obtain ⟨G1, e1, hF1, h20, -, hA⟩ := r_adds s1 (by omega) (tx a)
    have s2 := hA (by omega)
    have hF := (FrE.p20 M G ((a + 1 : Nat) : Int)).trans hF1
    have hk : G1 40 0 (M : Int) = tx a := by
      have := s2.2.2.2.1 0 (by decide)
      exact this
    have s3 : ScR G1 tn tx (a + 1) (M + 1) 0 (fun _ => 0) := ⟨s2.1, s2.2.1, s2.2.2.1, fun k hk => absurd hk (Nat.not_lt_zero k), s2.2.2.2.2⟩
    have e25 := e_l_Mod_takesEntry_25 (tx a) G
    rw [h2, w_at1 (by omega), e1, bV_r] at e25
    simp only [t179_0, t179_1] at e25
    by_cases k76 : tx a = 76
    · rw [if_pos k76] at e e25
      rw [if_pos k76, e, e25]
      exact en_line ht hx s3 c (by omega) hk k76 hF
    · rw [if_neg k76] at e e25
      rw [if_neg k76]
      by_cases k80 : tx a = 80
      · rw [if_pos k80] at e e25
        rw [if_pos k80, e, e25]
        exact en_of (en_P ht hx s3 c) hk k76 hF
      · rw [if_neg k80] at e e25
        rw [if_neg k80]
        by_cases k70 : tx a = 70
        · rw [if_pos k70] at e
          rw [if_pos k70, e, e25]
          exact en_of (en_F ht hx s3 c) hk k76 hF
        · rw [if_neg k70] at e
          rw [if_neg k70, e]
          exact ⟨G, rfl, FrE.refl M G, h2, fun w => absurd (show (0 : Int) = 1 from w) (by decide)⟩
  · have hh : hr tx tn a = -1 := if_neg c
    rw [hh, if_neg (by decide), if_neg (by decide), if_neg (by decide)] at e
    rw [if_neg c, e]
    exact ⟨G, rfl, FrE.refl M G, h2, fun w => absurd (show (0 : Int) = 1 from w) (by decide)⟩
end SY9
