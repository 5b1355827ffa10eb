/-! ===== read: the reference does an entry ===== -/
def FrD (G G' : GG) : Prop := Fr (fun t _ => t = 25 ∨ t = 26 ∨ t = 30 ∨ t = 31 ∨ t = 32) G G' ∧ ∀ k : Int, k ≠ 20 → G' 25 0 k = G 25 0 k
theorem FrD.trans {G1 G2 G3 : GG} (h1 : FrD G1 G2) (h2 : FrD G2 G3) : FrD G1 G3 := ⟨h1.1.trans h2.1, fun k a => (h2.2 k a).trans (h1.2 k a)⟩
theorem FrD.p20 (G : GG) (v : Int) : FrD G (up G 25 0 20 v) := ⟨Fr.up G 20 v (Or.inl rfl), fun k a => up_k a⟩
theorem FrD.of {G G' : GG} (h : Fr FAl G G') : FrD G G' := ⟨h.mono (fun t i z => by unfold FAl at z; omega), fun k _ => h 25 0 k (by unfold FAl; omega)⟩
def rcO (o : Int) : Int := if o = 0 then 0 else o + 1
section SF9
variable {s : Nat → Int} {G : GG} {M : Nat} {e : EN}
theorem w_do {M : Nat} (h : M ≤ 200) : wr ((M : Int) + 1) = ((M + 1 : Nat) : Int) ∧ wr (((M + 1 : Nat) : Int) + 1) = ((M + 2 : Nat) : Int) ∧ wr (((M + 1 : Nat) : Int) + 2) = ((M + 3 : Nat) : Int) ∧ wr (((M + 1 : Nat) : Int) + 3) = ((M + 4 : Nat) : Int) ∧ wr (((M + 1 : Nat) : Int) + 4) = ((M + 5 : Nat) : Int) ∧ wr (((M + 1 : Nat) : Int) + 5) = ((M + 6 : Nat) : Int) := by
  refine ⟨?_, ?_, ?_, ?_, ?_, ?_⟩
  all_goals rw [wr_id (by omega) (by omega)]; omega
theorem w_do2 {M n : Nat} (h : M ≤ 200) (hn : n ≤ 10) : wr (((M + 2 : Nat) : Int) + wr (2 * (n : Int))) = ((M + (2 + 2 * n) : Nat) : Int) := by
  rw [wr_id (z := 2 * (n : Int)) (by omega) (by omega), wr_id (by omega) (by omega)]
  omega
theorem c_do {M j : Nat} (h : M + j < 240) : 0 ≤ ((M + j : Nat) : Int) ∧ ((M + j : Nat) : Int) < 240 := by omega
theorem w_fd {x y : Int} (hx : 0 ≤ x ∧ x ≤ 7) (hy : 0 ≤ y ∧ y ≤ 7) : wr (wr (200 + wr (8 * y)) + x) = ((200 + (8 * y.toNat + x.toNat) : Nat) : Int) := by
  rw [wr_id (z := 8 * y) (by omega) (by omega), wr_id (z := 200 + 8 * y) (by omega) (by omega), wr_id (by omega) (by omega)]
  omega
def DoR (G : GG) (s : Nat → Int) (M : Nat) (e : EN) (L : RS) : Prop := ∃ G1, L = rI (rcO (apE s e).1) G1 ∧ RoR G1 26 (apE s e).2 ∧ G1 25 0 20 = ((M + szE e : Nat) : Int) ∧ FrD G G1
theorem do_line (hs : okM s) (hR : RoR G 26 s) (h2 : G 25 0 20 = (M : Int)) (hE : StE G M e) (he : e.1 = 76 ∧ 2 ≤ e.2.1 ∧ e.2.1 ≤ 10 ∧ ∀ k : Nat, k < e.2.1 → isC (e.2.2 k)) (hM : M + szE e ≤ 200) : DoR G s M e (f_Mod_does G) := by
  obtain ⟨h76, hn2, hn, hV⟩ := he
  obtain ⟨e1, e2, -⟩ := hE
  obtain ⟨a1, a2⟩ := e2 h76
  have hz : szE e = 2 + 2 * e.2.1 := if_pos h76
  rw [hz] at hM
  have hM2 : M ≤ 200 := by omega
  have c1 := c_do (show M + 1 < 240 by omega)
  have c0' : 0 ≤ (M : Int) ∧ (M : Int) < 240 := c_do (show M + 0 < 240 by omega)
  have ev := e_f_Mod_does G
  obtain ⟨w1, w2, -⟩ := w_do hM2
  have w3 := w_do2 hM2 hn
  rw [h2, if_pos c0', e1, if_pos h76, w1, if_pos c1, w2, a1, w3] at ev
  clear w1 w2 w3
  obtain ⟨G1, e4, hR1, hF1⟩ := r_addsLine (s := s) (G := up G 25 0 20 ((M + (2 + 2 * e.2.1) : Nat) : Int)) (n := e.2.1) (M := M + 1) (V := e.2.2) hs (hR.fr (fun z => up_t (by decide))) ⟨hn2, hn⟩ hV (by omega) ((up_t (by decide)).trans a1) (fun k hk => by
    rw [up_t (by decide), up_t (by decide)]
    exact a2 k hk)
  rw [e4, bI_r] at ev
  have hap : apE s e = if wrL s e.2.1 e.2.2 = true then (1, s) else if mNl s < 6 then (0, alS s e.2.1 e.2.2) else (2, s) := if_pos h76
  unfold DoR
  rw [hap, hz]
  refine ⟨G1, ?_, ?_, (hF1 25 0 20 (by unfold FAl; omega)).trans (up_at _ _ _ _ _), (FrD.p20 G _).trans (FrD.of hF1)⟩
  · rw [ev]
    cases wrL s e.2.1 e.2.2 with
    | true => rfl
    | false =>
      rw [if_neg nfT, if_neg nfT]
      by_cases c : mNl s < 6
      · rw [if_pos c, if_pos c]
        rfl
      · rw [if_neg c, if_neg c]
        rfl
  · cases q : wrL s e.2.1 e.2.2 with
    | true =>
      rw [q, if_pos rfl] at hR1
      exact hR1
    | false =>
      rw [q, if_neg nfT] at hR1
      rw [if_neg nfT]
      by_cases c : mNl s < 6
      · rw [if_pos c] at hR1 ⊢
        exact hR1
      · rw [if_neg c] at hR1 ⊢
        exact hR1
theorem do_point (hs : okM s) (hR : RoR G 26 s) (h2 : G 25 0 20 = (M : Int)) (hE : StE G M e) (he : e.1 = 80 ∧ e.2.1 = 5 ∧ inG rgP 5 e.2.2) (hM : M + szE e ≤ 200) : DoR G s M e (f_Mod_does G) := by
  obtain ⟨h80, hn, hr⟩ := he
  obtain ⟨e1, -, e2⟩ := hE
  have h76 : ¬ e.1 = 76 := by omega
  have a := e2 h76
  have hz : szE e = 6 := by
    have : szE e = 1 + e.2.1 := if_neg h76
    omega
  rw [hz] at hM
  have r0 : 0 ≤ e.2.2 0 ∧ e.2.2 0 ≤ 63 := hr 0 (by decide)
  have r1 : 0 ≤ e.2.2 1 ∧ e.2.2 1 ≤ 63 := hr 1 (by decide)
  have v0 : G 40 0 ((M + 1 : Nat) : Int) = e.2.2 0 := a 0 (by omega)
  have v1 : G 40 0 ((M + 2 : Nat) : Int) = e.2.2 1 := a 1 (by omega)
  have v2 : G 40 0 ((M + 3 : Nat) : Int) = e.2.2 2 := a 2 (by omega)
  have v3 : G 40 0 ((M + 4 : Nat) : Int) = e.2.2 3 := a 3 (by omega)
  have v4 : G 40 0 ((M + 5 : Nat) : Int) = e.2.2 4 := a 4 (by omega)
  have hM2 : M ≤ 200 := by omega
  have c0' : 0 ≤ (M : Int) ∧ (M : Int) < 240 := c_do (show M + 0 < 240 by omega)
  have c1 := c_do (show M + 1 < 240 by omega)
  have c2 := c_do (show M + 2 < 240 by omega)
  have c3 := c_do (show M + 3 < 240 by omega)
  have c4 := c_do (show M + 4 < 240 by omega)
  have c5 := c_do (show M + 5 < 240 by omega)
  have ev := e_f_Mod_does G
  obtain ⟨w1, w2, w3, w4, w5, w6⟩ := w_do hM2
  rw [h2, if_pos c0', e1, if_neg h76, if_pos h80, w1, if_pos c1, w2, if_pos c2, w6, up_t (show (40 : Nat) ≠ 25 by decide), up_t (show (40 : Nat) ≠ 25 by decide), v0, v1, w3, w4, w5] at ev
  clear w1 w2 w3 w4 w5 w6
  have hR0 : RoR (up G 25 0 20 ((M + 6 : Nat) : Int)) 26 s := hR.fr (fun z => up_t (by decide))
  have hxy : isXY (e.2.2 0) (e.2.2 1) := by unfold isXY; omega
  obtain ⟨G1, e4, hF1⟩ := r_wrongPoint hs hR0 hxy
  have n40 : ∀ z, G1 40 0 z = G 40 0 z := fun z => (hF1 40 0 z (by unfold FT; omega)).trans (up_t (by decide))
  have hR1 : RoR G1 26 s := hR0.fr (fun z => hF1 26 0 z (by unfold FT; omega))
  have h20 : G1 25 0 20 = ((M + 6 : Nat) : Int) := (hF1 25 0 20 (by unfold FT; omega)).trans (up_at _ _ _ _ _)
  have hFD : FrD G G1 := (FrD.p20 G _).trans (FrD.of (hF1.mono (fun t i z => by unfold FT at z; unfold FAl; omega)))
  rw [e4, bI_r] at ev
  have hap : apE s e = if tkO s (64 * e.2.2 0 + e.2.2 1) = true then (2, s) else if mNp s < 12 then (0, apS s (v6 (e.2.2 0) (e.2.2 1) (e.2.2 2) (e.2.2 3) (e.2.2 4) 0)) else (2, s) := by
    unfold apE
    rw [if_neg h76, if_pos h80]
  have h12 := hs.2.2.2.2.1.1
  unfold DoR
  rw [hap, hz]
  cases q : tkO s (64 * e.2.2 0 + e.2.2 1) with
  | true =>
    rw [q, if_pos rfl, if_neg (by decide)] at ev
    rw [if_pos rfl]
    exact ⟨G1, ev, hR1, h20, hFD⟩
  | false =>
    rw [q, if_neg nfT] at ev
    rw [if_neg nfT]
    by_cases c : mNp s < 12
    · have c9 : ¬ mNp s = 12 := by omega
      rw [if_neg c9, if_pos rfl, if_pos c1, if_pos c2, if_pos c3, if_pos c4, if_pos c5, n40, n40, n40, n40, n40, v0, v1, v2, v3, v4] at ev
      obtain ⟨G2, e5, hR2, hF2⟩ := r_put hs c hR1 (e.2.2 0) (e.2.2 1) (e.2.2 2) (e.2.2 3) (e.2.2 4) 0
      rw [e5, bV_r] at ev
      rw [if_pos c]
      exact ⟨G2, ev, hR2, (hF2 25 0 20 (fun z => absurd z.1 (by decide))).trans h20, hFD.trans (FrD.of (hF2.mono (fun t i z => ⟨Or.inl z.1, z.2⟩)))⟩
    · have c9 : mNp s = 12 := by omega
      rw [if_pos c9, if_neg (by decide)] at ev
      rw [if_neg c]
      exact ⟨G1, ev, hR1, h20, hFD⟩
theorem do_field (hR : RoR G 26 s) (h2 : G 25 0 20 = (M : Int)) (hE : StE G M e) (he : e.1 = 70 ∧ e.2.1 = 3 ∧ inG rgF 3 e.2.2) (hM : M + szE e ≤ 200) : DoR G s M e (f_Mod_does G) := by
  obtain ⟨h70, hn, hr⟩ := he
  obtain ⟨e1, -, e2⟩ := hE
  have h76 : ¬ e.1 = 76 := by omega
  have h80 : ¬ e.1 = 80 := by omega
  have a := e2 h76
  have hz : szE e = 4 := by
    have : szE e = 1 + e.2.1 := if_neg h76
    omega
  rw [hz] at hM
  have r0 : 0 ≤ e.2.2 0 ∧ e.2.2 0 ≤ 7 := hr 0 (by decide)
  have r1 : 0 ≤ e.2.2 1 ∧ e.2.2 1 ≤ 7 := hr 1 (by decide)
  have v0 : G 40 0 ((M + 1 : Nat) : Int) = e.2.2 0 := a 0 (by omega)
  have v1 : G 40 0 ((M + 2 : Nat) : Int) = e.2.2 1 := a 1 (by omega)
  have v2 : G 40 0 ((M + 3 : Nat) : Int) = e.2.2 2 := a 2 (by omega)
  have hM2 : M ≤ 200 := by omega
  have c0' : 0 ≤ (M : Int) ∧ (M : Int) < 240 := c_do (show M + 0 < 240 by omega)
  have c1 := c_do (show M + 1 < 240 by omega)
  have c2 := c_do (show M + 2 < 240 by omega)
  have c3 := c_do (show M + 3 < 240 by omega)
  have hf : 200 + (8 * (e.2.2 1).toNat + (e.2.2 0).toNat) < 296 := by omega
  have ev := e_f_Mod_does G
  obtain ⟨w1, w2, w3, w4, w5, w6⟩ := w_do hM2
  have u0 : (up G 25 0 20 ((M + 4 : Nat) : Int)) 40 0 ((M + 1 : Nat) : Int) = e.2.2 0 := (up_t (by decide)).trans v0
  have u1 : (up G 25 0 20 ((M + 4 : Nat) : Int)) 40 0 ((M + 2 : Nat) : Int) = e.2.2 1 := (up_t (by decide)).trans v1
  have u2 : (up G 25 0 20 ((M + 4 : Nat) : Int)) 40 0 ((M + 3 : Nat) : Int) = e.2.2 2 := (up_t (by decide)).trans v2
  rw [h2, if_pos c0', e1, if_neg h76, if_neg h80, w1, w2, if_pos c2, if_pos c1, w3, if_pos c3, w4, u0, u1, u2, w_fd r0 r1] at ev
  clear w1 w2 w3 w4 w5 w6
  have hap : apE s e = (0, upS s (200 + (8 * (e.2.2 1).toNat + (e.2.2 0).toNat)) (e.2.2 2)) := by
    unfold apE
    rw [if_neg h76, if_neg h80]
  unfold DoR
  rw [hap, hz]
  clear r0 r1 hr hap
  generalize 200 + (8 * (e.2.2 1).toNat + (e.2.2 0).toNat) = f at *
  have c9 : 0 ≤ (f : Int) ∧ (f : Int) < 296 := by clear ev; omega
  rw [if_pos c9] at ev
  have hR0 : RoR (up G 25 0 20 ((M + 4 : Nat) : Int)) 26 s := hR.fr (fun z => up_t (by decide))
  refine ⟨_, ev, ror_up hR0 rfl _, (up_t (by decide)).trans (up_at _ _ _ _ _), (FrD.p20 G _).trans ⟨Fr.up _ _ _ (Or.inr (Or.inl rfl)), fun k _ => up_t (by decide)⟩⟩
theorem r_does (hs : okM s) (hR : RoR G 26 s) (h2 : G 25 0 20 = (M : Int)) (hE : StE G M e) (he : okE e) (hM : M + szE e ≤ 200) : DoR G s M e (f_Mod_does G) := by
  rcases he with h | h | h
  · exact do_line hs hR h2 hE h hM
  · exact do_point hs hR h2 hE h hM
  · exact do_field hR h2 hE h hM
end SF9
