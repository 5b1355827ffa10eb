/-! ===== read: the reference passes a line ===== -/
noncomputable def TLr (M j : Int) (G : GG) : RS := bI (f_Mod_takes 45 G) fun r4 G3 => if r4 = 0 then (if 0 ≤ M ∧ M < 240 then (if 1 < j then rI 1 (up G3 40 0 M j) else rI 0 (up G3 40 0 M j)) else none) else l_Mod_takesLine_12 M j G3
section SX9
variable {tn M : Nat} {tx : Nat → Int}
def LnR (G : GG) (M tn : Nat) (tx : Nat → Int) (L : RS) (r : Int × Nat × (Nat → Int) × Nat) : Prop :=
  ∃ G1, L = rI (if r.1 = 1 ∧ ¬ chAt tx tn 45 r.2.2.2 then 1 else 0) G1 ∧ FrE M G G1 ∧ G1 25 0 20 = (r.2.2.2 : Int) ∧ (r.1 = 1 → ¬ chAt tx tn 45 r.2.2.2 → ScL G1 tn tx r.2.2.2 M r.2.1 r.2.2.1 ∧ G1 40 0 (M : Int) = (r.2.1 : Int))
theorem ScL.p40 {G : GG} {b j : Nat} {V : Nat → Int} (h : ScL G tn tx b M j V) (v : Int) : ScL (up G 40 0 (M : Int) v) tn tx b M j V := by
  obtain ⟨h1, h2, h3, h4, h5⟩ := h
  refine ⟨h1.fr (FrE.p40 (M := M) G (Int.le_refl _) _), ?_, ?_, fun k hk => ?_, h5⟩
  · rw [up_t (by decide)]
    exact h2
  · rw [up_t (by decide)]
    exact h3
  · rw [up_k (by omega), up_k (by omega)]
    exact h4 k hk
theorem LnR.no {G G1 : GG} {L : RS} {r : Int × Nat × (Nat → Int) × Nat} (e : L = rI 0 G1) (hF : FrE M G G1) (hp : G1 25 0 20 = (r.2.2.2 : Int)) (hn : ¬ (r.1 = 1 ∧ ¬ chAt tx tn 45 r.2.2.2)) : LnR G M tn tx L r :=
  ⟨G1, by rw [if_neg hn]; exact e, hF, hp, fun a b => absurd ⟨a, b⟩ hn⟩
theorem LnR.yes {G G1 : GG} {L : RS} {r : Int × Nat × (Nat → Int) × Nat} (e : L = rI 1 G1) (hF : FrE M G G1) (hs : ScL G1 tn tx r.2.2.2 M r.2.1 r.2.2.1) (h4 : G1 40 0 (M : Int) = (r.2.1 : Int)) (hn : r.1 = 1 ∧ ¬ chAt tx tn 45 r.2.2.2) : LnR G M tn tx L r :=
  ⟨G1, by rw [if_pos hn]; exact e, hF, hs.2.1, fun _ _ => ⟨hs, h4⟩⟩
theorem LnR.fr {G G1 : GG} {L : RS} {r : Int × Nat × (Nat → Int) × Nat} (h : LnR G1 M tn tx L r) (hF : FrE M G G1) : LnR G M tn tx L r := by
  obtain ⟨G2, e, F2, h2⟩ := h
  exact ⟨G2, e, hF.trans F2, h2⟩
theorem w_m1 {b : Nat} (h : b ≤ 100) : wr (((b + 1 : Nat) : Int) - 1) = (b : Int) := by
  rw [wr_id (by omega) (by omega)]
  omega
theorem w_m0 {b : Nat} (h : b ≤ 100) : wr ((b : Int) - 0) = (b : Int) := by
  rw [wr_id (by omega) (by omega)]
  omega
theorem r_takes_t {G : GG} {ch : Int} {b : Nat} (h : TxR G tn tx) (h2 : G 25 0 20 = (b : Int)) (ht : tn ≤ 60) (hc : 0 ≤ ch) (c : chAt tx tn ch b) : f_Mod_takes ch G = rI 1 (up G 25 0 20 ((b + 1 : Nat) : Int)) := by
  have e := e_f_Mod_takes ch G
  have hb := c.1
  rw [r_here h h2 ht, bI_r, if_pos ((hr_ch hc).mpr c), h2, w_at1 (by omega)] at e
  exact e
theorem r_takes_f {G : GG} {ch : Int} {b : Nat} (h : TxR G tn tx) (h2 : G 25 0 20 = (b : Int)) (ht : tn ≤ 60) (hc : 0 ≤ ch) (c : ¬ chAt tx tn ch b) : f_Mod_takes ch G = rI 0 G := by
  have e := e_f_Mod_takes ch G
  rw [r_here h h2 ht, bI_r, if_neg (fun z => c ((hr_ch hc).mp z))] at e
  exact e
theorem r_tail (ht : tn ≤ 60) (hx : ∀ j : Nat, j < tn → 32 ≤ tx j ∧ tx j ≤ 126) : ∀ (m j b : Nat) (V : Nat → Int) (G : GG), ScL G tn tx b M j V → 1 ≤ j → j + m = 10 → b ≤ tn → LnR G M tn tx (TLr M j G) (pL tx tn m j b V)
  | 0, j, b, V, G, h, h1, hm, hb => by
    have hj : j = 10 := by omega
    have h5 := h.2.2.2.2
    unfold TLr
    by_cases d : chAt tx tn 45 b
    · have e := e_l_Mod_takesLine_12 (M : Int) (j : Int) (up G 25 0 20 ((b + 1 : Nat) : Int))
      have c1 : (j : Int) = 10 := by omega
      rw [if_pos c1, if_pos c1, up_at, w_m1 (by omega)] at e
      rw [r_takes_t h.1 h.2.1 ht (by decide) d, bI_r, if_neg i01, e]
      exact LnR.no rfl ((FrE.p20 M G _).trans (FrE.p20 M _ _)) (up_at _ _ _ _ _) (fun z => z.2 d)
    · have c1 : 0 ≤ (M : Int) ∧ (M : Int) < 240 := by omega
      have c2 : 1 < (j : Int) := by omega
      rw [r_takes_f h.1 h.2.1 ht (by decide) d, bI_r, if_pos rfl, if_pos c1, if_pos c2]
      exact LnR.yes rfl (FrE.p40 G (Int.le_refl _) _) (h.p40 _) (up_at _ _ _ _ _) ⟨rfl, d⟩
  | m + 1, j, b, V, G, h, h1, hm, hb => by
    have h5 := h.2.2.2.2
    unfold TLr pL
    by_cases d : chAt tx tn 45 b
    · rw [if_pos d]
      have hb1 : b + 1 ≤ tn := d.1
      have e := e_l_Mod_takesLine_12 (M : Int) (j : Int) (up G 25 0 20 ((b + 1 : Nat) : Int))
      have c1 : ¬ (j : Int) = 10 := by omega
      obtain ⟨G1, e1, hF, hp, h01, hs⟩ := sr_vert ht hx (h.at1 (Nat.le_succ b)) hb1
      obtain ⟨q1, q2, q3, q4⟩ := pP_sp (tx := tx) (tn := tn) (a := b + 1)
      have hp3 := q3 hb1
      rw [if_neg c1, e1, bI_r] at e
      rw [r_takes_t h.1 h.2.1 ht (by decide) d, bI_r, if_neg i01]
      generalize pP tx tn (b + 1) = r at *
      have FF := (FrE.p20 M G ((b + 1 : Nat) : Int)).trans hF
      by_cases c2 : r.1 = 0
      · rw [if_pos c2, if_neg c1, hp, w_m0 (by omega)] at e
        rw [if_pos c2, e]
        exact LnR.no rfl (FF.trans (FrE.p20 M _ _)) (up_at _ _ _ _ _) (fun z => absurd (show (0 : Int) = 1 from z.1) (by decide))
      · rw [if_neg c2, w_at1 (by omega)] at e
        rw [if_neg c2, e]
        exact (r_tail ht hx m (j + 1) r.2.2.2 _ G1 (hs (h01.resolve_left c2)) (Nat.le_add_left 1 j) (by omega) hp3).fr FF
    · rw [if_neg d]
      have c1 : 0 ≤ (M : Int) ∧ (M : Int) < 240 := by omega
      rw [r_takes_f h.1 h.2.1 ht (by decide) d, bI_r, if_pos rfl, if_pos c1]
      by_cases k : j < 2
      · have c2 : ¬ 1 < (j : Int) := by omega
        rw [if_neg c2, if_pos k]
        exact LnR.no rfl (FrE.p40 G (Int.le_refl _) _) (h.p40 _).2.1 (fun z => absurd (show (0 : Int) = 1 from z.1) (by decide))
      · have c2 : 1 < (j : Int) := by omega
        rw [if_pos c2, if_neg k]
        exact LnR.yes rfl (FrE.p40 G (Int.le_refl _) _) (h.p40 _) (up_at _ _ _ _ _) ⟨rfl, d⟩
theorem r_takesLine {G : GG} {a : Nat} {nu : Nat → Int} (ht : tn ≤ 60) (hx : ∀ j : Nat, j < tn → 32 ≤ tx j ∧ tx j ≤ 126) (h : ScR G tn tx a M 0 nu) (ha : a ≤ tn) (hM : M + 1 ≤ 2 * a) : LnR G M tn tx (f_Mod_takesLine G) (pV tx tn a) := by
  have e0 := e_f_Mod_takesLine G
  obtain ⟨G1, e1, hF1, h20, -, hA⟩ := r_adds h (by omega) 0
  have s1 := hA hM
  have hm : G 25 0 21 = (M : Int) := h.2.2.1
  rw [e1, bV_r, hm] at e0
  have sl : ScL G1 tn tx a M 0 (fun _ => 0) := ⟨s1.1, s1.2.1, s1.2.2.1, fun k hk => absurd hk (Nat.not_lt_zero k), hM⟩
  have e := e_l_Mod_takesLine_12 (M : Int) 0 G1
  have c1 : ¬ (0 : Int) = 10 := by decide
  obtain ⟨G2, e2, hF2, hp, h01, hs⟩ := sr_vert ht hx sl ha
  obtain ⟨q1, q2, q3, q4⟩ := pP_sp (tx := tx) (tn := tn) (a := a)
  have hp3 := q3 ha
  rw [if_neg c1, e2, bI_r] at e
  unfold pV
  generalize pP tx tn a = r at *
  have FF := hF1.trans hF2
  by_cases c2 : r.1 = 0
  · rw [if_pos c2, if_neg c1, hp, w_m0 (by omega)] at e
    rw [if_pos c2, e0, e]
    exact LnR.no rfl (FF.trans (FrE.p20 M _ _)) (up_at _ _ _ _ _) (fun z => absurd (show (0 : Int) = 1 from z.1) (by decide))
  · rw [if_neg c2] at e
    have w : wr ((0 : Int) + 1) = ((1 : Nat) : Int) := by decide
    rw [w] at e
    rw [if_neg c2, e0, e]
    exact (r_tail ht hx 9 1 r.2.2.2 _ G2 (hs (h01.resolve_left c2)) (Nat.le_refl 1) rfl hp3).fr FF
end SX9
