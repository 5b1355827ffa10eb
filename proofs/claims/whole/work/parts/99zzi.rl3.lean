/-! ===== read: the reference writes a row and judges it ===== -/
section SB9
variable {G : GG} {l n many : Nat} {V : Nat → Int} {sz : Nat → Nat} {cd : Nat → Nat → Int} {np : Nat} {pt : Nat → Nat → Int}
def jgB (np : Nat) (pt : Nat → Nat → Int) (many : Nat) (sz : Nat → Nat) (cd : Nat → Nat → Int) (l n : Nat) (V : Nat → Int) : Bool := (samB n V || twB n V) || (anyB 0 many (moO sz cd l n V) || poB np pt n V)
theorem r_judge {NO YES : GG → RS} (h : RowQ G l n V) (hl : l < 6) (hn : 2 ≤ n ∧ n ≤ 10) (hm : many ≤ 6) (ho : ∀ o : Nat, o < many → o ≠ l → RowQ G o (sz o) (cd o) ∧ (2 ≤ sz o ∧ sz o ≤ 10) ∧ ∀ k : Nat, k + 1 < sz o → cd o k ≠ cd o (k + 1)) (hP : PtR G np pt) (hop : okPt np pt) :
    (bI (f_Mod_areSame l G) fun r2 G1 => if r2 = 0 then bI (f_Mod_isSimple l G1) fun r4 G3 => if r4 = 0 then NO G3 else bI (f_Mod_meetOther l many G3) fun r6 G5 => if r6 = 0 then bI (f_Mod_hasPointOn l G5) fun r8 G7 => if r8 = 0 then YES G7 else NO G7 else NO G5 else NO G1) = if jgB np pt many sz cd l n V = true then NO G else YES G := by
  rw [r_areSame h hl hn, bI_r]
  unfold jgB
  cases q1 : samB n V with
  | true => rfl
  | false =>
    rw [if_pos (show b2i false = 0 from rfl), r_isSimpleL h hl hn q1, bI_r]
    cases q2 : twB n V with
    | true => rfl
    | false =>
      rw [if_neg (show ¬ b2i (!false) = 0 by decide), r_meetOtherL h hl hn q1 hm ho, bI_r]
      cases q3 : anyB 0 many (moO sz cd l n V) with
      | true => rfl
      | false =>
        rw [if_pos (show b2i false = 0 from rfl), r_hasPointL h hl hn q1 hP hop, bI_r]
        cases q4 : poB np pt n V with
        | true => rfl
        | false => rfl
/-- only row l of the lines that are looked at is written -/
def FrW (l : Nat) (G G' : GG) : Prop := Fr (fun t i => (t = 31 ∨ t = 32) ∧ i = 0) G G' ∧ ∀ z : Int, (z < ((10 * l : Nat) : Int) ∨ ((10 * l + 10 : Nat) : Int) ≤ z) → G' 31 0 z = G 31 0 z ∧ G' 32 0 z = G 32 0 z
theorem w_rw {M l k n : Nat} (hl : l < 6) (hk : k < n) (hn : n ≤ 10) (hM : M + 2 + 2 * n ≤ 240) : wr (wr ((M : Int) + 1) + wr (2 * (k : Int))) = ((M + 1 + 2 * k : Nat) : Int) ∧ wr (wr ((M : Int) + 2) + wr (2 * (k : Int))) = ((M + 2 + 2 * k : Nat) : Int) ∧ wr (wr (10 * (l : Int)) + (k : Int)) = ((10 * l + k : Nat) : Int) := by
  refine ⟨?_, ?_, ?_⟩
  · rw [wr_id (z := (M : Int) + 1) (by omega) (by omega), wr_id (z := 2 * (k : Int)) (by omega) (by omega), wr_id (by omega) (by omega)]
    omega
  · rw [wr_id (z := (M : Int) + 2) (by omega) (by omega), wr_id (z := 2 * (k : Int)) (by omega) (by omega), wr_id (by omega) (by omega)]
    omega
  · rw [wr_id (z := 10 * (l : Int)) (by omega) (by omega), wr_id (by omega) (by omega)]
    omega
theorem c_rw {M l k n : Nat} (hl : l < 6) (hk : k < n) (hn : n ≤ 10) (hM : M + 2 + 2 * n ≤ 240) : (0 ≤ ((M + 1 + 2 * k : Nat) : Int) ∧ ((M + 1 + 2 * k : Nat) : Int) < 240) ∧ (0 ≤ ((M + 2 + 2 * k : Nat) : Int) ∧ ((M + 2 + 2 * k : Nat) : Int) < 240) ∧ (0 ≤ ((10 * l + k : Nat) : Int) ∧ ((10 * l + k : Nat) : Int) < 60) ∧ (k : Int) < (n : Int) := by omega
/-- the codes of an entry, where they are read from -/
def CdE (G : GG) (M n : Nat) (V : Nat → Int) : Prop := ∀ k : Nat, k < n → G 40 0 ((M + 1 + 2 * k : Nat) : Int) = V k / 64 ∧ G 40 0 ((M + 2 + 2 * k : Nat) : Int) = V k % 64
theorem CdE.fr {M : Nat} {G' : GG} (h : CdE G M n V) (hF : ∀ z, G' 40 0 z = G 40 0 z) : CdE G' M n V := fun k hk => ⟨(hF _).trans (h k hk).1, (hF _).trans (h k hk).2⟩
/-- what is written after k steps -/
def RwI (l k : Nat) (V : Nat → Int) (G G1 : GG) : Prop := (∀ j : Nat, j < k → G1 31 0 ((10 * l + j : Nat) : Int) = V j / 64 ∧ G1 32 0 ((10 * l + j : Nat) : Int) = V j % 64) ∧ FrW l G G1
theorem RwI.stp {k : Nat} {G1 : GG} (h : RwI l k V G G1) (hk : k < 10) : RwI l (k + 1) V G (up (up G1 31 0 ((10 * l + k : Nat) : Int) (V k / 64)) 32 0 ((10 * l + k : Nat) : Int) (V k % 64)) := by
  obtain ⟨h1, h2, h3⟩ := h
  refine ⟨fun j hj => ?_, (h2.trans (Fr.up _ _ _ ⟨Or.inl rfl, rfl⟩)).trans (Fr.up _ _ _ ⟨Or.inr rfl, rfl⟩), fun z hz => ?_⟩
  · rw [up_t (show (31 : Nat) ≠ 32 by decide)]
    by_cases q : j = k
    · rw [q, up_at, up_at]
      exact ⟨rfl, rfl⟩
    · rw [up_k (by omega), up_k (by omega), up_t (by decide)]
      exact h1 j (by omega)
  · rw [up_t (show (31 : Nat) ≠ 32 by decide), up_k (by omega), up_k (by omega), up_t (by decide)]
    exact h3 z hz
theorem row_fits {M : Nat} (hl : l < 6) (hn : n ≤ 10) (hM : M + 2 + 2 * n ≤ 240) (hc : CdE G M n V) : ∃ G1, l_Mod_fits_10 M n l 0 G = l_Mod_fits_10 M n l n G1 ∧ RwI l n V G G1 := by
  refine loop_inv (l := fun (k : Nat) G1 => l_Mod_fits_10 M n l (k : Int) G1) (I := fun k G1 => RwI l k V G G1) (P := fun r => ∃ G1, r = l_Mod_fits_10 M n l n G1 ∧ RwI l n V G G1) n 0 G (fun k G1 _ hk hI => ?_) (fun G1 hI => ?_) ⟨fun j hj => absurd hj (Nat.not_lt_zero j), Fr.refl G, fun _ _ => ⟨rfl, rfl⟩⟩
  · have hk2 : k < n := by omega
    have hF := hI.2.1
    have hc1 : CdE G1 M n V := hc.fr (fun z => hF 40 0 z (fun y => by rcases y.1 with x | x <;> exact absurd x (by decide)))
    obtain ⟨w1, w2, w3⟩ := w_rw hl hk2 hn hM
    obtain ⟨c1, c2, c3, c4⟩ := c_rw hl hk2 hn hM
    have e := e_l_Mod_fits_10 M n l (k : Int) G1
    rw [if_pos c4, w1, w2, w3, if_pos c1, if_pos c3, if_pos c2, if_pos c3, up_t (show (40 : Nat) ≠ 31 by decide), (hc1 k hk2).1, (hc1 k hk2).2, w_at1 (by omega)] at e
    exact ⟨_, e, hI.stp (by omega)⟩
  · rw [Nat.zero_add] at hI ⊢
    exact ⟨G1, rfl, hI⟩
theorem row_seventh {M : Nat} (hl : l < 6) (hn : n ≤ 10) (hM : M + 2 + 2 * n ≤ 240) (hc : CdE G M n V) : ∃ G1, l_Mod_seventh_38 M l n 0 G = l_Mod_seventh_38 M l n n G1 ∧ RwI l n V G G1 := by
  refine loop_inv (l := fun (k : Nat) G1 => l_Mod_seventh_38 M l n (k : Int) G1) (I := fun k G1 => RwI l k V G G1) (P := fun r => ∃ G1, r = l_Mod_seventh_38 M l n n G1 ∧ RwI l n V G G1) n 0 G (fun k G1 _ hk hI => ?_) (fun G1 hI => ?_) ⟨fun j hj => absurd hj (Nat.not_lt_zero j), Fr.refl G, fun _ _ => ⟨rfl, rfl⟩⟩
  · have hk2 : k < n := by omega
    have hF := hI.2.1
    have hc1 : CdE G1 M n V := hc.fr (fun z => hF 40 0 z (fun y => by rcases y.1 with x | x <;> exact absurd x (by decide)))
    obtain ⟨w1, w2, w3⟩ := w_rw hl hk2 hn hM
    obtain ⟨c1, c2, c3, c4⟩ := c_rw hl hk2 hn hM
    have e := e_l_Mod_seventh_38 M l n (k : Int) G1
    rw [if_pos c4, w1, w2, w3, if_pos c1, if_pos c3, if_pos c2, if_pos c3, up_t (show (40 : Nat) ≠ 31 by decide), (hc1 k hk2).1, (hc1 k hk2).2, w_at1 (by omega)] at e
    exact ⟨_, e, hI.stp (by omega)⟩
  · rw [Nat.zero_add] at hI ⊢
    exact ⟨G1, rfl, hI⟩
/-- the row written is a row of the lines; the others stay -/
theorem RwI.row {G1 : GG} (h : RwI l n V G G1) (hl : l < 6) (hn : n ≤ 10) (hz : G 30 0 (l : Int) = (n : Int)) (hV : ∀ k : Nat, k < n → isC (V k)) : RowQ G1 l n V := by
  refine ⟨(h.2.1 30 0 _ (fun y => by rcases y.1 with x | x <;> exact absurd x (by decide))).trans hz, fun k hk => ⟨by omega, by omega, hV k hk, ?_, ?_⟩⟩
  · rw [show 10 * (l : Int) + (k : Int) = ((10 * l + k : Nat) : Int) by omega]
    exact (h.1 k hk).1
  · rw [show 10 * (l : Int) + (k : Int) = ((10 * l + k : Nat) : Int) by omega]
    exact (h.1 k hk).2
theorem RwI.oth {G1 : GG} {o : Nat} (h : RwI l n V G G1) (hne : o ≠ l) (hz : sz o ≤ 10) (ho : RowQ G o (sz o) (cd o)) : RowQ G1 o (sz o) (cd o) := by
  refine ⟨(h.2.1 30 0 _ (fun y => by rcases y.1 with x | x <;> exact absurd x (by decide))).trans ho.1, fun k hk => ?_⟩
  obtain ⟨a1, a2, a3, a4, a5⟩ := ho.2 k hk
  obtain ⟨b1, b2⟩ := h.2.2 (10 * (o : Int) + (k : Int)) (by omega)
  exact ⟨a1, a2, a3, b1.trans a4, b2.trans a5⟩
end SB9
