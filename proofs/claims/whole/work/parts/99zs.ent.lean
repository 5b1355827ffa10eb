/-! ===== read: an entry; its pure shape; the class ===== -/
/-- a step of the parser: found, the place, how many numbers, the numbers -/
abbrev PR : Type := Int × Nat × Nat × (Nat → Int)
def bindP (r : PR) (k : Nat → Nat → (Nat → Int) → PR) : PR := if r.1 = 0 then (0, r.2.1, 0, r.2.2.2) else k r.2.1 r.2.2.1 r.2.2.2
def sN (tx : Nat → Int) (tn : Nat) (lo hi : Int) (a z : Nat) (nu : Nat → Int) : PR := ((pN tx tn lo hi a).1, (pN tx tn lo hi a).2.2, z + 1, psN nu z (pN tx tn lo hi a).2.1)
def sC (tx : Nat → Int) (tn : Nat) (ch : Int) (a z : Nat) (nu : Nat → Int) : PR := (if chAt tx tn ch a then 1 else 0, if chAt tx tn ch a then a + 1 else a, z, nu)
def sP (tx : Nat → Int) (tn a z : Nat) (nu : Nat → Int) : PR := ((pP tx tn a).1, (pP tx tn a).2.2.2, z + 1 + 1, psN (psN nu z (pP tx tn a).2.1) (z + 1) (pP tx tn a).2.2.1)
def sV (tx : Nat → Int) (tn a : Nat) : PR := ((pV tx tn a).1, (pV tx tn a).2.2.2, (pV tx tn a).2.1, (pV tx tn a).2.2.1)
def pEP (tx : Nat → Int) (tn a : Nat) : PR :=
  bindP (sP tx tn a 0 fun _ => 0) fun b z nu => bindP (sC tx tn 114 b z nu) fun b z nu => bindP (sN tx tn 0 9 b z nu) fun b z nu => bindP (sC tx tn 119 b z nu) fun b z nu => bindP (sN tx tn 2 12 b z nu) fun b z nu => bindP (sC tx tn 104 b z nu) fun b z nu => bindP (sN tx tn 1 4 b z nu) fun b z nu => sC tx tn 59 b z nu
def pEF (tx : Nat → Int) (tn a : Nat) : PR :=
  bindP (sN tx tn 0 7 a 0 fun _ => 0) fun b z nu => bindP (sN tx tn 0 7 b z nu) fun b z nu => bindP (sC tx tn 61 b z nu) fun b z nu => bindP (sN tx tn 0 15 b z nu) fun b z nu => sC tx tn 59 b z nu
def pEL (tx : Nat → Int) (tn a : Nat) : PR := bindP (sV tx tn a) fun b z nu => sC tx tn 59 b z nu
/-- an entry at a place -/
def pE (tx : Nat → Int) (tn a : Nat) : PR :=
  if a < tn then (if tx a = 76 then pEL tx tn (a + 1) else if tx a = 80 then pEP tx tn (a + 1) else if tx a = 70 then pEF tx tn (a + 1) else (0, a, 0, fun _ => 0))
  else (0, a, 0, fun _ => 0)
section SL
variable {G : GG} {tn a z : Nat} {tx nu : Nat → Int} {lo hi ch : Int} {L : RS} {r : PR}
/-- what a step leaves in the class -/
def StP (G : GG) (tn : Nat) (tx : Nat → Int) (L : RS) (r : PR) : Prop :=
  ∃ G1, L = rI r.1 G1 ∧ FrS G G1 ∧ TxC G1 tn tx ∧ G1 21 0 2 = (r.2.1 : Int) ∧ r.2.1 ≤ tn ∧ (r.1 = 0 ∨ r.1 = 1) ∧ (r.1 = 1 → ScC G1 tn tx r.2.1 r.2.2.1 r.2.2.2)
theorem StP.bind {K : GG → RS} {k : Nat → Nat → (Nat → Int) → PR} (h : StP G tn tx L r) (hk : ∀ G1, ScC G1 tn tx r.2.1 r.2.2.1 r.2.2.2 → r.2.1 ≤ tn → StP G1 tn tx (K G1) (k r.2.1 r.2.2.1 r.2.2.2)) :
    StP G tn tx (bI L fun v G1 => if v = 0 then rI 0 G1 else K G1) (bindP r k) := by
  obtain ⟨G1, e, hF, hT, hp, hn, h01, hs⟩ := h
  rw [e, bI_r]
  unfold bindP
  by_cases c : r.1 = 0
  · rw [if_pos c, if_pos c]
    exact ⟨G1, rfl, hF, hT, hp, hn, Or.inl rfl, fun w => absurd (show (0 : Int) = 1 from w) (by decide)⟩
  · rw [if_neg c, if_neg c]
    obtain ⟨G2, e2, hF2, h2⟩ := hk G1 (hs (h01.resolve_left c)) hn
    exact ⟨G2, e2, hF.trans hF2, h2⟩
theorem StP.last (h : StP G tn tx L r) : StP G tn tx (bI L fun v G1 => if v = 0 then rI 0 G1 else rI 1 G1) r := by
  obtain ⟨G1, e, hF, hT, hp, hn, h01, hs⟩ := h
  refine ⟨G1, ?_, hF, hT, hp, hn, h01, hs⟩
  rw [e, bI_r]
  rcases h01 with c | c
  · rw [if_pos c, c]
  · rw [if_neg (fun w => by rw [c] at w; exact i01 w), c]
theorem StP.fr {G1 : GG} (h : StP G1 tn tx L r) (hF : FrS G G1) : StP G tn tx L r := by
  obtain ⟨G2, e, hF2, h2⟩ := h
  exact ⟨G2, e, hF.trans hF2, h2⟩
theorem st_num (ht : tn ≤ 60) (h : ScC G tn tx a z nu) (hz : z < 11) (ha : a ≤ tn) : StP G tn tx (f_Scr_passNumber lo hi G) (sN tx tn lo hi a z nu) := by
  obtain ⟨G1, e, hF, hT, hp, hs⟩ := g_number (lo := lo) (hi := hi) h hz ht (Nat.le_trans ha ht)
  obtain ⟨q1, q2, q3, q4⟩ := pN_sp (tx := tx) (tn := tn) (a := a) (lo := lo) (hi := hi)
  exact ⟨G1, e, hF, hT, hp, q3 ha, q1, hs⟩
theorem st_pos (ht : tn ≤ 60) (h : ScC G tn tx a z nu) (hz : z < 10) (ha : a ≤ tn) : StP G tn tx (f_Scr_passPosition G) (sP tx tn a z nu) := by
  obtain ⟨G1, e, hF, hT, hp, hs⟩ := g_position h hz ht ha
  obtain ⟨q1, q2, q3, q4⟩ := pP_sp (tx := tx) (tn := tn) (a := a)
  exact ⟨G1, e, hF, hT, hp, q3 ha, q1, hs⟩
theorem st_ch (ht : tn ≤ 60) (h : ScC G tn tx a z nu) (ha : a ≤ tn) : StP G tn tx (f_Scr_pass ch G) (sC tx tn ch a z nu) := by
  unfold sC
  by_cases c : chAt tx tn ch a
  · rw [if_pos c, if_pos c]
    have h9 := h.at1 (a + 1)
    exact ⟨_, g_pass_t h.1 h.2.1 ht c, FSc.at1 G _, h9.1, h9.2.1, c.1, Or.inr rfl, fun _ => h9⟩
  · rw [if_neg c, if_neg c]
    exact ⟨G, g_pass_f h.1 h.2.1 ht c, FrS.refl G, h.1, h.2.1, ha, Or.inl rfl, fun _ => h⟩
theorem pL_sp : ∀ (m j b : Nat) (V : Nat → Int), 1 ≤ j → j + m = 10 → b ≤ tn → (∀ k : Nat, k < j → isC (V k)) → ((pL tx tn m j b V).1 = 0 ∨ (pL tx tn m j b V).1 = 1) ∧ b ≤ (pL tx tn m j b V).2.2.2 ∧ (pL tx tn m j b V).2.2.2 ≤ tn ∧ ((pL tx tn m j b V).1 = 1 → 2 ≤ (pL tx tn m j b V).2.1 ∧ (pL tx tn m j b V).2.1 ≤ 10 ∧ ∀ k : Nat, k < (pL tx tn m j b V).2.1 → isC ((pL tx tn m j b V).2.2.1 k))
  | 0, j, b, V, h1, hm, hb, hV => ⟨Or.inr rfl, Nat.le_refl b, hb, fun _ => ⟨by show 2 ≤ j; omega, by show j ≤ 10; omega, hV⟩⟩
  | m + 1, j, b, V, h1, hm, hb, hV => by
    unfold pL
    by_cases d : chAt tx tn 45 b
    · rw [if_pos d]
      have hb1 : b + 1 ≤ tn := d.1
      obtain ⟨q1, q2, q3, q4⟩ := pP_sp (tx := tx) (tn := tn) (a := b + 1)
      by_cases c2 : (pP tx tn (b + 1)).1 = 0
      · rw [if_pos c2]
        exact ⟨Or.inl rfl, Nat.le_of_succ_le q2, q3 hb1, fun w => absurd (show (0 : Int) = 1 from w) (by decide)⟩
      · rw [if_neg c2]
        obtain ⟨g1, g2, g3⟩ := q4 (q1.resolve_left c2)
        have hP := q3 hb1
        generalize pP tx tn (b + 1) = r at *
        obtain ⟨u1, u2, u3, u4⟩ := pL_sp m (j + 1) r.2.2.2 (psN V j (r.2.1 * 64 + r.2.2.1)) (by omega) (by omega) hP (fun k hk => by
          unfold psN
          by_cases e : k = j
          · rw [if_pos e]
            unfold isC
            omega
          · rw [if_neg e]
            exact hV k (by omega))
        exact ⟨u1, by omega, u3, u4⟩
    · rw [if_neg d]
      by_cases k : j < 2
      · rw [if_pos k]
        exact ⟨Or.inl rfl, Nat.le_refl b, hb, fun w => absurd (show (0 : Int) = 1 from w) (by decide)⟩
      · rw [if_neg k]
        exact ⟨Or.inr rfl, Nat.le_refl b, hb, fun _ => ⟨by show 2 ≤ j; omega, by show j ≤ 10; omega, hV⟩⟩
theorem pV_sp (ha : a ≤ tn) : ((pV tx tn a).1 = 0 ∨ (pV tx tn a).1 = 1) ∧ a ≤ (pV tx tn a).2.2.2 ∧ (pV tx tn a).2.2.2 ≤ tn ∧ ((pV tx tn a).1 = 1 → 2 ≤ (pV tx tn a).2.1 ∧ (pV tx tn a).2.1 ≤ 10 ∧ ∀ k : Nat, k < (pV tx tn a).2.1 → isC ((pV tx tn a).2.2.1 k)) := by
  unfold pV
  obtain ⟨q1, q2, q3, q4⟩ := pP_sp (tx := tx) (tn := tn) (a := a)
  by_cases c2 : (pP tx tn a).1 = 0
  · rw [if_pos c2]
    exact ⟨Or.inl rfl, q2, q3 ha, fun w => absurd (show (0 : Int) = 1 from w) (by decide)⟩
  · rw [if_neg c2]
    obtain ⟨g1, g2, g3⟩ := q4 (q1.resolve_left c2)
    have hP := q3 ha
    generalize pP tx tn a = r at *
    obtain ⟨u1, u2, u3, u4⟩ := pL_sp (tx := tx) 9 1 r.2.2.2 (psN (fun _ => 0) 0 (r.2.1 * 64 + r.2.2.1)) (Nat.le_refl 1) rfl hP (fun k hk => by
      unfold psN
      rw [if_pos (by omega)]
      unfold isC
      omega)
    exact ⟨u1, by omega, u3, u4⟩
theorem st_verts (ht : tn ≤ 60) (h : ScC G tn tx a 0 (fun _ => 0)) (ha : a ≤ tn) : StP G tn tx (f_Scr_passVertices G) (sV tx tn a) := by
  obtain ⟨G1, e, hF, hT, hp, hs⟩ := g_vertices ht ha h
  obtain ⟨q1, q2, q3, q4⟩ := pV_sp (tx := tx) ha
  exact ⟨G1, e, hF, hT, hp, q3, q1, hs⟩
end SL
