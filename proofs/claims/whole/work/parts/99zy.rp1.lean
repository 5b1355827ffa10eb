/-! ===== read: the reference passes characters, digits, numbers ===== -/
def TxR (G : GG) (tn : Nat) (tx : Nat → Int) : Prop := G 25 0 19 = (tn : Int) ∧ ∀ j : Nat, j < tn → G 39 0 j = tx j
/-- what reading an entry writes: the place, the row of entries from M on -/
def FrE (M : Nat) (G G' : GG) : Prop := Fr (fun t _ => t = 25 ∨ t = 40) G G' ∧ (∀ k : Int, k ≠ 20 → k ≠ 21 → G' 25 0 k = G 25 0 k) ∧ ∀ k : Int, k < (M : Int) → G' 40 0 k = G 40 0 k
theorem FrE.refl (M : Nat) (G : GG) : FrE M G G := ⟨Fr.refl G, fun _ _ _ => rfl, fun _ _ => rfl⟩
theorem FrE.trans {M : Nat} {G1 G2 G3 : GG} (h1 : FrE M G1 G2) (h2 : FrE M G2 G3) : FrE M G1 G3 := ⟨h1.1.trans h2.1, fun k a b => (h2.2.1 k a b).trans (h1.2.1 k a b), fun k a => (h2.2.2 k a).trans (h1.2.2 k a)⟩
theorem FrE.low {M M' : Nat} {G1 G2 : GG} (h : FrE M' G1 G2) (hM : M ≤ M') : FrE M G1 G2 := ⟨h.1, h.2.1, fun k a => h.2.2 k (by omega)⟩
theorem FrE.p20 (M : Nat) (G : GG) (v : Int) : FrE M G (up G 25 0 20 v) := ⟨Fr.up G 20 v (Or.inl rfl), fun k a _ => up_k a, fun k _ => up_t (by decide)⟩
theorem FrE.p21 (M : Nat) (G : GG) (v : Int) : FrE M G (up G 25 0 21 v) := ⟨Fr.up G 21 v (Or.inl rfl), fun k _ a => up_k a, fun k _ => up_t (by decide)⟩
theorem FrE.p40 {M : Nat} (G : GG) {k : Int} (h : (M : Int) ≤ k) (v : Int) : FrE M G (up G 40 0 k v) := ⟨Fr.up G k v (Or.inr rfl), fun k _ _ => up_t (by decide), fun j a => up_k (by omega)⟩
theorem TxR.fr {M tn : Nat} {tx : Nat → Int} {G G' : GG} (h : TxR G tn tx) (hF : FrE M G G') : TxR G' tn tx :=
  ⟨(hF.2.1 19 (by decide) (by decide)).trans h.1, fun j hj => (hF.1 39 0 j (fun z => by rcases z with y | y <;> exact absurd y (by decide))).trans (h.2 j hj)⟩
/-- the reference's place, and its numbers from M on -/
def ScR (G : GG) (tn : Nat) (tx : Nat → Int) (a M m : Nat) (nu : Nat → Int) : Prop :=
  TxR G tn tx ∧ G 25 0 20 = (a : Int) ∧ G 25 0 21 = ((M + m : Nat) : Int) ∧ (∀ j : Nat, j < m → G 40 0 ((M + j : Nat) : Int) = nu j) ∧ M + m ≤ 2 * a
def hr (tx : Nat → Int) (tn a : Nat) : Int := if a < tn then tx a else -1
section SS
variable {G G1 : GG} {tn a M m : Nat} {tx nu : Nat → Int} {lo hi ch : Int}
theorem r_here (h : TxR G tn tx) (h2 : G 25 0 20 = (a : Int)) (ht : tn ≤ 60) : f_Mod_here G = rI (hr tx tn a) G := by
  have e := e_f_Mod_here G
  rw [h2, h.1] at e
  unfold hr
  by_cases c : a < tn
  · have c1 : (a : Int) < (tn : Int) := by omega
    have c2 : 0 ≤ (a : Int) ∧ (a : Int) < 60 := by omega
    rw [if_pos c1, if_pos c2, h.2 a c] at e
    rw [if_pos c]
    exact e
  · have c1 : ¬ (a : Int) < (tn : Int) := by omega
    rw [if_neg c1] at e
    rw [if_neg c]
    exact e
theorem hr_b (hx : ∀ j : Nat, j < tn → 32 ≤ tx j ∧ tx j ≤ 126) : -1 ≤ hr tx tn a ∧ hr tx tn a ≤ 126 := by
  unfold hr
  by_cases c : a < tn
  · have := hx a c
    rw [if_pos c]
    omega
  · rw [if_neg c]
    omega
theorem hr_ch (hc : 0 ≤ ch) : hr tx tn a = ch ↔ chAt tx tn ch a := by
  unfold hr
  by_cases c : a < tn
  · rw [if_pos c]
    exact ⟨fun z => ⟨c, z⟩, fun z => z.2⟩
  · rw [if_neg c]
    exact ⟨fun z => absurd z (by omega), fun z => absurd z.1 c⟩
/-- the digit and the character -/
theorem hr_dg : (dg tx tn a = -1 ∧ ¬ (48 ≤ hr tx tn a ∧ hr tx tn a ≤ 57)) ∨ (dg tx tn a = hr tx tn a - 48 ∧ 48 ≤ hr tx tn a ∧ hr tx tn a ≤ 57) := by
  unfold hr dg
  by_cases c : a < tn
  · rw [if_pos c]
    by_cases d : a < tn ∧ 48 ≤ tx a ∧ tx a ≤ 57
    · rw [if_pos d]
      exact Or.inr ⟨rfl, d.2⟩
    · rw [if_neg d]
      exact Or.inl ⟨rfl, fun z => d ⟨c, z⟩⟩
  · rw [if_neg c, if_neg (fun z => c z.1)]
    exact Or.inl ⟨rfl, by omega⟩
theorem ScR.at1 (h : ScR G tn tx a M m nu) {b : Nat} (hb : a ≤ b) : ScR (up G 25 0 20 (b : Int)) tn tx b M m nu := by
  obtain ⟨h1, h2, h3, h4, h5⟩ := h
  refine ⟨h1.fr (FrE.p20 0 G _), up_at _ _ _ _ _, ?_, fun j hj => ?_, by omega⟩
  · rw [up_k (by decide)]
    exact h3
  · rw [up_t (by decide)]
    exact h4 j hj
/-- one more number; then the place -/
theorem w_adR {M m a : Nat} (h : M + m ≤ 2 * a) (ha : a ≤ 60) : wr (((M + m : Nat) : Int) + 1) = ((M + (m + 1) : Nat) : Int) ∧ (0 ≤ ((M + m : Nat) : Int) ∧ ((M + m : Nat) : Int) < 240) := by
  refine ⟨?_, by omega⟩
  rw [wr_id (by omega) (by omega)]
  omega
theorem r_adds (h : ScR G tn tx a M m nu) (ha : a ≤ 60) (v : Int) : ∃ G1, f_Mod_adds v G = rV G1 ∧ FrE M G G1 ∧ G1 25 0 20 = (a : Int) ∧ (∀ b : Nat, a < b → ScR (up G1 25 0 20 (b : Int)) tn tx b M (m + 1) (psN nu m v)) ∧ (M + (m + 1) ≤ 2 * a → ScR G1 tn tx a M (m + 1) (psN nu m v)) := by
  obtain ⟨h1, h2, h3, h4, h5⟩ := h
  have e := e_f_Mod_adds v G
  obtain ⟨w1, c1⟩ := w_adR h5 ha
  rw [h3, if_pos c1, up_t (show (25 : Nat) ≠ 40 by decide), h3, w1] at e
  clear w1
  have hF : FrE M G (up (up G 40 0 ((M + m : Nat) : Int) v) 25 0 21 ((M + (m + 1) : Nat) : Int)) := (FrE.p40 G (by omega) v).trans (FrE.p21 M _ _)
  have h20 : (up (up G 40 0 ((M + m : Nat) : Int) v) 25 0 21 ((M + (m + 1) : Nat) : Int)) 25 0 20 = (a : Int) := by
    rw [up_k (by decide), up_t (by decide)]
    exact h2
  have hc : ∀ j : Nat, j < m + 1 → (up (up G 40 0 ((M + m : Nat) : Int) v) 25 0 21 ((M + (m + 1) : Nat) : Int)) 40 0 ((M + j : Nat) : Int) = psN nu m v j := fun j hj => by
    rw [up_t (by decide)]
    unfold psN
    by_cases z : j = m
    · rw [if_pos z, z, up_at]
    · rw [if_neg z, up_k (by omega)]
      exact h4 j (by omega)
  refine ⟨_, e, hF, h20, fun b hb => ⟨(h1.fr hF).fr (FrE.p20 M _ _), up_at _ _ _ _ _, ?_, fun j hj => ?_, by omega⟩, fun hb => ⟨h1.fr hF, h20, up_at _ _ _ _ _, hc, hb⟩⟩
  · rw [up_k (by decide), up_at]
  · rw [up_t (by decide)]
    exact hc j hj
/-- what a step leaves in the reference -/
def SrR (G : GG) (M tn : Nat) (tx : Nat → Int) (L : RS) (r : PR) : Prop :=
  ∃ G1, L = rI r.1 G1 ∧ FrE M G G1 ∧ G1 25 0 20 = (r.2.1 : Int) ∧ r.2.1 ≤ tn ∧ (r.1 = 0 ∨ r.1 = 1) ∧ (r.1 = 1 → ScR G1 tn tx r.2.1 M r.2.2.1 r.2.2.2)
variable {L : RS} {r : PR}
theorem SrR.bind {K : GG → RS} {k : Nat → Nat → (Nat → Int) → PR} (h : SrR G M tn tx L r) (hk : ∀ G1, ScR G1 tn tx r.2.1 M r.2.2.1 r.2.2.2 → r.2.1 ≤ tn → SrR G1 M tn tx (K G1) (k r.2.1 r.2.2.1 r.2.2.2)) :
    SrR G M tn tx (bI L fun v G1 => if v = 0 then rI 0 G1 else K G1) (bindP r k) := by
  obtain ⟨G1, e, hF, hp, hn, h01, hs⟩ := h
  rw [e, bI_r]
  unfold bindP
  by_cases c : r.1 = 0
  · rw [if_pos c, if_pos c]
    exact ⟨G1, rfl, hF, hp, hn, Or.inl rfl, fun w => absurd (show (0 : Int) = 1 from w) (by decide)⟩
  · rw [if_neg c, if_neg c]
    obtain ⟨G2, e2, hF2, h2⟩ := hk G1 (hs (h01.resolve_left c)) hn
    exact ⟨G2, e2, hF.trans hF2, h2⟩
theorem SrR.last (h : SrR G M tn tx L r) : SrR G M tn tx (bI L fun v G1 => if v = 0 then rI 0 G1 else rI 1 G1) r := by
  obtain ⟨G1, e, hF, hp, hn, h01, hs⟩ := h
  refine ⟨G1, ?_, hF, hp, hn, h01, hs⟩
  rw [e, bI_r]
  rcases h01 with c | c
  · rw [if_pos c, c]
  · rw [if_neg (fun w => by rw [c] at w; exact i01 w), c]
theorem SrR.fr (h : SrR G1 M tn tx L r) (hF : FrE M G G1) : SrR G M tn tx L r := by
  obtain ⟨G2, e, hF2, h2⟩ := h
  exact ⟨G2, e, hF.trans hF2, h2⟩
theorem w_at1 {a : Nat} (h : a ≤ 100) : wr ((a : Int) + 1) = ((a + 1 : Nat) : Int) := by
  rw [wr_id (by omega) (by omega)]
  omega
theorem sr_ch (ht : tn ≤ 60) (hc : 0 ≤ ch) (h : ScR G tn tx a M m nu) (ha : a ≤ tn) : SrR G M tn tx (f_Mod_takes ch G) (sC tx tn ch a m nu) := by
  have e := e_f_Mod_takes ch G
  rw [r_here h.1 h.2.1 ht, bI_r] at e
  unfold sC
  by_cases c : chAt tx tn ch a
  · rw [if_pos ((hr_ch hc).mpr c), h.2.1, w_at1 (by omega)] at e
    rw [if_pos c, if_pos c]
    have h9 := h.at1 (Nat.le_succ a)
    exact ⟨_, e, FrE.p20 M G _, h9.2.1, c.1, Or.inr rfl, fun _ => h9⟩
  · rw [if_neg (fun z => c ((hr_ch hc).mp z))] at e
    rw [if_neg c, if_neg c]
    exact ⟨G, e, FrE.refl M G, h.2.1, ha, Or.inl rfl, fun _ => h⟩
end SS
