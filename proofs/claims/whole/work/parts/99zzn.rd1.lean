/-! ===== read: the class ===== -/
section SJ9
variable {s : Nat → Int} {G G' : GG} {c : Nat} {H : Nat → Nat → Int} {sv : Int} {K : Nat → Int} {tn : Nat} {tx : Nat → Int} {er er' : Int}
theorem IC.dr (h : IC G s c H sv K tn tx er) (n : ∀ t i k, (i ≠ 1 ∨ 12 < t) → t ≠ 0 → t ≠ 21 → t ≠ 23 → G' t i k = G t i k) (h7 : G' 0 0 7 = G 0 0 7) (h8 : G' 0 0 8 = er') (h21 : G' 21 0 1 = 0) : IC G' s c H sv K 0 tx er' := by
  obtain ⟨q1, q2, ⟨q3, nx, q4, q5, q6⟩, ⟨q7, q8⟩, ⟨q9, q10⟩, q11⟩ := h
  have hli : ∀ L : Nat, lix (L : Int) ≠ 1 := fun L => by unfold lix; split <;> omega
  have hCC : CC G' s := by
    obtain ⟨m, k2, ⟨m2, k3⟩, b, k4, k5, k6⟩ := q2
    refine ⟨m, ⟨(n _ _ _ (Or.inr (by decide)) (by decide) (by decide) (by decide)).trans k2.1, k2.2.1, k2.2.2.1, fun L hL => (k2.2.2.2 L hL).fr (n _ _ _ (Or.inl (hli L)) (by decide) (by decide) (by decide)) (fun k => n _ _ _ (Or.inl (hli L)) (by decide) (by decide) (by decide)) (fun k => n _ _ _ (Or.inl (hli L)) (by decide) (by decide) (by decide))⟩, ⟨m2, ⟨(n _ _ _ (Or.inr (by decide)) (by decide) (by decide) (by decide)).trans k3.1, k3.2.1, k3.2.2.1, fun L hL f hf => (n _ _ _ (Or.inl (hli L)) (by decide) (by decide) (by decide)).trans (k3.2.2.2 L hL f hf)⟩⟩, b, (n _ _ _ (Or.inr (by decide)) (by decide) (by decide) (by decide)).trans k4, k5, fun L hL hb => ?_⟩
    obtain ⟨z1, z2, z3, z4⟩ := k6 L hL hb
    exact ⟨z1, fun q hq => (n _ _ _ (Or.inr (by decide)) (by decide) (by decide) (by decide)).trans (z2 q hq), z3, (n _ _ _ (Or.inr (by decide)) (by decide) (by decide) (by decide)).trans z4⟩
  exact ⟨q1.fr (fun t k ht => n _ _ _ (Or.inl (by decide)) (by omega) (by omega) (by omega)), hCC, ⟨(n _ _ _ (Or.inl (by decide)) (by decide) (by decide) (by decide)).trans q3, nx, q4, (n _ _ _ (Or.inl (by decide)) (by decide) (by decide) (by decide)).trans q5, fun j hj => (q6 j hj).fr (fun t k ht => n _ _ _ (Or.inl (by omega)) (by omega) (by omega) (by omega))⟩, ⟨h7.trans q7, fun z => (q8 z).fr (fun t k ht => n _ _ _ (Or.inl (by decide)) (by omega) (by omega) (by omega))⟩, ⟨h21, fun j hj => absurd hj (Nat.not_lt_zero j)⟩, h8⟩
theorem rV_inj {G1 G2 : GG} (h : rV G1 = rV G2) : G1 = G2 := by
  injection h with h
  exact congrArg Prod.snd h
theorem bc_one (hS : IS s c H sv K tn tx er) (h : IC G s c H sv K tn tx er) : ∃ Gc, f_Map_beginChange G = rV Gc ∧ ∀ t k, t ≠ 13 → t ≠ 15 → Gc t 1 k = G t 1 k := by
  obtain ⟨hs, hc8, hH, -⟩ := hS
  obtain ⟨q1, q2, ⟨q3, nx, q4, q5, q6⟩, -⟩ := h
  have e := e_f_His_remember 0 G
  obtain ⟨Ga, ea, ha, fa⟩ := g_copySheet (i := (nx : Int) + 3) (j := 0) (by omega) hs q1
  rw [q5, if_pos (by omega), ea] at e
  simp only [bV_r] at e
  have na : ∀ t i k, (i ≠ (nx : Int) + 3 ∨ t = 13 ∨ t = 15 ∨ t = 0 ∨ 20 < t) → Ga t i k = G t i k := fun t i k z => fa t i k (by unfold FSh; omega)
  have a1 : Ga 13 0 1 = (nx : Int) := (na 13 0 1 (by omega)).trans q5
  have n13 : Ga 13 0 2 = (c : Int) := (na 13 0 2 (Or.inr (Or.inl rfl))).trans q3
  rw [a1, nx_w q4, up_k (show (2 : Int) ≠ 1 by decide), n13, pushC_w hc8] at e
  generalize hGb : up (up Ga 13 0 1 (((nx + 1) % 8 : Nat) : Int)) 13 0 2 (pushC c : Int) = Gb at e
  have nb : ∀ t i k, t ≠ 13 → Gb t i k = Ga t i k := fun t i k z => by rw [← hGb, up_t z, up_t z]
  obtain ⟨Gc, ec, s4, s5, s6, fc⟩ := g_spoil (G := Gb)
  have nc : ∀ t i k, t ≠ 15 → Gc t i k = Gb t i k := fun t i k z => fc t i k z
  refine ⟨Gc, ?_, fun t k z1 z2 => (nc t 1 k z2).trans ((nb t 1 k z1).trans (na t 1 k (Or.inl (by clear e ea ec; omega))))⟩
  rw [e_f_Map_beginChange, e]
  simp only [bV_r]
  rw [ec]
  rfl
def pT (tx : Nat → Int) (tn : Nat) : Int × Nat × List EN := pA tx tn (tn + 1) 0
theorem g_countAll (ht : tn ≤ 60) (hx : ∀ j : Nat, j < tn → 32 ≤ tx j ∧ tx j ≤ 126) (h : TxC G tn tx) : ∃ G1, f_Scr_countEntries G = rI (if (pT tx tn).1 = 0 then -1 else ((pT tx tn).2.2.length : Int)) G1 ∧ Fr FSc G G1 ∧ TxC G1 tn tx ∧ G1 21 0 2 = ((pT tx tn).2.1 : Int) := by
  have e := e_f_Scr_countEntries G
  have hT : TxC (up G 21 0 2 0) tn tx := ⟨(up_k (by decide)).trans h.1, fun j hj => (up_t (by decide)).trans (h.2 j hj)⟩
  have hF : Fr FSc G (up G 21 0 2 0) := Fr.up G 2 0 (Or.inl rfl)
  by_cases c0 : tn = 0
  · have e2 := e_l_Scr_countEntries_7 0 (up G 21 0 2 0)
    have c1 : ¬ (0 : Int) < (tn : Int) := by omega
    rw [up_at, hT.1, if_neg c1, if_pos rfl] at e2
    have hE : (pE tx tn 0) = (0, 0, 0, fun _ => 0) := by
      unfold pE
      rw [if_neg (by omega)]
    have hp : pT tx tn = (0, 0, []) := by
      unfold pT pA
      rw [hE, if_pos rfl]
    rw [hp, if_pos rfl]
    exact ⟨_, e.trans e2, hF, hT, up_at _ _ _ _ _⟩
  · obtain ⟨G1, e1, hF1, hT1, hp1⟩ := g_count ht hx (tn + 1) 0 0 (up G 21 0 2 0) hT (up_at _ _ _ _ _) (by omega) (Nat.le_refl 0) (by omega)
    refine ⟨G1, ?_, hF.trans hF1, hT1, hp1⟩
    have e2 : l_Scr_countEntries_7 0 (up G 21 0 2 0) = rI (if (pA tx tn (tn + 1) 0).1 = 0 then -1 else ((0 + (pA tx tn (tn + 1) 0).2.2.length : Nat) : Int)) G1 := e1
    rw [Nat.zero_add] at e2
    exact e.trans e2
end SJ9
