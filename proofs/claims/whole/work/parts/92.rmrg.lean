/-! ===== merging, reference ===== -/
def BcR (G : GG) (L : Nat) (bc : Nat → Int) : Prop := ∀ p : Nat, p < 16 → G 37 0 (16 * (L : Int) + p) = bc p
/-- only level L of owners and of became is written -/
def FrL (L : Nat) (G G' : GG) : Prop := Fr (fun t i => i = 0 ∧ (t = 36 ∨ t = 37)) G G' ∧ (∀ k : Int, (k < 64 * (L : Int) ∨ 64 * (L : Int) + 64 ≤ k) → G' 36 0 k = G 36 0 k) ∧ (∀ k : Int, (k < 16 * (L : Int) ∨ 16 * (L : Int) + 16 ≤ k) → G' 37 0 k = G 37 0 k)
theorem FrL.refl (L : Nat) (G : GG) : FrL L G G := ⟨Fr.refl G, fun _ _ => rfl, fun _ _ => rfl⟩
theorem FrL.trans {L : Nat} {G1 G2 G3 : GG} (h1 : FrL L G1 G2) (h2 : FrL L G2 G3) : FrL L G1 G3 := ⟨h1.1.trans h2.1, fun k h => (h2.2.1 k h).trans (h1.2.1 k h), fun k h => (h2.2.2 k h).trans (h1.2.2 k h)⟩
theorem FrL.up36 {L : Nat} (G : GG) {k : Int} (h : 64 * (L : Int) ≤ k ∧ k < 64 * (L : Int) + 64) (v : Int) : FrL L G (up G 36 0 k v) := ⟨Fr.up _ _ _ ⟨rfl, Or.inl rfl⟩, fun j hj => up_k (by omega), fun j hj => up_t (by decide)⟩
theorem FrL.up37 {L : Nat} (G : GG) {k : Int} (h : 16 * (L : Int) ≤ k ∧ k < 16 * (L : Int) + 16) (v : Int) : FrL L G (up G 37 0 k v) := ⟨Fr.up _ _ _ ⟨rfl, Or.inr rfl⟩, fun j hj => up_t (by decide), fun j hj => up_k (by omega)⟩
theorem r_fields {L : Nat} (hL : L < 5) {o : Nat → Int} {G : GG} (hO : OwR G L o) (b h : Int) : ∃ G', l_Mod_mergesOne_87 L b h 0 G = l_Mod_mergesOne_141 L b h 0 G' ∧ OwR G' L (mgO o b h) ∧ FrL L G G' ∧ (∀ k, G' 37 0 k = G 37 0 k) := by
  refine loop_inv (l := fun (k : Nat) G1 => l_Mod_mergesOne_87 L b h k G1) (I := fun k G1 => (∀ f : Nat, f < 64 → G1 36 0 (64 * (L : Int) + f) = if f < k then mgO o b h f else o f) ∧ FrL L G G1 ∧ (∀ k, G1 37 0 k = G 37 0 k)) (P := fun r => ∃ G', r = l_Mod_mergesOne_141 L b h 0 G' ∧ OwR G' L (mgO o b h) ∧ FrL L G G' ∧ (∀ k, G' 37 0 k = G 37 0 k)) 64 0 G (fun k G1 _ hk hI => ?_) (fun G1 hI => ?_) ⟨fun f hf => by rw [if_neg (by omega)]; exact hO f hf, FrL.refl L G, fun _ => rfl⟩
  · have e := e_l_Mod_mergesOne_87 L b h k G1
    have hv := hI.1 k (by omega)
    rw [if_neg (by omega)] at hv
    rw [if_pos (by omega)] at e
    have ek : wr ((k : Int) + 1) = ((k + 1 : Nat) : Int) := wr_id (by omega) (by omega)
    have em : wr (wr (64 * (L : Int)) + (k : Int)) = 64 * (L : Int) + k := by rw [wr_id (z := 64 * (L : Int)) (by omega) (by omega), wr_id (by omega) (by omega)]
    have ib : (0 : Int) ≤ 64 * (L : Int) + k ∧ 64 * (L : Int) + k < 320 := by omega
    simp only [em, ek, if_pos ib, hv] at e
    have fin : ∀ v : Int, v = mgO o b h k → l_Mod_mergesOne_87 L b h k G1 = l_Mod_mergesOne_87 L b h ((k + 1 : Nat) : Int) (up G1 36 0 (64 * (L : Int) + k) v) → ∃ G', l_Mod_mergesOne_87 L b h k G1 = l_Mod_mergesOne_87 L b h ((k + 1 : Nat) : Int) G' ∧ (∀ f : Nat, f < 64 → G' 36 0 (64 * (L : Int) + f) = if f < k + 1 then mgO o b h f else o f) ∧ FrL L G G' ∧ (∀ k, G' 37 0 k = G 37 0 k) := by
      intro v hv2 e2
      refine ⟨_, e2, fun f hf => ?_, hI.2.1.trans (FrL.up36 G1 (by omega) v), fun j => (up_t (by decide)).trans (hI.2.2 j)⟩
      by_cases hfk : f = k
      · subst hfk
        rw [up_at, if_pos (by omega), hv2]
      · rw [up_k (by omega), hI.1 f hf]
        by_cases hl : f < k
        · rw [if_pos hl, if_pos (by omega)]
        · rw [if_neg hl, if_neg (by omega)]
    by_cases q1 : o k = b
    · rw [if_pos q1] at e
      exact fin h (by unfold mgO; rw [if_pos q1]) e
    · rw [if_neg q1] at e
      exact fin (o k) (by unfold mgO; rw [if_neg q1]) e
  · have e := e_l_Mod_mergesOne_87 L b h ((0 + 64 : Nat) : Int) G1
    rw [if_neg (by decide)] at e
    exact ⟨G1, e, fun f hf => by rw [hI.1 f hf, if_pos (by omega)], hI.2.1, hI.2.2⟩
theorem r_became {L : Nat} (hL : L < 5) {bc : Nat → Int} {G : GG} (hB : BcR G L bc) (b h : Int) : ∃ G', l_Mod_mergesOne_141 L b h 0 G = rI 1 G' ∧ BcR G' L (mgO bc b h) ∧ FrL L G G' ∧ (∀ k, G' 36 0 k = G 36 0 k) := by
  refine loop_inv (l := fun (k : Nat) G1 => l_Mod_mergesOne_141 L b h k G1) (I := fun k G1 => (∀ f : Nat, f < 16 → G1 37 0 (16 * (L : Int) + f) = if f < k then mgO bc b h f else bc f) ∧ FrL L G G1 ∧ (∀ k, G1 36 0 k = G 36 0 k)) (P := fun r => ∃ G', r = rI 1 G' ∧ BcR G' L (mgO bc b h) ∧ FrL L G G' ∧ (∀ k, G' 36 0 k = G 36 0 k)) 16 0 G (fun k G1 _ hk hI => ?_) (fun G1 hI => ?_) ⟨fun f hf => by rw [if_neg (by omega)]; exact hB f hf, FrL.refl L G, fun _ => rfl⟩
  · have e := e_l_Mod_mergesOne_141 L b h k G1
    have hv := hI.1 k (by omega)
    rw [if_neg (by omega)] at hv
    rw [if_pos (by omega)] at e
    have ek : wr ((k : Int) + 1) = ((k + 1 : Nat) : Int) := wr_id (by omega) (by omega)
    have em : wr (wr (16 * (L : Int)) + (k : Int)) = 16 * (L : Int) + k := by rw [wr_id (z := 16 * (L : Int)) (by omega) (by omega), wr_id (by omega) (by omega)]
    have ib : (0 : Int) ≤ 16 * (L : Int) + k ∧ 16 * (L : Int) + k < 80 := by omega
    simp only [em, ek, if_pos ib, hv] at e
    have fin : ∀ v : Int, v = mgO bc b h k → l_Mod_mergesOne_141 L b h k G1 = l_Mod_mergesOne_141 L b h ((k + 1 : Nat) : Int) (up G1 37 0 (16 * (L : Int) + k) v) → ∃ G', l_Mod_mergesOne_141 L b h k G1 = l_Mod_mergesOne_141 L b h ((k + 1 : Nat) : Int) G' ∧ (∀ f : Nat, f < 16 → G' 37 0 (16 * (L : Int) + f) = if f < k + 1 then mgO bc b h f else bc f) ∧ FrL L G G' ∧ (∀ k, G' 36 0 k = G 36 0 k) := by
      intro v hv2 e2
      refine ⟨_, e2, fun f hf => ?_, hI.2.1.trans (FrL.up37 G1 (by omega) v), fun j => (up_t (by decide)).trans (hI.2.2 j)⟩
      by_cases hfk : f = k
      · subst hfk
        rw [up_at, if_pos (by omega), hv2]
      · rw [up_k (by omega), hI.1 f hf]
        by_cases hl : f < k
        · rw [if_pos hl, if_pos (by omega)]
        · rw [if_neg hl, if_neg (by omega)]
    by_cases q1 : bc k = b
    · rw [if_pos q1] at e
      exact fin h (by unfold mgO; rw [if_pos q1]) e
    · rw [if_neg q1] at e
      exact fin (bc k) (by unfold mgO; rw [if_neg q1]) e
  · have e := e_l_Mod_mergesOne_141 L b h ((0 + 16 : Nat) : Int) G1
    rw [if_neg (by decide)] at e
    exact ⟨G1, e, fun f hf => by rw [hI.1 f hf, if_pos (by omega)], hI.2.1, hI.2.2⟩
theorem r_isSmall {L : Nat} (hL : 1 ≤ L ∧ L < 5) {o : Nat → Int} {G : GG} (hO : OwR G L o) {lim : Int} (hlim : G 26 0 (280 + 3 * (L : Int) + 1) = lim) (hl : 0 ≤ lim ∧ lim ≤ 1000) (p : Int) : f_Mod_isSmall L p G = rI (if 0 < arO o p ∧ arO o p < lim then 1 else 0) G := by
  have eof : f_Mod_of L 1 G = rI lim G := by
    rw [e_f_Mod_of, if_pos (by omega), e_f_Mod_setting, if_neg (by decide)]
    simp (disch := omega) only [wr_id]
    rw [if_pos (by omega), hlim]
    rfl
  rw [e_f_Mod_isSmall, r_areaOf hL.2 hO]
  simp only [bI_r, eof, isIn_r, wr_id (z := lim - 1) (by omega) (by omega)]
  rw [if_pos (b2i_01 _)]
  by_cases q : 0 < arO o p ∧ arO o p < lim
  · rw [if_pos q, decide_eq_true (by omega)]
    rfl
  · rw [if_neg q, decide_eq_false (by omega)]
    rfl
theorem r_mergesOne {L : Nat} (hL : 1 ≤ L ∧ L < 5) {o bc : Nat → Int} {G : GG} {kd : Int → Int} {lim : Int} (hO : OwR G L o) (hB : BcR G L bc) (hK : KdR G kd) (hlim : G 26 0 (280 + 3 * (L : Int) + 1) = lim) (hl : 0 ≤ lim ∧ lim ≤ 1000) :
    ∃ G', f_Mod_mergesOne L G = rI (if (smO kd (G 26 0 295) lim o).2.1 = -1 then 0 else 1) G' ∧ OwR G' L (if (smO kd (G 26 0 295) lim o).2.1 = -1 then o else mgO o (smO kd (G 26 0 295) lim o).2.1 (smO kd (G 26 0 295) lim o).2.2) ∧ BcR G' L (if (smO kd (G 26 0 295) lim o).2.1 = -1 then bc else mgO bc (smO kd (G 26 0 295) lim o).2.1 (smO kd (G 26 0 295) lim o).2.2) ∧ FrL L G G' := by
  have inv := loop_stI (l := fun (s : SM) (k : Nat) => l_Mod_mergesOne_4 L s.2.1 k G) (f := smS kd (G 26 0 295) o) (r := fun s : SM => l_Mod_mergesOne_4 L s.2.1 16 G)
    (I := fun s : SM => (s.2.1 = -1 ∧ s.1 = lim) ∨ (0 ≤ s.2.1 ∧ s.2.1 < 16 ∧ s.1 = arO o s.2.1 ∧ s.1 < lim ∧ s.2.2 = heirO kd (G 26 0 295) o s.2.1 ∧ s.2.2 ≠ -1)) 16 0 (lim, -1, -1) (fun k s _ hk hI => ?_) (fun s _ => rfl) (Or.inl ⟨rfl, rfl⟩)
  · rw [e_f_Mod_mergesOne]
    have e1 : l_Mod_mergesOne_4 L (-1) 0 G = l_Mod_mergesOne_4 L (smO kd (G 26 0 295) lim o).2.1 16 G := inv.1
    have i1 : ((smO kd (G 26 0 295) lim o).2.1 = -1 ∧ (smO kd (G 26 0 295) lim o).1 = lim) ∨ (0 ≤ (smO kd (G 26 0 295) lim o).2.1 ∧ (smO kd (G 26 0 295) lim o).2.1 < 16 ∧ (smO kd (G 26 0 295) lim o).1 = arO o (smO kd (G 26 0 295) lim o).2.1 ∧ (smO kd (G 26 0 295) lim o).1 < lim ∧ (smO kd (G 26 0 295) lim o).2.2 = heirO kd (G 26 0 295) o (smO kd (G 26 0 295) lim o).2.1 ∧ (smO kd (G 26 0 295) lim o).2.2 ≠ -1) := inv.2
    rw [e1]
    clear e1 inv
    generalize smO kd (G 26 0 295) lim o = s at i1 ⊢
    have e := e_l_Mod_mergesOne_4 L s.2.1 16 G
    rw [if_neg (by decide)] at e
    rcases i1 with h | ⟨h1, h2, h3, h4, h5, h6⟩
    · rw [if_pos (by omega)] at e
      rw [if_pos h.1, if_pos h.1, if_pos h.1]
      exact ⟨G, e, hO, hB, FrL.refl L G⟩
    · obtain ⟨b, hb⟩ : ∃ b : Nat, s.2.1 = b := ⟨s.2.1.toNat, by omega⟩
      have q : ¬s.2.1 = -1 := by omega
      rw [if_neg (by omega), hb, r_goesTo hL.2 hO hK (by omega), ← hb, ← h5] at e
      simp only [bI_r] at e
      obtain ⟨G1, e1, hO1, f1, g1⟩ := r_fields hL.2 hO s.2.1 s.2.2
      obtain ⟨G2, e2, hB2, f2, g2⟩ := r_became hL.2 (bc := bc) (G := G1) (fun p hp => (g1 _).trans (hB p hp)) s.2.1 s.2.2
      rw [if_neg q, if_neg q, if_neg q]
      exact ⟨G2, e.trans (e1.trans e2), fun f hf => (g2 _).trans (hO1 f hf), hB2, f1.trans f2⟩
  · have ek : wr ((k : Int) + 1) = ((k + 1 : Nat) : Int) := wr_id (by omega) (by omega)
    have e := e_l_Mod_mergesOne_4 L s.2.1 k G
    have hb := heirO_bd (kd := kd) (st := G 26 0 295) (o := o) (p := k)
    rw [if_pos (by omega), r_isSmall hL hO hlim hl] at e
    simp only [bI_r, ek, r_areaOf hL.2 hO, r_goesTo hL.2 hO hK (show k < 16 by omega)] at e
    unfold smS
    by_cases q1 : 0 < arO o k ∧ arO o k < lim
    · rw [if_pos q1, if_neg (by decide)] at e
      by_cases q2 : s.2.1 < 0
      · have q3 : s.2.1 = -1 ∧ s.1 = lim := by omega
        rw [if_pos q2] at e
        by_cases q4 : heirO kd (G 26 0 295) o k = -1
        · rw [if_pos (by omega)] at e
          rw [if_neg (fun z => z.2.2 q4)]
          exact ⟨e, hI⟩
        · rw [if_neg (by omega)] at e
          rw [if_pos ⟨q1.1, by rw [q3.2]; exact q1.2, q4⟩]
          exact ⟨e, Or.inr ⟨by dsimp only; omega, by dsimp only; omega, rfl, q1.2, rfl, q4⟩⟩
      · rw [if_neg q2] at e
        have q3 := hI.resolve_left (by omega)
        by_cases q5 : arO o k < arO o s.2.1
        · rw [if_pos q5] at e
          by_cases q4 : heirO kd (G 26 0 295) o k = -1
          · rw [if_pos (by omega)] at e
            rw [if_neg (fun z => z.2.2 q4)]
            exact ⟨e, hI⟩
          · rw [if_neg (by omega)] at e
            rw [if_pos ⟨q1.1, by rw [q3.2.2.1]; exact q5, q4⟩]
            exact ⟨e, Or.inr ⟨by dsimp only; omega, by dsimp only; omega, rfl, q1.2, rfl, q4⟩⟩
        · rw [if_neg q5] at e
          rw [if_neg (fun z => q5 (by rw [← q3.2.2.1]; exact z.2.1))]
          exact ⟨e, hI⟩
    · rw [if_neg q1, if_pos rfl] at e
      rw [if_neg (fun z => q1 ⟨z.1, by rcases hI with h | h <;> omega⟩)]
      exact ⟨e, hI⟩
