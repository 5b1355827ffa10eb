/-! ===== merging until nothing is left to merge ===== -/
theorem sumB_pos {f : Nat → Int} : ∀ (n a : Nat), (∀ k, 0 ≤ f k) → (0 < sumB a n f ↔ ∃ k, a ≤ k ∧ k < a + n ∧ 0 < f k)
  | 0, a, h => ⟨fun z => absurd z (by unfold sumB; omega), fun ⟨k, h1, h2, _⟩ => absurd h2 (by omega)⟩
  | n + 1, a, h => by
    have ih := sumB_pos n (a + 1) h
    have h0 := h a
    have hge : 0 ≤ sumB (a + 1) n f := by
      clear ih
      have : ∀ (n a : Nat), 0 ≤ sumB a n f := by
        intro n
        induction n with
        | zero => intro a; exact Int.le_refl 0
        | succ m ih => intro a; have := ih (a + 1); have := h a; unfold sumB; omega
      exact this n (a + 1)
    unfold sumB
    constructor
    · intro z
      by_cases q : 0 < f a
      · exact ⟨a, Nat.le_refl _, by omega, q⟩
      · obtain ⟨k, h1, h2, h3⟩ := ih.mp (by omega)
        exact ⟨k, by omega, by omega, h3⟩
    · rintro ⟨k, h1, h2, h3⟩
      by_cases q : k = a
      · subst q
        omega
      · have := ih.mpr ⟨k, by omega, by omega, h3⟩
        omega
theorem sumB_le {f g : Nat → Int} : ∀ (n a : Nat), (∀ k, a ≤ k → k < a + n → f k ≤ g k) → sumB a n f ≤ sumB a n g
  | 0, a, h => Int.le_refl 0
  | n + 1, a, h => by
    have h1 := h a (Nat.le_refl _) (by omega)
    have h2 := sumB_le n (a + 1) (fun k h3 h4 => h k (by omega) (by omega))
    unfold sumB
    omega
theorem sumB_lt {f g : Nat → Int} {j : Nat} : ∀ (n a : Nat), (∀ k, a ≤ k → k < a + n → f k ≤ g k) → a ≤ j → j < a + n → f j < g j → sumB a n f < sumB a n g
  | 0, a, h, h1, h2, _ => absurd h2 (by omega)
  | n + 1, a, h, h1, h2, h3 => by
    have h4 := h a (Nat.le_refl _) (by omega)
    by_cases q : j = a
    · subst q
      have h5 := sumB_le n (j + 1) (fun k h3 h4 => h k (by omega) (by omega))
      unfold sumB
      omega
    · have h5 := sumB_lt n (a + 1) (fun k h3 h4 => h k (by omega) (by omega)) (by omega) (by omega) h3
      unfold sumB
      omega
theorem ar_pos {o : Nat → Int} {q : Int} : 0 < arO o q ↔ ∃ f : Nat, f < 64 ∧ o f = q := by
  unfold arO
  rw [sumB_pos 64 0 (fun k => by split <;> omega)]
  constructor
  · rintro ⟨k, _, h2, h3⟩
    refine ⟨k, by omega, ?_⟩
    by_cases h : o k = q
    · exact h
    · rw [if_neg h] at h3
      exact absurd h3 (by decide)
  · rintro ⟨f, h1, h2⟩
    exact ⟨f, Nat.zero_le _, by omega, by rw [if_pos h2]; decide⟩
theorem pr1_pos {p q a b : Int} (h : 0 < pr1 p q a b) : a = q ∨ b = q := by
  unfold pr1 at h
  split at h
  · rename_i z
    rcases z with z | z
    · exact Or.inr z.2
    · exact Or.inl z.1
  · exact absurd h (by decide)
theorem bd_pos {o : Nat → Int} {p q : Int} (h : 0 < bdO o p q) : p ≠ q ∧ 0 < arO o q := by
  unfold bdO at h
  by_cases e : p = q
  · rw [if_pos e] at h
    exact absurd h (by decide)
  · refine ⟨e, ?_⟩
    rw [if_neg e, sumB_pos 64 0 (fun k => (prF_bd o p q k).1)] at h
    obtain ⟨k, _, h2, h3⟩ := h
    rw [ar_pos]
    unfold prF at h3
    have b1 := pr1_bd p q (o k) (o (k + 1))
    have b2 := pr1_bd p q (o k) (o (k + 8))
    by_cases q1 : k % 8 < 7
    · rw [if_pos q1] at h3
      by_cases q3 : 0 < pr1 p q (o k) (o (k + 1))
      · rcases pr1_pos q3 with z | z
        · exact ⟨k, by omega, z⟩
        · exact ⟨k + 1, by omega, z⟩
      · by_cases q2 : k < 56
        · rw [if_pos q2] at h3
          rcases pr1_pos (show 0 < pr1 p q (o k) (o (k + 8)) by omega) with z | z
          · exact ⟨k, by omega, z⟩
          · exact ⟨k + 8, by omega, z⟩
        · rw [if_neg q2] at h3
          omega
    · rw [if_neg q1] at h3
      by_cases q2 : k < 56
      · rw [if_pos q2] at h3
        rcases pr1_pos (show 0 < pr1 p q (o k) (o (k + 8)) by omega) with z | z
        · exact ⟨k, by omega, z⟩
        · exact ⟨k + 8, by omega, z⟩
      · rw [if_neg q2] at h3
        omega
theorem heirO_ok (kd : Int → Int) (st : Int) (o : Nat → Int) (p : Int) : heirO kd st o p = -1 ∨ (0 ≤ heirO kd st o p ∧ heirO kd st o p < 16 ∧ heirO kd st o p ≠ p ∧ 0 < arO o (heirO kd st o p)) := by
  refine iterB_inv (I := fun h : Int => h = -1 ∨ (0 ≤ h ∧ h < 16 ∧ h ≠ p ∧ 0 < arO o h)) 16 0 _ (fun k s _ hk hI => ?_) (Or.inl rfl)
  unfold hrS
  split
  · rename_i z
    have h9 := bd_pos z.1
    have new : (k : Int) = -1 ∨ (0 ≤ (k : Int) ∧ (k : Int) < 16 ∧ (k : Int) ≠ p ∧ 0 < arO o k) := Or.inr ⟨by omega, by omega, fun e => h9.1 e.symm, h9.2⟩
    split
    · exact new
    · cases bet kd (bdO o p) (arO o) (kd p) k s with
      | true => exact new
      | false => exact hI
  · exact hI
theorem smO_ok (kd : Int → Int) (st lim : Int) (o : Nat → Int) : (smO kd st lim o).2.1 = -1 ∨ (0 ≤ (smO kd st lim o).2.1 ∧ (smO kd st lim o).2.1 < 16 ∧ 0 < arO o (smO kd st lim o).2.1 ∧ 0 ≤ (smO kd st lim o).2.2 ∧ (smO kd st lim o).2.2 < 16 ∧ (smO kd st lim o).2.2 ≠ (smO kd st lim o).2.1 ∧ 0 < arO o (smO kd st lim o).2.2) := by
  refine iterB_inv (I := fun s : SM => s.2.1 = -1 ∨ (0 ≤ s.2.1 ∧ s.2.1 < 16 ∧ 0 < arO o s.2.1 ∧ 0 ≤ s.2.2 ∧ s.2.2 < 16 ∧ s.2.2 ≠ s.2.1 ∧ 0 < arO o s.2.2)) 16 0 _ (fun k s _ hk hI => ?_) (Or.inl rfl)
  unfold smS
  split
  · rename_i z
    have h9 := (heirO_ok kd st o k).resolve_left z.2.2
    exact Or.inr ⟨by dsimp only; omega, by dsimp only; omega, z.1, h9.1, h9.2.1, h9.2.2.1, h9.2.2.2⟩
  · exact hI
def cntO (o : Nat → Int) : Int := sumB 0 16 fun p => if 0 < arO o p then 1 else 0
theorem cnt_step {o : Nat → Int} {b h : Int} (hb : 0 ≤ b ∧ b < 16) (hab : 0 < arO o b) (hh : 0 ≤ h ∧ h < 16) (hn : h ≠ b) (hah : 0 < arO o h) : cntO (mgO o b h) < cntO o ∧ 1 < cntO o := by
  obtain ⟨n, rfl⟩ : ∃ n : Nat, b = n := ⟨b.toNat, by omega⟩
  obtain ⟨m, rfl⟩ : ∃ m : Nat, h = m := ⟨h.toNat, by omega⟩
  have hz : ¬ 0 < arO (mgO o n m) n := by
    rw [ar_pos]
    rintro ⟨f, _, h2⟩
    unfold mgO at h2
    by_cases e : o f = n
    · rw [if_pos e] at h2
      exact hn h2
    · rw [if_neg e] at h2
      exact e h2
  have hm : 0 < arO (mgO o n m) m := by
    obtain ⟨f, h1, h2⟩ := ar_pos.mp hah
    refine ar_pos.mpr ⟨f, h1, ?_⟩
    unfold mgO
    by_cases e : o f = n
    · rw [if_pos e]
    · rw [if_neg e]
      exact h2
  have lt : cntO (mgO o n m) < cntO o := by
    refine sumB_lt (j := n) 16 0 (fun k _ _ => ?_) (by omega) (by omega) (by rw [if_neg hz, if_pos hab]; decide)
    by_cases q : 0 < arO (mgO o n m) k
    · rw [if_pos q]
      obtain ⟨f, h1, h2⟩ := ar_pos.mp q
      unfold mgO at h2
      by_cases e : o f = n
      · rw [if_pos e] at h2
        rw [← h2, if_pos hah]
        decide
      · rw [if_neg e] at h2
        rw [if_pos (ar_pos.mpr ⟨f, h1, h2⟩)]
        decide
    · rw [if_neg q]
      split <;> decide
  have ge : 0 < cntO (mgO o n m) := by
    unfold cntO
    rw [sumB_pos 16 0 (fun k => by split <;> omega)]
    exact ⟨m, by omega, by omega, by rw [if_pos hm]; decide⟩
  exact ⟨lt, by omega⟩
theorem cnt_bd (o : Nat → Int) : cntO o ≤ 16 := (sumB_bd (m := 1) 16 0 (fun k _ _ => by split <;> omega)).2
def mrgO (kd : Int → Int) (st lim : Int) : Nat → (Nat → Int) → Nat → Int
  | 0, o => o
  | n + 1, o => if (smO kd st lim o).2.1 = -1 then o else mrgO kd st lim n (mgO o (smO kd st lim o).2.1 (smO kd st lim o).2.2)
def mrgB (kd : Int → Int) (st lim : Int) : Nat → (Nat → Int) → (Nat → Int) → Nat → Int
  | 0, _, bc => bc
  | n + 1, o, bc => if (smO kd st lim o).2.1 = -1 then bc else mrgB kd st lim n (mgO o (smO kd st lim o).2.1 (smO kd st lim o).2.2) (mgO bc (smO kd st lim o).2.1 (smO kd st lim o).2.2)
theorem okO_mg {o : Nat → Int} (ho : okO o) {b h : Int} (hh : 0 ≤ h ∧ h < 16) : okO (mgO o b h) := fun f hf => by
  unfold mgO
  split
  · omega
  · exact ho f hf
theorem okO_mrg {kd : Int → Int} {st lim : Int} : ∀ (n : Nat) {o : Nat → Int}, okO o → okO (mrgO kd st lim n o)
  | 0, o, ho => ho
  | n + 1, o, ho => by
    unfold mrgO
    by_cases q : (smO kd st lim o).2.1 = -1
    · rw [if_pos q]
      exact ho
    · rw [if_neg q]
      have h := (smO_ok kd st lim o).resolve_left q
      exact okO_mrg n (okO_mg ho ⟨h.2.2.2.1, h.2.2.2.2.1⟩)
/-- what a field's parcel became is what the field belongs to -/
theorem mrg_follow {kd : Int → Int} {st lim : Int} {o0 : Nat → Int} {f : Nat} {p : Nat} : ∀ (n : Nat) (o bc : Nat → Int), o f = bc p → mrgO kd st lim n o f = mrgB kd st lim n o bc p
  | 0, o, bc, h => h
  | n + 1, o, bc, h => by
    unfold mrgO mrgB
    by_cases q : (smO kd st lim o).2.1 = -1
    · rw [if_pos q, if_pos q]
      exact h
    · rw [if_neg q, if_neg q]
      refine mrg_follow (o0 := o0) n _ _ ?_
      unfold mgO
      rw [h]
/-- the reference merges as long as it can -/
theorem r_merges {L : Nat} (hL : 1 ≤ L ∧ L < 5) {kd : Int → Int} {st lim : Int} (hl : 0 ≤ lim ∧ lim ≤ 1000) : ∀ (n : Nat) (o bc : Nat → Int) (G : GG), cntO o ≤ n + 1 → OwR G L o → BcR G L bc → KdR G kd → G 26 0 (280 + 3 * (L : Int) + 1) = lim → G 26 0 295 = st →
    ∃ G', l_Mod_knows_246 L 1 G = l_Mod_knows_246 L 0 G' ∧ OwR G' L (mrgO kd st lim n o) ∧ BcR G' L (mrgB kd st lim n o bc) ∧ FrL L G G'
  | n, o, bc, G, hc, hO, hB, hK, hlim, hst => by
    have e := e_l_Mod_knows_246 (L : Int) 1 G
    rw [if_neg (by decide)] at e
    obtain ⟨G1, e1, hO1, hB1, f1⟩ := r_mergesOne hL hO hB hK hlim hl
    rw [hst] at e1 hO1 hB1
    rw [e1] at e
    simp only [bI_r] at e
    by_cases q : (smO kd st lim o).2.1 = -1
    · rw [if_pos q] at e hO1 hB1
      refine ⟨G1, e, ?_, ?_, f1⟩
      · cases n with
        | zero => exact hO1
        | succ n => unfold mrgO; rw [if_pos q]; exact hO1
      · cases n with
        | zero => exact hB1
        | succ n => unfold mrgB; rw [if_pos q]; exact hB1
    · rw [if_neg q] at e hO1 hB1
      have h := (smO_ok kd st lim o).resolve_left q
      have h5 := cnt_step ⟨h.1, h.2.1⟩ h.2.2.1 ⟨h.2.2.2.1, h.2.2.2.2.1⟩ h.2.2.2.2.2.1 h.2.2.2.2.2.2
      cases n with
      | zero => exact absurd h5.2 (by omega)
      | succ n =>
        have s26 : ∀ k, G1 26 0 k = G 26 0 k := fun k => f1.1 26 0 k (fun z => by rcases z.2 with z | z <;> exact absurd z (by decide))
        obtain ⟨G2, e2, hO2, hB2, f2⟩ := r_merges hL hl n _ _ G1 (by omega) hO1 hB1 (fun p hp => (s26 _).trans (hK p hp)) ((s26 _).trans hlim) ((s26 _).trans hst)
        refine ⟨G2, e.trans e2, ?_, ?_, f1.trans f2⟩
        · unfold mrgO
          rw [if_neg q]
          exact hO2
        · unfold mrgB
          rw [if_neg q]
          exact hB2
