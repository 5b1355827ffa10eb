/-! ===== read: the reference passes all entries ===== -/
def StA (G : GG) : Nat → List EN → Prop
  | _, [] => True
  | M, e :: l => StE G M e ∧ StA G (M + szE e) l
def szA : List EN → Nat
  | [] => 0
  | e :: l => szE e + szA l
/-- what reading the text writes -/
def FrT (G G' : GG) : Prop := Fr (fun t _ => t = 25 ∨ t = 40) G G' ∧ ∀ k : Int, k ≠ 20 → k ≠ 21 → k ≠ 22 → G' 25 0 k = G 25 0 k
theorem FrT.refl (G : GG) : FrT G G := ⟨Fr.refl G, fun _ _ _ _ => rfl⟩
theorem FrT.trans {G1 G2 G3 : GG} (h1 : FrT G1 G2) (h2 : FrT G2 G3) : FrT G1 G3 := ⟨h1.1.trans h2.1, fun k a b c => (h2.2 k a b c).trans (h1.2 k a b c)⟩
theorem FrE.t {M : Nat} {G G' : GG} (h : FrE M G G') : FrT G G' := ⟨h.1, fun k a b _ => h.2.1 k a b⟩
theorem FrT.p22 (G : GG) (v : Int) : FrT G (up G 25 0 22 v) := ⟨Fr.up G 22 v (Or.inl rfl), fun k _ _ c => up_k c⟩
theorem TxR.ft {tn : Nat} {tx : Nat → Int} {G G' : GG} (h : TxR G tn tx) (hF : FrT G G') : TxR G' tn tx :=
  ⟨(hF.2 19 (by decide) (by decide) (by decide)).trans h.1, fun j hj => (hF.1 39 0 j (fun z => by rcases z with y | y <;> exact absurd y (by decide))).trans (h.2 j hj)⟩
theorem StE.fr {G G' : GG} {M : Nat} {e : EN} (h : StE G M e) (hF : ∀ k : Int, k < ((M + szE e : Nat) : Int) → G' 40 0 k = G 40 0 k) : StE G' M e := by
  obtain ⟨h1, h2, h3⟩ := h
  by_cases c : e.1 = 76
  · have hz : szE e = 2 + 2 * e.2.1 := if_pos c
    rw [hz] at hF
    obtain ⟨a1, a2⟩ := h2 c
    refine ⟨(hF _ (by omega)).trans h1, fun _ => ⟨(hF _ (by omega)).trans a1, fun k hk => ⟨(hF _ (by omega)).trans (a2 k hk).1, (hF _ (by omega)).trans (a2 k hk).2⟩⟩, fun z => absurd c z⟩
  · have hz : szE e = 1 + e.2.1 := if_neg c
    rw [hz] at hF
    exact ⟨(hF _ (by omega)).trans h1, fun z => absurd z c, fun z j hj => (hF _ (by omega)).trans (h3 z j hj)⟩
theorem StA.up {G : GG} {t : Nat} {k v : Int} (ht : t ≠ 40) : ∀ (l : List EN) (M : Nat), StA G M l → StA (up G t 0 k v) M l
  | [], M, h => h
  | e :: l, M, h => ⟨h.1.fr (fun z _ => up_t (fun w => ht w.symm)), StA.up ht l _ h.2⟩
theorem sr_all {tn : Nat} {tx : Nat → Int} (ht : tn ≤ 60) (hx : ∀ j : Nat, j < tn → 32 ≤ tx j ∧ tx j ≤ 126) : ∀ (m a M x : Nat) (G : GG), TxR G tn tx → G 25 0 20 = (a : Int) → G 25 0 21 = (M : Int) → G 25 0 22 = (x : Int) → a ≤ tn → M ≤ 2 * a → x ≤ a → tn < a + m →
    ∃ G1, l_Mod_takesAll_15 G = rI (pA tx tn m a).1 G1 ∧ FrT G G1 ∧ (∀ k : Int, k < (M : Int) → G1 40 0 k = G 40 0 k) ∧ G1 25 0 20 = ((pA tx tn m a).2.1 : Int) ∧ ((pA tx tn m a).1 = 1 → StA G1 M (pA tx tn m a).2.2 ∧ G1 25 0 22 = ((x + (pA tx tn m a).2.2.length : Nat) : Int) ∧ M + szA (pA tx tn m a).2.2 ≤ 2 * (pA tx tn m a).2.1)
  | 0, a, M, x, G, h1, h2, h3, h4, ha, hM, hxa, hm => absurd hm (by omega)
  | m + 1, a, M, x, G, h1, h2, h3, h4, ha, hM, hxa, hm => by
    obtain ⟨u1, u2, u3, u4⟩ := pE_sp (tx := tx) ha
    obtain ⟨G1, e1, hF, hp, hs⟩ := sr_entry ht hx h1 h2 h3 ha hM
    have e := e_l_Mod_takesAll_15 G
    rw [e1, bI_r] at e
    unfold pA
    by_cases c0 : (pE tx tn a).1 = 0
    · rw [if_pos c0] at e
      rw [if_pos c0]
      exact ⟨G1, e, hF.t, hF.2.2, hp, fun w => absurd (show (0 : Int) = 1 from w) (by decide)⟩
    · have k1 := u1.resolve_left c0
      have u5 := (u4 k1).1
      obtain ⟨s1, s2, s3⟩ := hs k1
      rw [if_neg c0] at e
      rw [if_neg c0]
      have h22 : G1 25 0 22 = (x : Int) := (hF.2.1 22 (by decide) (by decide)).trans h4
      have h19 : G1 25 0 19 = (tn : Int) := (hF.2.1 19 (by decide) (by decide)).trans h1.1
      rw [h22, w_at1 (by omega), up_k (show (20 : Int) ≠ 22 by decide), up_k (show (19 : Int) ≠ 22 by decide), hp, h19] at e
      have hF2 : FrT G (up G1 25 0 22 ((x + 1 : Nat) : Int)) := hF.t.trans (FrT.p22 G1 _)
      generalize hE : ((tx a, (pE tx tn a).2.2) : EN) = E at *
      by_cases c3 : (pE tx tn a).2.1 < tn
      · have c4 : ((pE tx tn a).2.1 : Int) < (tn : Int) := by omega
        rw [if_pos c4] at e
        rw [if_pos c3]
        obtain ⟨G2, e2, F2, l2, p2, q2⟩ := sr_all ht hx m (pE tx tn a).2.1 (M + szE E) (x + 1) (up G1 25 0 22 ((x + 1 : Nat) : Int)) (h1.ft hF2) (by rw [up_k (by decide)]; exact hp) (by rw [up_k (by decide)]; exact s2) (up_at _ _ _ _ _) u3 s3 (by omega) (by omega)
        refine ⟨G2, e.trans e2, hF2.trans F2, fun k hk => ?_, p2, fun w => ?_⟩
        · rw [l2 k (by omega), up_t (by decide)]
          exact hF.2.2 k hk
        · obtain ⟨v1, v2, v3⟩ := q2 w
          refine ⟨⟨s1.fr (fun k hk => ?_), v1⟩, ?_, ?_⟩
          · rw [l2 k hk, up_t (by decide)]
          · rw [v2]
            show ((x + 1 + (pA tx tn m (pE tx tn a).2.1).2.2.length : Nat) : Int) = ((x + ((pA tx tn m (pE tx tn a).2.1).2.2.length + 1) : Nat) : Int)
            exact congrArg _ (by omega)
          · show M + (szE E + szA (pA tx tn m (pE tx tn a).2.1).2.2) ≤ 2 * (pA tx tn m (pE tx tn a).2.1).2.1
            omega
      · have c4 : ¬ ((pE tx tn a).2.1 : Int) < (tn : Int) := by omega
        rw [if_neg c4] at e
        rw [if_neg c3]
        refine ⟨_, e, hF2, fun k hk => ?_, ?_, fun _ => ⟨⟨s1.fr (fun k hk => up_t (by decide)), trivial⟩, up_at _ _ _ _ _, by show M + (szE E + 0) ≤ 2 * (pE tx tn a).2.1; omega⟩⟩
        · rw [up_t (by decide)]
          exact hF.2.2 k hk
        · rw [up_k (by decide)]
          exact hp
