/-! ===== read: what an entry is; the entries of a text ===== -/
section SN9
variable {G : GG} {tn a z c : Nat} {tx nu : Nat → Int} {lo hi ch : Int} {r : PR} {rg : Nat → Int × Int}
def inG (rg : Nat → Int × Int) (z : Nat) (nu : Nat → Int) : Prop := ∀ j : Nat, j < z → (rg j).1 ≤ nu j ∧ nu j ≤ (rg j).2
theorem inG.ps {v : Int} (h : inG rg z nu) (hv : (rg z).1 ≤ v ∧ v ≤ (rg z).2) : inG rg (z + 1) (psN nu z v) := fun j hj => by
  unfold psN
  by_cases e : j = z
  · rw [if_pos e, e]
    exact hv
  · rw [if_neg e]
    exact h j (by omega)
/-- what a step is -/
def OkP (rg : Nat → Int × Int) (tn a c : Nat) (r : PR) : Prop := (r.1 = 0 ∨ r.1 = 1) ∧ a ≤ r.2.1 ∧ r.2.1 ≤ tn ∧ (r.1 = 1 → r.2.2.1 = c ∧ inG rg c r.2.2.2)
theorem OkP.bind {c1 : Nat} {k : Nat → Nat → (Nat → Int) → PR} (h : OkP rg tn a c1 r) (hk : r.2.1 ≤ tn → inG rg c1 r.2.2.2 → OkP rg tn r.2.1 c (k r.2.1 r.2.2.1 r.2.2.2)) : OkP rg tn a c (bindP r k) := by
  obtain ⟨h01, h1, h2, h3⟩ := h
  unfold bindP
  by_cases q : r.1 = 0
  · rw [if_pos q]
    exact ⟨Or.inl rfl, h1, h2, fun w => absurd (show (0 : Int) = 1 from w) (by decide)⟩
  · rw [if_neg q]
    obtain ⟨u1, u2, u3, u4⟩ := hk h2 (h3 (h01.resolve_left q)).2
    exact ⟨u1, Nat.le_trans h1 u2, u3, u4⟩
theorem ok_num (ha : a ≤ tn) (h : inG rg z nu) (hl : (rg z).1 = lo) (hh : (rg z).2 = hi) : OkP rg tn a (z + 1) (sN tx tn lo hi a z nu) := by
  obtain ⟨q1, q2, q3, q4⟩ := pN_sp (tx := tx) (tn := tn) (a := a) (lo := lo) (hi := hi)
  refine ⟨q1, q2, q3 ha, fun w => ⟨rfl, h.ps ?_⟩⟩
  rw [hl, hh]
  exact (q4 w).2
theorem ok_pos (ha : a ≤ tn) (h : inG rg z nu) (h1 : rg z = (0, 63)) (h2 : rg (z + 1) = (0, 63)) : OkP rg tn a (z + 1 + 1) (sP tx tn a z nu) := by
  obtain ⟨q1, q2, q3, q4⟩ := pP_sp (tx := tx) (tn := tn) (a := a)
  refine ⟨q1, q2, q3 ha, fun w => ⟨rfl, (h.ps ?_).ps ?_⟩⟩
  · rw [h1]
    exact (q4 w).2.1
  · rw [h2]
    exact (q4 w).2.2
theorem ok_ch (ha : a ≤ tn) (h : inG rg z nu) : OkP rg tn a z (sC tx tn ch a z nu) := by
  unfold sC
  by_cases q : chAt tx tn ch a
  · rw [if_pos q, if_pos q]
    exact ⟨Or.inr rfl, Nat.le_succ a, q.1, fun _ => ⟨rfl, h⟩⟩
  · rw [if_neg q, if_neg q]
    exact ⟨Or.inl rfl, Nat.le_refl a, ha, fun _ => ⟨rfl, h⟩⟩
def rgP : Nat → Int × Int
  | 0 => (0, 63)
  | 1 => (0, 63)
  | 2 => (0, 9)
  | 3 => (2, 12)
  | _ => (1, 4)
def rgF : Nat → Int × Int
  | 0 => (0, 7)
  | 1 => (0, 7)
  | _ => (0, 15)
theorem inG_0 : inG rg 0 nu := fun j hj => absurd hj (Nat.not_lt_zero j)
theorem ok_P (ha : a ≤ tn) : OkP rgP tn a 5 (pEP tx tn a) :=
  OkP.bind (c1 := 2) (ok_pos ha inG_0 rfl rfl) fun n s => OkP.bind (c1 := 2) (ok_ch n s) fun n s => OkP.bind (c1 := 3) (ok_num n s rfl rfl) fun n s => OkP.bind (c1 := 3) (ok_ch n s) fun n s => OkP.bind (c1 := 4) (ok_num n s rfl rfl) fun n s => OkP.bind (c1 := 4) (ok_ch n s) fun n s => OkP.bind (c1 := 5) (ok_num n s rfl rfl) fun n s => ok_ch n s
theorem ok_F (ha : a ≤ tn) : OkP rgF tn a 3 (pEF tx tn a) :=
  OkP.bind (c1 := 1) (ok_num ha inG_0 rfl rfl) fun n s => OkP.bind (c1 := 2) (ok_num n s rfl rfl) fun n s => OkP.bind (c1 := 2) (ok_ch n s) fun n s => OkP.bind (c1 := 3) (ok_num n s rfl rfl) fun n s => ok_ch n s
/-- an entry: its kind, how many numbers, the numbers -/
abbrev EN : Type := Int × Nat × (Nat → Int)
def okE (e : EN) : Prop := (e.1 = 76 ∧ 2 ≤ e.2.1 ∧ e.2.1 ≤ 10 ∧ ∀ k : Nat, k < e.2.1 → isC (e.2.2 k)) ∨ (e.1 = 80 ∧ e.2.1 = 5 ∧ inG rgP 5 e.2.2) ∨ (e.1 = 70 ∧ e.2.1 = 3 ∧ inG rgF 3 e.2.2)
theorem ok_L (ha : a ≤ tn) : ((pEL tx tn a).1 = 0 ∨ (pEL tx tn a).1 = 1) ∧ a ≤ (pEL tx tn a).2.1 ∧ (pEL tx tn a).2.1 ≤ tn ∧ ((pEL tx tn a).1 = 1 → 2 ≤ (pEL tx tn a).2.2.1 ∧ (pEL tx tn a).2.2.1 ≤ 10 ∧ ∀ k : Nat, k < (pEL tx tn a).2.2.1 → isC ((pEL tx tn a).2.2.2 k)) := by
  obtain ⟨q1, q2, q3, q4⟩ := pV_sp (tx := tx) ha
  unfold pEL bindP sV
  dsimp only
  by_cases q : (pV tx tn a).1 = 0
  · rw [if_pos q]
    exact ⟨Or.inl rfl, q2, q3, fun w => absurd (show (0 : Int) = 1 from w) (by decide)⟩
  · rw [if_neg q]
    have q5 := q4 (q1.resolve_left q)
    unfold sC
    by_cases d : chAt tx tn 59 (pV tx tn a).2.2.2
    · rw [if_pos d, if_pos d]
      exact ⟨Or.inr rfl, Nat.le_succ_of_le q2, d.1, fun _ => q5⟩
    · rw [if_neg d, if_neg d]
      exact ⟨Or.inl rfl, q2, q3, fun _ => q5⟩
theorem pE_sp (ha : a ≤ tn) : ((pE tx tn a).1 = 0 ∨ (pE tx tn a).1 = 1) ∧ a ≤ (pE tx tn a).2.1 ∧ (pE tx tn a).2.1 ≤ tn ∧ ((pE tx tn a).1 = 1 → a < (pE tx tn a).2.1 ∧ okE (tx a, (pE tx tn a).2.2)) := by
  unfold pE
  by_cases q : a < tn
  · rw [if_pos q]
    by_cases k76 : tx a = 76
    · rw [if_pos k76]
      obtain ⟨u1, u2, u3, u4⟩ := ok_L (tx := tx) (a := a + 1) q
      exact ⟨u1, Nat.le_of_succ_le u2, u3, fun w => ⟨u2, Or.inl ⟨k76, u4 w⟩⟩⟩
    · rw [if_neg k76]
      by_cases k80 : tx a = 80
      · rw [if_pos k80]
        obtain ⟨u1, u2, u3, u4⟩ := ok_P (tx := tx) (a := a + 1) q
        exact ⟨u1, Nat.le_of_succ_le u2, u3, fun w => ⟨u2, Or.inr (Or.inl ⟨k80, u4 w⟩)⟩⟩
      · rw [if_neg k80]
        by_cases k70 : tx a = 70
        · rw [if_pos k70]
          obtain ⟨u1, u2, u3, u4⟩ := ok_F (tx := tx) (a := a + 1) q
          exact ⟨u1, Nat.le_of_succ_le u2, u3, fun w => ⟨u2, Or.inr (Or.inr ⟨k70, u4 w⟩)⟩⟩
        · rw [if_neg k70]
          exact ⟨Or.inl rfl, Nat.le_refl a, ha, fun w => absurd (show (0 : Int) = 1 from w) (by decide)⟩
  · rw [if_neg q]
    exact ⟨Or.inl rfl, Nat.le_refl a, ha, fun w => absurd (show (0 : Int) = 1 from w) (by decide)⟩
/-- the entries from a place on: whether it is a text, the place, the entries -/
def pA (tx : Nat → Int) (tn : Nat) : Nat → Nat → Int × Nat × List EN
  | 0, a => (0, a, [])
  | m + 1, a =>
    if (pE tx tn a).1 = 0 then (0, (pE tx tn a).2.1, []) else
    if (pE tx tn a).2.1 < tn then ((pA tx tn m (pE tx tn a).2.1).1, (pA tx tn m (pE tx tn a).2.1).2.1, (tx a, (pE tx tn a).2.2) :: (pA tx tn m (pE tx tn a).2.1).2.2)
    else (1, (pE tx tn a).2.1, [(tx a, (pE tx tn a).2.2)])
theorem pA_sp : ∀ (m a : Nat), a ≤ tn → ((pA tx tn m a).1 = 0 ∨ (pA tx tn m a).1 = 1) ∧ (pA tx tn m a).2.1 ≤ tn ∧ a + (pA tx tn m a).2.2.length ≤ tn ∧ ∀ e ∈ (pA tx tn m a).2.2, okE e
  | 0, a, ha => ⟨Or.inl rfl, ha, ha, fun e he => absurd he (by simp [pA])⟩
  | m + 1, a, ha => by
    obtain ⟨u1, u2, u3, u4⟩ := pE_sp (tx := tx) ha
    unfold pA
    by_cases c0 : (pE tx tn a).1 = 0
    · rw [if_pos c0]
      exact ⟨Or.inl rfl, u3, ha, fun e he => absurd he (by simp)⟩
    · rw [if_neg c0]
      have u5 := u4 (u1.resolve_left c0)
      by_cases c1 : (pE tx tn a).2.1 < tn
      · rw [if_pos c1]
        obtain ⟨v1, v2, v3, v4⟩ := pA_sp m (pE tx tn a).2.1 u3
        refine ⟨v1, v2, ?_, fun e he => ?_⟩
        · rw [List.length_cons]
          omega
        · rcases List.mem_cons.mp he with w | w
          · rw [w]
            exact u5.2
          · exact v4 e w
      · rw [if_neg c1]
        refine ⟨Or.inr rfl, u3, ?_, fun e he => ?_⟩
        · show a + 1 ≤ tn
          omega
        · rw [List.mem_singleton.mp he]
          exact u5.2
theorem g_count (ht : tn ≤ 60) (hx : ∀ j : Nat, j < tn → 32 ≤ tx j ∧ tx j ≤ 126) : ∀ (m a x : Nat) (G : GG), TxC G tn tx → G 21 0 2 = (a : Int) → a < tn → x ≤ a → tn ≤ a + m →
    ∃ G1, l_Scr_countEntries_7 (x : Int) G = rI (if (pA tx tn m a).1 = 0 then -1 else ((x + (pA tx tn m a).2.2.length : Nat) : Int)) G1 ∧ Fr FSc G G1 ∧ TxC G1 tn tx ∧ G1 21 0 2 = ((pA tx tn m a).2.1 : Int)
  | 0, a, x, G, h1, h2, ha, hxa, hm => absurd hm (by omega)
  | m + 1, a, x, G, h1, h2, ha, hxa, hm => by
    obtain ⟨u1, u2, u3, u4⟩ := pE_sp (tx := tx) (Nat.le_of_lt ha)
    obtain ⟨G1, e1, hF, hT, hp, hn, h01, hs⟩ := st_entry ht h1 h2 (Nat.le_of_lt ha) hx
    have e := e_l_Scr_countEntries_7 (x : Int) G
    have c1 : (a : Int) < (tn : Int) := by omega
    have c2 : (x : Int) < 60 := by omega
    rw [h2, h1.1, if_pos c1, if_pos c2, e1, bI_r] at e
    unfold pA
    by_cases c0 : (pE tx tn a).1 = 0
    · rw [if_pos c0] at e
      rw [if_pos c0]
      exact ⟨G1, e, hF, hT, hp⟩
    · rw [if_neg c0] at e
      rw [if_neg c0]
      have u5 := (u4 (u1.resolve_left c0)).1
      have w : wr ((x : Int) + 1) = ((x + 1 : Nat) : Int) := by
        rw [wr_id (by omega) (by omega)]
        omega
      rw [w] at e
      clear w
      by_cases c3 : (pE tx tn a).2.1 < tn
      · rw [if_pos c3]
        obtain ⟨G2, e2, hF2, hT2, hp2⟩ := g_count ht hx m (pE tx tn a).2.1 (x + 1) G1 hT hp c3 (by omega) (by omega)
        refine ⟨G2, ?_, hF.trans hF2, hT2, hp2⟩
        rw [e, e2]
        show _ = rI (if (pA tx tn m (pE tx tn a).2.1).1 = 0 then -1 else ((x + ((pA tx tn m (pE tx tn a).2.1).2.2.length + 1) : Nat) : Int)) G2
        rw [show x + 1 + (pA tx tn m (pE tx tn a).2.1).2.2.length = x + ((pA tx tn m (pE tx tn a).2.1).2.2.length + 1) by omega]
      · rw [if_neg c3]
        have e2 := e_l_Scr_countEntries_7 ((x + 1 : Nat) : Int) G1
        have c4 : ¬ ((pE tx tn a).2.1 : Int) < (tn : Int) := by omega
        have c5 : ¬ ((x + 1 : Nat) : Int) = 0 := by omega
        rw [hp, hT.1, if_neg c4, if_neg c5] at e2
        refine ⟨G1, ?_, hF, hT, hp⟩
        rw [e, e2]
        rfl
end SN9
