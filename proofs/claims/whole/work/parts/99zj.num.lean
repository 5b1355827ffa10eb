/-! ===== read: numbers, one side ===== -/
/-- the value of a digit of the text, or -1 -/
def dg (tx : Nat → Int) (tn a : Nat) : Int := if a < tn ∧ 48 ≤ tx a ∧ tx a ≤ 57 then tx a - 48 else -1
/-- a number of one or two digits at a place: found, its value, the place after it -/
def pN (tx : Nat → Int) (tn : Nat) (lo hi : Int) (a : Nat) : Int × Int × Nat :=
  if dg tx tn a = -1 then (0, 0, a) else
  if 0 < dg tx tn a ∧ dg tx tn a * 10 ≤ hi ∧ lo ≤ dg tx tn a * 10 + 9 then
    (if dg tx tn (a + 1) ≠ -1 ∧ lo ≤ dg tx tn a * 10 + dg tx tn (a + 1) ∧ dg tx tn a * 10 + dg tx tn (a + 1) ≤ hi then (1, dg tx tn a * 10 + dg tx tn (a + 1), a + 2)
     else if lo ≤ dg tx tn a ∧ dg tx tn a ≤ hi then (1, dg tx tn a, a + 1) else (0, 0, a + 1))
  else if lo ≤ dg tx tn a ∧ dg tx tn a ≤ hi then (1, dg tx tn a, a + 1) else (0, 0, a)
theorem dg_b (tx : Nat → Int) (tn a : Nat) : -1 ≤ dg tx tn a ∧ dg tx tn a ≤ 9 := by
  unfold dg
  by_cases h : a < tn ∧ 48 ≤ tx a ∧ tx a ≤ 57
  · rw [if_pos h]
    omega
  · rw [if_neg h]
    omega
theorem dg_lt {tx : Nat → Int} {tn a : Nat} (h : dg tx tn a ≠ -1) : a < tn := by
  unfold dg at h
  by_cases c : a < tn ∧ 48 ≤ tx a ∧ tx a ≤ 57
  · exact c.1
  · rw [if_neg c] at h
    exact absurd rfl h
/-- a list of numbers with one more -/
def psN (nu : Nat → Int) (z : Nat) (v : Int) : Nat → Int := fun j => if j = z then v else nu j
/-- the text lies in the script -/
def TxC (G : GG) (tn : Nat) (tx : Nat → Int) : Prop := G 21 0 1 = (tn : Int) ∧ ∀ j : Nat, j < tn → G 22 0 j = tx j
/-- the script: text, place, numbers -/
def ScC (G : GG) (tn : Nat) (tx : Nat → Int) (a z : Nat) (nu : Nat → Int) : Prop :=
  TxC G tn tx ∧ G 21 0 2 = (a : Int) ∧ G 21 0 5 = (z : Int) ∧ ∀ j : Nat, j < z → G 23 0 j = nu j
def FSc (t : Nat) (_ : Int) : Prop := t = 21 ∨ t = 23
/-- what passing may write: not the kind -/
def FrS (G G' : GG) : Prop := Fr FSc G G' ∧ G' 21 0 3 = G 21 0 3
theorem FrS.refl (G : GG) : FrS G G := ⟨Fr.refl G, rfl⟩
theorem FrS.trans {G1 G2 G3 : GG} (h1 : FrS G1 G2) (h2 : FrS G2 G3) : FrS G1 G3 := ⟨h1.1.trans h2.1, h2.2.trans h1.2⟩
theorem FrS.up3 (G : GG) (k v : Int) (h : k ≠ 3) : FrS G (up G 21 0 k v) := ⟨Fr.up G k v (Or.inl rfl), up_k (fun z => h z.symm)⟩
theorem FrS.up23 (G : GG) (k v : Int) : FrS G (up G 23 0 k v) := ⟨Fr.up G k v (Or.inr rfl), up_t (by decide)⟩
section SC
variable {G G1 : GG} {tn : Nat} {tx : Nat → Int} {a z : Nat} {nu : Nat → Int} {lo hi : Int}
theorem g_digit (h : TxC G tn tx) (ht : tn ≤ 60) (a : Nat) : f_Scr_digitAt (a : Int) G = rI (dg tx tn a) G := by
  have e := e_f_Scr_digitAt (a : Int) G
  rw [h.1] at e
  by_cases ha : a < tn
  · have c1 : (a : Int) < (tn : Int) := by omega
    have c2 : 0 ≤ (a : Int) ∧ (a : Int) < 60 := by omega
    rw [if_pos c1, if_pos c2, h.2 a ha] at e
    rw [e]
    unfold dg
    clear e
    by_cases d1 : tx a < 48
    · have d3 : ¬ (a < tn ∧ 48 ≤ tx a ∧ tx a ≤ 57) := by omega
      rw [if_pos d1, if_neg d3]
    · rw [if_neg d1, if_pos c2]
      by_cases d2 : 57 < tx a
      · have d3 : ¬ (a < tn ∧ 48 ≤ tx a ∧ tx a ≤ 57) := by omega
        rw [if_pos d2, if_neg d3]
      · have d3 : a < tn ∧ 48 ≤ tx a ∧ tx a ≤ 57 := by omega
        rw [if_neg d2, if_pos c2, if_pos d3, wr_id (by omega) (by omega)]
  · have c1 : ¬ (a : Int) < (tn : Int) := by omega
    have d3 : ¬ (a < tn ∧ 48 ≤ tx a ∧ tx a ≤ 57) := fun z => ha z.1
    rw [if_neg c1] at e
    rw [e]
    unfold dg
    rw [if_neg d3]
theorem ScC.at1 (h : ScC G tn tx a z nu) (b : Nat) : ScC (up G 21 0 2 (b : Int)) tn tx b z nu := by
  obtain ⟨⟨h1, h2⟩, h3, h4, h5⟩ := h
  refine ⟨⟨?_, fun j hj => ?_⟩, up_at _ _ _ _ _, ?_, fun j hj => ?_⟩
  · rw [up_k (by decide)]
    exact h1
  · rw [up_t (by decide)]
    exact h2 j hj
  · rw [up_k (by decide)]
    exact h4
  · rw [up_t (by decide)]
    exact h5 j hj
theorem FSc.at1 (G : GG) (v : Int) : FrS G (up G 21 0 2 v) := FrS.up3 G 2 v (by decide)
/-- what passing a number leaves -/
def NmC (G : GG) (tn : Nat) (tx : Nat → Int) (z : Nat) (nu : Nat → Int) (L : RS) (r : Int × Int × Nat) : Prop :=
  ∃ G1, L = rI r.1 G1 ∧ FrS G G1 ∧ TxC G1 tn tx ∧ G1 21 0 2 = (r.2.2 : Int) ∧ (r.1 = 1 → ScC G1 tn tx r.2.2 (z + 1) (psN nu z r.2.1))
theorem g_num132 (h : ScC G tn tx a z nu) (hz : z < 11) (v : Int) : NmC G tn tx z nu (l_Scr_passNumber_132 lo hi v G) (if lo ≤ v ∧ v ≤ hi then (1, v, a) else (0, 0, a)) := by
  have e := e_l_Scr_passNumber_132 lo hi v G
  by_cases c : lo ≤ v ∧ v ≤ hi
  · rw [if_pos c]
    rw [g_within_t c, bI_r, if_neg i01] at e
    obtain ⟨⟨h1, h2⟩, h3, h4, h5⟩ := h
    have c1 : (z : Int) < 11 := by omega
    have c2 : 0 ≤ (z : Int) ∧ (z : Int) < 11 := by omega
    rw [h4, if_pos c1, if_pos c2] at e
    have e5 : wr (up G 23 0 (z : Int) v 21 0 5 + 1) = ((z + 1 : Nat) : Int) := by
      rw [up_t (by decide), h4, wr_id (by omega) (by omega)]
      omega
    rw [e5] at e
    refine ⟨_, e, (FrS.up23 G (z : Int) v).trans (FrS.up3 _ 5 _ (by decide)), ⟨?_, fun j hj => ?_⟩, ?_, fun _ => ⟨⟨?_, fun j hj => ?_⟩, ?_, up_at _ _ _ _ _, fun j hj => ?_⟩⟩
    · rw [up_k (by decide), up_t (by decide)]
      exact h1
    · rw [up_t (by decide), up_t (by decide)]
      exact h2 j hj
    · rw [up_k (by decide), up_t (by decide)]
      exact h3
    · rw [up_k (by decide), up_t (by decide)]
      exact h1
    · rw [up_t (by decide), up_t (by decide)]
      exact h2 j hj
    · rw [up_k (by decide), up_t (by decide)]
      exact h3
    · rw [up_t (by decide)]
      unfold psN
      by_cases hjz : j = z
      · rw [if_pos hjz, hjz, up_at]
      · have hn : (j : Int) ≠ (z : Int) := by omega
        rw [if_neg hjz, up_k hn]
        exact h5 j (by omega)
  · rw [if_neg c]
    rw [g_within_f c, bI_r, if_pos rfl] at e
    exact ⟨G, e, FrS.refl G, h.1, h.2.1, fun w => absurd (show (0 : Int) = 1 from w) (by decide)⟩
theorem NmC.fr {L : RS} {r : Int × Int × Nat} (h : NmC G1 tn tx z nu L r) (hF : FrS G G1) : NmC G tn tx z nu L r := by
  obtain ⟨G2, e, f, t, g, i⟩ := h
  exact ⟨G2, e, hF.trans f, t, g, i⟩
end SC
