/-! ===== copies of the map; what is remembered ===== -/
def FSh (i : Int) (t : Nat) (o : Int) : Prop := o = i ∧ ((1 ≤ t ∧ t ≤ 8) ∨ t = 11 ∨ t = 12)
def pushC (c : Nat) : Nat := if c = 8 then 8 else c + 1
def pushH (c : Nat) (H : Nat → Nat → Int) (s : Nat → Int) : Nat → Nat → Int := if c = 8 then fun j => if j = 7 then s else H (j + 1) else fun j => if j = c then s else H j
section CHG
variable {s : Nat → Int} {G : GG}
theorem g_copySheet {i j : Int} (hij : i ≠ j) (hs : okM s) (h : ShC G j s) : ∃ G', f_She_copyFrom i j G = rV G' ∧ ShC G' i s ∧ Fr (FSh i) G G' := by
  obtain ⟨hL, hP, hO, hK, hT, hX⟩ := h
  have hz : ∀ l : Nat, l < mNl s → mSz s l ≤ 10 := fun l hl => ((hs.2.1).2 l hl).1.2
  have hstr := hs.2.2.2.2.2.2.2.2
  obtain ⟨G1, e1, h1, f1⟩ := g_copyFrom (nl := mNl s) hij hs.2.1.1 hz hL
  have n1 : ∀ t o k, t ≠ 2 → t ≠ 3 → t ≠ 4 → G1 t o k = G t o k := fun t o k a b c => f1 t o k (fun z => by rcases z.2 with y | y | y; exact a y; exact b y; exact c y)
  have e := e_f_She_copyFrom i j G
  rw [e1] at e
  simp only [bV_r] at e
  rw [e_f_Poi_copyFrom] at e
  simp only [bV_r] at e
  rw [e_f_Par_copyFrom] at e
  simp only [bV_r] at e
  have f2 : Fr (FSh i) G1 (up (cpy G1 6 j 0 6 i 0 72) 5 i 1 ((cpy G1 6 j 0 6 i 0 72) 5 j 1)) := (Fr.cpy G1 _ _ _ _ _ ⟨rfl, by omega⟩).trans (Fr.up _ _ _ ⟨rfl, by omega⟩)
  have hP2 : PtC (up (cpy G1 6 j 0 6 i 0 72) 5 i 1 ((cpy G1 6 j 0 6 i 0 72) 5 j 1)) i (mNp s) (mPt s) := by
    have hn := hs.2.2.2.2.1.1
    refine ⟨by rw [up_at, cpy_t (by decide), n1 _ _ _ (by decide) (by decide) (by decide)]; exact hP.1, fun p hp q hq => ?_⟩
    rw [up_t (by decide), cpy_in (by omega) (by omega), n1 _ _ _ (by decide) (by decide) (by decide), show (0 : Int) + (6 * (p : Int) + (q : Int) - 0) = 6 * (p : Int) + q by omega]
    exact hP.2 p hp q hq
  generalize hG2 : up (cpy G1 6 j 0 6 i 0 72) 5 i 1 ((cpy G1 6 j 0 6 i 0 72) 5 j 1) = G2 at e f2 hP2
  have n2 : ∀ t o k, t ≠ 5 → t ≠ 6 → G2 t o k = G1 t o k := fun t o k a b => by rw [← hG2, up_t a, cpy_t b]
  have f3 : Fr (FSh i) G2 (cpy G2 8 j 0 8 i 0 64) := Fr.cpy G2 _ _ _ _ _ ⟨rfl, by omega⟩
  have f4 : Fr (FSh i) (cpy G2 8 j 0 8 i 0 64) (cpy (cpy (cpy G2 8 j 0 8 i 0 64) 11 j 0 11 i 0 16) 12 j 0 12 i 0 15) := (Fr.cpy _ _ _ _ _ _ ⟨rfl, by omega⟩).trans (Fr.cpy _ _ _ _ _ _ ⟨rfl, by omega⟩)
  have hx : (cpy (cpy (cpy G2 8 j 0 8 i 0 64) 11 j 0 11 i 0 16) 12 j 0 12 i 0 15) 1 j 5 = s 295 := by
    rw [cpy_t (by decide), cpy_t (by decide), cpy_t (by decide), n2 _ _ _ (by decide) (by decide), n1 _ _ _ (by decide) (by decide) (by decide)]
    exact hX
  have hO3 : OwC (cpy (cpy (cpy G2 8 j 0 8 i 0 64) 11 j 0 11 i 0 16) 12 j 0 12 i 0 15) i (mOw s) := fun f hf => by
    rw [cpy_t (by decide), cpy_t (by decide), cpy_in (by omega) (by omega), n2 _ _ _ (by decide) (by decide), n1 _ _ _ (by decide) (by decide) (by decide), show (0 : Int) + ((f : Int) - 0) = f by omega]
    exact hO f hf
  have hK3 : ∀ p : Nat, p < 16 → (cpy (cpy (cpy G2 8 j 0 8 i 0 64) 11 j 0 11 i 0 16) 12 j 0 12 i 0 15) 11 i p = s (264 + p) := fun p hp => by
    rw [cpy_t (by decide), cpy_in (by omega) (by omega), cpy_t (by decide), n2 _ _ _ (by decide) (by decide), n1 _ _ _ (by decide) (by decide) (by decide), show (0 : Int) + ((p : Int) - 0) = p by omega]
    exact hK p hp
  have hT3 : StC (cpy (cpy (cpy G2 8 j 0 8 i 0 64) 11 j 0 11 i 0 16) 12 j 0 12 i 0 15) i (mSt s) := fun p hp => by
    rw [cpy_in (by omega) (by omega), cpy_t (by decide), cpy_t (by decide), n2 _ _ _ (by decide) (by decide), n1 _ _ _ (by decide) (by decide) (by decide), show (0 : Int) + ((p : Int) - 0) = p by omega]
    exact hT p hp
  have n3 : ∀ t o k, t ≠ 8 → t ≠ 11 → t ≠ 12 → (cpy (cpy (cpy G2 8 j 0 8 i 0 64) 11 j 0 11 i 0 16) 12 j 0 12 i 0 15) t o k = G2 t o k := fun t o k a b c => by rw [cpy_t c, cpy_t b, cpy_t a]
  have f5 := f3.trans f4
  generalize (cpy (cpy (cpy G2 8 j 0 8 i 0 64) 11 j 0 11 i 0 16) 12 j 0 12 i 0 15) = G3 at e f5 hx hO3 hK3 hT3 n3
  rw [hx, if_pos (by omega)] at e
  refine ⟨_, e, ⟨(h1.fr (n2 _ _ _ (by decide) (by decide)) (fun k => n2 _ _ _ (by decide) (by decide)) (fun k => n2 _ _ _ (by decide) (by decide))).fr ((up_t (by decide)).trans (n3 _ _ _ (by decide) (by decide) (by decide))) (fun k => (up_t (by decide)).trans (n3 _ _ _ (by decide) (by decide) (by decide))) (fun k => (up_t (by decide)).trans (n3 _ _ _ (by decide) (by decide) (by decide))), hP2.fr ((up_t (by decide)).trans (n3 _ _ _ (by decide) (by decide) (by decide))) (fun k => (up_t (by decide)).trans (n3 _ _ _ (by decide) (by decide) (by decide))), fun f hf => (up_t (by decide)).trans (hO3 f hf), fun p hp => (up_t (by decide)).trans (hK3 p hp), fun p hp => (up_t (by decide)).trans (hT3 p hp), up_at _ _ _ _ _⟩, (((f1.mono (fun t o z => by unfold FSh; omega)).trans f2).trans f5).trans (Fr.up _ _ _ ⟨rfl, by omega⟩)⟩
theorem cc_new (hs : okM s) (h : ShC G 0 s) (h4 : G 15 0 4 = 1) (h5 : G 15 0 5 = 1) (h6 : G 15 0 6 = 0) : CC G s := by
  refine ⟨1, ⟨h4, by decide, by decide, fun L hL => ?_⟩, ⟨1, h5, by decide, by decide, fun L hL => ?_⟩, 0, h6, by decide, fun L hL hb => ?_⟩
  · have h0 : L = 0 := by omega
    rw [h0]
    exact h.1
  · have h0 : L = 0 := by omega
    rw [h0]
    exact h.2.2.1
  · rw [Nat.zero_testBit] at hb
    cases hb
theorem g_spoil : ∃ G', f_Lev_spoil G = rV G' ∧ G' 15 0 4 = 1 ∧ G' 15 0 5 = 1 ∧ G' 15 0 6 = 0 ∧ Fr (fun t _ => t = 15) G G' :=
  ⟨_, e_f_Lev_spoil G, by rw [up_k (by decide), up_k (by decide), up_at], by rw [up_k (by decide), up_at], by rw [up_at], ((Fr.up _ _ _ rfl).trans (Fr.up _ _ _ rfl)).trans (Fr.up _ _ _ rfl)⟩
theorem iRem8b {k : Nat} (h : k < 64) : iRem (k : Int) 8 = ((k % 8 : Nat) : Int) := iRem8 h
variable {c : Nat} {H : Nat → Nat → Int} {sv : Int} {K : Nat → Int} {tn : Nat} {tx : Nat → Int} {er : Int}
theorem push_ok (hs : okM s) (hc : c ≤ 8) (hH : ∀ j : Nat, j < c → okM (H j)) : pushC c ≤ 8 ∧ ∀ j : Nat, j < pushC c → okM (pushH c H s j) := by
  unfold pushC pushH
  by_cases h8 : c = 8
  · rw [if_pos h8, if_pos h8]
    refine ⟨Nat.le_refl _, fun j hj => ?_⟩
    show okM (if j = 7 then s else H (j + 1))
    by_cases q : j = 7
    · rw [if_pos q]; exact hs
    · rw [if_neg q]; exact hH _ (by omega)
  · rw [if_neg h8, if_neg h8]
    refine ⟨by omega, fun j hj => ?_⟩
    show okM (if j = c then s else H j)
    by_cases q : j = c
    · rw [if_pos q]; exact hs
    · rw [if_neg q]; exact hH _ (by omega)
theorem nx_w {nx : Nat} (h : nx < 8) : iRem (wr ((nx : Int) + 1)) 8 = (((nx + 1) % 8 : Nat) : Int) := by
  rw [wr_sc (show nx < 8 by omega) (by decide)]
  exact iRem8 (by omega)
theorem pushC_w {c : Nat} (h : c ≤ 8) : mMin (wr ((c : Int) + 1)) 8 = (pushC c : Int) := by
  rw [wr_sc (show c < 9 by omega) (by decide)]
  unfold mMin pushC
  by_cases h8 : c = 8
  · rw [if_pos h8, if_pos (by omega)]
    rfl
  · rw [if_neg h8, if_neg (by omega)]
/-- the start of a change: the map is remembered, the levels are spoilt; then the sheet of the map may be written -/
theorem ic_change (hS : IS s c H sv K tn tx er) (h : IC G s c H sv K tn tx er) : ∃ G1, f_Map_beginChange G = rV G1 ∧ ShC G1 0 s ∧ Fr FCl G G1 ∧ G1 48 0 0 = G 48 0 0 ∧
    ∀ G2 s', okM s' → ShC G2 0 s' → Fr (fun t i => i = 0 ∧ 1 ≤ t ∧ t ≤ 12) G1 G2 → IC G2 s' (pushC c) (pushH c H s) sv K tn tx er := by
  obtain ⟨hs, hc8, hH, -⟩ := hS
  obtain ⟨q1, q2, ⟨q3, nx, q4, q5, q6⟩, ⟨q7, q8⟩, ⟨q9, q10⟩, q11⟩ := h
  have e := e_f_His_remember 0 G
  obtain ⟨Ga, ea, ha, fa⟩ := g_copySheet (i := (nx : Int) + 3) (j := 0) (by omega) hs q1
  rw [q5, if_pos (by omega), ea] at e
  simp only [bV_r] at e
  have na : ∀ t i k, (i ≠ (nx : Int) + 3 ∨ t = 13 ∨ t = 15 ∨ t = 0 ∨ 20 < t) → Ga t i k = G t i k := fun t i k z => fa t i k (by unfold FSh; omega)
  have a1 : Ga 13 0 1 = (nx : Int) := (na 13 0 1 (by omega)).trans q5
  have n13 : Ga 13 0 2 = (c : Int) := (na 13 0 2 (Or.inr (Or.inl rfl))).trans q3
  rw [a1, nx_w q4, up_k (show (2 : Int) ≠ 1 by decide), n13, pushC_w hc8] at e
  generalize hGb : up (up Ga 13 0 1 (((nx + 1) % 8 : Nat) : Int)) 13 0 2 (pushC c : Int) = Gb at e
  have nb : ∀ t i k, t ≠ 13 → Gb t i k = Ga t i k := fun t i k z => by rw [← hGb, up_t z, up_t z]
  have b1 : Gb 13 0 1 = (((nx + 1) % 8 : Nat) : Int) := by rw [← hGb, up_k (by decide), up_at]
  have b2 : Gb 13 0 2 = (pushC c : Int) := by rw [← hGb, up_at]
  obtain ⟨Gc, ec, s4, s5, s6, fc⟩ := g_spoil (G := Gb)
  have nc : ∀ t i k, t ≠ 15 → Gc t i k = Gb t i k := fun t i k z => fc t i k z
  have e9 : f_Map_beginChange G = rV Gc := by
    rw [e_f_Map_beginChange, e]
    simp only [bV_r]
    rw [ec]
    rfl
  have nall : ∀ t i k, t ≠ 13 → t ≠ 15 → i ≠ (nx : Int) + 3 → Gc t i k = G t i k := fun t i k z1 z2 z3 => (nc t i k z2).trans ((nb t i k z1).trans (na t i k (Or.inl z3)))
  have nall2 : ∀ t i k, t ≠ 13 → t ≠ 15 → (t = 0 ∨ 20 < t) → Gc t i k = G t i k := fun t i k z1 z2 z3 => (nc t i k z2).trans ((nb t i k z1).trans (na t i k (by omega)))
  have hsh0 : ShC Gc 0 s := q1.fr (fun t k ht => nall t 0 k (by omega) (by omega) (by omega))
  refine ⟨Gc, e9, hsh0, fun t i k z => nall2 t i k (fun y => z (by unfold FCl; omega)) (fun y => z (by unfold FCl; omega)) (by unfold FCl at z; omega), nall2 48 0 0 (by decide) (by decide) (by omega), fun G2 s' hs' h2 f2 => ?_⟩
  have n2 : ∀ t i k, i ≠ 0 ∨ t = 0 ∨ 12 < t → G2 t i k = Gc t i k := fun t i k z => f2 t i k (by omega)
  refine ⟨h2, cc_new hs' h2 ((n2 _ _ _ (by omega)).trans s4) ((n2 _ _ _ (by omega)).trans s5) ((n2 _ _ _ (by omega)).trans s6), ⟨(n2 13 0 2 (by omega)).trans ((nc _ _ _ (by decide)).trans b2), (nx + 1) % 8, by omega, (n2 13 0 1 (by omega)).trans ((nc _ _ _ (by decide)).trans b1), fun j hj => ?_⟩, ⟨(n2 0 0 7 (by omega)).trans ((nall2 0 0 7 (by decide) (by decide) (by omega)).trans q7), fun z => (q8 z).fr (fun t k ht => (n2 t 2 k (by omega)).trans (nall t 2 k (by omega) (by omega) (by omega)))⟩, ⟨(n2 21 0 1 (by omega)).trans ((nall2 21 0 1 (by decide) (by decide) (by omega)).trans q9), fun j hj => (n2 22 0 j (by omega)).trans ((nall2 22 0 j (by decide) (by decide) (by omega)).trans (q10 j hj))⟩, (n2 0 0 8 (by omega)).trans ((nall2 0 0 8 (by decide) (by decide) (by omega)).trans q11)⟩
  have hnew : ShC G2 (3 + (nx : Int)) s := by
    rw [show (3 : Int) + (nx : Int) = (nx : Int) + 3 by omega]
    exact ha.fr (fun t k ht => (n2 t _ k (by omega)).trans ((nc _ _ _ (by omega)).trans (nb _ _ _ (by omega))))
  have hold : ∀ (m : Nat) (s9 : Nat → Int), m ≠ nx → ShC G (3 + (m : Int)) s9 → ShC G2 (3 + (m : Int)) s9 := fun m s9 hm hh => hh.fr (fun t k ht => (n2 t _ k (by omega)).trans (nall t _ k (by omega) (by omega) (by omega)))
  by_cases h8 : c = 8
  · subst h8
    have hp1 : pushC 8 = 8 := rfl
    rw [hp1] at hj ⊢
    have hp2 : pushH 8 H s j = if j = 7 then s else H (j + 1) := rfl
    rw [hp2]
    by_cases q : j = 7
    · rw [if_pos q, show ((nx + 1) % 8 + 8 - 8 + j) % 8 = nx by omega]
      exact hnew
    · rw [if_neg q, show ((nx + 1) % 8 + 8 - 8 + j) % 8 = (nx + 8 - 8 + (j + 1)) % 8 by omega]
      exact hold _ _ (by omega) (q6 (j + 1) (by omega))
  · have hp1 : pushC c = c + 1 := by unfold pushC; rw [if_neg h8]
    have hp2 : pushH c H s j = if j = c then s else H j := by unfold pushH; rw [if_neg h8]
    rw [hp1] at hj ⊢
    rw [hp2]
    by_cases q : j = c
    · rw [if_pos q, show ((nx + 1) % 8 + 8 - (c + 1) + j) % 8 = nx by omega]
      exact hnew
    · rw [if_neg q, show ((nx + 1) % 8 + 8 - (c + 1) + j) % 8 = (nx + 8 - c + j) % 8 by omega]
      exact hold _ _ (by omega) (q6 j (by omega))
/-- the same in the reference -/
theorem kp_shift (G0 : GG) : ∃ G1, l_Mod_keeps_13 296 G0 = l_Mod_keeps_54 0 (up G1 25 0 5 (wr (G1 25 0 5 - 1))) ∧ (∀ z : Nat, z < 2072 → G1 29 0 z = G0 29 0 ((z + 296 : Nat) : Int)) ∧ Fr (fun t i => t = 29 ∧ i = 0) G0 G1 := by
  refine loop_inv (l := fun (k : Nat) G1 => l_Mod_keeps_13 k G1) (I := fun k G1 => (∀ z : Nat, z + 296 < k → G1 29 0 z = G0 29 0 ((z + 296 : Nat) : Int)) ∧ (∀ z : Nat, k ≤ z + 296 → G1 29 0 z = G0 29 0 z) ∧ Fr (fun t i => t = 29 ∧ i = 0) G0 G1) (P := fun r => ∃ G1, r = l_Mod_keeps_54 0 (up G1 25 0 5 (wr (G1 25 0 5 - 1))) ∧ (∀ z : Nat, z < 2072 → G1 29 0 z = G0 29 0 ((z + 296 : Nat) : Int)) ∧ Fr (fun t i => t = 29 ∧ i = 0) G0 G1) 2072 296 G0 (fun k G1 hk1 hk2 hI => ?_) (fun G1 hI => ?_) ⟨fun z hz => absurd hz (by omega), fun _ _ => rfl, Fr.refl G0⟩
  · obtain ⟨h1, h2, h3⟩ := hI
    have e := e_l_Mod_keeps_13 k G1
    have a1 : wr ((k : Int) - 296) = ((k - 296 : Nat) : Int) := by rw [wr_id (by omega) (by omega)]; omega
    have c1 : (0 : Int) ≤ ((k - 296 : Nat) : Int) ∧ ((k - 296 : Nat) : Int) < 2368 := by omega
    have c2 : (0 : Int) ≤ (k : Int) ∧ (k : Int) < 2368 := by omega
    rw [if_pos (by omega), a1, wr_id (z := (k : Int) + 1) (by omega) (by omega)] at e
    simp only [if_pos c1, if_pos c2] at e
    have ek : (k : Int) + 1 = ((k + 1 : Nat) : Int) := by omega
    rw [ek] at e
    have hv : G1 29 0 k = G0 29 0 k := h2 k (by omega)
    refine ⟨_, e, fun z hz => ?_, fun z hz => ?_, h3.trans (Fr.up _ _ _ ⟨rfl, rfl⟩)⟩
    · by_cases q : z = k - 296
      · rw [q, up_at, hv, show k - 296 + 296 = k by omega]
      · rw [up_k (by omega)]
        exact h1 z (by omega)
    · rw [up_k (by omega)]
      exact h2 z (by omega)
  · obtain ⟨h1, h2, h3⟩ := hI
    have e := e_l_Mod_keeps_13 ((296 + 2072 : Nat) : Int) G1
    rw [if_neg (by decide)] at e
    exact ⟨G1, e, fun z hz => h1 z (by omega), h3⟩
theorem kp_copy (G0 : GG) {c : Nat} (hc : c < 8) (h5 : G0 25 0 5 = (c : Int)) : ∃ G1, l_Mod_keeps_54 0 G0 = rV (up (up G1 25 0 5 (wr (G1 25 0 5 + 1))) 25 0 11 0) ∧ (∀ k : Nat, k < 296 → G1 29 0 (296 * (c : Int) + k) = G0 26 0 k) ∧ (∀ z : Int, z < 296 * (c : Int) → G1 29 0 z = G0 29 0 z) ∧ Fr (fun t i => t = 29 ∧ i = 0) G0 G1 := by
  refine loop_inv (l := fun (k : Nat) G1 => l_Mod_keeps_54 k G1) (I := fun k G1 => (∀ j : Nat, j < k → G1 29 0 (296 * (c : Int) + j) = G0 26 0 j) ∧ (∀ z : Int, z < 296 * (c : Int) → G1 29 0 z = G0 29 0 z) ∧ Fr (fun t i => t = 29 ∧ i = 0) G0 G1) (P := fun r => ∃ G1, r = rV (up (up G1 25 0 5 (wr (G1 25 0 5 + 1))) 25 0 11 0) ∧ (∀ k : Nat, k < 296 → G1 29 0 (296 * (c : Int) + k) = G0 26 0 k) ∧ (∀ z : Int, z < 296 * (c : Int) → G1 29 0 z = G0 29 0 z) ∧ Fr (fun t i => t = 29 ∧ i = 0) G0 G1) 296 0 G0 (fun k G1 _ hk hI => ?_) (fun G1 hI => ?_) ⟨fun j hj => absurd hj (by omega), fun _ _ => rfl, Fr.refl G0⟩
  · obtain ⟨h1, h2, h3⟩ := hI
    have h51 : G1 25 0 5 = (c : Int) := (h3 25 0 5 (fun z => absurd z.1 (by decide))).trans h5
    have e := e_l_Mod_keeps_54 k G1
    have a1 : wr (wr (296 * (c : Int)) + (k : Int)) = 296 * (c : Int) + (k : Int) := by rw [wr_id (z := 296 * (c : Int)) (by omega) (by omega), wr_id (by omega) (by omega)]
    have c1 : (0 : Int) ≤ 296 * (c : Int) + (k : Int) ∧ 296 * (c : Int) + (k : Int) < 2368 := by omega
    have c2 : (0 : Int) ≤ (k : Int) ∧ (k : Int) < 296 := by omega
    rw [h51, a1, if_pos c2.2, wr_id (z := (k : Int) + 1) (by omega) (by omega)] at e
    simp only [if_pos c1, if_pos c2] at e
    have ek : (k : Int) + 1 = ((k + 1 : Nat) : Int) := by omega
    rw [ek, h3 26 0 k (fun z => absurd z.1 (by decide))] at e
    refine ⟨_, e, fun j hj => ?_, fun z hz => ?_, h3.trans (Fr.up _ _ _ ⟨rfl, rfl⟩)⟩
    · by_cases q : j = k
      · rw [q, up_at]
      · rw [up_k (by omega)]
        exact h1 j (by omega)
    · rw [up_k (by omega)]
      exact h2 z hz
  · obtain ⟨h1, h2, h3⟩ := hI
    have e := e_l_Mod_keeps_54 ((0 + 296 : Nat) : Int) G1
    rw [if_neg (by decide)] at e
    exact ⟨G1, e, fun j hj => h1 j (by omega), h2, h3⟩
theorem ir_change (hc8 : c ≤ 8) (h : IR G s c H sv K tn tx er) : ∃ G1, f_Mod_keeps G = rV G1 ∧ RoR G1 26 s ∧ Fr FRl G G1 ∧ (∀ k : Int, k ≠ 5 → k ≠ 11 → G1 25 0 k = G 25 0 k) ∧ Fr (fun t _ => t = 25 ∨ t = 29) G G1 ∧
    ∀ G2 s', RoR G2 26 s' → Fr (fun t _ => t = 26) G1 G2 → IR G2 s' (pushC c) (pushH c H s) sv K tn tx er := by
  obtain ⟨q1, q2, ⟨q3, q4⟩, ⟨q7, q8⟩, ⟨q9, q10⟩, q11⟩ := h
  have key : ∃ G1, f_Mod_keeps G = rV G1 ∧ G1 25 0 5 = (pushC c : Int) ∧ G1 25 0 11 = 0 ∧ (∀ k : Int, k ≠ 5 → k ≠ 11 → G1 25 0 k = G 25 0 k) ∧ Fr (fun t _ => t = 25 ∨ t = 29) G G1 ∧ ∀ j : Nat, j < pushC c → PaR G1 j (pushH c H s j) := by
    have e := e_f_Mod_keeps G
    by_cases h8 : c = 8
    · subst h8
      rw [if_pos (show G 25 0 5 = 8 from q3)] at e
      obtain ⟨Ga, ea, a1, a2⟩ := kp_shift G
      have a5 : Ga 25 0 5 = 8 := (a2 25 0 5 (fun z => absurd z.1 (by decide))).trans q3
      rw [a5, show wr (8 - 1) = 7 by rw [wr_id (by decide) (by decide)]; rfl] at ea
      obtain ⟨Gb, eb, b1, b2, b3⟩ := kp_copy (up Ga 25 0 5 7) (c := 7) (by decide) (up_at _ _ _ _ _)
      have b5 : Gb 25 0 5 = 7 := (b3 25 0 5 (fun z => absurd z.1 (by decide))).trans (up_at _ _ _ _ _)
      rw [b5, show wr (7 + 1) = 8 by rw [wr_id (by decide) (by decide)]; rfl] at eb
      have fab : Fr (fun t _ => t = 25 ∨ t = 29) G Gb := ((a2.mono (fun t i z => Or.inr z.1)).trans (Fr.up (P := fun t _ => t = 25 ∨ t = 29) Ga 5 7 (Or.inl rfl))).trans (b3.mono (fun t i z => Or.inr z.1))
      refine ⟨_, e.trans (ea.trans eb), by rw [up_k (by decide), up_at]; rfl, up_at _ _ _ _ _, fun k k1 k2 => ?_, (fab.trans (Fr.up _ _ _ (Or.inl rfl))).trans (Fr.up _ _ _ (Or.inl rfl)), fun j hj k hk => ?_⟩
      · rw [up_k k2, up_k k1, b3 25 0 k (fun z => absurd z.1 (by decide)), up_k k1, a2 25 0 k (fun z => absurd z.1 (by decide))]
      · have hp2 : pushH 8 H s j = if j = 7 then s else H (j + 1) := rfl
        have hj8 : j < 8 := hj
        rw [up_t (by decide), up_t (by decide), hp2]
        by_cases q : j = 7
        · rw [if_pos q, q, show 296 * ((7 : Nat) : Int) + (k : Int) = 296 * ((7 : Nat) : Int) + k from rfl, b1 k hk, up_t (by decide), a2 26 0 k (fun z => absurd z.1 (by decide))]
          exact q1 k hk
        · rw [if_neg q, b2 _ (by omega), up_t (by decide), show (296 * (j : Int) + (k : Int)) = ((296 * j + k : Nat) : Int) by omega, a1 _ (by omega), show ((296 * j + k + 296 : Nat) : Int) = 296 * ((j + 1 : Nat) : Int) + k by omega]
          exact q4 (j + 1) (by omega) k hk
    · rw [if_neg (by omega)] at e
      obtain ⟨Gb, eb, b1, b2, b3⟩ := kp_copy G (c := c) (by omega) q3
      have b5 : Gb 25 0 5 = (c : Int) := (b3 25 0 5 (fun z => absurd z.1 (by decide))).trans q3
      have hp1 : pushC c = c + 1 := by unfold pushC; rw [if_neg h8]
      have fb : Fr (fun t _ => t = 25 ∨ t = 29) G Gb := b3.mono (fun t i z => Or.inr z.1)
      rw [b5, wr_sc (show c < 8 by omega) (by decide)] at eb
      rw [hp1]
      refine ⟨_, e.trans eb, by rw [up_k (by decide), up_at], up_at _ _ _ _ _, fun k k1 k2 => ?_, (fb.trans (Fr.up _ _ _ (Or.inl rfl))).trans (Fr.up _ _ _ (Or.inl rfl)), fun j hj k hk => ?_⟩
      · rw [up_k k2, up_k k1, b3 25 0 k (fun z => absurd z.1 (by decide))]
      · have hp2 : pushH c H s j = if j = c then s else H j := by unfold pushH; rw [if_neg h8]
        rw [up_t (by decide), up_t (by decide), hp2]
        by_cases q : j = c
        · rw [if_pos q, q, b1 k hk]
          exact q1 k hk
        · rw [if_neg q, b2 _ (by omega)]
          exact q4 j (by omega) k hk
  obtain ⟨G1, e, k5, k11, k25, kf, kh⟩ := key
  refine ⟨G1, e, q1.fr (fun k => kf 26 0 k (by decide)), kf.mono (fun t i z => by unfold FRl; omega), k25, kf, fun G2 s' hR f2 => ?_⟩
  have n2 : ∀ t i k, t ≠ 26 → G2 t i k = G1 t i k := fun t i k z => f2 t i k z
  exact ⟨hR, Or.inl ((n2 _ _ _ (by decide)).trans k11), ⟨(n2 _ _ _ (by decide)).trans k5, fun j hj k hk => (n2 _ _ _ (by decide)).trans (kh j hj k hk)⟩, ⟨(n2 _ _ _ (by decide)).trans ((k25 _ (by decide) (by decide)).trans q7), fun z => (q8 z).fr (fun k => (n2 _ _ _ (by decide)).trans (kf 28 0 k (by decide)))⟩, ⟨(n2 _ _ _ (by decide)).trans ((k25 _ (by decide) (by decide)).trans q9), fun j hj => (n2 _ _ _ (by decide)).trans ((kf 39 0 j (by decide)).trans (q10 j hj))⟩, (n2 _ _ _ (by decide)).trans ((k25 _ (by decide) (by decide)).trans q11)⟩
end CHG
