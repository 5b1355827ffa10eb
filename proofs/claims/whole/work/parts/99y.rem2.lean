/-! ===== changes: a line is removed ===== -/
def rlF (s : Nat → Int) (l a b c : Nat) : Nat → Int := fun j => if 1 + l ≤ j ∧ j < 1 + a then s (j + 1) else if 7 + 10 * l ≤ j ∧ j < 7 + b then s (j + 10) else if 67 + 10 * l ≤ j ∧ j < 67 + c then s (j + 10) else upS s 0 (s 0 - 1) j
def rlS (s : Nat → Int) (l : Nat) : Nat → Int := rlF s l (mNl s - 1) (10 * (mNl s - 1)) (10 * (mNl s - 1))
theorem rlF_a {s : Nat → Int} {l a b c : Nat} (h : l ≤ a) (j : Nat) : rlF s l (a + 1) b c j = if j = 1 + a then s (j + 1) else rlF s l a b c j := by
  unfold rlF
  by_cases q : j = 1 + a
  · rw [if_pos q, if_pos (by omega)]
  · rw [if_neg q]
    by_cases q2 : 1 + l ≤ j ∧ j < 1 + a
    · rw [if_pos q2, if_pos (by omega)]
    · rw [if_neg q2, if_neg (by omega)]
theorem rlF_b {s : Nat → Int} {l a b c : Nat} (h : 10 * l ≤ b) (ha : a ≤ 6) (j : Nat) : rlF s l a (b + 1) c j = if j = 7 + b then s (j + 10) else rlF s l a b c j := by
  unfold rlF
  by_cases q : j = 7 + b
  · rw [if_pos q, if_neg (by omega), if_pos (by omega)]
  · rw [if_neg q]
    by_cases q2 : 1 + l ≤ j ∧ j < 1 + a
    · rw [if_pos q2, if_pos q2]
    · rw [if_neg q2, if_neg q2]
      by_cases q3 : 7 + 10 * l ≤ j ∧ j < 7 + b
      · rw [if_pos q3, if_pos (by omega)]
      · rw [if_neg q3, if_neg (by omega)]
theorem rlF_c {s : Nat → Int} {l a b c : Nat} (h : 10 * l ≤ c) (ha : a ≤ 6) (hb : b ≤ 60) (j : Nat) : rlF s l a b (c + 1) j = if j = 67 + c then s (j + 10) else rlF s l a b c j := by
  unfold rlF
  by_cases q : j = 67 + c
  · rw [if_pos q, if_neg (by omega), if_neg (by omega), if_pos (by omega)]
  · rw [if_neg q]
    by_cases q2 : 1 + l ≤ j ∧ j < 1 + a
    · rw [if_pos q2, if_pos q2]
    · rw [if_neg q2, if_neg q2]
      by_cases q3 : 7 + 10 * l ≤ j ∧ j < 7 + b
      · rw [if_pos q3, if_pos q3]
      · rw [if_neg q3, if_neg q3]
        by_cases q4 : 67 + 10 * l ≤ j ∧ j < 67 + c
        · rw [if_pos q4, if_pos (by omega)]
        · rw [if_neg q4, if_neg (by omega)]
theorem rlF_0 {s : Nat → Int} {l a b c : Nat} : rlF s l a b c 0 = s 0 - 1 := by
  unfold rlF
  rw [if_neg (by omega), if_neg (by omega), if_neg (by omega), upS_at]
/-- beyond what has been moved the row is as it was -/
theorem rlF_o {s : Nat → Int} {l a b c j : Nat} (h0 : j ≠ 0) (h1 : ¬(1 + l ≤ j ∧ j < 1 + a)) (h2 : ¬(7 + 10 * l ≤ j ∧ j < 7 + b)) (h3 : ¬(67 + 10 * l ≤ j ∧ j < 67 + c)) : rlF s l a b c j = s j := by
  unfold rlF
  rw [if_neg h1, if_neg h2, if_neg h3, upS_ne h0]
theorem rlF_ini {s : Nat → Int} {l j : Nat} : rlF s l l (10 * l) (10 * l) j = upS s 0 (s 0 - 1) j := by
  unfold rlF
  rw [if_neg (by omega), if_neg (by omega), if_neg (by omega)]
section RLN
variable {s : Nat → Int} {G : GG}
theorem rlS_ne {l j : Nat} (hn : mNl s ≤ 6) (hj : 127 ≤ j) : rlS s l j = s j := rlF_o (by omega) (by omega) (by omega) (by omega)
theorem rl_nl (hs : okM s) {l : Nat} (hl : l < mNl s) : mNl (rlS s l) = mNl s - 1 := by
  have h := mNl_c hs
  have e : rlS s l 0 = s 0 - 1 := rlF_0
  show (rlS s l 0).toNat = _
  rw [e, h]
  omega
theorem rl_sz {l q : Nat} (hq : q < mNl s - 1) : mSz (rlS s l) q = if q < l then mSz s q else mSz s (q + 1) := by
  unfold mSz rlS
  by_cases h : q < l
  · rw [if_pos h, rlF_o (by omega) (by omega) (by omega) (by omega)]
  · rw [if_neg h]
    unfold rlF
    rw [if_pos (by omega), show 1 + q + 1 = 1 + (q + 1) by omega]
theorem rl_x {l q k : Nat} (hn : mNl s ≤ 6) (hq : q < mNl s - 1) (hk : k < 10) : rlS s l (7 + 10 * q + k) = (if q < l then s (7 + 10 * q + k) else s (7 + 10 * (q + 1) + k)) ∧ rlS s l (67 + 10 * q + k) = if q < l then s (67 + 10 * q + k) else s (67 + 10 * (q + 1) + k) := by
  unfold rlS
  by_cases h : q < l
  · rw [if_pos h, if_pos h]
    exact ⟨rlF_o (by omega) (by omega) (by omega) (by omega), rlF_o (by omega) (by omega) (by omega) (by omega)⟩
  · rw [if_neg h, if_neg h]
    unfold rlF
    refine ⟨?_, ?_⟩
    · rw [if_neg (by omega), if_pos (by omega), show 7 + 10 * q + k + 10 = 7 + 10 * (q + 1) + k by omega]
    · rw [if_neg (by omega), if_neg (by omega), if_pos (by omega), show 67 + 10 * q + k + 10 = 67 + 10 * (q + 1) + k by omega]
theorem rl_cd {l q k : Nat} (hn : mNl s ≤ 6) (hq : q < mNl s - 1) (hk : k < 10) : mCd (rlS s l) q k = if q < l then mCd s q k else mCd s (q + 1) k := by
  obtain ⟨e1, e2⟩ := rl_x (s := s) (l := l) hn hq hk
  unfold mCd
  rw [e1, e2]
  by_cases h : q < l
  · rw [if_pos h, if_pos h, if_pos h]
  · rw [if_neg h, if_neg h, if_neg h]
theorem ok_rl (hs : okM s) {l : Nat} (hl : l < mNl s) : okM (rlS s l) := by
  have ho := hs.2.1
  have hn := ho.1
  have hc := mNl_c hs
  obtain ⟨b1, b2⟩ := okB_ag (s' := rlS s l) hs (fun j hj _ => rlS_ne hn hj)
  have hln : ∀ q : Nat, q < mNl s - 1 → (2 ≤ mSz (rlS s l) q ∧ mSz (rlS s l) q ≤ 10) ∧ (∀ k : Nat, k < mSz (rlS s l) q → isC (mCd (rlS s l) q k)) ∧ (∀ j k : Nat, j < k → k < mSz (rlS s l) q → mCd (rlS s l) q j ≠ mCd (rlS s l) q k) ∧ ∀ k : Nat, k < mSz (rlS s l) q → (0 ≤ rlS s l (7 + 10 * q + k) ∧ rlS s l (7 + 10 * q + k) < 64) ∧ (0 ≤ rlS s l (67 + 10 * q + k) ∧ rlS s l (67 + 10 * q + k) < 64) := fun q hq => by
    rw [rl_sz hq]
    by_cases h : q < l
    · obtain ⟨c1, c2, c3⟩ := ho.2 q (by omega)
      have c4 := hs.2.2.1 q (by omega)
      simp only [if_pos h]
      refine ⟨c1, fun k hk => ?_, fun j k hj hk => ?_, fun k hk => ?_⟩
      · rw [rl_cd hn hq (by omega), if_pos h]
        exact c2 k hk
      · rw [rl_cd hn hq (by omega), rl_cd hn hq (by omega), if_pos h, if_pos h]
        exact c3 j k hj hk
      · obtain ⟨e1, e2⟩ := rl_x (s := s) (l := l) hn hq (show k < 10 by omega)
        rw [e1, e2, if_pos h, if_pos h]
        exact c4 k hk
    · obtain ⟨c1, c2, c3⟩ := ho.2 (q + 1) (by omega)
      have c4 := hs.2.2.1 (q + 1) (by omega)
      simp only [if_neg h]
      refine ⟨c1, fun k hk => ?_, fun j k hj hk => ?_, fun k hk => ?_⟩
      · rw [rl_cd hn hq (by omega), if_neg h]
        exact c2 k hk
      · rw [rl_cd hn hq (by omega), rl_cd hn hq (by omega), if_neg h, if_neg h]
        exact c3 j k hj hk
      · obtain ⟨e1, e2⟩ := rl_x (s := s) (l := l) hn hq (show k < 10 by omega)
        rw [e1, e2, if_neg h, if_neg h]
        exact c4 k hk
  have e0 : rlS s l 0 = s 0 - 1 := rlF_0
  refine ⟨by rw [e0]; omega, ⟨by rw [rl_nl hs hl]; omega, fun q hq => ?_⟩, fun q hq k hk => ?_, b1, b2, okO_ag hs.2.2.2.2.2.1 (fun j hj _ => rlS_ne hn (by omega)), fun q hq => ?_, okSt_ag hs.2.2.2.2.2.2.2.1 (fun j hj _ => rlS_ne hn (by omega)), ?_⟩
  · rw [rl_nl hs hl] at hq
    obtain ⟨c1, c2, c3, -⟩ := hln q hq
    exact ⟨c1, c2, c3⟩
  · rw [rl_nl hs hl] at hq
    exact (hln q hq).2.2.2 k hk
  · rw [rlS_ne hn (by omega)]
    exact hs.2.2.2.2.2.2.1 q hq
  · rw [rlS_ne hn (by omega)]
    exact hs.2.2.2.2.2.2.2.2
theorem g_takeOutL {l n : Nat} (hn : n ≤ 6) (hl : l < n) (h : G 2 0 2 = (n : Int)) : f_Lin_takeOut 0 l G = rV (up (cpy (cpy G 3 0 (10 * (l : Int) + 10) 3 0 (10 * (l : Int)) (10 * ((n : Int) - 1 - l))) 4 0 ((l : Int) + 1) 4 0 l ((n : Int) - 1 - l)) 2 0 2 ((n - 1 : Nat) : Int)) := by
  have w1 : wr ((l : Int) * 10) = 10 * (l : Int) := by rw [wr_id (by omega) (by omega)]; omega
  have w2 : wr ((l : Int) + 1) = (l : Int) + 1 := wr_id (by omega) (by omega)
  have w2b : wr (((l : Int) + 1) * 10) = 10 * (l : Int) + 10 := by rw [wr_id (by omega) (by omega)]; omega
  have w3 : wr (wr ((n : Int) - 1) - (l : Int)) = (n : Int) - 1 - l := by rw [wr_id (z := (n : Int) - 1) (by omega) (by omega), wr_id (by omega) (by omega)]
  have w4 : wr (((n : Int) - 1 - l) * 10) = 10 * ((n : Int) - 1 - l) := by rw [wr_id (by omega) (by omega)]; omega
  have e := e_f_Lin_takeOut 0 l G
  rw [h, w1, w2, w2b, w3, w4, cpy_t (show (2 : Nat) ≠ 4 by decide), cpy_t (show (2 : Nat) ≠ 3 by decide), h, wm1 ⟨by clear w1 w2 w2b w3 w4 e; omega, by clear w1 w2 w2b w3 w4 e; omega⟩] at e
  clear w1 w2 w2b w3 w4
  have c0 : ((0 : Int) ≤ 10 * (l : Int) + 10 ∧ (0 : Int) ≤ 10 * (l : Int)) ∧ (0 ≤ 10 * ((n : Int) - 1 - l) ∧ (10 * (l : Int) + 10 + 10 * ((n : Int) - 1 - l) ≤ 60 ∧ 10 * (l : Int) + 10 * ((n : Int) - 1 - l) ≤ 60)) := by clear e h; omega
  have c1 : ((0 : Int) ≤ (l : Int) + 1 ∧ (0 : Int) ≤ (l : Int)) ∧ (0 ≤ (n : Int) - 1 - l ∧ ((l : Int) + 1 + ((n : Int) - 1 - l) ≤ 6 ∧ (l : Int) + ((n : Int) - 1 - l) ≤ 6)) := by clear e h; omega
  rw [if_pos c0, if_pos c1] at e
  exact e
theorem sh_rl (hs : okM s) {l : Nat} (hl : l < mNl s) (h : ShC G 0 s) : ShC (up (cpy (cpy G 3 0 (10 * (l : Int) + 10) 3 0 (10 * (l : Int)) (10 * ((mNl s : Int) - 1 - l))) 4 0 ((l : Int) + 1) 4 0 l ((mNl s : Int) - 1 - l)) 2 0 2 ((mNl s - 1 : Nat) : Int)) 0 (rlS s l) := by
  have hn := hs.2.1.1
  have n1 : ∀ t i k, t ≠ 2 → t ≠ 3 → t ≠ 4 → (up (cpy (cpy G 3 0 (10 * (l : Int) + 10) 3 0 (10 * (l : Int)) (10 * ((mNl s : Int) - 1 - l))) 4 0 ((l : Int) + 1) 4 0 l ((mNl s : Int) - 1 - l)) 2 0 2 ((mNl s - 1 : Nat) : Int)) t i k = G t i k := fun t i k a b c => by rw [up_t a, cpy_t c, cpy_t b]
  refine ⟨⟨by rw [up_at, rl_nl hs hl], fun q hq => ?_⟩, (h.2.1.ag hs.2.2.2.2.1 (fun j hj _ => rlS_ne hn hj)).fr (n1 _ _ _ (by decide) (by decide) (by decide)) (fun k => n1 _ _ _ (by decide) (by decide) (by decide)), fun f hf => (n1 _ _ _ (by decide) (by decide) (by decide)).trans (h.2.2.1.ag (fun j hj _ => rlS_ne hn (by omega)) f hf), fun q hq => ?_, fun j hj => (n1 _ _ _ (by decide) (by decide) (by decide)).trans (h.2.2.2.2.1.ag (fun j hj _ => rlS_ne hn (by omega)) j hj), ?_⟩
  · rw [rl_nl hs hl] at hq
    rw [rl_sz hq]
    by_cases z : q < l
    · obtain ⟨k1, k2⟩ := h.1.2 q (by omega)
      have hz := ((hs.2.1).2 q (by omega)).1
      simp only [if_pos z]
      refine ⟨by rw [up_t (by decide), cpy_out (by omega), cpy_t (by decide)]; exact k1, fun k hk => ?_⟩
      rw [up_t (by decide), cpy_t (by decide), cpy_out (by omega), rl_cd hn hq (by omega), if_pos z]
      exact k2 k hk
    · obtain ⟨k1, k2⟩ := h.1.2 (q + 1) (by omega)
      have hz := ((hs.2.1).2 (q + 1) (by omega)).1
      simp only [if_neg z]
      refine ⟨by rw [up_t (by decide), cpy_in (by omega) (by omega), cpy_t (by decide), show (l : Int) + 1 + ((q : Int) - (l : Int)) = ((q + 1 : Nat) : Int) by omega]; exact k1, fun k hk => ?_⟩
      rw [up_t (by decide), cpy_t (by decide), cpy_in (by omega) (by omega), rl_cd hn hq (by omega), if_neg z, show 10 * (l : Int) + 10 + (10 * (q : Int) + (k : Int) - 10 * (l : Int)) = 10 * ((q + 1 : Nat) : Int) + (k : Int) by omega]
      exact k2 k hk
  · rw [n1 _ _ _ (by decide) (by decide) (by decide), rlS_ne hn (by omega)]
    exact h.2.2.2.1 q hq
  · rw [n1 _ _ _ (by decide) (by decide) (by decide), rlS_ne hn (by omega)]
    exact h.2.2.2.2.2
theorem w_rl1 {r : Nat} (hr : r < 6) : wr (1 + (r : Int)) = ((1 + r : Nat) : Int) ∧ wr (((1 + r : Nat) : Int) + 1) = ((1 + r + 1 : Nat) : Int) ∧ ((0 : Int) ≤ ((1 + r : Nat) : Int) ∧ ((1 + r : Nat) : Int) < 296) ∧ ((0 : Int) ≤ ((1 + r + 1 : Nat) : Int) ∧ ((1 + r + 1 : Nat) : Int) < 296) ∧ wr (10 * (r : Int)) = ((10 * r : Nat) : Int) ∧ wr (((10 * r : Nat) : Int) + 10) = ((10 * r + 10 : Nat) : Int) := by
  refine ⟨?_, ?_, by omega, by omega, ?_, ?_⟩
  · rw [wr_id (by omega) (by omega)]; omega
  · rw [wr_id (by omega) (by omega)]; omega
  · rw [wr_id (by omega) (by omega)]; omega
  · rw [wr_id (by omega) (by omega)]; omega
theorem w_rl2 {k : Nat} (hk : k < 60) : wr (7 + (k : Int)) = ((7 + k : Nat) : Int) ∧ wr (((7 + k : Nat) : Int) + 10) = ((7 + k + 10 : Nat) : Int) ∧ wr (67 + (k : Int)) = ((67 + k : Nat) : Int) ∧ wr (((67 + k : Nat) : Int) + 10) = ((67 + k + 10 : Nat) : Int) := by
  refine ⟨?_, ?_, ?_, ?_⟩
  · rw [wr_id (by omega) (by omega)]; omega
  · rw [wr_id (by omega) (by omega)]; omega
  · rw [wr_id (by omega) (by omega)]; omega
  · rw [wr_id (by omega) (by omega)]; omega
theorem c_rl2 {k : Nat} (hk : k < 60) : ((0 : Int) ≤ ((7 + k : Nat) : Int) ∧ ((7 + k : Nat) : Int) < 296) ∧ ((0 : Int) ≤ ((7 + k + 10 : Nat) : Int) ∧ ((7 + k + 10 : Nat) : Int) < 296) ∧ ((0 : Int) ≤ ((67 + k : Nat) : Int) ∧ ((67 + k : Nat) : Int) < 296) ∧ ((0 : Int) ≤ ((67 + k + 10 : Nat) : Int) ∧ ((67 + k + 10 : Nat) : Int) < 296) := by omega
/-- one line is moved -/
theorem r_rlRow {l r : Nat} (hl : l ≤ r) (hr : r < 5) {G : GG} (h : ∀ j : Nat, j < 296 → G 26 0 j = rlF s l (r + 1) (10 * r) (10 * r) j) :
    ∃ G', l_Mod_removeLine_75 r ((10 * r : Nat) : Int) G = l_Mod_removeLine_42 ((r + 1 : Nat) : Int) G' ∧ (∀ j : Nat, j < 296 → G' 26 0 j = rlF s l (r + 1) (10 * r + 10) (10 * r + 10) j) ∧ Fr (fun t _ => t = 26) G G' := by
  refine loop_inv (l := fun k G1 => l_Mod_removeLine_75 r (k : Int) G1) (I := fun k G1 => (∀ j : Nat, j < 296 → G1 26 0 j = rlF s l (r + 1) k k j) ∧ Fr (fun t _ => t = 26) G G1) (P := fun x => ∃ G', x = l_Mod_removeLine_42 ((r + 1 : Nat) : Int) G' ∧ (∀ j : Nat, j < 296 → G' 26 0 j = rlF s l (r + 1) (10 * r + 10) (10 * r + 10) j) ∧ Fr (fun t _ => t = 26) G G') 10 (10 * r) G (fun k G1 hk1 hk2 hI => ?_) (fun G1 hI => ?_) ⟨h, Fr.refl G⟩
  · obtain ⟨h1, h2⟩ := hI
    have k60 : k < 50 := by omega
    have v1 : G1 26 0 ((7 + k + 10 : Nat) : Int) = s (7 + k + 10) := (h1 (7 + k + 10) (by omega)).trans (rlF_o (by omega) (by omega) (by omega) (by omega))
    have v2 : G1 26 0 ((67 + k + 10 : Nat) : Int) = s (67 + k + 10) := (h1 (67 + k + 10) (by omega)).trans (rlF_o (by omega) (by omega) (by omega) (by omega))
    have hkr : (k : Int) < ((10 * r + 10 : Nat) : Int) := by omega
    have hne : ((67 + k + 10 : Nat) : Int) ≠ ((7 + k : Nat) : Int) := by omega
    obtain ⟨c1, c2, c3, c4⟩ := c_rl2 (k := k) (by omega)
    have hG : ∀ j : Nat, j < 296 → (up (up G1 26 0 ((7 + k : Nat) : Int) (s (7 + k + 10))) 26 0 ((67 + k : Nat) : Int) (s (67 + k + 10))) 26 0 j = rlF s l (r + 1) (k + 1) (k + 1) j := fun j hj => by
      rw [rlF_c (by omega) (by omega) (by omega), rlF_b (by omega) (by omega)]
      by_cases q1 : j = 67 + k
      · rw [if_pos q1, q1, up_at]
      · rw [if_neg q1, up_k (by omega)]
        by_cases q2 : j = 7 + k
        · rw [if_pos q2, q2, up_at]
        · rw [if_neg q2, up_k (by omega)]
          exact h1 j hj
    obtain ⟨w1, w2, w3, w4⟩ := w_rl2 (k := k) (by omega)
    obtain ⟨-, -, -, -, w5, w6⟩ := w_rl1 (r := r) (by omega)
    have e := e_l_Mod_removeLine_75 r (k : Int) G1
    rw [w5, w6, w1, w2, w3, w4, if_pos hkr] at e
    simp only [if_pos c1, if_pos c2, if_pos c3, if_pos c4] at e
    rw [v1, up_k hne, v2, wr_sc (show k < 60 by clear w1 w2 w3 w4 w5 w6 e; omega) (by decide)] at e
    exact ⟨_, e, hG, (h2.trans (Fr.up _ _ _ rfl)).trans (Fr.up _ _ _ rfl)⟩
  · obtain ⟨h1, h2⟩ := hI
    have hkr : ¬(((10 * r + 10 : Nat) : Int) < ((10 * r + 10 : Nat) : Int)) := Int.lt_irrefl _
    obtain ⟨-, -, -, -, w5, w6⟩ := w_rl1 (r := r) (by omega)
    have e := e_l_Mod_removeLine_75 r ((10 * r + 10 : Nat) : Int) G1
    rw [w5, w6, if_neg hkr, wr_sc (show r < 6 by clear w5 w6 e; omega) (by decide)] at e
    exact ⟨G1, e, h1, h2⟩
theorem r_rl (hs : okM s) {l : Nat} (hl : l < mNl s) (h : RoR G 26 s) : ∃ G', l_Mod_removeLine_42 l (up G 26 0 0 (wr (G 26 0 0 - 1))) = rI ((mNl s - 1 : Nat) : Int) G' ∧ RoR G' 26 (rlS s l) ∧ Fr (fun t _ => t = 26) G G' := by
  have hn := hs.2.1.1
  have hc := mNl_c hs
  have e3 : s 0 - 1 = ((mNl s - 1 : Nat) : Int) := by omega
  rw [h.nl hs, wm1 ⟨by omega, by omega⟩]
  refine loop_inv (l := fun r G1 => l_Mod_removeLine_42 (r : Int) G1) (I := fun r G1 => (∀ j : Nat, j < 296 → G1 26 0 j = rlF s l r (10 * r) (10 * r) j) ∧ Fr (fun t _ => t = 26) G G1) (P := fun x => ∃ G', x = rI ((mNl s - 1 : Nat) : Int) G' ∧ RoR G' 26 (rlS s l) ∧ Fr (fun t _ => t = 26) G G') (mNl s - 1 - l) l (up G 26 0 0 ((mNl s - 1 : Nat) : Int)) (fun r G1 hr1 hr2 hI => ?_) (fun G1 hI => ?_) ⟨fun j hj => ?_, Fr.up _ _ _ rfl⟩
  · obtain ⟨h1, h2⟩ := hI
    have hr : r < mNl s - 1 := by omega
    have v0 : G1 26 0 0 = ((mNl s - 1 : Nat) : Int) := ((h1 0 (by decide)).trans rlF_0).trans e3
    have v1 : G1 26 0 ((1 + r + 1 : Nat) : Int) = s (1 + r + 1) := (h1 (1 + r + 1) (by omega)).trans (rlF_o (by omega) (by omega) (by omega) (by omega))
    have hlt : (r : Int) < ((mNl s - 1 : Nat) : Int) := by omega
    have hG : ∀ j : Nat, j < 296 → (up G1 26 0 ((1 + r : Nat) : Int) (s (1 + r + 1))) 26 0 j = rlF s l (r + 1) (10 * r) (10 * r) j := fun j hj => by
      rw [rlF_a hr1]
      by_cases q1 : j = 1 + r
      · rw [if_pos q1, q1, up_at]
      · rw [if_neg q1, up_k (by omega)]
        exact h1 j hj
    obtain ⟨G2, e2, k1, k2⟩ := r_rlRow (l := l) (r := r) hr1 (by omega) hG
    have h6 : r < 6 := by omega
    obtain ⟨w1, w2, c1, c2, w3, -⟩ := w_rl1 h6
    have e := e_l_Mod_removeLine_42 (r : Int) G1
    rw [v0, if_pos hlt, w1, w2, w3, if_pos c2, if_pos c1, v1, e2] at e
    exact ⟨G2, e, k1, (h2.trans (Fr.up _ _ _ rfl)).trans k2⟩
  · obtain ⟨h1, h2⟩ := hI
    have ee : l + (mNl s - 1 - l) = mNl s - 1 := by omega
    rw [ee] at h1 ⊢
    have v0 : G1 26 0 0 = ((mNl s - 1 : Nat) : Int) := ((h1 0 (by decide)).trans rlF_0).trans e3
    have e := e_l_Mod_removeLine_42 ((mNl s - 1 : Nat) : Int) G1
    rw [v0, if_neg (Int.lt_irrefl _)] at e
    exact ⟨G1, e, h1, h2⟩
  · rw [rlF_ini]
    by_cases q : j = 0
    · rw [q, upS_at, e3]
      exact up_at _ _ _ _ _
    · rw [up_k (by omega), upS_ne q]
      exact h j hj
theorem ch_removeLine (x1 : Int) : CHp G (f_Law_removeLine x1 G) (fun G1 => f_Mod_removeLine x1 G1) := by
  intro s c H sv K tn tx er hS hC
  have hs := hS.1
  have hn := hs.2.1.1
  have hn6 : mNl s ≤ 60 := Nat.le_trans hn (by decide)
  have hlc : G 2 0 2 = (mNl s : Int) := hC.1.1.1
  by_cases h1 : 0 ≤ x1 ∧ x1 < (mNl s : Int)
  · obtain ⟨l, rfl⟩ : ∃ l : Nat, x1 = (l : Int) := ⟨x1.toNat, by omega⟩
    have lb : l < mNl s := by omega
    have hs' := ok_rl hs lb
    have ec : f_Map_removeLine (l : Int) G = bV (f_Map_beginChange G) fun G2 => bV (f_Lin_takeOut 0 (l : Int) G2) fun G3 => rI (G3 2 0 2) G3 := by rw [e_f_Map_removeLine, g_line_t hlc h1, bV_r]
    have er9 : ∀ G1, IR G1 s c H sv K tn tx er → f_Mod_removeLine (l : Int) G1 = bV (f_Mod_keeps (up G1 25 0 6 0)) fun G4 => l_Mod_removeLine_42 (l : Int) (up G4 26 0 0 (wr ((G4 26 0 0) - 1))) := fun G1 hR => by
      rw [e_f_Mod_removeLine, r_line_t (hR.1.nl hs) hn6 h1, bI_r, if_neg i01, up_at, if_pos rfl]
    refine ch_ok (s' := rlS s l) (v := ((mNl s - 1 : Nat) : Int)) (hS.map hs') (kc_ok (r := f_Map_removeLine (l : Int) G) hS hC hs' ec (fun G2 hh => ?_)) (e_f_Law_removeLine (l : Int) G) (fun G1 hR => kr_ok hS.2.1 hR (er9 G1 hR) (fun G2 hh => r_rl hs lb hh))
    refine ⟨_, ?_, sh_rl hs lb hh, ((Fr.cpy G2 _ _ _ _ _ ⟨rfl, by decide⟩).trans (Fr.cpy _ _ _ _ _ _ ⟨rfl, by decide⟩)).trans (Fr.up _ _ _ ⟨rfl, by decide⟩)⟩
    rw [g_takeOutL hn lb hh.1.1, bV_r, up_at]
  · exact ch_fail (k := 1) (x := 2) (fcl := f_Map_removeLine x1 G) hS hC (by rw [e_f_Map_removeLine, g_line_f hlc h1, bV_x]) (e_f_Law_removeLine x1 G) (fun _ => rfl) (by decide) (fun G1 hR => by
      show f_Mod_removeLine x1 G1 = _
      rw [e_f_Mod_removeLine, r_line_f (hR.1.nl hs) hn6 h1, bI_r, if_pos rfl, up_at, if_neg i01])
end RLN
