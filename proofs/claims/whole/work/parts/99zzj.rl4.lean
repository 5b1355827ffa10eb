/-! ===== read: the reference adds a line ===== -/
section SD9
variable {s : Nat → Int} {G : GG} {n M : Nat} {V : Nat → Int}
def FAl (t : Nat) (i : Int) : Prop := (t = 26 ∨ t = 30 ∨ t = 31 ∨ t = 32) ∧ i = 0
theorem mo_me {nl : Nat} {sz : Nat → Nat} {cd : Nat → Nat → Int} : anyB 0 nl (moO sz cd nl n V) = meB nl sz cd n V := by
  have h : anyB 0 nl (moO sz cd nl n V) = anyB 0 nl fun o => anyB 0 (n - 1) fun i => anyB 0 (sz o - 1) fun k => mtS (V i) (V (i + 1)) (cd o k) (cd o (k + 1)) := anyB_congr nl 0 (fun o _ ho => by
    unfold moO
    rw [decide_eq_true (show o ≠ nl by omega), Bool.true_and])
  rw [h]
  exact anyB_swap
def alK (s : Nat → Int) (n : Nat) (V : Nat → Int) (k : Nat) : Nat → Int := fun j =>
  if j = 1 + mNl s then (n : Int)
  else if 7 + 10 * mNl s ≤ j ∧ j < 7 + 10 * mNl s + k then V (j - (7 + 10 * mNl s)) / 64
  else if 67 + 10 * mNl s ≤ j ∧ j < 67 + 10 * mNl s + k then V (j - (67 + 10 * mNl s)) % 64 else s j
theorem alK_s (h6 : mNl s < 6) {k : Nat} (hk : k < 10) (j : Nat) : alK s n V (k + 1) j = if j = 67 + 10 * mNl s + k then V k % 64 else if j = 7 + 10 * mNl s + k then V k / 64 else alK s n V k j := by
  unfold alK
  by_cases a1 : j = 67 + 10 * mNl s + k
  · rw [if_pos a1, if_neg (by omega), if_neg (by omega), if_pos (by omega), show j - (67 + 10 * mNl s) = k by omega]
  · rw [if_neg a1]
    by_cases a2 : j = 7 + 10 * mNl s + k
    · rw [if_pos a2, if_neg (by omega), if_pos (by omega), show j - (7 + 10 * mNl s) = k by omega]
    · rw [if_neg a2]
      by_cases b1 : j = 1 + mNl s
      · rw [if_pos b1, if_pos b1]
      · rw [if_neg b1, if_neg b1]
        by_cases b2 : 7 + 10 * mNl s ≤ j ∧ j < 7 + 10 * mNl s + k
        · rw [if_pos b2, if_pos (by omega)]
        · rw [if_neg b2, if_neg (by omega)]
          by_cases b3 : 67 + 10 * mNl s ≤ j ∧ j < 67 + 10 * mNl s + k
          · rw [if_pos b3, if_pos (by omega)]
          · rw [if_neg b3, if_neg (by omega)]
theorem r_fits119 (hs : okM s) (h6 : mNl s < 6) (hn : n ≤ 10) (h0 : ∀ j : Nat, j < 296 → G 26 0 j = alK s n V 0 j) (hv : ∀ k : Nat, k < n → G 31 0 ((10 * mNl s + k : Nat) : Int) = V k / 64 ∧ G 32 0 ((10 * mNl s + k : Nat) : Int) = V k % 64) : ∃ G1, l_Mod_fits_119 n (mNl s) 0 G = rI 0 G1 ∧ RoR G1 26 (alS s n V) ∧ Fr (fun t i => t = 26 ∧ i = 0) G G1 := by
  refine loop_inv (l := fun (k : Nat) G1 => l_Mod_fits_119 n (mNl s) (k : Int) G1) (I := fun k G1 => (∀ j : Nat, j < 296 → G1 26 0 j = alK s n V k j) ∧ Fr (fun t i => t = 26 ∧ i = 0) G G1) (P := fun r => ∃ G1, r = rI 0 G1 ∧ RoR G1 26 (alS s n V) ∧ Fr (fun t i => t = 26 ∧ i = 0) G G1) n 0 G (fun k G1 _ hk hI => ?_) (fun G1 hI => ?_) ⟨h0, Fr.refl G⟩
  · obtain ⟨h1, h2⟩ := hI
    have hk2 : k < n := by omega
    have hk10 : k < 10 := by omega
    obtain ⟨w1, w2, w3, w4, w5, w6⟩ := w_tm h6 hk10
    obtain ⟨c1, c2, c3⟩ := c_tm h6 hk10
    have c4 : (k : Int) < (n : Int) := by clear w1 w2 w3 w4 w5 w6; omega
    have e := e_l_Mod_fits_119 n (mNl s) (k : Int) G1
    have v1 : G1 31 0 ((10 * mNl s + k : Nat) : Int) = V k / 64 := (h2 31 0 _ (fun z => absurd z.1 (by decide))).trans (hv k hk2).1
    have v2 : G1 32 0 ((10 * mNl s + k : Nat) : Int) = V k % 64 := (h2 32 0 _ (fun z => absurd z.1 (by decide))).trans (hv k hk2).2
    rw [if_pos c4, w1, w2, w3, w4, w5, w6, if_pos c3, if_pos c1, if_pos c3, if_pos c2, up_t (show (32 : Nat) ≠ 26 by decide), v1, v2, w_at1 (by omega)] at e
    clear w1 w2 w3 w4 w5 w6
    refine ⟨_, e, fun j hj => ?_, (h2.trans (Fr.up _ _ _ ⟨rfl, rfl⟩)).trans (Fr.up _ _ _ ⟨rfl, rfl⟩)⟩
    rw [alK_s h6 hk10]
    by_cases a1 : j = 67 + 10 * mNl s + k
    · rw [if_pos a1, a1, up_at]
    · rw [if_neg a1, up_k (by omega)]
      by_cases a2 : j = 7 + 10 * mNl s + k
      · rw [if_pos a2, a2, up_at]
      · rw [if_neg a2, up_k (by omega)]
        exact h1 j hj
  · obtain ⟨h1, h2⟩ := hI
    rw [Nat.zero_add] at h1
    have e := e_l_Mod_fits_119 n (mNl s) ((0 + n : Nat) : Int) G1
    have c1 : ¬ ((0 + n : Nat) : Int) < (n : Int) := by omega
    have v0 : G1 26 0 0 = (mNl s : Int) := by
      have := h1 0 (by decide)
      rw [show ((0 : Nat) : Int) = 0 from rfl] at this
      rw [this]
      unfold alK
      rw [if_neg (by omega), if_neg (by omega), if_neg (by omega)]
      exact mNl_c hs
    rw [if_neg c1, v0, w_at1 (by omega)] at e
    refine ⟨_, e, fun j hj => ?_, h2.trans (Fr.up _ _ _ ⟨rfl, rfl⟩)⟩
    by_cases a : j = 0
    · rw [a, show ((0 : Nat) : Int) = 0 from rfl, up_at]
      have : alS s n V 0 = s 0 + 1 := if_pos rfl
      rw [this, mNl_c hs]
      omega
    · rw [up_k (by omega), h1 j hj]
      unfold alS alK
      rw [if_neg a]
theorem r_fits (hs : okM s) (hR : RoR G 26 s) (hL : LnP G (mNl s) (mSz s) (mCd s)) (h6 : mNl s < 6) (hn : 2 ≤ n ∧ n ≤ 10) (hV : ∀ k : Nat, k < n → isC (V k)) (hM : M + 2 + 2 * n ≤ 240) (hc : CdE G M n V) :
    ∃ G1, f_Mod_fits M n (mNl s) G = rI (if wrL s n V = true then 2 else 0) G1 ∧ RoR G1 26 (if wrL s n V = true then s else alS s n V) ∧ Fr FAl G G1 := by
  have e0 := e_f_Mod_fits M n (mNl s) G
  have c6 : 0 ≤ (mNl s : Int) ∧ (mNl s : Int) < 6 := by omega
  rw [if_pos c6] at e0
  obtain ⟨G1, e1, hI⟩ := row_fits (G := up G 30 0 (mNl s : Int) n) h6 hn.2 hM (hc.fr (fun z => up_t (by decide)))
  have hF1 : Fr FAl G G1 := (Fr.up G _ _ ⟨Or.inr (Or.inl rfl), rfl⟩).trans (hI.2.1.mono (fun t i z => ⟨by have := z.1; omega, z.2⟩))
  have n26 : ∀ z, G1 26 0 z = G 26 0 z := fun z => (hI.2.1 26 0 z (fun y => by rcases y.1 with x | x <;> exact absurd x (by decide))).trans (up_t (by decide))
  have hR1 : RoR G1 26 s := hR.fr n26
  have hrow := hI.row h6 hn.2 (up_at _ _ _ _ _) hV
  have hoth : ∀ o : Nat, o < mNl s → o ≠ mNl s → RowQ G1 o (mSz s o) (mCd s o) ∧ (2 ≤ mSz s o ∧ mSz s o ≤ 10) ∧ ∀ k : Nat, k + 1 < mSz s o → mCd s o k ≠ mCd s o (k + 1) := fun o ho hne => by
    obtain ⟨a1, a2, a3⟩ := hs.2.1.2 o ho
    refine ⟨hI.oth hne a1.2 ⟨(up_k (by omega)).trans (hL.2 o ho).1, fun k hk => ?_⟩, a1, fun k hk => a3 k (k + 1) (Nat.lt_succ_self k) hk⟩
    obtain ⟨b1, b2, b3, b4, b5⟩ := (hL.2 o ho).2 k hk
    exact ⟨b1, b2, b3, (up_t (by decide)).trans b4, (up_t (by decide)).trans b5⟩
  have e2 := e_l_Mod_fits_10 M n (mNl s) (n : Int) G1
  have c7 : ¬ (n : Int) < (n : Int) := by omega
  have w : wr (1 + (mNl s : Int)) = ((1 + mNl s : Nat) : Int) := by
    rw [wr_id (by omega) (by omega)]
    omega
  have c8 : 0 ≤ ((1 + mNl s : Nat) : Int) ∧ ((1 + mNl s : Nat) : Int) < 296 := by clear w; omega
  rw [if_neg c7, w] at e2
  clear w
  have hj := r_judge (NO := fun G3 => rI 2 G3) (YES := fun G7 => if 0 ≤ ((1 + mNl s : Nat) : Int) ∧ ((1 + mNl s : Nat) : Int) < 296 then l_Mod_fits_119 n (mNl s) 0 (up G7 26 0 ((1 + mNl s : Nat) : Int) n) else none) hrow h6 hn (Nat.le_of_lt h6) hoth (hR1.pt hs) hs.2.2.2.2.1
  have hjg : jgB (mNp s) (mPt s) (mNl s) (mSz s) (mCd s) (mNl s) n V = wrL s n V := by
    unfold jgB wrL
    rw [mo_me]
  rw [hjg] at hj
  have e3 := e0.trans (e1.trans (e2.trans hj))
  rw [e3]
  cases q : wrL s n V with
  | true =>
    rw [if_pos rfl, if_pos rfl, if_pos rfl]
    exact ⟨G1, rfl, hR1, hF1⟩
  | false =>
    rw [if_neg nfT, if_neg nfT, if_neg nfT, if_pos c8]
    obtain ⟨G2, e4, hR2, f2⟩ := r_fits119 (G := up G1 26 0 ((1 + mNl s : Nat) : Int) n) hs h6 hn.2 (fun j hj => by
      unfold alK
      by_cases a : j = 1 + mNl s
      · rw [if_pos a, a, up_at]
      · rw [if_neg a, if_neg (by omega), if_neg (by omega), up_k (by omega)]
        exact hR1 j hj) (fun k hk => by
      rw [up_t (by decide), up_t (by decide)]
      exact hI.1 k hk)
    exact ⟨G2, e4, hR2, (hF1.trans (Fr.up _ _ _ ⟨Or.inl rfl, rfl⟩)).trans (f2.mono (fun t i z => ⟨Or.inl z.1, z.2⟩))⟩
end SD9
