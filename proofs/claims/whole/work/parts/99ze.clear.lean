/-! ===== clear; the map as it is at first ===== -/
def stp (j : Nat) : Int := if j = 0 then 8 else 1
def iniS : Nat → Int := fun k => if 200 ≤ k ∧ k < 264 then -1 else if 280 ≤ k ∧ k < 295 then (((k - 280) / 3 : Nat) : Int) * stp ((k - 280) % 3) else 0
theorem ini_st {L j : Nat} (hL : L < 5) (hj : j < 3) : mSt iniS (3 * L + j) = (L : Int) * stp j := by
  unfold mSt iniS
  rw [if_neg (by omega), if_pos (by omega), show (280 + (3 * L + j) - 280) / 3 = L by omega, show (280 + (3 * L + j) - 280) % 3 = j by omega]
theorem ini_0 {k : Nat} (h : k < 200 ∨ (264 ≤ k ∧ k < 280) ∨ 295 ≤ k) : iniS k = 0 := by
  unfold iniS
  rw [if_neg (by omega), if_neg (by omega)]
theorem ini_f {f : Nat} (h : f < 64) : mOw iniS f = -1 := by
  unfold mOw iniS
  rw [if_pos (by omega)]
theorem ini_nl : mNl iniS = 0 := by
  show (iniS 0).toNat = 0
  rw [ini_0 (by omega)]
  rfl
theorem ini_np : mNp iniS = 0 := by
  show (iniS 127).toNat = 0
  rw [ini_0 (by omega)]
  rfl
theorem ok_ini : okM iniS := by
  refine ⟨by rw [ini_0 (by omega)]; decide, ⟨by rw [ini_nl]; decide, fun l hl => absurd hl (by rw [ini_nl]; omega)⟩, fun l hl => absurd hl (by rw [ini_nl]; omega), by rw [ini_0 (by omega)]; decide, ⟨by rw [ini_np]; decide, fun p hp => absurd hp (by rw [ini_np]; omega)⟩, fun f hf => by rw [ini_f hf]; decide, fun p hp => by rw [ini_0 (by omega)]; decide, ⟨fun L hL => ?_, ?_, ?_, ?_⟩, Or.inl (ini_0 (by omega))⟩
  · have a := ini_st (j := 0) hL (by decide)
    have b := ini_st (j := 1) hL (by decide)
    have c := ini_st (j := 2) hL (by decide)
    have d0 : stp 0 = 8 := rfl
    have d1 : stp 1 = 1 := rfl
    have d2 : stp 2 = 1 := rfl
    rw [Nat.add_zero, d0] at a
    rw [d1] at b
    rw [d2] at c
    rw [a, b, c]
    omega
  · exact (ini_st (L := 0) (j := 0) (by decide) (by decide)).trans (by decide)
  · exact (ini_st (L := 0) (j := 1) (by decide) (by decide)).trans (by decide)
  · exact (ini_st (L := 0) (j := 2) (by decide) (by decide)).trans (by decide)
section CLR
variable {s : Nat → Int} {G : GG} {c : Nat} {H : Nat → Nat → Int} {sv : Int} {K : Nat → Int} {tn : Nat} {tx : Nat → Int} {er : Int}
theorem g_fillO {i : Int} (G : GG) : ∃ G', f_Arr_fill_OWN i (-1) G = rV G' ∧ (∀ q : Nat, q < 64 → G' 8 i q = -1) ∧ Fr (fun t j => j = i ∧ t = 8) G G' := by
  rw [e_f_Arr_fill_OWN]
  refine loop_inv (l := fun (k : Nat) G1 => l_Arr_fill_OWN_5 i (-1) k 64 G1) (I := fun k G1 => (∀ q : Nat, q < k → G1 8 i q = -1) ∧ Fr (fun t j => j = i ∧ t = 8) G G1) (P := fun r => ∃ G', r = rV G' ∧ (∀ q : Nat, q < 64 → G' 8 i q = -1) ∧ Fr (fun t j => j = i ∧ t = 8) G G') 64 0 G (fun k G1 _ hk hI => ?_) (fun G1 hI => ?_) ⟨fun q hq => absurd hq (by omega), Fr.refl G⟩
  · have c0 : (0 : Int) ≤ (k : Int) ∧ (k : Int) < 64 := by omega
    have e := e_l_Arr_fill_OWN_5 i (-1) k 64 G1
    rw [if_pos c0.2, if_pos c0, wr_sc (show k < 64 by clear e; omega) (by decide)] at e
    refine ⟨_, e, fun q hq => ?_, hI.2.trans (Fr.up _ _ _ ⟨rfl, rfl⟩)⟩
    by_cases q2 : q = k
    · rw [q2, up_at]
    · rw [up_k (by clear e; omega)]
      exact hI.1 q (by clear e; omega)
  · have e := e_l_Arr_fill_OWN_5 i (-1) ((0 + 64 : Nat) : Int) 64 G1
    rw [if_neg (by decide)] at e
    exact ⟨G1, e, fun q hq => hI.1 q (by clear e; omega), hI.2⟩
theorem g_fillK {i : Int} (G : GG) : ∃ G', f_Arr_fill_KIN i 0 G = rV G' ∧ (∀ q : Nat, q < 16 → G' 11 i q = 0) ∧ Fr (fun t j => j = i ∧ t = 11) G G' := by
  rw [e_f_Arr_fill_KIN]
  refine loop_inv (l := fun (k : Nat) G1 => l_Arr_fill_KIN_5 i 0 k 16 G1) (I := fun k G1 => (∀ q : Nat, q < k → G1 11 i q = 0) ∧ Fr (fun t j => j = i ∧ t = 11) G G1) (P := fun r => ∃ G', r = rV G' ∧ (∀ q : Nat, q < 16 → G' 11 i q = 0) ∧ Fr (fun t j => j = i ∧ t = 11) G G') 16 0 G (fun k G1 _ hk hI => ?_) (fun G1 hI => ?_) ⟨fun q hq => absurd hq (by omega), Fr.refl G⟩
  · have c0 : (0 : Int) ≤ (k : Int) ∧ (k : Int) < 16 := by omega
    have e := e_l_Arr_fill_KIN_5 i 0 k 16 G1
    rw [if_pos c0.2, if_pos c0, wr_sc (show k < 64 by clear e; omega) (by decide)] at e
    refine ⟨_, e, fun q hq => ?_, hI.2.trans (Fr.up _ _ _ ⟨rfl, rfl⟩)⟩
    by_cases q2 : q = k
    · rw [q2, up_at]
    · rw [up_k (by clear e; omega)]
      exact hI.1 q (by clear e; omega)
  · have e := e_l_Arr_fill_KIN_5 i 0 ((0 + 16 : Nat) : Int) 16 G1
    rw [if_neg (by decide)] at e
    exact ⟨G1, e, fun q hq => hI.1 q (by clear e; omega), hI.2⟩
theorem Lm.fr {G' : GG} (h : Lm G) (h1 : ∀ t k, t = 45 ∨ t = 46 → G' t 0 k = G t 0 k) : Lm G' :=
  ⟨(h1 _ _ (by decide)).trans h.1, (h1 _ _ (by decide)).trans h.2.1, (h1 _ _ (by decide)).trans h.2.2.1, (h1 _ _ (by decide)).trans h.2.2.2.1, (h1 _ _ (by decide)).trans h.2.2.2.2.1, (h1 _ _ (by decide)).trans h.2.2.2.2.2⟩
theorem Lm.stp (h : Lm G) {j : Nat} (hj : j < 3) : G 46 0 j = stp j := by
  rcases j with _ | _ | _ | j
  · exact h.2.2.2.1
  · exact h.2.2.2.2.1
  · exact h.2.2.2.2.2
  · omega
theorem w_rs {L j : Nat} (hL : L < 5) (hj : j < 3) : wr (wr ((L : Int) * 3) + (j : Int)) = ((3 * L + j : Nat) : Int) ∧ wr ((L : Int) * stp j) = (L : Int) * stp j := by
  have h8 : 0 ≤ (L : Int) * stp j ∧ (L : Int) * stp j ≤ 100 := by
    unfold stp
    split <;> omega
  refine ⟨?_, wr_id (by omega) (by omega)⟩
  rw [wr_id (z := (L : Int) * 3) (by omega) (by omega), wr_id (by omega) (by omega)]
  omega
theorem rs_row {i : Int} {L : Nat} (hL : L < 5) (hT : Lm G) (h : ∀ m : Nat, m < 3 * L → G 12 i m = mSt iniS m) : ∃ G', l_She_reset_44 i L 0 G = l_She_reset_37 i ((L + 1 : Nat) : Int) G' ∧ (∀ m : Nat, m < 3 * L + 3 → G' 12 i m = mSt iniS m) ∧ Fr (fun t j => j = i ∧ t = 12) G G' := by
  refine loop_inv (l := fun (j : Nat) G1 => l_She_reset_44 i L j G1) (I := fun j G1 => (∀ m : Nat, m < 3 * L + j → G1 12 i m = mSt iniS m) ∧ Fr (fun t j => j = i ∧ t = 12) G G1) (P := fun r => ∃ G', r = l_She_reset_37 i ((L + 1 : Nat) : Int) G' ∧ (∀ m : Nat, m < 3 * L + 3 → G' 12 i m = mSt iniS m) ∧ Fr (fun t j => j = i ∧ t = 12) G G') 3 0 G (fun j G1 _ hj hI => ?_) (fun G1 hI => ?_) ⟨h, Fr.refl G⟩
  · obtain ⟨h1, h2⟩ := hI
    have hj3 : j < 3 := by omega
    have c0 : (0 : Int) ≤ (j : Int) ∧ (j : Int) < 3 := by omega
    have c1 : (0 : Int) ≤ ((3 * L + j : Nat) : Int) ∧ ((3 * L + j : Nat) : Int) < 15 := by omega
    have hst : G1 46 0 j = stp j := (h2 46 0 j (fun z => absurd z.2 (by decide))).trans (hT.stp hj3)
    have hfin : ∀ m : Nat, m < 3 * L + (j + 1) → (up G1 12 i ((3 * L + j : Nat) : Int) ((L : Int) * stp j)) 12 i m = mSt iniS m := fun m hm => by
      by_cases q : m = 3 * L + j
      · rw [q, up_at, ini_st hL hj3]
      · rw [up_k (by omega)]
        exact h1 m (by omega)
    obtain ⟨w1, w2⟩ := w_rs hL hj3
    have e := e_l_She_reset_44 i L j G1
    rw [if_pos c0.2, w1, hst, w2, wr_sc hj3 (by decide)] at e
    simp only [if_pos c0, if_pos c1] at e
    exact ⟨_, e, hfin, h2.trans (Fr.up _ _ _ ⟨rfl, rfl⟩)⟩
  · have e := e_l_She_reset_44 i L ((0 + 3 : Nat) : Int) G1
    rw [if_neg (by decide), wr_sc hL (by decide)] at e
    exact ⟨G1, e, hI.1, hI.2⟩
theorem g_reset {i : Int} (hT : Lm G) : ∃ G', f_She_reset i G = rV G' ∧ ShC G' i iniS ∧ Fr (FSh i) G G' := by
  obtain ⟨G1, e1, h1, f1⟩ := g_fillO (i := i) (up (up G 2 i 2 0) 5 i 1 0)
  obtain ⟨G2, e2, h2, f2⟩ := g_fillK (i := i) G1
  have fa : Fr (FSh i) G G2 := (((Fr.up (P := FSh i) G 2 0 ⟨rfl, Or.inl (by decide)⟩).trans (Fr.up _ _ _ ⟨rfl, Or.inl (by decide)⟩)).trans (f1.mono (fun t j z => ⟨z.1, Or.inl (by rw [z.2]; decide)⟩))).trans (f2.mono (fun t j z => ⟨z.1, Or.inr (Or.inl z.2)⟩))
  have hT2 : Lm G2 := hT.fr (fun t k ht => fa t 0 k (fun z => by unfold FSh at z; omega))
  have key : ∃ G3, l_She_reset_37 i 0 G2 = rV (up G3 1 i 5 0) ∧ (∀ m : Nat, m < 15 → G3 12 i m = mSt iniS m) ∧ Fr (fun t j => j = i ∧ t = 12) G2 G3 := by
    refine loop_inv (l := fun (L : Nat) G4 => l_She_reset_37 i L G4) (I := fun L G4 => (∀ m : Nat, m < 3 * L → G4 12 i m = mSt iniS m) ∧ Fr (fun t j => j = i ∧ t = 12) G2 G4) (P := fun r => ∃ G3, r = rV (up G3 1 i 5 0) ∧ (∀ m : Nat, m < 15 → G3 12 i m = mSt iniS m) ∧ Fr (fun t j => j = i ∧ t = 12) G2 G3) 5 0 G2 (fun L G4 _ hL hI => ?_) (fun G4 hI => ?_) ⟨fun m hm => absurd hm (by clear e1 e2; omega), Fr.refl G2⟩
    · have hL5 : L < 5 := by clear e1 e2; omega
      have cL : (L : Int) < 5 := by clear e1 e2; omega
      have hT4 : Lm G4 := hT2.fr (fun t k ht => hI.2 t 0 k (fun z => by have := z.2; clear e1 e2; omega))
      obtain ⟨G5, e5, h5, f5⟩ := rs_row (i := i) hL5 hT4 hI.1
      have e := e_l_She_reset_37 i L G4
      rw [if_pos cL, e5] at e
      exact ⟨G5, e, fun m hm => h5 m (by clear e e1 e2 e5; omega), hI.2.trans f5⟩
    · have e := e_l_She_reset_37 i ((0 + 5 : Nat) : Int) G4
      rw [if_neg (by decide)] at e
      exact ⟨G4, e, fun m hm => hI.1 m (by clear e e1 e2; omega), hI.2⟩
  obtain ⟨G3, e3, h3, f3⟩ := key
  have n3 : ∀ t k, t ≠ 12 → t ≠ 1 → (up G3 1 i 5 0) t i k = G2 t i k := fun t k z1 z2 => (up_t z2).trans (f3 t i k (fun y => z1 y.2))
  have m2 : G2 2 i 2 = 0 := (f2 2 i 2 (fun z => absurd z.2 (by decide))).trans ((f1 2 i 2 (fun z => absurd z.2 (by decide))).trans ((up_t (by decide)).trans (up_at _ _ _ _ _)))
  have m5 : G2 5 i 1 = 0 := (f2 5 i 1 (fun z => absurd z.2 (by decide))).trans ((f1 5 i 1 (fun z => absurd z.2 (by decide))).trans (up_at _ _ _ _ _))
  refine ⟨up G3 1 i 5 0, ?_, ⟨⟨?_, fun l hl => absurd hl (by rw [ini_nl]; exact Nat.not_lt_zero _)⟩, ⟨?_, fun p hp => absurd hp (by rw [ini_np]; exact Nat.not_lt_zero _)⟩, fun f hf => ?_, fun p hp => ?_, fun j hj => (up_t (by decide)).trans (h3 j hj), ?_⟩, (fa.trans (f3.mono (fun t j z => ⟨z.1, Or.inr (Or.inr z.2)⟩))).trans (Fr.up _ _ _ ⟨rfl, Or.inl (by decide)⟩)⟩
  · rw [e_f_She_reset, e1, bV_r, e2, bV_r, e3]
  · rw [n3 _ _ (by decide) (by decide), m2, ini_nl]
    rfl
  · rw [n3 _ _ (by decide) (by decide), m5, ini_np]
    rfl
  · rw [n3 _ _ (by decide) (by decide), f2 8 i f (fun z => absurd z.2 (by decide)), h1 f hf, ini_f hf]
  · rw [n3 _ _ (by decide) (by decide), h2 p hp, ini_0 (by clear e1 e2 e3; omega)]
  · rw [up_at, ini_0 (by clear e1 e2 e3; omega)]
theorem w_bg {L : Nat} (hL : L < 5) : wr (3 * (L : Int)) = ((3 * L : Nat) : Int) ∧ wr (280 + ((3 * L : Nat) : Int)) = ((280 + 3 * L : Nat) : Int) ∧ wr (((280 + 3 * L : Nat) : Int) + 1) = ((280 + 3 * L + 1 : Nat) : Int) ∧ wr (((280 + 3 * L : Nat) : Int) + 2) = ((280 + 3 * L + 2 : Nat) : Int) ∧ wr (8 * (L : Int)) = 8 * (L : Int) := by
  refine ⟨?_, ?_, ?_, ?_, wr_id (by omega) (by omega)⟩
  all_goals rw [wr_id (by omega) (by omega)]; omega
theorem r_begins (G : GG) : ∃ G1, f_Mod_begins G = rV (up (up G1 25 0 5 0) 25 0 11 0) ∧ RoR G1 26 iniS ∧ Fr (fun t i => t = 26 ∧ i = 0) G G1 := by
  rw [e_f_Mod_begins]
  have k1 : ∃ G1, l_Mod_begins_2 0 G = l_Mod_begins_24 0 G1 ∧ (∀ j : Nat, j < 296 → G1 26 0 j = 0) ∧ Fr (fun t i => t = 26 ∧ i = 0) G G1 := by
    refine loop_inv (l := fun (k : Nat) G1 => l_Mod_begins_2 k G1) (I := fun k G1 => (∀ j : Nat, j < k → G1 26 0 j = 0) ∧ Fr (fun t i => t = 26 ∧ i = 0) G G1) (P := fun r => ∃ G1, r = l_Mod_begins_24 0 G1 ∧ (∀ j : Nat, j < 296 → G1 26 0 j = 0) ∧ Fr (fun t i => t = 26 ∧ i = 0) G G1) 296 0 G (fun k G1 _ hk hI => ?_) (fun G1 hI => ?_) ⟨fun j hj => absurd hj (by omega), Fr.refl G⟩
    · have c0 : (0 : Int) ≤ (k : Int) ∧ (k : Int) < 296 := by omega
      have w : wr ((k : Int) + 1) = ((k + 1 : Nat) : Int) := by rw [wr_id (by omega) (by omega)]; omega
      have e := e_l_Mod_begins_2 k G1
      rw [if_pos c0.2, if_pos c0, w] at e
      clear w
      refine ⟨_, e, fun j hj => ?_, hI.2.trans (Fr.up _ _ _ ⟨rfl, rfl⟩)⟩
      by_cases q : j = k
      · rw [q, up_at]
      · rw [up_k (by clear e; omega)]
        exact hI.1 j (by clear e; omega)
    · have e := e_l_Mod_begins_2 ((0 + 296 : Nat) : Int) G1
      rw [if_neg (by decide)] at e
      exact ⟨G1, e, fun j hj => hI.1 j (by clear e; omega), hI.2⟩
  obtain ⟨G1, e1, h1, f1⟩ := k1
  have k2 : ∃ G2, l_Mod_begins_24 0 G1 = l_Mod_begins_49 0 G2 ∧ (∀ j : Nat, j < 296 → G2 26 0 j = if 200 ≤ j ∧ j < 264 then -1 else 0) ∧ Fr (fun t i => t = 26 ∧ i = 0) G1 G2 := by
    clear e1
    refine loop_inv (l := fun (k : Nat) G2 => l_Mod_begins_24 k G2) (I := fun k G2 => (∀ j : Nat, j < 296 → G2 26 0 j = if 200 ≤ j ∧ j < 200 + k then -1 else 0) ∧ Fr (fun t i => t = 26 ∧ i = 0) G1 G2) (P := fun r => ∃ G2, r = l_Mod_begins_49 0 G2 ∧ (∀ j : Nat, j < 296 → G2 26 0 j = if 200 ≤ j ∧ j < 264 then -1 else 0) ∧ Fr (fun t i => t = 26 ∧ i = 0) G1 G2) 64 0 G1 (fun k G2 _ hk hI => ?_) (fun G2 hI => ?_) ⟨fun j hj => by rw [if_neg (by omega)]; exact h1 j hj, Fr.refl G1⟩
    · have c0 : (k : Int) < 64 := by omega
      have c1 : (0 : Int) ≤ 200 + (k : Int) ∧ 200 + (k : Int) < 296 := by omega
      have w : wr (200 + (k : Int)) = 200 + (k : Int) := wr_id (by omega) (by omega)
      have e := e_l_Mod_begins_24 k G2
      rw [if_pos c0, w, if_pos c1, wr_sc (show k < 64 by clear e w; omega) (by decide)] at e
      clear w
      refine ⟨_, e, fun j hj => ?_, hI.2.trans (Fr.up _ _ _ ⟨rfl, rfl⟩)⟩
      by_cases q : j = 200 + k
      · rw [q, show ((200 + k : Nat) : Int) = 200 + (k : Int) by clear e; omega, up_at, if_pos (by clear e; omega)]
      · rw [up_k (by clear e; omega), hI.1 j hj]
        by_cases q2 : 200 ≤ j ∧ j < 200 + k
        · rw [if_pos q2, if_pos (by clear e; omega)]
        · rw [if_neg q2, if_neg (by clear e; omega)]
    · have e := e_l_Mod_begins_24 ((0 + 64 : Nat) : Int) G2
      rw [if_neg (by decide)] at e
      exact ⟨G2, e, hI.1, hI.2⟩
  obtain ⟨G2, e2, h2, f2⟩ := k2
  have k3 : ∃ G3, l_Mod_begins_49 0 G2 = rV (up (up G3 25 0 5 0) 25 0 11 0) ∧ RoR G3 26 iniS ∧ Fr (fun t i => t = 26 ∧ i = 0) G2 G3 := by
    clear e1 e2
    refine loop_inv (l := fun (L : Nat) G3 => l_Mod_begins_49 L G3) (I := fun L G3 => (∀ j : Nat, j < 296 → G3 26 0 j = if 280 ≤ j ∧ 280 + 3 * L ≤ j ∧ j < 295 then 0 else iniS j) ∧ Fr (fun t i => t = 26 ∧ i = 0) G2 G3) (P := fun r => ∃ G3, r = rV (up (up G3 25 0 5 0) 25 0 11 0) ∧ RoR G3 26 iniS ∧ Fr (fun t i => t = 26 ∧ i = 0) G2 G3) 5 0 G2 (fun L G3 _ hL hI => ?_) (fun G3 hI => ?_) ⟨fun j hj => ?_, Fr.refl G2⟩
    · have hL5 : L < 5 := by omega
      have cL : (L : Int) < 5 := by omega
      have c1 : (0 : Int) ≤ ((280 + 3 * L : Nat) : Int) ∧ ((280 + 3 * L : Nat) : Int) < 296 := by omega
      have c2 : (0 : Int) ≤ ((280 + 3 * L + 1 : Nat) : Int) ∧ ((280 + 3 * L + 1 : Nat) : Int) < 296 := by omega
      have c3 : (0 : Int) ≤ ((280 + 3 * L + 2 : Nat) : Int) ∧ ((280 + 3 * L + 2 : Nat) : Int) < 296 := by omega
      have s0 : iniS (280 + 3 * L) = 8 * (L : Int) := by
        have := ini_st (L := L) (j := 0) hL5 (by decide)
        have d0 : stp 0 = 8 := rfl
        rw [d0, Nat.add_zero, Int.mul_comm] at this
        exact this
      have s1 : iniS (280 + 3 * L + 1) = (L : Int) := by
        have := ini_st (L := L) (j := 1) hL5 (by decide)
        have d0 : stp 1 = 1 := rfl
        rw [d0, Int.mul_one] at this
        exact this
      have s2 : iniS (280 + 3 * L + 2) = (L : Int) := by
        have := ini_st (L := L) (j := 2) hL5 (by decide)
        have d0 : stp 2 = 1 := rfl
        rw [d0, Int.mul_one] at this
        exact this
      have hfin : ∀ j : Nat, j < 296 → (up (up (up G3 26 0 ((280 + 3 * L : Nat) : Int) (8 * (L : Int))) 26 0 ((280 + 3 * L + 1 : Nat) : Int) (L : Int)) 26 0 ((280 + 3 * L + 2 : Nat) : Int) (L : Int)) 26 0 j = if 280 ≤ j ∧ 280 + 3 * (L + 1) ≤ j ∧ j < 295 then 0 else iniS j := fun j hj => by
        by_cases q2 : j = 280 + 3 * L + 2
        · rw [q2, up_at, if_neg (by omega), s2]
        · rw [up_k (by omega)]
          by_cases q1 : j = 280 + 3 * L + 1
          · rw [q1, up_at, if_neg (by omega), s1]
          · rw [up_k (by omega)]
            by_cases q0 : j = 280 + 3 * L
            · rw [q0, up_at, if_neg (by omega), s0]
            · rw [up_k (by omega), hI.1 j hj]
              by_cases q : 280 ≤ j ∧ 280 + 3 * L ≤ j ∧ j < 295
              · rw [if_pos q, if_pos (by omega)]
              · rw [if_neg q, if_neg (by omega)]
      obtain ⟨w1, w2, w3, w4, w5⟩ := w_bg hL5
      have e := e_l_Mod_begins_49 L G3
      rw [if_pos cL, w1, w2, w3, w4, w5, wr_sc hL5 (by decide)] at e
      simp only [if_pos c1, if_pos c2, if_pos c3] at e
      exact ⟨_, e, hfin, ((hI.2.trans (Fr.up _ _ _ ⟨rfl, rfl⟩)).trans (Fr.up _ _ _ ⟨rfl, rfl⟩)).trans (Fr.up _ _ _ ⟨rfl, rfl⟩)⟩
    · have e := e_l_Mod_begins_49 ((0 + 5 : Nat) : Int) G3
      rw [if_neg (by decide)] at e
      refine ⟨G3, e, fun j hj => ?_, hI.2⟩
      rw [hI.1 j hj, if_neg (by clear e; omega)]
    · rw [h2 j hj]
      by_cases q : 200 ≤ j ∧ j < 264
      · rw [if_pos q, if_neg (by omega)]
        unfold iniS
        rw [if_pos q]
      · rw [if_neg q]
        by_cases q2 : 280 ≤ j ∧ 280 + 3 * 0 ≤ j ∧ j < 295
        · rw [if_pos q2]
        · rw [if_neg q2, ini_0 (by omega)]
  obtain ⟨G3, e3, h3, f3⟩ := k3
  exact ⟨G3, e1.trans (e2.trans e3), h3, (f1.trans f2).trans f3⟩
theorem IS.clear (hS : IS s c H sv K tn tx er) : IS iniS 0 H sv K tn tx er := by
  obtain ⟨hs, hc8, hH, hrest⟩ := hS
  exact ⟨ok_ini, by decide, fun j hj => absurd hj (by omega), hrest⟩
theorem g_clear (hT : Lm G) (hC : IC G s c H sv K tn tx er) : ∃ G2, f_Map_clear G = rI (mNl s) G2 ∧ IC G2 iniS 0 H sv K tn tx er ∧ Fr FCl G G2 ∧ G2 48 0 0 = G 48 0 0 := by
  obtain ⟨q1, q2, ⟨q3, nx, q4, q5, q6⟩, ⟨q7, q8⟩, ⟨q9, q10⟩, q11⟩ := hC
  obtain ⟨G2, e2, h2, f2⟩ := g_reset (i := 0) hT
  have n2 : ∀ t i k, (i ≠ 0 ∨ t = 13 ∨ t = 0 ∨ 12 < t) → G2 t i k = G t i k := fun t i k z => f2 t i k (by unfold FSh; clear e2; omega)
  obtain ⟨G3, e3, s4, s5, s6, f3⟩ := g_spoil (G := up G2 13 0 2 0)
  have n3 : ∀ t i k, t ≠ 13 → t ≠ 15 → (i ≠ 0 ∨ t = 0 ∨ 12 < t) → G3 t i k = G t i k := fun t i k z1 z2 z3 => (f3 t i k z2).trans ((up_t z1).trans (n2 t i k (by clear e2 e3; omega)))
  have m2 : G3 13 0 2 = 0 := (f3 13 0 2 (by decide)).trans (up_at _ _ _ _ _)
  have m1 : G3 13 0 1 = (nx : Int) := (f3 13 0 1 (by decide)).trans ((up_k (by decide)).trans ((n2 _ _ _ (Or.inr (Or.inl rfl))).trans q5))
  have h3 : ShC G3 0 iniS := h2.fr (fun t k ht => (f3 _ _ _ (by clear e2 e3; omega)).trans (up_t (by clear e2 e3; omega)))
  have hIC : IC G3 iniS 0 H sv K tn tx er := by
    clear e2 e3
    exact ⟨h3, cc_new ok_ini h3 s4 s5 s6, ⟨m2, nx, q4, m1, fun j hj => absurd hj (by omega)⟩, ⟨(n3 _ _ _ (by decide) (by decide) (by omega)).trans q7, fun z => (q8 z).fr (fun t k ht => n3 _ _ _ (by omega) (by omega) (by omega))⟩, ⟨(n3 _ _ _ (by decide) (by decide) (by omega)).trans q9, fun j hj => (n3 _ _ _ (by decide) (by decide) (by omega)).trans (q10 j hj)⟩, (n3 _ _ _ (by decide) (by decide) (by omega)).trans q11⟩
  have hF : Fr FCl G G3 := fun t i k z => by
    clear e2 e3
    unfold FCl at z
    exact n3 t i k (by omega) (by omega) (by omega)
  refine ⟨G3, ?_, hIC, hF, n3 _ _ _ (by decide) (by decide) (Or.inr (Or.inr (by decide)))⟩
  rw [e_f_Map_clear, e2, bV_r, e_f_His_forget, bV_r, e3, bV_r, q1.1.1]
theorem r_clear (hs : okM s) {G1 : GG} (hR : IR G1 s c H sv K tn tx er) : ∃ G2, f_Mod_clear G1 = rI (mNl s) G2 ∧ IR G2 iniS 0 H sv K tn tx er ∧ Fr FRl G1 G2 := by
  obtain ⟨r1, r2, ⟨r3, r4⟩, ⟨r7, r8⟩, ⟨r9, r10⟩, r11⟩ := hR
  obtain ⟨G2, e2, h2, f2⟩ := r_begins (up G1 25 0 6 0)
  have n2 : ∀ t k, t ≠ 26 → G2 t 0 k = (up G1 25 0 6 0) t 0 k := fun t k z => f2 t 0 k (fun y => z y.1)
  have n25 : ∀ k : Int, k ≠ 5 → k ≠ 11 → k ≠ 6 → (up (up G2 25 0 5 0) 25 0 11 0) 25 0 k = G1 25 0 k := fun k z1 z2 z3 => (up_k z2).trans ((up_k z1).trans ((n2 _ _ (by decide)).trans (up_k z3)))
  have nt : ∀ t k, t ≠ 26 → t ≠ 25 → (up (up G2 25 0 5 0) 25 0 11 0) t 0 k = G1 t 0 k := fun t k z1 z2 => (up_t z2).trans ((up_t z2).trans ((n2 _ _ z1).trans (up_t z2)))
  refine ⟨up (up G2 25 0 5 0) 25 0 11 0, ?_, ⟨h2.fr (fun k => (up_t (by decide)).trans (up_t (by decide))), Or.inl (up_at _ _ _ _ _), ⟨(up_k (by decide)).trans (up_at _ _ _ _ _), fun j hj => absurd hj (by clear e2; omega)⟩, ⟨(n25 _ (by decide) (by decide) (by decide)).trans r7, fun z => (r8 z).fr (fun k => nt _ _ (by decide) (by decide))⟩, ⟨(n25 _ (by decide) (by decide) (by decide)).trans r9, fun j hj => (nt _ _ (by decide) (by decide)).trans (r10 j hj)⟩, (n25 _ (by decide) (by decide) (by decide)).trans r11⟩, (((Fr.up (P := FRl) G1 6 0 ⟨by decide, by decide⟩).trans (f2.mono (fun t i z => by rw [z.1]; exact ⟨by decide, by decide⟩))).trans (Fr.up _ _ _ ⟨by decide, by decide⟩)).trans (Fr.up _ _ _ ⟨by decide, by decide⟩)⟩
  rw [e_f_Mod_clear, e2, bV_r, up_t (show (26 : Nat) ≠ 25 by decide), r1.nl hs]
end CLR
