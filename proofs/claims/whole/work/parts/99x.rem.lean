/-! ===== changes: a point is removed ===== -/
def rpS (s : Nat → Int) (p : Nat) : Nat → Int := fun j => if 128 + 6 * p ≤ j ∧ j < 128 + 6 * (mNp s - 1) then s (j + 6) else upS s 127 (s 127 - 1) j
theorem w6n {k : Nat} (h : k ≤ 12) : wr (6 * (k : Int)) = ((6 * k : Nat) : Int) := by
  rw [wr_id (by omega) (by omega)]
  omega
theorem wm1 {n : Nat} (h : 1 ≤ n ∧ n ≤ 60) : wr ((n : Int) - 1) = ((n - 1 : Nat) : Int) := by
  rw [wr_id (by omega) (by omega)]
  omega
section RPT
variable {s : Nat → Int} {G : GG}
theorem rpS_ne {p j : Nat} (hn : mNp s ≤ 12) (hj : j < 127 ∨ 200 ≤ j) : rpS s p j = s j := by
  unfold rpS
  rw [if_neg (by omega), upS_ne (by omega)]
theorem rp_np {p : Nat} (hs : okM s) (hp : p < mNp s) : mNp (rpS s p) = mNp s - 1 := by
  have h := mNp_c hs
  have e : rpS s p 127 = s 127 - 1 := by
    unfold rpS
    rw [if_neg (by omega), upS_at]
  show (rpS s p 127).toNat = _
  rw [e, h]
  omega
theorem rp_pt {p q j : Nat} (hj : j < 6) (hq : q < mNp s - 1) : mPt (rpS s p) q j = if q < p then mPt s q j else mPt s (q + 1) j := by
  unfold mPt rpS
  by_cases h : q < p
  · rw [if_pos h, if_neg (by omega), upS_ne (by omega)]
  · rw [if_neg h, if_pos (by omega), show 128 + 6 * q + j + 6 = 128 + 6 * (q + 1) + j by omega]
theorem ok_rp (hs : okM s) {p : Nat} (hp : p < mNp s) : okM (rpS s p) := by
  have ho := hs.2.2.2.2.1
  have hn := ho.1
  have hc := mNp_c hs
  obtain ⟨a1, a2, a3⟩ := okA_ag (s' := rpS s p) hs (fun j hj => rpS_ne hn (by omega))
  refine ⟨a1, a2, a3, ?_, ⟨by rw [rp_np hs hp]; omega, fun q hq => ?_⟩, okO_ag hs.2.2.2.2.2.1 (fun j hj _ => rpS_ne hn (by omega)), fun q hq => ?_, okSt_ag hs.2.2.2.2.2.2.2.1 (fun j hj _ => rpS_ne hn (by omega)), ?_⟩
  · have e : rpS s p 127 = s 127 - 1 := by
      unfold rpS
      rw [if_neg (by omega), upS_at]
    rw [e]
    omega
  · rw [rp_np hs hp] at hq
    rw [rp_pt (by decide) hq, rp_pt (by decide) hq, rp_pt (by decide) hq, rp_pt (by decide) hq, rp_pt (by decide) hq, rp_pt (by decide) hq]
    by_cases h : q < p
    · simp only [if_pos h]
      exact ho.2 q (by omega)
    · simp only [if_neg h]
      exact ho.2 (q + 1) (by omega)
  · rw [rpS_ne hn (by omega)]
    exact hs.2.2.2.2.2.2.1 q hq
  · rw [rpS_ne hn (by omega)]
    exact hs.2.2.2.2.2.2.2.2
theorem g_takeOutP {p n : Nat} (hn : n ≤ 12) (hp : p < n) (h : G 5 0 1 = (n : Int)) : f_Poi_takeOut 0 p G = rV (up (cpy G 6 0 (6 * (p : Int) + 6) 6 0 (6 * (p : Int)) (6 * ((n : Int) - 1 - p))) 5 0 1 ((n - 1 : Nat) : Int)) := by
  have w1 : wr ((p : Int) * 6) = 6 * (p : Int) := by rw [wr_id (by omega) (by omega)]; omega
  have w2 : wr (6 * (p : Int) + 6) = 6 * (p : Int) + 6 := wr_id (by omega) (by omega)
  have w3 : wr (wr (wr ((n : Int) - 1) - (p : Int)) * 6) = 6 * ((n : Int) - 1 - p) := by rw [wr_id (z := (n : Int) - 1) (by omega) (by omega), wr_id (z := (n : Int) - 1 - p) (by omega) (by omega), wr_id (by omega) (by omega)]; omega
  have e := e_f_Poi_takeOut 0 p G
  rw [h, w1, w2, w3, cpy_t (show (5 : Nat) ≠ 6 by decide), h, wm1 ⟨by clear w1 w2 w3 e; omega, by clear w1 w2 w3 e; omega⟩] at e
  clear w1 w2 w3
  have c0 : ((0 : Int) ≤ 6 * (p : Int) + 6 ∧ (0 : Int) ≤ 6 * (p : Int)) ∧ (0 ≤ 6 * ((n : Int) - 1 - p) ∧ (6 * (p : Int) + 6 + 6 * ((n : Int) - 1 - p) ≤ 72 ∧ 6 * (p : Int) + 6 * ((n : Int) - 1 - p) ≤ 72)) := by clear e h; omega
  rw [if_pos c0] at e
  exact e
theorem sh_rp (hs : okM s) {p : Nat} (hp : p < mNp s) (h : ShC G 0 s) : ShC (up (cpy G 6 0 (6 * (p : Int) + 6) 6 0 (6 * (p : Int)) (6 * ((mNp s : Int) - 1 - p))) 5 0 1 ((mNp s - 1 : Nat) : Int)) 0 (rpS s p) := by
  have hn := hs.2.2.2.2.1.1
  refine ⟨(h.1.ag hs.2.1 (fun j hj => rpS_ne hn (by omega))).fr ((up_t (by decide)).trans (cpy_t (by decide))) (fun k => (up_t (by decide)).trans (cpy_t (by decide))) (fun k => (up_t (by decide)).trans (cpy_t (by decide))), ⟨by rw [up_at, rp_np hs hp], fun q hq j hj => ?_⟩, fun f hf => ((up_t (by decide)).trans (cpy_t (by decide))).trans (h.2.2.1.ag (fun j hj _ => rpS_ne hn (by omega)) f hf), fun q hq => ?_, fun j hj => ((up_t (by decide)).trans (cpy_t (by decide))).trans (h.2.2.2.2.1.ag (fun j hj _ => rpS_ne hn (by omega)) j hj), ?_⟩
  · rw [rp_np hs hp] at hq
    rw [rp_pt hj hq, up_t (by decide)]
    by_cases z : q < p
    · rw [if_pos z, cpy_out (by omega)]
      exact h.2.1.2 q (by omega) j hj
    · rw [if_neg z, cpy_in (by omega) (by omega), show 6 * (p : Int) + 6 + (6 * (q : Int) + (j : Int) - 6 * (p : Int)) = 6 * ((q + 1 : Nat) : Int) + (j : Int) by omega]
      exact h.2.1.2 (q + 1) (by omega) j hj
  · rw [up_t (by decide), cpy_t (by decide), rpS_ne hn (by omega)]
    exact h.2.2.2.1 q hq
  · rw [up_t (by decide), cpy_t (by decide), rpS_ne hn (by omega)]
    exact h.2.2.2.2.2
theorem w_rp {k : Nat} (hk : k < 72) : wr (128 + (k : Int)) = ((128 + k : Nat) : Int) ∧ wr (((128 + k : Nat) : Int) + 6) = ((128 + k + 6 : Nat) : Int) ∧ ((0 : Int) ≤ ((128 + k : Nat) : Int) ∧ ((128 + k : Nat) : Int) < 296) ∧ ((0 : Int) ≤ ((128 + k + 6 : Nat) : Int) ∧ ((128 + k + 6 : Nat) : Int) < 296) := by
  refine ⟨?_, ?_, by omega, by omega⟩
  · rw [wr_id (by omega) (by omega)]; omega
  · rw [wr_id (by omega) (by omega)]; omega
theorem r_rp (hs : okM s) {p : Nat} (hp : p < mNp s) (h : RoR G 26 s) : ∃ G', l_Mod_removePoint_46 (wr (6 * (p : Int))) (up G 26 0 127 (wr (G 26 0 127 - 1))) = rI ((mNp s - 1 : Nat) : Int) G' ∧ RoR G' 26 (rpS s p) ∧ Fr (fun t _ => t = 26) G G' := by
  have hn := hs.2.2.2.2.1.1
  have hc := mNp_c hs
  have e3 : s 127 - 1 = ((mNp s - 1 : Nat) : Int) := by omega
  rw [w6n (by omega), h.np hs, wm1 ⟨by omega, by omega⟩]
  refine loop_inv (l := fun k G1 => l_Mod_removePoint_46 (k : Int) G1) (I := fun k G1 => (∀ j : Nat, j < 296 → G1 26 0 j = if 128 + 6 * p ≤ j ∧ j < 128 + k then s (j + 6) else upS s 127 (s 127 - 1) j) ∧ Fr (fun t _ => t = 26) G G1) (P := fun r => ∃ G', r = rI ((mNp s - 1 : Nat) : Int) G' ∧ RoR G' 26 (rpS s p) ∧ Fr (fun t _ => t = 26) G G') (6 * (mNp s - 1 - p)) (6 * p) (up G 26 0 127 ((mNp s - 1 : Nat) : Int)) (fun k G1 hk1 hk2 hI => ?_) (fun G1 hI => ?_) ⟨fun j hj => ?_, Fr.up _ _ _ rfl⟩
  · obtain ⟨h1, h2⟩ := hI
    obtain ⟨w1, w2, c1, c2⟩ := w_rp (k := k) (by omega)
    have v1 : G1 26 0 127 = ((mNp s - 1 : Nat) : Int) := by
      have := h1 127 (by decide)
      rw [if_neg (by omega), upS_at, e3] at this
      exact this
    have v2 : G1 26 0 ((128 + k + 6 : Nat) : Int) = s (128 + k + 6) := by
      rw [h1 (128 + k + 6) (by omega), if_neg (by omega), upS_ne (by omega)]
    have e := e_l_Mod_removePoint_46 (k : Int) G1
    have kk : (k : Int) < ((6 * (mNp s - 1) : Nat) : Int) := by clear w1 w2 e h1; omega
    have k72 : k < 72 := by clear w1 w2 e h1; omega
    rw [v1, w6n (by clear w1 w2 e h1; omega), if_pos kk, w1, w2, if_pos c2, if_pos c1, v2, wr_sc k72 (by decide)] at e
    clear w1 w2
    refine ⟨_, e, fun j hj => ?_, h2.trans (Fr.up _ _ _ rfl)⟩
    by_cases q : j = 128 + k
    · rw [q, up_at, if_pos (by omega)]
    · rw [up_k (by omega), h1 j hj]
      by_cases q2 : 128 + 6 * p ≤ j ∧ j < 128 + k
      · rw [if_pos q2, if_pos (by omega)]
      · rw [if_neg q2, if_neg (by omega)]
  · obtain ⟨h1, h2⟩ := hI
    have v1 : G1 26 0 127 = ((mNp s - 1 : Nat) : Int) := by
      have := h1 127 (by decide)
      rw [if_neg (by omega), upS_at, e3] at this
      exact this
    have e := e_l_Mod_removePoint_46 ((6 * p + 6 * (mNp s - 1 - p) : Nat) : Int) G1
    have kk : ¬(((6 * p + 6 * (mNp s - 1 - p) : Nat) : Int) < ((6 * (mNp s - 1) : Nat) : Int)) := by clear e h1; omega
    rw [v1, w6n (by clear e h1; omega), if_neg kk] at e
    refine ⟨G1, e, fun j hj => ?_, h2⟩
    rw [h1 j hj]
    unfold rpS
    by_cases q2 : 128 + 6 * p ≤ j ∧ j < 128 + (6 * p + 6 * (mNp s - 1 - p))
    · rw [if_pos q2, if_pos (by omega)]
    · rw [if_neg q2, if_neg (by omega)]
  · rw [if_neg (by omega)]
    by_cases q : j = 127
    · rw [q, upS_at, e3]
      exact up_at _ _ _ _ _
    · rw [up_k (by omega), upS_ne q]
      exact h j hj
theorem ch_removePoint (x1 : Int) : CHp G (f_Law_removePoint x1 G) (fun G1 => f_Mod_removePoint x1 G1) := by
  intro s c H sv K tn tx er hS hC
  have hs := hS.1
  have hn := hs.2.2.2.2.1.1
  have hp6 : mNp s ≤ 60 := Nat.le_trans hn (by decide)
  have hpc : G 5 0 1 = (mNp s : Int) := hC.1.2.1.1
  by_cases h1 : 0 ≤ x1 ∧ x1 < (mNp s : Int)
  · obtain ⟨p, rfl⟩ : ∃ p : Nat, x1 = (p : Int) := ⟨x1.toNat, by omega⟩
    have pb : p < mNp s := by omega
    have hs' := ok_rp hs pb
    have ec : f_Map_removePoint (p : Int) G = bV (f_Map_beginChange G) fun G2 => bV (f_Poi_takeOut 0 (p : Int) G2) fun G3 => rI (G3 5 0 1) G3 := by rw [e_f_Map_removePoint, g_point_t hpc h1, bV_r]
    have er9 : ∀ G1, IR G1 s c H sv K tn tx er → f_Mod_removePoint (p : Int) G1 = bV (f_Mod_keeps (up G1 25 0 6 0)) fun G4 => l_Mod_removePoint_46 (wr (6 * (p : Int))) (up G4 26 0 127 (wr ((G4 26 0 127) - 1))) := fun G1 hR => by
      rw [e_f_Mod_removePoint, r_point_t (hR.1.np hs) hp6 h1, bI_r, if_neg i01, up_at, if_pos rfl]
    refine ch_ok (s' := rpS s p) (v := ((mNp s - 1 : Nat) : Int)) (hS.map hs') (kc_ok (r := f_Map_removePoint (p : Int) G) hS hC hs' ec (fun G2 hh => ?_)) (e_f_Law_removePoint (p : Int) G) (fun G1 hR => kr_ok hS.2.1 hR (er9 G1 hR) (fun G2 hh => r_rp hs pb hh))
    refine ⟨_, ?_, sh_rp hs pb hh, (Fr.cpy G2 _ _ _ _ _ ⟨rfl, by decide⟩).trans (Fr.up _ _ _ ⟨rfl, by decide⟩)⟩
    rw [g_takeOutP hn pb hh.2.1.1, bV_r, up_at]
  · exact ch_fail (k := 1) (x := 2) (fcl := f_Map_removePoint x1 G) hS hC (by rw [e_f_Map_removePoint, g_point_f hpc h1, bV_x]) (e_f_Law_removePoint x1 G) (fun _ => rfl) (by decide) (fun G1 hR => by
      show f_Mod_removePoint x1 G1 = _
      rw [e_f_Mod_removePoint, r_point_f (hR.1.np hs) hp6 h1, bI_r, if_pos rfl, up_at, if_neg i01])
end RPT
