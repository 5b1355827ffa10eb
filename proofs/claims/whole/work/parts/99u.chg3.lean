/-! ===== changes: strictness, a corner, a setting ===== -/
theorem up_up (G : GG) (t : Nat) (i k v w : Int) : up (up G t i k v) t i k w = up G t i k w := by
  funext t' i' k'
  unfold up
  split <;> rfl
section CH3
variable {s s' : Nat → Int} {G : GG} {i : Int} {c : Nat} {H : Nat → Nat → Int} {sv : Int} {K : Nat → Int} {tn : Nat} {tx : Nat → Int} {er : Int}
theorem ch_setStrict {x : Int} (hx : x = 0 ∨ x = 1) (hS : IS s c H sv K tn tx er) (hC : IC G s c H sv K tn tx er) : IS (upS s 295 x) (pushC c) (pushH c H s) sv K tn tx er ∧ (∃ G2, f_Map_setStrict x G = rI (s 295) G2 ∧ IC G2 (upS s 295 x) (pushC c) (pushH c H s) sv K tn tx er ∧ Fr FCl G G2 ∧ G2 48 0 0 = G 48 0 0) ∧
    ∀ G1, IR G1 s c H sv K tn tx er → ∃ G2, f_Mod_setStrict x G1 = rI (s 295) G2 ∧ G2 25 0 6 = 0 ∧ IR G2 (upS s 295 x) (pushC c) (pushH c H s) sv K tn tx er ∧ Fr FRl G1 G2 := by
  have hs := hS.1
  have hstr := hs.2.2.2.2.2.2.2.2
  have hs' : okM (upS s 295 x) := by
    obtain ⟨a1, a2, a3⟩ := okA_ag (s' := upS s 295 x) hs (fun j hj => upS_ne (by omega))
    obtain ⟨b1, b2⟩ := okB_ag (s' := upS s 295 x) hs (fun j _ hj => upS_ne (by omega))
    refine ⟨a1, a2, a3, b1, b2, okO_ag hs.2.2.2.2.2.1 (fun j _ hj => upS_ne (by omega)), fun q hq => ?_, okSt_ag hs.2.2.2.2.2.2.2.1 (fun j _ hj => upS_ne (by omega)), ?_⟩
    · rw [upS_ne (by omega)]
      exact hs.2.2.2.2.2.2.1 q hq
    · rw [upS_at]
      exact hx
  refine ⟨hS.map hs', kc_ok (r := f_Map_setStrict x G) hS hC hs' (e_f_Map_setStrict x G) (fun G2 hh => ?_), fun G1 hR => kr_ok hS.2.1 hR (e_f_Mod_setStrict x G1) (fun G2 hh => ?_)⟩
  · refine ⟨up G2 1 0 5 x, ?_, ⟨(hh.1.ag hs.2.1 (fun j hj => upS_ne (by omega))).fr (up_t (by decide)) (fun k => up_t (by decide)) (fun k => up_t (by decide)), (hh.2.1.ag hs.2.2.2.2.1 (fun j _ hj => upS_ne (by omega))).fr (up_t (by decide)) (fun k => up_t (by decide)), fun f hf => (up_t (by decide)).trans (hh.2.2.1.ag (fun j _ hj => upS_ne (by omega)) f hf), fun q hq => ?_, fun j hj => (up_t (by decide)).trans (hh.2.2.2.2.1.ag (fun j _ hj => upS_ne (by omega)) j hj), by rw [up_at, upS_at]⟩, Fr.up _ _ _ ⟨rfl, by decide⟩⟩
    · have c1 : 0 ≤ x ∧ x ≤ 1 := by omega
      have c2 : 0 ≤ s 295 ∧ s 295 ≤ 1 := by omega
      rw [hh.2.2.2.2.2]
      simp only [if_pos c1, if_pos c2]
    · rw [up_t (by decide), upS_ne (by omega)]
      exact hh.2.2.2.1 q hq
  · refine ⟨up G2 26 0 295 x, ?_, ror_up hh rfl x, Fr.up _ _ _ rfl⟩
    have h295 : G2 26 0 295 = s 295 := hh 295 (by decide)
    rw [h295]
    rcases hstr with z | z
    · rw [z, if_neg (by decide)]
      rcases hx with y | y
      · rw [y, if_pos rfl]
      · rw [y, if_neg (by decide)]
    · rw [z, if_pos rfl]
      rcases hx with y | y
      · rw [y, if_pos rfl]
      · rw [y, if_neg (by decide)]
theorem pt_up {p j0 : Nat} (hn : mNp s ≤ 12) (hp : p < mNp s) (hj0 : j0 < 6) (v : Int) : mNp (upS s (128 + 6 * p + j0) v) = mNp s ∧ ∀ q : Nat, q < mNp s → ∀ j : Nat, j < 6 → mPt (upS s (128 + 6 * p + j0) v) q j = if q = p ∧ j = j0 then v else mPt s q j := by
  refine ⟨by unfold mNp; rw [upS_ne (by omega)], fun q hq j hj => ?_⟩
  unfold mPt
  by_cases z : q = p ∧ j = j0
  · rw [if_pos z, z.1, z.2, upS_at]
  · rw [if_neg z, upS_ne (by omega)]
theorem ok_corner (hs : okM s) {p : Nat} (pb : p < mNp s) {x2 : Int} (h2 : 0 ≤ x2 ∧ x2 ≤ 3) : okM (upS s (128 + 6 * p + 5) x2) := by
  have ho := hs.2.2.2.2.1
  have hn := ho.1
  obtain ⟨u1, u2⟩ := pt_up (s := s) (p := p) (j0 := 5) hn pb (by decide) x2
  obtain ⟨a1, a2, a3⟩ := okA_ag (s' := upS s (128 + 6 * p + 5) x2) hs (fun j hj => upS_ne (by omega))
  refine ⟨a1, a2, a3, ?_, ⟨by rw [u1]; exact hn, fun q hq => ?_⟩, okO_ag hs.2.2.2.2.2.1 (fun j hj _ => upS_ne (by omega)), fun q hq => ?_, okSt_ag hs.2.2.2.2.2.2.2.1 (fun j hj _ => upS_ne (by omega)), ?_⟩
  · rw [upS_ne (by omega)]
    exact hs.2.2.2.1
  · rw [u1] at hq
    have hq9 := ho.2 q hq
    have v : ∀ j : Nat, j < 6 → j ≠ 5 → mPt (upS s (128 + 6 * p + 5) x2) q j = mPt s q j := fun j hj hj2 => (u2 q hq j hj).trans (if_neg (fun z => hj2 z.2))
    rw [v 0 (by decide) (by decide), v 1 (by decide) (by decide), v 2 (by decide) (by decide), v 3 (by decide) (by decide), v 4 (by decide) (by decide)]
    refine ⟨hq9.1, hq9.2.1, hq9.2.2.1, hq9.2.2.2.1, hq9.2.2.2.2.1, ?_⟩
    rw [u2 q hq 5 (by decide)]
    by_cases z : q = p ∧ 5 = 5
    · rw [if_pos z]
      exact h2
    · rw [if_neg z]
      exact hq9.2.2.2.2.2
  · rw [upS_ne (by omega)]
    exact hs.2.2.2.2.2.2.1 q hq
  · rw [upS_ne (by omega)]
    exact hs.2.2.2.2.2.2.2.2
theorem g_turnTo {p : Nat} (hp : p < 12) (x2 : Int) (G2 : GG) : f_Poi_turnTo 0 (p : Int) x2 G2 = rV (up G2 6 0 (6 * (p : Int) + ((5 : Nat) : Int)) x2) := by
  have w : wr (wr ((p : Int) * 6) + 5) = 6 * (p : Int) + ((5 : Nat) : Int) := by rw [wr_id (z := (p : Int) * 6) (by omega) (by omega), wr_id (by omega) (by omega)]; omega
  have c0 : (0 : Int) ≤ 6 * (p : Int) + ((5 : Nat) : Int) ∧ 6 * (p : Int) + ((5 : Nat) : Int) < 72 := by clear w; omega
  have e := e_f_Poi_turnTo 0 (p : Int) x2 G2
  rw [w, if_pos c0] at e
  exact e
theorem sh_corner (hs : okM s) {p : Nat} (pb : p < mNp s) (x2 : Int) {G2 : GG} (hh : ShC G2 0 s) : ShC (up G2 6 0 (6 * (p : Int) + ((5 : Nat) : Int)) x2) 0 (upS s (128 + 6 * p + 5) x2) := by
  have hn := hs.2.2.2.2.1.1
  obtain ⟨u1, u2⟩ := pt_up (s := s) (p := p) (j0 := 5) hn pb (by decide) x2
  refine ⟨(hh.1.ag hs.2.1 (fun j hj => upS_ne (by omega))).fr (up_t (by decide)) (fun k => up_t (by decide)) (fun k => up_t (by decide)), ⟨?_, fun q hq j hj => ?_⟩, fun f hf => (up_t (by decide)).trans (hh.2.2.1.ag (fun j hj _ => upS_ne (by omega)) f hf), fun q hq => ?_, fun j hj => (up_t (by decide)).trans (hh.2.2.2.2.1.ag (fun j hj _ => upS_ne (by omega)) j hj), ?_⟩
  · rw [up_t (by decide), u1]
    exact hh.2.1.1
  · rw [u1] at hq
    rw [u2 q hq j hj]
    by_cases z : q = p ∧ j = 5
    · rw [if_pos z, z.1, z.2, up_at]
    · have hne : 6 * (q : Int) + (j : Int) ≠ 6 * (p : Int) + ((5 : Nat) : Int) := by clear u1 u2; omega
      rw [if_neg z, up_k hne]
      exact hh.2.1.2 q hq j hj
  · rw [up_t (by decide), upS_ne (by omega)]
    exact hh.2.2.2.1 q hq
  · rw [up_t (by decide), upS_ne (by omega)]
    exact hh.2.2.2.2.2
theorem w_corner {p : Nat} (hp : p < 12) : wr (wr (128 + wr (6 * (p : Int))) + 5) = ((128 + 6 * p + 5 : Nat) : Int) ∧ (0 : Int) ≤ ((128 + 6 * p + 5 : Nat) : Int) ∧ ((128 + 6 * p + 5 : Nat) : Int) < 296 := by
  refine ⟨?_, by omega, by omega⟩
  rw [wr_id (z := 6 * (p : Int)) (by omega) (by omega), wr_id (z := 128 + 6 * (p : Int)) (by omega) (by omega), wr_id (by omega) (by omega)]
  omega
theorem r_corner (hs : okM s) {p : Nat} (pb : p < mNp s) (x2 : Int) {G2 : GG} (hh : RoR G2 26 s) : (bI (f_Mod_ofPoint (p : Int) 5 G2) fun r13 G12 => if 0 ≤ wr ((wr (128 + (wr (6 * (p : Int))))) + 5) ∧ wr ((wr (128 + (wr (6 * (p : Int))))) + 5) < 296 then rI r13 (up G12 26 0 (wr ((wr (128 + (wr (6 * (p : Int))))) + 5)) x2) else none) = rI (mPt s p 5) (up G2 26 0 ((128 + 6 * p + 5 : Nat) : Int) x2) := by
  have hn := hs.2.2.2.2.1.1
  have f5 : f_Mod_ofPoint (p : Int) 5 G2 = rI (mPt s p 5) G2 := r_ofPoint (hh.pt hs) hn pb (q := 5) (by decide)
  obtain ⟨w, c1⟩ := w_corner (p := p) (Nat.lt_of_lt_of_le pb hn)
  rw [f5, bI_r, w, if_pos c1]
theorem ch_setCorner (x1 x2 : Int) : CHp G (f_Law_setCorner x1 x2 G) (fun G1 => f_Mod_setCorner x1 x2 G1) := by
  intro s c H sv K tn tx er hS hC
  have hs := hS.1
  have hn := hs.2.2.2.2.1.1
  have hp6 : mNp s ≤ 60 := Nat.le_trans hn (by decide)
  have hpc : G 5 0 1 = (mNp s : Int) := hC.1.2.1.1
  by_cases h1 : 0 ≤ x1 ∧ x1 < (mNp s : Int)
  · obtain ⟨p, rfl⟩ : ∃ p : Nat, x1 = (p : Int) := ⟨x1.toNat, by omega⟩
    have pb : p < mNp s := by omega
    by_cases h2 : 0 ≤ x2 ∧ x2 ≤ 3
    · have hs' := ok_corner hs pb h2
      refine ch_ok (s' := upS s (128 + 6 * p + 5) x2) (v := mPt s p 5) (hS.map hs') (kc_ok (r := f_Map_setCorner (p : Int) x2 G) hS hC hs' (by simp only [e_f_Map_setCorner, g_point_t hpc h1, g_within_t h2, bV_r, bI_r, ↓reduceIte, i01]; rfl) (fun G2 hh => ?_)) (e_f_Law_setCorner (p : Int) x2 G) (fun G1 hR => kr_ok hS.2.1 hR (by simp only [e_f_Mod_setCorner, r_point_t (hR.1.np hs) hp6 h1, r_isIn_t h2, bI_r, ↓reduceIte, up_at, i01]; rfl) (fun G2 hh => ?_))
      · have f5 : f_Poi_valueOf 0 (p : Int) 5 G2 = rI (mPt s p 5) G2 := g_valueOf hh.2.1 hn pb (q := 5) (by decide)
        refine ⟨up G2 6 0 (6 * (p : Int) + ((5 : Nat) : Int)) x2, ?_, sh_corner hs pb x2 hh, Fr.up _ _ _ ⟨rfl, by decide⟩⟩
        rw [f5, bI_r, g_turnTo (Nat.lt_of_lt_of_le pb hn), bV_r]
      · exact ⟨up G2 26 0 ((128 + 6 * p + 5 : Nat) : Int) x2, r_corner hs pb x2 hh, ror_up hh rfl x2, Fr.up _ _ _ rfl⟩
    · exact ch_fail (k := 2) (x := 0) (fcl := f_Map_setCorner (p : Int) x2 G) hS hC (by simp only [e_f_Map_setCorner, g_point_t hpc h1, g_within_f h2, bV_r, bI_r, ↓reduceIte]) (e_f_Law_setCorner (p : Int) x2 G) (fun _ => rfl) (by decide) (fun G1 hR => by simp only [e_f_Mod_setCorner, r_point_t (hR.1.np hs) hp6 h1, r_isIn_f h2, bI_r, bV_r, ↓reduceIte, up_at, i01, i02])
  · exact ch_fail (k := 1) (x := 2) (fcl := f_Map_setCorner x1 x2 G) hS hC (by simp only [e_f_Map_setCorner, g_point_f hpc h1, bV_x]) (e_f_Law_setCorner x1 x2 G) (fun _ => rfl) (by decide) (fun G1 hR => by simp only [e_f_Mod_setCorner, r_point_f (hR.1.np hs) hp6 h1, bI_r, bV_r, ↓reduceIte, up_at, i01, i02])
end CH3
