/-! ===== changes: a point is added; both sides; the input's characters ===== -/
section ADDC
variable {s : Nat → Int} {G : GG} {c : Nat} {H : Nat → Nat → Int} {sv : Int} {K : Nat → Int} {tn : Nat} {tx : Nat → Int} {er : Int}
theorem RC.ft {G' : GG} (h : RC G s) (hF : Fr FT G G') : RC G' s := by
  rcases h with z | z
  · exact Or.inl ((hF 25 0 11 (by unfold FT; omega)).trans z)
  · exact Or.inr (z.fr (fun t k ht => hF t 0 k (by unfold FT; omega)))
theorem IR.ft {G' : GG} (h : IR G s c H sv K tn tx er) (hF : Fr FT G G') : IR G' s c H sv K tn tx er :=
  h.q (h.2.1.ft hF) (hF.mono (fun t i z => by unfold FT at z; unfold FRq; omega)) (fun k _ _ _ => hF 25 0 k (by unfold FT; omega))
theorem FT_rl {G' : GG} (hF : Fr FT G G') : Fr FRl G G' := hF.mono (fun t i z => by unfold FT at z; unfold FRl; omega)
theorem ch_fail2 {fl fcl : RS} {fm : GG → RS} {x : Nat} {k : Int} {h9 : Nat → GG → RS} {kk : Int → GG → RS} (hS : IS s c H sv K tn tx er) (hC : IC G s c H sv K tn tx er) (ef : fcl = rX x (bump G)) (el : fl = contI fcl h9 kk) (hh : ∀ G1, h9 x G1 = rI k G1) (hk : k ≠ 0)
    (er2 : ∀ G1, IR G1 s c H sv K tn tx er → ∃ G2, fm G1 = rI 0 (up G2 25 0 6 k) ∧ IR G2 s c H sv K tn tx er ∧ Fr FRl G1 G2) : ∃ s' c' H' sv' K' tn' tx' er' k v, IS s' c' H' sv' K' tn' tx' er' ∧ (∃ G1, fl = rI k G1 ∧ (k = 0 → G1 42 0 0 = v) ∧ IC G1 s' c' H' sv' K' tn' tx' er' ∧ Fr FCl G G1 ∧ G1 48 0 0 ≤ G 48 0 0 + 1) ∧
      ∀ G1, IR G1 s c H sv K tn tx er → Kp G G1 → ∃ G2 b, fm G1 = rI b G2 ∧ G2 25 0 6 = k ∧ (k = 0 → b = v) ∧ IR G2 s' c' H' sv' K' tn' tx' er' ∧ Fr FRl G1 G2 := by
  refine ⟨s, c, H, sv, K, tn, tx, er, k, 0, hS, ⟨bump G, ?_, fun z => absurd z hk, hC.fr (fun t i k ht => bump_t (by omega) i k), Fr.up _ _ _ (Or.inr (Or.inr (Or.inr rfl))), by rw [bump_48]; exact Int.le_refl _⟩, fun G1 hR _ => ?_⟩
  · rw [el, ef, contI_x, hh]
  · obtain ⟨G2, e2, h2, f2⟩ := er2 G1 hR
    exact ⟨up G2 25 0 6 k, 0, e2, up_at _ _ _ _ _, fun z => absurd z hk, h2.up6 k, f2.trans (Fr.up _ _ _ ⟨by decide, by decide⟩)⟩
def okAdd (x y r w h cn : Int) : Prop := isXY x y ∧ (0 ≤ r ∧ r ≤ 9) ∧ (2 ≤ w ∧ w ≤ 12) ∧ (1 ≤ h ∧ h ≤ 4) ∧ (0 ≤ cn ∧ cn ≤ 3)
theorem g_add_x {x y r w h cn : Int} (hb : ¬okAdd x y r w h cn) (G : GG) : f_Map_addPoint x y r w h cn G = rX 0 (bump G) := by
  rw [e_f_Map_addPoint]
  by_cases h1 : isXY x y
  · rw [g_pos_t h1, bI_r, if_neg i01]
    by_cases h2 : 0 ≤ r ∧ r ≤ 9
    · rw [g_within_t h2, bI_r, if_neg i01]
      by_cases h3 : 2 ≤ w ∧ w ≤ 12
      · rw [g_within_t h3, bI_r, if_neg i01]
        by_cases h4 : 1 ≤ h ∧ h ≤ 4
        · rw [g_within_t h4, bI_r, if_neg i01]
          have h5 : ¬(0 ≤ cn ∧ cn ≤ 3) := fun z => hb ⟨h1, h2, h3, h4, z⟩
          rw [g_within_f h5, bI_r, if_pos rfl]
        · rw [g_within_f h4, bI_r, if_pos rfl]
      · rw [g_within_f h3, bI_r, if_pos rfl]
    · rw [g_within_f h2, bI_r, if_pos rfl]
  · rw [g_pos_f h1, bI_r, if_pos rfl]
theorem r_add_x {x y r w h cn : Int} (hb : ¬okAdd x y r w h cn) (G : GG) : f_Mod_addPoint x y r w h cn G = rI 0 (up G 25 0 6 1) := by
  rw [e_f_Mod_addPoint]
  have a1 : (up G 25 0 6 1) 25 0 6 = 1 := up_at _ _ _ _ _
  by_cases h1 : isXY x y
  · rw [r_place_t h1, bI_r, if_neg i01]
    by_cases h2 : 0 ≤ r ∧ r ≤ 9
    · rw [r_isIn_t h2, bI_r, if_neg i01]
      by_cases h3 : 2 ≤ w ∧ w ≤ 12
      · rw [r_isIn_t h3, bI_r, if_neg i01]
        by_cases h4 : 1 ≤ h ∧ h ≤ 4
        · rw [r_isIn_t h4, bI_r, if_neg i01]
          have h5 : ¬(0 ≤ cn ∧ cn ≤ 3) := fun z => hb ⟨h1, h2, h3, h4, z⟩
          rw [r_isIn_f h5, bI_r, if_pos rfl, a1, if_neg i01]
        · rw [r_isIn_f h4, bI_r, if_pos rfl, a1, if_neg i01]
      · rw [r_isIn_f h3, bI_r, if_pos rfl, a1, if_neg i01]
    · rw [r_isIn_f h2, bI_r, if_pos rfl, a1, if_neg i01]
  · rw [r_place_f h1, bI_r, if_pos rfl, a1, if_neg i01]
theorem w_code {x y : Int} (h : isXY x y) : wr (wr (x * 64) + y) = 64 * x + y := by
  unfold isXY at h
  rw [wr_id (z := x * 64) (by omega) (by omega), wr_id (by omega) (by omega)]
  omega
theorem ch_addPoint (x y r w h cn : Int) : CHp G (f_Law_addPoint x y r w h cn G) (fun G1 => f_Mod_addPoint x y r w h cn G1) := by
  intro s c H sv K tn tx er hS hC
  have hs := hS.1
  have hn := hs.2.2.2.2.1.1
  by_cases hb : okAdd x y r w h cn
  · obtain ⟨h1, h2, h3, h4, h5⟩ := hb
    have hxy : isC (64 * x + y) := by unfold isXY at h1; unfold isC; omega
    have ec : f_Map_addPoint x y r w h cn G = if tkO s (64 * x + y) = true then rX 4 (bump G) else if mNp s < 12 then bV (f_Map_beginChange G) (fun G13 => bI (f_Poi_put 0 x y r w h cn G13) fun r15 G14 => rI r15 G14) else rX 1 (bump G) := by
      rw [e_f_Map_addPoint, g_pos_t h1, bI_r, if_neg i01, g_within_t h2, bI_r, if_neg i01, g_within_t h3, bI_r, if_neg i01, g_within_t h4, bI_r, if_neg i01, g_within_t h5, bI_r, if_neg i01, w_code h1, g_isTaken hs hC.1 hxy, bI_r, hC.1.2.1.1]
      cases tkO s (64 * x + y) with
      | true => rw [if_neg (show ¬(b2i true = 0) by decide), if_pos rfl]
      | false =>
        rw [if_pos (show b2i false = 0 from rfl), if_neg (show ¬(false = true) by decide)]
        by_cases q : mNp s < 12
        · rw [if_pos q, if_pos (show (mNp s : Int) < 12 by omega)]
        · rw [if_neg q, if_neg (show ¬((mNp s : Int) < 12) by omega)]
    have er9 : ∀ G1, IR G1 s c H sv K tn tx er → ∃ G2, IR G2 s c H sv K tn tx er ∧ Fr FRl G1 G2 ∧ f_Mod_addPoint x y r w h cn G1 = if (up G2 25 0 6 (if tkO s (64 * x + y) = true then 2 else if mNp s = 12 then 3 else 0)) 25 0 6 = 0 then (bV (f_Mod_keeps (up G2 25 0 6 (if tkO s (64 * x + y) = true then 2 else if mNp s = 12 then 3 else 0))) fun G23 => bV (f_Mod_addsPoint x y r w h cn G23) fun G24 => rI (wr ((G24 26 0 127) - 1)) G24) else rI 0 (up G2 25 0 6 (if tkO s (64 * x + y) = true then 2 else if mNp s = 12 then 3 else 0)) := fun G1 hR => by
      obtain ⟨G2, e2, f2⟩ := r_wrongPoint hs hR.1 h1
      refine ⟨G2, hR.ft f2, FT_rl f2, ?_⟩
      rw [e_f_Mod_addPoint, r_place_t h1, bI_r, if_neg i01, r_isIn_t h2, bI_r, if_neg i01, r_isIn_t h3, bI_r, if_neg i01, r_isIn_t h4, bI_r, if_neg i01, r_isIn_t h5, bI_r, if_neg i01, e2, bI_r]
    by_cases q1 : tkO s (64 * x + y) = true
    · rw [if_pos q1] at ec
      refine ch_fail2 (k := 2) (x := 4) (fcl := f_Map_addPoint x y r w h cn G) hS hC ec (e_f_Law_addPoint x y r w h cn G) (fun _ => rfl) (by decide) (fun G1 hR => ?_)
      obtain ⟨G2, i2, f2, e2⟩ := er9 G1 hR
      rw [if_pos q1, up_at, if_neg i02] at e2
      exact ⟨G2, e2, i2, f2⟩
    · rw [if_neg q1] at ec
      by_cases q2 : mNp s < 12
      · rw [if_pos q2] at ec
        have hv : okV6 (v6 x y r w h cn) := by
          unfold isXY at h1
          exact ⟨⟨h1.1.1, by show x < 64; omega⟩, ⟨h1.2.1, by show y < 64; omega⟩, h2, h3, h4, h5⟩
        have hs' := ok_ap hs q2 hv
        refine ch_ok (s' := apS s (v6 x y r w h cn)) (v := (mNp s : Int)) (hS.map hs') (kc_ok (r := f_Map_addPoint x y r w h cn G) hS hC hs' ec (fun G2 hh => ?_)) (e_f_Law_addPoint x y r w h cn G) (fun G1 hR => ?_)
        · refine ⟨_, ?_, sh_ap hs q2 hh x y r w h cn, ?_⟩
          · rw [g_put q2 hh.2.1.1, bI_r]
          · unfold up6
            exact ((((((Fr.up _ _ _ ⟨rfl, by decide⟩).trans (Fr.up _ _ _ ⟨rfl, by decide⟩)).trans (Fr.up _ _ _ ⟨rfl, by decide⟩)).trans (Fr.up _ _ _ ⟨rfl, by decide⟩)).trans (Fr.up _ _ _ ⟨rfl, by decide⟩)).trans (Fr.up _ _ _ ⟨rfl, by decide⟩)).trans (Fr.up _ _ _ ⟨rfl, by decide⟩)
        · obtain ⟨G2, i2, f2, e2⟩ := er9 G1 hR
          rw [if_neg q1, if_neg (show ¬(mNp s = 12) by omega), up_at, if_pos rfl] at e2
          obtain ⟨G3, k1, k2, k3, k4⟩ := kr_ok (v := (mNp s : Int)) (s' := apS s (v6 x y r w h cn)) hS.2.1 i2 e2 (fun G4 hh => by
            obtain ⟨G5, e5, h5', f5⟩ := r_put hs q2 hh x y r w h cn
            refine ⟨G5, ?_, h5', f5.mono (fun t i z => z.1)⟩
            have hnp : G5 26 0 127 = ((mNp s + 1 : Nat) : Int) := by rw [h5'.np hs', ap_np hs]
            rw [e5, bV_r, hnp, (w_put q2).2.2.2.2.2.2.2.2])
          exact ⟨G3, k1, k2, k3, f2.trans k4⟩
      · rw [if_neg q2] at ec
        refine ch_fail2 (k := 3) (x := 1) (fcl := f_Map_addPoint x y r w h cn G) hS hC ec (e_f_Law_addPoint x y r w h cn G) (fun _ => rfl) (by decide) (fun G1 hR => ?_)
        obtain ⟨G2, i2, f2, e2⟩ := er9 G1 hR
        rw [if_neg q1, if_pos (show mNp s = 12 by omega), up_at, if_neg i03] at e2
        exact ⟨G2, e2, i2, f2⟩
  · exact ch_fail (k := 1) (x := 0) (fcl := f_Map_addPoint x y r w h cn G) hS hC (g_add_x hb G) (e_f_Law_addPoint x y r w h cn G) (fun _ => rfl) (by decide) (fun G1 hR => r_add_x hb G1)
/-- append -/
theorem ch_append (x : Int) : CHp G (f_Law_append x G) (fun G1 => f_Mod_append x G1) := by
  intro s c H sv K tn tx er hS hC
  have hS0 := hS
  have hC0 := hC
  obtain ⟨hs, hc8, hH, hsv, ht60, htx, her⟩ := hS
  by_cases h1 : 32 ≤ x ∧ x ≤ 126
  · by_cases h2 : tn < 60
    · obtain ⟨q1, q2, ⟨q3, nx, q4, q5, q6⟩, ⟨q7, q8⟩, ⟨q9, q10⟩, q11⟩ := hC
      have c1 : (0 : Int) ≤ (tn : Int) ∧ (tn : Int) < 60 := by omega
      have c2 : 0 ≤ x ∧ x < 65536 := by omega
      have cx1 : ¬(x < 32) := by omega
      have cx2 : ¬(126 < x) := by omega
      have hS' : IS s c H sv K (tn + 1) (fun j => if j = tn then x else tx j) er := ⟨hs, hc8, hH, hsv, by omega, fun j hj => by
        by_cases z : j = tn
        · simp only [if_pos z]; exact h1
        · simp only [if_neg z]; exact htx j (by omega), her⟩
      refine ch_ok (s' := s) (c' := c) (H' := H) (tn' := tn + 1) (tx' := fun j => if j = tn then x else tx j) (v := ((tn + 1 : Nat) : Int)) (fcl := f_Map_append x G) hS' ?_ (e_f_Law_append x G) (fun G1 hR => ?_)
      · have n1 : ∀ t i k, t ≠ 21 → t ≠ 22 → (up (up G 22 0 (tn : Int) x) 21 0 1 ((tn + 1 : Nat) : Int)) t i k = G t i k := fun t i k z1 z2 => (up_t z1).trans (up_t z2)
        refine ⟨up (up G 22 0 (tn : Int) x) 21 0 1 ((tn + 1 : Nat) : Int), ?_, ⟨q1.fr (fun t k ht => n1 _ _ _ (by omega) (by omega)), q2.fr (fun t i k ht => n1 _ _ _ (by omega) (by omega)), ⟨(n1 _ _ _ (by decide) (by decide)).trans q3, nx, q4, (n1 _ _ _ (by decide) (by decide)).trans q5, fun j hj => (q6 j hj).fr (fun t k ht => n1 _ _ _ (by omega) (by omega))⟩, ⟨(n1 _ _ _ (by decide) (by decide)).trans q7, fun z => (q8 z).fr (fun t k ht => n1 _ _ _ (by omega) (by omega))⟩, ⟨up_at _ _ _ _ _, fun j hj => ?_⟩, (n1 _ _ _ (by decide) (by decide)).trans q11⟩, (Fr.up _ _ _ (Or.inl (by decide))).trans (Fr.up _ _ _ (Or.inl (by decide))), n1 _ _ _ (by decide) (by decide)⟩
        · have w1 : wr ((tn : Int) + 1) = ((tn + 1 : Nat) : Int) := wr_sc (show tn < 60 by omega) (by decide)
          rw [e_f_Map_append, if_neg cx1, if_neg cx2, q9, if_pos c1.2, e_f_Scr_take, q9, if_pos c1, if_pos c2, bI_r, up_t (show (21 : Nat) ≠ 22 by decide), q9, w1, up_at]
        · rw [up_t (by decide)]
          by_cases z : j = tn
          · rw [z, up_at]
            simp only [if_true]
          · rw [up_k (by omega)]
            simp only [if_neg z]
            exact q10 j (by omega)
      · obtain ⟨r1, r2, ⟨r3, r4⟩, ⟨r7, r8⟩, ⟨r9, r10⟩, r11⟩ := hR
        have n25 : ∀ k : Int, k ≠ 19 → k ≠ 6 → (up (up (up G1 25 0 6 0) 39 0 (tn : Int) x) 25 0 19 ((tn + 1 : Nat) : Int)) 25 0 k = G1 25 0 k := fun k z1 z2 => (up_k z1).trans ((up_t (by decide)).trans (up_k z2))
        have nt : ∀ t k, t ≠ 25 → t ≠ 39 → (up (up (up G1 25 0 6 0) 39 0 (tn : Int) x) 25 0 19 ((tn + 1 : Nat) : Int)) t 0 k = G1 t 0 k := fun t k z1 z2 => (up_t z1).trans ((up_t z2).trans (up_t z1))
        refine ⟨up (up (up G1 25 0 6 0) 39 0 (tn : Int) x) 25 0 19 ((tn + 1 : Nat) : Int), ?_, (up_k (by decide)).trans ((up_t (by decide)).trans (up_at _ _ _ _ _)), ⟨r1.fr (fun k => nt _ _ (by decide) (by decide)), ?_, ⟨(n25 _ (by decide) (by decide)).trans r3, fun j hj k hk => (nt _ _ (by decide) (by decide)).trans (r4 j hj k hk)⟩, ⟨(n25 _ (by decide) (by decide)).trans r7, fun z => (r8 z).fr (fun k => nt _ _ (by decide) (by decide))⟩, ⟨up_at _ _ _ _ _, fun j hj => ?_⟩, (n25 _ (by decide) (by decide)).trans r11⟩, ((Fr.up _ _ _ ⟨by decide, by decide⟩).trans (Fr.up _ _ _ ⟨by decide, by decide⟩)).trans (Fr.up _ _ _ ⟨by decide, by decide⟩)⟩
        · have w1 : wr ((tn : Int) + 1) = ((tn + 1 : Nat) : Int) := wr_sc (show tn < 60 by omega) (by decide)
          have c60 : ¬((tn : Int) = 60) := by clear w1; omega
          have u19 : (up G1 25 0 6 0) 25 0 19 = (tn : Int) := (up_k (by decide)).trans r9
          show f_Mod_append x G1 = _
          rw [e_f_Mod_append, r_isIn_t h1, bI_r, if_neg i01, r9, if_neg c60, up_at, if_pos rfl, u19, if_pos c1, up_t (show (25 : Nat) ≠ 39 by decide), u19, w1, up_at]
        · rcases r2 with z | z
          · exact Or.inl ((n25 _ (by decide) (by decide)).trans z)
          · exact Or.inr (z.fr (fun t k ht => nt _ _ (by omega) (by omega)))
        · rw [up_t (by decide)]
          by_cases z : j = tn
          · rw [z, up_at]
            simp only [if_true]
          · rw [up_k (by omega), up_t (by decide)]
            simp only [if_neg z]
            exact r10 j (by omega)
    · have h60 : tn = 60 := by omega
      refine ch_fail (k := 2) (x := 1) (fcl := f_Map_append x G) hS0 hC0 ?_ (e_f_Law_append x G) (fun _ => rfl) (by decide) (fun G1 hR => ?_)
      · rw [e_f_Map_append, if_neg (show ¬(x < 32) by omega), if_neg (show ¬(126 < x) by omega), hC.2.2.2.2.1.1, if_neg (show ¬((tn : Int) < 60) by omega)]
      · show f_Mod_append x G1 = _
        rw [e_f_Mod_append, r_isIn_t h1, bI_r, if_neg i01, hR.2.2.2.2.1.1, if_pos (show (tn : Int) = 60 by omega), up_at, if_neg i02]
  · refine ch_fail (k := 1) (x := 0) (fcl := f_Map_append x G) hS0 hC0 ?_ (e_f_Law_append x G) (fun _ => rfl) (by decide) (fun G1 hR => ?_)
    · rw [e_f_Map_append]
      by_cases q : x < 32
      · rw [if_pos q]
      · rw [if_neg q, if_pos (show 126 < x by omega)]
    · show f_Mod_append x G1 = _
      rw [e_f_Mod_append, r_isIn_f h1, bI_r, if_pos rfl, up_at, if_neg i01]
/-- the error position -/
theorem ch_errorPosition : CHp G (f_Law_errorPosition G) (fun G1 => f_Mod_errorPosition G1) := by
  intro s c H sv K tn tx er hS hC
  have her := hS.2.2.2.2.2.2
  have e8 : G 0 0 8 = er := hC.2.2.2.2.2
  by_cases q : er = -1
  · refine ch_fail2 (k := 1) (x := 5) (fcl := f_Map_errorPosition G) hS hC ?_ (e_f_Law_errorPosition G) (fun _ => rfl) (by decide) (fun G1 hR => ⟨G1, ?_, hR, Fr.refl G1⟩)
    · rw [e_f_Map_errorPosition, e8, if_pos q]
    · have r23 : G1 25 0 23 = er := hR.2.2.2.2.2
      have hm : mMax 0 er = 0 := by unfold mMax; rw [q]; rfl
      show f_Mod_errorPosition G1 = _
      rw [e_f_Mod_errorPosition, r23, if_pos (show er < 0 by omega), up_k (show (23 : Int) ≠ 6 by decide), r23, hm]
  · have hm : mMax 0 er = er := by
      unfold mMax
      by_cases z : 0 < er
      · rw [if_pos z]
      · rw [if_neg z]; omega
    refine ch_ok (s' := s) (c' := c) (H' := H) (v := er) (fcl := f_Map_errorPosition G) hS ⟨G, ?_, hC, Fr.refl G, rfl⟩ (e_f_Law_errorPosition G) (fun G1 hR => ⟨up G1 25 0 6 0, ?_, up_at _ _ _ _ _, hR.up6 0, Fr.up _ _ _ ⟨by decide, by decide⟩⟩)
    · rw [e_f_Map_errorPosition, e8, if_neg q]
    · have r23 : G1 25 0 23 = er := hR.2.2.2.2.2
      show f_Mod_errorPosition G1 = _
      rw [e_f_Mod_errorPosition, r23, if_neg (show ¬(er < 0) by omega), up_k (show (23 : Int) ≠ 6 by decide), r23, hm]
end ADDC
