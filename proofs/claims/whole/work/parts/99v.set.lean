/-! ===== changes: a setting ===== -/
def limO (j : Nat) : Int := if j = 0 then 500 else if j = 1 then 20 else 9
section CH4
variable {s s' : Nat → Int} {G : GG} {c : Nat} {H : Nat → Nat → Int} {sv : Int} {K : Nat → Int} {tn : Nat} {tx : Nat → Int} {er : Int}
theorem Lm.lim (h : Lm G) {j : Nat} (hj : j < 3) : G 45 0 j = limO j := by
  rcases j with _ | _ | _ | j
  · exact h.1
  · exact h.2.1
  · exact h.2.2.1
  · omega
theorem r_set23 {L j : Nat} (hj : j < 3) (x : Int) (G : GG) : l_Mod_set_23 L j x 1 G = if 0 ≤ x ∧ x ≤ limO j then l_Mod_set_66 L j x 0 G else l_Mod_set_66 L j x 1 G := by
  have key : ∀ (a : Int), (bI (f_Mod_isIn x 0 a G) fun r2 G1 => if r2 = 0 then l_Mod_set_66 L j x 1 G1 else l_Mod_set_66 L j x 0 G1) = if 0 ≤ x ∧ x ≤ a then l_Mod_set_66 L j x 0 G else l_Mod_set_66 L j x 1 G := fun a => by
    by_cases h : 0 ≤ x ∧ x ≤ a
    · rw [r_isIn_t h, if_pos h, bI_r, if_neg i01]
    · rw [r_isIn_f h, if_neg h, bI_r, if_pos rfl]
  rw [e_l_Mod_set_23, if_neg i01]
  rcases j with _ | _ | _ | j
  · rw [if_pos (by decide)]
    exact key 500
  · rw [if_neg (by decide), if_pos (by decide)]
    exact key 20
  · rw [if_neg (by decide), if_neg (by decide)]
    exact key 9
  · omega
theorem ok_set (hs : okM s) {L j : Nat} (Lb : 1 ≤ L ∧ L < 5) (jb : j < 3) {x3 : Int} (h3 : 0 ≤ x3 ∧ x3 ≤ limO j) : okM (upS s (280 + (3 * L + j)) x3) := by
  have hst := hs.2.2.2.2.2.2.2.1
  obtain ⟨a1, a2, a3⟩ := okA_ag (s' := upS s (280 + (3 * L + j)) x3) hs (fun j hj => upS_ne (by omega))
  obtain ⟨b1, b2⟩ := okB_ag (s' := upS s (280 + (3 * L + j)) x3) hs (fun j _ hj => upS_ne (by omega))
  have hst2 : ∀ m : Nat, mSt (upS s (280 + (3 * L + j)) x3) m = if m = 3 * L + j then x3 else mSt s m := fun m => by
    unfold mSt
    by_cases z : m = 3 * L + j
    · rw [z, upS_at, if_pos rfl]
    · rw [upS_ne (by omega), if_neg z]
  refine ⟨a1, a2, a3, b1, b2, okO_ag hs.2.2.2.2.2.1 (fun j _ hj => upS_ne (by omega)), fun q hq => ?_, ⟨fun M hM => ?_, ?_, ?_, ?_⟩, ?_⟩
  · rw [upS_ne (by omega)]
    exact hs.2.2.2.2.2.2.1 q hq
  · have h9 := hst.1 M hM
    rw [hst2, hst2, hst2]
    unfold limO at h3
    refine ⟨?_, ?_, ?_⟩
    · by_cases z : 3 * M = 3 * L + j
      · rw [if_pos z]
        rw [if_pos (show j = 0 by omega)] at h3
        exact h3
      · rw [if_neg z]
        exact h9.1
    · by_cases z : 3 * M + 1 = 3 * L + j
      · rw [if_pos z]
        rw [if_neg (show ¬(j = 0) by omega), if_pos (show j = 1 by omega)] at h3
        exact h3
      · rw [if_neg z]
        exact h9.2.1
    · by_cases z : 3 * M + 2 = 3 * L + j
      · rw [if_pos z]
        rw [if_neg (show ¬(j = 0) by omega), if_neg (show ¬(j = 1) by omega)] at h3
        exact h3
      · rw [if_neg z]
        exact h9.2.2
  · rw [hst2, if_neg (by omega)]
    exact hst.2.1
  · rw [hst2, if_neg (by omega)]
    exact hst.2.2.1
  · rw [hst2, if_neg (by omega)]
    exact hst.2.2.2
  · rw [upS_ne (by omega)]
    exact hs.2.2.2.2.2.2.2.2
theorem sh_set (hs : okM s) {L j : Nat} (Lb : 1 ≤ L ∧ L < 5) (jb : j < 3) (x3 : Int) {G2 : GG} (hh : ShC G2 0 s) : ShC (up G2 12 0 ((3 * L + j : Nat) : Int) x3) 0 (upS s (280 + (3 * L + j)) x3) := by
  refine ⟨(hh.1.ag hs.2.1 (fun j hj => upS_ne (by omega))).fr (up_t (by decide)) (fun k => up_t (by decide)) (fun k => up_t (by decide)), (hh.2.1.ag hs.2.2.2.2.1 (fun j _ hj => upS_ne (by omega))).fr (up_t (by decide)) (fun k => up_t (by decide)), fun f hf => (up_t (by decide)).trans (hh.2.2.1.ag (fun j _ hj => upS_ne (by omega)) f hf), fun q hq => ?_, fun m hm => ?_, ?_⟩
  · rw [up_t (by decide), upS_ne (by omega)]
    exact hh.2.2.2.1 q hq
  · unfold mSt
    by_cases z : m = 3 * L + j
    · rw [z, up_at, upS_at]
    · rw [up_k (by omega), upS_ne (by omega)]
      exact hh.2.2.2.2.1 m hm
  · rw [up_t (by decide), upS_ne (by omega)]
    exact hh.2.2.2.2.2
theorem w_set {L j : Nat} (hL : L < 5) (hj : j < 3) : wr ((wr ((L : Int) * 3)) + (j : Int)) = ((3 * L + j : Nat) : Int) ∧ (0 : Int) ≤ ((3 * L + j : Nat) : Int) ∧ ((3 * L + j : Nat) : Int) < 15 := by
  refine ⟨?_, by omega, by omega⟩
  rw [wr_id (z := (L : Int) * 3) (by omega) (by omega), wr_id (by omega) (by omega)]
  omega
theorem w_setR {L j : Nat} (hL : L < 5) (hj : j < 3) : wr (wr (280 + wr (3 * (L : Int))) + (j : Int)) = ((280 + (3 * L + j) : Nat) : Int) ∧ (0 : Int) ≤ ((280 + (3 * L + j) : Nat) : Int) ∧ ((280 + (3 * L + j) : Nat) : Int) < 296 := by
  refine ⟨?_, by omega, by omega⟩
  rw [wr_id (z := 3 * (L : Int)) (by omega) (by omega), wr_id (z := 280 + 3 * (L : Int)) (by omega) (by omega), wr_id (by omega) (by omega)]
  omega
theorem wm_set {L : Nat} (h : 1 ≤ L ∧ L < 5) : wr ((L : Int) - 1) = ((L - 1 : Nat) : Int) := by
  rw [wr_id (by omega) (by omega)]
  omega
/-- what the class does with a setting that is in range -/
theorem g_set (hT : Lm G) (hs : okM s) (hC : ShC G 0 s) {L j : Nat} (Lb : 1 ≤ L ∧ L < 5) (jb : j < 3) {x3 : Int} (h3 : 0 ≤ x3 ∧ x3 ≤ limO j) : f_Map_set L j x3 G =
    if x3 < mSt s (3 * (L - 1) + j) ∨ (L < 4 ∧ mSt s (3 * (L + 1) + j) < x3) then rX 1 (bump G) else bV (f_Map_beginChange G) fun G11 => bI (f_She_settingOf 0 (L : Int) (j : Int) G11) fun r13 G12 => if 0 ≤ wr ((wr ((L : Int) * 3)) + (j : Int)) ∧ wr ((wr ((L : Int) * 3)) + (j : Int)) < 15 then rI r13 (up G12 12 0 (wr ((wr ((L : Int) * 3)) + (j : Int))) x3) else none := by
  have hStC := hC.2.2.2.2.1
  have h1 : 1 ≤ (L : Int) ∧ (L : Int) ≤ 4 := by omega
  have h2 : 0 ≤ (j : Int) ∧ (j : Int) ≤ 2 := by omega
  have cj : 0 ≤ (j : Int) ∧ (j : Int) < 3 := by omega
  have e1 : f_She_settingOf 0 ((L - 1 : Nat) : Int) (j : Int) G = rI (mSt s (3 * (L - 1) + j)) G := g_setOf hStC (by omega) jb
  rw [e_f_Map_set, g_within_t h1, bI_r, if_neg i01, g_within_t h2, bI_r, if_neg i01, if_pos cj, hT.lim jb, g_within_t h3, bI_r, if_neg i01, wm_set Lb, e1, bI_r]
  by_cases h4 : x3 < mSt s (3 * (L - 1) + j)
  · rw [if_pos h4, if_pos (Or.inl h4)]
  · rw [if_neg h4]
    by_cases c4 : L < 4
    · have e2 : f_She_settingOf 0 ((L + 1 : Nat) : Int) (j : Int) G = rI (mSt s (3 * (L + 1) + j)) G := g_setOf hStC (by omega) jb
      rw [if_pos (show (L : Int) < 4 by omega), wr_sc (show L < 5 by omega) (by decide), e2, bI_r]
      by_cases h5 : mSt s (3 * (L + 1) + j) < x3
      · rw [if_pos h5, if_pos (Or.inr ⟨c4, h5⟩)]
      · rw [if_neg h5, if_neg (fun z => z.elim h4 (fun y => h5 y.2))]
    · rw [if_neg (show ¬((L : Int) < 4) by omega), if_neg (fun z => z.elim h4 (fun y => c4 y.1))]
theorem r_set (hs : okM s) {G1 : GG} (hR : RoR G1 26 s) {L j : Nat} (Lb : 1 ≤ L ∧ L < 5) (jb : j < 3) {x3 : Int} (h3 : 0 ≤ x3 ∧ x3 ≤ limO j) : f_Mod_set L j x3 G1 =
    if x3 < mSt s (3 * (L - 1) + j) ∨ (L < 4 ∧ mSt s (3 * (L + 1) + j) < x3) then rI 0 (up G1 25 0 6 2) else bV (f_Mod_keeps (up G1 25 0 6 0)) fun G2 => bI (f_Mod_of (L : Int) (j : Int) G2) fun r3 G3 => if 0 ≤ wr ((wr (280 + (wr (3 * (L : Int))))) + (j : Int)) ∧ wr ((wr (280 + (wr (3 * (L : Int))))) + (j : Int)) < 296 then rI r3 (up G3 26 0 (wr ((wr (280 + (wr (3 * (L : Int))))) + (j : Int))) x3) else none := by
  have h1 : 1 ≤ (L : Int) ∧ (L : Int) ≤ 4 := by omega
  have h2 : 0 ≤ (j : Int) ∧ (j : Int) ≤ 2 := by omega
  have hR0 : RoR (up G1 25 0 6 0) 26 s := hR.fr (fun k => up_t (by decide))
  have o1 : f_Mod_of ((L - 1 : Nat) : Int) (j : Int) (up G1 25 0 6 0) = rI (mSt s (3 * (L - 1) + j)) (up G1 25 0 6 0) := r_of hs hR0 (by omega) jb
  have hbad : l_Mod_set_127 L j x3 2 (up G1 25 0 6 0) = rI 0 (up G1 25 0 6 2) := by rw [e_l_Mod_set_127, up_up, up_at, if_neg i02]
  have hgood : l_Mod_set_127 L j x3 0 (up G1 25 0 6 0) = bV (f_Mod_keeps (up G1 25 0 6 0)) fun G2 => bI (f_Mod_of (L : Int) (j : Int) G2) fun r3 G3 => if 0 ≤ wr ((wr (280 + (wr (3 * (L : Int))))) + (j : Int)) ∧ wr ((wr (280 + (wr (3 * (L : Int))))) + (j : Int)) < 296 then rI r3 (up G3 26 0 (wr ((wr (280 + (wr (3 * (L : Int))))) + (j : Int))) x3) else none := by rw [e_l_Mod_set_127, up_up, up_at, if_pos rfl]
  rw [e_f_Mod_set, r_isIn_t h1, bI_r, if_neg i01, r_isIn_t h2, bI_r, if_neg i01, r_set23 jb, if_pos h3, e_l_Mod_set_66, up_at, if_pos rfl, wm_set Lb, o1, bI_r]
  by_cases h4 : x3 < mSt s (3 * (L - 1) + j)
  · rw [if_pos h4, if_pos (Or.inl h4), e_l_Mod_set_95, if_neg i01]
    exact hbad
  · rw [if_neg h4, e_l_Mod_set_95, if_pos rfl, wr_sc (show L < 5 by omega) (by decide)]
    by_cases c4 : L < 4
    · have o2 : f_Mod_of ((L + 1 : Nat) : Int) (j : Int) (up G1 25 0 6 0) = rI (mSt s (3 * (L + 1) + j)) (up G1 25 0 6 0) := r_of hs hR0 (by omega) jb
      rw [if_pos (show ((L + 1 : Nat) : Int) < 5 by omega), o2, bI_r]
      by_cases h5 : mSt s (3 * (L + 1) + j) < x3
      · rw [if_pos h5, if_pos (Or.inr ⟨c4, h5⟩)]
        exact hbad
      · rw [if_neg h5, if_neg (fun z => z.elim h4 (fun y => h5 y.2))]
        exact hgood
    · rw [if_neg (show ¬(((L + 1 : Nat) : Int) < 5) by omega), if_neg (fun z => z.elim h4 (fun y => c4 y.1))]
      exact hgood
theorem ch_set (hT : Lm G) (x1 x2 x3 : Int) : CHp G (f_Law_set x1 x2 x3 G) (fun G1 => f_Mod_set x1 x2 x3 G1) := by
  intro s c H sv K tn tx er hS hC
  have hs := hS.1
  by_cases h1 : 1 ≤ x1 ∧ x1 ≤ 4
  · obtain ⟨L, rfl⟩ : ∃ L : Nat, x1 = (L : Int) := ⟨x1.toNat, by omega⟩
    have Lb : 1 ≤ L ∧ L < 5 := by omega
    by_cases h2 : 0 ≤ x2 ∧ x2 ≤ 2
    · obtain ⟨j, rfl⟩ : ∃ j : Nat, x2 = (j : Int) := ⟨x2.toNat, by omega⟩
      have jb : j < 3 := by omega
      by_cases h3 : 0 ≤ x3 ∧ x3 ≤ limO j
      · have ec := g_set hT hs hC.1 Lb jb h3
        have er9 : ∀ G1, IR G1 s c H sv K tn tx er → _ := fun G1 hR => r_set hs hR.1 Lb jb h3
        by_cases h4 : x3 < mSt s (3 * (L - 1) + j) ∨ (L < 4 ∧ mSt s (3 * (L + 1) + j) < x3)
        · rw [if_pos h4] at ec
          exact ch_fail (k := 2) (x := 1) (fcl := f_Map_set (L : Int) (j : Int) x3 G) hS hC ec (e_f_Law_set (L : Int) (j : Int) x3 G) (fun _ => rfl) (by decide) (fun G1 hR => (er9 G1 hR).trans (if_pos h4))
        · rw [if_neg h4] at ec
          have hs' := ok_set hs Lb jb h3
          refine ch_ok (s' := upS s (280 + (3 * L + j)) x3) (v := mSt s (3 * L + j)) (hS.map hs') (kc_ok (r := f_Map_set (L : Int) (j : Int) x3 G) hS hC hs' ec (fun G2 hh => ?_)) (e_f_Law_set (L : Int) (j : Int) x3 G) (fun G1 hR => kr_ok hS.2.1 hR ((er9 G1 hR).trans (if_neg h4)) (fun G2 hh => ?_))
          · obtain ⟨w9, c9⟩ := w_set (j := j) Lb.2 jb
            refine ⟨up G2 12 0 ((3 * L + j : Nat) : Int) x3, ?_, sh_set hs Lb jb x3 hh, Fr.up _ _ _ ⟨rfl, by decide⟩⟩
            rw [g_setOf hh.2.2.2.2.1 Lb.2 jb, bI_r, w9, if_pos c9]
          · obtain ⟨w9, c9⟩ := w_setR (j := j) Lb.2 jb
            refine ⟨up G2 26 0 ((280 + (3 * L + j) : Nat) : Int) x3, ?_, ror_up hh rfl x3, Fr.up _ _ _ rfl⟩
            rw [r_of hs hh Lb.2 jb, bI_r, w9, if_pos c9]
      · have cj : 0 ≤ (j : Int) ∧ (j : Int) < 3 := by omega
        refine ch_fail (k := 1) (x := 0) (fcl := f_Map_set (L : Int) (j : Int) x3 G) hS hC ?_ (e_f_Law_set (L : Int) (j : Int) x3 G) (fun _ => rfl) (by decide) (fun G1 hR => ?_)
        · rw [e_f_Map_set, g_within_t h1, bI_r, if_neg i01, g_within_t h2, bI_r, if_neg i01, if_pos cj, hT.lim jb, g_within_f h3, bI_r, if_pos rfl]
        · show f_Mod_set (L : Int) (j : Int) x3 G1 = _
          rw [e_f_Mod_set, r_isIn_t h1, bI_r, if_neg i01, r_isIn_t h2, bI_r, if_neg i01, r_set23 jb, if_neg h3, e_l_Mod_set_66, up_at, if_neg i01]
    · refine ch_fail (k := 1) (x := 0) (fcl := f_Map_set (L : Int) x2 x3 G) hS hC ?_ (e_f_Law_set (L : Int) x2 x3 G) (fun _ => rfl) (by decide) (fun G1 hR => ?_)
      · rw [e_f_Map_set, g_within_t h1, bI_r, if_neg i01, g_within_f h2, bI_r, if_pos rfl]
      · show f_Mod_set (L : Int) x2 x3 G1 = _
        rw [e_f_Mod_set, r_isIn_t h1, bI_r, if_neg i01, r_isIn_f h2, bI_r, if_pos rfl, e_l_Mod_set_23, if_pos rfl, e_l_Mod_set_66, up_at, if_neg i01]
  · refine ch_fail (k := 1) (x := 0) (fcl := f_Map_set x1 x2 x3 G) hS hC ?_ (e_f_Law_set x1 x2 x3 G) (fun _ => rfl) (by decide) (fun G1 hR => ?_)
    · rw [e_f_Map_set, g_within_f h1, bI_r, if_pos rfl]
    · show f_Mod_set x1 x2 x3 G1 = _
      rw [e_f_Mod_set, r_isIn_f h1, bI_r, if_pos rfl, e_l_Mod_set_23, if_pos rfl, e_l_Mod_set_66, up_at, if_neg i01]
end CH4
