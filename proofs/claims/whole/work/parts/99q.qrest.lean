/-! ===== questions: the rest ===== -/
section QREST
variable {s : Nat → Int} {G : GG}
theorem q_became (hs : okM s) (hS : ShC G 0 s) (hC : CC G s) (x1 x2 : Int) : ∃ k v, QAc s G (f_Law_became x1 x2 G) k v ∧ ∀ G1, RoR G1 26 s → RC G1 s → QAr s G1 (f_Mod_became x1 x2 G1) k v := by
  by_cases h1 : 0 ≤ x1 ∧ x1 ≤ 4
  · obtain ⟨L, rfl⟩ : ∃ L : Nat, x1 = (L : Int) := ⟨x1.toNat, by omega⟩
    have Lb : L < 5 := by omega
    by_cases h2 : 0 ≤ x2 ∧ x2 ≤ 15
    · obtain ⟨p, rfl⟩ : ∃ p : Nat, x2 = (p : Int) := ⟨x2.toNat, by omega⟩
      have pb : p < 16 := by omega
      have hfa := fi_ar (mOw s) (p : Int)
      have har := (ar_bd (mOw s) (p : Int)).1
      by_cases h3 : fiO (mOw s) (p : Int) = -1
      · have h4 : arO (mOw s) (p : Int) = 0 := by have := hfa.mp h3; omega
        refine ⟨3, 0, qa_x (x := 5) (r := f_Map_became (L : Int) (p : Int) G) (qm_x hC ?_) (e_f_Law_became (L : Int) (p : Int) G) (fun _ => rfl) (by decide), fun G1 hR1 hC1 => qr_x hC1 ?_ (by decide)⟩
        · simp only [e_f_Map_became, g_level_t h1, g_parcel_t h2, g_firstField hS.2.2.1, bV_r, bI_r, if_pos h3]
        · simp only [e_f_Mod_became, r_level_t h1, r_parcel_t h2, r_fieldsOf hR1, if_pos h4, bI_r, bV_r, ↓reduceIte, up_at, i01, i02, i03]
      · have h4 : ¬(arO (mOw s) (p : Int) = 0) := fun z => h3 (hfa.mpr (by omega))
        obtain ⟨f, f64, hof, hf⟩ : ∃ f : Nat, f < 64 ∧ mOw s f = (p : Int) ∧ fiO (mOw s) (p : Int) = (f : Int) := by
          rcases firO_spec (f := fun f => decide (mOw s f = (p : Int))) 64 0 with ⟨z, -⟩ | ⟨k, _, z2, z3, z4, -⟩
          · exact absurd z h3
          · exact ⟨k, by omega, of_decide_eq_true z3, z4⟩
        refine ⟨0, owM s L f, qa_v (r := f_Map_became (L : Int) (p : Int) G) ?_ (e_f_Law_became (L : Int) (p : Int) G), fun G1 hR1 hC1 => ?_⟩
        · have e := e_f_Map_became (L : Int) (p : Int) G
          simp only [g_level_t h1, g_parcel_t h2, g_firstField hS.2.2.1, bV_r, bI_r, if_neg h3] at e
          refine qm_parcels hs hS hC Lb e (fun G2 h8 hO8 => ⟨G2, ?_, Fr.refl G2⟩)
          rw [hf, if_pos (show 0 ≤ (f : Int) ∧ (f : Int) < 64 by omega), hO8 f f64]
        · have e := e_f_Mod_became (L : Int) (p : Int) G1
          simp only [r_level_t h1, r_parcel_t h2, r_fieldsOf hR1, if_neg h4, bI_r, bV_r, ↓reduceIte, up_at, i01, i02, i03] at e
          have a0 : wr (wr (16 * (L : Int)) + (p : Int)) = 16 * (L : Int) + (p : Int) := by rw [wr_id (z := 16 * (L : Int)) (by omega) (by omega), wr_id (by omega) (by omega)]
          have c0 : 0 ≤ 16 * (L : Int) + (p : Int) ∧ 16 * (L : Int) + (p : Int) < 80 := by omega
          refine qr_knows hs hR1 hC1 e (fun G2 hR2 hK2 => ?_)
          have hb : owM s L f = bcM s L p := bcLv_follow hof L
          rw [a0, if_pos c0, (hK2 L Lb).2.2.1 p pb, hb]
    · refine ⟨2, 0, qa_x (x := 2) (r := f_Map_became (L : Int) x2 G) (qm_x hC ?_) (e_f_Law_became (L : Int) x2 G) (fun _ => rfl) (by decide), fun G1 hR1 hC1 => qr_x hC1 ?_ (by decide)⟩
      · simp only [e_f_Map_became, g_level_t h1, g_parcel_f h2, bV_r, bV_x]
      · simp only [e_f_Mod_became, r_level_t h1, r_parcel_f h2, bI_r, bV_r, ↓reduceIte, up_at, i01, i02, i03]
  · refine ⟨1, 0, qa_x (x := 0) (r := f_Map_became x1 x2 G) (qm_x hC ?_) (e_f_Law_became x1 x2 G) (fun _ => rfl) (by decide), fun G1 hR1 hC1 => qr_x hC1 ?_ (by decide)⟩
    · simp only [e_f_Map_became, g_level_f h1, bV_x]
    · simp only [e_f_Mod_became, r_level_f h1, bI_r, bV_r, ↓reduceIte, up_at, i01, i02, i03]
theorem q_refusal (hs : okM s) (hS : ShC G 0 s) (hC : CC G s) (x1 x2 x3 : Int) : ∃ k v, QAc s G (f_Law_refusal x1 x2 x3 G) k v ∧ ∀ G1, RoR G1 26 s → RC G1 s → QAr s G1 (f_Mod_refusal x1 x2 x3 G1) k v := by
  have ho := hs.2.2.2.2.1
  have hp6 : mNp s ≤ 60 := Nat.le_trans ho.1 (by decide)
  by_cases h1 : 0 ≤ x1 ∧ x1 ≤ 4
  · obtain ⟨L, rfl⟩ : ∃ L : Nat, x1 = (L : Int) := ⟨x1.toNat, by omega⟩
    have Lb : L < 5 := by omega
    by_cases h2 : 0 ≤ x3 ∧ x3 ≤ 3
    · by_cases h3 : 0 ≤ x2 ∧ x2 < (mNp s : Int)
      · obtain ⟨p, rfl⟩ : ∃ p : Nat, x2 = (p : Int) := ⟨x2.toNat, by omega⟩
        have pb : p < mNp s := by omega
        cases h4 : shO (mPt s) (lrM s L) p with
        | false =>
          have h5 : b2i (shO (mPt s) (lrM s L) p) = 0 := by rw [h4]; rfl
          refine ⟨3, 0, qa_x (x := 1) (r := f_Map_refusal (L : Int) (p : Int) x3 G) (qm_x hC ?_) (e_f_Law_refusal (L : Int) (p : Int) x3 G) (fun _ => rfl) (by decide), fun G1 hR1 hC1 => qr_x hC1 ?_ (by decide)⟩
          · simp only [e_f_Map_refusal, g_level_t h1, g_within_t h2, g_point_t hS.2.1.1 h3, g_isShown hs hS Lb pb, h5, bV_r, bI_r, ↓reduceIte, i01]
          · have es : f_Mod_isShown L p G1 = rI (b2i (shO (mPt s) (lrM s L) p)) G1 := r_isShown (hR1.pt hs) ho hs.2.2.2.2.2.2.2.1 hR1.st Lb pb
            simp only [e_f_Mod_refusal, r_level_t h1, r_isIn_t h2, r_point_t (hR1.np hs) hp6 h3, es, h5, bI_r, bV_r, ↓reduceIte, up_at, i01, i02, i03]
        | true =>
          have h5 : ¬(b2i (shO (mPt s) (lrM s L) p) = 0) := by rw [h4]; decide
          refine ⟨0, rsL (mNp s) (mPt s) (lrM s L) (mNl s) (lvM s L).1 (cdM (mCd s) (lvM s L).2) (plM s L) p x3, qa_v (r := f_Map_refusal (L : Int) (p : Int) x3 G) ?_ (e_f_Law_refusal (L : Int) (p : Int) x3 G), fun G1 hR1 hC1 => ?_⟩
          · have e := e_f_Map_refusal (L : Int) (p : Int) x3 G
            simp only [g_level_t h1, g_within_t h2, g_point_t hS.2.1.1 h3, g_isShown hs hS Lb pb, if_neg h5, bV_r, bI_r, ↓reduceIte, i01] at e
            refine qm_labels hs hS hC Lb e (fun G2 h8 hP8 hm8 hl8 hL8 => ?_)
            rw [g_reason h8.2.1 ho hl8 hP8 (plM_ok hm8) hL8 (lvM_ok hs L) pb h2.1]
            rfl
          · have es : f_Mod_isShown L p G1 = rI (b2i (shO (mPt s) (lrM s L) p)) G1 := r_isShown (hR1.pt hs) ho hs.2.2.2.2.2.2.2.1 hR1.st Lb pb
            have e := e_f_Mod_refusal (L : Int) (p : Int) x3 G1
            simp only [r_level_t h1, r_isIn_t h2, r_point_t (hR1.np hs) hp6 h3, es, if_neg h5, bI_r, bV_r, ↓reduceIte, up_at, i01, i02, i03] at e
            refine qr_looks hs hR1 hC1 Lb e (fun G2 hR2 hK2 hV2 => ?_)
            have e9 : f_Mod_refused L p x3 G2 = rI (rsL (mNp s) (mPt s) (lrM s L) (mNl s) (lvM s L).1 (cdM (mCd s) (lvM s L).2) (plM s L) p x3) G2 := r_refused (hR2.pt hs) ho hs.2.2.2.2.2.2.2.1 hR2.st Lb (hK2 L Lb).2.2.2.1 (plM_ok (hK2 L Lb).2.2.2.2) hV2 (lvM_ok hs L) pb x3
            rw [e9]
            rfl
      · refine ⟨2, 0, qa_x (x := 2) (r := f_Map_refusal (L : Int) x2 x3 G) (qm_x hC ?_) (e_f_Law_refusal (L : Int) x2 x3 G) (fun _ => rfl) (by decide), fun G1 hR1 hC1 => qr_x hC1 ?_ (by decide)⟩
        · simp only [e_f_Map_refusal, g_level_t h1, g_within_t h2, g_point_f hS.2.1.1 h3, bV_r, bV_x, bI_r, ↓reduceIte, i01]
        · simp only [e_f_Mod_refusal, r_level_t h1, r_isIn_t h2, r_point_f (hR1.np hs) hp6 h3, bI_r, bV_r, ↓reduceIte, up_at, i01, i02, i03]
    · refine ⟨1, 0, qa_x (x := 0) (r := f_Map_refusal (L : Int) x2 x3 G) (qm_x hC ?_) (e_f_Law_refusal (L : Int) x2 x3 G) (fun _ => rfl) (by decide), fun G1 hR1 hC1 => qr_x hC1 ?_ (by decide)⟩
      · simp only [e_f_Map_refusal, g_level_t h1, g_within_f h2, bV_r, bI_r, ↓reduceIte]
      · simp only [e_f_Mod_refusal, r_level_t h1, r_isIn_f h2, bI_r, bV_r, ↓reduceIte, up_at, i01, i02, i03]
  · refine ⟨1, 0, qa_x (x := 0) (r := f_Map_refusal x1 x2 x3 G) (qm_x hC ?_) (e_f_Law_refusal x1 x2 x3 G) (fun _ => rfl) (by decide), fun G1 hR1 hC1 => qr_x hC1 ?_ (by decide)⟩
    · simp only [e_f_Map_refusal, g_level_f h1, bV_x]
    · simp only [e_f_Mod_refusal, r_level_f h1, bI_r, bV_r, ↓reduceIte, up_at, i01, i02, i03]
theorem la_x (x1 x2 x3 : Int) {k : Int} (hk : ¬(k = 0)) (G : GG) : l_Mod_labelAt_30 x1 x2 x3 (-1) 0 (up G 25 0 6 k) = rI 0 (up G 25 0 6 k) := by
  rw [e_l_Mod_labelAt_30, up_at]
  simp only [if_neg hk]
  split <;> rfl
theorem cv_x (x1 : Int) {k : Int} (hk : ¬(k = 0)) (G : GG) : l_Mod_covered_20 x1 0 0 (up G 25 0 6 k) = rI 0 (up G 25 0 6 k) := by
  rw [e_l_Mod_covered_20, up_at]
  simp only [if_neg hk]
  split <;> rfl
theorem po_x (x1 : Int) {k : Int} (hk : ¬(k = 0)) (G : GG) : l_Mod_placedOn_21 x1 0 0 (up G 25 0 6 k) = rI 0 (up G 25 0 6 k) := by
  rw [e_l_Mod_placedOn_21, up_at]
  simp only [if_neg hk]
  split <;> rfl
theorem q_labelAt (hs : okM s) (hS : ShC G 0 s) (hC : CC G s) (x1 x2 x3 : Int) : ∃ k v, QAc s G (f_Law_labelAt x1 x2 x3 G) k v ∧ ∀ G1, RoR G1 26 s → RC G1 s → QAr s G1 (f_Mod_labelAt x1 x2 x3 G1) k v := by
  have ho := hs.2.2.2.2.1
  by_cases h1 : 0 ≤ x1 ∧ x1 ≤ 4
  · obtain ⟨L, rfl⟩ : ∃ L : Nat, x1 = (L : Int) := ⟨x1.toNat, by omega⟩
    have Lb : L < 5 := by omega
    by_cases h2 : isXY x2 x3
    · refine ⟨0, firO 0 (mNp s) (laF (mPt s) (plM s L) x2 x3), qa_v (r := f_Map_labelAt (L : Int) x2 x3 G) ?_ (e_f_Law_labelAt (L : Int) x2 x3 G), fun G1 hR1 hC1 => ?_⟩
      · have e := e_f_Map_labelAt (L : Int) x2 x3 G
        simp only [g_level_t h1, g_rpos_t h2, bV_r] at e
        refine qm_labels hs hS hC Lb e (fun G2 h8 hP8 hm8 hl8 hL8 => ?_)
        rw [g_labelOver ho (plM_ok hm8) h8.2.1 hP8]
        rfl
      · have e := e_f_Mod_labelAt (L : Int) x2 x3 G1
        simp only [r_level_t h1, r_place_t h2, bI_r, ↓reduceIte, i01] at e
        have hx : 0 ≤ x2 ∧ x2 < 64 := by unfold isXY at h2; omega
        have hy : 0 ≤ x3 ∧ x3 < 64 := by unfold isXY at h2; omega
        obtain ⟨G2, e2, hC2, hF, h25⟩ := r_labelAt (G := up G1 25 0 6 0) hs (hR1.fr (fun k => up_t (by decide))) (hC1.up6 0) (up_at _ _ _ _ _) Lb hx hy
        exact qr_fin hC2 hF h25 (e.trans e2)
    · refine ⟨1, 0, qa_x (x := 0) (r := f_Map_labelAt (L : Int) x2 x3 G) (qm_x hC ?_) (e_f_Law_labelAt (L : Int) x2 x3 G) (fun _ => rfl) (by decide), fun G1 hR1 hC1 => qr_x hC1 ?_ (by decide)⟩
      · simp only [e_f_Map_labelAt, g_level_t h1, g_rpos_f h2, bV_r, bV_x]
      · simp only [e_f_Mod_labelAt, r_level_t h1, r_place_f h2, bI_r, ↓reduceIte, i01, la_x (k := 1) _ _ _ i01]
  · refine ⟨1, 0, qa_x (x := 0) (r := f_Map_labelAt x1 x2 x3 G) (qm_x hC ?_) (e_f_Law_labelAt x1 x2 x3 G) (fun _ => rfl) (by decide), fun G1 hR1 hC1 => qr_x hC1 ?_ (by decide)⟩
    · simp only [e_f_Map_labelAt, g_level_f h1, bV_x]
    · simp only [e_f_Mod_labelAt, r_level_f h1, bI_r, ↓reduceIte, i01, la_x (k := 1) _ _ _ i01]
theorem q_covered (hs : okM s) (hS : ShC G 0 s) (hC : CC G s) (x1 : Int) : ∃ k v, QAc s G (f_Law_covered x1 G) k v ∧ ∀ G1, RoR G1 26 s → RC G1 s → QAr s G1 (f_Mod_covered x1 G1) k v := by
  have ho := hs.2.2.2.2.1
  by_cases h1 : 0 ≤ x1 ∧ x1 ≤ 4
  · obtain ⟨L, rfl⟩ : ∃ L : Nat, x1 = (L : Int) := ⟨x1.toNat, by omega⟩
    have Lb : L < 5 := by omega
    refine ⟨0, cvS (mNp s) (mPt s) (plM s L), qa_v (r := f_Map_covered (L : Int) G) ?_ (e_f_Law_covered (L : Int) G), fun G1 hR1 hC1 => ?_⟩
    · have e := e_f_Map_covered (L : Int) G
      simp only [g_level_t h1, bV_r] at e
      refine qm_labels hs hS hC Lb e (fun G2 h8 hP8 hm8 hl8 hL8 => ?_)
      rw [g_coveredAll ho h8.2.1 hP8]
      rfl
    · have e := e_f_Mod_covered (L : Int) G1
      simp only [r_level_t h1, bI_r, ↓reduceIte, i01] at e
      obtain ⟨G2, e2, hC2, hF, h25⟩ := r_covered (G := up G1 25 0 6 0) hs (hR1.fr (fun k => up_t (by decide))) (hC1.up6 0) (up_at _ _ _ _ _) Lb
      exact qr_fin hC2 hF h25 (e.trans e2)
  · refine ⟨1, 0, qa_x (x := 0) (r := f_Map_covered x1 G) (qm_x hC ?_) (e_f_Law_covered x1 G) (fun _ => rfl) (by decide), fun G1 hR1 hC1 => qr_x hC1 ?_ (by decide)⟩
    · simp only [e_f_Map_covered, g_level_f h1, bV_x]
    · simp only [e_f_Mod_covered, r_level_f h1, bI_r, ↓reduceIte, i01, cv_x (k := 1) _ i01]
theorem q_placedOn (hs : okM s) (hS : ShC G 0 s) (hC : CC G s) (x1 : Int) : ∃ k v, QAc s G (f_Law_placedOn x1 G) k v ∧ ∀ G1, RoR G1 26 s → RC G1 s → QAr s G1 (f_Mod_placedOn x1 G1) k v := by
  have hp6 : mNp s ≤ 60 := Nat.le_trans hs.2.2.2.2.1.1 (by decide)
  by_cases h1 : 0 ≤ x1 ∧ x1 < (mNp s : Int)
  · obtain ⟨p, rfl⟩ : ∃ p : Nat, x1 = (p : Int) := ⟨x1.toNat, by omega⟩
    have pb : p < mNp s := by omega
    refine ⟨0, ((poO s p : Nat) : Int), qa_v (r := f_Map_placedOn (p : Int) G) ?_ (e_f_Law_placedOn (p : Int) G), fun G1 hR1 hC1 => ?_⟩
    · have e := e_f_Map_placedOn (p : Int) G
      simp only [g_point_t hS.2.1.1 h1, bV_r] at e
      obtain ⟨G2, e2, hC2, hF2⟩ := g_placedOn hs pb 5 0 0 G rfl (by decide) hS hC
      exact ⟨G2, e.trans e2, hC2, hF2⟩
    · have e := e_f_Mod_placedOn (p : Int) G1
      simp only [r_point_t (hR1.np hs) hp6 h1, bI_r, ↓reduceIte, i01] at e
      obtain ⟨G2, e2, hC2, hF, h25⟩ := r_placedOn (G := up G1 25 0 6 0) hs (hR1.fr (fun k => up_t (by decide))) (hC1.up6 0) (up_at _ _ _ _ _) pb
      exact qr_fin hC2 hF h25 (e.trans e2)
  · refine ⟨1, 0, qa_x (x := 2) (r := f_Map_placedOn x1 G) (qm_x hC ?_) (e_f_Law_placedOn x1 G) (fun _ => rfl) (by decide), fun G1 hR1 hC1 => qr_x hC1 ?_ (by decide)⟩
    · simp only [e_f_Map_placedOn, g_point_f hS.2.1.1 h1, bV_x]
    · simp only [e_f_Mod_placedOn, r_point_f (hR1.np hs) hp6 h1, bI_r, ↓reduceIte, i01, po_x (k := 1) _ i01]
theorem mMin_c (a b : Nat) : mMin (a : Int) (b : Int) = ((min a b : Nat) : Int) := by unfold mMin; split <;> omega
theorem mMax_c (a b : Nat) : mMax (a : Int) (b : Int) = ((max a b : Nat) : Int) := by unfold mMax; split <;> omega
theorem q_removed (hs : okM s) (hS : ShC G 0 s) (hC : CC G s) (x1 x2 : Int) : ∃ k v, QAc s G (f_Law_removed x1 x2 G) k v ∧ ∀ G1, RoR G1 26 s → RC G1 s → QAr s G1 (f_Mod_removed x1 x2 G1) k v := by
  have hn := hs.2.1.1
  have hz : ∀ L l : Nat, l < mNl s → (lvM s L).1 l ≤ 10 := fun L l hl => ((lvM_ok hs L).2 l hl).1.2
  by_cases h1 : 0 ≤ x1 ∧ x1 ≤ 4
  · obtain ⟨L, rfl⟩ : ∃ L : Nat, x1 = (L : Int) := ⟨x1.toNat, by omega⟩
    have Lb : L < 5 := by omega
    by_cases h2 : 0 ≤ x2 ∧ x2 ≤ 4
    · obtain ⟨M, rfl⟩ : ∃ M : Nat, x2 = (M : Int) := ⟨x2.toNat, by omega⟩
      have Mb : M < 5 := by omega
      have b1 := toO_bd (sz := (lvM s L).1) hn (hz L)
      have b2 := toO_bd (sz := (lvM s M).1) hn (hz M)
      have b3 := toO_bd (sz := (lvM s (min L M)).1) hn (hz _)
      have b4 := toO_bd (sz := (lvM s (max L M)).1) hn (hz _)
      refine ⟨0, toO (mNl s) (lvM s (min L M)).1 - toO (mNl s) (lvM s (max L M)).1, qa_v (r := f_Map_removed (L : Int) (M : Int) G) ?_ (e_f_Law_removed (L : Int) (M : Int) G), fun G1 hR1 hC1 => ?_⟩
      · have e := e_f_Map_removed (L : Int) (M : Int) G
        simp only [g_level_t h1, g_level_t h2, bV_r] at e
        refine qm_lines hs hS hC Lb e (fun G2 h8 c8 hL8 => ?_)
        obtain ⟨G3, e3, hL3, hC3, hF3, -⟩ := c_lines hs h8 c8 Mb
        refine ⟨G3, ?_, hC3, hF3⟩
        rw [g_total hL8 hn (hz L)]
        simp only [bI_r]
        rw [e3, bR_r, g_total hL3 hn (hz M)]
        simp only [bI_r]
        rw [wr_id (z := toO (mNl s) (lvM s L).1 - toO (mNl s) (lvM s M).1) (by omega) (by omega)]
        rcases Nat.le_total L M with z | z
        · have hle := toO_le s z
          rw [Nat.min_eq_left z, Nat.max_eq_right z]
          by_cases q : toO (mNl s) (lvM s L).1 - toO (mNl s) (lvM s M).1 < 0
          · omega
          · rw [if_neg q]
        · have hle := toO_le s z
          rw [Nat.min_eq_right z, Nat.max_eq_left z]
          by_cases q : toO (mNl s) (lvM s L).1 - toO (mNl s) (lvM s M).1 < 0
          · rw [if_pos q, wr_id (by omega) (by omega), Int.neg_sub]
          · rw [if_neg q, show toO (mNl s) (lvM s L).1 - toO (mNl s) (lvM s M).1 = toO (mNl s) (lvM s M).1 - toO (mNl s) (lvM s L).1 by omega]
      · have e := e_f_Mod_removed (L : Int) (M : Int) G1
        simp only [r_level_t h1, r_level_t h2, bI_r, bV_r, ↓reduceIte, up_at, i01, i02, i03] at e
        refine qr_knows hs hR1 hC1 e (fun G2 hR2 hK2 => ?_)
        rw [mMin_c, mMax_c, r_many hs hR2 hK2 (show min L M < 5 by omega)]
        simp only [bI_r]
        rw [r_many hs hR2 hK2 (show max L M < 5 by omega)]
        simp only [bI_r]
        rw [wr_id (by omega) (by omega)]
    · refine ⟨1, 0, qa_x (x := 0) (r := f_Map_removed (L : Int) x2 G) (qm_x hC ?_) (e_f_Law_removed (L : Int) x2 G) (fun _ => rfl) (by decide), fun G1 hR1 hC1 => qr_x hC1 ?_ (by decide)⟩
      · simp only [e_f_Map_removed, g_level_t h1, g_level_f h2, bV_r, bV_x]
      · simp only [e_f_Mod_removed, r_level_t h1, r_level_f h2, bI_r, bV_r, ↓reduceIte, up_at, i01, i02, i03]
  · refine ⟨1, 0, qa_x (x := 0) (r := f_Map_removed x1 x2 G) (qm_x hC ?_) (e_f_Law_removed x1 x2 G) (fun _ => rfl) (by decide), fun G1 hR1 hC1 => qr_x hC1 ?_ (by decide)⟩
    · simp only [e_f_Map_removed, g_level_f h1, bV_x]
    · simp only [e_f_Mod_removed, r_level_f h1, bI_r, bV_r, ↓reduceIte, up_at, i01, i02, i03]
theorem q_mostSimplified (hs : okM s) (hS : ShC G 0 s) (hC : CC G s) (x1 : Int) : ∃ k v, QAc s G (f_Law_mostSimplified x1 G) k v ∧ ∀ G1, RoR G1 26 s → RC G1 s → QAr s G1 (f_Mod_mostSimplified x1 G1) k v := by
  by_cases h1 : 0 ≤ x1 ∧ x1 ≤ 4
  · obtain ⟨L, rfl⟩ : ∃ L : Nat, x1 = (L : Int) := ⟨x1.toNat, by omega⟩
    have Lb : L < 5 := by omega
    have hb := ms_bd (mNl s) (lvM s 0).1 (lvM s L).1
    have hzz : ∀ l : Nat, l < mNl s → (lvM s 0).1 l ≤ 10 ∧ (lvM s L).1 l ≤ 10 := fun l hl => ⟨((lvM_ok hs 0).2 l hl).1.2, ((lvM_ok hs L).2 l hl).1.2⟩
    have e := e_f_Map_mostSimplified (L : Int) G
    simp only [g_level_t h1, bV_r] at e
    by_cases h2 : (msO (mNl s) (lvM s 0).1 (lvM s L).1).1 = -1
    · refine ⟨2, 0, qa_x (x := 5) (r := f_Map_mostSimplified (L : Int) G) ?_ (e_f_Law_mostSimplified (L : Int) G) (fun _ => rfl) (by decide), fun G1 hR1 hC1 => ?_⟩
      · refine qm_linesX hs hS hC Lb e (fun G2 h8 hL8 => ⟨G2, ?_, Fr.refl G2⟩)
        rw [g_most (s0 := (lvM s 0).1) h8.1 hL8 hs.2.1.1 hzz, if_pos h2]
      · have e2 := e_f_Mod_mostSimplified (L : Int) G1
        simp only [r_level_t h1, bI_r, ↓reduceIte, up_at, i01] at e2
        obtain ⟨G2, e3, hK, hF, h25⟩ := r_knows (G := up G1 25 0 6 0) hs (hR1.fr (fun k => up_t (by decide))) (hC1.up6 0)
        have hR2 : RoR G2 26 s := hR1.fr (fun k => (hF 26 0 k (by unfold FWk; omega)).trans (up_t (by decide)))
        rw [e3, bV_r, r_most hs hR2 hK Lb, if_pos (by omega)] at e2
        exact ⟨_, _, e2, up_at _ _ _ _ _, fun z => absurd z (by decide), (RC.up6 (Or.inr hK) 2), ((Fr.up (P := FRq) G1 6 0 (Or.inl rfl)).trans (hF.mono (fun t i z => by unfold FWk at z; unfold FRq; omega))).trans (Fr.up _ _ _ (Or.inl rfl)), fun z h6 h11 _ => (up_k h6).trans ((h25 z h11).trans (up_k h6))⟩
    · refine ⟨0, (msO (mNl s) (lvM s 0).1 (lvM s L).1).1, qa_v (r := f_Map_mostSimplified (L : Int) G) ?_ (e_f_Law_mostSimplified (L : Int) G), fun G1 hR1 hC1 => ?_⟩
      · refine qm_lines hs hS hC Lb e (fun G2 h8 c8 hL8 => ⟨G2, ?_, c8, Fr.refl G2⟩)
        rw [g_most (s0 := (lvM s 0).1) h8.1 hL8 hs.2.1.1 hzz, if_neg h2]
      · have e2 := e_f_Mod_mostSimplified (L : Int) G1
        simp only [r_level_t h1, bI_r, ↓reduceIte, up_at, i01] at e2
        obtain ⟨G2, e3, hK, hF, h25⟩ := r_knows (G := up G1 25 0 6 0) hs (hR1.fr (fun k => up_t (by decide))) (hC1.up6 0)
        have hR2 : RoR G2 26 s := hR1.fr (fun k => (hF 26 0 k (by unfold FWk; omega)).trans (up_t (by decide)))
        have hmx : mMax 0 (msO (mNl s) (lvM s 0).1 (lvM s L).1).1 = (msO (mNl s) (lvM s 0).1 (lvM s L).1).1 := by unfold mMax; split <;> omega
        rw [e3, bV_r, r_most hs hR2 hK Lb, if_neg (by omega), hmx] at e2
        exact ⟨_, _, e2, up_at _ _ _ _ _, fun _ => rfl, (RC.up6 (Or.inr hK) 0), ((Fr.up (P := FRq) G1 6 0 (Or.inl rfl)).trans (hF.mono (fun t i z => by unfold FWk at z; unfold FRq; omega))).trans (Fr.up _ _ _ (Or.inl rfl)), fun z h6 h11 _ => (up_k h6).trans ((h25 z h11).trans (up_k h6))⟩
  · refine ⟨1, 0, qa_x (x := 0) (r := f_Map_mostSimplified x1 G) (qm_x hC ?_) (e_f_Law_mostSimplified x1 G) (fun _ => rfl) (by decide), fun G1 hR1 hC1 => qr_x hC1 ?_ (by decide)⟩
    · simp only [e_f_Map_mostSimplified, g_level_f h1, bV_x]
    · simp only [e_f_Mod_mostSimplified, r_level_f h1, bI_r, bV_r, ↓reduceIte, up_at, i01, i02, i03]
theorem q_lost (hs : okM s) (hS : ShC G 0 s) (hC : CC G s) (x1 x2 : Int) : ∃ k v, QAc s G (f_Law_lost x1 x2 G) k v ∧ ∀ G1, RoR G1 26 s → RC G1 s → QAr s G1 (f_Mod_lost x1 x2 G1) k v := by
  have hn := hs.2.1.1
  have hn6 : mNl s ≤ 60 := Nat.le_trans hn (by decide)
  by_cases h1 : 0 ≤ x1 ∧ x1 < (mNl s : Int)
  · obtain ⟨l, rfl⟩ : ∃ l : Nat, x1 = (l : Int) := ⟨x1.toNat, by omega⟩
    have lb : l < mNl s := by omega
    have hz := (hs.2.1.2 l lb).1
    have ev := e_f_Map_requireVertex 0 (l : Int) x2 G
    rw [(hS.1.2 l lb).1, if_pos (show 0 ≤ (l : Int) ∧ (l : Int) < 6 by omega)] at ev
    have rs : ∀ G1, RoR G1 26 s → G1 26 0 (wr (1 + (l : Int))) = (mSz s l : Int) := fun G1 hR1 => by
      rw [wr_id (by omega) (by omega)]
      exact ((hR1.ln hs).2 l lb).1
    have c1 : 0 ≤ wr (1 + (l : Int)) ∧ wr (1 + (l : Int)) < 296 := by rw [wr_id (by omega) (by omega)]; omega
    have w1 : wr ((mSz s l : Int) - 1) = (mSz s l : Int) - 1 := wr_id (by omega) (by omega)
    by_cases h2 : 0 ≤ x2 ∧ x2 < (mSz s l : Int)
    · obtain ⟨x, rfl⟩ : ∃ x : Nat, x2 = (x : Int) := ⟨x2.toNat, by omega⟩
      have xb : x < mSz s l := by omega
      rw [if_neg (by omega), if_pos h2.2] at ev
      refine ⟨0, loO s l x 1 4, qa_v (r := f_Map_lost (l : Int) (x : Int) G) ?_ (e_f_Law_lost (l : Int) (x : Int) G), fun G1 hR1 hC1 => ?_⟩
      · have e := e_f_Map_lost (l : Int) (x : Int) G
        simp only [g_line_t hS.1.1 h1, ev, bV_r] at e
        rw [g_cod hS.1 hs.2.1 lb xb, bI_r] at e
        obtain ⟨G2, e2, hC2, hF2⟩ := g_lost hs lb xb 4 1 G rfl hS hC
        exact ⟨G2, e.trans e2, hC2, hF2⟩
      · have e := e_f_Mod_lost (l : Int) (x : Int) G1
        have h3 : 0 ≤ (x : Int) ∧ (x : Int) ≤ (mSz s l : Int) - 1 := by omega
        simp only [r_line_t (hR1.nl hs) hn6 h1, rs G1 hR1, if_pos c1, w1, r_isIn_t h3, bI_r, bV_r, ↓reduceIte, up_at, i01, i02, i03] at e
        refine qr_knows hs hR1 hC1 e (fun G2 hR2 hK2 => ?_)
        rw [← lo_0 hs xb]
        exact r_lost hs hK2 lb 5 0 rfl
    · have h3 : ¬(0 ≤ x2 ∧ x2 ≤ (mSz s l : Int) - 1) := by omega
      have ev2 : f_Map_requireVertex 0 (l : Int) x2 G = rX 2 (bump G) := by
        rw [ev]
        by_cases h4 : x2 < 0
        · rw [if_pos h4]
        · rw [if_neg h4, if_neg (by omega)]
      refine ⟨1, 0, qa_x (x := 2) (r := f_Map_lost (l : Int) x2 G) (qm_x hC ?_) (e_f_Law_lost (l : Int) x2 G) (fun _ => rfl) (by decide), fun G1 hR1 hC1 => qr_x hC1 ?_ (by decide)⟩
      · simp only [e_f_Map_lost, g_line_t hS.1.1 h1, ev2, bV_r, bV_x]
      · simp only [e_f_Mod_lost, r_line_t (hR1.nl hs) hn6 h1, rs G1 hR1, if_pos c1, w1, r_isIn_f h3, bI_r, bV_r, ↓reduceIte, up_at, i01, i02, i03]
  · refine ⟨1, 0, qa_x (x := 2) (r := f_Map_lost x1 x2 G) (qm_x hC ?_) (e_f_Law_lost x1 x2 G) (fun _ => rfl) (by decide), fun G1 hR1 hC1 => qr_x hC1 ?_ (by decide)⟩
    · simp only [e_f_Map_lost, g_line_f hS.1.1 h1, bV_x]
    · simp only [e_f_Mod_lost, r_line_f (hR1.nl hs) hn6 h1, bI_r, bV_r, ↓reduceIte, up_at, i01, i02, i03]
theorem q_count (hs : okM s) (hS : ShC G 0 s) (hC : CC G s) (x1 : Int) : ∃ k v, QAc s G (f_Law_count x1 G) k v ∧ ∀ G1, RoR G1 26 s → RC G1 s → QAr s G1 (f_Mod_count x1 G1) k v := by
  have hn := hs.2.1.1
  have hz : ∀ l : Nat, l < mNl s → mSz s l ≤ 10 := fun l hl => ((hs.2.1).2 l hl).1.2
  by_cases h1 : 0 ≤ x1 ∧ x1 ≤ 4
  · refine ⟨0, if x1 = 0 then (mNl s : Int) else if x1 = 1 then (mNp s : Int) else if x1 = 2 then cnK (mKd s) (-1) (mOw s) else if x1 = 3 then arO (mOw s) (-1) else toO (mNl s) (mSz s), qa_v (r := f_Map_count x1 G) ?_ (e_f_Law_count x1 G), fun G1 hR1 hC1 => ?_⟩
    · refine qm_v hC ?_
      rw [e_f_Map_count]
      by_cases q0 : x1 = 0
      · rw [if_pos q0, if_pos q0, hS.1.1]
      · rw [if_neg q0, if_neg q0]
        by_cases q1 : x1 = 1
        · rw [if_pos q1, if_pos q1, hS.2.1.1]
        · rw [if_neg q1, if_neg q1]
          by_cases q2 : x1 = 2
          · rw [if_pos q2, if_pos q2, g_countOf hS.2.2.1 hS.kd]
            rfl
          · rw [if_neg q2, if_neg q2]
            by_cases q3 : x1 = 3
            · rw [if_pos q3, if_pos q3, g_areaOf hS.2.2.1]
              rfl
            · rw [if_neg q3, if_neg q3, if_pos (show x1 = 4 by omega), g_total hS.1 hn hz]
              rfl
    · have e := e_f_Mod_count x1 G1
      simp only [r_isIn_t h1, bI_r, ↓reduceIte, up_at, i01] at e
      refine qr_knows hs hR1 hC1 e (fun G2 hR2 hK2 => ?_)
      by_cases q0 : x1 = 0
      · rw [if_pos q0, if_pos q0, hR2.nl hs]
      · rw [if_neg q0, if_neg q0]
        by_cases q1 : x1 = 1
        · rw [if_pos q1, if_pos q1, hR2.np hs]
        · rw [if_neg q1, if_neg q1]
          by_cases q2 : x1 = 2
          · have e9 : f_Mod_manyParcels 0 (-1) G2 = rI (cnK (mKd s) (-1) (mOw s)) G2 := r_manyPar (L := 0) (by decide) (hK2 0 (by decide)).2.1 hR2.kd (by decide)
            rw [if_pos q2, if_pos q2, e9]
            rfl
          · rw [if_neg q2, if_neg q2]
            by_cases q3 : x1 = 3
            · rw [if_pos q3, if_pos q3, r_fieldsOf hR2]
              rfl
            · have e9 : f_Mod_manyVertices 0 G2 = rI (toO (mNl s) (mSz s)) G2 := r_many (L := 0) hs hR2 hK2 (by decide)
              rw [if_neg q3, if_neg q3, e9]
              rfl
  · refine ⟨1, 0, qa_x (x := 0) (r := f_Map_count x1 G) (qm_x hC ?_) (e_f_Law_count x1 G) (fun _ => rfl) (by decide), fun G1 hR1 hC1 => qr_x hC1 ?_ (by decide)⟩
    · rw [e_f_Map_count, if_neg (by omega), if_neg (by omega), if_neg (by omega), if_neg (by omega), if_neg (by omega)]
    · simp only [e_f_Mod_count, r_isIn_f h1, bI_r, bV_r, ↓reduceIte, up_at, i01, i02, i03]
end QREST
