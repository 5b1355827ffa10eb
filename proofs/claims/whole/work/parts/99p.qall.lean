/-! ===== questions: what both sides answer ===== -/
section QALL
variable {s : Nat → Int} {G : GG}
theorem qr_fin {G1 : GG} {r : RS} {v : Int} (hC : RC G1 s) (hF : Fr FWk (up G 25 0 6 0) G1) (h25 : ∀ k : Int, k ≠ 11 → G1 25 0 k = up G 25 0 6 0 25 0 k) (e : r = rI v G1) : QAr s G r 0 v :=
  ⟨G1, v, e, (h25 6 (by decide)).trans (up_at _ _ _ _ _), fun _ => rfl, hC, (Fr.up (P := FRq) G 6 0 (Or.inl rfl)).trans (hF.mono (fun t i z => by unfold FWk at z; unfold FRq; omega)), fun z h6 h11 _ => (h25 z h11).trans (up_k h6)⟩
theorem q_vertices (hs : okM s) (hS : ShC G 0 s) (hC : CC G s) (x1 x2 : Int) : ∃ k v, QAc s G (f_Law_vertices x1 x2 G) k v ∧ ∀ G1, RoR G1 26 s → RC G1 s → QAr s G1 (f_Mod_vertices x1 x2 G1) k v := by
  have hn6 : mNl s ≤ 60 := Nat.le_trans hs.2.1.1 (by decide)
  have hp6 : mNp s ≤ 60 := Nat.le_trans hs.2.2.2.2.1.1 (by decide)
  by_cases h1 : 0 ≤ x1 ∧ x1 ≤ 4
  · skip
    obtain ⟨L, rfl⟩ : ∃ L : Nat, x1 = (L : Int) := ⟨(x1).toNat, by omega⟩
    have Lb : L < 5 := by omega
    by_cases h2 : 0 ≤ x2 ∧ x2 < (mNl s : Int)
    · skip
      obtain ⟨l, rfl⟩ : ∃ l : Nat, x2 = (l : Int) := ⟨(x2).toNat, by omega⟩
      have lb : l < mNl s := by omega
      refine ⟨0, ((lvM s L).1 l : Int), qa_v (r := f_Map_vertices (L : Int) (l : Int) G) ?_ (e_f_Law_vertices (L : Int) (l : Int) G), fun G1 hR1 hC1 => ?_⟩
      · have e := e_f_Map_vertices (L : Int) (l : Int) G
        simp only [g_level_t h1, g_line_t hS.1.1 h2, bV_r, bI_r, ↓reduceIte, i01] at e
        have hl6 : l < 6 := Nat.lt_of_lt_of_le lb hs.2.1.1
        refine qm_lines hs hS hC Lb e (fun G2 h8 c8 hL8 => ⟨G2, ?_, c8, Fr.refl G2⟩)
        rw [if_pos (show 0 ≤ (l : Int) ∧ (l : Int) < 6 by omega), (hL8.2 l lb).1]
      · have e := e_f_Mod_vertices (L : Int) (l : Int) G1
        simp only [r_level_t h1, r_line_t (hR1.nl hs) hn6 h2, bI_r, bV_r, ↓reduceIte, up_at, i01, i02, i03] at e
        have hl6 : l < 6 := Nat.lt_of_lt_of_le lb hs.2.1.1
        have c0 := c6 Lb hl6
        refine qr_knows hs hR1 hC1 e (fun G2 hR2 hK2 => ?_)
        rw [w6 Lb hl6, if_pos c0, ((hK2 L Lb).1 l lb).1]
    · refine ⟨2, 0, qa_x (x := 2) (r := f_Map_vertices (L : Int) x2 G) (qm_x hC ?_) (e_f_Law_vertices (L : Int) x2 G) (fun _ => rfl) (by decide), fun G1 hR1 hC1 => qr_x hC1 ?_ (by decide)⟩
      · simp only [e_f_Map_vertices, g_level_t h1, g_line_f hS.1.1 h2, bV_r, bV_x, bI_r, ↓reduceIte, i01]
      · simp only [e_f_Mod_vertices, r_level_t h1, r_line_f (hR1.nl hs) hn6 h2, bI_r, bV_r, ↓reduceIte, up_at, i01, i02, i03]
  · refine ⟨1, 0, qa_x (x := 0) (r := f_Map_vertices x1 x2 G) (qm_x hC ?_) (e_f_Law_vertices x1 x2 G) (fun _ => rfl) (by decide), fun G1 hR1 hC1 => qr_x hC1 ?_ (by decide)⟩
    · simp only [e_f_Map_vertices, g_level_f h1, bV_r, bV_x, bI_r, ↓reduceIte, i01]
    · simp only [e_f_Mod_vertices, r_level_f h1, bI_r, bV_r, ↓reduceIte, up_at, i01, i02, i03]
theorem q_extent (hs : okM s) (hS : ShC G 0 s) (hC : CC G s) (x1 x2 : Int) : ∃ k v, QAc s G (f_Law_extent x1 x2 G) k v ∧ ∀ G1, RoR G1 26 s → RC G1 s → QAr s G1 (f_Mod_extent x1 x2 G1) k v := by
  have hn6 : mNl s ≤ 60 := Nat.le_trans hs.2.1.1 (by decide)
  have hp6 : mNp s ≤ 60 := Nat.le_trans hs.2.2.2.2.1.1 (by decide)
  by_cases h1 : 0 ≤ x1 ∧ x1 ≤ 4
  · skip
    obtain ⟨L, rfl⟩ : ∃ L : Nat, x1 = (L : Int) := ⟨(x1).toNat, by omega⟩
    have Lb : L < 5 := by omega
    by_cases h2 : 0 ≤ x2 ∧ x2 < (mNl s : Int)
    · skip
      obtain ⟨l, rfl⟩ : ∃ l : Nat, x2 = (l : Int) := ⟨(x2).toNat, by omega⟩
      have lb : l < mNl s := by omega
      refine ⟨0, exO (lvM s L).1 (cdM (mCd s) (lvM s L).2) l, qa_v (r := f_Map_extent (L : Int) (l : Int) G) ?_ (e_f_Law_extent (L : Int) (l : Int) G), fun G1 hR1 hC1 => ?_⟩
      · have e := e_f_Map_extent (L : Int) (l : Int) G
        simp only [g_level_t h1, g_line_t hS.1.1 h2, bV_r, bI_r, ↓reduceIte, i01] at e
        refine qm_lines hs hS hC Lb e (fun G2 h8 c8 hL8 => ⟨G2, ?_, c8, Fr.refl G2⟩)
        rw [g_extent hL8 (lvM_ok hs L) lb]
        rfl
      · have e := e_f_Mod_extent (L : Int) (l : Int) G1
        simp only [r_level_t h1, r_line_t (hR1.nl hs) hn6 h2, bI_r, bV_r, ↓reduceIte, up_at, i01, i02, i03] at e
        refine qr_looks hs hR1 hC1 Lb e (fun G2 hR2 hK2 hV2 => ?_)
        exact r_extent hV2 (lvM_ok hs L) lb
    · refine ⟨2, 0, qa_x (x := 2) (r := f_Map_extent (L : Int) x2 G) (qm_x hC ?_) (e_f_Law_extent (L : Int) x2 G) (fun _ => rfl) (by decide), fun G1 hR1 hC1 => qr_x hC1 ?_ (by decide)⟩
      · simp only [e_f_Map_extent, g_level_t h1, g_line_f hS.1.1 h2, bV_r, bV_x, bI_r, ↓reduceIte, i01]
      · simp only [e_f_Mod_extent, r_level_t h1, r_line_f (hR1.nl hs) hn6 h2, bI_r, bV_r, ↓reduceIte, up_at, i01, i02, i03]
  · refine ⟨1, 0, qa_x (x := 0) (r := f_Map_extent x1 x2 G) (qm_x hC ?_) (e_f_Law_extent x1 x2 G) (fun _ => rfl) (by decide), fun G1 hR1 hC1 => qr_x hC1 ?_ (by decide)⟩
    · simp only [e_f_Map_extent, g_level_f h1, bV_r, bV_x, bI_r, ↓reduceIte, i01]
    · simp only [e_f_Mod_extent, r_level_f h1, bI_r, bV_r, ↓reduceIte, up_at, i01, i02, i03]
theorem q_lineAt (hs : okM s) (hS : ShC G 0 s) (hC : CC G s) (x1 x2 x3 : Int) : ∃ k v, QAc s G (f_Law_lineAt x1 x2 x3 G) k v ∧ ∀ G1, RoR G1 26 s → RC G1 s → QAr s G1 (f_Mod_lineAt x1 x2 x3 G1) k v := by
  have hn6 : mNl s ≤ 60 := Nat.le_trans hs.2.1.1 (by decide)
  have hp6 : mNp s ≤ 60 := Nat.le_trans hs.2.2.2.2.1.1 (by decide)
  by_cases h1 : 0 ≤ x1 ∧ x1 ≤ 4
  · skip
    obtain ⟨L, rfl⟩ : ∃ L : Nat, x1 = (L : Int) := ⟨(x1).toNat, by omega⟩
    have Lb : L < 5 := by omega
    by_cases h2 : isXY x2 x3
    · skip
      refine ⟨0, firO 0 (mNl s) (ovL (lvM s L).1 (cdM (mCd s) (lvM s L).2) (64 * x2 + x3)), qa_v (r := f_Map_lineAt (L : Int) x2 x3 G) ?_ (e_f_Law_lineAt (L : Int) x2 x3 G), fun G1 hR1 hC1 => ?_⟩
      · have e := e_f_Map_lineAt (L : Int) x2 x3 G
        simp only [g_level_t h1, g_rpos_t h2, bV_r, bI_r, ↓reduceIte, i01] at e
        have hxy : isC (64 * x2 + x3) := by unfold isXY at h2; unfold isC; omega
        have a0 : wr (wr (x2 * 64) + x3) = 64 * x2 + x3 := by unfold isXY at h2; rw [wr_id (z := x2 * 64) (by omega) (by omega), wr_id (by omega) (by omega)]; omega
        refine qm_lines hs hS hC Lb e (fun G2 h8 c8 hL8 => ⟨G2, ?_, c8, Fr.refl G2⟩)
        rw [a0, g_lineOver hL8 (lvM_ok hs L) hxy]
        rfl
      · have e := e_f_Mod_lineAt (L : Int) x2 x3 G1
        simp only [r_level_t h1, r_place_t h2, bI_r, bV_r, ↓reduceIte, up_at, i01, i02, i03] at e
        have hxy : isC (64 * x2 + x3) := by unfold isXY at h2; unfold isC; omega
        have d1 : (64 * x2 + x3) / 64 = x2 := by unfold isXY at h2; omega
        have d2 : (64 * x2 + x3) % 64 = x3 := by unfold isXY at h2; omega
        refine qr_looks hs hR1 hC1 Lb e (fun G2 hR2 hK2 hV2 => ?_)
        have e9 := r_lineOver hV2 (lvM_ok hs L) hxy
        rw [d1, d2] at e9
        rw [e9]
        rfl
    · refine ⟨1, 0, qa_x (x := 0) (r := f_Map_lineAt (L : Int) x2 x3 G) (qm_x hC ?_) (e_f_Law_lineAt (L : Int) x2 x3 G) (fun _ => rfl) (by decide), fun G1 hR1 hC1 => qr_x hC1 ?_ (by decide)⟩
      · simp only [e_f_Map_lineAt, g_level_t h1, g_rpos_f h2, bV_r, bV_x, bI_r, ↓reduceIte, i01]
      · simp only [e_f_Mod_lineAt, r_level_t h1, r_place_f h2, bI_r, bV_r, ↓reduceIte, up_at, i01, i02, i03]
  · refine ⟨1, 0, qa_x (x := 0) (r := f_Map_lineAt x1 x2 x3 G) (qm_x hC ?_) (e_f_Law_lineAt x1 x2 x3 G) (fun _ => rfl) (by decide), fun G1 hR1 hC1 => qr_x hC1 ?_ (by decide)⟩
    · simp only [e_f_Map_lineAt, g_level_f h1, bV_r, bV_x, bI_r, ↓reduceIte, i01]
    · simp only [e_f_Mod_lineAt, r_level_f h1, bI_r, bV_r, ↓reduceIte, up_at, i01, i02, i03]
theorem q_parcelAt (hs : okM s) (hS : ShC G 0 s) (hC : CC G s) (x1 x2 x3 : Int) : ∃ k v, QAc s G (f_Law_parcelAt x1 x2 x3 G) k v ∧ ∀ G1, RoR G1 26 s → RC G1 s → QAr s G1 (f_Mod_parcelAt x1 x2 x3 G1) k v := by
  have hn6 : mNl s ≤ 60 := Nat.le_trans hs.2.1.1 (by decide)
  have hp6 : mNp s ≤ 60 := Nat.le_trans hs.2.2.2.2.1.1 (by decide)
  by_cases h1 : 0 ≤ x1 ∧ x1 ≤ 4
  · skip
    obtain ⟨L, rfl⟩ : ∃ L : Nat, x1 = (L : Int) := ⟨(x1).toNat, by omega⟩
    have Lb : L < 5 := by omega
    by_cases h2 : isFd x2 x3
    · skip
      refine ⟨0, owM s L (8 * x3 + x2).toNat, qa_v (r := f_Map_parcelAt (L : Int) x2 x3 G) ?_ (e_f_Law_parcelAt (L : Int) x2 x3 G), fun G1 hR1 hC1 => ?_⟩
      · have e := e_f_Map_parcelAt (L : Int) x2 x3 G
        simp only [g_level_t h1, g_fd_t h2, bV_r, bI_r, ↓reduceIte, i01] at e
        obtain ⟨f, hf⟩ : ∃ f : Nat, 8 * x3 + x2 = (f : Int) := ⟨(8 * x3 + x2).toNat, by unfold isFd at h2; omega⟩
        have f64 : f < 64 := by unfold isFd at h2; omega
        have a0 : wr (wr (x3 * 8) + x2) = (f : Int) := by unfold isFd at h2; rw [wr_id (z := x3 * 8) (by omega) (by omega), wr_id (by omega) (by omega)]; omega
        rw [hf, Int.toNat_natCast]
        refine qm_parcels hs hS hC Lb e (fun G2 h8 hO8 => ⟨G2, ?_, Fr.refl G2⟩)
        rw [a0, if_pos (show 0 ≤ (f : Int) ∧ (f : Int) < 64 by omega), hO8 f f64]
      · have e := e_f_Mod_parcelAt (L : Int) x2 x3 G1
        simp only [r_level_t h1, r_isIn_t h2.1, r_isIn_t h2.2, bI_r, bV_r, ↓reduceIte, up_at, i01, i02, i03] at e
        obtain ⟨f, hf⟩ : ∃ f : Nat, 8 * x3 + x2 = (f : Int) := ⟨(8 * x3 + x2).toNat, by unfold isFd at h2; omega⟩
        have f64 : f < 64 := by unfold isFd at h2; omega
        have a0 : wr (wr (wr (64 * (L : Int)) + wr (8 * x3)) + x2) = 64 * (L : Int) + (f : Int) := by unfold isFd at h2; rw [wr_id (z := 64 * (L : Int)) (by omega) (by omega), wr_id (z := 8 * x3) (by omega) (by omega), wr_id (z := 64 * (L : Int) + 8 * x3) (by omega) (by omega), wr_id (by omega) (by omega)]; omega
        have c0 : 0 ≤ 64 * (L : Int) + (f : Int) ∧ 64 * (L : Int) + (f : Int) < 320 := by omega
        rw [hf, Int.toNat_natCast]
        refine qr_knows hs hR1 hC1 e (fun G2 hR2 hK2 => ?_)
        rw [a0, if_pos c0, (hK2 L Lb).2.1 f f64]
    · refine ⟨1, 0, qa_x (x := 0) (r := f_Map_parcelAt (L : Int) x2 x3 G) (qm_x hC ?_) (e_f_Law_parcelAt (L : Int) x2 x3 G) (fun _ => rfl) (by decide), fun G1 hR1 hC1 => qr_x hC1 ?_ (by decide)⟩
      · simp only [e_f_Map_parcelAt, g_level_t h1, g_fd_f h2, bV_r, bV_x, bI_r, ↓reduceIte, i01]
      · by_cases hq : 0 ≤ x2 ∧ x2 ≤ 7
        · simp only [e_f_Mod_parcelAt, r_level_t h1, r_isIn_t hq, r_isIn_f (fun z => h2 ⟨hq, z⟩), bI_r, bV_r, ↓reduceIte, up_at, i01, i02, i03]
        · simp only [e_f_Mod_parcelAt, r_level_t h1, r_isIn_f hq, bI_r, bV_r, ↓reduceIte, up_at, i01, i02, i03]
  · refine ⟨1, 0, qa_x (x := 0) (r := f_Map_parcelAt x1 x2 x3 G) (qm_x hC ?_) (e_f_Law_parcelAt x1 x2 x3 G) (fun _ => rfl) (by decide), fun G1 hR1 hC1 => qr_x hC1 ?_ (by decide)⟩
    · simp only [e_f_Map_parcelAt, g_level_f h1, bV_r, bV_x, bI_r, ↓reduceIte, i01]
    · simp only [e_f_Mod_parcelAt, r_level_f h1, bI_r, bV_r, ↓reduceIte, up_at, i01, i02, i03]
theorem q_area (hs : okM s) (hS : ShC G 0 s) (hC : CC G s) (x1 x2 : Int) : ∃ k v, QAc s G (f_Law_area x1 x2 G) k v ∧ ∀ G1, RoR G1 26 s → RC G1 s → QAr s G1 (f_Mod_area x1 x2 G1) k v := by
  have hn6 : mNl s ≤ 60 := Nat.le_trans hs.2.1.1 (by decide)
  have hp6 : mNp s ≤ 60 := Nat.le_trans hs.2.2.2.2.1.1 (by decide)
  by_cases h1 : 0 ≤ x1 ∧ x1 ≤ 4
  · skip
    obtain ⟨L, rfl⟩ : ∃ L : Nat, x1 = (L : Int) := ⟨(x1).toNat, by omega⟩
    have Lb : L < 5 := by omega
    by_cases h2 : 0 ≤ x2 ∧ x2 ≤ 15
    · skip
      refine ⟨0, arO (owM s L) x2, qa_v (r := f_Map_area (L : Int) x2 G) ?_ (e_f_Law_area (L : Int) x2 G), fun G1 hR1 hC1 => ?_⟩
      · have e := e_f_Map_area (L : Int) x2 G
        simp only [g_level_t h1, g_parcel_t h2, bV_r, bI_r, ↓reduceIte, i01] at e
        refine qm_parcels hs hS hC Lb e (fun G2 h8 hO8 => ⟨G2, ?_, Fr.refl G2⟩)
        rw [g_areaOf hO8]
        rfl
      · have e := e_f_Mod_area (L : Int) x2 G1
        simp only [r_level_t h1, r_parcel_t h2, bI_r, bV_r, ↓reduceIte, up_at, i01, i02, i03] at e
        refine qr_knows hs hR1 hC1 e (fun G2 hR2 hK2 => ?_)
        rw [r_areaOf Lb (hK2 L Lb).2.1]
        rfl
    · refine ⟨2, 0, qa_x (x := 2) (r := f_Map_area (L : Int) x2 G) (qm_x hC ?_) (e_f_Law_area (L : Int) x2 G) (fun _ => rfl) (by decide), fun G1 hR1 hC1 => qr_x hC1 ?_ (by decide)⟩
      · simp only [e_f_Map_area, g_level_t h1, g_parcel_f h2, bV_r, bV_x, bI_r, ↓reduceIte, i01]
      · simp only [e_f_Mod_area, r_level_t h1, r_parcel_f h2, bI_r, bV_r, ↓reduceIte, up_at, i01, i02, i03]
  · refine ⟨1, 0, qa_x (x := 0) (r := f_Map_area x1 x2 G) (qm_x hC ?_) (e_f_Law_area x1 x2 G) (fun _ => rfl) (by decide), fun G1 hR1 hC1 => qr_x hC1 ?_ (by decide)⟩
    · simp only [e_f_Map_area, g_level_f h1, bV_r, bV_x, bI_r, ↓reduceIte, i01]
    · simp only [e_f_Mod_area, r_level_f h1, bI_r, bV_r, ↓reduceIte, up_at, i01, i02, i03]
theorem q_border (hs : okM s) (hS : ShC G 0 s) (hC : CC G s) (x1 x2 x3 : Int) : ∃ k v, QAc s G (f_Law_border x1 x2 x3 G) k v ∧ ∀ G1, RoR G1 26 s → RC G1 s → QAr s G1 (f_Mod_border x1 x2 x3 G1) k v := by
  have hn6 : mNl s ≤ 60 := Nat.le_trans hs.2.1.1 (by decide)
  have hp6 : mNp s ≤ 60 := Nat.le_trans hs.2.2.2.2.1.1 (by decide)
  by_cases h1 : 0 ≤ x1 ∧ x1 ≤ 4
  · skip
    obtain ⟨L, rfl⟩ : ∃ L : Nat, x1 = (L : Int) := ⟨(x1).toNat, by omega⟩
    have Lb : L < 5 := by omega
    by_cases h2 : 0 ≤ x2 ∧ x2 ≤ 15
    · skip
      obtain ⟨p, rfl⟩ : ∃ p : Nat, x2 = (p : Int) := ⟨(x2).toNat, by omega⟩
      have pb : p < 16 := by omega
      by_cases h3 : 0 ≤ x3 ∧ x3 ≤ 15
      · skip
        obtain ⟨q, rfl⟩ : ∃ q : Nat, x3 = (q : Int) := ⟨(x3).toNat, by omega⟩
        have qb : q < 16 := by omega
        refine ⟨0, bdO (owM s L) p q, qa_v (r := f_Map_border (L : Int) (p : Int) (q : Int) G) ?_ (e_f_Law_border (L : Int) (p : Int) (q : Int) G), fun G1 hR1 hC1 => ?_⟩
        · have e := e_f_Map_border (L : Int) (p : Int) (q : Int) G
          simp only [g_level_t h1, g_parcel_t h2, g_parcel_t h3, bV_r, bI_r, ↓reduceIte, i01] at e
          refine qm_parcels hs hS hC Lb e (fun G2 h8 hO8 => ?_)
          obtain ⟨G3, e3, hB, hF⟩ := g_measureBorders hO8 (ownLv_ok hs.2.2.2.2.2.1 L) pb
          refine ⟨G3, ?_, hF.mono (fun t i z => Or.inl z.2)⟩
          rw [e3, bV_r, if_pos (show 0 ≤ (q : Int) ∧ (q : Int) < 16 by omega), hB q qb]
        · have e := e_f_Mod_border (L : Int) (p : Int) (q : Int) G1
          simp only [r_level_t h1, r_parcel_t h2, r_parcel_t h3, bI_r, bV_r, ↓reduceIte, up_at, i01, i02, i03] at e
          refine qr_knows hs hR1 hC1 e (fun G2 hR2 hK2 => ?_)
          rw [r_borderOf Lb (hK2 L Lb).2.1 (Int.natCast_nonneg _) (Int.natCast_nonneg _)]
          rfl
      · refine ⟨2, 0, qa_x (x := 2) (r := f_Map_border (L : Int) (p : Int) x3 G) (qm_x hC ?_) (e_f_Law_border (L : Int) (p : Int) x3 G) (fun _ => rfl) (by decide), fun G1 hR1 hC1 => qr_x hC1 ?_ (by decide)⟩
        · simp only [e_f_Map_border, g_level_t h1, g_parcel_t h2, g_parcel_f h3, bV_r, bV_x, bI_r, ↓reduceIte, i01]
        · simp only [e_f_Mod_border, r_level_t h1, r_parcel_t h2, r_parcel_f h3, bI_r, bV_r, ↓reduceIte, up_at, i01, i02, i03]
    · refine ⟨2, 0, qa_x (x := 2) (r := f_Map_border (L : Int) x2 x3 G) (qm_x hC ?_) (e_f_Law_border (L : Int) x2 x3 G) (fun _ => rfl) (by decide), fun G1 hR1 hC1 => qr_x hC1 ?_ (by decide)⟩
      · simp only [e_f_Map_border, g_level_t h1, g_parcel_f h2, bV_r, bV_x, bI_r, ↓reduceIte, i01]
      · simp only [e_f_Mod_border, r_level_t h1, r_parcel_f h2, bI_r, bV_r, ↓reduceIte, up_at, i01, i02, i03]
  · refine ⟨1, 0, qa_x (x := 0) (r := f_Map_border x1 x2 x3 G) (qm_x hC ?_) (e_f_Law_border x1 x2 x3 G) (fun _ => rfl) (by decide), fun G1 hR1 hC1 => qr_x hC1 ?_ (by decide)⟩
    · simp only [e_f_Map_border, g_level_f h1, bV_r, bV_x, bI_r, ↓reduceIte, i01]
    · simp only [e_f_Mod_border, r_level_f h1, bI_r, bV_r, ↓reduceIte, up_at, i01, i02, i03]
theorem q_neighbors (hs : okM s) (hS : ShC G 0 s) (hC : CC G s) (x1 x2 : Int) : ∃ k v, QAc s G (f_Law_neighbors x1 x2 G) k v ∧ ∀ G1, RoR G1 26 s → RC G1 s → QAr s G1 (f_Mod_neighbors x1 x2 G1) k v := by
  have hn6 : mNl s ≤ 60 := Nat.le_trans hs.2.1.1 (by decide)
  have hp6 : mNp s ≤ 60 := Nat.le_trans hs.2.2.2.2.1.1 (by decide)
  by_cases h1 : 0 ≤ x1 ∧ x1 ≤ 4
  · skip
    obtain ⟨L, rfl⟩ : ∃ L : Nat, x1 = (L : Int) := ⟨(x1).toNat, by omega⟩
    have Lb : L < 5 := by omega
    by_cases h2 : 0 ≤ x2 ∧ x2 ≤ 15
    · skip
      obtain ⟨p, rfl⟩ : ∃ p : Nat, x2 = (p : Int) := ⟨(x2).toNat, by omega⟩
      have pb : p < 16 := by omega
      refine ⟨0, ((nbO (owM s L) p : Nat) : Int), qa_v (r := f_Map_neighbors (L : Int) (p : Int) G) ?_ (e_f_Law_neighbors (L : Int) (p : Int) G), fun G1 hR1 hC1 => ?_⟩
      · have e := e_f_Map_neighbors (L : Int) (p : Int) G
        simp only [g_level_t h1, g_parcel_t h2, bV_r, bI_r, ↓reduceIte, i01] at e
        refine qm_parcels hs hS hC Lb e (fun G2 h8 hO8 => ?_)
        obtain ⟨G3, e3, hB, hF⟩ := g_measureBorders hO8 (ownLv_ok hs.2.2.2.2.2.1 L) pb
        refine ⟨G3, ?_, hF.mono (fun t i z => Or.inl z.2)⟩
        rw [e3, bV_r]
        exact g_neighbors hB
      · have e := e_f_Mod_neighbors (L : Int) (p : Int) G1
        simp only [r_level_t h1, r_parcel_t h2, bI_r, bV_r, ↓reduceIte, up_at, i01, i02, i03] at e
        refine qr_knows hs hR1 hC1 e (fun G2 hR2 hK2 => ?_)
        exact r_neighbors Lb (hK2 L Lb).2.1
    · refine ⟨2, 0, qa_x (x := 2) (r := f_Map_neighbors (L : Int) x2 G) (qm_x hC ?_) (e_f_Law_neighbors (L : Int) x2 G) (fun _ => rfl) (by decide), fun G1 hR1 hC1 => qr_x hC1 ?_ (by decide)⟩
      · simp only [e_f_Map_neighbors, g_level_t h1, g_parcel_f h2, bV_r, bV_x, bI_r, ↓reduceIte, i01]
      · simp only [e_f_Mod_neighbors, r_level_t h1, r_parcel_f h2, bI_r, bV_r, ↓reduceIte, up_at, i01, i02, i03]
  · refine ⟨1, 0, qa_x (x := 0) (r := f_Map_neighbors x1 x2 G) (qm_x hC ?_) (e_f_Law_neighbors x1 x2 G) (fun _ => rfl) (by decide), fun G1 hR1 hC1 => qr_x hC1 ?_ (by decide)⟩
    · simp only [e_f_Map_neighbors, g_level_f h1, bV_r, bV_x, bI_r, ↓reduceIte, i01]
    · simp only [e_f_Mod_neighbors, r_level_f h1, bI_r, bV_r, ↓reduceIte, up_at, i01, i02, i03]
theorem q_parcels (hs : okM s) (hS : ShC G 0 s) (hC : CC G s) (x1 x2 : Int) : ∃ k v, QAc s G (f_Law_parcels x1 x2 G) k v ∧ ∀ G1, RoR G1 26 s → RC G1 s → QAr s G1 (f_Mod_parcels x1 x2 G1) k v := by
  have hn6 : mNl s ≤ 60 := Nat.le_trans hs.2.1.1 (by decide)
  have hp6 : mNp s ≤ 60 := Nat.le_trans hs.2.2.2.2.1.1 (by decide)
  by_cases h1 : 0 ≤ x1 ∧ x1 ≤ 4
  · skip
    obtain ⟨L, rfl⟩ : ∃ L : Nat, x1 = (L : Int) := ⟨(x1).toNat, by omega⟩
    have Lb : L < 5 := by omega
    by_cases h2 : -1 ≤ x2 ∧ x2 ≤ 3
    · skip
      refine ⟨0, cnK (mKd s) x2 (owM s L), qa_v (r := f_Map_parcels (L : Int) x2 G) ?_ (e_f_Law_parcels (L : Int) x2 G), fun G1 hR1 hC1 => ?_⟩
      · have e := e_f_Map_parcels (L : Int) x2 G
        simp only [g_level_t h1, g_within_t h2, bV_r, bI_r, ↓reduceIte, i01] at e
        refine qm_parcels hs hS hC Lb e (fun G2 h8 hO8 => ⟨G2, ?_, Fr.refl G2⟩)
        rw [g_countOf hO8 h8.kd]
        rfl
      · have e := e_f_Mod_parcels (L : Int) x2 G1
        simp only [r_level_t h1, r_isIn_t h2, bI_r, bV_r, ↓reduceIte, up_at, i01, i02, i03] at e
        refine qr_knows hs hR1 hC1 e (fun G2 hR2 hK2 => ?_)
        rw [r_manyPar Lb (hK2 L Lb).2.1 hR2.kd h2.1]
        rfl
    · refine ⟨1, 0, qa_x (x := 0) (r := f_Map_parcels (L : Int) x2 G) (qm_x hC ?_) (e_f_Law_parcels (L : Int) x2 G) (fun _ => rfl) (by decide), fun G1 hR1 hC1 => qr_x hC1 ?_ (by decide)⟩
      · simp only [e_f_Map_parcels, g_level_t h1, g_within_f h2, bV_r, bV_x, bI_r, ↓reduceIte, i01]
      · simp only [e_f_Mod_parcels, r_level_t h1, r_isIn_f h2, bI_r, bV_r, ↓reduceIte, up_at, i01, i02, i03]
  · refine ⟨1, 0, qa_x (x := 0) (r := f_Map_parcels x1 x2 G) (qm_x hC ?_) (e_f_Law_parcels x1 x2 G) (fun _ => rfl) (by decide), fun G1 hR1 hC1 => qr_x hC1 ?_ (by decide)⟩
    · simp only [e_f_Map_parcels, g_level_f h1, bV_r, bV_x, bI_r, ↓reduceIte, i01]
    · simp only [e_f_Mod_parcels, r_level_f h1, bI_r, bV_r, ↓reduceIte, up_at, i01, i02, i03]
theorem q_leftOver (hs : okM s) (hS : ShC G 0 s) (hC : CC G s) (x1 : Int) : ∃ k v, QAc s G (f_Law_leftOver x1 G) k v ∧ ∀ G1, RoR G1 26 s → RC G1 s → QAr s G1 (f_Mod_leftOver x1 G1) k v := by
  have hn6 : mNl s ≤ 60 := Nat.le_trans hs.2.1.1 (by decide)
  have hp6 : mNp s ≤ 60 := Nat.le_trans hs.2.2.2.2.1.1 (by decide)
  by_cases h1 : 0 ≤ x1 ∧ x1 ≤ 4
  · skip
    obtain ⟨L, rfl⟩ : ∃ L : Nat, x1 = (L : Int) := ⟨(x1).toNat, by omega⟩
    have Lb : L < 5 := by omega
    refine ⟨0, smK (mSt s (3 * L + 1)) (owM s L), qa_v (r := f_Map_leftOver (L : Int) G) ?_ (e_f_Law_leftOver (L : Int) G), fun G1 hR1 hC1 => ?_⟩
    · have e := e_f_Map_leftOver (L : Int) G
      simp only [g_level_t h1, bV_r, bI_r, ↓reduceIte, i01] at e
      refine qm_parcels hs hS hC Lb e (fun G2 h8 hO8 => ?_)
      have es : f_She_settingOf 0 (L : Int) 1 G2 = rI (mSt s (3 * L + 1)) G2 := g_setOf (j := 1) h8.2.2.2.2.1 Lb (by decide)
      obtain ⟨G3, e3, hF⟩ := g_countSmall hO8 (ownLv_ok hs.2.2.2.2.2.1 L) (mSt s (3 * L + 1))
      refine ⟨G3, ?_, hF.mono (fun t i z => Or.inr z.2)⟩
      rw [es, bI_r, e3]
      rfl
    · have e := e_f_Mod_leftOver (L : Int) G1
      simp only [r_level_t h1, bI_r, bV_r, ↓reduceIte, up_at, i01, i02, i03] at e
      refine qr_knows hs hR1 hC1 e (fun G2 hR2 hK2 => ?_)
      exact r_countSmall hs hR2 Lb (hK2 L Lb).2.1
  · refine ⟨1, 0, qa_x (x := 0) (r := f_Map_leftOver x1 G) (qm_x hC ?_) (e_f_Law_leftOver x1 G) (fun _ => rfl) (by decide), fun G1 hR1 hC1 => qr_x hC1 ?_ (by decide)⟩
    · simp only [e_f_Map_leftOver, g_level_f h1, bV_r, bV_x, bI_r, ↓reduceIte, i01]
    · simp only [e_f_Mod_leftOver, r_level_f h1, bI_r, bV_r, ↓reduceIte, up_at, i01, i02, i03]
theorem q_outline (hs : okM s) (hS : ShC G 0 s) (hC : CC G s) (x1 x2 : Int) : ∃ k v, QAc s G (f_Law_outline x1 x2 G) k v ∧ ∀ G1, RoR G1 26 s → RC G1 s → QAr s G1 (f_Mod_outline x1 x2 G1) k v := by
  have hn6 : mNl s ≤ 60 := Nat.le_trans hs.2.1.1 (by decide)
  have hp6 : mNp s ≤ 60 := Nat.le_trans hs.2.2.2.2.1.1 (by decide)
  by_cases h1 : 0 ≤ x1 ∧ x1 ≤ 4
  · skip
    obtain ⟨L, rfl⟩ : ∃ L : Nat, x1 = (L : Int) := ⟨(x1).toNat, by omega⟩
    have Lb : L < 5 := by omega
    by_cases h2 : 0 ≤ x2 ∧ x2 ≤ 3
    · skip
      refine ⟨0, olO (mKd s) (owM s L) x2, qa_v (r := f_Map_outline (L : Int) x2 G) ?_ (e_f_Law_outline (L : Int) x2 G), fun G1 hR1 hC1 => ?_⟩
      · have e := e_f_Map_outline (L : Int) x2 G
        simp only [g_level_t h1, g_within_t h2, bV_r, bI_r, ↓reduceIte, i01] at e
        refine qm_parcels hs hS hC Lb e (fun G2 h8 hO8 => ⟨G2, ?_, Fr.refl G2⟩)
        rw [g_outline hO8 (ownLv_ok hs.2.2.2.2.2.1 L) h8.kd]
        rfl
      · have e := e_f_Mod_outline (L : Int) x2 G1
        simp only [r_level_t h1, r_isIn_t h2, bI_r, bV_r, ↓reduceIte, up_at, i01, i02, i03] at e
        refine qr_knows hs hR1 hC1 e (fun G2 hR2 hK2 => ?_)
        exact r_outline Lb (hK2 L Lb).2.1 (ownLv_ok hs.2.2.2.2.2.1 L) hR2.kd x2
    · refine ⟨1, 0, qa_x (x := 0) (r := f_Map_outline (L : Int) x2 G) (qm_x hC ?_) (e_f_Law_outline (L : Int) x2 G) (fun _ => rfl) (by decide), fun G1 hR1 hC1 => qr_x hC1 ?_ (by decide)⟩
      · simp only [e_f_Map_outline, g_level_t h1, g_within_f h2, bV_r, bV_x, bI_r, ↓reduceIte, i01]
      · simp only [e_f_Mod_outline, r_level_t h1, r_isIn_f h2, bI_r, bV_r, ↓reduceIte, up_at, i01, i02, i03]
  · refine ⟨1, 0, qa_x (x := 0) (r := f_Map_outline x1 x2 G) (qm_x hC ?_) (e_f_Law_outline x1 x2 G) (fun _ => rfl) (by decide), fun G1 hR1 hC1 => qr_x hC1 ?_ (by decide)⟩
    · simp only [e_f_Map_outline, g_level_f h1, bV_r, bV_x, bI_r, ↓reduceIte, i01]
    · simp only [e_f_Mod_outline, r_level_f h1, bI_r, bV_r, ↓reduceIte, up_at, i01, i02, i03]
theorem q_shown (hs : okM s) (hS : ShC G 0 s) (hC : CC G s) (x1 : Int) : ∃ k v, QAc s G (f_Law_shown x1 G) k v ∧ ∀ G1, RoR G1 26 s → RC G1 s → QAr s G1 (f_Mod_shown x1 G1) k v := by
  have hn6 : mNl s ≤ 60 := Nat.le_trans hs.2.1.1 (by decide)
  have hp6 : mNp s ≤ 60 := Nat.le_trans hs.2.2.2.2.1.1 (by decide)
  by_cases h1 : 0 ≤ x1 ∧ x1 ≤ 4
  · skip
    obtain ⟨L, rfl⟩ : ∃ L : Nat, x1 = (L : Int) := ⟨(x1).toNat, by omega⟩
    have Lb : L < 5 := by omega
    refine ⟨0, ((swO s L : Nat) : Int), qa_v (r := f_Map_shown (L : Int) G) ?_ (e_f_Law_shown (L : Int) G), fun G1 hR1 hC1 => ?_⟩
    · have e := e_f_Map_shown (L : Int) G
      simp only [g_level_t h1, bV_r, bI_r, ↓reduceIte, i01] at e
      rw [g_shown hs hS Lb] at e
      exact qm_v hC e
    · have e := e_f_Mod_shown (L : Int) G1
      simp only [r_level_t h1, bI_r, bV_r, ↓reduceIte, up_at, i01, i02, i03] at e
      rw [r_shown hs (hR1.fr (fun k => up_t (by decide))) Lb] at e
      exact qr_v hC1 e
  · refine ⟨1, 0, qa_x (x := 0) (r := f_Map_shown x1 G) (qm_x hC ?_) (e_f_Law_shown x1 G) (fun _ => rfl) (by decide), fun G1 hR1 hC1 => qr_x hC1 ?_ (by decide)⟩
    · simp only [e_f_Map_shown, g_level_f h1, bV_r, bV_x, bI_r, ↓reduceIte, i01]
    · simp only [e_f_Mod_shown, r_level_f h1, bI_r, bV_r, ↓reduceIte, up_at, i01, i02, i03]
theorem q_position (hs : okM s) (hS : ShC G 0 s) (hC : CC G s) (x1 x2 : Int) : ∃ k v, QAc s G (f_Law_position x1 x2 G) k v ∧ ∀ G1, RoR G1 26 s → RC G1 s → QAr s G1 (f_Mod_position x1 x2 G1) k v := by
  have hn6 : mNl s ≤ 60 := Nat.le_trans hs.2.1.1 (by decide)
  have hp6 : mNp s ≤ 60 := Nat.le_trans hs.2.2.2.2.1.1 (by decide)
  by_cases h1 : 0 ≤ x1 ∧ x1 ≤ 4
  · skip
    obtain ⟨L, rfl⟩ : ∃ L : Nat, x1 = (L : Int) := ⟨(x1).toNat, by omega⟩
    have Lb : L < 5 := by omega
    by_cases h2 : 0 ≤ x2 ∧ x2 < (mNp s : Int)
    · skip
      obtain ⟨p, rfl⟩ : ∃ p : Nat, x2 = (p : Int) := ⟨(x2).toNat, by omega⟩
      have pb : p < mNp s := by omega
      refine ⟨0, plM s L p, qa_v (r := f_Map_position (L : Int) (p : Int) G) ?_ (e_f_Law_position (L : Int) (p : Int) G), fun G1 hR1 hC1 => ?_⟩
      · have e := e_f_Map_position (L : Int) (p : Int) G
        simp only [g_level_t h1, g_point_t hS.2.1.1 h2, bV_r, bI_r, ↓reduceIte, i01] at e
        have hp12 : p < 12 := Nat.lt_of_lt_of_le pb hs.2.2.2.2.1.1
        refine qm_labels hs hS hC Lb e (fun G2 h8 hP8 hm8 hl8 hL8 => ?_)
        rw [if_pos (show 0 ≤ (p : Int) ∧ (p : Int) < 12 by omega), hP8 p pb]
      · have e := e_f_Mod_position (L : Int) (p : Int) G1
        simp only [r_level_t h1, r_point_t (hR1.np hs) hp6 h2, bI_r, bV_r, ↓reduceIte, up_at, i01, i02, i03] at e
        obtain ⟨G2, e2, hK, hF, h25⟩ := kn_first (G := up G1 25 0 6 0) hs (hR1.fr (fun k => up_t (by decide))) (hC1.up6 0)
        rw [r_placeOf hs e2 hK Lb pb] at e
        exact qr_fin (Or.inr hK.2.1) hF h25 e
    · refine ⟨2, 0, qa_x (x := 2) (r := f_Map_position (L : Int) x2 G) (qm_x hC ?_) (e_f_Law_position (L : Int) x2 G) (fun _ => rfl) (by decide), fun G1 hR1 hC1 => qr_x hC1 ?_ (by decide)⟩
      · simp only [e_f_Map_position, g_level_t h1, g_point_f hS.2.1.1 h2, bV_r, bV_x, bI_r, ↓reduceIte, i01]
      · simp only [e_f_Mod_position, r_level_t h1, r_point_f (hR1.np hs) hp6 h2, bI_r, bV_r, ↓reduceIte, up_at, i01, i02, i03]
  · refine ⟨1, 0, qa_x (x := 0) (r := f_Map_position x1 x2 G) (qm_x hC ?_) (e_f_Law_position x1 x2 G) (fun _ => rfl) (by decide), fun G1 hR1 hC1 => qr_x hC1 ?_ (by decide)⟩
    · simp only [e_f_Map_position, g_level_f h1, bV_r, bV_x, bI_r, ↓reduceIte, i01]
    · simp only [e_f_Mod_position, r_level_f h1, bI_r, bV_r, ↓reduceIte, up_at, i01, i02, i03]
theorem q_labels (hs : okM s) (hS : ShC G 0 s) (hC : CC G s) (x1 : Int) : ∃ k v, QAc s G (f_Law_labels x1 G) k v ∧ ∀ G1, RoR G1 26 s → RC G1 s → QAr s G1 (f_Mod_labels x1 G1) k v := by
  have hn6 : mNl s ≤ 60 := Nat.le_trans hs.2.1.1 (by decide)
  have hp6 : mNp s ≤ 60 := Nat.le_trans hs.2.2.2.2.1.1 (by decide)
  by_cases h1 : 0 ≤ x1 ∧ x1 ≤ 4
  · skip
    obtain ⟨L, rfl⟩ : ∃ L : Nat, x1 = (L : Int) := ⟨(x1).toNat, by omega⟩
    have Lb : L < 5 := by omega
    refine ⟨0, (0 + sumB 0 (mNp s) fun q => if plM s L q = -1 then 0 else 1), qa_v (r := f_Map_labels (L : Int) G) ?_ (e_f_Law_labels (L : Int) G), fun G1 hR1 hC1 => ?_⟩
    · have e := e_f_Map_labels (L : Int) G
      simp only [g_level_t h1, bV_r, bI_r, ↓reduceIte, i01] at e
      refine qm_labels hs hS hC Lb e (fun G2 h8 hP8 hm8 hl8 hL8 => ?_)
      rw [g_countPlaced hs.2.2.2.2.1.1 h8.2.1.1 hP8]
      rfl
    · have e := e_f_Mod_labels (L : Int) G1
      simp only [r_level_t h1, bI_r, bV_r, ↓reduceIte, up_at, i01, i02, i03] at e
      obtain ⟨G2, e2, hC2, hR2, hF, h25⟩ := r_placed (G := up G1 25 0 6 0) hs (hR1.fr (fun k => up_t (by decide))) (hC1.up6 0) Lb
      rw [e2] at e
      exact qr_fin hC2 hF h25 e
  · refine ⟨1, 0, qa_x (x := 0) (r := f_Map_labels x1 G) (qm_x hC ?_) (e_f_Law_labels x1 G) (fun _ => rfl) (by decide), fun G1 hR1 hC1 => qr_x hC1 ?_ (by decide)⟩
    · simp only [e_f_Map_labels, g_level_f h1, bV_r, bV_x, bI_r, ↓reduceIte, i01]
    · simp only [e_f_Mod_labels, r_level_f h1, bI_r, bV_r, ↓reduceIte, up_at, i01, i02, i03]
theorem q_setting (hs : okM s) (hS : ShC G 0 s) (hC : CC G s) (x1 x2 : Int) : ∃ k v, QAc s G (f_Law_setting x1 x2 G) k v ∧ ∀ G1, RoR G1 26 s → RC G1 s → QAr s G1 (f_Mod_setting2 x1 x2 G1) k v := by
  have hn6 : mNl s ≤ 60 := Nat.le_trans hs.2.1.1 (by decide)
  have hp6 : mNp s ≤ 60 := Nat.le_trans hs.2.2.2.2.1.1 (by decide)
  by_cases h1 : 0 ≤ x1 ∧ x1 ≤ 4
  · skip
    obtain ⟨L, rfl⟩ : ∃ L : Nat, x1 = (L : Int) := ⟨(x1).toNat, by omega⟩
    have Lb : L < 5 := by omega
    by_cases h2 : 0 ≤ x2 ∧ x2 ≤ 2
    · skip
      obtain ⟨j, rfl⟩ : ∃ j : Nat, x2 = (j : Int) := ⟨(x2).toNat, by omega⟩
      have jb : j < 3 := by omega
      refine ⟨0, mSt s (3 * L + j), qa_v (r := f_Map_setting (L : Int) (j : Int) G) ?_ (e_f_Law_setting (L : Int) (j : Int) G), fun G1 hR1 hC1 => ?_⟩
      · have e := e_f_Map_setting (L : Int) (j : Int) G
        simp only [g_level_t h1, g_within_t h2, bV_r, bI_r, ↓reduceIte, i01] at e
        rw [g_setOf hS.2.2.2.2.1 Lb jb] at e
        exact qm_v hC e
      · have e := e_f_Mod_setting2 (L : Int) (j : Int) G1
        simp only [r_level_t h1, r_isIn_t h2, bI_r, bV_r, ↓reduceIte, up_at, i01, i02, i03] at e
        rw [r_of hs (hR1.fr (fun k => up_t (by decide))) Lb jb] at e
        exact qr_v hC1 e
    · refine ⟨1, 0, qa_x (x := 0) (r := f_Map_setting (L : Int) x2 G) (qm_x hC ?_) (e_f_Law_setting (L : Int) x2 G) (fun _ => rfl) (by decide), fun G1 hR1 hC1 => qr_x hC1 ?_ (by decide)⟩
      · simp only [e_f_Map_setting, g_level_t h1, g_within_f h2, bV_r, bV_x, bI_r, ↓reduceIte, i01]
      · simp only [e_f_Mod_setting2, r_level_t h1, r_isIn_f h2, bI_r, bV_r, ↓reduceIte, up_at, i01, i02, i03]
  · refine ⟨1, 0, qa_x (x := 0) (r := f_Map_setting x1 x2 G) (qm_x hC ?_) (e_f_Law_setting x1 x2 G) (fun _ => rfl) (by decide), fun G1 hR1 hC1 => qr_x hC1 ?_ (by decide)⟩
    · simp only [e_f_Map_setting, g_level_f h1, bV_r, bV_x, bI_r, ↓reduceIte, i01]
    · simp only [e_f_Mod_setting2, r_level_f h1, bI_r, bV_r, ↓reduceIte, up_at, i01, i02, i03]
theorem q_point (hs : okM s) (hS : ShC G 0 s) (hC : CC G s) (x1 x2 : Int) : ∃ k v, QAc s G (f_Law_point x1 x2 G) k v ∧ ∀ G1, RoR G1 26 s → RC G1 s → QAr s G1 (f_Mod_point x1 x2 G1) k v := by
  have hn6 : mNl s ≤ 60 := Nat.le_trans hs.2.1.1 (by decide)
  have hp6 : mNp s ≤ 60 := Nat.le_trans hs.2.2.2.2.1.1 (by decide)
  by_cases h1 : 0 ≤ x1 ∧ x1 < (mNp s : Int)
  · skip
    obtain ⟨p, rfl⟩ : ∃ p : Nat, x1 = (p : Int) := ⟨(x1).toNat, by omega⟩
    have pb : p < mNp s := by omega
    by_cases h2 : 0 ≤ x2 ∧ x2 ≤ 5
    · skip
      obtain ⟨j, rfl⟩ : ∃ j : Nat, x2 = (j : Int) := ⟨(x2).toNat, by omega⟩
      have jb : j < 6 := by omega
      refine ⟨0, mPt s p j, qa_v (r := f_Map_point (p : Int) (j : Int) G) ?_ (e_f_Law_point (p : Int) (j : Int) G), fun G1 hR1 hC1 => ?_⟩
      · have e := e_f_Map_point (p : Int) (j : Int) G
        simp only [g_point_t hS.2.1.1 h1, g_within_t h2, bV_r, bI_r, ↓reduceIte, i01] at e
        rw [g_valueOf hS.2.1 hs.2.2.2.2.1.1 pb jb] at e
        exact qm_v hC e
      · have e := e_f_Mod_point (p : Int) (j : Int) G1
        simp only [r_point_t (hR1.np hs) hp6 h1, r_isIn_t h2, bI_r, bV_r, ↓reduceIte, up_at, i01, i02, i03] at e
        have hR2 : RoR (up G1 25 0 6 0) 26 s := hR1.fr (fun k => up_t (by decide))
        rw [r_ofPoint (hR2.pt hs) hs.2.2.2.2.1.1 pb jb] at e
        exact qr_v hC1 e
    · refine ⟨2, 0, qa_x (x := 0) (r := f_Map_point (p : Int) x2 G) (qm_x hC ?_) (e_f_Law_point (p : Int) x2 G) (fun _ => rfl) (by decide), fun G1 hR1 hC1 => qr_x hC1 ?_ (by decide)⟩
      · simp only [e_f_Map_point, g_point_t hS.2.1.1 h1, g_within_f h2, bV_r, bV_x, bI_r, ↓reduceIte, i01]
      · simp only [e_f_Mod_point, r_point_t (hR1.np hs) hp6 h1, r_isIn_f h2, bI_r, bV_r, ↓reduceIte, up_at, i01, i02, i03]
  · refine ⟨1, 0, qa_x (x := 2) (r := f_Map_point x1 x2 G) (qm_x hC ?_) (e_f_Law_point x1 x2 G) (fun _ => rfl) (by decide), fun G1 hR1 hC1 => qr_x hC1 ?_ (by decide)⟩
    · simp only [e_f_Map_point, g_point_f hS.2.1.1 h1, bV_r, bV_x, bI_r, ↓reduceIte, i01]
    · simp only [e_f_Mod_point, r_point_f (hR1.np hs) hp6 h1, bI_r, bV_r, ↓reduceIte, up_at, i01, i02, i03]
end QALL
