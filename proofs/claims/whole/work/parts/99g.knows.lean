/-! ===== the reference works out its levels ===== -/
section KNOWS
variable {s : Nat → Int}
theorem kn_sizes (hs : okM s) {G : GG} (hR : RoR G 26 s) : ∃ G', l_Mod_knows_15 0 G = (bV (f_Mod_takesLevel 0 G') fun G1 => l_Mod_knows_82 0 G1) ∧ RLv G' 0 (mNl s) (mSz s, fun _ k => k) ∧ Fr (FK 0) G G' := by
  have ho := hs.2.1
  have h6 := ho.1
  refine loop_inv (l := fun (l : Nat) G1 => l_Mod_knows_15 l G1) (I := fun l G1 => (∀ o : Nat, o < l → G1 34 0 o = (mSz s o : Int) ∧ ∀ k : Nat, k < mSz s o → G1 35 0 ((o : Int) * 10 + (k : Int)) = (k : Int)) ∧ Fr (FK 0) G G1) (P := fun r => ∃ G', r = (bV (f_Mod_takesLevel 0 G') fun G1 => l_Mod_knows_82 0 G1) ∧ RLv G' 0 (mNl s) (mSz s, fun _ k => k) ∧ Fr (FK 0) G G') (mNl s) 0 G (fun l G1 _ hl hI => ?_) (fun G1 hI => ?_) ⟨fun o ho => absurd ho (by omega), Fr.refl G⟩
  · have hl : l < mNl s := by omega
    obtain ⟨hI1, hF1⟩ := hI
    obtain ⟨⟨hz1, hz2⟩, -, -⟩ := ho.2 l hl
    have hR1 : RoR G1 26 s := hR.fr (fun k => hF1 26 0 k (by unfold FK; omega))
    have e := e_l_Mod_knows_15 (l : Int) G1
    have c1 : (0 : Int) ≤ 1 + (l : Int) ∧ 1 + (l : Int) < 296 := by omega
    have c2 : (0 : Int) ≤ (l : Int) ∧ (l : Int) < 30 := by omega
    rw [hR1.nl hs, if_pos (by omega), wr_id (z := 1 + (l : Int)) (by omega) (by omega), if_pos c1, if_pos c2, ((hR1.ln hs).2 l hl).1] at e
    have inn := loop_inv (l := fun (k : Nat) (G2 : GG) => l_Mod_knows_41 l k G2) (I := fun (k : Nat) (G2 : GG) => (∀ o : Nat, o < l → G2 34 0 o = (mSz s o : Int) ∧ ∀ k : Nat, k < mSz s o → G2 35 0 ((o : Int) * 10 + (k : Int)) = (k : Int)) ∧ G2 34 0 l = (mSz s l : Int) ∧ (∀ j : Nat, j < k → G2 35 0 ((l : Int) * 10 + (j : Int)) = (j : Int)) ∧ Fr (FK 0) G G2)
      (P := fun r => ∃ G2, r = l_Mod_knows_15 ((l + 1 : Nat) : Int) G2 ∧ (∀ o : Nat, o < l + 1 → G2 34 0 o = (mSz s o : Int) ∧ ∀ k : Nat, k < mSz s o → G2 35 0 ((o : Int) * 10 + (k : Int)) = (k : Int)) ∧ Fr (FK 0) G G2) (mSz s l) 0 (up G1 34 0 l (mSz s l)) ?_ ?_ ?_
    · obtain ⟨G2, e2, h2⟩ := inn
      exact ⟨G2, e.trans e2, h2⟩
    · intro k G2 _ hk hJ
      have hk : k < mSz s l := by omega
      obtain ⟨hJ1, hJ2, hJ3, hJ4⟩ := hJ
      have e3 := e_l_Mod_knows_41 (l : Int) (k : Int) G2
      have a1 : wr (wr (10 * (l : Int)) + (k : Int)) = (l : Int) * 10 + (k : Int) := by rw [wr_id (z := 10 * (l : Int)) (by omega) (by omega), wr_id (by omega) (by omega)]; omega
      have c3 : (0 : Int) ≤ (l : Int) * 10 + (k : Int) ∧ (l : Int) * 10 + (k : Int) < 300 := by omega
      rw [if_pos c2, hJ2, if_pos (by omega), a1, if_pos c3, wr_sc (show k < 10 by omega) (by decide)] at e3
      clear a1
      refine ⟨_, e3, fun o ho2 => ?_, ?_, fun j hj => ?_, hJ4.trans (Fr.up _ _ _ (by unfold FK; omega))⟩
      · obtain ⟨q1, q2⟩ := hJ1 o ho2
        have hz := (ho.2 o (by omega)).1
        exact ⟨by rw [up_t (by decide)]; exact q1, fun j hj => by rw [up_k (by omega)]; exact q2 j hj⟩
      · rw [up_t (by decide)]; exact hJ2
      · by_cases hjk : j = k
        · rw [hjk, up_at]
        · rw [up_k (by omega)]; exact hJ3 j (by omega)
    · intro G2 hJ
      obtain ⟨hJ1, hJ2, hJ3, hJ4⟩ := hJ
      rw [Nat.zero_add] at hJ3 ⊢
      have e3 := e_l_Mod_knows_41 (l : Int) ((mSz s l : Nat) : Int) G2
      rw [if_pos c2, hJ2, if_neg (by omega), wr_sc (show l < 6 by omega) (by decide)] at e3
      refine ⟨G2, e3, fun o ho2 => ?_, hJ4⟩
      by_cases hol : o = l
      · rw [hol]
        exact ⟨hJ2, hJ3⟩
      · exact hJ1 o (by omega)
    · refine ⟨fun o ho2 => ?_, up_at _ _ _ _ _, fun j hj => absurd hj (by omega), hF1.trans (Fr.up _ _ _ (by unfold FK; omega))⟩
      obtain ⟨q1, q2⟩ := hI1 o ho2
      exact ⟨by rw [up_k (by omega)]; exact q1, fun j hj => by rw [up_t (by decide)]; exact q2 j hj⟩
  · obtain ⟨hI1, hF1⟩ := hI
    have hR1 : RoR G1 26 s := hR.fr (fun k => hF1 26 0 k (by unfold FK; omega))
    have e := e_l_Mod_knows_15 ((0 + mNl s : Nat) : Int) G1
    rw [hR1.nl hs, if_neg (by omega)] at e
    refine ⟨G1, e, fun l hl => ?_, hF1⟩
    obtain ⟨q1, q2⟩ := hI1 l (by omega)
    refine ⟨?_, fun k hk => ?_⟩
    · rw [show 6 * ((0 : Nat) : Int) + (l : Int) = l by omega]
      exact q1
    · rw [show (6 * ((0 : Nat) : Int) + (l : Int)) * 10 + (k : Int) = (l : Int) * 10 + k by omega]
      exact q2 k hk
def FW (t : Nat) (_ : Int) : Prop := 30 ≤ t ∧ t ≤ 38
/-- the levels from L on -/
theorem kn_levels (hs : okM s) : ∀ (n L : Nat) (G : GG), L + n = 5 → 1 ≤ L → RoR G 26 s → LnV G (mNl s) (lvM s (L - 1)).1 (cdM (mCd s) (lvM s (L - 1)).2) (lvM s (L - 1)).2 → RKn G s L →
    ∃ G', l_Mod_knows_138 L G = rV G' ∧ RKn G' s 5 ∧ Fr FW G G'
  | 0, L, G, hL, hL1, hR, hV, hK => by
    have e := e_l_Mod_knows_138 (L : Int) G
    rw [if_neg (by omega)] at e
    have e5 : L = 5 := by omega
    rw [e5] at hK
    exact ⟨G, e, hK, Fr.refl G⟩
  | n + 1, L, G, hL, hL1, hR, hV, hK => by
    have ho := hs.2.1
    have hp := hs.2.2.2.2.1
    have hst := hs.2.2.2.2.2.2.2.1
    have hL5 : L < 5 := by omega
    have hto := (hst.1 L hL5).1
    have hok := lvV_ok (np := mNp s) (pt := mPt s) (st := mSt s) ho (L - 1)
    have hlv : lvM s L = dropAll (mNl s) (mCd s) (mNp s) (mPt s) (mSt s (3 * L)) 60 (lvM s (L - 1)) := by
      obtain ⟨M, rfl⟩ : ∃ M : Nat, L = M + 1 := ⟨L - 1, by omega⟩
      rfl
    have hokL : okW (mNl s) (mSz s) (lvM s L) := lvV_ok ho L
    have hlim : G 26 0 (280 + 3 * (L : Int)) = mSt s (3 * L) := hR.at (280 + 3 * L) (by omega) (by omega)
    obtain ⟨G1, e1, hV1, f1⟩ := r_level hL1 hL5 (tol := mSt s (3 * L)) hto.2 ho hp 60 (lvM s (L - 1)) G (Nat.le_trans (muV_le ho hok) (by decide)) hV hok (hR.pt hs) hlim
    rw [← hlv] at hV1
    obtain ⟨G2, e2, hK2, hK2b, f2⟩ := r_keep ho hokL hL5 hV1
    have f12 : Fr FW G G2 := (f1.mono (fun t i z => by unfold FV at z; unfold FW; omega)).trans (f2.mono (fun t i z => by unfold FK at z; unfold FW; omega))
    have hR2 : RoR G2 26 s := hR.fr (fun k => f12 26 0 k (by unfold FW; omega))
    have hK0 := hK (L - 1) (by omega)
    have hO2 : OwR G2 (L - 1) (owM s (L - 1)) := fun f hf => (f2 36 0 _ (by unfold FK; omega)).trans ((f1 36 0 _ (by unfold FV; omega)).trans (hK0.2.1 f hf))
    have hB2 : BcR G2 (L - 1) (bcM s (L - 1)) := fun p hp => (f2 37 0 _ (by unfold FK; omega)).trans ((f1 37 0 _ (by unfold FV; omega)).trans (hK0.2.2.1 p hp))
    obtain ⟨G3, e3, hO3, hB3, f3⟩ := r_parcels (o0 := mOw s) hst ⟨hL1, hL5⟩ hO2 hB2 hR2.kd hR2.st (hR2 295 (by decide))
    have hV2 : LnV G2 (mNl s) (lvM s L).1 (cdM (mCd s) (lvM s L).2) (lvM s L).2 := hV1.fr (fun k => f2 26 0 k (by unfold FK; omega)) (fun k => f2 30 0 k (by unfold FK; omega)) (fun k => f2 31 0 k (by unfold FK; omega)) (fun k => f2 32 0 k (by unfold FK; omega)) (fun k => f2 33 0 k (by unfold FK; omega))
    have g3 : ∀ t k, t ≠ 36 → t ≠ 37 → G3 t 0 k = G2 t 0 k := fun t k h1 h2 => f3.1 t 0 k (fun z => by rcases z.2 with z | z; exact h1 z; exact h2 z)
    have hV3 : LnV G3 (mNl s) (lvM s L).1 (cdM (mCd s) (lvM s L).2) (lvM s L).2 := hV2.fr (fun k => g3 26 k (by decide) (by decide)) (fun k => g3 30 k (by decide) (by decide)) (fun k => g3 31 k (by decide) (by decide)) (fun k => g3 32 k (by decide) (by decide)) (fun k => g3 33 k (by decide) (by decide))
    have hR3 : RoR G3 26 s := hR2.fr (fun k => g3 26 k (by decide) (by decide))
    obtain ⟨G4, e4, ⟨pl, hpl, hplk⟩, f4⟩ := r_places hp hst (okW.ln ho hokL) hL5 (hR3.pt hs) hR3.st hV3
    obtain ⟨hplm, hpleq⟩ := plM_of (L := L) hs hplk
    have g4 : ∀ t k, t ≠ 38 → G4 t 0 k = G3 t 0 k := fun t k h1 => f4.s h1 k
    have hR4 : RoR G4 26 s := hR3.fr (fun k => g4 26 k (by decide))
    have hV4 : LnV G4 (mNl s) (lvM s (L + 1 - 1)).1 (cdM (mCd s) (lvM s (L + 1 - 1)).2) (lvM s (L + 1 - 1)).2 := hV3.fr (fun k => g4 26 k (by decide)) (fun k => g4 30 k (by decide)) (fun k => g4 31 k (by decide)) (fun k => g4 32 k (by decide)) (fun k => g4 33 k (by decide))
    have hK4 : RKn G4 s (L + 1) := by
      intro M hM
      by_cases hML : M = L
      · rw [hML]
        refine ⟨hK2.fr (fun k => (g4 34 k (by decide)).trans (g3 34 k (by decide) (by decide))) (fun k => (g4 35 k (by decide)).trans (g3 35 k (by decide) (by decide))), fun f hf => (g4 36 _ (by decide)).trans (hO3 f hf), fun p hp => (g4 37 _ (by decide)).trans (hB3 p hp), fun q hq => (hpl q hq).trans (hpleq q hq), hplm⟩
      · obtain ⟨q1, q2, q3, q4, q5⟩ := hK M (by omega)
        have q1b : RLv G1 M (mNl s) (lvM s M) := q1.fr (fun k => f1 34 0 k (by unfold FV; omega)) (fun k => f1 35 0 k (by unfold FV; omega))
        refine ⟨(hK2b M (by omega) _ (lvV_ok ho M) q1b).fr (fun k => (g4 34 k (by decide)).trans (g3 34 k (by decide) (by decide))) (fun k => (g4 35 k (by decide)).trans (g3 35 k (by decide) (by decide))), fun f hf => ?_, fun p hp => ?_, fun q hq => ?_, q5⟩
        · rw [g4 36 _ (by decide), f3.2.1 _ (by omega), f2 36 0 _ (by unfold FK; omega), f1 36 0 _ (by unfold FV; omega)]
          exact q2 f hf
        · rw [g4 37 _ (by decide), f3.2.2 _ (by omega), f2 37 0 _ (by unfold FK; omega), f1 37 0 _ (by unfold FV; omega)]
          exact q3 p hp
        · have hnp := hp.1
          rw [f4.2 _ (by omega), g3 38 _ (by decide) (by decide), f2 38 0 _ (by unfold FK; omega), f1 38 0 _ (by unfold FV; omega)]
          exact q4 q hq
    obtain ⟨G5, e5, hK5, f5⟩ := kn_levels hs n (L + 1) G4 (by omega) (by omega) hR4 hV4 hK4
    have e := e_l_Mod_knows_138 (L : Int) G
    rw [if_pos (by omega), e1, e_l_Mod_knows_145, if_pos rfl, e2] at e
    simp only [bV_r] at e
    rw [e3, e_l_Mod_knows_246, if_pos rfl, e4] at e
    simp only [bV_r] at e
    rw [wr_sc (show L < 5 by omega) (by decide), e5] at e
    exact ⟨G5, e, hK5, ((f12.trans (f3.1.mono (fun t i z => by unfold FW; omega))).trans (f4.1.mono (fun t i z => by unfold FW; omega))).trans f5⟩
def FWk (t : Nat) (_ : Int) : Prop := (30 ≤ t ∧ t ≤ 38) ∨ t = 25
theorem r_knows1 (hs : okM s) {G : GG} (hR : RoR G 26 s) (hC : RC G s) : ∃ G', f_Mod_knows G = rV G' ∧ RKn G' s 5 ∧ Fr FWk G G' ∧ (∀ k : Int, k ≠ 11 → G' 25 0 k = G 25 0 k) ∧ G' 25 0 11 ≠ 0 := by
  by_cases h11 : G 25 0 11 = 0
  · have ho := hs.2.1
    have hp := hs.2.2.2.2.1
    have hst := hs.2.2.2.2.2.2.2.1
    have e := e_f_Mod_knows G
    rw [if_pos h11] at e
    have hR0 : RoR (up G 25 0 11 1) 26 s := hR.fr (fun k => up_t (by decide))
    obtain ⟨G1, e1, hL1, f1⟩ := kn_sizes hs hR0
    have hR1 : RoR G1 26 s := hR0.fr (fun k => f1 26 0 k (by unfold FK; omega))
    have hok0 : okW (mNl s) (mSz s) (mSz s, fun _ k => k) := okW0 ho
    obtain ⟨G2, e2, hV2, f2⟩ := r_take (v := (mSz s, fun _ k => k)) ho hok0 (show 0 < 5 by decide) (hR1.ln hs) hL1
    have hR2 : RoR G2 26 s := hR1.fr (fun k => f2 26 0 k (by unfold FV; omega))
    obtain ⟨G3, e3, hO3, f3⟩ := r_owners0 (G := G2) hR2.ow
    obtain ⟨G4, e4, hO4, hB4, f4⟩ := r_became0 hO3
    have f34 := f3.trans f4
    have g4 : ∀ t k, t ≠ 36 → t ≠ 37 → G4 t 0 k = G2 t 0 k := fun t k h1 h2 => f34.1 t 0 k (fun z => by rcases z.2 with z | z; exact h1 z; exact h2 z)
    have hV4 := hV2.fr (fun k => g4 26 k (by decide) (by decide)) (fun k => g4 30 k (by decide) (by decide)) (fun k => g4 31 k (by decide) (by decide)) (fun k => g4 32 k (by decide) (by decide)) (fun k => g4 33 k (by decide) (by decide))
    have hR4 : RoR G4 26 s := hR2.fr (fun k => g4 26 k (by decide) (by decide))
    obtain ⟨G5, e5, ⟨pl, hpl, hplk⟩, f5⟩ := r_places (L := 0) hp hst (okW.ln ho hok0) (by decide) (hR4.pt hs) hR4.st hV4
    obtain ⟨hplm, hpleq⟩ := plM_of (L := 0) hs hplk
    have g5 : ∀ t k, t ≠ 38 → G5 t 0 k = G4 t 0 k := fun t k h1 => f5.s h1 k
    have hR5 : RoR G5 26 s := hR4.fr (fun k => g5 26 k (by decide))
    have hV5 : LnV G5 (mNl s) (lvM s (1 - 1)).1 (cdM (mCd s) (lvM s (1 - 1)).2) (lvM s (1 - 1)).2 := hV4.fr (fun k => g5 26 k (by decide)) (fun k => g5 30 k (by decide)) (fun k => g5 31 k (by decide)) (fun k => g5 32 k (by decide)) (fun k => g5 33 k (by decide))
    have hK5 : RKn G5 s 1 := by
      intro M hM
      have hM0 : M = 0 := by omega
      rw [hM0]
      have hL5 : RLv G5 0 (mNl s) (mSz s, fun _ k => k) := hL1.fr (fun k => (g5 34 k (by decide)).trans ((g4 34 k (by decide) (by decide)).trans (f2 34 0 k (by unfold FV; omega)))) (fun k => (g5 35 k (by decide)).trans ((g4 35 k (by decide) (by decide)).trans (f2 35 0 k (by unfold FV; omega))))
      exact ⟨hL5, fun f hf => (g5 36 _ (by decide)).trans (hO4 f hf), fun p hp => (g5 37 _ (by decide)).trans (hB4 p hp), fun q hq => (hpl q hq).trans (hpleq q hq), hplm⟩
    obtain ⟨G6, e6, hK6, f6⟩ := kn_levels hs 4 1 G5 (by decide) (by decide) hR5 hV5 hK5
    have e2' : f_Mod_takesLevel 0 G1 = rV G2 := e2
    have e5' : f_Mod_places 0 G4 = rV G5 := e5
    rw [e1, e2'] at e
    simp only [bV_r] at e
    rw [e3, e4, e5'] at e
    simp only [bV_r] at e
    have e6' : l_Mod_knows_138 1 G5 = rV G6 := e6
    rw [e6'] at e
    have fa : Fr FW (up G 25 0 11 1) G6 := ((((f1.mono (fun t i z => by unfold FK at z; unfold FW; omega)).trans (f2.mono (fun t i z => by unfold FV at z; unfold FW; omega))).trans (f34.1.mono (fun t i z => by unfold FW; omega))).trans (f5.1.mono (fun t i z => by unfold FW; omega))).trans f6
    refine ⟨G6, e, hK6, (Fr.up (P := FWk) G 11 1 (Or.inr rfl)).trans (fa.mono (fun t i z => Or.inl z)), fun k hk => ?_, ?_⟩
    · rw [fa 25 0 k (by unfold FW; omega), up_k hk]
    · rw [fa 25 0 11 (by unfold FW; omega), up_at]
      decide
  · have e := e_f_Mod_knows G
    rw [if_neg h11] at e
    exact ⟨G, e, hC.resolve_left h11, Fr.refl G, fun _ _ => rfl, h11⟩
theorem r_knows (hs : okM s) {G : GG} (hR : RoR G 26 s) (hC : RC G s) : ∃ G', f_Mod_knows G = rV G' ∧ RKn G' s 5 ∧ Fr FWk G G' ∧ ∀ k : Int, k ≠ 11 → G' 25 0 k = G 25 0 k := by
  obtain ⟨G1, h1, h2, h3, h4, -⟩ := r_knows1 hs hR hC
  exact ⟨G1, h1, h2, h3, h4⟩
theorem r_looks (hs : okM s) {L : Nat} (hL : L < 5) {G : GG} (hR : RoR G 26 s) (hC : RC G s) : ∃ G', f_Mod_looks L G = rV G' ∧ RKn G' s 5 ∧ LnV G' (mNl s) (lvM s L).1 (cdM (mCd s) (lvM s L).2) (lvM s L).2 ∧ Fr FWk G G' ∧ ∀ k : Int, k ≠ 11 → G' 25 0 k = G 25 0 k := by
  obtain ⟨G1, e1, hK1, f1, g1⟩ := r_knows hs hR hC
  have hR1 : RoR G1 26 s := hR.fr (fun k => f1 26 0 k (by unfold FWk; omega))
  obtain ⟨G2, e2, hV2, f2⟩ := r_take hs.2.1 (lvV_ok hs.2.1 L) hL (hR1.ln hs) (hK1 L hL).1
  have e := e_f_Mod_looks (L : Int) G
  rw [e1] at e
  simp only [bV_r] at e
  rw [e2] at e
  refine ⟨G2, e, hK1.fr (fun t k ht => f2 t 0 k (by unfold FV; omega)), hV2, f1.trans (f2.mono (fun t i z => by unfold FV at z; unfold FWk; omega)), fun k hk => (f2 25 0 k (by unfold FV; omega)).trans (g1 k hk)⟩
end KNOWS
