/-! ===== questions about lines: one vertex ===== -/
section QWITH
variable {s : Nat → Int} {G : GG}
theorem lvM_ok (hs : okM s) (L : Nat) : okLn (mNl s) (lvM s L).1 (cdM (mCd s) (lvM s L).2) := okW.ln hs.2.1 (lvV_ok hs.2.1 L)
theorem qr_upd {r : RS} {k v b : Int} {G1 : GG} (hF : Fr FWk G G1) (h25 : ∀ z : Int, z ≠ 11 → G1 25 0 z = G 25 0 z) (hK : RKn G1 s 5) (e : r = rI b (up G1 25 0 6 k)) (hb : k = 0 → b = v) : QAr s G r k v :=
  ⟨_, b, e, up_at _ _ _ _ _, hb, Or.inr (hK.fr (fun t k ht => up_t (by omega))), (hF.mono (fun t i z => by unfold FWk at z; unfold FRq; omega)).trans (Fr.up _ _ _ (Or.inl rfl)), fun z h6 h11 _ => (up_k h6).trans (h25 z h11)⟩
theorem r_wv (hs : okM s) (hR : RoR G 26 s) (hC : RC G s) {L l : Nat} (hL : L < 5) (hl : l < mNl s) (x : Int) : ∃ G1, f_Mod_wrongVertex L l x G = rI (if 0 ≤ x ∧ x < ((lvM s L).1 l : Int) then 0 else 2) G1 ∧ RKn G1 s 5 ∧ LnV G1 (mNl s) (lvM s L).1 (cdM (mCd s) (lvM s L).2) (lvM s L).2 ∧ Fr FWk G G1 ∧ ∀ z : Int, z ≠ 11 → G1 25 0 z = G 25 0 z := by
  have h6 := hs.2.1.1
  have hz := ((lvM_ok hs L).2 l hl).1
  obtain ⟨G1, e1, hK, hV, hF, h25⟩ := r_looks hs hL hR hC
  have e := e_f_Mod_wrongVertex (L : Int) (l : Int) x G
  rw [r_level_t (by omega)] at e
  simp only [bI_r] at e
  rw [if_neg i01, r_line_t (hR.nl hs) (by omega) (by omega)] at e
  simp only [bI_r] at e
  rw [if_neg i01, e1] at e
  simp only [bV_r] at e
  rw [if_pos (by omega), (hV.2 l hl).1, wr_id (by omega) (by omega), r_isIn] at e
  simp only [bI_r] at e
  refine ⟨G1, e.trans ?_, hK, hV, hF, h25⟩
  by_cases h3 : 0 ≤ x ∧ x < ((lvM s L).1 l : Int)
  · rw [if_pos h3, decide_eq_true (by omega)]
    rfl
  · rw [if_neg h3, decide_eq_false (by omega)]
    rfl
theorem q_with (hs : okM s) (h : ShC G 0 s) (hC : CC G s) {x1 x2 x3 : Int} {fl fcl : RS} {cbody : Int → GG → RS} {fmr rbody : GG → RS} {h9 : Nat → GG → RS}
    (el : fl = contI fcl h9 (fun r2 G1 => rI 0 (up G1 42 0 0 r2))) (hh0 : ∀ G1, h9 0 G1 = rI 1 G1) (hh2 : ∀ G1, h9 2 G1 = rI 2 G1)
    (ec : fcl = bR 2 (f_Map_linesWith x1 x2 x3 G) cbody)
    (er : ∀ G1, fmr G1 = bI (f_Mod_wrongVertex x1 x2 x3 G1) fun r2 G2 => if (up G2 25 0 6 r2) 25 0 6 = 0 then rbody (up G2 25 0 6 r2) else rI 0 (up G2 25 0 6 r2))
    (hb : ∀ L l k : Nat, L < 5 → l < mNl s → k < (lvM s L).1 l → x1 = (L : Int) → x2 = (l : Int) → x3 = (k : Int) → ∃ v, (∀ G1, ShC G1 0 s → LnC G1 (lix L) (mNl s) (lvM s L).1 (cdM (mCd s) (lvM s L).2) → cbody (lix L) G1 = rI v G1) ∧ ∀ G1, RoR G1 26 s → LnV G1 (mNl s) (lvM s L).1 (cdM (mCd s) (lvM s L).2) (lvM s L).2 → rbody G1 = rI v G1) :
    ∃ k v, QAc s G fl k v ∧ ∀ G1, RoR G1 26 s → RC G1 s → QAr s G1 (fmr G1) k v := by
  have h6 := hs.2.1.1
  by_cases h1 : 0 ≤ x1 ∧ x1 ≤ 4
  · obtain ⟨L, rfl⟩ : ∃ L : Nat, x1 = (L : Int) := ⟨x1.toNat, by omega⟩
    have hL5 : L < 5 := by omega
    by_cases h2 : 0 ≤ x2 ∧ x2 < (mNl s : Int)
    · obtain ⟨l, rfl⟩ : ∃ l : Nat, x2 = (l : Int) := ⟨x2.toNat, by omega⟩
      have hl : l < mNl s := by omega
      obtain ⟨G1, e1, hL1, hC1, hF1, -⟩ := c_lines hs h hC hL5
      have ew := e_f_Map_linesWith (L : Int) (l : Int) x3 G
      rw [g_level_t h1] at ew
      simp only [bV_r] at ew
      rw [g_line_t h.1.1 h2] at ew
      simp only [bV_r] at ew
      rw [e1, bR_r] at ew
      have ev := e_f_Map_requireVertex (lix L) (l : Int) x3 G1
      rw [(hL1.2 l hl).1, if_pos (show 0 ≤ (l : Int) ∧ (l : Int) < 6 by omega)] at ev
      by_cases h3 : 0 ≤ x3 ∧ x3 < ((lvM s L).1 l : Int)
      · obtain ⟨k, rfl⟩ : ∃ k : Nat, x3 = (k : Int) := ⟨x3.toNat, by omega⟩
        rw [if_neg (by omega), if_pos h3.2] at ev
        obtain ⟨v, hv1, hv2⟩ := hb L l k hL5 hl (by omega) rfl rfl rfl
        refine ⟨0, v, qa_v (r := fcl) ⟨G1, ?_, hC1, hF1⟩ el, fun G2 hR2 hC2 => ?_⟩
        · rw [ec, ew, ev, bV_r, bR_r]
          exact hv1 G1 (h.q (by decide) hF1) hL1
        · obtain ⟨G3, e3, hK3, hV3, hF3, h25⟩ := r_wv hs hR2 hC2 hL5 hl (k : Int)
          have e := er G2
          rw [e3, if_pos h3] at e
          simp only [bI_r] at e
          rw [if_pos (up_at _ _ _ _ _), hv2 (up G3 25 0 6 0) ((hR2.fr (fun k => hF3 26 0 k (by unfold FWk; omega))).fr (fun k => up_t (by decide))) (hV3.fr (fun k => up_t (by decide)) (fun k => up_t (by decide)) (fun k => up_t (by decide)) (fun k => up_t (by decide)) (fun k => up_t (by decide)))] at e
          exact qr_upd hF3 h25 hK3 e (fun _ => rfl)
      · have ev2 : f_Map_requireVertex (lix L) (l : Int) x3 G1 = rX 2 (bump G1) := by
          rw [ev]
          by_cases h4 : x3 < 0
          · rw [if_pos h4]
          · rw [if_neg h4, if_neg (by omega)]
        refine ⟨2, 0, qa_x (r := fcl) (x := 2) ⟨G1, ?_, hC1, hF1⟩ el hh2 (by decide), fun G2 hR2 hC2 => ?_⟩
        · rw [ec, ew, ev2]
          rfl
        · obtain ⟨G3, e3, hK3, hV3, hF3, h25⟩ := r_wv hs hR2 hC2 hL5 hl x3
          have e := er G2
          rw [e3, if_neg h3] at e
          simp only [bI_r] at e
          rw [if_neg (by rw [up_at]; decide)] at e
          exact qr_upd hF3 h25 hK3 e (fun z => absurd z (by decide))
    · refine ⟨2, 0, qa_x (r := fcl) (x := 2) (qm_x hC ?_) el hh2 (by decide), fun G2 hR2 hC2 => qr_x hC2 ?_ (by decide)⟩
      · rw [ec, e_f_Map_linesWith, g_level_t h1]
        simp only [bV_r]
        rw [g_line_f h.1.1 h2]
        rfl
      · have e := er G2
        rw [e_f_Mod_wrongVertex, r_level_t h1] at e
        simp only [bI_r] at e
        rw [if_neg i01, r_line_f (hR2.nl hs) (by omega) h2] at e
        simp only [bI_r, ↓reduceIte, up_at, i01, i02, i03] at e
        exact e
  · refine ⟨1, 0, qa_x (r := fcl) (x := 0) (qm_x hC ?_) el hh0 (by decide), fun G2 hR2 hC2 => qr_x hC2 ?_ (by decide)⟩
    · rw [ec, e_f_Map_linesWith, g_level_f h1]
      rfl
    · have e := er G2
      rw [e_f_Mod_wrongVertex, r_level_f h1] at e
      simp only [bI_r, ↓reduceIte, up_at, i01, i02, i03] at e
      exact e
theorem r_of (hs : okM s) (hR : RoR G 26 s) {L j : Nat} (hL : L < 5) (hj : j < 3) : f_Mod_of L j G = rI (mSt s (3 * L + j)) G := by
  have hst := hs.2.2.2.2.2.2.2.1
  by_cases h0 : L = 0
  · subst h0
    have e : mSt s (3 * 0 + j) = 0 := by
      rcases j with _ | _ | _ | j
      · exact hst.2.1
      · exact hst.2.2.1
      · exact hst.2.2.2
      · omega
    rw [e_f_Mod_of, if_neg (by decide), e_f_Mod_setting, if_pos rfl, e]
    rfl
  · have e9 : G 26 0 (280 + 3 * (L : Int) + (j : Int)) = mSt s (3 * L + j) := hR.at (280 + (3 * L + j)) (by omega) (by omega)
    rw [e_f_Mod_of, if_pos (by omega), e_f_Mod_setting, if_neg (by decide), wr_id (z := 3 * (L : Int)) (by omega) (by omega), wr_id (z := 280 + 3 * (L : Int)) (by omega) (by omega), wr_id (z := 280 + 3 * (L : Int) + (j : Int)) (by omega) (by omega), if_pos (by omega), e9]
    rfl
theorem q_vertex (hs : okM s) (h : ShC G 0 s) (hC : CC G s) (x1 x2 x3 x4 : Int) : ∃ k v, QAc s G (f_Law_vertex x1 x2 x3 x4 G) k v ∧ ∀ G1, RoR G1 26 s → RC G1 s → QAr s G1 (f_Mod_vertex x1 x2 x3 x4 G1) k v := by
  refine q_with hs h hC (e_f_Law_vertex x1 x2 x3 x4 G) (fun _ => rfl) (fun _ => rfl) (e_f_Map_vertex x1 x2 x3 x4 G)
    (rbody := fun G => if x4 = 0 then (if 0 ≤ wr ((wr (10 * x2)) + x3) ∧ wr ((wr (10 * x2)) + x3) < 60 then rI (G 31 0 (wr ((wr (10 * x2)) + x3))) G else none) else (if 0 ≤ wr ((wr (10 * x2)) + x3) ∧ wr ((wr (10 * x2)) + x3) < 60 then rI (G 32 0 (wr ((wr (10 * x2)) + x3))) G else none)) (fun G1 => e_f_Mod_vertex x1 x2 x3 x4 G1) (fun L l k hL hl hk e1 e2 e3 => ?_)
  have h6 := hs.2.1.1
  have hz := ((lvM_ok hs L).2 l hl).1
  have hcc := ((lvM_ok hs L).2 l hl).2.1 k hk
  refine ⟨if x4 = 0 then cdM (mCd s) (lvM s L).2 l k / 64 else cdM (mCd s) (lvM s L).2 l k % 64, fun G1 h1 hL1 => ?_, fun G1 hR1 hV => ?_⟩
  · rw [e2, e3, g_cod hL1 (lvM_ok hs L) hl hk]
    simp only [bI_r]
    rw [bShr6 hcc.1 hcc.2, bAnd63 hcc.1 hcc.2]
    split <;> rfl
  · have c60 : 0 ≤ 10 * (l : Int) + (k : Int) ∧ 10 * (l : Int) + (k : Int) < 60 := by omega
    rw [e2, e3, wr_10 (by omega) (by omega), ((hV.2 l hl).2 k hk).1, ((hV.2 l hl).2 k hk).2.1]
    simp only [if_pos c60]
    split <;> rfl
theorem q_why (hs : okM s) (h : ShC G 0 s) (hC : CC G s) (x1 x2 x3 : Int) : ∃ k v, QAc s G (f_Law_why x1 x2 x3 G) k v ∧ ∀ G1, RoR G1 26 s → RC G1 s → QAr s G1 (f_Mod_why x1 x2 x3 G1) k v := by
  refine q_with hs h hC (e_f_Law_why x1 x2 x3 G) (fun _ => rfl) (fun _ => rfl) (e_f_Map_why x1 x2 x3 G)
    (rbody := fun G => bI (f_Mod_of x1 0 G) fun r4 G3 => bI (f_Mod_reason x2 x3 r4 G3) fun r6 G5 => rI r6 G5) (fun G1 => e_f_Mod_why x1 x2 x3 G1) (fun L l k hL hl hk e1 e2 e3 => ?_)
  refine ⟨rsn (mNl s) (lvM s L).1 (cdM (mCd s) (lvM s L).2) (mNp s) (mPt s) (mSt s (3 * L + 0)) l k, fun G1 h1 hL1 => ?_, fun G1 hR1 hV => ?_⟩
  · have es : f_She_settingOf 0 (L : Int) 0 G1 = rI (mSt s (3 * L + 0)) G1 := g_setOf (j := 0) h1.2.2.2.2.1 hL (by decide)
    rw [e1, e2, e3, es]
    simp only [bI_r]
    rw [g_rsn hL1 (lvM_ok hs L) h1.2.1 hs.2.2.2.2.1 hl hk]
    rfl
  · have es : f_Mod_of (L : Int) 0 G1 = rI (mSt s (3 * L + 0)) G1 := r_of (j := 0) hs hR1 hL (by decide)
    rw [e1, e2, e3, es]
    simp only [bI_r]
    rw [r_rsn hV (lvM_ok hs L) (hR1.pt hs) hs.2.2.2.2.1 hl hk]
    rfl
theorem q_weight (hs : okM s) (h : ShC G 0 s) (hC : CC G s) (x1 x2 x3 : Int) : ∃ k v, QAc s G (f_Law_weight x1 x2 x3 G) k v ∧ ∀ G1, RoR G1 26 s → RC G1 s → QAr s G1 (f_Mod_weight x1 x2 x3 G1) k v := by
  refine q_with hs h hC (e_f_Law_weight x1 x2 x3 G) (fun _ => rfl) (fun _ => rfl) (e_f_Map_weight x1 x2 x3 G)
    (rbody := fun G => bI (f_Mod_weightOf x2 x3 G) fun r4 G3 => rI r4 G3) (fun G1 => e_f_Mod_weight x1 x2 x3 G1) (fun L l k hL hl hk e1 e2 e3 => ?_)
  refine ⟨if k = 0 ∨ (lvM s L).1 l ≤ k + 1 then -1 else wt (cdM (mCd s) (lvM s L).2) l k, fun G1 h1 hL1 => ?_, fun G1 hR1 hV => ?_⟩
  · rw [e2, e3, g_isEnd hL1 (lvM_ok hs L) hl]
    simp only [bI_r, b2i_0]
    by_cases hq : k = 0 ∨ (lvM s L).1 l ≤ k + 1
    · rw [decide_eq_true hq, if_neg (by decide), if_pos hq]
    · rw [decide_eq_false hq, if_pos rfl, if_neg hq, g_wt hL1 (lvM_ok hs L) hl (by omega) (by omega)]
      rfl
  · rw [e2, e3, r_wt hV (lvM_ok hs L) hl hk]
    rfl
end QWITH
