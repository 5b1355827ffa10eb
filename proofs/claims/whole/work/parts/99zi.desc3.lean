/-! ===== describe: the question ===== -/
section QDS
variable {s : Nat → Int} {G : GG}
theorem tld_len {nl : Nat} {sz : Nat → Nat} {cd : Nat → Nat → Int} (ho : okLn nl sz cd) {l : Nat} (hl : l < nl) : 2 ≤ (tld cd l (sz l)).length ∧ (tld cd l (sz l)).length ≤ 61 := by
  have hz := (ho.2 l hl).1
  have h := lnT_len cd l (sz l)
  unfold tld
  rw [len_s]
  rw [if_neg (by omega)] at h
  omega
/-- all that is told -/
theorem r_told {nl : Nat} {sz : Nat → Nat} {cd : Nat → Nat → Int} {mk : Nat → Nat → Nat} (hV : LnV G nl sz cd mk) (ho : okLn nl sz cd) {l : Nat} (hl : l < nl) (x : Int) (h5 : G 25 0 25 = 1) (h : Txt G 41 [76]) :
    ∃ G', l_Mod_describe_59 l x (10 * (l : Int) + ((0 : Nat) : Int)) G = (bI (f_Mod_isIn x (-1) (((tld cd l (sz l)).length : Int) - 1) G') fun r10 G9 => if r10 = 0 then if (up G9 25 0 6 3) 25 0 6 = 0 then if x < 0 then rI ((up G9 25 0 6 3) 25 0 25) (up G9 25 0 6 3) else if 0 ≤ x ∧ x < 80 then rI ((up G9 25 0 6 3) 41 0 x) (up G9 25 0 6 3) else none else rI 0 (up G9 25 0 6 3) else if (up G9 25 0 6 0) 25 0 6 = 0 then if x < 0 then rI ((up G9 25 0 6 0) 25 0 25) (up G9 25 0 6 0) else if 0 ≤ x ∧ x < 80 then rI ((up G9 25 0 6 0) 41 0 x) (up G9 25 0 6 0) else none else rI 0 (up G9 25 0 6 0)) ∧ Td G G' (tld cd l (sz l)) := by
  have h6 := ho.1
  have hz := (ho.2 l hl).1
  have htl := tld_len ho hl
  have l6 : l < 6 := by omega
  refine loop_inv (l := fun k G1 => l_Mod_describe_59 l x (10 * (l : Int) + (k : Int)) G1) (I := fun k G1 => Td G G1 (lnT cd l k)) (P := fun r => ∃ G', r = (bI (f_Mod_isIn x (-1) (((tld cd l (sz l)).length : Int) - 1) G') fun r10 G9 => if r10 = 0 then if (up G9 25 0 6 3) 25 0 6 = 0 then if x < 0 then rI ((up G9 25 0 6 3) 25 0 25) (up G9 25 0 6 3) else if 0 ≤ x ∧ x < 80 then rI ((up G9 25 0 6 3) 41 0 x) (up G9 25 0 6 3) else none else rI 0 (up G9 25 0 6 3) else if (up G9 25 0 6 0) 25 0 6 = 0 then if x < 0 then rI ((up G9 25 0 6 0) 25 0 25) (up G9 25 0 6 0) else if 0 ≤ x ∧ x < 80 then rI ((up G9 25 0 6 0) 41 0 x) (up G9 25 0 6 0) else none else rI 0 (up G9 25 0 6 0)) ∧ Td G G' (tld cd l (sz l))) (sz l) 0 G (fun k G1 _ hk hI => ?_) (fun G1 hI => ?_) ⟨h5, h, Fr.refl G, fun _ _ => rfl⟩
  · have hk2 : k < sz l := by omega
    obtain ⟨G2, e2, t2⟩ := r_vt (G := G1) (hV.fd hI.2.2.1) ho hl hk2 x hI.1 hI.2.1
    exact ⟨G2, e2, hI.trans t2⟩
  · rw [Nat.zero_add] at hI ⊢
    have hV1 := hV.fd hI.2.2.1
    have hll : (lnT cd l (sz l)).length + 1 = (tld cd l (sz l)).length := by unfold tld; rw [len_s]
    obtain ⟨G2, e2, t2⟩ := r_tell (G := G1) (T := lnT cd l (sz l)) (by omega) hI.1 hI.2.1 59
    have t3 : Td G G2 (tld cd l (sz l)) := hI.trans t2
    have cl : (0 : Int) ≤ (l : Int) ∧ (l : Int) < 6 := by omega
    have hlen1 : -2147483648 ≤ ((tld cd l (sz l)).length : Int) - 1 ∧ ((tld cd l (sz l)).length : Int) - 1 < 2147483648 := by omega
    obtain ⟨w1, w2, -⟩ := w_ds (m := sz l) (k := 0) l6 (by decide) hz.2
    have e := e_l_Mod_describe_59 l x (10 * (l : Int) + ((sz l : Nat) : Int)) G1
    rw [if_pos cl, w1, (hV1.2 l hl).1, w2, if_neg (Int.lt_irrefl _), e2, bV_r, t3.1, wr_id hlen1.1 hlen1.2] at e
    exact ⟨G2, e, t3⟩
theorem q_describe (hs : okM s) (hS : ShC G 0 s) (hC : CC G s) (x1 x2 x3 : Int) : ∃ k v, QAc s G (f_Law_describe x1 x2 x3 G) k v ∧ ∀ G1, RoR G1 26 s → RC G1 s → QAr s G1 (f_Mod_describe x1 x2 x3 G1) k v := by
  have hn6 : mNl s ≤ 60 := Nat.le_trans hs.2.1.1 (by decide)
  by_cases h1 : 0 ≤ x1 ∧ x1 ≤ 4
  · obtain ⟨L, rfl⟩ : ∃ L : Nat, x1 = (L : Int) := ⟨x1.toNat, by omega⟩
    have Lb : L < 5 := by omega
    by_cases h2 : 0 ≤ x2 ∧ x2 < (mNl s : Int)
    · obtain ⟨l, rfl⟩ : ∃ l : Nat, x2 = (l : Int) := ⟨x2.toNat, by omega⟩
      have lb : l < mNl s := by omega
      have ho := lvM_ok hs L
      have htl := tld_len ho lb
      have ec : f_Map_describe (L : Int) (l : Int) x3 G = bR 2 (f_Lev_linesOf (L : Int) G) fun i4 G3 => bI (f_Lin_write i4 (l : Int) G3) fun r6 G5 => if x3 = (-1) then rI r6 G5 else if x3 < 0 then rX 5 (bump G5) else if x3 < r6 then if 0 ≤ x3 ∧ x3 < 61 then rI (G5 24 0 x3) G5 else none else rX 5 (bump G5) := by
        rw [e_f_Map_describe, g_level_t h1, bV_r, g_line_t hS.1.1 h2, bV_r]
      have er9 : ∀ G1, RoR G1 26 s → f_Mod_describe (L : Int) (l : Int) x3 G1 = bV (f_Mod_looks (L : Int) (up G1 25 0 6 0)) fun G9 => bV (f_Mod_tells 76 (up G9 25 0 25 0)) fun G10 => l_Mod_describe_59 (l : Int) x3 (wr (10 * (l : Int))) G10 := fun G1 hR1 => by
        rw [e_f_Mod_describe, r_level_t h1, bI_r, if_neg i01, r_line_t (hR1.nl hs) hn6 h2, bI_r, if_neg i01, up_at, if_pos rfl]
      have e10 : 10 * (l : Int) = 10 * (l : Int) + ((0 : Nat) : Int) := (Int.add_zero _).symm
      have l6 : l < 6 := Nat.lt_of_lt_of_le lb hs.2.1.1
      -- the reference, up to its last test
      have rr : ∀ G1, RoR G1 26 s → RC G1 s → ∃ G3, RKn G3 s 5 ∧ G3 25 0 25 = ((tld (cdM (mCd s) (lvM s L).2) l ((lvM s L).1 l)).length : Int) ∧ Txt G3 41 (tld (cdM (mCd s) (lvM s L).2) l ((lvM s L).1 l)) ∧ Fr FRq G1 G3 ∧ (∀ z : Int, z ≠ 6 → z ≠ 11 → z ≠ 25 → G3 25 0 z = G1 25 0 z) ∧ f_Mod_describe (L : Int) (l : Int) x3 G1 = if -1 ≤ x3 ∧ x3 ≤ ((tld (cdM (mCd s) (lvM s L).2) l ((lvM s L).1 l)).length : Int) - 1 then (if x3 < 0 then rI ((up G3 25 0 6 0) 25 0 25) (up G3 25 0 6 0) else if 0 ≤ x3 ∧ x3 < 80 then rI ((up G3 25 0 6 0) 41 0 x3) (up G3 25 0 6 0) else none) else rI 0 (up G3 25 0 6 3) := by
        intro G1 hR1 hC1
        obtain ⟨G2, e2, hK, hV, hF, h25⟩ := r_looks (G := up G1 25 0 6 0) hs Lb (hR1.fr (fun k => up_t (by decide))) (hC1.up6 0)
        have t0 : Txt (up G2 25 0 25 0) 41 [] := fun j hj => absurd hj (Nat.not_lt_zero _)
        obtain ⟨Ga, ea, ta⟩ := r_tell (G := up G2 25 0 25 0) (T := []) (by decide) (up_at _ _ _ _ _) t0 76
        have fa : Fr FD G2 Ga := (Fr.up (P := FD) G2 25 0 ⟨Or.inr rfl, rfl⟩).trans ta.2.2.1
        obtain ⟨G3, e3, t3⟩ := r_told (G := Ga) (hV.fd fa) ho lb x3 ta.1 ta.2.1
        have fb : Fr FD G2 G3 := fa.trans t3.2.2.1
        have n25 : ∀ z : Int, z ≠ 25 → G3 25 0 z = G2 25 0 z := fun z hz => (t3.2.2.2 z hz).trans ((ta.2.2.2 z hz).trans (up_k hz))
        refine ⟨G3, hK.fr (fun t k ht => fb t 0 k (by unfold FD; clear e2 e3 ea; omega)), t3.1, t3.2.1, ((Fr.up (P := FRq) G1 6 0 (Or.inl rfl)).trans (hF.mono (fun t i z => by unfold FWk at z; unfold FRq; clear e2 e3 ea; omega))).trans (fb.mono (fun t i z => by unfold FD at z; unfold FRq; clear e2 e3 ea; omega)), fun z z6 z11 z25 => (n25 z z25).trans ((h25 z z11).trans (up_k z6)), ?_⟩
        rw [er9 G1 hR1, e2, bV_r, ea, bV_r, wr_id (z := 10 * (l : Int)) (by clear e2 e3 ea; omega) (by clear e2 e3 ea; omega), e10, e3]
        by_cases q : -1 ≤ x3 ∧ x3 ≤ ((tld (cdM (mCd s) (lvM s L).2) l ((lvM s L).1 l)).length : Int) - 1
        · rw [r_isIn_t q, bI_r, if_neg i01, up_at, if_pos rfl, if_pos q]
        · rw [r_isIn_f q, bI_r, if_pos rfl, up_at, if_neg i03, if_neg q]
      by_cases h3 : -1 ≤ x3 ∧ x3 ≤ ((tld (cdM (mCd s) (lvM s L).2) l ((lvM s L).1 l)).length : Int) - 1
      · by_cases h4 : x3 = -1
        · refine ⟨0, ((tld (cdM (mCd s) (lvM s L).2) l ((lvM s L).1 l)).length : Int), qa_v (r := f_Map_describe (L : Int) (l : Int) x3 G) (qm_lines hs hS hC Lb ec (fun G2 h8 c8 hL8 => ?_)) (e_f_Law_describe (L : Int) (l : Int) x3 G), fun G1 hR1 hC1 => ?_⟩
          · obtain ⟨G3, e3, ht3, f3⟩ := g_write hL8 ho lb
            refine ⟨G3, ?_, c8.fr (fun t i k ht => f3 t i k (by clear e3; omega)), f3.mono (fun t i z => by unfold FQ; clear e3; omega)⟩
            rw [e3, bI_r, if_pos h4]
          · obtain ⟨G3, k1, k2, k3, k4, k5, k6⟩ := rr G1 hR1 hC1
            rw [if_pos h3, if_pos (show x3 < 0 by omega), up_k (show (25 : Int) ≠ 6 by decide), k2] at k6
            exact ⟨_, _, k6, up_at _ _ _ _ _, fun _ => rfl, RC.up6 (Or.inr k1) 0, k4.trans (Fr.up _ _ _ (Or.inl rfl)), fun z z6 z11 z25 => (up_k z6).trans (k5 z z6 z11 z25)⟩
        · obtain ⟨j, rfl⟩ : ∃ j : Nat, x3 = (j : Int) := ⟨x3.toNat, by omega⟩
          have hj : j < (tld (cdM (mCd s) (lvM s L).2) l ((lvM s L).1 l)).length := by omega
          refine ⟨0, (tld (cdM (mCd s) (lvM s L).2) l ((lvM s L).1 l))[j], qa_v (r := f_Map_describe (L : Int) (l : Int) (j : Int) G) (qm_lines hs hS hC Lb ec (fun G2 h8 c8 hL8 => ?_)) (e_f_Law_describe (L : Int) (l : Int) (j : Int) G), fun G1 hR1 hC1 => ?_⟩
          · obtain ⟨G3, e3, ht3, f3⟩ := g_write hL8 ho lb
            refine ⟨G3, ?_, c8.fr (fun t i k ht => f3 t i k (by clear e3; omega)), f3.mono (fun t i z => by unfold FQ; clear e3; omega)⟩
            rw [e3, bI_r, if_neg h4, if_neg (show ¬((j : Int) < 0) by clear e3; omega), if_pos (show (j : Int) < ((tld (cdM (mCd s) (lvM s L).2) l ((lvM s L).1 l)).length : Int) by clear e3; omega), if_pos (show 0 ≤ (j : Int) ∧ (j : Int) < 61 by clear e3; omega), ht3 j hj]
          · obtain ⟨G3, k1, k2, k3, k4, k5, k6⟩ := rr G1 hR1 hC1
            rw [if_pos h3, if_neg (show ¬((j : Int) < 0) by omega), if_pos (show 0 ≤ (j : Int) ∧ (j : Int) < 80 by omega), up_t (show (41 : Nat) ≠ 25 by decide), k3 j hj] at k6
            exact ⟨_, _, k6, up_at _ _ _ _ _, fun _ => rfl, RC.up6 (Or.inr k1) 0, k4.trans (Fr.up _ _ _ (Or.inl rfl)), fun z z6 z11 z25 => (up_k z6).trans (k5 z z6 z11 z25)⟩
      · refine ⟨3, 0, qa_x (x := 5) (r := f_Map_describe (L : Int) (l : Int) x3 G) (qm_linesX hs hS hC Lb ec (fun G2 h8 hL8 => ?_)) (e_f_Law_describe (L : Int) (l : Int) x3 G) (fun _ => rfl) (by decide), fun G1 hR1 hC1 => ?_⟩
        · obtain ⟨G3, e3, ht3, f3⟩ := g_write hL8 ho lb
          refine ⟨G3, ?_, f3.mono (fun t i z => z.1)⟩
          rw [e3, bI_r, if_neg (show ¬(x3 = -1) by clear e3; omega)]
          by_cases q : x3 < 0
          · rw [if_pos q]
          · rw [if_neg q, if_neg (show ¬(x3 < ((tld (cdM (mCd s) (lvM s L).2) l ((lvM s L).1 l)).length : Int)) by clear e3; omega)]
        · obtain ⟨G3, k1, k2, k3, k4, k5, k6⟩ := rr G1 hR1 hC1
          rw [if_neg h3] at k6
          exact ⟨_, _, k6, up_at _ _ _ _ _, fun z => absurd z (by decide), RC.up6 (Or.inr k1) 3, k4.trans (Fr.up _ _ _ (Or.inl rfl)), fun z z6 z11 z25 => (up_k z6).trans (k5 z z6 z11 z25)⟩
    · refine ⟨2, 0, qa_x (x := 2) (r := f_Map_describe (L : Int) x2 x3 G) (qm_x hC ?_) (e_f_Law_describe (L : Int) x2 x3 G) (fun _ => rfl) (by decide), fun G1 hR1 hC1 => qr_x hC1 ?_ (by decide)⟩
      · rw [e_f_Map_describe, g_level_t h1, bV_r, g_line_f hS.1.1 h2, bV_x]
      · rw [e_f_Mod_describe, r_level_t h1, bI_r, if_neg i01, r_line_f (hR1.nl hs) hn6 h2, bI_r, if_pos rfl, up_at, if_neg i02]
  · refine ⟨1, 0, qa_x (x := 0) (r := f_Map_describe x1 x2 x3 G) (qm_x hC ?_) (e_f_Law_describe x1 x2 x3 G) (fun _ => rfl) (by decide), fun G1 hR1 hC1 => qr_x hC1 ?_ (by decide)⟩
    · rw [e_f_Map_describe, g_level_f h1, bV_x]
    · rw [e_f_Mod_describe, r_level_f h1, bI_r, if_pos rfl, up_at, if_neg i01]
theorem lc_2939 {cn : Int} {x : Nat} (hI : Inv cn G) (hx : SX x G) : ∃ G', l_Law_law_2939 x G = l_Law_law_28 (wr ((x : Int) + 7)) G' ∧ Inv (cn + 1) G' ∧ Kp G G' := by
  have c1 := sx_c hx (i := 1) (by decide)
  have c2 := sx_c hx (i := 2) (by decide)
  have c3 := sx_c hx (i := 3) (by decide)
  refine q_case (L := l_Law_law_2939 x G) (fc := f_Law_describe (G 44 0 ((x : Int) + 1)) (G 44 0 ((x : Int) + 2)) (G 44 0 ((x : Int) + 3)) G) (fm := fun G1 => f_Mod_describe (G 44 0 ((x : Int) + 1)) (G 44 0 ((x : Int) + 2)) (G 44 0 ((x : Int) + 3)) G1) (nxt := fun G' => l_Law_law_28 (wr ((x : Int) + 7)) G') hI (fun s hs hS hC => ?_) (fun k G1 ef hk => ?_)
  · obtain ⟨k, v, a, b⟩ := q_describe hs hS hC (G 44 0 ((x : Int) + 1)) (G 44 0 ((x : Int) + 2)) (G 44 0 ((x : Int) + 3))
    exact ⟨k, v, a, fun G1 _ hR hC1 _ => b G1 hR hC1⟩
  · have e := e_l_Law_law_2939 (x : Int) G
    rw [sx_w hx (i := 1) (by decide), sx_w hx (i := 2) (by decide), sx_w hx (i := 3) (by decide), if_pos c1, if_pos c2, if_pos c3, ef, bI_r, hk 47 0 (by decide) (by decide), hk 44 ((x : Int) + 1) (by decide) (by decide), hk 44 ((x : Int) + 2) (by decide) (by decide), hk 44 ((x : Int) + 3) (by decide) (by decide), if_pos c1, if_pos c2, if_pos c3] at e
    unfold tailL
    exact e
end QDS
