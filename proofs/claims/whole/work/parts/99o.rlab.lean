/-! ===== reading labels ===== -/
section RLB
variable {s : Nat → Int} {G : GG}
theorem g_countPlaced {i : Int} {np : Nat} {pl : Nat → Int} (hn : np ≤ 12) (hP : G 5 0 1 = (np : Int)) (hp : PlC G i np pl) : f_Lab_countPlaced i G = rI (0 + sumB 0 np fun q => if pl q = -1 then 0 else 1) G := by
  rw [e_f_Lab_countPlaced]
  refine loop_sumW (l := fun (x : Int) (k : Nat) => l_Lab_countPlaced_4 i x k G) (f := fun q => if pl q = -1 then 0 else 1) (r := fun x => rI x G) (m := 1) np 0 0 (fun k x _ hk h1 h2 => ?_) (fun x => ?_) (fun k _ _ => by split <;> omega) (by omega) (by omega)
  · have e := e_l_Lab_countPlaced_4 i x k G
    have c0 : (0 : Int) ≤ (k : Int) ∧ (k : Int) < 12 := by omega
    rw [hP, if_pos (by omega), if_pos c0, hp k (by omega), wr_sc (show k < 12 by omega) (by decide), wr_id (z := x + 1) (by omega) (by omega)] at e
    refine e.trans ?_
    show _ = l_Lab_countPlaced_4 i (x + if pl k = -1 then 0 else 1) ((k + 1 : Nat) : Int) G
    by_cases q : pl k = -1
    · rw [if_pos q, if_pos q, Int.add_zero]
    · rw [if_neg q, if_neg q]
  · have e := e_l_Lab_countPlaced_4 i x ((0 + np : Nat) : Int) G
    rw [hP, if_neg (by omega)] at e
    exact e
def cvS (np : Nat) (pt : Nat → Nat → Int) (pl : Nat → Int) : Int := 0 + sumB 0 np fun q => if pl q = -1 then 0 else pt q 3 * pt q 4
theorem wh_bd {np : Nat} {pt : Nat → Nat → Int} (ho : okPt np pt) {q : Nat} (hq : q < np) : 0 ≤ pt q 3 * pt q 4 ∧ pt q 3 * pt q 4 ≤ 48 := by
  have h := ho.2 q hq
  have h3 := h.2.2.2.1
  have h4 := h.2.2.2.2.1
  have b := mul_bd (u := pt q 3) (v := pt q 4) (a := 12) (b := 4) (by omega) (by omega) (by omega) (by omega)
  exact ⟨Int.mul_nonneg (by omega) (by omega), b.2⟩
theorem g_coveredAll {i : Int} {np : Nat} {pt : Nat → Nat → Int} {pl : Nat → Int} (ho : okPt np pt) (hP : PtC G 0 np pt) (hp : PlC G i np pl) : f_Lab_coveredByAll i G = rI (cvS np pt pl) G := by
  have hn := ho.1
  rw [e_f_Lab_coveredByAll]
  refine loop_sumW (l := fun (x : Int) (k : Nat) => l_Lab_coveredByAll_4 i x k G) (f := fun q => if pl q = -1 then 0 else pt q 3 * pt q 4) (r := fun x => rI x G) (m := 48) np 0 0 (fun k x _ hk h1 h2 => ?_) (fun x => ?_) (fun k _ hk => by have := wh_bd ho (show k < np by omega); split <;> omega) (by omega) (by omega)
  · have hk : k < np := by omega
    have hw := wh_bd ho hk
    have e := e_l_Lab_coveredByAll_4 i x k G
    have c0 : (0 : Int) ≤ (k : Int) ∧ (k : Int) < 12 := by omega
    have f3 : f_Poi_valueOf 0 (k : Int) 3 G = rI (pt k 3) G := g_valueOf hP ho.1 hk (q := 3) (by decide)
    have f4 : f_Poi_valueOf 0 (k : Int) 4 G = rI (pt k 4) G := g_valueOf hP ho.1 hk (q := 4) (by decide)
    rw [hP.1, if_pos (by omega), if_pos c0, hp k hk, wr_sc (show k < 12 by omega) (by decide), f3] at e
    simp only [bI_r] at e
    rw [f4] at e
    simp only [bI_r] at e
    rw [wr_id (z := pt k 3 * pt k 4) (by omega) (by omega), wr_id (z := x + pt k 3 * pt k 4) (by omega) (by omega)] at e
    refine e.trans ?_
    show _ = l_Lab_coveredByAll_4 i (x + if pl k = -1 then 0 else pt k 3 * pt k 4) ((k + 1 : Nat) : Int) G
    by_cases q : pl k = -1
    · rw [if_pos q, if_pos q, Int.add_zero]
    · rw [if_neg q, if_neg q]
  · have e := e_l_Lab_coveredByAll_4 i x ((0 + np : Nat) : Int) G
    rw [hP.1, if_neg (by omega)] at e
    exact e
def laF (pt : Nat → Nat → Int) (pl : Nat → Int) (x y : Int) (q : Nat) : Bool := !decide (pl q = -1) && cvO pt q (pl q) x y
theorem g_labelOver {i : Int} {np : Nat} {pt : Nat → Nat → Int} {lr : Int} {pl : Nat → Int} (ho : okPt np pt) (hpl : okPl np pt lr pl) (hP : PtC G 0 np pt) (hp : PlC G i np pl) (x y : Int) : f_Lab_labelOver i x y G = rI (firO 0 np (laF pt pl x y)) G := by
  have hn := ho.1
  rw [e_f_Lab_labelOver]
  have stp : ∀ k : Nat, k < np → l_Lab_labelOver_2 i x y k G = if laF pt pl x y k = true then rI k G else l_Lab_labelOver_2 i x y ((k + 1 : Nat) : Int) G := by
    intro k hk
    have e := e_l_Lab_labelOver_2 i x y k G
    have c0 : (0 : Int) ≤ (k : Int) ∧ (k : Int) < 12 := by omega
    rw [hP.1, if_pos (by omega), if_pos c0, hp k hk, wr_sc (show k < 12 by omega) (by decide)] at e
    refine e.trans ?_
    clear e
    unfold laF
    by_cases q : pl k = -1
    · rw [if_pos q, decide_eq_true q]
      rfl
    · have h9 := (hpl k hk).1
      have e2 : f_Lab_overlaps i k x y x y G = rI (b2i (cvO pt k (pl k) x y)) G := g_overlaps hP ho hk (by omega) (hp k hk) x y x y
      rw [if_neg q, decide_eq_false q, e2]
      simp only [bI_r, b2i_0]
      cases cvO pt k (pl k) x y <;> rfl
  refine loop_fir (l := fun (k : Nat) => l_Lab_labelOver_2 i x y k G) (r := fun v => rI v G) np 0 (fun k _ hk hf => ?_) (fun k _ hk hf => ?_) ?_
  · rw [stp k (by omega), hf]; rfl
  · rw [stp k (by omega), hf]; rfl
  · have e := e_l_Lab_labelOver_2 i x y ((0 + np : Nat) : Int) G
    rw [hP.1, if_neg (by omega)] at e
    exact e
/-- labels do not overlap -/
theorem ffO_0 {r : Int → Int} {d : Nat} : ∀ n k : Nat, ffO r d k n ≠ -1 → r (ffO r d k n) = 0
  | 0, k, h => absurd rfl h
  | n + 1, k, h => by
    rw [ffO_s] at h ⊢
    by_cases q : r (((d + k) % 4 : Nat) : Int) = 0
    · rw [if_pos q]; exact q
    · rw [if_neg q] at h ⊢
      exact ffO_0 n (k + 1) h
theorem rsL_0 {np : Nat} {pt : Nat → Nat → Int} {lr : Int} {nl : Nat} {sz : Nat → Nat} {cd : Nat → Nat → Int} {pl : Nat → Int} {p : Nat} {t : Int} (h : rsL np pt lr nl sz cd pl p t = 0) : clO np pt pl p t = false := by
  unfold rsL at h
  cases hc : clO np pt pl p t with
  | false => rfl
  | true =>
    rw [hc] at h
    split at h
    · omega
    · split at h
      · omega
      · rw [if_pos rfl] at h
        omega
theorem no_over {L : Nat} (h : PLm s L (plM s L)) {p q : Nat} (hp : p < mNp s) (hq : q < mNp s) (hpp : plM s L p ≠ -1) (hqq : plM s L q ≠ -1) (ha : ahO (mPt s) q p = true) : ovO (mPt s) p (plM s L p) q (plM s L q) = false := by
  have hsh : shO (mPt s) (lrM s L) p = true := Classical.byContradiction fun z => hpp ((h p hp).2 z)
  have e1 := (h p hp).1 hsh
  have e2 := ffO_0 (r := rsL (mNp s) (mPt s) (lrM s L) (mNl s) (lvM s L).1 (cdM (mCd s) (lvM s L).2) (plM s L) p) (d := (mPt s p 5).toNat) 4 0 (by rw [← e1]; exact hpp)
  rw [← e1] at e2
  have e3 := rsL_0 e2
  have e4 := anyB_false.mp e3 q (Nat.zero_le _) (by omega)
  have e5 : (!decide (plM s L q = -1) && (ahO (mPt s) q p && ovO (mPt s) p (plM s L p) q (plM s L q))) = false := e4
  rw [decide_eq_false hqq, ha] at e5
  exact e5
theorem one_over {L : Nat} (h : PLm s L (plM s L)) {x y : Int} {p q : Nat} (hp : p < mNp s) (hq : q < mNp s) (h1 : laF (mPt s) (plM s L) x y p = true) (h2 : laF (mPt s) (plM s L) x y q = true) : p = q := by
  unfold laF at h1 h2
  rw [Bool.and_eq_true] at h1 h2
  obtain ⟨a1, a2⟩ := h1
  obtain ⟨b1, b2⟩ := h2
  have a3 : plM s L p ≠ -1 := fun z => by rw [decide_eq_true z] at a1; cases a1
  have b3 : plM s L q ≠ -1 := fun z => by rw [decide_eq_true z] at b1; cases b1
  have a4 := of_decide_eq_true a2
  have b4 := of_decide_eq_true b2
  refine Classical.byContradiction fun hne => ?_
  cases ha : ahO (mPt s) q p with
  | true =>
    have := of_decide_eq_false (no_over h hp hq a3 b3 ha)
    omega
  | false =>
    have := of_decide_eq_false (no_over h hq hp b3 a3 (ah_cmp (mPt s) (fun z => hne z.symm) ha))
    omega
def laB (f : Nat → Bool) : Nat → Nat → Int → Int
  | _, 0, v => v
  | a, n + 1, v => laB f (a + 1) n (bif f a then (a : Int) else v)
theorem laB_none {f : Nat → Bool} : ∀ (n a : Nat) (v : Int), (∀ k : Nat, a ≤ k → k < a + n → f k = false) → laB f a n v = v
  | 0, a, v, h => rfl
  | n + 1, a, v, h => by
    unfold laB
    rw [h a (Nat.le_refl _) (by omega)]
    exact laB_none n (a + 1) v (fun k h1 h2 => h k (by omega) (by omega))
theorem laB_fir {f : Nat → Bool} : ∀ (n a : Nat) (v : Int), (∀ j k : Nat, a ≤ j → j < a + n → a ≤ k → k < a + n → f j = true → f k = true → j = k) → laB f a n v = if firO a n f = -1 then v else firO a n f
  | 0, a, v, h => rfl
  | n + 1, a, v, h => by
    unfold laB firO
    cases hf : f a with
    | true =>
      show laB f (a + 1) n (a : Int) = if (a : Int) = -1 then v else (a : Int)
      rw [if_neg (by omega)]
      refine laB_none n (a + 1) _ (fun k h1 h2 => ?_)
      cases hk : f k with
      | false => rfl
      | true =>
        have := h a k (Nat.le_refl _) (by omega) (by omega) (by omega) hf hk
        omega
    | false => exact laB_fir n (a + 1) v (fun j k h1 h2 h3 h4 => h j k (by omega) (by omega) (by omega) (by omega))
/-- the reference knows its levels, and goes on knowing them -/
def Kn (G : GG) (s : Nat → Int) : Prop := RoR G 26 s ∧ RKn G s 5 ∧ f_Mod_knows G = rV G
theorem kn_first (hs : okM s) (hR : RoR G 26 s) (hC : RC G s) : ∃ G1, f_Mod_knows G = rV G1 ∧ Kn G1 s ∧ Fr FWk G G1 ∧ ∀ k : Int, k ≠ 11 → G1 25 0 k = G 25 0 k := by
  obtain ⟨G1, e1, h1, h2, h3, h4⟩ := r_knows1 hs hR hC
  refine ⟨G1, e1, ⟨hR.fr (fun k => h2 26 0 k (by unfold FWk; omega)), h1, ?_⟩, h2, h3⟩
  rw [e_f_Mod_knows, if_neg h4]
theorem w12 {L q : Nat} (hL : L < 5) (hq : q < 12) : wr (wr (12 * (L : Int)) + (q : Int)) = 12 * (L : Int) + (q : Int) := by rw [wr_id (z := 12 * (L : Int)) (by omega) (by omega), wr_id (by omega) (by omega)]
theorem c12 {L q : Nat} (hL : L < 5) (hq : q < 12) : 0 ≤ 12 * (L : Int) + (q : Int) ∧ 12 * (L : Int) + (q : Int) < 60 := by omega
theorem r_placeOf (hs : okM s) {G1 : GG} (e : f_Mod_knows G = rV G1) (h : Kn G1 s) {L q : Nat} (hL : L < 5) (hq : q < mNp s) : f_Mod_placeOf L q G = rI (plM s L q) G1 := by
  have hq2 : q < 12 := Nat.lt_of_lt_of_le hq hs.2.2.2.2.1.1
  have e9 := e_f_Mod_placeOf (L : Int) (q : Int) G
  rw [e, w12 hL hq2] at e9
  have h9 := (h.2.1 L hL).2.2.2.1 q hq
  have c9 := c12 hL hq2
  refine e9.trans ?_
  show (if 0 ≤ 12 * (L : Int) + (q : Int) ∧ 12 * (L : Int) + (q : Int) < 60 then rI (G1 38 0 (12 * (L : Int) + (q : Int))) G1 else none) = _
  rw [if_pos c9, h9]
theorem pl_neg {L q : Nat} (h : PLm s L (plM s L)) (hq : q < mNp s) : plM s L q < 0 ↔ plM s L q = -1 := by
  have := (plM_ok h q hq).1
  omega
theorem r_placedK (hs : okM s) (h : Kn G s) {L : Nat} (hL : L < 5) : l_Mod_placed_4 L 0 0 G = rI (0 + sumB 0 (mNp s) fun q => if plM s L q = -1 then 0 else 1) G := by
  have hn := hs.2.2.2.2.1.1
  have hm := (h.2.1 L hL).2.2.2.2
  refine loop_sumW (l := fun (x : Int) (k : Nat) => l_Mod_placed_4 L x k G) (f := fun q => if plM s L q = -1 then 0 else 1) (r := fun x => rI x G) (m := 1) (mNp s) 0 0 (fun k x _ hk h1 h2 => ?_) (fun x => ?_) (fun k _ _ => by split <;> omega) (by omega) (by omega)
  · have hk : k < mNp s := by omega
    have e := e_l_Mod_placed_4 L x k G
    rw [h.1.np hs, if_pos (by omega), r_placeOf hs h.2.2 h hL hk] at e
    simp only [bI_r, pl_neg hm hk] at e
    rw [wr_sc (show k < 12 by omega) (by decide), wr_id (z := x + 1) (by omega) (by omega), wr_id (z := x + 0) (by omega) (by omega)] at e
    refine e.trans ?_
    show _ = l_Mod_placed_4 L (x + if plM s L k = -1 then 0 else 1) ((k + 1 : Nat) : Int) G
    by_cases q : plM s L k = -1
    · rw [if_pos q, if_pos q]
    · rw [if_neg q, if_neg q]
  · have e := e_l_Mod_placed_4 L x ((0 + mNp s : Nat) : Int) G
    rw [h.1.np hs, if_neg (by omega)] at e
    exact e
theorem r_placed (hs : okM s) (hR : RoR G 26 s) (hC : RC G s) {L : Nat} (hL : L < 5) : ∃ G1, f_Mod_placed L G = rI (0 + sumB 0 (mNp s) fun q => if plM s L q = -1 then 0 else 1) G1 ∧ RC G1 s ∧ RoR G1 26 s ∧ Fr FWk G G1 ∧ ∀ k : Int, k ≠ 11 → G1 25 0 k = G 25 0 k := by
  by_cases h0 : mNp s = 0
  · refine ⟨G, ?_, hC, hR, Fr.refl G, fun _ _ => rfl⟩
    rw [e_f_Mod_placed, e_l_Mod_placed_4, hR.np hs, h0, if_neg (by decide)]
    rfl
  · obtain ⟨G1, e1, hK, hF, h25⟩ := kn_first hs hR hC
    refine ⟨G1, ?_, Or.inr hK.2.1, hK.1, hF, h25⟩
    have e2 : l_Mod_placed_4 L 0 0 G = l_Mod_placed_4 L 0 0 G1 := by
      have f1 : f_Mod_placeOf (L : Int) 0 G = rI (plM s L 0) G1 := r_placeOf hs e1 hK hL (q := 0) (by omega)
      have f2 : f_Mod_placeOf (L : Int) 0 G1 = rI (plM s L 0) G1 := r_placeOf hs hK.2.2 hK hL (q := 0) (by omega)
      rw [e_l_Mod_placed_4, e_l_Mod_placed_4 L 0 0 G1, hR.np hs, hK.1.np hs, f1, f2]
      simp only [if_pos (show (0 : Int) < (mNp s : Int) by omega)]
    rw [e_f_Mod_placed, e2]
    exact r_placedK hs hK hL
theorem r_coveredK (hs : okM s) (h : Kn G s) (h6 : G 25 0 6 = 0) {L : Nat} (hL : L < 5) : l_Mod_covered_20 L 0 0 G = rI (cvS (mNp s) (mPt s) (plM s L)) G := by
  have ho := hs.2.2.2.2.1
  have hn := ho.1
  have hm := (h.2.1 L hL).2.2.2.2
  refine loop_sumW (l := fun (x : Int) (k : Nat) => l_Mod_covered_20 L x k G) (f := fun q => if plM s L q = -1 then 0 else mPt s q 3 * mPt s q 4) (r := fun x => rI x G) (m := 48) (mNp s) 0 0 (fun k x _ hk h1 h2 => ?_) (fun x => ?_) (fun k _ hk => by have := wh_bd ho (show k < mNp s by omega); split <;> omega) (by omega) (by omega)
  · have hk : k < mNp s := by omega
    have hw := wh_bd ho hk
    have e := e_l_Mod_covered_20 L x k G
    have f3 : f_Mod_ofPoint (k : Int) 3 G = rI (mPt s k 3) G := r_ofPoint (h.1.pt hs) ho.1 hk (q := 3) (by decide)
    have f4 : f_Mod_ofPoint (k : Int) 4 G = rI (mPt s k 4) G := r_ofPoint (h.1.pt hs) ho.1 hk (q := 4) (by decide)
    rw [h.1.np hs, if_pos (by omega), if_pos h6, r_placeOf hs h.2.2 h hL hk] at e
    simp only [bI_r, pl_neg hm hk] at e
    rw [f3] at e
    simp only [bI_r] at e
    rw [f4] at e
    simp only [bI_r] at e
    rw [wr_sc (show k < 12 by omega) (by decide), wr_id (z := mPt s k 3 * mPt s k 4) (by omega) (by omega), wr_id (z := x + mPt s k 3 * mPt s k 4) (by omega) (by omega), wr_id (z := x + 0) (by omega) (by omega)] at e
    refine e.trans ?_
    show _ = l_Mod_covered_20 L (x + if plM s L k = -1 then 0 else mPt s k 3 * mPt s k 4) ((k + 1 : Nat) : Int) G
    by_cases q : plM s L k = -1
    · rw [if_pos q, if_pos q]
    · rw [if_neg q, if_neg q]
  · have e := e_l_Mod_covered_20 L x ((0 + mNp s : Nat) : Int) G
    rw [h.1.np hs, if_neg (by omega)] at e
    exact e
theorem r_covered (hs : okM s) (hR : RoR G 26 s) (hC : RC G s) (h6 : G 25 0 6 = 0) {L : Nat} (hL : L < 5) : ∃ G1, l_Mod_covered_20 L 0 0 G = rI (cvS (mNp s) (mPt s) (plM s L)) G1 ∧ RC G1 s ∧ Fr FWk G G1 ∧ ∀ k : Int, k ≠ 11 → G1 25 0 k = G 25 0 k := by
  by_cases h0 : mNp s = 0
  · refine ⟨G, ?_, hC, Fr.refl G, fun _ _ => rfl⟩
    rw [e_l_Mod_covered_20, hR.np hs]
    unfold cvS
    rw [h0, if_neg (by decide)]
    rfl
  · obtain ⟨G1, e1, hK, hF, h25⟩ := kn_first hs hR hC
    have h61 : G1 25 0 6 = 0 := (h25 6 (by decide)).trans h6
    refine ⟨G1, ?_, Or.inr hK.2.1, hF, h25⟩
    have e2 : l_Mod_covered_20 L 0 0 G = l_Mod_covered_20 L 0 0 G1 := by
      have f1 : f_Mod_placeOf (L : Int) 0 G = rI (plM s L 0) G1 := r_placeOf hs e1 hK hL (q := 0) (by omega)
      have f2 : f_Mod_placeOf (L : Int) 0 G1 = rI (plM s L 0) G1 := r_placeOf hs hK.2.2 hK hL (q := 0) (by omega)
      rw [e_l_Mod_covered_20, e_l_Mod_covered_20 L 0 0 G1, hR.np hs, hK.1.np hs, f1, f2]
      simp only [if_pos (show (0 : Int) < (mNp s : Int) by omega), if_pos h6, if_pos h61]
    rw [e2]
    exact r_coveredK hs hK h61 hL
theorem r_labelAtK (hs : okM s) (h : Kn G s) (h6 : G 25 0 6 = 0) {L : Nat} (hL : L < 5) {x y : Int} (hx : 0 ≤ x ∧ x < 64) (hy : 0 ≤ y ∧ y < 64) : ∀ (n k : Nat) (v : Int), k + n = mNp s → l_Mod_labelAt_30 L x y v k G = rI (laB (laF (mPt s) (plM s L) x y) k n v) G
  | 0, k, v, hk => by
    rw [e_l_Mod_labelAt_30, h.1.np hs, if_neg (by omega), if_pos h6]
    rfl
  | n + 1, k, v, hk => by
    have ho := hs.2.2.2.2.1
    have hn := ho.1
    have hm := (h.2.1 L hL).2.2.2.2
    have hk2 : k < mNp s := by omega
    have e := e_l_Mod_labelAt_30 L x y v k G
    rw [h.1.np hs, if_pos (by omega), if_pos h6, r_placeOf hs h.2.2 h hL hk2] at e
    simp only [bI_r, pl_neg hm hk2] at e
    rw [r_placeOf hs h.2.2 h hL hk2] at e
    simp only [bI_r] at e
    rw [r_covers (h.1.pt hs) ho hk2 (plM s L k) hx hy, wr_sc (show k < 12 by omega) (by decide)] at e
    simp only [bI_r, b2i_0] at e
    rw [r_labelAtK hs h h6 hL hx hy n (k + 1) v (by omega), r_labelAtK hs h h6 hL hx hy n (k + 1) k (by omega)] at e
    refine e.trans ?_
    show _ = rI (laB (laF (mPt s) (plM s L) x y) (k + 1) n (bif laF (mPt s) (plM s L) x y k then (k : Int) else v)) G
    unfold laF
    by_cases q : plM s L k = -1
    · rw [if_pos q, decide_eq_true q]
      rfl
    · rw [if_neg q, decide_eq_false q]
      cases cvO (mPt s) k (plM s L k) x y <;> rfl
theorem r_labelAt (hs : okM s) (hR : RoR G 26 s) (hC : RC G s) (h6 : G 25 0 6 = 0) {L : Nat} (hL : L < 5) {x y : Int} (hx : 0 ≤ x ∧ x < 64) (hy : 0 ≤ y ∧ y < 64) : ∃ G1, l_Mod_labelAt_30 L x y (-1) 0 G = rI (firO 0 (mNp s) (laF (mPt s) (plM s L) x y)) G1 ∧ RC G1 s ∧ Fr FWk G G1 ∧ ∀ k : Int, k ≠ 11 → G1 25 0 k = G 25 0 k := by
  by_cases h0 : mNp s = 0
  · refine ⟨G, ?_, hC, Fr.refl G, fun _ _ => rfl⟩
    rw [e_l_Mod_labelAt_30, hR.np hs, h0, if_neg (by decide), if_pos h6]
    rfl
  · obtain ⟨G1, e1, hK, hF, h25⟩ := kn_first hs hR hC
    have h61 : G1 25 0 6 = 0 := (h25 6 (by decide)).trans h6
    refine ⟨G1, ?_, Or.inr hK.2.1, hF, h25⟩
    have e2 : l_Mod_labelAt_30 L x y (-1) 0 G = l_Mod_labelAt_30 L x y (-1) 0 G1 := by
      have f1 : f_Mod_placeOf (L : Int) 0 G = rI (plM s L 0) G1 := r_placeOf hs e1 hK hL (q := 0) (by omega)
      have f2 : f_Mod_placeOf (L : Int) 0 G1 = rI (plM s L 0) G1 := r_placeOf hs hK.2.2 hK hL (q := 0) (by omega)
      rw [e_l_Mod_labelAt_30, e_l_Mod_labelAt_30 L x y (-1) 0 G1, hR.np hs, hK.1.np hs, f1, f2]
      simp only [if_pos (show (0 : Int) < (mNp s : Int) by omega), if_pos h6, if_pos h61]
    have e3 : l_Mod_labelAt_30 L x y (-1) 0 G1 = _ := r_labelAtK hs hK h61 hL hx hy (mNp s) 0 (-1) (Nat.zero_add _)
    have hm := (hK.2.1 L hL).2.2.2.2
    rw [e2, e3, laB_fir (mNp s) 0 (-1) (fun j k _ h1 _ h2 h3 h4 => one_over hm (by omega) (by omega) h3 h4)]
    split
    · rename_i q
      rw [q]
    · rfl
/-- the levels on which a label is placed -/
noncomputable def poO (s : Nat → Int) (p : Nat) : Nat := setO (fun L => !decide (plM s L p = -1)) 0 5 0
theorem r_placedOn (hs : okM s) (hR : RoR G 26 s) (hC : RC G s) (h6 : G 25 0 6 = 0) {p : Nat} (hp : p < mNp s) : ∃ G1, l_Mod_placedOn_21 p 0 0 G = rI (poO s p) G1 ∧ RC G1 s ∧ Fr FWk G G1 ∧ ∀ k : Int, k ≠ 11 → G1 25 0 k = G 25 0 k := by
  obtain ⟨G1, e1, hK, hF, h25⟩ := kn_first hs hR hC
  have h61 : G1 25 0 6 = 0 := (h25 6 (by decide)).trans h6
  refine ⟨G1, ?_, Or.inr hK.2.1, hF, h25⟩
  have e2 : l_Mod_placedOn_21 p 0 0 G = l_Mod_placedOn_21 p 0 0 G1 := by
    have f1 : f_Mod_placeOf 0 (p : Int) G = rI (plM s 0 p) G1 := r_placeOf hs e1 hK (L := 0) (by decide) hp
    have f2 : f_Mod_placeOf 0 (p : Int) G1 = rI (plM s 0 p) G1 := r_placeOf hs hK.2.2 hK (L := 0) (by decide) hp
    rw [e_l_Mod_placedOn_21, e_l_Mod_placedOn_21 p 0 0 G1, f1, f2]
    simp only [if_pos h6, if_pos h61, if_pos (show (0 : Int) < 5 by decide)]
  rw [e2]
  refine loop_set (l := fun (m : Int) (k : Nat) => l_Mod_placedOn_21 p m k G1) (f := fun L => !decide (plM s L p = -1)) (r := fun m => rI m G1) (B := 5) (by decide) 5 0 0 (by decide) (by decide) (fun k m _ hk hm => ?_) (fun m => ?_)
  · have hk5 : k < 5 := by omega
    have e := e_l_Mod_placedOn_21 p m k G1
    rw [if_pos (by omega), if_pos h61, r_placeOf hs hK.2.2 hK hk5 hp] at e
    simp only [bI_r, pl_neg (hK.2.1 k hk5).2.2.2.2 hp] at e
    rw [wr_sc hk5 (by decide), bOr_set hm (by omega), bOr_0 hm] at e
    refine e.trans ?_
    by_cases q : plM s k p = -1
    · rw [if_pos q, decide_eq_true q]
      rfl
    · rw [if_neg q, decide_eq_false q]
      rfl
  · have e := e_l_Mod_placedOn_21 p m ((0 + 5 : Nat) : Int) G1
    rw [if_neg (by decide)] at e
    exact e
theorem g_placedOn (hs : okM s) {p : Nat} (hp : p < mNp s) : ∀ (n a m : Nat) (G : GG), a + n = 5 → m < 2 ^ 5 → ShC G 0 s → CC G s → ∃ G', l_Map_placedOn_9 p m a G = rI ((setO (fun L => !decide (plM s L p = -1)) a n m : Nat) : Int) G' ∧ CC G' s ∧ Fr FQ G G'
  | 0, a, m, G, h, hm, hS, hC => by
    have e := e_l_Map_placedOn_9 p m a G
    rw [if_neg (by omega)] at e
    exact ⟨G, e, hC, Fr.refl G⟩
  | n + 1, a, m, G, h, hm, hS, hC => by
    have hn := hs.2.2.2.2.1.1
    obtain ⟨G1, e1, hP1, hm1, -, -, hC1, hF1⟩ := c_labels hs hS hC (show a < 5 by omega)
    have c0 : (0 : Int) ≤ (p : Int) ∧ (p : Int) < 12 := by omega
    have e := e_l_Map_placedOn_9 p m a G
    rw [if_pos (by omega), e1, bR_r, if_pos c0, hP1 p hp, wr_sc (show a < 5 by omega) (by decide), bOr_set (Nat.lt_of_lt_of_le hm (by decide)) (by omega)] at e
    have hnx : ∃ m' : Nat, m' < 2 ^ 5 ∧ l_Map_placedOn_9 p m a G = l_Map_placedOn_9 p m' ((a + 1 : Nat) : Int) G1 ∧ setO (fun L => !decide (plM s L p = -1)) a (n + 1) m = setO (fun L => !decide (plM s L p = -1)) (a + 1) n m' := by
      by_cases q : plM s a p = -1
      · rw [if_pos q] at e
        refine ⟨m, hm, e, ?_⟩
        show setO _ (a + 1) n (bif !decide (plM s a p = -1) then m ||| 2 ^ a else m) = _
        rw [decide_eq_true q]
        rfl
      · rw [if_neg q] at e
        refine ⟨m ||| 2 ^ a, Nat.or_lt_two_pow hm (Nat.pow_lt_pow_right (by decide) (by omega)), e, ?_⟩
        show setO _ (a + 1) n (bif !decide (plM s a p = -1) then m ||| 2 ^ a else m) = _
        rw [decide_eq_false q]
        rfl
    obtain ⟨m', hm', e3, e4⟩ := hnx
    obtain ⟨G2, e2, hC2, hF2⟩ := g_placedOn hs hp n (a + 1) m' G1 (by omega) hm' (hS.q (by decide) hF1) hC1
    rw [e4]
    exact ⟨G2, e3.trans e2, hC2, hF1.trans hF2⟩
/-- which points are shown -/
def swO (s : Nat → Int) (L : Nat) : Nat := setO (shO (mPt s) (lrM s L)) 0 (mNp s) 0
theorem g_isShown (hs : okM s) (h : ShC G 0 s) {L p : Nat} (hL : L < 5) (hp : p < mNp s) : f_Map_isShown L p G = rI (b2i (shO (mPt s) (lrM s L) p)) G := by
  have ho := hs.2.2.2.2.1
  have f2 : f_Poi_valueOf 0 (p : Int) 2 G = rI (mPt s p 2) G := g_valueOf h.2.1 ho.1 hp (q := 2) (by decide)
  have es : f_She_settingOf 0 (L : Int) 2 G = rI (lrM s L) G := g_setOf (j := 2) h.2.2.2.2.1 hL (by decide)
  rw [e_f_Map_isShown, f2]
  simp only [bI_r]
  rw [es]
  simp only [bI_r]
  unfold shO
  by_cases q : mPt s p 2 < lrM s L
  · rw [if_pos q, decide_eq_false (by omega)]
    rfl
  · rw [if_neg q, decide_eq_true (by omega)]
    rfl
theorem g_shown (hs : okM s) (h : ShC G 0 s) {L : Nat} (hL : L < 5) : l_Map_shown_8 L 0 0 G = rI (swO s L) G := by
  have ho := hs.2.2.2.2.1
  have hn := ho.1
  refine loop_set (l := fun (m : Int) (k : Nat) => l_Map_shown_8 L m k G) (f := shO (mPt s) (lrM s L)) (r := fun m => rI m G) (B := 12) (by decide) (mNp s) 0 0 (by omega) (by decide) (fun k m _ hk hm => ?_) (fun m => ?_)
  · have hk : k < mNp s := by omega
    have e := e_l_Map_shown_8 L m k G
    rw [h.2.1.1, if_pos (by omega), g_isShown hs h hL hk, wr_sc (show k < 12 by omega) (by decide), bOr_set hm (by omega)] at e
    simp only [bI_r, b2i_0] at e
    refine e.trans ?_
    cases shO (mPt s) (lrM s L) k <;> rfl
  · have e := e_l_Map_shown_8 L m ((0 + mNp s : Nat) : Int) G
    rw [h.2.1.1, if_neg (by omega)] at e
    exact e
theorem r_shown (hs : okM s) (hR : RoR G 26 s) {L : Nat} (hL : L < 5) : f_Mod_shownOnes L G = rI (swO s L) G := by
  have ho := hs.2.2.2.2.1
  have hn := ho.1
  rw [e_f_Mod_shownOnes]
  refine loop_set (l := fun (m : Int) (k : Nat) => l_Mod_shownOnes_4 L m k G) (f := shO (mPt s) (lrM s L)) (r := fun m => rI m G) (B := 12) (by decide) (mNp s) 0 0 (by omega) (by decide) (fun k m _ hk hm => ?_) (fun m => ?_)
  · have hk : k < mNp s := by omega
    have e := e_l_Mod_shownOnes_4 L m k G
    have es : f_Mod_isShown L k G = rI (b2i (shO (mPt s) (lrM s L) k)) G := r_isShown (hR.pt hs) ho hs.2.2.2.2.2.2.2.1 hR.st hL hk
    rw [hR.np hs, if_pos (by omega), es, wr_sc (show k < 12 by omega) (by decide), bOr_set hm (by omega), bOr_0 hm] at e
    simp only [bI_r, b2i_0] at e
    refine e.trans ?_
    cases shO (mPt s) (lrM s L) k <;> rfl
  · have e := e_l_Mod_shownOnes_4 L m ((0 + mNp s : Nat) : Int) G
    rw [hR.np hs, if_neg (by omega)] at e
    exact e
end RLB
