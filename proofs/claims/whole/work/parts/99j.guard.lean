/-! ===== the guards of both sides ===== -/
theorem g_within (x a b : Int) (G : GG) : f_Map_isWithin x a b G = rI (b2i (decide (a ≤ x ∧ x ≤ b))) G := by
  rw [e_f_Map_isWithin]
  by_cases h1 : x < a
  · rw [if_pos h1, decide_eq_false (by omega)]; rfl
  · rw [if_neg h1]
    by_cases h2 : b < x
    · rw [if_pos h2, decide_eq_false (by omega)]; rfl
    · rw [if_neg h2, decide_eq_true (by omega)]; rfl
theorem r_isIn (x a b : Int) (G : GG) : f_Mod_isIn x a b G = rI (b2i (decide (a ≤ x ∧ x ≤ b))) G := by
  rw [e_f_Mod_isIn]
  by_cases h1 : x < a
  · rw [if_pos h1, decide_eq_false (by omega)]; rfl
  · rw [if_neg h1]
    by_cases h2 : b < x
    · rw [if_pos h2, decide_eq_false (by omega)]; rfl
    · rw [if_neg h2, decide_eq_true (by omega)]; rfl
theorem g_within_t {x a b : Int} (h : a ≤ x ∧ x ≤ b) (G : GG) : f_Map_isWithin x a b G = rI 1 G := by rw [g_within, decide_eq_true h]; rfl
theorem g_within_f {x a b : Int} (h : ¬(a ≤ x ∧ x ≤ b)) (G : GG) : f_Map_isWithin x a b G = rI 0 G := by rw [g_within, decide_eq_false h]; rfl
theorem r_isIn_t {x a b : Int} (h : a ≤ x ∧ x ≤ b) (G : GG) : f_Mod_isIn x a b G = rI 1 G := by rw [r_isIn, decide_eq_true h]; rfl
theorem r_isIn_f {x a b : Int} (h : ¬(a ≤ x ∧ x ≤ b)) (G : GG) : f_Mod_isIn x a b G = rI 0 G := by rw [r_isIn, decide_eq_false h]; rfl
theorem g_level_t {x : Int} (h : 0 ≤ x ∧ x ≤ 4) (G : GG) : f_Map_requireLevel x G = rV G := by rw [e_f_Map_requireLevel, g_within_t h]; rfl
theorem g_level_f {x : Int} (h : ¬(0 ≤ x ∧ x ≤ 4)) (G : GG) : f_Map_requireLevel x G = rX 0 (bump G) := by rw [e_f_Map_requireLevel, g_within_f h]; rfl
theorem g_parcel_t {x : Int} (h : 0 ≤ x ∧ x ≤ 15) (G : GG) : f_Map_requireParcel x G = rV G := by rw [e_f_Map_requireParcel, g_within_t h]; rfl
theorem g_parcel_f {x : Int} (h : ¬(0 ≤ x ∧ x ≤ 15)) (G : GG) : f_Map_requireParcel x G = rX 2 (bump G) := by rw [e_f_Map_requireParcel, g_within_f h]; rfl
theorem g_line_t {x : Int} {n : Nat} {G : GG} (hn : G 2 0 2 = (n : Int)) (h : 0 ≤ x ∧ x < (n : Int)) : f_Map_requireLine x G = rV G := by rw [e_f_Map_requireLine, hn, if_neg (by omega), if_pos h.2]
theorem g_line_f {x : Int} {n : Nat} {G : GG} (hn : G 2 0 2 = (n : Int)) (h : ¬(0 ≤ x ∧ x < (n : Int))) : f_Map_requireLine x G = rX 2 (bump G) := by
  rw [e_f_Map_requireLine, hn]
  by_cases h1 : x < 0
  · rw [if_pos h1]
  · rw [if_neg h1, if_neg (by omega)]
theorem g_point_t {x : Int} {n : Nat} {G : GG} (hn : G 5 0 1 = (n : Int)) (h : 0 ≤ x ∧ x < (n : Int)) : f_Map_requirePoint x G = rV G := by rw [e_f_Map_requirePoint, hn, if_neg (by omega), if_pos h.2]
theorem g_point_f {x : Int} {n : Nat} {G : GG} (hn : G 5 0 1 = (n : Int)) (h : ¬(0 ≤ x ∧ x < (n : Int))) : f_Map_requirePoint x G = rX 2 (bump G) := by
  rw [e_f_Map_requirePoint, hn]
  by_cases h1 : x < 0
  · rw [if_pos h1]
  · rw [if_neg h1, if_neg (by omega)]
def isXY (x y : Int) : Prop := (0 ≤ x ∧ x ≤ 63) ∧ (0 ≤ y ∧ y ≤ 63)
theorem g_pos_t {x y : Int} (h : isXY x y) (G : GG) : f_Map_isPosition x y G = rI 1 G := by rw [e_f_Map_isPosition, g_within_t h.1]; simp only [bI_r]; rw [if_neg (by decide), g_within_t h.2]; rfl
theorem g_pos_f {x y : Int} (h : ¬isXY x y) (G : GG) : f_Map_isPosition x y G = rI 0 G := by
  rw [e_f_Map_isPosition]
  by_cases h1 : 0 ≤ x ∧ x ≤ 63
  · rw [g_within_t h1]; simp only [bI_r]; rw [if_neg (by decide), g_within_f (fun z => h ⟨h1, z⟩)]; rfl
  · rw [g_within_f h1]; rfl
theorem g_rpos_t {x y : Int} (h : isXY x y) (G : GG) : f_Map_requirePosition x y G = rV G := by rw [e_f_Map_requirePosition, g_pos_t h]; rfl
theorem g_rpos_f {x y : Int} (h : ¬isXY x y) (G : GG) : f_Map_requirePosition x y G = rX 0 (bump G) := by rw [e_f_Map_requirePosition, g_pos_f h]; rfl
def isFd (x y : Int) : Prop := (0 ≤ x ∧ x ≤ 7) ∧ (0 ≤ y ∧ y ≤ 7)
theorem g_fd_t {x y : Int} (h : isFd x y) (G : GG) : f_Map_isField x y G = rI 1 G := by rw [e_f_Map_isField, g_within_t h.1]; simp only [bI_r]; rw [if_neg (by decide), g_within_t h.2]; rfl
theorem g_fd_f {x y : Int} (h : ¬isFd x y) (G : GG) : f_Map_isField x y G = rI 0 G := by
  rw [e_f_Map_isField]
  by_cases h1 : 0 ≤ x ∧ x ≤ 7
  · rw [g_within_t h1]; simp only [bI_r]; rw [if_neg (by decide), g_within_f (fun z => h ⟨h1, z⟩)]; rfl
  · rw [g_within_f h1]; rfl
theorem r_level_t {x : Int} (h : 0 ≤ x ∧ x ≤ 4) (G : GG) : f_Mod_isLevel x G = rI 1 G := by rw [e_f_Mod_isLevel, r_isIn_t h]; rfl
theorem r_level_f {x : Int} (h : ¬(0 ≤ x ∧ x ≤ 4)) (G : GG) : f_Mod_isLevel x G = rI 0 G := by rw [e_f_Mod_isLevel, r_isIn_f h]; rfl
theorem r_parcel_t {x : Int} (h : 0 ≤ x ∧ x ≤ 15) (G : GG) : f_Mod_isParcel x G = rI 1 G := by rw [e_f_Mod_isParcel, r_isIn_t h]; rfl
theorem r_parcel_f {x : Int} (h : ¬(0 ≤ x ∧ x ≤ 15)) (G : GG) : f_Mod_isParcel x G = rI 0 G := by rw [e_f_Mod_isParcel, r_isIn_f h]; rfl
theorem r_line_t {x : Int} {n : Nat} {G : GG} (hn : G 26 0 0 = (n : Int)) (hn6 : n ≤ 60) (h : 0 ≤ x ∧ x < (n : Int)) : f_Mod_isLine x G = rI 1 G := by rw [e_f_Mod_isLine, hn, wr_id (by omega) (by omega), r_isIn_t (by omega)]; rfl
theorem r_line_f {x : Int} {n : Nat} {G : GG} (hn : G 26 0 0 = (n : Int)) (hn6 : n ≤ 60) (h : ¬(0 ≤ x ∧ x < (n : Int))) : f_Mod_isLine x G = rI 0 G := by rw [e_f_Mod_isLine, hn, wr_id (by omega) (by omega), r_isIn_f (by omega)]; rfl
theorem r_point_t {x : Int} {n : Nat} {G : GG} (hn : G 26 0 127 = (n : Int)) (hn6 : n ≤ 60) (h : 0 ≤ x ∧ x < (n : Int)) : f_Mod_isPoint x G = rI 1 G := by rw [e_f_Mod_isPoint, hn, wr_id (by omega) (by omega), r_isIn_t (by omega)]; rfl
theorem r_point_f {x : Int} {n : Nat} {G : GG} (hn : G 26 0 127 = (n : Int)) (hn6 : n ≤ 60) (h : ¬(0 ≤ x ∧ x < (n : Int))) : f_Mod_isPoint x G = rI 0 G := by rw [e_f_Mod_isPoint, hn, wr_id (by omega) (by omega), r_isIn_f (by omega)]; rfl
theorem r_place_t {x y : Int} (h : isXY x y) (G : GG) : f_Mod_isPlace x y G = rI 1 G := by rw [e_f_Mod_isPlace, r_isIn_t h.1]; simp only [bI_r]; rw [if_neg (by decide), r_isIn_t h.2]; rfl
theorem r_place_f {x y : Int} (h : ¬isXY x y) (G : GG) : f_Mod_isPlace x y G = rI 0 G := by
  rw [e_f_Mod_isPlace]
  by_cases h1 : 0 ≤ x ∧ x ≤ 63
  · rw [r_isIn_t h1]; simp only [bI_r]; rw [if_neg (by decide), r_isIn_f (fun z => h ⟨h1, z⟩)]; rfl
  · rw [r_isIn_f h1]; rfl
theorem i01 : ¬((1 : Int) = 0) := by decide
theorem i02 : ¬((2 : Int) = 0) := by decide
theorem i03 : ¬((3 : Int) = 0) := by decide
section ASK
variable {s : Nat → Int} {G : GG}
/-- the class: lines, parcels, labels of a level are asked for, then only looked at -/
theorem qm_lines (hs : okM s) (h : ShC G 0 s) (hC : CC G s) {L : Nat} (hL : L < 5) {r : RS} {v : Int} {body : Int → GG → RS} (e : r = bR 2 (f_Lev_linesOf L G) body)
    (hb : ∀ G1, ShC G1 0 s → CC G1 s → LnC G1 (lix L) (mNl s) (lvM s L).1 (cdM (mCd s) (lvM s L).2) → ∃ G2, body (lix L) G1 = rI v G2 ∧ CC G2 s ∧ Fr FQ G1 G2) : QMv s G r v := by
  obtain ⟨G1, e1, h1, h2, h3, -⟩ := c_lines hs h hC hL
  rw [e1, bR_r] at e
  obtain ⟨G2, e2, h4, h5⟩ := hb G1 (h.q (by decide) h3) h2 h1
  exact ⟨G2, e.trans e2, h4, h3.trans h5⟩
theorem qm_linesX (hs : okM s) (h : ShC G 0 s) (hC : CC G s) {L : Nat} (hL : L < 5) {r : RS} {x : Nat} {body : Int → GG → RS} (e : r = bR 2 (f_Lev_linesOf L G) body)
    (hb : ∀ G1, ShC G1 0 s → LnC G1 (lix L) (mNl s) (lvM s L).1 (cdM (mCd s) (lvM s L).2) → ∃ G2, body (lix L) G1 = rX x (bump G2) ∧ Fr (fun t _ => t = 24) G1 G2) : QMx s G r x := by
  obtain ⟨G1, e1, h1, h2, h3, -⟩ := c_lines hs h hC hL
  rw [e1, bR_r] at e
  obtain ⟨G2, e2, h5⟩ := hb G1 (h.q (by decide) h3) h1
  exact ⟨G2, e.trans e2, h2.fr (fun t i k ht => h5 t i k (by omega)), h3.trans (h5.mono (fun t i z => by unfold FQ; omega))⟩
theorem qm_parcels (hs : okM s) (h : ShC G 0 s) (hC : CC G s) {L : Nat} (hL : L < 5) {r : RS} {v : Int} {body : Int → GG → RS} (e : r = bR 7 (f_Lev_parcelsOf L G) body)
    (hb : ∀ G1, ShC G1 0 s → OwC G1 (lix L) (owM s L) → ∃ G2, body (lix L) G1 = rI v G2 ∧ Fr (fun t _ => t = 9 ∨ t = 10) G1 G2) : QMv s G r v := by
  obtain ⟨G1, e1, h1, h2, h3⟩ := c_parcels hs h hC hL
  rw [e1, bR_r] at e
  obtain ⟨G2, e2, h5⟩ := hb G1 (h.q (by decide) h3) h1
  exact ⟨G2, e.trans e2, h2.fr (fun t i k ht => h5 t i k (by omega)), h3.trans (h5.mono (fun t i z => by unfold FQ; omega))⟩
theorem qm_labels (hs : okM s) (h : ShC G 0 s) (hC : CC G s) {L : Nat} (hL : L < 5) {r : RS} {v : Int} {body : Int → GG → RS} (e : r = bR 19 (f_Lev_labelsOf L G) body)
    (hb : ∀ G1, ShC G1 0 s → PlC G1 L (mNp s) (plM s L) → PLm s L (plM s L) → G1 19 L 3 = lrM s L → LnC G1 (lix L) (mNl s) (lvM s L).1 (cdM (mCd s) (lvM s L).2) → body L G1 = rI v G1) : QMv s G r v := by
  obtain ⟨G1, e1, h1, h2, h3, h4, h5, h6⟩ := c_labels hs h hC hL
  rw [e1, bR_r, hb G1 (h.q (by decide) h6) h1 h2 h3 h4] at e
  exact ⟨G1, e, h5, h6⟩
theorem qm_x {r : RS} {x : Nat} (hC : CC G s) (e : r = rX x (bump G)) : QMx s G r x := ⟨G, e, hC, Fr.refl G⟩
theorem qm_v {r : RS} {v : Int} (hC : CC G s) (e : r = rI v G) : QMv s G r v := ⟨G, e, hC, Fr.refl G⟩
/-- the reference: its levels are asked for, then only looked at -/
theorem qr_knows (hs : okM s) (hR : RoR G 26 s) (hC : RC G s) {r : RS} {v : Int} {body : GG → RS} (e : r = bV (f_Mod_knows (up G 25 0 6 0)) body)
    (hb : ∀ G1, RoR G1 26 s → RKn G1 s 5 → body G1 = rI v G1) : QAr s G r 0 v := by
  obtain ⟨G1, e1, h1, h2, h3⟩ := r_knows (G := up G 25 0 6 0) hs (hR.fr (fun k => up_t (by decide))) (hC.up6 0)
  have hR1 : RoR G1 26 s := hR.fr (fun k => (h2 26 0 k (by unfold FWk; omega)).trans (up_t (by decide)))
  rw [e1, bV_r, hb G1 hR1 h1] at e
  exact ⟨G1, v, e, (h3 6 (by decide)).trans (up_at _ _ _ _ _), fun _ => rfl, Or.inr h1, (Fr.up (P := FRq) G 6 0 (Or.inl rfl)).trans (h2.mono (fun t i z => by unfold FWk at z; unfold FRq; omega)), fun z h6 h11 _ => (h3 z h11).trans (up_k h6)⟩
theorem qr_looks (hs : okM s) (hR : RoR G 26 s) (hC : RC G s) {L : Nat} (hL : L < 5) {r : RS} {v : Int} {body : GG → RS} (e : r = bV (f_Mod_looks L (up G 25 0 6 0)) body)
    (hb : ∀ G1, RoR G1 26 s → RKn G1 s 5 → LnV G1 (mNl s) (lvM s L).1 (cdM (mCd s) (lvM s L).2) (lvM s L).2 → body G1 = rI v G1) : QAr s G r 0 v := by
  obtain ⟨G1, e1, h1, hV, h2, h3⟩ := r_looks (G := up G 25 0 6 0) hs hL (hR.fr (fun k => up_t (by decide))) (hC.up6 0)
  have hR1 : RoR G1 26 s := hR.fr (fun k => (h2 26 0 k (by unfold FWk; omega)).trans (up_t (by decide)))
  rw [e1, bV_r, hb G1 hR1 h1 hV] at e
  exact ⟨G1, v, e, (h3 6 (by decide)).trans (up_at _ _ _ _ _), fun _ => rfl, Or.inr h1, (Fr.up (P := FRq) G 6 0 (Or.inl rfl)).trans (h2.mono (fun t i z => by unfold FWk at z; unfold FRq; omega)), fun z h6 h11 _ => (h3 z h11).trans (up_k h6)⟩
/-- the reference: it answers from the map -/
theorem qr_v (hC : RC G s) {r : RS} {v : Int} (e : r = rI v (up G 25 0 6 0)) : QAr s G r 0 v :=
  ⟨_, v, e, up_at _ _ _ _ _, fun _ => rfl, hC.up6 0, Fr.up _ _ _ (Or.inl rfl), fun z h6 _ _ => up_k h6⟩
end ASK
