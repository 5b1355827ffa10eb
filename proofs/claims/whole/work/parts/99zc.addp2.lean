/-! ===== changes: a point is added; the reference ===== -/
def LnP (G : GG) (nl : Nat) (sz : Nat → Nat) (cd : Nat → Nat → Int) : Prop := G 26 0 0 = (nl : Int) ∧ ∀ l : Nat, l < nl → G 30 0 l = (sz l : Int) ∧ ∀ k : Nat, k < sz l → Vat G (10 * (l : Int) + (k : Int)) (cd l k)
def FT (t : Nat) (i : Int) : Prop := (t = 30 ∨ t = 31 ∨ t = 32) ∧ i = 0
section LNP
variable {G : GG} {nl : Nat} {sz : Nat → Nat} {cd : Nat → Nat → Int}
theorem r_lineOverP (hV : LnP G nl sz cd) (ho : okLn nl sz cd) {p : Int} (hp : isC p) : f_Mod_lineWith (p / 64) (p % 64) G = rI (firO 0 nl (ovL sz cd p)) G := by
  have h6 := ho.1
  rw [e_f_Mod_lineWith]
  have seg : ∀ l : Nat, l < nl → l_Mod_lineWith_2 (p / 64) (p % 64) l G = bif ovL sz cd p l then rI l G else l_Mod_lineWith_2 (p / 64) (p % 64) ((l + 1 : Nat) : Int) G := by
    intro l hl
    obtain ⟨hz, hc, hd⟩ := ho.2 l hl
    have e := e_l_Mod_lineWith_2 (p / 64) (p % 64) l G
    rw [hV.1, if_pos (by omega)] at e
    refine e.trans ?_
    have stp : ∀ k : Nat, k + 1 < sz l → l_Mod_lineWith_15 (p / 64) (p % 64) l k G = if onS (cd l k) (cd l (k + 1)) p = false then l_Mod_lineWith_15 (p / 64) (p % 64) l ((k + 1 : Nat) : Int) G else rI l G := by
      intro k hk
      have v1 := (hV.2 l hl).2 k (by omega)
      have v2 := (hV.2 l hl).2 (k + 1) hk
      have e := e_l_Mod_lineWith_15 (p / 64) (p % 64) l k G
      rw [(hV.2 l hl).1, if_pos (by omega), wr_sc (show k < 10 by omega) (by decide), if_pos (by omega), wr_10 (show l < 6 by omega) (show k < 10 by omega), wk10 (show l < 6 by omega) (show k < 12 by omega), r_onSeg G v1 v2 hp (hd k (k + 1) (by omega) hk)] at e
      simp only [bI_r, b2i_0] at e
      exact e
    refine loop_any (l := fun (k : Nat) => l_Mod_lineWith_15 (p / 64) (p % 64) l k G) (f := fun k => onS (cd l k) (cd l (k + 1)) p) (sz l - 1) 0 (fun k _ hk hf => ?_) (fun k _ hk hf => ?_) ?_
    · rw [stp k (by omega), hf]; rfl
    · rw [stp k (by omega), hf]; rfl
    · have e := e_l_Mod_lineWith_15 (p / 64) (p % 64) l ((0 + (sz l - 1) : Nat) : Int) G
      rw [(hV.2 l hl).1, if_pos (by omega), wr_id (by omega) (by omega), if_neg (by omega), wr_sc (show l < 6 by omega) (by decide)] at e
      exact e
  refine loop_fir (l := fun (l : Nat) => l_Mod_lineWith_2 (p / 64) (p % 64) l G) (r := fun v => rI v G) nl 0 (fun l _ hl hf => ?_) (fun l _ hl hf => ?_) ?_
  · rw [seg l (by omega), hf]; rfl
  · rw [seg l (by omega), hf]; rfl
  · have e := e_l_Mod_lineWith_2 (p / 64) (p % 64) ((0 + nl : Nat) : Int) G
    rw [hV.1, if_neg (by omega)] at e
    exact e
end LNP
section ADDR
variable {s : Nat → Int} {G : GG}
theorem w_tm {l k : Nat} (hl : l < 6) (hk : k < 10) : wr (10 * (l : Int)) = ((10 * l : Nat) : Int) ∧ wr (7 + ((10 * l : Nat) : Int)) = ((7 + 10 * l : Nat) : Int) ∧ wr (((7 + 10 * l : Nat) : Int) + (k : Int)) = ((7 + 10 * l + k : Nat) : Int) ∧ wr (67 + ((10 * l : Nat) : Int)) = ((67 + 10 * l : Nat) : Int) ∧ wr (((67 + 10 * l : Nat) : Int) + (k : Int)) = ((67 + 10 * l + k : Nat) : Int) ∧ wr (((10 * l : Nat) : Int) + (k : Int)) = ((10 * l + k : Nat) : Int) := by
  refine ⟨?_, ?_, ?_, ?_, ?_, ?_⟩
  all_goals rw [wr_id (by omega) (by omega)]; omega
theorem c_tm {l k : Nat} (hl : l < 6) (hk : k < 10) : ((0 : Int) ≤ ((7 + 10 * l + k : Nat) : Int) ∧ ((7 + 10 * l + k : Nat) : Int) < 296) ∧ ((0 : Int) ≤ ((67 + 10 * l + k : Nat) : Int) ∧ ((67 + 10 * l + k : Nat) : Int) < 296) ∧ ((0 : Int) ≤ ((10 * l + k : Nat) : Int) ∧ ((10 * l + k : Nat) : Int) < 60) := by omega
/-- the coordinates of one line are taken -/
theorem tm_row (hR : RoR G 26 s) {l : Nat} (hl : l < 6) : ∃ G', l_Mod_takesMap_28 l 0 G = l_Mod_takesMap_2 ((l + 1 : Nat) : Int) G' ∧ (∀ k : Nat, k < 10 → G' 31 0 ((10 * l + k : Nat) : Int) = s (7 + 10 * l + k) ∧ G' 32 0 ((10 * l + k : Nat) : Int) = s (67 + 10 * l + k)) ∧ Fr (fun t i => (t = 31 ∨ t = 32) ∧ i = 0) G G' ∧ ∀ z : Int, (z < ((10 * l : Nat) : Int) ∨ ((10 * l + 10 : Nat) : Int) ≤ z) → G' 31 0 z = G 31 0 z ∧ G' 32 0 z = G 32 0 z := by
  refine loop_inv (l := fun k G1 => l_Mod_takesMap_28 l (k : Int) G1) (I := fun k G1 => (∀ j : Nat, j < k → G1 31 0 ((10 * l + j : Nat) : Int) = s (7 + 10 * l + j) ∧ G1 32 0 ((10 * l + j : Nat) : Int) = s (67 + 10 * l + j)) ∧ Fr (fun t i => (t = 31 ∨ t = 32) ∧ i = 0) G G1 ∧ ∀ z : Int, (z < ((10 * l : Nat) : Int) ∨ ((10 * l + 10 : Nat) : Int) ≤ z) → G1 31 0 z = G 31 0 z ∧ G1 32 0 z = G 32 0 z)
    (P := fun r => ∃ G', r = l_Mod_takesMap_2 ((l + 1 : Nat) : Int) G' ∧ (∀ k : Nat, k < 10 → G' 31 0 ((10 * l + k : Nat) : Int) = s (7 + 10 * l + k) ∧ G' 32 0 ((10 * l + k : Nat) : Int) = s (67 + 10 * l + k)) ∧ Fr (fun t i => (t = 31 ∨ t = 32) ∧ i = 0) G G' ∧ ∀ z : Int, (z < ((10 * l : Nat) : Int) ∨ ((10 * l + 10 : Nat) : Int) ≤ z) → G' 31 0 z = G 31 0 z ∧ G' 32 0 z = G 32 0 z) 10 0 G (fun k G1 _ hk hI => ?_) (fun G1 hI => ?_) ⟨fun j hj => absurd hj (by omega), Fr.refl G, fun _ _ => ⟨rfl, rfl⟩⟩
  · obtain ⟨h1, h2, h3⟩ := hI
    have hk10 : k < 10 := by omega
    have hR1 : RoR G1 26 s := hR.fr (fun k => h2 26 0 k (fun z => by rcases z.1 with y | y <;> exact absurd y (by decide)))
    have v1 : G1 26 0 ((7 + 10 * l + k : Nat) : Int) = s (7 + 10 * l + k) := hR1 _ (by omega)
    have v2 : G1 26 0 ((67 + 10 * l + k : Nat) : Int) = s (67 + 10 * l + k) := hR1 _ (by omega)
    have ck : (k : Int) < 10 := by omega
    obtain ⟨c1, c2, c3⟩ := c_tm hl hk10
    have hfin : ∀ j : Nat, j < k + 1 → (up (up G1 31 0 ((10 * l + k : Nat) : Int) (s (7 + 10 * l + k))) 32 0 ((10 * l + k : Nat) : Int) (s (67 + 10 * l + k))) 31 0 ((10 * l + j : Nat) : Int) = s (7 + 10 * l + j) ∧ (up (up G1 31 0 ((10 * l + k : Nat) : Int) (s (7 + 10 * l + k))) 32 0 ((10 * l + k : Nat) : Int) (s (67 + 10 * l + k))) 32 0 ((10 * l + j : Nat) : Int) = s (67 + 10 * l + j) := fun j hj => by
      rw [up_t (show (31 : Nat) ≠ 32 by decide)]
      by_cases q : j = k
      · rw [q, up_at, up_at]
        exact ⟨rfl, rfl⟩
      · rw [up_k (by omega), up_k (by omega), up_t (by decide)]
        exact h1 j (by omega)
    have hz : ∀ z : Int, (z < ((10 * l : Nat) : Int) ∨ ((10 * l + 10 : Nat) : Int) ≤ z) → (up (up G1 31 0 ((10 * l + k : Nat) : Int) (s (7 + 10 * l + k))) 32 0 ((10 * l + k : Nat) : Int) (s (67 + 10 * l + k))) 31 0 z = G 31 0 z ∧ (up (up G1 31 0 ((10 * l + k : Nat) : Int) (s (7 + 10 * l + k))) 32 0 ((10 * l + k : Nat) : Int) (s (67 + 10 * l + k))) 32 0 z = G 32 0 z := fun z hz => by
      rw [up_t (show (31 : Nat) ≠ 32 by decide), up_k (by omega), up_k (by omega), up_t (by decide)]
      exact h3 z hz
    obtain ⟨w1, w2, w3, w4, w5, w6⟩ := w_tm hl hk10
    have e := e_l_Mod_takesMap_28 l (k : Int) G1
    rw [if_pos ck, w1, w2, w3, w4, w5, w6] at e
    simp only [if_pos c1, if_pos c2, if_pos c3] at e
    rw [up_t (show (26 : Nat) ≠ 31 by decide), v1, v2, wr_sc hk10 (by decide)] at e
    exact ⟨_, e, hfin, (h2.trans (Fr.up _ _ _ ⟨Or.inl rfl, rfl⟩)).trans (Fr.up _ _ _ ⟨Or.inr rfl, rfl⟩), hz⟩
  · obtain ⟨h1, h2, h3⟩ := hI
    have e := e_l_Mod_takesMap_28 l ((0 + 10 : Nat) : Int) G1
    rw [if_neg (by decide), wr_sc hl (by decide)] at e
    exact ⟨G1, e, fun k hk => h1 k (by omega), h2, h3⟩
theorem r_takesMap (hs : okM s) (hR : RoR G 26 s) : ∃ G', f_Mod_takesMap G = rV G' ∧ LnP G' (mNl s) (mSz s) (mCd s) ∧ Fr FT G G' := by
  have ho := hs.2.1
  have h6 := ho.1
  rw [e_f_Mod_takesMap]
  have key : ∃ G', l_Mod_takesMap_2 0 G = rV G' ∧ (∀ o : Nat, o < mNl s → G' 30 0 o = (mSz s o : Int) ∧ ∀ k : Nat, k < 10 → G' 31 0 ((10 * o + k : Nat) : Int) = s (7 + 10 * o + k) ∧ G' 32 0 ((10 * o + k : Nat) : Int) = s (67 + 10 * o + k)) ∧ Fr FT G G' := by
    refine loop_inv (l := fun l G1 => l_Mod_takesMap_2 (l : Int) G1) (I := fun l G1 => (∀ o : Nat, o < l → G1 30 0 o = (mSz s o : Int) ∧ ∀ k : Nat, k < 10 → G1 31 0 ((10 * o + k : Nat) : Int) = s (7 + 10 * o + k) ∧ G1 32 0 ((10 * o + k : Nat) : Int) = s (67 + 10 * o + k)) ∧ Fr FT G G1) (P := fun r => ∃ G', r = rV G' ∧ (∀ o : Nat, o < mNl s → G' 30 0 o = (mSz s o : Int) ∧ ∀ k : Nat, k < 10 → G' 31 0 ((10 * o + k : Nat) : Int) = s (7 + 10 * o + k) ∧ G' 32 0 ((10 * o + k : Nat) : Int) = s (67 + 10 * o + k)) ∧ Fr FT G G') (mNl s) 0 G (fun l G1 _ hl hI => ?_) (fun G1 hI => ?_) ⟨fun o ho => absurd ho (by omega), Fr.refl G⟩
    · obtain ⟨h1, h2⟩ := hI
      have hl2 : l < mNl s := by omega
      have hl6 : l < 6 := by omega
      have hR1 : RoR G1 26 s := hR.fr (fun k => h2 26 0 k (by unfold FT; omega))
      obtain ⟨G2, e2, k1, k2, k3⟩ := tm_row (G := up G1 30 0 l (mSz s l)) (hR1.fr (fun k => up_t (by decide))) hl6
      have n30 : ∀ z, G2 30 0 z = (up G1 30 0 l (mSz s l)) 30 0 z := fun z => k2 30 0 z (fun y => by rcases y.1 with x | x <;> exact absurd x (by decide))
      refine ⟨G2, ?_, fun o ho2 => ?_, (h2.trans (Fr.up _ _ _ ⟨Or.inl rfl, rfl⟩)).trans (k2.mono (fun t i z => ⟨Or.inr z.1, z.2⟩))⟩
      · have c1 : (0 : Int) ≤ 1 + (l : Int) ∧ 1 + (l : Int) < 296 := by omega
        have c2 : (0 : Int) ≤ (l : Int) ∧ (l : Int) < 6 := by omega
        have cl : (l : Int) < (mNl s : Int) := by omega
        have v1 := ((hR1.ln hs).2 l hl2).1
        have e := e_l_Mod_takesMap_2 (l : Int) G1
        rw [hR1.nl hs, if_pos cl, wr_id (z := 1 + (l : Int)) (by omega) (by omega), if_pos c1, if_pos c2, v1] at e
        exact e.trans e2
      · by_cases q : o = l
        · rw [q]
          exact ⟨(n30 l).trans (up_at _ _ _ _ _), k1⟩
        · obtain ⟨a1, a2⟩ := h1 o (by omega)
          refine ⟨(n30 o).trans ((up_k (by omega)).trans a1), fun k hk => ?_⟩
          obtain ⟨b1, b2⟩ := k3 ((10 * o + k : Nat) : Int) (by omega)
          rw [b1, b2, up_t (by decide), up_t (by decide)]
          exact a2 k hk
    · obtain ⟨h1, h2⟩ := hI
      have hR1 : RoR G1 26 s := hR.fr (fun k => h2 26 0 k (by unfold FT; omega))
      have e := e_l_Mod_takesMap_2 ((0 + mNl s : Nat) : Int) G1
      rw [hR1.nl hs, if_neg (by omega)] at e
      exact ⟨G1, e, fun o ho2 => h1 o (by omega), h2⟩
  obtain ⟨G', e, h1, h2⟩ := key
  refine ⟨G', e, ⟨(h2 26 0 0 (by unfold FT; omega)).trans (hR.nl hs), fun l hl => ⟨(h1 l hl).1, fun k hk => ?_⟩⟩, h2⟩
  have hz := (ho.2 l hl).1
  have hcc := (ho.2 l hl).2.1 k hk
  have hxy := hs.2.2.1 l hl k hk
  obtain ⟨a1, a2⟩ := (h1 l hl).2 k (by omega)
  have e9 : 10 * (l : Int) + (k : Int) = ((10 * l + k : Nat) : Int) := by omega
  refine ⟨by omega, by omega, hcc, ?_, ?_⟩
  · rw [e9, a1]
    unfold mCd
    omega
  · rw [e9, a2]
    unfold mCd
    omega
def atF (pt : Nat → Nat → Int) (x y : Int) (q : Nat) : Bool := decide (pt q 0 = x ∧ pt q 1 = y)
theorem r_pointAt {np : Nat} {pt : Nat → Nat → Int} (hP : PtR G np pt) (hn : np ≤ 12) (x y : Int) : f_Mod_pointAt x y G = rI (firO 0 np (atF pt x y)) G := by
  rw [e_f_Mod_pointAt]
  have stp : ∀ k : Nat, k < np → l_Mod_pointAt_2 x y k G = if atF pt x y k = true then rI k G else l_Mod_pointAt_2 x y ((k + 1 : Nat) : Int) G := fun k hk => by
    have f0 : f_Mod_ofPoint (k : Int) 0 G = rI (pt k 0) G := r_ofPoint hP hn hk (q := 0) (by decide)
    have f1 : f_Mod_ofPoint (k : Int) 1 G = rI (pt k 1) G := r_ofPoint hP hn hk (q := 1) (by decide)
    have ck : (k : Int) < (np : Int) := by omega
    have e := e_l_Mod_pointAt_2 x y k G
    rw [hP.1, if_pos ck, f0, bI_r, f1, bI_r, wr_sc (show k < 12 by omega) (by decide)] at e
    refine e.trans ?_
    unfold atF
    by_cases q0 : pt k 0 = x
    · rw [if_pos q0]
      by_cases q1 : pt k 1 = y
      · rw [if_pos q1, decide_eq_true ⟨q0, q1⟩]
        rfl
      · rw [if_neg q1, decide_eq_false (fun z => q1 z.2)]
        rfl
    · rw [if_neg q0, decide_eq_false (fun z => q0 z.1)]
      rfl
  refine loop_fir (l := fun (k : Nat) => l_Mod_pointAt_2 x y k G) (r := fun v => rI v G) np 0 (fun k _ hk hf => ?_) (fun k _ hk hf => ?_) ?_
  · rw [stp k (by omega), hf]; rfl
  · rw [stp k (by omega), hf]; rfl
  · have e := e_l_Mod_pointAt_2 x y ((0 + np : Nat) : Int) G
    rw [hP.1, if_neg (by omega)] at e
    exact e
theorem at_eq {np : Nat} {pt : Nat → Nat → Int} (ho : okPt np pt) {x y : Int} (h : isXY x y) : anyB 0 np (atF pt x y) = atO np pt (64 * x + y) := by
  unfold atO
  refine anyB_congr np 0 (fun k _ hk => ?_)
  have h9 := ho.2 k (by omega)
  unfold isXY at h
  unfold atF pco
  exact decide_eq_decide.mpr (by omega)
theorem fir_neg {f : Nat → Bool} {n : Nat} : firO 0 n f < 0 ↔ anyB 0 n f = false := by
  rw [← fir_any]
  rcases firO_spec (f := f) n 0 with ⟨h1, h2⟩ | ⟨k, h1, h2, h3, h4, h5⟩
  · omega
  · omega
theorem r_wrongPoint (hs : okM s) (hR : RoR G 26 s) {x y : Int} (h : isXY x y) : ∃ G', f_Mod_wrongPoint x y G = rI (if tkO s (64 * x + y) = true then 2 else if mNp s = 12 then 3 else 0) G' ∧ Fr FT G G' := by
  have ho := hs.2.2.2.2.1
  have hxy : isC (64 * x + y) := by unfold isXY at h; unfold isC; omega
  have d1 : (64 * x + y) / 64 = x := by unfold isXY at h; omega
  have d2 : (64 * x + y) % 64 = y := by unfold isXY at h; omega
  have hat := at_eq ho h
  have e := e_f_Mod_wrongPoint x y G
  rw [r_pointAt (hR.pt hs) ho.1, bI_r] at e
  unfold tkO
  cases ha : atO (mNp s) (mPt s) (64 * x + y) with
  | true =>
    have hneg : ¬(firO 0 (mNp s) (atF (mPt s) x y) < 0) := fun z => by
      have := fir_neg.mp z
      rw [hat, ha] at this
      cases this
    rw [if_neg hneg] at e
    exact ⟨G, e, Fr.refl G⟩
  | false =>
    have hneg : firO 0 (mNp s) (atF (mPt s) x y) < 0 := fir_neg.mpr (hat.trans ha)
    obtain ⟨G1, e1, hV, hF⟩ := r_takesMap hs hR
    have e2 := r_lineOverP hV hs.2.1 hxy
    rw [d1, d2] at e2
    have hnp : G1 26 0 127 = (mNp s : Int) := (hF 26 0 127 (by unfold FT; omega)).trans (hR.np hs)
    have e3 : f_Mod_isOnMap x y G = rI (b2i (anyB 0 (mNl s) (ovL (mSz s) (mCd s) (64 * x + y)))) G1 := by
      rw [e_f_Mod_isOnMap, e1, bV_r, e2, bI_r]
      have hf := fir_neg (f := ovL (mSz s) (mCd s) (64 * x + y)) (n := mNl s)
      cases hb : anyB 0 (mNl s) (ovL (mSz s) (mCd s) (64 * x + y)) with
      | true =>
        rw [if_neg (fun z => by rw [hf.mp z] at hb; cases hb)]
        rfl
      | false =>
        rw [if_pos (hf.mpr hb)]
        rfl
    rw [if_pos hneg, e3, bI_r, hnp] at e
    refine ⟨G1, e.trans ?_, hF⟩
    cases anyB 0 (mNl s) (ovL (mSz s) (mCd s) (64 * x + y)) with
    | true => rfl
    | false =>
      by_cases q : mNp s = 12
      · rw [if_pos (show b2i false = 0 from rfl), if_pos (show (mNp s : Int) = 12 by omega), if_neg (show ¬((false || false) = true) by decide), if_pos q]
      · rw [if_pos (show b2i false = 0 from rfl), if_neg (show ¬((mNp s : Int) = 12) by omega), if_neg (show ¬((false || false) = true) by decide), if_neg q]
end ADDR
