/-! ===== reading lines of levels: sums, losses, lost vertices ===== -/
theorem w6 {L l : Nat} (hL : L < 5) (hl : l < 6) : wr (wr (6 * (L : Int)) + (l : Int)) = 6 * (L : Int) + (l : Int) := by rw [wr_id (z := 6 * (L : Int)) (by omega) (by omega), wr_id (by omega) (by omega)]
theorem c6 {L l : Nat} (hL : L < 5) (hl : l < 6) : 0 ≤ 6 * (L : Int) + (l : Int) ∧ 6 * (L : Int) + (l : Int) < 30 := by omega
section RM
variable {s : Nat → Int} {G : GG}
theorem r_many (hs : okM s) (hR : RoR G 26 s) (hK : RKn G s 5) {L : Nat} (hL : L < 5) : f_Mod_manyVertices L G = rI (toO (mNl s) (lvM s L).1) G := by
  have h6 := hs.2.1.1
  rw [e_f_Mod_manyVertices]
  refine loop_sumW (l := fun x (k : Nat) => l_Mod_manyVertices_4 L x k G) (f := fun l => ((lvM s L).1 l : Int)) (r := fun x => rI x G) (m := 10) (mNl s) 0 0 (fun k x _ hk hs0 hs1 => ?_) (fun x => ?_) (fun k _ hk => ⟨Int.natCast_nonneg _, by have := ((lvM_ok hs L).2 k (by omega)).1; omega⟩) (Int.le_refl _) (by decide)
  · have hk : k < mNl s := by omega
    have h9 := ((lvM_ok hs L).2 k hk).1
    have e := e_l_Mod_manyVertices_4 L x k G
    rw [hR.nl hs, if_pos (by omega), w6 hL (show k < 6 by omega), if_pos (c6 hL (by omega)), ((hK L hL).1 k hk).1, wr_id (z := x + ((lvM s L).1 k : Int)) (by omega) (by omega), wr_sc (show k < 6 by omega) (by decide)] at e
    exact e
  · have e := e_l_Mod_manyVertices_4 L x ((0 + mNl s : Nat) : Int) G
    rw [hR.nl hs, if_neg (by omega)] at e
    exact e
theorem dropAll_le {nl : Nat} {cd0 : Nat → Nat → Int} {np : Nat} {pt : Nat → Nat → Int} {tol : Int} : ∀ (n : Nat) (v : LV) (l : Nat), (dropAll nl cd0 np pt tol n v).1 l ≤ v.1 l
  | 0, v, l => Nat.le_refl _
  | n + 1, v, l => by
    unfold dropAll
    split
    · exact Nat.le_refl _
    · refine Nat.le_trans (dropAll_le n _ l) ?_
      show szD v.1 _ l ≤ v.1 l
      unfold szD
      split
      · exact Nat.sub_le _ _
      · exact Nat.le_refl _
theorem lvM_le (s : Nat → Int) (l L : Nat) : ∀ d : Nat, (lvM s (L + d)).1 l ≤ (lvM s L).1 l
  | 0 => Nat.le_refl _
  | d + 1 => Nat.le_trans (dropAll_le 60 _ l) (lvM_le s l L d)
theorem toO_bd {nl : Nat} {sz : Nat → Nat} (hn : nl ≤ 6) (h : ∀ l : Nat, l < nl → sz l ≤ 10) : 0 ≤ toO nl sz ∧ toO nl sz ≤ 60 := by
  have := sumB_bd (f := fun l => (sz l : Int)) (m := 10) nl 0 (fun k _ hk => ⟨Int.natCast_nonneg _, by have := h k (by omega); omega⟩)
  unfold toO
  omega
theorem toO_le (s : Nat → Int) {L M : Nat} (h : L ≤ M) : toO (mNl s) (lvM s M).1 ≤ toO (mNl s) (lvM s L).1 := by
  obtain ⟨d, rfl⟩ : ∃ d, M = L + d := ⟨M - L, by omega⟩
  have := sumB_le (f := fun l => ((lvM s (L + d)).1 l : Int)) (g := fun l => ((lvM s L).1 l : Int)) (mNl s) 0 (fun k _ _ => by have := lvM_le s k L d; omega)
  unfold toO
  omega
/-- the line that loses the most -/
def msS (s0 s1 : Nat → Nat) (l : Nat) (b : Int × Int) : Int × Int := if b.2 < (s0 l : Int) - (s1 l : Int) then ((l : Int), (s0 l : Int) - (s1 l : Int)) else b
def msO (nl : Nat) (s0 s1 : Nat → Nat) : Int × Int := iterB 0 nl (msS s0 s1) (-1, 0)
theorem g_most {i : Int} {nl : Nat} {s0 s1 : Nat → Nat} {c0 c1 : Nat → Nat → Int} (h0 : LnC G 0 nl s0 c0) (h1 : LnC G i nl s1 c1) (hn : nl ≤ 6) (hz : ∀ l : Nat, l < nl → s0 l ≤ 10 ∧ s1 l ≤ 10) :
    l_Map_mostSimplified_21 i (-1) 0 0 G = if (msO nl s0 s1).1 = -1 then rX 5 (bump G) else rI (msO nl s0 s1).1 G := by
  refine loop_st (l := fun (b : Int × Int) (k : Nat) => l_Map_mostSimplified_21 i b.1 b.2 k G) (f := msS s0 s1) (r := fun b => if b.1 = -1 then rX 5 (bump G) else rI b.1 G) nl 0 (-1, 0) (fun k b _ hk => ?_) (fun b => ?_)
  · have hk : k < nl := by omega
    have h9 := hz k hk
    have e := e_l_Map_mostSimplified_21 i b.1 b.2 k G
    have c0 : (0 : Int) ≤ (k : Int) ∧ (k : Int) < 6 := by omega
    rw [h1.1, if_pos (by omega)] at e
    simp only [if_pos c0] at e
    rw [(h0.2 k hk).1, (h1.2 k hk).1, wr_id (z := (s0 k : Int) - (s1 k : Int)) (by omega) (by omega), wr_sc (show k < 6 by omega) (by decide)] at e
    refine e.trans ?_
    unfold msS
    split <;> rfl
  · have e := e_l_Map_mostSimplified_21 i b.1 b.2 ((0 + nl : Nat) : Int) G
    rw [h1.1, if_neg (by omega)] at e
    exact e
theorem r_most (hs : okM s) (hR : RoR G 26 s) (hK : RKn G s 5) {L : Nat} (hL : L < 5) :
    l_Mod_mostSimplified_36 L (-1) 0 0 G = if (msO (mNl s) (lvM s 0).1 (lvM s L).1).1 < 0 then rI (mMax 0 (msO (mNl s) (lvM s 0).1 (lvM s L).1).1) (up G 25 0 6 2) else rI (mMax 0 (msO (mNl s) (lvM s 0).1 (lvM s L).1).1) (up G 25 0 6 0) := by
  have h6 := hs.2.1.1
  refine loop_st (l := fun (b : Int × Int) (k : Nat) => l_Mod_mostSimplified_36 L b.1 b.2 k G) (f := msS (lvM s 0).1 (lvM s L).1) (r := fun b => if b.1 < 0 then rI (mMax 0 b.1) (up G 25 0 6 2) else rI (mMax 0 b.1) (up G 25 0 6 0)) (mNl s) 0 (-1, 0) (fun k b _ hk => ?_) (fun b => ?_)
  · have hk : k < mNl s := by omega
    have h9 := ((lvM_ok hs 0).2 k hk).1
    have h8 := ((lvM_ok hs L).2 k hk).1
    have e := e_l_Mod_mostSimplified_36 L b.1 b.2 k G
    have c0 : (0 : Int) ≤ (k : Int) ∧ (k : Int) < 30 := by omega
    have v0 := ((hK 0 (by decide)).1 k hk).1
    rw [show 6 * ((0 : Nat) : Int) + (k : Int) = k by omega] at v0
    rw [hR.nl hs, if_pos (by omega), w6 hL (show k < 6 by omega)] at e
    simp only [if_pos c0, if_pos (c6 hL (show k < 6 by omega))] at e
    rw [v0, ((hK L hL).1 k hk).1, wr_id (z := ((lvM s 0).1 k : Int) - ((lvM s L).1 k : Int)) (by omega) (by omega), wr_sc (show k < 6 by omega) (by decide)] at e
    refine e.trans ?_
    unfold msS mMax
    split
    · rfl
    · rfl
  · have e := e_l_Mod_mostSimplified_36 L b.1 b.2 ((0 + mNl s : Nat) : Int) G
    rw [hR.nl hs, if_neg (by omega)] at e
    exact e
theorem ms_bd (nl : Nat) (s0 s1 : Nat → Nat) : (msO nl s0 s1).1 = -1 ∨ 0 ≤ (msO nl s0 s1).1 := by
  have := iterB_inv (f := msS s0 s1) (I := fun b => b.1 = -1 ∨ 0 ≤ b.1) nl 0 (-1, 0) (fun k b _ _ hb => by
    unfold msS
    split
    · exact Or.inr (Int.natCast_nonneg _)
    · exact hb) (Or.inl rfl)
  exact this
/-- whether a vertex is on a level -/
def kpO (s : Nat → Int) (l x L : Nat) : Bool := anyB 0 ((lvM s L).1 l) fun k => decide ((lvM s L).2 l k = x)
theorem g_hasV {i : Int} (hs : okM s) {L l x : Nat} (hl : l < mNl s) (hx : x < mSz s l) (hL1 : LnC G i (mNl s) (lvM s L).1 (cdM (mCd s) (lvM s L).2)) : f_Lin_hasVertex i l (mCd s l x) G = rI (b2i (kpO s l x L)) G := by
  have h6 := hs.2.1.1
  have hz := ((lvM_ok hs L).2 l hl).1
  obtain ⟨⟨hv1, hv2⟩, hv3, hv4⟩ := lvV_ok (np := mNp s) (pt := mPt s) (st := mSt s) hs.2.1 L l hl
  have hv3 : ∀ k : Nat, k < (lvM s L).1 l → (lvM s L).2 l k < mSz s l := hv3
  have hd := (hs.2.1.2 l hl).2.2
  have a0 : wr ((l : Int) * 10) = 10 * (l : Int) + ((0 : Nat) : Int) := by rw [wr_id (by omega) (by omega)]; omega
  rw [e_f_Lin_hasVertex, a0]
  have stp : ∀ k : Nat, k < (lvM s L).1 l → l_Lin_hasVertex_8 i l (mCd s l x) (10 * (l : Int) + ((0 : Nat) : Int)) (10 * (l : Int) + (k : Int)) G = if (lvM s L).2 l k = x then rI 1 G else l_Lin_hasVertex_8 i l (mCd s l x) (10 * (l : Int) + ((0 : Nat) : Int)) (10 * (l : Int) + ((k + 1 : Nat) : Int)) G := by
    intro k hk
    have hm := hv3 k hk
    have e := e_l_Lin_hasVertex_8 i l (mCd s l x) (10 * (l : Int) + ((0 : Nat) : Int)) (10 * (l : Int) + (k : Int)) G
    have cA : (0 : Int) ≤ 10 * (l : Int) + (k : Int) ∧ 10 * (l : Int) + (k : Int) < 60 := by omega
    rw [(hL1.2 l hl).1, if_pos (by omega), wr_id (z := 10 * (l : Int) + ((0 : Nat) : Int) + ((lvM s L).1 l : Int)) (by omega) (by omega), if_pos (by omega), wk10 (show l < 6 by omega) (show k < 12 by omega)] at e
    simp only [if_pos cA] at e
    rw [(hL1.2 l hl).2 k hk] at e
    refine e.trans ?_
    show (if mCd s l ((lvM s L).2 l k) = mCd s l x then _ else _) = _
    by_cases q : (lvM s L).2 l k = x
    · rw [q, if_pos rfl, if_pos rfl]
    · have hne : mCd s l ((lvM s L).2 l k) ≠ mCd s l x := by
        rcases Nat.lt_or_ge ((lvM s L).2 l k) x with z | z
        · exact hd _ _ z hx
        · exact fun y => hd x ((lvM s L).2 l k) (by omega) hm y.symm
      rw [if_neg q, if_neg hne]
  have h := loop_any (l := fun (k : Nat) => l_Lin_hasVertex_8 i l (mCd s l x) (10 * (l : Int) + ((0 : Nat) : Int)) (10 * (l : Int) + (k : Int)) G) (f := fun k => decide ((lvM s L).2 l k = x)) (rf := rI 0 G) (rt := rI 1 G) ((lvM s L).1 l) 0 (fun k _ hk hf => by rw [stp k (by omega), if_pos (of_decide_eq_true hf)]) (fun k _ hk hf => by rw [stp k (by omega), if_neg (of_decide_eq_false hf)]) (by
    have e := e_l_Lin_hasVertex_8 i l (mCd s l x) (10 * (l : Int) + ((0 : Nat) : Int)) (10 * (l : Int) + ((0 + (lvM s L).1 l : Nat) : Int)) G
    rw [(hL1.2 l hl).1, if_pos (by omega), wr_id (z := 10 * (l : Int) + ((0 : Nat) : Int) + ((lvM s L).1 l : Int)) (by omega) (by omega), if_neg (by omega)] at e
    exact e)
  refine h.trans ?_
  unfold kpO
  cases anyB 0 ((lvM s L).1 l) (fun k => decide ((lvM s L).2 l k = x)) <;> rfl
theorem r_isKept (hs : okM s) (hK : RKn G s 5) {L l : Nat} (x : Nat) (hL : L < 5) (hl : l < mNl s) : f_Mod_isKept L l x G = rI (b2i (kpO s l x L)) G := by
  have h6 := hs.2.1.1
  have hz := ((lvM_ok hs L).2 l hl).1
  rw [e_f_Mod_isKept]
  have stp : ∀ k : Nat, k < (lvM s L).1 l → l_Mod_isKept_3 L l x k G = if (lvM s L).2 l k = x then rI 1 G else l_Mod_isKept_3 L l x ((k + 1 : Nat) : Int) G := by
    intro k hk
    have e := e_l_Mod_isKept_3 L l x k G
    have a1 : wr (wr ((6 * (L : Int) + (l : Int)) * 10) + (k : Int)) = (6 * (L : Int) + (l : Int)) * 10 + (k : Int) := by rw [wr_id (z := (6 * (L : Int) + (l : Int)) * 10) (by omega) (by omega), wr_id (by omega) (by omega)]
    have cA : (0 : Int) ≤ (6 * (L : Int) + (l : Int)) * 10 + (k : Int) ∧ (6 * (L : Int) + (l : Int)) * 10 + (k : Int) < 300 := by omega
    rw [w6 hL (show l < 6 by omega), a1, wr_sc (show k < 10 by omega) (by decide), ((hK L hL).1 l hl).1] at e
    simp only [if_pos cA, if_pos (c6 hL (show l < 6 by omega))] at e
    rw [((hK L hL).1 l hl).2 k hk, if_pos (by omega)] at e
    refine e.trans ?_
    by_cases q : (lvM s L).2 l k = x
    · rw [if_pos q, if_pos (by omega)]
    · rw [if_neg q, if_neg (by omega)]
  have h := loop_any (l := fun (k : Nat) => l_Mod_isKept_3 L l x k G) (f := fun k => decide ((lvM s L).2 l k = x)) (rf := rI 0 G) (rt := rI 1 G) ((lvM s L).1 l) 0 (fun k _ hk hf => by rw [stp k (by omega), if_pos (of_decide_eq_true hf)]) (fun k _ hk hf => by rw [stp k (by omega), if_neg (of_decide_eq_false hf)]) (by
    have e := e_l_Mod_isKept_3 L l x ((0 + (lvM s L).1 l : Nat) : Int) G
    rw [w6 hL (show l < 6 by omega), ((hK L hL).1 l hl).1, if_pos (c6 hL (by omega)), if_neg (by omega)] at e
    exact e)
  refine h.trans ?_
  unfold kpO
  cases anyB 0 ((lvM s L).1 l) (fun k => decide ((lvM s L).2 l k = x)) <;> rfl
/-- the level on which a vertex is lost, from level a on -/
def loO (s : Nat → Int) (l x : Nat) : Nat → Nat → Int
  | a, 0 => (a : Int)
  | a, n + 1 => bif kpO s l x a then loO s l x (a + 1) n else (a : Int)
theorem r_lost (hs : okM s) (hK : RKn G s 5) {l x : Nat} (hl : l < mNl s) : ∀ (n a : Nat), a + n = 5 → l_Mod_lost_50 l x a G = rI (loO s l x a n) G
  | 0, a, h => by
    rw [e_l_Mod_lost_50, if_neg (by omega)]
    rfl
  | n + 1, a, h => by
    have e := e_l_Mod_lost_50 l x a G
    rw [if_pos (by omega), r_isKept hs hK x (show a < 5 by omega) hl, wr_sc (show a < 5 by omega) (by decide)] at e
    simp only [bI_r] at e
    rw [r_lost hs hK (x := x) hl n (a + 1) (by omega)] at e
    refine e.trans ?_
    show _ = rI (bif kpO s l x a then loO s l x (a + 1) n else (a : Int)) G
    cases kpO s l x a <;> rfl
theorem g_lost (hs : okM s) {l x : Nat} (hl : l < mNl s) (hx : x < mSz s l) : ∀ (n a : Nat) (G : GG), a + n = 5 → ShC G 0 s → CC G s → ∃ G', l_Map_lost_33 l (mCd s l x) a G = rI (loO s l x a n) G' ∧ CC G' s ∧ Fr FQ G G'
  | 0, a, G, h, hS, hC => by
    have e := e_l_Map_lost_33 l (mCd s l x) a G
    rw [if_neg (by omega)] at e
    have e5 : (5 : Int) = (a : Int) := by omega
    rw [e5] at e
    exact ⟨G, e, hC, Fr.refl G⟩
  | n + 1, a, G, h, hS, hC => by
    obtain ⟨G1, e1, hL1, hC1, hF1, -⟩ := c_lines hs hS hC (show a < 5 by omega)
    have e := e_l_Map_lost_33 l (mCd s l x) a G
    rw [if_pos (by omega), e1, bR_r, g_hasV hs hl hx hL1, wr_sc (show a < 5 by omega) (by decide)] at e
    simp only [bI_r] at e
    obtain ⟨G2, e2, hC2, hF2⟩ := g_lost hs hl hx n (a + 1) G1 (by omega) (hS.q (by decide) hF1) hC1
    rw [e2] at e
    cases hk : kpO s l x a with
    | true =>
      rw [hk] at e
      refine ⟨G2, e.trans ?_, hC2, hF1.trans hF2⟩
      show _ = rI (bif kpO s l x a then loO s l x (a + 1) n else (a : Int)) G2
      rw [hk]
      rfl
    | false =>
      rw [hk] at e
      refine ⟨G1, e.trans ?_, hC1, hF1⟩
      show _ = rI (bif kpO s l x a then loO s l x (a + 1) n else (a : Int)) G1
      rw [hk]
      rfl
theorem lo_0 (hs : okM s) {l x : Nat} (hx : x < mSz s l) : loO s l x 0 5 = loO s l x 1 4 := by
  have h : kpO s l x 0 = true := anyB_true.mpr ⟨x, Nat.zero_le _, by show x < 0 + mSz s l; omega, decide_eq_true rfl⟩
  show (bif kpO s l x 0 then loO s l x 1 4 else ((0 : Nat) : Int)) = _
  rw [h]
  rfl
end RM
