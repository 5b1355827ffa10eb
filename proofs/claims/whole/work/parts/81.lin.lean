/-! ===== lines, the class ===== -/
def LnC (G : GG) (i : Int) (nl : Nat) (sz : Nat → Nat) (cd : Nat → Nat → Int) : Prop := G 2 i 2 = nl ∧ ∀ l : Nat, l < nl → G 4 i l = sz l ∧ ∀ k : Nat, k < sz l → G 3 i (10 * (l : Int) + (k : Int)) = cd l k
def okLn (nl : Nat) (sz : Nat → Nat) (cd : Nat → Nat → Int) : Prop := nl ≤ 6 ∧ ∀ l : Nat, l < nl → (2 ≤ sz l ∧ sz l ≤ 10) ∧ (∀ k : Nat, k < sz l → isC (cd l k)) ∧ ∀ j k : Nat, j < k → k < sz l → cd l j ≠ cd l k
theorem LnC.at {G : GG} {i : Int} {nl : Nat} {sz : Nat → Nat} {cd : Nat → Nat → Int} (h : LnC G i nl sz cd) {z : Int} {l k : Nat} (hl : l < nl) (hk : k < sz l) (hz : z = 10 * (l : Int) + (k : Int)) : G 3 i z = cd l k := by rw [hz]; exact (h.2 l hl).2 k hk
/-- weight of a vertex that is no end -/
def wt (cd : Nat → Nat → Int) (l k : Nat) : Int := if crs (cd l (k - 1)) (cd l k) (cd l (k + 1)) < 0 then -crs (cd l (k - 1)) (cd l k) (cd l (k + 1)) else crs (cd l (k - 1)) (cd l k) (cd l (k + 1))
def ownR (l k o t : Nat) : Bool := decide (o = l ∧ k ≤ t + 2 ∧ t ≤ k + 1)
def hits (nl : Nat) (sz : Nat → Nat) (cd : Nat → Nat → Int) (l k : Nat) : Bool := anyB 0 nl fun o => anyB 0 (sz o - 1) fun t => !ownR l k o t && mtS (cd l (k - 1)) (cd l (k + 1)) (cd o t) (cd o (t + 1))
def clr (nl : Nat) (sz : Nat → Nat) (cd : Nat → Nat → Int) (l k : Nat) : Bool := !hits nl sz cd l k && (!(decide (2 ≤ k) && fold (cd l (k - 2)) (cd l (k - 1)) (cd l (k + 1))) && !(decide (k + 2 < sz l) && fold (cd l (k - 1)) (cd l (k + 1)) (cd l (k + 2))))
def inP (np : Nat) (pt : Nat → Nat → Int) (a b c : Int) : Bool := anyB 0 np fun p => decide (inTri a b c (pco pt p))
def rsn (nl : Nat) (sz : Nat → Nat) (cd : Nat → Nat → Int) (np : Nat) (pt : Nat → Nat → Int) (tol : Int) (l k : Nat) : Int := if k = 0 ∨ sz l ≤ k + 1 then 1 else if tol < wt cd l k then 2 else bif inP np pt (cd l (k - 1)) (cd l k) (cd l (k + 1)) then 3 else bif clr nl sz cd l k then 0 else 4
section LIN
variable {i : Int} {nl : Nat} {sz : Nat → Nat} {cd : Nat → Nat → Int} {G : GG}
theorem g_cod (hL : LnC G i nl sz cd) (ho : okLn nl sz cd) {l k : Nat} (hl : l < nl) (hk : k < sz l) : f_Lin_codeOf i l k G = rI (cd l k) G := by
  have h6 := ho.1
  have h10 := (ho.2 l hl).1
  rw [e_f_Lin_codeOf]
  simp (disch := omega) only [wr_id]
  rw [if_pos (by omega), hL.at hl hk (by omega)]
theorem g_isEnd (hL : LnC G i nl sz cd) (ho : okLn nl sz cd) {l k : Nat} (hl : l < nl) : f_Lin_isEnd i l k G = rI (b2i (decide (k = 0 ∨ sz l ≤ k + 1))) G := by
  have h6 := ho.1
  have h10 := (ho.2 l hl).1
  have hs := (hL.2 l hl).1
  rw [e_f_Lin_isEnd, hs]
  simp (disch := omega) only [wr_id]
  by_cases h1 : (0 : Int) < k
  · rw [if_pos h1, if_pos (by omega)]
    by_cases h2 : (k : Int) < (sz l : Int) - 1
    · rw [if_pos h2, decide_eq_false (by omega)]; rfl
    · rw [if_neg h2, decide_eq_true (by omega)]; rfl
  · rw [if_neg h1, decide_eq_true (by omega)]; rfl
theorem g_wt (hL : LnC G i nl sz cd) (ho : okLn nl sz cd) {l k : Nat} (hl : l < nl) (hk : 1 ≤ k) (hk2 : k + 1 < sz l) : f_Lin_weightOf i l k G = rI (wt cd l k) G := by
  have h6 := ho.1
  obtain ⟨h10, hc, -⟩ := ho.2 l hl
  rw [e_f_Lin_weightOf]
  simp (disch := omega) only [wr_id]
  rw [if_pos (by omega), if_pos (by omega), if_pos (by omega), hL.at (z := (l : Int) * 10 + k - 1) (k := k - 1) hl (by omega) (by omega), hL.at (z := (l : Int) * 10 + k) (k := k) hl (by omega) (by omega), hL.at (z := (l : Int) * 10 + k + 1) (k := k + 1) hl hk2 (by omega), g_turn G (hc _ (by omega)) (hc _ (by omega)) (hc _ hk2)]
  have hb := crs_bd (hc (k - 1) (by omega)) (hc k (by omega)) (hc (k + 1) hk2)
  simp only [bI_r]
  unfold wt
  by_cases h : crs (cd l (k - 1)) (cd l k) (cd l (k + 1)) < 0
  · rw [if_pos h, if_pos h, wr_id (by omega) (by omega)]
  · rw [if_neg h, if_neg h]
theorem g_clr (hL : LnC G i nl sz cd) (ho : okLn nl sz cd) {l k : Nat} (hl : l < nl) (hk : 1 ≤ k) (hk2 : k + 1 < sz l) : f_Lin_isClearWithout i l k G = rI (b2i (clr nl sz cd l k)) G := by
  have h6 := ho.1
  obtain ⟨h10, hc, -⟩ := ho.2 l hl
  have hs := (hL.2 l hl).1
  have hca := hc (k - 1) (by omega)
  have hcc := hc (k + 1) hk2
  rw [e_f_Lin_isClearWithout]
  simp (disch := omega) only [wr_id]
  rw [if_pos (by omega), if_pos (by omega), hL.at (z := (l : Int) * 10 + k - 1) (k := k - 1) hl (by omega) (by omega), hL.at (z := (l : Int) * 10 + k + 1) (k := k + 1) hl hk2 (by omega)]
  have inner : ∀ o : Nat, o < nl → l_Lin_isClearWithout_30 i l k ((l : Int) * 10 + k) (cd l (k - 1)) (cd l (k + 1)) o G = bif (anyB 0 (sz o - 1) fun t => !ownR l k o t && mtS (cd l (k - 1)) (cd l (k + 1)) (cd o t) (cd o (t + 1))) then rI 0 G else l_Lin_isClearWithout_30 i l k ((l : Int) * 10 + k) (cd l (k - 1)) (cd l (k + 1)) ((o + 1 : Nat) : Int) G := by
    intro o ho2
    obtain ⟨h11, hc2, -⟩ := ho.2 o ho2
    have hs2 := (hL.2 o ho2).1
    rw [e_l_Lin_isClearWithout_30, if_pos (by rw [hL.1]; omega), wr_id (z := (o : Int) * 10) (by omega) (by omega)]
    have e0 : l_Lin_isClearWithout_50 i l k ((l : Int) * 10 + k) (cd l (k - 1)) (cd l (k + 1)) o ((o : Int) * 10) ((o : Int) * 10) G = (fun t : Nat => l_Lin_isClearWithout_50 i l k ((l : Int) * 10 + k) (cd l (k - 1)) (cd l (k + 1)) o ((o : Int) * 10) ((o : Int) * 10 + (t : Int)) G) 0 := by
      show _ = l_Lin_isClearWithout_50 i l k ((l : Int) * 10 + k) (cd l (k - 1)) (cd l (k + 1)) o ((o : Int) * 10) ((o : Int) * 10 + 0) G
      rw [Int.add_zero]
    rw [e0]
    have step : ∀ t : Nat, t < sz o - 1 → l_Lin_isClearWithout_50 i l k ((l : Int) * 10 + k) (cd l (k - 1)) (cd l (k + 1)) o ((o : Int) * 10) ((o : Int) * 10 + (t : Int)) G =
        bif !ownR l k o t && mtS (cd l (k - 1)) (cd l (k + 1)) (cd o t) (cd o (t + 1)) then rI 0 G else l_Lin_isClearWithout_50 i l k ((l : Int) * 10 + k) (cd l (k - 1)) (cd l (k + 1)) o ((o : Int) * 10) ((o : Int) * 10 + ((t + 1 : Nat) : Int)) G := by
      intro t ht
      have m1 := g_meet G hca hcc (hc2 t (by omega)) (hc2 (t + 1) (by omega))
      rw [e_l_Lin_isClearWithout_50, hs2]
      simp (disch := omega) only [wr_id]
      rw [if_pos (by omega), if_pos (by omega)]
      rw [hL.at (z := (o : Int) * 10 + t) (k := t) ho2 (by omega) (by omega), hL.at (z := (o : Int) * 10 + t + 1) (k := t + 1) ho2 (by omega) (by omega)]
      simp only [m1, bI_r, b2i_0]
      have e1 : (o : Int) * 10 + (t : Int) + 1 = (o : Int) * 10 + ((t + 1 : Nat) : Int) := by omega
      rw [e1]
      by_cases q1 : (o : Int) = l
      · rw [if_pos q1]
        by_cases q2 : (o : Int) * 10 + (t : Int) < (l : Int) * 10 + k - 2
        · rw [if_pos q2, if_pos (by omega), if_pos (by omega)]
          have hw : ownR l k o t = false := decide_eq_false (by omega)
          rw [hw]
          cases mtS (cd l (k - 1)) (cd l (k + 1)) (cd o t) (cd o (t + 1)) <;> rfl
        · rw [if_neg q2]
          by_cases q3 : (l : Int) * 10 + k + 1 < (o : Int) * 10 + (t : Int)
          · rw [if_pos q3, if_pos (by omega), if_pos (by omega)]
            have hw : ownR l k o t = false := decide_eq_false (by omega)
            rw [hw]
            cases mtS (cd l (k - 1)) (cd l (k + 1)) (cd o t) (cd o (t + 1)) <;> rfl
          · rw [if_neg q3]
            have hw : ownR l k o t = true := decide_eq_true (by omega)
            rw [hw]
            rfl
      · rw [if_neg q1, if_pos (by omega), if_pos (by omega)]
        have hw : ownR l k o t = false := decide_eq_false (by omega)
        rw [hw]
        cases mtS (cd l (k - 1)) (cd l (k + 1)) (cd o t) (cd o (t + 1)) <;> rfl
    refine loop_any (l := fun t : Nat => l_Lin_isClearWithout_50 i l k ((l : Int) * 10 + k) (cd l (k - 1)) (cd l (k + 1)) o ((o : Int) * 10) ((o : Int) * 10 + (t : Int)) G) (f := fun t => !ownR l k o t && mtS (cd l (k - 1)) (cd l (k + 1)) (cd o t) (cd o (t + 1))) (sz o - 1) 0 (fun t _ ht hf => ?_) (fun t _ ht hf => ?_) ?_
    · rw [step t (by omega), hf]; rfl
    · rw [step t (by omega), hf]; rfl
    · show l_Lin_isClearWithout_50 i l k ((l : Int) * 10 + k) (cd l (k - 1)) (cd l (k + 1)) o ((o : Int) * 10) ((o : Int) * 10 + ((0 + (sz o - 1) : Nat) : Int)) G = _
      rw [e_l_Lin_isClearWithout_50, hs2]
      simp (disch := omega) only [wr_id]
      rw [if_pos (by omega), if_neg (by omega)]
      rfl
  have fin : l_Lin_isClearWithout_30 i l k ((l : Int) * 10 + k) (cd l (k - 1)) (cd l (k + 1)) nl G = rI (b2i (!(decide (2 ≤ k) && fold (cd l (k - 2)) (cd l (k - 1)) (cd l (k + 1))) && !(decide (k + 2 < sz l) && fold (cd l (k - 1)) (cd l (k + 1)) (cd l (k + 2))))) G := by
    rw [e_l_Lin_isClearWithout_30, if_neg (by rw [hL.1]; omega), hs]
    simp (disch := omega) only [wr_id]
    by_cases q1 : (k : Int) < 2
    · rw [if_pos q1, if_pos (by omega), decide_eq_false (p := 2 ≤ k) (by omega)]
      by_cases q2 : (k : Int) + 2 < sz l
      · rw [if_pos q2, if_pos (by omega), hL.at (z := (l : Int) * 10 + k + 2) (k := k + 2) hl (by omega) (by omega), g_fold G hca hcc (hc (k + 2) (by omega)), decide_eq_true (p := k + 2 < sz l) (by omega)]
        simp only [bI_r, b2i_0]
        cases fold (cd l (k - 1)) (cd l (k + 1)) (cd l (k + 2)) <;> rfl
      · rw [if_neg q2, decide_eq_false (p := k + 2 < sz l) (by omega)]
        rfl
    · have c1 : (0 : Int) ≤ (l : Int) ∧ (l : Int) < 6 := by omega
      rw [if_neg q1, if_pos (by omega), hL.at (z := (l : Int) * 10 + k - 2) (k := k - 2) hl (by omega) (by omega), g_fold G (hc (k - 2) (by omega)) hca hcc, decide_eq_true (p := 2 ≤ k) (by omega)]
      by_cases q2 : (k : Int) + 2 < sz l
      · have f2 := g_fold G hca hcc (hc (k + 2) (by omega))
        have c2 : (0 : Int) ≤ (l : Int) * 10 + k + 2 ∧ (l : Int) * 10 + k + 2 < 60 := by omega
        rw [decide_eq_true (p := k + 2 < sz l) (by omega)]
        simp only [bI_r, b2i_0, hL.at (z := (l : Int) * 10 + k + 2) (k := k + 2) hl (show k + 2 < sz l by omega) (by omega), f2, c1, c2, and_self, if_true, q2, hs]
        cases fold (cd l (k - 2)) (cd l (k - 1)) (cd l (k + 1)) <;> cases fold (cd l (k - 1)) (cd l (k + 1)) (cd l (k + 2)) <;> rfl
      · rw [decide_eq_false (p := k + 2 < sz l) (by omega)]
        simp only [bI_r, b2i_0, c1, and_self, if_true, q2, hs, if_false]
        cases fold (cd l (k - 2)) (cd l (k - 1)) (cd l (k + 1)) <;> rfl
  have all := loop_any (l := fun o : Nat => l_Lin_isClearWithout_30 i l k ((l : Int) * 10 + k) (cd l (k - 1)) (cd l (k + 1)) o G) (f := fun o => anyB 0 (sz o - 1) fun t => !ownR l k o t && mtS (cd l (k - 1)) (cd l (k + 1)) (cd o t) (cd o (t + 1))) (rt := rI 0 G) nl 0
    (fun o _ ho2 hf => by rw [inner o (by omega), hf]; rfl) (fun o _ ho2 hf => by rw [inner o (by omega), hf]; rfl) (by rw [Nat.zero_add])
  refine all.trans ?_
  rw [fin]
  unfold clr hits
  cases anyB 0 nl fun o => anyB 0 (sz o - 1) fun t => !ownR l k o t && mtS (cd l (k - 1)) (cd l (k + 1)) (cd o t) (cd o (t + 1)) <;> rfl
theorem g_rsn (hL : LnC G i nl sz cd) (ho : okLn nl sz cd) {j : Int} {np : Nat} {pt : Nat → Nat → Int} (hP : PtC G j np pt) (hp : okPt np pt) {l k : Nat} (hl : l < nl) (hk : k < sz l) (tol : Int) : f_Lin_reasonOf i l k tol j G = rI (rsn nl sz cd np pt tol l k) G := by
  have h6 := ho.1
  obtain ⟨h10, hc, -⟩ := ho.2 l hl
  rw [e_f_Lin_reasonOf, g_isEnd hL ho hl]
  simp only [bI_r, b2i_0]
  unfold rsn
  by_cases h : k = 0 ∨ sz l ≤ k + 1
  · rw [if_neg (by rw [decide_eq_true h]; decide), if_pos h]
  · rw [if_pos (decide_eq_false h), if_neg h, g_wt hL ho hl (by omega) (by omega)]
    simp only [bI_r]
    by_cases h2 : tol < wt cd l k
    · rw [if_pos h2, if_pos h2]
    · rw [if_neg h2, if_neg h2]
      simp (disch := omega) only [wr_id]
      rw [if_pos (by omega), if_pos (by omega), if_pos (by omega), hL.at (z := (l : Int) * 10 + k - 1) (k := k - 1) hl (by omega) (by omega), hL.at (z := (l : Int) * 10 + k) (k := k) hl (by omega) (by omega), hL.at (z := (l : Int) * 10 + k + 1) (k := k + 1) hl (by omega) (by omega), g_tri hP hp (hc _ (by omega)) (hc _ (by omega)) (hc _ (by omega))]
      simp only [bI_r, b2i_0, g_clr hL ho hl (show 1 ≤ k by omega) (show k + 1 < sz l by omega)]
      unfold inP
      cases anyB 0 np fun p => decide (inTri (cd l (k - 1)) (cd l k) (cd l (k + 1)) (pco pt p))
      · cases clr nl sz cd l k <;> rfl
      · rfl
end LIN
