/-! ===== read: the class makes a line ===== -/
section SQ
variable {G : GG} {i : Int} {n : Nat} {V : Nat → Int}
theorem w_sim {n : Nat} (h : 2 ≤ n ∧ n ≤ 10) : wr ((n : Int) - 1) = ((n - 1 : Nat) : Int) := by
  rw [wr_id (by omega) (by omega)]
  omega
theorem w_sim2 {k : Nat} (h : k < 100) : wr ((k : Int) + 1) = ((k + 1 : Nat) : Int) ∧ wr ((k : Int) + 2) = ((k + 2 : Nat) : Int) := by
  constructor
  · rw [wr_id (by omega) (by omega)]
    omega
  · rw [wr_id (by omega) (by omega)]
    omega
theorem g_sim54 (hV : ∀ k : Nat, k < n → G 23 0 k = V k) (hc : ∀ k : Nat, k < n → isC (V k)) (hn : 2 ≤ n ∧ n ≤ 10) {a : Nat} (ha : a + 1 < n) : l_Lin_isSimple_54 n a ((a + 2 : Nat) : Int) G = bif anyB (a + 2) (n - 1 - (a + 2)) (fun j => mtS (V a) (V (a + 1)) (V j) (V (j + 1))) then rI 0 G else l_Lin_isSimple_2 n ((a + 1 : Nat) : Int) G := by
  have stp : ∀ j : Nat, j + 1 < n → l_Lin_isSimple_54 n a (j : Int) G = if b2i (mtS (V a) (V (a + 1)) (V j) (V (j + 1))) = 0 then l_Lin_isSimple_54 n a ((j + 1 : Nat) : Int) G else rI 0 G := fun j hj => by
    have e := e_l_Lin_isSimple_54 n a (j : Int) G
    have c1 : (j : Int) < ((n - 1 : Nat) : Int) := by omega
    have c2 : 0 ≤ (a : Int) ∧ (a : Int) < 11 := by omega
    have c3 : 0 ≤ ((a + 1 : Nat) : Int) ∧ ((a + 1 : Nat) : Int) < 11 := by omega
    have c4 : 0 ≤ (j : Int) ∧ (j : Int) < 11 := by omega
    have c5 : 0 ≤ ((j + 1 : Nat) : Int) ∧ ((j + 1 : Nat) : Int) < 11 := by omega
    rw [w_sim hn, (w_sim2 (show a < 100 by omega)).1, (w_sim2 (show j < 100 by omega)).1, if_pos c1, if_pos c2, if_pos c3, if_pos c4, if_pos c5, hV a (by omega), hV (a + 1) (by omega), hV j (by omega), hV (j + 1) hj, g_meet G (hc a (by omega)) (hc (a + 1) (by omega)) (hc j (by omega)) (hc (j + 1) hj), bI_r] at e
    exact e
  refine loop_any (l := fun (j : Nat) => l_Lin_isSimple_54 n a (j : Int) G) (f := fun j => mtS (V a) (V (a + 1)) (V j) (V (j + 1))) (rf := l_Lin_isSimple_2 n ((a + 1 : Nat) : Int) G) (rt := rI 0 G) (n - 1 - (a + 2)) (a + 2) (fun j _ hj hf => ?_) (fun j _ hj hf => ?_) ?_
  · rw [stp j (by omega), hf, if_neg (by decide)]
  · rw [stp j (by omega), hf]; exact if_pos rfl
  · have e := e_l_Lin_isSimple_54 n a ((a + 2 + (n - 1 - (a + 2)) : Nat) : Int) G
    have c1 : ¬ ((a + 2 + (n - 1 - (a + 2)) : Nat) : Int) < ((n - 1 : Nat) : Int) := by omega
    rw [w_sim hn, if_neg c1, (w_sim2 (show a < 100 by omega)).1] at e
    exact e
theorem g_simI (hV : ∀ k : Nat, k < n → G 23 0 k = V k) (hc : ∀ k : Nat, k < n → isC (V k)) (hn : 2 ≤ n ∧ n ≤ 10) {a : Nat} (ha : a + 1 < n) : l_Lin_isSimple_2 n (a : Int) G = if (decide (V a = V (a + 1)) || twI n V a) = true then rI 0 G else l_Lin_isSimple_2 n ((a + 1 : Nat) : Int) G := by
  have e := e_l_Lin_isSimple_2 n (a : Int) G
  have c1 : (a : Int) < ((n - 1 : Nat) : Int) := by omega
  have c2 : 0 ≤ (a : Int) ∧ (a : Int) < 11 := by omega
  have c3 : 0 ≤ ((a + 1 : Nat) : Int) ∧ ((a + 1 : Nat) : Int) < 11 := by omega
  rw [w_sim hn, (w_sim2 (show a < 100 by omega)).1, (w_sim2 (show a < 100 by omega)).2, if_pos c1, if_pos c2, if_pos c3, hV a (by omega), hV (a + 1) ha] at e
  by_cases q : V a = V (a + 1)
  · rw [if_pos q] at e
    rw [e, decide_eq_true q, Bool.true_or, if_pos rfl]
  · rw [if_neg q] at e
    rw [decide_eq_false q, Bool.false_or]
    unfold twI
    by_cases q2 : a + 2 < n
    · have c4 : ((a + 2 : Nat) : Int) < (n : Int) := by omega
      have c5 : 0 ≤ ((a + 2 : Nat) : Int) ∧ ((a + 2 : Nat) : Int) < 11 := by omega
      rw [if_pos c4, if_pos c2, if_pos c3, if_pos c5, hV (a + 2) q2, g_fold G (hc a (by omega)) (hc (a + 1) ha) (hc (a + 2) q2), bI_r, g_sim54 hV hc hn ha] at e
      rw [e, decide_eq_true q2, Bool.true_and]
      cases fold (V a) (V (a + 1)) (V (a + 2)) with
      | true => rfl
      | false =>
        rw [Bool.false_or, if_pos (show b2i false = 0 from rfl)]
        cases anyB (a + 2) (n - 1 - (a + 2)) (fun j => mtS (V a) (V (a + 1)) (V j) (V (j + 1))) <;> rfl
    · have c4 : ¬ ((a + 2 : Nat) : Int) < (n : Int) := by omega
      rw [if_neg c4, g_sim54 hV hc hn ha] at e
      rw [e, decide_eq_false q2, Bool.false_and, Bool.false_or]
      cases anyB (a + 2) (n - 1 - (a + 2)) (fun j => mtS (V a) (V (a + 1)) (V j) (V (j + 1))) <;> rfl
theorem g_simple (hV : ∀ k : Nat, k < n → G 23 0 k = V k) (hc : ∀ k : Nat, k < n → isC (V k)) (hn : 2 ≤ n ∧ n ≤ 10) : f_Lin_isSimple n G = rI (b2i (!(samB n V || twB n V))) G := by
  rw [e_f_Lin_isSimple]
  have h := loop_any (l := fun (j : Nat) => l_Lin_isSimple_2 n (j : Int) G) (f := fun j => decide (V j = V (j + 1)) || twI n V j) (rf := rI 1 G) (rt := rI 0 G) (n - 1) 0 (fun j _ hj hf => by
    rw [g_simI hV hc hn (by omega)]
    exact if_pos hf) (fun j _ hj hf => by
    rw [g_simI hV hc hn (by omega)]
    exact if_neg (by rw [hf]; decide)) (by
    have e := e_l_Lin_isSimple_2 n ((0 + (n - 1) : Nat) : Int) G
    have c1 : ¬ ((0 + (n - 1) : Nat) : Int) < ((n - 1 : Nat) : Int) := by omega
    rw [w_sim hn, if_neg c1] at e
    exact e)
  refine h.trans ?_
  rw [anyB_or]
  show (bif (samB n V || twB n V) then rI 0 G else rI 1 G) = _
  cases (samB n V || twB n V) <;> rfl
variable {nl : Nat} {sz : Nat → Nat} {cd : Nat → Nat → Int} {np : Nat} {pt : Nat → Nat → Int}
def mtL (sz : Nat → Nat) (cd : Nat → Nat → Int) (a b : Int) (l : Nat) : Bool := anyB 0 (sz l - 1) fun k => mtS a b (cd l k) (cd l (k + 1))
theorem w_met {l z : Nat} (hl : l < 6) (hz : z ≤ 10) : wr ((l : Int) * 10) = 10 * (l : Int) + ((0 : Nat) : Int) ∧ (2 ≤ z → wr (wr (10 * (l : Int) + ((0 : Nat) : Int) + (z : Int)) - 1) = 10 * (l : Int) + ((z - 1 : Nat) : Int)) := by
  refine ⟨?_, fun h2 => ?_⟩
  · rw [wr_id (by omega) (by omega)]
    omega
  · rw [wr_id (z := 10 * (l : Int) + ((0 : Nat) : Int) + (z : Int)) (by omega) (by omega), wr_id (by omega) (by omega)]
    omega
theorem g_isMetBy (hL : LnC G i nl sz cd) (ho : okLn nl sz cd) {a b : Int} (ha : isC a) (hb : isC b) : f_Lin_isMetBy i a b G = rI (b2i (anyB 0 nl (mtL sz cd a b))) G := by
  have h6 := ho.1
  rw [e_f_Lin_isMetBy]
  have seg : ∀ l : Nat, l < nl → l_Lin_isMetBy_2 i a b l G = bif mtL sz cd a b l then rI 1 G else l_Lin_isMetBy_2 i a b ((l + 1 : Nat) : Int) G := by
    intro l hl
    obtain ⟨hz, hc, -⟩ := ho.2 l hl
    have hl6 : l < 6 := by omega
    obtain ⟨w1, w2⟩ := w_met hl6 hz.2
    have w3 := w2 hz.1
    have e := e_l_Lin_isMetBy_2 i a b l G
    have c0 : (l : Int) < (nl : Int) := by omega
    rw [hL.1, if_pos c0, w1] at e
    clear w1 w2
    refine e.trans ?_
    have c6 : 0 ≤ (l : Int) ∧ (l : Int) < 6 := by omega
    have stp : ∀ k : Nat, k + 1 < sz l → l_Lin_isMetBy_20 i a b l (10 * (l : Int) + ((0 : Nat) : Int)) (10 * (l : Int) + (k : Int)) G = if b2i (mtS a b (cd l k) (cd l (k + 1))) = 0 then l_Lin_isMetBy_20 i a b l (10 * (l : Int) + ((0 : Nat) : Int)) (10 * (l : Int) + ((k + 1 : Nat) : Int)) G else rI 1 G := fun k hk => by
      have e := e_l_Lin_isMetBy_20 i a b l (10 * (l : Int) + ((0 : Nat) : Int)) (10 * (l : Int) + (k : Int)) G
      have v1 := (hL.2 l hl).2 k (by omega)
      have v2 := (hL.2 l hl).2 (k + 1) hk
      have c1 : 10 * (l : Int) + (k : Int) < 10 * (l : Int) + ((sz l - 1 : Nat) : Int) := by clear e w3; omega
      have c2 : 0 ≤ 10 * (l : Int) + (k : Int) ∧ 10 * (l : Int) + (k : Int) < 60 := by clear e w3; omega
      have c3 : 0 ≤ 10 * (l : Int) + ((k + 1 : Nat) : Int) ∧ 10 * (l : Int) + ((k + 1 : Nat) : Int) < 60 := by clear e w3; omega
      rw [(hL.2 l hl).1, if_pos c6, w3, if_pos c1, if_pos c2, wk10 hl6 (show k < 12 by omega), if_pos c3, v1, v2, g_meet G ha hb (hc k (by omega)) (hc (k + 1) hk), bI_r] at e
      exact e
    refine loop_any (l := fun (k : Nat) => l_Lin_isMetBy_20 i a b l (10 * (l : Int) + ((0 : Nat) : Int)) (10 * (l : Int) + (k : Int)) G) (f := fun k => mtS a b (cd l k) (cd l (k + 1))) (rt := rI 1 G) (rf := l_Lin_isMetBy_2 i a b ((l + 1 : Nat) : Int) G) (sz l - 1) 0 (fun k _ hk hf => ?_) (fun k _ hk hf => ?_) ?_
    · rw [stp k (by omega), hf, if_neg (by decide)]
    · rw [stp k (by omega), hf]; exact if_pos rfl
    · have e := e_l_Lin_isMetBy_20 i a b l (10 * (l : Int) + ((0 : Nat) : Int)) (10 * (l : Int) + ((0 + (sz l - 1) : Nat) : Int)) G
      have c1 : ¬ 10 * (l : Int) + ((0 + (sz l - 1) : Nat) : Int) < 10 * (l : Int) + ((sz l - 1 : Nat) : Int) := by clear e w3; omega
      rw [(hL.2 l hl).1, if_pos c6, w3, if_neg c1, wr_sc hl6 (by decide)] at e
      exact e
  have h := loop_any (l := fun (l : Nat) => l_Lin_isMetBy_2 i a b l G) (f := mtL sz cd a b) (rt := rI 1 G) (rf := rI 0 G) nl 0 (fun l _ hl hf => by
    rw [seg l (by omega), hf]
    rfl) (fun l _ hl hf => by
    rw [seg l (by omega), hf]
    rfl) (by
    have e := e_l_Lin_isMetBy_2 i a b ((0 + nl : Nat) : Int) G
    have c0 : ¬ ((0 + nl : Nat) : Int) < (nl : Int) := by omega
    rw [hL.1, if_neg c0] at e
    exact e)
  refine h.trans ?_
  cases anyB 0 nl (mtL sz cd a b) <;> rfl
theorem pco_isC (ho : okPt np pt) {p : Nat} (hp : p < np) : isC (pco pt p) := by
  have h := ho.2 p hp
  unfold isC pco
  omega
theorem g_anyOn (hP : PtC G i np pt) (ho : okPt np pt) {a b : Int} (ha : isC a) (hb : isC b) : f_Poi_isAnyOnSegment i a b G = rI (b2i (anyB 0 np fun p => onS a b (pco pt p))) G := by
  have hn := ho.1
  rw [e_f_Poi_isAnyOnSegment]
  have stp : ∀ k : Nat, k < np → l_Poi_isAnyOnSegment_2 i a b k G = if b2i (onS a b (pco pt k)) = 0 then l_Poi_isAnyOnSegment_2 i a b ((k + 1 : Nat) : Int) G else rI 1 G := fun k hk => by
    have e := e_l_Poi_isAnyOnSegment_2 i a b k G
    have c0 : (k : Int) < (np : Int) := by omega
    rw [hP.1, if_pos c0, g_codeOf hP ho hk, bI_r, g_onS G ha hb (pco_isC ho hk), bI_r, wr_sc (show k < 12 by omega) (by decide)] at e
    exact e
  have h := loop_any (l := fun (k : Nat) => l_Poi_isAnyOnSegment_2 i a b k G) (f := fun p => onS a b (pco pt p)) (rf := rI 0 G) (rt := rI 1 G) np 0 (fun k _ hk hf => by
    rw [stp k (by omega), hf, if_neg (by decide)]) (fun k _ hk hf => by
    rw [stp k (by omega), hf]; exact if_pos rfl) (by
    have e := e_l_Poi_isAnyOnSegment_2 i a b ((0 + np : Nat) : Int) G
    have c0 : ¬ ((0 + np : Nat) : Int) < (np : Int) := by omega
    rw [hP.1, if_neg c0] at e
    exact e)
  refine h.trans ?_
  cases anyB 0 np (fun p => onS a b (pco pt p)) <;> rfl
end SQ
