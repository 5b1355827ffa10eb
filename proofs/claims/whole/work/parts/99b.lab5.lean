/-! ===== labels: the reason against a place, reference ===== -/
def PlR (G : GG) (L : Nat) (np : Nat) (pl : Nat → Int) : Prop := ∀ q : Nat, q < np → G 38 0 (12 * (L : Int) + (q : Int)) = pl q
section LABF
variable {np : Nat} {pt : Nat → Nat → Int} {nl : Nat} {sz : Nat → Nat} {cd : Nat → Nat → Int} {pl : Nat → Int} {st : Nat → Int} {G : GG}
theorem r_isShown (hP : PtR G np pt) (ho : okPt np pt) (hst : okSt st) (hS : StR G st) {L : Nat} (hL : L < 5) {q : Nat} (hq : q < np) : f_Mod_isShown L q G = rI (b2i (shO pt (st (3 * L + 2)) q)) G := by
  have hr := (ho.2 q hq).2.2.1
  have e2 : f_Mod_ofPoint (q : Int) 2 G = rI (pt q 2) G := r_ofPoint hP ho.1 hq (q := 2) (by decide)
  rw [e_f_Mod_isShown]
  unfold shO
  by_cases h0 : L = 0
  · subst h0
    rw [if_pos (by decide), decide_eq_true (by rw [show st (3 * 0 + 2) = 0 from hst.2.2.2]; exact hr.1)]
    rfl
  · have h9 := hS (3 * L + 2) (by omega)
    have eof : f_Mod_of L 2 G = rI (st (3 * L + 2)) G := by
      rw [e_f_Mod_of, if_pos (by omega), e_f_Mod_setting, if_neg (by decide)]
      simp (disch := omega) only [wr_id]
      rw [if_pos (by omega), show (280 : Int) + 3 * (L : Int) + 2 = 280 + ((3 * L + 2 : Nat) : Int) by omega, h9]
      rfl
    rw [if_neg (by omega), e2]
    simp only [bI_r, eof]
    by_cases q1 : pt q 2 < st (3 * L + 2)
    · rw [if_pos q1, decide_eq_false (by omega)]
      rfl
    · rw [if_neg q1, decide_eq_true (by omega)]
      rfl
theorem r_refused {mk : Nat → Nat → Nat} (hP : PtR G np pt) (ho : okPt np pt) (hst : okSt st) (hS : StR G st) {L : Nat} (hL : L < 5) (hp2 : PlR G L np pl) (hpl : okPl np pt (st (3 * L + 2)) pl) (hV : LnV G nl sz cd mk) (hl : okLn nl sz cd) {p : Nat} (hp : p < np) (t : Int) :
    f_Mod_refused L p t G = rI (rsL np pt (st (3 * L + 2)) nl sz cd pl p t) G := by
  have hn := ho.1
  obtain ⟨h1, h2, h3, h4, h5, h6⟩ := ho.2 p hp
  have b1 := lf_bd ho hp t
  have b2 := lw_bd ho hp t
  have l119 : l_Mod_refused_119 L p t 0 G = rI (if clO np pt pl p t = true then 3 else if cxO nl sz cd pt p t = true then 4 else 0) G := by
    have step : ∀ k : Nat, k < np → l_Mod_refused_119 L p t k G = if (!decide (pl k = -1) && (ahO pt k p && ovO pt p t k (pl k))) = true then rI 3 G else l_Mod_refused_119 L p t ((k + 1 : Nat) : Int) G := by
      intro k hk
      have i1 : (k : Int) < (np : Int) := by omega
      have i2 : (0 : Int) ≤ 12 * (L : Int) + (k : Int) ∧ 12 * (L : Int) + (k : Int) < 60 := by omega
      have a1 : wr (wr (12 * (L : Int)) + (k : Int)) = 12 * (L : Int) + k := by rw [wr_id (z := 12 * (L : Int)) (by omega) (by omega), wr_id (by omega) (by omega)]
      have e := e_l_Mod_refused_119 L p t k G
      simp only [hP.1, if_pos i1, a1, if_pos i2, hp2 k hk, wr_sc hk (Nat.le_trans hn (by decide)), r_isShown hP ho hst hS hL hk, r_isAhead hP ho hk hp, r_overlap hP ho hp hk, bI_r, b2i_0] at e
      refine e.trans ?_
      clear e a1
      have hpk := hpl k hk
      cases hs : shO pt (st (3 * L + 2)) k with
      | false =>
        have q1 : pl k = -1 := Classical.byContradiction fun z => by rw [hpk.2 z] at hs; cases hs
        rw [decide_eq_true q1]
        rfl
      | true =>
        rw [if_neg (by decide)]
        by_cases q1 : pl k = -1
        · rw [decide_eq_true q1, if_pos (show pl k < 0 by omega)]
          cases ahO pt k p with
          | true => rfl
          | false => rfl
        · rw [decide_eq_false q1, if_neg (show ¬pl k < 0 by omega)]
          cases ahO pt k p with
          | true =>
            cases ovO pt p t k (pl k) with
            | true => rfl
            | false => rfl
          | false => rfl
    have h := loop_any (l := fun (k : Nat) => l_Mod_refused_119 L p t k G) (f := fun q => !decide (pl q = -1) && (ahO pt q p && ovO pt p t q (pl q))) (rf := rI (if cxO nl sz cd pt p t = true then 4 else 0) G) (rt := rI 3 G) np 0 (fun k _ hk hf => by rw [step k (by omega), if_pos hf]) (fun k _ hk hf => by rw [step k (by omega), hf]; rfl) (by
      show l_Mod_refused_119 L p t ((0 + np : Nat) : Int) G = _
      rw [e_l_Mod_refused_119, hP.1, if_neg (by omega), r_coversVertex hV hl hP ho hp t])
    refine h.trans ?_
    unfold clO
    cases anyB 0 np (fun q => !decide (pl q = -1) && (ahO pt q p && ovO pt p t q (pl q))) with
    | true => rfl
    | false => rfl
  have l63 : l_Mod_refused_63 L p t 0 G = rI (if cpO np pt (st (3 * L + 2)) p t = true then 2 else if clO np pt pl p t = true then 3 else if cxO nl sz cd pt p t = true then 4 else 0) G := by
    have step : ∀ k : Nat, k < np → l_Mod_refused_63 L p t k G = if (shO pt (st (3 * L + 2)) k && cvO pt p t (pt k 0) (pt k 1)) = true then rI 2 G else l_Mod_refused_63 L p t ((k + 1 : Nat) : Int) G := by
      intro k hk
      have i1 : (k : Int) < (np : Int) := by omega
      have hk9 := ho.2 k hk
      have f0 : f_Mod_ofPoint (k : Int) 0 G = rI (pt k 0) G := r_ofPoint hP ho.1 hk (q := 0) (by decide)
      have f1 : f_Mod_ofPoint (k : Int) 1 G = rI (pt k 1) G := r_ofPoint hP ho.1 hk (q := 1) (by decide)
      have e := e_l_Mod_refused_63 L p t k G
      simp only [hP.1, if_pos i1, f0, f1, wr_sc hk (Nat.le_trans hn (by decide)), r_isShown hP ho hst hS hL hk, r_covers hP ho hp t hk9.1 hk9.2.1, bI_r, b2i_0] at e
      refine e.trans ?_
      clear e
      cases shO pt (st (3 * L + 2)) k with
      | true =>
        cases cvO pt p t (pt k 0) (pt k 1) with
        | true => rfl
        | false => rfl
      | false => rfl
    have h := loop_any (l := fun (k : Nat) => l_Mod_refused_63 L p t k G) (f := fun q => shO pt (st (3 * L + 2)) q && cvO pt p t (pt q 0) (pt q 1)) (rf := rI (if clO np pt pl p t = true then 3 else if cxO nl sz cd pt p t = true then 4 else 0) G) (rt := rI 2 G) np 0 (fun k _ hk hf => by rw [step k (by omega), if_pos hf]) (fun k _ hk hf => by rw [step k (by omega), hf]; rfl) (by
      show l_Mod_refused_63 L p t ((0 + np : Nat) : Int) G = _
      rw [e_l_Mod_refused_63, hP.1, if_neg (by omega), l119])
    refine h.trans ?_
    unfold cpO
    cases anyB 0 np (fun q => shO pt (st (3 * L + 2)) q && cvO pt p t (pt q 0) (pt q 1)) with
    | true => rfl
    | false => rfl
  have f3 : f_Mod_ofPoint (p : Int) 3 G = rI (pt p 3) G := r_ofPoint hP ho.1 hp (q := 3) (by decide)
  have f4 : f_Mod_ofPoint (p : Int) 4 G = rI (pt p 4) G := r_ofPoint hP ho.1 hp (q := 4) (by decide)
  have a3 : wr (wr (lfO pt p t + pt p 3) - 1) = lfO pt p t + pt p 3 - 1 := by rw [wr_id (z := lfO pt p t + pt p 3) (by omega) (by omega), wr_id (by omega) (by omega)]
  have a4 : wr (wr (lwO pt p t + pt p 4) - 1) = lwO pt p t + pt p 4 - 1 := by rw [wr_id (z := lwO pt p t + pt p 4) (by omega) (by omega), wr_id (by omega) (by omega)]
  have e := e_f_Mod_refused L p t G
  simp only [r_left hP ho hp, r_low hP ho hp, f3, f4, bI_r, a3, a4, l63] at e
  refine e.trans ?_
  clear e a3 a4
  unfold rsL
  by_cases c1 : lfO pt p t < 0
  · rw [if_pos c1, if_pos (Or.inl c1)]
  · rw [if_neg c1]
    by_cases c2 : lwO pt p t < 0
    · rw [if_pos c2, if_pos (Or.inr (Or.inl c2))]
    · rw [if_neg c2]
      by_cases c3 : 63 < lfO pt p t + pt p 3 - 1
      · rw [if_pos c3, if_pos (by omega)]
      · rw [if_neg c3]
        by_cases c4 : 63 < lwO pt p t + pt p 4 - 1
        · rw [if_pos c4, if_pos (by omega)]
        · rw [if_neg c4, if_neg (show ¬(lfO pt p t < 0 ∨ lwO pt p t < 0 ∨ 64 ≤ lfO pt p t + pt p 3 - 1 ∨ 64 ≤ lwO pt p t + pt p 4 - 1) by omega)]
end LABF
