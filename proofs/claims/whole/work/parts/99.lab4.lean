/-! ===== labels: the reason against a place, class ===== -/
def rsL (np : Nat) (pt : Nat → Nat → Int) (lr : Int) (nl : Nat) (sz : Nat → Nat) (cd : Nat → Nat → Int) (pl : Nat → Int) (p : Nat) (t : Int) : Int :=
  if lfO pt p t < 0 ∨ lwO pt p t < 0 ∨ 64 ≤ lfO pt p t + pt p 3 - 1 ∨ 64 ≤ lwO pt p t + pt p 4 - 1 then 1 else if cpO np pt lr p t = true then 2 else if clO np pt pl p t = true then 3 else if cxO nl sz cd pt p t = true then 4 else 0
def PlC (G : GG) (i : Int) (np : Nat) (pl : Nat → Int) : Prop := ∀ q : Nat, q < np → G 20 i q = pl q
def okPl (np : Nat) (pt : Nat → Nat → Int) (lr : Int) (pl : Nat → Int) : Prop := ∀ q : Nat, q < np → (-1 ≤ pl q ∧ pl q ≤ 3) ∧ (pl q ≠ -1 → shO pt lr q = true)
section LABG
variable {np : Nat} {pt : Nat → Nat → Int} {nl : Nat} {sz : Nat → Nat} {cd : Nat → Nat → Int} {pl : Nat → Int} {lr : Int} {G : GG}
theorem g_clash {i : Int} (hP : PtC G 0 np pt) (ho : okPt np pt) (hp2 : PlC G i np pl) (hpl : okPl np pt lr pl) (hL : LnC G (lix i) nl sz cd) (hl : okLn nl sz cd) {p : Nat} (hp : p < np) (t : Int) :
    l_Lab_reasonAgainst_96 i p (lfO pt p t) (lwO pt p t) (lfO pt p t + pt p 3 - 1) (lwO pt p t + pt p 4 - 1) 0 G = rI (if clO np pt pl p t = true then 3 else if cxO nl sz cd pt p t = true then 4 else 0) G := by
  have hn := ho.1
  have ov : ∀ q : Nat, q < np → pl q ≠ -1 → f_Lab_overlaps i q (lfO pt p t) (lwO pt p t) (lfO pt p t + pt p 3 - 1) (lwO pt p t + pt p 4 - 1) G = rI (b2i (ovO pt p t q (pl q))) G := by
    intro q hq hne
    rw [g_overlaps hP ho hq (by have := (hpl q hq).1; omega) (hp2 q hq)]
    have e9 : decide (lfO pt q (pl q) ≤ lfO pt p t + pt p 3 - 1 ∧ lfO pt p t < lfO pt q (pl q) + pt q 3 ∧ lwO pt q (pl q) ≤ lwO pt p t + pt p 4 - 1 ∧ lwO pt p t < lwO pt q (pl q) + pt q 4) = ovO pt p t q (pl q) := by
      unfold ovO
      exact decide_eq_decide.mpr (by omega)
    rw [e9]
  have step : ∀ k : Nat, k < np → l_Lab_reasonAgainst_96 i p (lfO pt p t) (lwO pt p t) (lfO pt p t + pt p 3 - 1) (lwO pt p t + pt p 4 - 1) k G = if (!decide (pl k = -1) && (ahO pt k p && ovO pt p t k (pl k))) = true then rI 3 G else l_Lab_reasonAgainst_96 i p (lfO pt p t) (lwO pt p t) (lfO pt p t + pt p 3 - 1) (lwO pt p t + pt p 4 - 1) ((k + 1 : Nat) : Int) G := by
    intro k hk
    have i1 : (k : Int) < (np : Int) := by omega
    have i2 : (0 : Int) ≤ (k : Int) ∧ (k : Int) < 12 := by omega
    have e := e_l_Lab_reasonAgainst_96 i p (lfO pt p t) (lwO pt p t) (lfO pt p t + pt p 3 - 1) (lwO pt p t + pt p 4 - 1) k G
    simp only [hP.1, if_pos i1, if_pos i2, hp2 k hk, wr_sc hk (Nat.le_trans hn (by decide)), g_isBefore hP ho hk hp, bI_r, b2i_0] at e
    refine e.trans ?_
    clear e
    by_cases q1 : pl k = -1
    · rw [if_pos q1, decide_eq_true q1]
      rfl
    · rw [if_neg q1, decide_eq_false q1, ov k hk q1]
      simp only [bI_r, b2i_0]
      cases ahO pt k p with
      | true =>
        cases ovO pt p t k (pl k) with
        | true => rfl
        | false => rfl
      | false => rfl
  have h := loop_any (l := fun (k : Nat) => l_Lab_reasonAgainst_96 i p (lfO pt p t) (lwO pt p t) (lfO pt p t + pt p 3 - 1) (lwO pt p t + pt p 4 - 1) k G) (f := fun q => !decide (pl q = -1) && (ahO pt q p && ovO pt p t q (pl q))) (rf := rI (if cxO nl sz cd pt p t = true then 4 else 0) G) (rt := rI 3 G) np 0 (fun k _ hk hf => by rw [step k (by omega), if_pos hf]) (fun k _ hk hf => by rw [step k (by omega), hf]; rfl) (by
    show l_Lab_reasonAgainst_96 i p (lfO pt p t) (lwO pt p t) (lfO pt p t + pt p 3 - 1) (lwO pt p t + pt p 4 - 1) ((0 + np : Nat) : Int) G = _
    rw [e_l_Lab_reasonAgainst_96, hP.1, if_neg (by omega), g_coversVertex hL hl ho hp t]
    simp only [bI_r, b2i_0]
    cases cxO nl sz cd pt p t with
    | true => rfl
    | false => rfl)
  refine h.trans ?_
  unfold clO
  cases anyB 0 np (fun q => !decide (pl q = -1) && (ahO pt q p && ovO pt p t q (pl q))) with
  | true => rfl
  | false => rfl
theorem g_reason {i : Int} (hP : PtC G 0 np pt) (ho : okPt np pt) (hlr : G 19 i 3 = lr) (hp2 : PlC G i np pl) (hpl : okPl np pt lr pl) (hL : LnC G (lix i) nl sz cd) (hl : okLn nl sz cd) {p : Nat} (hp : p < np) {t : Int} (ht : 0 ≤ t) :
    f_Lab_reasonAgainst i p t G = rI (rsL np pt lr nl sz cd pl p t) G := by
  obtain ⟨h1, h2, h3, h4, h5, h6⟩ := ho.2 p hp
  have b1 := lf_bd ho hp t
  have b2 := lw_bd ho hp t
  have f3 : f_Poi_valueOf 0 (p : Int) 3 G = rI (pt p 3) G := g_valueOf hP ho.1 hp (q := 3) (by decide)
  have f4 : f_Poi_valueOf 0 (p : Int) 4 G = rI (pt p 4) G := g_valueOf hP ho.1 hp (q := 4) (by decide)
  have a3 : wr (wr (lfO pt p t + pt p 3) - 1) = lfO pt p t + pt p 3 - 1 := by rw [wr_id (z := lfO pt p t + pt p 3) (by omega) (by omega), wr_id (by omega) (by omega)]
  have a4 : wr (wr (lwO pt p t + pt p 4) - 1) = lwO pt p t + pt p 4 - 1 := by rw [wr_id (z := lwO pt p t + pt p 4) (by omega) (by omega), wr_id (by omega) (by omega)]
  have e := e_f_Lab_reasonAgainst i p t G
  simp only [g_leftOf hP ho hp, g_lowOf hP ho hp ht, f3, f4, bI_r, a3, a4, g_coversPoint hP ho hlr hp, g_clash hP ho hp2 hpl hL hl hp, b2i_0] at e
  refine e.trans ?_
  clear e a3 a4
  unfold rsL
  by_cases c1 : lfO pt p t < 0
  · rw [if_pos c1, if_pos (Or.inl c1)]
  · rw [if_neg c1]
    by_cases c2 : lwO pt p t < 0
    · rw [if_pos c2, if_pos (Or.inr (Or.inl c2))]
    · rw [if_neg c2]
      by_cases c3 : lfO pt p t + pt p 3 - 1 < 64
      · rw [if_pos c3]
        by_cases c4 : lwO pt p t + pt p 4 - 1 < 64
        · rw [if_pos c4, if_neg (show ¬(lfO pt p t < 0 ∨ lwO pt p t < 0 ∨ 64 ≤ lfO pt p t + pt p 3 - 1 ∨ 64 ≤ lwO pt p t + pt p 4 - 1) by omega)]
          cases cpO np pt lr p t with
          | true => rfl
          | false => rfl
        · rw [if_neg c4, if_pos (by omega)]
      · rw [if_neg c3, if_pos (by omega)]
end LABG
