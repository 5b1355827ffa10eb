/-! ===== labels of a level: what is right for the points that are done ===== -/
def PLk (np : Nat) (pt : Nat → Nat → Int) (lr : Int) (nl : Nat) (sz : Nat → Nat) (cd : Nat → Nat → Int) (D : Nat → Prop) (pl : Nat → Int) : Prop :=
  ∀ q : Nat, q < np → (D q → pl q = ffO (rsL np pt lr nl sz cd pl q) (pt q 5).toNat 0 4) ∧ (¬D q → pl q = -1)
def updP (pl : Nat → Int) (p : Nat) (v : Int) : Nat → Int := fun q => if q = p then v else pl q
def kyO (pt : Nat → Nat → Int) (p : Nat) : Int := (9 - pt p 2) * 12 + (p : Int)
theorem ffO_bd (r : Int → Int) (d : Nat) : ∀ n k : Nat, -1 ≤ ffO r d k n ∧ ffO r d k n ≤ 3
  | 0, k => by show (-1 : Int) ≤ -1 ∧ (-1 : Int) ≤ 3; decide
  | n + 1, k => by
    rw [ffO_s]
    have h := ffO_bd r d n (k + 1)
    split <;> omega
section LABK
variable {np : Nat} {pt : Nat → Nat → Int} {nl : Nat} {sz : Nat → Nat} {cd : Nat → Nat → Int} {lr : Int} {D : Nat → Prop} {pl pl' : Nat → Int}
theorem rsL_congr {p : Nat} (h : ∀ q : Nat, q < np → ahO pt q p = true → pl q = pl' q) : rsL np pt lr nl sz cd pl p = rsL np pt lr nl sz cd pl' p := by
  funext t
  have e : clO np pt pl p t = clO np pt pl' p t := by
    unfold clO
    refine anyB_congr np 0 (fun k _ hk => ?_)
    cases ha : ahO pt k p with
    | false => simp only [Bool.false_and, Bool.and_false]
    | true => rw [h k (by omega) ha]
  unfold rsL
  rw [e]
theorem ah_ky (ho : okPt np pt) {p q : Nat} (hp : p < np) (hq : q < np) (h : ahO pt p q = true) : kyO pt p < kyO pt q := by
  have h1 := ho.1
  have h2 := (ho.2 p hp).2.2.1
  have h3 := (ho.2 q hq).2.2.1
  have h4 := of_decide_eq_true h
  unfold kyO
  omega
theorem PLk_uniq (ho : okPt np pt) (h : PLk np pt lr nl sz cd D pl) (h' : PLk np pt lr nl sz cd D pl') : ∀ (n q : Nat), q < np → kyO pt q < (n : Int) → pl q = pl' q
  | 0, q, hq, hk => by
    have h3 := (ho.2 q hq).2.2.1
    unfold kyO at hk
    omega
  | n + 1, q, hq, hk => by
    by_cases hD : D q
    · rw [(h q hq).1 hD, (h' q hq).1 hD, rsL_congr (pl := pl) (pl' := pl') (p := q) (fun k hk1 hk2 => PLk_uniq ho h h' n k hk1 (by have := ah_ky ho hk1 hq hk2; omega))]
    · rw [(h q hq).2 hD, (h' q hq).2 hD]
theorem PLk.iff {D' : Nat → Prop} (h : PLk np pt lr nl sz cd D pl) (hD : ∀ q : Nat, q < np → (D q ↔ D' q)) : PLk np pt lr nl sz cd D' pl := fun q hq => ⟨fun z => (h q hq).1 ((hD q hq).2 z), fun z => (h q hq).2 (fun y => z ((hD q hq).1 y))⟩
theorem PLk.step (h : PLk np pt lr nl sz cd D pl) {p : Nat} (hp : p < np) (hD : ∀ q : Nat, q < np → D q → ahO pt p q = false) : PLk np pt lr nl sz cd (fun q => D q ∨ q = p) (updP pl p (ffO (rsL np pt lr nl sz cd pl p) (pt p 5).toNat 0 4)) := by
  have hpp : ahO pt p p = false := decide_eq_false (by omega)
  have hc : ∀ q : Nat, ahO pt p q = false → rsL np pt lr nl sz cd (updP pl p (ffO (rsL np pt lr nl sz cd pl p) (pt p 5).toNat 0 4)) q = rsL np pt lr nl sz cd pl q := fun q hq => rsL_congr (fun k hk1 hk2 => by
    unfold updP
    rw [if_neg (fun z => by rw [z, hq] at hk2; cases hk2)])
  intro q hq
  by_cases hqp : q = p
  · rw [hqp]
    refine ⟨fun _ => ?_, fun z => absurd (Or.inr rfl) z⟩
    rw [hc p hpp]
    unfold updP
    rw [if_pos rfl]
  · refine ⟨fun z => ?_, fun z => ?_⟩
    · have hd := z.resolve_right hqp
      rw [hc q (hD q hq hd), ← (h q hq).1 hd]
      unfold updP
      rw [if_neg hqp]
    · unfold updP
      rw [if_neg hqp]
      exact (h q hq).2 (fun y => z (Or.inl y))
theorem PLk.ok (h : PLk np pt lr nl sz cd D pl) (hD : ∀ q : Nat, q < np → D q → shO pt lr q = true) : okPl np pt lr pl := fun q hq => by
  refine ⟨?_, fun z => Classical.byContradiction fun y => z ((h q hq).2 (fun x => y (hD q hq x)))⟩
  by_cases hd : D q
  · rw [(h q hq).1 hd]
    exact ffO_bd _ _ _ _
  · rw [(h q hq).2 hd]
    decide
end LABK
/-! ===== labels of a level: the class ===== -/
def FPl (i : Int) (t : Nat) (j : Int) : Prop := j = i ∧ (t = 19 ∨ t = 20)
section LABP
variable {np : Nat} {pt : Nat → Nat → Int} {nl : Nat} {sz : Nat → Nat} {cd : Nat → Nat → Int} {lr : Int}
theorem PtC.fr {G G' : GG} {i : Int} {np : Nat} {pt : Nat → Nat → Int} (h : PtC G i np pt) (h1 : G' 5 i 1 = G 5 i 1) (h2 : ∀ k, G' 6 i k = G 6 i k) : PtC G' i np pt := ⟨h1.trans h.1, fun p hp j hj => (h2 _).trans (h.2 p hp j hj)⟩
theorem g_firstFree {pl : Nat → Int} {G : GG} {i : Int} (hP : PtC G 0 np pt) (ho : okPt np pt) (hlr : G 19 i 3 = lr) (hp2 : PlC G i np pl) (hpl : okPl np pt lr pl) (hL : LnC G (lix i) nl sz cd) (hl : okLn nl sz cd) {p : Nat} (hp : p < np) :
    f_Lab_firstFree i p G = rI (ffO (rsL np pt lr nl sz cd pl p) (pt p 5).toNat 0 4) G := by
  have h5 := (ho.2 p hp).2.2.2.2.2
  have f5 : f_Poi_valueOf 0 (p : Int) 5 G = rI (pt p 5) G := g_valueOf hP ho.1 hp (q := 5) (by decide)
  obtain ⟨d, hd⟩ : ∃ d : Nat, pt p 5 = (d : Int) := ⟨(pt p 5).toNat, by omega⟩
  rw [e_f_Lab_firstFree, f5]
  simp only [bI_r]
  rw [hd, Int.toNat_natCast]
  exact g_ff hP ho hlr hp2 hpl hL hl hp (by omega) 4 0 rfl
/-- one rank -/
theorem g_rank {i R : Int} (ho : okPt np pt) (hl : okLn nl sz cd) (hR : lr ≤ R ∧ R ≤ 9 ∧ 0 ≤ lr) {G : GG} (hP : PtC G 0 np pt) (hL : LnC G (lix i) nl sz cd) (hlr : G 19 i 3 = lr) {pl : Nat → Int} (hp2 : PlC G i np pl) (hk : PLk np pt lr nl sz cd (fun q => lr ≤ pt q 2 ∧ R < pt q 2) pl) :
    ∃ G', l_Lab_placeAll_23 i lr R 0 G = l_Lab_placeAll_16 i lr (R - 1) G' ∧ (∃ pl', PlC G' i np pl' ∧ PLk np pt lr nl sz cd (fun q => lr ≤ pt q 2 ∧ R - 1 < pt q 2) pl') ∧ Fr (fun t j => j = i ∧ t = 20) G G' := by
  have hn := ho.1
  refine loop_inv (l := fun (k : Nat) G1 => l_Lab_placeAll_23 i lr R k G1) (I := fun k G1 => (∃ pl', PlC G1 i np pl' ∧ PLk np pt lr nl sz cd (fun q => lr ≤ pt q 2 ∧ (R < pt q 2 ∨ (pt q 2 = R ∧ q < k))) pl') ∧ Fr (fun t j => j = i ∧ t = 20) G G1)
    (P := fun r => ∃ G', r = l_Lab_placeAll_16 i lr (R - 1) G' ∧ (∃ pl', PlC G' i np pl' ∧ PLk np pt lr nl sz cd (fun q => lr ≤ pt q 2 ∧ R - 1 < pt q 2) pl') ∧ Fr (fun t j => j = i ∧ t = 20) G G') np 0 G (fun k G1 _ hk hI => ?_) (fun G1 hI => ?_) ⟨⟨pl, hp2, hk.iff (fun q hq => by omega)⟩, Fr.refl G⟩
  · obtain ⟨⟨pl1, hpc, hplk⟩, hF⟩ := hI
    have hk2 : k < np := by omega
    have hP1 : PtC G1 0 np pt := hP.fr (hF 5 0 1 (fun z => absurd z.2 (by decide))) (fun k => hF 6 0 k (fun z => absurd z.2 (by decide)))
    have hL1 : LnC G1 (lix i) nl sz cd := hL.fr (hF 2 _ _ (fun z => absurd z.2 (by decide))) (fun k => hF 3 _ k (fun z => absurd z.2 (by decide))) (fun k => hF 4 _ k (fun z => absurd z.2 (by decide)))
    have h19 : G1 19 i 3 = lr := (hF 19 i 3 (fun z => absurd z.2 (by decide))).trans hlr
    have hok : okPl np pt lr pl1 := hplk.ok (fun q hq z => decide_eq_true z.1)
    have f2 : f_Poi_valueOf 0 (k : Int) 2 G1 = rI (pt k 2) G1 := g_valueOf hP1 ho.1 hk2 (q := 2) (by decide)
    have e := e_l_Lab_placeAll_23 i lr R k G1
    have i1 : (k : Int) < (np : Int) := by omega
    have i2 : (0 : Int) ≤ (k : Int) ∧ (k : Int) < 12 := by omega
    simp only [hP1.1, if_pos i1, f2, bI_r, g_firstFree hP1 ho h19 hpc hok hL1 hl hk2, if_pos i2, wr_sc hk2 (Nat.le_trans hn (by decide))] at e
    by_cases q1 : pt k 2 = R
    · rw [if_pos q1] at e
      refine ⟨_, e, ⟨updP pl1 k (ffO (rsL np pt lr nl sz cd pl1 k) (pt k 5).toNat 0 4), fun q hq => ?_, (hplk.step hk2 (fun q hq z => decide_eq_false (by omega))).iff (fun q hq => ?_)⟩, hF.trans (Fr.up _ _ _ ⟨rfl, rfl⟩)⟩
      · unfold updP
        by_cases q2 : q = k
        · rw [q2, if_pos rfl, up_at]
        · rw [if_neg q2, up_k (by omega)]
          exact hpc q hq
      · by_cases q2 : q = k
        · subst q2
          omega
        · omega
    · rw [if_neg q1] at e
      refine ⟨_, e, ⟨pl1, hpc, hplk.iff (fun q hq => ?_)⟩, hF⟩
      by_cases q2 : q = k
      · subst q2
        omega
      · omega
  · obtain ⟨⟨pl1, hpc, hplk⟩, hF⟩ := hI
    have e := e_l_Lab_placeAll_23 i lr R ((0 + np : Nat) : Int) G1
    have hP1 : PtC G1 0 np pt := hP.fr (hF 5 0 1 (fun z => absurd z.2 (by decide))) (fun k => hF 6 0 k (fun z => absurd z.2 (by decide)))
    rw [hP1.1, if_neg (by omega), wr_id (z := R + (-1)) (by omega) (by omega)] at e
    exact ⟨G1, e, ⟨pl1, hpc, hplk.iff (fun q hq => by omega)⟩, hF⟩
theorem g_ranks {i : Int} (ho : okPt np pt) (hl : okLn nl sz cd) (h0 : 0 ≤ lr) : ∀ (n : Nat) (R : Int) (G : GG) (pl : Nat → Int), R + 1 = lr + (n : Int) → R ≤ 9 → PtC G 0 np pt → LnC G (lix i) nl sz cd → G 19 i 3 = lr → PlC G i np pl → PLk np pt lr nl sz cd (fun q => lr ≤ pt q 2 ∧ R < pt q 2) pl →
    ∃ G', l_Lab_placeAll_16 i lr R G = rV G' ∧ (∃ pl', PlC G' i np pl' ∧ PLk np pt lr nl sz cd (fun q => shO pt lr q = true) pl') ∧ Fr (fun t j => j = i ∧ t = 20) G G'
  | 0, R, G, pl, hR, hR9, hP, hL, hlr, hp2, hk => by
    rw [e_l_Lab_placeAll_16, if_pos (by omega)]
    refine ⟨G, rfl, ⟨pl, hp2, hk.iff (fun q hq => ?_)⟩, Fr.refl G⟩
    unfold shO
    rw [decide_eq_true_iff]
    omega
  | n + 1, R, G, pl, hR, hR9, hP, hL, hlr, hp2, hk => by
    rw [e_l_Lab_placeAll_16, if_neg (by omega)]
    obtain ⟨G1, e1, ⟨pl1, hpc, hk1⟩, hF⟩ := g_rank ho hl (by omega) hP hL hlr hp2 hk
    have hP1 : PtC G1 0 np pt := hP.fr (hF 5 0 1 (fun z => absurd z.2 (by decide))) (fun k => hF 6 0 k (fun z => absurd z.2 (by decide)))
    have hL1 : LnC G1 (lix i) nl sz cd := hL.fr (hF 2 _ _ (fun z => absurd z.2 (by decide))) (fun k => hF 3 _ k (fun z => absurd z.2 (by decide))) (fun k => hF 4 _ k (fun z => absurd z.2 (by decide)))
    have h19 : G1 19 i 3 = lr := (hF 19 i 3 (fun z => absurd z.2 (by decide))).trans hlr
    obtain ⟨G2, e2, h2, hF2⟩ := g_ranks ho hl h0 n (R - 1) G1 pl1 (by omega) (by omega) hP1 hL1 h19 hpc hk1
    exact ⟨G2, e1.trans e2, h2, hF.trans hF2⟩
theorem g_fillP {i : Int} (G : GG) : ∃ G', f_Arr_fill_PLA i (-1) G = rV G' ∧ (∀ q : Nat, q < 12 → G' 20 i q = -1) ∧ Fr (fun t j => j = i ∧ t = 20) G G' := by
  rw [e_f_Arr_fill_PLA]
  refine loop_inv (l := fun (k : Nat) G1 => l_Arr_fill_PLA_5 i (-1) k 12 G1) (I := fun k G1 => (∀ q : Nat, q < k → G1 20 i q = -1) ∧ Fr (fun t j => j = i ∧ t = 20) G G1) (P := fun r => ∃ G', r = rV G' ∧ (∀ q : Nat, q < 12 → G' 20 i q = -1) ∧ Fr (fun t j => j = i ∧ t = 20) G G') 12 0 G (fun k G1 _ hk hI => ?_) (fun G1 hI => ?_) ⟨fun q hq => absurd hq (by omega), Fr.refl G⟩
  · have e := e_l_Arr_fill_PLA_5 i (-1) k 12 G1
    rw [if_pos (by omega), if_pos (by omega), wr_sc (show k < 12 by omega) (by decide)] at e
    refine ⟨_, e, fun q hq => ?_, hI.2.trans (Fr.up _ _ _ ⟨rfl, rfl⟩)⟩
    by_cases q2 : q = k
    · rw [q2, up_at]
    · rw [up_k (by omega)]
      exact hI.1 q (by omega)
  · have e := e_l_Arr_fill_PLA_5 i (-1) ((0 + 12 : Nat) : Int) 12 G1
    rw [if_neg (by decide)] at e
    exact ⟨G1, e, fun q hq => hI.1 q (by omega), hI.2⟩
theorem g_placeAll {i : Int} (ho : okPt np pt) (hl : okLn nl sz cd) (h0 : 0 ≤ lr ∧ lr ≤ 9) {G : GG} (hP : PtC G 0 np pt) (hL : LnC G (lix i) nl sz cd) :
    ∃ G', f_Lab_placeAll i lr G = rV G' ∧ (∃ pl, PlC G' i np pl ∧ PLk np pt lr nl sz cd (fun q => shO pt lr q = true) pl) ∧ G' 19 i 3 = lr ∧ Fr (FPl i) G G' := by
  have e := e_f_Lab_placeAll i lr G
  obtain ⟨G1, e1, h1, f1⟩ := g_fillP (i := i) (up G 19 i 3 lr)
  rw [e1] at e
  simp only [bV_r] at e
  have hn := ho.1
  have f2 : Fr (FPl i) G G1 := (Fr.up (P := FPl i) G 3 lr ⟨rfl, Or.inl rfl⟩).trans (f1.mono (fun t j z => ⟨z.1, Or.inr z.2⟩))
  have hP1 : PtC G1 0 np pt := hP.fr (f2 5 0 1 (fun z => absurd z.2 (by decide))) (fun k => f2 6 0 k (fun z => absurd z.2 (by decide)))
  have hL1 : LnC G1 (lix i) nl sz cd := hL.fr (f2 2 _ _ (fun z => absurd z.2 (by decide))) (fun k => f2 3 _ k (fun z => absurd z.2 (by decide))) (fun k => f2 4 _ k (fun z => absurd z.2 (by decide)))
  have h19 : G1 19 i 3 = lr := (f1 19 i 3 (fun z => absurd z.2 (by decide))).trans (up_at _ _ _ _ _)
  obtain ⟨G2, e2, h2, f3⟩ := g_ranks ho hl h0.1 (10 - lr).toNat 9 G1 (fun _ => -1) (by omega) (by omega) hP1 hL1 h19 (fun q hq => h1 q (by omega)) (fun q hq => ⟨fun z => absurd z.2 (by have := (ho.2 q hq).2.2.1; omega), fun _ => rfl⟩)
  exact ⟨G2, e.trans e2, h2, (f3 19 i 3 (fun z => absurd z.2 (by decide))).trans h19, f2.trans (f3.mono (fun t j z => ⟨z.1, Or.inr z.2⟩))⟩
end LABP
