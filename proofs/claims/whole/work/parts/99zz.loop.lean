/-! ===== the law's loop ===== -/
theorem ite_rs {P : RS → Prop} {c : Prop} [Decidable c] {a b : RS} (h1 : P a) (h2 : P b) : P (if c then a else b) := by
  by_cases h : c
  · rw [if_pos h]
    exact h1
  · rw [if_neg h]
    exact h2
theorem Inv.mono {cn cn' : Int} {G : GG} (h : Inv cn G) (hc : cn ≤ cn') : Inv cn' G := by
  obtain ⟨s, c, H, sv, K, tn, tx, er, h1, h2, h3, h4⟩ := h
  exact ⟨s, c, H, sv, K, tn, tx, er, h1, h2, h3, Int.le_trans h4 hc⟩
theorem Lm.kp {G G' : GG} (h : Lm G) (hk : Kp G G') : Lm G' := by
  unfold Lm
  rw [hk 45 0 (by decide) (by decide), hk 45 1 (by decide) (by decide), hk 45 2 (by decide) (by decide), hk 46 0 (by decide) (by decide), hk 46 1 (by decide) (by decide), hk 46 2 (by decide) (by decide)]
  exact h
/-- what the case of read says -/
def RdOk : Prop := ∀ (cn : Int) (x : Nat) (G : GG), Inv cn G → SX x G → Lm G → ∃ G', l_Law_law_2851 x G = l_Law_law_28 (wr ((x : Int) + 7)) G' ∧ Inv (cn + 1) G' ∧ Kp G G'
theorem law_one (hrd : RdOk) {cn : Int} {x : Nat} {G : GG} (hI : Inv cn G) (hx : SX x G) (hT : Lm G) : ∃ G', l_Law_law_28 x G = l_Law_law_28 (wr ((x : Int) + 7)) G' ∧ Inv (cn + 1) G' ∧ Kp G G' := by
  have c1 : ¬ wr (G 47 0 0 - 7) < (x : Int) := by
    obtain ⟨n, h1, h2, h3⟩ := hx
    rw [h1, wr_id (by omega) (by omega)]
    omega
  have c2 : 0 ≤ (x : Int) ∧ (x : Int) < G 47 0 0 := by
    obtain ⟨n, h1, h2, h3⟩ := hx
    rw [h1]
    omega
  have e := e_l_Law_law_28 (x : Int) G
  rw [if_neg c1, if_pos c2] at e
  rw [e]
  refine ite_rs (P := fun L => ∃ G', L = l_Law_law_28 (wr ((x : Int) + 7)) G' ∧ Inv (cn + 1) G' ∧ Kp G G') (lc_236 hI hT) ?_
  refine ite_rs (P := fun L => ∃ G', L = l_Law_law_28 (wr ((x : Int) + 7)) G' ∧ Inv (cn + 1) G' ∧ Kp G G') (lc_249 hI hx) ?_
  refine ite_rs (P := fun L => ∃ G', L = l_Law_law_28 (wr ((x : Int) + 7)) G' ∧ Inv (cn + 1) G' ∧ Kp G G') (lc_367 hI hx) ?_
  refine ite_rs (P := fun L => ∃ G', L = l_Law_law_28 (wr ((x : Int) + 7)) G' ∧ Inv (cn + 1) G' ∧ Kp G G') (lc_423 hI hx) ?_
  refine ite_rs (P := fun L => ∃ G', L = l_Law_law_28 (wr ((x : Int) + 7)) G' ∧ Inv (cn + 1) G' ∧ Kp G G') (lc_479 hI hx) ?_
  refine ite_rs (P := fun L => ∃ G', L = l_Law_law_28 (wr ((x : Int) + 7)) G' ∧ Inv (cn + 1) G' ∧ Kp G G') (lc_547 hI hx) ?_
  refine ite_rs (P := fun L => ∃ G', L = l_Law_law_28 (wr ((x : Int) + 7)) G' ∧ Inv (cn + 1) G' ∧ Kp G G') (lc_651 hI hx) ?_
  refine ite_rs (P := fun L => ∃ G', L = l_Law_law_28 (wr ((x : Int) + 7)) G' ∧ Inv (cn + 1) G' ∧ Kp G G') (lc_719 hI hx) ?_
  refine ite_rs (P := fun L => ∃ G', L = l_Law_law_28 (wr ((x : Int) + 7)) G' ∧ Inv (cn + 1) G' ∧ Kp G G') (lc_760 hI hx hT) ?_
  refine ite_rs (P := fun L => ∃ G', L = l_Law_law_28 (wr ((x : Int) + 7)) G' ∧ Inv (cn + 1) G' ∧ Kp G G') (lc_840 hI hx) ?_
  refine ite_rs (P := fun L => ∃ G', L = l_Law_law_28 (wr ((x : Int) + 7)) G' ∧ Inv (cn + 1) G' ∧ Kp G G') (lc_908 hI hx) ?_
  refine ite_rs (P := fun L => ∃ G', L = l_Law_law_28 (wr ((x : Int) + 7)) G' ∧ Inv (cn + 1) G' ∧ Kp G G') (lc_964 hI hx) ?_
  refine ite_rs (P := fun L => ∃ G', L = l_Law_law_28 (wr ((x : Int) + 7)) G' ∧ Inv (cn + 1) G' ∧ Kp G G') (lc_1032 hI hx) ?_
  refine ite_rs (P := fun L => ∃ G', L = l_Law_law_28 (wr ((x : Int) + 7)) G' ∧ Inv (cn + 1) G' ∧ Kp G G') (lc_1100 hI hx) ?_
  refine ite_rs (P := fun L => ∃ G', L = l_Law_law_28 (wr ((x : Int) + 7)) G' ∧ Inv (cn + 1) G' ∧ Kp G G') (lc_1208 hI hx) ?_
  refine ite_rs (P := fun L => ∃ G', L = l_Law_law_28 (wr ((x : Int) + 7)) G' ∧ Inv (cn + 1) G' ∧ Kp G G') (lc_1276 hI hx) ?_
  refine ite_rs (P := fun L => ∃ G', L = l_Law_law_28 (wr ((x : Int) + 7)) G' ∧ Inv (cn + 1) G' ∧ Kp G G') (lc_1356 hI hx) ?_
  refine ite_rs (P := fun L => ∃ G', L = l_Law_law_28 (wr ((x : Int) + 7)) G' ∧ Inv (cn + 1) G' ∧ Kp G G') (lc_1436 hI hx) ?_
  refine ite_rs (P := fun L => ∃ G', L = l_Law_law_28 (wr ((x : Int) + 7)) G' ∧ Inv (cn + 1) G' ∧ Kp G G') (lc_1504 hI hx) ?_
  refine ite_rs (P := fun L => ∃ G', L = l_Law_law_28 (wr ((x : Int) + 7)) G' ∧ Inv (cn + 1) G' ∧ Kp G G') (lc_1572 hI hx) ?_
  refine ite_rs (P := fun L => ∃ G', L = l_Law_law_28 (wr ((x : Int) + 7)) G' ∧ Inv (cn + 1) G' ∧ Kp G G') (lc_1628 hI hx) ?_
  refine ite_rs (P := fun L => ∃ G', L = l_Law_law_28 (wr ((x : Int) + 7)) G' ∧ Inv (cn + 1) G' ∧ Kp G G') (lc_1708 hI hx) ?_
  refine ite_rs (P := fun L => ∃ G', L = l_Law_law_28 (wr ((x : Int) + 7)) G' ∧ Inv (cn + 1) G' ∧ Kp G G') (lc_1788 hI hx) ?_
  refine ite_rs (P := fun L => ∃ G', L = l_Law_law_28 (wr ((x : Int) + 7)) G' ∧ Inv (cn + 1) G' ∧ Kp G G') (lc_1856 hI hx) ?_
  refine ite_rs (P := fun L => ∃ G', L = l_Law_law_28 (wr ((x : Int) + 7)) G' ∧ Inv (cn + 1) G' ∧ Kp G G') (lc_1936 hI hx) ?_
  refine ite_rs (P := fun L => ∃ G', L = l_Law_law_28 (wr ((x : Int) + 7)) G' ∧ Inv (cn + 1) G' ∧ Kp G G') (lc_2004 hI hx) ?_
  refine ite_rs (P := fun L => ∃ G', L = l_Law_law_28 (wr ((x : Int) + 7)) G' ∧ Inv (cn + 1) G' ∧ Kp G G') (lc_2072 hI hx) ?_
  refine ite_rs (P := fun L => ∃ G', L = l_Law_law_28 (wr ((x : Int) + 7)) G' ∧ Inv (cn + 1) G' ∧ Kp G G') (lc_2140 hI hx) ?_
  refine ite_rs (P := fun L => ∃ G', L = l_Law_law_28 (wr ((x : Int) + 7)) G' ∧ Inv (cn + 1) G' ∧ Kp G G') (lc_2196 hI hx) ?_
  refine ite_rs (P := fun L => ∃ G', L = l_Law_law_28 (wr ((x : Int) + 7)) G' ∧ Inv (cn + 1) G' ∧ Kp G G') (lc_2264 hI hx) ?_
  refine ite_rs (P := fun L => ∃ G', L = l_Law_law_28 (wr ((x : Int) + 7)) G' ∧ Inv (cn + 1) G' ∧ Kp G G') (lc_2320 hI hx) ?_
  refine ite_rs (P := fun L => ∃ G', L = l_Law_law_28 (wr ((x : Int) + 7)) G' ∧ Inv (cn + 1) G' ∧ Kp G G') (lc_2388 hI hx) ?_
  refine ite_rs (P := fun L => ∃ G', L = l_Law_law_28 (wr ((x : Int) + 7)) G' ∧ Inv (cn + 1) G' ∧ Kp G G') (lc_2468 hI hx) ?_
  refine ite_rs (P := fun L => ∃ G', L = l_Law_law_28 (wr ((x : Int) + 7)) G' ∧ Inv (cn + 1) G' ∧ Kp G G') (lc_2524 hI hx) ?_
  refine ite_rs (P := fun L => ∃ G', L = l_Law_law_28 (wr ((x : Int) + 7)) G' ∧ Inv (cn + 1) G' ∧ Kp G G') (lc_2604 hI hx) ?_
  refine ite_rs (P := fun L => ∃ G', L = l_Law_law_28 (wr ((x : Int) + 7)) G' ∧ Inv (cn + 1) G' ∧ Kp G G') (lc_2660 hI hx) ?_
  refine ite_rs (P := fun L => ∃ G', L = l_Law_law_28 (wr ((x : Int) + 7)) G' ∧ Inv (cn + 1) G' ∧ Kp G G') (lc_2737 hI hx) ?_
  refine ite_rs (P := fun L => ∃ G', L = l_Law_law_28 (wr ((x : Int) + 7)) G' ∧ Inv (cn + 1) G' ∧ Kp G G') (lc_2793 hI hx) ?_
  refine ite_rs (P := fun L => ∃ G', L = l_Law_law_28 (wr ((x : Int) + 7)) G' ∧ Inv (cn + 1) G' ∧ Kp G G') (hrd cn x G hI hx hT) ?_
  refine ite_rs (P := fun L => ∃ G', L = l_Law_law_28 (wr ((x : Int) + 7)) G' ∧ Inv (cn + 1) G' ∧ Kp G G') (lc_2895 hI hx) ?_
  refine ite_rs (P := fun L => ∃ G', L = l_Law_law_28 (wr ((x : Int) + 7)) G' ∧ Inv (cn + 1) G' ∧ Kp G G') (lc_2939 hI hx) ?_
  refine ite_rs (P := fun L => ∃ G', L = l_Law_law_28 (wr ((x : Int) + 7)) G' ∧ Inv (cn + 1) G' ∧ Kp G G') (lc_3019 hI hx) ?_
  refine ite_rs (P := fun L => ∃ G', L = l_Law_law_28 (wr ((x : Int) + 7)) G' ∧ Inv (cn + 1) G' ∧ Kp G G') (lc_3063 hI) ?_
  refine ite_rs (P := fun L => ∃ G', L = l_Law_law_28 (wr ((x : Int) + 7)) G' ∧ Inv (cn + 1) G' ∧ Kp G G') (lc_3076 hI hx) ?_
  exact ⟨G, rfl, hI.mono (by omega), fun t k _ _ => rfl⟩
theorem law_all (hrd : RdOk) : ∀ (m : Nat) (x : Nat) (cn : Int) (G : GG) (n : Nat), Inv cn G → Lm G → G 47 0 0 = (n : Int) → n ≤ 3584 → n < x + 7 * (m + 1) → x ≤ 3584 → ∃ G', l_Law_law_28 x G = rI 1 G' ∧ Inv (cn + m) G' ∧ Kp G G'
  | m, x, cn, G, n, hI, hT, hn, h5, h6, h7 => by
    by_cases hx : n < x + 7
    · refine ⟨G, ?_, hI.mono (by omega), fun t k _ _ => rfl⟩
      have c1 : wr (G 47 0 0 - 7) < (x : Int) := by
        rw [hn, wr_id (by omega) (by omega)]
        omega
      rw [e_l_Law_law_28, if_pos c1]
    · have hs : SX x G := ⟨n, hn, h5, by omega⟩
      obtain ⟨G1, e1, hI1, hk1⟩ := law_one hrd hI hs hT
      have ew : wr ((x : Int) + 7) = ((x + 7 : Nat) : Int) := by
        rw [wr_id (by omega) (by omega)]
        omega
      match m, h6 with
      | 0, h6 => exact absurd h6 (by omega)
      | m + 1, h6 =>
        obtain ⟨G2, e2, hI2, hk2⟩ := law_all hrd m (x + 7) (cn + 1) G1 n hI1 (hT.kp hk1) ((hk1 47 0 (by decide) (by decide)).trans hn) h5 (by omega) (by omega)
        refine ⟨G2, ?_, hI2.mono (by omega), hk1.trans hk2⟩
        rw [e1, ew]
        exact e2
