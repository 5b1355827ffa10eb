/-! ===== read: the reference looks at a line ===== -/
def RowQ (G : GG) (l n : Nat) (V : Nat → Int) : Prop := G 30 0 (l : Int) = (n : Int) ∧ ∀ k : Nat, k < n → Vat G (10 * (l : Int) + (k : Int)) (V k)
section SZ9
variable {G : GG} {l n : Nat} {V : Nat → Int}
theorem w_row {l n : Nat} (hl : l < 6) (hn : n ≤ 10) : wr (10 * (l : Int)) = 10 * (l : Int) + ((0 : Nat) : Int) ∧ wr (10 * (l : Int) + ((0 : Nat) : Int) + (n : Int)) = 10 * (l : Int) + (n : Int) ∧ (0 ≤ (l : Int) ∧ (l : Int) < 6) := by
  refine ⟨?_, ?_, by omega⟩
  · rw [wr_id (by omega) (by omega)]
    omega
  · rw [wr_id (by omega) (by omega)]
    omega
theorem code_eq {a b : Int} : (a / 64 = b / 64 ∧ a % 64 = b % 64) ↔ a = b := ⟨fun h => by omega, fun h => by rw [h]; exact ⟨rfl, rfl⟩⟩
theorem r_areSame (h : RowQ G l n V) (hl : l < 6) (hn : 2 ≤ n ∧ n ≤ 10) : f_Mod_areSame l G = rI (b2i (samB n V)) G := by
  obtain ⟨w1, w2, c6⟩ := w_row hl hn.2
  rw [e_f_Mod_areSame, w1]
  have stp : ∀ k : Nat, k + 1 < n → l_Mod_areSame_5 l (10 * (l : Int) + (k : Int)) G = if V k = V (k + 1) then rI 1 G else l_Mod_areSame_5 l (10 * (l : Int) + ((k + 1 : Nat) : Int)) G := fun k hk => by
    have e := e_l_Mod_areSame_5 l (10 * (l : Int) + (k : Int)) G
    obtain ⟨-, -, -, x1, y1⟩ := h.2 k (by omega)
    obtain ⟨-, -, -, x2, y2⟩ := h.2 (k + 1) hk
    have c1 : 10 * (l : Int) + ((k + 1 : Nat) : Int) < 10 * (l : Int) + (n : Int) := by omega
    have c2 : 0 ≤ 10 * (l : Int) + (k : Int) ∧ 10 * (l : Int) + (k : Int) < 60 := by omega
    have c3 : 0 ≤ 10 * (l : Int) + ((k + 1 : Nat) : Int) ∧ 10 * (l : Int) + ((k + 1 : Nat) : Int) < 60 := by omega
    rw [if_pos c6, wk10 hl (show k < 12 by omega), w1, h.1, w2, if_pos c1, if_pos c2, if_pos c3, if_pos c2, if_pos c3, x1, x2, y1, y2] at e
    refine e.trans ?_
    by_cases q1 : V k / 64 = V (k + 1) / 64
    · rw [if_pos q1]
      by_cases q2 : V k % 64 = V (k + 1) % 64
      · rw [if_pos q2, if_pos (code_eq.mp ⟨q1, q2⟩)]
      · rw [if_neg q2, if_neg (fun z => q2 (by rw [z]))]
    · rw [if_neg q1, if_neg (fun z => q1 (by rw [z]))]
  have hh := loop_any (l := fun (k : Nat) => l_Mod_areSame_5 l (10 * (l : Int) + (k : Int)) G) (f := fun k => decide (V k = V (k + 1))) (rf := rI 0 G) (rt := rI 1 G) (n - 1) 0 (fun k _ hk hf => by
    rw [stp k (by omega)]
    exact if_pos (of_decide_eq_true hf)) (fun k _ hk hf => by
    rw [stp k (by omega)]
    exact if_neg (of_decide_eq_false hf)) (by
    have e := e_l_Mod_areSame_5 l (10 * (l : Int) + ((0 + (n - 1) : Nat) : Int)) G
    have c1 : ¬ 10 * (l : Int) + ((0 + (n - 1) + 1 : Nat) : Int) < 10 * (l : Int) + (n : Int) := by omega
    rw [if_pos c6, wk10 hl (show 0 + (n - 1) < 12 by omega), w1, h.1, w2, if_neg c1] at e
    exact e)
  refine hh.trans ?_
  show (bif samB n V then rI 1 G else rI 0 G) = _
  cases samB n V <;> rfl
theorem w_rsL {l k : Nat} (hl : l < 6) (hk : k < 10) : wr (10 * (l : Int) + ((0 : Nat) : Int) + (k : Int)) = 10 * (l : Int) + (k : Int) ∧ wr (10 * (l : Int) + (k : Int) + 2) = 10 * (l : Int) + ((k + 2 : Nat) : Int) := by
  constructor
  · rw [wr_id (by omega) (by omega)]
    omega
  · rw [wr_id (by omega) (by omega)]
    omega
theorem r_sim58 (h : RowQ G l n V) (hl : l < 6) (hn : 2 ≤ n ∧ n ≤ 10) (hd : samB n V = false) {a : Nat} (ha : a + 1 < n) : l_Mod_isSimple_58 l (10 * (l : Int) + ((0 : Nat) : Int)) a ((a + 2 : Nat) : Int) G = bif anyB (a + 2) (n - 1 - (a + 2)) (fun j => mtS (V a) (V (a + 1)) (V j) (V (j + 1))) then rI 0 G else l_Mod_isSimple_7 l (10 * (l : Int) + ((0 : Nat) : Int)) ((a + 1 : Nat) : Int) G := by
  obtain ⟨w1, w2, c6⟩ := w_row hl hn.2
  clear w1 w2
  have hd2 : ∀ i : Nat, i + 1 < n → V i ≠ V (i + 1) := fun i hi => of_decide_eq_false (anyB_false.mp hd i (Nat.zero_le _) (by omega))
  have stp : ∀ j : Nat, j + 1 < n → l_Mod_isSimple_58 l (10 * (l : Int) + ((0 : Nat) : Int)) a (j : Int) G = if b2i (mtS (V a) (V (a + 1)) (V j) (V (j + 1))) = 0 then l_Mod_isSimple_58 l (10 * (l : Int) + ((0 : Nat) : Int)) a ((j + 1 : Nat) : Int) G else rI 0 G := fun j hj => by
    have e := e_l_Mod_isSimple_58 l (10 * (l : Int) + ((0 : Nat) : Int)) a (j : Int) G
    have c1 : ((j + 1 : Nat) : Int) < (n : Int) := by omega
    rw [if_pos c6, w_at1 (show j ≤ 100 by omega), h.1, if_pos c1, (w_rsL hl (show a < 10 by omega)).1, (w_rsL hl (show j < 10 by omega)).1, wk10 hl (show a < 12 by omega), wk10 hl (show j < 12 by omega), r_meet G (h.2 a (by omega)) (h.2 (a + 1) ha) (h.2 j (by omega)) (h.2 (j + 1) hj) (hd2 a ha) (hd2 j hj), bI_r] at e
    exact e
  refine loop_any (l := fun (j : Nat) => l_Mod_isSimple_58 l (10 * (l : Int) + ((0 : Nat) : Int)) a (j : Int) G) (f := fun j => mtS (V a) (V (a + 1)) (V j) (V (j + 1))) (rf := l_Mod_isSimple_7 l (10 * (l : Int) + ((0 : Nat) : Int)) ((a + 1 : Nat) : Int) G) (rt := rI 0 G) (n - 1 - (a + 2)) (a + 2) (fun j _ hj hf => ?_) (fun j _ hj hf => ?_) ?_
  · rw [stp j (by omega), hf, if_neg (by decide)]
  · rw [stp j (by omega), hf]
    exact if_pos rfl
  · have e := e_l_Mod_isSimple_58 l (10 * (l : Int) + ((0 : Nat) : Int)) a ((a + 2 + (n - 1 - (a + 2)) : Nat) : Int) G
    have c1 : ¬ ((a + 2 + (n - 1 - (a + 2)) + 1 : Nat) : Int) < (n : Int) := by omega
    rw [if_pos c6, w_at1 (show a + 2 + (n - 1 - (a + 2)) ≤ 100 by omega), h.1, if_neg c1, w_at1 (show a ≤ 100 by omega)] at e
    exact e
theorem r_simI (h : RowQ G l n V) (hl : l < 6) (hn : 2 ≤ n ∧ n ≤ 10) (hd : samB n V = false) {a : Nat} (ha : a + 1 < n) : l_Mod_isSimple_7 l (10 * (l : Int) + ((0 : Nat) : Int)) (a : Int) G = if twI n V a = true then rI 0 G else l_Mod_isSimple_7 l (10 * (l : Int) + ((0 : Nat) : Int)) ((a + 1 : Nat) : Int) G := by
  obtain ⟨w1, w2, c6⟩ := w_row hl hn.2
  clear w1 w2
  have e := e_l_Mod_isSimple_7 l (10 * (l : Int) + ((0 : Nat) : Int)) (a : Int) G
  have c1 : ((a + 1 : Nat) : Int) < (n : Int) := by omega
  rw [if_pos c6, (w_sim2 (show a < 100 by omega)).1, (w_sim2 (show a < 100 by omega)).2, h.1, if_pos c1, if_pos c6] at e
  unfold twI
  by_cases q2 : a + 2 < n
  · have c4 : ((a + 2 : Nat) : Int) < (n : Int) := by omega
    rw [if_pos c4, (w_rsL hl (show a < 10 by omega)).1, wk10 hl (show a < 12 by omega), (w_rsL hl (show a < 10 by omega)).2, r_fold (h.2 a (by omega)) (h.2 (a + 1) ha) (h.2 (a + 2) q2), bI_r, r_sim58 h hl hn hd ha] at e
    rw [e, decide_eq_true q2, Bool.true_and]
    cases fold (V a) (V (a + 1)) (V (a + 2)) with
    | true => rfl
    | false =>
      rw [Bool.false_or, if_pos (show b2i false = 0 from rfl)]
      cases anyB (a + 2) (n - 1 - (a + 2)) (fun j => mtS (V a) (V (a + 1)) (V j) (V (j + 1))) <;> rfl
  · have c4 : ¬ ((a + 2 : Nat) : Int) < (n : Int) := by omega
    rw [if_neg c4, r_sim58 h hl hn hd ha] at e
    rw [e, decide_eq_false q2, Bool.false_and, Bool.false_or]
    cases anyB (a + 2) (n - 1 - (a + 2)) (fun j => mtS (V a) (V (a + 1)) (V j) (V (j + 1))) <;> rfl
theorem r_isSimpleL (h : RowQ G l n V) (hl : l < 6) (hn : 2 ≤ n ∧ n ≤ 10) (hd : samB n V = false) : f_Mod_isSimple l G = rI (b2i (!twB n V)) G := by
  obtain ⟨w1, w2, c6⟩ := w_row hl hn.2
  rw [e_f_Mod_isSimple, w1]
  have hh := loop_any (l := fun (j : Nat) => l_Mod_isSimple_7 l (10 * (l : Int) + ((0 : Nat) : Int)) (j : Int) G) (f := twI n V) (rf := rI 1 G) (rt := rI 0 G) (n - 1) 0 (fun j _ hj hf => by
    rw [r_simI h hl hn hd (by omega)]
    exact if_pos hf) (fun j _ hj hf => by
    rw [r_simI h hl hn hd (by omega)]
    exact if_neg (by rw [hf]; decide)) (by
    have e := e_l_Mod_isSimple_7 l (10 * (l : Int) + ((0 : Nat) : Int)) ((0 + (n - 1) : Nat) : Int) G
    have c1 : ¬ ((0 + (n - 1) + 1 : Nat) : Int) < (n : Int) := by omega
    rw [if_pos c6, w_at1 (show 0 + (n - 1) ≤ 100 by omega), h.1, if_neg c1] at e
    exact e)
  refine hh.trans ?_
  show (bif twB n V then rI 0 G else rI 1 G) = _
  cases twB n V <;> rfl
end SZ9
