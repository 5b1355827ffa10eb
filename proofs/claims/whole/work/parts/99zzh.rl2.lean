/-! ===== read: the reference looks at the other lines and the points ===== -/
section SA9
variable {G : GG} {l n many : Nat} {V : Nat → Int} {sz : Nat → Nat} {cd : Nat → Nat → Int}
def moO (sz : Nat → Nat) (cd : Nat → Nat → Int) (l n : Nat) (V : Nat → Int) (o : Nat) : Bool := decide (o ≠ l) && anyB 0 (n - 1) fun i => anyB 0 (sz o - 1) fun k => mtS (V i) (V (i + 1)) (cd o k) (cd o (k + 1))
theorem r_mo31 (h : RowQ G l n V) (hl : l < 6) (hn : 2 ≤ n ∧ n ≤ 10) (hd : samB n V = false) {o : Nat} (ho : RowQ G o (sz o) (cd o)) (ho6 : o < 6) (hz : 2 ≤ sz o ∧ sz o ≤ 10) (hod : ∀ k : Nat, k + 1 < sz o → cd o k ≠ cd o (k + 1)) {i : Nat} (hi : i + 1 < n) :
    l_Mod_meetOther_31 l many o i 0 G = bif anyB 0 (sz o - 1) (fun k => mtS (V i) (V (i + 1)) (cd o k) (cd o (k + 1))) then rI 1 G else l_Mod_meetOther_10 l many o ((i + 1 : Nat) : Int) G := by
  have c6 : 0 ≤ (o : Int) ∧ (o : Int) < 6 := by omega
  have hi2 : V i ≠ V (i + 1) := of_decide_eq_false (anyB_false.mp hd i (Nat.zero_le _) (by omega))
  have stp : ∀ k : Nat, k + 1 < sz o → l_Mod_meetOther_31 l many o i (k : Int) G = if b2i (mtS (V i) (V (i + 1)) (cd o k) (cd o (k + 1))) = 0 then l_Mod_meetOther_31 l many o i ((k + 1 : Nat) : Int) G else rI 1 G := fun k hk => by
    have e := e_l_Mod_meetOther_31 l many o i (k : Int) G
    have c1 : ((k + 1 : Nat) : Int) < (sz o : Int) := by omega
    rw [if_pos c6, w_at1 (show k ≤ 100 by omega), ho.1, if_pos c1, wr_10 hl (show i < 10 by omega), wr_10 ho6 (show k < 10 by omega), wk10 hl (show i < 12 by omega), wk10 ho6 (show k < 12 by omega), r_meet G (h.2 i (by omega)) (h.2 (i + 1) hi) (ho.2 k (by omega)) (ho.2 (k + 1) hk) hi2 (hod k hk), bI_r] at e
    exact e
  refine loop_any (l := fun (k : Nat) => l_Mod_meetOther_31 l many o i (k : Int) G) (f := fun k => mtS (V i) (V (i + 1)) (cd o k) (cd o (k + 1))) (rf := l_Mod_meetOther_10 l many o ((i + 1 : Nat) : Int) G) (rt := rI 1 G) (sz o - 1) 0 (fun k _ hk hf => ?_) (fun k _ hk hf => ?_) ?_
  · rw [stp k (by omega), hf, if_neg (by decide)]
  · rw [stp k (by omega), hf]
    exact if_pos rfl
  · have e := e_l_Mod_meetOther_31 l many o i ((0 + (sz o - 1) : Nat) : Int) G
    have c1 : ¬ ((0 + (sz o - 1) + 1 : Nat) : Int) < (sz o : Int) := by omega
    rw [if_pos c6, w_at1 (show 0 + (sz o - 1) ≤ 100 by omega), ho.1, if_neg c1, w_at1 (show i ≤ 100 by omega)] at e
    exact e
theorem r_meetOtherL (h : RowQ G l n V) (hl : l < 6) (hn : 2 ≤ n ∧ n ≤ 10) (hd : samB n V = false) (hm : many ≤ 6) (ho : ∀ o : Nat, o < many → o ≠ l → RowQ G o (sz o) (cd o) ∧ (2 ≤ sz o ∧ sz o ≤ 10) ∧ ∀ k : Nat, k + 1 < sz o → cd o k ≠ cd o (k + 1)) :
    f_Mod_meetOther l many G = rI (b2i (anyB 0 many (moO sz cd l n V))) G := by
  rw [e_f_Mod_meetOther]
  have c6 : 0 ≤ (l : Int) ∧ (l : Int) < 6 := by omega
  have stp : ∀ o : Nat, o < many → l_Mod_meetOther_2 l many (o : Int) G = bif moO sz cd l n V o then rI 1 G else l_Mod_meetOther_2 l many ((o + 1 : Nat) : Int) G := fun o hom => by
    have e := e_l_Mod_meetOther_2 l many (o : Int) G
    have c1 : (o : Int) < (many : Int) := by omega
    rw [if_pos c1] at e
    rw [e]
    unfold moO
    by_cases q : o = l
    · have e2 := e_l_Mod_meetOther_10 l many (o : Int) 0 G
      have q2 : (o : Int) = (l : Int) := by omega
      rw [if_pos q2, w_at1 (show o ≤ 100 by omega)] at e2
      rw [e2, decide_eq_false (fun z => z q)]
      rfl
    · obtain ⟨r1, r2, r3⟩ := ho o hom q
      have q2 : ¬ (o : Int) = (l : Int) := by omega
      rw [decide_eq_true q, Bool.true_and]
      refine loop_any (l := fun (i : Nat) => l_Mod_meetOther_10 l many o (i : Int) G) (f := fun i => anyB 0 (sz o - 1) fun k => mtS (V i) (V (i + 1)) (cd o k) (cd o (k + 1))) (rf := l_Mod_meetOther_2 l many ((o + 1 : Nat) : Int) G) (rt := rI 1 G) (n - 1) 0 (fun i _ hi hf => ?_) (fun i _ hi hf => ?_) ?_
      · have e2 := e_l_Mod_meetOther_10 l many (o : Int) (i : Int) G
        have c2 : ((i + 1 : Nat) : Int) < (n : Int) := by omega
        rw [if_neg q2, if_pos c6, w_at1 (show i ≤ 100 by omega), h.1, if_pos c2, r_mo31 h hl hn hd r1 (by omega) r2 r3 (show i + 1 < n by omega), hf] at e2
        exact e2
      · have e2 := e_l_Mod_meetOther_10 l many (o : Int) (i : Int) G
        have c2 : ((i + 1 : Nat) : Int) < (n : Int) := by omega
        rw [if_neg q2, if_pos c6, w_at1 (show i ≤ 100 by omega), h.1, if_pos c2, r_mo31 h hl hn hd r1 (by omega) r2 r3 (show i + 1 < n by omega), hf] at e2
        exact e2
      · have e2 := e_l_Mod_meetOther_10 l many (o : Int) ((0 + (n - 1) : Nat) : Int) G
        have c2 : ¬ ((0 + (n - 1) + 1 : Nat) : Int) < (n : Int) := by omega
        rw [if_neg q2, if_pos c6, w_at1 (show 0 + (n - 1) ≤ 100 by omega), h.1, if_neg c2, w_at1 (show o ≤ 100 by omega)] at e2
        exact e2
  have hh := loop_any (l := fun (o : Nat) => l_Mod_meetOther_2 l many (o : Int) G) (f := moO sz cd l n V) (rf := rI 0 G) (rt := rI 1 G) many 0 (fun o _ hk hf => by
    rw [stp o (by omega), hf]
    rfl) (fun o _ hk hf => by
    rw [stp o (by omega), hf]
    rfl) (by
    have e := e_l_Mod_meetOther_2 l many ((0 + many : Nat) : Int) G
    have c1 : ¬ ((0 + many : Nat) : Int) < (many : Int) := by omega
    rw [if_neg c1] at e
    exact e)
  refine hh.trans ?_
  cases anyB 0 many (moO sz cd l n V) <;> rfl
variable {np : Nat} {pt : Nat → Nat → Int}
theorem r_hasPointL (h : RowQ G l n V) (hl : l < 6) (hn : 2 ≤ n ∧ n ≤ 10) (hd : samB n V = false) (hP : PtR G np pt) (ho : okPt np pt) : f_Mod_hasPointOn l G = rI (b2i (poB np pt n V)) G := by
  obtain ⟨w1, w2, c6⟩ := w_row hl hn.2
  have h12 := ho.1
  have hd2 : ∀ i : Nat, i + 1 < n → V i ≠ V (i + 1) := fun i hi => of_decide_eq_false (anyB_false.mp hd i (Nat.zero_le _) (by omega))
  rw [e_f_Mod_hasPointOn]
  have stp : ∀ p : Nat, p < np → l_Mod_hasPointOn_2 l (p : Int) G = bif anyB 0 (n - 1) (fun k => onS (V k) (V (k + 1)) (pco pt p)) then rI 1 G else l_Mod_hasPointOn_2 l ((p + 1 : Nat) : Int) G := fun p hp => by
    have e := e_l_Mod_hasPointOn_2 l (p : Int) G
    have c1 : (p : Int) < (np : Int) := by omega
    rw [hP.1, if_pos c1, w1] at e
    rw [e]
    have f0 : f_Mod_ofPoint (p : Int) 0 G = rI (pt p 0) G := r_ofPoint hP h12 hp (q := 0) (by decide)
    have f1 : f_Mod_ofPoint (p : Int) 1 G = rI (pt p 1) G := r_ofPoint hP h12 hp (q := 1) (by decide)
    have b := ho.2 p hp
    have d0 : pt p 0 = pco pt p / 64 := by unfold pco; clear w1 w2 e; omega
    have d1 : pt p 1 = pco pt p % 64 := by unfold pco; clear w1 w2 e; omega
    have stk : ∀ k : Nat, k + 1 < n → l_Mod_hasPointOn_18 l p (10 * (l : Int) + (k : Int)) G = if b2i (onS (V k) (V (k + 1)) (pco pt p)) = 0 then l_Mod_hasPointOn_18 l p (10 * (l : Int) + ((k + 1 : Nat) : Int)) G else rI 1 G := fun k hk => by
      have e := e_l_Mod_hasPointOn_18 l p (10 * (l : Int) + (k : Int)) G
      have c2 : 10 * (l : Int) + ((k + 1 : Nat) : Int) < 10 * (l : Int) + (n : Int) := by clear w1 w2 e; omega
      rw [if_pos c6, wk10 hl (show k < 12 by clear w1 w2 e; omega), w1, h.1, w2, if_pos c2, f0, bI_r, f1, bI_r, d0, d1, r_onSeg G (h.2 k (by clear w1 w2 e; omega)) (h.2 (k + 1) hk) (pco_isC ho hp) (hd2 k hk), bI_r] at e
      exact e
    refine loop_any (l := fun (k : Nat) => l_Mod_hasPointOn_18 l p (10 * (l : Int) + (k : Int)) G) (f := fun k => onS (V k) (V (k + 1)) (pco pt p)) (rf := l_Mod_hasPointOn_2 l ((p + 1 : Nat) : Int) G) (rt := rI 1 G) (n - 1) 0 (fun k _ hk hf => ?_) (fun k _ hk hf => ?_) ?_
    · rw [stk k (by omega), hf, if_neg (by decide)]
    · rw [stk k (by omega), hf]
      exact if_pos rfl
    · have e := e_l_Mod_hasPointOn_18 l p (10 * (l : Int) + ((0 + (n - 1) : Nat) : Int)) G
      have c2 : ¬ 10 * (l : Int) + ((0 + (n - 1) + 1 : Nat) : Int) < 10 * (l : Int) + (n : Int) := by clear w1 w2 e; omega
      rw [if_pos c6, wk10 hl (show 0 + (n - 1) < 12 by clear w1 w2 e; omega), w1, h.1, w2, if_neg c2, w_at1 (show p ≤ 100 by clear w1 w2 e; omega)] at e
      exact e
  have hh := loop_any (l := fun (p : Nat) => l_Mod_hasPointOn_2 l (p : Int) G) (f := fun p => anyB 0 (n - 1) (fun k => onS (V k) (V (k + 1)) (pco pt p))) (rf := rI 0 G) (rt := rI 1 G) np 0 (fun p _ hk hf => by
    rw [stp p (by clear w1 w2; omega), hf]
    rfl) (fun p _ hk hf => by
    rw [stp p (by clear w1 w2; omega), hf]
    rfl) (by
    have e := e_l_Mod_hasPointOn_2 l ((0 + np : Nat) : Int) G
    have c1 : ¬ ((0 + np : Nat) : Int) < (np : Int) := by clear w1 w2; omega
    rw [hP.1, if_neg c1] at e
    exact e)
  refine hh.trans ?_
  have hs : anyB 0 np (fun p => anyB 0 (n - 1) (fun k => onS (V k) (V (k + 1)) (pco pt p))) = poB np pt n V := anyB_swap
  rw [hs]
  cases poB np pt n V <;> rfl
end SA9
