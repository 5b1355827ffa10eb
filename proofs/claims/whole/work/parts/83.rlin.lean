/-! ===== lines, the reference: the lines that are looked at ===== -/
def LnV (G : GG) (nl : Nat) (sz : Nat → Nat) (cd : Nat → Nat → Int) (mk : Nat → Nat → Nat) : Prop := G 26 0 0 = nl ∧ ∀ l : Nat, l < nl → G 30 0 l = sz l ∧ ∀ k : Nat, k < sz l → G 31 0 (10 * (l : Int) + (k : Int)) = cd l k / 64 ∧ G 32 0 (10 * (l : Int) + (k : Int)) = cd l k % 64 ∧ G 33 0 (10 * (l : Int) + (k : Int)) = mk l k
section RLIN
variable {nl : Nat} {sz : Nat → Nat} {cd : Nat → Nat → Int} {mk : Nat → Nat → Nat} {G : GG}
theorem LnV.vat (h : LnV G nl sz cd mk) (ho : okLn nl sz cd) {z : Int} {l k : Nat} (hl : l < nl) (hk : k < sz l) (hz : z = 10 * (l : Int) + (k : Int)) : Vat G z (cd l k) := by
  have h6 := ho.1
  obtain ⟨h10, hc, -⟩ := ho.2 l hl
  obtain ⟨h1, h2, -⟩ := (h.2 l hl).2 k hk
  exact ⟨by omega, by omega, hc k hk, by rw [hz]; exact h1, by rw [hz]; exact h2⟩
theorem w10 {l k : Nat} (hl : l < 6) (hk : k < 20) : wr (wr (10 * (l : Int)) + (k : Int)) = 10 * (l : Int) + k ∧ wr (10 * (l : Int) + k - 1) = 10 * (l : Int) + k - 1 ∧ wr (10 * (l : Int) + k + 1) = 10 * (l : Int) + k + 1 := by
  rw [wr_id (z := 10 * (l : Int)) (by omega) (by omega)]
  exact ⟨wr_id (by omega) (by omega), wr_id (by omega) (by omega), wr_id (by omega) (by omega)⟩
theorem mAbs_id {x : Int} (h1 : -2147483648 < x) (h2 : x < 2147483648) : mAbs x = if x < 0 then -x else x := by
  unfold mAbs
  by_cases h : x < 0
  · rw [if_pos h, if_neg (by omega), wr_id (by omega) (by omega)]
    omega
  · rw [if_neg h, if_pos (by omega)]
theorem r_wt (h : LnV G nl sz cd mk) (ho : okLn nl sz cd) {l k : Nat} (hl : l < nl) (hk : k < sz l) : f_Mod_weightOf l k G = rI (if k = 0 ∨ sz l ≤ k + 1 then -1 else wt cd l k) G := by
  have h6 := ho.1
  obtain ⟨h10, hc, -⟩ := ho.2 l hl
  have hs := (h.2 l hl).1
  obtain ⟨w1, w2, w3⟩ := w10 (l := l) (k := k) (by omega) (by omega)
  rw [e_f_Mod_weightOf, hs]
  simp only [w1, w2, w3]
  rw [wr_id (z := (sz l : Int) - 1) (by omega) (by omega)]
  by_cases h1 : (k : Int) = 0
  · rw [if_pos h1, if_pos (by omega)]
  · rw [if_neg h1, if_pos (by omega)]
    by_cases h2 : (k : Int) = (sz l : Int) - 1
    · rw [if_pos h2, if_pos (by omega)]
    · rw [if_neg h2, if_neg (show ¬ (k = 0 ∨ sz l ≤ k + 1) by omega)]
      obtain ⟨-, -, -, ax, ay⟩ := h.vat ho (z := 10 * (l : Int) + k - 1) (k := k - 1) hl (by omega) (by omega)
      obtain ⟨-, -, -, bx, b_y⟩ := h.vat ho (z := 10 * (l : Int) + k) (k := k) hl (by omega) (by omega)
      obtain ⟨-, -, -, cx, cy⟩ := h.vat ho (z := 10 * (l : Int) + k + 1) (k := k + 1) hl (by omega) (by omega)
      have c1 : 0 ≤ 10 * (l : Int) + k ∧ 10 * (l : Int) + k < 60 := by omega
      have c2 : 0 ≤ 10 * (l : Int) + k - 1 ∧ 10 * (l : Int) + k - 1 < 60 := by omega
      have c3 : 0 ≤ 10 * (l : Int) + k + 1 ∧ 10 * (l : Int) + k + 1 < 60 := by omega
      simp only [c1, c2, c3, and_self, if_true, ax, ay, bx, b_y, cx, cy]
      obtain ⟨a1, a2⟩ := hc (k - 1) (by omega)
      obtain ⟨b1, b2⟩ := hc k hk
      obtain ⟨d1, d2⟩ := hc (k + 1) (by omega)
      have q1 := pr_bd (a := cd l k / 64) (b := cd l (k - 1) / 64) (c := cd l (k + 1) % 64) (d := cd l (k - 1) % 64) (by omega) (by omega) (by omega) (by omega)
      have q2 := pr_bd (a := cd l k % 64) (b := cd l (k - 1) % 64) (c := cd l (k + 1) / 64) (d := cd l (k - 1) / 64) (by omega) (by omega) (by omega) (by omega)
      have e1 : (cd l k / 64 - cd l (k - 1) / 64) * (cd l (k + 1) % 64 - cd l (k - 1) % 64) - (cd l k % 64 - cd l (k - 1) % 64) * (cd l (k + 1) / 64 - cd l (k - 1) / 64) = crs (cd l (k - 1)) (cd l k) (cd l (k + 1)) := rfl
      have hb := crs_bd (hc (k - 1) (by omega)) (hc k hk) (hc (k + 1) (by omega))
      simp (disch := omega) only [wr_id, e1]
      rw [mAbs_id (by omega) (by omega)]
      rfl
theorem r_clr (h : LnV G nl sz cd mk) (ho : okLn nl sz cd) {l k : Nat} (hl : l < nl) (hk : 1 ≤ k) (hk2 : k + 1 < sz l) : f_Mod_wouldMeet l k G = rI (b2i (!clr nl sz cd l k)) G := by
  have h6 := ho.1
  obtain ⟨h10, hc, hdd⟩ := ho.2 l hl
  have hs := (h.2 l hl).1
  have va := h.vat ho (z := 10 * (l : Int) + k - 1) (k := k - 1) hl (by omega) (by omega)
  have vc := h.vat ho (z := 10 * (l : Int) + k + 1) (k := k + 1) hl hk2 (by omega)
  have hne : cd l (k - 1) ≠ cd l (k + 1) := hdd (k - 1) (k + 1) (by omega) hk2
  have inner : ∀ o : Nat, o < nl → l_Mod_wouldMeet_71 l k (10 * (l : Int) + k - 1) (10 * (l : Int) + k + 1) o G = bif (anyB 0 (sz o - 1) fun t => !ownR l k o t && mtS (cd l (k - 1)) (cd l (k + 1)) (cd o t) (cd o (t + 1))) then rI 1 G else l_Mod_wouldMeet_71 l k (10 * (l : Int) + k - 1) (10 * (l : Int) + k + 1) ((o + 1 : Nat) : Int) G := by
    intro o ho2
    obtain ⟨h11, hc2, hdd2⟩ := ho.2 o ho2
    have hs2 := (h.2 o ho2).1
    rw [e_l_Mod_wouldMeet_71, if_pos (by rw [h.1]; omega)]
    have step : ∀ t : Nat, t < sz o - 1 → l_Mod_wouldMeet_85 l k (10 * (l : Int) + k - 1) (10 * (l : Int) + k + 1) o t G = bif !ownR l k o t && mtS (cd l (k - 1)) (cd l (k + 1)) (cd o t) (cd o (t + 1)) then rI 1 G else l_Mod_wouldMeet_85 l k (10 * (l : Int) + k - 1) (10 * (l : Int) + k + 1) o ((t + 1 : Nat) : Int) G := by
      intro t ht
      have m1 := r_meet G va vc (h.vat ho (z := 10 * (o : Int) + t) (k := t) ho2 (by omega) (by omega)) (h.vat ho (z := 10 * (o : Int) + t + 1) (k := t + 1) ho2 (by omega) (by omega)) hne (hdd2 t (t + 1) (by omega) (by omega))
      rw [e_l_Mod_wouldMeet_85, hs2]
      simp (disch := omega) only [wr_id]
      rw [if_pos (by omega), if_pos (by omega)]
      simp only [isIn_r, m1, bI_r, b2i_0]
      have e1 : (t : Int) + 1 = ((t + 1 : Nat) : Int) := by omega
      rw [e1]
      by_cases q1 : (o : Int) = l
      · rw [if_pos q1]
        by_cases q2 : (k : Int) - 2 ≤ t ∧ (t : Int) ≤ k + 1
        · rw [decide_eq_true (p := (k : Int) - 2 ≤ t ∧ (t : Int) ≤ k + 1) q2]
          have hw : ownR l k o t = true := decide_eq_true (by omega)
          rw [hw]
          rfl
        · rw [decide_eq_false (p := (k : Int) - 2 ≤ t ∧ (t : Int) ≤ k + 1) q2]
          have hw : ownR l k o t = false := decide_eq_false (by omega)
          rw [hw]
          cases mtS (cd l (k - 1)) (cd l (k + 1)) (cd o t) (cd o (t + 1)) <;> rfl
      · rw [if_neg q1]
        have hw : ownR l k o t = false := decide_eq_false (by omega)
        rw [hw]
        cases mtS (cd l (k - 1)) (cd l (k + 1)) (cd o t) (cd o (t + 1)) <;> rfl
    refine loop_any (l := fun t : Nat => l_Mod_wouldMeet_85 l k (10 * (l : Int) + k - 1) (10 * (l : Int) + k + 1) o t G) (f := fun t => !ownR l k o t && mtS (cd l (k - 1)) (cd l (k + 1)) (cd o t) (cd o (t + 1))) (rt := rI 1 G) (rf := l_Mod_wouldMeet_71 l k (10 * (l : Int) + k - 1) (10 * (l : Int) + k + 1) ((o + 1 : Nat) : Int) G) (sz o - 1) 0 ?_ ?_ ?_
    · intro t _ ht hf
      rw [step t (by omega), hf]; rfl
    · intro t _ ht hf
      rw [step t (by omega), hf]; rfl
    · rw [e_l_Mod_wouldMeet_85, hs2]
      simp (disch := omega) only [wr_id]
      rw [if_pos (by omega), if_neg (by omega)]
      rfl
  have all := loop_any (l := fun o : Nat => l_Mod_wouldMeet_71 l k (10 * (l : Int) + k - 1) (10 * (l : Int) + k + 1) o G) (f := fun o => anyB 0 (sz o - 1) fun t => !ownR l k o t && mtS (cd l (k - 1)) (cd l (k + 1)) (cd o t) (cd o (t + 1))) (rt := rI 1 G) (rf := rI 0 G) nl 0
    (fun o _ ho2 hf => by rw [inner o (by omega), hf]; rfl) (fun o _ ho2 hf => by rw [inner o (by omega), hf]; rfl) (by rw [Nat.zero_add, e_l_Mod_wouldMeet_71, if_neg (by rw [h.1]; omega)])
  have all2 : l_Mod_wouldMeet_71 l k (10 * (l : Int) + k - 1) (10 * (l : Int) + k + 1) 0 G = rI (b2i (hits nl sz cd l k)) G := by
    refine Eq.trans all ?_
    unfold hits
    rw [bif_b2i]
  have c1 : (0 : Int) ≤ (l : Int) ∧ (l : Int) < 6 := by omega
  rw [e_f_Mod_wouldMeet]
  simp (disch := omega) only [wr_id]
  unfold clr
  by_cases q1 : (1 : Int) < k
  · have f1 := r_fold (h.vat ho (z := 10 * (l : Int) + k - 1 - 1) (k := k - 2) hl (by omega) (by omega)) va vc
    rw [decide_eq_true (p := 2 ≤ k) (by omega)]
    by_cases q2 : (k : Int) + 2 < sz l
    · have f2 := r_fold va vc (h.vat ho (z := 10 * (l : Int) + k + 1 + 1) (k := k + 2) hl (by omega) (by omega))
      rw [decide_eq_true (p := k + 2 < sz l) (by omega)]
      simp only [f1, f2, bI_r, b2i_0, q1, q2, c1, and_self, if_true, hs, all2]
      cases fold (cd l (k - 2)) (cd l (k - 1)) (cd l (k + 1)) <;> cases fold (cd l (k - 1)) (cd l (k + 1)) (cd l (k + 2)) <;> cases hits nl sz cd l k <;> rfl
    · rw [decide_eq_false (p := k + 2 < sz l) (by omega)]
      simp only [f1, bI_r, b2i_0, q1, q2, c1, and_self, if_true, if_false, hs, all2]
      cases fold (cd l (k - 2)) (cd l (k - 1)) (cd l (k + 1)) <;> cases hits nl sz cd l k <;> rfl
  · rw [decide_eq_false (p := 2 ≤ k) (by omega)]
    by_cases q2 : (k : Int) + 2 < sz l
    · have f2 := r_fold va vc (h.vat ho (z := 10 * (l : Int) + k + 1 + 1) (k := k + 2) hl (by omega) (by omega))
      rw [decide_eq_true (p := k + 2 < sz l) (by omega)]
      simp only [f2, bI_r, b2i_0, q1, q2, c1, and_self, if_true, if_false, hs, all2]
      cases fold (cd l (k - 1)) (cd l (k + 1)) (cd l (k + 2)) <;> cases hits nl sz cd l k <;> rfl
    · rw [decide_eq_false (p := k + 2 < sz l) (by omega)]
      simp only [bI_r, b2i_0, q1, q2, c1, and_self, if_true, if_false, hs, all2]
      cases hits nl sz cd l k <;> rfl
theorem wt_bd (ho : okLn nl sz cd) {l k : Nat} (hl : l < nl) (hk : 1 ≤ k) (hk2 : k + 1 < sz l) : 0 ≤ wt cd l k ∧ wt cd l k ≤ 7938 := by
  obtain ⟨-, hc, -⟩ := ho.2 l hl
  have hb := crs_bd (hc (k - 1) (by omega)) (hc k (by omega)) (hc (k + 1) (by omega))
  unfold wt
  split <;> omega
theorem r_rsn (h : LnV G nl sz cd mk) (ho : okLn nl sz cd) {np : Nat} {pt : Nat → Nat → Int} (hP : PtR G np pt) (hp : okPt np pt) {l k : Nat} (hl : l < nl) (hk : k < sz l) (tol : Int) : f_Mod_reason l k tol G = rI (rsn nl sz cd np pt tol l k) G := by
  have h6 := ho.1
  obtain ⟨h10, hc, hdd⟩ := ho.2 l hl
  rw [e_f_Mod_reason, r_wt h ho hl hk]
  simp only [bI_r]
  unfold rsn
  by_cases q : k = 0 ∨ sz l ≤ k + 1
  · rw [if_pos q, if_pos q, if_pos (by decide)]
  · have hb := wt_bd ho hl (k := k) (by omega) (by omega)
    rw [if_neg q, if_neg q, if_neg (by omega)]
    by_cases h2 : tol < wt cd l k
    · rw [if_pos h2, if_pos h2]
    · rw [if_neg h2, if_neg h2]
      simp (disch := omega) only [wr_id]
      rw [r_tri hP hp (h.vat ho (z := 10 * (l : Int) + k - 1) (k := k - 1) hl (by omega) (by omega)) (h.vat ho (z := 10 * (l : Int) + k) (k := k) hl hk rfl) (h.vat ho (z := 10 * (l : Int) + k + 1) (k := k + 1) hl (by omega) (by omega)) rfl rfl (hdd (k - 1) k (by omega) hk) (hdd k (k + 1) (by omega) (by omega)) (hdd (k - 1) (k + 1) (by omega) (by omega))]
      simp only [bI_r, b2i_0, r_clr h ho hl (show 1 ≤ k by omega) (show k + 1 < sz l by omega)]
      unfold inP
      cases anyB 0 np fun p => decide (inTri (cd l (k - 1)) (cd l k) (cd l (k + 1)) (pco pt p))
      · cases clr nl sz cd l k <;> rfl
      · rfl
end RLIN
