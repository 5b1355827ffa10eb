/-! ===== the reference: the vertex that goes next ===== -/
theorem iDiv10 {x : Int} (h0 : 0 ≤ x) (h1 : x < 100) : iDiv x 10 = x / 10 ∧ iRem x 10 = x % 10 := by
  have key : ∀ n : Nat, n < 100 → iDiv (n : Int) 10 = ((n / 10 : Nat) : Int) ∧ iRem (n : Int) 10 = ((n % 10 : Nat) : Int) := by
    have h : ((List.range 100).all fun n => decide (iDiv (n : Int) 10 = ((n / 10 : Nat) : Int)) && decide (iRem (n : Int) 10 = ((n % 10 : Nat) : Int))) = true := by decide +kernel
    intro n hn
    have h2 := List.all_eq_true.mp h n (List.mem_range.mpr hn)
    rw [Bool.and_eq_true, decide_eq_true_eq, decide_eq_true_eq] at h2
    exact h2
  have h2 := key x.toNat (by omega)
  rw [show ((x.toNat : Nat) : Int) = x by omega] at h2
  rw [h2.1, h2.2]
  omega
theorem iterB_rel {S : Type} {f : Nat → S → S} {R : S → S → Prop} : ∀ (n a : Nat) (s s' : S), (∀ k s s', a ≤ k → k < a + n → R s s' → R (f k s) (f k s')) → R s s' → R (iterB a n f s) (iterB a n f s')
  | 0, a, s, s', h1, h2 => h2
  | n + 1, a, s, s', h1, h2 => iterB_rel n (a + 1) (f a s) (f a s') (fun k s s' h3 h4 => h1 k s s' (by omega) (by omega)) (h1 a s s' (Nat.le_refl _) (by omega) h2)
theorem best_far {nl : Nat} {sz : Nat → Nat} {cd : Nat → Nat → Int} {np : Nat} {pt : Nat → Nat → Int} {tol : Int} (ht : tol ≤ 500) : (iterB 0 nl (scL nl sz cd np pt tol) ((1000000000, -1) : BS)).2 = bestV nl sz cd np pt tol := by
  have key := iterB_rel (f := scL nl sz cd np pt tol) (R := fun s s' : BS => s = s' ∨ (s.2 = -1 ∧ s'.2 = -1 ∧ s.1 = tol + 1 ∧ s'.1 = 1000000000)) nl 0 (tol + 1, -1) (1000000000, -1) (fun l s s' _ _ h => ?_) (Or.inr ⟨rfl, rfl, rfl, rfl⟩)
  · unfold bestV
    rcases key with h | h
    · rw [h]
    · rw [h.1, h.2.1]
  · refine iterB_rel (R := fun s s' : BS => s = s' ∨ (s.2 = -1 ∧ s'.2 = -1 ∧ s.1 = tol + 1 ∧ s'.1 = 1000000000)) (sz l - 2) 1 s s' (fun k s s' h1 h2 h => ?_) h
    rcases h with rfl | ⟨q1, q2, q3, q4⟩
    · exact Or.inl rfl
    · unfold scK
      by_cases hr : rsn nl sz cd np pt tol l k = 0
      · have hw : wt cd l k ≤ tol := by
          unfold rsn at hr
          rw [if_neg (by omega)] at hr
          by_cases h9 : tol < wt cd l k
          · rw [if_pos h9] at hr; cases hr
          · omega
        rw [if_pos ⟨by omega, decide_eq_true hr⟩, if_pos ⟨by omega, decide_eq_true hr⟩]
        exact Or.inl rfl
      · rw [if_neg (fun z => hr (of_decide_eq_true z.2)), if_neg (fun z => hr (of_decide_eq_true z.2))]
        exact Or.inr ⟨q1, q2, q3, q4⟩
def FV (t : Nat) (_ : Int) : Prop := t = 30 ∨ t = 31 ∨ t = 32 ∨ t = 33
section RDROP
variable {nl : Nat} {sz : Nat → Nat} {cd : Nat → Nat → Int} {mk : Nat → Nat → Nat} {G : GG}
def Sh (G G1 : GG) (t : Nat) (a b : Int) : Prop := ∀ z, G1 t 0 z = if a ≤ z ∧ z < b then G t 0 (z + 1) else G t 0 z
theorem Sh.step {G G1 G2 : GG} {t : Nat} {a x : Int} (h : Sh G G1 t a x) (hax : a ≤ x) (h1 : ∀ z, z ≠ x → G2 t 0 z = G1 t 0 z) (h2 : G2 t 0 x = G1 t 0 (x + 1)) : Sh G G2 t a (x + 1) := by
  intro z
  by_cases hz : z = x
  · subst hz
    rw [h2, h, if_neg (by omega), if_pos (by omega)]
  · rw [h1 z hz, h]
    by_cases h3 : a ≤ z ∧ z < x
    · rw [if_pos h3, if_pos (by omega)]
    · rw [if_neg h3, if_neg (by omega)]
theorem r_removes (h : LnV G nl sz cd mk) (ho : okLn nl sz cd) {l k : Nat} (hl : l < nl) (hk : k < sz l) : ∃ G', f_Mod_removes l k G = rV G' ∧ LnV G' nl (szD sz l) (mkD cd l k) (mkD mk l k) ∧ Fr FV G G' := by
  have h6 := ho.1
  obtain ⟨h10, hc, -⟩ := ho.2 l hl
  have hs := (h.2 l hl).1
  obtain ⟨w1, w2, w3⟩ := w10 (l := l) (k := k) (by omega) (by omega)
  rw [e_f_Mod_removes, hs, w1, wr_id (z := (sz l : Int) - 1) (by omega) (by omega), if_pos (by omega), if_pos (by omega)]
  have main := loop_inv (l := fun (j : Nat) (G1 : GG) => l_Mod_removes_17 l (10 * (l : Int) + (j : Int)) G1) (I := fun (j : Nat) (G1 : GG) => Sh G G1 31 (10 * (l : Int) + k) (10 * (l : Int) + j) ∧ Sh G G1 32 (10 * (l : Int) + k) (10 * (l : Int) + j) ∧ Sh G G1 33 (10 * (l : Int) + k) (10 * (l : Int) + j) ∧ (∀ z, G1 30 0 z = if z = (l : Int) then (sz l : Int) - 1 else G 30 0 z) ∧ Fr FV G G1)
    (P := fun r => ∃ G', r = rV G' ∧ Sh G G' 31 (10 * (l : Int) + k) (10 * (l : Int) + ((sz l - 1 : Nat) : Int)) ∧ Sh G G' 32 (10 * (l : Int) + k) (10 * (l : Int) + ((sz l - 1 : Nat) : Int)) ∧ Sh G G' 33 (10 * (l : Int) + k) (10 * (l : Int) + ((sz l - 1 : Nat) : Int)) ∧ (∀ z, G' 30 0 z = if z = (l : Int) then (sz l : Int) - 1 else G 30 0 z) ∧ Fr FV G G')
    (sz l - 1 - k) k (up G 30 0 l ((sz l : Int) - 1)) ?_ ?_ ?_
  · obtain ⟨G', e1, s1, s2, s3, s4, s5⟩ := main
    refine ⟨G', e1, ⟨?_, fun o ho2 => ⟨?_, fun j hj => ?_⟩⟩, s5⟩
    · rw [s5 26 0 0 (by unfold FV; omega)]
      exact h.1
    · rw [s4]
      unfold szD
      by_cases hol : o = l
      · subst hol
        rw [if_pos rfl, if_pos rfl]
        omega
      · rw [if_neg (by omega), if_neg hol]
        exact (h.2 o ho2).1
    · obtain ⟨h11, hc2, -⟩ := ho.2 o ho2
      unfold szD at hj
      unfold mkD
      rw [s1, s2, s3]
      by_cases hol : o = l
      · subst hol
        rw [if_pos rfl] at hj
        by_cases hkj : k ≤ j
        · have c1 : 10 * (o : Int) + k ≤ 10 * (o : Int) + j ∧ 10 * (o : Int) + (j : Int) < 10 * (o : Int) + ((sz o - 1 : Nat) : Int) := by omega
          simp only [if_pos c1, true_and, hkj, if_true]
          have h9 := (h.2 o ho2).2 (j + 1) (by omega)
          rw [show 10 * (o : Int) + ((j + 1 : Nat) : Int) = 10 * (o : Int) + (j : Int) + 1 by omega] at h9
          exact h9
        · have c1 : ¬ (10 * (o : Int) + k ≤ 10 * (o : Int) + j ∧ 10 * (o : Int) + (j : Int) < 10 * (o : Int) + ((sz o - 1 : Nat) : Int)) := by omega
          simp only [if_neg c1, true_and, hkj, if_false]
          exact (h.2 o ho2).2 j (by omega)
      · rw [if_neg hol] at hj
        have c1 : ¬ (10 * (l : Int) + k ≤ 10 * (o : Int) + j ∧ 10 * (o : Int) + (j : Int) < 10 * (l : Int) + ((sz l - 1 : Nat) : Int)) := by omega
        have c2 : ¬ (o = l ∧ k ≤ j) := fun z => hol z.1
        simp only [if_neg c1, if_neg c2]
        exact (h.2 o ho2).2 j hj
  · intro j G1 h1 h2 hI
    obtain ⟨s1, s2, s3, s4, s5⟩ := hI
    have e30 : G1 30 0 l = (sz l : Int) - 1 := by rw [s4, if_pos rfl]
    have e := e_l_Mod_removes_17 (l : Int) (10 * (l : Int) + (j : Int)) G1
    rw [e30] at e
    rw [wr_id (z := 10 * (l : Int)) (by omega) (by omega), wr_id (z := 10 * (l : Int) + ((sz l : Int) - 1)) (by omega) (by omega), wr_id (z := 10 * (l : Int) + (j : Int) + 1) (by omega) (by omega)] at e
    rw [if_pos (by omega), if_pos (by omega), if_pos (by omega), if_pos (by omega), if_pos (by omega), if_pos (by omega), if_pos (by omega), if_pos (by omega)] at e
    have ej : 10 * (l : Int) + ((j + 1 : Nat) : Int) = 10 * (l : Int) + (j : Int) + 1 := by omega
    refine ⟨_, by rw [ej]; exact e, ?_⟩
    · rw [ej]
      refine ⟨s1.step (by omega) (fun z hz => ?_) ?_, s2.step (by omega) (fun z hz => ?_) ?_, s3.step (by omega) (fun z hz => ?_) ?_, fun z => ?_, ((s5.trans (Fr.up _ _ _ (by unfold FV; omega))).trans (Fr.up _ _ _ (by unfold FV; omega))).trans (Fr.up _ _ _ (by unfold FV; omega))⟩
      · rw [up_t (by decide), up_t (by decide), up_k hz]
      · rw [up_t (by decide), up_t (by decide), up_at]
      · rw [up_t (by decide), up_k hz, up_t (by decide)]
      · rw [up_t (by decide), up_at, up_t (by decide)]
      · rw [up_k hz, up_t (by decide), up_t (by decide)]
      · rw [up_at, up_t (by decide), up_t (by decide)]
      · rw [up_t (by decide), up_t (by decide), up_t (by decide)]
        exact s4 z
  · intro G1 hI
    rw [show k + (sz l - 1 - k) = sz l - 1 by omega] at hI ⊢
    obtain ⟨s1, s2, s3, s4, s5⟩ := hI
    have e30 : G1 30 0 l = (sz l : Int) - 1 := by rw [s4, if_pos rfl]
    refine ⟨G1, ?_, s1, s2, s3, s4, s5⟩
    rw [e_l_Mod_removes_17, e30]
    rw [wr_id (z := 10 * (l : Int)) (by omega) (by omega), wr_id (z := 10 * (l : Int) + ((sz l : Int) - 1)) (by omega) (by omega)]
    rw [if_pos (by omega), if_neg (by omega)]
  · refine ⟨fun z => ?_, fun z => ?_, fun z => ?_, fun z => ?_, Fr.up _ _ _ (by unfold FV; omega)⟩
    · rw [up_t (by decide), if_neg (by omega)]
    · rw [up_t (by decide), if_neg (by omega)]
    · rw [up_t (by decide), if_neg (by omega)]
    · by_cases hz : z = (l : Int)
      · rw [hz, up_at, if_pos rfl]
      · rw [up_k hz, if_neg hz]
theorem r_drop (h : LnV G nl sz cd mk) (ho : okLn nl sz cd) {np : Nat} {pt : Nat → Nat → Int} (hP : PtR G np pt) (hp : okPt np pt) {tol : Int} (ht : tol ≤ 500) :
    (bestV nl sz cd np pt tol = -1 ∧ f_Mod_removesOne tol G = rI 0 G) ∨ ∃ (l k : Nat) (G' : GG), bestV nl sz cd np pt tol = 10 * (l : Int) + k ∧ (l < nl ∧ 1 ≤ k ∧ k + 1 < sz l) ∧ f_Mod_removesOne tol G = rI 1 G' ∧ LnV G' nl (szD sz l) (mkD cd l k) (mkD mk l k) ∧ Fr FV G G' := by
  have h6 := ho.1
  have inner : ∀ (l : Nat) (s : BS), l < nl → l_Mod_removesOne_8 tol s.2 s.1 l G = l_Mod_removesOne_8 tol (scL nl sz cd np pt tol l s).2 (scL nl sz cd np pt tol l s).1 ((l + 1 : Nat) : Int) G := by
    intro l s hl
    obtain ⟨h10, hc, -⟩ := ho.2 l hl
    have hs := (h.2 l hl).1
    rw [e_l_Mod_removesOne_8, if_pos (by rw [h.1]; omega)]
    refine loop_st (l := fun (s : BS) (k : Nat) => l_Mod_removesOne_22 tol s.2 s.1 l k G) (r := fun s : BS => l_Mod_removesOne_8 tol s.2 s.1 ((l + 1 : Nat) : Int) G) (sz l - 2) 1 s (fun k s h1 h2 => ?_) (fun s => ?_)
    · obtain ⟨w1, w2, w3⟩ := w10 (l := l) (k := k) (by omega) (by omega)
      rw [e_l_Mod_removesOne_22, hs, w1, wr_id (z := (k : Int) + 1) (by omega) (by omega)]
      rw [if_pos (by omega), if_pos (by omega), r_wt h ho hl (show k < sz l by omega), if_neg (by omega)]
      simp only [bI_r, r_rsn h ho hP hp hl (show k < sz l by omega), r_wt h ho hl (show k < sz l by omega), if_neg (show ¬ (k = 0 ∨ sz l ≤ k + 1) by omega)]
      unfold scK
      have e1 : (k : Int) + 1 = ((k + 1 : Nat) : Int) := by omega
      rw [e1]
      by_cases q1 : wt cd l k < s.1
      · rw [if_pos q1]
        by_cases q2 : rsn nl sz cd np pt tol l k = 0
        · rw [if_pos q2, if_pos ⟨q1, decide_eq_true q2⟩]
        · rw [if_neg q2, if_neg (fun z => q2 (of_decide_eq_true z.2))]
      · rw [if_neg q1, if_neg (fun z => q1 z.1)]
    · rw [e_l_Mod_removesOne_22, hs, wr_id (z := ((1 + (sz l - 2) : Nat) : Int) + 1) (by omega) (by omega), wr_id (z := (l : Int) + 1) (by omega) (by omega)]
      rw [if_pos (by omega), if_neg (by omega)]
      rfl
  have all := loop_st (l := fun (s : BS) (l : Nat) => l_Mod_removesOne_8 tol s.2 s.1 l G) (f := scL nl sz cd np pt tol) (r := fun s : BS => l_Mod_removesOne_8 tol s.2 s.1 nl G) nl 0 (1000000000, -1) (fun l s _ hl => inner l s (by omega)) (fun s => by rw [Nat.zero_add])
  have e0 : f_Mod_removesOne tol G = (if bestV nl sz cd np pt tol < 0 then rI 0 G else bV (f_Mod_removes (iDiv (bestV nl sz cd np pt tol) 10) (iRem (bestV nl sz cd np pt tol) 10) G) fun G1 => rI 1 G1) := by
    rw [e_f_Mod_removesOne]
    refine Eq.trans all ?_
    rw [e_l_Mod_removesOne_8, if_neg (by rw [h.1]; omega), best_far ht]
    by_cases q : bestV nl sz cd np pt tol < 0
    · simp only [if_pos q]
    · simp only [if_neg q]
  rcases best_ok (cd := cd) (np := np) (pt := pt) (tol := tol) (fun l hl => (ho.2 l hl).1.2) with hb | ⟨l, k, hb, h1, h2, h3, h4⟩
  · refine Or.inl ⟨hb, ?_⟩
    rw [e0, hb]
    rfl
  · right
    have h10 := (ho.2 l h1).1
    have hd := iDiv10 (x := 10 * (l : Int) + k) (by omega) (by omega)
    obtain ⟨G', e1, e2, e3⟩ := r_removes h ho h1 (show k < sz l by omega)
    refine ⟨l, k, G', hb, ⟨h1, h2, h3⟩, ?_, e2, e3⟩
    rw [e0, hb, hd.1, hd.2, if_neg (by omega), show (10 * (l : Int) + k) / 10 = l by omega, show (10 * (l : Int) + k) % 10 = k by omega, e1]
    rfl
end RDROP
