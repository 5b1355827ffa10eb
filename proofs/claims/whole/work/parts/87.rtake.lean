/-! ===== the reference: a level's lines are looked at, and kept ===== -/
def LnS (G : GG) (nl : Nat) (sz0 : Nat → Nat) (cd0 : Nat → Nat → Int) : Prop := G 26 0 0 = nl ∧ ∀ l : Nat, l < nl → G 26 0 (1 + (l : Int)) = sz0 l ∧ ∀ k : Nat, k < sz0 l → G 26 0 (7 + 10 * (l : Int) + (k : Int)) = cd0 l k / 64 ∧ G 26 0 (67 + 10 * (l : Int) + (k : Int)) = cd0 l k % 64
def RLv (G : GG) (L : Nat) (nl : Nat) (v : LV) : Prop := ∀ l : Nat, l < nl → G 34 0 (6 * (L : Int) + (l : Int)) = v.1 l ∧ ∀ k : Nat, k < v.1 l → G 35 0 ((6 * (L : Int) + (l : Int)) * 10 + (k : Int)) = v.2 l k
def LV1 (G : GG) (v : LV) (cd0 : Nat → Nat → Int) (l n : Nat) : Prop := ∀ k : Nat, k < n → G 31 0 (10 * (l : Int) + (k : Int)) = cd0 l (v.2 l k) / 64 ∧ G 32 0 (10 * (l : Int) + (k : Int)) = cd0 l (v.2 l k) % 64 ∧ G 33 0 (10 * (l : Int) + (k : Int)) = v.2 l k
theorem w_tk {L l k m : Nat} (hL : L < 5) (hl : l < 6) (hk : k < 10) (hm : m < 10) :
    wr (6 * (L : Int)) = 6 * (L : Int) ∧ wr (6 * (L : Int) + (l : Int)) = 6 * (L : Int) + (l : Int) ∧ wr ((6 * (L : Int) + (l : Int)) * 10) = (6 * (L : Int) + (l : Int)) * 10 ∧ wr ((6 * (L : Int) + (l : Int)) * 10 + (k : Int)) = (6 * (L : Int) + (l : Int)) * 10 + (k : Int) ∧
    wr (10 * (l : Int)) = 10 * (l : Int) ∧ wr (7 + 10 * (l : Int)) = 7 + 10 * (l : Int) ∧ wr (67 + 10 * (l : Int)) = 67 + 10 * (l : Int) ∧ wr (7 + 10 * (l : Int) + (m : Int)) = 7 + 10 * (l : Int) + (m : Int) ∧ wr (67 + 10 * (l : Int) + (m : Int)) = 67 + 10 * (l : Int) + (m : Int) ∧ wr ((k : Int) + 1) = (k : Int) + 1 ∧ wr (10 * (l : Int) + (k : Int)) = 10 * (l : Int) + (k : Int) ∧
    (0 ≤ (l : Int) ∧ (l : Int) < 6) ∧ (0 ≤ (6 * (L : Int) + (l : Int)) * 10 + (k : Int) ∧ (6 * (L : Int) + (l : Int)) * 10 + (k : Int) < 300) ∧ (0 ≤ 10 * (l : Int) + (k : Int) ∧ 10 * (l : Int) + (k : Int) < 60) ∧ (0 ≤ 7 + 10 * (l : Int) + (m : Int) ∧ 7 + 10 * (l : Int) + (m : Int) < 296) ∧ (0 ≤ 67 + 10 * (l : Int) + (m : Int) ∧ 67 + 10 * (l : Int) + (m : Int) < 296) := by
  refine ⟨?_, ?_, ?_, ?_, ?_, ?_, ?_, ?_, ?_, ?_, ?_, ?_, ?_, ?_, ?_, ?_⟩
  all_goals first | exact wr_id (by omega) (by omega) | omega
theorem FV30 (i : Int) : FV 30 i := Or.inl rfl
theorem FV31 (i : Int) : FV 31 i := Or.inr (Or.inl rfl)
theorem FV32 (i : Int) : FV 32 i := Or.inr (Or.inr (Or.inl rfl))
theorem FV33 (i : Int) : FV 33 i := Or.inr (Or.inr (Or.inr rfl))
section RTAKE
variable {nl : Nat} {sz0 : Nat → Nat} {cd0 : Nat → Nat → Int} {v : LV}
theorem RLv.fr {G G' : GG} {L : Nat} (h : RLv G L nl v) (h1 : ∀ k, G' 34 0 k = G 34 0 k) (h2 : ∀ k, G' 35 0 k = G 35 0 k) : RLv G' L nl v := fun l hl => ⟨by rw [h1]; exact (h l hl).1, fun k hk => by rw [h2]; exact (h l hl).2 k hk⟩
theorem LnS.fr {G G' : GG} (h : LnS G nl sz0 cd0) (h1 : ∀ k, G' 26 0 k = G 26 0 k) : LnS G' nl sz0 cd0 := ⟨by rw [h1]; exact h.1, fun l hl => ⟨by rw [h1]; exact (h.2 l hl).1, fun k hk => by rw [h1, h1]; exact (h.2 l hl).2 k hk⟩⟩
theorem r_take (ho : okLn nl sz0 cd0) (hv : okW nl sz0 v) {L : Nat} (hL : L < 5) {G : GG} (hS : LnS G nl sz0 cd0) (hR : RLv G L nl v) : ∃ G', f_Mod_takesLevel L G = rV G' ∧ LnV G' nl v.1 (cdM cd0 v.2) v.2 ∧ Fr FV G G' := by
  have h6 := ho.1
  rw [e_f_Mod_takesLevel]
  have main := loop_inv (l := fun (l : Nat) (G1 : GG) => l_Mod_takesLevel_2 L l G1) (I := fun (l : Nat) (G1 : GG) => (∀ o : Nat, o < l → G1 30 0 o = v.1 o ∧ LV1 G1 v cd0 o (v.1 o)) ∧ Fr FV G G1) (P := fun r => ∃ G', r = rV G' ∧ LnV G' nl v.1 (cdM cd0 v.2) v.2 ∧ Fr FV G G') nl 0 G ?_ ?_ ⟨fun o ho => absurd ho (by omega), Fr.refl G⟩
  · exact main
  · intro l G1 _ hl hI
    have hl : l < nl := by omega
    obtain ⟨hI1, hF1⟩ := hI
    obtain ⟨⟨hv1, hv2⟩, hv3, hv4⟩ := hv l hl
    obtain ⟨⟨hz1, hz2⟩, hc, -⟩ := ho.2 l hl
    have hS1 : LnS G1 nl sz0 cd0 := hS.fr (fun k => hF1 26 0 k (by unfold FV; omega))
    have hR1 : RLv G1 L nl v := hR.fr (fun k => hF1 34 0 k (by unfold FV; omega)) (fun k => hF1 35 0 k (by unfold FV; omega))
    have e := e_l_Mod_takesLevel_2 (L : Int) (l : Int) G1
    rw [if_pos (by rw [hS1.1]; omega), wr_id (z := 6 * (L : Int)) (by omega) (by omega), wr_id (z := 6 * (L : Int) + (l : Int)) (by omega) (by omega), if_pos (by omega), if_pos (by omega), (hR1 l hl).1] at e
    have inn := loop_inv (l := fun (k : Nat) (G2 : GG) => l_Mod_takesLevel_31 L l k G2) (I := fun (k : Nat) (G2 : GG) => (∀ o : Nat, o < l → G2 30 0 o = v.1 o ∧ LV1 G2 v cd0 o (v.1 o)) ∧ G2 30 0 l = v.1 l ∧ LV1 G2 v cd0 l k ∧ Fr FV G G2)
      (P := fun r => ∃ G2, r = l_Mod_takesLevel_2 L ((l + 1 : Nat) : Int) G2 ∧ (∀ o : Nat, o < l + 1 → G2 30 0 o = v.1 o ∧ LV1 G2 v cd0 o (v.1 o)) ∧ Fr FV G G2) (v.1 l) 0 (up G1 30 0 l (v.1 l)) ?_ ?_ ?_
    · obtain ⟨G2, e2, h2⟩ := inn
      exact ⟨G2, e.trans e2, h2⟩
    · intro k G2 _ hk hJ
      have hk : k < v.1 l := by omega
      obtain ⟨hJ1, hJ2, hJ3, hJ4⟩ := hJ
      have hS2 : LnS G2 nl sz0 cd0 := hS.fr (fun k => hJ4 26 0 k (by unfold FV; omega))
      have hR2 : RLv G2 L nl v := hR.fr (fun k => hJ4 34 0 k (by unfold FV; omega)) (fun k => hJ4 35 0 k (by unfold FV; omega))
      have hm := hv3 k hk
      have hmk := (hR2 l hl).2 k hk
      obtain ⟨sx1, sy1⟩ := (hS2.2 l hl).2 (v.2 l k) hm
      obtain ⟨w1, -, -⟩ := w10 (l := l) (k := k) (by omega) (by omega)
      have e3 := e_l_Mod_takesLevel_31 (L : Int) (l : Int) (k : Int) G2
      obtain ⟨qe3_0, qe3_1, qe3_2, qe3_3, qe3_4, qe3_5, qe3_6, qe3_7, qe3_8, qe3_9, qe3_A, c0, c1, c2, c3, c4⟩ := w_tk (L := L) (l := l) (k := k) (m := v.2 l k) hL (Nat.lt_of_lt_of_le hl h6) (Nat.lt_of_lt_of_le hk (Nat.le_trans hv2 hz2)) (Nat.lt_of_lt_of_le hm hz2)
      have ck : (k : Int) < (v.1 l : Int) := Int.ofNat_lt.mpr hk
      simp only [qe3_0, qe3_1, qe3_2, qe3_3, qe3_4, qe3_5, qe3_6, qe3_9, qe3_A, hJ2, hmk] at e3
      simp only [qe3_7, qe3_8] at e3
      rw [if_pos c0, if_pos ck] at e3
      simp only [up_t (show (26 : Nat) ≠ 33 by decide), up_t (show (26 : Nat) ≠ 31 by decide), sx1, sy1] at e3
      simp only [if_pos c1, if_pos c2, if_pos c3, if_pos c4] at e3
      clear sx1 sy1 hmk qe3_0 qe3_1 qe3_2 qe3_3 qe3_4 qe3_5 qe3_6 qe3_7 qe3_8 qe3_9 qe3_A c0 c1 c2 c3 c4 e
      have ek : (k : Int) + 1 = ((k + 1 : Nat) : Int) := by omega
      rw [ek] at e3
      refine ⟨_, e3, ?_, ?_, ?_, ((hJ4.trans (Fr.up _ _ _ (FV33 0))).trans (Fr.up _ _ _ (FV31 0))).trans (Fr.up _ _ _ (FV32 0))⟩
      · intro o ho2
        obtain ⟨q1, q2⟩ := hJ1 o ho2
        have hz := (ho.2 o (by omega)).1
        have hz3 := (hv o (by omega)).1
        refine ⟨by rw [up_t (by decide), up_t (by decide), up_t (by decide)]; exact q1, fun j hj => ?_⟩
        have hne : 10 * (o : Int) + (j : Int) ≠ 10 * (l : Int) + (k : Int) := by omega
        obtain ⟨r1, r2, r3⟩ := q2 j hj
        exact ⟨by rw [up_t (by decide), up_k hne, up_t (by decide)]; exact r1, by rw [up_k hne, up_t (by decide), up_t (by decide)]; exact r2, by rw [up_t (by decide), up_t (by decide), up_k hne]; exact r3⟩
      · rw [up_t (by decide), up_t (by decide), up_t (by decide)]
        exact hJ2
      · intro j hj
        by_cases hjk : j = k
        · subst hjk
          exact ⟨by rw [up_t (by decide), up_at], by rw [up_at], by rw [up_t (by decide), up_t (by decide), up_at]⟩
        · have hne : 10 * (l : Int) + (j : Int) ≠ 10 * (l : Int) + (k : Int) := by omega
          obtain ⟨r1, r2, r3⟩ := hJ3 j (by omega)
          exact ⟨by rw [up_t (by decide), up_k hne, up_t (by decide)]; exact r1, by rw [up_k hne, up_t (by decide), up_t (by decide)]; exact r2, by rw [up_t (by decide), up_t (by decide), up_k hne]; exact r3⟩
    · intro G2 hJ
      obtain ⟨hJ1, hJ2, hJ3, hJ4⟩ := hJ
      rw [Nat.zero_add] at hJ3 ⊢
      refine ⟨G2, ?_, fun o ho2 => ?_, hJ4⟩
      · rw [e_l_Mod_takesLevel_31, hJ2, if_pos (by omega), if_neg (by omega), wr_id (by omega) (by omega)]
        rfl
      · by_cases hol : o = l
        · subst hol
          exact ⟨hJ2, hJ3⟩
        · exact hJ1 o (by omega)
    · refine ⟨fun o ho2 => ?_, up_at _ _ _ _ _, fun k hk => absurd hk (by omega), hF1.trans (Fr.up _ _ _ (FV30 0))⟩
      obtain ⟨q1, q2⟩ := hI1 o ho2
      refine ⟨by rw [up_k (by omega)]; exact q1, fun j hj => ?_⟩
      obtain ⟨r1, r2, r3⟩ := q2 j hj
      exact ⟨by rw [up_t (by decide)]; exact r1, by rw [up_t (by decide)]; exact r2, by rw [up_t (by decide)]; exact r3⟩
  · intro G1 hI
    rw [Nat.zero_add] at hI ⊢
    obtain ⟨hI1, hF1⟩ := hI
    have hS1 : LnS G1 nl sz0 cd0 := hS.fr (fun k => hF1 26 0 k (by unfold FV; omega))
    refine ⟨G1, ?_, ⟨hS1.1, fun l hl => ⟨(hI1 l hl).1, (hI1 l hl).2⟩⟩, hF1⟩
    rw [e_l_Mod_takesLevel_2, if_neg (by rw [hS1.1]; omega)]
end RTAKE
