/-! ===== the reference: a level's lines are kept ===== -/
section RKEEP
variable {nl : Nat} {sz0 : Nat → Nat} {cd0 : Nat → Nat → Int} {v : LV}
def FK (L : Nat) (t : Nat) (_ : Int) : Prop := t = 34 ∨ t = 35
/-- the level's lines are kept; other levels stay -/
theorem r_keep (ho : okLn nl sz0 cd0) (hv : okW nl sz0 v) {L : Nat} (hL : L < 5) {G : GG} (hV : LnV G nl v.1 (cdM cd0 v.2) v.2) : ∃ G', f_Mod_keepsLines L G = rV G' ∧ RLv G' L nl v ∧ (∀ M : Nat, M < L → ∀ w : LV, okW nl sz0 w → RLv G M nl w → RLv G' M nl w) ∧ Fr (FK L) G G' := by
  have h6 := ho.1
  rw [e_f_Mod_keepsLines]
  let I0 : Nat → GG → Prop := fun n G1 => (∀ o : Nat, o < n → G1 34 0 (6 * (L : Int) + (o : Int)) = v.1 o ∧ ∀ k : Nat, k < v.1 o → G1 35 0 ((6 * (L : Int) + (o : Int)) * 10 + (k : Int)) = v.2 o k) ∧ (∀ z : Int, z < 6 * (L : Int) → G1 34 0 z = G 34 0 z) ∧ (∀ z : Int, z < 60 * (L : Int) → G1 35 0 z = G 35 0 z) ∧ Fr (FK L) G G1
  have main := loop_inv (l := fun (l : Nat) (G1 : GG) => l_Mod_keepsLines_2 L l G1) (I := I0) (P := fun r => ∃ G', r = rV G' ∧ RLv G' L nl v ∧ (∀ M : Nat, M < L → ∀ w : LV, okW nl sz0 w → RLv G M nl w → RLv G' M nl w) ∧ Fr (FK L) G G') nl 0 G ?_ ?_ ⟨fun o ho => absurd ho (by omega), fun _ _ => rfl, fun _ _ => rfl, Fr.refl G⟩
  · exact main
  · intro l G1 _ hl hI
    have hl : l < nl := by omega
    obtain ⟨hI1, hI2, hI3, hF1⟩ := hI
    obtain ⟨⟨hv1, hv2⟩, hv3, hv4⟩ := hv l hl
    obtain ⟨⟨hz1, hz2⟩, hc, -⟩ := ho.2 l hl
    have hs1 : G1 26 0 0 = nl := by rw [hF1 26 0 0 (by unfold FK; omega)]; exact hV.1
    have hs2 : G1 30 0 l = v.1 l := by rw [hF1 30 0 _ (by unfold FK; omega)]; exact (hV.2 l hl).1
    have e := e_l_Mod_keepsLines_2 (L : Int) (l : Int) G1
    rw [if_pos (by rw [hs1]; omega), wr_id (z := 6 * (L : Int)) (by omega) (by omega), wr_id (z := 6 * (L : Int) + (l : Int)) (by omega) (by omega), if_pos (by omega), if_pos (by omega), hs2] at e
    have inn := loop_inv (l := fun (k : Nat) (G2 : GG) => l_Mod_keepsLines_31 L l k G2) (I := fun (k : Nat) (G2 : GG) => I0 l G2 ∧ G2 34 0 (6 * (L : Int) + (l : Int)) = v.1 l ∧ ∀ j : Nat, j < k → G2 35 0 ((6 * (L : Int) + (l : Int)) * 10 + (j : Int)) = v.2 l j)
      (P := fun r => ∃ G2, r = l_Mod_keepsLines_2 L ((l + 1 : Nat) : Int) G2 ∧ I0 (l + 1) G2) (v.1 l) 0 (up G1 34 0 (6 * (L : Int) + (l : Int)) (v.1 l)) ?_ ?_ ?_
    · obtain ⟨G2, e2, h2⟩ := inn
      exact ⟨G2, e.trans e2, h2⟩
    · intro k G2 _ hk hJ
      have hk : k < v.1 l := by omega
      obtain ⟨⟨hJ1, hJ2, hJ3, hJ4⟩, hJ5, hJ6⟩ := hJ
      have hs3 : G2 30 0 l = v.1 l := by rw [hJ4 30 0 _ (by unfold FK; omega)]; exact (hV.2 l hl).1
      have hs4 : G2 33 0 (10 * (l : Int) + (k : Int)) = v.2 l k := by rw [hJ4 33 0 _ (by unfold FK; omega)]; exact ((hV.2 l hl).2 k hk).2.2
      have e3 := e_l_Mod_keepsLines_31 (L : Int) (l : Int) (k : Int) G2
      obtain ⟨qe3_0, qe3_1, qe3_2, qe3_3, qe3_4, qe3_5, qe3_6, qe3_7, qe3_8, qe3_9, qe3_A, c0, c1, c2, c3, c4⟩ := w_tk (L := L) (l := l) (k := k) (m := 0) hL (Nat.lt_of_lt_of_le hl h6) (Nat.lt_of_lt_of_le hk (Nat.le_trans hv2 hz2)) (by decide)
      have ck : (k : Int) < (v.1 l : Int) := Int.ofNat_lt.mpr hk
      simp only [qe3_0, qe3_1, qe3_2, qe3_3, qe3_4, qe3_9, qe3_A, hs3, hs4] at e3
      simp only [if_pos c0, if_pos ck, if_pos c1, if_pos c2] at e3
      clear qe3_0 qe3_1 qe3_2 qe3_3 qe3_4 qe3_5 qe3_6 qe3_7 qe3_8 qe3_9 qe3_A c0 c1 c2 c3 c4
      have ek : (k : Int) + 1 = ((k + 1 : Nat) : Int) := by omega
      rw [ek] at e3
      refine ⟨_, e3, ⟨fun o ho2 => ?_, fun z hz => ?_, fun z hz => ?_, hJ4.trans (Fr.up _ _ _ (by unfold FK; omega))⟩, ?_, fun j hj => ?_⟩
      · obtain ⟨q1, q2⟩ := hJ1 o ho2
        have hz := (ho.2 o (by omega)).1
        have hz3 := (hv o (by omega)).1
        exact ⟨by rw [up_t (by decide)]; exact q1, fun j hj => by rw [up_k (by omega)]; exact q2 j hj⟩
      · rw [up_t (by decide)]; exact hJ2 z hz
      · rw [up_k (by omega)]; exact hJ3 z hz
      · rw [up_t (by decide)]; exact hJ5
      · by_cases hjk : j = k
        · subst hjk
          exact up_at _ _ _ _ _
        · rw [up_k (by omega)]
          exact hJ6 j (by omega)
    · intro G2 hJ
      obtain ⟨⟨hJ1, hJ2, hJ3, hJ4⟩, hJ5, hJ6⟩ := hJ
      rw [Nat.zero_add] at hJ6 ⊢
      have hs3 : G2 30 0 l = v.1 l := by rw [hJ4 30 0 _ (by unfold FK; omega)]; exact (hV.2 l hl).1
      refine ⟨G2, ?_, fun o ho2 => ?_, hJ2, hJ3, hJ4⟩
      · rw [e_l_Mod_keepsLines_31, hs3, if_pos (by omega), if_neg (by omega), wr_id (by omega) (by omega)]
        rfl
      · by_cases hol : o = l
        · subst hol
          exact ⟨hJ5, hJ6⟩
        · exact hJ1 o (by omega)
    · refine ⟨⟨fun o ho2 => ?_, fun z hz => ?_, fun z hz => ?_, hF1.trans (Fr.up _ _ _ (by unfold FK; omega))⟩, up_at _ _ _ _ _, fun j hj => absurd hj (by omega)⟩
      · obtain ⟨q1, q2⟩ := hI1 o ho2
        exact ⟨by rw [up_k (by omega)]; exact q1, fun j hj => by rw [up_t (by decide)]; exact q2 j hj⟩
      · rw [up_k (by omega)]; exact hI2 z hz
      · rw [up_t (by decide)]; exact hI3 z hz
  · intro G1 hI
    rw [Nat.zero_add] at hI ⊢
    obtain ⟨hI1, hI2, hI3, hF1⟩ := hI
    have hs1 : G1 26 0 0 = nl := by rw [hF1 26 0 0 (by unfold FK; omega)]; exact hV.1
    refine ⟨G1, ?_, hI1, fun M hM w hw hR l hl => ?_, hF1⟩
    · rw [e_l_Mod_keepsLines_2, if_neg (by rw [hs1]; omega)]
    · obtain ⟨q1, q2⟩ := hR l hl
      have hz := (ho.2 l hl).1
      have hz3 := (hw l hl).1
      exact ⟨by rw [hI2 _ (by omega)]; exact q1, fun k hk => by rw [hI3 _ (by omega)]; exact q2 k hk⟩
end RKEEP
