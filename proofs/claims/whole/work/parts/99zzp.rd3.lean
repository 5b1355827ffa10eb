/-! ===== read: the reference's answer; both ===== -/
section SM9
variable {s : Nat → Int} {G G' : GG} {c : Nat} {H : Nat → Nat → Int} {sv : Int} {K : Nat → Int} {tn tn' : Nat} {tx : Nat → Int} {er er' : Int}
theorem IR.to (h : IR G s c H sv K tn tx er) (h26 : RoR G' 26 s) (ht : ∀ t k, t = 28 ∨ t = 29 ∨ (34 ≤ t ∧ t ≤ 39) → G' t 0 k = G t 0 k) (h25 : ∀ k : Int, k = 4 ∨ k = 5 ∨ k = 11 → G' 25 0 k = G 25 0 k) (h19 : G' 25 0 19 = (tn' : Int)) (hn : tn' ≤ tn) (h23 : G' 25 0 23 = er') : IR G' s c H sv K tn' tx er' := by
  obtain ⟨q1, q2, ⟨q3, q4⟩, ⟨q7, q8⟩, ⟨q9, q10⟩, q11⟩ := h
  refine ⟨h26, ?_, ⟨(h25 5 (by decide)).trans q3, fun j hj k hk => (ht _ _ (by decide)).trans (q4 j hj k hk)⟩, ⟨(h25 4 (by decide)).trans q7, fun z => (q8 z).fr (fun k => ht _ _ (by decide))⟩, ⟨h19, fun j hj => (ht _ _ (by decide)).trans (q10 j (by omega))⟩, h23⟩
  rcases q2 with z | z
  · exact Or.inl ((h25 11 (by decide)).trans z)
  · exact Or.inr (z.fr (fun t k ht9 => ht t k (by omega)))
theorem r_all (hS : IS s c H sv K tn tx er) (hR : IR G s c H sv K tn tx er) : ∃ G1, f_Mod_takesAll G = rI (pT tx tn).1 G1 ∧ FrT G G1 ∧ G1 25 0 20 = ((pT tx tn).2.1 : Int) ∧ ((pT tx tn).1 = 1 → StA G1 0 (pT tx tn).2.2 ∧ G1 25 0 22 = ((pT tx tn).2.2.length : Int) ∧ szA (pT tx tn).2.2 ≤ 2 * (pT tx tn).2.1) := by
  have hT : TxR G tn tx := hR.2.2.2.2.1
  have f0 : FrT G (up (up (up G 25 0 20 0) 25 0 21 0) 25 0 22 0) := (((FrE.p20 0 G 0).trans (FrE.p21 0 _ 0)).t).trans (FrT.p22 _ 0)
  obtain ⟨G1, e1, hF, -, hp, hs⟩ := sr_all hS.2.2.2.2.1 hS.2.2.2.2.2.1 (tn + 1) 0 0 0 (up (up (up G 25 0 20 0) 25 0 21 0) 25 0 22 0) (hT.ft f0) (by rw [up_k (by decide), up_k (by decide), up_at]; rfl) (by rw [up_k (by decide), up_at]; rfl) (up_at _ _ _ _ _) (Nat.zero_le tn) (Nat.le_refl 0) (Nat.le_refl 0) (by omega)
  refine ⟨G1, (e_f_Mod_takesAll G).trans e1, f0.trans hF, hp, fun w => ?_⟩
  obtain ⟨a, b, d⟩ := hs w
  rw [Nat.zero_add] at b d
  exact ⟨a, b, d⟩
theorem FrT.rl {G1 : GG} (h : FrT G G1) : Fr FRl G G1 := h.1.mono (fun t i z => by unfold FRl; omega)
theorem r_read_1 (hS : IS s c H sv K tn tx er) (hR : IR G s c H sv K tn tx er) (h0 : (pT tx tn).1 = 0) : ∃ G2, f_Mod_read G = rI 0 G2 ∧ G2 25 0 6 = 1 ∧ IR G2 s c H sv K 0 tx ((pT tx tn).2.1 : Int) ∧ Fr FRl G G2 := by
  obtain ⟨G1, e1, hF, hp, -⟩ := r_all hS hR
  have e := e_f_Mod_read G
  rw [e1, bI_r, if_pos h0, up_at, if_neg i01, up_k (show (20 : Int) ≠ 6 by decide), up_k (show (20 : Int) ≠ 19 by decide), hp] at e
  have n25 : ∀ k : Int, k = 4 ∨ k = 5 ∨ k = 11 → (up (up (up G1 25 0 19 0) 25 0 6 1) 25 0 23 ((pT tx tn).2.1 : Int)) 25 0 k = G 25 0 k := fun k hk => by
    rw [up_k (by omega), up_k (by omega), up_k (by omega)]
    exact hF.2 k (by omega) (by omega) (by omega)
  have nt : ∀ t k, t ≠ 25 → t ≠ 40 → (up (up (up G1 25 0 19 0) 25 0 6 1) 25 0 23 ((pT tx tn).2.1 : Int)) t 0 k = G t 0 k := fun t k z1 z2 => by
    rw [up_t z1, up_t z1, up_t z1]
    exact hF.1 t 0 k (by omega)
  refine ⟨_, e, ?_, hR.to (hR.1.fr (fun k => nt _ _ (by decide) (by decide))) (fun t k z => nt _ _ (by omega) (by omega)) n25 ?_ (Nat.zero_le tn) (up_at _ _ _ _ _), ((hF.rl.trans (Fr.up _ _ _ ⟨by decide, by decide⟩)).trans (Fr.up _ _ _ ⟨by decide, by decide⟩)).trans (Fr.up _ _ _ ⟨by decide, by decide⟩)⟩
  · rw [up_k (by decide), up_at]
  · rw [up_k (by decide), up_k (by decide), up_at]
    rfl
/-- the entries are done -/
theorem r_read_2 (hS : IS s c H sv K tn tx er) (hR : IR G s c H sv K tn tx er) (h1 : (pT tx tn).1 = 1) : ∃ G2, f_Mod_read G = finR G2 ∧ G2 25 0 6 = rcO (apA s (pT tx tn).2.2).1 ∧ RoR G2 26 (apA s (pT tx tn).2.2).2 ∧ RoR G2 27 s ∧ G2 25 0 22 = ((pT tx tn).2.2.length : Int) ∧ (∀ t k, t = 28 ∨ t = 29 ∨ (34 ≤ t ∧ t ≤ 39) → G2 t 0 k = G t 0 k) ∧ (∀ k : Int, k = 4 ∨ k = 5 ∨ k = 11 ∨ k = 23 → G2 25 0 k = G 25 0 k) ∧ G2 25 0 19 = 0 ∧ Fr FRl G G2 := by
  obtain ⟨G1, e1, hF, hp, hA⟩ := r_all hS hR
  obtain ⟨hA1, hA2, hA3⟩ := hA h1
  obtain ⟨t1, t2, t3, t4⟩ := pT_ok (tx := tx) (tn := tn)
  have ht := hS.2.2.2.2.1
  have h0 : ¬ (pT tx tn).1 = 0 := by omega
  have e := e_f_Mod_read G
  rw [e1, bI_r, if_neg h0, up_at, if_pos rfl] at e
  have hFa : Fr FRl G (up (up G1 25 0 19 0) 25 0 6 0) := (hF.rl.trans (Fr.up _ _ _ ⟨by decide, by decide⟩)).trans (Fr.up _ _ _ ⟨by decide, by decide⟩)
  have na : ∀ t k, t ≠ 25 → t ≠ 40 → (up (up G1 25 0 19 0) 25 0 6 0) t 0 k = G t 0 k := fun t k z1 z2 => by
    rw [up_t z1, up_t z1]
    exact hF.1 t 0 k (by omega)
  have n40 : ∀ k, (up (up G1 25 0 19 0) 25 0 6 0) 40 0 k = G1 40 0 k := fun k => by
    rw [up_t (by decide), up_t (by decide)]
  have nb : ∀ k : Int, k = 4 ∨ k = 5 ∨ k = 11 ∨ k = 23 → (up (up G1 25 0 19 0) 25 0 6 0) 25 0 k = G 25 0 k := fun k hk => by
    rw [up_k (by omega), up_k (by omega)]
    exact hF.2 k (by omega) (by omega) (by omega)
  have k6 : (up (up G1 25 0 19 0) 25 0 6 0) 25 0 6 = 0 := up_at _ _ _ _ _
  have k19 : (up (up G1 25 0 19 0) 25 0 6 0) 25 0 19 = 0 := by rw [up_k (by decide), up_at]
  have k22 : (up (up G1 25 0 19 0) 25 0 6 0) 25 0 22 = ((pT tx tn).2.2.length : Int) := by rw [up_k (by decide), up_k (by decide)]; exact hA2
  generalize up (up G1 25 0 19 0) 25 0 6 0 = G2 at *
  obtain ⟨G3, e3, h3, f3⟩ := r_copyD1 G2
  rw [e3, bV_r] at e
  have n3 : ∀ t k, t ≠ 27 → G3 t 0 k = G2 t 0 k := fun t k z => f3 t 0 k (fun y => z y.1)
  have hR3 : RoR G3 26 s := hR.1.fr (fun k => (n3 _ _ (by decide)).trans (na _ _ (by decide) (by decide)))
  have hD3 : RoR G3 27 s := fun k hk => (h3 k hk).trans ((na 26 k (by decide) (by decide)).trans (hR.1 k hk))
  have hA9 : ∀ (l : List EN) (M : Nat), StA G1 M l → StA (up G3 25 0 20 0) M l := fun l => by
    induction l with
    | nil => exact fun M h => h
    | cons e9 l ih => exact fun M h => ⟨h.1.fr (fun z _ => (up_t (by decide)).trans ((n3 _ _ (by decide)).trans (n40 z))), ih _ h.2⟩
  obtain ⟨G5, e5, h65, hR5, hF5⟩ := r_loop58 (pT tx tn).2.2 0 0 s (up G3 25 0 20 0) hS.1 (hR3.fr (fun k => up_t (by decide))) (hA9 _ _ hA1) t4 (up_at _ _ _ _ _) ((up_k (by decide)).trans ((n3 _ _ (by decide)).trans k6)) ((up_k (by decide)).trans ((n3 _ _ (by decide)).trans (k22.trans (congrArg _ (Nat.zero_add _).symm)))) (by omega) (by omega)
  have e6 : f_Mod_read G = finR G5 := e.trans e5
  have n5 : ∀ t k, t = 27 ∨ t = 28 ∨ t = 29 ∨ (34 ≤ t ∧ t ≤ 39) → G5 t 0 k = G3 t 0 k := fun t k z => (hF5.1 t 0 k (by omega)).trans (up_t (by omega))
  have n25 : ∀ k : Int, k ≠ 20 → k ≠ 6 → G5 25 0 k = G2 25 0 k := fun k z1 z2 => (hF5.2 k z1 z2).trans ((up_k z1).trans (n3 _ _ (by decide)))
  exact ⟨G5, e6, h65, hR5, hD3.fr (fun k => n5 _ _ (by decide)), (n25 22 (by decide) (by decide)).trans k22, fun t k z => (n5 t k (by omega)).trans ((n3 t k (by omega)).trans (na t k (by omega) (by omega))), fun k z => (n25 k (by omega) (by omega)).trans (nb k z), (n25 19 (by decide) (by decide)).trans k19, ((hFa.trans (f3.mono (fun t i z => by unfold FRl; omega))).trans (Fr.up _ _ _ ⟨by decide, by decide⟩)).trans (hF5.1.mono (fun t i z => by unfold FRl; omega))⟩
/-- one of them is not made -/
theorem r_read_f (hS : IS s c H sv K tn tx er) (hR : IR G s c H sv K tn tx er) (h1 : (pT tx tn).1 = 1) (ho : (apA s (pT tx tn).2.2).1 ≠ 0) : ∃ G2, f_Mod_read G = rI 0 G2 ∧ G2 25 0 6 = rcO (apA s (pT tx tn).2.2).1 ∧ IR G2 s c H sv K 0 tx er ∧ Fr FRl G G2 := by
  obtain ⟨G2, e, h6, h26, h27, h22, nt, n25, h19, hF⟩ := r_read_2 hS hR h1
  have hn : ¬ G2 25 0 6 = 0 := by
    rw [h6]
    exact fun z => ho ((rc_0 (apA_c _ s)).mp z)
  unfold finR at e
  rw [if_neg hn] at e
  obtain ⟨G3, e3, h3, f3⟩ := r_copyD2 G2
  rw [e3, bV_r] at e
  have n3 : ∀ t k, t ≠ 26 → G3 t 0 k = G2 t 0 k := fun t k z => f3 t 0 k (fun y => z y.1)
  exact ⟨G3, e, (n3 _ _ (by decide)).trans h6, hR.to (fun k hk => (h3 k hk).trans (h27 k hk)) (fun t k z => (n3 t k (by omega)).trans (nt t k z)) (fun k z => (n3 _ _ (by decide)).trans (n25 k (by omega))) ((n3 _ _ (by decide)).trans h19) (Nat.zero_le tn) ((n3 _ _ (by decide)).trans ((n25 23 (by decide)).trans hR.2.2.2.2.2)), hF.trans (f3.mono (fun t i z => by unfold FRl; omega))⟩
/-- all of them are made -/
theorem r_read_s (hS : IS s c H sv K tn tx er) (hR : IR G s c H sv K tn tx er) (h1 : (pT tx tn).1 = 1) (ho : (apA s (pT tx tn).2.2).1 = 0) : ∃ G2, f_Mod_read G = rI ((pT tx tn).2.2.length : Int) G2 ∧ G2 25 0 6 = 0 ∧ IR G2 (apA s (pT tx tn).2.2).2 (pushC c) (pushH c H s) sv K 0 tx er ∧ Fr FRl G G2 := by
  obtain ⟨G2, e, h6, h26, h27, h22, nt, n25, h19, hF⟩ := r_read_2 hS hR h1
  have hz : G2 25 0 6 = 0 := by
    rw [h6]
    exact (rc_0 (apA_c _ s)).mpr ho
  unfold finR at e
  rw [if_pos hz] at e
  obtain ⟨G3, e3, h3, f3⟩ := r_swaps G2
  have n3 : ∀ t k, t ≠ 26 → t ≠ 27 → G3 t 0 k = G2 t 0 k := fun t k z1 z2 => f3 t 0 k (fun y => by rcases y.1 with w | w; exact z1 w; exact z2 w)
  have hI3 : IR G3 s c H sv K 0 tx er := hR.to (fun k hk => (h3 k hk).1.trans (h27 k hk)) (fun t k z => (n3 t k (by omega) (by omega)).trans (nt t k z)) (fun k z => (n3 _ _ (by decide) (by decide)).trans (n25 k (by omega))) ((n3 _ _ (by decide) (by decide)).trans h19) (Nat.zero_le tn) ((n3 _ _ (by decide) (by decide)).trans ((n25 23 (by decide)).trans hR.2.2.2.2.2))
  obtain ⟨G4, e4, h4, f4, g4, g4b, k4⟩ := ir_change hS.2.1 hI3
  obtain ⟨G5, e5, h5, f5⟩ := r_swaps G4
  rw [e3, bV_r, e4, bV_r, e5, bV_r] at e
  have n5 : ∀ t k, t ≠ 26 → t ≠ 27 → G5 t 0 k = G4 t 0 k := fun t k z1 z2 => f5 t 0 k (fun y => by rcases y.1 with w | w; exact z1 w; exact z2 w)
  have hN : RoR G5 26 (apA s (pT tx tn).2.2).2 := fun k hk => (h5 k hk).1.trans ((g4b 27 0 k (by decide)).trans ((h3 k hk).2.trans (h26 k hk)))
  have hG : IR (fun t i k => if t = 26 then G5 t i k else G4 t i k) (apA s (pT tx tn).2.2).2 (pushC c) (pushH c H s) sv K 0 tx er := k4 _ _ (fun k hk => hN k hk) (fun t i k z => if_neg z)
  have v22 : G5 25 0 22 = ((pT tx tn).2.2.length : Int) := (n5 _ _ (by decide) (by decide)).trans ((g4 22 (by decide) (by decide)).trans ((n3 _ _ (by decide) (by decide)).trans h22))
  rw [v22] at e
  refine ⟨G5, e, (n5 _ _ (by decide) (by decide)).trans ((g4 6 (by decide) (by decide)).trans ((n3 _ _ (by decide) (by decide)).trans hz)), hG.to hN (fun t k z => (n5 t k (by omega) (by omega)).trans (show _ = (if t = 26 then G5 t 0 k else G4 t 0 k) from (if_neg (by omega)).symm)) (fun k z => n5 _ _ (by decide) (by decide)) ?_ (Nat.le_refl 0) ?_, ((hF.trans (f3.mono (fun t i z => by unfold FRl; omega))).trans f4).trans (f5.mono (fun t i z => by unfold FRl; omega))⟩
  · exact (n5 _ _ (by decide) (by decide)).trans ((g4 19 (by decide) (by decide)).trans ((n3 _ _ (by decide) (by decide)).trans h19))
  · exact (n5 _ _ (by decide) (by decide)).trans ((g4 23 (by decide) (by decide)).trans ((n3 _ _ (by decide) (by decide)).trans ((n25 23 (by decide)).trans hR.2.2.2.2.2)))
end SM9
