/-! ===== the reference: a level's parcels ===== -/
def bcLv (kd : Int → Int) (str : Int) (st : Nat → Int) (o0 : Nat → Int) : Nat → Nat → Int
  | 0 => fun p => p
  | L + 1 => mrgB kd str (st (3 * (L + 1) + 1)) 16 (ownLv kd str st o0 L) (bcLv kd str st o0 L)
theorem bcLv_follow {kd : Int → Int} {str : Int} {st : Nat → Int} {o0 : Nat → Int} {f p : Nat} (h : o0 f = p) : ∀ L : Nat, ownLv kd str st o0 L f = bcLv kd str st o0 L p
  | 0 => h
  | L + 1 => mrg_follow (o0 := o0) 16 _ _ (bcLv_follow h L)
section RPARCELS
variable {kd : Int → Int} {str : Int} {st : Nat → Int} {o0 : Nat → Int}
theorem r_owners0 {G : GG} (h : ∀ f : Nat, f < 64 → G 26 0 (200 + (f : Int)) = o0 f) : ∃ G', l_Mod_knows_82 0 G = l_Mod_knows_112 0 G' ∧ OwR G' 0 o0 ∧ FrL 0 G G' := by
  refine loop_inv (l := fun (k : Nat) G1 => l_Mod_knows_82 k G1) (I := fun k G1 => (∀ f : Nat, f < k → G1 36 0 (64 * ((0 : Nat) : Int) + f) = o0 f) ∧ FrL 0 G G1) (P := fun r => ∃ G', r = l_Mod_knows_112 0 G' ∧ OwR G' 0 o0 ∧ FrL 0 G G') 64 0 G (fun k G1 _ hk hI => ?_) (fun G1 hI => ?_) ⟨fun f hf => absurd hf (by omega), FrL.refl 0 G⟩
  · have e := e_l_Mod_knows_82 k G1
    have s26 : ∀ k, G1 26 0 k = G 26 0 k := fun k => hI.2.1 26 0 k (fun z => by rcases z.2 with z | z <;> exact absurd z (by decide))
    rw [if_pos (by omega), wr_id (z := 200 + (k : Int)) (by omega) (by omega), wr_id (z := (k : Int) + 1) (by omega) (by omega), if_pos (by omega), if_pos (by omega), s26, h k (by omega)] at e
    refine ⟨_, e, fun f hf => ?_, hI.2.trans (FrL.up36 G1 (by omega) _)⟩
    by_cases q : f = k
    · subst q
      rw [show 64 * ((0 : Nat) : Int) + (f : Int) = f by omega, up_at]
    · rw [up_k (by omega)]
      exact hI.1 f (by omega)
  · have e := e_l_Mod_knows_82 ((0 + 64 : Nat) : Int) G1
    rw [if_neg (by decide)] at e
    exact ⟨G1, e, fun f hf => hI.1 f (by omega), hI.2⟩
theorem r_became0 {G : GG} (hO : OwR G 0 o0) : ∃ G', l_Mod_knows_112 0 G = (bV (f_Mod_places 0 G') fun G1 => l_Mod_knows_138 1 G1) ∧ OwR G' 0 o0 ∧ BcR G' 0 (fun p => p) ∧ FrL 0 G G' := by
  refine loop_inv (l := fun (k : Nat) G1 => l_Mod_knows_112 k G1) (I := fun k G1 => (∀ f : Nat, f < k → G1 37 0 (16 * ((0 : Nat) : Int) + f) = f) ∧ FrL 0 G G1 ∧ ∀ k, G1 36 0 k = G 36 0 k) (P := fun r => ∃ G', r = (bV (f_Mod_places 0 G') fun G1 => l_Mod_knows_138 1 G1) ∧ OwR G' 0 o0 ∧ BcR G' 0 (fun p => p) ∧ FrL 0 G G') 16 0 G (fun k G1 _ hk hI => ?_) (fun G1 hI => ?_) ⟨fun f hf => absurd hf (by omega), FrL.refl 0 G, fun _ => rfl⟩
  · have e := e_l_Mod_knows_112 k G1
    rw [if_pos (by omega), wr_id (z := (k : Int) + 1) (by omega) (by omega), if_pos (by omega)] at e
    refine ⟨_, e, fun f hf => ?_, hI.2.1.trans (FrL.up37 G1 (by omega) _), fun j => (up_t (by decide)).trans (hI.2.2 j)⟩
    by_cases q : f = k
    · subst q
      rw [show 16 * ((0 : Nat) : Int) + (f : Int) = f by omega, up_at]
    · rw [up_k (by omega)]
      exact hI.1 f (by omega)
  · have e := e_l_Mod_knows_112 ((0 + 16 : Nat) : Int) G1
    rw [if_neg (by decide)] at e
    exact ⟨G1, e, fun f hf => (hI.2.2 _).trans (hO f hf), fun f hf => hI.1 f (by omega), hI.2.1⟩
theorem r_copyO {L : Nat} (hL : 1 ≤ L ∧ L < 5) {o : Nat → Int} {G : GG} (hO : OwR G (L - 1) o) : ∃ G', l_Mod_knows_170 L 0 G = l_Mod_knows_208 L 0 G' ∧ OwR G' L o ∧ FrL L G G' ∧ ∀ k, G' 37 0 k = G 37 0 k := by
  refine loop_inv (l := fun (k : Nat) G1 => l_Mod_knows_170 L k G1) (I := fun k G1 => (∀ f : Nat, f < k → G1 36 0 (64 * (L : Int) + f) = o f) ∧ FrL L G G1 ∧ ∀ k, G1 37 0 k = G 37 0 k) (P := fun r => ∃ G', r = l_Mod_knows_208 L 0 G' ∧ OwR G' L o ∧ FrL L G G' ∧ ∀ k, G' 37 0 k = G 37 0 k) 64 0 G (fun k G1 _ hk hI => ?_) (fun G1 hI => ?_) ⟨fun f hf => absurd hf (by omega), FrL.refl L G, fun _ => rfl⟩
  · have e := e_l_Mod_knows_170 L k G1
    have eL : ((L - 1 : Nat) : Int) = (L : Int) - 1 := by omega
    have a1 : wr (wr (64 * wr ((L : Int) - 1)) + (k : Int)) = 64 * ((L - 1 : Nat) : Int) + k := by
      rw [eL, wr_id (z := (L : Int) - 1) (by omega) (by omega), wr_id (z := 64 * ((L : Int) - 1)) (by omega) (by omega), wr_id (by omega) (by omega)]
    have a2 : wr (wr (64 * (L : Int)) + (k : Int)) = 64 * (L : Int) + k := by rw [wr_id (z := 64 * (L : Int)) (by omega) (by omega), wr_id (by omega) (by omega)]
    have a3 : wr ((k : Int) + 1) = ((k + 1 : Nat) : Int) := wr_id (by omega) (by omega)
    have i1 : (0 : Int) ≤ 64 * ((L - 1 : Nat) : Int) + k ∧ 64 * ((L - 1 : Nat) : Int) + (k : Int) < 320 := by omega
    have i2 : (0 : Int) ≤ 64 * (L : Int) + k ∧ 64 * (L : Int) + (k : Int) < 320 := by omega
    have hv := (hI.2.1.2.1 (64 * ((L - 1 : Nat) : Int) + k) (by omega)).trans (hO k (by omega))
    rw [if_pos (by omega)] at e
    simp only [a1, a2, a3, if_pos i1, if_pos i2, hv] at e
    refine ⟨_, e, fun f hf => ?_, hI.2.1.trans (FrL.up36 G1 (by omega) _), fun j => (up_t (by decide)).trans (hI.2.2 j)⟩
    by_cases q : f = k
    · subst q
      rw [up_at]
    · rw [up_k (by omega)]
      exact hI.1 f (by omega)
  · have e := e_l_Mod_knows_170 L ((0 + 64 : Nat) : Int) G1
    rw [if_neg (by decide)] at e
    exact ⟨G1, e, fun f hf => hI.1 f (by omega), hI.2⟩
theorem r_copyB {L : Nat} (hL : 1 ≤ L ∧ L < 5) {bc : Nat → Int} {G : GG} (hB : BcR G (L - 1) bc) : ∃ G', l_Mod_knows_208 L 0 G = l_Mod_knows_246 L 1 G' ∧ BcR G' L bc ∧ FrL L G G' ∧ ∀ k, G' 36 0 k = G 36 0 k := by
  refine loop_inv (l := fun (k : Nat) G1 => l_Mod_knows_208 L k G1) (I := fun k G1 => (∀ f : Nat, f < k → G1 37 0 (16 * (L : Int) + f) = bc f) ∧ FrL L G G1 ∧ ∀ k, G1 36 0 k = G 36 0 k) (P := fun r => ∃ G', r = l_Mod_knows_246 L 1 G' ∧ BcR G' L bc ∧ FrL L G G' ∧ ∀ k, G' 36 0 k = G 36 0 k) 16 0 G (fun k G1 _ hk hI => ?_) (fun G1 hI => ?_) ⟨fun f hf => absurd hf (by omega), FrL.refl L G, fun _ => rfl⟩
  · have e := e_l_Mod_knows_208 L k G1
    have eL : ((L - 1 : Nat) : Int) = (L : Int) - 1 := by omega
    have a1 : wr (wr (16 * wr ((L : Int) - 1)) + (k : Int)) = 16 * ((L - 1 : Nat) : Int) + k := by
      rw [eL, wr_id (z := (L : Int) - 1) (by omega) (by omega), wr_id (z := 16 * ((L : Int) - 1)) (by omega) (by omega), wr_id (by omega) (by omega)]
    have a2 : wr (wr (16 * (L : Int)) + (k : Int)) = 16 * (L : Int) + k := by rw [wr_id (z := 16 * (L : Int)) (by omega) (by omega), wr_id (by omega) (by omega)]
    have a3 : wr ((k : Int) + 1) = ((k + 1 : Nat) : Int) := wr_id (by omega) (by omega)
    have i1 : (0 : Int) ≤ 16 * ((L - 1 : Nat) : Int) + k ∧ 16 * ((L - 1 : Nat) : Int) + (k : Int) < 80 := by omega
    have i2 : (0 : Int) ≤ 16 * (L : Int) + k ∧ 16 * (L : Int) + (k : Int) < 80 := by omega
    have hv := (hI.2.1.2.2 (16 * ((L - 1 : Nat) : Int) + k) (by omega)).trans (hB k (by omega))
    rw [if_pos (by omega)] at e
    simp only [a1, a2, a3, if_pos i1, if_pos i2, hv] at e
    refine ⟨_, e, fun f hf => ?_, hI.2.1.trans (FrL.up37 G1 (by omega) _), fun j => (up_t (by decide)).trans (hI.2.2 j)⟩
    by_cases q : f = k
    · subst q
      rw [up_at]
    · rw [up_k (by omega)]
      exact hI.1 f (by omega)
  · have e := e_l_Mod_knows_208 L ((0 + 16 : Nat) : Int) G1
    rw [if_neg (by decide)] at e
    exact ⟨G1, e, fun f hf => hI.1 f (by omega), hI.2⟩
/-- settings in the reference -/
def StR (G : GG) (st : Nat → Int) : Prop := ∀ j : Nat, j < 15 → G 26 0 (280 + (j : Int)) = st j
theorem r_parcels (hst : okSt st) {L : Nat} (hL : 1 ≤ L ∧ L < 5) {G : GG} (hO : OwR G (L - 1) (ownLv kd str st o0 (L - 1))) (hB : BcR G (L - 1) (bcLv kd str st o0 (L - 1))) (hK : KdR G kd) (hS : StR G st) (hs : G 26 0 295 = str) :
    ∃ G', l_Mod_knows_170 L 0 G = l_Mod_knows_246 L 0 G' ∧ OwR G' L (ownLv kd str st o0 L) ∧ BcR G' L (bcLv kd str st o0 L) ∧ FrL L G G' := by
  obtain ⟨G1, e1, hO1, f1, g1⟩ := r_copyO hL hO
  obtain ⟨G2, e2, hB2, f2, g2⟩ := r_copyB hL (G := G1) (bc := bcLv kd str st o0 (L - 1)) (fun p hp => (g1 _).trans (hB p hp))
  have f3 := f1.trans f2
  have s26 : ∀ k, G2 26 0 k = G 26 0 k := fun k => f3.1 26 0 k (fun z => by rcases z.2 with z | z <;> exact absurd z (by decide))
  have hlim : G2 26 0 (280 + 3 * (L : Int) + 1) = st (3 * L + 1) := by
    rw [s26, show (280 : Int) + 3 * (L : Int) + 1 = 280 + ((3 * L + 1 : Nat) : Int) by omega]
    exact hS _ (by omega)
  have hb := (hst.1 L hL.2).2.1
  obtain ⟨G3, e3, hO3, hB3, f4⟩ := r_merges (kd := kd) (st := str) hL (lim := st (3 * L + 1)) ⟨hb.1, by omega⟩ 16 (ownLv kd str st o0 (L - 1)) (bcLv kd str st o0 (L - 1)) G2 (by have := cnt_bd (ownLv kd str st o0 (L - 1)); omega) (fun f hf => (g2 _).trans (hO1 f hf)) hB2 (fun p hp => (s26 _).trans (hK p hp)) hlim ((s26 _).trans hs)
  obtain ⟨M, rfl⟩ : ∃ M : Nat, L = M + 1 := ⟨L - 1, by omega⟩
  exact ⟨G3, e1.trans (e2.trans e3), hO3, hB3, f3.trans f4⟩
end RPARCELS
