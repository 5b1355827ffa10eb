/-! ===== levels of parcels: the class makes those that are asked for ===== -/
def ownLv (kd : Int → Int) (str : Int) (st : Nat → Int) (o0 : Nat → Int) : Nat → Nat → Int
  | 0 => o0
  | L + 1 => mrgO kd str (st (3 * (L + 1) + 1)) 16 (ownLv kd str st o0 L)
def CPa (G : GG) (ow : Nat → Nat → Int) (m : Nat) : Prop := G 15 0 5 = m ∧ 1 ≤ m ∧ m ≤ 5 ∧ ∀ L : Nat, L < m → OwC G (lix L) (ow L)
/-- the cells of the made levels of parcels -/
def FPar (t : Nat) (i : Int) : Prop := (11 ≤ i ∧ (t = 8 ∨ t = 9 ∨ t = 10)) ∨ t = 15
theorem ownLv_ok {kd : Int → Int} {str : Int} {st : Nat → Int} {o0 : Nat → Int} (ho : okO o0) : ∀ L : Nat, okO (ownLv kd str st o0 L)
  | 0 => ho
  | L + 1 => okO_mrg 16 (ownLv_ok ho L)
section PARCELS
variable {kd : Int → Int} {str : Int} {st : Nat → Int} {o0 : Nat → Int}
theorem g_plevel {x m : Nat} (hm : 1 ≤ m ∧ m < 5) {lim : Int} : ∀ (n k : Nat) (o : Nat → Int) (G : GG), k + n = 16 → OwC G (lix m) o → okO o → KdC G kd → G 1 0 5 = str →
    ∃ G', l_Lev_parcelsOf_43 x m lim 1 k G = l_Lev_parcelsOf_5 x ((m + 1 : Nat) : Int) (up G' 15 0 5 ((m + 1 : Nat) : Int)) ∧ OwC G' (lix m) (mrgO kd str lim n o) ∧ Fr (fun t j => j = lix m ∧ (t = 8 ∨ t = 9 ∨ t = 10)) G G'
  | 0, k, o, G, hk, hO, ho, hK, hs => by
    have e := e_l_Lev_parcelsOf_43 (x : Int) m lim 1 k G
    rw [if_neg (by omega), wr_id (by omega) (by omega)] at e
    exact ⟨G, e, hO, Fr.refl G⟩
  | n + 1, k, o, G, hk, hO, ho, hK, hs => by
    have e := e_l_Lev_parcelsOf_43 (x : Int) m lim 1 k G
    obtain ⟨G1, e1, hO1, f1⟩ := g_mergeSmallest (st := str) (lim := lim) hO ho hK
    rw [if_pos (by omega), if_neg (by decide), if_pos (by omega), hs, e1, wr_id (z := (k : Int) + 1) (by omega) (by omega)] at e
    simp only [bI_r] at e
    by_cases q : (smO kd str lim o).2.1 = -1
    · rw [if_pos q] at e hO1
      have e2 := e_l_Lev_parcelsOf_43 (x : Int) m lim 0 ((k : Int) + 1) G1
      refine ⟨G1, e.trans ?_, ?_, f1⟩
      · by_cases q2 : (k : Int) + 1 < 16
        · rw [if_pos q2, if_pos rfl, wr_id (by omega) (by omega)] at e2
          exact e2
        · rw [if_neg q2, wr_id (by omega) (by omega)] at e2
          exact e2
      · unfold mrgO
        rw [if_pos q]
        exact hO1
    · rw [if_neg q] at e hO1
      have h := (smO_ok kd str lim o).resolve_left q
      obtain ⟨G2, e2, hO2, f2⟩ := g_plevel hm (x := x) (lim := lim) n (k + 1) _ G1 (by omega) hO1 (okO_mg ho ⟨h.2.2.2.1, h.2.2.2.2.1⟩) (fun p hp => (f1 11 0 p (fun z => by rcases z.2 with z | z | z <;> exact absurd z (by decide))).trans (hK p hp)) ((f1 1 0 5 (fun z => by rcases z.2 with z | z | z <;> exact absurd z (by decide))).trans hs)
      refine ⟨G2, e.trans e2, ?_, f1.trans f2⟩
      unfold mrgO
      rw [if_neg q]
      exact hO2
theorem g_parcelsOf (ho : okO o0) (hst : okSt st) {x : Nat} (hx : x < 5) : ∀ (d m : Nat) (G : GG), m + d = x + 1 ∨ (x < m ∧ d = 0) → CPa G (ownLv kd str st o0) m → KdC G kd → G 1 0 5 = str → StC G 0 st →
    ∃ G' m', l_Lev_parcelsOf_5 x m G = rR 7 (lix x) G' ∧ CPa G' (ownLv kd str st o0) m' ∧ x < m' ∧ m ≤ m' ∧ Fr FPar G G' ∧ (∀ k : Int, k ≠ 5 → G' 15 0 k = G 15 0 k)
  | 0, m, G, hd, hC, hK, hs, hS => by
    refine ⟨G, m, ?_, hC, by omega, Nat.le_refl _, Fr.refl G, fun _ _ => rfl⟩
    rw [e_l_Lev_parcelsOf_5, if_pos (by omega), if_pos (by omega)]
  | d + 1, m, G, hd, hC, hK, hs, hS => by
    obtain ⟨hm, hm1, hm5, hL⟩ := hC
    have hms : m = (m - 1) + 1 := by omega
    have e5 := e_l_Lev_parcelsOf_5 (x : Int) (m : Int) G
    rw [if_neg (by omega), wr_id (z := (m : Int) - 1) (by omega) (by omega), if_pos (by omega), if_pos (by omega), e_f_Par_copyFrom] at e5
    have hli := lixS hm1
    have hne : lix (m : Int) ≠ lix ((m : Int) - 1) := by unfold lix; split <;> split <;> omega
    have hpm : ((m : Int) - 1) = ((m - 1 : Nat) : Int) := by omega
    have c3 : Fr (fun t j => j = lix m ∧ t = 8) G (cpy G 8 (lix ((m : Int) - 1)) 0 8 (lix m) 0 64) := Fr.cpy G _ _ _ _ _ ⟨rfl, rfl⟩
    have c2 : OwC (cpy G 8 (lix ((m : Int) - 1)) 0 8 (lix m) 0 64) (lix m) (ownLv kd str st o0 (m - 1)) := fun f hf => by
      rw [cpy_in (by omega) (by omega), show (0 : Int) + ((f : Int) - 0) = f by omega, hpm]
      exact hL (m - 1) (by omega) f hf
    simp only [bV_r] at e5
    generalize cpy G 8 (lix ((m : Int) - 1)) 0 8 (lix m) 0 64 = G1 at e5 c3 c2
    have es : f_She_settingOf 0 m 1 G1 = rI (st (3 * m + 1)) G1 := by
      have h9 := hS (3 * m + 1) (by omega)
      rw [e_f_She_settingOf, wr_id (z := (m : Int) * 3) (by omega) (by omega), wr_id (z := (m : Int) * 3 + 1) (by omega) (by omega), if_pos (by omega), c3 12 0 _ (fun z => absurd z.2 (by decide))]
      rw [show (m : Int) * 3 + 1 = ((3 * m + 1 : Nat) : Int) by omega, h9]
    rw [es] at e5
    simp only [bI_r] at e5
    obtain ⟨G2, e6, h6, f6⟩ := g_plevel (x := x) (lim := st (3 * m + 1)) ⟨hm1, by omega⟩ 16 0 _ G1 rfl c2 (ownLv_ok ho (m - 1)) (fun p hp => (c3 11 0 p (fun z => absurd z.2 (by decide))).trans (hK p hp)) ((c3 1 0 5 (fun z => absurd z.2 (by decide))).trans hs)
    have hlv : ownLv kd str st o0 m = mrgO kd str (st (3 * m + 1)) 16 (ownLv kd str st o0 (m - 1)) := by
      conv => lhs; rw [hms]
      show mrgO kd str (st (3 * (m - 1 + 1) + 1)) 16 _ = _
      rw [← hms]
    rw [← hlv] at h6
    have c4 : Fr (fun t j => j = lix m ∧ (t = 8 ∨ t = 9 ∨ t = 10)) G G2 := (c3.mono (fun t j z => ⟨z.1, Or.inl z.2⟩)).trans f6
    have hF : Fr FPar G (up G2 15 0 5 ((m + 1 : Nat) : Int)) := (c4.mono (fun t j h => Or.inl ⟨by omega, h.2⟩)).trans (Fr.up _ _ _ (Or.inr rfl))
    have h15 : ∀ k : Int, k ≠ 5 → (up G2 15 0 5 ((m + 1 : Nat) : Int)) 15 0 k = G 15 0 k := fun k hk => by rw [up_k hk, c4 15 0 k (by omega)]
    have hC2 : CPa (up G2 15 0 5 ((m + 1 : Nat) : Int)) (ownLv kd str st o0) (m + 1) := by
      refine ⟨up_at _ _ _ _ _, by omega, by omega, fun L hLm f hf => ?_⟩
      rw [up_t (by decide)]
      by_cases hLe : L = m
      · subst hLe
        exact h6 f hf
      · have hnl : lix (L : Int) ≠ lix (m : Int) := by unfold lix; split <;> split <;> omega
        rw [c4 _ _ _ (fun z => hnl z.1)]
        exact hL L (by omega) f hf
    obtain ⟨G3, m3, e7, h7, h8, h9, f7, g7⟩ := g_parcelsOf ho hst hx d (m + 1) _ (by omega) hC2 (fun p hp => (hF 11 0 p (by unfold FPar; omega)).trans (hK p hp)) ((hF 1 0 5 (by unfold FPar; omega)).trans hs) (fun j hj => (hF 12 0 _ (by unfold FPar; omega)).trans (hS j hj))
    exact ⟨G3, m3, e5.trans (e6.trans e7), h7, h8, by omega, hF.trans f7, fun k hk => (g7 k hk).trans (h15 k hk)⟩
theorem g_parcels (ho : okO o0) (hst : okSt st) {x m : Nat} (hx : x < 5) {G : GG} (hC : CPa G (ownLv kd str st o0) m) (hK : KdC G kd) (hs : G 1 0 5 = str) (hS : StC G 0 st) :
    ∃ G' m', f_Lev_parcelsOf x G = rR 7 (lix x) G' ∧ CPa G' (ownLv kd str st o0) m' ∧ x < m' ∧ m ≤ m' ∧ Fr FPar G G' ∧ (∀ k : Int, k ≠ 5 → G' 15 0 k = G 15 0 k) := by
  rw [e_f_Lev_parcelsOf, hC.1]
  exact g_parcelsOf ho hst hx (x + 1 - m) m G (by omega) hC hK hs hS
end PARCELS
