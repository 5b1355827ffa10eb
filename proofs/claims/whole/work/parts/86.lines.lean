/-! ===== levels of lines: the class makes those that are asked for ===== -/
def lvV (nl : Nat) (sz0 : Nat → Nat) (cd0 : Nat → Nat → Int) (np : Nat) (pt : Nat → Nat → Int) (st : Nat → Int) : Nat → LV
  | 0 => (sz0, fun _ k => k)
  | L + 1 => dropAll nl cd0 np pt (st (3 * (L + 1))) 60 (lvV nl sz0 cd0 np pt st L)
/-- settings are as the document bounds them -/
def okSt (st : Nat → Int) : Prop := (∀ L : Nat, L < 5 → (0 ≤ st (3 * L) ∧ st (3 * L) ≤ 500) ∧ (0 ≤ st (3 * L + 1) ∧ st (3 * L + 1) ≤ 20) ∧ (0 ≤ st (3 * L + 2) ∧ st (3 * L + 2) ≤ 9)) ∧ st 0 = 0 ∧ st 1 = 0 ∧ st 2 = 0
def StC (G : GG) (i : Int) (st : Nat → Int) : Prop := ∀ j : Nat, j < 15 → G 12 i j = st j
theorem okW0 {nl : Nat} {sz0 : Nat → Nat} {cd0 : Nat → Nat → Int} (ho : okLn nl sz0 cd0) : okW nl sz0 (sz0, fun _ k => k) := fun l hl => ⟨⟨(ho.2 l hl).1.1, Nat.le_refl _⟩, fun _ hk => hk, fun _ _ hj _ => hj⟩
theorem lvV_ok {nl : Nat} {sz0 : Nat → Nat} {cd0 : Nat → Nat → Int} {np : Nat} {pt : Nat → Nat → Int} {st : Nat → Int} (ho : okLn nl sz0 cd0) : ∀ L : Nat, okW nl sz0 (lvV nl sz0 cd0 np pt st L)
  | 0 => okW0 ho
  | L + 1 => dropAll_ok ho 60 _ (lvV_ok ho L)
theorem lix0 : lix 0 = 0 := rfl
theorem lixS {L : Nat} (h : 1 ≤ L) : lix (L : Int) = (L : Int) + 10 := by unfold lix; rw [if_neg (by omega)]
/-- the cells of the made levels of lines -/
def FLin (t : Nat) (i : Int) : Prop := (11 ≤ i ∧ (t = 2 ∨ t = 3 ∨ t = 4)) ∨ t = 15
def CLn (G : GG) (nl : Nat) (cd0 : Nat → Nat → Int) (Ls : Nat → LV) (m : Nat) : Prop := G 15 0 4 = m ∧ 1 ≤ m ∧ m ≤ 5 ∧ ∀ L : Nat, L < m → LnC G (lix L) nl (Ls L).1 (cdM cd0 (Ls L).2)
theorem LnC.fr {G G' : GG} {i : Int} {nl : Nat} {sz : Nat → Nat} {cd : Nat → Nat → Int} (h : LnC G i nl sz cd) (h2 : G' 2 i 2 = G 2 i 2) (h3 : ∀ k, G' 3 i k = G 3 i k) (h4 : ∀ k, G' 4 i k = G 4 i k) : LnC G' i nl sz cd :=
  ⟨by rw [h2]; exact h.1, fun l hl => ⟨by rw [h4]; exact (h.2 l hl).1, fun k hk => by rw [h3]; exact (h.2 l hl).2 k hk⟩⟩
section LINES
variable {nl : Nat} {sz0 : Nat → Nat} {cd0 : Nat → Nat → Int} {np : Nat} {pt : Nat → Nat → Int} {st : Nat → Int}
theorem g_copyFrom {i j : Int} {sz : Nat → Nat} {cd : Nat → Nat → Int} {G : GG} (hij : i ≠ j) (hn : nl ≤ 6) (hs : ∀ l : Nat, l < nl → sz l ≤ 10) (h : LnC G j nl sz cd) : ∃ G', f_Lin_copyFrom i j G = rV G' ∧ LnC G' i nl sz cd ∧ Fr (fun t o => o = i ∧ (t = 2 ∨ t = 3 ∨ t = 4)) G G' := by
  have e := e_f_Lin_copyFrom i j G
  refine ⟨_, e, ⟨?_, fun l hl => ⟨?_, fun k hk => ?_⟩⟩, ((Fr.cpy G _ _ _ _ _ ⟨rfl, by omega⟩).trans (Fr.cpy _ _ _ _ _ _ ⟨rfl, by omega⟩)).trans (Fr.up _ _ _ ⟨rfl, by omega⟩)⟩
  · rw [up_at, cpy_t (by decide), cpy_t (by decide)]
    exact h.1
  · rw [up_t (by decide), cpy_in (by omega) (by omega), cpy_t (by decide)]
    rw [show (0 : Int) + ((l : Int) - 0) = l by omega]
    exact (h.2 l hl).1
  · have := hs l hl
    rw [up_t (by decide), cpy_t (by decide), cpy_in (by omega) (by omega)]
    rw [show (0 : Int) + (10 * (l : Int) + (k : Int) - 0) = 10 * (l : Int) + k by omega]
    exact (h.2 l hl).2 k hk
theorem g_linesOf (ho : okLn nl sz0 cd0) (hp : okPt np pt) (hst : okSt st) {x : Nat} (hx : x < 5) : ∀ (d m : Nat) (G : GG), m + d = x + 1 ∨ (x < m ∧ d = 0) → CLn G nl cd0 (lvV nl sz0 cd0 np pt st) m → PtC G 0 np pt → StC G 0 st →
    ∃ G' m', l_Lev_linesOf_5 x m G = rR 2 (lix x) G' ∧ CLn G' nl cd0 (lvV nl sz0 cd0 np pt st) m' ∧ x < m' ∧ m ≤ m' ∧ Fr FLin G G' ∧ (∀ k : Int, k ≠ 4 → G' 15 0 k = G 15 0 k)
  | 0, m, G, hd, hC, hP, hS => by
    refine ⟨G, m, ?_, hC, by omega, Nat.le_refl _, Fr.refl G, fun _ _ => rfl⟩
    rw [e_l_Lev_linesOf_5, if_pos (by omega), if_pos (by omega)]
  | d + 1, m, G, hd, hC, hP, hS => by
    obtain ⟨hm, hm1, hm5, hL⟩ := hC
    have hms : m = (m - 1) + 1 := by omega
    have e5 := e_l_Lev_linesOf_5 (x : Int) (m : Int) G
    rw [if_neg (by omega), wr_id (z := (m : Int) - 1) (by omega) (by omega), if_pos (by omega), if_pos (by omega)] at e5
    have hli := lixS hm1
    have hne : lix (m : Int) ≠ lix ((m : Int) - 1) := by unfold lix; split <;> split <;> omega
    have hpm : ((m : Int) - 1) = ((m - 1 : Nat) : Int) := by omega
    have hok := lvV_ok (np := np) (pt := pt) (st := st) ho (m - 1)
    have hln := okW.ln ho hok
    obtain ⟨G1, c1, c2, c3⟩ := g_copyFrom (nl := nl) (i := lix (m : Int)) (j := lix ((m : Int) - 1)) hne ho.1 (fun l hl => (hln.2 l hl).1.2) (by rw [hpm]; exact hL (m - 1) (by omega))
    have hP1 : PtC G1 0 np pt := ⟨by rw [c3 5 0 1 (by omega)]; exact hP.1, fun p hp j hj => by rw [c3 6 0 _ (by omega)]; exact hP.2 p hp j hj⟩
    have hS1 : StC G1 0 st := fun j hj => by rw [c3 12 0 _ (by omega)]; exact hS j hj
    have hto := (hst.1 m (by omega)).1
    have es : f_She_settingOf 0 m 0 G1 = rI (st (3 * m)) G1 := by
      have h9 := hS1 (3 * m) (by omega)
      rw [e_f_She_settingOf, wr_id (z := (m : Int) * 3) (by omega) (by omega), wr_id (z := (m : Int) * 3 + 0) (by omega) (by omega), if_pos (by omega)]
      rw [show (m : Int) * 3 + 0 = ((3 * m : Nat) : Int) by omega, h9]
    rw [c1] at e5
    simp only [bV_r, es, bI_r] at e5
    obtain ⟨G2, e6, h6, f6⟩ := g_level (x1 := (x : Int)) hm1 (show m < 5 by omega) hto ho hp 60 0 (lvV nl sz0 cd0 np pt st (m - 1)) G1 rfl c2 hok hP1
    have hlv : lvV nl sz0 cd0 np pt st m = dropAll nl cd0 np pt (st (3 * m)) 60 (lvV nl sz0 cd0 np pt st (m - 1)) := by
      conv => lhs; rw [hms]
      show dropAll nl cd0 np pt (st (3 * (m - 1 + 1))) 60 _ = _
      rw [← hms]
    rw [← hlv] at h6
    have hF1 : Fr FLin G G1 := c3.mono (fun t o h => Or.inl ⟨by omega, by omega⟩)
    have hF2 : Fr FLin G1 (up G2 15 0 4 ((m + 1 : Nat) : Int)) := (f6.mono (fun t o h => Or.inl ⟨by omega, by omega⟩)).trans (Fr.up _ _ _ (Or.inr rfl))
    have hC2 : CLn (up G2 15 0 4 ((m + 1 : Nat) : Int)) nl cd0 (lvV nl sz0 cd0 np pt st) (m + 1) := by
      refine ⟨up_at _ _ _ _ _, by omega, by omega, fun L hLm => ?_⟩
      by_cases hLe : L = m
      · subst hLe
        exact h6.fr (up_t (by decide)) (fun k => up_t (by decide)) (fun k => up_t (by decide))
      · have hnl : lix (L : Int) ≠ lix (m : Int) := by unfold lix; split <;> split <;> omega
        exact (hL L (by omega)).fr (by rw [up_t (by decide), f6 _ _ _ (fun z => hnl z.1), c3 _ _ _ (fun z => hnl z.1)]) (fun k => by rw [up_t (by decide), f6 _ _ _ (fun z => hnl z.1), c3 _ _ _ (fun z => hnl z.1)]) (fun k => by rw [up_t (by decide), f6 _ _ _ (fun z => hnl z.1), c3 _ _ _ (fun z => hnl z.1)])
    have hP2 : PtC (up G2 15 0 4 ((m + 1 : Nat) : Int)) 0 np pt := ⟨by rw [hF2 5 0 1 (by unfold FLin; omega)]; exact hP1.1, fun p hp j hj => by rw [hF2 6 0 _ (by unfold FLin; omega)]; exact hP1.2 p hp j hj⟩
    have hS2 : StC (up G2 15 0 4 ((m + 1 : Nat) : Int)) 0 st := fun j hj => by rw [hF2 12 0 _ (by unfold FLin; omega)]; exact hS1 j hj
    have h15 : ∀ k : Int, k ≠ 4 → (up G2 15 0 4 ((m + 1 : Nat) : Int)) 15 0 k = G 15 0 k := fun k hk => by rw [up_k hk, f6 15 0 k (by omega), c3 15 0 k (by omega)]
    obtain ⟨G3, m3, e7, h7, h8, h9, f7, g7⟩ := g_linesOf ho hp hst hx d (m + 1) _ (by omega) hC2 hP2 hS2
    exact ⟨G3, m3, e5.trans (e6.trans e7), h7, h8, by omega, (hF1.trans hF2).trans f7, fun k hk => (g7 k hk).trans (h15 k hk)⟩
theorem g_lines (ho : okLn nl sz0 cd0) (hp : okPt np pt) (hst : okSt st) {x m : Nat} (hx : x < 5) {G : GG} (hC : CLn G nl cd0 (lvV nl sz0 cd0 np pt st) m) (hP : PtC G 0 np pt) (hS : StC G 0 st) :
    ∃ G' m', f_Lev_linesOf x G = rR 2 (lix x) G' ∧ CLn G' nl cd0 (lvV nl sz0 cd0 np pt st) m' ∧ x < m' ∧ m ≤ m' ∧ Fr FLin G G' ∧ (∀ k : Int, k ≠ 4 → G' 15 0 k = G 15 0 k) := by
  rw [e_f_Lev_linesOf, hC.1]
  exact g_linesOf ho hp hst hx (x + 1 - m) m G (by omega) hC hP hS
end LINES
