/-! ===== a level's lines out of the lines of the one before ===== -/
abbrev LV : Type := (Nat → Nat) × (Nat → Nat → Nat)
def cdM (cd0 : Nat → Nat → Int) (mk : Nat → Nat → Nat) : Nat → Nat → Int := fun l k => cd0 l (mk l k)
theorem cdM_D (cd0 : Nat → Nat → Int) (mk : Nat → Nat → Nat) (l k : Nat) : mkD (cdM cd0 mk) l k = cdM cd0 (mkD mk l k) := by
  funext o j
  show (if o = l ∧ k ≤ j then cd0 o (mk o (j + 1)) else cd0 o (mk o j)) = cd0 o (if o = l ∧ k ≤ j then mk o (j + 1) else mk o j)
  by_cases h : o = l ∧ k ≤ j
  · rw [if_pos h, if_pos h]
  · rw [if_neg h, if_neg h]
def dropAll (nl : Nat) (cd0 : Nat → Nat → Int) (np : Nat) (pt : Nat → Nat → Int) (tol : Int) : Nat → LV → LV
  | 0, v => v
  | n + 1, v => if bestV nl v.1 (cdM cd0 v.2) np pt tol < 0 then v else dropAll nl cd0 np pt tol n (szD v.1 (bestV nl v.1 (cdM cd0 v.2) np pt tol / 10).toNat, mkD v.2 (bestV nl v.1 (cdM cd0 v.2) np pt tol / 10).toNat (bestV nl v.1 (cdM cd0 v.2) np pt tol % 10).toNat)
def okW (nl : Nat) (sz0 : Nat → Nat) (v : LV) : Prop := ∀ l : Nat, l < nl → (2 ≤ v.1 l ∧ v.1 l ≤ sz0 l) ∧ (∀ k : Nat, k < v.1 l → v.2 l k < sz0 l) ∧ ∀ j k : Nat, j < k → k < v.1 l → v.2 l j < v.2 l k
theorem okW.ln {nl : Nat} {sz0 : Nat → Nat} {cd0 : Nat → Nat → Int} {v : LV} (ho : okLn nl sz0 cd0) (h : okW nl sz0 v) : okLn nl v.1 (cdM cd0 v.2) := by
  refine ⟨ho.1, fun l hl => ?_⟩
  obtain ⟨h1, h2, h3⟩ := ho.2 l hl
  obtain ⟨k1, k2, k3⟩ := h l hl
  exact ⟨⟨by omega, by omega⟩, fun k hk => h2 _ (k2 k hk), fun j k hj hk => h3 _ _ (k3 j k hj hk) (k2 k hk)⟩
theorem okW.drop {nl : Nat} {sz0 : Nat → Nat} {v : LV} (h : okW nl sz0 v) {l k : Nat} (hl : l < nl) (hk : 1 ≤ k) (hk2 : k + 1 < v.1 l) : okW nl sz0 (szD v.1 l, mkD v.2 l k) := by
  intro o ho
  obtain ⟨k1, k2, k3⟩ := h o ho
  dsimp only
  unfold szD mkD
  by_cases hol : o = l
  · subst hol
    simp only [true_and, if_true]
    refine ⟨by omega, fun j hj => ?_, fun j j2 hj hj2 => ?_⟩
    · split
      · exact k2 _ (by omega)
      · exact k2 _ (by omega)
    · split
      · split
        · exact k3 _ _ (by omega) (by omega)
        · omega
      · split
        · exact k3 _ _ (by omega) (by omega)
        · exact k3 _ _ (by omega) (by omega)
  · simp only [hol, false_and, if_false]
    exact ⟨k1, k2, k3⟩
/-- how many may go -/
def sumN : Nat → (Nat → Nat) → Nat
  | 0, _ => 0
  | n + 1, f => sumN n f + f n
theorem sumN_le {f : Nat → Nat} {m : Nat} : ∀ {n : Nat}, (∀ k, k < n → f k ≤ m) → sumN n f ≤ n * m
  | 0, _ => by unfold sumN; omega
  | n + 1, h => by
    have h1 := sumN_le (n := n) (fun k hk => h k (by omega))
    have h2 := h n (by omega)
    unfold sumN
    rw [Nat.succ_mul]
    omega
theorem sumN_congr {f g : Nat → Nat} : ∀ {n : Nat}, (∀ k, k < n → f k = g k) → sumN n f = sumN n g
  | 0, _ => rfl
  | n + 1, h => by unfold sumN; rw [sumN_congr (fun k hk => h k (by omega)), h n (by omega)]
theorem sumN_szD {sz : Nat → Nat} {l : Nat} : ∀ {n : Nat}, l < n → 3 ≤ sz l → sumN n (fun o => szD sz l o - 2) + 1 = sumN n (fun o => sz o - 2)
  | 0, h, _ => absurd h (by omega)
  | n + 1, h, h3 => by
    unfold sumN
    by_cases hn : l = n
    · subst hn
      rw [sumN_congr (f := fun o => szD sz l o - 2) (g := fun o => sz o - 2) (fun k hk => by unfold szD; rw [if_neg (by omega)])]
      have e : szD sz l l = sz l - 1 := by unfold szD; rw [if_pos rfl]
      dsimp only
      rw [e]
      omega
    · have ih := sumN_szD (n := n) (by omega) h3
      have e : szD sz l n = sz n := by unfold szD; rw [if_neg (fun z => hn z.symm)]
      dsimp only
      rw [e]
      omega
def muV (nl : Nat) (v : LV) : Nat := sumN nl fun o => v.1 o - 2
theorem muV_le {nl : Nat} {sz0 : Nat → Nat} {cd0 : Nat → Nat → Int} {v : LV} (ho : okLn nl sz0 cd0) (h : okW nl sz0 v) : muV nl v ≤ 48 := by
  have h1 := sumN_le (f := fun o => v.1 o - 2) (m := 8) (n := nl) (fun k hk => by have := (h k hk).1; have := (ho.2 k hk).1; omega)
  have := ho.1
  unfold muV
  omega
section LEV
variable {nl : Nat} {sz0 : Nat → Nat} {cd0 : Nat → Nat → Int} {np : Nat} {pt : Nat → Nat → Int}
theorem dropAll_ok {tol : Int} (ho : okLn nl sz0 cd0) : ∀ (n : Nat) (v : LV), okW nl sz0 v → okW nl sz0 (dropAll nl cd0 np pt tol n v)
  | 0, v, h => h
  | n + 1, v, h => by
    unfold dropAll
    split
    · exact h
    · rename_i hb
      rcases best_ok (cd := cdM cd0 v.2) (np := np) (pt := pt) (tol := tol) (fun l hl => ((okW.ln ho h).2 l hl).1.2) with e | ⟨l, k, e, h1, h2, h3, -⟩
      · rw [e] at hb
        exact absurd (by decide) hb
      · have h10 := ((okW.ln ho h).2 l h1).1
        rw [e]
        have e1 : ((10 * (l : Int) + k) / 10).toNat = l := by omega
        have e2 : ((10 * (l : Int) + k) % 10).toNat = k := by omega
        rw [e1, e2]
        exact dropAll_ok ho n _ (h.drop h1 h2 h3)
/-- the class: the loop of one level -/
theorem g_level {x1 : Int} {L : Nat} (hL5 : 1 ≤ L) (hL6 : L < 5) {tol : Int} (ht : 0 ≤ tol ∧ tol ≤ 500) (ho : okLn nl sz0 cd0) (hp : okPt np pt) : ∀ (n x5 : Nat) (v : LV) (G : GG), n + x5 = 60 → LnC G (lix L) nl v.1 (cdM cd0 v.2) → okW nl sz0 v → PtC G 0 np pt →
    ∃ G', l_Lev_linesOf_43 x1 L tol 1 x5 G = l_Lev_linesOf_5 x1 ((L + 1 : Nat) : Int) (up G' 15 0 4 ((L + 1 : Nat) : Int)) ∧ LnC G' (lix L) nl (dropAll nl cd0 np pt tol n v).1 (cdM cd0 (dropAll nl cd0 np pt tol n v).2) ∧ Fr (fun t j => j = lix L ∧ (t = 3 ∨ t = 4)) G G'
  | 0, x5, v, G, hx, hLn, hv, hP => by
    refine ⟨G, ?_, hLn, Fr.refl G⟩
    rw [e_l_Lev_linesOf_43, if_neg (by omega), wr_id (by omega) (by omega)]
    rfl
  | n + 1, x5, v, G, hx, hLn, hv, hP => by
    have e43 := e_l_Lev_linesOf_43 x1 L tol 1 x5 G
    rw [if_pos (by omega), if_neg (by decide), if_pos (by omega)] at e43
    rcases g_drop hLn (okW.ln ho hv) hP hp ht with ⟨hb, e⟩ | ⟨l, k, G1, hb, ⟨h1, h2, h3⟩, e, hL1, hF⟩
    · refine ⟨G, ?_, ?_, Fr.refl G⟩
      · rw [e43, e]
        simp only [bI_r]
        rw [wr_id (z := (x5 : Int) + 1) (by omega) (by omega), e_l_Lev_linesOf_43, if_pos rfl, wr_id (by omega) (by omega)]
        rw [ite_self]
        rfl
      · unfold dropAll
        rw [hb]
        exact hLn
    · have h10 := ((okW.ln ho hv).2 l h1).1
      have e1 : ((10 * (l : Int) + k) / 10).toNat = l := by omega
      have e2 : ((10 * (l : Int) + k) % 10).toNat = k := by omega
      rw [cdM_D] at hL1
      have hli : lix L ≠ 0 := by unfold lix; omega
      have hP1 : PtC G1 0 np pt := ⟨by rw [hF 5 0 1 (by omega)]; exact hP.1, fun p hp j hj => by rw [hF 6 0 _ (by omega)]; exact hP.2 p hp j hj⟩
      obtain ⟨G', e3, h4, h5⟩ := g_level hL5 hL6 ht ho hp n (x5 + 1) (szD v.1 l, mkD v.2 l k) G1 (by omega) hL1 (hv.drop h1 h2 h3) hP1
      refine ⟨G', ?_, ?_, hF.trans h5⟩
      · rw [e43, e]
        simp only [bI_r]
        rw [wr_id (z := (x5 : Int) + 1) (by omega) (by omega)]
        exact e3
      · unfold dropAll
        rw [hb, e1, e2, if_neg (by omega)]
        exact h4
/-- the reference: the loop of one level -/
theorem r_level {L : Nat} (hL5 : 1 ≤ L) (hL6 : L < 5) {tol : Int} (ht : tol ≤ 500) (ho : okLn nl sz0 cd0) (hp : okPt np pt) : ∀ (n : Nat) (v : LV) (G : GG), muV nl v ≤ n → LnV G nl v.1 (cdM cd0 v.2) v.2 → okW nl sz0 v → PtR G np pt → G 26 0 (280 + 3 * (L : Int)) = tol →
    ∃ G', l_Mod_knows_145 L 1 G = l_Mod_knows_145 L 0 G' ∧ LnV G' nl (dropAll nl cd0 np pt tol n v).1 (cdM cd0 (dropAll nl cd0 np pt tol n v).2) (dropAll nl cd0 np pt tol n v).2 ∧ Fr FV G G' := by
  intro n
  induction n with
  | zero =>
    intro v G hx hLn hv hP htol
    have e145 := e_l_Mod_knows_145 (L : Int) 1 G
    rw [if_neg (by decide)] at e145
    have eof : f_Mod_of L 0 G = rI tol G := by
      rw [e_f_Mod_of, if_pos (by omega), e_f_Mod_setting, if_neg (by decide)]
      simp (disch := omega) only [wr_id]
      rw [if_pos (by omega), Int.add_zero, htol]
      rfl
    rw [eof] at e145
    simp only [bI_r] at e145
    rcases r_drop hLn (okW.ln ho hv) hP hp ht with ⟨hb, e⟩ | ⟨l, k, G1, hb, ⟨h1, h2, h3⟩, e, hL1, hF⟩
    · refine ⟨G, ?_, hLn, Fr.refl G⟩
      rw [e145, e]
      rfl
    · exfalso
      have h9 := sumN_szD (sz := v.1) (n := nl) h1 (by omega)
      unfold muV at hx
      omega
  | succ n ih =>
    intro v G hx hLn hv hP htol
    have e145 := e_l_Mod_knows_145 (L : Int) 1 G
    rw [if_neg (by decide)] at e145
    have eof : f_Mod_of L 0 G = rI tol G := by
      rw [e_f_Mod_of, if_pos (by omega), e_f_Mod_setting, if_neg (by decide)]
      simp (disch := omega) only [wr_id]
      rw [if_pos (by omega), Int.add_zero, htol]
      rfl
    rw [eof] at e145
    simp only [bI_r] at e145
    rcases r_drop hLn (okW.ln ho hv) hP hp ht with ⟨hb, e⟩ | ⟨l, k, G1, hb, ⟨h1, h2, h3⟩, e, hL1, hF⟩
    · refine ⟨G, ?_, ?_, Fr.refl G⟩
      · rw [e145, e]
        rfl
      · unfold dropAll
        rw [hb]
        exact hLn
    · have h10 := ((okW.ln ho hv).2 l h1).1
      have e1 : ((10 * (l : Int) + k) / 10).toNat = l := by omega
      have e2 : ((10 * (l : Int) + k) % 10).toNat = k := by omega
      rw [cdM_D] at hL1
      have hn : ∀ k : Int, G1 26 0 k = G 26 0 k := fun k => hF 26 0 k (by unfold FV; omega)
      have hP1 : PtR G1 np pt := ⟨by rw [hn]; exact hP.1, fun p hp j hj => by rw [hn]; exact hP.2 p hp j hj⟩
      have h9 := sumN_szD (sz := v.1) (n := nl) h1 (by omega)
      obtain ⟨G', e3, h4, h5⟩ := ih (szD v.1 l, mkD v.2 l k) G1 (by unfold muV at hx ⊢; dsimp only; omega) hL1 (hv.drop h1 h2 h3) hP1 (by rw [hn]; exact htol)
      refine ⟨G', ?_, ?_, hF.trans h5⟩
      · rw [e145, e]
        simp only [bI_r]
        exact e3
      · unfold dropAll
        rw [hb, e1, e2, if_neg (by omega)]
        exact h4
end LEV
