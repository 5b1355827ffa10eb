/-! ===== reading lines: extent, line over a position, sizes, vertices ===== -/
def firO : Nat → Nat → (Nat → Bool) → Int
  | _, 0, _ => -1
  | a, n + 1, f => bif f a then (a : Int) else firO (a + 1) n f
theorem loop_fir {α : Type} {l : Nat → α} {f : Nat → Bool} {r : Int → α} : ∀ (n a : Nat), (∀ k, a ≤ k → k < a + n → f k = true → l k = r k) → (∀ k, a ≤ k → k < a + n → f k = false → l k = l (k + 1)) → l (a + n) = r (-1) → l a = r (firO a n f)
  | 0, a, h1, h2, h3 => h3
  | n + 1, a, h1, h2, h3 => by
    have h3' : l (a + 1 + n) = r (-1) := (congrArg l (show a + 1 + n = a + (n + 1) by omega)).trans h3
    have ih := loop_fir n (a + 1) (fun k h4 h5 => h1 k (by omega) (by omega)) (fun k h4 h5 => h2 k (by omega) (by omega)) h3'
    unfold firO
    cases hf : f a with
    | true => rw [h1 a (Nat.le_refl _) (by omega) hf]; rfl
    | false => rw [h2 a (Nat.le_refl _) (by omega) hf, ih]; rfl
theorem firO_congr {f g : Nat → Bool} : ∀ (n a : Nat), (∀ k, a ≤ k → k < a + n → f k = g k) → firO a n f = firO a n g
  | 0, a, h => rfl
  | n + 1, a, h => by
    unfold firO
    rw [h a (Nat.le_refl _) (by omega), firO_congr n (a + 1) (fun k h1 h2 => h k (by omega) (by omega))]
theorem firO_spec {f : Nat → Bool} : ∀ (n a : Nat), (firO a n f = -1 ∧ ∀ k : Nat, a ≤ k → k < a + n → f k = false) ∨ ∃ k : Nat, a ≤ k ∧ k < a + n ∧ f k = true ∧ firO a n f = (k : Int) ∧ ∀ j : Nat, a ≤ j → j < k → f j = false
  | 0, a => Or.inl ⟨rfl, fun k h1 h2 => absurd h2 (by omega)⟩
  | n + 1, a => by
    unfold firO
    cases hf : f a with
    | true => exact Or.inr ⟨a, Nat.le_refl _, by omega, hf, rfl, fun j h1 h2 => absurd h2 (by omega)⟩
    | false =>
      rcases firO_spec (f := f) n (a + 1) with ⟨h1, h2⟩ | ⟨k, h1, h2, h3, h4, h5⟩
      · refine Or.inl ⟨h1, fun k h3 h4 => ?_⟩
        by_cases q : k = a
        · rw [q]; exact hf
        · exact h2 k (by omega) (by omega)
      · refine Or.inr ⟨k, by omega, by omega, h3, h4, fun j h6 h7 => ?_⟩
        by_cases q : j = a
        · rw [q]; exact hf
        · exact h5 j (by omega) h7
def dA (a b : Int) : Int := if a < b then b - a else a - b
theorem dA_c (a b : Int) : dA a b = dA b a := by unfold dA; split <;> split <;> omega
theorem mAbs_d {a b : Int} (ha : 0 ≤ a ∧ a < 64) (hb : 0 ≤ b ∧ b < 64) : mAbs (wr (a - b)) = dA a b := by
  rw [wr_id (by omega) (by omega)]
  unfold mAbs dA
  by_cases h : a < b
  · rw [if_neg (by omega), if_pos h, wr_id (by omega) (by omega)]
    omega
  · rw [if_pos (by omega), if_neg h]
theorem dA_bd {a b : Int} (ha : 0 ≤ a ∧ a < 64) (hb : 0 ≤ b ∧ b < 64) : 0 ≤ dA a b ∧ dA a b ≤ 63 := by unfold dA; split <;> omega
def segX (cd : Nat → Nat → Int) (l k : Nat) : Int := dA (cd l k / 64) (cd l (k + 1) / 64) + dA (cd l k % 64) (cd l (k + 1) % 64)
def exO (sz : Nat → Nat) (cd : Nat → Nat → Int) (l : Nat) : Int := 0 + sumB 0 (sz l - 1) (segX cd l)
theorem wk10 {l k : Nat} (hl : l < 6) (hk : k < 12) : wr (10 * (l : Int) + (k : Int) + 1) = 10 * (l : Int) + ((k + 1 : Nat) : Int) := by rw [wr_id (by omega) (by omega)]; omega
section RL
variable {G : GG} {i : Int} {nl : Nat} {sz : Nat → Nat} {cd : Nat → Nat → Int} {mk : Nat → Nat → Nat}
theorem seg_bd (ho : okLn nl sz cd) {l k : Nat} (hl : l < nl) (hk : k + 1 < sz l) : 0 ≤ segX cd l k ∧ segX cd l k ≤ (126 : Nat) := by
  have h1 := isC_xy ((ho.2 l hl).2.1 k (by omega))
  have h2 := isC_xy ((ho.2 l hl).2.1 (k + 1) hk)
  have h3 := dA_bd h1.1 h2.1
  have h4 := dA_bd h1.2 h2.2
  unfold segX
  omega
theorem g_extent (hL : LnC G i nl sz cd) (ho : okLn nl sz cd) {l : Nat} (hl : l < nl) : f_Lin_extentOf i l G = rI (exO sz cd l) G := by
  have h6 := ho.1
  obtain ⟨hz, hc, -⟩ := ho.2 l hl
  have a0 : wr ((l : Int) * 10) = 10 * (l : Int) + ((0 : Nat) : Int) := by rw [wr_id (by omega) (by omega)]; omega
  rw [e_f_Lin_extentOf, a0]
  refine loop_sumW (l := fun s (k : Nat) => l_Lin_extentOf_10 i l s (10 * (l : Int) + ((0 : Nat) : Int)) (10 * (l : Int) + (k : Int)) G) (f := segX cd l) (r := fun s => rI s G) (m := 126) (sz l - 1) 0 0 (fun k s _ hk hs0 hs1 => ?_) (fun s => ?_) (fun k _ hk => seg_bd ho hl (by omega)) (Int.le_refl _) (by decide)
  · have hk : k + 1 < sz l := by omega
    have h1 := isC_xy (hc k (by omega))
    have h2 := isC_xy (hc (k + 1) hk)
    have b1 := dA_bd h1.1 h2.1
    have b2 := dA_bd h1.2 h2.2
    have e := e_l_Lin_extentOf_10 i l s (10 * (l : Int) + ((0 : Nat) : Int)) (10 * (l : Int) + (k : Int)) G
    have v1 := (hL.2 l hl).2 k (by omega)
    have v2 := (hL.2 l hl).2 (k + 1) hk
    have c1 := hc k (by omega)
    have c2 := hc (k + 1) hk
    rw [(hL.2 l hl).1, if_pos (by omega), wr_id (z := 10 * (l : Int) + ((0 : Nat) : Int) + (sz l : Int)) (by omega) (by omega), wr_id (z := 10 * (l : Int) + ((0 : Nat) : Int) + (sz l : Int) - 1) (by omega) (by omega), if_pos (by omega), wk10 (show l < 6 by omega) (show k < 12 by omega)] at e
    have cA : (0 : Int) ≤ 10 * (l : Int) + (k : Int) ∧ 10 * (l : Int) + (k : Int) < 60 := by clear e; omega
    have cB : (0 : Int) ≤ 10 * (l : Int) + ((k + 1 : Nat) : Int) ∧ 10 * (l : Int) + ((k + 1 : Nat) : Int) < 60 := by clear e; omega
    simp only [if_pos cA, if_pos cB] at e
    rw [v1, v2, bShr6 c1.1 c1.2, bShr6 c2.1 c2.2, bAnd63 c1.1 c1.2, bAnd63 c2.1 c2.2, mAbs_d h1.1 h2.1, mAbs_d h1.2 h2.2] at e
    rw [e]
    unfold segX
    clear e v1 v2
    rw [wr_id (z := s + dA (cd l k / 64) (cd l (k + 1) / 64)) (by omega) (by omega), wr_id (by omega) (by omega), Int.add_assoc]
  · have e := e_l_Lin_extentOf_10 i l s (10 * (l : Int) + ((0 : Nat) : Int)) (10 * (l : Int) + ((0 + (sz l - 1) : Nat) : Int)) G
    rw [(hL.2 l hl).1, if_pos (by omega), wr_id (z := 10 * (l : Int) + ((0 : Nat) : Int) + (sz l : Int)) (by omega) (by omega), wr_id (z := 10 * (l : Int) + ((0 : Nat) : Int) + (sz l : Int) - 1) (by omega) (by omega), if_neg (by omega)] at e
    exact e
theorem r_extent (hV : LnV G nl sz cd mk) (ho : okLn nl sz cd) {l : Nat} (hl : l < nl) : l_Mod_extent_50 l 0 (wr (10 * (l : Int))) G = rI (exO sz cd l) G := by
  have h6 := ho.1
  obtain ⟨hz, hc, -⟩ := ho.2 l hl
  have a0 : wr (10 * (l : Int)) = 10 * (l : Int) + ((0 : Nat) : Int) := by rw [wr_id (by omega) (by omega)]; omega
  rw [a0]
  refine loop_sumW (l := fun s (k : Nat) => l_Mod_extent_50 l s (10 * (l : Int) + (k : Int)) G) (f := segX cd l) (r := fun s => rI s G) (m := 126) (sz l - 1) 0 0 (fun k s _ hk hs0 hs1 => ?_) (fun s => ?_) (fun k _ hk => seg_bd ho hl (by omega)) (Int.le_refl _) (by decide)
  · have hk : k + 1 < sz l := by omega
    have h1 := isC_xy (hc k (by omega))
    have h2 := isC_xy (hc (k + 1) hk)
    have b1 := dA_bd h1.1 h2.1
    have b2 := dA_bd h1.2 h2.2
    have e := e_l_Mod_extent_50 l s (10 * (l : Int) + (k : Int)) G
    obtain ⟨v1, v3, -⟩ := (hV.2 l hl).2 k (by omega)
    obtain ⟨v2, v4, -⟩ := (hV.2 l hl).2 (k + 1) hk
    rw [a0, (hV.2 l hl).1, if_pos (by omega), wk10 (show l < 6 by omega) (show k < 12 by omega), wr_id (z := 10 * (l : Int) + ((0 : Nat) : Int) + (sz l : Int)) (by omega) (by omega), if_pos (by omega)] at e
    have cA : (0 : Int) ≤ 10 * (l : Int) + (k : Int) ∧ 10 * (l : Int) + (k : Int) < 60 := by clear e; omega
    have cB : (0 : Int) ≤ 10 * (l : Int) + ((k + 1 : Nat) : Int) ∧ 10 * (l : Int) + ((k + 1 : Nat) : Int) < 60 := by clear e; omega
    simp only [if_pos cA, if_pos cB] at e
    rw [v1, v2, v3, v4, mAbs_d h2.1 h1.1, mAbs_d h2.2 h1.2, dA_c (cd l (k + 1) / 64), dA_c (cd l (k + 1) % 64)] at e
    rw [e]
    unfold segX
    clear e v1 v2 v3 v4 a0
    rw [wr_id (z := dA (cd l k / 64) (cd l (k + 1) / 64) + dA (cd l k % 64) (cd l (k + 1) % 64)) (by omega) (by omega), wr_id (by omega) (by omega)]
  · have e := e_l_Mod_extent_50 l s (10 * (l : Int) + ((0 + (sz l - 1) : Nat) : Int)) G
    rw [a0, (hV.2 l hl).1, if_pos (by omega), wr_id (z := 10 * (l : Int) + ((0 : Nat) : Int) + (sz l : Int)) (by omega) (by omega), wr_id (z := 10 * (l : Int) + ((0 + (sz l - 1) : Nat) : Int) + 1) (by omega) (by omega), if_neg (by omega)] at e
    exact e
/-- the first line over a position -/
def ovL (sz : Nat → Nat) (cd : Nat → Nat → Int) (p : Int) (l : Nat) : Bool := anyB 0 (sz l - 1) fun k => onS (cd l k) (cd l (k + 1)) p
theorem g_lineOver (hL : LnC G i nl sz cd) (ho : okLn nl sz cd) {p : Int} (hp : isC p) : f_Lin_lineOver i p G = rI (firO 0 nl (ovL sz cd p)) G := by
  have h6 := ho.1
  rw [e_f_Lin_lineOver]
  have seg : ∀ l : Nat, l < nl → l_Lin_lineOver_2 i p l G = bif ovL sz cd p l then rI l G else l_Lin_lineOver_2 i p ((l + 1 : Nat) : Int) G := by
    intro l hl
    obtain ⟨hz, hc, -⟩ := ho.2 l hl
    have a0 : wr ((l : Int) * 10) = 10 * (l : Int) + ((0 : Nat) : Int) := by rw [wr_id (by omega) (by omega)]; omega
    have e := e_l_Lin_lineOver_2 i p l G
    rw [hL.1, if_pos (by omega), a0] at e
    refine e.trans ?_
    refine loop_any (l := fun (k : Nat) => l_Lin_lineOver_18 i p l (10 * (l : Int) + ((0 : Nat) : Int)) (10 * (l : Int) + (k : Int)) G) (f := fun k => onS (cd l k) (cd l (k + 1)) p) (sz l - 1) 0 (fun k _ hk hf => ?_) (fun k _ hk hf => ?_) ?_
    · have hk : k + 1 < sz l := by omega
      have e := e_l_Lin_lineOver_18 i p l (10 * (l : Int) + ((0 : Nat) : Int)) (10 * (l : Int) + (k : Int)) G
      have v1 := (hL.2 l hl).2 k (by omega)
      have v2 := (hL.2 l hl).2 (k + 1) hk
      rw [(hL.2 l hl).1, if_pos (by omega), wr_id (z := 10 * (l : Int) + ((0 : Nat) : Int) + (sz l : Int)) (by omega) (by omega), wr_id (z := 10 * (l : Int) + ((0 : Nat) : Int) + (sz l : Int) - 1) (by omega) (by omega), if_pos (by omega), if_pos (by omega), wk10 (show l < 6 by omega) (show k < 12 by omega), if_pos (by omega), v1, v2, g_onS G (hc k (by omega)) (hc (k + 1) hk) hp, hf] at e
      exact e
    · have hk : k + 1 < sz l := by omega
      have e := e_l_Lin_lineOver_18 i p l (10 * (l : Int) + ((0 : Nat) : Int)) (10 * (l : Int) + (k : Int)) G
      have v1 := (hL.2 l hl).2 k (by omega)
      have v2 := (hL.2 l hl).2 (k + 1) hk
      rw [(hL.2 l hl).1, if_pos (by omega), wr_id (z := 10 * (l : Int) + ((0 : Nat) : Int) + (sz l : Int)) (by omega) (by omega), wr_id (z := 10 * (l : Int) + ((0 : Nat) : Int) + (sz l : Int) - 1) (by omega) (by omega), if_pos (by omega), if_pos (by omega), wk10 (show l < 6 by omega) (show k < 12 by omega), if_pos (by omega), v1, v2, g_onS G (hc k (by omega)) (hc (k + 1) hk) hp, hf] at e
      exact e
    · have e := e_l_Lin_lineOver_18 i p l (10 * (l : Int) + ((0 : Nat) : Int)) (10 * (l : Int) + ((0 + (sz l - 1) : Nat) : Int)) G
      rw [(hL.2 l hl).1, if_pos (by omega), wr_id (z := 10 * (l : Int) + ((0 : Nat) : Int) + (sz l : Int)) (by omega) (by omega), wr_id (z := 10 * (l : Int) + ((0 : Nat) : Int) + (sz l : Int) - 1) (by omega) (by omega), if_neg (by omega), wr_sc (show l < 6 by omega) (by decide)] at e
      exact e
  refine loop_fir (l := fun (l : Nat) => l_Lin_lineOver_2 i p l G) (r := fun v => rI v G) nl 0 (fun l _ hl hf => ?_) (fun l _ hl hf => ?_) ?_
  · rw [seg l (by omega), hf]; rfl
  · rw [seg l (by omega), hf]; rfl
  · have e := e_l_Lin_lineOver_2 i p ((0 + nl : Nat) : Int) G
    rw [hL.1, if_neg (by omega)] at e
    exact e
theorem r_lineOver (hV : LnV G nl sz cd mk) (ho : okLn nl sz cd) {p : Int} (hp : isC p) : f_Mod_lineWith (p / 64) (p % 64) G = rI (firO 0 nl (ovL sz cd p)) G := by
  have h6 := ho.1
  rw [e_f_Mod_lineWith]
  have seg : ∀ l : Nat, l < nl → l_Mod_lineWith_2 (p / 64) (p % 64) l G = bif ovL sz cd p l then rI l G else l_Mod_lineWith_2 (p / 64) (p % 64) ((l + 1 : Nat) : Int) G := by
    intro l hl
    obtain ⟨hz, hc, hd⟩ := ho.2 l hl
    have e := e_l_Mod_lineWith_2 (p / 64) (p % 64) l G
    rw [hV.1, if_pos (by omega)] at e
    refine e.trans ?_
    have stp : ∀ k : Nat, k + 1 < sz l → l_Mod_lineWith_15 (p / 64) (p % 64) l k G = if onS (cd l k) (cd l (k + 1)) p = false then l_Mod_lineWith_15 (p / 64) (p % 64) l ((k + 1 : Nat) : Int) G else rI l G := by
      intro k hk
      have e := e_l_Mod_lineWith_15 (p / 64) (p % 64) l k G
      rw [(hV.2 l hl).1, if_pos (by omega), wr_sc (show k < 10 by omega) (by decide), if_pos (by omega), wr_10 (show l < 6 by omega) (show k < 10 by omega), wk10 (show l < 6 by omega) (show k < 12 by omega), r_onSeg G (hV.vat ho hl (show k < sz l by omega) rfl) (hV.vat ho hl hk rfl) hp (hd k (k + 1) (by omega) hk)] at e
      simp only [bI_r, b2i_0] at e
      exact e
    refine loop_any (l := fun (k : Nat) => l_Mod_lineWith_15 (p / 64) (p % 64) l k G) (f := fun k => onS (cd l k) (cd l (k + 1)) p) (sz l - 1) 0 (fun k _ hk hf => ?_) (fun k _ hk hf => ?_) ?_
    · rw [stp k (by omega), hf]; rfl
    · rw [stp k (by omega), hf]; rfl
    · have e := e_l_Mod_lineWith_15 (p / 64) (p % 64) l ((0 + (sz l - 1) : Nat) : Int) G
      rw [(hV.2 l hl).1, if_pos (by omega), wr_id (by omega) (by omega), if_neg (by omega), wr_sc (show l < 6 by omega) (by decide)] at e
      exact e
  refine loop_fir (l := fun (l : Nat) => l_Mod_lineWith_2 (p / 64) (p % 64) l G) (r := fun v => rI v G) nl 0 (fun l _ hl hf => ?_) (fun l _ hl hf => ?_) ?_
  · rw [seg l (by omega), hf]; rfl
  · rw [seg l (by omega), hf]; rfl
  · have e := e_l_Mod_lineWith_2 (p / 64) (p % 64) ((0 + nl : Nat) : Int) G
    rw [hV.1, if_neg (by omega)] at e
    exact e
/-- how many vertices there are -/
def toO (nl : Nat) (sz : Nat → Nat) : Int := 0 + sumB 0 nl fun l => (sz l : Int)
theorem g_total (hL : LnC G i nl sz cd) (hn : nl ≤ 6) (hz : ∀ l : Nat, l < nl → sz l ≤ 10) : f_Lin_total i G = rI (toO nl sz) G := by
  rw [e_f_Lin_total]
  refine loop_sumW (l := fun s (k : Nat) => l_Lin_total_4 i s k G) (f := fun l => (sz l : Int)) (r := fun s => rI s G) (m := 10) nl 0 0 (fun k s _ hk hs0 hs1 => ?_) (fun s => ?_) (fun k _ hk => ⟨Int.natCast_nonneg _, by have := hz k (by omega); omega⟩) (Int.le_refl _) (by decide)
  · have hk : k < nl := by omega
    have h9 := hz k hk
    have e := e_l_Lin_total_4 i s k G
    rw [hL.1, if_pos (by omega), (hL.2 k hk).1, if_pos (by omega), wr_id (z := s + (sz k : Int)) (by omega) (by omega), wr_sc (show k < 6 by omega) (by decide)] at e
    exact e
  · have e := e_l_Lin_total_4 i s ((0 + nl : Nat) : Int) G
    rw [hL.1, if_neg (by omega)] at e
    exact e
end RL
