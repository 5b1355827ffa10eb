/-! ===== labels: vertices under a label; the reason, both sides ===== -/
theorem isC_xy {c : Int} (h : isC c) : (0 ≤ c / 64 ∧ c / 64 < 64) ∧ (0 ≤ c % 64 ∧ c % 64 < 64) := by
  unfold isC at h
  omega
theorem wr_sc {k n : Nat} (h : k < n) (hn : n ≤ 100) : wr ((k : Int) + 1) = ((k + 1 : Nat) : Int) := wr_id (by omega) (by omega)
theorem wr_10 {l k : Nat} (hl : l < 6) (hk : k < 10) : wr (wr (10 * (l : Int)) + (k : Int)) = 10 * (l : Int) + k := by rw [wr_id (z := 10 * (l : Int)) (by omega) (by omega), wr_id (by omega) (by omega)]
section LABV
variable {np : Nat} {pt : Nat → Nat → Int} {nl : Nat} {sz : Nat → Nat} {cd : Nat → Nat → Int} {G : GG}
theorem g_coversVertex {i : Int} (hL : LnC G (lix i) nl sz cd) (hl : okLn nl sz cd) (ho : okPt np pt) {p : Nat} (hp : p < np) (t : Int) : f_Lab_coversVertex i (lfO pt p t) (lwO pt p t) (lfO pt p t + pt p 3 - 1) (lwO pt p t + pt p 4 - 1) G = rI (b2i (cxO nl sz cd pt p t)) G := by
  have h6 := hl.1
  have inner : ∀ l : Nat, l < nl → l_Lab_coversVertex_3 i (lfO pt p t) (lwO pt p t) (lfO pt p t + pt p 3 - 1) (lwO pt p t + pt p 4 - 1) l G = bif anyB 0 (sz l) (fun k => cvO pt p t (cd l k / 64) (cd l k % 64)) then rI 1 G else l_Lab_coversVertex_3 i (lfO pt p t) (lwO pt p t) (lfO pt p t + pt p 3 - 1) (lwO pt p t + pt p 4 - 1) ((l + 1 : Nat) : Int) G := by
    intro l hln
    obtain ⟨⟨hz1, hz2⟩, hc, -⟩ := hl.2 l hln
    have e := e_l_Lab_coversVertex_3 i (lfO pt p t) (lwO pt p t) (lfO pt p t + pt p 3 - 1) (lwO pt p t + pt p 4 - 1) l G
    rw [hL.1, if_pos (by omega)] at e
    refine e.trans ?_
    refine loop_any (l := fun (k : Nat) => l_Lab_coversVertex_18 i (lfO pt p t) (lwO pt p t) (lfO pt p t + pt p 3 - 1) (lwO pt p t + pt p 4 - 1) l k G) (f := fun k => cvO pt p t (cd l k / 64) (cd l k % 64)) (rf := l_Lab_coversVertex_3 i (lfO pt p t) (lwO pt p t) (lfO pt p t + pt p 3 - 1) (lwO pt p t + pt p 4 - 1) ((l + 1 : Nat) : Int) G) (rt := rI 1 G) (sz l) 0 (fun k _ hk hf => ?_) (fun k _ hk hf => ?_) ?_
    · have hk : k < sz l := by omega
      have e2 := e_l_Lab_coversVertex_18 i (lfO pt p t) (lwO pt p t) (lfO pt p t + pt p 3 - 1) (lwO pt p t + pt p 4 - 1) l k G
      rw [if_pos (by omega), (hL.2 l hln).1, if_pos (by omega), g_cod hL hl hln hk] at e2
      simp only [bI_r] at e2
      rw [bShr6 (hc k hk).1 (hc k hk).2, bAnd63 (hc k hk).1 (hc k hk).2] at e2
      unfold cvO at hf
      have a2 := of_decide_eq_true hf
      generalize cd l k / 64 = x at e2 a2
      generalize cd l k % 64 = y at e2 a2
      rw [if_neg (by omega), if_neg (by omega), if_neg (by omega), if_neg (by omega)] at e2
      exact e2
    · have hk : k < sz l := by omega
      have e2 := e_l_Lab_coversVertex_18 i (lfO pt p t) (lwO pt p t) (lfO pt p t + pt p 3 - 1) (lwO pt p t + pt p 4 - 1) l k G
      rw [if_pos (by omega), (hL.2 l hln).1, if_pos (by omega), g_cod hL hl hln hk] at e2
      simp only [bI_r, wr_sc hk (Nat.le_trans hz2 (by decide))] at e2
      rw [bShr6 (hc k hk).1 (hc k hk).2, bAnd63 (hc k hk).1 (hc k hk).2] at e2
      unfold cvO at hf
      have a2 := of_decide_eq_false hf
      refine e2.trans ?_
      clear e2
      generalize cd l k / 64 = x at a2 ⊢
      generalize cd l k % 64 = y at a2 ⊢
      by_cases c1 : x < lfO pt p t
      · rw [if_pos c1]
      · rw [if_neg c1]
        by_cases c2 : lfO pt p t + pt p 3 - 1 < x
        · rw [if_pos c2]
        · rw [if_neg c2]
          by_cases c3 : y < lwO pt p t
          · rw [if_pos c3]
          · rw [if_neg c3]
            by_cases c4 : lwO pt p t + pt p 4 - 1 < y
            · rw [if_pos c4]
            · exact absurd (by omega) a2
    · show l_Lab_coversVertex_18 i (lfO pt p t) (lwO pt p t) (lfO pt p t + pt p 3 - 1) (lwO pt p t + pt p 4 - 1) l ((0 + sz l : Nat) : Int) G = _
      rw [e_l_Lab_coversVertex_18, (hL.2 l hln).1, if_pos (by omega), if_neg (by omega), wr_id (by omega) (by omega)]
      rfl
  rw [e_f_Lab_coversVertex]
  have h := loop_any (l := fun (l : Nat) => l_Lab_coversVertex_3 i (lfO pt p t) (lwO pt p t) (lfO pt p t + pt p 3 - 1) (lwO pt p t + pt p 4 - 1) l G) (f := fun l => anyB 0 (sz l) (fun k => cvO pt p t (cd l k / 64) (cd l k % 64))) (rf := rI 0 G) (rt := rI 1 G) nl 0 (fun l _ hln hf => by rw [inner l (by omega), hf]; rfl) (fun l _ hln hf => by rw [inner l (by omega), hf]; rfl) (by
    show l_Lab_coversVertex_3 i (lfO pt p t) (lwO pt p t) (lfO pt p t + pt p 3 - 1) (lwO pt p t + pt p 4 - 1) ((0 + nl : Nat) : Int) G = _
    rw [e_l_Lab_coversVertex_3, hL.1, if_neg (by omega)])
  refine h.trans ?_
  unfold cxO
  cases anyB 0 nl (fun l => anyB 0 (sz l) fun k => cvO pt p t (cd l k / 64) (cd l k % 64)) with
  | true => rfl
  | false => rfl
theorem r_coversVertex {mk : Nat → Nat → Nat} (hL : LnV G nl sz cd mk) (hl : okLn nl sz cd) (hP : PtR G np pt) (ho : okPt np pt) {p : Nat} (hp : p < np) (t : Int) : l_Mod_refused_194 p t 0 G = rI (if cxO nl sz cd pt p t = true then 4 else 0) G := by
  have h6 := hl.1
  have inner : ∀ l : Nat, l < nl → l_Mod_refused_194 p t l G = bif anyB 0 (sz l) (fun k => cvO pt p t (cd l k / 64) (cd l k % 64)) then rI 4 G else l_Mod_refused_194 p t ((l + 1 : Nat) : Int) G := by
    intro l hln
    obtain ⟨⟨hz1, hz2⟩, hc, -⟩ := hl.2 l hln
    have e := e_l_Mod_refused_194 p t l G
    rw [hL.1, if_pos (by omega)] at e
    refine e.trans ?_
    have step : ∀ k : Nat, k < sz l → l_Mod_refused_208 p t l k G = if cvO pt p t (cd l k / 64) (cd l k % 64) = true then rI 4 G else l_Mod_refused_208 p t l ((k + 1 : Nat) : Int) G := by
      intro k hk
      have i1 : (0 : Int) ≤ 10 * (l : Int) + k ∧ 10 * (l : Int) + (k : Int) < 60 := by omega
      have i2 : (0 : Int) ≤ (l : Int) ∧ (l : Int) < 6 := by omega
      have i3 : (k : Int) < (sz l : Int) := by omega
      have hxy := isC_xy (hc k hk)
      have e2 := e_l_Mod_refused_208 p t l k G
      obtain ⟨v1, v2, -⟩ := (hL.2 l hln).2 k hk
      simp only [wr_10 (Nat.lt_of_lt_of_le hln h6) (Nat.lt_of_lt_of_le hk hz2), wr_sc hk (Nat.le_trans hz2 (by decide)), if_pos i1, if_pos i2, (hL.2 l hln).1, if_pos i3, v1, v2, r_covers hP ho hp t hxy.1 hxy.2, bI_r, b2i_0] at e2
      refine e2.trans ?_
      clear e2
      cases cvO pt p t (cd l k / 64) (cd l k % 64) with
      | true => rfl
      | false => rfl
    refine loop_any (l := fun (k : Nat) => l_Mod_refused_208 p t l k G) (f := fun k => cvO pt p t (cd l k / 64) (cd l k % 64)) (rf := l_Mod_refused_194 p t ((l + 1 : Nat) : Int) G) (rt := rI 4 G) (sz l) 0 (fun k _ hk hf => ?_) (fun k _ hk hf => ?_) ?_
    · rw [step k (by omega), hf]
      rfl
    · rw [step k (by omega), hf]
      rfl
    · show l_Mod_refused_208 p t l ((0 + sz l : Nat) : Int) G = _
      rw [e_l_Mod_refused_208, (hL.2 l hln).1, if_pos (by omega), if_neg (by omega), wr_id (by omega) (by omega)]
      rfl
  have h := loop_any (l := fun (l : Nat) => l_Mod_refused_194 p t l G) (f := fun l => anyB 0 (sz l) (fun k => cvO pt p t (cd l k / 64) (cd l k % 64))) (rf := rI 0 G) (rt := rI 4 G) nl 0 (fun l _ hln hf => by rw [inner l (by omega), hf]; rfl) (fun l _ hln hf => by rw [inner l (by omega), hf]; rfl) (by
    show l_Mod_refused_194 p t ((0 + nl : Nat) : Int) G = _
    rw [e_l_Mod_refused_194, hL.1, if_neg (by omega)])
  refine h.trans ?_
  unfold cxO
  cases anyB 0 nl (fun l => anyB 0 (sz l) fun k => cvO pt p t (cd l k / 64) (cd l k % 64)) with
  | true => rfl
  | false => rfl
end LABV
