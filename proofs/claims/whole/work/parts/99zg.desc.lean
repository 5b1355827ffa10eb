/-! ===== describe ===== -/
def nmT (v : Int) : List Int := if 9 < v then [48 + v / 10, 48 + v % 10] else [48 + v % 10]
def vtT (cd : Nat → Nat → Int) (l k : Nat) : List Int := (if 0 < k then [45] else []) ++ (nmT (cd l k / 64) ++ (44 :: nmT (cd l k % 64)))
def lnT (cd : Nat → Nat → Int) (l : Nat) : Nat → List Int
  | 0 => [76]
  | n + 1 => lnT cd l n ++ vtT cd l n
def Txt (G : GG) (t : Nat) (T : List Int) : Prop := ∀ j : Nat, (h : j < T.length) → G t 0 j = T[j]
theorem nmT_len (v : Int) : 1 ≤ (nmT v).length ∧ (nmT v).length ≤ 2 := by
  unfold nmT
  split
  · exact ⟨Nat.le_succ 1, Nat.le_refl 2⟩
  · exact ⟨Nat.le_refl 1, Nat.le_succ 1⟩
theorem vtT_len (cd : Nat → Nat → Int) (l k : Nat) : (vtT cd l k).length ≤ 6 ∧ (k = 0 → (vtT cd l k).length ≤ 5) := by
  have h1 := nmT_len (cd l k / 64)
  have h2 := nmT_len (cd l k % 64)
  unfold vtT
  rw [List.length_append, List.length_append, List.length_cons]
  by_cases h : 0 < k
  · rw [if_pos h]
    exact ⟨by show 1 + _ ≤ 6; omega, fun z => by omega⟩
  · rw [if_neg h]
    exact ⟨by show 0 + _ ≤ 6; omega, fun _ => by show 0 + _ ≤ 5; omega⟩
theorem lnT_len (cd : Nat → Nat → Int) (l : Nat) : ∀ n : Nat, 1 ≤ (lnT cd l n).length ∧ (lnT cd l n).length ≤ 6 * n + (if n = 0 then 1 else 0)
  | 0 => ⟨Nat.le_refl _, Nat.le_refl _⟩
  | n + 1 => by
    have h1 := lnT_len cd l n
    have h2 := vtT_len cd l n
    show 1 ≤ (lnT cd l n ++ vtT cd l n).length ∧ (lnT cd l n ++ vtT cd l n).length ≤ _
    rw [List.length_append, if_neg (by omega)]
    by_cases q : n = 0
    · have h3 := h2.2 q
      rw [if_pos q] at h1
      omega
    · rw [if_neg q] at h1
      omega
theorem Txt.snoc {G : GG} {t : Nat} {T : List Int} (h : Txt G t T) (v : Int) : Txt (up G t 0 (T.length : Int) v) t (T ++ [v]) := fun j hj => by
  rw [List.length_append] at hj
  by_cases q : j < T.length
  · rw [up_k (by omega), List.getElem_append_left q]
    exact h j q
  · have e : j = T.length := by
      have : [v].length = 1 := rfl
      omega
    subst e
    rw [up_at, List.getElem_append_right (Nat.le_refl _)]
    simp only [Nat.sub_self, List.getElem_cons_zero]
theorem len_s (T : List Int) (v : Int) : (T ++ [v]).length = T.length + 1 := by rw [List.length_append]; rfl
theorem ch_dig {v : Nat} (h : v < 64) : iChr (wr (48 + iRem (v : Int) 10)) = 48 + (v : Int) % 10 ∧ iChr (wr (48 + iDiv (v : Int) 10)) = 48 + (v : Int) / 10 ∧ wr (48 + iRem (v : Int) 10) = 48 + (v : Int) % 10 ∧ wr (48 + iDiv (v : Int) 10) = 48 + (v : Int) / 10 := by
  have key : ((List.range 64).all fun n => decide (iChr (wr (48 + iRem (n : Int) 10)) = 48 + (n : Int) % 10 ∧ iChr (wr (48 + iDiv (n : Int) 10)) = 48 + (n : Int) / 10 ∧ wr (48 + iRem (n : Int) 10) = 48 + (n : Int) % 10 ∧ wr (48 + iDiv (n : Int) 10) = 48 + (n : Int) / 10)) = true := by decide +kernel
  exact of_decide_eq_true (List.all_eq_true.mp key v (List.mem_range.mpr h))
section DESC
variable {s : Nat → Int} {G : GG}
theorem g_num {v : Nat} (hv : v < 64) {T : List Int} (hT : T.length + 2 ≤ 61) (h : Txt G 24 T) : ∃ G', f_Lin_writeNumber v (T.length : Int) G = rI (((T ++ nmT v).length : Nat) : Int) G' ∧ Txt G' 24 (T ++ nmT v) ∧ Fr (fun t i => t = 24 ∧ i = 0) G G' := by
  obtain ⟨d1, d2, -, -⟩ := ch_dig hv
  have e := e_f_Lin_writeNumber (v : Int) (T.length : Int) G
  rw [d1, d2] at e
  clear d1 d2
  have c1 : (0 : Int) ≤ (T.length : Int) ∧ (T.length : Int) < 61 := by clear e; omega
  have c1b : (0 : Int) ≤ ((T.length + 1 : Nat) : Int) ∧ ((T.length + 1 : Nat) : Int) < 61 := by clear e; omega
  have c2 : (0 : Int) ≤ 48 + (v : Int) % 10 ∧ 48 + (v : Int) % 10 < 65536 := by clear e; omega
  have c3 : (0 : Int) ≤ 48 + (v : Int) / 10 ∧ 48 + (v : Int) / 10 < 65536 := by clear e; omega
  have l61 : T.length < 61 := by clear e; omega
  have l62 : T.length + 1 < 62 := by clear e; omega
  rw [wr_sc l61 (by decide)] at e
  by_cases q : 9 < (v : Int)
  · have q2 : ¬((v : Int) < 10) := by clear e; omega
    rw [wr_sc l62 (by decide), if_neg q2] at e
    simp only [if_pos c1, if_pos c1b, if_pos c2, if_pos c3] at e
    have hn : nmT (v : Int) = [48 + (v : Int) / 10, 48 + (v : Int) % 10] := if_pos q
    have hap : T ++ nmT (v : Int) = (T ++ [48 + (v : Int) / 10]) ++ [48 + (v : Int) % 10] := by rw [hn, List.append_assoc]; rfl
    rw [hap, len_s, len_s]
    refine ⟨_, e, ?_, (Fr.up _ _ _ ⟨rfl, rfl⟩).trans (Fr.up _ _ _ ⟨rfl, rfl⟩)⟩
    have h2 := (h.snoc (48 + (v : Int) / 10)).snoc (48 + (v : Int) % 10)
    rw [len_s] at h2
    exact h2
  · have q2 : (v : Int) < 10 := by clear e; omega
    rw [if_pos q2] at e
    simp only [if_pos c1, if_pos c2] at e
    have hn : nmT (v : Int) = [48 + (v : Int) % 10] := if_neg q
    rw [hn, len_s]
    exact ⟨_, e, h.snoc _, Fr.up _ _ _ ⟨rfl, rfl⟩⟩
theorem xy_nat {c : Int} (h : isC c) : ∃ a b : Nat, a < 64 ∧ b < 64 ∧ c / 64 = (a : Int) ∧ c % 64 = (b : Int) := by
  unfold isC at h
  exact ⟨(c / 64).toNat, (c % 64).toNat, by omega, by omega, by omega, by omega⟩
/-- one vertex is written -/
theorem g_vt {i : Int} {nl : Nat} {sz : Nat → Nat} {cd : Nat → Nat → Int} (hL : LnC G i nl sz cd) (ho : okLn nl sz cd) {l k : Nat} (hl : l < nl) (hk : k < sz l) (h : Txt G 24 (lnT cd l k)) :
    ∃ G', l_Lin_write_13 i l ((lnT cd l k).length : Nat) k G = l_Lin_write_13 i l ((lnT cd l (k + 1)).length : Nat) ((k + 1 : Nat) : Int) G' ∧ Txt G' 24 (lnT cd l (k + 1)) ∧ Fr (fun t i => t = 24 ∧ i = 0) G G' := by
  have h6 := ho.1
  obtain ⟨hz, hc, -⟩ := ho.2 l hl
  obtain ⟨a, b, ha, hb, ea, eb⟩ := xy_nat (hc k hk)
  have hlen := lnT_len cd l k
  have hT61 : (lnT cd l k).length ≤ 6 * k + 1 := by
    have := hlen.2
    split at this <;> omega
  have hn1 := nmT_len (cd l k / 64)
  have bsh := bShr6 (hc k hk).1 (hc k hk).2
  have ban := bAnd63 (hc k hk).1 (hc k hk).2
  have cl : (0 : Int) ≤ (l : Int) ∧ (l : Int) < 6 := by clear bsh ban; omega
  have ck : (k : Int) < (sz l : Int) := by clear bsh ban; omega
  have wk : wr ((k : Int) + 1) = ((k + 1 : Nat) : Int) := wr_sc (show k < 10 by clear bsh ban; omega) (by decide)
  -- what comes behind the dash, if there is one
  have rest : ∀ (T : List Int) (G1 : GG), T.length + 5 ≤ 61 → Txt G1 24 T → LnC G1 i nl sz cd → ∃ G', (bI (f_Lin_codeOf i l k G1) fun r8 G7 => bI (f_Lin_writeNumber (bShr r8 6) (T.length : Int) G7) fun r10 G9 => if 0 ≤ r10 ∧ r10 < 61 then if 0 ≤ 44 ∧ 44 < 65536 then bI (f_Lin_writeNumber (bAnd r8 63) (wr (r10 + 1)) (up G9 24 0 r10 44)) fun r12 G11 => l_Lin_write_13 i l r12 (wr ((k : Int) + 1)) G11 else none else none) = l_Lin_write_13 i l ((T ++ (nmT (cd l k / 64) ++ (44 :: nmT (cd l k % 64)))).length : Nat) ((k + 1 : Nat) : Int) G' ∧ Txt G' 24 (T ++ (nmT (cd l k / 64) ++ (44 :: nmT (cd l k % 64)))) ∧ Fr (fun t i => t = 24 ∧ i = 0) G1 G' := by
    intro T G1 hT5 hT hL1
    rw [ea] at hn1
    rw [g_cod hL1 ho hl hk, bI_r, bsh, ban, ea, eb]
    clear bsh ban
    obtain ⟨G2, e2, h2, f2⟩ := g_num ha (T := T) (by omega) hT
    have hln : (T ++ nmT (a : Int)).length = T.length + (nmT (a : Int)).length := List.length_append
    have c1 : (0 : Int) ≤ (((T ++ nmT (a : Int)).length : Nat) : Int) ∧ (((T ++ nmT (a : Int)).length : Nat) : Int) < 61 := by clear wk; omega
    have c44 : 0 ≤ 44 ∧ 44 < 65536 := by decide
    have l61 : (T ++ nmT (a : Int)).length < 61 := by clear wk; omega
    obtain ⟨G3, e3, h3, f3⟩ := g_num (G := up G2 24 0 (((T ++ nmT (a : Int)).length : Nat) : Int) 44) hb (T := (T ++ nmT (a : Int)) ++ [44]) (by rw [len_s]; clear wk; omega) (h2.snoc 44)
    rw [len_s] at e3
    have hfin : (T ++ nmT (a : Int) ++ [44]) ++ nmT (b : Int) = T ++ (nmT (a : Int) ++ (44 :: nmT (b : Int))) := by rw [List.append_assoc, List.append_assoc]; rfl
    rw [hfin] at e3 h3
    refine ⟨G3, ?_, h3, (f2.trans (Fr.up _ _ _ ⟨rfl, rfl⟩)).trans f3⟩
    rw [e2, bI_r, if_pos c1, if_pos c44, wr_sc l61 (by decide), e3, bI_r, wk]
  have e := e_l_Lin_write_13 i l ((lnT cd l k).length : Nat) k G
  rw [if_pos cl, (hL.2 l hl).1, if_pos ck] at e
  by_cases q : 0 < k
  · have q2 : (0 : Int) < (k : Int) := by clear bsh ban wk e; omega
    have c1 : (0 : Int) ≤ (((lnT cd l k).length : Nat) : Int) ∧ (((lnT cd l k).length : Nat) : Int) < 61 := by clear bsh ban wk e; omega
    have c45 : 0 ≤ 45 ∧ 45 < 65536 := by decide
    have l61 : (lnT cd l k).length < 61 := by clear bsh ban wk e; omega
    have hsp : (lnT cd l k).length ≤ 6 * k := by
      have := hlen.2
      rw [if_neg (by clear bsh ban wk e; omega)] at this
      clear bsh ban wk e
      omega
    obtain ⟨G', e9, h9, f9⟩ := rest (lnT cd l k ++ [45]) (up G 24 0 (((lnT cd l k).length : Nat) : Int) 45) (by rw [len_s]; clear bsh ban wk e; omega) (h.snoc 45) (hL.fr (up_t (by decide)) (fun k => up_t (by decide)) (fun k => up_t (by decide)))
    rw [len_s] at e9
    have hfin : (lnT cd l k ++ [45]) ++ (nmT (cd l k / 64) ++ (44 :: nmT (cd l k % 64))) = lnT cd l (k + 1) := by
      show _ = lnT cd l k ++ vtT cd l k
      unfold vtT
      rw [if_pos q, List.append_assoc]
    rw [hfin] at e9 h9
    rw [if_pos q2, wr_sc l61 (by decide)] at e
    simp only [if_pos c1, if_pos c45] at e
    exact ⟨G', e.trans e9, h9, (Fr.up _ _ _ ⟨rfl, rfl⟩).trans f9⟩
  · have q2 : ¬((0 : Int) < (k : Int)) := by clear bsh ban wk e; omega
    obtain ⟨G', e9, h9, f9⟩ := rest (lnT cd l k) G (by clear bsh ban wk e; omega) h hL
    have hfin : lnT cd l k ++ (nmT (cd l k / 64) ++ (44 :: nmT (cd l k % 64))) = lnT cd l (k + 1) := by
      show _ = lnT cd l k ++ vtT cd l k
      unfold vtT
      rw [if_neg q]
      rfl
    rw [hfin] at e9 h9
    rw [if_neg q2] at e
    exact ⟨G', e.trans e9, h9, f9⟩
end DESC
