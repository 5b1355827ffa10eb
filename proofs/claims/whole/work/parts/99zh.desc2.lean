/-! ===== describe, both sides ===== -/
def tld (cd : Nat → Nat → Int) (l n : Nat) : List Int := lnT cd l n ++ [59]
def FD (t : Nat) (i : Int) : Prop := (t = 41 ∨ t = 25) ∧ i = 0
def Td (G G' : GG) (T : List Int) : Prop := G' 25 0 25 = (T.length : Int) ∧ Txt G' 41 T ∧ Fr FD G G' ∧ ∀ z : Int, z ≠ 25 → G' 25 0 z = G 25 0 z
theorem Td.trans {G G1 G2 : GG} {T T2 : List Int} (h1 : Td G G1 T) (h2 : Td G1 G2 T2) : Td G G2 T2 := ⟨h2.1, h2.2.1, h1.2.2.1.trans h2.2.2.1, fun z hz => (h2.2.2.2 z hz).trans (h1.2.2.2 z hz)⟩
section DSC
variable {s : Nat → Int} {G : GG}
theorem g_write {i : Int} {nl : Nat} {sz : Nat → Nat} {cd : Nat → Nat → Int} (hL : LnC G i nl sz cd) (ho : okLn nl sz cd) {l : Nat} (hl : l < nl) :
    ∃ G', f_Lin_write i l G = rI (((tld cd l (sz l)).length : Nat) : Int) G' ∧ Txt G' 24 (tld cd l (sz l)) ∧ Fr (fun t i => t = 24 ∧ i = 0) G G' := by
  have h6 := ho.1
  have hz := (ho.2 l hl).1
  have e := e_f_Lin_write i l G
  have c76 : 0 ≤ 76 ∧ 76 < 65536 := by decide
  have w1 : wr (0 + 1) = (((lnT cd l 0).length : Nat) : Int) := by rw [wr_id (by decide) (by decide)]; rfl
  rw [if_pos c76, w1] at e
  clear w1
  have h0 : Txt (up G 24 0 0 76) 24 (lnT cd l 0) := fun j hj => by
    have h1 : j < 1 := hj
    have hj0 : j = 0 := by omega
    subst hj0
    exact up_at _ _ _ _ _
  have key := loop_inv (l := fun k G1 => l_Lin_write_13 i l ((lnT cd l k).length : Nat) (k : Int) G1) (I := fun k G1 => Txt G1 24 (lnT cd l k) ∧ Fr (fun t i => t = 24 ∧ i = 0) G G1) (P := fun r => ∃ G', r = rI (((tld cd l (sz l)).length : Nat) : Int) G' ∧ Txt G' 24 (tld cd l (sz l)) ∧ Fr (fun t i => t = 24 ∧ i = 0) G G') (sz l) 0 (up G 24 0 0 76) (fun k G1 _ hk hI => by
      have hk2 : k < sz l := by clear e; omega
      have n1 : ∀ t i' z, t ≠ 24 → G1 t i' z = G t i' z := fun t i' z y => hI.2 t i' z (fun w => y w.1)
      obtain ⟨G', e9, h9, f9⟩ := g_vt (G := G1) (hL.fr (n1 _ _ _ (by decide)) (fun k => n1 _ _ _ (by decide)) (fun k => n1 _ _ _ (by decide))) ho hl hk2 hI.1
      exact ⟨G', e9, h9, hI.2.trans f9⟩) (fun G1 hI => by
      have n1 : ∀ t i' z, t ≠ 24 → G1 t i' z = G t i' z := fun t i' z y => hI.2 t i' z (fun w => y w.1)
      have hlen := (lnT_len cd l (sz l)).2
      rw [if_neg (by clear e; omega)] at hlen
      rw [Nat.zero_add] at hI ⊢
      have cl : (0 : Int) ≤ (l : Int) ∧ (l : Int) < 6 := by clear e; omega
      have c1 : (0 : Int) ≤ (((lnT cd l (sz l)).length : Nat) : Int) ∧ (((lnT cd l (sz l)).length : Nat) : Int) < 61 := by clear e; omega
      have l61 : (lnT cd l (sz l)).length < 61 := by clear e; omega
      have c59 : 0 ≤ 59 ∧ 59 < 65536 := by decide
      have h4 : G1 4 i l = (sz l : Int) := (n1 _ _ _ (by decide)).trans (hL.2 l hl).1
      have e9 := e_l_Lin_write_13 i l ((lnT cd l (sz l)).length : Nat) ((sz l : Nat) : Int) G1
      rw [if_pos cl, h4, if_neg (Int.lt_irrefl _), if_pos c1, if_pos c59, wr_sc l61 (by decide)] at e9
      refine ⟨_, e9.trans ?_, hI.1.snoc 59, hI.2.trans (Fr.up _ _ _ ⟨rfl, rfl⟩)⟩
      unfold tld
      rw [len_s]) ⟨h0, Fr.up _ _ _ ⟨rfl, rfl⟩⟩
  obtain ⟨G', e2, h2, f2⟩ := key
  exact ⟨G', e.trans e2, h2, f2⟩
theorem r_tell {T : List Int} (hT : T.length < 80) (h5 : G 25 0 25 = (T.length : Int)) (h : Txt G 41 T) (v : Int) : ∃ G', f_Mod_tells v G = rV G' ∧ Td G G' (T ++ [v]) := by
  have c1 : (0 : Int) ≤ (T.length : Int) ∧ (T.length : Int) < 80 := by omega
  have e := e_f_Mod_tells v G
  rw [h5, if_pos c1, up_t (show (25 : Nat) ≠ 41 by decide), h5, wr_sc hT (by decide)] at e
  refine ⟨_, e, by rw [up_at, len_s], fun j hj => ?_, (Fr.up _ _ _ ⟨Or.inl rfl, rfl⟩).trans (Fr.up _ _ _ ⟨Or.inr rfl, rfl⟩), fun z hz => (up_k hz).trans (up_t (by decide))⟩
  rw [up_t (by decide)]
  exact h.snoc v j hj
theorem r_tellNum {v : Nat} (hv : v < 64) {T : List Int} (hT : T.length + 1 < 80) (h5 : G 25 0 25 = (T.length : Int)) (h : Txt G 41 T) : ∃ G', f_Mod_tellsNumber v G = rV G' ∧ Td G G' (T ++ nmT v) := by
  obtain ⟨-, -, d3, d4⟩ := ch_dig hv
  have e := e_f_Mod_tellsNumber (v : Int) G
  rw [d3, d4] at e
  clear d3 d4
  have l80 : T.length < 80 := by clear e; omega
  by_cases q : 9 < (v : Int)
  · have hn : nmT (v : Int) = [48 + (v : Int) / 10, 48 + (v : Int) % 10] := if_pos q
    have hap : T ++ nmT (v : Int) = (T ++ [48 + (v : Int) / 10]) ++ [48 + (v : Int) % 10] := by rw [hn, List.append_assoc]; rfl
    obtain ⟨G1, e1, t1⟩ := r_tell l80 h5 h (48 + (v : Int) / 10)
    obtain ⟨G2, e2, t2⟩ := r_tell (G := G1) (by rw [len_s]; exact hT) t1.1 t1.2.1 (48 + (v : Int) % 10)
    rw [if_pos q, e1, bV_r, e2, bV_r] at e
    rw [hap]
    exact ⟨G2, e, t1.trans t2⟩
  · have hn : nmT (v : Int) = [48 + (v : Int) % 10] := if_neg q
    obtain ⟨G1, e1, t1⟩ := r_tell l80 h5 h (48 + (v : Int) % 10)
    rw [if_neg q, e1, bV_r] at e
    rw [hn]
    exact ⟨G1, e, t1⟩
theorem w_ds {l k m : Nat} (hl : l < 6) (hk : k < 10) (hm : m ≤ 10) : wr (10 * (l : Int)) = 10 * (l : Int) ∧ wr (10 * (l : Int) + (m : Int)) = 10 * (l : Int) + (m : Int) ∧ wr (10 * (l : Int) + (k : Int) + 1) = 10 * (l : Int) + ((k + 1 : Nat) : Int) := by
  refine ⟨wr_id (by omega) (by omega), wr_id (by omega) (by omega), ?_⟩
  rw [wr_id (by omega) (by omega)]
  omega
theorem LnV.fd {G' : GG} {nl : Nat} {sz : Nat → Nat} {cd : Nat → Nat → Int} {mk : Nat → Nat → Nat} (h : LnV G nl sz cd mk) (hF : Fr FD G G') : LnV G' nl sz cd mk :=
  h.fr (fun k => hF 26 0 k (by unfold FD; omega)) (fun k => hF 30 0 k (by unfold FD; omega)) (fun k => hF 31 0 k (by unfold FD; omega)) (fun k => hF 32 0 k (by unfold FD; omega)) (fun k => hF 33 0 k (by unfold FD; omega))
/-- one vertex is told -/
theorem r_vt {nl : Nat} {sz : Nat → Nat} {cd : Nat → Nat → Int} {mk : Nat → Nat → Nat} (hV : LnV G nl sz cd mk) (ho : okLn nl sz cd) {l k : Nat} (hl : l < nl) (hk : k < sz l) (x : Int) (h5 : G 25 0 25 = (((lnT cd l k).length : Nat) : Int)) (h : Txt G 41 (lnT cd l k)) :
    ∃ G', l_Mod_describe_59 l x (10 * (l : Int) + (k : Int)) G = l_Mod_describe_59 l x (10 * (l : Int) + ((k + 1 : Nat) : Int)) G' ∧ Td G G' (lnT cd l (k + 1)) := by
  have h6 := ho.1
  obtain ⟨hz, hc, -⟩ := ho.2 l hl
  obtain ⟨a, b, ha, hb, ea, eb⟩ := xy_nat (hc k hk)
  have hlen := lnT_len cd l k
  have hT61 : (lnT cd l k).length ≤ 6 * k + 1 := by
    have := hlen.2
    split at this <;> omega
  have cl : (0 : Int) ≤ (l : Int) ∧ (l : Int) < 6 := by omega
  have clt : 10 * (l : Int) + (k : Int) < 10 * (l : Int) + (sz l : Int) := by omega
  have c60 : (0 : Int) ≤ 10 * (l : Int) + (k : Int) ∧ 10 * (l : Int) + (k : Int) < 60 := by omega
  have hn1 : (nmT (a : Int)).length ≤ 2 := (nmT_len _).2
  -- what comes behind the dash, if there is one
  have rest : ∀ (T : List Int) (G1 : GG), T.length + 6 < 80 → Td G G1 T → ∃ G5, Td G G5 (T ++ (nmT (cd l k / 64) ++ (44 :: nmT (cd l k % 64)))) ∧ ∃ G2 G3, f_Mod_tellsNumber (G1 31 0 (10 * (l : Int) + (k : Int))) G1 = rV G2 ∧ f_Mod_tells 44 G2 = rV G3 ∧ f_Mod_tellsNumber (G3 32 0 (10 * (l : Int) + (k : Int))) G3 = rV G5 := by
    intro T G1 hT hd
    have v1 : G1 31 0 (10 * (l : Int) + (k : Int)) = (a : Int) := (((hV.fd hd.2.2.1).2 l hl).2 k hk).1.trans ea
    obtain ⟨G2, e2, t2⟩ := r_tellNum (G := G1) ha (T := T) (by omega) hd.1 hd.2.1
    have hln : (T ++ nmT (a : Int)).length = T.length + (nmT (a : Int)).length := List.length_append
    obtain ⟨G3, e3, t3⟩ := r_tell (G := G2) (by omega) t2.1 t2.2.1 44
    have t13 := (hd.trans t2).trans t3
    have v3 : G3 32 0 (10 * (l : Int) + (k : Int)) = (b : Int) := (((hV.fd t13.2.2.1).2 l hl).2 k hk).2.1.trans eb
    obtain ⟨G5, e5, t5⟩ := r_tellNum (G := G3) hb (T := T ++ nmT (a : Int) ++ [44]) (by rw [len_s]; omega) t3.1 t3.2.1
    have hfin : (T ++ nmT (a : Int) ++ [44]) ++ nmT (b : Int) = T ++ (nmT (a : Int) ++ (44 :: nmT (b : Int))) := by rw [List.append_assoc, List.append_assoc]; rfl
    rw [hfin] at t5
    rw [v1, ea, eb]
    exact ⟨G5, t13.trans t5, G2, G3, e2, e3, by rw [v3]; exact e5⟩
  by_cases q : 0 < k
  · have q2 : 10 * (l : Int) < 10 * (l : Int) + (k : Int) := by omega
    obtain ⟨G1, e1, t1⟩ := r_tell (T := lnT cd l k) (by omega) h5 h 45
    obtain ⟨G5, t5, G2, G3, e2, e3, e5⟩ := rest (lnT cd l k ++ [45]) G1 (by rw [len_s]; omega) t1
    have hfin : (lnT cd l k ++ [45]) ++ (nmT (cd l k / 64) ++ (44 :: nmT (cd l k % 64))) = lnT cd l (k + 1) := by
      show _ = lnT cd l k ++ vtT cd l k
      unfold vtT
      rw [if_pos q, List.append_assoc]
    rw [hfin] at t5
    have k10 : k < 10 := by omega
    have l6 : l < 6 := by omega
    obtain ⟨w1, w2, w3⟩ := w_ds (m := sz l) l6 k10 hz.2
    have e := e_l_Mod_describe_59 l x (10 * (l : Int) + (k : Int)) G
    rw [if_pos cl, w1, (hV.2 l hl).1, w2, if_pos clt, if_pos q2, e1, bV_r, w3] at e
    simp only [if_pos c60] at e
    rw [e2, bV_r, e3, bV_r, e5, bV_r] at e
    exact ⟨G5, e, t5⟩
  · have q2 : ¬(10 * (l : Int) < 10 * (l : Int) + (k : Int)) := by omega
    have t0 : Td G G (lnT cd l k) := ⟨h5, h, Fr.refl G, fun _ _ => rfl⟩
    obtain ⟨G5, t5, G2, G3, e2, e3, e5⟩ := rest (lnT cd l k) G (by omega) t0
    have hfin : lnT cd l k ++ (nmT (cd l k / 64) ++ (44 :: nmT (cd l k % 64))) = lnT cd l (k + 1) := by
      show _ = lnT cd l k ++ vtT cd l k
      unfold vtT
      rw [if_neg q]
      rfl
    rw [hfin] at t5
    have k10 : k < 10 := by omega
    have l6 : l < 6 := by omega
    obtain ⟨w1, w2, w3⟩ := w_ds (m := sz l) l6 k10 hz.2
    have e := e_l_Mod_describe_59 l x (10 * (l : Int) + (k : Int)) G
    rw [if_pos cl, w1, (hV.2 l hl).1, w2, if_pos clt, if_neg q2, w3] at e
    simp only [if_pos c60] at e
    rw [e2, bV_r, e3, bV_r, e5, bV_r] at e
    exact ⟨G5, e, t5⟩
end DSC
