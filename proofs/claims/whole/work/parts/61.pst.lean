/-! ===== what stays true along a run of the small machine ===== -/
def okR (cs : CS) (r : RV) : Prop := match r with
  | .inl none => True
  | .inl (some v) => okV cs v
  | .inr x => x < 6
def Pst (cs : CS) (r : RV) (Gf : GG) (ls : Lcs) (st : List AV) (G : GG) : Prop := okL cs ls → okS cs st → okG G → okG Gf ∧ okR cs r ∧ G 48 0 0 ≤ Gf 48 0 0 ∧ RoE G Gf
def PstF (cs : CS) (F : Nat → List AV → GG → RS) : Prop := ∀ z a G r Gf, z < 302 → F z a G = some (r, Gf) → okS cs a → okG G → okG Gf ∧ okR cs r ∧ G 48 0 0 ≤ Gf 48 0 0 ∧ RoE G Gf
theorem okL_msk {cs : CS} {m : List Bool} {ls : Lcs} (h : okL cs ls) : okL cs (msk m ls) := fun j v hv => h j v (msk_lget m ls j v hv)
theorem Pst.up {cs : CS} {r : RV} {Gf : GG} {ls : Lcs} {st : List AV} {G : GG} {t : Nat} {i k v : Int} (h : Pst cs r Gf ls st (up G t i k v)) (ht : t < 44) (hL : okL cs ls) (hst : okS cs st) (hG : okG G) (h1 : t = 42 → inJ v) (h2 : t ≠ 42 → t ≠ 43 → t ≠ 48 → inR v) : okG Gf ∧ okR cs r ∧ G 48 0 0 ≤ Gf 48 0 0 ∧ RoE G Gf := by
  obtain ⟨a, b, c, d⟩ := h hL hst (okG_up hG h1 h2)
  rw [cnt_up G i k v ht] at c
  exact ⟨a, b, c, (RoE_up G i k v ht).trans d⟩
theorem akd_lt {cs : CS} (hCl : ∀ t i, (t, i) ∈ cs → Cell_ t i) {t : Nat} {i : Int} (h : akd t = 2 ∨ akd t = 3 ∨ akd t = 4 ∨ akd t = 5) (hr : Ref_ cs t i) : t < 44 := by
  rcases hr with hr | ⟨h1, h2, -⟩
  · exact (hCl _ _ hr).1
  · have := akd_ro t h1 h2
    omega
theorem thrF_mem : ∀ {l : List (Nat × Nat × Nat)} {y pc e : Nat}, thrF l y pc = some e → (y, pc, e) ∈ l
  | [], y, pc, e, h => by cases h
  | q :: l, y, pc, e, h => by
    unfold thrF at h
    cases hb : (Nat.beq q.1 y && Nat.beq q.2.1 pc) with
    | false =>
      rw [hb] at h
      exact List.mem_cons_of_mem _ (thrF_mem h)
    | true =>
      rw [hb] at h
      simp only [Bool.and_eq_true] at hb
      have h1 := Nat.eq_of_beq_eq_true hb.1
      have h2 := Nat.eq_of_beq_eq_true hb.2
      have h3 : q.2.2 = e := Option.some.inj h
      rw [← h1, ← h2, ← h3]
      exact List.mem_cons_self
theorem thr_lt : ∀ q ∈ thrL, q.2.2 < 6 := by decide +kernel
theorem okG_bump {G : GG} (h : okG G) : okG (bump G) := okG_up h (fun e => absurd e (by decide)) (fun _ _ e => absurd rfl e)
theorem RoE_bump (G : GG) : RoE G (bump G) := by
  refine ⟨fun q => up_ne ?_ _, fun q => up_ne ?_ _, fun q => up_ne ?_ _, up_ne ?_ _⟩ <;> (intro e; exact absurd (congrArg Prod.fst e) (by decide))
theorem cnt_bump (G : GG) : bump G 48 0 0 = G 48 0 0 + 1 := up_same ..
theorem dCmp_R (a b : UInt64) (op : CmpOp) : inR (dCmp a b op) := inR_toInt _
theorem mMin_R {a b : Int} (ha : inR a) (hb : inR b) : inR (mMin a b) := by unfold mMin; split <;> assumption
theorem mMax_R {a b : Int} (ha : inR a) (hb : inR b) : inR (mMax a b) := by unfold mMax; split <;> assumption
theorem mAbs_R {a : Int} (ha : inR a) : inR (mAbs a) := by unfold mAbs; split; exact ha; exact wr_inR _
theorem okS_take {cs : CS} {st : List AV} (n : Nat) (h : okS cs st) : okS cs (st.take n).reverse := fun v hv => h v (List.mem_of_mem_take (List.mem_reverse.mp hv))
theorem okS_drop {cs : CS} {st : List AV} (n : Nat) (h : okS cs st) : okS cs (st.drop n) := fun v hv => h v (List.mem_of_mem_drop hv)
section PSTEP
variable {cs : CS} {N : Nat → Lcs → List AV → GG → RS} {F : Nat → List AV → GG → RS} {r : RV} {Gf : GG}
theorem hsel_p {G : GG} {y : Nat} {ls : Lcs} {e : Nat} (hN : ∀ pc ls st G, N pc ls st G = some (r, Gf) → Pst cs r Gf ls st G) (hL : okL cs ls) (hG : okG G) (he : e < 6) :
    ∀ (l : List (Nat × Nat)), hsel l e (fun hp => catchAt N y hp ls G) (some (.inr e, G)) = some (r, Gf) → okG Gf ∧ okR cs r ∧ G 48 0 0 ≤ Gf 48 0 0 ∧ RoE G Gf
  | [], h => by
    have h1 := Option.some.inj h
    cases h1
    exact ⟨hG, he, Int.le_refl _, RoE.refl _⟩
  | (c, o) :: l, h => by
    unfold hsel at h
    split at h
    · change catchAt N y o ls G = some (r, Gf) at h
      rcases catchAt_c y o ls with ⟨j, len, -, -, -, hk⟩ | hk
      · rw [hk] at h
        exact hN _ _ _ _ h (okL_none hL) (fun v hv => absurd hv List.not_mem_nil) hG
      · rw [hk] at h; cases h
    · exact hsel_p hN hL hG he l h
theorem chain_p {G G' : GG} (h1 : okG G' ∧ G 48 0 0 ≤ G' 48 0 0 ∧ RoE G G') (h2 : okG Gf ∧ okR cs r ∧ G' 48 0 0 ≤ Gf 48 0 0 ∧ RoE G' Gf) : okG Gf ∧ okR cs r ∧ G 48 0 0 ≤ Gf 48 0 0 ∧ RoE G Gf :=
  ⟨h2.1, h2.2.1, Int.le_trans h1.2.1 h2.2.2.1, h1.2.2.trans h2.2.2.2⟩
theorem sCall_p (hN : ∀ pc ls st G, N pc ls st G = some (r, Gf) → Pst cs r Gf ls st G) (hF : PstF cs F) {y pc z : Nat} (hz : z < 302) {v : Bool} {ls : Lcs} {st : List AV} {G : GG} (h : sCall N F y pc z v ls st G = some (r, Gf)) : Pst cs r Gf ls st G := by
  intro hL hst hG
  unfold sCall at h
  generalize mt z = q at h
  obtain ⟨ac, rk, rt, ht⟩ := q
  dsimp only at h
  generalize (Nat.blt ht (mt y).2.2.2 && Nat.ble ac st.length && Nat.beq (wsum (st.take ac)) ac && Nat.ble (wsum (st.drop ac)) 8 && (!v || recvOk rt (st.take ac).reverse)) = b at h
  cases b
  · cases h
  · simp only [cond_true] at h
    match rk, h with
    | 0, h =>
      change contV _ _ _ = _ at h
      unfold contV at h
      split at h
      · rename_i G1 hq
        obtain ⟨a1, a2, a3, a4⟩ := hF _ _ _ _ _ hz hq (okS_take ac hst) hG
        exact chain_p ⟨a1, a3, a4⟩ (hN _ _ _ _ h hL (okS_drop ac hst) a1)
      · rename_i x G1 hq
        obtain ⟨a1, a2, a3, a4⟩ := hF _ _ _ _ _ hz hq (okS_take ac hst) hG
        exact chain_p ⟨a1, a3, a4⟩ (hsel_p hN hL a1 a2 _ h)
      · cases h
    | 1, h =>
      change contI _ _ _ = _ at h
      unfold contI at h
      split at h
      · rename_i x G1 hq
        obtain ⟨a1, a2, a3, a4⟩ := hF _ _ _ _ _ hz hq (okS_take ac hst) hG
        exact chain_p ⟨a1, a3, a4⟩ (hN _ _ _ _ h hL (okS.cons a2 (okS_drop ac hst)) a1)
      · rename_i x G1 hq
        obtain ⟨a1, a2, a3, a4⟩ := hF _ _ _ _ _ hz hq (okS_take ac hst) hG
        exact chain_p ⟨a1, a3, a4⟩ (hsel_p hN hL a1 a2 _ h)
      · cases h
    | 2, h =>
      change contD _ _ _ = _ at h
      unfold contD at h
      split at h
      · rename_i x G1 hq
        obtain ⟨a1, a2, a3, a4⟩ := hF _ _ _ _ _ hz hq (okS_take ac hst) hG
        exact chain_p ⟨a1, a3, a4⟩ (hN _ _ _ _ h hL (okS.cons a2 (okS_drop ac hst)) a1)
      · rename_i x G1 hq
        obtain ⟨a1, a2, a3, a4⟩ := hF _ _ _ _ _ hz hq (okS_take ac hst) hG
        exact chain_p ⟨a1, a3, a4⟩ (hsel_p hN hL a1 a2 _ h)
      · cases h
    | t + 3, h =>
      change contR t _ _ _ = _ at h
      unfold contR at h
      split at h
      · rename_i t' i G1 hq
        split at h
        · rename_i ht'
          obtain ⟨a1, a2, a3, a4⟩ := hF _ _ _ _ _ hz hq (okS_take ac hst) hG
          rw [ht'] at a2
          exact chain_p ⟨a1, a3, a4⟩ (hN _ _ _ _ h hL (okS.cons a2 (okS_drop ac hst)) a1)
        · cases h
      · rename_i x G1 hq
        obtain ⟨a1, a2, a3, a4⟩ := hF _ _ _ _ _ hz hq (okS_take ac hst) hG
        exact chain_p ⟨a1, a3, a4⟩ (hsel_p hN hL a1 a2 _ h)
      · cases h
theorem tsel_p {k : Int → RS} {d : RS} {P : Prop} (hk : ∀ o, k o = some (r, Gf) → P) (hd : d = some (r, Gf) → P) : ∀ (l : List Int) (c x : Int), tsel l c x k d = some (r, Gf) → P
  | [], c, x, h => hd h
  | o :: l, c, x, h => by
    unfold tsel at h
    split at h
    · exact hk o h
    · exact tsel_p hk hd l (c + 1) x h
theorem sStep_p (hCl : Clo cs) (hN : ∀ pc ls st G, N pc ls st G = some (r, Gf) → Pst cs r Gf ls st G) (hF : PstF cs F) {y pc : Nat} (hdk : ∀ i len, cd y pc = some (i, len) → decode (byt y) pc = .ok (i, len) ∧ iok i len = true) {ls : Lcs} {st : List AV} {G : GG} (h : sStep N F y pc ls st G = some (r, Gf)) : Pst cs r Gf ls st G := by
  intro hL hst hG
  unfold sStep at h
  cases hc : cd y pc with
  | none => rw [hc] at h; cases h
  | some q =>
  obtain ⟨ins, len⟩ := q
  have hio := (hdk ins len hc).2
  rw [hc] at h
  dsimp only at h
  cases ins with
  | iconst v =>
    dsimp only at h
    simp only [iok, Bool.and_eq_true, decide_eq_true_eq] at hio
    exact hN _ _ _ _ h hL (okS.cons ⟨by omega, by omega⟩ hst) hG
  | bipush v =>
    dsimp only at h
    simp only [iok, Bool.and_eq_true, decide_eq_true_eq] at hio
    exact hN _ _ _ _ h hL (okS.cons ⟨by omega, by omega⟩ hst) hG
  | sipush v =>
    dsimp only at h
    simp only [iok, Bool.and_eq_true, decide_eq_true_eq] at hio
    exact hN _ _ _ _ h hL (okS.cons ⟨by omega, by omega⟩ hst) hG
  | ldc k =>
    dsimp only at h
    cases hq : kon (own y) k with
    | none => rw [hq] at h; cases h
    | some v =>
      rw [hq] at h
      exact hN _ _ _ _ h hL (okS.cons (kon_ok hq).2 hst) hG
  | ldc_w k =>
    dsimp only at h
    cases hq : kon (own y) k with
    | none => rw [hq] at h; cases h
    | some v =>
      rw [hq] at h
      exact hN _ _ _ _ h hL (okS.cons (kon_ok hq).2 hst) hG
  | iload j =>
    dsimp only at h
    rcases sLd_c ls j with ⟨x, hl, hk⟩ | hk
    · rw [hk] at h
      exact hN _ _ _ _ h hL (okS.cons (hL _ _ hl) hst) hG
    · rw [hk] at h; cases h
  | iload_n j =>
    dsimp only at h
    rcases sLd_c ls j.val with ⟨x, hl, hk⟩ | hk
    · rw [hk] at h
      exact hN _ _ _ _ h hL (okS.cons (hL _ _ hl) hst) hG
    · rw [hk] at h; cases h
  | aload j =>
    dsimp only at h
    rcases sLdR_c ls j with ⟨t, i, hl, hk⟩ | hk
    · rw [hk] at h
      exact hN _ _ _ _ h hL (okS.cons (hL _ _ hl) hst) hG
    · rw [hk] at h; cases h
  | aload_n j =>
    dsimp only at h
    rcases sLdR_c ls j.val with ⟨t, i, hl, hk⟩ | hk
    · rw [hk] at h
      exact hN _ _ _ _ h hL (okS.cons (hL _ _ hl) hst) hG
    · rw [hk] at h; cases h
  | dload j =>
    dsimp only at h
    rcases sLdD_c ls j with ⟨x, hl, hk⟩ | hk
    · rw [hk] at h
      exact hN _ _ _ _ h hL (okS.cons (hL _ _ hl) hst) hG
    · rw [hk] at h; cases h
  | istore j =>
    dsimp only at h
    rcases p1_c st with ⟨x, s, hs, hk⟩ | hk
    · rw [hk] at h
      subst hs
      rcases sst_c ls j (.inl x) with ⟨_, _, hk⟩ | hk
      · rw [hk] at h
        exact hN _ _ _ _ h (okL_set hL hst.head) hst.tail hG
      · rw [hk] at h; cases h
    · rw [hk] at h; cases h
  | istore_n j =>
    dsimp only at h
    rcases p1_c st with ⟨x, s, hs, hk⟩ | hk
    · rw [hk] at h
      subst hs
      rcases sst_c ls j.val (.inl x) with ⟨_, _, hk⟩ | hk
      · rw [hk] at h
        exact hN _ _ _ _ h (okL_set hL hst.head) hst.tail hG
      · rw [hk] at h; cases h
    · rw [hk] at h; cases h
  | astore j =>
    dsimp only at h
    rcases pR_c st with ⟨t, i, s, hs, hk⟩ | hk
    · rw [hk] at h
      subst hs
      rcases sst_c ls j (.inr (.inl (t, i))) with ⟨_, _, hk⟩ | hk
      · rw [hk] at h
        exact hN _ _ _ _ h (okL_set hL hst.head) hst.tail hG
      · rw [hk] at h; cases h
    · rw [hk] at h; cases h
  | astore_n j =>
    dsimp only at h
    rcases pR_c st with ⟨t, i, s, hs, hk⟩ | hk
    · rw [hk] at h
      subst hs
      rcases sst_c ls j.val (.inr (.inl (t, i))) with ⟨_, _, hk⟩ | hk
      · rw [hk] at h
        exact hN _ _ _ _ h (okL_set hL hst.head) hst.tail hG
      · rw [hk] at h; cases h
    · rw [hk] at h; cases h
  | dstore j =>
    dsimp only at h
    rcases pD_c st with ⟨x, s, hs, hk⟩ | hk
    · rw [hk] at h
      subst hs
      rcases sst2_c ls j (.inr (.inr (.inr x))) with ⟨_, _, hk⟩ | hk
      · rw [hk] at h
        exact hN _ _ _ _ h (okL_none (okL_set hL hst.head)) hst.tail hG
      · rw [hk] at h; cases h
    · rw [hk] at h; cases h
  | iinc j v =>
    dsimp only at h
    rcases sLd_c ls j with ⟨x, hl, hk⟩ | hk
    · rw [hk] at h
      rcases sst_c ls j (.inl (wr (x + v))) with ⟨_, _, hk⟩ | hk
      · rw [hk] at h
        exact hN _ _ _ _ h (okL_set hL (wr_inR _)) hst hG
      · rw [hk] at h; cases h
    · rw [hk] at h; cases h
  | iadd =>
    dsimp only at h
    rcases p2_c st with ⟨a, b, s, hs, hk⟩ | hk
    · rw [hk] at h
      subst hs
      exact hN _ _ _ _ h hL (okS.cons (wr_inR _) hst.tail.tail) hG
    · rw [hk] at h; cases h
  | isub =>
    dsimp only at h
    rcases p2_c st with ⟨a, b, s, hs, hk⟩ | hk
    · rw [hk] at h
      subst hs
      exact hN _ _ _ _ h hL (okS.cons (wr_inR _) hst.tail.tail) hG
    · rw [hk] at h; cases h
  | imul =>
    dsimp only at h
    rcases p2_c st with ⟨a, b, s, hs, hk⟩ | hk
    · rw [hk] at h
      subst hs
      exact hN _ _ _ _ h hL (okS.cons (wr_inR _) hst.tail.tail) hG
    · rw [hk] at h; cases h
  | iand =>
    dsimp only at h
    rcases p2_c st with ⟨a, b, s, hs, hk⟩ | hk
    · rw [hk] at h
      subst hs
      exact hN _ _ _ _ h hL (okS.cons (inR_toInt _) hst.tail.tail) hG
    · rw [hk] at h; cases h
  | ior =>
    dsimp only at h
    rcases p2_c st with ⟨a, b, s, hs, hk⟩ | hk
    · rw [hk] at h
      subst hs
      exact hN _ _ _ _ h hL (okS.cons (inR_toInt _) hst.tail.tail) hG
    · rw [hk] at h; cases h
  | ishl =>
    dsimp only at h
    rcases p2_c st with ⟨a, b, s, hs, hk⟩ | hk
    · rw [hk] at h
      subst hs
      exact hN _ _ _ _ h hL (okS.cons (inR_toInt _) hst.tail.tail) hG
    · rw [hk] at h; cases h
  | ishr =>
    dsimp only at h
    rcases p2_c st with ⟨a, b, s, hs, hk⟩ | hk
    · rw [hk] at h
      subst hs
      exact hN _ _ _ _ h hL (okS.cons (inR_toInt _) hst.tail.tail) hG
    · rw [hk] at h; cases h
  | iushr =>
    dsimp only at h
    rcases p2_c st with ⟨a, b, s, hs, hk⟩ | hk
    · rw [hk] at h
      subst hs
      exact hN _ _ _ _ h hL (okS.cons (inR_toInt _) hst.tail.tail) hG
    · rw [hk] at h; cases h
  | idiv =>
    dsimp only at h
    rcases p2_c st with ⟨a, b, s, hs, hk⟩ | hk
    · rw [hk] at h
      subst hs
      split at h
      · cases h
      · exact hN _ _ _ _ h hL (okS.cons (inR_toInt _) hst.tail.tail) hG
    · rw [hk] at h; cases h
  | irem =>
    dsimp only at h
    rcases p2_c st with ⟨a, b, s, hs, hk⟩ | hk
    · rw [hk] at h
      subst hs
      split at h
      · cases h
      · exact hN _ _ _ _ h hL (okS.cons (inR_toInt _) hst.tail.tail) hG
    · rw [hk] at h; cases h
  | ineg =>
    dsimp only at h
    rcases p1_c st with ⟨a, s, hs, hk⟩ | hk
    · rw [hk] at h
      subst hs
      exact hN _ _ _ _ h hL (okS.cons (wr_inR _) hst.tail) hG
    · rw [hk] at h; cases h
  | i2c =>
    dsimp only at h
    rcases p1_c st with ⟨a, s, hs, hk⟩ | hk
    · rw [hk] at h
      subst hs
      exact hN _ _ _ _ h hL (okS.cons (inR_toInt _) hst.tail) hG
    · rw [hk] at h; cases h
  | i2l =>
    dsimp only at h
    rcases p1_c st with ⟨a, s, hs, hk⟩ | hk
    · rw [hk] at h
      subst hs
      exact hN _ _ _ _ h hL (okS.cons (inR_J hst.head) hst.tail) hG
    · rw [hk] at h; cases h
  | i2d =>
    dsimp only at h
    rcases p1_c st with ⟨a, s, hs, hk⟩ | hk
    · rw [hk] at h
      subst hs
      exact hN _ _ _ _ h hL (okS.cons trivial hst.tail) hG
    · rw [hk] at h; cases h
  | ddiv =>
    dsimp only at h
    rcases pD2_c st with ⟨a, b, s, hs, hk⟩ | hk
    · rw [hk] at h
      subst hs
      split at h
      · exact hN _ _ _ _ h hL (okS.cons trivial hst.tail.tail) hG
      · cases h
    · rw [hk] at h; cases h
  | dconst d =>
    dsimp only at h
    cases hb : (Nat.beq d.val 0) with
    | false => rw [hb] at h; cases h
    | true =>
      rw [hb] at h
      simp only [cond_true] at h
      exact hN _ _ _ _ h hL (okS.cons trivial hst) hG
  | dcmp op =>
    dsimp only at h
    rcases pD2_c st with ⟨a, b, s, hs, hk⟩ | hk
    · rw [hk] at h
      subst hs
      exact hN _ _ _ _ h hL (okS.cons (dCmp_R a b op) hst.tail.tail) hG
    · rw [hk] at h; cases h
  | lcmp =>
    dsimp only at h
    rcases pJ2_c st with ⟨a, b, s, hs, hk⟩ | hk
    · rw [hk] at h
      subst hs
      exact hN _ _ _ _ h hL (okS.cons (jCmp_R a b) hst.tail.tail) hG
    · rw [hk] at h; cases h
  | dup =>
    dsimp only at h
    match st, h with
    | .inl x :: s, h => exact hN _ _ _ _ h hL (okS.cons hst.head hst) hG
    | .inr (.inl q) :: s, h => exact hN _ _ _ _ h hL (okS.cons hst.head hst) hG
    | [], h => cases h
    | .inr (.inr q) :: s, h => cases h
  | pop =>
    dsimp only at h
    match st, h with
    | .inl x :: s, h => exact hN _ _ _ _ h hL hst.tail hG
    | .inr (.inl q) :: s, h => exact hN _ _ _ _ h hL hst.tail hG
    | [], h => cases h
    | .inr (.inr q) :: s, h => cases h
  | dup2 =>
    dsimp only at h
    rcases pRI_c st with ⟨t, i, j, s, hs, hk⟩ | hk
    · rw [hk] at h
      subst hs
      exact hN _ _ _ _ h hL (okS.cons hst.head (okS.cons hst.tail.head hst)) hG
    · rw [hk] at h; cases h
  | ifCond c off =>
    dsimp only at h
    rcases p1_c st with ⟨x, s, hs, hk⟩ | hk
    · rw [hk] at h
      subst hs
      rcases jmp_c pc off with ⟨_, _, hk⟩ | hk
      · rw [hk] at h
        rcases br_cc c x 0 with hb | hb
        · rw [hb] at h
          exact hN _ _ _ _ h hL hst.tail hG
        · rw [hb] at h
          exact hN _ _ _ _ h hL hst.tail hG
      · rw [hk] at h; cases h
    · rw [hk] at h; cases h
  | if_icmp c off =>
    dsimp only at h
    rcases p2_c st with ⟨x, x2, s, hs, hk⟩ | hk
    · rw [hk] at h
      subst hs
      rcases jmp_c pc off with ⟨_, _, hk⟩ | hk
      · rw [hk] at h
        rcases br_cc c x x2 with hb | hb
        · rw [hb] at h
          exact hN _ _ _ _ h hL hst.tail.tail hG
        · rw [hb] at h
          exact hN _ _ _ _ h hL hst.tail.tail hG
      · rw [hk] at h; cases h
    · rw [hk] at h; cases h
  | goto off =>
    dsimp only at h
    rcases jmp_c pc off with ⟨_, _, hk⟩ | hk
    · rw [hk] at h
      exact hN _ _ _ _ h hL hst hG
    · rw [hk] at h; cases h
  | tableswitch d lo hi offs =>
    dsimp only at h
    rcases p1_c st with ⟨x, s, hs, hk⟩ | hk
    · rw [hk] at h
      subst hs
      refine tsel_p (fun o h => ?_) (fun h => ?_) _ _ _ h
      · rcases jmp_c pc o with ⟨_, _, hk⟩ | hk
        · rw [hk] at h
          exact hN _ _ _ _ h hL hst.tail hG
        · rw [hk] at h; cases h
      · rcases jmp_c pc d with ⟨_, _, hk⟩ | hk
        · rw [hk] at h
          exact hN _ _ _ _ h hL hst.tail hG
        · rw [hk] at h; cases h
    · rw [hk] at h; cases h
  | getfield k =>
    dsimp only at h
    rcases pR_c st with ⟨t, i, s, hs, hk⟩ | hk
    · rw [hk] at h
      subst hs
      cases hq : fld (own y) k with
      | none => rw [hq] at h; cases h
      | some q =>
        obtain ⟨t', sl, f⟩ := q
        rw [hq] at h
        dsimp only at h
        obtain ⟨sn, rfl, hFF⟩ := fld_ok hq
        cases hb : Nat.beq t t' with
        | false => rw [hb] at h; cases h
        | true =>
          rw [hb] at h
          have e : t = t' := Nat.eq_of_beq_eq_true hb
          subst e
          have ho : t ∈ objs := hFF.1
          have hlt := objs_lt t ho
          simp only [cond_true] at h
          cases hb3 : Nat.beq f 3 with
          | false =>
            rw [hb3] at h
            exact hN _ _ _ _ h hL (okS.cons ((hG t i sn).2 hlt.2.2.1 hlt.2.2.2.1 hlt.2.2.2.2) hst.tail) hG
          | true =>
            rw [hb3] at h
            have h3 : f = ftk t sn := hFF.2.2.1
            have hk := fk_all t ho sn hFF.2.1
            have hk2 : (t, sn) ∈ tgL := by
              unfold fkOK at hk
              simp only [← h3, Nat.eq_of_beq_eq_true hb3] at hk
              exact of_decide_eq_true hk
            have hcl : (t, i) ∈ cs := Ref_.cell hst.head hlt.1
            exact hN _ _ _ _ h hL (okS.cons (Or.inl (hCl.2.1 t i sn hcl hk2)) hst.tail) hG
    · rw [hk] at h; cases h
  | putfield k =>
    dsimp only at h
    rcases pRV_c st with ⟨t, i, x, s, hs, hk⟩ | hk
    · rw [hk] at h
      subst hs
      cases hq : fld (own y) k with
      | none => rw [hq] at h; cases h
      | some q =>
        obtain ⟨t', sl, f⟩ := q
        rw [hq] at h
        dsimp only at h
        obtain ⟨sn, rfl, hFF⟩ := fld_ok hq
        cases hb : Nat.beq t t' with
        | false => rw [hb] at h; cases h
        | true =>
          rw [hb] at h
          have e : t = t' := Nat.eq_of_beq_eq_true hb
          subst e
          have hlt := objs_lt t hFF.1
          simp only [cond_true] at h
          have key : N (pc + len) ls s (up G t i (sn : Int) x) = some (r, Gf) := by
            match f, h with
            | 0, h => exact h
            | 1, h =>
              change (if 0 ≤ x ∧ x ≤ 1 then N (pc + len) ls s (up G t i (sn : Int) x) else none) = some (r, Gf) at h
              split at h
              · exact h
              · cases h
            | 2, h =>
              change (if 0 ≤ x ∧ x < 65536 then N (pc + len) ls s (up G t i (sn : Int) x) else none) = some (r, Gf) at h
              split at h
              · exact h
              · cases h
            | n + 3, h => cases h
          exact Pst.up (hN _ _ _ _ key) hlt.1 hL hst.tail.tail hG (fun e => absurd e hlt.2.2.1) (fun _ _ _ => hst.head)
    · rw [hk] at h; cases h
  | getstatic k =>
    dsimp only at h
    cases hq : gst (own y) k with
    | none => rw [hq] at h; cases h
    | some t =>
      rw [hq] at h
      have hm := gst_ok hq
      simp only [List.mem_cons, Prod.mk.injEq, List.not_mem_nil, or_false] at hm
      have ht : 44 ≤ t ∧ t < 47 := by omega
      exact hN _ _ _ _ h hL (okS.cons (Or.inr ⟨ht.1, ht.2, rfl⟩) hst) hG
  | iaload =>
    dsimp only at h
    rcases pRI_c st with ⟨t, i, j, s, hs, hk⟩ | hk
    · rw [hk] at h
      subst hs
      cases hb : (Nat.beq (akd t) 1) with
      | false => rw [hb] at h; cases h
      | true =>
        rw [hb] at h
        simp only [cond_true] at h
        have hk1 : akd t = 1 := Nat.eq_of_beq_eq_true hb
        split at h
        · rename_i hq
          exact hN _ _ _ _ h hL (okS.cons ((hG t i j).2 (fun e => absurd (e ▸ hk1 : akd 42 = 1) (by decide +kernel)) (fun e => absurd (e ▸ hk1 : akd 43 = 1) (by decide +kernel)) (fun e => absurd (e ▸ hk1 : akd 48 = 1) (by decide +kernel))) hst.tail.tail) hG
        · cases h
    · rw [hk] at h; cases h
  | caload =>
    dsimp only at h
    rcases pRI_c st with ⟨t, i, j, s, hs, hk⟩ | hk
    · rw [hk] at h
      subst hs
      cases hb : (Nat.beq (akd t) 2) with
      | false => rw [hb] at h; cases h
      | true =>
        rw [hb] at h
        simp only [cond_true] at h
        have hk1 : akd t = 2 := Nat.eq_of_beq_eq_true hb
        split at h
        · rename_i hq
          exact hN _ _ _ _ h hL (okS.cons ((hG t i j).2 (fun e => absurd (e ▸ hk1 : akd 42 = 2) (by decide +kernel)) (fun e => absurd (e ▸ hk1 : akd 43 = 2) (by decide +kernel)) (fun e => absurd (e ▸ hk1 : akd 48 = 2) (by decide +kernel))) hst.tail.tail) hG
        · cases h
    · rw [hk] at h; cases h
  | laload =>
    dsimp only at h
    rcases pRI_c st with ⟨t, i, j, s, hs, hk⟩ | hk
    · rw [hk] at h
      subst hs
      cases hb : (Nat.beq (akd t) 3) with
      | false => rw [hb] at h; cases h
      | true =>
        rw [hb] at h
        simp only [cond_true] at h
        have hk1 : akd t = 3 := Nat.eq_of_beq_eq_true hb
        split at h
        · rename_i hq
          exact hN _ _ _ _ h hL (okS.cons ((hG t i j).1 ((akd_cells t (akd_lt hCl.1 (i := i) (by omega) hst.tail.head)).2.1 hk1)) hst.tail.tail) hG
        · cases h
    · rw [hk] at h; cases h
  | daload =>
    dsimp only at h
    rcases pRI_c st with ⟨t, i, j, s, hs, hk⟩ | hk
    · rw [hk] at h
      subst hs
      cases hb : (Nat.beq (akd t) 4) with
      | false => rw [hb] at h; cases h
      | true =>
        rw [hb] at h
        simp only [cond_true] at h
        have hk1 : akd t = 4 := Nat.eq_of_beq_eq_true hb
        split at h
        · rename_i hq
          exact hN _ _ _ _ h hL (okS.cons trivial hst.tail.tail) hG
        · cases h
    · rw [hk] at h; cases h
  | aaload =>
    dsimp only at h
    rcases pRI_c st with ⟨t, i, j, s, hs, hk⟩ | hk
    · rw [hk] at h
      subst hs
      cases hb : (Nat.beq (akd t) 5) with
      | false => rw [hb] at h; cases h
      | true =>
        rw [hb] at h
        simp only [cond_true] at h
        have hk1 : akd t = 5 := Nat.eq_of_beq_eq_true hb
        split at h
        · rename_i hq
          exact hN _ _ _ _ h hL (okS.cons (Or.inl (hCl.2.2 t i j (Ref_.cell hst.tail.head (akd_lt hCl.1 (i := i) (by omega) hst.tail.head)) hk1 hq.1 (by rw [← aln_c G t (akd_lt hCl.1 (i := i) (by omega) hst.tail.head)]; exact hq.2))) hst.tail.tail) hG
        · cases h
    · rw [hk] at h; cases h
  | iastore =>
    dsimp only at h
    rcases pRIV_c st with ⟨t, i, j, x, s, hs, hk⟩ | hk
    · rw [hk] at h
      subst hs
      cases hb : (Nat.beq (akd t) 1 && awr t) with
      | false => rw [hb] at h; cases h
      | true =>
        rw [hb] at h
        simp only [cond_true] at h
        simp only [Bool.and_eq_true] at hb
        have hk1 : akd t = 1 := Nat.eq_of_beq_eq_true hb.1
        split at h
        · exact Pst.up (hN _ _ _ _ h) (awr_lt hb.2) hL hst.tail.tail.tail hG (fun e => absurd (e ▸ hk1 : akd 42 = 1) (by decide +kernel)) (fun _ _ _ => hst.head)
        · cases h
    · rw [hk] at h; cases h
  | castore =>
    dsimp only at h
    rcases pRIV_c st with ⟨t, i, j, x, s, hs, hk⟩ | hk
    · rw [hk] at h
      subst hs
      cases hb : (Nat.beq (akd t) 2) with
      | false => rw [hb] at h; cases h
      | true =>
        rw [hb] at h
        simp only [cond_true] at h
        have hk1 : akd t = 2 := Nat.eq_of_beq_eq_true hb
        split at h
        · split at h
          · exact Pst.up (hN _ _ _ _ h) (akd_lt hCl.1 (i := i) (by omega) hst.tail.tail.head) hL hst.tail.tail.tail hG (fun e => absurd (e ▸ hk1 : akd 42 = 2) (by decide +kernel)) (fun _ _ _ => hst.head)
          · cases h
        · cases h
    · rw [hk] at h; cases h
  | lastore =>
    dsimp only at h
    rcases pRIJ_c st with ⟨t, i, j, x, s, hs, hk⟩ | hk
    · rw [hk] at h
      subst hs
      cases hb : (Nat.beq (akd t) 3) with
      | false => rw [hb] at h; cases h
      | true =>
        rw [hb] at h
        simp only [cond_true] at h
        have hk1 : akd t = 3 := Nat.eq_of_beq_eq_true hb
        have ht := akd_lt hCl.1 (i := i) (by omega) hst.tail.tail.head
        split at h
        · exact Pst.up (hN _ _ _ _ h) ht hL hst.tail.tail.tail hG (fun _ => hst.head) (fun e => absurd ((akd_cells t ht).2.1 hk1) e)
        · cases h
    · rw [hk] at h; cases h
  | dastore =>
    dsimp only at h
    rcases pRID_c st with ⟨t, i, j, x, s, hs, hk⟩ | hk
    · rw [hk] at h
      subst hs
      cases hb : (Nat.beq (akd t) 4) with
      | false => rw [hb] at h; cases h
      | true =>
        rw [hb] at h
        simp only [cond_true] at h
        have hk1 : akd t = 4 := Nat.eq_of_beq_eq_true hb
        have ht := akd_lt hCl.1 (i := i) (by omega) hst.tail.tail.head
        split at h
        · exact Pst.up (hN _ _ _ _ h) ht hL hst.tail.tail.tail hG (fun e => absurd (e ▸ hk1 : akd 42 = 4) (by decide +kernel)) (fun _ e => absurd ((akd_cells t ht).2.2.1 hk1) e)
        · cases h
    · rw [hk] at h; cases h
  | arraylength =>
    dsimp only at h
    rcases pR_c st with ⟨t, i, s, hs, hk⟩ | hk
    · rw [hk] at h
      subst hs
      cases hb : (Nat.ble 1 (akd t)) with
      | false => rw [hb] at h; cases h
      | true =>
        rw [hb] at h
        simp only [cond_true] at h
        have hv : inR (aln G t) := by
          by_cases ht : t < 44
          · rw [aln_c G t ht]
            have := (akd_cells t ht).2.2.2.2.2.2.2
            exact ⟨by omega, this.2⟩
          · rcases hst.head with h | ⟨h1, h2, -⟩
            · exact absurd (hCl.1 _ _ h).1 ht
            · have h3 : t = 44 ∨ t = 45 ∨ t = 46 := by omega
              rcases h3 with rfl | rfl | rfl
              · exact (hG 47 0 0).2 (by decide) (by decide) (by decide)
              · exact (show inR 3 from ⟨by decide, by decide⟩)
              · exact (show inR 3 from ⟨by decide, by decide⟩)
        exact hN _ _ _ _ h hL (okS.cons hv hst.tail) hG
    · rw [hk] at h; cases h
  | invokevirtual k =>
    dsimp only at h
    cases hq : mth (own y) k with
    | none => rw [hq] at h; cases h
    | some q =>
      obtain ⟨z, d⟩ := q
      have hm := mth_ok hq
      rw [hq] at h
      match d, hm, h with
      | 1, hm, h => exact sCall_p hN hF hm.1 h hL hst hG
      | 0, hm, h => cases h
      | n + 2, hm, h => cases h
  | invokestatic k =>
    dsimp only at h
    have hm : ∀ z, mth (own y) k = some (z, 0) → z < 302 := fun z hq => (mth_ok hq).1
    generalize mth (own y) k = q at h hm
    match q, h, hm with
    | some (z, 0), h, hm => exact sCall_p hN hF (hm z rfl) h hL hst hG
    | some (z, 2), h, hm =>
      try dsimp only at h
      rcases pCpy_c st with ⟨ts, is, sp, td, id, dp, n, s, hs, hk⟩ | hk
      · rw [hk] at h
        subst hs
        cases hb : (Nat.beq (akd ts) 1 && (Nat.beq (akd td) 1 && (awr ts && (awr td && Nat.ble (wsum s) 8)))) with
        | false => rw [hb] at h; cases h
        | true =>
          rw [hb] at h
          simp only [cond_true] at h
          simp only [Bool.and_eq_true] at hb
          split at h
          · have hh := hN _ _ _ _ h hL hst.tail.tail.tail.tail.tail (okG_cpy hG (Nat.eq_of_beq_eq_true hb.1) (Nat.eq_of_beq_eq_true hb.2.1))
            rw [cnt_cpy G ts is sp id dp n (awr_lt hb.2.2.2.1)] at hh
            exact ⟨hh.1, hh.2.1, hh.2.2.1, (RoE_cpy G ts is sp id dp n (awr_lt hb.2.2.2.1)).trans hh.2.2.2⟩
          · cases h
      · rw [hk] at h; cases h
    | none, h, hm => cases h
    | some (z, 1), h, hm => cases h
    | some (z, 3), hin, hm =>
      clear h
      have h := hin
      clear hin
      change p2 st (fun x y st => bif Nat.ble (wsum st) 8 then N (pc + 3) ls (.inl (mMin x y) :: st) G else none) = some (r, Gf) at h
      rcases p2_c st with ⟨x, x2, s, hs, hk⟩ | hk
      · rw [hk] at h
        subst hs
        cases hb : (Nat.ble (wsum s) 8) with
        | false => rw [hb] at h; cases h
        | true =>
          rw [hb] at h
          simp only [cond_true] at h
          exact hN _ _ _ _ h hL (okS.cons (mMin_R hst.tail.head hst.head) hst.tail.tail) hG
      · rw [hk] at h; cases h
    | some (z, 4), hin, hm =>
      clear h
      have h := hin
      clear hin
      change p2 st (fun x y st => bif Nat.ble (wsum st) 8 then N (pc + 3) ls (.inl (mMax x y) :: st) G else none) = some (r, Gf) at h
      rcases p2_c st with ⟨x, x2, s, hs, hk⟩ | hk
      · rw [hk] at h
        subst hs
        cases hb : (Nat.ble (wsum s) 8) with
        | false => rw [hb] at h; cases h
        | true =>
          rw [hb] at h
          simp only [cond_true] at h
          exact hN _ _ _ _ h hL (okS.cons (mMax_R hst.tail.head hst.head) hst.tail.tail) hG
      · rw [hk] at h; cases h
    | some (z, 5), hin, hm =>
      clear h
      have h := hin
      clear hin
      change p1 st (fun x st => bif Nat.ble (wsum st) 8 then N (pc + 3) ls (.inl (mAbs x) :: st) G else none) = some (r, Gf) at h
      rcases p1_c st with ⟨x, s, hs, hk⟩ | hk
      · rw [hk] at h
        subst hs
        cases hb : (Nat.ble (wsum s) 8) with
        | false => rw [hb] at h; cases h
        | true =>
          rw [hb] at h
          simp only [cond_true] at h
          exact hN _ _ _ _ h hL (okS.cons (mAbs_R hst.head) hst.tail) hG
      · rw [hk] at h; cases h
    | some (z, n + 6), h, hm => cases h
  | new k =>
    dsimp only at h
    match st, h with
    | q :: s, h => cases h
    | [], h =>
      dsimp only at h
      cases hq : thr y pc with
      | none => rw [hq] at h; cases h
      | some x =>
        rw [hq] at h
        have h1 := Option.some.inj h
        cases h1
        exact ⟨okG_bump hG, thr_lt _ (thrF_mem hq), by rw [cnt_bump]; omega, RoE_bump G⟩
  | ireturn =>
    dsimp only at h
    match st, h with
    | [.inl x], h =>
      have hx : inR x := hst.head
      dsimp only at h
      cases hz : zrt y with
      | false =>
        rw [hz] at h
        have h1 := Option.some.inj h
        cases h1
        exact ⟨hG, hx, Int.le_refl _, RoE.refl _⟩
      | true =>
        rw [hz] at h
        simp only [cond_true] at h
        split at h
        · have h1 := Option.some.inj h
          cases h1
          exact ⟨hG, hx, Int.le_refl _, RoE.refl _⟩
        · cases h
    | [], h => cases h
    | .inl x :: q :: s, h => cases h
    | .inr q :: s, h => cases h
  | areturn =>
    dsimp only at h
    match st, h with
    | [.inr (.inl q)], h =>
      have h1 := Option.some.inj h
      cases h1
      exact ⟨hG, hst.head, Int.le_refl _, RoE.refl _⟩
    | [], h => cases h
    | .inr (.inl q) :: q2 :: s, h => cases h
    | .inr (.inr q) :: s, h => cases h
    | .inl q :: s, h => cases h
  | dreturn =>
    dsimp only at h
    match st, h with
    | [.inr (.inr (.inr q))], h =>
      have h1 := Option.some.inj h
      cases h1
      exact ⟨hG, trivial, Int.le_refl _, RoE.refl _⟩
    | [], h => cases h
    | .inr (.inr (.inr q)) :: q2 :: s, h => cases h
    | .inr (.inr (.inl q)) :: s, h => cases h
    | .inr (.inl q) :: s, h => cases h
    | .inl q :: s, h => cases h
  | return_ =>
    dsimp only at h
    match st, h with
    | [], h =>
      have h1 := Option.some.inj h
      cases h1
      exact ⟨hG, trivial, Int.le_refl _, RoE.refl _⟩
    | q :: s, h => cases h
  | _ => cases h
end PSTEP
theorem cutN_p {cs : CS} {K N : Nat → Lcs → List AV → GG → RS} {r : RV} {Gf : GG} {y : Nat} (hK : ∀ pc ls st G, K pc ls st G = some (r, Gf) → Pst cs r Gf ls st G) (hN : ∀ pc ls st G, N pc ls st G = some (r, Gf) → Pst cs r Gf ls st G) :
    ∀ pc ls st G, cutN K N y pc ls st G = some (r, Gf) → Pst cs r Gf ls st G := by
  intro pc ls st G h
  unfold cutN at h
  split at h
  · exact fun hL hst hG => hK _ _ _ _ h (okL_msk hL) hst hG
  · exact hN _ _ _ _ h
/-- what the rows of a method's body need of its table -/
def Dkl (y pc0 : Nat) : Prop := ∀ pc i len, pc0 ≤ pc → cd y pc = some (i, len) → decode (byt y) pc = .ok (i, len) ∧ iok i len = true
theorem ent_ok {cs : CS} {z : Nat} {a : List AV} (h : okS cs a) : okL cs (ent z a) := by
  have key : ∀ (a : List AV) (n j : Nat) (v : AV), lget (a.map some ++ List.replicate n none) j = some v → v ∈ a := by
    intro a
    induction a with
    | nil =>
      intro n
      induction n with
      | zero => intro j v h; cases j <;> cases h
      | succ n ih =>
        intro j v h
        cases j with
        | zero => cases h
        | succ j => exact ih j v h
    | cons w a ih =>
      intro n j v h
      cases j with
      | zero => cases h; exact List.mem_cons_self
      | succ j => exact List.mem_cons_of_mem _ (ih n j v h)
  exact fun j v hv => h v (key a _ j v hv)
theorem sx_p {cs : CS} (hCl : Clo cs) : ∀ (n y : Nat), y < 302 → ∀ (r : RV) (Gf : GG) (pc : Nat) (ls : Lcs) (st : List AV) (G : GG), sx n y pc ls st G = some (r, Gf) → Pst cs r Gf ls st G
  | 0, y, hy, r, Gf, pc, ls, st, G, h => by cases h
  | n + 1, y, hy, r, Gf, pc, ls, st, G, h => by
    have hF : PstF cs (fun z a G => sx n z 0 (ent z a) [] G) := fun z a G r Gf hz h ha hG => sx_p hCl n z hz r Gf 0 _ _ G h (ent_ok ha) (fun v hv => absurd hv List.not_mem_nil) hG
    have hK : ∀ pc ls st G, sx n y pc ls st G = some (r, Gf) → Pst cs r Gf ls st G := fun pc ls st G h => sx_p hCl n y hy r Gf pc ls st G h
    have key : ∀ (k pc : Nat) (ls : Lcs) (st : List AV) (G : GG), sT (fun pc ls st G => sx n y pc ls st G) (fun z a G => sx n z 0 (ent z a) [] G) y k pc ls st G = some (r, Gf) → Pst cs r Gf ls st G := by
      intro k
      induction k with
      | zero => intro pc ls st G h; cases h
      | succ k ih => exact fun pc ls st G h => sStep_p hCl (cutN_p hK ih) hF (fun i len hc => dk_ok hy pc i len hc) h
    exact key 1000 pc ls st G h
