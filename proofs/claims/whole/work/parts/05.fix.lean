theorem sStep_ev {N Nn F Fn} (hN : Lim N Nn) (hF : LimF F Fn) {y pc : Nat} {ls : Lcs} {st : List AV} {G : GG} {r : RV × GG} (h : sStep N F y pc ls st G = some r) : Ev fun n => sStep (Nn n) (Fn n) y pc ls st G = some r := by
  unfold sStep at h ⊢
  generalize cd y pc = q at h ⊢
  cases q with
  | none => cases h
  | some q =>
  obtain ⟨ins, len⟩ := q
  dsimp only at h ⊢
  cases ins with
  | iconst v =>
    dsimp only at h ⊢
    exact hN _ _ _ _ _ h
  | bipush v =>
    dsimp only at h ⊢
    exact hN _ _ _ _ _ h
  | sipush v =>
    dsimp only at h ⊢
    exact hN _ _ _ _ _ h
  | ldc k =>
    dsimp only at h ⊢
    generalize kon (own y) k = q at h ⊢
    cases q with
    | none => cases h
    | some v => exact hN _ _ _ _ _ h
  | ldc_w k =>
    dsimp only at h ⊢
    generalize kon (own y) k = q at h ⊢
    cases q with
    | none => cases h
    | some v => exact hN _ _ _ _ _ h
  | iload j =>
    dsimp only at h ⊢
    rcases sLd_c ls j with ⟨_, _, hk⟩ | hk
    · simp only [hk] at h ⊢
      exact hN _ _ _ _ _ h
    · rw [hk] at h; cases h
  | iload_n j =>
    dsimp only at h ⊢
    rcases sLd_c ls j.val with ⟨_, _, hk⟩ | hk
    · simp only [hk] at h ⊢
      exact hN _ _ _ _ _ h
    · rw [hk] at h; cases h
  | aload j =>
    dsimp only at h ⊢
    rcases sLdR_c ls j with ⟨_, _, _, hk⟩ | hk
    · simp only [hk] at h ⊢
      exact hN _ _ _ _ _ h
    · rw [hk] at h; cases h
  | aload_n j =>
    dsimp only at h ⊢
    rcases sLdR_c ls j.val with ⟨_, _, _, hk⟩ | hk
    · simp only [hk] at h ⊢
      exact hN _ _ _ _ _ h
    · rw [hk] at h; cases h
  | dload j =>
    dsimp only at h ⊢
    rcases sLdD_c ls j with ⟨_, _, hk⟩ | hk
    · simp only [hk] at h ⊢
      exact hN _ _ _ _ _ h
    · rw [hk] at h; cases h
  | istore j =>
    dsimp only at h ⊢
    rcases p1_c st with ⟨x, s, _, hk⟩ | hk
    · simp only [hk] at h ⊢
      rcases sst_c ls j (.inl x) with ⟨_, _, hk⟩ | hk
      · simp only [hk] at h ⊢
        exact hN _ _ _ _ _ h
      · rw [hk] at h; cases h
    · rw [hk] at h; cases h
  | istore_n j =>
    dsimp only at h ⊢
    rcases p1_c st with ⟨x, s, _, hk⟩ | hk
    · simp only [hk] at h ⊢
      rcases sst_c ls j.val (.inl x) with ⟨_, _, hk⟩ | hk
      · simp only [hk] at h ⊢
        exact hN _ _ _ _ _ h
      · rw [hk] at h; cases h
    · rw [hk] at h; cases h
  | astore j =>
    dsimp only at h ⊢
    rcases pR_c st with ⟨t, i, s, _, hk⟩ | hk
    · simp only [hk] at h ⊢
      rcases sst_c ls j (.inr (.inl (t, i))) with ⟨_, _, hk⟩ | hk
      · simp only [hk] at h ⊢
        exact hN _ _ _ _ _ h
      · rw [hk] at h; cases h
    · rw [hk] at h; cases h
  | astore_n j =>
    dsimp only at h ⊢
    rcases pR_c st with ⟨t, i, s, _, hk⟩ | hk
    · simp only [hk] at h ⊢
      rcases sst_c ls j.val (.inr (.inl (t, i))) with ⟨_, _, hk⟩ | hk
      · simp only [hk] at h ⊢
        exact hN _ _ _ _ _ h
      · rw [hk] at h; cases h
    · rw [hk] at h; cases h
  | dstore j =>
    dsimp only at h ⊢
    rcases pD_c st with ⟨x, s, _, hk⟩ | hk
    · simp only [hk] at h ⊢
      rcases sst2_c ls j (.inr (.inr (.inr x))) with ⟨_, _, hk⟩ | hk
      · simp only [hk] at h ⊢
        exact hN _ _ _ _ _ h
      · rw [hk] at h; cases h
    · rw [hk] at h; cases h
  | iinc j v =>
    dsimp only at h ⊢
    rcases sLd_c ls j with ⟨x, _, hk⟩ | hk
    · simp only [hk] at h ⊢
      rcases sst_c ls j (.inl (wr (x + v))) with ⟨_, _, hk⟩ | hk
      · simp only [hk] at h ⊢
        exact hN _ _ _ _ _ h
      · rw [hk] at h; cases h
    · rw [hk] at h; cases h
  | iadd =>
    dsimp only at h ⊢
    rcases p2_c st with ⟨_, _, _, _, hk⟩ | hk
    · simp only [hk] at h ⊢
      exact hN _ _ _ _ _ h
    · rw [hk] at h; cases h
  | isub =>
    dsimp only at h ⊢
    rcases p2_c st with ⟨_, _, _, _, hk⟩ | hk
    · simp only [hk] at h ⊢
      exact hN _ _ _ _ _ h
    · rw [hk] at h; cases h
  | imul =>
    dsimp only at h ⊢
    rcases p2_c st with ⟨_, _, _, _, hk⟩ | hk
    · simp only [hk] at h ⊢
      exact hN _ _ _ _ _ h
    · rw [hk] at h; cases h
  | iand =>
    dsimp only at h ⊢
    rcases p2_c st with ⟨_, _, _, _, hk⟩ | hk
    · simp only [hk] at h ⊢
      exact hN _ _ _ _ _ h
    · rw [hk] at h; cases h
  | ior =>
    dsimp only at h ⊢
    rcases p2_c st with ⟨_, _, _, _, hk⟩ | hk
    · simp only [hk] at h ⊢
      exact hN _ _ _ _ _ h
    · rw [hk] at h; cases h
  | ishl =>
    dsimp only at h ⊢
    rcases p2_c st with ⟨_, _, _, _, hk⟩ | hk
    · simp only [hk] at h ⊢
      exact hN _ _ _ _ _ h
    · rw [hk] at h; cases h
  | ishr =>
    dsimp only at h ⊢
    rcases p2_c st with ⟨_, _, _, _, hk⟩ | hk
    · simp only [hk] at h ⊢
      exact hN _ _ _ _ _ h
    · rw [hk] at h; cases h
  | iushr =>
    dsimp only at h ⊢
    rcases p2_c st with ⟨_, _, _, _, hk⟩ | hk
    · simp only [hk] at h ⊢
      exact hN _ _ _ _ _ h
    · rw [hk] at h; cases h
  | idiv =>
    dsimp only at h ⊢
    rcases p2_c st with ⟨_, _, _, _, hk⟩ | hk
    · simp only [hk] at h ⊢
      split at h
      · cases h
      · rename_i hq
        simp only [hq, if_false]
        exact hN _ _ _ _ _ h
    · rw [hk] at h; cases h
  | irem =>
    dsimp only at h ⊢
    rcases p2_c st with ⟨_, _, _, _, hk⟩ | hk
    · simp only [hk] at h ⊢
      split at h
      · cases h
      · rename_i hq
        simp only [hq, if_false]
        exact hN _ _ _ _ _ h
    · rw [hk] at h; cases h
  | ineg =>
    dsimp only at h ⊢
    rcases p1_c st with ⟨_, _, _, hk⟩ | hk
    · simp only [hk] at h ⊢
      exact hN _ _ _ _ _ h
    · rw [hk] at h; cases h
  | i2c =>
    dsimp only at h ⊢
    rcases p1_c st with ⟨_, _, _, hk⟩ | hk
    · simp only [hk] at h ⊢
      exact hN _ _ _ _ _ h
    · rw [hk] at h; cases h
  | i2l =>
    dsimp only at h ⊢
    rcases p1_c st with ⟨_, _, _, hk⟩ | hk
    · simp only [hk] at h ⊢
      exact hN _ _ _ _ _ h
    · rw [hk] at h; cases h
  | i2d =>
    dsimp only at h ⊢
    rcases p1_c st with ⟨_, _, _, hk⟩ | hk
    · simp only [hk] at h ⊢
      exact hN _ _ _ _ _ h
    · rw [hk] at h; cases h
  | ddiv =>
    dsimp only at h ⊢
    rcases pD2_c st with ⟨_, _, _, _, hk⟩ | hk
    · simp only [hk] at h ⊢
      split at h
      · rename_i hq
        simp only [hq, if_true]
        exact hN _ _ _ _ _ h
      · cases h
    · rw [hk] at h; cases h
  | dconst d =>
    dsimp only at h ⊢
    generalize (Nat.beq d.val 0) = b at h ⊢
    cases b
    · cases h
    · simp only [cond_true] at h ⊢
      exact hN _ _ _ _ _ h
  | dcmp op =>
    dsimp only at h ⊢
    rcases pD2_c st with ⟨_, _, _, _, hk⟩ | hk
    · simp only [hk] at h ⊢
      exact hN _ _ _ _ _ h
    · rw [hk] at h; cases h
  | lcmp =>
    dsimp only at h ⊢
    rcases pJ2_c st with ⟨_, _, _, _, hk⟩ | hk
    · simp only [hk] at h ⊢
      exact hN _ _ _ _ _ h
    · rw [hk] at h; cases h
  | dup =>
    dsimp only at h ⊢
    match st, h with
    | .inl x :: s, h => exact hN _ _ _ _ _ h
    | .inr (.inl q) :: s, h => exact hN _ _ _ _ _ h
    | [], h => cases h
    | .inr (.inr q) :: s, h => cases h
  | pop =>
    dsimp only at h ⊢
    match st, h with
    | .inl x :: s, h => exact hN _ _ _ _ _ h
    | .inr (.inl q) :: s, h => exact hN _ _ _ _ _ h
    | [], h => cases h
    | .inr (.inr q) :: s, h => cases h
  | dup2 =>
    dsimp only at h ⊢
    rcases pRI_c st with ⟨_, _, _, _, _, hk⟩ | hk
    · simp only [hk] at h ⊢
      exact hN _ _ _ _ _ h
    · rw [hk] at h; cases h
  | ifCond c off =>
    dsimp only at h ⊢
    rcases p1_c st with ⟨x, s, _, hk⟩ | hk
    · simp only [hk] at h ⊢
      rcases jmp_c pc off with ⟨_, _, hk⟩ | hk
      · simp only [hk] at h ⊢
        rcases br_cc c x 0 with hb | hb
        · simp only [hb] at h ⊢
          exact hN _ _ _ _ _ h
        · simp only [hb] at h ⊢
          exact hN _ _ _ _ _ h
      · rw [hk] at h; cases h
    · rw [hk] at h; cases h
  | if_icmp c off =>
    dsimp only at h ⊢
    rcases p2_c st with ⟨x, x2, s, _, hk⟩ | hk
    · simp only [hk] at h ⊢
      rcases jmp_c pc off with ⟨_, _, hk⟩ | hk
      · simp only [hk] at h ⊢
        rcases br_cc c x x2 with hb | hb
        · simp only [hb] at h ⊢
          exact hN _ _ _ _ _ h
        · simp only [hb] at h ⊢
          exact hN _ _ _ _ _ h
      · rw [hk] at h; cases h
    · rw [hk] at h; cases h
  | goto off =>
    dsimp only at h ⊢
    rcases jmp_c pc off with ⟨_, _, hk⟩ | hk
    · simp only [hk] at h ⊢
      exact hN _ _ _ _ _ h
    · rw [hk] at h; cases h
  | tableswitch d lo hi offs =>
    dsimp only at h ⊢
    rcases p1_c st with ⟨_, _, _, hk⟩ | hk
    · simp only [hk] at h ⊢
      refine tsel_ev (fun o h => ?_) (fun h => ?_) _ _ _ h
      · rcases jmp_c pc o with ⟨_, _, hk⟩ | hk
        · simp only [hk] at h ⊢
          exact hN _ _ _ _ _ h
        · rw [hk] at h; cases h
      · rcases jmp_c pc d with ⟨_, _, hk⟩ | hk
        · simp only [hk] at h ⊢
          exact hN _ _ _ _ _ h
        · rw [hk] at h; cases h
    · rw [hk] at h; cases h
  | getfield k =>
    dsimp only at h ⊢
    rcases pR_c st with ⟨t, i, s, _, hk⟩ | hk
    · simp only [hk] at h ⊢
      generalize fld (own y) k = o at h ⊢
      cases o with
      | none => cases h
      | some q =>
        obtain ⟨t', sl, f⟩ := q
        dsimp only at h ⊢
        generalize (Nat.beq t t') = b at h ⊢
        cases b
        · cases h
        · simp only [cond_true] at h ⊢
          generalize (Nat.beq f 3) = b at h ⊢
          cases b
          · simp only [cond_false] at h ⊢
            exact hN _ _ _ _ _ h
          · simp only [cond_true] at h ⊢
            exact hN _ _ _ _ _ h
    · rw [hk] at h; cases h
  | putfield k =>
    dsimp only at h ⊢
    rcases pRV_c st with ⟨t, i, x, s, _, hk⟩ | hk
    · simp only [hk] at h ⊢
      generalize fld (own y) k = o at h ⊢
      cases o with
      | none => cases h
      | some q =>
        obtain ⟨t', sl, f⟩ := q
        dsimp only at h ⊢
        generalize (Nat.beq t t') = b at h ⊢
        cases b
        · cases h
        · simp only [cond_true] at h ⊢
          match f, h with
          | 0, h => exact hN _ _ _ _ _ h
          | 1, h =>
            change (if 0 ≤ x ∧ x ≤ 1 then N (pc + len) ls s (up G t i sl x) else none) = some r at h
            change Ev fun n => (if 0 ≤ x ∧ x ≤ 1 then Nn n (pc + len) ls s (up G t i sl x) else none) = some r
            split at h
            · rename_i hq
              simp only [hq, if_true]
              exact hN _ _ _ _ _ h
            · cases h
          | 2, h =>
            change (if 0 ≤ x ∧ x < 65536 then N (pc + len) ls s (up G t i sl x) else none) = some r at h
            change Ev fun n => (if 0 ≤ x ∧ x < 65536 then Nn n (pc + len) ls s (up G t i sl x) else none) = some r
            split at h
            · rename_i hq
              simp only [hq, if_true]
              exact hN _ _ _ _ _ h
            · cases h
          | n + 3, h => cases h
    · rw [hk] at h; cases h
  | getstatic k =>
    dsimp only at h ⊢
    generalize gst (own y) k = o at h ⊢
    cases o with
    | none => cases h
    | some q =>
      exact hN _ _ _ _ _ h
  | iaload =>
    dsimp only at h ⊢
    rcases pRI_c st with ⟨t, i, j, s, _, hk⟩ | hk
    · simp only [hk] at h ⊢
      generalize (Nat.beq (akd t) 1) = b at h ⊢
      cases b
      · cases h
      · simp only [cond_true] at h ⊢
        split at h
        · rename_i hq
          simp only [hq, if_true]
          exact hN _ _ _ _ _ h
        · cases h
    · rw [hk] at h; cases h
  | caload =>
    dsimp only at h ⊢
    rcases pRI_c st with ⟨t, i, j, s, _, hk⟩ | hk
    · simp only [hk] at h ⊢
      generalize (Nat.beq (akd t) 2) = b at h ⊢
      cases b
      · cases h
      · simp only [cond_true] at h ⊢
        split at h
        · rename_i hq
          simp only [hq, if_true]
          exact hN _ _ _ _ _ h
        · cases h
    · rw [hk] at h; cases h
  | aaload =>
    dsimp only at h ⊢
    rcases pRI_c st with ⟨t, i, j, s, _, hk⟩ | hk
    · simp only [hk] at h ⊢
      generalize (Nat.beq (akd t) 5) = b at h ⊢
      cases b
      · cases h
      · simp only [cond_true] at h ⊢
        split at h
        · rename_i hq
          simp only [hq, if_true]
          exact hN _ _ _ _ _ h
        · cases h
    · rw [hk] at h; cases h
  | laload =>
    dsimp only at h ⊢
    rcases pRI_c st with ⟨t, i, j, s, _, hk⟩ | hk
    · simp only [hk] at h ⊢
      generalize (Nat.beq (akd t) 3) = b at h ⊢
      cases b
      · cases h
      · simp only [cond_true] at h ⊢
        split at h
        · rename_i hq
          simp only [hq, if_true]
          exact hN _ _ _ _ _ h
        · cases h
    · rw [hk] at h; cases h
  | daload =>
    dsimp only at h ⊢
    rcases pRI_c st with ⟨t, i, j, s, _, hk⟩ | hk
    · simp only [hk] at h ⊢
      generalize (Nat.beq (akd t) 4) = b at h ⊢
      cases b
      · cases h
      · simp only [cond_true] at h ⊢
        split at h
        · rename_i hq
          simp only [hq, if_true]
          exact hN _ _ _ _ _ h
        · cases h
    · rw [hk] at h; cases h
  | iastore =>
    dsimp only at h ⊢
    rcases pRIV_c st with ⟨t, i, j, x, s, _, hk⟩ | hk
    · simp only [hk] at h ⊢
      generalize (Nat.beq (akd t) 1 && awr t) = b at h ⊢
      cases b
      · cases h
      · simp only [cond_true] at h ⊢
        split at h
        · rename_i hq
          simp only [hq, if_true]
          exact hN _ _ _ _ _ h
        · cases h
    · rw [hk] at h; cases h
  | castore =>
    dsimp only at h ⊢
    rcases pRIV_c st with ⟨t, i, j, x, s, _, hk⟩ | hk
    · simp only [hk] at h ⊢
      generalize (Nat.beq (akd t) 2) = b at h ⊢
      cases b
      · cases h
      · simp only [cond_true] at h ⊢
        split at h
        · rename_i hq
          simp only [hq, if_true]
          split at h
          · rename_i hq
            simp only [hq, if_true]
            exact hN _ _ _ _ _ h
          · cases h
        · cases h
    · rw [hk] at h; cases h
  | lastore =>
    dsimp only at h ⊢
    rcases pRIJ_c st with ⟨t, i, j, x, s, _, hk⟩ | hk
    · simp only [hk] at h ⊢
      generalize (Nat.beq (akd t) 3) = b at h ⊢
      cases b
      · cases h
      · simp only [cond_true] at h ⊢
        split at h
        · rename_i hq
          simp only [hq, if_true]
          exact hN _ _ _ _ _ h
        · cases h
    · rw [hk] at h; cases h
  | dastore =>
    dsimp only at h ⊢
    rcases pRID_c st with ⟨t, i, j, x, s, _, hk⟩ | hk
    · simp only [hk] at h ⊢
      generalize (Nat.beq (akd t) 4) = b at h ⊢
      cases b
      · cases h
      · simp only [cond_true] at h ⊢
        split at h
        · rename_i hq
          simp only [hq, if_true]
          exact hN _ _ _ _ _ h
        · cases h
    · rw [hk] at h; cases h
  | arraylength =>
    dsimp only at h ⊢
    rcases pR_c st with ⟨t, i, s, _, hk⟩ | hk
    · simp only [hk] at h ⊢
      generalize (Nat.ble 1 (akd t)) = b at h ⊢
      cases b
      · cases h
      · simp only [cond_true] at h ⊢
        exact hN _ _ _ _ _ h
    · rw [hk] at h; cases h
  | invokevirtual k =>
    dsimp only at h ⊢
    generalize mth (own y) k = q at h ⊢
    match q, h with
    | some (z, 1), h => exact sCall_ev hN hF h
    | none, h => cases h
    | some (z, 0), h => cases h
    | some (z, n + 2), h => cases h
  | invokestatic k =>
    dsimp only at h ⊢
    generalize mth (own y) k = q at h ⊢
    match q, h with
    | some (z, 0), h => exact sCall_ev hN hF h
    | some (z, 2), h =>
      try dsimp only at h ⊢
      rcases pCpy_c st with ⟨ts, is, sp, td, id, dp, n, s, _, hk⟩ | hk
      · simp only [hk] at h ⊢
        generalize (Nat.beq (akd ts) 1 && (Nat.beq (akd td) 1 && (awr ts && (awr td && Nat.ble (wsum s) 8)))) = b at h ⊢
        cases b
        · cases h
        · simp only [cond_true] at h ⊢
          split at h
          · rename_i hq
            simp only [hq, if_true]
            exact hN _ _ _ _ _ h
          · cases h
      · rw [hk] at h; cases h
    | none, h => cases h
    | some (z, 1), h => cases h
    | some (z, 3), h =>
      change p2 st (fun x y st => bif Nat.ble (wsum st) 8 then N (pc + 3) ls (.inl (mMin x y) :: st) G else none) = some r at h
      change Ev fun n => p2 st (fun x y st => bif Nat.ble (wsum st) 8 then Nn n (pc + 3) ls (.inl (mMin x y) :: st) G else none) = some r
      rcases p2_c st with ⟨x, x2, s, _, hk⟩ | hk
      · simp only [hk] at h ⊢
        generalize (Nat.ble (wsum s) 8) = b at h ⊢
        cases b
        · cases h
        · simp only [cond_true] at h ⊢
          exact hN _ _ _ _ _ h
      · rw [hk] at h; cases h
    | some (z, 4), h =>
      change p2 st (fun x y st => bif Nat.ble (wsum st) 8 then N (pc + 3) ls (.inl (mMax x y) :: st) G else none) = some r at h
      change Ev fun n => p2 st (fun x y st => bif Nat.ble (wsum st) 8 then Nn n (pc + 3) ls (.inl (mMax x y) :: st) G else none) = some r
      rcases p2_c st with ⟨x, x2, s, _, hk⟩ | hk
      · simp only [hk] at h ⊢
        generalize (Nat.ble (wsum s) 8) = b at h ⊢
        cases b
        · cases h
        · simp only [cond_true] at h ⊢
          exact hN _ _ _ _ _ h
      · rw [hk] at h; cases h
    | some (z, 5), h =>
      change p1 st (fun x st => bif Nat.ble (wsum st) 8 then N (pc + 3) ls (.inl (mAbs x) :: st) G else none) = some r at h
      change Ev fun n => p1 st (fun x st => bif Nat.ble (wsum st) 8 then Nn n (pc + 3) ls (.inl (mAbs x) :: st) G else none) = some r
      rcases p1_c st with ⟨x, s, _, hk⟩ | hk
      · simp only [hk] at h ⊢
        generalize (Nat.ble (wsum s) 8) = b at h ⊢
        cases b
        · cases h
        · simp only [cond_true] at h ⊢
          exact hN _ _ _ _ _ h
      · rw [hk] at h; cases h
    | some (z, n + 6), h => cases h
  | new k =>
    dsimp only at h ⊢
    exact Ev.const h
  | ireturn =>
    dsimp only at h ⊢
    exact Ev.const h
  | areturn =>
    dsimp only at h ⊢
    exact Ev.const h
  | dreturn =>
    dsimp only at h ⊢
    exact Ev.const h
  | return_ =>
    dsimp only at h ⊢
    exact Ev.const h
  | _ => cases h
theorem cutN_ev {K Kn N Nn} (hK : Lim K Kn) (hN : Lim N Nn) (y : Nat) : Lim (cutN K N y) (fun n => cutN (Kn n) (Nn n) y) := by
  intro pc ls st G r h
  cases hq : cu y pc with
  | none =>
    have e : ∀ K N, cutN K N y pc ls st G = N pc ls st G := fun K N => by unfold cutN; rw [hq]
    rw [e] at h
    exact (hN _ _ _ _ _ h).mono fun n q => (e _ _).trans q
  | some m =>
    have e : ∀ K N, cutN K N y pc ls st G = K pc (msk m ls) st G := fun K N => by unfold cutN; rw [hq]
    rw [e] at h
    exact (hK _ _ _ _ _ h).mono fun n q => (e _ _).trans q
theorem sT_ev {K Kn F Fn} (hK : Lim K Kn) (hF : LimF F Fn) (y : Nat) : ∀ k, Lim (sT K F y k) (fun n => sT (Kn n) (Fn n) y k)
  | 0 => fun pc ls st G r h => by cases h
  | k + 1 => fun pc ls st G r h => sStep_ev (cutN_ev hK (sT_ev hK hF y k) y) hF h
theorem sx_succ : ∀ (n y pc : Nat) (ls : Lcs) (st : List AV) (G : GG) (r : RV × GG), sx n y pc ls st G = some r → sx (n + 1) y pc ls st G = some r
  | 0, y, pc, ls, st, G, r, h => by cases h
  | n + 1, y, pc, ls, st, G, r, h => by
    have hK : Lim (fun pc ls st G => sx n y pc ls st G) (fun _ pc ls st G => sx (n + 1) y pc ls st G) := fun pc ls st G r h => Ev.const (sx_succ n y pc ls st G r h)
    have hF : LimF (fun z a G => sx n z 0 (ent z a) [] G) (fun _ z a G => sx (n + 1) z 0 (ent z a) [] G) := fun z a G r h => Ev.const (sx_succ n z 0 (ent z a) [] G r h)
    obtain ⟨n0, h0⟩ := sT_ev hK hF y 1000 pc ls st G r h
    exact h0 n0 (Nat.le_refl n0)
theorem sx_le {n m y pc : Nat} {ls : Lcs} {st : List AV} {G : GG} {r : RV × GG} (hnm : n ≤ m) (h : sx n y pc ls st G = some r) : sx m y pc ls st G = some r := by
  induction hnm with
  | refl => exact h
  | step _ ih => exact sx_succ _ _ _ _ _ _ _ ih
noncomputable def run (y pc : Nat) (ls : Lcs) (st : List AV) (G : GG) : RS := @dite RS (∃ r n, sx n y pc ls st G = some r) (Classical.propDecidable _) (fun h => some h.choose) (fun _ => none)
theorem run_of {n y pc : Nat} {ls : Lcs} {st : List AV} {G : GG} {r : RV × GG} (h : sx n y pc ls st G = some r) : run y pc ls st G = some r := by
  have hx : ∃ r n, sx n y pc ls st G = some r := ⟨r, n, h⟩
  unfold run
  rw [dif_pos hx]
  obtain ⟨m, hm⟩ := hx.choose_spec
  have h1 := sx_le (Nat.le_add_right n m) h
  have h2 := sx_le (Nat.le_add_left m n) hm
  rw [h1] at h2
  exact h2.symm
theorem of_run {y pc : Nat} {ls : Lcs} {st : List AV} {G : GG} {r : RV × GG} (h : run y pc ls st G = some r) : ∃ n, sx n y pc ls st G = some r := by
  unfold run at h
  by_cases hx : ∃ r n, sx n y pc ls st G = some r
  · rw [dif_pos hx] at h
    cases h
    exact hx.choose_spec
  · rw [dif_neg hx] at h
    cases h
theorem run_fix (y pc : Nat) (ls : Lcs) (st : List AV) (G : GG) : run y pc ls st G = sT (fun pc ls st G => run y pc ls st G) (fun z a G => run z 0 (ent z a) [] G) y 1000 pc ls st G := by
  refine Option.ext fun r => ⟨fun h => ?_, fun h => ?_⟩
  · obtain ⟨n, hn⟩ := of_run h
    match n, hn with
    | n + 1, hn =>
      have hK : Lim (fun pc ls st G => sx n y pc ls st G) (fun _ pc ls st G => run y pc ls st G) := fun pc ls st G r h => Ev.const (run_of h)
      have hF : LimF (fun z a G => sx n z 0 (ent z a) [] G) (fun _ z a G => run z 0 (ent z a) [] G) := fun z a G r h => Ev.const (run_of h)
      obtain ⟨n0, h0⟩ := sT_ev hK hF y 1000 pc ls st G r hn
      exact h0 n0 (Nat.le_refl n0)
  · have hK : Lim (fun pc ls st G => run y pc ls st G) (fun n pc ls st G => sx n y pc ls st G) := fun pc ls st G r h => by
      obtain ⟨n, hn⟩ := of_run h
      exact ⟨n, fun m hm => sx_le hm hn⟩
    have hF : LimF (fun z a G => run z 0 (ent z a) [] G) (fun n z a G => sx n z 0 (ent z a) [] G) := fun z a G r h => by
      obtain ⟨n, hn⟩ := of_run h
      exact ⟨n, fun m hm => sx_le hm hn⟩
    obtain ⟨n0, h0⟩ := sT_ev hK hF y 1000 pc ls st G r h
    exact run_of (n := n0 + 1) (h0 n0 (Nat.le_refl n0))
