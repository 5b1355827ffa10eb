/-! ===== written by a program: a step of the small machine, on the machine ===== -/
section STEP
variable {cs : CS} {p : Program} {l : Launch} {e : Env} {R : Room} {s : State} {m : MethodId} {args : Array Value} {below : List Frame} {meth : Method} {c : Code} {D : va_G} {ad : Nat → Int → Nat} {cA : Nat → ClassId} {base y : Nat} {c0 : Int} {Q : State → Prop} {r : RV} {Gf : GG}
theorem sn_step (X : Cx cs p R s m args meth c D ad cA base y) (Y : Fin_ cs p l e R s m args below meth c D ad cA base y c0 Q r Gf) {N : Nat → Lcs → List AV → GG → RS} {F : Nat → List AV → GG → RS}
    (hN : ∀ pc ls st G, N pc ls st G = some (r, Gf) → WJ cs p l e R s m args below meth c D ad cA base y c0 Q pc ls st G) (hNp : ∀ pc ls st G, N pc ls st G = some (r, Gf) → Pst cs r Gf ls st G) (hF : PstF cs F) (hC : CtrF l cs D ad cA base F)
    {pc : Nat} {ls : Lcs} {st : List AV} {G : GG} (h : sStep N F y pc ls st G = some (r, Gf)) : WJ cs p l e R s m args below meth c D ad cA base y c0 Q pc ls st G := by
  have hCl : Clo cs := X.2.2.2.2.2.2.2.2.2.2
  intro H locs lsC hS hL hst hr
  unfold sStep at h
  cases hc : cd y pc with
  | none => rw [hc] at h; cases h
  | some q =>
  obtain ⟨ins, len⟩ := q
  obtain ⟨hde, hio⟩ := Y.1 pc ins len hc
  rw [hc] at h
  dsimp only at h
  cases ins with
  | iconst v =>
    dsimp only at h
    simp only [iok, Bool.and_eq_true, decide_eq_true_eq] at hio
    have hl1 : len = 1 := Nat.eq_of_beq_eq_true hio.1
    subst hl1
    exact sn_iconst X ⟨by omega, by omega⟩ hde (hN _ _ _ _ h) H locs lsC hS hL hst hr
  | bipush v =>
    dsimp only at h
    simp only [iok, Bool.and_eq_true, decide_eq_true_eq] at hio
    have hl1 : len = 2 := Nat.eq_of_beq_eq_true hio.1
    subst hl1
    exact sn_bipush X hio.2 hde (hN _ _ _ _ h) H locs lsC hS hL hst hr
  | sipush v =>
    dsimp only at h
    simp only [iok, Bool.and_eq_true, decide_eq_true_eq] at hio
    have hl1 : len = 3 := Nat.eq_of_beq_eq_true hio.1
    subst hl1
    exact sn_sipush X hio.2 hde (hN _ _ _ _ h) H locs lsC hS hL hst hr
  | ldc k =>
    dsimp only at h
    have hl1 : len = 2 := Nat.eq_of_beq_eq_true hio
    subst hl1
    cases hq : kon (own y) k with
    | none => rw [hq] at h; cases h
    | some v =>
      rw [hq] at h
      exact sn_ldc X (kon_ok hq) hde (hN _ _ _ _ h) H locs lsC hS hL hst hr
  | ldc_w k =>
    dsimp only at h
    have hl1 : len = 3 := Nat.eq_of_beq_eq_true hio
    subst hl1
    cases hq : kon (own y) k with
    | none => rw [hq] at h; cases h
    | some v =>
      rw [hq] at h
      exact sn_ldc_w X (kon_ok hq) hde (hN _ _ _ _ h) H locs lsC hS hL hst hr
  | iload j =>
    dsimp only at h
    have hl1 : len = 2 := Nat.eq_of_beq_eq_true hio
    subst hl1
    rcases sLd_c ls j with ⟨x, hl, hk⟩ | hk
    · rw [hk] at h
      exact sn_iload X hl hde (hN _ _ _ _ h) H locs lsC hS hL hst hr
    · rw [hk] at h; cases h
  | iload_n j =>
    dsimp only at h
    have hl1 : len = 1 := Nat.eq_of_beq_eq_true hio
    subst hl1
    rcases sLd_c ls j.val with ⟨x, hl, hk⟩ | hk
    · rw [hk] at h
      exact sn_iload_n X hl hde (hN _ _ _ _ h) H locs lsC hS hL hst hr
    · rw [hk] at h; cases h
  | aload j =>
    dsimp only at h
    have hl1 : len = 2 := Nat.eq_of_beq_eq_true hio
    subst hl1
    rcases sLdR_c ls j with ⟨t, i, hl, hk⟩ | hk
    · rw [hk] at h
      exact sn_aload X hl hde (hN _ _ _ _ h) H locs lsC hS hL hst hr
    · rw [hk] at h; cases h
  | aload_n j =>
    dsimp only at h
    have hl1 : len = 1 := Nat.eq_of_beq_eq_true hio
    subst hl1
    rcases sLdR_c ls j.val with ⟨t, i, hl, hk⟩ | hk
    · rw [hk] at h
      exact sn_aload_n X hl hde (hN _ _ _ _ h) H locs lsC hS hL hst hr
    · rw [hk] at h; cases h
  | dload j =>
    dsimp only at h
    have hl1 : len = 2 := Nat.eq_of_beq_eq_true hio
    subst hl1
    rcases sLdD_c ls j with ⟨x, hl, hk⟩ | hk
    · rw [hk] at h
      exact sn_dload X hl hde (hN _ _ _ _ h) H locs lsC hS hL hst hr
    · rw [hk] at h; cases h
  | istore j =>
    dsimp only at h
    have hl1 : len = 2 := Nat.eq_of_beq_eq_true hio
    subst hl1
    rcases p1_c st with ⟨x, s, hs, hk⟩ | hk
    · rw [hk] at h
      subst hs
      rcases sst_c ls j (.inl x) with ⟨h1, h2, hk⟩ | hk
      · rw [hk] at h
        exact sn_istore X h1 h2 hde (hN _ _ _ _ h) H locs lsC hS hL hst hr
      · rw [hk] at h; cases h
    · rw [hk] at h; cases h
  | istore_n j =>
    dsimp only at h
    have hl1 : len = 1 := Nat.eq_of_beq_eq_true hio
    subst hl1
    rcases p1_c st with ⟨x, s, hs, hk⟩ | hk
    · rw [hk] at h
      subst hs
      rcases sst_c ls j.val (.inl x) with ⟨h1, h2, hk⟩ | hk
      · rw [hk] at h
        exact sn_istore_n X h1 h2 hde (hN _ _ _ _ h) H locs lsC hS hL hst hr
      · rw [hk] at h; cases h
    · rw [hk] at h; cases h
  | astore j =>
    dsimp only at h
    have hl1 : len = 2 := Nat.eq_of_beq_eq_true hio
    subst hl1
    rcases pR_c st with ⟨t, i, s, hs, hk⟩ | hk
    · rw [hk] at h
      subst hs
      rcases sst_c ls j (.inr (.inl (t, i))) with ⟨h1, h2, hk⟩ | hk
      · rw [hk] at h
        exact sn_astore X h1 h2 hde (hN _ _ _ _ h) H locs lsC hS hL hst hr
      · rw [hk] at h; cases h
    · rw [hk] at h; cases h
  | astore_n j =>
    dsimp only at h
    have hl1 : len = 1 := Nat.eq_of_beq_eq_true hio
    subst hl1
    rcases pR_c st with ⟨t, i, s, hs, hk⟩ | hk
    · rw [hk] at h
      subst hs
      rcases sst_c ls j.val (.inr (.inl (t, i))) with ⟨h1, h2, hk⟩ | hk
      · rw [hk] at h
        exact sn_astore_n X h1 h2 hde (hN _ _ _ _ h) H locs lsC hS hL hst hr
      · rw [hk] at h; cases h
    · rw [hk] at h; cases h
  | dstore j =>
    dsimp only at h
    have hl1 : len = 2 := Nat.eq_of_beq_eq_true hio
    subst hl1
    rcases pD_c st with ⟨x, s, hs, hk⟩ | hk
    · rw [hk] at h
      subst hs
      rcases sst2_c ls j (.inr (.inr (.inr x))) with ⟨h1, h2, hk⟩ | hk
      · rw [hk] at h
        exact sn_dstore X h1 h2 hde (hN _ _ _ _ h) H locs lsC hS hL hst hr
      · rw [hk] at h; cases h
    · rw [hk] at h; cases h
  | iinc j v =>
    dsimp only at h
    simp only [iok, Bool.and_eq_true, decide_eq_true_eq] at hio
    have hl1 : len = 3 := Nat.eq_of_beq_eq_true hio.1
    subst hl1
    rcases sLd_c ls j with ⟨x, hl, hk⟩ | hk
    · rw [hk] at h
      rcases sst_c ls j (.inl (wr (x + v))) with ⟨h1, h2, hk⟩ | hk
      · rw [hk] at h
        exact sn_iinc X hl h1 h2 hde (hN _ _ _ _ h) H locs lsC hS hL hst hr
      · rw [hk] at h; cases h
    · rw [hk] at h; cases h
  | iadd =>
    dsimp only at h
    have hl1 : len = 1 := Nat.eq_of_beq_eq_true hio
    subst hl1
    rcases p2_c st with ⟨a, b, s, hs, hk⟩ | hk
    · rw [hk] at h
      subst hs
      exact sn_iadd X hde (hN _ _ _ _ h) H locs lsC hS hL hst hr
    · rw [hk] at h; cases h
  | isub =>
    dsimp only at h
    have hl1 : len = 1 := Nat.eq_of_beq_eq_true hio
    subst hl1
    rcases p2_c st with ⟨a, b, s, hs, hk⟩ | hk
    · rw [hk] at h
      subst hs
      exact sn_isub X hde (hN _ _ _ _ h) H locs lsC hS hL hst hr
    · rw [hk] at h; cases h
  | imul =>
    dsimp only at h
    have hl1 : len = 1 := Nat.eq_of_beq_eq_true hio
    subst hl1
    rcases p2_c st with ⟨a, b, s, hs, hk⟩ | hk
    · rw [hk] at h
      subst hs
      exact sn_imul X hde (hN _ _ _ _ h) H locs lsC hS hL hst hr
    · rw [hk] at h; cases h
  | iand =>
    dsimp only at h
    have hl1 : len = 1 := Nat.eq_of_beq_eq_true hio
    subst hl1
    rcases p2_c st with ⟨a, b, s, hs, hk⟩ | hk
    · rw [hk] at h
      subst hs
      exact sn_iand X hde (hN _ _ _ _ h) H locs lsC hS hL hst hr
    · rw [hk] at h; cases h
  | ior =>
    dsimp only at h
    have hl1 : len = 1 := Nat.eq_of_beq_eq_true hio
    subst hl1
    rcases p2_c st with ⟨a, b, s, hs, hk⟩ | hk
    · rw [hk] at h
      subst hs
      exact sn_ior X hde (hN _ _ _ _ h) H locs lsC hS hL hst hr
    · rw [hk] at h; cases h
  | ishl =>
    dsimp only at h
    have hl1 : len = 1 := Nat.eq_of_beq_eq_true hio
    subst hl1
    rcases p2_c st with ⟨a, b, s, hs, hk⟩ | hk
    · rw [hk] at h
      subst hs
      exact sn_ishl X hde (hN _ _ _ _ h) H locs lsC hS hL hst hr
    · rw [hk] at h; cases h
  | ishr =>
    dsimp only at h
    have hl1 : len = 1 := Nat.eq_of_beq_eq_true hio
    subst hl1
    rcases p2_c st with ⟨a, b, s, hs, hk⟩ | hk
    · rw [hk] at h
      subst hs
      exact sn_ishr X hde (hN _ _ _ _ h) H locs lsC hS hL hst hr
    · rw [hk] at h; cases h
  | iushr =>
    dsimp only at h
    have hl1 : len = 1 := Nat.eq_of_beq_eq_true hio
    subst hl1
    rcases p2_c st with ⟨a, b, s, hs, hk⟩ | hk
    · rw [hk] at h
      subst hs
      exact sn_iushr X hde (hN _ _ _ _ h) H locs lsC hS hL hst hr
    · rw [hk] at h; cases h
  | idiv =>
    dsimp only at h
    have hl1 : len = 1 := Nat.eq_of_beq_eq_true hio
    subst hl1
    rcases p2_c st with ⟨a, b, s, hs, hk⟩ | hk
    · rw [hk] at h
      subst hs
      split at h
      · cases h
      · rename_i h0
        exact sn_idiv X h0 hde (hN _ _ _ _ h) H locs lsC hS hL hst hr
    · rw [hk] at h; cases h
  | irem =>
    dsimp only at h
    have hl1 : len = 1 := Nat.eq_of_beq_eq_true hio
    subst hl1
    rcases p2_c st with ⟨a, b, s, hs, hk⟩ | hk
    · rw [hk] at h
      subst hs
      split at h
      · cases h
      · rename_i h0
        exact sn_irem X h0 hde (hN _ _ _ _ h) H locs lsC hS hL hst hr
    · rw [hk] at h; cases h
  | ineg =>
    dsimp only at h
    have hl1 : len = 1 := Nat.eq_of_beq_eq_true hio
    subst hl1
    rcases p1_c st with ⟨a, s, hs, hk⟩ | hk
    · rw [hk] at h
      subst hs
      exact sn_ineg X hde (hN _ _ _ _ h) H locs lsC hS hL hst hr
    · rw [hk] at h; cases h
  | i2c =>
    dsimp only at h
    have hl1 : len = 1 := Nat.eq_of_beq_eq_true hio
    subst hl1
    rcases p1_c st with ⟨a, s, hs, hk⟩ | hk
    · rw [hk] at h
      subst hs
      exact sn_i2c X hde (hN _ _ _ _ h) H locs lsC hS hL hst hr
    · rw [hk] at h; cases h
  | i2l =>
    dsimp only at h
    have hl1 : len = 1 := Nat.eq_of_beq_eq_true hio
    subst hl1
    rcases p1_c st with ⟨a, s, hs, hk⟩ | hk
    · rw [hk] at h
      subst hs
      exact sn_i2l X hde (hN _ _ _ _ h) H locs lsC hS hL hst hr
    · rw [hk] at h; cases h
  | i2d =>
    dsimp only at h
    have hl1 : len = 1 := Nat.eq_of_beq_eq_true hio
    subst hl1
    rcases p1_c st with ⟨a, s, hs, hk⟩ | hk
    · rw [hk] at h
      subst hs
      exact sn_i2d X hde (hN _ _ _ _ h) H locs lsC hS hL hst hr
    · rw [hk] at h; cases h
  | ddiv =>
    dsimp only at h
    have hl1 : len = 1 := Nat.eq_of_beq_eq_true hio
    subst hl1
    rcases pD2_c st with ⟨a, b, s, hs, hk⟩ | hk
    · rw [hk] at h
      subst hs
      split at h
      · rename_i h0
        exact sn_ddiv X h0 hde (hN _ _ _ _ h) H locs lsC hS hL hst hr
      · cases h
    · rw [hk] at h; cases h
  | dconst d =>
    dsimp only at h
    have hl1 : len = 1 := Nat.eq_of_beq_eq_true hio
    subst hl1
    cases hb : (Nat.beq d.val 0) with
    | false => rw [hb] at h; cases h
    | true =>
      rw [hb] at h
      simp only [cond_true] at h
      exact sn_dconst X hb hde (hN _ _ _ _ h) H locs lsC hS hL hst hr
  | dcmp op =>
    dsimp only at h
    have hl1 : len = 1 := Nat.eq_of_beq_eq_true hio
    subst hl1
    rcases pD2_c st with ⟨a, b, s, hs, hk⟩ | hk
    · rw [hk] at h
      subst hs
      exact sn_dcmp X hde (hN _ _ _ _ h) H locs lsC hS hL hst hr
    · rw [hk] at h; cases h
  | lcmp =>
    dsimp only at h
    have hl1 : len = 1 := Nat.eq_of_beq_eq_true hio
    subst hl1
    rcases pJ2_c st with ⟨a, b, s, hs, hk⟩ | hk
    · rw [hk] at h
      subst hs
      exact sn_lcmp X hde (hN _ _ _ _ h) H locs lsC hS hL hst hr
    · rw [hk] at h; cases h
  | dup =>
    dsimp only at h
    have hl1 : len = 1 := Nat.eq_of_beq_eq_true hio
    subst hl1
    match st, h, hst with
    | .inl x :: s, h, hst => exact sn_dupI X hde (hN _ _ _ _ h) H locs lsC hS hL hst hr
    | .inr (.inl q) :: s, h, hst => exact sn_dupR X hde (hN _ _ _ _ h) H locs lsC hS hL hst hr
    | [], h, hst => cases h
    | .inr (.inr q) :: s, h, hst => cases h
  | pop =>
    dsimp only at h
    have hl1 : len = 1 := Nat.eq_of_beq_eq_true hio
    subst hl1
    match st, h, hst with
    | .inl x :: s, h, hst => exact sn_popI X hde (hN _ _ _ _ h) H locs lsC hS hL hst hr
    | .inr (.inl q) :: s, h, hst => exact sn_popR X hde (hN _ _ _ _ h) H locs lsC hS hL hst hr
    | [], h, hst => cases h
    | .inr (.inr q) :: s, h, hst => cases h
  | dup2 =>
    dsimp only at h
    have hl1 : len = 1 := Nat.eq_of_beq_eq_true hio
    subst hl1
    rcases pRI_c st with ⟨t, i, j, s, hs, hk⟩ | hk
    · rw [hk] at h
      subst hs
      exact sn_dup2 X hde (hN _ _ _ _ h) H locs lsC hS hL hst hr
    · rw [hk] at h; cases h
  | ifCond c off =>
    dsimp only at h
    have hl1 : len = 3 := Nat.eq_of_beq_eq_true hio
    subst hl1
    rcases p1_c st with ⟨x, s, hs, hk⟩ | hk
    · rw [hk] at h
      subst hs
      rcases jmp_c pc off with ⟨t, ht, hk⟩ | hk
      · rw [hk] at h
        cases c with
        | eq =>
          change (if x = 0 then N t ls s G else N (pc + 3) ls s G) = some (r, Gf) at h
          exact sn_if_eq X ht hde (fun q => hN _ _ _ _ (by rw [if_pos q] at h; exact h)) (fun q => hN _ _ _ _ (by rw [if_neg q] at h; exact h)) H locs lsC hS hL hst hr
        | ne =>
          change (if x = 0 then N (pc + 3) ls s G else N t ls s G) = some (r, Gf) at h
          exact sn_if_ne X ht hde (fun q => hN _ _ _ _ (by rw [if_neg q] at h; exact h)) (fun q => hN _ _ _ _ (by rw [if_pos q] at h; exact h)) H locs lsC hS hL hst hr
        | lt =>
          change (if x < 0 then N t ls s G else N (pc + 3) ls s G) = some (r, Gf) at h
          exact sn_if_lt X ht hde (fun q => hN _ _ _ _ (by rw [if_pos q] at h; exact h)) (fun q => hN _ _ _ _ (by rw [if_neg q] at h; exact h)) H locs lsC hS hL hst hr
        | ge =>
          change (if x < 0 then N (pc + 3) ls s G else N t ls s G) = some (r, Gf) at h
          exact sn_if_ge X ht hde (fun q => hN _ _ _ _ (by rw [if_neg q] at h; exact h)) (fun q => hN _ _ _ _ (by rw [if_pos q] at h; exact h)) H locs lsC hS hL hst hr
        | gt =>
          change (if 0 < x then N t ls s G else N (pc + 3) ls s G) = some (r, Gf) at h
          exact sn_if_gt X ht hde (fun q => hN _ _ _ _ (by rw [if_pos q] at h; exact h)) (fun q => hN _ _ _ _ (by rw [if_neg q] at h; exact h)) H locs lsC hS hL hst hr
        | le =>
          change (if 0 < x then N (pc + 3) ls s G else N t ls s G) = some (r, Gf) at h
          exact sn_if_le X ht hde (fun q => hN _ _ _ _ (by rw [if_neg q] at h; exact h)) (fun q => hN _ _ _ _ (by rw [if_pos q] at h; exact h)) H locs lsC hS hL hst hr
      · rw [hk] at h; cases h
    · rw [hk] at h; cases h
  | if_icmp c off =>
    dsimp only at h
    have hl1 : len = 3 := Nat.eq_of_beq_eq_true hio
    subst hl1
    rcases p2_c st with ⟨x, x2, s, hs, hk⟩ | hk
    · rw [hk] at h
      subst hs
      rcases jmp_c pc off with ⟨t, ht, hk⟩ | hk
      · rw [hk] at h
        cases c with
        | eq =>
          change (if x = x2 then N t ls s G else N (pc + 3) ls s G) = some (r, Gf) at h
          exact sn_icmp_eq X ht hde (fun q => hN _ _ _ _ (by rw [if_pos q] at h; exact h)) (fun q => hN _ _ _ _ (by rw [if_neg q] at h; exact h)) H locs lsC hS hL hst hr
        | ne =>
          change (if x = x2 then N (pc + 3) ls s G else N t ls s G) = some (r, Gf) at h
          exact sn_icmp_ne X ht hde (fun q => hN _ _ _ _ (by rw [if_neg q] at h; exact h)) (fun q => hN _ _ _ _ (by rw [if_pos q] at h; exact h)) H locs lsC hS hL hst hr
        | lt =>
          change (if x < x2 then N t ls s G else N (pc + 3) ls s G) = some (r, Gf) at h
          exact sn_icmp_lt X ht hde (fun q => hN _ _ _ _ (by rw [if_pos q] at h; exact h)) (fun q => hN _ _ _ _ (by rw [if_neg q] at h; exact h)) H locs lsC hS hL hst hr
        | ge =>
          change (if x < x2 then N (pc + 3) ls s G else N t ls s G) = some (r, Gf) at h
          exact sn_icmp_ge X ht hde (fun q => hN _ _ _ _ (by rw [if_neg q] at h; exact h)) (fun q => hN _ _ _ _ (by rw [if_pos q] at h; exact h)) H locs lsC hS hL hst hr
        | gt =>
          change (if x2 < x then N t ls s G else N (pc + 3) ls s G) = some (r, Gf) at h
          exact sn_icmp_gt X ht hde (fun q => hN _ _ _ _ (by rw [if_pos q] at h; exact h)) (fun q => hN _ _ _ _ (by rw [if_neg q] at h; exact h)) H locs lsC hS hL hst hr
        | le =>
          change (if x2 < x then N (pc + 3) ls s G else N t ls s G) = some (r, Gf) at h
          exact sn_icmp_le X ht hde (fun q => hN _ _ _ _ (by rw [if_neg q] at h; exact h)) (fun q => hN _ _ _ _ (by rw [if_pos q] at h; exact h)) H locs lsC hS hL hst hr
      · rw [hk] at h; cases h
    · rw [hk] at h; cases h
  | goto off =>
    dsimp only at h
    have hl1 : len = 3 := Nat.eq_of_beq_eq_true hio
    subst hl1
    rcases jmp_c pc off with ⟨t, ht, hk⟩ | hk
    · rw [hk] at h
      exact sn_goto X ht hde (hN _ _ _ _ h) H locs lsC hS hL hst hr
    · rw [hk] at h; cases h
  | tableswitch d lo hi offs =>
    dsimp only at h
    have hhi : hi = lo + offs.size - 1 := of_decide_eq_true hio
    rcases p1_c st with ⟨x, s, hs, hk⟩ | hk
    · rw [hk] at h
      subst hs
      rcases tsel_c offs.toList lo x with ⟨o, h1, h2, h3, h4⟩ | ⟨h1, h4⟩
      · rw [h4] at h
        rcases jmp_c pc o with ⟨t, ht, hk2⟩ | hk2
        · rw [hk2] at h
          exact sn_tableIn X hde hhi h1 h2 h3 ht (hN _ _ _ _ h) H locs lsC hS hL hst hr
        · rw [hk2] at h; cases h
      · rw [h4] at h
        rcases jmp_c pc d with ⟨t, ht, hk2⟩ | hk2
        · rw [hk2] at h
          exact sn_tableOut X hde hhi h1 ht (hN _ _ _ _ h) H locs lsC hS hL hst hr
        · rw [hk2] at h; cases h
    · rw [hk] at h; cases h
  | getfield k =>
    dsimp only at h
    have hl1 : len = 3 := Nat.eq_of_beq_eq_true hio
    subst hl1
    rcases pR_c st with ⟨t, i, s, hs, hk⟩ | hk
    · rw [hk] at h
      subst hs
      cases hq : fld (own y) k with
      | none => rw [hq] at h; cases h
      | some q =>
        obtain ⟨t', sl, f⟩ := q
        rw [hq] at h
        dsimp only at h
        obtain ⟨sn, rfl, hFF⟩ := fld_ok hq
        cases hb : Nat.beq t t' with
        | false => rw [hb] at h; cases h
        | true =>
          rw [hb] at h
          have e : t = t' := Nat.eq_of_beq_eq_true hb
          subst e
          simp only [cond_true] at h
          cases hb3 : Nat.beq f 3 with
          | false =>
            rw [hb3] at h
            exact sn_getI X hFF hb3 hde (hN _ _ _ _ h) H locs lsC hS hL hst hr
          | true =>
            rw [hb3] at h
            exact sn_getR X hFF hb3 hde (hN _ _ _ _ h) H locs lsC hS hL hst hr
    · rw [hk] at h; cases h
  | putfield k =>
    dsimp only at h
    have hl1 : len = 3 := Nat.eq_of_beq_eq_true hio
    subst hl1
    rcases pRV_c st with ⟨t, i, x, s, hs, hk⟩ | hk
    · rw [hk] at h
      subst hs
      cases hq : fld (own y) k with
      | none => rw [hq] at h; cases h
      | some q =>
        obtain ⟨t', sl, f⟩ := q
        rw [hq] at h
        dsimp only at h
        obtain ⟨sn, rfl, hFF⟩ := fld_ok hq
        cases hb : Nat.beq t t' with
        | false => rw [hb] at h; cases h
        | true =>
          rw [hb] at h
          have e : t = t' := Nat.eq_of_beq_eq_true hb
          subst e
          simp only [cond_true] at h
          match f, h, hFF with
          | 0, h, hFF => exact sn_putI X hFF trivial hde (hN _ _ _ _ h) H locs lsC hS hL hst hr
          | 1, h, hFF =>
            change (if 0 ≤ x ∧ x ≤ 1 then N (pc + 3) ls s (up G t i (sn : Int) x) else none) = some (r, Gf) at h
            split at h
            · rename_i hq2
              exact sn_putZ X hFF hq2 hde (hN _ _ _ _ h) H locs lsC hS hL hst hr
            · cases h
          | 2, h, hFF =>
            change (if 0 ≤ x ∧ x < 65536 then N (pc + 3) ls s (up G t i (sn : Int) x) else none) = some (r, Gf) at h
            split at h
            · rename_i hq2
              exact sn_putC X hFF hq2 hde (hN _ _ _ _ h) H locs lsC hS hL hst hr
            · cases h
          | n + 3, h, hFF => cases h
    · rw [hk] at h; cases h
  | getstatic k =>
    dsimp only at h
    have hl1 : len = 3 := Nat.eq_of_beq_eq_true hio
    subst hl1
    cases hq : gst (own y) k with
    | none => rw [hq] at h; cases h
    | some t =>
      rw [hq] at h
      have hm := gst_ok hq
      simp only [List.mem_cons, Prod.mk.injEq, List.not_mem_nil, or_false] at hm
      rcases hm with ⟨h1, h2, h3⟩ | ⟨h1, h2, h3⟩
      · subst h2; subst h3
        exact sn_getSte X h1 hde (hN _ _ _ _ h) H locs lsC hS hL hst hr
      · subst h2; subst h3
        exact sn_getLim X h1 hde (hN _ _ _ _ h) H locs lsC hS hL hst hr
  | iaload =>
    dsimp only at h
    have hl1 : len = 1 := Nat.eq_of_beq_eq_true hio
    subst hl1
    rcases pRI_c st with ⟨t, i, j, s, hs, hk⟩ | hk
    · rw [hk] at h
      subst hs
      cases hb : (Nat.beq (akd t) 1) with
      | false => rw [hb] at h; cases h
      | true =>
        rw [hb] at h
        simp only [cond_true] at h
        have hk1 : akd t = 1 := Nat.eq_of_beq_eq_true hb
        split at h
        · rename_i hq
          by_cases ht : t < 44
          · exact sn_iald X hk1 ht hq hde (hN _ _ _ _ h) H locs lsC hS hL hst hr
          · exact sn_ioRo X ht hq hde (hN _ _ _ _ h) H locs lsC hS hL hst hr
        · cases h
    · rw [hk] at h; cases h
  | caload =>
    dsimp only at h
    have hl1 : len = 1 := Nat.eq_of_beq_eq_true hio
    subst hl1
    rcases pRI_c st with ⟨t, i, j, s, hs, hk⟩ | hk
    · rw [hk] at h
      subst hs
      cases hb : (Nat.beq (akd t) 2) with
      | false => rw [hb] at h; cases h
      | true =>
        rw [hb] at h
        simp only [cond_true] at h
        have hk1 : akd t = 2 := Nat.eq_of_beq_eq_true hb
        split at h
        · rename_i hq
          exact sn_cald X hk1 (akd_lt hCl.1 (i := i) (by omega) hst.tail.head) hq hde (hN _ _ _ _ h) H locs lsC hS hL hst hr
        · cases h
    · rw [hk] at h; cases h
  | laload =>
    dsimp only at h
    have hl1 : len = 1 := Nat.eq_of_beq_eq_true hio
    subst hl1
    rcases pRI_c st with ⟨t, i, j, s, hs, hk⟩ | hk
    · rw [hk] at h
      subst hs
      cases hb : (Nat.beq (akd t) 3) with
      | false => rw [hb] at h; cases h
      | true =>
        rw [hb] at h
        simp only [cond_true] at h
        have hk1 : akd t = 3 := Nat.eq_of_beq_eq_true hb
        split at h
        · rename_i hq
          exact sn_lald X hk1 (akd_lt hCl.1 (i := i) (by omega) hst.tail.head) hq hde (hN _ _ _ _ h) H locs lsC hS hL hst hr
        · cases h
    · rw [hk] at h; cases h
  | daload =>
    dsimp only at h
    have hl1 : len = 1 := Nat.eq_of_beq_eq_true hio
    subst hl1
    rcases pRI_c st with ⟨t, i, j, s, hs, hk⟩ | hk
    · rw [hk] at h
      subst hs
      cases hb : (Nat.beq (akd t) 4) with
      | false => rw [hb] at h; cases h
      | true =>
        rw [hb] at h
        simp only [cond_true] at h
        have hk1 : akd t = 4 := Nat.eq_of_beq_eq_true hb
        split at h
        · rename_i hq
          exact sn_dald X hk1 (akd_lt hCl.1 (i := i) (by omega) hst.tail.head) hq hde (hN _ _ _ _ h) H locs lsC hS hL hst hr
        · cases h
    · rw [hk] at h; cases h
  | aaload =>
    dsimp only at h
    have hl1 : len = 1 := Nat.eq_of_beq_eq_true hio
    subst hl1
    rcases pRI_c st with ⟨t, i, j, s, hs, hk⟩ | hk
    · rw [hk] at h
      subst hs
      cases hb : (Nat.beq (akd t) 5) with
      | false => rw [hb] at h; cases h
      | true =>
        rw [hb] at h
        simp only [cond_true] at h
        have hk1 : akd t = 5 := Nat.eq_of_beq_eq_true hb
        split at h
        · rename_i hq
          exact sn_aald X hk1 (akd_lt hCl.1 (i := i) (by omega) hst.tail.head) hq hde (hN _ _ _ _ h) H locs lsC hS hL hst hr
        · cases h
    · rw [hk] at h; cases h
  | iastore =>
    dsimp only at h
    have hl1 : len = 1 := Nat.eq_of_beq_eq_true hio
    subst hl1
    rcases pRIV_c st with ⟨t, i, j, x, s, hs, hk⟩ | hk
    · rw [hk] at h
      subst hs
      cases hb : (Nat.beq (akd t) 1 && awr t) with
      | false => rw [hb] at h; cases h
      | true =>
        rw [hb] at h
        simp only [cond_true] at h
        simp only [Bool.and_eq_true] at hb
        have hk1 : akd t = 1 := Nat.eq_of_beq_eq_true hb.1
        split at h
        · rename_i hq
          exact sn_iast X hk1 (awr_lt hb.2) hq hde (hN _ _ _ _ h) H locs lsC hS hL hst hr
        · cases h
    · rw [hk] at h; cases h
  | castore =>
    dsimp only at h
    have hl1 : len = 1 := Nat.eq_of_beq_eq_true hio
    subst hl1
    rcases pRIV_c st with ⟨t, i, j, x, s, hs, hk⟩ | hk
    · rw [hk] at h
      subst hs
      cases hb : (Nat.beq (akd t) 2) with
      | false => rw [hb] at h; cases h
      | true =>
        rw [hb] at h
        simp only [cond_true] at h
        have hk1 : akd t = 2 := Nat.eq_of_beq_eq_true hb
        split at h
        · rename_i hq
          split at h
          · rename_i hq2
            exact sn_cast X hk1 (akd_lt hCl.1 (i := i) (by omega) hst.tail.tail.head) hq hq2 hde (hN _ _ _ _ h) H locs lsC hS hL hst hr
          · cases h
        · cases h
    · rw [hk] at h; cases h
  | lastore =>
    dsimp only at h
    have hl1 : len = 1 := Nat.eq_of_beq_eq_true hio
    subst hl1
    rcases pRIJ_c st with ⟨t, i, j, x, s, hs, hk⟩ | hk
    · rw [hk] at h
      subst hs
      cases hb : (Nat.beq (akd t) 3) with
      | false => rw [hb] at h; cases h
      | true =>
        rw [hb] at h
        simp only [cond_true] at h
        have hk1 : akd t = 3 := Nat.eq_of_beq_eq_true hb
        split at h
        · rename_i hq
          exact sn_last X hk1 (akd_lt hCl.1 (i := i) (by omega) hst.tail.tail.head) hq hde (hN _ _ _ _ h) H locs lsC hS hL hst hr
        · cases h
    · rw [hk] at h; cases h
  | dastore =>
    dsimp only at h
    have hl1 : len = 1 := Nat.eq_of_beq_eq_true hio
    subst hl1
    rcases pRID_c st with ⟨t, i, j, x, s, hs, hk⟩ | hk
    · rw [hk] at h
      subst hs
      cases hb : (Nat.beq (akd t) 4) with
      | false => rw [hb] at h; cases h
      | true =>
        rw [hb] at h
        simp only [cond_true] at h
        have hk1 : akd t = 4 := Nat.eq_of_beq_eq_true hb
        split at h
        · rename_i hq
          exact sn_dast X hk1 (akd_lt hCl.1 (i := i) (by omega) hst.tail.tail.head) hq hde (hN _ _ _ _ h) H locs lsC hS hL hst hr
        · cases h
    · rw [hk] at h; cases h
  | arraylength =>
    dsimp only at h
    have hl1 : len = 1 := Nat.eq_of_beq_eq_true hio
    subst hl1
    rcases pR_c st with ⟨t, i, s, hs, hk⟩ | hk
    · rw [hk] at h
      subst hs
      cases hb : (Nat.ble 1 (akd t)) with
      | false => rw [hb] at h; cases h
      | true =>
        rw [hb] at h
        simp only [cond_true] at h
        exact sn_alen X (Nat.ble_eq.mp hb) hde (hN _ _ _ _ h) H locs lsC hS hL hst hr
    · rw [hk] at h; cases h
  | invokevirtual k =>
    dsimp only at h
    have hl1 : len = 3 := Nat.eq_of_beq_eq_true hio
    subst hl1
    cases hq : mth (own y) k with
    | none => rw [hq] at h; cases h
    | some q =>
      rw [hq] at h
      match q, h, hq with
      | (z, 1), h, hq => exact sn_callV X Y hN hNp hF hC (mth_ok hq) hde h H locs lsC hS hL hst hr
      | (z, 0), h, hq => cases h
      | (z, n + 2), h, hq => cases h
  | invokestatic k =>
    dsimp only at h
    have hl1 : len = 3 := Nat.eq_of_beq_eq_true hio
    subst hl1
    cases hq : mth (own y) k with
    | none => rw [hq] at h; cases h
    | some q =>
      rw [hq] at h
      have hmm := mth_ok hq
      match q, h, hmm with
      | (z, 0), h, hmm => exact sn_callS X Y hN hNp hF hC hmm hde h H locs lsC hS hL hst hr
      | (z, 1), h, hmm => cases h
      | (z, 2), hin, hmm =>
        clear h
        have h := hin
        clear hin
        try dsimp only at h
        rcases pCpy_c st with ⟨ts, is, sp, td, id, dp, n, s, hs, hk⟩ | hk
        · rw [hk] at h
          subst hs
          cases hb : (Nat.beq (akd ts) 1 && (Nat.beq (akd td) 1 && (awr ts && (awr td && Nat.ble (wsum s) 8)))) with
          | false => rw [hb] at h; cases h
          | true =>
            rw [hb] at h
            simp only [cond_true] at h
            simp only [Bool.and_eq_true] at hb
            split at h
            · rename_i hq2
              exact sn_copy X hmm (Nat.eq_of_beq_eq_true hb.1) (Nat.eq_of_beq_eq_true hb.2.1) (awr_lt hb.2.2.1) (awr_lt hb.2.2.2.1) (Nat.ble_eq.mp hb.2.2.2.2) hq2 hde (hN _ _ _ _ h) H locs lsC hS hL hst hr
            · cases h
        · rw [hk] at h; cases h
      | (z, 3), hin, hmm =>
        clear h
        have h := hin
        clear hin
        change p2 st (fun x y st => bif Nat.ble (wsum st) 8 then N (pc + 3) ls (.inl (mMin x y) :: st) G else none) = some (r, Gf) at h
        rcases p2_c st with ⟨x, x2, s, hs, hk⟩ | hk
        · rw [hk] at h
          subst hs
          cases hb : (Nat.ble (wsum s) 8) with
          | false => rw [hb] at h; cases h
          | true =>
            rw [hb] at h
            simp only [cond_true] at h
            exact sn_min X hmm (Nat.ble_eq.mp hb) hde (hN _ _ _ _ h) H locs lsC hS hL hst hr
        · rw [hk] at h; cases h
      | (z, 4), hin, hmm =>
        clear h
        have h := hin
        clear hin
        change p2 st (fun x y st => bif Nat.ble (wsum st) 8 then N (pc + 3) ls (.inl (mMax x y) :: st) G else none) = some (r, Gf) at h
        rcases p2_c st with ⟨x, x2, s, hs, hk⟩ | hk
        · rw [hk] at h
          subst hs
          cases hb : (Nat.ble (wsum s) 8) with
          | false => rw [hb] at h; cases h
          | true =>
            rw [hb] at h
            simp only [cond_true] at h
            exact sn_max X hmm (Nat.ble_eq.mp hb) hde (hN _ _ _ _ h) H locs lsC hS hL hst hr
        · rw [hk] at h; cases h
      | (z, 5), hin, hmm =>
        clear h
        have h := hin
        clear hin
        change p1 st (fun x st => bif Nat.ble (wsum st) 8 then N (pc + 3) ls (.inl (mAbs x) :: st) G else none) = some (r, Gf) at h
        rcases p1_c st with ⟨x, s, hs, hk⟩ | hk
        · rw [hk] at h
          subst hs
          cases hb : (Nat.ble (wsum s) 8) with
          | false => rw [hb] at h; cases h
          | true =>
            rw [hb] at h
            simp only [cond_true] at h
            exact sn_abs X hmm (Nat.ble_eq.mp hb) hde (hN _ _ _ _ h) H locs lsC hS hL hst hr
        · rw [hk] at h; cases h
      | (z, n + 6), h, hmm => cases h
  | new k =>
    dsimp only at h
    match st, h, hst with
    | q :: s, h, hst => cases h
    | [], h, hst =>
      dsimp only at h
      cases hq : thr y pc with
      | none => rw [hq] at h; cases h
      | some x =>
        rw [hq] at h
        have h1 := Option.some.inj h
        cases h1
        exact Y.2.2.2.1 pc x ls G hq rfl rfl H locs lsC hS hL hst hr
  | ireturn =>
    dsimp only at h
    have hl1 : len = 1 := Nat.eq_of_beq_eq_true hio
    subst hl1
    match st, h, hst with
    | [.inl x], h, hst =>
      dsimp only at h
      cases hz : zrt y with
      | false =>
        rw [hz] at h
        have h1 := Option.some.inj h
        cases h1
        exact Y.2.2.1 pc ls (some (.inl x)) _ rfl rfl ⟨hc, fun q => absurd (hz.symm.trans q) (by decide)⟩ H locs lsC hS hL hst hr
      | true =>
        rw [hz] at h
        simp only [cond_true] at h
        split at h
        · rename_i hq2
          have h1 := Option.some.inj h
          cases h1
          exact Y.2.2.1 pc ls (some (.inl x)) _ rfl rfl ⟨hc, fun _ => hq2⟩ H locs lsC hS hL hst hr
        · cases h
    | [], h, hst => cases h
    | .inl x :: q :: s, h, hst => cases h
    | .inr q :: s, h, hst => cases h
  | areturn =>
    dsimp only at h
    have hl1 : len = 1 := Nat.eq_of_beq_eq_true hio
    subst hl1
    match st, h, hst with
    | [.inr (.inl q)], h, hst =>
      have h1 := Option.some.inj h
      cases h1
      exact Y.2.2.1 pc ls (some (.inr (.inl q))) _ rfl rfl hc H locs lsC hS hL hst hr
    | [], h, hst => cases h
    | .inr (.inl q) :: q2 :: s, h, hst => cases h
    | .inr (.inr q) :: s, h, hst => cases h
    | .inl q :: s, h, hst => cases h
  | dreturn =>
    dsimp only at h
    have hl1 : len = 1 := Nat.eq_of_beq_eq_true hio
    subst hl1
    match st, h, hst with
    | [.inr (.inr (.inr q))], h, hst =>
      have h1 := Option.some.inj h
      cases h1
      exact Y.2.2.1 pc ls (some (.inr (.inr (.inr q)))) _ rfl rfl hc H locs lsC hS hL hst hr
    | [], h, hst => cases h
    | .inr (.inr (.inr q)) :: q2 :: s, h, hst => cases h
    | .inr (.inr (.inl q)) :: s, h, hst => cases h
    | .inr (.inl q) :: s, h, hst => cases h
    | .inl q :: s, h, hst => cases h
  | return_ =>
    dsimp only at h
    have hl1 : len = 1 := Nat.eq_of_beq_eq_true hio
    subst hl1
    match st, h, hst with
    | [], h, hst =>
      have h1 := Option.some.inj h
      cases h1
      exact Y.2.2.1 pc ls none _ rfl rfl hc H locs lsC hS hL hst hr
    | q :: s, h, hst => cases h
  | _ => cases h
end STEP
